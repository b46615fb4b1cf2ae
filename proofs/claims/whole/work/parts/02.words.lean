/-! the words of all methods: one list, tb; a word of it by its place in lw_tbl -/
def tb : List Cond := lw_tbl.filter goodWord
theorem tb_at (i : Nat) {w : Cond} (h : lw_tbl[i]? = some w) (hg : goodWord w = true) : w ∈ tb := List.mem_filter.mpr ⟨List.mem_of_getElem? h, hg⟩
theorem tb_good {w : Cond} (h : w ∈ tb) : goodWord w = true := (List.mem_filter.mp h).2
theorem tb_in {w : Cond} (h : w ∈ tb) : w ∈ lw_tbl := (List.mem_filter.mp h).1
theorem tb_GoodIn {y y' : MethodName} {b b' : ByteArray} {n n' : Nat} {r r' : Option FieldType} (h : Cond.code y' b' n' r' ∈ tb) : GoodIn (Cond.code y b n r :: tb) (Cond.code y' b' n' r' :: tb) := by
  intro w hw
  rcases List.mem_cons.mp hw with e | hw
  · subst e
    exact ⟨List.mem_cons_of_mem _ h, good_of_word (tb_good h)⟩
  · exact ⟨List.mem_cons_of_mem _ hw, good_of_word (tb_good hw)⟩
theorem tb_GoodIn' {ws : List Cond} (h : ∀ w ∈ ws, w ∈ tb) : GoodIn tb ws := fun w hw => ⟨h w hw, good_of_word (tb_good (h w hw))⟩
/-- the classes by their numbers -/
def Cn (ci : Nat) : String := match ci with | 0 => RX0 | 1 => RX1 | 2 => RX2 | 3 => RX3 | 4 => RX4 | 5 => RX5 | 6 => RX6 | 7 => RX7 | 8 => RX8 | _ => RX9
def Tn (ci : Nat) : u_T := match ci with | 0 => TX0 | 1 => TX1 | 2 => TX2 | 3 => TX3 | 4 => TX4 | 5 => TX5 | 6 => TX6 | 7 => TX7 | 8 => TX8 | _ => TX9
def Nn (ci : Nat) : Nat := match ci with | 0 => 8 | 1 => 5 | 2 => 6 | 3 => 13 | 4 => 4 | 5 => 16 | 6 => 7 | 7 => 12 | 8 => 4 | _ => 40
def Yn (ci : Nat) : Nat → FieldType := match ci with | 0 => tyX0 | 1 => tyX1 | 2 => tyX2 | 3 => tyX3 | 4 => tyX4 | 5 => tyX5 | 6 => tyX6 | 7 => tyX7 | 8 => tyX8 | _ => tyX9
theorem ten {P : Nat → Prop} (h0 : P 0) (h1 : P 1) (h2 : P 2) (h3 : P 3) (h4 : P 4) (h5 : P 5) (h6 : P 6) (h7 : P 7) (h8 : P 8) (h9 : P 9) : ∀ ci, ci < 10 → P ci := by
  intro ci h
  match ci, h with
  | 0, _ => exact h0
  | 1, _ => exact h1
  | 2, _ => exact h2
  | 3, _ => exact h3
  | 4, _ => exact h4
  | 5, _ => exact h5
  | 6, _ => exact h6
  | 7, _ => exact h7
  | 8, _ => exact h8
  | 9, _ => exact h9
  | k + 10, h => omega
theorem cl_at : ∀ ci, ci < 10 → vwCl[ci]? = some (Cn ci, Tn ci, Nn ci) := ten rfl rfl rfl rfl rfl rfl rfl rfl rfl rfl
theorem cl_ty : ∀ ci, ci < 10 → ∀ k, k < Nn ci → parseFieldDescriptor (Tn ci k).2.2.1 = some (Yn ci k) := ten tyX0_ok tyX1_ok tyX2_ok tyX3_ok tyX4_ok tyX5_ok tyX6_ok tyX7_ok tyX8_ok tyX9_ok
theorem cl_nm : ∀ ci, ci < 10 → ∀ a, a < Nn ci → ∀ b, b < Nn ci → a ≠ b → (Tn ci a).2.1 ≠ (Tn ci b).2.1 := ten nmX0 nmX1 nmX2 nmX3 nmX4 nmX5 nmX6 nmX7 nmX8 nmX9
theorem cl_own : ∀ ci, ci < 10 → ∀ k, k < Nn ci → (Tn ci k).1 = Cn ci := ten (by decide +kernel) (by decide +kernel) (by decide +kernel) (by decide +kernel) (by decide +kernel) (by decide +kernel) (by decide +kernel) (by decide +kernel) (by decide +kernel) (by decide +kernel)
set_option maxRecDepth 100000 in
theorem cl_in : ∀ ci, ci < 10 → ∀ w ∈ u_ws (Cn ci) (Tn ci) (Nn ci), w ∈ tb := ten (by decide +kernel) (by decide +kernel) (by decide +kernel) (by decide +kernel) (by decide +kernel) (by decide +kernel) (by decide +kernel) (by decide +kernel) (by decide +kernel) (by decide +kernel)
set_option maxRecDepth 100000 in
theorem cl_inst : ∀ ci, ci < 10 → Cond.instantiable (Cn ci) (Nn ci) ∈ tb := ten (by decide +kernel) (by decide +kernel) (by decide +kernel) (by decide +kernel) (by decide +kernel) (by decide +kernel) (by decide +kernel) (by decide +kernel) (by decide +kernel) (by decide +kernel)
set_option maxRecDepth 100000 in
theorem cl_init : ∀ ci, ci < 10 → Cond.initialized (Cn ci) ∈ tb := ten (by decide +kernel) (by decide +kernel) (by decide +kernel) (by decide +kernel) (by decide +kernel) (by decide +kernel) (by decide +kernel) (by decide +kernel) (by decide +kernel) (by decide +kernel)
