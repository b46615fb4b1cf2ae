/-! THE CLAIM OUT OF ONE WALK OF THE LAW'S BODY. Your part is whole_start (and what it stands on); all else here is the same for every law, but numbers. -/
def R_law : String := "GroveWorksLaw"
def lw_P (b : Addr) (xs : List Int32) (args : Array Value) (s : State) : Prop := args = #[.ref b] ∧ s.IntsAt b xs ∧ xs.length ≤ 3073 ∧ (Jvm.Cond.and given_1 narrow_1).before args s = true
def lw_Q (_ : Array Value) (s : State) (o : Outcome) (t : State) : Prop := o = .returned (some (.int 1)) ∧ Framed s o t [] 600000 7302250
def lw_Z (below : List Frame) (a : Array Value) (s : State) : State → Prop := fun t => ∃ o, t.status = .running ∧ Ended t below o ∧ lw_Q a s o t
/-- the law's own end, with 1 on the stack, nothing written that was there before, its room as the claim has it -/
theorem lw_ret {p : Program} {l : Launch} {e : Env} {s : State} {m : MethodId} {below : List Frame} {meth : Method} {c : Code} {b : Nat} (hx : p.tables.exec = Jvm.exec) (hb : c.code = code) (hr : meth.sig.returnType = ret) (hlocks : meth.locks = false) {pc : Nat} {H : Heap} {ls : Array Slot} (hdg : decode code pc = .ok (.ireturn, 1)) : W p l e room_1 s m #[Value.ref b] below meth c H [] 600000 7302250 (lw_Z below #[Value.ref b] s) (F0 m pc ls [.int 1]) := by
  intro T hT X
  obtain ⟨fs, hret, hrun, hended, hW, hframe⟩ := X.leave (v := some (.int 1)) (hlocks := hlocks) (fun h => by rw [hr] at h; cases h)
  have hmeth' : T.vm.method? m = some meth := X.method'
  refine ⟨T.setFrames fs, ?_, .returned (some (.int 1)), hrun, hended, rfl, ⟨_, rfl⟩, hW, hframe⟩
  jvm_step X.here [X.here.top, hx, hb, hdg, hmeth', hr, ret, narrow_b1]
  (try refine ⟨rfl, ?_⟩); (try refine ⟨rfl, ?_⟩)
  first | (intro acts; rw [hret _ acts rfl rfl rfl]) | rw [hret _ _ rfl rfl rfl]
  exact Steps.refl _
/-- what holds at the law's entry: the machine, the code, the tables' words (any of lw_tbl by 'hts w (by decide +kernel)'), the script of L ints xs at the cell b, what the Statement gives of the start (any of its parts by flat_of_before) -/
def lw_At (p : Program) (s : State) (m : MethodId) (meth : Method) (c : Code) (b L : Nat) (xs : Nat → Int32) : Prop :=
  p.tables.exec = Jvm.exec ∧ c.code = code ∧ meth.sig.returnType = ret ∧ c.maxLocals = 4 ∧ s.vm.findClass R_law = some m.cls ∧ (∀ w ∈ lw_tbl, w.before #[Value.ref b] s = true) ∧ va_X b L xs s s.heap ∧ b < s.heap.size ∧ meth.locks = false ∧ (Jvm.Cond.and given_1 narrow_1).before #[Value.ref b] s = true
/-! the script -/
def d_L_cell (L : Nat) (xs : Nat → Int32) (k : Int32) : Option Int32 := if nI L ≤ k then some 0 else gd (ix k L) (some (xs k.toNatClampNeg))
theorem dL_cell_0 : decode cL_cell 0 = .ok (.iload_n 1, 1) := by decide +kernel
theorem dL_cell_1 : decode cL_cell 1 = .ok (.aload_n 0, 1) := by decide +kernel
theorem dL_cell_2 : decode cL_cell 2 = .ok (.arraylength, 1) := by decide +kernel
theorem dL_cell_3 : decode cL_cell 3 = .ok (.if_icmp .ge 9, 3) := by decide +kernel
theorem dL_cell_6 : decode cL_cell 6 = .ok (.aload_n 0, 1) := by decide +kernel
theorem dL_cell_7 : decode cL_cell 7 = .ok (.iload_n 1, 1) := by decide +kernel
theorem dL_cell_8 : decode cL_cell 8 = .ok (.iaload, 1) := by decide +kernel
theorem dL_cell_9 : decode cL_cell 9 = .ok (.goto 4, 3) := by decide +kernel
theorem dL_cell_12 : decode cL_cell 12 = .ok (.iconst 0, 1) := by decide +kernel
theorem dL_cell_13 : decode cL_cell 13 = .ok (.ireturn, 1) := by decide +kernel
set_option maxRecDepth 100000 in
theorem mf_L_cell : MF yL_cell cL_cell 2 (some .int) 2 := ⟨tb_at 1003 (by decide +kernel) rfl, tb_at 104 (by decide +kernel) rfl, by decide +kernel, by decide +kernel, by decide +kernel⟩
set_option maxRecDepth 100000 in
theorem ms_L_cell : Cond.static yL_cell ∈ tb := tb_at 1002 (by decide +kernel) rfl
section
variable {p : Program} {l : Launch} {e : Env} {R : Room} {s : State} {m : MethodId} {args : Array Value} {below : List Frame} {meth : Method} {c : Code} {H : Heap} {locs : List Loc} {cells slots : Nat} {Q : State → Prop}
variable {own : String} {bytes : ByteArray} {nL : Nat} {ret : Option FieldType} {b0 : Nat} {D : va_G} {E : Nat → ClassId} {G : Hp} {pc : Nat} {ls : Array Slot} {rest : List Value} {b L idx : Nat} {xs : Nat → Int32}
theorem r_sld {i : Int32} (C : Cx p s m args meth c own bytes nL ret b0 D E) (hX : va_X b L xs s s.heap) (hbl : b < b0) (hdg : decode bytes pc = .ok (.iaload, 1)) (hS : SS b0 s H locs) (hin : ix i L)
    (kk : W p l e R s m args below meth c H locs cells slots Q (F0 m (pc + 1) ls (.int (xs i.toNatClampNeg) :: rest))) : W p l e R s m args below meth c H locs cells slots Q (F0 m pc ls (.int i :: .ref b :: rest)) := by
  obtain ⟨scr, h1, h2, h3, h4, h5⟩ := hX
  exact W.iald (v := .int (xs i.toNatClampNeg)) C.1 C.2.1 (by rw [hS.1 b hbl]; exact h1) h2 h3 (by rw [h4]; exact ix_in hin) (h5 _ (ix_lt hin)) rfl rfl hdg kk
theorem r_slen (C : Cx p s m args meth c own bytes nL ret b0 D E) (hX : va_X b L xs s s.heap) (hbl : b < b0) (hdg : decode bytes pc = .ok (.arraylength, 1)) (hS : SS b0 s H locs)
    (kk : W p l e R s m args below meth c H locs cells slots Q (F0 m (pc + 1) ls (.int (nI L) :: rest))) : W p l e R s m args below meth c H locs cells slots Q (F0 m pc ls (.ref b :: rest)) := by
  obtain ⟨scr, h1, h2, h3, h4, h5⟩ := hX
  exact W.alen (n := nI L) C.1 C.2.1 (by rw [hS.1 b hbl]; exact h1) h2 (by rw [h4] <;> rfl) rfl rfl hdg kk
def CPs (b0 : Nat) (D : va_G) (E : Nat → ClassId) (G : Hp) (b L : Nat) (xs : Nat → Int32) (U : State) : Prop := CP b0 D E G U ∧ va_X b L xs U U.heap ∧ b < b0
theorem ct_L_cell {k r : Int32} (hd : d_L_cell L xs k = some r) : Met l yL_cell (Cond.code yL_cell cL_cell 2 (some .int) :: tb) (rmd 0 0 0) (va_Pc [.ref b, .int k] (CPs b0 D E G b L xs)) (CQ b0 D E (some (.int r)) G) 0 0 (fun q => b0 ≤ q) := by
  refine Met.ofW (cc := cL_cell) (maxL := 2) (ret := some .int) (by decide +kernel) rfl ?_
  intro p e s m args below meth c s₁ B hml hv
  obtain ⟨rfl, ⟨hR, hK, hb0⟩, hX, hbl⟩ := hv
  have hts := atoms_spec (ws := Cond.code yL_cell cL_cell 2 (some .int) :: tb) B.pre
  have C : Cx p s m [Value.ref b, .int k].toArray meth c RL cL_cell 2 (some .int) b0 D E := ⟨B.exec, B.bytes, B.returns, hml, findClass_of_methodNamed B.named, fun w hw => hts w (List.mem_cons_of_mem _ hw), B.notSynchronized, hK, hb0⟩
  have hS : SS b0 s s.heap [] := ⟨fun _ _ => rfl, fun _ h => by cases h⟩
  have hx := C.1
  have hb := C.2.1
  have hL := lv_entry ([.ref b, .int k]) (n := 2) (Nat.le_of_ble_eq_true rfl)
  rw [lg_entry_eq]
  generalize (lg_sl ([.ref b, .int k]) ++ List.replicate (2 - (lg_sl ([.ref b, .int k])).length) Slot.unset).toArray = ls at hL ⊢
  have hL : lv_has ls 2 [(0, .ref b), (1, .int k)] := hL
  unfold d_L_cell at hd
  refine lv_iload_n hx hb dL_cell_0 rfl (lv_at hL 1 rfl) ?_
  refine lv_aload_n hx hb dL_cell_1 rfl (lv_at hL 0 rfl) ?_
  refine r_slen C hX hbl dL_cell_2 hS ?_
  refine lv_icmp_ge (tgt := 12) hx hb dL_cell_3 (by decide) (fun c1 => ?_) (fun c1 => ?_)
  · rw [if_pos c1] at hd
    refine lv_iconst (v := 0) hx hb dL_cell_12 (by decide) ?_
    cases hd
    exact r_iret C dL_cell_13 hR hS
  · rw [if_neg c1] at hd
    obtain ⟨g1, hd⟩ := gd_ex hd
    refine lv_aload_n hx hb dL_cell_6 rfl (lv_at hL 0 rfl) ?_
    refine lv_iload_n hx hb dL_cell_7 rfl (lv_at hL 1 rfl) ?_
    refine r_sld C hX hbl dL_cell_8 hS g1 ?_
    refine lv_goto (tgt := 13) hx hb dL_cell_9 (by decide) ?_
    cases hd
    exact r_iret C dL_cell_13 hR hS
theorem r_cell {st : List Value} {k r : Int32} (C : Cx p s m args meth c own bytes nL ret b0 D E) (hX : va_X b L xs s s.heap) (hbl : b < b0) (hd : d_L_cell L xs k = some r) (hdg : decode bytes pc = .ok (.invokestatic idx, 3)) (hsz : ls.size = nL) (hst : st = .int k :: .ref b :: rest) (hl : Cond.methodLink own idx yL_cell ∈ tb) (hR : Rp b0 D E G H) (hS : SS b0 s H locs) (hf : cells ≤ room_1.cells ∧ slots ≤ room_1.slots) (hw : (rest.map fun v => v.category).sum ≤ 8)
    (kk : ∀ (H1 : Heap) (locs1 : List Loc), Rp b0 D E G H1 → SS b0 s H1 locs1 → W p l e room_1 s m args below meth c H1 locs1 cells slots Q (F0 m (pc + 3) ls (.int r :: rest))) : W p l e room_1 s m args below meth c H locs cells slots Q (F0 m pc ls st) := by
  obtain ⟨hx, hb, hr, hml, hown, hts, hlk, hK, hb0⟩ := C
  have blind : FrameBlind (va_Pc [.ref b, .int k] (CPs b0 D E G b L xs)) := fun _ U _ _ q => ⟨q.1, ⟨q.2.1.1, q.2.1.2.1.same rfl, q.2.1.2.2⟩, va_X.moved (u := U) (Vm.Alike.refl U.vm) q.2.2.1, q.2.2.2⟩
  refine r_run (va_runS (As := [.ref b, .int k]) ⟨hx, hb, hml, hown, hts⟩ (ct_L_cell hd) ⟨cb_of hts mf_L_cell hl ⟨Nat.le_of_ble_eq_true rfl, Nat.le_of_ble_eq_true rfl⟩, hts _ ms_L_cell⟩ ⟨blind, fun U hU hW => ⟨rfl, ⟨by rw [hU]; exact hR, hK.warm hW, hb0⟩, (va_X.moved hW.alike hX).kept (by rw [hU]; exact hS.1 b hbl), hbl⟩⟩ rfl rfl hsz hst (lv_room hw) hdg hf) hS kk
theorem law_end {GG : Hp} {n0 s0 : Nat} (C : Cx p s m #[Value.ref b] meth c RL cL_law 4 (some .boolean) b0 D E) (hS : SS b0 s H locs) (hB0 : b0 = s.heap.size) (hfin : hn GG - n0 ≤ 600000 ∧ hs GG - s0 ≤ 7302250) (hdg : decode cL_law pc = .ok (.ireturn, 1)) : W p l e room_1 s m #[Value.ref b] below meth c H locs (hn GG - n0) (hs GG - s0) (lw_Z below #[Value.ref b] s) (F0 m pc ls [.int 1]) := by
  refine va_forget (fun q hq => by rw [← hB0]; exact hS.2 q hq) ?_
  refine W.widen (k := 600000) (n := 7302250) hfin.1 hfin.2 ?_
  exact lw_ret C.1 C.2.1 C.2.2.1 C.2.2.2.2.2.2.1 hdg
end
