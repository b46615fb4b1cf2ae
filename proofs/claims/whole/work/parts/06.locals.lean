/-! locals: numbers (inl) and references (inr, 0 is null) -/
abbrev Lv : Type := List (Nat × (Int32 ⊕ Nat))
def tv : Int32 ⊕ Nat → Value
  | .inl x => .int x
  | .inr a => rv a
theorem tv_cat (v : Int32 ⊕ Nat) : (tv v).category = 1 := by
  cases v with
  | inl x => rfl
  | inr a => exact rv_cat a
def tvl (l : Lv) : List (Nat × Value) := l.map fun q => (q.1, tv q.2)
def lx (ls : Array Slot) (nl : Nat) (l : Lv) : Prop := lv_has ls nl (tvl l)
theorem lx_size {ls : Array Slot} {nl : Nat} {l : Lv} (h : lx ls nl l) : ls.size = nl := h.1
theorem lx_at {ls : Array Slot} {nl : Nat} {l : Lv} (h : lx ls nl l) (k : Nat) {i : Nat} {v : Int32 ⊕ Nat} (hk : l[k]? = some (i, v)) : ls[i]? = some (.val (tv v)) :=
  h.2.2 (i, tv v) (List.mem_map.mpr ⟨(i, v), List.mem_of_getElem? hk, rfl⟩)
theorem lx_sub {ls : Array Slot} {nl : Nat} {l l' : Lv} (h : lx ls nl l) (ks : List Nat) (hs : ks.filterMap (fun k => l[k]?) = l') : lx ls nl l' := by
  subst hs
  refine ⟨h.1, h.2.1, fun q hq => h.2.2 q ?_⟩
  obtain ⟨z, hz, rfl⟩ := List.mem_map.mp hq
  obtain ⟨k, -, hk⟩ := List.mem_filterMap.mp hz
  exact List.mem_map.mpr ⟨z, List.mem_of_getElem? hk, rfl⟩
theorem tvl_filter (l : Lv) (i : Nat) : (tvl l).filter (fun q => !(q.1 == i) && !(q.1 + 1 == i && q.2.category == 2)) = tvl (l.filter (fun q => !(q.1 == i))) := by
  unfold tvl
  rw [List.filter_map]
  congr 1
  apply List.filter_congr
  intro q _
  have h := tv_cat q.2
  simp [Function.comp, h]
theorem lv_args1 (vs : List (Int32 ⊕ Nat)) : ∀ i : Nat, lv_args i (vs.map tv) = tvl ((vs.zipIdx i).map fun q => (q.2, q.1)) := by
  induction vs with
  | nil => intro i; rfl
  | cons v vs ih =>
    intro i
    have h := tv_cat v
    simp only [List.map_cons, lv_args, h, List.zipIdx_cons, tvl]
    rw [if_neg (by decide), ih (i + 1)]
    rfl
theorem lg_sl1 (vs : List (Int32 ⊕ Nat)) : (lg_sl (vs.map tv)).length = vs.length := by
  induction vs with
  | nil => rfl
  | cons v vs ih =>
    have h := tv_cat v
    have e : lg_sl (tv v :: vs.map tv) = [.val (tv v)] ++ lg_sl (vs.map tv) := by simp [lg_sl, h]
    simp only [List.map_cons, e, List.length_append, ih, List.length_cons, List.length_nil]
    omega
section RowsC
variable {p : Program} {l : Launch} {e : Env} {R : Room} {s : State} {m : MethodId} {args : Array Value} {below : List Frame} {meth : Method} {c : Code} {H : Heap} {locs : List Loc} {cells slots : Nat} {Q : State → Prop}
variable {own : String} {bytes : ByteArray} {nL : Nat} {ret : Option FieldType} {b0 : Nat} {D : va_G} {E : Nat → ClassId} {G : Hp} {pc : Nat} {ls : Array Slot} {rest : List Value} {i nl k : Nat} {lv lv' : Lv}
theorem r_entry (vs : List (Int32 ⊕ Nat)) {n : Nat} (h : vs.length ≤ n) (hl : ((vs.zipIdx 0).map fun q => (q.2, q.1)) = lv)
    (kk : ∀ ls : Array Slot, lx ls n lv → W p l e R s m args below meth c H locs cells slots Q (F0 m 0 ls [])) : W p l e R s m args below meth c H locs cells slots Q (entryFrame m (vs.map tv).toArray n) := by
  have h1 := lv_entry (vs.map tv) (n := n) (by rw [lg_sl1]; exact h)
  rw [lg_entry_eq]
  refine kk _ ?_
  unfold lx
  rw [← hl, ← lv_args1]
  exact h1
theorem x_iload_n {kf : Fin 4} {x : Int32} (C : Cx p s m args meth c own bytes nL ret b0 D E) (hdg : decode bytes pc = .ok (.iload_n kf, 1)) (hl : lx ls nl lv) (k : Nat) (hk : lv[k]? = some ((kf : Nat), .inl x))
    (kk : W p l e R s m args below meth c H locs cells slots Q (F0 m (pc + 1) ls (.int x :: rest))) : W p l e R s m args below meth c H locs cells slots Q (F0 m pc ls rest) := lv_iload_n C.1 C.2.1 hdg rfl (lx_at hl k hk) kk
theorem x_iload {x : Int32} (C : Cx p s m args meth c own bytes nL ret b0 D E) (hdg : decode bytes pc = .ok (.iload i, 2)) (hl : lx ls nl lv) (k : Nat) (hk : lv[k]? = some (i, .inl x))
    (kk : W p l e R s m args below meth c H locs cells slots Q (F0 m (pc + 2) ls (.int x :: rest))) : W p l e R s m args below meth c H locs cells slots Q (F0 m pc ls rest) := lv_iload C.1 C.2.1 hdg (lx_at hl k hk) kk
theorem x_aload_n {kf : Fin 4} {x : Nat} (C : Cx p s m args meth c own bytes nL ret b0 D E) (hdg : decode bytes pc = .ok (.aload_n kf, 1)) (hl : lx ls nl lv) (k : Nat) (hk : lv[k]? = some ((kf : Nat), .inr x))
    (kk : W p l e R s m args below meth c H locs cells slots Q (F0 m (pc + 1) ls (rv x :: rest))) : W p l e R s m args below meth c H locs cells slots Q (F0 m pc ls rest) := r_aload_n C hdg rfl (lx_at hl k hk) kk
theorem x_aload {x : Nat} (C : Cx p s m args meth c own bytes nL ret b0 D E) (hdg : decode bytes pc = .ok (.aload i, 2)) (hl : lx ls nl lv) (k : Nat) (hk : lv[k]? = some (i, .inr x))
    (kk : W p l e R s m args below meth c H locs cells slots Q (F0 m (pc + 2) ls (rv x :: rest))) : W p l e R s m args below meth c H locs cells slots Q (F0 m pc ls rest) := r_aload C hdg (lx_at hl k hk) kk
theorem x_istore_n {kf : Fin 4} {x : Int32} (C : Cx p s m args meth c own bytes nL ret b0 D E) (hdg : decode bytes pc = .ok (.istore_n kf, 1)) (hl : lx ls nl lv) (hn : (kf : Nat) < nl) (hv : ((kf : Nat), .inl x) :: lv.filter (fun q => !(q.1 == (kf : Nat))) = lv')
    (kk : ∀ ls' : Array Slot, lx ls' nl lv' → W p l e R s m args below meth c H locs cells slots Q (F0 m (pc + 1) ls' rest)) : W p l e R s m args below meth c H locs cells slots Q (F0 m pc ls (.int x :: rest)) :=
  lv_istore_n (lv' := tvl lv') C.1 C.2.1 hdg rfl hl hn (by rw [tvl_filter, ← hv]; rfl) kk
theorem x_istore {x : Int32} (C : Cx p s m args meth c own bytes nL ret b0 D E) (hdg : decode bytes pc = .ok (.istore i, 2)) (hl : lx ls nl lv) (hn : i < nl) (hv : (i, .inl x) :: lv.filter (fun q => !(q.1 == i)) = lv')
    (kk : ∀ ls' : Array Slot, lx ls' nl lv' → W p l e R s m args below meth c H locs cells slots Q (F0 m (pc + 2) ls' rest)) : W p l e R s m args below meth c H locs cells slots Q (F0 m pc ls (.int x :: rest)) :=
  lv_istore (lv' := tvl lv') C.1 C.2.1 hdg hl hn (by rw [tvl_filter, ← hv]; rfl) kk
theorem x_astore_n {kf : Fin 4} {x : Nat} (C : Cx p s m args meth c own bytes nL ret b0 D E) (hdg : decode bytes pc = .ok (.astore_n kf, 1)) (hl : lx ls nl lv) (hn : (kf : Nat) < nl) (hv : ((kf : Nat), .inr x) :: lv.filter (fun q => !(q.1 == (kf : Nat))) = lv')
    (kk : ∀ ls' : Array Slot, lx ls' nl lv' → W p l e R s m args below meth c H locs cells slots Q (F0 m (pc + 1) ls' rest)) : W p l e R s m args below meth c H locs cells slots Q (F0 m pc ls (rv x :: rest)) :=
  r_astore_n (lv' := tvl lv') C hdg rfl hl hn (by rw [tvl_filter, ← hv]; rfl) kk
theorem x_astore {x : Nat} (C : Cx p s m args meth c own bytes nL ret b0 D E) (hdg : decode bytes pc = .ok (.astore i, 2)) (hl : lx ls nl lv) (hn : i < nl) (hv : (i, .inr x) :: lv.filter (fun q => !(q.1 == i)) = lv')
    (kk : ∀ ls' : Array Slot, lx ls' nl lv' → W p l e R s m args below meth c H locs cells slots Q (F0 m (pc + 2) ls' rest)) : W p l e R s m args below meth c H locs cells slots Q (F0 m pc ls (rv x :: rest)) :=
  r_astore (lv' := tvl lv') C hdg hl hn (by rw [tvl_filter, ← hv]; rfl) kk
theorem x_iinc {n : Int} {x v : Int32} (C : Cx p s m args meth c own bytes nL ret b0 D E) (hdg : decode bytes pc = .ok (.iinc i n, 3)) (hl : lx ls nl lv) (k : Nat) (hk : lv[k]? = some (i, .inl x)) (hx : x + Int32.ofInt n = v) (hn : i < nl) (hv : (i, .inl v) :: lv.filter (fun q => !(q.1 == i)) = lv')
    (kk : ∀ ls' : Array Slot, lx ls' nl lv' → W p l e R s m args below meth c H locs cells slots Q (F0 m (pc + 3) ls' rest)) : W p l e R s m args below meth c H locs cells slots Q (F0 m pc ls rest) :=
  lv_iinc (lv' := tvl lv') (k := k) C.1 C.2.1 hdg hl (by unfold tvl; rw [List.getElem?_map, hk]; rfl) hx hn (by rw [tvl_filter, ← hv]; rfl) kk
end RowsC
/-! the words of the programs as functions -/
def gd {α : Type} (c : Prop) [Decidable c] (x : Option α) : Option α := if c then x else none
def bd {α β : Type} (x : α) (f : α → Option β) : Option β := f x
def bo {α β : Type} (x : Option α) (f : α → Option β) : Option β := match x with
  | some y => f y
  | none => none
def b2 {α β : Type} (x : Option (α × Hp)) (f : α → Hp → Option β) : Option β := match x with
  | some y => f y.1 y.2
  | none => none
def mV (G : Hp) (x : Option Hp) : Option Hp := match x with
  | some y => if hn G ≤ hn y ∧ hs G ≤ hs y then some y else none
  | none => none
def mP {α : Type} (G : Hp) (x : Option (α × Hp)) : Option (α × Hp) := match x with
  | some y => if hn G ≤ hn y.2 ∧ hs G ≤ hs y.2 then some y else none
  | none => none
theorem gd_ex {α : Type} {c : Prop} [Decidable c] {x : Option α} {r : α} (h : gd c x = some r) : c ∧ x = some r := by
  unfold gd at h
  split at h
  · exact ⟨‹_›, h⟩
  · cases h
theorem bd_ex {α β : Type} {x : α} {f : α → Option β} {r : β} (h : bd x f = some r) : ∃ y, y = x ∧ f y = some r := ⟨x, rfl, h⟩
theorem bo_ex {α β : Type} {x : Option α} {f : α → Option β} {r : β} (h : bo x f = some r) : ∃ y, x = some y ∧ f y = some r := by
  cases x with
  | none => cases h
  | some y => exact ⟨y, rfl, h⟩
theorem b2_ex {α β : Type} {x : Option (α × Hp)} {f : α → Hp → Option β} {r : β} (h : b2 x f = some r) : ∃ y z, x = some (y, z) ∧ f y z = some r := by
  cases x with
  | none => cases h
  | some y => exact ⟨y.1, y.2, rfl, h⟩
theorem mV_ex {G : Hp} {x : Option Hp} {r : Hp} (h : mV G x = some r) : (hn G ≤ hn r ∧ hs G ≤ hs r) ∧ x = some r := by
  cases x with
  | none => cases h
  | some y =>
    unfold mV at h
    dsimp only at h
    split at h
    · cases h; exact ⟨‹_›, rfl⟩
    · cases h
theorem mP_ex {α : Type} {G : Hp} {x : Option (α × Hp)} {v : α} {r : Hp} (h : mP G x = some (v, r)) : (hn G ≤ hn r ∧ hs G ≤ hs r) ∧ x = some (v, r) := by
  cases x with
  | none => cases h
  | some y =>
    unfold mP at h
    dsimp only at h
    split at h
    · cases h; exact ⟨‹_›, rfl⟩
    · cases h
def FU : Nat := 6000
theorem i32_ne {x y : Int32} (h : ¬ x = y) : x.toInt ≠ y.toInt := fun q => h (Int32.toInt_inj.mp q)
