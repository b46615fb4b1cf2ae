/-! THE HEAP AS FOUR TABLES: what kind of cell lies at an address, how long a row it is, its whole numbers, its references (0: null); how many addresses, how many slots are used -/
abbrev Hp : Type := (Nat → Nat) × (Nat → Nat) × (Nat → Nat → Int32) × (Nat → Nat → Nat) × Nat × Nat
def hc (G : Hp) : Nat → Nat := G.1
def hl (G : Hp) : Nat → Nat := G.2.1
def hi (G : Hp) : Nat → Nat → Int32 := G.2.2.1
def hr (G : Hp) : Nat → Nat → Nat := G.2.2.2.1
def hn (G : Hp) : Nat := G.2.2.2.2.1
def hs (G : Hp) : Nat := G.2.2.2.2.2
def u2 {α : Type} (f : Nat → Nat → α) (a k : Nat) (v : α) : Nat → Nat → α := fun x => if x = a then va_up (f a) k v else f x
def sI (G : Hp) (a k : Nat) (v : Int32) : Hp := (hc G, hl G, u2 (hi G) a k v, hr G, hn G, hs G)
def sR (G : Hp) (a k : Nat) (v : Nat) : Hp := (hc G, hl G, hi G, u2 (hr G) a k v, hn G, hs G)
/-- a new cell of kind t, of length n, that takes z slots -/
def nC (G : Hp) (t n z : Nat) : Hp := (va_up (hc G) (hn G) t, va_up (hl G) (hn G) n, va_up (hi G) (hn G) (fun _ => 0), va_up (hr G) (hn G) (fun _ => 0), hn G + 1, hs G + z)
def rv (a : Nat) : Value := if a = 0 then .null else .ref a
theorem rv_ne {a : Nat} (h : a ≠ 0) : rv a = .ref a := if_neg h
theorem rv_cat (a : Nat) : (rv a).category = 1 := by unfold rv; split <;> rfl
def isR : FieldType → Bool
  | .int => false
  | .boolean => false
  | _ => true
def fv (ci : Nat) (G : Hp) (a : Nat) : Nat → Value := fun j => if isR (Yn ci j) then rv (hr G a j) else .int (hi G a j)
def PX (D : va_G) (E : Nat → ClassId) (G : Hp) (H : Heap) (a t : Nat) : Prop :=
  if t ≤ 10 then t_OB a (D.1 (t - 1)) (Nn (t - 1)) (D.2 (t - 1)) H (fv (t - 1) G a)
  else H[a]? = some (arrV (E t) (hl G a) (if t ≤ 12 then (fun j => .int (hi G a j)) else (fun j => rv (hr G a j))))
def Rp (b0 : Nat) (D : va_G) (E : Nat → ClassId) (G : Hp) (H : Heap) : Prop := H.size = hn G ∧ ∀ a, hc G a ≠ 0 → b0 ≤ a ∧ a < hn G ∧ PX D E G H a (hc G a)
def SS (b0 : Nat) (s : State) (H : Heap) (locs : List Loc) : Prop := (∀ q, q < b0 → H[q]? = s.heap[q]?) ∧ ∀ z ∈ locs, b0 ≤ z.base
abbrev ix (i : Int32) (n : Nat) : Prop := 0 ≤ i.toInt ∧ i.toInt < (n : Int)
theorem ix_in {i : Int32} {n : Nat} (h : ix i n) : vp_in i n := vp_in_iff.mpr h
theorem ix_lt {i : Int32} {n : Nat} (h : ix i n) : i.toNatClampNeg < n := Nat.not_le.mp fun q => ix_in h (Or.inr q)
def nestL : List (String × Nat × MethodName) := [("GroveWorks$Wire", 59, yX0_init), ("GroveWorks$Router", 27, yX8_isIn), ("GroveWorks$Router", 62, yX8_isSource), ("GroveWorks$Host", 29, yX8_has), ("GroveWorks$Wire", 64, yX8_isIn), ("GroveWorks$Port", 65, yX8_isIn), ("GroveWorks$Port", 104, yX8_has), ("GroveWorks$Tree", 136, yX8_isIn), ("GroveWorks$Ways", 41, yX8_isIn), ("GroveWorks$Port", 93, yX8_isBetter), ("GroveWorks$Tree", 145, yX8_has), ("GroveWorks$Tree", 271, yX8_isBetter), ("GroveWorks$Host", 59, yX8_isIn)]
def nestW (U : State) : Prop := ∀ q ∈ nestL, va_Nw (.methodLinkNest q.1 q.2.1 q.2.2 "GroveWorks") U
def AK (E : Nat → ClassId) (U : State) (t : Nat) (ty : FieldType) : Prop := ArrOfT U (E t) ty ∧ va_RA U (E t) ty
def arrCi : List Nat := [0, 1, 3, 4, 5, 7]
def Kx (D : va_G) (E : Nat → ClassId) (U : State) : Prop := va_K D vwCl [] U ∧ AK E U 11 .int ∧ AK E U 12 .boolean ∧ (∀ ci ∈ arrCi, AK E U (13 + ci) (.object (Cn ci)) ∧ va_AO (Cn ci) U) ∧ nestW U
theorem AK.moved {E : Nat → ClassId} {u U : State} {t : Nat} {ty : FieldType} (hvm : u.vm.Alike U.vm) (h : AK E u t ty) : AK E U t ty := ⟨arrOfT_moved hvm h.1, h.2.moved hvm⟩
theorem Kx.warm {D : va_G} {E : Nat → ClassId} {s U : State} (hW : s.WarmedH U.vm) (h : Kx D E s) : Kx D E U :=
  ⟨va_K.moved hW.alike h.1, h.2.1.moved hW.alike, h.2.2.1.moved hW.alike, fun ci hc => ⟨(h.2.2.2.1 ci hc).1.moved hW.alike, (h.2.2.2.1 ci hc).2.moved hW.alike⟩, fun q hq => va_Nw.warmM hW (h.2.2.2.2 q hq)⟩
theorem Kx.same {D : va_G} {E : Nat → ClassId} {u U : State} (e : u.vm = U.vm) (h : Kx D E u) : Kx D E U := by
  have ha : u.vm.Alike U.vm := by rw [← e]; exact Vm.Alike.refl u.vm
  exact ⟨va_K.moved ha h.1, h.2.1.moved ha, h.2.2.1.moved ha, fun ci hc => ⟨(h.2.2.2.1 ci hc).1.moved ha, (h.2.2.2.1 ci hc).2.moved ha⟩, fun q hq => va_Nw.same rfl e (h.2.2.2.2 q hq)⟩
def Cx (p : Program) (s : State) (m : MethodId) (args : Array Value) (meth : Method) (c : Code) (own : String) (bytes : ByteArray) (nL : Nat) (ret : Option FieldType) (b0 : Nat) (D : va_G) (E : Nat → ClassId) : Prop :=
  p.tables.exec = Jvm.exec ∧ c.code = bytes ∧ meth.sig.returnType = ret ∧ c.maxLocals = nL ∧ s.vm.findClass own = some m.cls ∧ (∀ w ∈ tb, w.before args s = true) ∧ meth.locks = false ∧ Kx D E s ∧ 0 < b0
def FL (own : String) (idx ci k : Nat) : Prop := ci < 10 ∧ k < Nn ci ∧ Cond.fieldLink own idx (Cn ci) (Tn ci k).2.1 (Tn ci k).2.2.1 ∈ tb
/-- pictures -/
theorem Rp.obj {b0 : Nat} {D : va_G} {E : Nat → ClassId} {G : Hp} {H : Heap} {a ci : Nat} (h : Rp b0 D E G H) (hci : ci < 10) (ht : hc G a = ci + 1) : t_OB a (D.1 ci) (Nn ci) (D.2 ci) H (fv ci G a) := by
  have h1 := (h.2 a (by omega)).2.2
  rw [ht] at h1
  unfold PX at h1
  rw [if_pos (by omega)] at h1
  exact h1
theorem Rp.ints {b0 : Nat} {D : va_G} {E : Nat → ClassId} {G : Hp} {H : Heap} {a t : Nat} (h : Rp b0 D E G H) (ht : hc G a = t) (h1 : 10 < t) (h2 : t ≤ 12) : H[a]? = some (arrV (E t) (hl G a) (fun j => .int (hi G a j))) := by
  have h3 := (h.2 a (by omega)).2.2
  rw [ht] at h3
  unfold PX at h3
  rw [if_neg (by omega), if_pos h2] at h3
  exact h3
theorem Rp.refs {b0 : Nat} {D : va_G} {E : Nat → ClassId} {G : Hp} {H : Heap} {a t : Nat} (h : Rp b0 D E G H) (ht : hc G a = t) (h1 : 12 < t) : H[a]? = some (arrV (E t) (hl G a) (fun j => rv (hr G a j))) := by
  have h3 := (h.2 a (by omega)).2.2
  rw [ht] at h3
  unfold PX at h3
  rw [if_neg (by omega), if_neg (by omega)] at h3
  exact h3
theorem Rp.ne0 {b0 : Nat} {D : va_G} {E : Nat → ClassId} {G : Hp} {H : Heap} {a : Nat} (h : Rp b0 D E G H) (hb : 0 < b0) (ht : hc G a ≠ 0) : a ≠ 0 := by
  have := (h.2 a ht).1
  omega
theorem PX.to {D : va_G} {E : Nat → ClassId} {G G1 : Hp} {H H1 : Heap} {a t : Nat} (h : PX D E G H a t) (hH : H1[a]? = H[a]?) (h1 : hl G1 a = hl G a) (h2 : hi G1 a = hi G a) (h3 : hr G1 a = hr G a) : PX D E G1 H1 a t := by
  unfold PX at h ⊢
  split
  · rename_i ht
    rw [if_pos ht] at h
    refine (t_OB.kept h hH).to (fun k _ => ?_)
    unfold fv
    rw [h2, h3]
  · rename_i ht
    rw [if_neg ht] at h
    rw [hH, h, h1, h2, h3]
/-- one cell of the tables is written -/
def PU (G G1 : Hp) (a : Nat) : Prop := hc G1 = hc G ∧ hn G1 = hn G ∧ ∀ x, x ≠ a → hl G1 x = hl G x ∧ hi G1 x = hi G x ∧ hr G1 x = hr G x
theorem Rp.put {b0 : Nat} {D : va_G} {E : Nat → ClassId} {G G1 : Hp} {H H1 : Heap} {a : Nat} (h : Rp b0 D E G H) (z : H1.size = H.size) (oq : ∀ q, q ≠ a → H1[q]? = H[q]?) (hu : PU G G1 a) (hp : hc G a ≠ 0 → PX D E G1 H1 a (hc G a)) : Rp b0 D E G1 H1 := by
  obtain ⟨u1, u2, u3⟩ := hu
  refine ⟨by rw [z, u2]; exact h.1, fun x hx => ?_⟩
  rw [u1] at hx ⊢
  obtain ⟨q1, q2, q3⟩ := h.2 x hx
  refine ⟨q1, by rw [u2]; exact q2, ?_⟩
  by_cases hxa : x = a
  · subst hxa
    exact hp hx
  · obtain ⟨v1, v2, v3⟩ := u3 x hxa
    exact q3.to (oq x hxa) v1 v2 v3
theorem PU_sI (G : Hp) (a k : Nat) (v : Int32) : PU G (sI G a k v) a := ⟨rfl, rfl, fun x hx => ⟨rfl, if_neg hx, rfl⟩⟩
theorem PU_sR (G : Hp) (a k : Nat) (v : Nat) : PU G (sR G a k v) a := ⟨rfl, rfl, fun x hx => ⟨rfl, rfl, if_neg hx⟩⟩
theorem SS.put {b0 : Nat} {s : State} {H H1 : Heap} {locs : List Loc} {a k : Nat} (h : SS b0 s H locs) (oq : ∀ q, q ≠ a → H1[q]? = H[q]?) (ha : b0 ≤ a) : SS b0 s H1 (locs ++ [⟨a, k⟩]) := by
  refine ⟨fun q hq => by rw [oq q (by omega)]; exact h.1 q hq, fun z hz => ?_⟩
  rcases List.mem_append.mp hz with h1 | h1
  · exact h.2 z h1
  · rw [List.mem_singleton.mp h1]; exact ha
theorem hi_sI (G : Hp) (a k : Nat) (v : Int32) : hi (sI G a k v) a = va_up (hi G a) k v := by show u2 _ _ _ _ a = _; unfold u2; rw [if_pos rfl]
theorem hr_sR (G : Hp) (a k : Nat) (v : Nat) : hr (sR G a k v) a = va_up (hr G a) k v := by show u2 _ _ _ _ a = _; unfold u2; rw [if_pos rfl]
theorem hr_sI (G : Hp) (a k : Nat) (v : Int32) : hr (sI G a k v) = hr G := rfl
theorem hi_sR (G : Hp) (a k : Nat) (v : Nat) : hi (sR G a k v) = hi G := rfl
theorem fv_sI {ci : Nat} {G : Hp} {a k : Nat} {v : Int32} (hk : isR (Yn ci k) = false) : ∀ j, updV (fv ci G a) k (.int v) j = fv ci (sI G a k v) a j := by
  intro j
  unfold fv
  rw [hi_sI, hr_sI]
  unfold updV va_up
  by_cases hj : j = k
  · subst hj
    simp [hk]
  · simp [hj]
theorem fv_sR {ci : Nat} {G : Hp} {a k : Nat} {v : Nat} (hk : isR (Yn ci k) = true) : ∀ j, updV (fv ci G a) k (rv v) j = fv ci (sR G a k v) a j := by
  intro j
  unfold fv
  rw [hr_sR, hi_sR]
  unfold updV va_up
  by_cases hj : j = k
  · subst hj
    simp [hk]
  · simp [hj]
theorem Rp.made {b0 : Nat} {D : va_G} {E : Nat → ClassId} {G : Hp} {H H1 : Heap} {t n z : Nat} (h : Rp b0 D E G H) (hb : b0 ≤ hn G) (z1 : H1.size = H.size + 1) (oq : ∀ q, q < H.size → H1[q]? = H[q]?) (ht : t ≠ 0) (hp : PX D E (nC G t n z) H1 (hn G) t) : Rp b0 D E (nC G t n z) H1 := by
  refine ⟨by rw [z1, h.1]; rfl, fun x hx => ?_⟩
  by_cases hxa : x = hn G
  · subst hxa
    have e : hc (nC G t n z) (hn G) = t := by show va_up (hc G) (hn G) t (hn G) = t; unfold va_up; rw [if_pos rfl]
    rw [e]
    exact ⟨hb, Nat.lt_succ_self _, hp⟩
  · have e : hc (nC G t n z) x = hc G x := by show va_up (hc G) (hn G) t x = _; unfold va_up; rw [if_neg hxa]
    rw [e] at hx ⊢
    obtain ⟨q1, q2, q3⟩ := h.2 x hx
    refine ⟨q1, Nat.lt_succ_of_lt q2, q3.to (oq x (by rw [h.1]; exact q2)) ?_ ?_ ?_⟩
    · show va_up _ _ _ x = _; unfold va_up; rw [if_neg hxa]
    · show va_up _ _ _ x = _; unfold va_up; rw [if_neg hxa]
    · show va_up _ _ _ x = _; unfold va_up; rw [if_neg hxa]
