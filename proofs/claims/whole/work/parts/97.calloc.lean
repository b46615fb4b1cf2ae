/-! NEW CELLS: the heap itself, and the tables that it is read by -/
theorem nC_hc (G : Hp) (t n z a : Nat) : hc (nC G t n z) a = if a = hn G then t else hc G a := rfl
theorem nC_hl (G : Hp) (t n z a : Nat) : hl (nC G t n z) a = if a = hn G then n else hl G a := rfl
theorem nC_hi (G : Hp) (t n z a : Nat) : hi (nC G t n z) a = if a = hn G then (fun _ => 0) else hi G a := rfl
theorem nC_hr (G : Hp) (t n z a : Nat) : hr (nC G t n z) a = if a = hn G then (fun _ => 0) else hr G a := rfl
theorem nC_hn (G : Hp) (t n z : Nat) : hn (nC G t n z) = hn G + 1 := rfl
theorem nC_hs (G : Hp) (t n z : Nat) : hs (nC G t n z) = hs G + z := rfl
theorem sR_hc (G : Hp) (a k v : Nat) : hc (sR G a k v) = hc G := rfl
theorem sR_hl (G : Hp) (a k v : Nat) : hl (sR G a k v) = hl G := rfl
theorem sR_hi (G : Hp) (a k v : Nat) : hi (sR G a k v) = hi G := rfl
theorem sR_hr (G : Hp) (a k v b : Nat) : hr (sR G a k v) b = if b = a then va_up (hr G a) k v else hr G b := rfl
theorem sR_hn (G : Hp) (a k v : Nat) : hn (sR G a k v) = hn G := rfl
theorem sR_hs (G : Hp) (a k v : Nat) : hs (sR G a k v) = hs G := rfl
theorem sI_hc (G : Hp) (a k : Nat) (v : Int32) : hc (sI G a k v) = hc G := rfl
theorem sI_hl (G : Hp) (a k : Nat) (v : Int32) : hl (sI G a k v) = hl G := rfl
theorem sI_hr (G : Hp) (a k : Nat) (v : Int32) : hr (sI G a k v) = hr G := rfl
theorem sI_hi (G : Hp) (a k : Nat) (v : Int32) (b : Nat) : hi (sI G a k v) b = if b = a then va_up (hi G a) k v else hi G b := rfl
theorem sI_hn (G : Hp) (a k : Nat) (v : Int32) : hn (sI G a k v) = hn G := rfl
theorem sI_hs (G : Hp) (a k : Nat) (v : Int32) : hs (sI G a k v) = hs G := rfl
/-- x gives a heap, no smaller than G, of which P holds -/
def OKM (G : Hp) (x : Option Hp) (P : Hp → Prop) : Prop := ∃ y, x = some y ∧ (hn G ≤ hn y ∧ hs G ≤ hs y) ∧ P y
section
variable {G G1 : Hp} {x : Option Hp} {P P' : Hp → Prop}
theorem OKM_m (h : OKM G x P) : OKM G (mV G x) P := by
  obtain ⟨y, e, m, p⟩ := h
  refine ⟨y, ?_, m, p⟩
  rw [e]
  show (if hn G ≤ hn y ∧ hs G ≤ hs y then some y else none) = some y
  rw [if_pos m]
theorem OKM_g {c : Prop} [Decidable c] (hc : c) (h : OKM G x P) : OKM G (gd c x) P := by rw [gd_t hc]; exact h
theorem OKM_d {α : Type} {a : α} {f : α → Option Hp} (h : OKM G (f a) P) : OKM G (bd a f) P := h
theorem OKM_t (h : OKM G1 x P) (h1 : hn G ≤ hn G1) (h2 : hs G ≤ hs G1) : OKM G x P := by
  obtain ⟨y, e, m, p⟩ := h
  exact ⟨y, e, ⟨Nat.le_trans h1 m.1, Nat.le_trans h2 m.2⟩, p⟩
theorem OKM_s (h : P G) : OKM G (some G) P := ⟨G, rfl, ⟨Nat.le_refl _, Nat.le_refl _⟩, h⟩
theorem OKM_o {f : Hp → Option Hp} (h : OKM G x P') (k : ∀ y, P' y → hn G ≤ hn y → hs G ≤ hs y → OKM y (f y) P) : OKM G (bo x f) P := by
  obtain ⟨y, e, m, p⟩ := h
  rw [e, bo_e]
  exact OKM_t (k y p m.1 m.2) m.1 m.2
theorem OKM_w (h : OKM G x P') (k : ∀ y, P' y → P y) : OKM G x P := by
  obtain ⟨y, e, m, p⟩ := h
  exact ⟨y, e, m, k y p⟩
end
theorem eK_self {L : Ly} {H : Hp} {V : Vt} {R : Rt} (h : ∀ a q, L.2 a = some q → hi H a = V q.1 q.2.1 q.2.2 ∧ hr H a = R q.1 q.2.1 q.2.2) : eK L H V R = H := by
  have e1 : hi (eK L H V R) = hi H := by
    funext a
    show (match L.2 a with | some q => V q.1 q.2.1 q.2.2 | none => hi H a) = _
    cases e : L.2 a with
    | none => rfl
    | some q => exact (h a q e).1.symm
  have e2 : hr (eK L H V R) = hr H := by
    funext a
    show (match L.2 a with | some q => R q.1 q.2.1 q.2.2 | none => hr H a) = _
    cases e : L.2 a with
    | none => rfl
    | some q => exact (h a q e).2.symm
  show ((hc H, hl H, hi (eK L H V R), hr (eK L H V R), hn H, hs H) : Hp) = H
  rw [e1, e2]
  rfl
def stK (c i j : Nat) : Prop := (c = 18 → j < 4) ∧ (c = 25 → j = 0) ∧ (c = 4 → i = 0)
/-- the heap H holds the class's cells, with V in them -/
def IC (L : Ly) (H : Hp) (n : Nat) (Q : Qt) (V : Vt) : Prop := LY L H n Q ∧ (∀ a q, L.2 a = some q → a < hn H ∧ hi H a = V q.1 q.2.1 q.2.2 ∧ hr H a = RF n L Q q.1 q.2.1 q.2.2) ∧ ∀ a q, L.2 a = some q → stK q.1 q.2.1 q.2.2
theorem IC_e {L : Ly} {H : Hp} {n : Nat} {Q : Qt} {V : Vt} (h : IC L H n Q V) : eK L H V (RF n L Q) = H := eK_self fun a q e => (h.2.1 a q e).2
theorem IC_s {L : Ly} {H : Hp} {n : Nat} {Q Q' : Qt} {V V' : Vt} (h : IC L H n Q V) (hL : LY L H n Q') : IC L (eK L H V' (RF n L Q')) n Q' V' := by
  refine ⟨hL, fun a q e => ⟨(h.2.1 a q e).1, ?_, ?_⟩, h.2.2⟩
  · show (match L.2 a with | some q => V' q.1 q.2.1 q.2.2 | none => hi H a) = _
    rw [e]
  · show (match L.2 a with | some q => RF n L Q' q.1 q.2.1 q.2.2 | none => hr H a) = _
    rw [e]
/-- new cells nA (at nu) beside those of L -/
def exL (L : Ly) (nA : Nat → Nat → Nat → Option Nat) (nu : Nat → Option (Nat × Nat × Nat)) : Ly := (fun c i j => (nA c i j).getD (L.1 c i j), fun a => match nu a with
  | some q => some q
  | none => match L.2 a with
    | some q => if (nA q.1 q.2.1 q.2.2).isSome then none else some q
    | none => none)
section
variable {L : Ly} {nA : Nat → Nat → Nat → Option Nat} {nu : Nat → Option (Nat × Nat × Nat)} {c i j a : Nat} {H H1 : Hp} {n : Nat} {Q Q' : Qt} {V V1 : Vt}
theorem ex_n (h : nA c i j = some a) : (exL L nA nu).1 c i j = a := by
  show (nA c i j).getD _ = a
  rw [h]
  rfl
theorem ex_o (h : nA c i j = none) : (exL L nA nu).1 c i j = L.1 c i j := by
  show (nA c i j).getD _ = _
  rw [h]
  rfl
theorem ex_2n {q : Nat × Nat × Nat} (h : nu a = some q) : (exL L nA nu).2 a = some q := by
  show (match nu a with | some q => some q | none => _) = _
  rw [h]
theorem ex_2o {q : Nat × Nat × Nat} (h : nu a = none) (e : L.2 a = some q) (h2 : nA q.1 q.2.1 q.2.2 = none) : (exL L nA nu).2 a = some q := by
  show (match nu a with | some q => some q | none => match L.2 a with | some q => if (nA q.1 q.2.1 q.2.2).isSome then none else some q | none => none) = _
  rw [h, e]
  show (if (nA q.1 q.2.1 q.2.2).isSome then none else some q) = _
  rw [h2]
  rfl
theorem ex_2z (h : nu a = none) (e : L.2 a = none) : (exL L nA nu).2 a = none := by
  show (match nu a with | some q => some q | none => match L.2 a with | some q => if (nA q.1 q.2.1 q.2.2).isSome then none else some q | none => none) = _
  rw [h, e]
theorem ex_i {q : Nat × Nat × Nat} (h : (exL L nA nu).2 a = some q) : nu a = some q ∨ nu a = none ∧ L.2 a = some q ∧ nA q.1 q.2.1 q.2.2 = none := by
  have h' : (match nu a with | some q => some q | none => match L.2 a with | some q => if (nA q.1 q.2.1 q.2.2).isSome then none else some q | none => none) = some q := h
  cases e : nu a with
  | some q' =>
    rw [e] at h'
    exact Or.inl h'
  | none =>
    rw [e] at h'
    refine Or.inr ⟨rfl, ?_⟩
    cases e2 : L.2 a with
    | none =>
      rw [e2] at h'
      cases h'
    | some q' =>
      rw [e2] at h'
      have h2 : (if (nA q'.1 q'.2.1 q'.2.2).isSome then none else some q') = some q := h'
      cases e3 : nA q'.1 q'.2.1 q'.2.2 with
      | some _ =>
        rw [e3] at h2
        cases h2
      | none =>
        rw [e3] at h2
        have h3 : q' = q := Option.some.inj h2
        subst h3
        exact ⟨rfl, e3⟩
theorem ex_LY (hI : IC L H n Q V) (h0 : 0 < hn H) (h1 : ∀ c i j, isL n Q' c i j → nA c i j = none → isL n Q c i j) (h2 : ∀ c i j a, nA c i j = some a → hn H ≤ a ∧ hc H1 a = kC c j ∧ (kL n c j ≠ 0 → hl H1 a = kL n c j)) (h3 : ∀ a q, nu a = some q → nA q.1 q.2.1 q.2.2 = some a) (h3' : ∀ c i j a, nA c i j = some a → nu a = some (c, i, j)) (h4 : ∀ a, a < hn H → hc H1 a = hc H a ∧ hl H1 a = hl H a) : LY (exL L nA nu) H1 n Q' := by
  refine ⟨fun a q h => ?_, fun c i j h => ?_⟩
  · rcases ex_i h with e | ⟨_, e, e2⟩
    · exact ex_n (h3 a q e)
    · rw [ex_o e2]
      exact hI.1.1 a q e
  · cases e : nA c i j with
    | some a =>
      obtain ⟨b1, b2, b3⟩ := h2 c i j a e
      unfold lvK
      rw [ex_n e]
      exact ⟨ex_2n (h3' c i j a e), by omega, b2, b3⟩
    | none =>
      obtain ⟨b1, b2, b3, b4⟩ := hI.1.2 c i j (h1 c i j h e)
      have lt := (hI.2.1 _ _ b1).1
      unfold lvK
      rw [ex_o e, (h4 _ lt).1, (h4 _ lt).2]
      refine ⟨ex_2o ?_ b1 e, b2, b3, b4⟩
      cases e2 : nu (L.1 c i j) with
      | none => rfl
      | some q =>
        have := (h2 _ _ _ _ (h3 _ _ e2)).1
        omega
theorem ex_IC (hI : IC L H n Q V) (hle : hn H ≤ hn H1) (hL : LY (exL L nA nu) H1 n Q') (h2 : ∀ a q, nu a = some q → a < hn H1 ∧ hi H1 a = V1 q.1 q.2.1 q.2.2 ∧ hr H1 a = RF n (exL L nA nu) Q' q.1 q.2.1 q.2.2) (h3 : ∀ a q, L.2 a = some q → nA q.1 q.2.1 q.2.2 = none → hi H1 a = V1 q.1 q.2.1 q.2.2 ∧ hr H1 a = RF n (exL L nA nu) Q' q.1 q.2.1 q.2.2) (h5 : ∀ a q, nu a = some q → stK q.1 q.2.1 q.2.2) : IC (exL L nA nu) H1 n Q' V1 := by
  refine ⟨hL, fun a q h => ?_, fun a q h => by
    rcases ex_i h with e | ⟨_, e, _⟩
    · exact h5 a q e
    · exact hI.2.2 a q e⟩
  rcases ex_i h with e | ⟨_, e, e2⟩
  · exact h2 a q e
  · exact ⟨Nat.lt_of_lt_of_le (hI.2.1 a q e).1 hle, h3 a q e e2⟩
end
section
variable {L : Ly} {H : Hp} {n : Nat} {Q : Qt} {V : Vt} {c i j : Nat}
theorem IC_hi (hI : IC L H n Q V) (h : isL n Q c i j) : hi H (L.1 c i j) = V c i j := (hI.2.1 _ _ (hI.1.2 c i j h).1).2.1
theorem IC_hr (hI : IC L H n Q V) (h : isL n Q c i j) : hr H (L.1 c i j) = RF n L Q c i j := (hI.2.1 _ _ (hI.1.2 c i j h).1).2.2
theorem IC_lt (hI : IC L H n Q V) (h : isL n Q c i j) : L.1 c i j < hn H := (hI.2.1 _ _ (hI.1.2 c i j h).1).1
end
/-- x gives a number and a heap -/
def OKP (G : Hp) (x : Option (Int32 × Hp)) (P : Int32 → Hp → Prop) : Prop := ∃ v y, x = some (v, y) ∧ (hn G ≤ hn y ∧ hs G ≤ hs y) ∧ P v y
section
variable {G G1 : Hp} {x : Option (Int32 × Hp)} {P P' : Int32 → Hp → Prop}
theorem OKP_m (h : OKP G x P) : OKP G (mP G x) P := by
  obtain ⟨v, y, e, m, p⟩ := h
  refine ⟨v, y, ?_, m, p⟩
  rw [e]
  show (if hn G ≤ hn y ∧ hs G ≤ hs y then some (v, y) else none) = some (v, y)
  rw [if_pos m]
theorem OKP_g {c : Prop} [Decidable c] (hc : c) (h : OKP G x P) : OKP G (gd c x) P := by rw [gd_t hc]; exact h
theorem OKP_d {α : Type} {a : α} {f : α → Option (Int32 × Hp)} (h : OKP G (f a) P) : OKP G (bd a f) P := h
theorem OKP_t (h : OKP G1 x P) (h1 : hn G ≤ hn G1) (h2 : hs G ≤ hs G1) : OKP G x P := by
  obtain ⟨v, y, e, m, p⟩ := h
  exact ⟨v, y, e, ⟨Nat.le_trans h1 m.1, Nat.le_trans h2 m.2⟩, p⟩
theorem OKP_s {v : Int32} (h : P v G) : OKP G (some (v, G)) P := ⟨v, G, rfl, ⟨Nat.le_refl _, Nat.le_refl _⟩, h⟩
theorem OKP_o {y : Option Hp} {Py : Hp → Prop} {f : Hp → Option (Int32 × Hp)} (h : OKM G y Py) (k : ∀ y, Py y → hn G ≤ hn y → hs G ≤ hs y → OKP y (f y) P) : OKP G (bo y f) P := by
  obtain ⟨y, e, m, p⟩ := h
  rw [e, bo_e]
  exact OKP_t (k y p m.1 m.2) m.1 m.2
end
