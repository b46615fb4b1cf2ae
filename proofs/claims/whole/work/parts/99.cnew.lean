/-! A CELL AND ITS ROWS: x of kind t lies there; since H, m rows were made -/
def Sm (a : Nat) (H G : Hp) : Prop := hc G a = hc H a ∧ hl G a = hl H a ∧ hi G a = hi H a ∧ hr G a = hr H a
theorem Sm.trans {a : Nat} {H G K : Hp} (h : Sm a H G) (k : Sm a G K) : Sm a H K := ⟨k.1.trans h.1, k.2.1.trans h.2.1, k.2.2.1.trans h.2.2.1, k.2.2.2.trans h.2.2.2⟩
theorem Sm.refl (a : Nat) (H : Hp) : Sm a H H := ⟨rfl, rfl, rfl, rfl⟩
def ND (H : Hp) (x t : Nat) (T Ln : Nat → Nat) (m : Nat) (f : Nat → Int32) (g : Nat → Nat) (F : Nat → Nat → Int32) (G : Hp) : Prop := (hn G = hn H + m ∧ hs H ≤ hs G ∧ hs G ≤ hs H + 400 * m ∧ x < hn H) ∧ (∀ a, a < hn H → a ≠ x → Sm a H G) ∧ (hc G x = t ∧ hl G x = hl H x ∧ hi G x = f ∧ hr G x = g) ∧ ∀ i, i < m → hc G (hn H + i) = T i ∧ hl G (hn H + i) = Ln i ∧ hi G (hn H + i) = F i ∧ hr G (hn H + i) = fun _ => 0
section
variable {H G : Hp} {x t m k : Nat} {T Ln : Nat → Nat} {f : Nat → Int32} {g : Nat → Nat} {F : Nat → Nat → Int32} {P : Hp → Prop}
theorem ND_0 (h : x < hn H) (h1 : hc H x = t) (h2 : hi H x = f) (h3 : hr H x = g) : ND H x t T Ln 0 f g F H := ⟨⟨rfl, Nat.le_refl _, Nat.le_refl _, h⟩, fun a _ _ => Sm.refl a H, ⟨h1, rfl, h2, h3⟩, fun i hi => absurd hi (Nat.not_lt_zero _)⟩
theorem ND_I {v : Int32} (h : ND H x t T Ln m f g F G) : ND H x t T Ln m (va_up f k v) g F (sI G x k v) := by
  obtain ⟨⟨a1, a2, a3, a4⟩, b, ⟨c1, c2, c3, c4⟩, d⟩ := h
  refine ⟨⟨a1, a2, a3, a4⟩, fun a h1 h2 => ?_, ⟨c1, c2, ?_, c4⟩, fun i hi => ?_⟩
  · obtain ⟨o1, o2, o3, o4⟩ := b a h1 h2
    refine ⟨o1, o2, ?_, o4⟩
    rw [sI_hi, if_neg h2, o3]
  · rw [sI_hi, if_pos rfl, c3]
  · obtain ⟨o1, o2, o3, o4⟩ := d i hi
    refine ⟨o1, o2, ?_, o4⟩
    rw [sI_hi, if_neg (by omega), o3]
theorem ND_R {v : Nat} (h : ND H x t T Ln m f g F G) : ND H x t T Ln m f (va_up g k v) F (sR G x k v) := by
  obtain ⟨⟨a1, a2, a3, a4⟩, b, ⟨c1, c2, c3, c4⟩, d⟩ := h
  refine ⟨⟨a1, a2, a3, a4⟩, fun a h1 h2 => ?_, ⟨c1, c2, c3, ?_⟩, fun i hi => ?_⟩
  · obtain ⟨o1, o2, o3, o4⟩ := b a h1 h2
    refine ⟨o1, o2, o3, ?_⟩
    rw [sR_hr, if_neg h2, o4]
  · rw [sR_hr, if_pos rfl, c4]
  · obtain ⟨o1, o2, o3, o4⟩ := d i hi
    refine ⟨o1, o2, o3, ?_⟩
    rw [sR_hr, if_neg (by omega), o4]
theorem ND_N {t' l : Nat} (h : ND H x t T Ln m f g F G) (h1 : T m = t') (h2 : Ln m = l) (h3 : l ≤ 400) (h4 : F m = fun _ => 0) : ND H x t T Ln (m + 1) f g F (nC G t' l l) := by
  obtain ⟨⟨a1, a2, a3, a4⟩, b, ⟨c1, c2, c3, c4⟩, d⟩ := h
  refine ⟨⟨?_, ?_, ?_, a4⟩, fun a h1 h2 => ?_, ⟨?_, ?_, ?_, ?_⟩, fun i hi => ?_⟩
  · rw [nC_hn, a1]
    omega
  · rw [nC_hs]
    omega
  · rw [nC_hs]
    omega
  · have ne : a ≠ hn G := by omega
    obtain ⟨o1, o2, o3, o4⟩ := b a h1 h2
    refine ⟨?_, ?_, ?_, ?_⟩
    · rw [nC_hc, if_neg ne, o1]
    · rw [nC_hl, if_neg ne, o2]
    · rw [nC_hi, if_neg ne, o3]
    · rw [nC_hr, if_neg ne, o4]
  · rw [nC_hc, if_neg (by omega), c1]
  · rw [nC_hl, if_neg (by omega), c2]
  · rw [nC_hi, if_neg (by omega), c3]
  · rw [nC_hr, if_neg (by omega), c4]
  · rw [nC_hc, nC_hl, nC_hi, nC_hr]
    by_cases e : i = m
    · have ne : hn H + i = hn G := by omega
      rw [if_pos ne, if_pos ne, if_pos ne, if_pos ne, e, h1, h2, h4]
      exact ⟨rfl, rfl, rfl, rfl⟩
    · have ne : hn H + i ≠ hn G := by omega
      rw [if_neg ne, if_neg ne, if_neg ne, if_neg ne]
      exact d i (by omega)
/-- filling a row of numbers, in the heap itself -/
theorem P_fill {a len : Nat} {v : Int32} (h1 : hc G a = 11) (h2 : hl G a = len) (h6 : len < 5000) : ∃ G', d_J7_fill_53178 a v G = some G' ∧ hn G' = hn G ∧ hs G' = hs G ∧ (∀ b, b ≠ a → Sm b G G') ∧ hc G' a = 11 ∧ hl G' a = len ∧ hi G' a = flF (hi G a) v len ∧ hr G' a = hr G a := by
  have hS : LSK (fun _ _ _ => a, fun b => if b = a then some (0, 0, 0) else none) := by
    intro b q w
    have w' : (if b = a then some (0, 0, 0) else none) = some q := w
    split at w'
    · rename_i e
      exact e.symm
    · cases w'
  have hlv : lvK (fun _ _ _ => a, fun b => if b = a then some (0, 0, 0) else none) 0 0 0 := if_pos rfl
  have e := C_fill (G := G) (V := fun _ _ _ => hi G a) (R := fun _ _ _ => hr G a) (v := v) hS hlv h1 h2 h6
  have e0 : eK (fun _ _ _ => a, fun b => if b = a then some (0, 0, 0) else none) G (fun _ _ _ => hi G a) (fun _ _ _ => hr G a) = G := by
    refine eK_self (fun b q w => ?_)
    have w' : (if b = a then some (0, 0, 0) else none) = some q := w
    split at w'
    · rename_i e
      rw [e]
      exact ⟨rfl, rfl⟩
    · cases w'
  rw [e0] at e
  refine ⟨_, e, rfl, rfl, fun b hb => ⟨rfl, rfl, ?_, ?_⟩, h1, h2, ?_, ?_⟩
  · show (match (if b = a then some (0, 0, 0) else none : Option (Nat × Nat × Nat)) with | some q => uR _ 0 0 0 _ q.1 q.2.1 q.2.2 | none => hi G b) = hi G b
    rw [if_neg hb]
  · show (match (if b = a then some (0, 0, 0) else none : Option (Nat × Nat × Nat)) with | some q => hr G a | none => hr G b) = hr G b
    rw [if_neg hb]
  · show (match (if a = a then some (0, 0, 0) else none : Option (Nat × Nat × Nat)) with | some q => uR _ 0 0 0 _ q.1 q.2.1 q.2.2 | none => hi G a) = _
    rw [if_pos rfl]
    exact uR_s
  · show (match (if a = a then some (0, 0, 0) else none : Option (Nat × Nat × Nat)) with | some q => hr G a | none => hr G a) = _
    rw [if_pos rfl]
theorem NI {v : Int32} {rest : Hp → Option Hp} (h : ND H x t T Ln m f g F G) (k' : ∀ G', ND H x t T Ln m (va_up f k v) g F G' → OKM G' (rest G') P) : OKM G (gd (hc G x = t) <| bd (sI G x k v) rest) P :=
  OKM_g h.2.2.1.1 (OKM_t (k' _ (ND_I h)) (Nat.le_refl _) (Nat.le_refl _))
theorem NR {v : Nat} {rest : Hp → Option Hp} (h : ND H x t T Ln m f g F G) (k' : ∀ G', ND H x t T Ln m f (va_up g k v) F G' → OKM G' (rest G') P) : OKM G (gd (hc G x = t) <| bd (sR G x k v) rest) P :=
  OKM_g h.2.2.1.1 (OKM_t (k' _ (ND_R h)) (Nat.le_refl _) (Nat.le_refl _))
theorem NA {t' l : Nat} {rest : Hp → Option Hp} (h : ND H x t T Ln m f g F G) (h1 : T m = t') (h2 : Ln m = l) (h3 : l ≤ 400) (h4 : F m = fun _ => 0) (k' : ∀ G', ND H x t T Ln (m + 1) f (va_up g k (hn H + m)) F G' → OKM G' (rest G') P) : OKM G (bd (hn G) fun q => bd (nC G t' l l) fun G3 => mV G3 <| gd (hc G3 x = t) <| bd (sR G3 x k q) rest) P := by
  have h5 := ND_N h h1 h2 h3 h4
  refine OKM_d (OKM_d (OKM_t (OKM_m (NR h5 (fun G' h6 => ?_))) (Nat.le_succ _) (Nat.le_add_right _ _)))
  rw [h.1.1] at h6
  exact k' G' h6
theorem NF {i : Nat} {v : Int32} {rest : Hp → Option Hp} (h : ND H x t T Ln m f g F G) (hi : i < m) (h1 : T i = 11) (h2 : Ln i < 5000) (hk : g k = hn H + i) (k' : ∀ G', ND H x t T Ln m f g (va_up F i (flF (F i) v (Ln i))) G' → OKM G' (rest G') P) : OKM G (gd (hc G x = t) <| bo (d_J7_fill_53178 (hr G x k) v G) fun G1 => gd (hn G1 = hn G ∧ hs G1 = hs G) <| rest G1) P := by
  obtain ⟨⟨a1, a2, a3, a4⟩, b, ⟨c1, c2, c3, c4⟩, d⟩ := h
  obtain ⟨d1, d2, d3, d4⟩ := d i hi
  obtain ⟨G', e1, e2, e3, e4, e5, e6, e7, e8⟩ := P_fill (v := v) (d1.trans h1) d2 h2
  refine OKM_g c1 ?_
  rw [c4, hk, e1, bo_e]
  refine OKM_g ⟨e2, e3⟩ (OKM_t (k' G' ?_) (Nat.le_of_eq e2.symm) (Nat.le_of_eq e3.symm))
  have xs := e4 x (by omega)
  refine ⟨⟨by omega, by omega, by omega, a4⟩, fun a h1 h2 => (b a h1 h2).trans (e4 a (by omega)), ⟨xs.1.trans c1, xs.2.1.trans c2, xs.2.2.1.trans c3, xs.2.2.2.trans c4⟩, fun j hj => ?_⟩
  obtain ⟨o1, o2, o3, o4⟩ := d j hj
  by_cases e : j = i
  · subst e
    rw [vu_s, e5, e6, e7, e8, d3, d4, h1]
    exact ⟨rfl, rfl, rfl, rfl⟩
  · obtain ⟨s1, s2, s3, s4⟩ := e4 (hn H + j) (by omega)
    rw [vu_n e]
    exact ⟨s1.trans o1, s2.trans o2, s3.trans o3, s4.trans o4⟩
end
def plT : Nat → Nat := fun _ => 11
def plL : Nat → Nat := fun i => if i = 0 then 10 else if i = 1 then 8 else if i = 2 then 136 else 128
def ptF (r c : Int32) : Nat → Int32 := va_up (va_up (va_up (va_up (va_up (fun _ => 0) 4 0) 5 0) 6 0) 1 r) 3 c
def ptG (b x1 x3 : Nat) : Nat → Nat := va_up (va_up (va_up (va_up (va_up (va_up (va_up (va_up (fun _ => 0) 7 (b + 0)) 8 (b + 1)) 9 (b + 2)) 10 (b + 3)) 11 (b + 4)) 12 (b + 5)) 0 x1) 2 x3
theorem P_port {H : Hp} {x x1 x3 : Nat} {x2 x4 : Int32} (hx : x < hn H) (h1 : hc H x = 4) (h2 : hi H x = fun _ => 0) (h3 : hr H x = fun _ => 0) : OKM H (d_X3_init x x1 x2 x3 x4 H) (ND H x 4 plT plL 6 (ptF x2 x4) (ptG (hn H) x1 x3) (fun _ _ => 0)) := by
  unfold d_X3_init
  refine OKM_m ?_
  refine NI (T := plT) (Ln := plL) (F := fun _ _ => 0) (ND_0 hx h1 h2 h3) (fun G1 d1 => ?_)
  refine NI d1 (fun G2 d2 => ?_)
  refine NI d2 (fun G3 d3 => ?_)
  refine NA d3 rfl rfl (by decide) rfl (fun G4 d4 => ?_)
  refine NA d4 rfl rfl (by decide) rfl (fun G5 d5 => ?_)
  refine NA d5 rfl rfl (by decide) rfl (fun G6 d6 => ?_)
  refine NA d6 rfl rfl (by decide) rfl (fun G7 d7 => ?_)
  refine NA d7 rfl rfl (by decide) rfl (fun G8 d8 => ?_)
  refine NA d8 rfl rfl (by decide) rfl (fun G9 d9 => ?_)
  refine NR d9 (fun G10 d10 => ?_)
  refine NI d10 (fun G11 d11 => ?_)
  refine NR d11 (fun G12 d12 => ?_)
  refine NI d12 (fun G13 d13 => ?_)
  exact OKM_s d13
def hsT : Nat → Nat := fun _ => 11
def hsL : Nat → Nat := fun _ => 400
def hsF (h : Int32) : Nat → Int32 := va_up (va_up (va_up (fun _ => 0) 3 0) 4 0) 0 h
def hsG (b x2 : Nat) : Nat → Nat := va_up (va_up (fun _ => 0) 2 (b + 0)) 1 x2
theorem P_host {H : Hp} {x x2 : Nat} {x1 : Int32} (hx : x < hn H) (h1 : hc H x = 2) (h2 : hi H x = fun _ => 0) (h3 : hr H x = fun _ => 0) : OKM H (d_X1_init x x1 x2 H) (ND H x 2 hsT hsL 1 (hsF x1) (hsG (hn H) x2) (fun _ _ => 0)) := by
  unfold d_X1_init
  refine OKM_m (OKM_g h1 ?_)
  refine NA (T := hsT) (Ln := hsL) (F := fun _ _ => 0) (ND_0 hx h1 h2 h3) rfl rfl (by decide) rfl (fun G4 d4 => ?_)
  refine NI d4 (fun G1 d1 => ?_)
  refine NI d1 (fun G2 d2 => ?_)
  refine NI d2 (fun G3 d3 => ?_)
  refine NR d3 (fun G5 d5 => ?_)
  exact OKM_s d5
