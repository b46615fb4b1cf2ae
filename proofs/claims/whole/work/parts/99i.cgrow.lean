/-! THE CLASS IS MADE: blocks of cells, one after another, each hung into a row -/
abbrev Bq : Type := Nat × Nat × (Nat → Int32) × (Nat → Nat)
def CX (G : Hp) (a : Nat) (q : Bq) : Prop := CE G a q.1 q.2.1 q.2.2.1 q.2.2.2
theorem CX.mv {G G' : Hp} {a : Nat} {q : Bq} (h : CX G a q) (s : Sm a G G') : CX G' a q := CE.mv h s
theorem Sm_sR {G : Hp} {a w k v : Nat} (h : a ≠ w) : Sm a G (sR G w k v) := ⟨rfl, rfl, rfl, by rw [sR_hr, if_neg h]⟩
theorem Sm_sI {G : Hp} {a w k : Nat} {v : Int32} (h : a ≠ w) : Sm a G (sI G w k v) := ⟨rfl, rfl, by rw [sI_hi, if_neg h], rfl⟩
theorem Sm_nC {G : Hp} {a t l z : Nat} (h : a < hn G) : Sm a G (nC G t l z) := by
  have ne : a ≠ hn G := by omega
  refine ⟨?_, ?_, ?_, ?_⟩
  · rw [nC_hc, if_neg ne]
  · rw [nC_hl, if_neg ne]
  · rw [nC_hi, if_neg ne]
  · rw [nC_hr, if_neg ne]
theorem CE_nC {G : Hp} {t l z : Nat} : CE (nC G t l z) (hn G) t l (fun _ => 0) (fun _ => 0) := by
  refine ⟨?_, ?_, ?_, ?_⟩
  · rw [nC_hc, if_pos rfl]
  · rw [nC_hl, if_pos rfl]
  · rw [nC_hi, if_pos rfl]
  · rw [nC_hr, if_pos rfl]
theorem CE_sR {G : Hp} {a t l k v : Nat} {f : Nat → Int32} {g : Nat → Nat} (h : CE G a t l f g) : CE (sR G a k v) a t l f (va_up g k v) := ⟨h.1, h.2.1, h.2.2.1, by rw [sR_hr, if_pos rfl, h.2.2.2]⟩
theorem CE_sI {G : Hp} {a t l k : Nat} {v : Int32} {f : Nat → Int32} {g : Nat → Nat} (h : CE G a t l f g) : CE (sI G a k v) a t l (va_up f k v) g := ⟨h.1, h.2.1, by rw [sI_hi, if_pos rfl, h.2.2.1], h.2.2.2⟩
def GL (w : Nat) (H0 : Hp) (sz M off : Nat) (B : Nat → Nat → Nat → Bq) (v : Nat) (H : Hp) : Prop :=
  (hn H = hn H0 + sz * v ∧ hs H0 ≤ hs H ∧ hs H ≤ hs H0 + M * v) ∧ (∀ a, a < hn H0 → a ≠ w → Sm a H0 H) ∧ (hc H w = hc H0 w ∧ hl H w = hl H0 w ∧ hi H w = hi H0 w ∧ hr H w = fun k => if k < v then hn H0 + sz * k + off else 0) ∧ ∀ u i, u < v → i < sz → CX H (hn H0 + sz * u + i) (B u (hn H0 + sz * u) i)
section
variable {w sz M off v : Nat} {H0 H H' : Hp} {B : Nat → Nat → Nat → Bq}
theorem GL_0 (h : hr H0 w = fun _ => 0) : GL w H0 sz M off B 0 H0 := by
  refine ⟨⟨rfl, Nat.le_refl _, Nat.le_refl _⟩, fun a _ _ => Sm.refl a H0, ⟨rfl, rfl, rfl, ?_⟩, fun u i hu => absurd hu (Nat.not_lt_zero _)⟩
  rw [h]
  funext k
  rw [if_neg (Nat.not_lt_zero _)]
theorem GL_s (h : GL w H0 sz M off B v H) (lw : w < hn H0) (n1 : hn H' = hn H + sz) (s1 : hs H ≤ hs H') (s2 : hs H' ≤ hs H + M) (sm : ∀ a, a < hn H → Sm a H H') (bl : ∀ i, i < sz → CX H' (hn H + i) (B v (hn H) i)) : GL w H0 sz M off B (v + 1) (sR H' w v (hn H + off)) := by
  obtain ⟨⟨a1, a2, a3⟩, b, ⟨c1, c2, c3, c4⟩, d⟩ := h
  have e1 : sz * (v + 1) = sz * v + sz := Nat.mul_succ _ _
  have e2 : M * (v + 1) = M * v + M := Nat.mul_succ _ _
  have sw := sm w (by omega)
  refine ⟨⟨?_, ?_, ?_⟩, fun a la na => ?_, ⟨sw.1.trans c1, sw.2.1.trans c2, sw.2.2.1.trans c3, ?_⟩, fun u i hu hi => ?_⟩
  · rw [sR_hn]
    omega
  · rw [sR_hs]
    omega
  · rw [sR_hs]
    omega
  · exact ((b a la na).trans (sm a (by omega))).trans (Sm_sR na)
  · rw [sR_hr, if_pos rfl, sw.2.2.2, c4]
    funext k
    rw [vu_a]
    by_cases c : k = v
    · rw [if_pos c, if_pos (by omega), c, a1]
    · rw [if_neg c]
      by_cases c2 : k < v
      · rw [if_pos c2, if_pos (by omega)]
      · rw [if_neg c2, if_neg (by omega)]
  · by_cases c : u = v
    · rw [c, ← a1]
      exact (bl i hi).mv (Sm_sR (by omega))
    · have lt : u + 1 ≤ v := by omega
      have le := Nat.mul_le_mul_left sz lt
      rw [Nat.mul_succ] at le
      exact ((d u i (by omega) hi).mv (sm _ (by omega))).mv (Sm_sR (by omega))
end
section
variable {H G : Hp} {t z m : Nat} {T Ln : Nat → Nat} {f : Nat → Int32} {g : Nat → Nat} {F : Nat → Nat → Int32}
theorem ND_bl (h : ND (nC H t 0 z) (hn H) t T Ln m f g F G) : (hn G = hn H + (m + 1) ∧ hs H ≤ hs G ∧ hs G ≤ hs H + z + 400 * m) ∧ (∀ a, a < hn H → Sm a H G) ∧ CE G (hn H) t 0 f g ∧ ∀ i, i < m → CE G (hn H + 1 + i) (T i) (Ln i) (F i) (fun _ => 0) := by
  obtain ⟨⟨a1, a2, a3, a4⟩, b, ⟨c1, c2, c3, c4⟩, d⟩ := h
  rw [nC_hn] at a1
  rw [nC_hs] at a2 a3
  refine ⟨⟨by omega, by omega, by omega⟩, fun a la => (Sm_nC la).trans (b a (by rw [nC_hn]; omega) (by omega)), ⟨c1, ?_, c3, c4⟩, fun i hi => ?_⟩
  · rw [c2, nC_hl, if_pos rfl]
  · have := d i hi
    rw [nC_hn] at this
    exact this
end
/-- wires -/
def kwB (u a i : Nat) : Bq := if i = 0 then (8, 0, mwiF (nI u), mwiG (a + 1)) else (mwiT (i - 1), mwiL (i - 1), mwiR (i - 1), fun _ => 0)
def WP (w y : Nat) (H0 : Hp) (G : Hp) : Prop := ∃ K, GL w H0 4 1212 0 kwB 16 K ∧ hn G = hn K ∧ hs G = hs K ∧ (∀ b, b ≠ y → Sm b K G) ∧ CE G y 11 16 (flF (hi H0 y) (-1) 16) (hr H0 y)
theorem P_w53 {x w y : Nat} {H0 : Hp} (lx : x < hn H0) (lw : w < hn H0) (ly : y < hn H0) (hx : hc H0 x = 3) (e0 : hr H0 x 0 = w) (e3 : hr H0 x 3 = y) (hw : hc H0 w = 20 ∧ hl H0 w = 16) (hy : hc H0 y = 11 ∧ hl H0 y = 16) : ∀ (N v : Nat) (H : Hp), v ≤ 16 → 16 - v < N → GL w H0 4 1212 0 kwB v H → OKM H (d_X2_init_53 N x (nI v) H) (WP w y H0) := by
  intro N
  have xw : x ≠ w := fun q => by rw [q, hw.1] at hx; cases hx
  have yw : y ≠ w := fun q => by rw [q, hw.1] at hy; cases hy.1
  induction N with
  | zero => intro v _ _ h; omega
  | succ N ih =>
    intro v H hv hlt hF
    obtain ⟨⟨a1, a2, a3⟩, b, ⟨c1, c2, c3, c4⟩, d⟩ := id hF
    obtain ⟨x1, x2, x3, x4⟩ := b x lx xw
    obtain ⟨y1, y2, y3, y4⟩ := b y ly yw
    have ex0 : hr H x 0 = w := by rw [x4, e0]
    have ex3 : hr H x 3 = y := by rw [x4, e3]
    rw [d_X2_init_53.eq_2, show (16 : Int32) = nI 16 from rfl]
    refine OKM_m ?_
    by_cases he : v = 16
    · subst he
      rw [if_pos (nI_le (Nat.le_refl _) (by decide)), ex3]
      refine OKM_g (x1.trans hx) ?_
      obtain ⟨G', f1, f2, f3, f4, f5, f6, f7, f8⟩ := P_fill (G := H) (a := y) (v := -1) (len := 16) (y1.trans hy.1) (y2.trans hy.2) (by decide)
      rw [f1, bo_e]
      refine OKM_g ⟨f2, f3⟩ ?_
      refine OKM_t (OKM_s ⟨H, hF, f2, f3, f4, f5, f6, ?_, ?_⟩) (Nat.le_of_eq f2.symm) (Nat.le_of_eq f3.symm)
      · rw [f7, y3]
      · rw [f8, y4]
    · have hv4 : v < 16 := by omega
      rw [if_neg (nI_ge hv4 (by decide)), ex0, nI_clamp (by omega), nI_1]
      refine OKM_g (x1.trans hx) (OKM_d (OKM_d (OKM_t (G1 := nC H 8 0 12) (OKM_m ?_) (Nat.le_succ _) (Nat.le_add_right _ _))))
      obtain ⟨n1, n2, n3, n4⟩ := CE_nC (G := H) (t := 8) (l := 0) (z := 12)
      refine OKM_g n1 (OKM_o (P_wire (v := nI v) (Nat.lt_succ_self _) n1 n3 n4) (fun G1 d1 l1 l2 => OKM_g ⟨l1, l2⟩ (OKM_m ?_)))
      obtain ⟨⟨o1, o2, o3⟩, os, oc, od⟩ := ND_bl d1
      obtain ⟨s1, s2, s3, s4⟩ := os w (by omega)
      refine OKM_g ⟨⟨s1.trans (c1.trans hw.1), (ix_nI (by omega)).mpr (by rw [s2, c2, hw.2]; exact hv4)⟩, Or.inr oc.1⟩ (OKM_d ?_)
      refine OKM_t (G1 := sR G1 w v (hn H)) (ih (v + 1) _ (by omega) (by omega) (GL_s (off := 0) hF lw o1 o2 (by omega) os (fun i hi => ?_))) (Nat.le_refl _) (Nat.le_refl _)
      unfold kwB
      by_cases hi0 : i = 0
      · rw [if_pos hi0, hi0]
        exact oc
      · rw [if_neg hi0]
        have := od (i - 1) (by omega)
        rw [show hn H + 1 + (i - 1) = hn H + i by omega] at this
        exact this
/-- x gives an address and a heap -/
def OKN (G : Hp) (x : Option (Nat × Hp)) (P : Nat → Hp → Prop) : Prop := ∃ v y, x = some (v, y) ∧ (hn G ≤ hn y ∧ hs G ≤ hs y) ∧ P v y
section
variable {G G1 : Hp} {x : Option (Nat × Hp)} {P P' : Nat → Hp → Prop}
theorem OKN_m (h : OKN G x P) : OKN G (mP G x) P := by
  obtain ⟨v, y, e, m, p⟩ := h
  refine ⟨v, y, ?_, m, p⟩
  rw [e]
  show (if hn G ≤ hn y ∧ hs G ≤ hs y then some (v, y) else none) = some (v, y)
  rw [if_pos m]
theorem OKN_g {c : Prop} [Decidable c] (hc : c) (h : OKN G x P) : OKN G (gd c x) P := by rw [gd_t hc]; exact h
theorem OKN_d {α : Type} {a : α} {f : α → Option (Nat × Hp)} (h : OKN G (f a) P) : OKN G (bd a f) P := h
theorem OKN_t (h : OKN G1 x P) (h1 : hn G ≤ hn G1) (h2 : hs G ≤ hs G1) : OKN G x P := by
  obtain ⟨v, y, e, m, p⟩ := h
  exact ⟨v, y, e, ⟨Nat.le_trans h1 m.1, Nat.le_trans h2 m.2⟩, p⟩
theorem OKN_s {v : Nat} (h : P v G) : OKN G (some (v, G)) P := ⟨v, G, rfl, ⟨Nat.le_refl _, Nat.le_refl _⟩, h⟩
theorem OKN_o {y : Option Hp} {Py : Hp → Prop} {f : Hp → Option (Nat × Hp)} (h : OKM G y Py) (k : ∀ y, Py y → hn G ≤ hn y → hs G ≤ hs y → OKN y (f y) P) : OKN G (bo y f) P := by
  obtain ⟨y, e, m, p⟩ := h
  rw [e, bo_e]
  exact OKN_t (k y p m.1 m.2) m.1 m.2
theorem OKN_w (h : OKN G x P') (k : ∀ v y, P' v y → P v y) : OKN G x P := by
  obtain ⟨v, y, e, m, p⟩ := h
  exact ⟨v, y, e, m, k v y p⟩
theorem OKM_b {f : Nat → Hp → Option Hp} {R : Hp → Prop} (h : OKN G x P') (k : ∀ v y, P' v y → hn G ≤ hn y → hs G ≤ hs y → OKM y (f v y) R) : OKM G (b2 x f) R := by
  obtain ⟨v, y, e, m, p⟩ := h
  rw [e, b2_e]
  exact OKM_t (k v y p m.1 m.2) m.1 m.2
end
/-- trees of a router: net x, ports' row c -/
def ktB (x r c : Nat) (u a i : Nat) : Bq := if i = 0 then (6, 0, mtrF (nI r) (nI u), mtrG (a + 1) x c) else (11, mtrL (i - 1), mtrR (i - 1), fun _ => 0)
def TP (x r c w : Nat) (H0 : Hp) (q : Nat) (G : Hp) : Prop := ∃ K, GL w H0 6 2016 0 (ktB x r c) 8 K ∧ q = hn K ∧ (hn G = hn K + 1 ∧ hs K ≤ hs G ∧ hs G ≤ hs K + 4) ∧ (∀ b, b < hn K → Sm b K G) ∧ CE G (hn K) 5 0 (mroF (nI r)) (mroG x c w)
theorem P_mr14 {x r c w : Nat} {H0 : Hp} (lw : w < hn H0) (hw : hc H0 w = 18 ∧ hl H0 w = 8) : ∀ (N g : Nat) (H : Hp), g ≤ 8 → 8 - g < N → GL w H0 6 2016 0 (ktB x r c) g H → OKN H (d_X8_makeRouter_14 N x (nI r) c w (nI g) H) (TP x r c w H0) := by
  intro N
  induction N with
  | zero => intro v _ _ h; omega
  | succ N ih =>
    intro v H hv hlt hF
    obtain ⟨⟨a1, a2, a3⟩, b, ⟨c1, c2, c3, c4⟩, d⟩ := id hF
    rw [d_X8_makeRouter_14.eq_2, show (8 : Int32) = nI 8 from rfl]
    refine OKN_m ?_
    by_cases he : v = 8
    · subst he
      rw [if_pos (nI_le (Nat.le_refl _) (by decide))]
      refine OKN_d (OKN_d (OKN_t (G1 := nC H 5 0 4) (OKN_m ?_) (Nat.le_succ _) (Nat.le_add_right _ _)))
      obtain ⟨n1, n2, n3, n4⟩ := CE_nC (G := H) (t := 5) (l := 0) (z := 4)
      refine OKN_g n1 ?_
      obtain ⟨y, e, y1, y2, d1⟩ := P_router (H := nC H 5 0 4) (x := hn H) (x1 := x) (x3 := c) (x4 := w) (r := nI r) (Nat.lt_succ_self _) n1 n3 n4
      rw [e, bo_e]
      refine OKN_g ⟨y1, y2⟩ ?_
      obtain ⟨⟨o1, o2, o3⟩, os, oc, od⟩ := ND_bl d1
      exact OKN_t (OKN_s ⟨H, hF, rfl, ⟨o1, o2, by omega⟩, os, oc⟩) (Nat.le_of_eq y1.symm) (Nat.le_of_eq y2.symm)
    · have hv4 : v < 8 := by omega
      rw [if_neg (nI_ge hv4 (by decide)), nI_clamp (by omega), nI_1]
      refine OKN_d (OKN_d (OKN_t (G1 := nC H 6 0 16) (OKN_m ?_) (Nat.le_succ _) (Nat.le_add_right _ _)))
      obtain ⟨n1, n2, n3, n4⟩ := CE_nC (G := H) (t := 6) (l := 0) (z := 16)
      refine OKN_g n1 (OKN_o (P_tree (x1 := x) (x4 := c) (r := nI r) (g := nI v) (Nat.lt_succ_self _) n1 n3 n4) (fun G1 d1 l1 l2 => OKN_g ⟨l1, l2⟩ (OKN_m ?_)))
      obtain ⟨⟨o1, o2, o3⟩, os, oc, od⟩ := ND_bl d1
      obtain ⟨s1, s2, s3, s4⟩ := os w (by omega)
      refine OKN_g ⟨⟨s1.trans (c1.trans hw.1), (ix_nI (by omega)).mpr (by rw [s2, c2, hw.2]; exact hv4)⟩, Or.inr oc.1⟩ (OKN_d ?_)
      refine OKN_t (G1 := sR G1 w v (hn H)) (ih (v + 1) _ (by omega) (by omega) (GL_s (off := 0) hF lw o1 o2 (by omega) os (fun i hi => ?_))) (Nat.le_refl _) (Nat.le_refl _)
      unfold ktB
      by_cases hi0 : i = 0
      · rw [if_pos hi0, hi0]
        exact oc
      · rw [if_neg hi0]
        have := od (i - 1) (by omega)
        rw [show hn H + 1 + (i - 1) = hn H + i by omega] at this
        exact this
/-- a router of net x: ports' row, trees' row, trees, itself -/
def krB (x : Nat) (r a i : Nat) : Bq := if i = 0 then (16, 4, fun _ => 0, fun _ => 0) else if i = 1 then (18, 8, fun _ => 0, fun k => if k < 8 then a + 2 + 6 * k else 0) else if i = 50 then (5, 0, mroF (nI r), mroG x a (a + 1)) else ktB x r a ((i - 2) / 6) (a + 2 + 6 * ((i - 2) / 6)) ((i - 2) % 6)
def MRP (x r : Nat) (H : Hp) (q : Nat) (G : Hp) : Prop := q = hn H + 50 ∧ (hn G = hn H + 51 ∧ hs H ≤ hs G ∧ hs G ≤ hs H + 16200) ∧ (∀ b, b < hn H → Sm b H G) ∧ ∀ i, i < 51 → CX G (hn H + i) (krB x r (hn H) i)
theorem P_mr {x r : Nat} {H : Hp} : OKN H (d_X8_makeRouter x (nI r) H) (MRP x r H) := by
  unfold d_X8_makeRouter
  refine OKN_m (OKN_d (OKN_d (OKN_t (G1 := nC H 16 4 4) (OKN_m ?_) (Nat.le_succ _) (Nat.le_add_right _ _))))
  refine OKN_d (OKN_d (OKN_t (G1 := nC (nC H 16 4 4) 18 8 8) (OKN_m ?_) (Nat.le_succ _) (Nat.le_add_right _ _)))
  have n0 : CE (nC (nC H 16 4 4) 18 8 8) (hn H) 16 4 (fun _ => 0) (fun _ => 0) := CE_nC.mv (Sm_nC (Nat.lt_succ_self _))
  have n1 : CE (nC (nC H 16 4 4) 18 8 8) (hn H + 1) 18 8 (fun _ => 0) (fun _ => 0) := CE_nC
  have k1 := P_mr14 (x := x) (r := r) (c := hn H) (w := hn H + 1) (H0 := nC (nC H 16 4 4) 18 8 8) (show hn H + 1 < hn H + 1 + 1 by omega) ⟨n1.1, n1.2.1⟩ FU 0 _ (by omega) (by decide) (GL_0 n1.2.2.2)
  refine OKN_w k1 (fun q G h => ?_)
  obtain ⟨K, ⟨⟨a1, a2, a3⟩, b, ⟨c1, c2, c3, c4⟩, d⟩, rfl, ⟨g1, g2, g3⟩, gs, gc⟩ := h
  have e0 : hn (nC (nC H 16 4 4) 18 8 8) = hn H + 2 := rfl
  have e1 : hs (nC (nC H 16 4 4) 18 8 8) = hs H + 4 + 8 := rfl
  rw [e0] at a1 b c4 d
  rw [e1] at a2 a3
  refine ⟨by omega, ⟨by omega, by omega, by omega⟩, fun a la => ?_, fun i hi => ?_⟩
  · have s1 : Sm a H (nC H 16 4 4) := Sm_nC la
    have s2 : Sm a (nC H 16 4 4) (nC (nC H 16 4 4) 18 8 8) := Sm_nC (by rw [nC_hn]; omega)
    exact ((s1.trans s2).trans (b a (by omega) (by omega))).trans (gs a (by omega))
  · unfold krB
    by_cases i0 : i = 0
    · rw [if_pos i0, i0]
      exact (n0.mv (b _ (by omega) (by omega))).mv (gs _ (by omega))
    · rw [if_neg i0]
      by_cases i1 : i = 1
      · rw [if_pos i1, i1]
        have cw : CE K (hn H + 1) 18 8 (fun _ => 0) (fun k => if k < 8 then hn H + 2 + 6 * k else 0) := ⟨c1.trans n1.1, c2.trans n1.2.1, c3.trans n1.2.2.1, c4⟩
        exact cw.mv (gs _ (by omega))
      · rw [if_neg i1]
        by_cases i50 : i = 50
        · rw [if_pos i50, i50, show hn H + 50 = hn K by omega]
          exact gc
        · rw [if_neg i50]
          have h1 := (d ((i - 2) / 6) ((i - 2) % 6) (by omega) (by omega)).mv (gs _ (by omega))
          rw [show hn H + 2 + 6 * ((i - 2) / 6) + (i - 2) % 6 = hn H + i by omega] at h1
          exact h1
/-- routers -/
theorem P_r51 {x y w n : Nat} {H0 : Hp} (n10 : n ≤ 10) (lx : x < hn H0) (lw : w < hn H0) (hx : hc H0 x = 9) (e0 : hr H0 x 0 = y) (e1 : hr H0 x 1 = w) (hw : hc H0 w = 17 ∧ hl H0 w = n) : ∀ (N v : Nat) (H : Hp), v ≤ n → n - v < N → GL w H0 51 16200 50 (krB y) v H → OKM H (d_X8_init_51 N x (nI n) (nI v) H) (GL w H0 51 16200 50 (krB y) n) := by
  intro N
  have xw : x ≠ w := fun q => by rw [q, hw.1] at hx; cases hx
  induction N with
  | zero => intro v _ _ h; omega
  | succ N ih =>
    intro v H hv hlt hF
    obtain ⟨⟨a1, a2, a3⟩, b, ⟨c1, c2, c3, c4⟩, d⟩ := id hF
    obtain ⟨x1, x2, x3, x4⟩ := b x lx xw
    have ex0 : hr H x 0 = y := by rw [x4, e0]
    have ex1 : hr H x 1 = w := by rw [x4, e1]
    rw [d_X8_init_51.eq_2]
    refine OKM_m ?_
    by_cases he : v = n
    · subst he
      rw [if_pos (nI_le (Nat.le_refl _) (by omega))]
      exact OKM_s hF
    · have hv4 : v < n := by omega
      rw [if_neg (nI_ge hv4 (by omega)), ex0, ex1, nI_clamp (by omega), nI_1]
      refine OKM_g (x1.trans hx) (OKM_b P_mr (fun q G1 d1 l1 l2 => OKM_g ⟨l1, l2⟩ (OKM_m ?_)))
      obtain ⟨rfl, ⟨o1, o2, o3⟩, os, od⟩ := d1
      obtain ⟨s1, s2, s3, s4⟩ := os w (by omega)
      have o50 : CX G1 (hn H + 50) (5, 0, mroF (nI v), mroG y (hn H) (hn H + 1)) := od 50 (by decide)
      refine OKM_g ⟨⟨s1.trans (c1.trans hw.1), (ix_nI (by omega)).mpr (by rw [s2, c2, hw.2]; exact hv4)⟩, Or.inr o50.1⟩ (OKM_d ?_)
      exact OKM_t (G1 := sR G1 w v (hn H + 50)) (ih (v + 1) _ (by omega) (by omega) (GL_s (off := 50) hF lw o1 o2 (by omega) os od)) (Nat.le_refl _) (Nat.le_refl _)
