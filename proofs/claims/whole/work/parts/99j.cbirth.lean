/-! THE CLASS IS MADE: the net, the whole -/
def nF : Nat → Int32 := va_up (va_up (fun _ => 0) 4 0) 5 0
def nG (h : Nat) : Nat → Nat := va_up (va_up (va_up (va_up (fun _ => 0) 0 (h + 0)) 2 (h + 1)) 3 (h + 2)) 1 (h + 3)
def nTt : Nat → Nat := fun i => if i = 0 then 20 else 11
def nLl : Nat → Nat := fun i => if i = 1 then 8 else 16
def knB (n h i : Nat) : Bq := if i = 0 then (20, 16, fun _ => 0, fun k => if k < 16 then h + 9 + 4 * k else 0) else if i = 1 then (11, 8, fun _ => 0, fun _ => 0) else if i = 2 then (11, 16, flF (fun _ => 0) (-1) 16, fun _ => 0) else if i = 3 then (7, 0, mwyF n, mwyG (h + 4)) else if i < 9 then (11, mwyL n (i - 4), mwyR (i - 4), fun _ => 0) else kwB ((i - 9) / 4) (h + 9 + 4 * ((i - 9) / 4)) ((i - 9) % 4)
def NP (x n : Nat) (H G : Hp) : Prop := (hn G = hn H + 73 ∧ hs H ≤ hs G ∧ hs G ≤ hs H + 30000) ∧ (∀ a, a < hn H → a ≠ x → Sm a H G) ∧ CE G x 3 0 nF (nG (hn H)) ∧ ∀ i, i < 73 → CX G (hn H + i) (knB n (hn H) i)
theorem P_net {x n : Nat} {H : Hp} (hn1 : 1 ≤ n) (hn10 : n ≤ 10) (lx : x < hn H) (hx : CE H x 3 0 (fun _ => 0) (fun _ => 0)) : OKM H (d_X2_init x (nI n) H) (NP x n H) := by
  unfold d_X2_init
  refine OKM_m (OKM_g hx.1 ?_)
  refine NA (T := nTt) (Ln := nLl) (F := fun _ _ => 0) (ND_0 lx hx.1 hx.2.2.1 hx.2.2.2) rfl rfl (by decide) rfl (fun G1 d1 => ?_)
  refine NA d1 rfl rfl (by decide) rfl (fun G2 d2 => ?_)
  refine NA d2 rfl rfl (by decide) rfl (fun G3 d3 => ?_)
  refine NI d3 (fun G4 d4 => ?_)
  refine NI d4 (fun G5 d5 => ?_)
  refine OKM_d (OKM_d (OKM_t (G1 := nC G5 7 0 7) (OKM_m ?_) (Nat.le_succ _) (Nat.le_add_right _ _)))
  obtain ⟨n1, n2, n3, n4⟩ := CE_nC (G := G5) (t := 7) (l := 0) (z := 7)
  refine OKM_g n1 (OKM_o (P_ways hn1 hn10 (Nat.lt_succ_self _) n1 n3 n4) (fun G6 d6 l1 l2 => OKM_g ⟨l1, l2⟩ (OKM_m ?_)))
  obtain ⟨⟨o1, o2, o3⟩, os, oc, od⟩ := ND_bl d6
  obtain ⟨⟨a1, a2, a3, a4⟩, b, c, d⟩ := d5
  have sx := os x (by omega)
  refine OKM_g (sx.1.trans c.1) (OKM_d ?_)
  have cx : CE (sR G6 x 1 (hn G5)) x 3 0 nF (nG (hn H)) := by
    have c6 : CE G6 x 3 0 nF (va_up (va_up (va_up (fun _ => 0) 0 (hn H + 0)) 2 (hn H + 1)) 3 (hn H + 2)) := CE.mv ⟨c.1, c.2.1.trans hx.2.1, c.2.2.1, c.2.2.2⟩ sx
    have c7 := CE_sR (k := 1) (v := hn G5) c6
    rw [a1] at c7 ⊢
    exact c7
  have eH : hn (sR G6 x 1 (hn G5)) = hn H + 9 := by
    rw [sR_hn]
    omega
  have eS : hs (sR G6 x 1 (hn G5)) = hs G6 := rfl
  have r0 : CE (sR G6 x 1 (hn G5)) (hn H) 20 16 (fun _ => 0) (fun _ => 0) := (CE.mv (d 0 (by decide)) (os _ (by omega))).mv (Sm_sR (by omega))
  have r1 : CE (sR G6 x 1 (hn G5)) (hn H + 1) 11 8 (fun _ => 0) (fun _ => 0) := (CE.mv (d 1 (by decide)) (os _ (by omega))).mv (Sm_sR (by omega))
  have r2 : CE (sR G6 x 1 (hn G5)) (hn H + 2) 11 16 (fun _ => 0) (fun _ => 0) := (CE.mv (d 2 (by decide)) (os _ (by omega))).mv (Sm_sR (by omega))
  have k1 := P_w53 (x := x) (w := hn H) (y := hn H + 2) (H0 := sR G6 x 1 (hn G5)) (by omega) (by omega) (by omega) cx.1 (congrFun cx.2.2.2 0) (congrFun cx.2.2.2 3) ⟨r0.1, r0.2.1⟩ ⟨r2.1, r2.2.1⟩ FU 0 _ (by omega) (by decide) (GL_0 r0.2.2.2)
  refine OKM_t (G1 := sR G6 x 1 (hn G5)) (OKM_w k1 (fun G h => ?_)) (Nat.le_refl _) (Nat.le_refl _)
  obtain ⟨K, ⟨⟨p1, p2, p3⟩, q, ⟨w1, w2, w3, w4⟩, t⟩, g1, g2, gs, gy⟩ := h
  rw [eH] at p1 q w4 t
  rw [eS] at p2 p3
  refine ⟨⟨by omega, by omega, by omega⟩, fun a la na => ?_, (cx.mv (q _ (by omega) (by omega))).mv (gs _ (by omega)), fun i hi => ?_⟩
  · exact ((((b a la na).trans (os a (by omega))).trans (Sm_sR na)).trans (q a (by omega) (by omega))).trans (gs a (by omega))
  · unfold knB
    by_cases i0 : i = 0
    · rw [if_pos i0, i0]
      have cw : CE K (hn H) 20 16 (fun _ => 0) (fun k => if k < 16 then hn H + 9 + 4 * k else 0) := ⟨w1.trans r0.1, w2.trans r0.2.1, w3.trans r0.2.2.1, w4⟩
      exact cw.mv (gs _ (by omega))
    · rw [if_neg i0]
      by_cases i1 : i = 1
      · rw [if_pos i1, i1]
        exact (r1.mv (q _ (by omega) (by omega))).mv (gs _ (by omega))
      · rw [if_neg i1]
        by_cases i2 : i = 2
        · rw [if_pos i2, i2]
          rw [r2.2.2.1, r2.2.2.2] at gy
          exact gy
        · rw [if_neg i2]
          by_cases i3 : i = 3
          · rw [if_pos i3, i3]
            have oc' : CE (sR G6 x 1 (hn G5)) (hn G5) 7 0 (mwyF n) (mwyG (hn G5 + 1)) := oc.mv (Sm_sR (by omega))
            have oc2 := (oc'.mv (q _ (by omega) (by omega))).mv (gs _ (by omega))
            rw [a1] at oc2
            exact oc2
          · rw [if_neg i3]
            by_cases i9 : i < 9
            · rw [if_pos i9]
              have o4 : CE (sR G6 x 1 (hn G5)) (hn G5 + 1 + (i - 4)) 11 (mwyL n (i - 4)) (mwyR (i - 4)) (fun _ => 0) := (od (i - 4) (by omega)).mv (Sm_sR (by omega))
              have o5 := (o4.mv (q _ (by omega) (by omega))).mv (gs _ (by omega))
              rw [show hn G5 + 1 + (i - 4) = hn H + i by omega] at o5
              exact o5
            · rw [if_neg i9]
              have h1 := (t ((i - 9) / 4) ((i - 9) % 4) (by omega) (by omega)).mv (gs _ (by omega))
              rw [show hn H + 9 + 4 * ((i - 9) / 4) + (i - 9) % 4 = hn H + i by omega] at h1
              exact h1
theorem cl10 (x : Int32) : ∃ n, 1 ≤ n ∧ n ≤ 10 ∧ imax 1 (imin 10 x) = nI n := by
  unfold imax imin
  by_cases h : x < 10
  · rw [if_pos h]
    by_cases h1 : 1 < x
    · rw [if_pos h1]
      have hpos : ¬ x < 0 := fun w => absurd (Int32.lt_trans h1 w) (by decide)
      obtain ⟨j, hj, e⟩ := nI_of hpos
      subst e
      refine ⟨j, ?_, ?_, rfl⟩
      · rcases Nat.lt_or_ge j 1 with o | o
        · have : j = 0 := by omega
          subst this
          exact absurd h1 (by decide)
        · exact o
      · rcases Nat.lt_or_ge j 10 with o | o
        · omega
        · exact absurd h (Int32.not_lt.mpr (nI_le (a := 10) o hj))
    · rw [if_neg h1]
      exact ⟨1, by decide, by decide, rfl⟩
  · rw [if_neg h, if_pos (by decide)]
    exact ⟨10, by decide, by decide, rfl⟩
def cF : Nat → Int32 := va_up (fun _ => 0) 3 0
def cG (b : Nat) : Nat → Nat := va_up (va_up (va_up (fun _ => 0) 2 (b + 1)) 0 (b + 2)) 1 (b + 76)
def kcB (b n i : Nat) : Bq := if i = 0 then (9, 0, cF, cG b) else if i = 1 then (14, 16, fun _ => 0, fun _ => 0) else if i = 2 then (3, 0, nF, nG (b + 3)) else if i < 76 then knB n (b + 3) (i - 3) else if i = 76 then (17, n, fun _ => 0, fun k => if k < n then b + 77 + 51 * k + 50 else 0) else krB (b + 2) ((i - 77) / 51) (b + 77 + 51 * ((i - 77) / 51)) ((i - 77) % 51)
def KP (n : Nat) (H G : Hp) : Prop := (hn G = hn H + 77 + 51 * n ∧ hs H ≤ hs G ∧ hs G ≤ hs H + 250000) ∧ (∀ a, a < hn H → Sm a H G) ∧ ∀ i, i < 77 + 51 * n → CX G (hn H + i) (kcB (hn H) n i)
theorem P_class {n : Nat} {x1 : Int32} {H : Hp} (hn1 : 1 ≤ n) (hn10 : n ≤ 10) (ex : imax 1 (imin 10 x1) = nI n) : OKM (nC H 9 0 4) (d_X8_init (hn H) x1 (nC H 9 0 4)) (KP n H) := by
  have gn : 0 ≤ (nI n).toInt ∧ (nI n).toInt ≤ 65536 := by
    have := (ix_nI (n := n) (m := 65536) (by omega)).mpr (by omega)
    exact ⟨this.1, Int.le_of_lt this.2⟩
  have cn : (nI n).toNatClampNeg = n := nI_clamp (by omega)
  unfold d_X8_init
  rw [ex, cn]
  obtain ⟨n1, n2, n3, n4⟩ := CE_nC (G := H) (t := 9) (l := 0) (z := 4)
  refine OKM_m (OKM_g n1 ?_)
  refine NA (T := fun _ => 14) (Ln := fun _ => 16) (F := fun _ _ => 0) (ND_0 (Nat.lt_succ_self _) n1 n3 n4) rfl rfl (by decide) rfl (fun G1 d1 => ?_)
  refine NI d1 (fun G5 d5 => ?_)
  obtain ⟨⟨a1, a2, a3⟩, as, ac, ad⟩ := ND_bl d5
  refine OKM_d (OKM_d (OKM_t (G1 := nC G5 3 0 6) (OKM_m ?_) (Nat.le_succ _) (Nat.le_add_right _ _)))
  have cn3 := CE_nC (G := G5) (t := 3) (l := 0) (z := 6)
  refine OKM_g cn3.1 (OKM_o (P_net hn1 hn10 (Nat.lt_succ_self _) cn3) (fun G6 d6 l1 l2 => OKM_g ⟨l1, l2⟩ (OKM_m ?_)))
  obtain ⟨⟨o1, o2, o3⟩, os, oc, od⟩ := d6
  rw [nC_hn] at o1 os oc od
  rw [nC_hs] at o2 o3
  have sm6 : ∀ a, a < hn G5 → Sm a G5 G6 := fun a la => (Sm_nC la).trans (os a (by omega) (by omega))
  have c6 := ac.mv (sm6 _ (by omega))
  refine OKM_g c6.1 (OKM_d (OKM_d (OKM_g gn (OKM_d ?_))))
  have c7 := CE_sR (k := 0) (v := hn G5) c6
  refine OKM_t (G1 := nC (sR G6 (hn H) 0 (hn G5)) 17 n n) (OKM_m ?_) (Nat.le_succ _) (Nat.le_add_right _ _)
  have s7 : ∀ a, a < hn G6 → a ≠ hn H → Sm a G6 (nC (sR G6 (hn H) 0 (hn G5)) 17 n n) := fun a la na => (Sm_sR na).trans (Sm_nC la)
  have c8 : CE (nC (sR G6 (hn H) 0 (hn G5)) 17 n n) (hn H) _ _ _ _ := c7.mv (Sm_nC (show hn H < hn G6 by omega))
  refine OKM_g c8.1 (OKM_d ?_)
  have c9 := CE_sR (k := 1) (v := hn (sR G6 (hn H) 0 (hn G5))) c8
  have w9 : CE (sR (nC (sR G6 (hn H) 0 (hn G5)) 17 n n) (hn H) 1 (hn (sR G6 (hn H) 0 (hn G5)))) (hn G6) 17 n (fun _ => 0) (fun _ => 0) := CE.mv (G := nC (sR G6 (hn H) 0 (hn G5)) 17 n n) (CE_nC (G := sR G6 (hn H) 0 (hn G5))) (Sm_sR (show hn G6 ≠ hn H by omega))
  have s9 : ∀ a, a < hn G6 → a ≠ hn H → Sm a G6 (sR (nC (sR G6 (hn H) 0 (hn G5)) 17 n n) (hn H) 1 (hn (sR G6 (hn H) 0 (hn G5)))) := fun a la na => (s7 a la na).trans (Sm_sR na)
  have eN : hn (sR (nC (sR G6 (hn H) 0 (hn G5)) 17 n n) (hn H) 1 (hn (sR G6 (hn H) 0 (hn G5)))) = hn G6 + 1 := rfl
  have eS : hs (sR (nC (sR G6 (hn H) 0 (hn G5)) 17 n n) (hn H) 1 (hn (sR G6 (hn H) 0 (hn G5)))) = hs G6 + n := rfl
  have k1 := P_r51 (x := hn H) (y := hn G5) (w := hn G6) (n := n) (H0 := sR (nC (sR G6 (hn H) 0 (hn G5)) 17 n n) (hn H) 1 (hn (sR G6 (hn H) 0 (hn G5)))) hn10 (by omega) (by omega) c9.1 (congrFun c9.2.2.2 0) (congrFun c9.2.2.2 1) ⟨w9.1, w9.2.1⟩ FU 0 _ (by omega) (by show n - 0 < 6000; omega) (GL_0 w9.2.2.2)
  refine OKM_t (OKM_w k1 (fun G h => ?_)) (Nat.le_refl _) (Nat.le_refl _)
  obtain ⟨⟨p1, p2, p3⟩, q, ⟨w1, w2, w3, w4⟩, t⟩ := h
  rw [eN] at p1 q w4 t
  rw [eS] at p2 p3
  have e5 : hn G5 = hn H + 2 := by omega
  have e6 : hn G6 = hn H + 76 := by omega
  have up : ∀ a, a < hn G6 → a ≠ hn H → Sm a G6 G := fun a la na => (s9 a la na).trans (q a (by omega) (by omega))
  refine ⟨⟨by omega, by omega, by omega⟩, fun a la => ?_, fun i hi => ?_⟩
  · exact ((as a la).trans (sm6 a (by omega))).trans (up a (by omega) (by omega))
  · unfold kcB
    by_cases i0 : i = 0
    · rw [if_pos i0, i0]
      have c10 := c9.mv (q _ (by omega) (by omega))
      rw [sR_hn, e5, e6] at c10
      exact c10
    · rw [if_neg i0]
      by_cases i1 : i = 1
      · rw [if_pos i1, i1]
        exact CE.mv (CE.mv (ad 0 (by decide)) (sm6 _ (by omega))) (up _ (by omega) (by omega))
      · rw [if_neg i1]
        by_cases i2 : i = 2
        · rw [if_pos i2, i2]
          have := CE.mv oc (up _ (by omega) (by omega))
          rw [e5] at this
          exact this
        · rw [if_neg i2]
          by_cases i76 : i < 76
          · rw [if_pos i76]
            have := CX.mv (od (i - 3) (by omega)) (up _ (by omega) (by omega))
            rw [e5, show hn H + 2 + 1 + (i - 3) = hn H + i by omega] at this
            exact this
          · rw [if_neg i76]
            by_cases i77 : i = 76
            · rw [if_pos i77, i77]
              rw [e6] at w1 w2 w3 w4 w9
              exact ⟨w1.trans w9.1, w2.trans w9.2.1, w3.trans w9.2.2.1, w4⟩
            · rw [if_neg i77]
              have h1 := t ((i - 77) / 51) ((i - 77) % 51) (by omega) (by omega)
              rw [e5, e6, show hn H + 76 + 1 + 51 * ((i - 77) / 51) + (i - 77) % 51 = hn H + i by omega] at h1
              exact h1
