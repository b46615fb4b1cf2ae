/-! THE CLASS: hosts that answer, frames that are delivered -/
section
variable {L : Ly} {G : Hp} {n : Nat} {st : Int32} {V : Vt} {Q : Qt} {z : Sg} {r p q g s x y m v i h : Nat} {a : Nat → Int32}
theorem hsZ_te : TE (hsZ z h a) z := by
  unfold hsZ
  split
  · exact te_uA (by decide)
  · split
    · exact te_c (te_uA (by decide)) te_rf
    · exact te_rf
theorem hsZ_MO (hO : MO z) : MO (hsZ z h a) := by
  unfold hsZ
  split
  · exact MO_uA hO (by decide)
  · split
    · exact MO_c (MO_uA hO (by decide)) hO
    · exact hO
theorem an1_r {k j : Nat} (hj : j ≠ 16 ∧ j ≠ 17 ∧ j ≠ 18) : (an1 z h k).2 j = z.2 j := by
  unfold an1
  cases inB z h k && decide (((z.2 14 h >>> (nI k &&& 31)) &&& 1) = 1) with
  | true => exact pu_row hj
  | false => rfl
theorem an_step {c13 c14 : Int32} {k : Nat} (hk : k < 8) (i2 : z.2 13 h = c13) (i3 : z.2 14 h = c14) : cond (bt (c14 &&& c13) k) (pu (uA z 14 h 0) ((uA z 14 h 0).2 11 h) 3 (100 + nI h) (-1) (nI k) (-1) 0 0 0).2 (uA z 14 h 0) = uA (an1 z h k) 14 h 0 := by
  have eb : (inB z h k && decide (((z.2 14 h >>> (nI k &&& 31)) &&& 1) = 1)) = bt (c14 &&& c13) k := by
    rw [inB_bt hk, i2, i3, b_and, Bool.and_comm]
    congr 1
    cases hb : bt c14 k with
    | true => exact decide_eq_true ((hb_1 (by omega)).mpr hb)
    | false => exact decide_eq_false (fun w => by rw [(hb_1 (by omega)).mp w] at hb; cases hb)
  unfold an1
  rw [eb, uA_ne (by decide), pu_uA (by decide)]
  cases bt (c14 &&& c13) k <;> rfl
theorem C_answerQueries (hL : LY L G n Q) (hC : RC n st V Q z) (hO : MO z) (h1 : h < 16) (hu : qhw Q h ≠ -1) : ∃ V', d_X1_answerQueries (L.1 25 h 0) (eK L G V (RF n L Q)) = some (eK L G V' (RF n L Q)) ∧ RC n st V' Q (anZ z h) := by
  obtain ⟨c0, c3, c4⟩ := hC.ho h h1 hu
  unfold d_X1_answerQueries
  rw [eK_hc, gd_t (yK25 hL h1 hu), iK25 hL h1 hu, c3, c4, bd_e, wK25 hL h1 hu, bd_e]
  have hC1 : RC n st (uR V 25 h 0 (va_up (V 25 h 0) 4 0)) Q (uA z 14 h 0) := RC_ho 4 14 (Or.inr ⟨rfl, rfl⟩) hC hu
  -- the class clears first, the reference behind: an1 asks rows 13 and 14 of the old state
  have hO1 : MO (uA z 14 h 0) := MO_uA hO (by decide)
  have main : ∃ V', d_X1_answerQueries_17 FU (L.1 25 h 0) (z.2 14 h &&& z.2 13 h) (nI 0) (eK L G (uR V 25 h 0 (va_up (V 25 h 0) 4 0)) (RF n L Q)) = some (eK L G V' (RF n L Q)) ∧ RC n st V' Q (fo (fun y g => cond (bt (z.2 14 h &&& z.2 13 h) g) (pu y (y.2 11 h) 3 (100 + nI h) (-1) (nI g) (-1) 0 0 0).2 y) (uA z 14 h 0) 8) := by
    refine loopC (N := 8) (f := fun y g => cond (bt (z.2 14 h &&& z.2 13 h) g) (pu y (y.2 11 h) 3 (100 + nI h) (-1) (nI g) (-1) 0 0 0).2 y) (D := fun m i H => d_X1_answerQueries_17 m (L.1 25 h 0) (z.2 14 h &&& z.2 13 h) (nI i) H) (K := some) (by decide) (fun m g V hg hR => ?_) (fun m V _ => ?_) hC1
    · have hOs := (fo_MO (z := uA z 14 h 0) (f := fun y g => cond (bt (z.2 14 h &&& z.2 13 h) g) (pu y (y.2 11 h) 3 (100 + nI h) (-1) (nI g) (-1) 0 0 0).2 y) (N := 8) (fun y i hy _ _ => ⟨MO_c (MO_pu hy) hy, te_c te_pu te_rf⟩) hO1 g (by omega)).1
      rw [d_X1_answerQueries_17.eq_2, show (8 : Int32) = nI 8 from rfl, if_neg (nI_ge hg (by decide)), C_has (show g < 32 by omega), bo_e, ite_bI, nI_1]
      rw [fo_s]
      cases hb : bt (z.2 14 h &&& z.2 13 h) g with
      | false => exact Or.inl ⟨V, rfl, hR⟩
      | true =>
        obtain ⟨V1, e, hR1, -⟩ := C_say (kd := 3) (gg := nI g) hL hR hOs h1 hu (by decide) (by decide)
        rw [cond_true, eK_hc, gd_t (yK25 hL h1 hu), e, bo_e, cond_true]
        exact Or.inl ⟨V1, rfl, hR1⟩
    · rw [d_X1_answerQueries_17.eq_2, show (8 : Int32) = nI 8 from rfl, if_pos (nI_le (by omega) (by decide))]
  rw [nI_0] at main
  obtain ⟨V1, e, hR⟩ := main
  refine ⟨V1, e, RCe hR ?_⟩
  -- the two orders give the same
  have key : ∀ k, k ≤ 8 → (fo (fun y g => cond (bt (z.2 14 h &&& z.2 13 h) g) (pu y (y.2 11 h) 3 (100 + nI h) (-1) (nI g) (-1) 0 0 0).2 y) (uA z 14 h 0) k) = uA (fo (fun z g => an1 z h g) z k) 14 h 0 ∧ (fo (fun z g => an1 z h g) z k).2 13 h = z.2 13 h ∧ (fo (fun z g => an1 z h g) z k).2 14 h = z.2 14 h := by
    intro k
    induction k with
    | zero => intro _; exact ⟨rfl, rfl, rfl⟩
    | succ k ih =>
      intro hk
      obtain ⟨i1, i2, i3⟩ := ih (by omega)
      rw [fo_s, fo_s, i1]
      refine ⟨an_step (by omega) i2 i3, ?_, ?_⟩
      · rw [an1_r (by decide)]
        exact i2
      · rw [an1_r (by decide)]
        exact i3
  unfold anZ
  exact (key 8 (by decide)).1
/-! frames that are delivered -/
theorem C_deliver_84 {k2 : Nat → Nat → Int32 → Hp → Option Hp} (hL : LY L G n Q) (hC : RC n 0 V Q z) (hO : MO z) (hfr : FR Q z v i a) (ha : fok n a) : ∃ V', d_X8_deliver_84 FU (L.1 0 0 0) (L.1 5 v 0) (nI i) (L.1 8 v (qpi Q v (1 - qcu Q v) i)) (nI 0) (eK L G V (RF n L Q)) k2 = k2 (L.1 0 0 0) (L.1 5 v 0) (nI (i + 1)) (eK L G V' (RF n L Q)) ∧ RC n 0 V' Q (fo (fun z h => dh1 a v z h) z 16) := by
  have hv := hfr.1
  have hm0 := hfr.2.1
  refine loopC (N := 16) (f := fun z h => dh1 a v z h) (D := fun m j H => d_X8_deliver_84 m (L.1 0 0 0) (L.1 5 v 0) (nI i) (L.1 8 v (qpi Q v (1 - qcu Q v) i)) (nI j) H k2) (K := fun H => k2 (L.1 0 0 0) (L.1 5 v 0) (nI (i + 1)) H) (by decide) (fun m h V hh hR => ?_) (fun m V _ => ?_) hC
  · have hOs := fo_MO (f := fun z h => dh1 a v z h) (N := 16) (fun y i hy _ _ => ⟨MO_c (hsZ_MO hy) hy, te_c hsZ_te te_rf⟩) hO h (by omega)
    have hfr1 := FR_te hfr hOs.2
    have hf0 := fr_80 hR hfr1
    rw [fo_s]
    generalize hY : fo (fun z h => dh1 a v z h) z h = Y at hR hOs hfr1
    rw [d_X8_deliver_84.eq_2, show (16 : Int32) = nI 16 from rfl, if_neg (nI_ge hh (by decide))]
    simp (disch := first | omega | assumption) only [eK_hc, eK_hl, yK0 hL, iK0 hL, rK0_0 hL, rK0_1 hL, rK0_2 hL, yK4_2 hL, iK4_2 hL, lK4_2 hL, rK4_2 hL, lm4, lm8, lm10, lm16, lm17, lm26, lm40, lm400, nI_add, nI_1, ix_nI, nI_clamp, gd_T, gd_t, bd_e, bo_e, b2_e, true_and, and_true]
    unfold dh1
    have e11 : qhw Q h = Y.2 11 h := by rw [hR.qh]
    by_cases hu : qhw Q h = -1
    · rw [if_neg (not_not_intro hu), if_pos rfl, decide_eq_false (fun w => by rw [← e11, hu] at w; exact absurd w.1.symm (nI_m1 (by omega)))]
      exact Or.inl ⟨V, rfl, hR⟩
    · obtain ⟨w, hw, ew⟩ : ∃ w, w < 16 ∧ Y.2 11 h = nI w := (hOs.1.1.2.2.1 h hh).resolve_left (by rw [← e11]; exact hu)
      have ew' : qhw Q h = nI w := e11.trans ew
      rw [if_pos hu, if_neg (zK25 hL hh hu)]
      simp (disch := first | omega | assumption) only [eK_hc, eK_hl, yK25 hL, iK25 hL, rK25_1 hL, rK25_2 hL, ew', lm4, lm8, lm10, lm16, lm17, lm26, lm40, lm400, nI_add, nI_1, ix_nI, nI_clamp, gd_T, gd_t, bd_e, bo_e, b2_e, true_and, and_true]
      simp (disch := first | omega | assumption) only [eK_hc, eK_hl, yK5 hL, iK5 hL, rK5_1 hL, rK5_3 hL, rK5_4 hL, yK8 hL, iK8 hL, gd_T, gd_t, bd_e, bo_e, b2_e, true_and, and_true, (hR.wi w hw).1, (hR.wi v hv).1, fr_k hR hfr1 (show 1 < 8 by decide)]
      by_cases c1 : nI w = nI v
      · rw [if_pos c1]
        by_cases c2 : a 1 = 100 + nI h
        · rw [if_pos c2, decide_eq_false (fun w => w.2 c2)]
          exact Or.inl ⟨V, rfl, hR⟩
        · obtain ⟨V1, e, hR1⟩ := C_hostHear hL hR hfr1 hh hu ha
          rw [if_neg c2, decide_eq_true ⟨ew.trans c1, c2⟩, e, bo_e]
          exact Or.inl ⟨V1, rfl, hR1⟩
      · rw [if_neg c1, decide_eq_false (fun w => c1 (ew.symm.trans w.1))]
        exact Or.inl ⟨V, rfl, hR⟩
  · rw [d_X8_deliver_84.eq_2, show (16 : Int32) = nI 16 from rfl, if_pos (nI_le (by omega) (by decide)), nI_1]
theorem C_deliver_27 {k2 : Nat → Nat → Int32 → Hp → Option Hp} (hL : LY L G n Q) (hC : RC n 0 V Q z) (hI : IV z) (ht : ∃ t, 1 ≤ t ∧ t ≤ 6000 ∧ z.1 0 = nI t) (hfr : FR Q z v i a) (ha : fok n a) : ∃ V', d_X8_deliver_27 FU (L.1 0 0 0) (L.1 5 v 0) (nI i) (L.1 8 v (qpi Q v (1 - qcu Q v) i)) (nI 0) (eK L G V (RF n L Q)) k2 = d_X8_deliver_84 FU (L.1 0 0 0) (L.1 5 v 0) (nI i) (L.1 8 v (qpi Q v (1 - qcu Q v) i)) 0 (eK L G V' (RF n L Q)) k2 ∧ RC n 0 V' Q (fo (fun z r => dl1 a v z r) z n) := by
  have hv := hfr.1
  have hm0 := hfr.2.1
  have hn := hC.nn.2.2.2
  have hn1 := hC.nn.2.2.1
  have hnr := hC.nr
  refine loopC (N := n) (f := fun z r => dl1 a v z r) (D := fun m j H => d_X8_deliver_27 m (L.1 0 0 0) (L.1 5 v 0) (nI i) (L.1 8 v (qpi Q v (1 - qcu Q v) i)) (nI j) H k2) (K := fun H => d_X8_deliver_84 FU (L.1 0 0 0) (L.1 5 v 0) (nI i) (L.1 8 v (qpi Q v (1 - qcu Q v) i)) 0 H k2) (by omega) (fun m r V hr hR => ?_) (fun m V hR => ?_) hC
  · have hIs := dlR_ok (v := v) hI (by rw [hnr]; exact ha) r (by omega)
    have hfr1 := FR_te hfr hIs.2
    have hf0 := fr_80 hR hfr1
    rw [fo_s]
    generalize hY : fo (fun z r => dl1 a v z r) z r = Y at hR hIs hfr1
    rw [d_X8_deliver_27.eq_2]
    simp (disch := first | omega | assumption) only [eK_hc, eK_hl, yK0 hL, iK0 hL, rK0_0 hL, rK0_1 hL, rK0_2 hL, yK4_1 hL, iK4_1 hL, lK4_1 hL, rK4_1 hL, lm4, lm8, lm10, lm16, lm17, lm26, lm40, lm400, nI_add, nI_1, ix_nI, nI_clamp, gd_T, gd_t, bd_e, bo_e, b2_e, true_and, and_true]
    rw [if_neg (nI_ge hr (by omega))]
    simp (disch := first | omega | assumption) only [eK_hc, eK_hl, yK5 hL, iK5 hL, rK5_1 hL, rK5_3 hL, rK5_4 hL, yK6 hL, iK6 hL, lK6 hL, yK8 hL, iK8 hL, lm4, lm8, lm10, lm16, lm17, lm26, lm40, lm400, nI_add, nI_1, ix_nI, nI_clamp, gd_T, gd_t, bd_e, bo_e, b2_e, true_and, and_true, hR.po v r hv hr, pOr_e, fr_k hR hfr1 (show 1 < 8 by decide)]
    unfold dl1
    rcases pOn_ok Y r (nI v) with e | ⟨p, hp, e⟩
    · rw [if_pos e, decide_eq_false (fun w => w.1 e)]
      exact Or.inl ⟨V, rfl, hR⟩
    · have e1 : ¬ pOn Y r (nI v) = -1 := by rw [e]; exact nI_m1 (by omega)
      rw [if_neg e1]
      by_cases c2 : a 1 = nI r
      · rw [if_pos c2, decide_eq_false (fun w => w.2 c2)]
        exact Or.inl ⟨V, rfl, hR⟩
      · have hu : qpw Q (4 * r + p) ≠ -1 := by
          rw [hR.qw, pOn_pl hp e]
          exact nI_m1 (by omega)
        obtain ⟨V1, e3, hR1⟩ := C_hear hL hR hIs.1.1 (ht_te ht hIs.2) hfr1 hr hp hu ha c2
        rw [if_neg c2, decide_eq_true ⟨e1, c2⟩, e, nI_clamp (by omega)]
        simp (disch := first | omega | assumption) only [eK_hc, eK_hl, yK9 hL, iK9 hL, rK9_0 hL, rK9_2 hL, rK9_3 hL, gd_T, gd_t, bd_e, bo_e, b2_e, true_and, and_true, e3]
        exact Or.inl ⟨V1, rfl, hR1⟩
  · rw [d_X8_deliver_27.eq_2]
    simp (disch := first | omega | assumption) only [eK_hc, eK_hl, yK0 hL, iK0 hL, rK0_0 hL, rK0_1 hL, rK0_2 hL, yK4_1 hL, iK4_1 hL, lK4_1 hL, rK4_1 hL, lm4, lm8, lm10, lm16, lm17, lm26, lm40, lm400, nI_add, nI_1, ix_nI, nI_clamp, gd_T, gd_t, bd_e, bo_e, b2_e, true_and, and_true]
    rw [if_pos (nI_le (by omega) (by omega))]
theorem C_deliver (hL : LY L G n Q) (hC : RC n 0 V Q z) (hI : IV z) (hN : FN z) (ht : ∃ t, 1 ≤ t ∧ t ≤ 6000 ∧ z.1 0 = nI t) (hv : v < 16) : ∃ V', d_X8_deliver (L.1 0 0 0) (L.1 5 v 0) (eK L G V (RF n L Q)) = some (eK L G V' (RF n L Q)) ∧ RC n 0 V' Q (dwZ v z) := by
  have hn := hC.nn.2.2.2
  have hnr := hC.nr
  obtain ⟨⟨N1, N2⟩, N3⟩ := hN v hv
  have main : ∃ V', d_X8_deliver_2 FU (L.1 0 0 0) (L.1 5 v 0) (nI 0) (eK L G V (RF n L Q)) = some (eK L G V' (RF n L Q)) ∧ RC n 0 V' Q (fo (fun z i => dlZ z v (fA z v i)) z (nN z v)) := by
    refine loopC (N := nN z v) (f := fun z i => dlZ z v (fA z v i)) (D := fun m j H => d_X8_deliver_2 m (L.1 0 0 0) (L.1 5 v 0) (nI j) H) (K := some) (by omega) (fun m i V hi hR => ?_) (fun m V hR => ?_) hC
    · have hIs := dw_ok hI hN hv i (by omega)
      rw [fo_s]
      generalize hY : fo (fun z i => dlZ z v (fA z v i)) z i = Y at hR hIs
      have e19 : Y.2 19 v = nI (nN z v) := by rw [hIs.2.2.2.2.2.1]; exact N2
      have hcu := (hR.pi v hv).1
      rw [d_X8_deliver_2.eq_2]
      simp (disch := first | omega | assumption) only [eK_hc, eK_hl, yK5 hL, iK5 hL, rK5_1 hL, rK5_3 hL, rK5_4 hL, yK7 hL, iK7 hL, lK7 hL, rK7 hL, lm4, lm8, lm10, lm16, lm17, lm26, lm40, lm400, nI_add, nI_1, ix_nI, nI_clamp, gd_T, gd_t, bd_e, bo_e, b2_e, true_and, and_true, (hR.wi v hv).2.2.2.2, e19]
      rw [if_neg (nI_ge hi (by omega))]
      cases hmd : qmd Q v with
      | false =>
        exfalso
        have := (hR.me v hv hmd).2
        rw [e19] at this
        exact nI_ne0 (by omega) (by omega) this
      | true =>
        have hfa : fok n (fA Y v i) := by
          rw [te_fA hIs.2, ← hnr]
          exact N3 i hi
        have hfr : FR Q Y v i (fA Y v i) := ⟨hv, hmd, by rw [e19, nI_clamp (by omega)]; exact hi, fun _ _ => rfl⟩
        have hf0 := fr_80 hR hfr
        rw [rK7 hL hv (show 1 - qcu Q v < 2 by omega) (show i < 40 by omega) hmd, if_neg (zK8 hL hv hf0 hmd)]
        obtain ⟨V1, e1, hR1⟩ := C_deliver_27 (k2 := fun y0 y1 y2 Gy => d_X8_deliver_2 m y0 y1 y2 Gy) hL hR hIs.1 (ht_te ht hIs.2) hfr hfa
        have hnY : nR Y = n := hR.nr
        have hI1 := dlR_ok (v := v) hIs.1 (by rw [hnY]; exact hfa) n (by omega)
        obtain ⟨V2, e2, hR2⟩ := C_deliver_84 (k2 := fun y0 y1 y2 Gy => d_X8_deliver_2 m y0 y1 y2 Gy) hL hR1 hI1.1.1 (FR_te hfr hI1.2) hfa
        rw [nI_0] at e1 e2
        rw [e1, e2]
        refine Or.inl ⟨V2, rfl, RCe hR2 ?_⟩
        unfold dlZ
        rw [hnY]
    · have hIs := dw_ok hI hN hv (nN z v) (Nat.le_refl _)
      have e19 : (fo (fun z i => dlZ z v (fA z v i)) z (nN z v)).2 19 v = nI (nN z v) := by rw [hIs.2.2.2.2.2.1]; exact N2
      rw [d_X8_deliver_2.eq_2, eK_hc, gd_t (yK5 hL hv), iK5 hL hv, (hR.wi v hv).2.2.2.2, e19, if_pos (nI_le (by omega) (by omega))]
  rw [nI_0] at main
  exact main
end
