/-! THE CLASS: the timers of a router, frames that are delivered, hosts that answer -/
section
variable {L : Ly} {G : Hp} {n : Nat} {st : Int32} {V : Vt} {Q : Qt} {z : Sg} {r p q g s x y m v i h : Nat} {a : Nat → Int32}
theorem fo_shift {f : Sg → Nat → Sg} : ∀ k, fo f z (k + 1) = fo (fun z i => f z (i + 1)) (f z 0) k := by
  intro k
  induction k with
  | zero => rfl
  | succ k ih =>
    show f (fo f z (k + 1)) (k + 1) = f (fo (fun z i => f z (i + 1)) (f z 0) k) (k + 1)
    rw [ih]
theorem ht_te {z' : Sg} (ht : ∃ t, 1 ≤ t ∧ t ≤ 6000 ∧ z.1 0 = nI t) (t : TE z' z) : ∃ t, 1 ≤ t ∧ t ≤ 6000 ∧ z'.1 0 = nI t := by
  rw [t.2.1]
  exact ht
theorem C_tm124 {k71 : Nat → Int32 → Hp → Option Hp} (hL : LY L G n Q) (hC : RC n st V Q z) (hO : MO z) (h1 : r < n) (h2 : g < 8) : ∃ V', d_X4_doTimers_124 (L.1 9 r 0) (nI g) (eK L G V (RF n L Q)) k71 = k71 (L.1 9 r 0) (nI (g + 1)) (eK L G V' (RF n L Q)) ∧ RC n st V' Q z := by
  obtain ⟨V1, e, hR⟩ := C_dropKnown hL hC hO h1 h2
  unfold d_X4_doTimers_124
  simp (disch := first | omega | assumption) only [eK_hc, eK_hl, yK9 hL, iK9 hL, rK9_0 hL, rK9_2 hL, rK9_3 hL, yK11 hL, iK11 hL, lK11 hL, rK11 hL, lm4, lm8, lm10, lm16, lm17, lm26, lm40, lm400, nI_add, nI_1, ix_nI, nI_clamp, gd_T, gd_t, bd_e, bo_e, b2_e, true_and, and_true]
  simp (disch := first | omega | assumption) only [eK_hc, eK_hl, yK12 hL, iK12 hL, rK12_0 hL, rK12_3 hL, rK12_5 hL, rK12_6 hL, rK12_8 hL, rK12_9 hL, rK12_10 hL, gd_T, gd_t, bd_e, bo_e, b2_e, true_and, and_true, e]
  exact ⟨V1, rfl, hR⟩
theorem C_tm90 {k71 : Nat → Int32 → Hp → Option Hp} (hL : LY L G n Q) (hC : RC n 0 V Q (cmZ z r g 0)) (hO : MO z) (h1 : r < n) (h2 : g < 8) (hnr : nR z = n) : ∃ V', d_X4_doTimers_90 FU (L.1 9 r 0) (nI g) 0 (eK L G V (RF n L Q)) k71 = d_X4_doTimers_124 (L.1 9 r 0) (nI g) (eK L G V' (RF n L Q)) k71 ∧ RC n 0 V' Q (cmG z r g) := by
  have main : ∃ V', d_X4_doTimers_90 FU (L.1 9 r 0) (nI g) (nI 0) (eK L G V (RF n L Q)) k71 = d_X4_doTimers_124 (L.1 9 r 0) (nI g) (eK L G V' (RF n L Q)) k71 ∧ RC n 0 V' Q (fo (fun z s => cmZ z r g (s + 1)) (cmZ z r g 0) 16) := by
    refine loopC (N := 16) (f := fun z s => cmZ z r g (s + 1)) (D := fun m i H => d_X4_doTimers_90 m (L.1 9 r 0) (nI g) (nI i) H k71) (K := fun H => d_X4_doTimers_124 (L.1 9 r 0) (nI g) H k71) (by decide) (fun m s V hs hR => ?_) (fun m V _ => ?_) hC
    · have hOs := (fo_MO (z := z) (f := fun z y => cmZ z r g y) (N := 17) (fun y i hy ty hi => ⟨MO_cm hy (by rw [te_nR ty, hnr]; exact h1) h2 hi, te_cm⟩) hO (s + 1) (by omega)).1
      rw [fo_shift] at hOs
      rw [d_X4_doTimers_90.eq_2, show (16 : Int32) = nI 16 from rfl, if_neg (nI_ge hs (by decide))]
      simp (disch := first | omega | assumption) only [eK_hc, eK_hl, yK9 hL, iK9 hL, rK9_0 hL, rK9_2 hL, rK9_3 hL, yK11 hL, iK11 hL, lK11 hL, rK11 hL, lm4, lm8, lm10, lm16, lm17, lm26, lm40, lm400, nI_add, nI_1, ix_nI, nI_clamp, gd_T, gd_t, bd_e, bo_e, b2_e, true_and, and_true]
      simp (disch := first | omega | assumption) only [eK_hc, eK_hl, yK12 hL, iK12 hL, rK12_0 hL, rK12_3 hL, rK12_5 hL, rK12_6 hL, rK12_8 hL, rK12_9 hL, rK12_10 hL, gd_T, gd_t, bd_e, bo_e, b2_e, true_and, and_true]
      by_cases hk0 : V 12 r g 4 = 0
      · refine Or.inr ⟨V, by rw [if_pos hk0], RCe hR ?_⟩
        refine (fo_stop 16 (by omega) (fun i _ hi => ?_)).symm
        have := unk_cm (x := i) hR h1 h2 (by omega) (by rw [hk0, b_0])
        rw [yx_s hi] at this
        exact this
      · left
        obtain ⟨V1, e, hR1⟩ := C_renewJoin (x := s) hL hR hOs h1 h2 (by omega)
        rw [yx_s hs] at hR1
        rw [if_neg hk0, e, bo_e]
        exact ⟨V1, rfl, hR1⟩
    · rw [d_X4_doTimers_90.eq_2, show (16 : Int32) = nI 16 from rfl, if_pos (nI_le (by omega) (by decide))]
  rw [nI_0] at main
  have e : cmG z r g = fo (fun z s => cmZ z r g (s + 1)) (cmZ z r g 0) 16 := fo_shift (f := fun z y => cmZ z r g y) 16
  rw [e]
  exact main
theorem C_tm2 (hL : LY L G n Q) (hC : RC n 0 V Q z) (hO : MO z) (ht : ∃ t, 1 ≤ t ∧ t ≤ 6000 ∧ z.1 0 = nI t) (h1 : r < n) : ∃ V', d_X4_doTimers_2 FU (L.1 9 r 0) (nI 0) (eK L G V (RF n L Q)) = d_X4_doTimers_25 FU (L.1 9 r 0) 0 (eK L G V' (RF n L Q)) ∧ RC n 0 V' Q (fo (fun z p => heZ z r p) z 4) := by
  refine loopC (N := 4) (f := fun z p => heZ z r p) (D := fun m i H => d_X4_doTimers_2 m (L.1 9 r 0) (nI i) H) (K := fun H => d_X4_doTimers_25 FU (L.1 9 r 0) 0 H) (by decide) (fun m p V hp hR => ?_) (fun m V _ => ?_) hC
  · have hOs := fo_MO (f := fun z p => heZ z r p) (N := 4) (fun y i hy _ _ => he_ok hy) hO p (by omega)
    obtain ⟨V1, e, hR1⟩ := C_sayHello hL hR hOs.1 (ht_te ht hOs.2) h1 hp
    rw [d_X4_doTimers_2.eq_2, show (4 : Int32) = nI 4 from rfl, if_neg (nI_ge hp (by decide))]
    simp (disch := first | omega | assumption) only [eK_hc, eK_hl, yK9 hL, iK9 hL, rK9_0 hL, rK9_2 hL, rK9_3 hL, yK10 hL, iK10 hL, lK10 hL, rK10 hL, lm4, lm8, lm10, lm16, lm17, lm26, lm40, lm400, nI_add, nI_1, ix_nI, nI_clamp, gd_T, gd_t, bd_e, bo_e, b2_e, true_and, and_true, e]
    exact Or.inl ⟨V1, rfl, hR1⟩
  · rw [d_X4_doTimers_2.eq_2, show (4 : Int32) = nI 4 from rfl, if_pos (nI_le (by omega) (by decide))]
theorem C_tm25 (hL : LY L G n Q) (hC : RC n 0 V Q z) (hO : MO z) (ht : ∃ t, 1 ≤ t ∧ t ≤ 6000 ∧ z.1 0 = nI t) (h1 : r < n) : ∃ V', d_X4_doTimers_25 FU (L.1 9 r 0) (nI 0) (eK L G V (RF n L Q)) = d_X4_doTimers_48 FU (L.1 9 r 0) 0 (eK L G V' (RF n L Q)) ∧ RC n 0 V' Q (fo (fun z p => quZ z r p) z 4) := by
  refine loopC (N := 4) (f := fun z p => quZ z r p) (D := fun m i H => d_X4_doTimers_25 m (L.1 9 r 0) (nI i) H) (K := fun H => d_X4_doTimers_48 FU (L.1 9 r 0) 0 H) (by decide) (fun m p V hp hR => ?_) (fun m V _ => ?_) hC
  · have hOs := fo_MO (f := fun z p => quZ z r p) (N := 4) (fun y i hy _ _ => qu_ok hy) hO p (by omega)
    obtain ⟨V1, e, hR1⟩ := C_askAll hL hR hOs.1 (ht_te ht hOs.2) h1 hp
    rw [d_X4_doTimers_25.eq_2, show (4 : Int32) = nI 4 from rfl, if_neg (nI_ge hp (by decide))]
    simp (disch := first | omega | assumption) only [eK_hc, eK_hl, yK9 hL, iK9 hL, rK9_0 hL, rK9_2 hL, rK9_3 hL, yK10 hL, iK10 hL, lK10 hL, rK10 hL, lm4, lm8, lm10, lm16, lm17, lm26, lm40, lm400, nI_add, nI_1, ix_nI, nI_clamp, gd_T, gd_t, bd_e, bo_e, b2_e, true_and, and_true, e]
    exact Or.inl ⟨V1, rfl, hR1⟩
  · rw [d_X4_doTimers_25.eq_2, show (4 : Int32) = nI 4 from rfl, if_pos (nI_le (by omega) (by decide))]
theorem C_tm48 (hL : LY L G n Q) (hC : RC n 0 V Q z) (hO : MO z) (h1 : r < n) : ∃ V', d_X4_doTimers_48 FU (L.1 9 r 0) (nI 0) (eK L G V (RF n L Q)) = d_X4_doTimers_71 FU (L.1 9 r 0) 0 (eK L G V' (RF n L Q)) ∧ RC n 0 V' Q (fo (fun z g => bdG z r g) z 8) := by
  refine loopC (N := 8) (f := fun z g => bdG z r g) (D := fun m i H => d_X4_doTimers_48 m (L.1 9 r 0) (nI i) H) (K := fun H => d_X4_doTimers_71 FU (L.1 9 r 0) 0 H) (by decide) (fun m g V hg hR => ?_) (fun m V _ => ?_) hC
  · have hOs := fo_MO (f := fun z g => bdG z r g) (N := 8) (fun y i hy _ _ => bdG_ok hy) hO g (by omega)
    obtain ⟨V1, e, hR1⟩ := C_checkStraight hL hR hOs.1 h1 hg
    rw [d_X4_doTimers_48.eq_2, show (8 : Int32) = nI 8 from rfl, if_neg (nI_ge hg (by decide))]
    simp (disch := first | omega | assumption) only [eK_hc, eK_hl, yK9 hL, iK9 hL, rK9_0 hL, rK9_2 hL, rK9_3 hL, yK11 hL, iK11 hL, lK11 hL, rK11 hL, lm4, lm8, lm10, lm16, lm17, lm26, lm40, lm400, nI_add, nI_1, ix_nI, nI_clamp, gd_T, gd_t, bd_e, bo_e, b2_e, true_and, and_true]
    simp (disch := first | omega | assumption) only [eK_hc, eK_hl, yK12 hL, iK12 hL, rK12_0 hL, rK12_3 hL, rK12_5 hL, rK12_6 hL, rK12_8 hL, rK12_9 hL, rK12_10 hL, gd_T, gd_t, bd_e, bo_e, b2_e, true_and, and_true, e]
    exact Or.inl ⟨V1, rfl, by rw [fo_s]; exact hR1⟩
  · rw [d_X4_doTimers_48.eq_2, show (8 : Int32) = nI 8 from rfl, if_pos (nI_le (by omega) (by decide))]
theorem C_tm71 (hL : LY L G n Q) (hC : RC n 0 V Q z) (hO : MO z) (h1 : r < n) : ∃ V', d_X4_doTimers_71 FU (L.1 9 r 0) (nI 0) (eK L G V (RF n L Q)) = d_X4_doTimers_141 FU (L.1 9 r 0) 0 (eK L G V' (RF n L Q)) ∧ RC n 0 V' Q (fo (fun z g => cmG z r g) z 8) := by
  have hnr := hC.nr
  refine loopC (N := 8) (f := fun z g => cmG z r g) (D := fun m i H => d_X4_doTimers_71 m (L.1 9 r 0) (nI i) H) (K := fun H => d_X4_doTimers_141 FU (L.1 9 r 0) 0 H) (by decide) (fun m g V hg hR => ?_) (fun m V _ => ?_) hC
  · have hOs := fo_MO (f := fun z g => cmG z r g) (N := 8) (fun y i hy ty hi => cmG_ok hy (by rw [te_nR ty, hnr]; exact h1) hi) hO g (by omega)
    obtain ⟨V1, e, hR1⟩ := C_renewJoin (x := 16) hL hR hOs.1 h1 hg (by decide)
    rw [yx_16] at hR1
    rw [show nI 16 = (16 : Int32) from rfl] at e
    obtain ⟨V2, e2, hR2⟩ := C_tm90 (k71 := fun y0 y1 Gy => d_X4_doTimers_71 m y0 y1 Gy) hL hR1 hOs.1 h1 hg (by rw [te_nR hOs.2]; exact hnr)
    obtain ⟨V3, e3, hR3⟩ := C_tm124 (k71 := fun y0 y1 Gy => d_X4_doTimers_71 m y0 y1 Gy) hL hR2 (cmG_ok hOs.1 (by rw [te_nR hOs.2, hnr]; exact h1) hg).1 h1 hg
    rw [d_X4_doTimers_71.eq_2, show (8 : Int32) = nI 8 from rfl, if_neg (nI_ge hg (by decide))]
    simp (disch := first | omega | assumption) only [eK_hc, eK_hl, yK9 hL, iK9 hL, rK9_0 hL, rK9_2 hL, rK9_3 hL, yK11 hL, iK11 hL, lK11 hL, rK11 hL, lm4, lm8, lm10, lm16, lm17, lm26, lm40, lm400, nI_add, nI_1, ix_nI, nI_clamp, gd_T, gd_t, bd_e, bo_e, b2_e, true_and, and_true]
    simp (disch := first | omega | assumption) only [eK_hc, eK_hl, yK12 hL, iK12 hL, rK12_0 hL, rK12_3 hL, rK12_5 hL, rK12_6 hL, rK12_8 hL, rK12_9 hL, rK12_10 hL, gd_T, gd_t, bd_e, bo_e, b2_e, true_and, and_true, e, e2, e3]
    exact Or.inl ⟨V3, rfl, by rw [fo_s]; exact hR3⟩
  · rw [d_X4_doTimers_71.eq_2, show (8 : Int32) = nI 8 from rfl, if_pos (nI_le (by omega) (by decide))]
theorem C_tm141 (hL : LY L G n Q) (hC : RC n 0 V Q z) (hO : MO z) (h1 : r < n) : ∃ V', d_X4_doTimers_141 FU (L.1 9 r 0) (nI 0) (eK L G V (RF n L Q)) = some (eK L G V' (RF n L Q)) ∧ RC n 0 V' Q (fo (fun z g => rmG z r g) z 8) := by
  refine loopC (N := 8) (f := fun z g => rmG z r g) (D := fun m i H => d_X4_doTimers_141 m (L.1 9 r 0) (nI i) H) (K := some) (by decide) (fun m g V hg hR => ?_) (fun m V _ => ?_) hC
  · have hOs := fo_MO (f := fun z g => rmG z r g) (N := 8) (fun y i hy _ _ => rmG_ok hy) hO g (by omega)
    obtain ⟨V1, e, hR1⟩ := C_probe hL hR hOs.1 h1 hg
    rw [d_X4_doTimers_141.eq_2, show (8 : Int32) = nI 8 from rfl, if_neg (nI_ge hg (by decide))]
    simp (disch := first | omega | assumption) only [eK_hc, eK_hl, yK9 hL, iK9 hL, rK9_0 hL, rK9_2 hL, rK9_3 hL, yK11 hL, iK11 hL, lK11 hL, rK11 hL, lm4, lm8, lm10, lm16, lm17, lm26, lm40, lm400, nI_add, nI_1, ix_nI, nI_clamp, gd_T, gd_t, bd_e, bo_e, b2_e, true_and, and_true]
    simp (disch := first | omega | assumption) only [eK_hc, eK_hl, yK12 hL, iK12 hL, rK12_0 hL, rK12_3 hL, rK12_5 hL, rK12_6 hL, rK12_8 hL, rK12_9 hL, rK12_10 hL, gd_T, gd_t, bd_e, bo_e, b2_e, true_and, and_true, e]
    exact Or.inl ⟨V1, rfl, by rw [fo_s]; exact hR1⟩
  · rw [d_X4_doTimers_141.eq_2, show (8 : Int32) = nI 8 from rfl, if_pos (nI_le (by omega) (by decide))]
theorem C_doTimers (hL : LY L G n Q) (hC : RC n 0 V Q z) (hO : MO z) (ht : ∃ t, 1 ≤ t ∧ t ≤ 6000 ∧ z.1 0 = nI t) (h1 : r < n) : ∃ V', d_X4_doTimers (L.1 9 r 0) (eK L G V (RF n L Q)) = some (eK L G V' (RF n L Q)) ∧ RC n 0 V' Q (tmZ z r) := by
  have hnr := hC.nr
  obtain ⟨V1, e1, hR1⟩ := C_tm2 hL hC hO ht h1
  have hO1 := fo_MO (f := fun z p => heZ z r p) (N := 4) (fun y i hy _ _ => he_ok hy) hO 4 (by omega)
  obtain ⟨V2, e2, hR2⟩ := C_tm25 hL hR1 hO1.1 (ht_te ht hO1.2) h1
  have hO2 := fo_MO (f := fun z p => quZ z r p) (N := 4) (fun y i hy _ _ => qu_ok hy) hO1.1 4 (by omega)
  obtain ⟨V3, e3, hR3⟩ := C_tm48 hL hR2 hO2.1 h1
  have hO3 := fo_MO (f := fun z g => bdG z r g) (N := 8) (fun y i hy _ _ => bdG_ok hy) hO2.1 8 (by omega)
  obtain ⟨V4, e4, hR4⟩ := C_tm71 hL hR3 hO3.1 h1
  have hO4 := fo_MO (f := fun z g => cmG z r g) (N := 8) (fun y i hy ty hi => cmG_ok hy (by rw [te_nR ty, te_nR hO3.2, te_nR hO2.2, te_nR hO1.2, hnr]; exact h1) hi) hO3.1 8 (by omega)
  obtain ⟨V5, e5, hR5⟩ := C_tm141 hL hR4 hO4.1 h1
  rw [nI_0] at e1 e2 e3 e4 e5
  unfold d_X4_doTimers
  rw [e1, e2, e3, e4, e5]
  exact ⟨V5, rfl, hR5⟩
/-! hosts that answer -/
theorem C_say {kd : Int32} (hL : LY L G n Q) (hC : RC n st V Q z) (hO : MO z) (h1 : h < 16) (hu : qhw Q h ≠ -1) (k8 : kd ≠ 8) (k7 : kd ≠ 7) {gg : Int32} : ∃ V', d_X1_say (L.1 25 h 0) kd gg (eK L G V (RF n L Q)) = some (eK L G V' (RF n L Q)) ∧ RC n st V' Q (pu z (z.2 11 h) kd (100 + nI h) (-1) gg (-1) 0 0 0).2 ∧ V' 25 = V 25 := by
  have e : qhw Q h = z.2 11 h := by rw [hC.qh]
  obtain ⟨v, hv, ev⟩ : ∃ v, v < 16 ∧ z.2 11 h = nI v := (hO.1.2.2.1 h h1).resolve_left (by rw [← e]; exact hu)
  have hm : qmd Q v = true := by
    have := hC.md.2.1 h h1 hu
    rw [e, ev, nI_clamp (by omega)] at this
    exact this
  have ev' : qhw Q h = nI v := e.trans ev
  unfold d_X1_say
  simp (disch := first | omega | assumption) only [eK_hc, eK_hl, yK25 hL, iK25 hL, rK25_1 hL, rK25_2 hL, ev', lm4, lm8, lm10, lm16, lm17, lm26, lm40, lm400, nI_add, nI_1, ix_nI, nI_clamp, gd_T, gd_t, bd_e, bo_e, b2_e, true_and, and_true, (hC.ho h h1 hu).1]
  simp (disch := first | omega | assumption) only [eK_hc, eK_hl, yK5 hL, iK5 hL, rK5_1 hL, rK5_3 hL, rK5_4 hL, gd_T, gd_t, bd_e, bo_e, b2_e, true_and, and_true]
  rcases C_open (kd := kd) (se := 100 + nI h) hL hC hO.2.1 hv hm with ⟨V1, f, hT, hf, eo, hk, hs, hfr, hb⟩ | ⟨V1, hT, eo, hs, hb⟩
  · rw [eo, b2_e, if_neg (zK8 hL hv hf hm)]
    simp (disch := first | omega | assumption) only [eK_hc, eK_hl, yK8 hL, iK8 hL, wK8 hL, gd_T, gd_t, bd_e, bo_e, b2_e, true_and, and_true]
    refine ⟨_, rfl, RCe (hb _ ?_ ?_) ?_, (uR_ne (by decide)).trans (hs 25 (by decide) (by decide))⟩
    · simp (disch := first | omega | assumption) only [vu_s, vu_n, hk 0 (by decide), hk 1 (by decide), hk 2 (by decide), hk 3 (by decide), hk 4 (by decide), hk 5 (by decide), hk 6 (by decide), hk 7 (by decide), f8]
    · simp (disch := first | omega | assumption) only [vu_s, vu_n, hk 0 (by decide), hk 1 (by decide), hk 2 (by decide), hk 3 (by decide), hk 4 (by decide), hk 5 (by decide), hk 6 (by decide), hk 7 (by decide), f8]
    · simp (disch := first | omega | assumption) only [vu_s, vu_n, hk 0 (by decide), hk 1 (by decide), hk 2 (by decide), hk 3 (by decide), hk 4 (by decide), hk 5 (by decide), hk 6 (by decide), hk 7 (by decide), f8]
      rw [cz_o k8 k7, ev]
  · rw [eo, b2_e, if_pos rfl]
    exact ⟨_, rfl, RCe (hb kd (100 + nI h) (-1) gg (-1) 0 0 0).1 (by rw [ev]), hs 25 (by decide)⟩
end
