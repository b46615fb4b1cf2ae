/-! THE CLASS: ticks -/
section
variable {L : Ly} {G : Hp} {n : Nat} {st : Int32} {V : Vt} {Q : Qt} {z : Sg} {r p q g s x y m v i h k : Nat}
theorem C_tk58 {x1 x2 : Int32} {k47 : Nat → Int32 → Int32 → Hp → Option (Int32 × Hp)} (hL : LY L G n Q) (hC : RC n 0 V Q z) (hI : IV z) (hN : FN z) (ht : ∃ t, 1 ≤ t ∧ t ≤ 6000 ∧ z.1 0 = nI t) : ∃ V', d_X8_tick_58 FU (L.1 0 0 0) x1 x2 (nI 0) (eK L G V (RF n L Q)) k47 = d_X8_tick_85 FU (L.1 0 0 0) x1 x2 0 (eK L G V' (RF n L Q)) k47 ∧ RC n 0 V' Q (fo (fun z v => dwZ v z) z 16) := by
  refine loopC (N := 16) (f := fun z v => dwZ v z) (D := fun m i H => d_X8_tick_58 m (L.1 0 0 0) x1 x2 (nI i) H k47) (K := fun H => d_X8_tick_85 FU (L.1 0 0 0) x1 x2 0 H k47) (by decide) (fun m v V hv hR => ?_) (fun m V _ => ?_) hC
  · have hIs := ds_ok hI hN v (by omega)
    obtain ⟨V1, e, hR1⟩ := C_deliver hL hR hIs.1 (te_FN hIs.2 hN) (ht_te ht hIs.2) hv
    rw [d_X8_tick_58.eq_2, show (16 : Int32) = nI 16 from rfl, if_neg (nI_ge hv (by decide))]
    simp (disch := first | omega | assumption) only [eK_hc, eK_hl, yK0 hL, iK0 hL, rK0_0 hL, rK0_1 hL, rK0_2 hL, yK1 hL, iK1 hL, rK1_0 hL, rK1_1 hL, rK1_2 hL, rK1_3 hL, yK4_0 hL, iK4_0 hL, lK4_0 hL, rK4_0 hL, lm4, lm8, lm10, lm16, lm17, lm26, lm40, lm400, nI_add, nI_1, ix_nI, nI_clamp, gd_T, gd_t, bd_e, bo_e, b2_e, true_and, and_true, e]
    exact Or.inl ⟨V1, rfl, by rw [fo_s]; exact hR1⟩
  · rw [d_X8_tick_58.eq_2, show (16 : Int32) = nI 16 from rfl, if_pos (nI_le (by omega) (by decide))]
theorem C_tk85 {x1 x2 : Int32} {k47 : Nat → Int32 → Int32 → Hp → Option (Int32 × Hp)} (hL : LY L G n Q) (hC : RC n 0 V Q z) (hI : IV z) (ht : ∃ t, 1 ≤ t ∧ t ≤ 6000 ∧ z.1 0 = nI t) : ∃ V', d_X8_tick_85 FU (L.1 0 0 0) x1 x2 (nI 0) (eK L G V (RF n L Q)) k47 = d_X8_tick_111 FU (L.1 0 0 0) x1 x2 0 (eK L G V' (RF n L Q)) k47 ∧ RC n 0 V' Q (fo (fun z r => tmZ z r) z n) := by
  have hn := hC.nn.2.2.2
  have hn1 := hC.nn.2.2.1
  have hnr := hC.nr
  refine loopC (N := n) (f := fun z r => tmZ z r) (D := fun m i H => d_X8_tick_85 m (L.1 0 0 0) x1 x2 (nI i) H k47) (K := fun H => d_X8_tick_111 FU (L.1 0 0 0) x1 x2 0 H k47) (by omega) (fun m r V hr hR => ?_) (fun m V _ => ?_) hC
  · have hIs := tms_ok hI r (by omega)
    obtain ⟨V1, e, hR1⟩ := C_doTimers hL hR hIs.1.1 (ht_te ht hIs.2) hr
    rw [d_X8_tick_85.eq_2]
    simp (disch := first | omega | assumption) only [eK_hc, eK_hl, yK0 hL, iK0 hL, rK0_0 hL, rK0_1 hL, rK0_2 hL, yK4_1 hL, iK4_1 hL, lK4_1 hL, rK4_1 hL, lm4, lm8, lm10, lm16, lm17, lm26, lm40, lm400, nI_add, nI_1, ix_nI, nI_clamp, gd_T, gd_t, bd_e, bo_e, b2_e, true_and, and_true]
    rw [if_neg (nI_ge hr (by omega))]
    simp (disch := first | omega | assumption) only [eK_hc, eK_hl, yK9 hL, iK9 hL, rK9_0 hL, rK9_2 hL, rK9_3 hL, gd_T, gd_t, bd_e, bo_e, b2_e, true_and, and_true, rK4_1 hL hr, e]
    exact Or.inl ⟨V1, rfl, by rw [fo_s]; exact hR1⟩
  · rw [d_X8_tick_85.eq_2]
    simp (disch := first | omega | assumption) only [eK_hc, eK_hl, yK0 hL, iK0 hL, rK0_0 hL, rK0_1 hL, rK0_2 hL, yK4_1 hL, iK4_1 hL, lK4_1 hL, rK4_1 hL, lm4, lm8, lm10, lm16, lm17, lm26, lm40, lm400, nI_add, nI_1, ix_nI, nI_clamp, gd_T, gd_t, bd_e, bo_e, b2_e, true_and, and_true]
    rw [if_pos (nI_le (by omega) (by omega))]
theorem an_none (hC : RC n st V Q z) (hu : qhw Q h = -1) (hh : h < 16) : RC n st V Q (anZ z h) := by
  have e11 : z.2 11 h = -1 := by rw [← hC.qh]; exact hu
  have e1 : ∀ g, an1 z h g = z := by
    intro g
    unfold an1
    rw [e11, pu_m1]
    cases (inB z h g && decide (((z.2 14 h >>> (nI g &&& 31)) &&& 1) = 1)) <;> rfl
  have ef : fo (fun z g => an1 z h g) z 8 = z := by
    have := fo_stop (z := z) (f := fun z g => an1 z h g) (s := 0) 8 (by omega) (fun i _ _ => e1 i)
    exact this
  unfold anZ
  rw [ef]
  have eho : cHo Q (V 25) (z.2 13) ((uA z 14 h 0).2 14) := by
    intro b a1 a2
    obtain ⟨c0, c3, c4⟩ := hC.ho b a1 a2
    rw [uA_get, if_neg (fun w => a2 (by rw [w]; exact hu))]
    exact ⟨c0, c3, c4⟩
  have eg0 : cG0 Q (z.2 13) ((uA z 14 h 0).2 14) (z.2 15) := by
    intro j hj hm2
    obtain ⟨u1, u2, u3⟩ := hC.g0 j hj hm2
    refine ⟨u1, ?_, u3⟩
    rw [uA_get]
    split
    · rfl
    · exact u2
  exact ⟨hC.tm, hC.nu, hC.tu, hC.nn, hC.ns, hC.qw, hC.qh, hC.wa, hC.mt, hC.hz, hC.wi, hC.su, hC.po, hC.fr, hC.fc, hC.pi, hC.md, hC.me, hC.fn, hC.id, hC.jb, hC.ja, hC.tc, hC.kp, hC.sp, hC.sb, hC.pt, hC.he, hC.qu, hC.nt, (cNb_c hC.nb rfl rfl rfl), hC.mb, hC.jt, hC.cf, hC.cl, (eho), hC.go, hC.k33, hC.k39, hC.k37, hC.k29, hC.k28, hC.k31, hC.k30, hC.un, hC.on, hC.u2, (eg0), hC.jp, (cWs_t hC.ws ⟨rfl, rfl, rfl, rfl⟩)⟩
theorem C_tk111 {x1 : Int32} {k47 : Nat → Int32 → Int32 → Hp → Option (Int32 × Hp)} (hL : LY L G n Q) (hC : RC n 0 V Q z) (hI : IV z) : ∃ V', d_X8_tick_111 FU (L.1 0 0 0) x1 (nI k) (nI 0) (eK L G V (RF n L Q)) k47 = k47 (L.1 0 0 0) x1 (nI (k + 1)) (eK L G V' (RF n L Q)) ∧ RC n 0 V' Q (fo (fun z h => anZ z h) z 16) := by
  refine loopC (N := 16) (f := fun z h => anZ z h) (D := fun m i H => d_X8_tick_111 m (L.1 0 0 0) x1 (nI k) (nI i) H k47) (K := fun H => k47 (L.1 0 0 0) x1 (nI (k + 1)) H) (by decide) (fun m h V hh hR => ?_) (fun m V _ => ?_) hC
  · have hIs := ans_ok hI h (by omega)
    rw [fo_s]
    generalize hY : fo (fun z h => anZ z h) z h = Y at hR hIs
    rw [d_X8_tick_111.eq_2, show (16 : Int32) = nI 16 from rfl, if_neg (nI_ge hh (by decide))]
    simp (disch := first | omega | assumption) only [eK_hc, eK_hl, yK0 hL, iK0 hL, rK0_0 hL, rK0_1 hL, rK0_2 hL, yK4_2 hL, iK4_2 hL, lK4_2 hL, rK4_2 hL, lm4, lm8, lm10, lm16, lm17, lm26, lm40, lm400, nI_add, nI_1, ix_nI, nI_clamp, gd_T, gd_t, bd_e, bo_e, b2_e, true_and, and_true]
    by_cases hu : qhw Q h = -1
    · rw [if_neg (not_not_intro hu), if_pos rfl]
      exact Or.inl ⟨V, rfl, an_none hR hu hh⟩
    · obtain ⟨V1, e, hR1⟩ := C_answerQueries hL hR hIs.1.1 hh hu
      rw [if_pos hu, if_neg (zK25 hL hh hu)]
      simp (disch := first | omega | assumption) only [eK_hc, eK_hl, yK25 hL, iK25 hL, rK25_1 hL, rK25_2 hL, gd_T, gd_t, bd_e, bo_e, b2_e, true_and, and_true, e]
      exact Or.inl ⟨V1, rfl, hR1⟩
  · rw [d_X8_tick_111.eq_2, show (16 : Int32) = nI 16 from rfl, if_pos (nI_le (by omega) (by decide)), nI_1]
theorem C_tk47 {N t : Nat} (hI0 : IV z) (et0 : z.1 0 = nI t) (hN : t + N ≤ 6000) (hN2 : N ≤ 50) : ∀ (F k : Nat) (V : Vt) (Q : Qt), LY L G n Q → k ≤ N → N - k < F → RC n 0 V Q (onesZ z k) → ∃ V' Q', d_X8_tick_47 F (L.1 0 0 0) (nI N) (nI k) (eK L G V (RF n L Q)) = some (nI (t + N), eK L G V' (RF n L Q')) ∧ RC n 0 V' Q' (onesZ z N) ∧ LY L G n Q' := by
  intro F
  induction F with
  | zero => intro k V Q _ _ h; omega
  | succ F ih =>
    intro k V Q hL hk hlt hC
    have hn := hC.nn.2.2.2
    obtain ⟨hIk, tk, etk⟩ := ones_ok hI0 et0 k (by omega)
    rw [d_X8_tick_47.eq_2]
    by_cases he : k = N
    · subst he
      rw [if_pos (nI_le (by omega) (by omega))]
      simp (disch := first | omega | assumption) only [eK_hc, eK_hl, yK0 hL, iK0 hL, rK0_0 hL, rK0_1 hL, rK0_2 hL, yK1 hL, iK1 hL, rK1_0 hL, rK1_1 hL, rK1_2 hL, rK1_3 hL, gd_T, gd_t, bd_e, bo_e, b2_e, true_and, and_true, hC.tm, etk]
      exact ⟨V, Q, rfl, hC, hL⟩
    · have hkN : k < N := by omega
      rw [if_neg (nI_ge hkN (by omega)), eK_hc, gd_t (yK0 hL)]
      obtain ⟨V1, Q1, e1, hR1, hL1⟩ := C_beginTick hL hC hIk.1 ⟨t + k, by omega, etk⟩
      obtain ⟨b1, b2⟩ := be_ok hIk (show t + k < 6000 by omega) etk
      have ht1 : ∃ u, 1 ≤ u ∧ u ≤ 6000 ∧ (beZ (onesZ z k)).1 0 = nI u := ⟨t + k + 1, by omega, by omega, by rw [be_0, etk, nI_1]⟩
      obtain ⟨V2, e2, hR2⟩ := C_tk58 (x1 := nI N) (x2 := nI k) (k47 := fun y0 y1 y2 Gy => d_X8_tick_47 F y0 y1 y2 Gy) hL1 hR1 b1 b2 ht1
      obtain ⟨c1, c2⟩ := ds_ok b1 b2 16 (Nat.le_refl _)
      obtain ⟨V3, e3, hR3⟩ := C_tk85 (x1 := nI N) (x2 := nI k) (k47 := fun y0 y1 y2 Gy => d_X8_tick_47 F y0 y1 y2 Gy) hL1 hR2 c1 (ht_te ht1 c2)
      obtain ⟨d1, d2⟩ := tms_ok c1 n (by rw [hR2.nr]; exact Nat.le_refl _)
      obtain ⟨V4, e4, hR4⟩ := C_tk111 (k := k) (x1 := nI N) (k47 := fun y0 y1 y2 Gy => d_X8_tick_47 F y0 y1 y2 Gy) hL1 hR3 d1
      rw [nI_0] at e2 e3 e4
      rw [e1, bo_e, e2, e3, e4]
      have hone : RC n 0 V4 Q1 (onesZ z (k + 1)) := by
        show RC n 0 V4 Q1 (oneZ (onesZ z k))
        unfold oneZ
        rw [show nR (onesZ z k) = n from hC.nr]
        exact hR4
      exact ih (k + 1) V4 Q1 hL1 (by omega) (by omega) hone
theorem C_tick {N : Int32} (hL : LY L G n Q) (hC : RC n st V Q z) (hI : IV z) (hc : CO z) : ∃ V' Q' st', d_X8_tick (L.1 0 0 0) N (eK L G V (RF n L Q)) = some ((tkZ z N).1, eK L G V' (RF n L Q')) ∧ RC n st' V' Q' (tkZ z N).2 ∧ LY L G n Q' := by
  unfold d_X8_tick tkZ
  by_cases h1 : N < 1
  · rw [if_pos h1, if_pos (Or.inl h1)]
    exact ⟨V, Q, st, rfl, hC, hL⟩
  · rw [if_neg h1]
    by_cases h2 : 50 < N
    · rw [if_pos h2, if_pos (Or.inr (Or.inl h2))]
      exact ⟨V, Q, st, rfl, hC, hL⟩
    · rw [if_neg h2]
      simp (disch := first | omega | assumption) only [eK_hc, eK_hl, yK0 hL, iK0 hL, rK0_0 hL, rK0_1 hL, rK0_2 hL, yK1 hL, iK1 hL, rK1_0 hL, rK1_1 hL, rK1_2 hL, rK1_3 hL, gd_T, gd_t, bd_e, bo_e, b2_e, true_and, and_true, hC.tm]
      by_cases h3 : z.1 0 + N ≤ 6000
      · rw [if_pos h3, if_neg (fun w => w.elim h1 (fun w => w.elim h2 (fun w => w h3)))]
        simp (disch := first | omega | assumption) only [eK_hc, eK_hl, yK2 hL, iK2 hL, rK2_1 hL, rK2_2 hL, rK2_3 hL, rK2_4 hL, rK2_5 hL, gd_T, gd_t, bd_e, bo_e, b2_e, true_and, and_true]
        obtain ⟨V1, e1, hR1⟩ := C_refresh hL hC hI.1.1 hc
        rw [e1, bo_e]
        obtain ⟨t, ht, et⟩ := hI.1.1.2.1
        obtain ⟨M, hM, eM⟩ : ∃ M : Nat, M < 51 ∧ N = nI M := by
          have hpos : ¬ N < 0 := fun w => h1 (Int32.lt_of_lt_of_le w (by decide))
          obtain ⟨j, hj, e⟩ := nI_of hpos
          refine ⟨j, ?_, e⟩
          rcases Nat.lt_or_ge j 51 with o | o
          · exact o
          · exfalso
            rw [e] at h2
            exact h2 (nI_lt (a := 50) (by omega) hj)
        rw [eM, et] at h3 ⊢
        have hN6 : t + M ≤ 6000 := by
          rw [nI_add] at h3
          exact (nI_leI (b := 6000) (by omega) (by decide)).mp h3
        obtain ⟨V2, Q2, e2, hR2, hL2⟩ := C_tk47 (N := M) hI et hN6 (by omega) FU 0 V1 Q hL (by omega) (by show _ < 6000; omega) hR1
        rw [nI_0] at e2
        rw [e2, nI_add, nI_clamp (by omega)]
        exact ⟨V2, Q2, 0, rfl, hR2, hL2⟩
      · rw [if_neg h3, if_pos (Or.inr (Or.inr h3))]
        exact ⟨V, Q, st, rfl, hC, hL⟩
end
