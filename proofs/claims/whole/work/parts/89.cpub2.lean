/-! THE CLASS: answers that may measure the ways anew -/
section
variable {L : Ly} {G : Hp} {n : Nat} {st : Int32} {V : Vt} {Q : Qt} {z : Sg} {r p q g s x y m v i h k : Nat}
theorem C_way64 {w : Int32} (hL : LY L G n Q) (hC : RC n 0 V Q z) (hD : DB z) (hr : r < n) (hm : m < 26) : d_X8_way_64 (L.1 0 0 0) (nI r) w (nI m) (eK L G V (RF n L Q)) = some (wyK z (26 * r + m) w, eK L G V (RF n L Q)) := by
  have hn := hC.nn.2.2.2
  have hnr := hC.nr
  unfold d_X8_way_64 wyK
  simp (disch := first | omega | assumption) only [eK_hc, eK_hl, yK0 hL, iK0 hL, rK0_0 hL, rK0_1 hL, rK0_2 hL, yK1 hL, iK1 hL, rK1_0 hL, rK1_1 hL, rK1_2 hL, rK1_3 hL, yK2 hL, iK2 hL, rK2_1 hL, rK2_2 hL, rK2_3 hL, rK2_4 hL, rK2_5 hL, gd_T, gd_t, bd_e, bo_e, b2_e, true_and, and_true, C_distanceTo hL hC hr hm, C_portTo hL hC hr hm, C_routerTo hL hC hr hm]
  by_cases w0 : w = 0
  · rw [if_pos w0, if_pos w0]
    by_cases hd : Wd z (26 * r + m) < 1000000
    · rw [if_pos hd, if_pos hd]
      obtain ⟨d, e, hd2⟩ := hD (26 * r + m) (by omega)
      have : ¬ Wd z (26 * r + m) = 9999 := by
        rw [e]
        rcases hd2 with h | h
        · rw [e, h] at hd
          exact absurd hd (by decide)
        · intro w
          have := (nI_eq (b := 9999) (by omega) (by decide)).mp w
          omega
      rw [if_neg this]
    · rw [if_neg hd, if_neg hd, if_pos rfl]
  · rw [if_neg w0, if_neg w0]
    by_cases w1 : w = 1
    · rw [if_pos w1, if_pos w1]
    · rw [if_neg w1, if_neg w1]
      by_cases w2 : w = 2
      · rw [if_pos w2, if_pos w2]
      · rw [if_neg w2, if_neg w2]
theorem C_way {a o b w : Int32} (hL : LY L G n Q) (hC : RC n st V Q z) (hI : IV z) (hc : CO z) : ∃ V' st', d_X8_way (L.1 0 0 0) a o b w (eK L G V (RF n L Q)) = some (wyA z a o b w, eK L G V' (RF n L Q)) ∧ RC n st' V' Q z := by
  have hn := hC.nn.2.2.2
  have hn1 := hC.nn.2.2.1
  have hnr := hC.nr
  unfold d_X8_way wyA
  simp (disch := first | omega | assumption) only [eK_hc, eK_hl, yK0 hL, iK0 hL, rK0_0 hL, rK0_1 hL, rK0_2 hL, yK4_1 hL, iK4_1 hL, lK4_1 hL, rK4_1 hL, gd_T, gd_t, bd_e, bo_e, b2_e, true_and, and_true, C_isIn, ite_bI]
  rw [hnr]
  cases ha : inR a n with
  | false => exact ⟨V, st, rfl, hC⟩
  | true =>
    obtain ⟨r, hr, rfl⟩ := inR_t (by omega) ha
    obtain ⟨V1, e1, hR1⟩ := C_refresh hL hC hI.1.1 hc
    rw [cond_true, Bool.true_and, nI_clamp (by omega)]
    unfold d_X8_way_27
    by_cases ho : o = 0
    · simp only [if_pos ho, C_isIn, bo_e, ite_bI]
      cases hb : inR b n with
      | false => exact ⟨V, st, rfl, hC⟩
      | true =>
        obtain ⟨t, ht, rfl⟩ := inR_t (by omega) hb
        rw [cond_true, cond_true, nI_clamp (by omega)]
        simp (disch := first | omega | assumption) only [eK_hc, eK_hl, yK0 hL, iK0 hL, rK0_0 hL, rK0_1 hL, rK0_2 hL, yK1 hL, iK1 hL, rK1_0 hL, rK1_1 hL, rK1_2 hL, rK1_3 hL, yK2 hL, iK2 hL, rK2_1 hL, rK2_2 hL, rK2_3 hL, rK2_4 hL, rK2_5 hL, gd_T, gd_t, bd_e, bo_e, b2_e, true_and, and_true, e1]
        rw [C_way64 hL hR1 hI.2.2 hr (by omega)]
        exact ⟨V1, 0, rfl, hR1⟩
    · simp only [if_neg ho, C_isIn16, bo_e, ite_bI]
      cases hb : inR b 16 with
      | false => exact ⟨V, st, rfl, hC⟩
      | true =>
        obtain ⟨t, ht, rfl⟩ := inR_t (by omega) hb
        rw [cond_true, cond_true, nI_clamp (by omega)]
        simp (disch := first | omega | assumption) only [eK_hc, eK_hl, yK0 hL, iK0 hL, rK0_0 hL, rK0_1 hL, rK0_2 hL, yK1 hL, iK1 hL, rK1_0 hL, rK1_1 hL, rK1_2 hL, rK1_3 hL, yK2 hL, iK2 hL, rK2_1 hL, rK2_2 hL, rK2_3 hL, rK2_4 hL, rK2_5 hL, gd_T, gd_t, bd_e, bo_e, b2_e, true_and, and_true, e1]
        rw [show (10 : Int32) + nI t = nI (10 + t) from nI_add 10 t, C_way64 hL hR1 hI.2.2 hr (by omega)]
        exact ⟨V1, 0, rfl, hR1⟩
theorem src_y {a : Int32} (h : (decide (a = -1) || inR a 16) = true) : (a = -1 ∧ (a + 1).toNatClampNeg = 0) ∨ ∃ s, s < 16 ∧ a = nI s ∧ (a + 1).toNatClampNeg = s + 1 := by
  rw [Bool.or_eq_true] at h
  rcases h with h | h
  · have e := of_decide_eq_true h
    left
    refine ⟨e, ?_⟩
    rw [e]
    decide
  · obtain ⟨s, hs, e⟩ := inR_t (by decide) h
    right
    refine ⟨s, hs, e, ?_⟩
    rw [e, nI_1, nI_clamp (by omega)]
theorem C_branch {a b c d w : Int32} (hL : LY L G n Q) (hC : RC n st V Q z) (hI : IV z) (hc : CO z) : ∃ V' st', d_X8_branch (L.1 0 0 0) a b c d w (eK L G V (RF n L Q)) = some (brA z a b c d w, eK L G V' (RF n L Q)) ∧ RC n st' V' Q z := by
  have hn := hC.nn.2.2.2
  have hn1 := hC.nn.2.2.1
  have hnr := hC.nr
  have hF := hI.1.1
  unfold d_X8_branch brA
  rw [eK_hc, gd_t (yK0 hL), C_isPort hL hC, bo_e, ite_bI, hnr]
  cases hab : (inR a n && inR b 4) with
  | false => exact ⟨V, st, rfl, hC⟩
  | true =>
    rw [Bool.and_eq_true] at hab
    obtain ⟨r, hr, rfl⟩ := inR_t (by omega) hab.1
    obtain ⟨p, hp, rfl⟩ := inR_t (by decide) hab.2
    rw [cond_true, C_isIn8, bo_e, ite_bI, Bool.true_and]
    cases hg : inR c 8 with
    | false => exact ⟨V, st, rfl, hC⟩
    | true =>
      obtain ⟨g, hg8, rfl⟩ := inR_t (by decide) hg
      rw [cond_true, C_isSource, bo_e, ite_bI, Bool.true_and]
      cases hs : (decide (d = -1) || inR d 16) with
      | false => exact ⟨V, st, rfl, hC⟩
      | true =>
        rw [cond_true, cond_true, nI_clamp (by omega), nI_clamp (by omega), nI_clamp (by omega)]
        unfold brK
        simp (disch := first | omega | assumption) only [eK_hc, eK_hl, yK0 hL, iK0 hL, rK0_0 hL, rK0_1 hL, rK0_2 hL, yK1 hL, iK1 hL, rK1_0 hL, rK1_1 hL, rK1_2 hL, rK1_3 hL, yK4_1 hL, iK4_1 hL, lK4_1 hL, rK4_1 hL, yK9 hL, iK9 hL, rK9_0 hL, rK9_2 hL, rK9_3 hL, yK10 hL, iK10 hL, lK10 hL, rK10 hL, lm4, lm8, lm10, lm16, lm17, lm26, lm40, lm400, nI_add, nI_1, ix_nI, nI_clamp, gd_T, gd_t, bd_e, bo_e, b2_e, true_and, and_true]
        by_cases w0 : w = 0
        · rw [if_pos w0, if_pos w0]
          by_cases hu : qpw Q (4 * r + p) = -1
          · rw [if_neg (not_not_intro hu), if_pos rfl]
            refine ⟨V, st, ?_, hC⟩
            have : jn z (4 * r + p) g (d + 1).toNatClampNeg = false := by
              rcases src_y hs with ⟨_, e⟩ | ⟨s, hs16, _, e⟩
              · rw [e]; exact un_jn hF hC hr hp hu hg8 (by decide)
              · rw [e]; exact un_jn hF hC hr hp hu hg8 (by omega)
            rw [this]
            rfl
          · rw [if_pos hu, if_neg (zK18 hL hr hp hu)]
            simp (disch := first | omega | assumption) only [eK_hc, eK_hl, yK18 hL, iK18 hL, rK18_0 hL, rK18_2 hL, rK18_7 hL, rK18_8 hL, rK18_9 hL, rK18_10 hL, rK18_11 hL, rK18_12 hL, gd_T, gd_t, bd_e, bo_e, b2_e, true_and, and_true]
            rcases src_y hs with ⟨e0, e⟩ | ⟨s, hs16, e0, e⟩
            · rw [if_pos e0, show (16 : Int32) = nI 16 from rfl, C_whenJoinEnds hL hC hr hp hu hg8 (by decide), bo_e, e]
              exact ⟨V, st, rfl, hC⟩
            · rw [e0, if_neg (nI_m1 (by omega)), C_whenJoinEnds hL hC hr hp hu hg8 (show s < 17 by omega), bo_e, yx_s hs16, nI_1, nI_clamp (by omega)]
              exact ⟨V, st, rfl, hC⟩
        · rw [if_neg w0, if_neg w0]
          rcases src_y hs with ⟨e0, e⟩ | ⟨s, hs16, e0, e⟩
          · rw [if_pos e0, e, if_pos rfl]
            exact ⟨V, st, rfl, hC⟩
          · obtain ⟨V1, e1, hR1⟩ := C_refresh hL hC hF hc
            rw [e0, if_neg (nI_m1 (by omega)), nI_1, nI_clamp (by omega), if_neg (show ¬ s + 1 = 0 by omega), Nat.add_sub_cancel]
            simp (disch := first | omega | assumption) only [eK_hc, eK_hl, yK2 hL, iK2 hL, rK2_1 hL, rK2_2 hL, rK2_3 hL, rK2_4 hL, rK2_5 hL, gd_T, gd_t, bd_e, bo_e, b2_e, true_and, and_true, e1]
            by_cases w1 : w = 1
            · rw [if_pos w1, if_pos w1]
              by_cases hu : qpw Q (4 * r + p) = -1
              · rw [if_neg (not_not_intro hu), if_pos rfl]
                refine ⟨V1, 0, ?_, hR1⟩
                have : cutO z (4 * r + p) g s = false := by
                  unfold cutO
                  rw [un_jn hF hC hr hp hu hg8 (by decide)]
                  rfl
                rw [this]
                rfl
              · rw [if_pos hu, if_neg (zK18 hL hr hp hu)]
                simp (disch := first | omega | assumption) only [eK_hc, eK_hl, yK18 hL, iK18 hL, rK18_0 hL, rK18_2 hL, rK18_7 hL, rK18_8 hL, rK18_9 hL, rK18_10 hL, rK18_11 hL, rK18_12 hL, gd_T, gd_t, bd_e, bo_e, b2_e, true_and, and_true, C_isCutOff hL hR1 hr hp hu hg8 hs16, ite_bI]
                refine ⟨V1, 0, ?_, hR1⟩
                cases cutO z (4 * r + p) g s <;> rfl
            · rw [if_neg w1, if_neg w1]
              by_cases w2 : w = 2
              · rw [if_pos w2, if_pos w2]
                obtain ⟨f, hlk, e2⟩ := C_look hL hR1 hF hr hg8 hs16
                have hR2 := RC_scr hR1 hlk.1
                have h12 := (congrFun (uR_s (V := V1) (c := 12) (i := r) (j := g) (f := f)) 12).trans hlk.2.2.1
                have el : bt (loB4 z r g s) p = lostP z r p g s := by
                  unfold loB4
                  rw [b_bN 4 (by decide) p (by omega), decide_eq_true hp, Bool.true_and]
                unfold d_X5_isLost
                simp (disch := first | omega | assumption) only [eK_hc, eK_hl, yK0 hL, iK0 hL, rK0_0 hL, rK0_1 hL, rK0_2 hL, yK4_1 hL, iK4_1 hL, lK4_1 hL, rK4_1 hL, yK9 hL, iK9 hL, rK9_0 hL, rK9_2 hL, rK9_3 hL, yK11 hL, iK11 hL, lK11 hL, rK11 hL, lm4, lm8, lm10, lm16, lm17, lm26, lm40, lm400, nI_add, nI_1, ix_nI, nI_clamp, gd_T, gd_t, bd_e, bo_e, b2_e, true_and, and_true]
                simp (disch := first | omega | assumption) only [eK_hc, eK_hl, yK12 hL, iK12 hL, rK12_0 hL, rK12_3 hL, rK12_5 hL, rK12_6 hL, rK12_8 hL, rK12_9 hL, rK12_10 hL, gd_T, gd_t, bd_e, bo_e, b2_e, true_and, and_true, e2, h12, C_has (show p < 32 by omega), el, bI_and1, ite_bI]
                refine ⟨_, 0, ?_, hR2⟩
                cases lostP z r p g s <;> rfl
              · rw [if_neg w2, if_neg w2]
                by_cases w3' : w = 3
                · rw [if_pos w3', if_pos w3']
                  by_cases hu : qpw Q (4 * r + p) = -1
                  · rw [if_neg (not_not_intro hu), if_pos rfl, un_clm hC hr hp hu hg8 hs16, if_pos rfl]
                    exact ⟨V1, 0, rfl, hR1⟩
                  · rw [if_pos hu, if_neg (zK18 hL hr hp hu)]
                    simp (disch := first | omega | assumption) only [eK_hc, eK_hl, yK18 hL, iK18 hL, rK18_0 hL, rK18_2 hL, rK18_7 hL, rK18_8 hL, rK18_9 hL, rK18_10 hL, rK18_11 hL, rK18_12 hL, gd_T, gd_t, bd_e, bo_e, b2_e, true_and, and_true, C_claimant hL hR1 hF hr hp hu hg8 hs16]
                    exact ⟨V1, 0, rfl, hR1⟩
                · rw [if_neg w3', if_neg w3']
                  exact ⟨V1, 0, rfl, hR1⟩
end
