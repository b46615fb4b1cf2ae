theorem MO_3334 {z : Sg} {t : Nat} {a b : Int32} (h : MO z) (hab : (a = -1 ∧ b = -1) ∨ ∃ p q, p < 4 ∧ q < nR z ∧ a = nI p ∧ b = nI q) : MO (uA (uA z 33 t a) 34 t b) := by
  refine ⟨WF_eq h.1 rfl rfl ?_ ?_ ?_ ?_, ?_, ?_⟩
  · rw [uA_ne (by decide), uA_ne (by decide)]
  · rw [uA_ne (by decide), uA_ne (by decide)]
  · rw [uA_ne (by decide), uA_ne (by decide)]
  · rw [uA_ne (by decide), uA_ne (by decide)]
  · intro n hn
    rw [uA_ne (by decide), uA_ne (by decide), uA_ne (by decide), uA_ne (by decide)]
    exact h.2.1 n hn
  · intro i hi
    rw [uA_ne (by decide), uA_get, uA_get, uA_ne (by decide)]
    by_cases e : i = t
    · rw [if_pos e, if_pos e]
      exact hab
    · rw [if_neg e, if_neg e]
      exact h.2.2 i hi
theorem te_3334 {z : Sg} {t : Nat} {a b : Int32} : TE (uA (uA z 33 t a) 34 t b) z := te_tr (te_uA (by decide)) (te_uA (by decide))
theorem upG_ok {z : Sg} {r k : Nat} {c : Int32} (hF : WF z) (hc : c = -1 ∨ ∃ q, q < nR z ∧ c - c / 100 * 100 = nI q) : upG z r k c = -1 ∨ ∃ p q, p < 4 ∧ q < nR z ∧ upG z r k c = nI (16 * p + q) := by
  have hn := hF.1
  unfold upG
  rcases Wp_ok z k with a1 | ⟨p, hp, a1⟩
  · exact Or.inl (by rw [if_pos a1])
  · rw [if_neg (by rw [a1]; exact nI_m1 (by omega))]
    rcases Wr_ok z k with a2 | ⟨q, hq, a2⟩
    · exact Or.inl (by rw [if_pos a2])
    · rw [if_neg (by rw [a2]; exact nI_m1 (by omega))]
      have hv : ∃ q2, q2 < nR z ∧ (if c = -1 then Wr z k else c - c / 100 * 100) = nI q2 := by
        by_cases hc1 : c = -1
        · rw [if_pos hc1]; exact ⟨q, hq, a2⟩
        · rw [if_neg hc1]
          rcases hc with hc | hc
          · exact absurd hc hc1
          · exact hc
      obtain ⟨q2, hq2, e2⟩ := hv
      rw [e2, a1]
      split
      · exact Or.inr ⟨p, q2, hp, hq2, by rw [lm16, nI_add]⟩
      · exact Or.inl rfl
theorem clm_ok {z : Sg} {r p g s : Nat} (hF : WF z) (h1 : r < nR z) (h2 : p < 4) (h3 : g < 8) (h4 : s < 16) : clm z (4 * r + p) g s = -1 ∨ ∃ q, q < nR z ∧ clm z (4 * r + p) g s - clm z (4 * r + p) g s / 100 * 100 = nI q := by
  by_cases h : clm z (4 * r + p) g s = -1
  · exact Or.inl h
  · exact Or.inr (clm_q hF h1 h2 h3 h4 h)
theorem upY_ok {z : Sg} {r g y : Nat} (hF : WF z) (h1 : r < nR z) (h3 : g < 8) (hy : y < 17) : upY z r g y = -1 ∨ ∃ p q, p < 4 ∧ q < nR z ∧ upY z r g y = nI (16 * p + q) := by
  unfold upY
  split
  · exact upG_ok hF (Or.inl rfl)
  · unfold upS
    split
    · exact Or.inl rfl
    · rcases Wp_ok z (tS z r (y - 1)) with a1 | ⟨p, hp, a1⟩
      · unfold upG
        rw [if_pos a1]
        exact Or.inl rfl
      · refine upG_ok hF ?_
        rw [a1, nI_clamp (by omega)]
        exact clm_ok hF h1 hp h3 (by omega)
section
variable {x : Nat} {G : Hp} {z w : Sg} {r p q g s y k : Nat}
theorem M_cm3 {u bits : Int32} (hM : MS x G) (hO : MO z) (h1 : r < nR z) (h3 : g < 8) (hy : y < 17) (hp : p < 4) (hq : q < nR z) (hu : u = nI (16 * p + q)) : d_X9_climb_208 x (nI r) (nI g) (nI y) (nI (17 * (8 * r + g) + y)) u bits 1 (em2 x G z w) = some (em2 x G (cm3 z r g y u bits) w) := by
  have hn := hO.1.1
  have e1 : u / 16 = nI p := by
    rw [hu, show (16 : Int32) = nI 16 from rfl, pk_div (by omega) (by decide) (by decide)]
    congr 1
    omega
  have e2 : u - u / 16 * 16 = nI q := by
    rw [hu, show (16 : Int32) = nI 16 from rfl, pk_rem (by omega) (by decide) (by decide)]
    congr 1
    omega
  have hO2 : MO (uA (uA z 33 (17 * (8 * r + g) + y) (u / 16)) 34 (17 * (8 * r + g) + y) (u - u / 16 * 16)) := MO_3334 hO (Or.inr ⟨p, q, hp, hq, e1, e2⟩)
  have hnr : nR (uA (uA z 33 (17 * (8 * r + g) + y) (u / 16)) 34 (17 * (8 * r + g) + y) (u - u / 16 * 16)) = nR z := te_nR te_3334
  have r33 : (uA (uA z 33 (17 * (8 * r + g) + y) (u / 16)) 34 (17 * (8 * r + g) + y) (u - u / 16 * 16)).2 33 (17 * (8 * r + g) + y) ≠ -1 := by
    rw [uA_ne (by decide), uA_get, if_pos rfl, e1]
    exact nI_m1 (by omega)
  unfold d_X9_climb_208 cm3 d_X9_climb_257
  rw [if_neg (by decide)]
  simp (disch := omega) only [e2_hc, e2_hr, e2_hl, ms0, ms1, ms2, ms3, ms4, ms5, ms6, ms7, ms21, hM.1, mc33 hM, ml33 hM, mr33 hM, mc34 hM, ml34 hM, mr34 hM, mc36 hM, ml36 hM, mr36 hM, lm4, lm8, lm10, lm16, lm17, lm26, lm40, lm400, nI_add, nI_1, ix_nI, nI_clamp, gd_T, gd_t, bd_e, bo_e, b2_e, true_and, and_true, mu33 hM, mu34 hM, mu36 hM]
  by_cases hy0 : y = 0
  · subst hy0
    rw [if_pos (show nI 0 = 0 from rfl), if_pos rfl]
    rw [M_sendJoin hM (MO_uA hO2 (by decide)) (by rw [te_nR (te_uA (by decide)), hnr]; exact h1) h3 hy (by rw [uA_ne (by decide)]; exact r33), bo_e]
  · rw [if_neg (nI_ne0 (by omega) (by omega)), if_neg hy0]
    rw [M_sendJoin hM hO2 (by rw [hnr]; exact h1) h3 hy r33, bo_e]
theorem MO_cm3 {u bits : Int32} (hO : MO z) (hp : p < 4) (hq : q < nR z) (hu : u = nI (16 * p + q)) : MO (cm3 z r g y u bits) := by
  have hn := hO.1.1
  have e1 : u / 16 = nI p := by
    rw [hu, show (16 : Int32) = nI 16 from rfl, pk_div (by omega) (by decide) (by decide)]
    congr 1
    omega
  have e2 : u - u / 16 * 16 = nI q := by
    rw [hu, show (16 : Int32) = nI 16 from rfl, pk_rem (by omega) (by decide) (by decide)]
    congr 1
    omega
  have hO2 : MO (uA (uA z 33 (17 * (8 * r + g) + y) (u / 16)) 34 (17 * (8 * r + g) + y) (u - u / 16 * 16)) := MO_3334 hO (Or.inr ⟨p, q, hp, hq, e1, e2⟩)
  unfold cm3
  refine MO_sj ?_
  split
  · exact MO_uA hO2 (by decide)
  · exact hO2
theorem te_cm3 {u bits : Int32} : TE (cm3 z r g y u bits) z := by
  unfold cm3
  refine te_tr te_sj ?_
  split
  · exact te_tr (te_uA (by decide)) te_3334
  · exact te_3334
theorem M_cm2 {u : Int32} (hM : MS x G) (hO : MO z) (hK : ∀ z, WF z → RK x G z) (hw : Cns z w) (h1 : r < nR z) (h3 : g < 8) (hy : y < 17) (hu : u = -1 ∨ ∃ p q, p < 4 ∧ q < nR z ∧ u = nI (16 * p + q)) : ∃ w', Cns (cm2 z r g y u) w' ∧ d_X9_climb_132 x (nI r) (nI g) (nI y) (nI (17 * (8 * r + g) + y)) u (em2 x G z w) = some (em2 x G (cm2 z r g y u) w') := by
  have hn := hO.1.1
  unfold d_X9_climb_132 cm2
  rcases hu with hu | ⟨p, q, hp, hq, hu⟩
  · rw [if_pos hu, if_pos hu]
    exact ⟨w, hw, rfl⟩
  · have hu1 : ¬ u = -1 := by rw [hu]; exact nI_m1 (by omega)
    rw [if_neg hu1, if_neg hu1]
    have k153 : ∀ (w : Sg) (bits : Int32), Cns z w → ∃ w', Cns (cond (due z r g y bits) (cm3 z r g y u bits) z) w' ∧ d_X9_climb_153 x (nI r) (nI g) (nI y) (nI (17 * (8 * r + g) + y)) u bits (em2 x G z w) = some (em2 x G (cond (due z r g y bits) (cm3 z r g y u bits) z) w') := by
      intro w bits hw
      have e3 := M_cm3 (w := w) (u := u) (bits := bits) hM hO h1 h3 hy hp hq hu
      have e4 : d_X9_climb_208 x (nI r) (nI g) (nI y) (nI (17 * (8 * r + g) + y)) u bits 0 (em2 x G z w) = some (em2 x G z w) := by
        unfold d_X9_climb_208
        rw [if_pos rfl]
      unfold d_X9_climb_153 d_X9_climb_203 d_X9_climb_207 due
      rw [e3, e4]
      simp (disch := omega) only [e2_hc, e2_hr, e2_hl, ms0, ms1, ms2, ms3, ms4, ms5, ms6, ms7, ms21, hM.1, mc33 hM, ml33 hM, mr33 hM, mc35 hM, ml35 hM, mr35 hM, mc36 hM, ml36 hM, mr36 hM, lm4, lm8, lm10, lm16, lm17, lm26, lm40, lm400, nI_add, nI_1, ix_nI, nI_clamp, gd_T, gd_t, bd_e, bo_e, b2_e, true_and, and_true]
      have done1 : ∃ w', Cns (cm3 z r g y u bits) w' ∧ some (em2 x G (cm3 z r g y u bits) w) = some (em2 x G (cm3 z r g y u bits) w') := ⟨w, te_Cns te_cm3 hw, rfl⟩
      by_cases c1 : z.2 33 (17 * (8 * r + g) + y) = -1
      · rw [if_pos c1, decide_eq_true c1, Bool.true_or, Bool.true_or, cond_true]
        exact done1
      · rw [if_neg c1, decide_eq_false c1, Bool.false_or]
        by_cases c2 : 20 ≤ z.1 0 - z.2 35 (17 * (8 * r + g) + y)
        · rw [if_pos c2, decide_eq_true c2, Bool.true_or, cond_true]
          exact done1
        · rw [if_neg c2, decide_eq_false c2, Bool.false_or]
          by_cases hy0 : y = 0
          · rw [if_pos (by rw [hy0]; rfl), decide_eq_true hy0, Bool.true_and]
            by_cases c3 : bits = z.2 36 (8 * r + g)
            · rw [if_pos c3, decide_eq_false (not_not_intro c3), cond_false]
              exact ⟨w, hw, rfl⟩
            · rw [if_neg c3, decide_eq_true c3, cond_true]
              exact done1
          · rw [if_neg (nI_ne0 (by omega) (by omega)), decide_eq_false hy0, Bool.false_and, cond_false]
            exact ⟨w, hw, rfl⟩
    by_cases hy0 : y = 0
    · obtain ⟨w1, hw1, e1⟩ := M_toCutOff hM hO.1 (hK z hO.1) hw h1 h3
      have k := k153 w1 (tcB z r g) hw1
      rw [if_pos hy0, if_pos (show nI y = 0 by rw [hy0]; rfl), e2_hc, gd_t hM.1, e1, b2_e]
      exact k
    · rw [if_neg hy0, if_neg (nI_ne0 (by omega) (by omega))]
      exact k153 w 0 hw
theorem MO_cm2 {u : Int32} (hO : MO z) (hu : u = -1 ∨ ∃ p q, p < 4 ∧ q < nR z ∧ u = nI (16 * p + q)) : MO (cm2 z r g y u) := by
  unfold cm2
  split
  · exact hO
  · rename_i h
    rcases hu with hu | ⟨p, q, hp, hq, hu⟩
    · exact absurd hu h
    · exact MO_c (MO_cm3 hO hp hq hu) hO
theorem te_cm2 {u : Int32} : TE (cm2 z r g y u) z := by
  unfold cm2
  split
  · exact te_rf
  · exact te_c te_cm3 te_rf
theorem MO_cm1 {u : Int32} (hO : MO z) : MO (cm1 z r g y u) := by
  unfold cm1
  split
  · exact hO
  · exact MO_3334 (MO_pu hO) (Or.inl ⟨rfl, rfl⟩)
theorem te_cm1 {u : Int32} : TE (cm1 z r g y u) z := by
  unfold cm1
  split
  · exact te_rf
  · exact te_tr te_3334 te_pu
theorem M_cm1 {u : Int32} (hM : MS x G) (hO : MO z) (hK : ∀ z, WF z → RK x G z) (hw : Cns z w) (h1 : r < nR z) (h3 : g < 8) (hy : y < 17) (hu : u = -1 ∨ ∃ p q, p < 4 ∧ q < nR z ∧ u = nI (16 * p + q)) : ∃ w', Cns (cm2 (cm1 z r g y u) r g y u) w' ∧ d_X9_climb_34 x (nI r) (nI g) (nI y) (nI (17 * (8 * r + g) + y)) u (em2 x G z w) = some (em2 x G (cm2 (cm1 z r g y u) r g y u) w') := by
  have hn := hO.1.1
  obtain ⟨w1, hw1, e1⟩ := M_cm2 (u := u) hM (MO_cm1 (r := r) (g := g) (y := y) (u := u) hO) hK (te_Cns te_cm1 hw) (by rw [te_nR te_cm1]; exact h1) h3 hy (by rw [te_nR te_cm1]; exact hu)
  refine ⟨w1, hw1, ?_⟩
  rw [← e1]
  unfold d_X9_climb_34 cm1
  simp (disch := omega) only [e2_hc, e2_hr, e2_hl, ms0, ms1, ms2, ms3, ms4, ms5, ms6, ms7, ms21, hM.1, mc33 hM, ml33 hM, mr33 hM, lm4, lm8, lm10, lm16, lm17, lm26, lm40, lm400, nI_add, nI_1, ix_nI, nI_clamp, gd_T, gd_t, bd_e, bo_e, b2_e, true_and, and_true]
  rcases hO.2.2 (17 * (8 * r + g) + y) (by omega) with h | ⟨p, q, hp, hq, e33, e34⟩
  · rw [if_pos h.1, if_pos (Or.inl h.1)]
  · have h33 : ¬ z.2 33 (17 * (8 * r + g) + y) = -1 := by rw [e33]; exact nI_m1 (by omega)
    rw [if_neg h33]
    simp (disch := omega) only [e2_hc, e2_hr, e2_hl, ms0, ms1, ms2, ms3, ms4, ms5, ms6, ms7, ms21, hM.1, mc34 hM, ml34 hM, mr34 hM, lm4, lm8, lm10, lm16, lm17, lm26, lm40, lm400, nI_add, nI_1, ix_nI, nI_clamp, gd_T, gd_t, bd_e, bo_e, b2_e, true_and, and_true]
    by_cases c1 : 16 * z.2 33 (17 * (8 * r + g) + y) + z.2 34 (17 * (8 * r + g) + y) = u
    · rw [if_pos c1, if_pos (Or.inr c1)]
    · rw [if_neg c1, if_neg (show ¬ (z.2 33 (17 * (8 * r + g) + y) = -1 ∨ 16 * z.2 33 (17 * (8 * r + g) + y) + z.2 34 (17 * (8 * r + g) + y) = u) from fun h => h.elim h33 c1), e33]
      simp (disch := omega) only [e2_hc, e2_hr, e2_hl, ms0, ms1, ms2, ms3, ms4, ms5, ms6, ms7, ms21, hM.1, mc8 hM, ml8 hM, mr8 hM, lm4, lm8, lm10, lm16, lm17, lm26, lm40, lm400, nI_add, nI_1, ix_nI, nI_clamp, gd_T, gd_t, bd_e, bo_e, b2_e, true_and, and_true]
      unfold d_X9_climb_109
      by_cases hy0 : y = 0
      · rw [if_pos (show nI y = 0 by rw [hy0]; rfl), if_pos hy0]
        rw [e2_hc, gd_t hM.1, M_put hM hO.2.1 (row8 hO (show 4 * r + p < 40 by omega)), b2_e]
        simp (disch := omega) only [e2_hc, e2_hr, e2_hl, ms0, ms1, ms2, ms3, ms4, ms5, ms6, ms7, ms21, hM.1, mc33 hM, ml33 hM, mr33 hM, mc34 hM, ml34 hM, mr34 hM, lm4, lm8, lm10, lm16, lm17, lm26, lm40, lm400, nI_add, nI_1, ix_nI, nI_clamp, gd_T, gd_t, bd_e, bo_e, b2_e, true_and, and_true, mu33 hM, mu34 hM]
      · have e4 : nI y - 1 = nI (y - 1) := by
          obtain ⟨y', rfl⟩ : ∃ y', y = y' + 1 := ⟨y - 1, by omega⟩
          exact nI_pred y'
        rw [if_neg (nI_ne0 (by omega) (by omega)), if_neg hy0, e4]
        rw [e2_hc, gd_t hM.1, M_put hM hO.2.1 (row8 hO (show 4 * r + p < 40 by omega)), b2_e]
        simp (disch := omega) only [e2_hc, e2_hr, e2_hl, ms0, ms1, ms2, ms3, ms4, ms5, ms6, ms7, ms21, hM.1, mc33 hM, ml33 hM, mr33 hM, mc34 hM, ml34 hM, mr34 hM, lm4, lm8, lm10, lm16, lm17, lm26, lm40, lm400, nI_add, nI_1, ix_nI, nI_clamp, gd_T, gd_t, bd_e, bo_e, b2_e, true_and, and_true, mu33 hM, mu34 hM]
theorem M_climb (hM : MS x G) (hO : MO z) (hK : ∀ z, WF z → RK x G z) (hw : Cns z w) (h1 : r < nR z) (h3 : g < 8) (hy : y < 17) : ∃ w', Cns (cmZ z r g y) w' ∧ d_X9_climb x (nI r) (nI g) (nI y) (em2 x G z w) = some (em2 x G (cmZ z r g y) w') := by
  have hn := hO.1.1
  have kw : ∃ w1, Cns z w1 ∧ d_X9_wants x (nI r) (nI g) (nI y) (em2 x G z w) = some (bI (wantY z r g y), em2 x G z w1) := by
    unfold wantY
    by_cases hy0 : y = 0
    · rw [if_pos hy0, hy0]
      exact ⟨w, hw, M_wants0 hM hO.1 h1 h3⟩
    · rw [if_neg hy0]
      obtain ⟨y', rfl⟩ : ∃ y', y = 1 + y' := ⟨y - 1, by omega⟩
      rw [show 1 + y' - 1 = y' by omega]
      exact M_wantsS hM hO.1 (hK z hO.1) hw h1 h3 (by omega)
  obtain ⟨w1, hw1, e1⟩ := kw
  have ku : ∃ w2, Cns z w2 ∧ d_X9_up x (nI r) (nI g) (nI y) (em2 x G z w1) = some (upY z r g y, em2 x G z w2) := by
    unfold upY
    by_cases hy0 : y = 0
    · rw [if_pos hy0, hy0]
      obtain ⟨w2, hf2, e2⟩ := M_upM hM hO.1 (hK z hO.1) hw1 h1 h3
      exact ⟨w2, hf2.cns, e2⟩
    · rw [if_neg hy0]
      obtain ⟨y', rfl⟩ : ∃ y', y = 1 + y' := ⟨y - 1, by omega⟩
      rw [show 1 + y' - 1 = y' by omega]
      obtain ⟨w2, hf2, e2⟩ := M_upS hM hO.1 (hK z hO.1) hw1 h1 h3 (show y' < 16 by omega)
      exact ⟨w2, hf2.cns, e2⟩
  obtain ⟨w2, hw2, e2⟩ := ku
  unfold d_X9_climb cmZ
  rw [lm8, nI_add, lm17, nI_add, bd_e, e2_hc, gd_t hM.1, e1, b2_e, ite_bI]
  cases wantY z r g y with
  | false =>
    rw [cond_false, cond_false]
    exact M_cm1 hM hO hK hw1 h1 h3 hy (Or.inl rfl)
  | true =>
    rw [cond_true, cond_true, e2_hc, gd_t hM.1, e2, b2_e]
    exact M_cm1 hM hO hK hw2 h1 h3 hy (upY_ok hO.1 h1 h3 hy)
theorem MO_cm (hO : MO z) (h1 : r < nR z) (h3 : g < 8) (hy : y < 17) : MO (cmZ z r g y) := by
  unfold cmZ
  refine MO_cm2 (MO_cm1 hO) ?_
  rw [te_nR te_cm1]
  cases wantY z r g y with
  | false => exact Or.inl rfl
  | true => exact upY_ok hO.1 h1 h3 hy
theorem te_cm : TE (cmZ z r g y) z := te_tr te_cm2 te_cm1
end
