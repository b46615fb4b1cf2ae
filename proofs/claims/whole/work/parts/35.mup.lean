theorem h10 : ((1 : Int32) = 0) = False := by decide
section
variable {x : Nat} {G : Hp} {z w : Sg} {r p q g s y k : Nat}
theorem upG_108 (hM : MS x G) (hF : WF z) (h1 : r < nR z) (h2 : p < 4) (h3 : q < nR z) : d_X9_up_108 x (nI r) (nI p) (nI q) (em2 x G z w) = some (if nb z (4 * r + p) q = true then 16 * nI p + nI q else -1, em2 x G z w) := by
  have hn := hF.1
  unfold d_X9_up_108
  simp (disch := omega) only [M_isNeighbour hM (show r < 10 by omega) h2 (show q < 10 by omega), e2_hc, e2_hr, e2_hl, ms0, ms1, ms2, ms3, ms4, ms5, ms6, ms7, ms21, hM.1, gd_T, gd_t, bd_e, bo_e, b2_e, true_and, and_true, ite_bI]
  cases nb z (4 * r + p) q <;> rfl
theorem M_upG0 (hM : MS x G) (hF : WF z) (hf : Frs z w) (h1 : r < nR z) (hk : k < 26 * nR z) : d_X9_up_21 x (nI r) (nI g) 0 (nI k) (em2 x G z w) = some (upG z r k (-1), em2 x G z w) := by
  have hn := hF.1
  unfold d_X9_up_21 upG
  rw [if_neg (nI_m1 (by omega))]
  simp (disch := omega) only [e2_hc, e2_hr, e2_hl, ms0, ms1, ms2, ms3, ms4, ms5, ms6, ms7, ms21, hM.1, mc23 hM, ml23 hM, mr23 hM, mc24 hM, ml24 hM, mr24 hM, lm4, lm8, lm10, lm16, lm17, lm26, lm40, lm400, nI_add, nI_1, ix_nI, nI_clamp, gd_T, gd_t, bd_e, bo_e, b2_e, true_and, and_true]
  rw [(hf.2 _ hk).2.1, (hf.2 _ hk).2.2]
  rcases Wp_ok z k with a1 | ⟨p, hp, a1⟩
  · rw [if_pos a1, if_pos a1]
  · have a1' : ¬ Wp z k = -1 := by rw [a1]; exact nI_m1 (by omega)
    rw [if_neg a1', if_neg a1']
    rcases Wr_ok z k with a2 | ⟨q, hq, a2⟩
    · rw [if_pos a2, if_pos a2]
    · have a2' : ¬ Wr z k = -1 := by rw [a2]; exact nI_m1 (by omega)
      rw [if_neg a2', if_neg a2']
      simp only [if_true]
      unfold d_X9_up_90
      rw [if_pos rfl, a1, a2, upG_108 hM hF h1 hp hq, nI_clamp (by omega), nI_clamp (by omega)]
theorem M_upG1 (hM : MS x G) (hF : WF z) (hf : Frs z w) (h1 : r < nR z) (h3 : g < 8) (h4 : s < 16) (hk : k < 26 * nR z) : d_X9_up_21 x (nI r) (nI g) (nI (1 + s)) (nI k) (em2 x G z w) = some (upG z r k (clm z (4 * r + (Wp z k).toNatClampNeg) g s), em2 x G z w) := by
  have hn := hF.1
  unfold d_X9_up_21 upG
  rw [if_neg (nI_m1 (by omega))]
  simp (disch := omega) only [e2_hc, e2_hr, e2_hl, ms0, ms1, ms2, ms3, ms4, ms5, ms6, ms7, ms21, hM.1, mc23 hM, ml23 hM, mr23 hM, mc24 hM, ml24 hM, mr24 hM, lm4, lm8, lm10, lm16, lm17, lm26, lm40, lm400, nI_add, nI_1, ix_nI, nI_clamp, gd_T, gd_t, bd_e, bo_e, b2_e, true_and, and_true]
  rw [(hf.2 _ hk).2.1, (hf.2 _ hk).2.2]
  rcases Wp_ok z k with a1 | ⟨p, hp, a1⟩
  · rw [if_pos a1, if_pos a1]
  · have a1' : ¬ Wp z k = -1 := by rw [a1]; exact nI_m1 (by omega)
    rw [if_neg a1', if_neg a1']
    rcases Wr_ok z k with a2 | ⟨q, hq, a2⟩
    · rw [if_pos a2, if_pos a2]
    · have a2' : ¬ Wr z k = -1 := by rw [a2]; exact nI_m1 (by omega)
      rw [if_neg a2', if_neg a2', if_neg (l10 s (by omega)), l1s, a1, a2, M_claimAt hM hF h1 hp h3 h4, nI_clamp (show p < 2 ^ 31 by omega)]
      simp only [gd_T, gd_t, bd_e, bo_e, b2_e, true_and, and_true]
      unfold d_X9_up_90
      by_cases a3 : clm z (4 * r + p) g s = -1
      · rw [if_pos a3, if_pos a3, upG_108 hM hF h1 hp hq, nI_clamp (by omega)]
      · obtain ⟨q2, hq2, e2⟩ := clm_q hF h1 hp h3 h4 a3
        rw [if_neg a3, if_neg a3, e2, upG_108 hM hF h1 hp hq2, nI_clamp (by omega)]
theorem M_upM (hM : MS x G) (hF : WF z) (hK : RK x G z) (hw : Cns z w) (h1 : r < nR z) (h3 : g < 8) : ∃ w', Frs z w' ∧ d_X9_up x (nI r) (nI g) 0 (em2 x G z w) = some (upM z r g, em2 x G z w') := by
  have hn := hF.1
  obtain ⟨w', hf, e⟩ := M_toMeeting hM hF hK hw (show r < 10 by omega) h3
  refine ⟨w', hf, ?_⟩
  unfold d_X9_up upM
  rw [if_pos rfl]
  simp (disch := omega) only [e, e2_hc, e2_hr, e2_hl, ms0, ms1, ms2, ms3, ms4, ms5, ms6, ms7, ms21, hM.1, gd_T, gd_t, bd_e, bo_e, b2_e, true_and, and_true, M_upG0 hM hF hf h1 (tM_lt hF h1 h3)]
theorem M_upS (hM : MS x G) (hF : WF z) (hK : RK x G z) (hw : Cns z w) (h1 : r < nR z) (h3 : g < 8) (h4 : s < 16) : ∃ w', Frs z w' ∧ d_X9_up x (nI r) (nI g) (nI (1 + s)) (em2 x G z w) = some (upS z r g s, em2 x G z w') := by
  have hn := hF.1
  obtain ⟨w', hf, e⟩ := M_toSource hM hF hK hw (show r < 10 by omega) h4
  refine ⟨w', hf, ?_⟩
  unfold d_X9_up upS
  rw [if_neg (l10 s (by omega)), l1s]
  simp (disch := omega) only [e, e2_hc, e2_hr, e2_hl, ms0, ms1, ms2, ms3, ms4, ms5, ms6, ms7, ms21, hM.1, gd_T, gd_t, bd_e, bo_e, b2_e, true_and, and_true]
  by_cases h : noW z s
  · rw [if_pos h, if_pos h]
    unfold d_X9_up_21
    rw [if_pos rfl]
  · rw [if_neg h, if_neg h, M_upG1 hM hF hf h1 h3 h4 (tS_lt hF h1 h4 h)]
theorem M_toCutOff_14 (hM : MS x G) (hF : WF z) (hK : RK x G z) (h1 : r < nR z) (h3 : g < 8) : ∀ (n s : Nat) (w : Sg), Cns z w → s ≤ 16 → 16 - s < n → ∃ w', Cns z w' ∧ d_X9_toCutOff_14 n x (nI r) (nI g) (bN (fun s => tcP z r g s) s) (upM z r g) (nI s) (em2 x G z w) = some (tcB z r g, em2 x G z w') := by
  have hn := hF.1
  intro n
  induction n with
  | zero => intro s w _ _ h; omega
  | succ n ih =>
    intro s w hw hs hlt
    rw [d_X9_toCutOff_14.eq_2, show (16 : Int32) = nI 16 from rfl]
    by_cases hse : s = 16
    · subst hse
      rw [if_pos (nI_le (Nat.le_refl _) (by decide))]
      exact ⟨w, hw, rfl⟩
    · have h4 : s < 16 := by omega
      rw [if_neg (nI_ge (by omega) (by decide))]
      obtain ⟨w1, hf1, e1⟩ := M_upS hM hF hK hw h1 h3 h4
      obtain ⟨w2, hw2, e2⟩ := M_shared hM hF hK hw h1 h3 h4
      obtain ⟨w3, hw3, e3⟩ := M_shared hM hF hK hf1.cns h1 h3 h4
      simp (disch := omega) only [M_isStraight hM (show r < 10 by omega) h3 h4, l1a, e1, nI_1, e2_hc, e2_hr, e2_hl, ms0, ms1, ms2, ms3, ms4, ms5, ms6, ms7, ms21, hM.1, gd_T, gd_t, bd_e, bo_e, b2_e, true_and, and_true, ite_bI]
      unfold d_X9_toCutOff_53 d_X9_toCutOff_64 d_X9_toCutOff_69
      simp (disch := omega) only [e2, e3, nI_1, d_X9_toCutOff_64, d_X9_toCutOff_69, e2_hc, e2_hr, e2_hl, ms0, ms1, ms2, ms3, ms4, ms5, ms6, ms7, ms21, hM.1, gd_T, gd_t, bd_e, bo_e, b2_e, true_and, and_true, h10, if_true, if_false]
      have key : ∀ w, Cns z w → ∀ b, b = tcP z r g s → ∃ w', Cns z w' ∧ (cond b (d_X9_toCutOff_14 n x (nI r) (nI g) (bN (fun s => tcP z r g s) s ||| 1 <<< (nI s &&& 31)) (upM z r g) (nI (s + 1)) (em2 x G z w)) (d_X9_toCutOff_14 n x (nI r) (nI g) (bN (fun s => tcP z r g s) s) (upM z r g) (nI (s + 1)) (em2 x G z w))) = some (tcB z r g, em2 x G z w') := by
        intro w hw b hb
        obtain ⟨w', hw', e⟩ := ih (s + 1) w hw (by omega) (by omega)
        refine ⟨w', hw', ?_⟩
        rw [← e]
        simp only [bN]
        rw [← hb]
        cases b <;> rfl
      by_cases a2 : shB z r g s = 0
      · have hb : true = tcP z r g s := by unfold tcP; simp [a2]
        simp only [if_pos a2]
        cases strt z r g s with
        | false => exact key w2 hw2 true hb
        | true =>
          simp only [cond_true]
          by_cases a3 : upM z r g = -1
          · rw [if_pos a3]; exact key w2 hw2 true hb
          · rw [if_neg a3]
            by_cases a4 : upM z r g = upS z r g s
            · rw [if_pos a4]; exact key w3 hw3 true hb
            · rw [if_neg a4]; exact key w1 hf1.cns true hb
      · simp only [if_neg a2]
        cases a1 : strt z r g s with
        | false => exact key w2 hw2 false (by unfold tcP; simp [a1, a2])
        | true =>
          simp only [cond_true]
          by_cases a3 : upM z r g = -1
          · rw [if_pos a3]; exact key w2 hw2 false (by unfold tcP; simp [a2, a3])
          · rw [if_neg a3]
            by_cases a4 : upM z r g = upS z r g s
            · rw [if_pos a4]; exact key w3 hw3 false (by unfold tcP; simp [a2, a4])
            · rw [if_neg a4]; exact key w1 hf1.cns true (by unfold tcP; simp [a1, a3, a4])
theorem M_toCutOff (hM : MS x G) (hF : WF z) (hK : RK x G z) (hw : Cns z w) (h1 : r < nR z) (h3 : g < 8) : ∃ w', Cns z w' ∧ d_X9_toCutOff x (nI r) (nI g) (em2 x G z w) = some (tcB z r g, em2 x G z w') := by
  obtain ⟨w1, hf1, e1⟩ := M_upM hM hF hK hw h1 h3
  obtain ⟨w2, hw2, e2⟩ := M_toCutOff_14 hM hF hK h1 h3 FU 0 w1 hf1.cns (by decide) (by decide)
  refine ⟨w2, hw2, ?_⟩
  unfold d_X9_toCutOff
  simp (disch := omega) only [e1, e2_hc, e2_hr, e2_hl, ms0, ms1, ms2, ms3, ms4, ms5, ms6, ms7, ms21, hM.1, gd_T, gd_t, bd_e, bo_e, b2_e, true_and, and_true]
  exact e2
theorem M_mayStraight {d : Bool} (hM : MS x G) (hF : WF z) (hK : RK x G z) (hw : Cns z w) (h1 : r < nR z) (h2 : p < 4) (h3 : g < 8) (h4 : s < 16) : ∃ w', Cns z w' ∧ d_X9_mayStraight x (nI r) (nI p) (nI g) (nI s) (bI d) (em2 x G z w) = some (bI (d || mayP z r p g s), em2 x G z w') := by
  have hn := hF.1
  obtain ⟨w1, hf1, e1⟩ := M_toMeeting hM hF hK hw (show r < 10 by omega) h3
  obtain ⟨w2, hw2, e2⟩ := M_shared hM hF hK hf1.cns h1 h3 h4
  obtain ⟨w3, hw3, e3⟩ := M_isLost hM hF hK hw2 h1 h2 h3 h4
  obtain ⟨w4, hf4, e4⟩ := M_upS hM hF hK hw3 h1 h3 h4
  obtain ⟨w5, hf5, e5⟩ := M_upM hM hF hK hf4.cns h1 h3
  unfold d_X9_mayStraight
  simp (disch := omega) only [e1, M_portM hM hF hf1 h1 h3, e2, e3, e4, e5, l1a, e2_hc, e2_hr, e2_hl, ms0, ms1, ms2, ms3, ms4, ms5, ms6, ms7, ms21, hM.1, gd_T, gd_t, bd_e, bo_e, b2_e, true_and, and_true, ite_bI]
  cases d with
  | true => exact ⟨w, hw, rfl⟩
  | false =>
    simp only [cond_false, Bool.false_or]
    unfold mayP
    by_cases a1 : pM z r g = nI p
    · rw [if_pos a1]
      by_cases a2 : shB z r g s = 0
      · rw [if_pos a2]
        exact ⟨w2, hw2, by simp [a2, bI]⟩
      · rw [if_neg a2]
        cases a3 : lostP z r p g s with
        | true => exact ⟨w3, hw3, by simp [bI]⟩
        | false =>
          simp only [cond_false]
          by_cases a4 : upS z r g s = -1
          · rw [if_pos a4]
            exact ⟨w4, hf4.cns, by simp [a1, a2, a4, bI]⟩
          · rw [if_neg a4]
            by_cases a5 : upS z r g s = upM z r g
            · rw [if_pos a5]
              exact ⟨w5, hf5.cns, by rw [decide_eq_true (show upS z r g s ≠ -1 ∧ upS z r g s = upM z r g from ⟨a4, a5⟩)]; simp [bI]⟩
            · rw [if_neg a5]
              exact ⟨w5, hf5.cns, by rw [decide_eq_false (show ¬ (upS z r g s ≠ -1 ∧ upS z r g s = upM z r g) from fun h => a5 h.2)]; simp [a1, a2, bI]⟩
    · rw [if_neg a1]
      exact ⟨w1, hf1.cns, by simp [a1, bI]⟩
end
