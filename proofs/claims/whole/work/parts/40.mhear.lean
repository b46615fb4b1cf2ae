section
variable {x : Nat} {G : Hp} {z w : Sg} {r p q g s y k : Nat}
theorem M_dt2 {nu life : Int32} {fs dr : Bool} (hM : MS x G) (hO : MO z) (hK : ∀ z, WF z → RK x G z) (hw : Cns z w) (h1 : r < nR z) (h2 : p < 4) (h3 : g < 8) (h4 : s < 16) : ∃ w', Cns (dt4 (dt3 (dt2 z r p g s fs dr) r p g s nu life fs) r p g s nu life dr) w' ∧ d_X9_data_126 x (nI r) (nI p) (nI g) (nI s) nu life (bI fs) (bI dr) (nI (16 * (8 * r + g) + s)) (em2 x G z w) = some (em2 x G (dt4 (dt3 (dt2 z r p g s fs dr) r p g s nu life fs) r p g s nu life dr) w') := by
  have hn := hO.1.1
  have hO2 : MO (uA z 39 (16 * (8 * r + g) + s) (nI p)) := MO_uA hO (by decide)
  have t2 : TE (uA z 39 (16 * (8 * r + g) + s) (nI p)) z := te_uA (by decide)
  have h12 : r < nR (uA z 39 (16 * (8 * r + g) + s) (nI p)) := by rw [te_nR t2]; exact h1
  unfold d_X9_data_126
  rw [ite_bI]
  cases fs with
  | false =>
    have e1 : dt2 z r p g s false dr = z := by unfold dt2; rw [Bool.false_and, Bool.false_and, cond_false]
    rw [e1, cond_false]
    obtain ⟨w', a, b⟩ := M_dt3 (nu := nu) (life := life) (fs := false) (dr := dr) hM hO hK hw h1 h2 h3 h4
    exact ⟨w', a, b⟩
  | true =>
    obtain ⟨w1, hw1, e1⟩ := M_wantsSource hM hO.1 (hK z hO.1) hw h1 h3 h4
    obtain ⟨w2, hw2, e2⟩ := M_mayStraight (d := dr) hM hO.1 (hK z hO.1) hw1 h1 h2 h3 h4
    rw [cond_true, e2_hc, gd_t hM.1, e1, b2_e, ite_bI]
    cases ew : wantS z r g s with
    | false =>
      have e3 : dt2 z r p g s true dr = z := by unfold dt2; rw [ew, Bool.true_and, Bool.false_and, cond_false]
      rw [e3, cond_false]
      exact M_dt3 (nu := nu) (life := life) (fs := true) (dr := dr) hM hO hK hw1 h1 h2 h3 h4
    | true =>
      rw [cond_true, e2_hc, gd_t hM.1, e2, b2_e, ite_bI]
      cases em : (dr || mayP z r p g s) with
      | false =>
        have e3 : dt2 z r p g s true dr = z := by unfold dt2; rw [ew, em, Bool.and_false, cond_false]
        rw [e3, cond_false]
        exact M_dt3 (nu := nu) (life := life) (fs := true) (dr := dr) hM hO hK hw2 h1 h2 h3 h4
      | true =>
        have e3 : dt2 z r p g s true dr = uA z 39 (16 * (8 * r + g) + s) (nI p) := by unfold dt2; rw [ew, em, Bool.true_and, Bool.true_and, cond_true]
        rw [e3, cond_true]
        have k := M_dt3 (nu := nu) (life := life) (fs := true) (dr := dr) hM hO2 hK (te_Cns t2 hw2) h12 h2 h3 h4
        simp (disch := omega) only [e2_hc, e2_hr, e2_hl, ms0, ms1, ms2, ms3, ms4, ms5, ms6, ms7, ms21, hM.1, mc39 hM, ml39 hM, mr39 hM, lm4, lm8, lm10, lm16, lm17, lm26, lm40, lm400, nI_add, nI_1, ix_nI, nI_clamp, gd_T, gd_t, bd_e, bo_e, b2_e, true_and, and_true, mu39 hM]
        exact k
theorem M_data {nu life : Int32} (hM : MS x G) (hO : MO z) (hK : ∀ z, WF z → RK x G z) (hw : Cns z w) (h1 : r < nR z) (h2 : p < 4) (h3 : g < 8) (h4 : s < 16) : ∃ w', Cns (dtZ z r p g s nu life) w' ∧ d_X9_data x (nI r) (nI p) (nI g) (nI s) nu life (em2 x G z w) = some (em2 x G (dtZ z r p g s nu life) w') := by
  have hn := hO.1.1
  obtain ⟨w1, hf1, e1⟩ := M_toSource hM hO.1 (hK z hO.1) hw (show r < 10 by omega) h4
  have k46 : ∀ (fs dr : Bool) (w : Sg), Cns z w → (dr = true → fs = true) → ∃ w', Cns (dt4 (dt3 (dt2 (cond (dr || (fs && decide (z.2 33 (17 * (8 * r + g) + 1 + s) ≠ -1) && decide (alB z r g s ≠ 0))) (kpZ z r g s) z) r p g s fs dr) r p g s nu life fs) r p g s nu life dr) w' ∧ d_X9_data_46 x (nI r) (nI p) (nI g) (nI s) nu life (bI fs) (bI dr) (em2 x G z w) = some (em2 x G (dt4 (dt3 (dt2 (cond (dr || (fs && decide (z.2 33 (17 * (8 * r + g) + 1 + s) ≠ -1) && decide (alB z r g s ≠ 0))) (kpZ z r g s) z) r p g s fs dr) r p g s nu life fs) r p g s nu life dr) w') := by
    intro fs dr w hw _
    obtain ⟨w1, hw1, e1⟩ := M_all hM hO.1 (hK z hO.1) hw h1 h3 h4
    have k126 := fun w hw => M_dt2 (w := w) (nu := nu) (life := life) (fs := fs) (dr := dr) hM hO hK hw h1 h2 h3 h4
    have k118 : ∀ w, Cns z w → ∃ w', Cns (dt4 (dt3 (dt2 (kpZ z r g s) r p g s fs dr) r p g s nu life fs) r p g s nu life dr) w' ∧ d_X9_data_118 x (nI r) (nI p) (nI g) (nI s) nu life (bI fs) (bI dr) (nI (16 * (8 * r + g) + s)) (em2 x G z w) = some (em2 x G (dt4 (dt3 (dt2 (kpZ z r g s) r p g s fs dr) r p g s nu life fs) r p g s nu life dr) w') := by
      intro w hw
      obtain ⟨w2, hw2, e2⟩ := M_dt2 (nu := nu) (life := life) (fs := fs) (dr := dr) hM (MO_kp (r := r) (g := g) (s := s) hO) hK (te_Cns te_kp hw) (by rw [te_nR te_kp]; exact h1) h2 h3 h4
      refine ⟨w2, hw2, ?_⟩
      unfold d_X9_data_118
      simp (disch := omega) only [M_keep hM (show r < 10 by omega) h3 h4, e2_hc, e2_hr, e2_hl, ms0, ms1, ms2, ms3, ms4, ms5, ms6, ms7, ms21, hM.1, gd_T, gd_t, bd_e, bo_e, b2_e, true_and, and_true]
      exact e2
    have k90 : ∀ b : Bool, ∃ w', Cns (dt4 (dt3 (dt2 (cond (dr || (fs && b && decide (alB z r g s ≠ 0))) (kpZ z r g s) z) r p g s fs dr) r p g s nu life fs) r p g s nu life dr) w' ∧ d_X9_data_90 x (nI r) (nI p) (nI g) (nI s) nu life (bI fs) (bI dr) (nI (16 * (8 * r + g) + s)) (bI b) (em2 x G z w) = some (em2 x G (dt4 (dt3 (dt2 (cond (dr || (fs && b && decide (alB z r g s ≠ 0))) (kpZ z r g s) z) r p g s fs dr) r p g s nu life fs) r p g s nu life dr) w') := by
      intro b
      unfold d_X9_data_90
      rw [ite_bI, ite_bI, ite_bI]
      cases hdr : dr with
      | true =>
        rw [cond_true, Bool.true_or, cond_true, ← hdr]
        exact k118 w hw
      | false =>
        rw [cond_false, Bool.false_or, ← hdr]
        cases hfs : fs with
        | false =>
          rw [cond_false, Bool.false_and, Bool.false_and, cond_false, ← hfs]
          exact k126 w hw
        | true =>
          rw [cond_true, Bool.true_and]
          cases b with
          | false =>
            rw [cond_false, Bool.false_and, cond_false, ← hfs]
            exact k126 w hw
          | true =>
            rw [cond_true, Bool.true_and, e2_hc, gd_t hM.1, e1, b2_e]
            by_cases c2 : alB z r g s = 0
            · rw [if_pos c2, decide_eq_false (not_not_intro c2), cond_false, ← hfs]
              exact k126 w1 hw1
            · rw [if_neg c2, decide_eq_true c2, cond_true, ← hfs]
              exact k118 w1 hw1
    unfold d_X9_data_46
    simp (disch := omega) only [e2_hc, e2_hr, e2_hl, ms0, ms1, ms2, ms3, ms4, ms5, ms6, ms7, ms21, hM.1, mc33 hM, ml33 hM, mr33 hM, lm4, lm8, lm10, lm16, lm17, lm26, lm40, lm400, nI_add, nI_1, ix_nI, nI_clamp, gd_T, gd_t, bd_e, bo_e, b2_e, true_and, and_true]
    by_cases c1 : z.2 33 (17 * (8 * r + g) + 1 + s) = -1
    · rw [if_pos c1, decide_eq_false (not_not_intro c1)]
      exact k90 false
    · rw [if_neg c1, decide_eq_true c1]
      exact k90 true
  unfold d_X9_data
  rw [e2_hc, gd_t hM.1, e1, b2_e, e2_hc, gd_t hM.1, M_portS hM hO.1 hf1 h1 h4, bo_e]
  have k24 : ∀ fs : Bool, ∃ w', Cns (dt4 (dt3 (dt2 (cond ((dirS z r s && fs) || (fs && decide (z.2 33 (17 * (8 * r + g) + 1 + s) ≠ -1) && decide (alB z r g s ≠ 0))) (kpZ z r g s) z) r p g s fs (dirS z r s && fs)) r p g s nu life fs) r p g s nu life (dirS z r s && fs)) w' ∧ d_X9_data_24 x (nI r) (nI p) (nI g) (nI s) nu life (bI fs) (em2 x G z w1) = some (em2 x G (dt4 (dt3 (dt2 (cond ((dirS z r s && fs) || (fs && decide (z.2 33 (17 * (8 * r + g) + 1 + s) ≠ -1) && decide (alB z r g s ≠ 0))) (kpZ z r g s) z) r p g s fs (dirS z r s && fs)) r p g s nu life fs) r p g s nu life (dirS z r s && fs)) w') := by
    intro fs
    obtain ⟨w2, hf2, e2⟩ := M_isDirect hM hO.1 (hK z hO.1) hf1.cns h1 h4
    unfold d_X9_data_24 d_X9_data_45
    rw [e2_hc, gd_t hM.1, e2, b2_e, ite_bI, ite_bI]
    cases dirS z r s with
    | false =>
      rw [cond_false, Bool.false_and]
      exact k46 fs false w2 hf2.cns (fun h => by cases h)
    | true =>
      rw [cond_true, Bool.true_and]
      cases fs with
      | false =>
        rw [cond_false]
        exact k46 false false w2 hf2.cns (fun h => by cases h)
      | true =>
        rw [cond_true]
        exact k46 true true w2 hf2.cns (fun _ => rfl)
  unfold dtZ dt1
  by_cases c1 : pS z r s = nI p
  · rw [if_pos c1, decide_eq_true c1]
    exact k24 true
  · rw [if_neg c1, decide_eq_false c1]
    exact k24 false
theorem MO_dt (h : MO z) {nu life : Int32} : MO (dtZ z r p g s nu life) := MO_dt4 (MO_dt3 (MO_dt2 (MO_dt1 h)))
theorem te_dt {nu life : Int32} : TE (dtZ z r p g s nu life) z := te_tr te_dt4 (te_tr te_dt3 (te_tr te_dt2 te_dt1))
theorem MO_lf (h : MO z) : MO (lfZ z r p g) := by
  unfold lfZ
  refine MO_c (MO_pu ?_) h
  split
  · exact h
  · exact MO_uA h (by decide)
theorem te_lf : TE (lfZ z r p g) z := by
  unfold lfZ
  refine te_c (te_tr te_pu ?_) te_rf
  split
  · exact te_rf
  · exact te_uA (by decide)
theorem MO_jc {j : Nat} {bits was frm : Int32} (h : MO z) : ∀ s, MO (jcZ z j g bits was frm s) := by
  intro s
  induction s with
  | zero => exact h
  | succ s ih =>
    show MO (jc1 (jcZ z j g bits was frm s) j g bits was frm s)
    unfold jc1
    split
    · exact MO_uA ih (by decide)
    · split
      · exact MO_uA ih (by decide)
      · exact ih
theorem te_jc {j : Nat} {bits was frm : Int32} : ∀ s, TE (jcZ z j g bits was frm s) z := by
  intro s
  induction s with
  | zero => exact te_rf
  | succ s ih =>
    show TE (jc1 (jcZ z j g bits was frm s) j g bits was frm s) z
    unfold jc1
    split
    · exact te_tr (te_uA (by decide)) ih
    · split
      · exact te_tr (te_uA (by decide)) ih
      · exact ih
theorem MO_jo {bits : Int32} (h : MO z) : MO (joZ z r p g y bits) := by
  unfold joZ
  split
  · exact MO_jc (MO_uA h (by decide)) 16
  · exact MO_uA h (by decide)
theorem te_jo {bits : Int32} : TE (joZ z r p g y bits) z := by
  unfold joZ
  split
  · exact te_tr (te_jc 16) (te_uA (by decide))
  · exact te_uA (by decide)
theorem MO_pr (h : MO z) : MO (prZ z r p g y) := by
  unfold prZ
  refine MO_c ?_ h
  split
  · exact h
  · exact MO_uA h (by decide)
theorem te_pr : TE (prZ z r p g y) z := by
  unfold prZ
  refine te_c ?_ te_rf
  split
  · exact te_rf
  · exact te_uA (by decide)
theorem MO_oh {kind to bits : Int32} (h : MO z) : MO (ohZ z r p kind to g y bits) := by
  unfold ohZ
  repeat' split
  all_goals first | exact h | exact MO_sj h | exact MO_uA h (by decide)
theorem te_oh {kind to bits : Int32} : TE (ohZ z r p kind to g y bits) z := by
  unfold ohZ
  repeat' split
  all_goals first | exact te_rf | exact te_sj | exact te_uA (by decide)
theorem MO_cl {nu : Int32} (h : MO z) (hnu : ∃ a q, a < 100000 ∧ q < nR z ∧ nu = nI (100 * a + q)) : MO (clZ z r p g s nu) := MO_cl2 (MO_c (MO_uA (MO_31 h hnu) (by decide)) h)
theorem te_cl {nu : Int32} : TE (clZ z r p g s nu) z := te_tr te_cl2 (te_c (te_tr (te_uA (by decide)) (te_uA (by decide))) te_rf)
theorem MO_tn {nu bits life : Int32} (h : MO z) : MO (tnZ z r g s nu bits life) := by
  unfold tnZ
  repeat' split
  · exact MO_tn2 (MO_c (MO_so h) h)
  · exact h
  · exact MO_sbZ h
theorem te_tn {nu bits life : Int32} : TE (tnZ z r g s nu bits life) z := by
  unfold tnZ
  repeat' split
  · exact te_tr te_tn2 (te_c te_so te_rf)
  · exact te_rf
  · exact te_sbZ
theorem MO_st {to : Nat} {life : Int32} (h : MO z) : MO (stZ z r g s to life) := by
  unfold stZ
  repeat' split
  · exact MO_uA h (by decide)
  · exact h
  · exact MO_so h
theorem te_st {to : Nat} {life : Int32} : TE (stZ z r g s to life) z := by
  unfold stZ
  repeat' split
  · exact te_uA (by decide)
  · exact te_rf
  · exact te_so
end
