theorem WF_31 {z : Sg} {i : Nat} {nu : Int32} (h : WF z) (hn : ∃ a q, a < 100000 ∧ q < nR z ∧ nu = nI (100 * a + q)) : WF (uA z 31 i nu) := by
  refine ⟨h.1, h.2.1, ?_, ?_, ?_, ?_⟩
  · rw [uA_ne (by decide)]; exact h.2.2.1
  · rw [uA_ne (by decide)]; exact h.2.2.2.1
  · intro j hj
    rw [uA_get]
    split
    · exact Or.inr hn
    · exact h.2.2.2.2.1 j hj
  · rw [uA_ne (by decide)]; exact h.2.2.2.2.2
theorem MO_31 {z : Sg} {i : Nat} {nu : Int32} (h : MO z) (hn : ∃ a q, a < 100000 ∧ q < nR z ∧ nu = nI (100 * a + q)) : MO (uA z 31 i nu) := by
  refine ⟨WF_31 h.1 hn, ?_, ?_⟩
  · intro n hn
    rw [uA_ne (by decide), uA_ne (by decide)]
    exact h.2.1 n hn
  · intro t ht
    rw [uA_ne (by decide), uA_ne (by decide)]
    exact h.2.2 t ht
theorem MO_cl2 {z : Sg} {r p g s : Nat} {nu : Int32} (h : MO z) : MO (cl2 z r p g s nu) := MO_c (MO_sc h) h
theorem te_cl2 {z : Sg} {r p g s : Nat} {nu : Int32} : TE (cl2 z r p g s nu) z := te_c te_sc te_rf
section
variable {x : Nat} {G : Hp} {z w : Sg} {r p q g s y k : Nat}
theorem M_claimed_74 {nu : Int32} (hM : MS x G) (hO : MO z) (hK : ∀ z, WF z → RK x G z) (hw : Cns z w) (h1 : r < nR z) (h2 : p < 4) (h3 : g < 8) (h4 : s < 16) : ∃ w', Cns (cl2 z r p g s nu) w' ∧ d_X9_claimed_74 x (nI r) (nI p) (nI g) (nI s) nu (em2 x G z w) = some (em2 x G (cl2 z r p g s nu) w') := by
  have hn := hO.1.1
  have key : ∀ (b : Bool) (w : Sg), Cns z w → ∃ w', Cns (cond (b && better (ownC z r g s) nu) (scZ z r p g s) z) w' ∧ d_X9_claimed_106 x (nI r) (nI p) (nI g) (nI s) nu (bI b) (em2 x G z w) = some (em2 x G (cond (b && better (ownC z r g s) nu) (scZ z r p g s) z) w') := by
    intro b w hw
    unfold d_X9_claimed_106
    rw [ite_bI]
    cases b with
    | false => exact ⟨w, hw, rfl⟩
    | true =>
      obtain ⟨w1, hf1, e1⟩ := M_ownClaim hM hO.1 (hK z hO.1) hw h1 h3 h4
      obtain ⟨w2, hw2, e2⟩ := M_sendClaim hM hO (hK z hO.1) hf1.cns h1 h2 h3 h4
      simp (disch := omega) only [e1, e2, M_isBetter, e2_hc, e2_hr, e2_hl, ms0, ms1, ms2, ms3, ms4, ms5, ms6, ms7, ms21, hM.1, gd_T, gd_t, bd_e, bo_e, b2_e, true_and, and_true, ite_bI, cond_true, Bool.true_and]
      cases better (ownC z r g s) nu with
      | false => exact ⟨w1, hf1.cns, rfl⟩
      | true => exact ⟨w2, hw2, rfl⟩
  unfold d_X9_claimed_74 cl2
  simp (disch := omega) only [M_isStraight hM (show r < 10 by omega) h3 h4, e2_hc, e2_hr, e2_hl, ms0, ms1, ms2, ms3, ms4, ms5, ms6, ms7, ms21, hM.1, gd_T, gd_t, bd_e, bo_e, b2_e, true_and, and_true, ite_bI]
  cases strt z r g s with
  | false =>
    obtain ⟨w1, hw1, e1⟩ := M_isInShared hM hO.1 (hK z hO.1) hw h1 h2 h3 h4
    simp only [e1, gd_T, gd_t, bd_e, bo_e, b2_e, true_and, and_true, cond_false]
    exact key _ w1 hw1
  | true =>
    obtain ⟨w1, hw1, e1⟩ := M_isInAll hM hO.1 (hK z hO.1) hw h1 h2 h3 h4
    simp only [e1, gd_T, gd_t, bd_e, bo_e, b2_e, true_and, and_true, cond_true]
    exact key _ w1 hw1
theorem M_claimed {nu : Int32} (hM : MS x G) (hO : MO z) (hK : ∀ z, WF z → RK x G z) (hw : Cns z w) (h1 : r < nR z) (h2 : p < 4) (h3 : g < 8) (h4 : s < 16) (hnu : ∃ a q, a < 100000 ∧ q < nR z ∧ nu = nI (100 * a + q)) : ∃ w', Cns (clZ z r p g s nu) w' ∧ d_X9_claimed x (nI r) (nI p) (nI g) (nI s) nu (em2 x G z w) = some (em2 x G (clZ z r p g s nu) w') := by
  have hn := hO.1.1
  have hO2 : MO (uA (uA z 31 (16 * (8 * (4 * r + p) + g) + s) nu) 32 (16 * (8 * (4 * r + p) + g) + s) (z.1 0 + 60)) := MO_uA (MO_31 hO hnu) (by decide)
  have t2 : TE (uA (uA z 31 (16 * (8 * (4 * r + p) + g) + s) nu) 32 (16 * (8 * (4 * r + p) + g) + s) (z.1 0 + 60)) z := te_tr (te_uA (by decide)) (te_uA (by decide))
  obtain ⟨w1, hw1, e1⟩ := M_claimed_74 (nu := nu) hM hO hK hw h1 h2 h3 h4
  obtain ⟨w2, hw2, e2⟩ := M_claimed_74 (nu := nu) hM hO2 hK (te_Cns t2 hw) (by rw [te_nR t2]; exact h1) h2 h3 h4
  unfold d_X9_claimed d_X9_claimed_51 clZ clK
  simp (disch := omega) only [M_heardAt, M_claimAt hM hO.1 h1 h2 h3 h4, M_isBetter, e2_hc, e2_hr, e2_hl, ms0, ms1, ms2, ms3, ms4, ms5, ms6, ms7, ms21, hM.1, mc31 hM, ml31 hM, mr31 hM, mc32 hM, ml32 hM, mr32 hM, lm4, lm8, lm10, lm16, lm17, lm26, lm40, lm400, nI_add, nI_1, ix_nI, nI_clamp, gd_T, gd_t, bd_e, bo_e, b2_e, true_and, and_true, mu31 hM, mu32 hM, ite_bI, uA_1, e1, e2]
  by_cases c1 : clm z (4 * r + p) g s = -1
  · rw [if_pos c1, decide_eq_true c1]
    exact ⟨w2, hw2, rfl⟩
  · rw [if_neg c1, decide_eq_false c1]
    cases better nu (clm z (4 * r + p) g s) with
    | true => exact ⟨w2, hw2, rfl⟩
    | false =>
      simp only [cond_false]
      by_cases c2 : clm z (4 * r + p) g s - clm z (4 * r + p) g s / 100 * 100 = nu - nu / 100 * 100
      · rw [if_pos c2, decide_eq_true c2]
        exact ⟨w2, hw2, rfl⟩
      · rw [if_neg c2, decide_eq_false c2]
        exact ⟨w1, hw1, rfl⟩
theorem MO_tn2 {nu bits : Int32} (h : MO z) : MO (tn2 z r g s nu bits) := MO_c (MO_kp h) (MO_sdZ (MO_kp h) 4)
theorem te_tn2 {nu bits : Int32} : TE (tn2 z r g s nu bits) z := te_c te_kp (te_tr (te_sdZ 4) te_kp)
theorem M_tunnel_75 {nu bits : Int32} (hM : MS x G) (hO : MO z) (hK : ∀ z, WF z → RK x G z) (hw : Cns z w) (h1 : r < nR z) (h3 : g < 8) (h4 : s < 16) : ∃ w', Cns (tn2 z r g s nu bits) w' ∧ d_X9_tunnel_75 x (nI r) (nI g) (nI s) nu bits (em2 x G z w) = some (em2 x G (tn2 z r g s nu bits) w') := by
  have hn := hO.1.1
  have hO2 : MO (kpZ z r g s) := MO_kp hO
  have t2 : TE (kpZ z r g s) z := te_kp
  have h12 : r < nR (kpZ z r g s) := by rw [te_nR t2]; exact h1
  obtain ⟨w1, hw1, e1⟩ := M_shared hM hO2.1 (hK _ hO2.1) (te_Cns t2 hw) h12 h3 h4
  unfold d_X9_tunnel_75 tn2
  simp (disch := omega) only [M_keep hM (show r < 10 by omega) h3 h4, e2_hc, e2_hr, e2_hl, ms0, ms1, ms2, ms3, ms4, ms5, ms6, ms7, ms21, hM.1, gd_T, gd_t, bd_e, bo_e, b2_e, true_and, and_true]
  rw [show uA z 37 (16 * (8 * r + g) + s) (z.1 0 + 70) = kpZ z r g s from rfl]
  simp (disch := omega) only [M_isStraight hM (show r < 10 by omega) h3 h4, e1, M_sendData hM hO2 h12, e2_hc, e2_hr, e2_hl, ms0, ms1, ms2, ms3, ms4, ms5, ms6, ms7, ms21, hM.1, gd_T, gd_t, bd_e, bo_e, b2_e, true_and, and_true, ite_bI]
  cases strt (kpZ z r g s) r g s with
  | false => exact ⟨w1, te_Cns (te_sdZ 4) hw1, rfl⟩
  | true => exact ⟨w, te_Cns t2 hw, rfl⟩
theorem M_tunnel {nu bits life : Int32} {b1 b2 : Nat} (hM : MS x G) (hO : MO z) (hK : ∀ z, WF z → RK x G z) (hw : Cns z w) (h1 : r < nR z) (h3 : g < 8) (h4 : s < 16) (hb : bits = nI (16 * b1 + b2)) (hb1 : b1 ≤ 16) (hb2 : b2 < nR z) : ∃ w', Cns (tnZ z r g s nu bits life) w' ∧ d_X9_tunnel x (nI r) (nI g) (nI s) nu bits life (em2 x G z w) = some (em2 x G (tnZ z r g s nu bits life) w') := by
  have hn := hO.1.1
  have em : bits - bits / 16 * 16 = nI b2 := by
    rw [hb, show (16 : Int32) = nI 16 from rfl, pk_rem (by omega) (by decide) (by decide)]
    congr 1
    omega
  unfold d_X9_tunnel tnZ
  simp (disch := omega) only [M_isStraight hM (show r < 10 by omega) h3 h4, e2_hc, e2_hr, e2_hl, ms0, ms1, ms2, ms3, ms4, ms5, ms6, ms7, ms21, hM.1, mc12 hM, ml12 hM, mr12 hM, lm4, lm8, lm10, lm16, lm17, lm26, lm40, lm400, nI_add, nI_1, ix_nI, nI_clamp, gd_T, gd_t, bd_e, bo_e, b2_e, true_and, and_true, ite_bI]
  by_cases c1 : nI r = z.2 12 g
  · rw [if_pos c1, if_pos c1]
    have k61 : ∀ w, Cns z w → ∃ w', Cns (tn2 (soZ z r b2 (nI g) (nI s) 16) r g s nu bits) w' ∧ d_X9_tunnel_61 x (nI r) (nI g) (nI s) nu bits (em2 x G z w) = some (em2 x G (tn2 (soZ z r b2 (nI g) (nI s) 16) r g s nu bits) w') := by
      intro w hw
      obtain ⟨w1, hw1, e1⟩ := M_sendStop (to := b2) (g := g) (s := s) (li := 16) hM hO (hK z hO.1) hw h1 (by omega)
      obtain ⟨w2, hw2, e2⟩ := M_tunnel_75 (nu := nu) (bits := bits) hM (MO_so (to := b2) (g := nI g) (s := nI s) (li := 16) (r := r) hO) hK hw1 (by rw [te_nR te_so]; exact h1) h3 h4
      refine ⟨w2, hw2, ?_⟩
      unfold d_X9_tunnel_61
      rw [em]
      simp (disch := omega) only [e1, e2, e2_hc, e2_hr, e2_hl, ms0, ms1, ms2, ms3, ms4, ms5, ms6, ms7, ms21, hM.1, gd_T, gd_t, bd_e, bo_e, b2_e, true_and, and_true]
    rw [em, nI_clamp (by omega)]
    cases strt z r g s with
    | true => exact k61 w hw
    | false =>
      obtain ⟨w1, hw1, e1⟩ := M_all hM hO.1 (hK z hO.1) hw h1 h3 h4
      simp only [e1, gd_T, gd_t, bd_e, bo_e, b2_e, true_and, and_true, cond_false, Bool.false_or]
      by_cases c2 : alB z r g s = 0
      · rw [if_pos c2, decide_eq_true c2]
        exact k61 w1 hw1
      · rw [if_neg c2, decide_eq_false c2]
        exact M_tunnel_75 hM hO hK hw1 h1 h3 h4
  · rw [if_neg c1, if_neg c1]
    by_cases c2 : life ≤ 1
    · rw [if_pos c2, if_pos c2]
      exact ⟨w, hw, rfl⟩
    · rw [if_neg c2, if_neg c2]
      obtain ⟨w1, hf1, e1⟩ := M_toMeeting hM hO.1 (hK z hO.1) hw (show r < 10 by omega) h3
      refine ⟨w1, te_Cns te_sbZ hf1.cns, ?_⟩
      simp (disch := omega) only [e1, M_sendBy hM hO hf1 h1 (tM_lt hO.1 h1 h3), e2_hc, e2_hr, e2_hl, ms0, ms1, ms2, ms3, ms4, ms5, ms6, ms7, ms21, hM.1, gd_T, gd_t, bd_e, bo_e, b2_e, true_and, and_true]
theorem M_stop {to : Nat} {life : Int32} (hM : MS x G) (hO : MO z) (hK : ∀ z, WF z → RK x G z) (hw : Cns z w) (h1 : r < nR z) (h3 : g < 8) (h4 : s < 16) (ht : to < nR z) : ∃ w', Cns (stZ z r g s to life) w' ∧ d_X9_stop x (nI r) (nI g) (nI s) (nI to) life (em2 x G z w) = some (em2 x G (stZ z r g s to life) w') := by
  have hn := hO.1.1
  unfold d_X9_stop stZ
  by_cases c1 : r = to
  · rw [if_pos c1, if_pos (show nI r = nI to by rw [c1])]
    refine ⟨w, te_Cns (te_uA (by decide)) hw, ?_⟩
    simp (disch := omega) only [e2_hc, e2_hr, e2_hl, ms0, ms1, ms2, ms3, ms4, ms5, ms6, ms7, ms21, hM.1, mc38 hM, ml38 hM, mr38 hM, lm4, lm8, lm10, lm16, lm17, lm26, lm40, lm400, nI_add, nI_1, ix_nI, nI_clamp, gd_T, gd_t, bd_e, bo_e, b2_e, true_and, and_true, mu38 hM]
  · rw [if_neg (fun h => c1 ((nI_eq (by omega) (by omega)).mp h)), if_neg c1]
    by_cases c2 : life ≤ 1
    · rw [if_pos c2, if_pos c2]
      exact ⟨w, hw, rfl⟩
    · rw [if_neg c2, if_neg c2]
      obtain ⟨w1, hw1, e1⟩ := M_sendStop (to := to) (g := g) (s := s) (li := life - 1) hM hO (hK z hO.1) hw h1 (by omega)
      refine ⟨w1, hw1, ?_⟩
      simp (disch := omega) only [e1, e2_hc, e2_hr, e2_hl, ms0, ms1, ms2, ms3, ms4, ms5, ms6, ms7, ms21, hM.1, gd_T, gd_t, bd_e, bo_e, b2_e, true_and, and_true]
theorem M_dt4 {nu life : Int32} {dr : Bool} (hM : MS x G) (hO : MO z) (hK : ∀ z, WF z → RK x G z) (hw : Cns z w) (h1 : r < nR z) (h2 : p < 4) (h3 : g < 8) (h4 : s < 16) : ∃ w', Cns (dt4 z r p g s nu life dr) w' ∧ d_X9_data_317 x (nI r) (nI p) (nI g) (nI s) nu life (bI dr) (nI (16 * (8 * r + g) + s)) (em2 x G z w) = some (em2 x G (dt4 z r p g s nu life dr) w') := by
  have hn := hO.1.1
  obtain ⟨w1, hw1, e1⟩ := M_sendTunnel (s := s) (nu := nu) (li := life) hM hO (hK z hO.1) hw h1 h3
  unfold d_X9_data_317 d_X9_data_336 dt4
  simp (disch := omega) only [M_isFirst hM (show r < 10 by omega) h2 hn.2.1 hn.2.2, e1, e2_hc, e2_hr, e2_hl, ms0, ms1, ms2, ms3, ms4, ms5, ms6, ms7, ms21, hM.1, mc38 hM, ml38 hM, mr38 hM, mc12 hM, ml12 hM, mr12 hM, lm4, lm8, lm10, lm16, lm17, lm26, lm40, lm400, nI_add, nI_1, ix_nI, nI_clamp, gd_T, gd_t, bd_e, bo_e, b2_e, true_and, and_true, ite_bI]
  cases dr with
  | false => refine ⟨w, hw, ?_⟩; split <;> rfl
  | true =>
    cases fst z r p with
    | false => refine ⟨w, hw, ?_⟩; split <;> rfl
    | true =>
      simp only [cond_true, Bool.true_and]
      by_cases c1 : nI r = z.2 12 g
      · refine ⟨w, by simp [c1]; exact hw, ?_⟩
        simp [c1]
      · by_cases c2 : z.2 38 (16 * (8 * r + g) + s) ≤ z.1 0
        · refine ⟨w1, by simp [c1, c2]; exact hw1, ?_⟩
          simp [c1, c2]
        · refine ⟨w, by simp [c1, c2]; exact hw, ?_⟩
          simp [c1, c2, h10]
theorem MO_dt1 (h : MO z) : MO (dt1 z r p g s) := MO_c (MO_kp h) h
theorem te_dt1 : TE (dt1 z r p g s) z := te_c te_kp te_rf
theorem MO_dt2 {fs dr : Bool} (h : MO z) : MO (dt2 z r p g s fs dr) := MO_c (MO_uA h (by decide)) h
theorem te_dt2 {fs dr : Bool} : TE (dt2 z r p g s fs dr) z := te_c (te_uA (by decide)) te_rf
theorem MO_dt3 {nu life : Int32} {fs : Bool} (h : MO z) : MO (dt3 z r p g s nu life fs) := MO_c (MO_sdZ h 4) (MO_c (MO_sdZ (MO_c (MO_kp h) h) 4) (MO_c (MO_sc h) h))
theorem te_dt3 {nu life : Int32} {fs : Bool} : TE (dt3 z r p g s nu life fs) z := te_c (te_sdZ 4) (te_c (te_tr (te_sdZ 4) (te_c te_kp te_rf)) (te_c te_sc te_rf))
theorem MO_dt4 {nu life : Int32} {dr : Bool} (h : MO z) : MO (dt4 z r p g s nu life dr) := MO_c (MO_tu h) h
theorem te_dt4 {nu life : Int32} {dr : Bool} : TE (dt4 z r p g s nu life dr) z := te_c te_tu te_rf
theorem M_dt3 {nu life : Int32} {fs dr : Bool} (hM : MS x G) (hO : MO z) (hK : ∀ z, WF z → RK x G z) (hw : Cns z w) (h1 : r < nR z) (h2 : p < 4) (h3 : g < 8) (h4 : s < 16) : ∃ w', Cns (dt4 (dt3 z r p g s nu life fs) r p g s nu life dr) w' ∧ d_X9_data_164 x (nI r) (nI p) (nI g) (nI s) nu life (bI fs) (bI dr) (nI (16 * (8 * r + g) + s)) (em2 x G z w) = some (em2 x G (dt4 (dt3 z r p g s nu life fs) r p g s nu life dr) w') := by
  have hn := hO.1.1
  have sd : ∀ (y : Sg) (w : Sg) (out : Int32), MO y → TE y z → Cns y w → ∃ w', Cns (dt4 (sdZ y r out (nI p) (nI g) (nI s) nu (life - 1) 4) r p g s nu life dr) w' ∧ d_X9_data_256 x (nI r) (nI p) (nI g) (nI s) nu life (bI dr) (nI (16 * (8 * r + g) + s)) out (em2 x G y w) = some (em2 x G (dt4 (sdZ y r out (nI p) (nI g) (nI s) nu (life - 1) 4) r p g s nu life dr) w') := by
    intro y w out hy ty hwy
    have h1y : r < nR y := by rw [te_nR ty]; exact h1
    obtain ⟨w2, hw2, e2⟩ := M_dt4 (nu := nu) (life := life) (dr := dr) hM (MO_sdZ (r := r) (out := out) (but := nI p) (g := nI g) (s := nI s) (nu := nu) (li := life - 1) hy 4) hK (te_Cns (te_sdZ 4) hwy) (by rw [te_nR (te_sdZ 4)]; exact h1y) h2 h3 h4
    refine ⟨w2, hw2, ?_⟩
    unfold d_X9_data_256
    simp (disch := omega) only [M_sendData hM hy h1y, e2, e2_hc, e2_hr, e2_hl, ms0, ms1, ms2, ms3, ms4, ms5, ms6, ms7, ms21, hM.1, gd_T, gd_t, bd_e, bo_e, b2_e, true_and, and_true]
  have cm : ∀ w, Cns z w → ∀ b : Bool, ∃ w', Cns (dt4 (cond b (scZ z r p g s) z) r p g s nu life dr) w' ∧ (cond b (d_X9_data_308 x (nI r) (nI p) (nI g) (nI s) nu life (bI dr) (nI (16 * (8 * r + g) + s)) (em2 x G z w)) (d_X9_data_317 x (nI r) (nI p) (nI g) (nI s) nu life (bI dr) (nI (16 * (8 * r + g) + s)) (em2 x G z w))) = some (em2 x G (dt4 (cond b (scZ z r p g s) z) r p g s nu life dr) w') := by
    intro w hw b
    cases b with
    | false => exact M_dt4 hM hO hK hw h1 h2 h3 h4
    | true =>
      obtain ⟨w1, hw1, e1⟩ := M_sendClaim hM hO (hK z hO.1) hw h1 h2 h3 h4
      obtain ⟨w2, hw2, e2⟩ := M_dt4 (nu := nu) (life := life) (dr := dr) hM (MO_sc (p := p) (g := g) (s := s) (r := r) hO) hK hw1 (by rw [te_nR te_sc]; exact h1) h2 h3 h4
      refine ⟨w2, hw2, ?_⟩
      simp only [cond_true]
      unfold d_X9_data_308
      simp (disch := omega) only [e1, e2, e2_hc, e2_hr, e2_hl, ms0, ms1, ms2, ms3, ms4, ms5, ms6, ms7, ms21, hM.1, gd_T, gd_t, bd_e, bo_e, b2_e, true_and, and_true]
  have k276 : ∀ w, Cns z w → ∃ w', Cns (dt4 (cond (cond (strt z r g s) (alP z r p g s) (shP z r p g s)) (scZ z r p g s) z) r p g s nu life dr) w' ∧ d_X9_data_276 x (nI r) (nI p) (nI g) (nI s) nu life (bI dr) (nI (16 * (8 * r + g) + s)) (bI (strt z r g s)) (em2 x G z w) = some (em2 x G (dt4 (cond (cond (strt z r g s) (alP z r p g s) (shP z r p g s)) (scZ z r p g s) z) r p g s nu life dr) w') := by
    intro w hw
    unfold d_X9_data_276
    rw [ite_bI]
    cases strt z r g s with
    | false =>
      obtain ⟨w1, hw1, e1⟩ := M_isInShared hM hO.1 (hK z hO.1) hw h1 h2 h3 h4
      simp (disch := omega) only [e1, e2_hc, e2_hr, e2_hl, ms0, ms1, ms2, ms3, ms4, ms5, ms6, ms7, ms21, hM.1, gd_T, gd_t, bd_e, bo_e, b2_e, true_and, and_true, ite_bI, cond_false]
      exact cm w1 hw1 _
    | true =>
      obtain ⟨w1, hw1, e1⟩ := M_isInAll hM hO.1 (hK z hO.1) hw h1 h2 h3 h4
      simp (disch := omega) only [e1, e2_hc, e2_hr, e2_hl, ms0, ms1, ms2, ms3, ms4, ms5, ms6, ms7, ms21, hM.1, gd_T, gd_t, bd_e, bo_e, b2_e, true_and, and_true, ite_bI, cond_true]
      exact cm w1 hw1 _
  have k210 : ∃ w', Cns (dt4 (cond (!strt z r g s && decide (pM z r g = nI p)) (sdZ (cond (hasO z r g) (kpZ z r g s) z) r (shB z r g s) (nI p) (nI g) (nI s) nu (life - 1) 4) (cond (cond (strt z r g s) (alP z r p g s) (shP z r p g s)) (scZ z r p g s) z)) r p g s nu life dr) w' ∧ d_X9_data_210 x (nI r) (nI p) (nI g) (nI s) nu life (bI dr) (nI (16 * (8 * r + g) + s)) (bI (strt z r g s)) (em2 x G z w) = some (em2 x G (dt4 (cond (!strt z r g s && decide (pM z r g = nI p)) (sdZ (cond (hasO z r g) (kpZ z r g s) z) r (shB z r g s) (nI p) (nI g) (nI s) nu (life - 1) 4) (cond (cond (strt z r g s) (alP z r p g s) (shP z r p g s)) (scZ z r p g s) z)) r p g s nu life dr) w') := by
    unfold d_X9_data_210
    rw [ite_bI]
    cases hst : strt z r g s with
    | true =>
      have k := k276 w hw
      rw [hst] at k
      simpa only [cond_true, Bool.not_true, Bool.false_and, cond_false] using k
    | false =>
      obtain ⟨w1, hf1, e1⟩ := M_toMeeting hM hO.1 (hK z hO.1) hw (show r < 10 by omega) h3
      obtain ⟨w2, hw2, e2⟩ := M_shared hM hO.1 (hK z hO.1) hf1.cns h1 h3 h4
      simp (disch := omega) only [e1, M_portM hM hO.1 hf1 h1 h3, e2, M_hasOwn hM hO.1 h1 h3, M_keep hM (show r < 10 by omega) h3 h4, e2_hc, e2_hr, e2_hl, ms0, ms1, ms2, ms3, ms4, ms5, ms6, ms7, ms21, hM.1, gd_T, gd_t, bd_e, bo_e, b2_e, true_and, and_true, ite_bI, cond_false, Bool.not_false, Bool.true_and]
      by_cases c1 : pM z r g = nI p
      · rw [if_pos c1, decide_eq_true c1]
        simp only [cond_true]
        cases hasO z r g with
        | false => exact sd z w2 _ hO te_rf hw2
        | true => exact sd (kpZ z r g s) w2 _ (MO_kp hO) te_kp (te_Cns te_kp hw2)
      · rw [if_neg c1, decide_eq_false c1]
        have k := k276 w1 hf1.cns
        rw [hst] at k
        simpa only [cond_false] using k
  unfold d_X9_data_164 dt3
  simp (disch := omega) only [M_isStraight hM (show r < 10 by omega) h3 h4, e2_hc, e2_hr, e2_hl, ms0, ms1, ms2, ms3, ms4, ms5, ms6, ms7, ms21, hM.1, gd_T, gd_t, bd_e, bo_e, b2_e, true_and, and_true, ite_bI]
  cases fs with
  | false => simpa only [cond_false, Bool.false_and] using k210
  | true =>
    simp only [cond_true, Bool.true_and]
    cases hst : strt z r g s with
    | false =>
      rw [hst] at k210
      simpa only [cond_false] using k210
    | true =>
      simp only [cond_true]
      obtain ⟨w1, hw1, e1⟩ := M_all hM hO.1 (hK z hO.1) hw h1 h3 h4
      obtain ⟨w2, hw2, e2⟩ := sd z w1 (alB z r g s) hO te_rf hw1
      refine ⟨w2, hw2, ?_⟩
      rw [← e2]
      unfold d_X9_data_256
      simp (disch := omega) only [e1, M_sendData hM hO h1, e2_hc, e2_hr, e2_hl, ms0, ms1, ms2, ms3, ms4, ms5, ms6, ms7, ms21, hM.1, gd_T, gd_t, bd_e, bo_e, b2_e, true_and, and_true]
end
