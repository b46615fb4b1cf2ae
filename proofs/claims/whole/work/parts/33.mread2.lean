theorem nI_m1 {k : Nat} (h : k < 2 ^ 31) : ¬ nI k = -1 := by
  intro e
  have h1 := congrArg Int32.toInt e
  rw [nI_toInt h, show (-1 : Int32).toInt = -1 from rfl] at h1
  omega
theorem Frs.cns {z w : Sg} (h : Frs z w) : Cns z w := fun _ => h
theorem hwN_of {z : Sg} {s : Nat} (hF : WF z) (h4 : s < 16) (h : ¬ noW z s) : hwN z s < 16 ∧ z.2 11 s = nI (hwN z s) := by
  rcases hF.2.2.1 s h4 with h5 | ⟨v, hv, h5⟩
  · exact absurd h5 h
  · have e1 : hwN z s = v := by show (z.2 11 s).toNatClampNeg = v; rw [h5, nI_clamp (by omega)]
    rw [e1]
    exact ⟨hv, h5⟩
theorem mtN_of {z : Sg} {g : Nat} (hF : WF z) (h3 : g < 8) : mtN z g < nR z ∧ z.2 12 g = nI (mtN z g) := by
  obtain ⟨v, hv, h5⟩ := hF.2.2.2.1 g h3
  have e1 : mtN z g = v := by show (z.2 12 g).toNatClampNeg = v; rw [h5, nI_clamp (by have := hF.1; omega)]
  rw [e1]
  exact ⟨hv, h5⟩
theorem tS_lt {z : Sg} {r s : Nat} (hF : WF z) (h1 : r < nR z) (h4 : s < 16) (h : ¬ noW z s) : tS z r s < 26 * nR z := by
  have := (hwN_of hF h4 h).1
  show 26 * r + 10 + hwN z s < _
  omega
theorem tM_lt {z : Sg} {r g : Nat} (hF : WF z) (h1 : r < nR z) (h3 : g < 8) : tM z r g < 26 * nR z := by
  have := (mtN_of hF h3).1
  have := hF.1
  show 26 * r + mtN z g < _
  omega
/-- Boolean shapes -/
theorem or_ite2 {a b : Prop} [Decidable a] [Decidable b] {α : Type} {u v : α} : (if a then u else if b then u else v) = if a ∨ b then u else v := by
  by_cases h1 : a <;> by_cases h2 : b <;> simp [h1, h2]
section
variable {x : Nat} {G : Hp} {z w : Sg} {r p q g s y k : Nat}
theorem M_portTo (hM : MS x G) (hF : WF z) (hf : Frs z w) (hk : k < 26 * nR z) : d_X9_portTo x (nI k) (em2 x G z w) = some (Wp z k) := by
  have hn := hF.1
  unfold d_X9_portTo
  rw [if_neg (nI_m1 (by omega))]
  simp (disch := omega) only [e2_hc, e2_hr, e2_hl, ms0, ms1, ms2, ms3, ms4, ms5, ms6, ms7, ms21, hM.1, mc23 hM, ml23 hM, mr23 hM, lm4, lm8, lm10, lm16, lm17, lm26, lm40, lm400, nI_add, nI_1, ix_nI, nI_clamp, gd_T, gd_t, bd_e, bo_e, b2_e, true_and, and_true]
  rw [(hf.2 k hk).2.1]
theorem M_portS (hM : MS x G) (hF : WF z) (hf : Frs z w) (h1 : r < nR z) (h4 : s < 16) : d_X9_portTo x (if noW z s then -1 else nI (tS z r s)) (em2 x G z w) = some (pS z r s) := by
  unfold pS
  by_cases h : noW z s
  · rw [if_pos h, if_pos h]
    unfold d_X9_portTo
    rw [if_pos rfl]
  · rw [if_neg h, if_neg h, M_portTo hM hF hf (tS_lt hF h1 h4 h)]
theorem M_portM (hM : MS x G) (hF : WF z) (hf : Frs z w) (h1 : r < nR z) (h3 : g < 8) : d_X9_portTo x (nI (tM z r g)) (em2 x G z w) = some (pM z r g) := M_portTo hM hF hf (tM_lt hF h1 h3)
theorem M_isDirect (hM : MS x G) (hF : WF z) (hK : RK x G z) (hw : Cns z w) (h1 : r < nR z) (h4 : s < 16) : ∃ w', Frs z w' ∧ d_X9_isDirect x (nI r) (nI s) (em2 x G z w) = some (bI (dirS z r s), em2 x G z w') := by
  have hn := hF.1
  obtain ⟨w', hf, e⟩ := M_toSource hM hF hK hw (show r < 10 by omega) h4
  refine ⟨w', hf, ?_⟩
  unfold d_X9_isDirect dirS
  simp (disch := omega) only [e, e2_hc, e2_hr, e2_hl, ms0, ms1, ms2, ms3, ms4, ms5, ms6, ms7, ms21, hM.1, lm4, lm8, lm10, lm16, lm17, lm26, lm40, lm400, nI_add, nI_1, ix_nI, nI_clamp, gd_T, gd_t, bd_e, bo_e, b2_e, true_and, and_true]
  by_cases h : noW z s
  · rw [if_pos h, if_pos rfl]
    simp [h, bI]
  · have hk := tS_lt hF h1 h4 h
    rw [if_neg h, if_neg (nI_m1 (by omega))]
    simp (disch := omega) only [e2_hc, e2_hr, e2_hl, ms0, ms1, ms2, ms3, ms4, ms5, ms6, ms7, ms21, hM.1, mc23 hM, ml23 hM, mr23 hM, mc24 hM, ml24 hM, mr24 hM, lm4, lm8, lm10, lm16, lm17, lm26, lm40, lm400, nI_add, nI_1, ix_nI, nI_clamp, gd_T, gd_t, bd_e, bo_e, b2_e, true_and, and_true]
    rw [(hf.2 _ hk).2.1, (hf.2 _ hk).2.2]
    by_cases a1 : Wp z (tS z r s) = -1
    · rw [if_pos a1]
      simp [a1, bI]
    · rw [if_neg a1]
      by_cases a2 : Wr z (tS z r s) = -1
      · rw [if_pos a2, decide_eq_true ⟨h, a1, a2⟩]
        rfl
      · rw [if_neg a2, decide_eq_false (fun q => a2 q.2.2)]
        rfl
theorem M_ownClaim (hM : MS x G) (hF : WF z) (hK : RK x G z) (hw : Cns z w) (h1 : r < nR z) (h3 : g < 8) (h4 : s < 16) : ∃ w', Frs z w' ∧ d_X9_ownClaim x (nI r) (nI g) (nI s) (em2 x G z w) = some (ownC z r g s, em2 x G z w') := by
  have hn := hF.1
  unfold d_X9_ownClaim ownC
  simp (disch := omega) only [M_isStraight hM (show r < 10 by omega) h3 h4, e2_hc, e2_hr, e2_hl, ms0, ms1, ms2, ms3, ms4, ms5, ms6, ms7, ms21, hM.1, gd_T, gd_t, bd_e, bo_e, b2_e, true_and, and_true, ite_bI]
  cases hs : strt z r g s with
  | true =>
    obtain ⟨w', hf, e⟩ := M_toSource hM hF hK hw (show r < 10 by omega) h4
    refine ⟨w', hf, ?_⟩
    simp (disch := omega) only [e, gd_T, gd_t, bd_e, bo_e, b2_e, true_and, and_true, cond_true]
    unfold d_X9_ownClaim_29 d_X9_ownClaim_49 d_X9_ownClaim_62 d_X9_ownClaim_75 farS
    have hb : ¬ bI true = 0 := by decide
    by_cases h : noW z s
    · rw [if_pos h, if_pos h, if_pos rfl, if_neg hb]
    · have hk := tS_lt hF h1 h4 h
      rw [if_neg h, if_neg h, if_neg (nI_m1 (by omega))]
      simp (disch := omega) only [e2_hc, e2_hr, e2_hl, ms0, ms1, ms2, ms3, ms4, ms5, ms6, ms7, ms21, hM.1, mc22 hM, ml22 hM, mr22 hM, lm4, lm8, lm10, lm16, lm17, lm26, lm40, lm400, nI_add, nI_1, ix_nI, nI_clamp, gd_T, gd_t, bd_e, bo_e, b2_e, true_and, and_true]
      rw [(hf.2 _ hk).1]
      by_cases a1 : Wd z (tS z r s) < 1000000
      · rw [if_pos a1, if_pos a1, if_neg hb]
      · rw [if_neg a1, if_neg a1, if_neg hb]
  | false =>
    obtain ⟨w', hf, e⟩ := M_toMeeting hM hF hK hw (show r < 10 by omega) h3
    refine ⟨w', hf, ?_⟩
    simp (disch := omega) only [e, gd_T, gd_t, bd_e, bo_e, b2_e, true_and, and_true, cond_false]
    unfold d_X9_ownClaim_29 d_X9_ownClaim_49 d_X9_ownClaim_62 d_X9_ownClaim_75 farM
    have hb : bI false = 0 := by decide
    have hk := tM_lt hF h1 h3
    rw [if_neg (nI_m1 (by omega))]
    simp (disch := omega) only [e2_hc, e2_hr, e2_hl, ms0, ms1, ms2, ms3, ms4, ms5, ms6, ms7, ms21, hM.1, mc22 hM, ml22 hM, mr22 hM, lm4, lm8, lm10, lm16, lm17, lm26, lm40, lm400, nI_add, nI_1, ix_nI, nI_clamp, gd_T, gd_t, bd_e, bo_e, b2_e, true_and, and_true]
    rw [(hf.2 _ hk).1]
    by_cases a1 : Wd z (tM z r g) < 1000000
    · rw [if_pos a1, if_pos a1, if_pos hb]
    · rw [if_neg a1, if_neg a1, if_pos hb]
theorem M_isBetter {a b : Int32} : d_X9_isBetter a b G = some (bI (better a b)) := by
  unfold d_X9_isBetter better
  by_cases h : a / 100 = b / 100
  · simp only [if_pos h, lt_ite]
    exact dec_10
  · simp only [if_neg h, lt_ite]
    exact dec_10
theorem clm_mod {z : Sg} {i : Nat} (hF : WF z) (hi : i < 5120) (h : z.2 31 i ≠ -1) : ∃ q, q < nR z ∧ z.2 31 i - z.2 31 i / 100 * 100 = nI q := by
  rcases hF.2.2.2.2.1 i hi with h1 | ⟨a, q, ha, hq, h1⟩
  · exact absurd h1 h
  · have hn := hF.1
    refine ⟨q, hq, ?_⟩
    rw [h1, show (100 : Int32) = nI 100 from rfl, pk_rem (by omega) (by omega) (by omega)]
    congr 1
    omega
theorem M_claimAt (hM : MS x G) (hF : WF z) (h1 : r < nR z) (h2 : p < 4) (h3 : g < 8) (h4 : s < 16) : d_X9_claimAt x (nI r) (nI p) (nI g) (nI s) (em2 x G z w) = some (clm z (4 * r + p) g s) := by
  have hn := hF.1
  unfold d_X9_claimAt clm
  simp (disch := omega) only [M_heardAt, e2_hc, e2_hr, e2_hl, ms0, ms1, ms2, ms3, ms4, ms5, ms6, ms7, ms21, hM.1, mc31 hM, ml31 hM, mr31 hM, mc32 hM, ml32 hM, mr32 hM, lm4, lm8, lm10, lm16, lm17, lm26, lm40, lm400, nI_add, nI_1, ix_nI, nI_clamp, gd_T, gd_t, bd_e, bo_e, b2_e, true_and, and_true]
  by_cases a1 : z.2 31 (16 * (8 * (4 * r + p) + g) + s) = -1
  · rw [if_pos a1, if_neg (fun q => q.1 a1)]
  · rw [if_neg a1]
    by_cases a2 : z.1 0 < z.2 32 (16 * (8 * (4 * r + p) + g) + s)
    · rw [if_pos a2]
      obtain ⟨q, hq, eq⟩ := clm_mod hF (show 16 * (8 * (4 * r + p) + g) + s < 5120 by omega) a1
      rw [eq]
      simp (disch := omega) only [M_isNeighbour hM (show r < 10 by omega) h2 (show q < 10 by omega), lm4, lm8, lm10, lm16, lm17, lm26, lm40, lm400, nI_add, nI_1, ix_nI, nI_clamp, gd_T, gd_t, bd_e, bo_e, b2_e, true_and, and_true, ite_bI]
      cases a3 : nb z (4 * r + p) q with
      | true => rw [if_pos ⟨a1, a2, rfl⟩]; rfl
      | false => rw [if_neg (fun h => by cases h.2.2)]; rfl
    · rw [if_neg a2, if_neg (fun q => a2 q.2.1)]
theorem M_isLost (hM : MS x G) (hF : WF z) (hK : RK x G z) (hw : Cns z w) (h1 : r < nR z) (h2 : p < 4) (h3 : g < 8) (h4 : s < 16) : ∃ w', Cns z w' ∧ d_X9_isLost x (nI r) (nI p) (nI g) (nI s) (em2 x G z w) = some (bI (lostP z r p g s), em2 x G z w') := by
  have hn := hF.1
  unfold d_X9_isLost lostP
  simp (disch := omega) only [M_claimAt hM hF h1 h2 h3 h4, e2_hc, e2_hr, e2_hl, ms0, ms1, ms2, ms3, ms4, ms5, ms6, ms7, ms21, hM.1, gd_T, gd_t, bd_e, bo_e, b2_e, true_and, and_true]
  by_cases a1 : clm z (4 * r + p) g s = -1
  · refine ⟨w, hw, ?_⟩
    rw [if_pos a1, decide_eq_false (not_not_intro a1)]
    rfl
  · obtain ⟨w', hf, e⟩ := M_ownClaim hM hF hK hw h1 h3 h4
    refine ⟨w', hf.cns, ?_⟩
    rw [if_neg a1, decide_eq_true a1]
    simp (disch := omega) only [e, M_isBetter, gd_T, gd_t, bd_e, bo_e, b2_e, true_and, and_true, ite_bI]
    cases better (clm z (4 * r + p) g s) (ownC z r g s) <;> rfl
end
