/-! what a frame does, kind by kind -/
section
variable {x : Nat} {G : Hp} {z w : Sg} {r p q g s y k f h v : Nat} {a : Nat → Int32}
theorem co1 (h0 : a 0 = 1) (h1 : a 1 = nI q) (hq : q < 10) : coZ z r p a = uA z 25 (10 * (4 * r + p) + q) (z.1 0 + 65) := by
  unfold coZ
  rw [if_pos h0, h1, nI_clamp (by omega)]
theorem co2 (h0 : a 0 = 2) : coZ z r p a = z := by
  unfold coZ
  rw [h0, if_neg (by decide), if_neg (by decide), if_neg (by decide), if_neg (by decide), if_neg (by decide), if_neg (by decide), if_neg (by decide), if_neg (by decide), if_neg (by decide)]
theorem co3 (h0 : a 0 = 3) (h3 : a 3 = nI g) (hg : g < 8) : coZ z r p a = uA z 28 (8 * (4 * r + p) + g) (z.1 0 + 60) := by
  unfold coZ
  rw [h0, if_neg (by decide), if_pos rfl, h3, nI_clamp (by omega)]
theorem co4 (h0 : a 0 = 4) (h3 : a 3 = nI g) (hg : g < 8) : coZ z r p a = lfZ z r p g := by
  unfold coZ
  rw [h0, if_neg (by decide), if_neg (by decide), if_pos rfl, h3, nI_clamp (by omega)]
theorem co5 (h0 : a 0 = 5) (h3 : a 3 = nI g) (hg : g < 8) (h4 : a 4 + 1 = nI y) (hy : y < 17) : coZ z r p a = cond (decide (a 2 = nI r)) (joZ z r p g y (a 6)) (ohZ z r p 5 (a 2) g y (a 6)) := by
  unfold coZ
  rw [h0, if_neg (by decide), if_neg (by decide), if_neg (by decide), if_pos rfl, h3, h4, nI_clamp (by omega), nI_clamp (by omega), ite_dec]
theorem co6 (h0 : a 0 = 6) (h3 : a 3 = nI g) (hg : g < 8) (h4 : a 4 + 1 = nI y) (hy : y < 17) : coZ z r p a = cond (decide (a 2 = nI r)) (prZ z r p g y) (ohZ z r p 6 (a 2) g y (a 6)) := by
  unfold coZ
  rw [h0, if_neg (by decide), if_neg (by decide), if_neg (by decide), if_neg (by decide), if_pos rfl, h3, h4, nI_clamp (by omega), nI_clamp (by omega), ite_dec]
theorem co7 (h0 : a 0 = 7) (h3 : a 3 = nI g) (hg : g < 8) (h4 : a 4 = nI s) (hs : s < 16) : coZ z r p a = dtZ z r p g s (a 5) (a 7) := by
  unfold coZ
  rw [h0, if_neg (by decide), if_neg (by decide), if_neg (by decide), if_neg (by decide), if_neg (by decide), if_pos rfl, h3, h4, nI_clamp (by omega), nI_clamp (by omega)]
theorem co8 (h0 : a 0 = 8) (h3 : a 3 = nI g) (hg : g < 8) (h4 : a 4 = nI s) (hs : s < 16) : coZ z r p a = clZ z r p g s (a 5) := by
  unfold coZ
  rw [h0, if_neg (by decide), if_neg (by decide), if_neg (by decide), if_neg (by decide), if_neg (by decide), if_neg (by decide), if_pos rfl, h3, h4, nI_clamp (by omega), nI_clamp (by omega)]
theorem co9 (h0 : a 0 = 9) (h3 : a 3 = nI g) (hg : g < 8) (h4 : a 4 = nI s) (hs : s < 16) : coZ z r p a = cond (decide (a 2 = nI r)) (tnZ z r g s (a 5) (a 6) (a 7)) z := by
  unfold coZ
  rw [h0, if_neg (by decide), if_neg (by decide), if_neg (by decide), if_neg (by decide), if_neg (by decide), if_neg (by decide), if_neg (by decide), if_pos rfl, h3, h4, nI_clamp (by omega), nI_clamp (by omega), ite_dec]
theorem co10 (h0 : a 0 = 10) (h3 : a 3 = nI g) (hg : g < 8) (h4 : a 4 = nI s) (hs : s < 16) : coZ z r p a = cond (decide (a 2 = nI r)) (stZ z r g s (a 6).toNatClampNeg (a 7)) z := by
  unfold coZ
  rw [h0, if_neg (by decide), if_neg (by decide), if_neg (by decide), if_neg (by decide), if_neg (by decide), if_neg (by decide), if_neg (by decide), if_neg (by decide), if_pos rfl, h3, h4, nI_clamp (by omega), nI_clamp (by omega), ite_dec]
theorem co_ok (h : IV z) (h1 : r < nR z) (h2 : p < 4) (ha : fok (nR z) a) : IV (coZ z r p a) ∧ TE (coZ z r p a) z := by
  have hn := h.1.1.1
  rcases ha with ⟨e0, b, hb, e1⟩ | ⟨e0, -⟩ | ⟨e0, g, hg, e3⟩ | ⟨e0, g, hg, e3⟩ | ⟨e0, ⟨g, hg, e3⟩, ⟨y, hy, e4⟩, -⟩ | ⟨e0, ⟨g, hg, e3⟩, ⟨y, hy, e4⟩, -⟩ | ⟨e0, ⟨g, hg, e3⟩, ⟨s, hs, e4⟩, hnu, l, hl, e7⟩ | ⟨e0, ⟨g, hg, e3⟩, ⟨s, hs, e4⟩, hnu⟩ | ⟨e0, ⟨g, hg, e3⟩, ⟨s, hs, e4⟩, hnu, b1, b2, hb1, hb2, e6⟩ | ⟨e0, ⟨g, hg, e3⟩, ⟨s, hs, e4⟩, -, t, ht, e6⟩
  · rw [co1 e0 e1 (by omega)]; exact ⟨IV_uA h (by decide), te_uA (by decide)⟩
  · rw [co2 e0]; exact ⟨h, te_rf⟩
  · rw [co3 e0 e3 hg]; exact ⟨IV_uA h (by decide), te_uA (by decide)⟩
  · rw [co4 e0 e3 hg]; exact ⟨IV_lf h hg, te_lf⟩
  · rw [co5 e0 e3 hg e4 hy]; exact ⟨IV_c (fun _ => IV_jo h) (fun _ => IV_oh h h1 h2 hg hy), te_c te_jo te_oh⟩
  · rw [co6 e0 e3 hg e4 hy]; exact ⟨IV_c (fun _ => IV_pr h) (fun _ => IV_oh h h1 h2 hg hy), te_c te_pr te_oh⟩
  · rw [co7 e0 e3 hg e4 hs]; exact ⟨IV_dt h h1 hg hs hnu hl e7, te_dt⟩
  · rw [co8 e0 e3 hg e4 hs]; exact ⟨IV_cl h h1 hg hs hnu, te_cl⟩
  · rw [co9 e0 e3 hg e4 hs]; exact ⟨IV_c (fun _ => IV_tn h h1 hg hs hnu e6 hb1 hb2) (fun _ => h), te_c te_tn te_rf⟩
  · rw [co10 e0 e3 hg e4 hs, e6, nI_clamp (by omega)]; exact ⟨IV_c (fun _ => IV_st h hg hs ht) (fun _ => h), te_c te_st te_rf⟩
theorem M_comes (hM : MS x G) (hO : MO z) (hK : ∀ z, WF z → RK x G z) (hw : Cns z w) (h1 : r < nR z) (h2 : p < 4) (hf : f + 7 < 5120) (hae : ∀ j, a j = z.2 20 (f + j)) (ha : fok (nR z) a) : ∃ w', Cns (coZ z r p a) w' ∧ d_X9_comes x (nI r) (nI p) (nI f) (em2 x G z w) = some (em2 x G (coZ z r p a) w') := by
  have hn := hO.1.1
  have f0 : z.2 20 f = a 0 := (hae 0).symm
  rw [M_comes0 hM hf, f0, ← hae 1, ← hae 3, ← hae 4, ← hae 2]
  rcases ha with ⟨e0, b, hb, e1⟩ | ⟨e0, -⟩ | ⟨e0, g, hg, e3⟩ | ⟨e0, g, hg, e3⟩ | ⟨e0, ⟨g, hg, e3⟩, ⟨y, hy, e4⟩, -⟩ | ⟨e0, ⟨g, hg, e3⟩, ⟨y, hy, e4⟩, -⟩ | ⟨e0, ⟨g, hg, e3⟩, ⟨s, hs, e4⟩, hnu, l, hl, e7⟩ | ⟨e0, ⟨g, hg, e3⟩, ⟨s, hs, e4⟩, hnu⟩ | ⟨e0, ⟨g, hg, e3⟩, ⟨s, hs, e4⟩, hnu, b1, b2, hb1, hb2, e6⟩ | ⟨e0, ⟨g, hg, e3⟩, ⟨s, hs, e4⟩, -, t, ht, e6⟩
  · rw [co1 e0 e1 (by omega), e0, e1]
    exact ⟨w, te_Cns (te_uA (by decide)) hw, M_comes_1 hM hO h1 h2 hb⟩
  · rw [co2 e0, e0]
    exact ⟨w, hw, M_comes_2⟩
  · rw [co3 e0 e3 hg, e0, e3]
    exact ⟨w, te_Cns (te_uA (by decide)) hw, M_comes_3 hM hO h1 h2 hg⟩
  · rw [co4 e0 e3 hg, e0, e3]
    exact ⟨w, te_Cns te_lf hw, M_comes_4 hM hO h1 h2 hg⟩
  · rw [co5 e0 e3 hg e4 hy, e0, e3]
    refine ⟨w, te_Cns (te_c te_jo te_oh) hw, ?_⟩
    rw [M_comes_5 hM hO h1 h2 hg hy hf e4, ← hae 6, ← hae 2]
  · rw [co6 e0 e3 hg e4 hy, e0, e3]
    refine ⟨w, te_Cns (te_c te_pr te_oh) hw, ?_⟩
    rw [M_comes_6 hM hO h1 h2 hg hy hf e4, ← hae 6, ← hae 2]
  · rw [co7 e0 e3 hg e4 hs, e0, e3, e4, hae 5, hae 7]
    exact M_comes_7 hM hO hK hw h1 h2 hg hs hf
  · rw [co8 e0 e3 hg e4 hs, e0, e3, e4]
    rw [hae 5] at hnu ⊢
    exact M_comes_8 hM hO hK hw h1 h2 hg hs hf hnu
  · rw [co9 e0 e3 hg e4 hs, e0, e3, e4]
    rw [hae 6] at e6 ⊢
    rw [hae 5, hae 7]
    exact M_comes_9 hM hO hK hw h1 hg hs hf ⟨b1, b2, hb1, hb2, e6⟩
  · rw [co10 e0 e3 hg e4 hs, e0, e3, e4]
    rw [hae 6] at e6 ⊢
    rw [hae 7]
    exact M_comes_10 hM hO hK hw h1 hg hs hf ⟨t, ht, e6⟩
theorem M_portOn {u : Int32} (hM : MS x G) (h1 : r < 10) : d_X9_portOn x (nI r) u (em2 x G z w) = some (pOn z r u) := by
  unfold d_X9_portOn FU pOn
  rw [d_X9_portOn_2.eq_2]
  simp (disch := omega) only [e2_hc, e2_hr, e2_hl, ms0, ms1, ms2, ms3, ms4, ms5, ms6, ms7, ms21, hM.1, mc8 hM, ml8 hM, mr8 hM, lm4, lm8, lm10, lm16, lm17, lm26, lm40, lm400, nI_add, nI_1, ix_nI, nI_clamp, gd_T, gd_t, bd_e, bo_e, b2_e, true_and, and_true]
  rw [if_neg (by decide)]
  sorry
end
