/-! what a frame does, kind by kind -/
section
variable {x : Nat} {G : Hp} {z w : Sg} {r p q g s y k f h v : Nat} {a : Nat → Int32}
theorem co1 (h0 : a 0 = 1) (h1 : a 1 = nI q) (hq : q < 10) : coZ z r p a = uA z 25 (10 * (4 * r + p) + q) (z.1 0 + 65) := by
  unfold coZ
  rw [if_pos h0, h1, nI_clamp (by omega)]
theorem co2 (h0 : a 0 = 2) : coZ z r p a = z := by
  unfold coZ
  rw [h0, if_neg (by decide), if_neg (by decide), if_neg (by decide), if_neg (by decide), if_neg (by decide), if_neg (by decide), if_neg (by decide), if_neg (by decide), if_neg (by decide)]
theorem co3 (h0 : a 0 = 3) (h3 : a 3 = nI g) (hg : g < 8) : coZ z r p a = uA z 28 (8 * (4 * r + p) + g) (z.1 0 + 60) := by
  unfold coZ
  rw [h0, if_neg (by decide), if_pos rfl, h3, nI_clamp (by omega)]
theorem co4 (h0 : a 0 = 4) (h3 : a 3 = nI g) (hg : g < 8) : coZ z r p a = lfZ z r p g := by
  unfold coZ
  rw [h0, if_neg (by decide), if_neg (by decide), if_pos rfl, h3, nI_clamp (by omega)]
theorem co5 (h0 : a 0 = 5) (h3 : a 3 = nI g) (hg : g < 8) (h4 : a 4 + 1 = nI y) (hy : y < 17) : coZ z r p a = cond (decide (a 2 = nI r)) (joZ z r p g y (a 6)) (ohZ z r p 5 (a 2) g y (a 6)) := by
  unfold coZ
  rw [h0, if_neg (by decide), if_neg (by decide), if_neg (by decide), if_pos rfl, h3, h4, nI_clamp (by omega), nI_clamp (by omega), ite_dec]
theorem co6 (h0 : a 0 = 6) (h3 : a 3 = nI g) (hg : g < 8) (h4 : a 4 + 1 = nI y) (hy : y < 17) : coZ z r p a = cond (decide (a 2 = nI r)) (prZ z r p g y) (ohZ z r p 6 (a 2) g y (a 6)) := by
  unfold coZ
  rw [h0, if_neg (by decide), if_neg (by decide), if_neg (by decide), if_neg (by decide), if_pos rfl, h3, h4, nI_clamp (by omega), nI_clamp (by omega), ite_dec]
theorem co7 (h0 : a 0 = 7) (h3 : a 3 = nI g) (hg : g < 8) (h4 : a 4 = nI s) (hs : s < 16) : coZ z r p a = dtZ z r p g s (a 5) (a 7) := by
  unfold coZ
  rw [h0, if_neg (by decide), if_neg (by decide), if_neg (by decide), if_neg (by decide), if_neg (by decide), if_pos rfl, h3, h4, nI_clamp (by omega), nI_clamp (by omega)]
theorem co8 (h0 : a 0 = 8) (h3 : a 3 = nI g) (hg : g < 8) (h4 : a 4 = nI s) (hs : s < 16) : coZ z r p a = clZ z r p g s (a 5) := by
  unfold coZ
  rw [h0, if_neg (by decide), if_neg (by decide), if_neg (by decide), if_neg (by decide), if_neg (by decide), if_neg (by decide), if_pos rfl, h3, h4, nI_clamp (by omega), nI_clamp (by omega)]
theorem co9 (h0 : a 0 = 9) (h3 : a 3 = nI g) (hg : g < 8) (h4 : a 4 = nI s) (hs : s < 16) : coZ z r p a = cond (decide (a 2 = nI r)) (tnZ z r g s (a 5) (a 6) (a 7)) z := by
  unfold coZ
  rw [h0, if_neg (by decide), if_neg (by decide), if_neg (by decide), if_neg (by decide), if_neg (by decide), if_neg (by decide), if_neg (by decide), if_pos rfl, h3, h4, nI_clamp (by omega), nI_clamp (by omega), ite_dec]
theorem co10 (h0 : a 0 = 10) (h3 : a 3 = nI g) (hg : g < 8) (h4 : a 4 = nI s) (hs : s < 16) : coZ z r p a = cond (decide (a 2 = nI r)) (stZ z r g s (a 6).toNatClampNeg (a 7)) z := by
  unfold coZ
  rw [h0, if_neg (by decide), if_neg (by decide), if_neg (by decide), if_neg (by decide), if_neg (by decide), if_neg (by decide), if_neg (by decide), if_neg (by decide), if_pos rfl, h3, h4, nI_clamp (by omega), nI_clamp (by omega), ite_dec]
theorem co_ok (h : IV z) (h1 : r < nR z) (h2 : p < 4) (ha : fok (nR z) a) : IV (coZ z r p a) ∧ TE (coZ z r p a) z := by
  have hn := h.1.1.1
  rcases ha with ⟨e0, b, hb, e1⟩ | ⟨e0, -⟩ | ⟨e0, ⟨g, hg, e3⟩, -⟩ | ⟨e0, ⟨g, hg, e3⟩, -⟩ | ⟨e0, ⟨g, hg, e3⟩, ⟨y, hy, e4⟩, -⟩ | ⟨e0, ⟨g, hg, e3⟩, ⟨y, hy, e4⟩, -⟩ | ⟨e0, ⟨g, hg, e3⟩, ⟨s, hs, e4⟩, hnu, l, hl, e7⟩ | ⟨e0, ⟨g, hg, e3⟩, ⟨s, hs, e4⟩, hnu⟩ | ⟨e0, ⟨g, hg, e3⟩, ⟨s, hs, e4⟩, hnu, b1, b2, hb1, hb2, e6⟩ | ⟨e0, ⟨g, hg, e3⟩, ⟨s, hs, e4⟩, -, t, ht, e6⟩
  · rw [co1 e0 e1 (by omega)]; exact ⟨IV_uA h (by decide), te_uA (by decide)⟩
  · rw [co2 e0]; exact ⟨h, te_rf⟩
  · rw [co3 e0 e3 hg]; exact ⟨IV_uA h (by decide), te_uA (by decide)⟩
  · rw [co4 e0 e3 hg]; exact ⟨IV_lf h hg, te_lf⟩
  · rw [co5 e0 e3 hg e4 hy]; exact ⟨IV_c (fun _ => IV_jo h) (fun _ => IV_oh h h1 h2 hg hy), te_c te_jo te_oh⟩
  · rw [co6 e0 e3 hg e4 hy]; exact ⟨IV_c (fun _ => IV_pr h) (fun _ => IV_oh h h1 h2 hg hy), te_c te_pr te_oh⟩
  · rw [co7 e0 e3 hg e4 hs]; exact ⟨IV_dt h h1 hg hs hnu hl e7, te_dt⟩
  · rw [co8 e0 e3 hg e4 hs]; exact ⟨IV_cl h h1 hg hs hnu, te_cl⟩
  · rw [co9 e0 e3 hg e4 hs]; exact ⟨IV_c (fun _ => IV_tn h h1 hg hs hnu e6 hb1 hb2) (fun _ => h), te_c te_tn te_rf⟩
  · rw [co10 e0 e3 hg e4 hs, e6, nI_clamp (by omega)]; exact ⟨IV_c (fun _ => IV_st h hg hs ht) (fun _ => h), te_c te_st te_rf⟩
theorem M_comes (hM : MS x G) (hO : MO z) (hK : ∀ z, WF z → RK x G z) (hw : Cns z w) (h1 : r < nR z) (h2 : p < 4) (hf : f + 7 < 5120) (hae : ∀ j, a j = z.2 20 (f + j)) (ha : fok (nR z) a) : ∃ w', Cns (coZ z r p a) w' ∧ d_X9_comes x (nI r) (nI p) (nI f) (em2 x G z w) = some (em2 x G (coZ z r p a) w') := by
  have hn := hO.1.1
  have f0 : z.2 20 f = a 0 := (hae 0).symm
  rw [M_comes0 hM hf, f0, ← hae 1, ← hae 3, ← hae 4, ← hae 2]
  rcases ha with ⟨e0, b, hb, e1⟩ | ⟨e0, -⟩ | ⟨e0, ⟨g, hg, e3⟩, -⟩ | ⟨e0, ⟨g, hg, e3⟩, -⟩ | ⟨e0, ⟨g, hg, e3⟩, ⟨y, hy, e4⟩, -⟩ | ⟨e0, ⟨g, hg, e3⟩, ⟨y, hy, e4⟩, -⟩ | ⟨e0, ⟨g, hg, e3⟩, ⟨s, hs, e4⟩, hnu, l, hl, e7⟩ | ⟨e0, ⟨g, hg, e3⟩, ⟨s, hs, e4⟩, hnu⟩ | ⟨e0, ⟨g, hg, e3⟩, ⟨s, hs, e4⟩, hnu, b1, b2, hb1, hb2, e6⟩ | ⟨e0, ⟨g, hg, e3⟩, ⟨s, hs, e4⟩, -, t, ht, e6⟩
  · rw [co1 e0 e1 (by omega), e0, e1]
    exact ⟨w, te_Cns (te_uA (by decide)) hw, M_comes_1 hM hO h1 h2 hb⟩
  · rw [co2 e0, e0]
    exact ⟨w, hw, M_comes_2⟩
  · rw [co3 e0 e3 hg, e0, e3]
    exact ⟨w, te_Cns (te_uA (by decide)) hw, M_comes_3 hM hO h1 h2 hg⟩
  · rw [co4 e0 e3 hg, e0, e3]
    exact ⟨w, te_Cns te_lf hw, M_comes_4 hM hO h1 h2 hg⟩
  · rw [co5 e0 e3 hg e4 hy, e0, e3]
    refine ⟨w, te_Cns (te_c te_jo te_oh) hw, ?_⟩
    rw [M_comes_5 hM hO h1 h2 hg hy hf e4, ← hae 6, ← hae 2]
  · rw [co6 e0 e3 hg e4 hy, e0, e3]
    refine ⟨w, te_Cns (te_c te_pr te_oh) hw, ?_⟩
    rw [M_comes_6 hM hO h1 h2 hg hy hf e4, ← hae 6, ← hae 2]
  · rw [co7 e0 e3 hg e4 hs, e0, e3, e4, hae 5, hae 7]
    exact M_comes_7 hM hO hK hw h1 h2 hg hs hf
  · rw [co8 e0 e3 hg e4 hs, e0, e3, e4]
    rw [hae 5] at hnu ⊢
    exact M_comes_8 hM hO hK hw h1 h2 hg hs hf hnu
  · rw [co9 e0 e3 hg e4 hs, e0, e3, e4]
    rw [hae 6] at e6 ⊢
    rw [hae 5, hae 7]
    exact M_comes_9 hM hO hK hw h1 hg hs hf ⟨b1, b2, hb1, hb2, e6⟩
  · rw [co10 e0 e3 hg e4 hs, e0, e3, e4]
    rw [hae 6] at e6 ⊢
    rw [hae 7]
    exact M_comes_10 hM hO hK hw h1 hg hs hf ⟨t, ht, e6⟩
theorem M_pOn1 {u : Int32} {n : Nat} (hM : MS x G) (h1 : r < 10) (h2 : p < 4) : d_X9_portOn_2 (n + 1) x (nI r) u (nI p) (em2 x G z w) = if z.2 8 (4 * r + p) = u then some (nI p) else d_X9_portOn_2 n x (nI r) u (nI (p + 1)) (em2 x G z w) := by
  rw [d_X9_portOn_2.eq_2, show (4 : Int32) = nI 4 from rfl, if_neg (nI_ge (by omega) (by decide)), ← show (4 : Int32) = nI 4 from rfl]
  simp (disch := omega) only [e2_hc, e2_hr, e2_hl, ms0, ms1, ms2, ms3, ms4, ms5, ms6, ms7, ms21, hM.1, mc8 hM, ml8 hM, mr8 hM, lm4, lm8, lm10, lm16, lm17, lm26, lm40, lm400, nI_add, nI_1, ix_nI, nI_clamp, gd_T, gd_t, bd_e, bo_e, b2_e, true_and, and_true]
theorem M_portOn {u : Int32} (hM : MS x G) (h1 : r < 10) : d_X9_portOn x (nI r) u (em2 x G z w) = some (pOn z r u) := by
  have e4 : d_X9_portOn_2 (5995 + 1) x (nI r) u (nI 4) (em2 x G z w) = some (-1) := by
    rw [d_X9_portOn_2.eq_2, if_pos (by decide)]
  unfold d_X9_portOn pOn
  rw [show FU = 5995 + 1 + 1 + 1 + 1 + 1 from rfl, ← nI_0, M_pOn1 hM h1 (by decide), M_pOn1 hM h1 (by decide), M_pOn1 hM h1 (by decide), M_pOn1 hM h1 (by decide), e4]
  rw [Nat.add_zero]
  by_cases c0 : z.2 8 (4 * r) = u
  · rw [if_pos c0, if_pos c0]
  · rw [if_neg c0, if_neg c0]
    by_cases c1 : z.2 8 (4 * r + (0 + 1)) = u
    · rw [if_pos c1, if_pos c1]; rfl
    · rw [if_neg c1, if_neg c1]
      by_cases c2 : z.2 8 (4 * r + (0 + 1 + 1)) = u
      · rw [if_pos c2, if_pos c2]; rfl
      · rw [if_neg c2, if_neg c2]
        by_cases c3 : z.2 8 (4 * r + (0 + 1 + 1 + 1)) = u
        · rw [if_pos c3, if_pos c3]; rfl
        · rw [if_neg c3, if_neg c3]
end
/-! hosts -/
def inB (z : Sg) (h g : Nat) : Bool := decide (((z.2 13 h >>> (nI g &&& 31)) &&& 1) = 1)
def hsZ (z : Sg) (h : Nat) (a : Nat → Int32) : Sg := if a 0 = 2 then uA z 14 h (z.2 14 h ||| (if a 3 = -1 then (255 : Int32) else 1 <<< (a 3 &&& 31))) else if a 0 = 7 then cond (inB z h (a 3).toNatClampNeg) (uA z 15 (400 * h + (a 5).toNatClampNeg) (z.2 15 (400 * h + (a 5).toNatClampNeg) + 1)) z else z
def an1 (z : Sg) (h g : Nat) : Sg := cond (inB z h g && decide (((z.2 14 h >>> (nI g &&& 31)) &&& 1) = 1)) (pu z (z.2 11 h) 3 (100 + nI h) (-1) (nI g) (-1) 0 0 0).2 z
def anZ (z : Sg) (h : Nat) : Sg := uA (fo (fun z g => an1 z h g) z 8) 14 h 0
theorem fo_IV {f : Sg → Nat → Sg} {z : Sg} {N : Nat} (hf : ∀ y i, IV y → TE y z → i < N → IV (f y i) ∧ TE (f y i) y) (h : IV z) : ∀ n, n ≤ N → IV (fo f z n) ∧ TE (fo f z n) z := by
  intro n
  induction n with
  | zero => intro _; exact ⟨h, te_rf⟩
  | succ n ih =>
    intro hn
    obtain ⟨a, b⟩ := ih (by omega)
    obtain ⟨c, d⟩ := hf _ n a b (by omega)
    exact ⟨c, te_tr d b⟩
section
variable {x : Nat} {G : Hp} {z w : Sg} {r p q g s y k f h v : Nat} {a : Nat → Int32}
theorem hs_ok (hI : IV z) : IV (hsZ z h a) ∧ TE (hsZ z h a) z := by
  unfold hsZ
  split
  · exact ⟨IV_uA hI (by decide), te_uA (by decide)⟩
  · split
    · exact ⟨IV_c (fun _ => IV_uA hI (by decide)) (fun _ => hI), te_c (te_uA (by decide)) te_rf⟩
    · exact ⟨hI, te_rf⟩
theorem an1_ok (hI : IV z) (hg : g < 8) : IV (an1 z h g) ∧ TE (an1 z h g) z := ⟨IV_c (fun _ => IV_pu hI (Or.inr (Or.inr (Or.inl ⟨rfl, ⟨g, hg, rfl⟩, rfl⟩)))) (fun _ => hI), te_c te_pu te_rf⟩
theorem an_ok (hI : IV z) : IV (anZ z h) ∧ TE (anZ z h) z := by
  obtain ⟨a, b⟩ := fo_IV (f := fun z g => an1 z h g) (N := 8) (fun y i hy _ hi => an1_ok hy hi) hI 8 (Nat.le_refl _)
  exact ⟨IV_uA a (by decide), te_tr (te_uA (by decide)) b⟩
theorem M_isIn (hM : MS x G) (hh : h < 16) : d_X9_isIn x (nI h) (nI g) (em2 x G z w) = some (bI (inB z h g)) := by
  unfold d_X9_isIn inB
  simp (disch := omega) only [e2_hc, e2_hr, e2_hl, ms0, ms1, ms2, ms3, ms4, ms5, ms6, ms7, ms21, hM.1, mc13 hM, ml13 hM, mr13 hM, lm4, lm8, lm10, lm16, lm17, lm26, lm40, lm400, nI_add, nI_1, ix_nI, nI_clamp, gd_T, gd_t, bd_e, bo_e, b2_e, true_and, and_true]
  exact dec_10
theorem M_comesToHost {n : Nat} (hM : MS x G) (hh : h < 16) (hf : f + 7 < 5120) (hae : ∀ j, a j = z.2 20 (f + j)) (ha : fok n a) : d_X9_comesToHost x (nI h) (nI f) (em2 x G z w) = some (em2 x G (hsZ z h a) w) := by
  have f0 : z.2 20 f = a 0 := (hae 0).symm
  have f3 := (hae 3).symm
  have f5 := (hae 5).symm
  unfold d_X9_comesToHost hsZ
  simp (disch := omega) only [e2_hc, e2_hr, e2_hl, ms0, ms1, ms2, ms3, ms4, ms5, ms6, ms7, ms21, hM.1, mc20 hM, ml20 hM, mr20 hM, mc14 hM, ml14 hM, mr14 hM, lm4, lm8, lm10, lm16, lm17, lm26, lm40, lm400, nI_add, nI_1, ix_nI, nI_clamp, gd_T, gd_t, bd_e, bo_e, b2_e, true_and, and_true, la3]
  rw [f0, f3]
  by_cases c2 : a 0 = 2
  · rw [if_pos c2, if_pos c2]
    have e20 : ∀ v, (uA z 14 h v).2 20 f = a 0 := fun v => by rw [uA_ne (by decide)]; exact f0
    have k : ∀ v, d_X9_comesToHost_40 x (nI h) (nI f) (a 3) v (z.2 14 h) (nI h) (hr G x 14) (em2 x G z w) = some (em2 x G (uA z 14 h (z.2 14 h ||| v)) w) := by
      intro v
      unfold d_X9_comesToHost_40 d_X9_comesToHost_42
      simp (disch := omega) only [e2_hc, e2_hr, e2_hl, ms0, ms1, ms2, ms3, ms4, ms5, ms6, ms7, ms21, hM.1, mc20 hM, ml20 hM, mr20 hM, mc14 hM, ml14 hM, mr14 hM, lm4, lm8, lm10, lm16, lm17, lm26, lm40, lm400, nI_add, nI_1, ix_nI, nI_clamp, gd_T, gd_t, bd_e, bo_e, b2_e, true_and, and_true, mu14 hM]
      rw [e20, if_neg (by rw [c2]; decide)]
    by_cases c3 : a 3 = -1
    · rw [if_pos c3, if_pos c3, k]
    · rw [if_neg c3, if_neg c3, k]
  · rw [if_neg c2, if_neg c2]
    unfold d_X9_comesToHost_42
    simp (disch := omega) only [e2_hc, e2_hr, e2_hl, ms0, ms1, ms2, ms3, ms4, ms5, ms6, ms7, ms21, hM.1, mc20 hM, ml20 hM, mr20 hM, lm4, lm8, lm10, lm16, lm17, lm26, lm40, lm400, nI_add, nI_1, ix_nI, nI_clamp, gd_T, gd_t, bd_e, bo_e, b2_e, true_and, and_true]
    rw [f0]
    by_cases c7 : a 0 = 7
    · rw [if_pos c7, if_pos c7]
      rcases ha with ⟨e0, -⟩ | ⟨e0, -⟩ | ⟨e0, -⟩ | ⟨e0, -⟩ | ⟨e0, -⟩ | ⟨e0, -⟩ | ⟨e0, ⟨g, hg, e3⟩, -, ⟨m, hm, e5⟩, -⟩ | ⟨e0, -⟩ | ⟨e0, -⟩ | ⟨e0, -⟩
      · exact absurd (e0.symm.trans c7) (by decide)
      · exact absurd (e0.symm.trans c7) (by decide)
      · exact absurd (e0.symm.trans c7) (by decide)
      · exact absurd (e0.symm.trans c7) (by decide)
      · exact absurd (e0.symm.trans c7) (by decide)
      · exact absurd (e0.symm.trans c7) (by decide)
      · rw [e3, M_isIn hM hh, bo_e, ite_bI, nI_clamp (by omega), e5, nI_clamp (by omega)]
        cases inB z h g with
        | false => rfl
        | true =>
          rw [cond_true, cond_true]
          rw [e5] at f5
          simp (disch := omega) only [e2_hc, e2_hr, e2_hl, ms0, ms1, ms2, ms3, ms4, ms5, ms6, ms7, ms21, hM.1, mc20 hM, ml20 hM, mr20 hM, mc15 hM, ml15 hM, mr15 hM, lm4, lm8, lm10, lm16, lm17, lm26, lm40, lm400, nI_add, nI_1, ix_nI, nI_clamp, gd_T, gd_t, bd_e, bo_e, b2_e, true_and, and_true, la5, mu15 hM, f5]
      · exact absurd (e0.symm.trans c7) (by decide)
      · exact absurd (e0.symm.trans c7) (by decide)
      · exact absurd (e0.symm.trans c7) (by decide)
    · rw [if_neg c7, if_neg c7]
theorem M_an1 {n : Nat} (hM : MS x G) (hO : MO z) (hh : h < 16) (hg : g < 8) : d_X9_answers_2 (n + 1) x (nI h) (nI g) (em2 x G z w) = d_X9_answers_2 n x (nI h) (nI (g + 1)) (em2 x G (an1 z h g) w) := by
  rw [d_X9_answers_2.eq_2, show (8 : Int32) = nI 8 from rfl, if_neg (nI_ge (by omega) (by decide))]
  unfold an1
  simp (disch := omega) only [M_isIn hM hh, M_put hM hO.2.1 (hO.1.2.2.1 h hh), e2_hc, e2_hr, e2_hl, ms0, ms1, ms2, ms3, ms4, ms5, ms6, ms7, ms21, hM.1, mc14 hM, ml14 hM, mr14 hM, mc11 hM, ml11 hM, mr11 hM, lm4, lm8, lm10, lm16, lm17, lm26, lm40, lm400, nI_add, nI_1, ix_nI, nI_clamp, gd_T, gd_t, bd_e, bo_e, b2_e, true_and, and_true, ite_bI]
  cases inB z h g with
  | false => rfl
  | true =>
    rw [cond_true, Bool.true_and]
    by_cases c : ((z.2 14 h >>> (nI g &&& 31)) &&& 1) = 1
    · rw [if_pos c, decide_eq_true c, cond_true]
    · rw [if_neg c, decide_eq_false c, cond_false]
theorem M_an8 (hM : MS x G) (hO : IV z) (hh : h < 16) : ∀ (n g : Nat), g ≤ 8 → 8 - g < n → d_X9_answers_2 n x (nI h) (nI g) (em2 x G (fo (fun z g => an1 z h g) z g) w) = some (em2 x G (anZ z h) w) := by
  intro n
  induction n with
  | zero => intro g _ h; omega
  | succ n ih =>
    intro g hg hlt
    obtain ⟨hOs, ts⟩ := fo_IV (f := fun z g => an1 z h g) (N := 8) (z := z) (fun y i hy _ hi => an1_ok hy hi) hO g hg
    by_cases hge : g = 8
    · subst hge
      rw [d_X9_answers_2.eq_2, show (8 : Int32) = nI 8 from rfl, if_pos (nI_le (Nat.le_refl _) (by decide))]
      simp (disch := omega) only [e2_hc, e2_hr, e2_hl, ms0, ms1, ms2, ms3, ms4, ms5, ms6, ms7, ms21, hM.1, mc14 hM, ml14 hM, mr14 hM, lm4, lm8, lm10, lm16, lm17, lm26, lm40, lm400, nI_add, nI_1, ix_nI, nI_clamp, gd_T, gd_t, bd_e, bo_e, b2_e, true_and, and_true, mu14 hM]
      rfl
    · rw [M_an1 hM hOs.1 hh (by omega)]
      exact ih (g + 1) (by omega) (by omega)
theorem M_answers (hM : MS x G) (hO : IV z) (hh : h < 16) : d_X9_answers x (nI h) (em2 x G z w) = some (em2 x G (anZ z h) w) := by
  have e := M_an8 (w := w) hM hO hh FU 0 (by decide) (by show _ < 6000; omega)
  rw [fo_0, nI_0] at e
  exact e
end
