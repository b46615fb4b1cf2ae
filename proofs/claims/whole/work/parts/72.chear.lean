/-! THE CLASS: what a router and a host hear -/
section
variable {L : Ly} {G : Hp} {n : Nat} {st : Int32} {V : Vt} {Q : Qt} {z : Sg} {r p q g s x y m v0 i h : Nat} {a : Nat → Int32}
theorem C_takeHello (hL : LY L G n Q) (hC : RC n st V Q z) (hF : WF z) (h1 : r < n) (hp : p < 4) (hu : qpw Q (4 * r + p) ≠ -1) (hq : q < n) (hne : q ≠ r) : ∃ V', d_X3_takeHello (L.1 18 r p) (nI q) (eK L G V (RF n L Q)) = some (eK L G V' (RF n L Q)) ∧ RC n st V' Q (uA z 25 (10 * (4 * r + p) + q) (z.1 0 + 65)) := by
  have hn := hC.nn.2.2.2
  unfold d_X3_takeHello
  rw [show (10 : Int32) = nI 10 from rfl, C_isIn, inR_n (show q < 10 by omega) (by decide)]
  simp (disch := first | omega | assumption) only [eK_hc, eK_hl, yK18 hL, iK18 hL, rK18_0 hL, rK18_2 hL, rK18_7 hL, rK18_8 hL, rK18_9 hL, rK18_10 hL, rK18_11 hL, rK18_12 hL, yK19 hL, iK19 hL, lK19 hL, yK1 hL, iK1 hL, rK1_0 hL, rK1_1 hL, rK1_2 hL, rK1_3 hL, wK18 hL, wK19 hL, uR_ne, lm4, lm8, lm10, lm16, lm17, lm26, lm40, lm400, nI_add, nI_1, ix_nI, nI_clamp, gd_T, gd_t, bd_e, bo_e, b2_e, true_and, and_true, ite_bI, cond_true, hC.tm]
  exact ⟨_, rfl, RC_nt hC hF h1 hp hu hq hne (lt_add (d := 65) hF (by decide) (by decide))⟩
theorem C_isSource {a : Int32} {H : Hp} : d_X8_isSource a H = some (bI (decide (a = -1) || inR a 16)) := by
  unfold d_X8_isSource
  by_cases h : a = -1
  · rw [if_pos h, decide_eq_true h]
    rfl
  · rw [if_neg h, decide_eq_false h, show (16 : Int32) = nI 16 from rfl, C_isIn, bo_e, ite_bI, Bool.false_or]
    cases inR a 16 <;> rfl
theorem so_n {v : Int32} (hs : s < 16) (e : v = nI s) : (decide (v = -1) || inR v 16) = true ∧ ¬ v = -1 := by
  rw [e, inR_n hs (by decide), Bool.or_true]
  exact ⟨rfl, nI_m1 (by omega)⟩
theorem so_m {v : Int32} (e : v = -1) : (decide (v = -1) || inR v 16) = true := by
  rw [decide_eq_true e, Bool.true_or]
theorem so_y {v : Int32} (hy : y < 17) (e : v + 1 = nI y) : (decide (v = -1) || inR v 16) = true := by
  have ev : v = nI y - 1 := by rw [← e, Int32.add_sub_cancel]
  subst ev
  clear e
  revert y
  decide
theorem C_hear_39e (hL : LY L G n Q) (hC : RC n st V Q z) (hfr : FR Q z v0 i a) (h1 : r < n) (h2 : g < 8) (e3 : a 3 = nI g) (hs : (decide (a 4 = -1) || inR (a 4) 16) = true) (hk : a 0 < 7 ∨ ¬ a 4 = -1) : d_X4_hear_39 (L.1 9 r 0) (L.1 8 v0 (qpi Q v0 (1 - qcu Q v0) i)) (nI p) (eK L G V (RF n L Q)) = d_X4_hear_105 (L.1 9 r 0) (L.1 8 v0 (qpi Q v0 (1 - qcu Q v0) i)) (nI p) (L.1 12 r g) (bI (decide (a 2 = nI r))) (eK L G V (RF n L Q)) := by
  have hv0 := hfr.1
  have hm0 := hfr.2.1
  have hf0 := fr_80 hC hfr
  have e79 : d_X4_hear_79 (L.1 9 r 0) (L.1 8 v0 (qpi Q v0 (1 - qcu Q v0) i)) (nI p) (eK L G V (RF n L Q)) = d_X4_hear_105 (L.1 9 r 0) (L.1 8 v0 (qpi Q v0 (1 - qcu Q v0) i)) (nI p) (L.1 12 r g) (bI (decide (a 2 = nI r))) (eK L G V (RF n L Q)) := by
    unfold d_X4_hear_79
    simp (disch := first | omega | assumption) only [eK_hc, eK_hl, yK9 hL, iK9 hL, rK9_0 hL, rK9_2 hL, rK9_3 hL, yK8 hL, iK8 hL, yK11 hL, iK11 hL, lK11 hL, rK11 hL, lm4, lm8, lm10, lm16, lm17, lm26, lm40, lm400, nI_add, nI_1, ix_nI, nI_clamp, gd_T, gd_t, bd_e, bo_e, b2_e, true_and, and_true, fr_k hC hfr (show 3 < 8 by decide), fr_k hC hfr (show 2 < 8 by decide), e3, (hC.id r h1).1]
    by_cases h : a 2 = nI r
    · rw [if_pos h, decide_eq_true h]
      rfl
    · rw [if_neg h, decide_eq_false h]
      rfl
  unfold d_X4_hear_39
  rw [eK_hc, gd_t (yK8 hL hv0 hf0 hm0), iK8 hL hv0 hf0 hm0, fr_k hC hfr (show 3 < 8 by decide), fr_k hC hfr (show 0 < 8 by decide), fr_k hC hfr (show 4 < 8 by decide), e3, show (8 : Int32) = nI 8 from rfl, C_isIn, inR_n h2 (by decide), bo_e, if_neg (by decide), C_isSource, hs, bo_e, if_neg (show ¬ bI true = 0 by decide), e79]
  rcases hk with hk | hk
  · rw [if_pos hk]
  · rw [if_neg hk]
    split <;> rfl
theorem C_hear_39n (hL : LY L G n Q) (hC : RC n st V Q z) (hfr : FR Q z v0 i a) (h1 : r < n) (h0 : a 0 = 1 ∨ a 0 = 2) : d_X4_hear_39 (L.1 9 r 0) (L.1 8 v0 (qpi Q v0 (1 - qcu Q v0) i)) (nI p) (eK L G V (RF n L Q)) = some (eK L G V (RF n L Q)) := by
  have hv0 := hfr.1
  have hm0 := hfr.2.1
  have hf0 := fr_80 hC hfr
  have h7 : a 0 < 7 := by
    rcases h0 with e | e
    · rw [e]; decide
    · rw [e]; decide
  cases hin : inR (a 3) 8 with
  | false =>
    unfold d_X4_hear_39
    rw [eK_hc, gd_t (yK8 hL hv0 hf0 hm0), iK8 hL hv0 hf0 hm0, fr_k hC hfr (show 3 < 8 by decide), show (8 : Int32) = nI 8 from rfl, C_isIn, hin, bo_e, if_pos (show bI false = 0 by decide)]
  | true =>
    cases hso : (decide (a 4 = -1) || inR (a 4) 16) with
    | false =>
      unfold d_X4_hear_39
      rw [eK_hc, gd_t (yK8 hL hv0 hf0 hm0), iK8 hL hv0 hf0 hm0, fr_k hC hfr (show 3 < 8 by decide), fr_k hC hfr (show 4 < 8 by decide), show (8 : Int32) = nI 8 from rfl, C_isIn, hin, bo_e, if_neg (show ¬ bI true = 0 by decide), C_isSource, hso, bo_e, if_pos (show bI false = 0 by decide)]
    | true =>
      obtain ⟨g, hg, e3⟩ := inR_t (by decide) hin
      rw [C_hear_39e hL hC hfr h1 hg e3 hso (Or.inl h7)]
      unfold d_X4_hear_105
      rw [eK_hc, gd_t (yK8 hL hv0 hf0 hm0), iK8 hL hv0 hf0 hm0, fr_k hC hfr (show 0 < 8 by decide)]
      rcases h0 with e | e
      · rw [e, if_neg (show ¬ (1 : Int32) = 3 by decide), if_neg (show ¬ (1 : Int32) = 4 by decide), if_neg (show ¬ (1 : Int32) = 5 by decide), if_neg (show ¬ (1 : Int32) = 6 by decide), if_neg (show ¬ (1 : Int32) = 7 by decide), if_neg (show ¬ (1 : Int32) = 8 by decide), if_neg (show ¬ (1 : Int32) = 9 by decide), if_neg (show ¬ (1 : Int32) = 10 by decide)]
      · rw [e, if_neg (show ¬ (2 : Int32) = 3 by decide), if_neg (show ¬ (2 : Int32) = 4 by decide), if_neg (show ¬ (2 : Int32) = 5 by decide), if_neg (show ¬ (2 : Int32) = 6 by decide), if_neg (show ¬ (2 : Int32) = 7 by decide), if_neg (show ¬ (2 : Int32) = 8 by decide), if_neg (show ¬ (2 : Int32) = 9 by decide), if_neg (show ¬ (2 : Int32) = 10 by decide)]
theorem C_hear (hL : LY L G n Q) (hC : RC n 0 V Q z) (hO : MO z) (ht : ∃ t, 1 ≤ t ∧ t ≤ 6000 ∧ z.1 0 = nI t) (hfr : FR Q z v0 i a) (h1 : r < n) (hp : p < 4) (hu : qpw Q (4 * r + p) ≠ -1) (ha : fok n a) (hse : a 1 ≠ nI r) : ∃ V', d_X4_hear (L.1 9 r 0) (L.1 8 v0 (qpi Q v0 (1 - qcu Q v0) i)) (nI p) (eK L G V (RF n L Q)) = some (eK L G V' (RF n L Q)) ∧ RC n 0 V' Q (coZ z r p a) := by
  have hn := hC.nn.2.2.2
  have hr := hC.nr
  have hv0 := hfr.1
  have hm0 := hfr.2.1
  have hf0 := fr_80 hC hfr
  unfold d_X4_hear
  rw [show (4 : Int32) = nI 4 from rfl, C_isIn, inR_n hp (by decide)]
  simp (disch := first | omega | assumption) only [eK_hc, eK_hl, yK9 hL, iK9 hL, rK9_0 hL, rK9_2 hL, rK9_3 hL, yK10 hL, iK10 hL, lK10 hL, rK10 hL, yK8 hL, iK8 hL, lm4, lm8, lm10, lm16, lm17, lm26, lm40, lm400, nI_add, nI_1, ix_nI, nI_clamp, gd_T, gd_t, bd_e, bo_e, b2_e, true_and, and_true, ite_bI, cond_true, if_pos hu, if_neg (zK18 hL h1 hp hu), fr_k hC hfr (show 0 < 8 by decide), fr_k hC hfr (show 1 < 8 by decide)]
  simp (disch := first | omega | assumption) only [eK_hc, eK_hl, yK18 hL, iK18 hL, rK18_0 hL, rK18_2 hL, rK18_7 hL, rK18_8 hL, rK18_9 hL, rK18_10 hL, rK18_11 hL, rK18_12 hL, gd_T, gd_t, bd_e, bo_e, b2_e, true_and, and_true]
  have e99 : ∀ g, g < 8 → a 3 = nI g → (decide (a 4 = -1) || inR (a 4) 16) = true → (a 0 < 7 ∨ ¬ a 4 = -1) → (∃ V', d_X4_hear_105 (L.1 9 r 0) (L.1 8 v0 (qpi Q v0 (1 - qcu Q v0) i)) (nI p) (L.1 12 r g) (bI (decide (a 2 = nI r))) (eK L G V (RF n L Q)) = some (eK L G V' (RF n L Q)) ∧ RC n 0 V' Q (coZ z r p a)) → ∃ V', d_X4_hear_39 (L.1 9 r 0) (L.1 8 v0 (qpi Q v0 (1 - qcu Q v0) i)) (nI p) (eK L G V (RF n L Q)) = some (eK L G V' (RF n L Q)) ∧ RC n 0 V' Q (coZ z r p a) := by
    intro g hg e3 hs hk hh
    rw [C_hear_39e hL hC hfr h1 hg e3 hs hk]
    exact hh
  have r0 : hi (eK L G V (RF n L Q)) (L.1 8 v0 (qpi Q v0 (1 - qcu Q v0) i)) 0 = a 0 := by rw [iK8 hL hv0 hf0 hm0, fr_k hC hfr (show 0 < 8 by decide)]
  rcases ha with ⟨h0, b, hb, e1⟩ | ⟨h0, -⟩ | ⟨h0, ⟨g, hg, e3⟩, e4⟩ | ⟨h0, ⟨g, hg, e3⟩, e4⟩ | ⟨h0, ⟨g, hg, e3⟩, ⟨y, hy, ey⟩, hT, h46⟩ | ⟨h0, ⟨g, hg, e3⟩, ⟨y, hy, ey⟩, hT⟩ | ⟨h0, ⟨g, hg, e3⟩, ⟨s, hs, e4⟩, hN, l, hl, e7⟩ | ⟨h0, ⟨g, hg, e3⟩, ⟨s, hs, e4⟩, hc⟩ | ⟨h0, ⟨g, hg, e3⟩, ⟨s, hs, e4⟩, hN, b1, b2, hb1, hb2, e6⟩ | ⟨h0, ⟨g, hg, e3⟩, ⟨s, hs, e4⟩, e5, t, hT, e6⟩
  · obtain ⟨V1, e, hR⟩ := C_takeHello (q := b) hL hC hO.1 h1 hp hu hb (fun w => hse (by rw [e1, w]))
    have hfr1 : FR Q (uA z 25 (10 * (4 * r + p) + b) (z.1 0 + 65)) v0 i a := FR_te hfr (te_uA (by decide))
    rw [if_pos h0, e1, e, bo_e, C_hear_39n hL hR hfr1 h1 (Or.inl h0)]
    refine ⟨V1, rfl, RCe hR ?_⟩
    rw [co1 h0 e1 (by omega)]
  · rw [if_neg (by rw [h0]; decide), C_hear_39n hL hC hfr h1 (Or.inr h0)]
    exact ⟨V, rfl, RCe hC (by rw [co2 h0])⟩
  · rw [if_neg (by rw [h0]; decide)]
    refine e99 g hg e3 (so_m e4) (Or.inl (by rw [h0]; decide)) ?_
    obtain ⟨V1, e, hR⟩ := C_takeReport hL hC h1 hg hp hu
    unfold d_X4_hear_105
    rw [eK_hc, gd_t (yK8 hL hv0 hf0 hm0), r0, h0, if_pos rfl]
    simp (disch := first | omega | assumption) only [eK_hc, eK_hl, yK9 hL, iK9 hL, rK9_0 hL, rK9_2 hL, rK9_3 hL, yK10 hL, iK10 hL, lK10 hL, rK10 hL, yK12 hL, iK12 hL, rK12_0 hL, rK12_3 hL, rK12_5 hL, rK12_6 hL, rK12_8 hL, rK12_9 hL, rK12_10 hL, lm4, lm8, lm10, lm16, lm17, lm26, lm40, lm400, nI_add, nI_1, ix_nI, nI_clamp, gd_T, gd_t, bd_e, bo_e, b2_e, true_and, and_true, if_pos hu, e]
    exact ⟨V1, rfl, RCe hR (by rw [co3 h0 e3 hg])⟩
  · rw [if_neg (by rw [h0]; decide)]
    refine e99 g hg e3 (so_m e4) (Or.inl (by rw [h0]; decide)) ?_
    obtain ⟨V1, e, hR⟩ := C_takeLeave hL hC hO h1 hg hp hu
    unfold d_X4_hear_105
    rw [eK_hc, gd_t (yK8 hL hv0 hf0 hm0), r0, h0, if_neg (show ¬ (4 : Int32) = 3 by decide), if_pos rfl]
    simp (disch := first | omega | assumption) only [eK_hc, eK_hl, yK9 hL, iK9 hL, rK9_0 hL, rK9_2 hL, rK9_3 hL, yK10 hL, iK10 hL, lK10 hL, rK10 hL, yK12 hL, iK12 hL, rK12_0 hL, rK12_3 hL, rK12_5 hL, rK12_6 hL, rK12_8 hL, rK12_9 hL, rK12_10 hL, lm4, lm8, lm10, lm16, lm17, lm26, lm40, lm400, nI_add, nI_1, ix_nI, nI_clamp, gd_T, gd_t, bd_e, bo_e, b2_e, true_and, and_true, if_pos hu, e]
    exact ⟨V1, rfl, RCe hR (by rw [co4 h0 e3 hg])⟩
  · rw [if_neg (by rw [h0]; decide)]
    refine e99 g hg e3 (so_y hy ey) (Or.inl (by rw [h0]; decide)) ?_
    unfold d_X4_hear_105 d_X4_hear_182
    rw [eK_hc, gd_t (yK8 hL hv0 hf0 hm0), r0, h0, if_neg (show ¬ (5 : Int32) = 3 by decide), if_neg (show ¬ (5 : Int32) = 4 by decide), if_pos rfl, ite_bI, co5 h0 e3 hg ey hy]
    cases decide (a 2 = nI r) with
    | true =>
      obtain ⟨V1, e, hR⟩ := C_takeJP hL hC hO.1 ht hfr h1 hg hp hu hy ey
      rw [cond_true, cond_true]
      simp (disch := first | omega | assumption) only [eK_hc, eK_hl, yK9 hL, iK9 hL, rK9_0 hL, rK9_2 hL, rK9_3 hL, yK10 hL, iK10 hL, lK10 hL, rK10 hL, yK12 hL, iK12 hL, rK12_0 hL, rK12_3 hL, rK12_5 hL, rK12_6 hL, rK12_8 hL, rK12_9 hL, rK12_10 hL, lm4, lm8, lm10, lm16, lm17, lm26, lm40, lm400, nI_add, nI_1, ix_nI, nI_clamp, gd_T, gd_t, bd_e, bo_e, b2_e, true_and, and_true, if_pos hu, e]
      refine ⟨V1, rfl, RCe hR ?_⟩
      rw [if_neg (by rw [h0]; decide)]
    | false =>
      obtain ⟨V1, e, hR⟩ := C_overhear hL hC hO hfr h1 hg hp hy ey hT (Or.inr h0) (h46.elim Or.inl (fun w => Or.inr (Or.inl w)))
      rw [cond_false, cond_false, gd_t (yK12 hL h1 hg), e, bo_e]
      exact ⟨V1, rfl, RCe hR (by rw [h0])⟩
  · rw [if_neg (by rw [h0]; decide)]
    refine e99 g hg e3 (so_y hy ey) (Or.inl (by rw [h0]; decide)) ?_
    unfold d_X4_hear_105 d_X4_hear_182
    rw [eK_hc, gd_t (yK8 hL hv0 hf0 hm0), r0, h0, if_neg (show ¬ (6 : Int32) = 3 by decide), if_neg (show ¬ (6 : Int32) = 4 by decide), if_neg (show ¬ (6 : Int32) = 5 by decide), if_pos rfl, ite_bI, co6 h0 e3 hg ey hy]
    cases decide (a 2 = nI r) with
    | true =>
      obtain ⟨V1, e, hR⟩ := C_takeJP hL hC hO.1 ht hfr h1 hg hp hu hy ey
      rw [cond_true, cond_true]
      simp (disch := first | omega | assumption) only [eK_hc, eK_hl, yK9 hL, iK9 hL, rK9_0 hL, rK9_2 hL, rK9_3 hL, yK10 hL, iK10 hL, lK10 hL, rK10 hL, yK12 hL, iK12 hL, rK12_0 hL, rK12_3 hL, rK12_5 hL, rK12_6 hL, rK12_8 hL, rK12_9 hL, rK12_10 hL, lm4, lm8, lm10, lm16, lm17, lm26, lm40, lm400, nI_add, nI_1, ix_nI, nI_clamp, gd_T, gd_t, bd_e, bo_e, b2_e, true_and, and_true, if_pos hu, e]
      refine ⟨V1, rfl, RCe hR ?_⟩
      rw [if_pos h0]
    | false =>
      obtain ⟨V1, e, hR⟩ := C_overhear hL hC hO hfr h1 hg hp hy ey hT (Or.inl h0) (Or.inr (Or.inr h0))
      rw [cond_false, cond_false, gd_t (yK12 hL h1 hg), e, bo_e]
      exact ⟨V1, rfl, RCe hR (by rw [h0])⟩
  · rw [if_neg (by rw [h0]; decide)]
    refine e99 g hg e3 (so_n hs e4).1 (Or.inr (so_n hs e4).2) ?_
    obtain ⟨V1, e, hR⟩ := C_takeData hL hC hO hfr h1 hg hs hp hu e4
    unfold d_X4_hear_105
    rw [eK_hc, gd_t (yK8 hL hv0 hf0 hm0), r0, h0, if_neg (show ¬ (7 : Int32) = 3 by decide), if_neg (show ¬ (7 : Int32) = 4 by decide), if_neg (show ¬ (7 : Int32) = 5 by decide), if_neg (show ¬ (7 : Int32) = 6 by decide), if_pos rfl, gd_t (yK12 hL h1 hg), e, bo_e]
    exact ⟨V1, rfl, RCe hR (by rw [co7 h0 e3 hg e4 hs])⟩
  · rw [if_neg (by rw [h0]; decide)]
    refine e99 g hg e3 (so_n hs e4).1 (Or.inr (so_n hs e4).2) ?_
    obtain ⟨V1, e, hR⟩ := C_takeClaim hL hC hO hfr h1 hg hp hu hs e4 hc
    unfold d_X4_hear_105
    rw [eK_hc, gd_t (yK8 hL hv0 hf0 hm0), r0, h0, if_neg (show ¬ (8 : Int32) = 3 by decide), if_neg (show ¬ (8 : Int32) = 4 by decide), if_neg (show ¬ (8 : Int32) = 5 by decide), if_neg (show ¬ (8 : Int32) = 6 by decide), if_neg (show ¬ (8 : Int32) = 7 by decide), if_pos rfl, gd_t (yK12 hL h1 hg), e, bo_e]
    exact ⟨V1, rfl, RCe hR (by rw [co8 h0 e3 hg e4 hs])⟩
  · rw [if_neg (by rw [h0]; decide)]
    refine e99 g hg e3 (so_n hs e4).1 (Or.inr (so_n hs e4).2) ?_
    unfold d_X4_hear_105
    rw [eK_hc, gd_t (yK8 hL hv0 hf0 hm0), r0, h0, if_neg (show ¬ (9 : Int32) = 3 by decide), if_neg (show ¬ (9 : Int32) = 4 by decide), if_neg (show ¬ (9 : Int32) = 5 by decide), if_neg (show ¬ (9 : Int32) = 6 by decide), if_neg (show ¬ (9 : Int32) = 7 by decide), if_neg (show ¬ (9 : Int32) = 8 by decide), if_pos rfl, ite_bI, co9 h0 e3 hg e4 hs]
    cases decide (a 2 = nI r) with
    | false => exact ⟨V, rfl, hC⟩
    | true =>
      obtain ⟨V1, e, hR⟩ := C_takeTunnel hL hC hO hfr h1 hg hs e4 h0 hb1 hb2 e6
      rw [cond_true, cond_true, gd_t (yK12 hL h1 hg), e, bo_e]
      exact ⟨V1, rfl, hR⟩
  · rw [if_neg (by rw [h0]; decide)]
    refine e99 g hg e3 (so_n hs e4).1 (Or.inr (so_n hs e4).2) ?_
    unfold d_X4_hear_105
    rw [eK_hc, gd_t (yK8 hL hv0 hf0 hm0), r0, h0, if_neg (show ¬ (10 : Int32) = 3 by decide), if_neg (show ¬ (10 : Int32) = 4 by decide), if_neg (show ¬ (10 : Int32) = 5 by decide), if_neg (show ¬ (10 : Int32) = 6 by decide), if_neg (show ¬ (10 : Int32) = 7 by decide), if_neg (show ¬ (10 : Int32) = 8 by decide), if_neg (show ¬ (10 : Int32) = 9 by decide), if_pos rfl, ite_bI, co10 h0 e3 hg e4 hs]
    cases decide (a 2 = nI r) with
    | false => exact ⟨V, rfl, hC⟩
    | true =>
      obtain ⟨V1, e, hR⟩ := C_takeStop hL hC hO hfr h1 hg hs e4 h0 e5 hT e6
      rw [cond_true, cond_true, gd_t (yK12 hL h1 hg), e, bo_e]
      refine ⟨V1, rfl, RCe hR ?_⟩
      rw [e6, nI_clamp (by omega)]
/-! hosts -/
theorem RC_ho {v : Int32} (k m : Nat) (hkm : k = 3 ∧ m = 13 ∨ k = 4 ∧ m = 14) (hC : RC n st V Q z) (hu : qhw Q h ≠ -1) : RC n st (uR V 25 h 0 (va_up (V 25 h 0) k v)) Q (uA z m h v) := by
  have hne : ∀ j, qhw Q j = -1 → j ≠ h := fun j hj e => hu (e ▸ hj)
  have at25 : ∀ b c, c ≠ k → uR V 25 h 0 (va_up (V 25 h 0) k v) 25 b 0 c = V 25 b 0 c := by
    intro b c hc
    rw [uR_at]
    by_cases e : b = h ∧ (0 : Nat) = 0
    · rw [if_pos e, vu_n hc, e.1]
    · rw [if_neg e]
  have atk : ∀ b, uR V 25 h 0 (va_up (V 25 h 0) k v) 25 b 0 k = if b = h then v else V 25 b 0 k := by
    intro b
    rw [uR_at]
    by_cases e : b = h
    · rw [if_pos ⟨e, rfl⟩, if_pos e, vu_s]
    · rw [if_neg (fun w => e w.1), if_neg e]
  rcases hkm with ⟨rfl, rfl⟩ | ⟨rfl, rfl⟩
  · have eho : cHo Q (uR V 25 h 0 (va_up (V 25 h 0) 3 v) 25) ((uA z 13 h v).2 13) (z.2 14) := by
      intro b a1 a2
      obtain ⟨c0, c3, c4⟩ := hC.ho b a1 a2
      rw [at25 b 0 (by decide), at25 b 4 (by decide), atk, uA_get]
      refine ⟨c0, ?_, c4⟩
      split
      · rfl
      · exact c3
    exact ⟨hC.tm, hC.nu, hC.tu, hC.nn, hC.ns, hC.qw, hC.qh, hC.wa, hC.mt, hC.hz, hC.wi, hC.su, hC.po, hC.fr, hC.fc, hC.pi, hC.md, hC.me, hC.fn, hC.id, hC.jb, hC.ja, hC.tc, hC.kp, hC.sp, hC.sb, hC.pt, hC.he, hC.qu, hC.nt, (cNb_c hC.nb rfl rfl rfl), hC.mb, hC.jt, hC.cf, hC.cl, (eho), hC.go, hC.k33, hC.k39, hC.k37, hC.k29, hC.k28, hC.k31, hC.k30, hC.un, hC.on, hC.u2, (fun j hj hm => ⟨by rw [uA_get, if_neg (hne j hm)]; exact (hC.g0 j hj hm).1, (hC.g0 j hj hm).2⟩), hC.jp, (cWs_t hC.ws ⟨rfl, rfl, rfl, rfl⟩)⟩
  · have eho : cHo Q (uR V 25 h 0 (va_up (V 25 h 0) 4 v) 25) (z.2 13) ((uA z 14 h v).2 14) := by
      intro b a1 a2
      obtain ⟨c0, c3, c4⟩ := hC.ho b a1 a2
      rw [at25 b 0 (by decide), at25 b 3 (by decide), atk, uA_get]
      refine ⟨c0, c3, ?_⟩
      split
      · rfl
      · exact c4
    exact ⟨hC.tm, hC.nu, hC.tu, hC.nn, hC.ns, hC.qw, hC.qh, hC.wa, hC.mt, hC.hz, hC.wi, hC.su, hC.po, hC.fr, hC.fc, hC.pi, hC.md, hC.me, hC.fn, hC.id, hC.jb, hC.ja, hC.tc, hC.kp, hC.sp, hC.sb, hC.pt, hC.he, hC.qu, hC.nt, (cNb_c hC.nb rfl rfl rfl), hC.mb, hC.jt, hC.cf, hC.cl, (eho), hC.go, hC.k33, hC.k39, hC.k37, hC.k29, hC.k28, hC.k31, hC.k30, hC.un, hC.on, hC.u2, (fun j hj hm => ⟨(hC.g0 j hj hm).1, by rw [uA_get, if_neg (hne j hm)]; exact (hC.g0 j hj hm).2.1, (hC.g0 j hj hm).2.2⟩), hC.jp, (cWs_t hC.ws ⟨rfl, rfl, rfl, rfl⟩)⟩
theorem RC_go {v : Int32} (hC : RC n st V Q z) (hm : m < 400) (hu : qhw Q h ≠ -1) : RC n st (uR V 26 h 0 (va_up (V 26 h 0) m v)) Q (uA z 15 (400 * h + m) v) := by
  have ego : cGo Q (uR V 26 h 0 (va_up (V 26 h 0) m v) 26) ((uA z 15 (400 * h + m) v).2 15) := by
    intro b k a1 a2 a3
    rw [uR_at, uA_get]
    by_cases e : b = h
    · subst e
      rw [if_pos ⟨rfl, rfl⟩, vu_a]
      by_cases e2 : k = m
      · rw [if_pos e2, if_pos (by omega)]
      · rw [if_neg e2, if_neg (by omega)]
        exact hC.go b k a1 a2 a3
    · rw [if_neg (fun w => e w.1), if_neg (by omega)]
      exact hC.go b k a1 a2 a3
  have eg0 : cG0 Q (z.2 13) (z.2 14) ((uA z 15 (400 * h + m) v).2 15) := by
    intro j hj hm2
    obtain ⟨u1, u2, u3⟩ := hC.g0 j hj hm2
    have hne : j ≠ h := fun e => hu (e ▸ hm2)
    refine ⟨u1, u2, fun k hk => ?_⟩
    rw [uA_get, if_neg (by omega)]
    exact u3 k hk
  exact ⟨hC.tm, hC.nu, hC.tu, hC.nn, hC.ns, hC.qw, hC.qh, hC.wa, hC.mt, hC.hz, hC.wi, hC.su, hC.po, hC.fr, hC.fc, hC.pi, hC.md, hC.me, hC.fn, hC.id, hC.jb, hC.ja, hC.tc, hC.kp, hC.sp, hC.sb, hC.pt, hC.he, hC.qu, hC.nt, (cNb_c hC.nb rfl rfl rfl), hC.mb, hC.jt, hC.cf, hC.cl, hC.ho, (ego), hC.k33, hC.k39, hC.k37, hC.k29, hC.k28, hC.k31, hC.k30, hC.un, hC.on, hC.u2, (eg0), hC.jp, (cWs_t hC.ws ⟨rfl, rfl, rfl, rfl⟩)⟩
theorem inB_bt (hg : g < 8) : inB z h g = bt (z.2 13 h) g := by
  unfold inB
  cases hb : bt (z.2 13 h) g with
  | true => exact decide_eq_true ((hb_1 (by omega)).mpr hb)
  | false => exact decide_eq_false (fun w => by rw [(hb_1 (by omega)).mp w] at hb; cases hb)
theorem C_hasJoined (hL : LY L G n Q) (hC : RC n st V Q z) (h1 : h < 16) (hu : qhw Q h ≠ -1) (hg : g < 8) : d_X1_hasJoined (L.1 25 h 0) (nI g) (eK L G V (RF n L Q)) = some (bI (inB z h g)) := by
  unfold d_X1_hasJoined
  simp (disch := first | omega | assumption) only [eK_hc, eK_hl, yK25 hL, iK25 hL, rK25_1 hL, rK25_2 hL, gd_T, gd_t, bd_e, bo_e, b2_e, true_and, and_true, (hC.ho h h1 hu).2.1, C_has (show g < 32 by omega), bI_and1, inB_bt hg]
theorem C_hostHear (hL : LY L G n Q) (hC : RC n st V Q z) (hfr : FR Q z v0 i a) (h1 : h < 16) (hu : qhw Q h ≠ -1) (ha : fok n a) : ∃ V', d_X1_hear (L.1 25 h 0) (L.1 8 v0 (qpi Q v0 (1 - qcu Q v0) i)) (eK L G V (RF n L Q)) = some (eK L G V' (RF n L Q)) ∧ RC n st V' Q (hsZ z h a) := by
  have hv0 := hfr.1
  have hm0 := hfr.2.1
  have hf0 := fr_80 hC hfr
  unfold d_X1_hear hsZ
  simp (disch := first | omega | assumption) only [eK_hc, eK_hl, yK8 hL, iK8 hL, gd_T, gd_t, bd_e, bo_e, b2_e, true_and, and_true, fr_k hC hfr (show 0 < 8 by decide), fr_k hC hfr (show 3 < 8 by decide), fr_k hC hfr (show 5 < 8 by decide)]
  by_cases k2 : a 0 = 2
  · rw [if_pos k2, if_pos k2]
    by_cases k3 : a 3 = -1
    · rw [if_pos k3, if_pos k3]
      simp (disch := first | omega | assumption) only [eK_hc, eK_hl, yK25 hL, iK25 hL, rK25_1 hL, rK25_2 hL, wK25 hL, gd_T, gd_t, bd_e, bo_e, b2_e, true_and, and_true, (hC.ho h h1 hu).2.2]
      exact ⟨_, rfl, RC_ho 4 14 (Or.inr ⟨rfl, rfl⟩) hC hu⟩
    · rw [if_neg k3, if_neg k3]
      simp (disch := first | omega | assumption) only [eK_hc, eK_hl, yK25 hL, iK25 hL, rK25_1 hL, rK25_2 hL, wK25 hL, gd_T, gd_t, bd_e, bo_e, b2_e, true_and, and_true, (hC.ho h h1 hu).2.2]
      exact ⟨_, rfl, RC_ho 4 14 (Or.inr ⟨rfl, rfl⟩) hC hu⟩
  · rw [if_neg k2, if_neg k2]
    by_cases k7 : a 0 = 7
    · rw [if_pos k7, if_pos k7]
      obtain ⟨⟨g, hg, e3⟩, ⟨m, hm, e5⟩⟩ : fr3 a ∧ frN a := by
        rcases ha with ⟨h0, _⟩ | ⟨h0, _⟩ | ⟨h0, _⟩ | ⟨h0, _⟩ | ⟨h0, _⟩ | ⟨h0, _⟩ | ⟨h0, w1, w2, w3, _⟩ | ⟨h0, _⟩ | ⟨h0, _⟩ | ⟨h0, _⟩
        · rw [h0] at k7; exact absurd k7 (by decide)
        · rw [h0] at k7; exact absurd k7 (by decide)
        · rw [h0] at k7; exact absurd k7 (by decide)
        · rw [h0] at k7; exact absurd k7 (by decide)
        · rw [h0] at k7; exact absurd k7 (by decide)
        · rw [h0] at k7; exact absurd k7 (by decide)
        · exact ⟨w1, w3⟩
        · rw [h0] at k7; exact absurd k7 (by decide)
        · rw [h0] at k7; exact absurd k7 (by decide)
        · rw [h0] at k7; exact absurd k7 (by decide)
      rw [e3, e5, nI_clamp (by omega), nI_clamp (by omega), gd_t (yK25 hL h1 hu), C_hasJoined hL hC h1 hu hg, bo_e, ite_bI, show (400 : Int32) = nI 400 from rfl, C_isIn, inR_n hm (by decide), bo_e]
      cases inB z h g with
      | false => exact ⟨V, rfl, hC⟩
      | true =>
        rw [cond_true, cond_true, if_neg (show ¬ bI true = 0 by decide)]
        simp (disch := first | omega | assumption) only [eK_hc, eK_hl, yK25 hL, iK25 hL, rK25_1 hL, rK25_2 hL, yK26 hL, iK26 hL, lK26 hL, wK26 hL, lm4, lm8, lm10, lm16, lm17, lm26, lm40, lm400, nI_add, nI_1, ix_nI, nI_clamp, gd_T, gd_t, bd_e, bo_e, b2_e, true_and, and_true, hC.go h m h1 hu hm]
        exact ⟨_, rfl, RC_go hC hm hu⟩
    · rw [if_neg k7, if_neg k7]
      exact ⟨V, rfl, hC⟩
end
