/-! THE CLASS'S TREES: what is asked of them -/
section
variable {L : Ly} {G : Hp} {n : Nat} {st : Int32} {V : Vt} {Q : Qt} {z : Sg} {r p q g s x m : Nat}
theorem sc_at {f : Nat → Int32} (hf : ∀ k, k < 11 → f k = V 12 r g k) (a b k : Nat) (hk : k < 11) : uR V 12 r g f 12 a b k = V 12 a b k := by
  rw [uR_at]
  by_cases e : a = r ∧ b = g
  · rw [if_pos e, e.1, e.2]
    exact hf k hk
  · rw [if_neg e]
theorem RC_scr {f : Nat → Int32} (hC : RC n st V Q z) (hf : ∀ k, k < 11 → f k = V 12 r g k) : RC n st (uR V 12 r g f) Q z :=
  ⟨hC.tm, hC.nu, hC.tu, hC.nn, hC.ns, hC.qw, hC.qh, hC.wa, hC.mt, hC.hz, hC.wi, hC.su, hC.po, hC.fr, hC.fc, hC.pi, hC.md, hC.me, hC.fn, (fun a d => ⟨(hC.id a d).1, fun b e => ⟨(sc_at hf a b 1 (by decide)).trans ((hC.id a d).2 b e).1, (sc_at hf a b 2 (by decide)).trans ((hC.id a d).2 b e).2⟩⟩), hC.jb, hC.ja, (fun a b d e => (sc_at hf a b 7 (by decide)).trans (hC.tc a b d e)), hC.kp, hC.sp, hC.sb, hC.pt, hC.he, hC.qu, hC.nt, (cNb_c hC.nb rfl rfl rfl), hC.mb, hC.jt, hC.cf, hC.cl, hC.ho, hC.go, (fun a b c d e i j => hC.k33 a b c d e i ((congrArg (fun w => bt w c) (sc_at hf a b 4 (by decide))).symm.trans j)), (fun a b c d e i j => hC.k39 a b c d e i ((congrArg (fun w => bt w c) (sc_at hf a b 4 (by decide))).symm.trans j)), (fun a b c d e i j => hC.k37 a b c d e i ((congrArg (fun w => bt w c) (sc_at hf a b 4 (by decide))).symm.trans j)), (fun a b c l d e i m j => hC.k29 a b c l d e i m ((congrArg (fun w => bt w c) (sc_at hf a b 4 (by decide))).symm.trans j)), (fun a b l d e i j => hC.k28 a b l d e i ((congrArg (fun w => bt w 16) (sc_at hf a b 4 (by decide))).symm.trans j)), (fun a b c l d e i m j => hC.k31 a b c l d e i m ((congrArg (fun w => bt w c) (sc_at hf a b 4 (by decide))).symm.trans j)), (fun a b c l d e i m j => hC.k30 a b c l d e i m ((congrArg (fun w => bt w c) (sc_at hf a b 4 (by decide))).symm.trans j)), hC.un, hC.on, hC.u2, hC.g0, hC.jp, (cWs_t hC.ws ⟨rfl, rfl, rfl, rfl⟩)⟩
/-! ports that are not there -/
theorem un_mem (hF : WF z) (hC : RC n st V Q z) (h1 : r < n) (h2 : p < 4) (h3 : qpw Q (4 * r + p) = -1) (h4 : g < 8) : mem z (4 * r + p) g = false := by
  have hn := hC.nn.2.2.2
  unfold mem
  rw [(hC.un (4 * r + p) (by omega) h3).2.1 g h4]
  exact decide_eq_false (Int32.not_lt.mpr hF.t0)
theorem un_jn {y : Nat} (hF : WF z) (hC : RC n st V Q z) (h1 : r < n) (h2 : p < 4) (h3 : qpw Q (4 * r + p) = -1) (h4 : g < 8) (h5 : y < 17) : jn z (4 * r + p) g y = false := by
  have hn := hC.nn.2.2.2
  unfold jn
  have e := (hC.un (4 * r + p) (by omega) h3).2.2.1 (17 * g + y) (by omega)
  rw [show 17 * (8 * (4 * r + p) + g) + y = 136 * (4 * r + p) + (17 * g + y) by omega, e]
  exact decide_eq_false (Int32.not_lt.mpr hF.t0)
theorem un_clm (hC : RC n st V Q z) (h1 : r < n) (h2 : p < 4) (h3 : qpw Q (4 * r + p) = -1) (h4 : g < 8) (h5 : s < 16) : clm z (4 * r + p) g s = -1 := by
  have hn := hC.nn.2.2.2
  unfold clm
  have e := (hC.un (4 * r + p) (by omega) h3).2.2.2 (16 * g + s) (by omega)
  rw [show 16 * (8 * (4 * r + p) + g) + s = 128 * (4 * r + p) + (16 * g + s) by omega, if_neg (fun w => w.1 e)]
theorem un_lost (hC : RC n st V Q z) (h1 : r < n) (h2 : p < 4) (h3 : qpw Q (4 * r + p) = -1) (h4 : g < 8) (h5 : s < 16) : lostP z r p g s = false := by
  unfold lostP
  rw [un_clm hC h1 h2 h3 h4 h5, decide_eq_false (fun w => w rfl), Bool.false_and]
theorem un_own (hF : WF z) (hC : RC n st V Q z) (h1 : r < n) (h2 : p < 4) (h3 : qpw Q (4 * r + p) = -1) (h4 : g < 8) : own z r p g = false := by
  unfold own
  rw [un_mem hF hC h1 h2 h3 h4, Bool.false_and]
theorem un_sh (hF : WF z) (hC : RC n st V Q z) (h1 : r < n) (h2 : p < 4) (h3 : qpw Q (4 * r + p) = -1) (h4 : g < 8) : shP z r p g s = false := by
  unfold shP
  rw [un_own hF hC h1 h2 h3 h4, un_jn hF hC h1 h2 h3 h4 (by decide)]
  rfl
theorem un_wj (hF : WF z) (hC : RC n st V Q z) (h1 : r < n) (h2 : p < 4) (h3 : qpw Q (4 * r + p) = -1) (h4 : g < 8) (h5 : s < 16) : wjP z r p g s = false := by
  unfold wjP
  rw [un_jn hF hC h1 h2 h3 h4 (by omega)]
  rfl
/-! ways -/
theorem C_targetOf (hL : LY L G n Q) (hC : RC n st V Q z) (hF : WF z) (h1 : s < 16) : d_X2_targetOf (L.1 1 0 0) (nI s) (eK L G V (RF n L Q)) = some (if noW z s then -1 else nI (10 + hwN z s)) := by
  unfold d_X2_targetOf
  simp (disch := first | omega | assumption) only [eK_hc, eK_hl, yK1 hL, iK1 hL, rK1_0 hL, rK1_1 hL, rK1_2 hL, rK1_3 hL, yK3_6 hL, iK3_6 hL, lK3_6 hL, lm4, lm8, lm10, lm16, lm17, lm26, lm40, lm400, nI_add, nI_1, ix_nI, nI_clamp, gd_T, gd_t, bd_e, bo_e, b2_e, true_and, and_true, hC.hz s h1]
  by_cases h : noW z s
  · rw [if_pos h, if_pos h]
  · rw [if_neg h, if_neg h, (hwN_of hF h1 h).2, show (10 : Int32) = nI 10 from rfl, nI_add]
theorem C_portTo (hL : LY L G n Q) (hC : RC n 0 V Q z) (h1 : r < n) (h2 : m < 26) : d_X6_portTo (L.1 2 0 0) (nI r) (nI m) (eK L G V (RF n L Q)) = some (Wp z (26 * r + m)) := by
  have hn := hC.nn.2.2.2
  unfold d_X6_portTo
  rw [show (26 : Int32) = nI 26 from rfl, C_isIn, inR_d (by omega) (by decide), decide_eq_true h2, show (nI 26 : Int32) = 26 from rfl]
  simp (disch := first | omega | assumption) only [eK_hc, eK_hl, yK2 hL, iK2 hL, rK2_1 hL, rK2_2 hL, rK2_3 hL, rK2_4 hL, rK2_5 hL, yK3_3 hL, iK3_3 hL, lK3_3 hL, rm26, lm4, lm8, lm10, lm16, lm17, lm26, lm40, lm400, nI_add, nI_1, ix_nI, nI_clamp, gd_T, gd_t, bd_e, bo_e, b2_e, true_and, and_true, ite_bI, cond_true, (hC.ws rfl (26 * r + m) (by omega)).2.1]
theorem C_portTo1 {a : Nat} {H : Hp} {t : Int32} : d_X6_portTo a t (-1) H = some (-1) := by
  unfold d_X6_portTo
  rw [show (26 : Int32) = nI 26 from rfl, C_isIn, inR_m1]
  rfl
theorem C_routerTo (hL : LY L G n Q) (hC : RC n 0 V Q z) (h1 : r < n) (h2 : m < 26) : d_X6_routerTo (L.1 2 0 0) (nI r) (nI m) (eK L G V (RF n L Q)) = some (Wr z (26 * r + m)) := by
  have hn := hC.nn.2.2.2
  unfold d_X6_routerTo
  rw [show (26 : Int32) = nI 26 from rfl, C_isIn, inR_d (by omega) (by decide), decide_eq_true h2, show (nI 26 : Int32) = 26 from rfl]
  simp (disch := first | omega | assumption) only [eK_hc, eK_hl, yK2 hL, iK2 hL, rK2_1 hL, rK2_2 hL, rK2_3 hL, rK2_4 hL, rK2_5 hL, yK3_4 hL, iK3_4 hL, lK3_4 hL, rm26, lm4, lm8, lm10, lm16, lm17, lm26, lm40, lm400, nI_add, nI_1, ix_nI, nI_clamp, gd_T, gd_t, bd_e, bo_e, b2_e, true_and, and_true, ite_bI, cond_true, (hC.ws rfl (26 * r + m) (by omega)).2.2]
theorem C_routerTo1 {a : Nat} {H : Hp} {t : Int32} : d_X6_routerTo a t (-1) H = some (-1) := by
  unfold d_X6_routerTo
  rw [show (26 : Int32) = nI 26 from rfl, C_isIn, inR_m1]
  rfl
theorem C_distanceTo (hL : LY L G n Q) (hC : RC n 0 V Q z) (h1 : r < n) (h2 : m < 26) : d_X6_distanceTo (L.1 2 0 0) (nI r) (nI m) (eK L G V (RF n L Q)) = some (if Wd z (26 * r + m) < 1000000 then Wd z (26 * r + m) else 9999) := by
  have hn := hC.nn.2.2.2
  unfold d_X6_distanceTo
  rw [show (26 : Int32) = nI 26 from rfl, C_isIn, inR_d (by omega) (by decide), decide_eq_true h2, show (nI 26 : Int32) = 26 from rfl]
  simp (disch := first | omega | assumption) only [eK_hc, eK_hl, yK2 hL, iK2 hL, rK2_1 hL, rK2_2 hL, rK2_3 hL, rK2_4 hL, rK2_5 hL, yK3_2 hL, iK3_2 hL, lK3_2 hL, rm26, lm4, lm8, lm10, lm16, lm17, lm26, lm40, lm400, nI_add, nI_1, ix_nI, nI_clamp, gd_T, gd_t, bd_e, bo_e, b2_e, true_and, and_true, ite_bI, cond_true, (hC.ws rfl (26 * r + m) (by omega)).1]
theorem C_distanceTo1 {a : Nat} {H : Hp} {t : Int32} : d_X6_distanceTo a t (-1) H = some 9999 := by
  unfold d_X6_distanceTo
  rw [show (26 : Int32) = nI 26 from rfl, C_isIn, inR_m1]
  rfl
theorem C_isDirectW (hL : LY L G n Q) (hC : RC n 0 V Q z) (h1 : r < n) (h2 : m < 26) : d_X6_isDirect (L.1 2 0 0) (nI r) (nI m) (eK L G V (RF n L Q)) = some (bI (decide (Wp z (26 * r + m) ≠ -1 ∧ Wr z (26 * r + m) = -1))) := by
  have hn := hC.nn.2.2.2
  unfold d_X6_isDirect
  rw [show (26 : Int32) = nI 26 from rfl, C_isIn, inR_d (by omega) (by decide), decide_eq_true h2, show (nI 26 : Int32) = 26 from rfl]
  simp (disch := first | omega | assumption) only [eK_hc, eK_hl, yK2 hL, iK2 hL, rK2_1 hL, rK2_2 hL, rK2_3 hL, rK2_4 hL, rK2_5 hL, yK3_3 hL, iK3_3 hL, lK3_3 hL, yK3_4 hL, iK3_4 hL, lK3_4 hL, rm26, lm4, lm8, lm10, lm16, lm17, lm26, lm40, lm400, nI_add, nI_1, ix_nI, nI_clamp, gd_T, gd_t, bd_e, bo_e, b2_e, true_and, and_true, ite_bI, cond_true, (hC.ws rfl (26 * r + m) (by omega)).2.1, (hC.ws rfl (26 * r + m) (by omega)).2.2]
  by_cases a1 : Wp z (26 * r + m) = -1
  · rw [if_pos a1, decide_eq_false (fun w => w.1 a1)]
    rfl
  · rw [if_neg a1]
    by_cases a2 : Wr z (26 * r + m) = -1
    · rw [if_pos a2, decide_eq_true ⟨a1, a2⟩]
      rfl
    · rw [if_neg a2, decide_eq_false (fun w => a2 w.2)]
      rfl
theorem C_isDirectW1 {a : Nat} {H : Hp} {t : Int32} : d_X6_isDirect a t (-1) H = some 0 := by
  unfold d_X6_isDirect
  rw [show (26 : Int32) = nI 26 from rfl, C_isIn, inR_m1]
  rfl
theorem tS_a (z : Sg) (r s : Nat) : 26 * r + (10 + hwN z s) = tS z r s := (Nat.add_assoc _ _ _).symm
theorem C_portToSource (hL : LY L G n Q) (hC : RC n 0 V Q z) (hF : WF z) (h1 : r < n) (h2 : g < 8) (h3 : s < 16) : d_X5_portToSource (L.1 12 r g) (nI s) (eK L G V (RF n L Q)) = some (pS z r s) := by
  unfold d_X5_portToSource pS
  simp (disch := first | omega | assumption) only [eK_hc, eK_hl, yK12 hL, iK12 hL, rK12_0 hL, rK12_3 hL, rK12_5 hL, rK12_6 hL, rK12_8 hL, rK12_9 hL, rK12_10 hL, yK1 hL, iK1 hL, rK1_0 hL, rK1_1 hL, rK1_2 hL, rK1_3 hL, yK2 hL, iK2 hL, rK2_1 hL, rK2_2 hL, rK2_3 hL, rK2_4 hL, rK2_5 hL, gd_T, gd_t, bd_e, bo_e, b2_e, true_and, and_true, C_targetOf hL hC hF h3, ((hC.id r h1).2 g h2).1]
  by_cases h : noW z s
  · rw [if_pos h, if_pos h, C_portTo1]
    rfl
  · have := (hwN_of hF h3 h).1
    rw [if_neg h, if_neg h, C_portTo hL hC h1 (by omega), tS_a]
    rfl
theorem C_isDirect (hL : LY L G n Q) (hC : RC n 0 V Q z) (hF : WF z) (h1 : r < n) (h2 : g < 8) (h3 : s < 16) : d_X5_isDirect (L.1 12 r g) (nI s) (eK L G V (RF n L Q)) = some (bI (dirS z r s)) := by
  unfold d_X5_isDirect dirS
  simp (disch := first | omega | assumption) only [eK_hc, eK_hl, yK12 hL, iK12 hL, rK12_0 hL, rK12_3 hL, rK12_5 hL, rK12_6 hL, rK12_8 hL, rK12_9 hL, rK12_10 hL, yK1 hL, iK1 hL, rK1_0 hL, rK1_1 hL, rK1_2 hL, rK1_3 hL, yK2 hL, iK2 hL, rK2_1 hL, rK2_2 hL, rK2_3 hL, rK2_4 hL, rK2_5 hL, gd_T, gd_t, bd_e, bo_e, b2_e, true_and, and_true, C_targetOf hL hC hF h3, ((hC.id r h1).2 g h2).1]
  by_cases h : noW z s
  · rw [if_pos h, C_isDirectW1, decide_eq_false (fun w => w.1 h)]
    rfl
  · have := (hwN_of hF h3 h).1
    rw [if_neg h, C_isDirectW hL hC h1 (by omega), tS_a, bo_e, gd_t (bI_and1 _)]
    by_cases a : Wp z (tS z r s) ≠ -1 ∧ Wr z (tS z r s) = -1
    · rw [decide_eq_true a, decide_eq_true ⟨h, a.1, a.2⟩]
    · rw [decide_eq_false a, decide_eq_false (fun w => a w.2)]
theorem C_isStraight (hL : LY L G n Q) (hC : RC n st V Q z) (h1 : r < n) (h2 : g < 8) (h3 : s < 16) : d_X5_isStraight (L.1 12 r g) (nI s) (eK L G V (RF n L Q)) = some (bI (strt z r g s)) := by
  unfold d_X5_isStraight strt
  simp (disch := first | omega | assumption) only [eK_hc, eK_hl, yK12 hL, iK12 hL, rK12_0 hL, rK12_3 hL, rK12_5 hL, rK12_6 hL, rK12_8 hL, rK12_9 hL, rK12_10 hL, yK17 hL, iK17 hL, lK17 hL, lm4, lm8, lm10, lm16, lm17, lm26, lm40, lm400, nI_add, nI_1, ix_nI, nI_clamp, gd_T, gd_t, bd_e, bo_e, b2_e, true_and, and_true, hC.sb r g s h1 h2 h3]
  exact dec_01
theorem C_portToMeeting (hL : LY L G n Q) (hC : RC n 0 V Q z) (hF : WF z) (h1 : r < n) (h2 : g < 8) : d_X5_portToMeeting (L.1 12 r g) (eK L G V (RF n L Q)) = some (pM z r g) := by
  have hn := hC.nn.2.2.2
  have hr := hC.nr
  obtain ⟨m1, m2⟩ := mtN_of hF h2
  unfold d_X5_portToMeeting pM
  simp (disch := first | omega | assumption) only [eK_hc, eK_hl, yK12 hL, iK12 hL, rK12_0 hL, rK12_3 hL, rK12_5 hL, rK12_6 hL, rK12_8 hL, rK12_9 hL, rK12_10 hL, yK1 hL, iK1 hL, rK1_0 hL, rK1_1 hL, rK1_2 hL, rK1_3 hL, yK2 hL, iK2 hL, rK2_1 hL, rK2_2 hL, rK2_3 hL, rK2_4 hL, rK2_5 hL, yK3_5 hL, iK3_5 hL, lK3_5 hL, lm4, lm8, lm10, lm16, lm17, lm26, lm40, lm400, nI_add, nI_1, ix_nI, nI_clamp, gd_T, gd_t, bd_e, bo_e, b2_e, true_and, and_true, ((hC.id r h1).2 g h2).1, ((hC.id r h1).2 g h2).2, hC.mt g h2]
  rw [m2, C_portTo hL hC h1 (by omega)]
  rfl
theorem C_isMeeting (hL : LY L G n Q) (hC : RC n st V Q z) (h1 : r < n) (h2 : g < 8) : d_X5_isMeeting (L.1 12 r g) (eK L G V (RF n L Q)) = some (bI (decide (nI r = z.2 12 g))) := by
  unfold d_X5_isMeeting
  simp (disch := first | omega | assumption) only [eK_hc, eK_hl, yK12 hL, iK12 hL, rK12_0 hL, rK12_3 hL, rK12_5 hL, rK12_6 hL, rK12_8 hL, rK12_9 hL, rK12_10 hL, yK1 hL, iK1 hL, rK1_0 hL, rK1_1 hL, rK1_2 hL, rK1_3 hL, yK3_5 hL, iK3_5 hL, lK3_5 hL, lm4, lm8, lm10, lm16, lm17, lm26, lm40, lm400, nI_add, nI_1, ix_nI, nI_clamp, gd_T, gd_t, bd_e, bo_e, b2_e, true_and, and_true, ((hC.id r h1).2 g h2).1, ((hC.id r h1).2 g h2).2, hC.mt g h2]
  by_cases h : z.2 12 g = nI r
  · rw [if_pos h, decide_eq_true h.symm]
    rfl
  · rw [if_neg h, decide_eq_false (fun w => h w.symm)]
    rfl
theorem C_ownClaim (hL : LY L G n Q) (hC : RC n 0 V Q z) (hF : WF z) (h1 : r < n) (h2 : g < 8) (h3 : s < 16) : d_X5_ownClaim (L.1 12 r g) (nI s) (eK L G V (RF n L Q)) = some (ownC z r g s) := by
  have hn := hC.nn.2.2.2
  have hr := hC.nr
  unfold d_X5_ownClaim ownC d_X5_ownClaim_63
  simp (disch := first | omega | assumption) only [eK_hc, eK_hl, yK12 hL, iK12 hL, rK12_0 hL, rK12_3 hL, rK12_5 hL, rK12_6 hL, rK12_8 hL, rK12_9 hL, rK12_10 hL, yK1 hL, iK1 hL, rK1_0 hL, rK1_1 hL, rK1_2 hL, rK1_3 hL, yK2 hL, iK2 hL, rK2_1 hL, rK2_2 hL, rK2_3 hL, rK2_4 hL, rK2_5 hL, yK3_5 hL, iK3_5 hL, lK3_5 hL, lm4, lm8, lm10, lm16, lm17, lm26, lm40, lm400, nI_add, nI_1, ix_nI, nI_clamp, gd_T, gd_t, bd_e, bo_e, b2_e, true_and, and_true, ((hC.id r h1).2 g h2).1, ((hC.id r h1).2 g h2).2, hC.mt g h2, C_isStraight hL hC h1 h2 h3, C_targetOf hL hC hF h3, ite_bI]
  cases strt z r g s with
  | true =>
    rw [cond_true, cond_true]
    unfold farS
    by_cases h : noW z s
    · rw [if_pos h, if_pos h, C_distanceTo1, bo_e]
      refine congrArg some ?_
      rw [Int32.zero_add, Int32.mul_comm]
    · have := (hwN_of hF h3 h).1
      rw [if_neg h, if_neg h, C_distanceTo hL hC h1 (by omega), tS_a, bo_e, Int32.zero_add, Int32.mul_comm]
  | false =>
    obtain ⟨m1, m2⟩ := mtN_of hF h2
    rw [cond_false, cond_false, m2, C_distanceTo hL hC h1 (by omega), bo_e]
    unfold farM
    refine congrArg some ?_
    rw [Int32.mul_comm, Int32.mul_add]
    rfl
end
