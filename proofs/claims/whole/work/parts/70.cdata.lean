/-! THE CLASS: tunnels and data that come -/
def SH (z' z : Sg) : Prop := TE z' z ∧ z'.2 25 = z.2 25 ∧ z'.2 28 = z.2 28 ∧ z'.2 29 = z.2 29 ∧ z'.2 30 = z.2 30 ∧ z'.2 31 = z.2 31 ∧ z'.2 32 = z.2 32 ∧ z'.2 39 = z.2 39
section
variable {z z' : Sg} {r p g s : Nat}
theorem sh_ownC (h : SH z' z) : ownC z' r g s = ownC z r g s := by
  simp only [ownC, strt, farS, farM, noW, tS, tM, hwN, mtN, h.1.2.2.1, h.1.2.2.2.1, h.2.2.2.2.2.2.2, te_Wd h.1]
theorem sh_strt (h : SH z' z) : strt z' r g s = strt z r g s := by
  simp only [strt, h.2.2.2.2.2.2.2]
theorem sh_jn {j y : Nat} (h : SH z' z) : jn z' j g y = jn z j g y := by
  unfold jn
  rw [h.1.2.1, h.2.2.2.1]
theorem sh_cutO {j : Nat} (h : SH z' z) : cutO z' j g s = cutO z j g s := by
  unfold cutO cutT
  rw [sh_jn h, h.1.2.1, h.2.2.2.2.1]
theorem sh_own (h : SH z' z) : own z' r p g = own z r p g := by
  unfold own mem fst
  rw [h.1.2.1, h.2.2.1, nbits_c h.1.2.1 h.1.1.1 h.2.1]
theorem sh_clm {j : Nat} (h : SH z' z) : clm z' j g s = clm z j g s := by
  unfold clm nb
  rw [h.1.2.1, h.2.1, h.2.2.2.2.2.1, h.2.2.2.2.2.2.1]
theorem sh_lost (h : SH z' z) : lostP z' r p g s = lostP z r p g s := by
  unfold lostP
  rw [sh_clm h, sh_ownC h]
theorem sh_shP (h : SH z' z) : shP z' r p g s = shP z r p g s := by
  unfold shP
  rw [sh_jn h, sh_cutO h, sh_own h, sh_lost h]
theorem sh_shB (h : SH z' z) : shB z' r g s = shB z r g s := by
  unfold shB
  simp only [sh_shP h]
theorem sh_pu {v a0 a1 a2 a3 a4 a5 a6 a7 : Int32} : SH (pu z v a0 a1 a2 a3 a4 a5 a6 a7).2 z := ⟨te_pu, pu_row (by decide), pu_row (by decide), pu_row (by decide), pu_row (by decide), pu_row (by decide), pu_row (by decide), pu_row (by decide)⟩
theorem sh_rf : SH z z := ⟨te_rf, rfl, rfl, rfl, rfl, rfl, rfl, rfl⟩
theorem sh_kp : SH (kpZ z r g s) z := ⟨te_kp, rfl, rfl, rfl, rfl, rfl, rfl, rfl⟩
theorem sh_so {to : Nat} {gg ss li : Int32} : SH (soZ z r to gg ss li) z := by
  unfold soZ sbZ
  split
  · exact sh_rf
  · exact sh_pu
theorem te_pS (h : TE z' z) : pS z' r s = pS z r s := by
  simp only [pS, noW, tS, hwN, h.2.2.1, te_Wp h]
theorem te_pM (h : TE z' z) : pM z' r g = pM z r g := by
  simp only [pM, tM, mtN, h.2.2.2.1, te_Wp h]
theorem te_dirS (h : TE z' z) : dirS z' r s = dirS z r s := by
  simp only [dirS, noW, tS, hwN, h.2.2.1, te_Wp h, te_Wr h]
end
section
variable {L : Ly} {G : Hp} {n : Nat} {st : Int32} {V : Vt} {Q : Qt} {z : Sg} {r p q g s x y m v0 i : Nat} {a : Nat → Int32}
theorem C_takeTunnel_74 (hL : LY L G n Q) (hC : RC n 0 V Q z) (hO : MO z) (hfr : FR Q z v0 i a) (h1 : r < n) (h2 : g < 8) (h3 : s < 16) (hkn : bt (V 12 r g 4) s = true) (h13 : V 12 r g 13 = shB z r g s) : ∃ V', d_X5_takeTunnel_74 (L.1 12 r g) (L.1 8 v0 (qpi Q v0 (1 - qcu Q v0) i)) (nI s) (eK L G V (RF n L Q)) = some (eK L G V' (RF n L Q)) ∧ RC n 0 V' Q (tn2 z r g s (a 5) (a 6)) := by
  have hv0 := hfr.1
  have hm0 := hfr.2.1
  have hf0 := fr_80 hC hfr
  have hC1 : RC n 0 (uR V 15 r g (va_up (V 15 r g) s (z.1 0 + 70))) Q (kpZ z r g s) := RC_kp hC h2 h3 hkn
  have hO1 : MO (kpZ z r g s) := MO_kp hO
  have hfr1 := FR_te hfr (te_kp (r := r) (g := g) (s := s))
  unfold d_X5_takeTunnel_74 tn2
  simp (disch := first | omega | assumption) only [eK_hc, eK_hl, yK12 hL, iK12 hL, rK12_0 hL, rK12_3 hL, rK12_5 hL, rK12_6 hL, rK12_8 hL, rK12_9 hL, rK12_10 hL, yK15 hL, iK15 hL, lK15 hL, yK1 hL, iK1 hL, rK1_0 hL, rK1_1 hL, rK1_2 hL, rK1_3 hL, wK15 hL, lm4, lm8, lm10, lm16, lm17, lm26, lm40, lm400, nI_add, nI_1, ix_nI, nI_clamp, gd_T, gd_t, bd_e, bo_e, b2_e, true_and, and_true, hC.tm]
  simp (disch := first | omega | assumption) only [eK_hc, eK_hl, yK8 hL, iK8 hL, yK12 hL, iK12 hL, rK12_0 hL, rK12_3 hL, rK12_5 hL, rK12_6 hL, rK12_8 hL, rK12_9 hL, rK12_10 hL, C_isStraight hL hC1 h1 h2 h3, uR_ne, gd_T, gd_t, bd_e, bo_e, b2_e, true_and, and_true, h13, fr_k hC hfr (show 5 < 8 by decide), fr_k hC hfr (show 6 < 8 by decide), ite_bI]
  cases strt (kpZ z r g s) r g s with
  | true => exact ⟨_, rfl, hC1⟩
  | false =>
    obtain ⟨V1, e1, hR1⟩ := C_sendData (s := s) (out := shB z r g s) (out' := shB z r g s) (but := -1) (nu := a 5) (li := a 6 / 16 - 1) hL hC1 hO1 h1 h2 (fun p hp => by rw [decide_eq_true (show nI p ≠ -1 from nI_m1 (by omega)), Bool.and_true])
    rw [cond_false, e1, bo_e, cond_false]
    refine ⟨V1, rfl, RCe hR1 ?_⟩
    rw [sh_shB sh_kp]
theorem C_takeTunnel {b1 b2 : Nat} (hL : LY L G n Q) (hC : RC n 0 V Q z) (hO : MO z) (hfr : FR Q z v0 i a) (h1 : r < n) (h2 : g < 8) (h3 : s < 16) (e4 : a 4 = nI s) (k0 : a 0 = 9) (hb1 : b1 ≤ 16) (hb2 : b2 < n) (e6 : a 6 = nI (16 * b1 + b2)) : ∃ V', d_X5_takeTunnel (L.1 12 r g) (L.1 8 v0 (qpi Q v0 (1 - qcu Q v0) i)) (eK L G V (RF n L Q)) = some (eK L G V' (RF n L Q)) ∧ RC n 0 V' Q (tnZ z r g s (a 5) (a 6) (a 7)) := by
  have hn := hC.nn.2.2.2
  have hr := hC.nr
  have hv0 := hfr.1
  have hm0 := hfr.2.1
  have hf0 := fr_80 hC hfr
  unfold d_X5_takeTunnel tnZ
  rw [eK_hc, gd_t (yK12 hL h1 h2), C_isMeeting hL hC h1 h2, bo_e, ite_bI]
  by_cases hmt : nI r = z.2 12 g
  · rw [decide_eq_true hmt, cond_true, if_pos hmt]
    have hC1 : RC n 0 (uR V 12 r g (va_up (V 12 r g) 4 (V 12 r g 4 ||| (1 <<< (nI s &&& 31))))) Q z := RC_kn hC kn_or
    have hkx : bt (uR V 12 r g (va_up (V 12 r g) 4 (V 12 r g 4 ||| (1 <<< (nI s &&& 31)))) 12 r g 4) s = true := by
      rw [uR_s, vu_s, b_or, b_bit (by omega) (by omega)]
      simp
    obtain ⟨f, hlk, e1⟩ := C_look hL hC1 hO.1 h1 h2 h3
    have hC2 := RC_scr hC1 hlk.1
    have h14 := (congrFun (uR_s (V := uR V 12 r g (va_up (V 12 r g) 4 (V 12 r g 4 ||| (1 <<< (nI s &&& 31))))) (c := 12) (i := r) (j := g) (f := f)) 14).trans hlk.2.2.2.2.1
    have h13 := (congrFun (uR_s (V := uR V 12 r g (va_up (V 12 r g) 4 (V 12 r g 4 ||| (1 <<< (nI s &&& 31))))) (c := 12) (i := r) (j := g) (f := f)) 13).trans hlk.2.2.2.1
    have hk4 : bt (uR (uR V 12 r g (va_up (V 12 r g) 4 (V 12 r g 4 ||| (1 <<< (nI s &&& 31))))) 12 r g f 12 r g 4) s = true := by
      rw [uR_s, hlk.1 4 (by decide)]
      exact hkx
    have em : a 6 - a 6 / 16 * 16 = nI b2 := by
      rw [e6, show (16 : Int32) = nI 16 from rfl, pk_rem (by omega) (by decide) (by decide)]
      exact congrArg nI (by omega)
    have stop : ∃ V', d_X5_takeTunnel_62 (L.1 12 r g) (L.1 8 v0 (qpi Q v0 (1 - qcu Q v0) i)) (nI s) (eK L G (uR (uR V 12 r g (va_up (V 12 r g) 4 (V 12 r g 4 ||| (1 <<< (nI s &&& 31))))) 12 r g f) (RF n L Q)) = some (eK L G V' (RF n L Q)) ∧ RC n 0 V' Q (tn2 (soZ z r (a 6 - a 6 / 16 * 16).toNatClampNeg (nI g) (nI s) 16) r g s (a 5) (a 6)) := by
      obtain ⟨V3, e3, hR3, g12⟩ := C_sendStop (to := b2) hL hC2 hO h1 h2 h3 hb2
      unfold d_X5_takeTunnel_62
      rw [eK_hc, gd_t (yK8 hL hv0 hf0 hm0), gd_t (yK12 hL h1 h2), iK8 hL hv0 hf0 hm0, fr_k hC2 hfr (show 6 < 8 by decide), em, e3, bo_e, nI_clamp (by omega)]
      exact C_takeTunnel_74 hL hR3 (MO_so hO) (FR_te hfr te_so) h1 h2 h3 (by rw [g12]; exact hk4) (by rw [g12, sh_shB sh_so]; exact h13)
    rw [gd_t (yK8 hL hv0 hf0 hm0), iK8 hL hv0 hf0 hm0, fr_k hC hfr (show 4 < 8 by decide), e4, wK12 hL h1 h2, iK12 hL h1 h2, bd_e, eK_hc, gd_t (yK12 hL h1 h2), e1, bo_e, eK_hc, gd_t (yK12 hL h1 h2), C_isStraight hL hC2 h1 h2 h3, bo_e, ite_bI, iK12 hL h1 h2, h14]
    cases strt z r g s with
    | true =>
      rw [cond_true, Bool.true_or, cond_true]
      exact stop
    | false =>
      rw [cond_false, Bool.false_or]
      by_cases ha : alB z r g s = 0
      · rw [if_pos ha, decide_eq_true ha, cond_true]
        exact stop
      · rw [if_neg ha, decide_eq_false ha, cond_false]
        exact C_takeTunnel_74 hL hC2 hO hfr h1 h2 h3 hk4 h13
  · rw [decide_eq_false hmt, cond_false, if_neg hmt]
    obtain ⟨m1, m2⟩ := mtN_of hO.1 h2
    simp (disch := first | omega | assumption) only [eK_hc, eK_hl, yK12 hL, iK12 hL, rK12_0 hL, rK12_3 hL, rK12_5 hL, rK12_6 hL, rK12_8 hL, rK12_9 hL, rK12_10 hL, yK1 hL, iK1 hL, rK1_0 hL, rK1_1 hL, rK1_2 hL, rK1_3 hL, yK3_5 hL, iK3_5 hL, lK3_5 hL, lm4, lm8, lm10, lm16, lm17, lm26, lm40, lm400, nI_add, nI_1, ix_nI, nI_clamp, gd_T, gd_t, bd_e, bo_e, b2_e, true_and, and_true, ((hC.id r h1).2 g h2).2, hC.mt g h2]
    obtain ⟨V1, e, hR⟩ := C_passOn (m := mtN z g) hL hC hO hfr h1 h2 h3 e4 (by rw [k0]; decide) (by rw [k0]; decide) (by omega)
    rw [m2, e, bo_e]
    refine ⟨V1, rfl, RCe hR ?_⟩
    rw [k0]
end
