/-! THE CLASS: claims, what is overheard, tunnels and stops -/
section
variable {L : Ly} {G : Hp} {n : Nat} {st : Int32} {V : Vt} {Q : Qt} {z : Sg} {r p q g s x y m v0 i : Nat} {a : Nat → Int32}
theorem C_takeClaimP {nu : Int32} (hL : LY L G n Q) (hC : RC n st V Q z) (hF : WF z) (h1 : r < n) (h2 : g < 8) (hp : p < 4) (hu : qpw Q (4 * r + p) ≠ -1) (h3 : s < 16) (hkn : bt (V 12 r g 4) s = true) (hnu : nu ≠ -1) : ∃ V', d_X3_takeClaim (L.1 18 r p) (nI g) (nI s) nu (eK L G V (RF n L Q)) = some (eK L G V' (RF n L Q)) ∧ RC n st V' Q (cond (clK z (4 * r + p) g s nu) (uA (uA z 31 (16 * (8 * (4 * r + p) + g) + s) nu) 32 (16 * (8 * (4 * r + p) + g) + s) (z.1 0 + 60)) z) ∧ V' 12 = V 12 := by
  have put : ∃ V', d_X3_takeClaim_35 (L.1 18 r p) (nI g) (nI s) nu (eK L G V (RF n L Q)) = some (eK L G V' (RF n L Q)) ∧ RC n st V' Q (uA (uA z 31 (16 * (8 * (4 * r + p) + g) + s) nu) 32 (16 * (8 * (4 * r + p) + g) + s) (z.1 0 + 60)) ∧ V' 12 = V 12 := by
    unfold d_X3_takeClaim_35
    simp (disch := first | omega | assumption) only [eK_hc, eK_hl, yK18 hL, iK18 hL, rK18_0 hL, rK18_2 hL, rK18_7 hL, rK18_8 hL, rK18_9 hL, rK18_10 hL, rK18_11 hL, rK18_12 hL, yK23 hL, iK23 hL, lK23 hL, yK24 hL, iK24 hL, lK24 hL, yK1 hL, iK1 hL, rK1_0 hL, rK1_1 hL, rK1_2 hL, rK1_3 hL, wK23 hL, wK24 hL, rm16, uR_ne, lm4, lm8, lm10, lm16, lm17, lm26, lm40, lm400, nI_add, nI_1, ix_nI, nI_clamp, gd_T, gd_t, bd_e, bo_e, b2_e, true_and, and_true, hC.tm]
    exact ⟨_, rfl, RC_cl hC hp hu h2 h3 hnu hkn, (uR_ne (by decide)).trans (uR_ne (by decide))⟩
  unfold d_X3_takeClaim clK
  simp (disch := first | omega | assumption) only [eK_hc, eK_hl, yK18 hL, iK18 hL, rK18_0 hL, rK18_2 hL, rK18_7 hL, rK18_8 hL, rK18_9 hL, rK18_10 hL, rK18_11 hL, rK18_12 hL, gd_T, gd_t, bd_e, bo_e, b2_e, true_and, and_true, C_keptClaim hL hC hF h1 hp hu h2 h3, C_isBetter, ite_bI]
  by_cases a1 : clm z (4 * r + p) g s = -1
  · rw [if_pos a1, decide_eq_true a1, Bool.true_or, Bool.true_or, cond_true]
    exact put
  · rw [if_neg a1, decide_eq_false a1, Bool.false_or]
    cases better nu (clm z (4 * r + p) g s) with
    | true =>
      rw [cond_true, Bool.true_or, cond_true]
      exact put
    | false =>
      rw [cond_false, Bool.false_or]
      by_cases a2 : clm z (4 * r + p) g s - clm z (4 * r + p) g s / 100 * 100 = nu - nu / 100 * 100
      · rw [if_pos a2, decide_eq_true a2, cond_true]
        exact put
      · rw [if_neg a2, decide_eq_false a2, cond_false]
        exact ⟨V, rfl, hC, rfl⟩
theorem bt_alB (hp : p < 4) : bt (alB z r g s) p = alP z r p g s := by
  unfold alB
  rw [b_bN 4 (by decide) p (by omega), decide_eq_true hp, Bool.true_and]
theorem bt_shB (hp : p < 4) : bt (shB z r g s) p = shP z r p g s := by
  unfold shB
  rw [b_bN 4 (by decide) p (by omega), decide_eq_true hp, Bool.true_and]
theorem C_takeClaim (hL : LY L G n Q) (hC : RC n 0 V Q z) (hI : IV z) (hfr : FR Q z v0 i a) (h1 : r < n) (h2 : g < 8) (hp : p < 4) (hu : qpw Q (4 * r + p) ≠ -1) (h3 : s < 16) (e4 : a 4 = nI s) (hnu : ∃ c q, c < 100000 ∧ q < n ∧ a 5 = nI (100 * c + q)) (hI' : IV (cond (clK z (4 * r + p) g s (a 5)) (uA (uA z 31 (16 * (8 * (4 * r + p) + g) + s) (a 5)) 32 (16 * (8 * (4 * r + p) + g) + s) (z.1 0 + 60)) z)) : ∃ V', d_X5_takeClaim (L.1 12 r g) (L.1 8 v0 (qpi Q v0 (1 - qcu Q v0) i)) (nI p) (eK L G V (RF n L Q)) = some (eK L G V' (RF n L Q)) ∧ RC n 0 V' Q (clZ z r p g s (a 5)) := by
  have hn := hC.nn.2.2.2
  have hv0 := hfr.1
  have hm0 := hfr.2.1
  have hf0 := fr_80 hC hfr
  have hn5 : a 5 ≠ -1 := by
    obtain ⟨c, q, hc, hq, e⟩ := hnu
    rw [e]
    exact nI_m1 (by omega)
  have hC1 : RC n 0 (uR V 12 r g (va_up (V 12 r g) 4 (V 12 r g 4 ||| (1 <<< (nI s &&& 31))))) Q z := RC_kn hC kn_or
  have hkx : bt (uR V 12 r g (va_up (V 12 r g) 4 (V 12 r g 4 ||| (1 <<< (nI s &&& 31)))) 12 r g 4) s = true := by
    rw [uR_s, vu_s, b_or, b_bit (by omega) (by omega)]
    simp
  obtain ⟨V1, e1, hR1, h12⟩ := C_takeClaimP (nu := a 5) hL hC1 hI.1.1 h1 h2 hp hu h3 hkx hn5
  have hfr1 : FR Q (cond (clK z (4 * r + p) g s (a 5)) (uA (uA z 31 (16 * (8 * (4 * r + p) + g) + s) (a 5)) 32 (16 * (8 * (4 * r + p) + g) + s) (z.1 0 + 60)) z) v0 i a := by
    refine FR_te hfr ?_
    cases clK z (4 * r + p) g s (a 5)
    · exact te_rf
    · exact te_tr (te_uA (by decide)) (te_uA (by decide))
  obtain ⟨f, hlk, e2⟩ := C_look hL hR1 hI'.1.1 hI'.2.2 h1 h2 h3
  have hR2 := RC_scr hR1 hlk.1
  unfold d_X5_takeClaim clZ cl2
  simp (disch := first | omega | assumption) only [eK_hc, eK_hl, yK8 hL, iK8 hL, yK12 hL, iK12 hL, rK12_0 hL, rK12_3 hL, rK12_5 hL, rK12_6 hL, rK12_8 hL, rK12_9 hL, rK12_10 hL, yK10 hL, iK10 hL, lK10 hL, rK10 hL, yK18 hL, iK18 hL, rK18_0 hL, rK18_2 hL, rK18_7 hL, rK18_8 hL, rK18_9 hL, rK18_10 hL, rK18_11 hL, rK18_12 hL, wK12 hL, uR_s, uR_ne, vu_n, lm4, lm8, lm10, lm16, lm17, lm26, lm40, lm400, nI_add, nI_1, ix_nI, nI_clamp, gd_T, gd_t, bd_e, bo_e, b2_e, true_and, and_true, fr_k hC hfr (show 4 < 8 by decide), fr_k hC hfr (show 5 < 8 by decide), e4, ((hC.id r h1).2 g h2).2, if_pos hu, e1, e2]
  simp (disch := first | omega | assumption) only [C_isBranch hL hR2 h1 h2 h3 (show p < 32 by omega) (by rw [uR_s]; exact hlk.2.2.2.1) (by rw [uR_s]; exact hlk.2.2.2.2.1), eK_hc, eK_hl, yK8 hL, iK8 hL, yK12 hL, iK12 hL, rK12_0 hL, rK12_3 hL, rK12_5 hL, rK12_6 hL, rK12_8 hL, rK12_9 hL, rK12_10 hL, uR_s, uR_ne, gd_T, gd_t, bd_e, bo_e, b2_e, true_and, and_true, hlk.2.1, fr_k hR1 hfr1 (show 5 < 8 by decide), C_isBetter, bt_alB hp, bt_shB hp, ite_bI]
  cases hb : cond (strt (cond (clK z (4 * r + p) g s (a 5)) (uA (uA z 31 (16 * (8 * (4 * r + p) + g) + s) (a 5)) 32 (16 * (8 * (4 * r + p) + g) + s) (z.1 0 + 60)) z) r g s) (alP (cond (clK z (4 * r + p) g s (a 5)) (uA (uA z 31 (16 * (8 * (4 * r + p) + g) + s) (a 5)) 32 (16 * (8 * (4 * r + p) + g) + s) (z.1 0 + 60)) z) r p g s) (shP (cond (clK z (4 * r + p) g s (a 5)) (uA (uA z 31 (16 * (8 * (4 * r + p) + g) + s) (a 5)) 32 (16 * (8 * (4 * r + p) + g) + s) (z.1 0 + 60)) z) r p g s) with
  | false => exact ⟨_, rfl, hR2⟩
  | true =>
    rw [cond_true, Bool.true_and]
    cases better (ownC (cond (clK z (4 * r + p) g s (a 5)) (uA (uA z 31 (16 * (8 * (4 * r + p) + g) + s) (a 5)) 32 (16 * (8 * (4 * r + p) + g) + s) (z.1 0 + 60)) z) r g s) (a 5) with
    | false => exact ⟨_, rfl, hR2⟩
    | true =>
      obtain ⟨V3, e3, hR3⟩ := C_sendClaim (s := s) hL hR2 hI'.1 h1 h2 hp hu (by rw [uR_s]; exact hlk.2.1)
      rw [cond_true, e3, bo_e, cond_true]
      exact ⟨V3, rfl, hR3⟩
/-! joins that are sent -/
theorem C_sendJoin {bits : Int32} (hL : LY L G n Q) (hC : RC n st V Q z) (hO : MO z) (h1 : r < n) (h2 : g < 8) (h3 : x < 17) (hp : p < 4) (hq : q < n) (e33 : z.2 33 (17 * (8 * r + g) + yx x) = nI p) (e34 : z.2 34 (17 * (8 * r + g) + yx x) = nI q) (hb36 : bits = if x = 16 then z.2 36 (8 * r + g) else 0) : ∃ V', d_X5_sendJoin (L.1 12 r g) (nI x) bits (eK L G V (RF n L Q)) = some (eK L G V' (RF n L Q)) ∧ RC n st V' Q (sjZ z r g (yx x)) := by
  have hn := hC.nn.2.2.2
  have hj1 : ¬ nI p = -1 := nI_m1 (by omega)
  have hC1 : RC n st (uR V 14 r g (va_up (V 14 r g) x (z.1 0))) Q (uA z 35 (17 * (8 * r + g) + yx x) (z.1 0)) := RC_ja hC h2 h3
  have hO1 : MO (uA z 35 (17 * (8 * r + g) + yx x) (z.1 0)) := MO_uA hO (by decide)
  have main : ∀ V1, RC n st V1 Q (uA z 35 (17 * (8 * r + g) + yx x) (z.1 0)) → ∃ V', d_X5_sendJoin_24 (L.1 12 r g) (nI x) bits (eK L G V1 (RF n L Q)) = some (eK L G V' (RF n L Q)) ∧ RC n st V' Q (sjZ z r g (yx x)) := by
    intro V1 hC2
    have hsj : ∀ b : Int32, b = bits → uA (pu z (z.2 8 (4 * r + p)) 5 (nI r) (nI q) (nI g) (if x = 16 then -1 else nI x) 0 b 0).2 35 (17 * (8 * r + g) + yx x) (z.1 0) = sjZ z r g (yx x) := by
      intro b hb
      unfold sjZ
      rw [e33, e34, nI_clamp (by omega), hb, hb36]
      by_cases hx : x = 16
      · subst hx
        rfl
      · rw [if_neg hx, if_neg hx, yx_s (by omega), if_neg (by omega), if_neg (by omega), Nat.add_sub_cancel]
    unfold d_X5_sendJoin_24
    simp (disch := first | omega | assumption) only [eK_hc, eK_hl, yK12 hL, iK12 hL, rK12_0 hL, rK12_3 hL, rK12_5 hL, rK12_6 hL, rK12_8 hL, rK12_9 hL, rK12_10 hL, gd_T, gd_t, bd_e, bo_e, b2_e, true_and, and_true]
    rcases C_openUp (kd := 5) hL hC2 hO1 h1 h2 h3 hp hq e33 e34 with ⟨V2, v, f, hv, hm, hf, e, hk, hs, hfr, hT, hb⟩ | ⟨V2, e, hs, hb⟩
    · rw [e, b2_e, if_neg (zK8 hL hv hf hm)]
      simp (disch := first | omega | assumption) only [eK_hc, eK_hl, yK8 hL, iK8 hL, wK8 hL, gd_T, gd_t, bd_e, bo_e, b2_e, true_and, and_true]
      refine ⟨_, rfl, RCe (hb _ ?_ ?_ ?_ ?_ ?_) ?_⟩
      · simp (disch := first | omega | assumption) only [vu_s, vu_n, hk 0 (by decide), hk 1 (by decide), hk 2 (by decide), hk 3 (by decide), hk 4 (by decide), hk 5 (by decide), hk 6 (by decide), hk 7 (by decide), f8]
      · simp (disch := first | omega | assumption) only [vu_s, vu_n, hk 0 (by decide), hk 1 (by decide), hk 2 (by decide), hk 3 (by decide), hk 4 (by decide), hk 5 (by decide), hk 6 (by decide), hk 7 (by decide), f8]
      · simp (disch := first | omega | assumption) only [vu_s, vu_n, hk 0 (by decide), hk 1 (by decide), hk 2 (by decide), hk 3 (by decide), hk 4 (by decide), hk 5 (by decide), hk 6 (by decide), hk 7 (by decide), f8]
      · simp (disch := first | omega | assumption) only [vu_s, vu_n, hk 0 (by decide), hk 1 (by decide), hk 2 (by decide), hk 3 (by decide), hk 4 (by decide), hk 5 (by decide), hk 6 (by decide), hk 7 (by decide), f8]
      · simp (disch := first | omega | assumption) only [vu_s, vu_n, hk 0 (by decide), hk 1 (by decide), hk 2 (by decide), hk 3 (by decide), hk 4 (by decide), hk 5 (by decide), hk 6 (by decide), hk 7 (by decide), f8]
      · rw [cz_o (by decide) (by decide)]
        simp (disch := first | omega | assumption) only [vu_s, vu_n, hk 0 (by decide), hk 1 (by decide), hk 2 (by decide), hk 3 (by decide), hk 4 (by decide), hk 5 (by decide), hk 6 (by decide), hk 7 (by decide), f8]
        show (pu (uA z 35 (17 * (8 * r + g) + yx x) (z.1 0)) (z.2 8 (4 * r + p)) 5 (nI r) (nI q) (nI g) (if x = 16 then -1 else nI x) 0 bits 0).2 = _
        rw [pu_uA (by decide)]
        exact hsj bits rfl
    · rw [e, b2_e, if_pos rfl]
      refine ⟨_, rfl, RCe (hb 0 bits 0).1 ?_⟩
      show (pu (uA z 35 (17 * (8 * r + g) + yx x) (z.1 0)) (z.2 8 (4 * r + p)) 5 (nI r) (nI q) (nI g) (if x = 16 then -1 else nI x) 0 bits 0).2 = _
      rw [pu_uA (by decide)]
      exact hsj bits rfl
  unfold d_X5_sendJoin
  simp (disch := first | omega | assumption) only [eK_hc, eK_hl, yK12 hL, iK12 hL, rK12_0 hL, rK12_3 hL, rK12_5 hL, rK12_6 hL, rK12_8 hL, rK12_9 hL, rK12_10 hL, yK14 hL, iK14 hL, lK14 hL, yK1 hL, iK1 hL, rK1_0 hL, rK1_1 hL, rK1_2 hL, rK1_3 hL, wK14 hL, lm4, lm8, lm10, lm16, lm17, lm26, lm40, lm400, nI_add, nI_1, ix_nI, nI_clamp, gd_T, gd_t, bd_e, bo_e, b2_e, true_and, and_true, hC.tm]
  by_cases hx : x = 16
  · subst hx
    rw [if_pos (show nI 16 = 16 from rfl)]
    simp (disch := first | omega | assumption) only [eK_hc, eK_hl, yK12 hL, iK12 hL, rK12_0 hL, rK12_3 hL, rK12_5 hL, rK12_6 hL, rK12_8 hL, rK12_9 hL, rK12_10 hL, wK12 hL, uR_ne, gd_T, gd_t, bd_e, bo_e, b2_e, true_and, and_true]
    refine main _ ?_
    refine RC_tc hC1 (fun h r' g' a1 a2 => ?_) rfl (fun _ _ => rfl)
    rw [uR_at]
    by_cases e : r' = r ∧ g' = g
    · obtain ⟨rfl, rfl⟩ := e
      rw [if_pos ⟨rfl, rfl⟩, vu_s]
      have : z.2 33 (17 * (8 * r' + g')) = nI p := e33
      show bits = if z.2 33 (17 * (8 * r' + g')) = -1 then 0 else z.2 36 (8 * r' + g')
      rw [this, if_neg hj1, hb36, if_pos rfl]
    · rw [if_neg e]
      exact h.tc r' g' a1 a2
  · rw [if_neg (nI_n16 (by omega) hx)]
    exact main _ hC1
theorem jb_eq {p' q' : Nat} {to : Int32} (hF : jbk z) (h1 : r < nR z) (hn : nR z ≤ 10) (h2 : g < 8) (hy : y < 17) (hp : p < 4) (hto : ∃ t, t < nR z ∧ to = nI t) : jbV (z.2 33 (17 * (8 * r + g) + y)) (z.2 34 (17 * (8 * r + g) + y)) = nI p * 16 + to ↔ (z.2 33 (17 * (8 * r + g) + y) = nI p ∧ z.2 34 (17 * (8 * r + g) + y) = to) := by
  obtain ⟨t, ht, et⟩ := hto
  rw [et, rm16, nI_add]
  rcases hF (17 * (8 * r + g) + y) (by omega) with ⟨a1, a2⟩ | ⟨p1, q1, hp1, hq1, a1, a2⟩
  · rw [a1]
    unfold jbV
    rw [if_pos rfl]
    constructor
    · intro w
      exact absurd w.symm (nI_m1 (by omega))
    · intro w
      exact absurd w.1.symm (nI_m1 (by omega))
  · rw [a1, a2, jb_n.resolve_right (nI_m1 (by omega)), nI_eq (by omega) (by omega), nI_eq (by omega) (by omega), nI_eq (by omega) (by omega)]
    omega
end
