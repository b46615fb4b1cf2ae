/-! THE CLASS: claims, what is overheard, tunnels and stops -/
section
variable {L : Ly} {G : Hp} {n : Nat} {st : Int32} {V : Vt} {Q : Qt} {z : Sg} {r p q g s x y m v0 i : Nat} {a : Nat → Int32}
theorem C_takeClaimP {nu : Int32} (hL : LY L G n Q) (hC : RC n st V Q z) (hF : WF z) (h1 : r < n) (h2 : g < 8) (hp : p < 4) (hu : qpw Q (4 * r + p) ≠ -1) (h3 : s < 16) (hkn : bt (V 12 r g 4) s = true) (hnu : nu ≠ -1) : ∃ V', d_X3_takeClaim (L.1 18 r p) (nI g) (nI s) nu (eK L G V (RF n L Q)) = some (eK L G V' (RF n L Q)) ∧ RC n st V' Q (cond (clK z (4 * r + p) g s nu) (uA (uA z 31 (16 * (8 * (4 * r + p) + g) + s) nu) 32 (16 * (8 * (4 * r + p) + g) + s) (z.1 0 + 60)) z) ∧ V' 12 = V 12 := by
  have put : ∃ V', d_X3_takeClaim_35 (L.1 18 r p) (nI g) (nI s) nu (eK L G V (RF n L Q)) = some (eK L G V' (RF n L Q)) ∧ RC n st V' Q (uA (uA z 31 (16 * (8 * (4 * r + p) + g) + s) nu) 32 (16 * (8 * (4 * r + p) + g) + s) (z.1 0 + 60)) ∧ V' 12 = V 12 := by
    unfold d_X3_takeClaim_35
    simp (disch := first | omega | assumption) only [eK_hc, eK_hl, yK18 hL, iK18 hL, rK18_0 hL, rK18_2 hL, rK18_7 hL, rK18_8 hL, rK18_9 hL, rK18_10 hL, rK18_11 hL, rK18_12 hL, yK23 hL, iK23 hL, lK23 hL, yK24 hL, iK24 hL, lK24 hL, yK1 hL, iK1 hL, rK1_0 hL, rK1_1 hL, rK1_2 hL, rK1_3 hL, wK23 hL, wK24 hL, rm16, uR_ne, lm4, lm8, lm10, lm16, lm17, lm26, lm40, lm400, nI_add, nI_1, ix_nI, nI_clamp, gd_T, gd_t, bd_e, bo_e, b2_e, true_and, and_true, hC.tm]
    exact ⟨_, rfl, RC_cl hC hp hu h2 h3 hnu hkn, (uR_ne (by decide)).trans (uR_ne (by decide))⟩
  unfold d_X3_takeClaim clK
  simp (disch := first | omega | assumption) only [eK_hc, eK_hl, yK18 hL, iK18 hL, rK18_0 hL, rK18_2 hL, rK18_7 hL, rK18_8 hL, rK18_9 hL, rK18_10 hL, rK18_11 hL, rK18_12 hL, gd_T, gd_t, bd_e, bo_e, b2_e, true_and, and_true, C_keptClaim hL hC hF h1 hp hu h2 h3, C_isBetter, ite_bI]
  by_cases a1 : clm z (4 * r + p) g s = -1
  · rw [if_pos a1, decide_eq_true a1, Bool.true_or, Bool.true_or, cond_true]
    exact put
  · rw [if_neg a1, decide_eq_false a1, Bool.false_or]
    cases better nu (clm z (4 * r + p) g s) with
    | true =>
      rw [cond_true, Bool.true_or, cond_true]
      exact put
    | false =>
      rw [cond_false, Bool.false_or]
      by_cases a2 : clm z (4 * r + p) g s - clm z (4 * r + p) g s / 100 * 100 = nu - nu / 100 * 100
      · rw [if_pos a2, decide_eq_true a2, cond_true]
        exact put
      · rw [if_neg a2, decide_eq_false a2, cond_false]
        exact ⟨V, rfl, hC, rfl⟩
theorem bt_alB (hp : p < 4) : bt (alB z r g s) p = alP z r p g s := by
  unfold alB
  rw [b_bN 4 (by decide) p (by omega), decide_eq_true hp, Bool.true_and]
theorem bt_shB (hp : p < 4) : bt (shB z r g s) p = shP z r p g s := by
  unfold shB
  rw [b_bN 4 (by decide) p (by omega), decide_eq_true hp, Bool.true_and]
theorem C_takeClaim (hL : LY L G n Q) (hC : RC n 0 V Q z) (hO : MO z) (hfr : FR Q z v0 i a) (h1 : r < n) (h2 : g < 8) (hp : p < 4) (hu : qpw Q (4 * r + p) ≠ -1) (h3 : s < 16) (e4 : a 4 = nI s) (hnu : ∃ c q, c < 100000 ∧ q < n ∧ a 5 = nI (100 * c + q)) : ∃ V', d_X5_takeClaim (L.1 12 r g) (L.1 8 v0 (qpi Q v0 (1 - qcu Q v0) i)) (nI p) (eK L G V (RF n L Q)) = some (eK L G V' (RF n L Q)) ∧ RC n 0 V' Q (clZ z r p g s (a 5)) := by
  have hn := hC.nn.2.2.2
  have hv0 := hfr.1
  have hm0 := hfr.2.1
  have hf0 := fr_80 hC hfr
  have hn5 : a 5 ≠ -1 := by
    obtain ⟨c, q, hc, hq, e⟩ := hnu
    rw [e]
    exact nI_m1 (by omega)
  have hO' : MO (cond (clK z (4 * r + p) g s (a 5)) (uA (uA z 31 (16 * (8 * (4 * r + p) + g) + s) (a 5)) 32 (16 * (8 * (4 * r + p) + g) + s) (z.1 0 + 60)) z) := MO_c (MO_uA (MO_31 hO (by rw [hC.nr]; exact hnu)) (by decide)) hO
  have hC1 : RC n 0 (uR V 12 r g (va_up (V 12 r g) 4 (V 12 r g 4 ||| (1 <<< (nI s &&& 31))))) Q z := RC_kn hC kn_or
  have hkx : bt (uR V 12 r g (va_up (V 12 r g) 4 (V 12 r g 4 ||| (1 <<< (nI s &&& 31)))) 12 r g 4) s = true := by
    rw [uR_s, vu_s, b_or, b_bit (by omega) (by omega)]
    simp
  obtain ⟨V1, e1, hR1, h12⟩ := C_takeClaimP (nu := a 5) hL hC1 hO.1 h1 h2 hp hu h3 hkx hn5
  have hfr1 : FR Q (cond (clK z (4 * r + p) g s (a 5)) (uA (uA z 31 (16 * (8 * (4 * r + p) + g) + s) (a 5)) 32 (16 * (8 * (4 * r + p) + g) + s) (z.1 0 + 60)) z) v0 i a := by
    refine FR_te hfr ?_
    cases clK z (4 * r + p) g s (a 5)
    · exact te_rf
    · exact te_tr (te_uA (by decide)) (te_uA (by decide))
  obtain ⟨f, hlk, e2⟩ := C_look hL hR1 hO'.1 h1 h2 h3
  have hR2 := RC_scr hR1 hlk.1
  have h13 := (congrFun (uR_s (V := V1) (c := 12) (i := r) (j := g) (f := f)) 13).trans hlk.2.2.2.1
  have h14 := (congrFun (uR_s (V := V1) (c := 12) (i := r) (j := g) (f := f)) 14).trans hlk.2.2.2.2.1
  unfold d_X5_takeClaim clZ cl2
  simp (disch := first | omega | assumption) only [eK_hc, eK_hl, yK8 hL, iK8 hL, yK12 hL, iK12 hL, rK12_0 hL, rK12_3 hL, rK12_5 hL, rK12_6 hL, rK12_8 hL, rK12_9 hL, rK12_10 hL, yK10 hL, iK10 hL, lK10 hL, rK10 hL, yK18 hL, iK18 hL, rK18_0 hL, rK18_2 hL, rK18_7 hL, rK18_8 hL, rK18_9 hL, rK18_10 hL, rK18_11 hL, rK18_12 hL, wK12 hL, uR_s, uR_ne, vu_n, lm4, lm8, lm10, lm16, lm17, lm26, lm40, lm400, nI_add, nI_1, ix_nI, nI_clamp, gd_T, gd_t, bd_e, bo_e, b2_e, true_and, and_true, fr_k hC hfr (show 4 < 8 by decide), fr_k hC hfr (show 5 < 8 by decide), e4, ((hC.id r h1).2 g h2).2, if_pos hu, e1, e2]
  simp (disch := first | omega | assumption) only [C_isBranch hL hR2 h1 h2 h3 (show p < 32 by omega) h13 h14, eK_hc, eK_hl, yK8 hL, iK8 hL, yK12 hL, iK12 hL, rK12_0 hL, rK12_3 hL, rK12_5 hL, rK12_6 hL, rK12_8 hL, rK12_9 hL, rK12_10 hL, uR_s, uR_ne, gd_T, gd_t, bd_e, bo_e, b2_e, true_and, and_true, hlk.2.1, fr_k hR1 hfr1 (show 5 < 8 by decide), C_isBetter, bt_alB hp, bt_shB hp, ite_bI]
  cases hb : cond (strt (cond (clK z (4 * r + p) g s (a 5)) (uA (uA z 31 (16 * (8 * (4 * r + p) + g) + s) (a 5)) 32 (16 * (8 * (4 * r + p) + g) + s) (z.1 0 + 60)) z) r g s) (alP (cond (clK z (4 * r + p) g s (a 5)) (uA (uA z 31 (16 * (8 * (4 * r + p) + g) + s) (a 5)) 32 (16 * (8 * (4 * r + p) + g) + s) (z.1 0 + 60)) z) r p g s) (shP (cond (clK z (4 * r + p) g s (a 5)) (uA (uA z 31 (16 * (8 * (4 * r + p) + g) + s) (a 5)) 32 (16 * (8 * (4 * r + p) + g) + s) (z.1 0 + 60)) z) r p g s) with
  | false => exact ⟨_, rfl, hR2⟩
  | true =>
    rw [cond_true, Bool.true_and]
    cases better (ownC (cond (clK z (4 * r + p) g s (a 5)) (uA (uA z 31 (16 * (8 * (4 * r + p) + g) + s) (a 5)) 32 (16 * (8 * (4 * r + p) + g) + s) (z.1 0 + 60)) z) r g s) (a 5) with
    | false => exact ⟨_, rfl, hR2⟩
    | true =>
      obtain ⟨V3, e3, hR3⟩ := C_sendClaim (s := s) hL hR2 hO' h1 h2 hp hu (by rw [uR_s]; exact hlk.2.1)
      rw [cond_true, e3, bo_e, cond_true]
      exact ⟨V3, rfl, hR3⟩
/-! joins that are sent -/
theorem C_sendJoin {bits : Int32} {zz : Sg} (hL : LY L G n Q) (hC : RC n st V Q z) (hO : MO z) (h1 : r < n) (h2 : g < 8) (h3 : x < 17) (hp : p < 4) (hq : q < n) (e33 : z.2 33 (17 * (8 * r + g) + yx x) = nI p) (e34 : z.2 34 (17 * (8 * r + g) + yx x) = nI q) (hzz : zz = if x = 16 then uA z 36 (8 * r + g) bits else z) (hb0 : x ≠ 16 → bits = 0) : ∃ V', d_X5_sendJoin (L.1 12 r g) (nI x) bits (eK L G V (RF n L Q)) = some (eK L G V' (RF n L Q)) ∧ RC n st V' Q (sjZ zz r g (yx x)) := by
  have hn := hC.nn.2.2.2
  have hj1 : ¬ nI p = -1 := nI_m1 (by omega)
  have hC1 : RC n st (uR V 14 r g (va_up (V 14 r g) x (z.1 0))) Q (uA z 35 (17 * (8 * r + g) + yx x) (z.1 0)) := RC_ja hC h2 h3
  have z1 : zz.1 = z.1 := by rw [hzz]; split <;> rfl
  have zk : ∀ k, k ≠ 36 → zz.2 k = z.2 k := by
    intro k hk
    rw [hzz]
    split
    · exact uA_ne hk
    · rfl
  have hOz : MO zz := by
    rw [hzz]
    split
    · exact MO_uA hO (by decide)
    · exact hO
  have hO1 : MO (uA zz 35 (17 * (8 * r + g) + yx x) (z.1 0)) := MO_uA hOz (by decide)
  have ebits : bits = if yx x = 0 then zz.2 36 (8 * r + g) else 0 := by
    by_cases hx : x = 16
    · subst hx
      rw [yx_16, if_pos rfl, hzz, if_pos rfl, uA_get, if_pos rfl]
    · rw [yx_s (by omega), if_neg (by omega)]
      exact hb0 hx
  have main : ∀ V1, RC n st V1 Q (uA zz 35 (17 * (8 * r + g) + yx x) (z.1 0)) → ∃ V', d_X5_sendJoin_24 (L.1 12 r g) (nI x) bits (eK L G V1 (RF n L Q)) = some (eK L G V' (RF n L Q)) ∧ RC n st V' Q (sjZ zz r g (yx x)) := by
    intro V1 hC2
    have hsj : uA (pu zz (zz.2 8 (4 * r + p)) 5 (nI r) (nI q) (nI g) (if x = 16 then -1 else nI x) 0 bits 0).2 35 (17 * (8 * r + g) + yx x) (z.1 0) = sjZ zz r g (yx x) := by
      unfold sjZ
      rw [zk 33 (by decide), zk 34 (by decide), e33, e34, nI_clamp (by omega), ← ebits, z1]
      by_cases hx : x = 16
      · subst hx
        rfl
      · rw [if_neg hx, yx_s (by omega), if_neg (by omega), Nat.add_sub_cancel]
    unfold d_X5_sendJoin_24
    simp (disch := first | omega | assumption) only [eK_hc, eK_hl, yK12 hL, iK12 hL, rK12_0 hL, rK12_3 hL, rK12_5 hL, rK12_6 hL, rK12_8 hL, rK12_9 hL, rK12_10 hL, gd_T, gd_t, bd_e, bo_e, b2_e, true_and, and_true]
    rcases C_openUp (kd := 5) hL hC2 hO1 h1 h2 h3 hp hq (by rw [uA_ne (by decide), zk 33 (by decide)]; exact e33) (by rw [uA_ne (by decide), zk 34 (by decide)]; exact e34) with ⟨V2, v, f, hv, hm, hf, e, hk, hs, hfr, hT, hb⟩ | ⟨V2, e, hs, hb⟩
    · rw [e, b2_e, if_neg (zK8 hL hv hf hm)]
      simp (disch := first | omega | assumption) only [eK_hc, eK_hl, yK8 hL, iK8 hL, wK8 hL, gd_T, gd_t, bd_e, bo_e, b2_e, true_and, and_true]
      refine ⟨_, rfl, RCe (hb _ ?_ ?_ ?_ ?_ ?_) ?_⟩
      · simp (disch := first | omega | assumption) only [vu_s, vu_n, hk 0 (by decide), hk 1 (by decide), hk 2 (by decide), hk 3 (by decide), hk 4 (by decide), hk 5 (by decide), hk 6 (by decide), hk 7 (by decide), f8]
      · simp (disch := first | omega | assumption) only [vu_s, vu_n, hk 0 (by decide), hk 1 (by decide), hk 2 (by decide), hk 3 (by decide), hk 4 (by decide), hk 5 (by decide), hk 6 (by decide), hk 7 (by decide), f8]
      · simp (disch := first | omega | assumption) only [vu_s, vu_n, hk 0 (by decide), hk 1 (by decide), hk 2 (by decide), hk 3 (by decide), hk 4 (by decide), hk 5 (by decide), hk 6 (by decide), hk 7 (by decide), f8]
      · simp (disch := first | omega | assumption) only [vu_s, vu_n, hk 0 (by decide), hk 1 (by decide), hk 2 (by decide), hk 3 (by decide), hk 4 (by decide), hk 5 (by decide), hk 6 (by decide), hk 7 (by decide), f8]
      · simp (disch := first | omega | assumption) only [vu_s, vu_n, hk 0 (by decide), hk 1 (by decide), hk 2 (by decide), hk 3 (by decide), hk 4 (by decide), hk 5 (by decide), hk 6 (by decide), hk 7 (by decide), f8]
      · rw [cz_o (by decide) (by decide)]
        simp (disch := first | omega | assumption) only [vu_s, vu_n, hk 0 (by decide), hk 1 (by decide), hk 2 (by decide), hk 3 (by decide), hk 4 (by decide), hk 5 (by decide), hk 6 (by decide), hk 7 (by decide), f8]
        rw [pu_uA (by decide), uA_ne (by decide)]
        exact hsj
    · rw [e, b2_e, if_pos rfl]
      refine ⟨_, rfl, RCe (hb 0 bits 0).1 ?_⟩
      dsimp only
      rw [pu_uA (by decide), uA_ne (by decide)]
      exact hsj
  unfold d_X5_sendJoin
  simp (disch := first | omega | assumption) only [eK_hc, eK_hl, yK12 hL, iK12 hL, rK12_0 hL, rK12_3 hL, rK12_5 hL, rK12_6 hL, rK12_8 hL, rK12_9 hL, rK12_10 hL, yK14 hL, iK14 hL, lK14 hL, yK1 hL, iK1 hL, rK1_0 hL, rK1_1 hL, rK1_2 hL, rK1_3 hL, wK14 hL, lm4, lm8, lm10, lm16, lm17, lm26, lm40, lm400, nI_add, nI_1, ix_nI, nI_clamp, gd_T, gd_t, bd_e, bo_e, b2_e, true_and, and_true, hC.tm]
  by_cases hx : x = 16
  · subst hx
    rw [if_pos (show nI 16 = 16 from rfl)]
    simp (disch := first | omega | assumption) only [eK_hc, eK_hl, yK12 hL, iK12 hL, rK12_0 hL, rK12_3 hL, rK12_5 hL, rK12_6 hL, rK12_8 hL, rK12_9 hL, rK12_10 hL, wK12 hL, uR_ne, gd_T, gd_t, bd_e, bo_e, b2_e, true_and, and_true]
    refine main _ ?_
    rw [if_pos rfl] at hzz
    refine RC_tc hC1 (fun h r' g' a1 a2 => ?_) (by rw [hzz]; rfl) (fun k hk => ?_)
    · rw [uR_at, hzz]
      by_cases e : r' = r ∧ g' = g
      · obtain ⟨rfl, rfl⟩ := e
        rw [if_pos ⟨rfl, rfl⟩, vu_s]
        have : z.2 33 (17 * (8 * r' + g')) = nI p := e33
        show bits = if z.2 33 (17 * (8 * r' + g')) = -1 then 0 else (uA z 36 (8 * r' + g') bits).2 36 (8 * r' + g')
        rw [this, if_neg hj1, uA_get, if_pos rfl]
      · rw [if_neg e]
        show uR V 14 r g (va_up (V 14 r g) 16 (z.1 0)) 12 r' g' 7 = if z.2 33 (17 * (8 * r' + g')) = -1 then 0 else (uA z 36 (8 * r + g) bits).2 36 (8 * r' + g')
        rw [uA_get, if_neg (show ¬ 8 * r' + g' = 8 * r + g by omega)]
        exact h.tc r' g' a1 a2
    · rw [hzz, uA_comm (by decide), uA_ne hk]
  · rw [if_neg (nI_n16 (by omega) hx)]
    rw [if_neg hx] at hzz
    rw [hzz] at main
    rw [hzz]
    exact main _ hC1
theorem jb_eq {p' q' : Nat} {to : Int32} (hF : jbk z) (h1 : r < nR z) (hn : nR z ≤ 10) (h2 : g < 8) (hy : y < 17) (hp : p < 4) (hto : ∃ t, t < nR z ∧ to = nI t) : jbV (z.2 33 (17 * (8 * r + g) + y)) (z.2 34 (17 * (8 * r + g) + y)) = nI p * 16 + to ↔ (z.2 33 (17 * (8 * r + g) + y) = nI p ∧ z.2 34 (17 * (8 * r + g) + y) = to) := by
  obtain ⟨t, ht, et⟩ := hto
  rw [et, rm16, nI_add]
  rcases hF (17 * (8 * r + g) + y) (by omega) with ⟨a1, a2⟩ | ⟨p1, q1, hp1, hq1, a1, a2⟩
  · rw [a1]
    unfold jbV
    rw [if_pos rfl]
    constructor
    · intro w
      exact absurd w.symm (nI_m1 (by omega))
    · intro w
      exact absurd w.1.symm (nI_m1 (by omega))
  · rw [a1, a2, jb_n.resolve_right (nI_m1 (by omega)), nI_eq (by omega) (by omega), nI_eq (by omega) (by omega), nI_eq (by omega) (by omega)]
    omega
end
section
variable {L : Ly} {G : Hp} {n : Nat} {st : Int32} {V : Vt} {Q : Qt} {z : Sg} {r p q g s x y m v0 i : Nat} {a : Nat → Int32}
/-! what is overheard -/
theorem C_overhear_17 (hL : LY L G n Q) (hC : RC n st V Q z) (hO : MO z) (hfr : FR Q z v0 i a) (h1 : r < n) (h2 : g < 8) (hp : p < 4) (h3 : x < 17) (hto : ∃ t, t < n ∧ a 2 = nI t) (hk5 : a 0 = 6 ∨ a 0 = 5) (ha6 : x = 16 ∨ a 6 = 0 ∨ a 0 = 6) : ∃ V', d_X5_overhear_17 (L.1 12 r g) (L.1 8 v0 (qpi Q v0 (1 - qcu Q v0) i)) (nI p) (nI x) (eK L G V (RF n L Q)) = some (eK L G V' (RF n L Q)) ∧ RC n st V' Q (ohZ z r p (a 0) (a 2) g (yx x) (a 6)) := by
  have hn := hC.nn.2.2.2
  have hr := hC.nr
  have hv0 := hfr.1
  have hm0 := hfr.2.1
  have hf0 := fr_80 hC hfr
  have hy := yx_lt h3
  obtain ⟨t, ht, et⟩ := hto
  unfold d_X5_overhear_17
  simp (disch := first | omega | assumption) only [eK_hc, eK_hl, yK8 hL, iK8 hL, yK12 hL, iK12 hL, rK12_0 hL, rK12_3 hL, rK12_5 hL, rK12_6 hL, rK12_8 hL, rK12_9 hL, rK12_10 hL, yK13 hL, iK13 hL, lK13 hL, lm4, lm8, lm10, lm16, lm17, lm26, lm40, lm400, nI_add, nI_1, ix_nI, nI_clamp, gd_T, gd_t, bd_e, bo_e, b2_e, true_and, and_true, hC.jb r g x h1 h2 h3, fr_k hC hfr (show 2 < 8 by decide)]
  have hj := jb_eq (r := r) (p' := 0) (q' := 0) (to := a 2) hO.2.2 (by omega) (by omega) h2 hy hp ⟨t, by omega, et⟩
  by_cases hjj : z.2 33 (17 * (8 * r + g) + yx x) = nI p ∧ z.2 34 (17 * (8 * r + g) + yx x) = a 2
  · rw [if_pos (hj.mpr hjj)]
    have main : ∀ told : Int32, told = (if x = 16 then z.2 36 (8 * r + g) else 0) → ∃ V', d_X5_overhear_51 (L.1 12 r g) (L.1 8 v0 (qpi Q v0 (1 - qcu Q v0) i)) (nI x) told (eK L G V (RF n L Q)) = some (eK L G V' (RF n L Q)) ∧ RC n st V' Q (ohZ z r p (a 0) (a 2) g (yx x) (a 6)) := by
      intro told htold
      obtain ⟨V1, e1, hR1⟩ := C_sendJoin (bits := told) (zz := z) hL hC hO h1 h2 h3 hp ht hjj.1 (hjj.2.trans et) (by
        by_cases hx : x = 16
        · rw [if_pos hx, htold, if_pos hx, uA_self]
        · rw [if_neg hx]) (fun hx => by rw [htold, if_neg hx])
      unfold d_X5_overhear_51 d_X5_overhear_74 ohZ
      rw [if_pos hjj]
      simp (disch := first | omega | assumption) only [eK_hc, eK_hl, yK8 hL, iK8 hL, yK12 hL, iK12 hL, rK12_0 hL, rK12_3 hL, rK12_5 hL, rK12_6 hL, rK12_8 hL, rK12_9 hL, rK12_10 hL, yK14 hL, iK14 hL, lK14 hL, yK1 hL, iK1 hL, rK1_0 hL, rK1_1 hL, rK1_2 hL, rK1_3 hL, wK14 hL, lm4, lm8, lm10, lm16, lm17, lm26, lm40, lm400, nI_add, nI_1, ix_nI, nI_clamp, gd_T, gd_t, bd_e, bo_e, b2_e, true_and, and_true, fr_k hC hfr (show 0 < 8 by decide), fr_k hC hfr (show 6 < 8 by decide), e1, hC.tm]
      by_cases h6 : a 0 = 6
      · rw [if_pos h6, if_pos h6]
        exact ⟨V1, rfl, hR1⟩
      · rw [if_neg h6, if_neg h6]
        have et2 : ∀ c : Int32, c = told → (a 6 &&& (c ^^^ -1) = 0 ↔ a 6 &&& ((if yx x = 0 then z.2 36 (8 * r + g) else a 6) ^^^ -1) = 0) ∧ (a 6 = c ↔ a 6 = if yx x = 0 then z.2 36 (8 * r + g) else a 6) := by
          intro c hc
          rw [hc, htold]
          by_cases hx : x = 16
          · subst hx
            rw [if_pos rfl, yx_16, if_pos rfl]
            exact ⟨Iff.rfl, Iff.rfl⟩
          · rw [if_neg hx, yx_s (by omega), if_neg (by omega)]
            have h0 : a 6 = 0 := (ha6.resolve_left hx).resolve_right h6
            rw [h0]
            exact ⟨Iff.rfl, Iff.rfl⟩
        obtain ⟨i1, i2⟩ := et2 told rfl
        by_cases b1 : a 6 &&& (told ^^^ -1) = 0
        · rw [if_pos b1, if_pos (i1.mp b1)]
          by_cases b2 : a 6 = told
          · rw [if_pos b2, if_pos (i2.mp b2)]
            exact ⟨_, rfl, RC_ja hC h2 h3⟩
          · rw [if_neg b2, if_neg (fun w => b2 (i2.mpr w))]
            exact ⟨V, rfl, hC⟩
        · rw [if_neg b1, if_neg (fun w => b1 (i1.mpr w))]
          exact ⟨V1, rfl, hR1⟩
    by_cases hx : x = 16
    · subst hx
      rw [if_pos (show nI 16 = 16 from rfl)]
      have e33 : z.2 33 (17 * (8 * r + g)) = nI p := hjj.1
      refine main _ ?_
      rw [hC.tc r g h1 h2, e33, if_neg (nI_m1 (by omega)), if_pos rfl]
    · rw [if_neg (nI_n16 (by omega) hx)]
      exact main 0 (by rw [if_neg hx])
  · rw [if_neg (fun w => hjj (hj.mp w))]
    refine ⟨V, rfl, RCe hC ?_⟩
    unfold ohZ
    rw [if_neg hjj]
theorem C_overhear (hL : LY L G n Q) (hC : RC n st V Q z) (hO : MO z) (hfr : FR Q z v0 i a) (h1 : r < n) (h2 : g < 8) (hp : p < 4) (hy : y < 17) (ey : a 4 + 1 = nI y) (hto : ∃ t, t < n ∧ a 2 = nI t) (hk5 : a 0 = 6 ∨ a 0 = 5) (ha6 : a 4 = -1 ∨ a 6 = 0 ∨ a 0 = 6) : ∃ V', d_X5_overhear (L.1 12 r g) (L.1 8 v0 (qpi Q v0 (1 - qcu Q v0) i)) (nI p) (eK L G V (RF n L Q)) = some (eK L G V' (RF n L Q)) ∧ RC n st V' Q (ohZ z r p (a 0) (a 2) g y (a 6)) := by
  have hv0 := hfr.1
  have hm0 := hfr.2.1
  have hf0 := fr_80 hC hfr
  unfold d_X5_overhear
  simp (disch := first | omega | assumption) only [eK_hc, eK_hl, yK8 hL, iK8 hL, gd_T, gd_t, bd_e, bo_e, b2_e, true_and, and_true, fr_k hC hfr (show 4 < 8 by decide)]
  by_cases h4 : a 4 = -1
  · have y0 : y = 0 := by
      rw [h4] at ey
      exact ((nI_eq (a := 0) (b := y) (by decide) (by omega)).mp ey).symm
    rw [if_pos h4, y0]
    exact C_overhear_17 (x := 16) hL hC hO hfr h1 h2 hp (by decide) hto hk5 (Or.inl rfl)
  · rw [if_neg h4]
    obtain ⟨s, hs, es, ys⟩ : ∃ s, s < 16 ∧ a 4 = nI s ∧ y = s + 1 := by
      cases y with
      | zero =>
        exfalso
        apply h4
        have : a 4 + 1 - 1 = nI 0 - 1 := by rw [ey]
        rw [Int32.add_sub_cancel] at this
        rw [this]
        rfl
      | succ s =>
        refine ⟨s, by omega, ?_, rfl⟩
        have : a 4 + 1 - 1 = nI (s + 1) - 1 := by rw [ey]
        rw [Int32.add_sub_cancel, nI_pred] at this
        exact this
    rw [es, ys]
    have := C_overhear_17 (x := s) hL hC hO hfr h1 h2 hp (by omega) hto hk5 (Or.inr (ha6.resolve_left h4))
    rw [yx_s hs] at this
    exact this
/-! tunnels and stops -/
theorem RC_tu (hC : RC n st V Q z) : RC n st (uR V 1 0 0 (va_up (V 1 0 0) 5 (V 1 0 0 5 + 1))) Q (uS z 6 (z.1 6 + 1)) := by
  have e5 : uR V 1 0 0 (va_up (V 1 0 0) 5 (V 1 0 0 5 + 1)) 1 0 0 5 = z.1 6 + 1 := by rw [uR_s, vu_s, hC.tu]
  exact ⟨hC.tm, hC.nu, (e5), hC.nn, hC.ns, hC.qw, hC.qh, hC.wa, hC.mt, hC.hz, hC.wi, hC.su, hC.po, hC.fr, hC.fc, hC.pi, hC.md, hC.me, hC.fn, hC.id, hC.jb, hC.ja, hC.tc, hC.kp, hC.sp, hC.sb, hC.pt, hC.he, hC.qu, hC.nt, (cNb_c hC.nb rfl rfl rfl), hC.mb, hC.jt, hC.cf, hC.cl, hC.ho, hC.go, hC.k33, hC.k39, hC.k37, hC.k29, hC.k28, hC.k31, hC.k30, hC.un, hC.on, hC.u2, hC.g0, hC.jp, (cWs_t hC.ws ⟨rfl, rfl, rfl, rfl⟩)⟩
theorem C_startTunnel {nu li : Int32} (hL : LY L G n Q) (hC : RC n 0 V Q z) (hO : MO z) (h1 : r < n) (h2 : g < 8) (h3 : s < 16) : ∃ V', d_X5_startTunnel (L.1 12 r g) (nI s) nu li (eK L G V (RF n L Q)) = some (eK L G V' (RF n L Q)) ∧ RC n 0 V' Q (tuZ z r g (nI s) nu li) := by
  have hn := hC.nn.2.2.2
  have hr := hC.nr
  obtain ⟨m1, m2⟩ := mtN_of hO.1 h2
  unfold d_X5_startTunnel
  simp (disch := first | omega | assumption) only [eK_hc, eK_hl, yK12 hL, iK12 hL, rK12_0 hL, rK12_3 hL, rK12_5 hL, rK12_6 hL, rK12_8 hL, rK12_9 hL, rK12_10 hL, yK1 hL, iK1 hL, rK1_0 hL, rK1_1 hL, rK1_2 hL, rK1_3 hL, yK3_5 hL, iK3_5 hL, lK3_5 hL, lm4, lm8, lm10, lm16, lm17, lm26, lm40, lm400, nI_add, nI_1, ix_nI, nI_clamp, gd_T, gd_t, bd_e, bo_e, b2_e, true_and, and_true, ((hC.id r h1).2 g h2).2, hC.mt g h2]
  rw [m2]
  rcases C_openTo (s := s) (kd := 9) hL hC hO h1 h2 (show mtN z g < 26 by omega) with ⟨V1, v, f, hv, hm, hf, e, hk, hs, hfr, hT, hb⟩ | ⟨V1, e, hs, hb⟩
  · rw [e, b2_e, if_neg (zK8 hL hv hf hm)]
    simp (disch := first | omega | assumption) only [eK_hc, eK_hl, yK8 hL, iK8 hL, yK12 hL, iK12 hL, rK12_0 hL, rK12_3 hL, rK12_5 hL, rK12_6 hL, rK12_8 hL, rK12_9 hL, rK12_10 hL, yK1 hL, iK1 hL, rK1_0 hL, rK1_1 hL, rK1_2 hL, rK1_3 hL, wK8 hL, wK1 hL, hs 12 (by decide) (by decide), uR_s, uR_uR, uR_ne, gd_T, gd_t, bd_e, bo_e, b2_e, true_and, and_true, ((hC.id r h1).2 g h2).1]
    refine ⟨_, rfl, RCe (RC_tu (hb _ ?_ ?_ ?_ ?_ ?_)) ?_⟩
    · simp (disch := first | omega | assumption) only [vu_s, vu_n, hk 0 (by decide), hk 1 (by decide), hk 2 (by decide), hk 3 (by decide), hk 4 (by decide), hk 5 (by decide), hk 6 (by decide), hk 7 (by decide), f8]
    · simp (disch := first | omega | assumption) only [vu_s, vu_n, hk 0 (by decide), hk 1 (by decide), hk 2 (by decide), hk 3 (by decide), hk 4 (by decide), hk 5 (by decide), hk 6 (by decide), hk 7 (by decide), f8]
    · simp (disch := first | omega | assumption) only [vu_s, vu_n, hk 0 (by decide), hk 1 (by decide), hk 2 (by decide), hk 3 (by decide), hk 4 (by decide), hk 5 (by decide), hk 6 (by decide), hk 7 (by decide), f8]
    · simp (disch := first | omega | assumption) only [vu_s, vu_n, hk 0 (by decide), hk 1 (by decide), hk 2 (by decide), hk 3 (by decide), hk 4 (by decide), hk 5 (by decide), hk 6 (by decide), hk 7 (by decide), f8]
    · simp (disch := first | omega | assumption) only [vu_s, vu_n, hk 0 (by decide), hk 1 (by decide), hk 2 (by decide), hk 3 (by decide), hk 4 (by decide), hk 5 (by decide), hk 6 (by decide), hk 7 (by decide), f8]
    · rw [cz_o (by decide) (by decide)]
      simp (disch := first | omega | assumption) only [vu_s, vu_n, hk 0 (by decide), hk 1 (by decide), hk 2 (by decide), hk 3 (by decide), hk 4 (by decide), hk 5 (by decide), hk 6 (by decide), hk 7 (by decide), f8]
      unfold tuZ
      have := hT nu (nI r + 16 * li) 16
      dsimp only at this
      rw [this]
      rfl
  · rw [e, b2_e, if_pos rfl]
    have := hb nu (nI r + 16 * li) 16
    dsimp only at this
    refine ⟨_, rfl, RCe this.1 ?_⟩
    unfold tuZ
    rw [this.2]
    rfl
theorem C_sendStop {to : Nat} (hL : LY L G n Q) (hC : RC n 0 V Q z) (hO : MO z) (h1 : r < n) (h2 : g < 8) (h3 : s < 16) (ht : to < n) : ∃ V', d_X5_sendStop (L.1 12 r g) (nI s) (nI to) (eK L G V (RF n L Q)) = some (eK L G V' (RF n L Q)) ∧ RC n 0 V' Q (soZ z r to (nI g) (nI s) 16) ∧ V' 12 = V 12 := by
  have hn := hC.nn.2.2.2
  unfold d_X5_sendStop
  simp (disch := first | omega | assumption) only [eK_hc, eK_hl, yK12 hL, iK12 hL, rK12_0 hL, rK12_3 hL, rK12_5 hL, rK12_6 hL, rK12_8 hL, rK12_9 hL, rK12_10 hL, gd_T, gd_t, bd_e, bo_e, b2_e, true_and, and_true]
  rcases C_openTo (s := s) (kd := 10) hL hC hO h1 h2 (show to < 26 by omega) with ⟨V1, v, f, hv, hm, hf, e, hk, hs, hfr, hT, hb⟩ | ⟨V1, e, hs, hb⟩
  · rw [e, b2_e, if_neg (zK8 hL hv hf hm)]
    simp (disch := first | omega | assumption) only [eK_hc, eK_hl, yK8 hL, iK8 hL, wK8 hL, uR_s, uR_uR, gd_T, gd_t, bd_e, bo_e, b2_e, true_and, and_true]
    refine ⟨_, rfl, RCe (hb _ ?_ ?_ ?_ ?_ ?_) ?_, (uR_ne (by decide)).trans (hs 12 (by decide) (by decide))⟩
    · simp (disch := first | omega | assumption) only [vu_s, vu_n, hk 0 (by decide), hk 1 (by decide), hk 2 (by decide), hk 3 (by decide), hk 4 (by decide), hk 5 (by decide), hk 6 (by decide), hk 7 (by decide), f8]
    · simp (disch := first | omega | assumption) only [vu_s, vu_n, hk 0 (by decide), hk 1 (by decide), hk 2 (by decide), hk 3 (by decide), hk 4 (by decide), hk 5 (by decide), hk 6 (by decide), hk 7 (by decide), f8]
    · simp (disch := first | omega | assumption) only [vu_s, vu_n, hk 0 (by decide), hk 1 (by decide), hk 2 (by decide), hk 3 (by decide), hk 4 (by decide), hk 5 (by decide), hk 6 (by decide), hk 7 (by decide), f8]
    · simp (disch := first | omega | assumption) only [vu_s, vu_n, hk 0 (by decide), hk 1 (by decide), hk 2 (by decide), hk 3 (by decide), hk 4 (by decide), hk 5 (by decide), hk 6 (by decide), hk 7 (by decide), f8]
    · simp (disch := first | omega | assumption) only [vu_s, vu_n, hk 0 (by decide), hk 1 (by decide), hk 2 (by decide), hk 3 (by decide), hk 4 (by decide), hk 5 (by decide), hk 6 (by decide), hk 7 (by decide), f8]
    · rw [cz_o (by decide) (by decide)]
      simp (disch := first | omega | assumption) only [vu_s, vu_n, hk 0 (by decide), hk 1 (by decide), hk 2 (by decide), hk 3 (by decide), hk 4 (by decide), hk 5 (by decide), hk 6 (by decide), hk 7 (by decide), f8]
      rfl
  · rw [e, b2_e, if_pos rfl]
    exact ⟨_, rfl, (hb 0 (nI to) 16).1, hs 12 (by decide)⟩
theorem C_passOn (hL : LY L G n Q) (hC : RC n 0 V Q z) (hO : MO z) (hfr : FR Q z v0 i a) (h1 : r < n) (h2 : g < 8) (h3 : s < 16) (e4 : a 4 = nI s) (k8 : a 0 ≠ 8) (k7 : a 0 ≠ 7) (hm26 : m < 26) : ∃ V', d_X5_passOn (L.1 12 r g) (L.1 8 v0 (qpi Q v0 (1 - qcu Q v0) i)) (nI m) (eK L G V (RF n L Q)) = some (eK L G V' (RF n L Q)) ∧ RC n 0 V' Q (if a 7 ≤ 1 then z else (sbZ z r (26 * r + m) (a 0) (nI g) (nI s) (a 5) (a 6) (a 7 - 1)).2) := by
  have hv0 := hfr.1
  have hm0 := hfr.2.1
  have hf0 := fr_80 hC hfr
  unfold d_X5_passOn
  simp (disch := first | omega | assumption) only [eK_hc, eK_hl, yK8 hL, iK8 hL, yK12 hL, iK12 hL, rK12_0 hL, rK12_3 hL, rK12_5 hL, rK12_6 hL, rK12_8 hL, rK12_9 hL, rK12_10 hL, gd_T, gd_t, bd_e, bo_e, b2_e, true_and, and_true, fr_k hC hfr (show 0 < 8 by decide), fr_k hC hfr (show 4 < 8 by decide), fr_k hC hfr (show 7 < 8 by decide), e4]
  by_cases h7 : a 7 ≤ 1
  · rw [if_neg (Int32.not_lt.mpr h7), if_pos h7]
    exact ⟨V, rfl, hC⟩
  · rw [if_pos (Int32.not_le.mp h7), if_neg h7]
    rcases C_openTo (s := s) (kd := a 0) hL hC hO h1 h2 hm26 with ⟨V1, v, f, hv, hm, hf, e, hk, hs, hfr1, hT, hb⟩ | ⟨V1, e, hs, hb⟩
    · obtain ⟨w1, w2⟩ := hfr1 v0 i hv0 hm0 hfr.2.2.1
      have ur : ∀ (X : Vt) (B : Nat → Int32), uR X 8 v f B 8 v0 (qpi Q v0 (1 - qcu Q v0) i) = X 8 v0 (qpi Q v0 (1 - qcu Q v0) i) := fun X B => by rw [uR_at, if_neg w1]
      rw [e, b2_e, if_neg (zK8 hL hv hf hm)]
      simp (disch := first | omega | assumption) only [eK_hc, eK_hl, yK8 hL, iK8 hL, wK8 hL, ur, w2, uR_s, uR_uR, gd_T, gd_t, bd_e, bo_e, b2_e, true_and, and_true, fr_k hC hfr (show 5 < 8 by decide), fr_k hC hfr (show 6 < 8 by decide), fr_k hC hfr (show 7 < 8 by decide)]
      refine ⟨_, rfl, RCe (hb _ ?_ ?_ ?_ ?_ ?_) ?_⟩
      · simp (disch := first | omega | assumption) only [vu_s, vu_n, hk 0 (by decide), hk 1 (by decide), hk 2 (by decide), hk 3 (by decide), hk 4 (by decide), hk 5 (by decide), hk 6 (by decide), hk 7 (by decide), f8]
      · simp (disch := first | omega | assumption) only [vu_s, vu_n, hk 0 (by decide), hk 1 (by decide), hk 2 (by decide), hk 3 (by decide), hk 4 (by decide), hk 5 (by decide), hk 6 (by decide), hk 7 (by decide), f8]
      · simp (disch := first | omega | assumption) only [vu_s, vu_n, hk 0 (by decide), hk 1 (by decide), hk 2 (by decide), hk 3 (by decide), hk 4 (by decide), hk 5 (by decide), hk 6 (by decide), hk 7 (by decide), f8]
      · simp (disch := first | omega | assumption) only [vu_s, vu_n, hk 0 (by decide), hk 1 (by decide), hk 2 (by decide), hk 3 (by decide), hk 4 (by decide), hk 5 (by decide), hk 6 (by decide), hk 7 (by decide), f8]
      · simp (disch := first | omega | assumption) only [vu_s, vu_n, hk 0 (by decide), hk 1 (by decide), hk 2 (by decide), hk 3 (by decide), hk 4 (by decide), hk 5 (by decide), hk 6 (by decide), hk 7 (by decide), f8]
      · rw [cz_o k8 k7]
        simp (disch := first | omega | assumption) only [vu_s, vu_n, hk 0 (by decide), hk 1 (by decide), hk 2 (by decide), hk 3 (by decide), hk 4 (by decide), hk 5 (by decide), hk 6 (by decide), hk 7 (by decide), f8]
    · rw [e, b2_e, if_pos rfl]
      exact ⟨_, rfl, (hb (a 5) (a 6) (a 7 - 1)).1⟩
theorem C_takeStop {to : Nat} (hL : LY L G n Q) (hC : RC n 0 V Q z) (hO : MO z) (hfr : FR Q z v0 i a) (h1 : r < n) (h2 : g < 8) (h3 : s < 16) (e4 : a 4 = nI s) (k0 : a 0 = 10) (e5 : a 5 = 0) (ht : to < n) (e6 : a 6 = nI to) : ∃ V', d_X5_takeStop (L.1 12 r g) (L.1 8 v0 (qpi Q v0 (1 - qcu Q v0) i)) (eK L G V (RF n L Q)) = some (eK L G V' (RF n L Q)) ∧ RC n 0 V' Q (stZ z r g s to (a 7)) := by
  have hn := hC.nn.2.2.2
  have hv0 := hfr.1
  have hm0 := hfr.2.1
  have hf0 := fr_80 hC hfr
  unfold d_X5_takeStop stZ
  simp (disch := first | omega | assumption) only [eK_hc, eK_hl, yK8 hL, iK8 hL, yK12 hL, iK12 hL, rK12_0 hL, rK12_3 hL, rK12_5 hL, rK12_6 hL, rK12_8 hL, rK12_9 hL, rK12_10 hL, yK16 hL, iK16 hL, lK16 hL, yK1 hL, iK1 hL, rK1_0 hL, rK1_1 hL, rK1_2 hL, rK1_3 hL, wK16 hL, lm4, lm8, lm10, lm16, lm17, lm26, lm40, lm400, nI_add, nI_1, ix_nI, nI_clamp, gd_T, gd_t, bd_e, bo_e, b2_e, true_and, and_true, fr_k hC hfr (show 4 < 8 by decide), fr_k hC hfr (show 6 < 8 by decide), e4, e6, ((hC.id r h1).2 g h2).1, hC.tm]
  by_cases h : r = to
  · subst h
    rw [if_pos rfl, if_pos rfl]
    exact ⟨_, rfl, RC_sp hC h2 h3⟩
  · rw [if_neg (fun w => h ((nI_eq (by omega) (by omega)).mp w).symm), if_neg h]
    obtain ⟨V1, e, hR⟩ := C_passOn (m := to) hL hC hO hfr h1 h2 h3 e4 (by rw [k0]; decide) (by rw [k0]; decide) (by omega)
    rw [e, bo_e]
    refine ⟨V1, rfl, RCe hR ?_⟩
    rw [k0, e5, e6]
    rfl
end
