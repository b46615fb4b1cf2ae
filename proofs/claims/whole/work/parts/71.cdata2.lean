/-! THE CLASS: data that comes -/
section
variable {L : Ly} {G : Hp} {n : Nat} {st : Int32} {V : Vt} {Q : Qt} {z : Sg} {r p q g s x y m v0 i : Nat} {a : Nat → Int32} {fs dr : Bool}
theorem sdZ_o0 {but gg ss nu li : Int32} : ∀ p, p ≤ 4 → sdZ z r 0 but gg ss nu li p = z := by
  intro p
  induction p with
  | zero => intro _; rfl
  | succ p ih =>
    intro hp
    show sd1 (sdZ z r 0 but gg ss nu li p) r 0 but gg ss nu li p = z
    rw [ih (by omega)]
    unfold sd1
    rw [if_pos (Or.inl ((hb_e (by omega)).mpr (b_0 p)))]
theorem out_but {o : Int32} (hp : p < 4) : ∀ k, k < 4 → bt (o &&& ((1 <<< (nI p &&& 31)) ^^^ (-1))) k = (bt o k && decide (nI k ≠ nI p)) := by
  intro k hk
  rw [b_and, b_not (by omega), b_bit (by omega) (by omega)]
  by_cases e : k = p
  · rw [decide_eq_true e, decide_eq_false (fun w => w (by rw [e]))]
    rfl
  · rw [decide_eq_false e, decide_eq_true (show nI k ≠ nI p from fun w => e ((nI_eq (by omega) (by omega)).mp w))]
    rfl
/-- what findOut() finds, and what it leaves -/
def foZ (z : Sg) (r p g s : Nat) (fs : Bool) : Int32 × Sg := cond (fs && strt z r g s) (alB z r g s, z) (cond (!strt z r g s && decide (pM z r g = nI p)) (shB z r g s, cond (hasO z r g) (kpZ z r g s) z) (0, cond (cond (strt z r g s) (alP z r p g s) (shP z r p g s)) (scZ z r p g s) z))
theorem C_findOut (hL : LY L G n Q) (hC : RC n 0 V Q z) (hO : MO z) (h1 : r < n) (h2 : g < 8) (h3 : s < 16) (hp : p < 4) (hu : qpw Q (4 * r + p) ≠ -1) (hkn : bt (V 12 r g 4) s = true) (h11 : V 12 r g 11 = ownC z r g s) (h13 : V 12 r g 13 = shB z r g s) (h14 : V 12 r g 14 = alB z r g s) : ∃ V', d_X5_findOut (L.1 12 r g) (nI s) (nI p) (bI fs) (eK L G V (RF n L Q)) = some ((foZ z r p g s fs).1, eK L G V' (RF n L Q)) ∧ RC n 0 V' Q (foZ z r p g s fs).2 := by
  have e61 : ∃ V', d_X5_findOut_61 (L.1 12 r g) (nI s) (nI p) (eK L G V (RF n L Q)) = some (0, eK L G V' (RF n L Q)) ∧ RC n 0 V' Q (cond (cond (strt z r g s) (alP z r p g s) (shP z r p g s)) (scZ z r p g s) z) := by
    unfold d_X5_findOut_61
    rw [eK_hc, gd_t (yK12 hL h1 h2), C_isBranch hL hC h1 h2 h3 (show p < 32 by omega) h13 h14, bo_e, ite_bI, bt_alB hp, bt_shB hp]
    cases cond (strt z r g s) (alP z r p g s) (shP z r p g s) with
    | false => exact ⟨V, rfl, hC⟩
    | true =>
      obtain ⟨V1, e, hR⟩ := C_sendClaim (s := s) hL hC hO h1 h2 hp hu h11
      rw [cond_true, e, bo_e, cond_true]
      exact ⟨V1, rfl, hR⟩
  have e17 : strt z r g s = false ∨ fs = false → ∃ V', d_X5_findOut_17 (L.1 12 r g) (nI s) (nI p) (eK L G V (RF n L Q)) = some ((cond (!strt z r g s && decide (pM z r g = nI p)) (shB z r g s, cond (hasO z r g) (kpZ z r g s) z) (0, cond (cond (strt z r g s) (alP z r p g s) (shP z r p g s)) (scZ z r p g s) z)).1, eK L G V' (RF n L Q)) ∧ RC n 0 V' Q (cond (!strt z r g s && decide (pM z r g = nI p)) (shB z r g s, cond (hasO z r g) (kpZ z r g s) z) (0, cond (cond (strt z r g s) (alP z r p g s) (shP z r p g s)) (scZ z r p g s) z)).2 := by
    intro _
    unfold d_X5_findOut_17
    rw [eK_hc, gd_t (yK12 hL h1 h2), C_isStraight hL hC h1 h2 h3, bo_e, ite_bI, C_portToMeeting hL hC hO.1 h1 h2, bo_e]
    cases hst : strt z r g s with
    | true =>
      rw [cond_true, Bool.not_true, Bool.false_and, cond_false]
      rw [hst] at e61
      exact e61
    | false =>
      rw [cond_false, Bool.not_false, Bool.true_and]
      rw [hst] at e61
      by_cases hpm : pM z r g = nI p
      · rw [if_pos hpm, decide_eq_true hpm, cond_true, C_hasOwnPort hL hC hO.1 h1 h2, bo_e, ite_bI]
        cases hasO z r g with
        | false =>
          rw [cond_false, iK12 hL h1 h2, h13]
          exact ⟨V, rfl, hC⟩
        | true =>
          rw [cond_true]
          simp (disch := first | omega | assumption) only [eK_hc, eK_hl, yK12 hL, iK12 hL, rK12_0 hL, rK12_3 hL, rK12_5 hL, rK12_6 hL, rK12_8 hL, rK12_9 hL, rK12_10 hL, yK15 hL, iK15 hL, lK15 hL, yK1 hL, iK1 hL, rK1_0 hL, rK1_1 hL, rK1_2 hL, rK1_3 hL, wK15 hL, uR_ne, lm4, lm8, lm10, lm16, lm17, lm26, lm40, lm400, nI_add, nI_1, ix_nI, nI_clamp, gd_T, gd_t, bd_e, bo_e, b2_e, true_and, and_true, hC.tm, h13]
          exact ⟨_, rfl, RC_kp hC h2 h3 hkn⟩
      · rw [if_neg hpm, decide_eq_false hpm, cond_false]
        exact e61
  unfold d_X5_findOut foZ
  rw [ite_bI]
  cases fs with
  | false =>
    rw [cond_false, Bool.false_and, cond_false]
    exact e17 (Or.inr rfl)
  | true =>
    rw [cond_true, Bool.true_and, eK_hc, gd_t (yK12 hL h1 h2), C_isStraight hL hC h1 h2 h3, bo_e, ite_bI]
    cases hst : strt z r g s with
    | true =>
      rw [cond_true, cond_true, iK12 hL h1 h2, h14]
      exact ⟨V, rfl, hC⟩
    | false =>
      rw [cond_false, cond_false]
      have := e17 (Or.inl hst)
      rw [hst] at this
      exact this
theorem te_fo : TE (foZ z r p g s fs).2 z := by
  unfold foZ
  cases fs && strt z r g s with
  | true => exact te_rf
  | false =>
    cases !strt z r g s && decide (pM z r g = nI p) with
    | true => exact te_c te_kp te_rf
    | false => exact te_c te_sc te_rf
theorem MO_fo (h : MO z) : MO (foZ z r p g s fs).2 := by
  unfold foZ
  cases fs && strt z r g s with
  | true => exact h
  | false =>
    cases !strt z r g s && decide (pM z r g = nI p) with
    | true => exact MO_c (MO_kp h) h
    | false => exact MO_c (MO_sc h) h
theorem fo_dt3 {nu life : Int32} : sdZ (foZ z r p g s fs).2 r (foZ z r p g s fs).1 (nI p) (nI g) (nI s) nu (life - 1) 4 = dt3 z r p g s nu life fs := by
  unfold foZ dt3
  cases fs && strt z r g s with
  | true => rfl
  | false =>
    cases !strt z r g s && decide (pM z r g = nI p) with
    | true => rfl
    | false => exact sdZ_o0 4 (by decide)
theorem C_data_134 (hL : LY L G n Q) (hC : RC n 0 V Q z) (hO : MO z) (hfr : FR Q z v0 i a) (h1 : r < n) (h2 : g < 8) (h3 : s < 16) (hp : p < 4) (hu : qpw Q (4 * r + p) ≠ -1) (hkn : bt (V 12 r g 4) s = true) (hdr : dr = true → dirS z r s = true ∧ pS z r s = nI p) : ∃ V', d_X5_takeData_134 (L.1 12 r g) (L.1 8 v0 (qpi Q v0 (1 - qcu Q v0) i)) (nI p) (nI s) (bI fs) (bI dr) (eK L G V (RF n L Q)) = some (eK L G V' (RF n L Q)) ∧ RC n 0 V' Q (dt4 (dt3 z r p g s (a 5) (a 7) fs) r p g s (a 5) (a 7) dr) := by
  have hv0 := hfr.1
  have hm0 := hfr.2.1
  have hf0 := fr_80 hC hfr
  obtain ⟨f, hlk, e1⟩ := C_look hL hC hO.1 h1 h2 h3
  have hC1 := RC_scr hC hlk.1
  have h11 := (congrFun (uR_s (V := V) (c := 12) (i := r) (j := g) (f := f)) 11).trans hlk.2.1
  have h13 := (congrFun (uR_s (V := V) (c := 12) (i := r) (j := g) (f := f)) 13).trans hlk.2.2.2.1
  have h14 := (congrFun (uR_s (V := V) (c := 12) (i := r) (j := g) (f := f)) 14).trans hlk.2.2.2.2.1
  have hk4 : bt (uR V 12 r g f 12 r g 4) s = true := by
    rw [uR_s, hlk.1 4 (by decide)]
    exact hkn
  obtain ⟨V2, e2, hR2⟩ := C_findOut (fs := fs) hL hC1 hO h1 h2 h3 hp hu hk4 h11 h13 h14
  have hO2 : MO (foZ z r p g s fs).2 := MO_fo hO
  have hfr2 : FR Q (foZ z r p g s fs).2 v0 i a := FR_te hfr te_fo
  obtain ⟨V3, e3, hR3⟩ := C_sendData (s := s) (nu := a 5) (li := a 7 - 1) hL hR2 hO2 h1 h2 (out_but (o := (foZ z r p g s fs).1) hp)
  rw [fo_dt3] at hR3
  have hO3 : MO (dt3 z r p g s (a 5) (a 7) fs) := MO_dt3 hO
  have t3 : TE (dt3 z r p g s (a 5) (a 7) fs) z := te_dt3
  have hfr3 : FR Q (dt3 z r p g s (a 5) (a 7) fs) v0 i a := FR_te hfr t3
  unfold d_X5_takeData_134 dt4
  rw [eK_hc, gd_t (yK12 hL h1 h2), e1, bo_e, eK_hc, gd_t (yK12 hL h1 h2), e2, b2_e, eK_hc, gd_t (yK8 hL hv0 hf0 hm0), gd_t (yK12 hL h1 h2), iK8 hL hv0 hf0 hm0, fr_k hR2 hfr2 (show 5 < 8 by decide), fr_k hR2 hfr2 (show 7 < 8 by decide), e3, bo_e, ite_bI]
  cases dr with
  | false => exact ⟨V3, rfl, hR3⟩
  | true =>
    obtain ⟨d1, d2⟩ := hdr rfl
    rw [cond_true, Bool.true_and]
    have etu : tuB (dt3 z r p g s (a 5) (a 7) fs) r g s = (decide (nI r ≠ (dt3 z r p g s (a 5) (a 7) fs).2 12 g) && fst (dt3 z r p g s (a 5) (a 7) fs) r p) := by
      unfold tuB
      rw [te_dirS t3, te_pS t3, d1, d2, nI_clamp (by omega), Bool.and_true]
    simp (disch := first | omega | assumption) only [eK_hc, eK_hl, yK12 hL, iK12 hL, rK12_0 hL, rK12_3 hL, rK12_5 hL, rK12_6 hL, rK12_8 hL, rK12_9 hL, rK12_10 hL, yK16 hL, iK16 hL, lK16 hL, yK1 hL, iK1 hL, rK1_0 hL, rK1_1 hL, rK1_2 hL, rK1_3 hL, lm4, lm8, lm10, lm16, lm17, lm26, lm40, lm400, nI_add, nI_1, ix_nI, nI_clamp, gd_T, gd_t, bd_e, bo_e, b2_e, true_and, and_true, hR3.tm, hR3.sp r g s h1 h2 h3, C_mayTunnel hL hR3 hO3.1 h1 h2 h3, ite_bI, etu]
    by_cases c1 : (dt3 z r p g s (a 5) (a 7) fs).1 0 < (dt3 z r p g s (a 5) (a 7) fs).2 38 (16 * (8 * r + g) + s)
    · rw [if_pos c1, decide_eq_false (Int32.not_le.mpr c1), Bool.and_false, cond_false]
      exact ⟨V3, rfl, hR3⟩
    · rw [if_neg c1, decide_eq_true (Int32.not_lt.mp c1), Bool.and_true, Bool.and_comm]
      cases fst (dt3 z r p g s (a 5) (a 7) fs) r p && decide (nI r ≠ (dt3 z r p g s (a 5) (a 7) fs).2 12 g) with
      | false => exact ⟨V3, rfl, hR3⟩
      | true =>
        obtain ⟨V4, e4, hR4⟩ := C_startTunnel (nu := a 5) (li := a 7) hL hR3 hO3 h1 h2 h3
        rw [cond_true, cond_true]
        simp (disch := first | omega | assumption) only [eK_hc, eK_hl, yK8 hL, iK8 hL, gd_T, gd_t, bd_e, bo_e, b2_e, true_and, and_true, fr_k hR3 hfr3 (show 5 < 8 by decide), fr_k hR3 hfr3 (show 7 < 8 by decide), e4]
        exact ⟨V4, rfl, hR4⟩
theorem C_data_101 (hL : LY L G n Q) (hC : RC n 0 V Q z) (hO : MO z) (hfr : FR Q z v0 i a) (h1 : r < n) (h2 : g < 8) (h3 : s < 16) (hp : p < 4) (hu : qpw Q (4 * r + p) ≠ -1) (hkn : bt (V 12 r g 4) s = true) (hfs : fs = decide (pS z r s = nI p)) (hdr : dr = (dirS z r s && fs)) : ∃ V', d_X5_takeData_101 (L.1 12 r g) (L.1 8 v0 (qpi Q v0 (1 - qcu Q v0) i)) (nI p) (nI s) (bI fs) (bI dr) (eK L G V (RF n L Q)) = some (eK L G V' (RF n L Q)) ∧ RC n 0 V' Q (dt4 (dt3 (dt2 z r p g s fs dr) r p g s (a 5) (a 7) fs) r p g s (a 5) (a 7) dr) := by
  obtain ⟨f, hlk, e1⟩ := C_look hL hC hO.1 h1 h2 h3
  have hC1 := RC_scr hC hlk.1
  have h12 := (congrFun (uR_s (V := V) (c := 12) (i := r) (j := g) (f := f)) 12).trans hlk.2.2.1
  have h13 := (congrFun (uR_s (V := V) (c := 12) (i := r) (j := g) (f := f)) 13).trans hlk.2.2.2.1
  have h15 := (congrFun (uR_s (V := V) (c := 12) (i := r) (j := g) (f := f)) 15).trans hlk.2.2.2.2.2
  have hk4 : bt (uR V 12 r g f 12 r g 4) s = true := by
    rw [uR_s, hlk.1 4 (by decide)]
    exact hkn
  have hd : ∀ z', TE z' z → dr = true → dirS z' r s = true ∧ pS z' r s = nI p := by
    intro z' t h
    rw [hdr, Bool.and_eq_true] at h
    rw [te_dirS t, te_pS t]
    refine ⟨h.1, ?_⟩
    have := h.2
    rw [hfs] at this
    exact of_decide_eq_true this
  have no : ∃ V', d_X5_takeData_134 (L.1 12 r g) (L.1 8 v0 (qpi Q v0 (1 - qcu Q v0) i)) (nI p) (nI s) (bI fs) (bI dr) (eK L G (uR V 12 r g f) (RF n L Q)) = some (eK L G V' (RF n L Q)) ∧ RC n 0 V' Q (dt4 (dt3 z r p g s (a 5) (a 7) fs) r p g s (a 5) (a 7) dr) := C_data_134 hL hC1 hO hfr h1 h2 h3 hp hu hk4 (hd z te_rf)
  unfold d_X5_takeData_101 dt2
  rw [eK_hc, gd_t (yK12 hL h1 h2), e1, bo_e, ite_bI, eK_hc, gd_t (yK12 hL h1 h2), iK12 hL h1 h2, h15, ite_bI, C_goesStraight hL hC1 hO.1 h1 h2 h3 hp h13 h12, bo_e, ite_bI]
  cases hf2 : fs with
  | false =>
    rw [hf2] at no
    rw [cond_false, Bool.false_and, Bool.false_and, cond_false]
    exact no
  | true =>
    rw [hf2] at no hdr
    rw [Bool.and_true] at hdr
    rw [cond_true, Bool.true_and, hdr]
    rw [hdr] at no
    cases wantS z r g s with
    | false =>
      rw [cond_false, Bool.false_and, cond_false]
      exact no
    | true =>
      rw [cond_true, Bool.true_and]
      cases dirS z r s || mayP z r p g s with
      | false =>
        rw [cond_false, cond_false]
        exact no
      | true =>
        rw [cond_true, cond_true]
        simp (disch := first | omega | assumption) only [eK_hc, eK_hl, yK12 hL, iK12 hL, rK12_0 hL, rK12_3 hL, rK12_5 hL, rK12_6 hL, rK12_8 hL, rK12_9 hL, rK12_10 hL, yK17 hL, iK17 hL, lK17 hL, wK17 hL, uR_ne, lm4, lm8, lm10, lm16, lm17, lm26, lm40, lm400, nI_add, nI_1, ix_nI, nI_clamp, gd_T, gd_t, bd_e, bo_e, b2_e, true_and, and_true]
        have hC2 : RC n 0 (uR (uR V 12 r g f) 17 r g (va_up (V 17 r g) s (nI p))) Q (uA z 39 (16 * (8 * r + g) + s) (nI p)) := RC_sb hC1 h2 h3 (Or.inl hk4)
        have := C_data_134 (fs := true) (dr := dirS z r s) hL hC2 (MO_uA hO (by decide)) (FR_te hfr (te_uA (by decide))) h1 h2 h3 hp hu (by rw [uR_ne (by decide)]; exact hk4) (fun h => hd _ (te_uA (by decide)) (by rw [hdr]; exact h))
        exact this
theorem C_takeData (hL : LY L G n Q) (hC : RC n 0 V Q z) (hO : MO z) (hfr : FR Q z v0 i a) (h1 : r < n) (h2 : g < 8) (h3 : s < 16) (hp : p < 4) (hu : qpw Q (4 * r + p) ≠ -1) (e4 : a 4 = nI s) : ∃ V', d_X5_takeData (L.1 12 r g) (L.1 8 v0 (qpi Q v0 (1 - qcu Q v0) i)) (nI p) (eK L G V (RF n L Q)) = some (eK L G V' (RF n L Q)) ∧ RC n 0 V' Q (dtZ z r p g s (a 5) (a 7)) := by
  have hv0 := hfr.1
  have hm0 := hfr.2.1
  have hf0 := fr_80 hC hfr
  have hC1 : RC n 0 (uR V 12 r g (va_up (V 12 r g) 4 (V 12 r g 4 ||| (1 <<< (nI s &&& 31))))) Q z := RC_kn hC kn_or
  have hkx : bt (uR V 12 r g (va_up (V 12 r g) 4 (V 12 r g 4 ||| (1 <<< (nI s &&& 31)))) 12 r g 4) s = true := by
    rw [uR_s, vu_s, b_or, b_bit (by omega) (by omega)]
    simp
  generalize hV1 : uR V 12 r g (va_up (V 12 r g) 4 (V 12 r g 4 ||| (1 <<< (nI s &&& 31)))) = V1 at hC1 hkx
  obtain ⟨f, hlk, e1⟩ := C_look hL hC1 hO.1 h1 h2 h3
  have hC2 := RC_scr hC1 hlk.1
  have h14 := (congrFun (uR_s (V := V1) (c := 12) (i := r) (j := g) (f := f)) 14).trans hlk.2.2.2.2.1
  have hk4 : bt (uR V1 12 r g f 12 r g 4) s = true := by
    rw [uR_s, hlk.1 4 (by decide)]
    exact hkx
  have e51 : ∀ dr, dr = (dirS z r s && decide (pS z r s = nI p)) → ∃ V', d_X5_takeData_51 (L.1 12 r g) (L.1 8 v0 (qpi Q v0 (1 - qcu Q v0) i)) (nI p) (nI s) (bI (decide (pS z r s = nI p))) (bI dr) (eK L G V1 (RF n L Q)) = some (eK L G V' (RF n L Q)) ∧ RC n 0 V' Q (dtZ z r p g s (a 5) (a 7)) := by
    intro dr hdr
    have t1 : TE (kpZ z r g s) z := te_kp
    have kept : ∃ V', d_X5_takeData_85 (L.1 12 r g) (L.1 8 v0 (qpi Q v0 (1 - qcu Q v0) i)) (nI p) (nI s) (bI (decide (pS z r s = nI p))) (bI dr) (eK L G (uR V1 12 r g f) (RF n L Q)) = some (eK L G V' (RF n L Q)) ∧ RC n 0 V' Q (dt4 (dt3 (dt2 (kpZ z r g s) r p g s (decide (pS z r s = nI p)) dr) r p g s (a 5) (a 7) (decide (pS z r s = nI p))) r p g s (a 5) (a 7) dr) := by
      unfold d_X5_takeData_85
      simp (disch := first | omega | assumption) only [eK_hc, eK_hl, yK12 hL, iK12 hL, rK12_0 hL, rK12_3 hL, rK12_5 hL, rK12_6 hL, rK12_8 hL, rK12_9 hL, rK12_10 hL, yK15 hL, iK15 hL, lK15 hL, yK1 hL, iK1 hL, rK1_0 hL, rK1_1 hL, rK1_2 hL, rK1_3 hL, wK15 hL, uR_ne, lm4, lm8, lm10, lm16, lm17, lm26, lm40, lm400, nI_add, nI_1, ix_nI, nI_clamp, gd_T, gd_t, bd_e, bo_e, b2_e, true_and, and_true, hC1.tm]
      have hC3 : RC n 0 (uR (uR V1 12 r g f) 15 r g (va_up (V1 15 r g) s (z.1 0 + 70))) Q (kpZ z r g s) := RC_kp hC2 h2 h3 hk4
      exact C_data_101 hL hC3 (MO_kp hO) (FR_te hfr t1) h1 h2 h3 hp hu (by rw [uR_ne (by decide)]; exact hk4) (by rw [te_pS t1]) (by rw [te_dirS t1]; exact hdr)
    have notk : ∃ V', d_X5_takeData_101 (L.1 12 r g) (L.1 8 v0 (qpi Q v0 (1 - qcu Q v0) i)) (nI p) (nI s) (bI (decide (pS z r s = nI p))) (bI dr) (eK L G (uR V1 12 r g f) (RF n L Q)) = some (eK L G V' (RF n L Q)) ∧ RC n 0 V' Q (dt4 (dt3 (dt2 z r p g s (decide (pS z r s = nI p)) dr) r p g s (a 5) (a 7) (decide (pS z r s = nI p))) r p g s (a 5) (a 7) dr) := C_data_101 hL hC2 hO hfr h1 h2 h3 hp hu hk4 rfl hdr
    unfold dtZ dt1
    rw [← hdr]
    unfold d_X5_takeData_51
    rw [eK_hc, gd_t (yK12 hL h1 h2), e1, bo_e, ite_bI]
    cases hd2 : dr with
    | true =>
      rw [hd2] at kept
      rw [cond_true, Bool.true_or, cond_true]
      exact kept
    | false =>
      rw [hd2] at kept notk
      rw [cond_false, Bool.false_or, ite_bI, eK_hc, gd_t (yK12 hL h1 h2), rK12_5 hL h1 h2, eK_hl, yK13 hL h1 h2, lK13 hL h1 h2, gd_t ⟨rfl, (ix_nI (by omega)).mpr (by omega)⟩, iK13 hL h1 h2, nI_clamp (by omega), iK12 hL h1 h2, h14, uR_ne (by decide), hC1.jb r g s h1 h2 (by omega), yx_s h3]
      have ejb : (jbV (z.2 33 (17 * (8 * r + g) + (s + 1))) (z.2 34 (17 * (8 * r + g) + (s + 1))) = -1) ↔ z.2 33 (17 * (8 * r + g) + 1 + s) = -1 := by
        rw [show 17 * (8 * r + g) + 1 + s = 17 * (8 * r + g) + (s + 1) by omega]
        have hn := hC.nn.2.2.2
        have hr := hC.nr
        rcases hO.2.2 (17 * (8 * r + g) + (s + 1)) (by omega) with ⟨a1, a2⟩ | ⟨p1, q1, hp1, hq1, a1, a2⟩
        · rw [a1]
          unfold jbV
          rw [if_pos rfl]
        · rw [a1, a2, jb_n.resolve_right (nI_m1 (by omega))]
          exact ⟨fun w => absurd w (nI_m1 (by omega)), fun w => absurd w (nI_m1 (by omega))⟩
      cases hf2 : decide (pS z r s = nI p) with
      | false =>
        rw [hf2] at notk
        rw [cond_false, Bool.false_and, Bool.false_and, cond_false]
        exact notk
      | true =>
        rw [hf2] at notk kept
        rw [cond_true, Bool.true_and]
        by_cases c1 : z.2 33 (17 * (8 * r + g) + 1 + s) = -1
        · rw [if_pos (ejb.mpr c1), decide_eq_false (not_not_intro c1), Bool.false_and, cond_false]
          exact notk
        · rw [if_neg (fun w => c1 (ejb.mp w)), decide_eq_true c1, Bool.true_and]
          by_cases c2 : alB z r g s = 0
          · rw [if_pos c2, decide_eq_false (not_not_intro c2), cond_false]
            exact notk
          · rw [if_neg c2, decide_eq_true c2, cond_true]
            exact kept
  unfold d_X5_takeData d_X5_takeData_31 d_X5_takeData_50
  rw [eK_hc, gd_t (yK8 hL hv0 hf0 hm0), gd_t (yK12 hL h1 h2), iK8 hL hv0 hf0 hm0, fr_k hC hfr (show 4 < 8 by decide), e4, iK12 hL h1 h2, wK12 hL h1 h2, bd_e, hV1, eK_hc, gd_t (yK12 hL h1 h2), C_portToSource hL hC1 hO.1 h1 h2 h3, bo_e, C_isDirect hL hC1 hO.1 h1 h2 h3, bo_e]
  by_cases hps : pS z r s = nI p
  · rw [if_pos hps, if_neg (by decide), gd_t (yK12 hL h1 h2), ite_bI]
    rw [decide_eq_true hps] at e51
    cases hd3 : dirS z r s with
    | false =>
      rw [hd3] at e51
      exact e51 false rfl
    | true =>
      rw [hd3] at e51
      exact e51 true rfl
  · rw [if_neg hps, if_pos rfl]
    rw [decide_eq_false hps] at e51
    exact e51 false (by rw [Bool.and_false])
end
