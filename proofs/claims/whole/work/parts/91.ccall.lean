/-! THE CLASS: calls that change its state -/
section
variable {L : Ly} {G : Hp} {n : Nat} {st : Int32} {V : Vt} {Q : Qt} {z : Sg} {r p q g s x y m v i h k : Nat}
theorem tn_n (hk : k < 2 ^ 31) : tn (nI k) = k := nI_clamp hk
theorem C_meet {a b : Int32} (hL : LY L G n Q) (hC : RC n st V Q z) : ∃ V', d_X8_meet (L.1 0 0 0) a b (eK L G V (RF n L Q)) = some (bI (meB z a b), eK L G V' (RF n L Q)) ∧ RC n st V' Q (cond (meB z a b) (meZ z a b) z) := by
  have hn := hC.nn.2.2.2
  have hn1 := hC.nn.2.2.1
  have hnr := hC.nr
  unfold d_X8_meet meB
  rw [C_isIn8, bo_e, ite_bI, hnr]
  cases ha : inR a 8 with
  | false => exact ⟨V, rfl, hC⟩
  | true =>
    obtain ⟨g, hg, rfl⟩ := inR_t (by decide) ha
    rw [cond_true, Bool.true_and]
    simp (disch := first | omega | assumption) only [eK_hc, eK_hl, yK0 hL, iK0 hL, rK0_0 hL, rK0_1 hL, rK0_2 hL, yK4_1 hL, iK4_1 hL, lK4_1 hL, rK4_1 hL, gd_T, gd_t, bd_e, bo_e, b2_e, true_and, and_true, C_isIn, ite_bI]
    cases hb : inR b n with
    | false => exact ⟨V, rfl, hC⟩
    | true =>
      rw [cond_true, Bool.true_and]
      simp (disch := first | omega | assumption) only [eK_hc, eK_hl, yK0 hL, iK0 hL, rK0_0 hL, rK0_1 hL, rK0_2 hL, yK1 hL, iK1 hL, rK1_0 hL, rK1_1 hL, rK1_2 hL, rK1_3 hL, gd_T, gd_t, bd_e, bo_e, b2_e, true_and, and_true, hC.tm]
      by_cases ht : z.1 0 = 0
      · rw [if_pos ht, decide_eq_true ht]
        simp (disch := first | omega | assumption) only [eK_hc, eK_hl, yK3_5 hL, iK3_5 hL, lK3_5 hL, wK3_5 hL, lm4, lm8, lm10, lm16, lm17, lm26, lm40, lm400, nI_add, nI_1, ix_nI, nI_clamp, gd_T, gd_t, bd_e, bo_e, b2_e, true_and, and_true]
        refine ⟨_, rfl, ?_⟩
        show RC n st _ Q (uA z 12 (nI g).toNatClampNeg b)
        rw [nI_clamp (by omega)]
        have e : cEq 8 (uR V 3 0 5 (va_up (V 3 0 5) g b) 3 0 5) ((uA z 12 g b).2 12) := by
          intro k hk
          rw [uR_s, vu_a, uA_get]
          split
          · rfl
          · exact hC.mt k hk
        exact ⟨hC.tm, hC.nu, hC.tu, hC.nn, hC.ns, hC.qw, hC.qh, hC.wa, (e), hC.hz, hC.wi, hC.su, hC.po, hC.fr, hC.fc, hC.pi, hC.md, hC.me, hC.fn, hC.id, hC.jb, hC.ja, hC.tc, hC.kp, hC.sp, hC.sb, hC.pt, hC.he, hC.qu, hC.nt, (cNb_c hC.nb rfl rfl rfl), hC.mb, hC.jt, hC.cf, hC.cl, hC.ho, hC.go, hC.k33, hC.k39, hC.k37, hC.k29, hC.k28, hC.k31, hC.k30, hC.un, hC.on, hC.u2, hC.g0, hC.jp, (cWs_t hC.ws ⟨rfl, rfl, rfl, rfl⟩)⟩
      · rw [if_neg ht, decide_eq_false ht]
        exact ⟨V, rfl, hC⟩
theorem C_mend {a : Int32} (hL : LY L G n Q) (hC : RC n st V Q z) : ∃ V' st', d_X8_mend (L.1 0 0 0) a (eK L G V (RF n L Q)) = some (bI (mdB z a), eK L G V' (RF n L Q)) ∧ RC n st' V' Q (cond (mdB z a) (mdZ z a) z) := by
  unfold d_X8_mend mdB
  rw [C_isIn16, bo_e, ite_bI]
  cases ha : inR a 16 with
  | false => exact ⟨V, st, rfl, hC⟩
  | true =>
    obtain ⟨v, hv, rfl⟩ := inR_t (by decide) ha
    rw [cond_true, Bool.true_and, nI_clamp (by omega)]
    simp (disch := first | omega | assumption) only [eK_hc, eK_hl, yK0 hL, iK0 hL, rK0_0 hL, rK0_1 hL, rK0_2 hL, yK1 hL, iK1 hL, rK1_0 hL, rK1_1 hL, rK1_2 hL, rK1_3 hL, yK4_0 hL, iK4_0 hL, lK4_0 hL, rK4_0 hL, lm4, lm8, lm10, lm16, lm17, lm26, lm40, lm400, nI_add, nI_1, ix_nI, nI_clamp, gd_T, gd_t, bd_e, bo_e, b2_e, true_and, and_true]
    simp (disch := first | omega | assumption) only [eK_hc, eK_hl, yK5 hL, iK5 hL, rK5_1 hL, rK5_3 hL, rK5_4 hL, gd_T, gd_t, bd_e, bo_e, b2_e, true_and, and_true, (hC.wi v hv).2.1, ite_bI]
    by_cases hu : z.2 10 v = 0
    · rw [decide_eq_true hu, cond_true, decide_eq_false (not_not_intro hu)]
      exact ⟨V, st, rfl, hC⟩
    · rw [decide_eq_false hu, cond_false, decide_eq_true hu]
      simp (disch := first | omega | assumption) only [wK5 hL, eK_hc, eK_hl, yK0 hL, iK0 hL, rK0_0 hL, rK0_1 hL, rK0_2 hL, yK1 hL, iK1 hL, rK1_0 hL, rK1_1 hL, rK1_2 hL, rK1_3 hL, gd_T, gd_t, bd_e, bo_e, b2_e, true_and, and_true]
      simp (disch := first | omega | assumption) only [wK2 hL, eK_hc, eK_hl, yK2 hL, iK2 hL, rK2_1 hL, rK2_2 hL, rK2_3 hL, rK2_4 hL, rK2_5 hL, gd_T, gd_t, bd_e, bo_e, b2_e, true_and, and_true]
      refine ⟨_, 1, rfl, ?_⟩
      show RC n 1 _ Q (uA z 10 (nI v).toNatClampNeg 0)
      rw [nI_clamp (by omega)]
      have ewi : cWi (uR V 5 v 0 (va_up (V 5 v 0) 2 1) 5) ((uA z 10 v 0).2 10) (z.2 16) (z.2 17) (z.2 19) := by
        intro w hw
        obtain ⟨c0, c2, c6, c7, c5⟩ := hC.wi w hw
        rw [uR_at, uA_get]
        by_cases e : w = v
        · subst e
          rw [if_pos ⟨rfl, rfl⟩, if_pos rfl, vu_n (by decide), vu_s, vu_n (by decide), vu_n (by decide), vu_n (by decide)]
          exact ⟨c0, rfl, c6, c7, c5⟩
        · rw [if_neg (fun q => e q.1), if_neg e]
          exact ⟨c0, c2, c6, c7, c5⟩
      have esu : cSu (uR V 5 v 0 (va_up (V 5 v 0) 2 1) 5) (z.1 3) (z.1 4) (z.1 5) (z.1 7) := by
        obtain ⟨s8, s9, s10, s11⟩ := hC.su
        refine ⟨?_, ?_, ?_, ?_⟩
        · rw [sm_uR hv (d := 0) (by rw [vu_n (by decide), Int32.add_zero]), s8, Int32.add_zero]
        · rw [sm_uR hv (d := 0) (by rw [vu_n (by decide), Int32.add_zero]), s9, Int32.add_zero]
        · rw [sm_uR hv (d := 0) (by rw [vu_n (by decide), Int32.add_zero]), s10, Int32.add_zero]
        · rw [sm_uR hv (d := 0) (by rw [vu_n (by decide), Int32.add_zero]), s11, Int32.add_zero]
      have enn : uR (uR V 5 v 0 (va_up (V 5 v 0) 2 1)) 2 0 0 (va_up (uR V 5 v 0 (va_up (V 5 v 0) 2 1) 2 0 0) 6 1) 2 0 0 0 = nI n := by
        rw [uR_s, vu_n (by decide), uR_ne (by decide)]
        exact hC.nn.2.1
      have ens : uR (uR V 5 v 0 (va_up (V 5 v 0) 2 1)) 2 0 0 (va_up (uR V 5 v 0 (va_up (V 5 v 0) 2 1) 2 0 0) 6 1) 2 0 0 6 = 1 := by rw [uR_s, vu_s]
      exact ⟨hC.tm, hC.nu, hC.tu, (⟨hC.nn.1, enn, hC.nn.2.2⟩), (ens), hC.qw, hC.qh, hC.wa, hC.mt, hC.hz, (ewi), (esu), hC.po, hC.fr, hC.fc, hC.pi, hC.md, hC.me, hC.fn, hC.id, hC.jb, hC.ja, hC.tc, hC.kp, hC.sp, hC.sb, hC.pt, hC.he, hC.qu, hC.nt, (cNb_c hC.nb rfl rfl rfl), hC.mb, hC.jt, hC.cf, hC.cl, hC.ho, hC.go, hC.k33, hC.k39, hC.k37, hC.k29, hC.k28, hC.k31, hC.k30, hC.un, hC.on, hC.u2, hC.g0, hC.jp, (fun q => absurd q (by decide))⟩
theorem C_join {a b : Int32} (hL : LY L G n Q) (hC : RC n st V Q z) (hO : MO z) : ∃ V', d_X8_join (L.1 0 0 0) a b (eK L G V (RF n L Q)) = some (bI (jiB z a b), eK L G V' (RF n L Q)) ∧ RC n st V' Q (cond (jiB z a b) (jiZ z a b) z) := by
  unfold d_X8_join jiB
  rw [C_isIn16, bo_e, ite_bI]
  cases ha : inR a 16 with
  | false => exact ⟨V, rfl, hC⟩
  | true =>
    obtain ⟨h, hh, rfl⟩ := inR_t (by decide) ha
    rw [cond_true, C_isIn8, bo_e, ite_bI, Bool.true_and]
    cases hb : inR b 8 with
    | false => exact ⟨V, rfl, hC⟩
    | true =>
      obtain ⟨g, hg, rfl⟩ := inR_t (by decide) hb
      rw [cond_true, Bool.true_and, tn_n (show h < 2 ^ 31 by omega), tn_n (show g < 2 ^ 31 by omega)]
      simp (disch := first | omega | assumption) only [eK_hc, eK_hl, yK0 hL, iK0 hL, rK0_0 hL, rK0_1 hL, rK0_2 hL, yK4_2 hL, iK4_2 hL, lK4_2 hL, rK4_2 hL, lm4, lm8, lm10, lm16, lm17, lm26, lm40, lm400, nI_add, nI_1, ix_nI, nI_clamp, gd_T, gd_t, bd_e, bo_e, b2_e, true_and, and_true]
      have e11 : z.2 11 h = qhw Q h := by rw [hC.qh]
      by_cases hu : qhw Q h = -1
      · rw [if_neg (not_not_intro hu), if_pos rfl, e11, decide_eq_false (not_not_intro hu)]
        exact ⟨V, rfl, hC⟩
      · rw [if_pos hu, if_neg (zK25 hL hh hu), e11, decide_eq_true hu, Bool.true_and]
        simp (disch := first | omega | assumption) only [eK_hc, eK_hl, yK25 hL, iK25 hL, rK25_1 hL, rK25_2 hL, gd_T, gd_t, bd_e, bo_e, b2_e, true_and, and_true, C_hasJoined hL hC hh hu hg, ite_bI]
        cases hin : inB z h g with
        | true => exact ⟨V, rfl, hC⟩
        | false =>
          rw [cond_false, Bool.not_false]
          simp (disch := first | omega | assumption) only [wK25 hL, gd_T, gd_t, bd_e, bo_e, b2_e, true_and, and_true, (hC.ho h hh hu).2.1]
          simp (disch := first | omega | assumption) only [eK_hc, eK_hl, yK0 hL, iK0 hL, rK0_0 hL, rK0_1 hL, rK0_2 hL, yK4_2 hL, iK4_2 hL, lK4_2 hL, rK4_2 hL, lm4, lm8, lm10, lm16, lm17, lm26, lm40, lm400, nI_add, nI_1, ix_nI, nI_clamp, gd_T, gd_t, bd_e, bo_e, b2_e, true_and, and_true, if_pos hu]
          have hC1 : RC n st (uR V 25 h 0 (va_up (V 25 h 0) 3 (z.2 13 h ||| (1 <<< (nI g &&& 31))))) Q (uA z 13 h (z.2 13 h ||| (1 <<< (nI g &&& 31)))) := RC_ho 3 13 (Or.inl ⟨rfl, rfl⟩) hC hu
          obtain ⟨V1, e1, hR1, -⟩ := C_say (kd := 3) (gg := nI g) hL hC1 (MO_uA hO (by decide)) hh hu (by decide) (by decide)
          simp (disch := first | omega | assumption) only [eK_hc, eK_hl, yK25 hL, iK25 hL, rK25_1 hL, rK25_2 hL, gd_T, gd_t, bd_e, bo_e, b2_e, true_and, and_true, e1]
          refine ⟨V1, rfl, RCe hR1 ?_⟩
          show _ = jiZ z (nI h) (nI g)
          unfold jiZ
          rw [tn_n (show h < 2 ^ 31 by omega), uA_ne (by decide)]
theorem C_leave {a b : Int32} (hL : LY L G n Q) (hC : RC n st V Q z) (hO : MO z) : ∃ V', d_X8_leave (L.1 0 0 0) a b (eK L G V (RF n L Q)) = some (bI (leB z a b), eK L G V' (RF n L Q)) ∧ RC n st V' Q (cond (leB z a b) (leZ z a b) z) := by
  unfold d_X8_leave leB
  rw [C_isIn16, bo_e, ite_bI]
  cases ha : inR a 16 with
  | false => exact ⟨V, rfl, hC⟩
  | true =>
    obtain ⟨h, hh, rfl⟩ := inR_t (by decide) ha
    rw [cond_true, C_isIn8, bo_e, ite_bI, Bool.true_and]
    cases hb : inR b 8 with
    | false => exact ⟨V, rfl, hC⟩
    | true =>
      obtain ⟨g, hg, rfl⟩ := inR_t (by decide) hb
      rw [cond_true, Bool.true_and, tn_n (show h < 2 ^ 31 by omega), tn_n (show g < 2 ^ 31 by omega)]
      simp (disch := first | omega | assumption) only [eK_hc, eK_hl, yK0 hL, iK0 hL, rK0_0 hL, rK0_1 hL, rK0_2 hL, yK4_2 hL, iK4_2 hL, lK4_2 hL, rK4_2 hL, lm4, lm8, lm10, lm16, lm17, lm26, lm40, lm400, nI_add, nI_1, ix_nI, nI_clamp, gd_T, gd_t, bd_e, bo_e, b2_e, true_and, and_true]
      by_cases hu : qhw Q h = -1
      · rw [if_neg (not_not_intro hu), if_pos rfl, inB_bt hg, (hC.g0 h hh hu).1, b_0]
        exact ⟨V, rfl, hC⟩
      · rw [if_pos hu, if_neg (zK25 hL hh hu)]
        simp (disch := first | omega | assumption) only [eK_hc, eK_hl, yK25 hL, iK25 hL, rK25_1 hL, rK25_2 hL, gd_T, gd_t, bd_e, bo_e, b2_e, true_and, and_true, C_hasJoined hL hC hh hu hg, ite_bI]
        cases hin : inB z h g with
        | false => exact ⟨V, rfl, hC⟩
        | true =>
          rw [cond_true]
          simp (disch := first | omega | assumption) only [wK25 hL, gd_T, gd_t, bd_e, bo_e, b2_e, true_and, and_true, (hC.ho h hh hu).2.1]
          simp (disch := first | omega | assumption) only [eK_hc, eK_hl, yK0 hL, iK0 hL, rK0_0 hL, rK0_1 hL, rK0_2 hL, yK4_2 hL, iK4_2 hL, lK4_2 hL, rK4_2 hL, lm4, lm8, lm10, lm16, lm17, lm26, lm40, lm400, nI_add, nI_1, ix_nI, nI_clamp, gd_T, gd_t, bd_e, bo_e, b2_e, true_and, and_true, if_pos hu]
          have hC1 : RC n st (uR V 25 h 0 (va_up (V 25 h 0) 3 (z.2 13 h &&& ((1 <<< (nI g &&& 31)) ^^^ (-1))))) Q (uA z 13 h (z.2 13 h &&& ((1 <<< (nI g &&& 31)) ^^^ (-1)))) := RC_ho 3 13 (Or.inl ⟨rfl, rfl⟩) hC hu
          obtain ⟨V1, e1, hR1, -⟩ := C_say (kd := 4) (gg := nI g) hL hC1 (MO_uA hO (by decide)) hh hu (by decide) (by decide)
          simp (disch := first | omega | assumption) only [eK_hc, eK_hl, yK25 hL, iK25 hL, rK25_1 hL, rK25_2 hL, gd_T, gd_t, bd_e, bo_e, b2_e, true_and, and_true, e1]
          refine ⟨V1, rfl, RCe hR1 ?_⟩
          show _ = leZ z (nI h) (nI g)
          unfold leZ
          rw [tn_n (show h < 2 ^ 31 by omega), uA_ne (by decide)]
theorem C_hostSend {gg nu : Int32} (hL : LY L G n Q) (hC : RC n st V Q z) (hO : MO z) (h1 : h < 16) (hu : qhw Q h ≠ -1) : ∃ V', d_X1_sendData (L.1 25 h 0) gg nu (eK L G V (RF n L Q)) = some (eK L G V' (RF n L Q)) ∧ RC n st V' Q (pu z (z.2 11 h) 7 (100 + nI h) (-1) gg (nI h) nu 0 16).2 ∧ V' 0 = V 0 := by
  have e : qhw Q h = z.2 11 h := by rw [hC.qh]
  obtain ⟨v, hv, ev⟩ : ∃ v, v < 16 ∧ z.2 11 h = nI v := (hO.1.2.2.1 h h1).resolve_left (by rw [← e]; exact hu)
  have hm : qmd Q v = true := by
    have := hC.md.2.1 h h1 hu
    rw [e, ev, nI_clamp (by omega)] at this
    exact this
  have ev' : qhw Q h = nI v := e.trans ev
  have h100 : ¬ (100 + nI h : Int32) < 100 := by
    rw [show (100 : Int32) + nI h = nI (100 + h) from nI_add 100 h]
    exact nI_nlt (b := 100) (by omega) (by omega)
  unfold d_X1_sendData
  simp (disch := first | omega | assumption) only [eK_hc, eK_hl, yK25 hL, iK25 hL, rK25_1 hL, rK25_2 hL, ev', lm4, lm8, lm10, lm16, lm17, lm26, lm40, lm400, nI_add, nI_1, ix_nI, nI_clamp, gd_T, gd_t, bd_e, bo_e, b2_e, true_and, and_true, (hC.ho h h1 hu).1]
  simp (disch := first | omega | assumption) only [eK_hc, eK_hl, yK5 hL, iK5 hL, rK5_1 hL, rK5_3 hL, rK5_4 hL, gd_T, gd_t, bd_e, bo_e, b2_e, true_and, and_true]
  rcases C_open (kd := 7) (se := 100 + nI h) hL hC hO.2.1 hv hm with ⟨V1, f, hT, hf, eo, hk, hs, hfr, hb⟩ | ⟨V1, hT, eo, hs, hb⟩
  · rw [eo, b2_e, if_neg (zK8 hL hv hf hm)]
    simp (disch := first | omega | assumption) only [d_X0_aim, eK_hc, eK_hl, yK25 hL, iK25 hL, rK25_1 hL, rK25_2 hL, yK8 hL, iK8 hL, wK8 hL, hs 25 (by decide) (by decide), uR_s, uR_uR, uR_ne, gd_T, gd_t, bd_e, bo_e, b2_e, true_and, and_true, (hC.ho h h1 hu).1]
    refine ⟨_, rfl, RCe (hb _ ?_ ?_) ?_, (uR_ne (by decide)).trans (hs 0 (by decide) (by decide))⟩
    · simp (disch := first | omega | assumption) only [vu_s, vu_n, hk 0 (by decide), hk 1 (by decide), hk 2 (by decide), hk 3 (by decide), hk 4 (by decide), hk 5 (by decide), hk 6 (by decide), hk 7 (by decide), f8]
    · simp (disch := first | omega | assumption) only [vu_s, vu_n, hk 0 (by decide), hk 1 (by decide), hk 2 (by decide), hk 3 (by decide), hk 4 (by decide), hk 5 (by decide), hk 6 (by decide), hk 7 (by decide), f8]
    · simp (disch := first | omega | assumption) only [vu_s, vu_n, hk 0 (by decide), hk 1 (by decide), hk 2 (by decide), hk 3 (by decide), hk 4 (by decide), hk 5 (by decide), hk 6 (by decide), hk 7 (by decide), f8]
      rw [cz7h h100, ev]
  · rw [eo, b2_e, if_pos rfl]
    exact ⟨_, rfl, RCe (hb 7 (100 + nI h) (-1) gg (nI h) nu 0 16).1 (by rw [ev]), hs 0 (by decide)⟩
theorem C_send {a b : Int32} (hL : LY L G n Q) (hC : RC n st V Q z) (hO : MO z) (hN : NU z) : ∃ V', d_X8_send (L.1 0 0 0) a b (eK L G V (RF n L Q)) = some (cond (seB z a b) (z.1 2) (-1), eK L G V' (RF n L Q)) ∧ RC n st V' Q (cond (seB z a b) (seZ z a b) z) := by
  obtain ⟨M, hM, eM⟩ := hN
  unfold d_X8_send seB
  rw [C_isIn16, bo_e, ite_bI]
  cases ha : inR a 16 with
  | false => exact ⟨V, rfl, hC⟩
  | true =>
    obtain ⟨h, hh, rfl⟩ := inR_t (by decide) ha
    rw [cond_true, C_isIn8, bo_e, ite_bI, Bool.true_and]
    cases hb : inR b 8 with
    | false => exact ⟨V, rfl, hC⟩
    | true =>
      obtain ⟨g, hg, rfl⟩ := inR_t (by decide) hb
      rw [cond_true, Bool.true_and, tn_n (show h < 2 ^ 31 by omega)]
      simp (disch := first | omega | assumption) only [eK_hc, eK_hl, yK0 hL, iK0 hL, rK0_0 hL, rK0_1 hL, rK0_2 hL, yK4_2 hL, iK4_2 hL, lK4_2 hL, rK4_2 hL, lm4, lm8, lm10, lm16, lm17, lm26, lm40, lm400, nI_add, nI_1, ix_nI, nI_clamp, gd_T, gd_t, bd_e, bo_e, b2_e, true_and, and_true, hC.nu]
      have e11 : z.2 11 h = qhw Q h := by rw [hC.qh]
      by_cases hu : qhw Q h = -1
      · rw [if_neg (not_not_intro hu), if_pos rfl, decide_eq_false (fun w => w.1 (e11.trans hu))]
        exact ⟨V, rfl, hC⟩
      · rw [if_pos hu, if_neg (zK25 hL hh hu)]
        obtain ⟨v, hv, ev⟩ : ∃ v, v < 16 ∧ z.2 11 h = nI v := (hO.1.2.2.1 h hh).resolve_left (by rw [e11]; exact hu)
        have ev' : qhw Q h = nI v := e11.symm.trans ev
        by_cases h4 : z.1 2 < 400
        · rw [if_pos h4]
          simp (disch := first | omega | assumption) only [eK_hc, eK_hl, yK25 hL, iK25 hL, rK25_1 hL, rK25_2 hL, ev', lm4, lm8, lm10, lm16, lm17, lm26, lm40, lm400, nI_add, nI_1, ix_nI, nI_clamp, gd_T, gd_t, bd_e, bo_e, b2_e, true_and, and_true]
          simp (disch := first | omega | assumption) only [eK_hc, eK_hl, yK5 hL, iK5 hL, rK5_1 hL, rK5_3 hL, rK5_4 hL, gd_T, gd_t, bd_e, bo_e, b2_e, true_and, and_true, (hC.wi v hv).2.1, ite_bI]
          have h2n : z.1 2 ≠ 400 := fun w => by rw [w] at h4; exact absurd h4 (by decide)
          by_cases hup : z.2 10 v = 0
          · obtain ⟨V1, e1, hR1, h0⟩ := C_hostSend (gg := nI g) (nu := z.1 2) hL hC hO hh hu
            have hd : (z.2 11 h ≠ -1 ∧ z.2 10 (z.2 11 h).toNatClampNeg = 0 ∧ z.1 2 ≠ 400) := ⟨by rw [e11]; exact hu, by rw [ev, nI_clamp (by omega)]; exact hup, h2n⟩
            rw [decide_eq_true hup, cond_true, e1, bo_e, decide_eq_true hd]
            simp (disch := first | omega | assumption) only [eK_hc, eK_hl, yK0 hL, iK0 hL, rK0_0 hL, rK0_1 hL, rK0_2 hL, wK0 hL, gd_T, gd_t, bd_e, bo_e, b2_e, true_and, and_true, h0, hC.nu, uR_s, vu_s]
            refine ⟨uR V1 0 0 0 (va_up (V 0 0 0) 3 (z.1 2 + 1)), ?_, ?_⟩
            · show some (z.1 2 + 1 - 1, _) = some (z.1 2, _)
              rw [Int32.add_sub_cancel]
            · show RC n st _ Q (seZ z (nI h) (nI g))
              have enu : uR V1 0 0 0 (va_up (V 0 0 0) 3 (z.1 2 + 1)) 0 0 0 3 = z.1 2 + 1 := by rw [uR_s, vu_s]
              have e2 : (pu z (z.2 11 h) 7 (100 + nI h) (-1) (nI g) (nI h) (z.1 2) 0 16).2.1 2 = z.1 2 := pu_sc (by decide)
              have hfin : RC n st (uR V1 0 0 0 (va_up (V 0 0 0) 3 (z.1 2 + 1))) Q (uS (pu z (z.2 11 h) 7 (100 + nI h) (-1) (nI g) (nI h) (z.1 2) 0 16).2 2 (z.1 2 + 1)) := ⟨hR1.tm, (enu), hR1.tu, hR1.nn, hR1.ns, hR1.qw, hR1.qh, hR1.wa, hR1.mt, hR1.hz, hR1.wi, hR1.su, hR1.po, hR1.fr, hR1.fc, hR1.pi, hR1.md, hR1.me, hR1.fn, hR1.id, hR1.jb, hR1.ja, hR1.tc, hR1.kp, hR1.sp, hR1.sb, hR1.pt, hR1.he, hR1.qu, hR1.nt, (cNb_c hR1.nb rfl rfl rfl), hR1.mb, hR1.jt, hR1.cf, hR1.cl, hR1.ho, hR1.go, hR1.k33, hR1.k39, hR1.k37, hR1.k29, hR1.k28, hR1.k31, hR1.k30, hR1.un, hR1.on, hR1.u2, hR1.g0, hR1.jp, (cWs_t hR1.ws ⟨rfl, rfl, rfl, rfl⟩)⟩
              unfold seZ
              rw [tn_n (show h < 2 ^ 31 by omega)]
              exact hfin
          · have hd : ¬ (z.2 11 h ≠ -1 ∧ z.2 10 (z.2 11 h).toNatClampNeg = 0 ∧ z.1 2 ≠ 400) := fun w => hup (by have := w.2.1; rw [ev, nI_clamp (by omega)] at this; exact this)
            rw [decide_eq_false hup, cond_false, decide_eq_false hd]
            exact ⟨V, rfl, hC⟩
        · have h400 : z.1 2 = 400 := by
            rw [eM] at h4 ⊢
            rcases Nat.lt_or_ge M 400 with o | o
            · exact absurd (nI_lt (b := 400) o (by decide)) h4
            · rw [show M = 400 by omega]
              rfl
          rw [if_neg h4, decide_eq_false (fun w => w.2.2 h400)]
          exact ⟨V, rfl, hC⟩
end
