/-! THE CLASS: loops, and what the timers do -/
section
variable {L : Ly} {G : Hp} {n : Nat} {st : Int32} {V : Vt} {Q : Qt} {z : Sg} {r p q g s x y m v0 i h : Nat} {a : Nat → Int32}
theorem loopC {α : Type} {N : Nat} {f : Sg → Nat → Sg} {D : Nat → Nat → Hp → Option α} {K : Hp → Option α} (hN : N < 6000)
    (hs : ∀ m i V, i < N → RC n st V Q (fo f z i) → (∃ V', D (m + 1) i (eK L G V (RF n L Q)) = D m (i + 1) (eK L G V' (RF n L Q)) ∧ RC n st V' Q (fo f z (i + 1))) ∨ (∃ V', D (m + 1) i (eK L G V (RF n L Q)) = K (eK L G V' (RF n L Q)) ∧ RC n st V' Q (fo f z N)))
    (he : ∀ m V, RC n st V Q (fo f z N) → D (m + 1) N (eK L G V (RF n L Q)) = K (eK L G V (RF n L Q))) (hC : RC n st V Q z) : ∃ V', D FU 0 (eK L G V (RF n L Q)) = K (eK L G V' (RF n L Q)) ∧ RC n st V' Q (fo f z N) := by
  have gen : ∀ m i V, i ≤ N → N - i < m → RC n st V Q (fo f z i) → ∃ V', D m i (eK L G V (RF n L Q)) = K (eK L G V' (RF n L Q)) ∧ RC n st V' Q (fo f z N) := by
    intro m
    induction m with
    | zero => intro i V _ h; omega
    | succ m ih =>
      intro i V hi hlt hR
      by_cases e : i = N
      · subst e
        exact ⟨V, he m V hR, hR⟩
      · rcases hs m i V (by omega) hR with ⟨V', e1, hR1⟩ | ⟨V', e1, hR1⟩
        · rw [e1]
          exact ih (i + 1) V' (by omega) (by omega) hR1
        · exact ⟨V', e1, hR1⟩
  exact gen FU 0 V (by omega) (by show _ < 6000; omega) hC
theorem fo_stop {f : Sg → Nat → Sg} {s : Nat} : ∀ N, s ≤ N → (∀ i, s ≤ i → i < N → f (fo f z s) i = fo f z s) → fo f z N = fo f z s := by
  intro N
  induction N with
  | zero => intro h _; rw [show s = 0 by omega]
  | succ N ih =>
    intro hs hf
    by_cases e : s = N + 1
    · rw [e]
    · show f (fo f z N) N = _
      rw [ih (by omega) (fun i h1 h2 => hf i h1 (by omega)), hf N (by omega) (by omega)]
theorem uR_i {c i j : Nat} {V : Vt} : uR V c i j (V c i j) = V := uR_self
/-! hellos and queries -/
theorem C_sayHello (hL : LY L G n Q) (hC : RC n st V Q z) (hO : MO z) (ht : ∃ t, 1 ≤ t ∧ t ≤ 6000 ∧ z.1 0 = nI t) (h1 : r < n) (hp : p < 4) : ∃ V', d_X4_sayHello (L.1 9 r 0) (if qpw Q (4 * r + p) ≠ -1 then L.1 18 r p else 0) (eK L G V (RF n L Q)) = some (eK L G V' (RF n L Q)) ∧ RC n st V' Q (heZ z r p) := by
  unfold d_X4_sayHello heZ upB
  have e8 : z.2 8 (4 * r + p) = qpw Q (4 * r + p) := by rw [hC.qw]
  by_cases hu : qpw Q (4 * r + p) = -1
  · rw [if_neg (not_not_intro hu), if_pos rfl, e8, decide_eq_false (fun w => w.1 hu), Bool.false_and]
    exact ⟨V, rfl, hC⟩
  · rw [if_pos hu, if_neg (zK18 hL h1 hp hu)]
    obtain ⟨v, hv, ev, ez, hm⟩ := port_w hC hO.1 h1 hp hu
    obtain ⟨he0, he1⟩ := hC.he r p h1 hp hu
    obtain ⟨t, t1, t2, t3⟩ := ht
    have say : ∃ V', d_X4_sayHello_39 (L.1 9 r 0) (L.1 18 r p) (eK L G V (RF n L Q)) = some (eK L G V' (RF n L Q)) ∧ RC n st V' Q (uA (pu z (z.2 8 (4 * r + p)) 1 (nI r) (-1) (-1) (-1) 0 0 0).2 26 (4 * r + p) (z.1 0)) := by
      have hC1 : RC n st (uR V 18 r p (va_up (V 18 r p) 5 (z.1 0))) Q (uA z 26 (4 * r + p) (z.1 0)) := RC_he 5 26 (Or.inl ⟨rfl, rfl⟩) hC hp hu (by rw [t3]; exact nI_ne0 (by omega) (by omega)) (by rw [t3]; exact nI_m1 (by omega))
      unfold d_X4_sayHello_39
      simp (disch := first | omega | assumption) only [eK_hc, eK_hl, yK9 hL, iK9 hL, rK9_0 hL, rK9_2 hL, rK9_3 hL, yK18 hL, iK18 hL, rK18_0 hL, rK18_2 hL, rK18_7 hL, rK18_8 hL, rK18_9 hL, rK18_10 hL, rK18_11 hL, rK18_12 hL, yK1 hL, iK1 hL, rK1_0 hL, rK1_1 hL, rK1_2 hL, rK1_3 hL, wK18 hL, uR_ne, lm4, lm8, lm10, lm16, lm17, lm26, lm40, lm400, nI_add, nI_1, ix_nI, nI_clamp, gd_T, gd_t, bd_e, bo_e, b2_e, true_and, and_true, hC.tm, (hC.id r h1).1, ev]
      simp (disch := first | omega | assumption) only [eK_hc, eK_hl, yK5 hL, iK5 hL, rK5_1 hL, rK5_3 hL, rK5_4 hL, gd_T, gd_t, bd_e, bo_e, b2_e, true_and, and_true]
      rcases C_open (kd := 1) (se := nI r) hL hC1 (MO_uA hO (by decide)).2.1 hv hm with ⟨V1, f, hT, hf, e, hk, hs, hfr, hb⟩ | ⟨V1, hT, e, hs, hb⟩
      · rw [e, b2_e]
        refine ⟨V1, rfl, RCe (RCv (hb (V1 8 v f) (hk 0 (by decide)) (hk 1 (by decide))) uR_i) ?_⟩
        simp (disch := first | omega | assumption) only [vu_s, vu_n, hk 0 (by decide), hk 1 (by decide), hk 2 (by decide), hk 3 (by decide), hk 4 (by decide), hk 5 (by decide), hk 6 (by decide), hk 7 (by decide), f8]
        rw [cz_o (by decide) (by decide), pu_uA (by decide), ez]
      · rw [e, b2_e]
        refine ⟨V1, rfl, RCe (hb 1 (nI r) (-1) (-1) (-1) 0 0 0).1 ?_⟩
        rw [pu_uA (by decide), ez]
    simp (disch := first | omega | assumption) only [eK_hc, eK_hl, yK9 hL, iK9 hL, rK9_0 hL, rK9_2 hL, rK9_3 hL, yK18 hL, iK18 hL, rK18_0 hL, rK18_2 hL, rK18_7 hL, rK18_8 hL, rK18_9 hL, rK18_10 hL, rK18_11 hL, rK18_12 hL, yK1 hL, iK1 hL, rK1_0 hL, rK1_1 hL, rK1_2 hL, rK1_3 hL, lm4, lm8, lm10, lm16, lm17, lm26, lm40, lm400, nI_add, nI_1, ix_nI, nI_clamp, gd_T, gd_t, bd_e, bo_e, b2_e, true_and, and_true, hC.tm, he1, ev]
    simp (disch := first | omega | assumption) only [eK_hc, eK_hl, yK5 hL, iK5 hL, rK5_1 hL, rK5_3 hL, rK5_4 hL, gd_T, gd_t, bd_e, bo_e, b2_e, true_and, and_true, (hC.wi v hv).2.1, ite_bI]
    rw [e8, ev, nI_clamp (by omega), ← ev, ← e8]
    have hu8 : z.2 8 (4 * r + p) ≠ -1 := by rw [e8]; exact hu
    by_cases u1 : z.2 10 v = 0
    · rw [decide_eq_true u1, cond_true, decide_eq_true ⟨hu8, u1⟩, Bool.true_and]
      by_cases a1 : z.2 26 (4 * r + p) = -1
      · rw [if_pos a1, if_pos rfl, decide_eq_true a1, Bool.true_or, cond_true]
        exact say
      · rw [if_neg a1, if_neg he0, decide_eq_false a1, Bool.false_or]
        by_cases a2 : z.1 0 - z.2 26 (4 * r + p) < 20
        · rw [if_pos a2, decide_eq_false (Int32.not_le.mpr a2), cond_false]
          exact ⟨V, rfl, hC⟩
        · rw [if_neg a2, decide_eq_true (Int32.not_lt.mp a2), cond_true]
          exact say
    · rw [decide_eq_false u1, cond_false, decide_eq_false (fun w => u1 w.2), Bool.false_and]
      exact ⟨V, rfl, hC⟩
theorem C_askAll (hL : LY L G n Q) (hC : RC n st V Q z) (hO : MO z) (ht : ∃ t, 1 ≤ t ∧ t ≤ 6000 ∧ z.1 0 = nI t) (h1 : r < n) (hp : p < 4) : ∃ V', d_X4_askAll (L.1 9 r 0) (if qpw Q (4 * r + p) ≠ -1 then L.1 18 r p else 0) (eK L G V (RF n L Q)) = some (eK L G V' (RF n L Q)) ∧ RC n st V' Q (quZ z r p) := by
  unfold d_X4_askAll quZ upB
  have e8 : z.2 8 (4 * r + p) = qpw Q (4 * r + p) := by rw [hC.qw]
  by_cases hu : qpw Q (4 * r + p) = -1
  · rw [if_neg (not_not_intro hu), if_pos rfl, e8, decide_eq_false (fun w => w.1 hu), Bool.false_and, Bool.false_and]
    exact ⟨V, rfl, hC⟩
  · rw [if_pos hu, if_neg (zK18 hL h1 hp hu)]
    obtain ⟨v, hv, ev, ez, hm⟩ := port_w hC hO.1 h1 hp hu
    obtain ⟨he0, he1⟩ := hC.qu r p h1 hp hu
    obtain ⟨t, t1, t2, t3⟩ := ht
    have say : ∃ V', d_X4_askAll_46 (L.1 9 r 0) (L.1 18 r p) (eK L G V (RF n L Q)) = some (eK L G V' (RF n L Q)) ∧ RC n st V' Q (uA (pu z (z.2 8 (4 * r + p)) 2 (nI r) (-1) (-1) (-1) 0 0 0).2 27 (4 * r + p) (z.1 0)) := by
      have hC1 : RC n st (uR V 18 r p (va_up (V 18 r p) 6 (z.1 0))) Q (uA z 27 (4 * r + p) (z.1 0)) := RC_he 6 27 (Or.inr ⟨rfl, rfl⟩) hC hp hu (by rw [t3]; exact nI_ne0 (by omega) (by omega)) (by rw [t3]; exact nI_m1 (by omega))
      unfold d_X4_askAll_46
      simp (disch := first | omega | assumption) only [eK_hc, eK_hl, yK9 hL, iK9 hL, rK9_0 hL, rK9_2 hL, rK9_3 hL, yK18 hL, iK18 hL, rK18_0 hL, rK18_2 hL, rK18_7 hL, rK18_8 hL, rK18_9 hL, rK18_10 hL, rK18_11 hL, rK18_12 hL, yK1 hL, iK1 hL, rK1_0 hL, rK1_1 hL, rK1_2 hL, rK1_3 hL, wK18 hL, uR_ne, lm4, lm8, lm10, lm16, lm17, lm26, lm40, lm400, nI_add, nI_1, ix_nI, nI_clamp, gd_T, gd_t, bd_e, bo_e, b2_e, true_and, and_true, hC.tm, (hC.id r h1).1, ev]
      simp (disch := first | omega | assumption) only [eK_hc, eK_hl, yK5 hL, iK5 hL, rK5_1 hL, rK5_3 hL, rK5_4 hL, gd_T, gd_t, bd_e, bo_e, b2_e, true_and, and_true]
      rcases C_open (kd := 2) (se := nI r) hL hC1 (MO_uA hO (by decide)).2.1 hv hm with ⟨V1, f, hT, hf, e, hk, hs, hfr, hb⟩ | ⟨V1, hT, e, hs, hb⟩
      · rw [e, b2_e]
        refine ⟨V1, rfl, RCe (RCv (hb (V1 8 v f) (hk 0 (by decide)) (hk 1 (by decide))) uR_i) ?_⟩
        simp (disch := first | omega | assumption) only [vu_s, vu_n, hk 0 (by decide), hk 1 (by decide), hk 2 (by decide), hk 3 (by decide), hk 4 (by decide), hk 5 (by decide), hk 6 (by decide), hk 7 (by decide), f8]
        rw [cz_o (by decide) (by decide), pu_uA (by decide), ez]
      · rw [e, b2_e]
        refine ⟨V1, rfl, RCe (hb 2 (nI r) (-1) (-1) (-1) 0 0 0).1 ?_⟩
        rw [pu_uA (by decide), ez]
    simp (disch := first | omega | assumption) only [eK_hc, eK_hl, yK9 hL, iK9 hL, rK9_0 hL, rK9_2 hL, rK9_3 hL, yK18 hL, iK18 hL, rK18_0 hL, rK18_2 hL, rK18_7 hL, rK18_8 hL, rK18_9 hL, rK18_10 hL, rK18_11 hL, rK18_12 hL, yK1 hL, iK1 hL, rK1_0 hL, rK1_1 hL, rK1_2 hL, rK1_3 hL, lm4, lm8, lm10, lm16, lm17, lm26, lm40, lm400, nI_add, nI_1, ix_nI, nI_clamp, gd_T, gd_t, bd_e, bo_e, b2_e, true_and, and_true, hC.tm, he1, C_isAsking hL hC h1 hp hu, ev]
    simp (disch := first | omega | assumption) only [eK_hc, eK_hl, yK5 hL, iK5 hL, rK5_1 hL, rK5_3 hL, rK5_4 hL, gd_T, gd_t, bd_e, bo_e, b2_e, true_and, and_true, (hC.wi v hv).2.1, ite_bI]
    rw [e8, ev, nI_clamp (by omega), ← ev, ← e8]
    have hu8 : z.2 8 (4 * r + p) ≠ -1 := by rw [e8]; exact hu
    by_cases u1 : z.2 10 v = 0
    · rw [decide_eq_true u1, cond_true, decide_eq_true ⟨hu8, u1⟩, Bool.true_and]
      cases askg z r p with
      | false => exact ⟨V, rfl, hC⟩
      | true =>
        rw [cond_true, Bool.true_and]
        by_cases a1 : z.2 27 (4 * r + p) = -1
        · rw [if_pos a1, if_pos rfl, decide_eq_true a1, Bool.true_or, cond_true]
          exact say
        · rw [if_neg a1, if_neg he0, decide_eq_false a1, Bool.false_or]
          by_cases a2 : z.1 0 - z.2 27 (4 * r + p) < 25
          · rw [if_pos a2, decide_eq_false (Int32.not_le.mpr a2), cond_false]
            exact ⟨V, rfl, hC⟩
          · rw [if_neg a2, decide_eq_true (Int32.not_lt.mp a2), cond_true]
            exact say
    · rw [decide_eq_false u1, cond_false, decide_eq_false (fun w => u1 w.2), Bool.false_and, Bool.false_and]
      exact ⟨V, rfl, hC⟩
/-! straight ways that end, stops that end -/
theorem bd_none (hR : RC n st V Q z) (h1 : r < n) (h2 : g < 8) (hs : s < 16) (hk0 : V 12 r g 4 = 0) : bdZ z r g s = z := by
  have : strt z r g s = false := by
    unfold strt
    rw [hR.k39 r g s h1 h2 hs (by rw [hk0, b_0]), decide_eq_false (fun w => w rfl)]
  unfold bdZ
  rw [this]
  rfl
theorem C_bd1 (hL : LY L G n Q) (hR : RC n 0 V Q z) (hO : MO z) (h1 : r < n) (h2 : g < 8) (hs : s < 16) (hk0 : V 12 r g 4 ≠ 0) : ∃ V', d_X5_checkStraight_2 (m + 1) (L.1 12 r g) (nI s) (eK L G V (RF n L Q)) = d_X5_checkStraight_2 m (L.1 12 r g) (nI (s + 1)) (eK L G V' (RF n L Q)) ∧ RC n 0 V' Q (bdZ z r g s) := by
  rw [d_X5_checkStraight_2.eq_2, show (16 : Int32) = nI 16 from rfl, if_neg (nI_ge hs (by decide)), eK_hc, gd_t (yK12 hL h1 h2), iK12 hL h1 h2, if_neg hk0, C_isStraight hL hR h1 h2 hs, bo_e, ite_bI, nI_1]
  unfold bdZ
  cases hst : strt z r g s with
  | false => exact ⟨V, rfl, hR⟩
  | true =>
    obtain ⟨f, hlk, e1⟩ := C_look hL hR hO.1 h1 h2 hs
    have hR1 := RC_scr hR hlk.1
    have h15 := (congrFun (uR_s (V := V) (c := 12) (i := r) (j := g) (f := f)) 15).trans hlk.2.2.2.2.2
    have hset : RC n 0 (uR (uR V 12 r g f) 17 r g (va_up (uR V 12 r g f 17 r g) s (-1))) Q (uA z 39 (16 * (8 * r + g) + s) (-1)) := RC_sb hR1 h2 hs (Or.inr rfl)
    have e52 : d_X5_checkStraight_52 (L.1 12 r g) (nI s) (eK L G (uR V 12 r g f) (RF n L Q)) (fun y0 y1 Gy => d_X5_checkStraight_2 m y0 y1 Gy) = d_X5_checkStraight_2 m (L.1 12 r g) (nI (s + 1)) (eK L G (uR (uR V 12 r g f) 17 r g (va_up (uR V 12 r g f 17 r g) s (-1))) (RF n L Q)) := by
      unfold d_X5_checkStraight_52
      simp (disch := first | omega | assumption) only [eK_hc, eK_hl, yK12 hL, iK12 hL, rK12_0 hL, rK12_3 hL, rK12_5 hL, rK12_6 hL, rK12_8 hL, rK12_9 hL, rK12_10 hL, yK17 hL, iK17 hL, lK17 hL, wK17 hL, lm4, lm8, lm10, lm16, lm17, lm26, lm40, lm400, nI_add, nI_1, ix_nI, nI_clamp, gd_T, gd_t, bd_e, bo_e, b2_e, true_and, and_true]
    rw [cond_true, e1, bo_e, eK_hc, gd_t (yK12 hL h1 h2), iK12 hL h1 h2, h15, ite_bI, e52, C_portToSource hL hR1 hO.1 h1 h2 hs, bo_e, Bool.true_and]
    cases hw : wantS z r g s with
    | false =>
      rw [cond_false, Bool.false_and, Bool.not_false, cond_true]
      exact ⟨_, rfl, hset⟩
    | true =>
      rw [cond_true, Bool.true_and]
      simp (disch := first | omega | assumption) only [eK_hc, eK_hl, yK12 hL, iK12 hL, rK12_0 hL, rK12_3 hL, rK12_5 hL, rK12_6 hL, rK12_8 hL, rK12_9 hL, rK12_10 hL, yK17 hL, iK17 hL, lK17 hL, lm4, lm8, lm10, lm16, lm17, lm26, lm40, lm400, nI_add, nI_1, ix_nI, nI_clamp, gd_T, gd_t, bd_e, bo_e, b2_e, true_and, and_true, hR1.sb r g s h1 h2 hs]
      by_cases hp : pS z r s = z.2 39 (16 * (8 * r + g) + s)
      · rw [if_pos hp, decide_eq_true hp, Bool.not_true, cond_false]
        exact ⟨_, rfl, hR1⟩
      · rw [if_neg hp, decide_eq_false hp, Bool.not_false, cond_true]
        exact ⟨_, rfl, hset⟩
theorem C_checkStraight (hL : LY L G n Q) (hC : RC n 0 V Q z) (hO : MO z) (h1 : r < n) (h2 : g < 8) : ∃ V', d_X5_checkStraight (L.1 12 r g) (eK L G V (RF n L Q)) = some (eK L G V' (RF n L Q)) ∧ RC n 0 V' Q (bdG z r g) := by
  refine loopC (N := 16) (f := fun z s => bdZ z r g s) (D := fun m i H => d_X5_checkStraight_2 m (L.1 12 r g) (nI i) H) (K := some) (by decide) (fun m s V hs hR => ?_) (fun m V _ => ?_) hC
  · have hOs := (fo_MO (f := fun z s => bdZ z r g s) (N := 16) (fun y i hy _ _ => ⟨MO_bd hy, te_c (te_uA (by decide)) te_rf⟩) hO s (by omega)).1
    by_cases hk0 : V 12 r g 4 = 0
    · refine Or.inr ⟨V, ?_, RCe hR ?_⟩
      · rw [d_X5_checkStraight_2.eq_2, show (16 : Int32) = nI 16 from rfl, if_neg (nI_ge hs (by decide)), eK_hc, gd_t (yK12 hL h1 h2), iK12 hL h1 h2, if_pos hk0]
      · exact (fo_stop 16 (by omega) (fun i _ hi => bd_none hR h1 h2 hi hk0)).symm
    · exact Or.inl (C_bd1 hL hR hOs h1 h2 hs hk0)
  · rw [d_X5_checkStraight_2.eq_2, show (16 : Int32) = nI 16 from rfl, if_pos (nI_le (by omega) (by decide))]
theorem rm_none (hR : RC n st V Q z) (h1 : r < n) (h2 : g < 8) (hs : s < 16) (hk0 : V 12 r g 4 = 0) : rmZ z r g s = z := by
  have : kept z r g s = false := by
    unfold kept
    exact decide_eq_false (Int32.not_lt.mpr (hR.k37 r g s h1 h2 hs (by rw [hk0, b_0])))
  unfold rmZ
  rw [this]
  simp
theorem C_rm1 (hL : LY L G n Q) (hR : RC n 0 V Q z) (hO : MO z) (h1 : r < n) (h2 : g < 8) (hs : s < 16) (hk0 : V 12 r g 4 ≠ 0) : ∃ V', d_X5_probe_2 (m + 1) (L.1 12 r g) (nI s) (eK L G V (RF n L Q)) = d_X5_probe_2 m (L.1 12 r g) (nI (s + 1)) (eK L G V' (RF n L Q)) ∧ RC n 0 V' Q (rmZ z r g s) := by
  rw [d_X5_probe_2.eq_2, show (16 : Int32) = nI 16 from rfl, if_neg (nI_ge hs (by decide)), eK_hc, gd_t (yK12 hL h1 h2), iK12 hL h1 h2, if_neg hk0]
  simp (disch := first | omega | assumption) only [eK_hc, eK_hl, yK12 hL, iK12 hL, rK12_0 hL, rK12_3 hL, rK12_5 hL, rK12_6 hL, rK12_8 hL, rK12_9 hL, rK12_10 hL, yK16 hL, iK16 hL, lK16 hL, yK15 hL, iK15 hL, lK15 hL, yK1 hL, iK1 hL, rK1_0 hL, rK1_1 hL, rK1_2 hL, rK1_3 hL, lm4, lm8, lm10, lm16, lm17, lm26, lm40, lm400, nI_add, nI_1, ix_nI, nI_clamp, gd_T, gd_t, bd_e, bo_e, b2_e, true_and, and_true, hR.tm, hR.sp r g s h1 h2 hs, hR.kp r g s h1 h2 hs]
  unfold rmZ kept
  have no53 : d_X5_probe_53 (L.1 12 r g) (nI s) (eK L G V (RF n L Q)) (fun y0 y1 Gy => d_X5_probe_2 m y0 y1 Gy) = d_X5_probe_2 m (L.1 12 r g) (nI (s + 1)) (eK L G V (RF n L Q)) := by
    unfold d_X5_probe_53 d_X5_probe_54
    rw [if_pos rfl, nI_1]
  rw [no53]
  by_cases c1 : z.2 38 (16 * (8 * r + g) + s) = z.1 0 + 5
  · rw [if_pos c1, decide_eq_true c1, Bool.true_and]
    by_cases c2 : z.2 37 (16 * (8 * r + g) + s) ≤ z.1 0
    · rw [if_pos c2, decide_eq_false (Int32.not_lt.mpr c2)]
      exact ⟨V, rfl, RCe hR (by simp)⟩
    · rw [if_neg c2, decide_eq_true (Int32.not_le.mp c2), Bool.true_and]
      unfold d_X5_probe_54
      rw [if_neg (by decide), eK_hc, gd_t (yK12 hL h1 h2), C_mayTunnel hL hR hO.1 h1 h2 hs, bo_e, ite_bI, nI_1]
      unfold tuB
      cases hb : (decide (nI r ≠ z.2 12 g) && dirS z r s && fst z r (pS z r s).toNatClampNeg) with
      | false => exact ⟨V, rfl, hR⟩
      | true =>
        obtain ⟨V1, e, hR1⟩ := C_startTunnel (nu := 0) (li := 0) hL hR hO h1 h2 hs
        rw [cond_true, e, bo_e, cond_true]
        exact ⟨V1, rfl, hR1⟩
  · rw [if_neg c1, decide_eq_false c1]
    exact ⟨V, rfl, RCe hR (by simp)⟩
theorem C_probe (hL : LY L G n Q) (hC : RC n 0 V Q z) (hO : MO z) (h1 : r < n) (h2 : g < 8) : ∃ V', d_X5_probe (L.1 12 r g) (eK L G V (RF n L Q)) = some (eK L G V' (RF n L Q)) ∧ RC n 0 V' Q (rmG z r g) := by
  refine loopC (N := 16) (f := fun z s => rmZ z r g s) (D := fun m i H => d_X5_probe_2 m (L.1 12 r g) (nI i) H) (K := some) (by decide) (fun m s V hs hR => ?_) (fun m V _ => ?_) hC
  · have hOs := (fo_MO (f := fun z s => rmZ z r g s) (N := 16) (fun y i hy _ _ => ⟨MO_rm hy, te_c te_tu te_rf⟩) hO s (by omega)).1
    by_cases hk0 : V 12 r g 4 = 0
    · refine Or.inr ⟨V, ?_, RCe hR ?_⟩
      · rw [d_X5_probe_2.eq_2, show (16 : Int32) = nI 16 from rfl, if_neg (nI_ge hs (by decide)), eK_hc, gd_t (yK12 hL h1 h2), iK12 hL h1 h2, if_pos hk0]
      · exact (fo_stop 16 (by omega) (fun i _ hi => rm_none hR h1 h2 hi hk0)).symm
    · exact Or.inl (C_rm1 hL hR hOs h1 h2 hs hk0)
  · rw [d_X5_probe_2.eq_2, show (16 : Int32) = nI 16 from rfl, if_pos (nI_le (by omega) (by decide))]
end
