/-! THE CLASS'S PORTS: what is asked of them -/
theorem RC.nr {n : Nat} {st : Int32} {V : Vt} {Q : Qt} {z : Sg} (h : RC n st V Q z) : nR z = n := by
  unfold nR
  rw [h.nn.1, nI_clamp (by have := h.nn.2.2.2; omega)]
theorem nI_n16 {x : Nat} (h : x < 17) (hx : x ≠ 16) : ¬ nI x = (16 : Int32) := fun w => hx ((nI_eq (b := 16) (by omega) (by decide)).mp w)
theorem le_nlt {a b : Int32} {α : Type} {u v : α} : (if a ≤ b then u else v) = cond (decide (b < a)) v u := by
  rw [lt_ite]
  by_cases h : b < a <;> simp [h]
section
variable {L : Ly} {G : Hp} {n : Nat} {st : Int32} {V : Vt} {Q : Qt} {z : Sg} {r p q g s x : Nat}
theorem C_hasMembers (hL : LY L G n Q) (hC : RC n st V Q z) (h1 : r < n) (h2 : p < 4) (h3 : qpw Q (4 * r + p) ≠ -1) (h4 : g < 8) : d_X3_hasMembers (L.1 18 r p) (nI g) (eK L G V (RF n L Q)) = some (bI (mem z (4 * r + p) g)) := by
  unfold d_X3_hasMembers mem
  simp (disch := first | omega | assumption) only [eK_hc, eK_hl, yK18 hL, iK18 hL, rK18_0 hL, rK18_2 hL, rK18_7 hL, rK18_8 hL, rK18_9 hL, rK18_10 hL, rK18_11 hL, rK18_12 hL, yK20 hL, iK20 hL, lK20 hL, yK1 hL, iK1 hL, rK1_0 hL, rK1_1 hL, rK1_2 hL, rK1_3 hL, lm4, lm8, lm10, lm16, lm17, lm26, lm40, lm400, nI_add, nI_1, ix_nI, nI_clamp, gd_T, gd_t, bd_e, bo_e, b2_e, true_and, and_true, hC.tm, hC.mb r p g h1 h2 h3 h4, lt_ite]
  exact dec_10
theorem nb_own (hF : WF z) (hO : cOn (z.2 25)) (h1 : r < 10) (h2 : p < 4) : nb z (4 * r + p) r = false := by
  unfold nb
  rw [hO r p h1 h2]
  exact decide_eq_false (Int32.not_lt.mpr hF.t0)
theorem fst_e (hF : WF z) (hC : RC n st V Q z) (h1 : r < n) (h2 : p < 4) : (nbits z (4 * r + p) >>> (nI (r + 1) &&& 31) = 0) ↔ (nbits z (4 * r + p) >>> (nI r &&& 31) = 0) := by
  have hn := hC.nn.2.2.2
  have hr := hC.nr
  rw [b_sh0 (by omega), b_sh0 (by omega)]
  constructor
  · intro h k hk h32
    by_cases hkr : k = r
    · rw [b_nbits (by omega) h32, hkr, nb_own hF hC.on (by omega) h2, Bool.and_false]
    · exact h k (by omega) h32
  · intro h k hk h32
    exact h k (by omega) h32
theorem C_isFirst (hL : LY L G n Q) (hC : RC n st V Q z) (hF : WF z) (h1 : r < n) (h2 : p < 4) (h3 : qpw Q (4 * r + p) ≠ -1) : d_X3_isFirst (L.1 18 r p) (eK L G V (RF n L Q)) = some (bI (fst z r p)) := by
  unfold d_X3_isFirst fst
  simp (disch := first | omega | assumption) only [eK_hc, eK_hl, yK18 hL, iK18 hL, rK18_0 hL, rK18_2 hL, rK18_7 hL, rK18_8 hL, rK18_9 hL, rK18_10 hL, rK18_11 hL, rK18_12 hL, lm4, lm8, lm10, lm16, lm17, lm26, lm40, lm400, nI_add, nI_1, ix_nI, nI_clamp, gd_T, gd_t, bd_e, bo_e, b2_e, true_and, and_true, (hC.pt r p h1 h2 h3).1, hC.nb r p h1 h2 h3]
  by_cases h : nbits z (4 * r + p) >>> (nI (r + 1) &&& 31) = 0
  · rw [if_pos h, decide_eq_true ((fst_e hF hC h1 h2).mp h)]
    rfl
  · rw [if_neg h, decide_eq_false (fun w => h ((fst_e hF hC h1 h2).mpr w))]
    rfl
theorem C_isAsking (hL : LY L G n Q) (hC : RC n st V Q z) (h1 : r < n) (h2 : p < 4) (h3 : qpw Q (4 * r + p) ≠ -1) : d_X3_isAsking (L.1 18 r p) (eK L G V (RF n L Q)) = some (bI (askg z r p)) := by
  unfold d_X3_isAsking askg
  simp (disch := first | omega | assumption) only [eK_hc, eK_hl, yK18 hL, iK18 hL, rK18_0 hL, rK18_2 hL, rK18_7 hL, rK18_8 hL, rK18_9 hL, rK18_10 hL, rK18_11 hL, rK18_12 hL, gd_T, gd_t, bd_e, bo_e, b2_e, true_and, and_true, (hC.pt r p h1 h2 h3).1, hC.nb r p h1 h2 h3]
  exact dec_10
theorem C_timeToObject (hL : LY L G n Q) (hC : RC n st V Q z) (h1 : r < n) (h2 : p < 4) (h3 : qpw Q (4 * r + p) ≠ -1) : d_X3_timeToObject (L.1 18 r p) (eK L G V (RF n L Q)) = some (cond (two z r p) 3 0) := by
  unfold d_X3_timeToObject two
  have e := bc_nb (z := z) (j := 4 * r + p) (by have := hC.nr; have := hC.nn.2.2.2; omega)
  simp (disch := first | omega | assumption) only [eK_hc, eK_hl, yK18 hL, iK18 hL, rK18_0 hL, rK18_2 hL, rK18_7 hL, rK18_8 hL, rK18_9 hL, rK18_10 hL, rK18_11 hL, rK18_12 hL, gd_T, gd_t, bd_e, bo_e, b2_e, true_and, and_true, hC.nb r p h1 h2 h3, bc_e]
  by_cases h : bcN (nbits z (4 * r + p)) < 2
  · rw [decide_eq_true h] at e
    rw [if_pos h, decide_eq_false (fun w => w (of_decide_eq_true e.symm))]
    rfl
  · rw [decide_eq_false h] at e
    have h2 : nbits z (4 * r + p) &&& (nbits z (4 * r + p) - 1) ≠ 0 := fun w => by rw [decide_eq_true w] at e; cases e
    rw [if_neg h, decide_eq_true h2]
    rfl
theorem C_isOwn (hL : LY L G n Q) (hC : RC n st V Q z) (hF : WF z) (h1 : r < n) (h2 : p < 4) (h3 : qpw Q (4 * r + p) ≠ -1) (h4 : g < 8) : d_X3_isOwn (L.1 18 r p) (nI g) (eK L G V (RF n L Q)) = some (bI (own z r p g)) := by
  unfold d_X3_isOwn own
  simp (disch := first | omega | assumption) only [eK_hc, eK_hl, yK18 hL, iK18 hL, rK18_0 hL, rK18_2 hL, rK18_7 hL, rK18_8 hL, rK18_9 hL, rK18_10 hL, rK18_11 hL, rK18_12 hL, gd_T, gd_t, bd_e, bo_e, b2_e, true_and, and_true, C_hasMembers hL hC h1 h2 h3 h4, C_isFirst hL hC hF h1 h2 h3, ite_bI]
  cases mem z (4 * r + p) g <;> cases fst z r p <;> rfl
theorem C_isJoined (hL : LY L G n Q) (hC : RC n st V Q z) (h1 : r < n) (h2 : p < 4) (h3 : qpw Q (4 * r + p) ≠ -1) (h4 : g < 8) (h5 : x < 17) : d_X3_isJoined (L.1 18 r p) (nI g) (nI x) (eK L G V (RF n L Q)) = some (bI (jn z (4 * r + p) g (yx x))) := by
  unfold d_X3_isJoined jn
  simp (disch := first | omega | assumption) only [eK_hc, eK_hl, yK18 hL, iK18 hL, rK18_0 hL, rK18_2 hL, rK18_7 hL, rK18_8 hL, rK18_9 hL, rK18_10 hL, rK18_11 hL, rK18_12 hL, yK21 hL, iK21 hL, lK21 hL, yK1 hL, iK1 hL, rK1_0 hL, rK1_1 hL, rK1_2 hL, rK1_3 hL, rm17, lm4, lm8, lm10, lm16, lm17, lm26, lm40, lm400, nI_add, nI_1, ix_nI, nI_clamp, gd_T, gd_t, bd_e, bo_e, b2_e, true_and, and_true, hC.tm, hC.jt r p g x h1 h2 h3 h4 h5, lt_ite]
  exact dec_10
theorem C_isJoined0 (hL : LY L G n Q) (hC : RC n st V Q z) (h1 : r < n) (h2 : p < 4) (h3 : qpw Q (4 * r + p) ≠ -1) (h4 : g < 8) : d_X3_isJoined (L.1 18 r p) (nI g) 16 (eK L G V (RF n L Q)) = some (bI (jn z (4 * r + p) g 0)) := C_isJoined (x := 16) hL hC h1 h2 h3 h4 (by decide)
theorem C_whenJoinEnds (hL : LY L G n Q) (hC : RC n st V Q z) (h1 : r < n) (h2 : p < 4) (h3 : qpw Q (4 * r + p) ≠ -1) (h4 : g < 8) (h5 : x < 17) : d_X3_whenJoinEnds (L.1 18 r p) (nI g) (nI x) (eK L G V (RF n L Q)) = some (cond (jn z (4 * r + p) g (yx x)) (z.2 29 (17 * (8 * (4 * r + p) + g) + yx x)) 0) := by
  unfold d_X3_whenJoinEnds
  simp (disch := first | omega | assumption) only [eK_hc, eK_hl, yK18 hL, iK18 hL, rK18_0 hL, rK18_2 hL, rK18_7 hL, rK18_8 hL, rK18_9 hL, rK18_10 hL, rK18_11 hL, rK18_12 hL, yK21 hL, iK21 hL, lK21 hL, yK1 hL, iK1 hL, rK1_0 hL, rK1_1 hL, rK1_2 hL, rK1_3 hL, rm17, lm4, lm8, lm10, lm16, lm17, lm26, lm40, lm400, nI_add, nI_1, ix_nI, nI_clamp, gd_T, gd_t, bd_e, bo_e, b2_e, true_and, and_true, C_isJoined hL hC h1 h2 h3 h4 h5, hC.jt r p g x h1 h2 h3 h4 h5, ite_bI]
  cases jn z (4 * r + p) g (yx x) <;> rfl
theorem C_isCutOff (hL : LY L G n Q) (hC : RC n st V Q z) (h1 : r < n) (h2 : p < 4) (h3 : qpw Q (4 * r + p) ≠ -1) (h4 : g < 8) (h5 : s < 16) : d_X3_isCutOff (L.1 18 r p) (nI g) (nI s) (eK L G V (RF n L Q)) = some (bI (cutO z (4 * r + p) g s)) := by
  unfold d_X3_isCutOff cutO cutT
  obtain ⟨c1, c2⟩ := hC.cf r p g s h1 h2 h3 h4 h5
  simp (disch := first | omega | assumption) only [eK_hc, eK_hl, yK18 hL, iK18 hL, rK18_0 hL, rK18_2 hL, rK18_7 hL, rK18_8 hL, rK18_9 hL, rK18_10 hL, rK18_11 hL, rK18_12 hL, yK22 hL, iK22 hL, lK22 hL, yK1 hL, iK1 hL, rK1_0 hL, rK1_1 hL, rK1_2 hL, rK1_3 hL, rm16, lm4, lm8, lm10, lm16, lm17, lm26, lm40, lm400, nI_add, nI_1, ix_nI, nI_clamp, gd_T, gd_t, bd_e, bo_e, b2_e, true_and, and_true, C_isJoined0 hL hC h1 h2 h3 h4, c2, hC.tm, ite_bI]
  by_cases a1 : z.2 30 (16 * (8 * (4 * r + p) + g) + s) = -1
  · rw [if_pos a1, if_pos rfl, decide_eq_false (fun w => w.1 a1), Bool.and_false]
    rfl
  · rw [if_neg a1, if_neg c1]
    by_cases a2 : z.1 0 < z.2 30 (16 * (8 * (4 * r + p) + g) + s)
    · rw [if_pos a2, decide_eq_false (fun w => (Int32.not_le.mpr a2) w.2), Bool.and_false]
      rfl
    · rw [if_neg a2, decide_eq_true ⟨a1, Int32.not_lt.mp a2⟩, Bool.and_true]
      cases jn z (4 * r + p) g 0 <;> rfl
theorem C_isShared (hL : LY L G n Q) (hC : RC n st V Q z) (h1 : r < n) (h2 : p < 4) (h3 : qpw Q (4 * r + p) ≠ -1) (h4 : g < 8) (h5 : s < 16) : d_X3_isShared (L.1 18 r p) (nI g) (nI s) (eK L G V (RF n L Q)) = some (bI (jn z (4 * r + p) g 0 && !cutO z (4 * r + p) g s)) := by
  unfold d_X3_isShared
  simp (disch := first | omega | assumption) only [eK_hc, eK_hl, yK18 hL, iK18 hL, rK18_0 hL, rK18_2 hL, rK18_7 hL, rK18_8 hL, rK18_9 hL, rK18_10 hL, rK18_11 hL, rK18_12 hL, gd_T, gd_t, bd_e, bo_e, b2_e, true_and, and_true, C_isJoined0 hL hC h1 h2 h3 h4, C_isCutOff hL hC h1 h2 h3 h4 h5, ite_bI]
  cases jn z (4 * r + p) g 0 <;> cases cutO z (4 * r + p) g s <;> rfl
theorem C_keptClaim (hL : LY L G n Q) (hC : RC n st V Q z) (hF : WF z) (h1 : r < n) (h2 : p < 4) (h3 : qpw Q (4 * r + p) ≠ -1) (h4 : g < 8) (h5 : s < 16) : d_X3_keptClaim (L.1 18 r p) (nI g) (nI s) (eK L G V (RF n L Q)) = some (clm z (4 * r + p) g s) := by
  have hn := hC.nn.2.2.2
  have hr := hC.nr
  unfold d_X3_keptClaim clm
  obtain ⟨c1, c2⟩ := hC.cl r p g s h1 h2 h3 h4 h5
  by_cases a1 : z.2 31 (16 * (8 * (4 * r + p) + g) + s) = -1
  · simp (disch := first | omega | assumption) only [eK_hc, eK_hl, yK18 hL, iK18 hL, rK18_0 hL, rK18_2 hL, rK18_7 hL, rK18_8 hL, rK18_9 hL, rK18_10 hL, rK18_11 hL, rK18_12 hL, yK24 hL, iK24 hL, lK24 hL, yK1 hL, iK1 hL, rK1_0 hL, rK1_1 hL, rK1_2 hL, rK1_3 hL, rm16, lm4, lm8, lm10, lm16, lm17, lm26, lm40, lm400, nI_add, nI_1, ix_nI, nI_clamp, gd_T, gd_t, bd_e, bo_e, b2_e, true_and, and_true, hC.tm, c1 a1]
    rw [if_pos hF.t0, if_neg (fun w => w.1 a1)]
  · obtain ⟨d1, d2⟩ := c2 a1
    obtain ⟨q, hq, eq⟩ := clm_mod hF (show 16 * (8 * (4 * r + p) + g) + s < 5120 by omega) a1
    simp (disch := first | omega | assumption) only [eK_hc, eK_hl, yK18 hL, iK18 hL, rK18_0 hL, rK18_2 hL, rK18_7 hL, rK18_8 hL, rK18_9 hL, rK18_10 hL, rK18_11 hL, rK18_12 hL, yK23 hL, iK23 hL, lK23 hL, yK24 hL, iK24 hL, lK24 hL, yK1 hL, iK1 hL, rK1_0 hL, rK1_1 hL, rK1_2 hL, rK1_3 hL, rm16, lm4, lm8, lm10, lm16, lm17, lm26, lm40, lm400, nI_add, nI_1, ix_nI, nI_clamp, gd_T, gd_t, bd_e, bo_e, b2_e, true_and, and_true, hC.tm, d1, d2, eq, hC.nb r p h1 h2 h3, C_has (show q < 32 by omega), b_nbits (show nR z ≤ 10 by omega) (show q < 32 by omega), ite_bI]
    by_cases a2 : z.1 0 < z.2 32 (16 * (8 * (4 * r + p) + g) + s)
    · rw [if_neg (Int32.not_le.mpr a2), decide_eq_true hq, Bool.true_and]
      cases a3 : nb z (4 * r + p) q with
      | true => rw [if_pos ⟨a1, a2, rfl⟩]; rfl
      | false => rw [if_neg (fun w => by cases w.2.2)]; rfl
    · rw [if_pos (Int32.not_lt.mp a2), if_neg (fun w => a2 w.2.1)]
theorem C_isLost {o : Int32} (hL : LY L G n Q) (hC : RC n st V Q z) (hF : WF z) (h1 : r < n) (h2 : p < 4) (h3 : qpw Q (4 * r + p) ≠ -1) (h4 : g < 8) (h5 : s < 16) : d_X3_isLost (L.1 18 r p) (nI g) (nI s) o (eK L G V (RF n L Q)) = some (bI (decide (clm z (4 * r + p) g s ≠ -1) && better (clm z (4 * r + p) g s) o)) := by
  unfold d_X3_isLost
  simp (disch := first | omega | assumption) only [eK_hc, eK_hl, yK18 hL, iK18 hL, rK18_0 hL, rK18_2 hL, rK18_7 hL, rK18_8 hL, rK18_9 hL, rK18_10 hL, rK18_11 hL, rK18_12 hL, gd_T, gd_t, bd_e, bo_e, b2_e, true_and, and_true, C_keptClaim hL hC hF h1 h2 h3 h4 h5, C_isBetter, ite_bI]
  by_cases a1 : clm z (4 * r + p) g s = -1
  · rw [if_pos a1, decide_eq_false (not_not_intro a1)]
    rfl
  · rw [if_neg a1, decide_eq_true a1]
    cases better (clm z (4 * r + p) g s) o <;> rfl
theorem C_claimant (hL : LY L G n Q) (hC : RC n st V Q z) (hF : WF z) (h1 : r < n) (h2 : p < 4) (h3 : qpw Q (4 * r + p) ≠ -1) (h4 : g < 8) (h5 : s < 16) : d_X3_claimant (L.1 18 r p) (nI g) (nI s) (eK L G V (RF n L Q)) = some (if clm z (4 * r + p) g s = -1 then -1 else clm z (4 * r + p) g s - clm z (4 * r + p) g s / 100 * 100) := by
  unfold d_X3_claimant
  simp (disch := first | omega | assumption) only [eK_hc, eK_hl, yK18 hL, iK18 hL, rK18_0 hL, rK18_2 hL, rK18_7 hL, rK18_8 hL, rK18_9 hL, rK18_10 hL, rK18_11 hL, rK18_12 hL, gd_T, gd_t, bd_e, bo_e, b2_e, true_and, and_true, C_keptClaim hL hC hF h1 h2 h3 h4 h5]
  split <;> rfl
/-- whether a port holds anything of a tree -/
def hoP (z : Sg) (j g x : Nat) : Bool := jn z j g (yx x) || (if x = 16 then mem z j g else (decide (z.2 31 (16 * (8 * j + g) + x) ≠ -1 ∧ z.1 0 < z.2 32 (16 * (8 * j + g) + x)) || (decide (z.2 30 (16 * (8 * j + g) + x) ≠ -1) && jn z j g 0)))
theorem C_holdsP (hL : LY L G n Q) (hC : RC n st V Q z) (hF : WF z) (h1 : r < n) (h2 : p < 4) (h3 : qpw Q (4 * r + p) ≠ -1) (h4 : g < 8) (h5 : x < 17) : d_X3_holds (L.1 18 r p) (nI g) (nI x) (eK L G V (RF n L Q)) = some (bI (hoP z (4 * r + p) g x)) := by
  unfold d_X3_holds hoP
  simp (disch := first | omega | assumption) only [eK_hc, eK_hl, yK18 hL, iK18 hL, rK18_0 hL, rK18_2 hL, rK18_7 hL, rK18_8 hL, rK18_9 hL, rK18_10 hL, rK18_11 hL, rK18_12 hL, gd_T, gd_t, bd_e, bo_e, b2_e, true_and, and_true, C_isJoined hL hC h1 h2 h3 h4 h5, C_isJoined0 hL hC h1 h2 h3 h4, C_hasMembers hL hC h1 h2 h3 h4, ite_bI, bI_and1]
  cases jn z (4 * r + p) g (yx x) with
  | true => rfl
  | false =>
    rw [cond_false, Bool.false_or]
    by_cases hx : x = 16
    · subst hx
      rw [if_pos (show nI 16 = 16 from rfl), if_pos rfl]
    · have hs : x < 16 := by omega
      rw [if_neg (nI_n16 (by omega) hx), if_neg hx]
      obtain ⟨c1, c2⟩ := hC.cl r p g x h1 h2 h3 h4 hs
      obtain ⟨d1, d2⟩ := hC.cf r p g x h1 h2 h3 h4 hs
      have k30 : (if (if z.2 30 (16 * (8 * (4 * r + p) + g) + x) = -1 then (0 : Int32) else z.2 30 (16 * (8 * (4 * r + p) + g) + x)) = 0 then some (0 : Int32) else cond (jn z (4 * r + p) g 0) (some 1) (some 0)) = some (bI (decide (z.2 30 (16 * (8 * (4 * r + p) + g) + x) ≠ -1) && jn z (4 * r + p) g 0)) := by
        by_cases a1 : z.2 30 (16 * (8 * (4 * r + p) + g) + x) = -1
        · rw [if_pos a1, if_pos rfl, decide_eq_false (not_not_intro a1)]
          rfl
        · rw [if_neg a1, if_neg d1, decide_eq_true a1]
          cases jn z (4 * r + p) g 0 <;> rfl
      by_cases a1 : z.2 31 (16 * (8 * (4 * r + p) + g) + x) = -1
      · simp (disch := first | omega | assumption) only [eK_hc, eK_hl, yK18 hL, iK18 hL, rK18_0 hL, rK18_2 hL, rK18_7 hL, rK18_8 hL, rK18_9 hL, rK18_10 hL, rK18_11 hL, rK18_12 hL, yK22 hL, iK22 hL, lK22 hL, yK24 hL, iK24 hL, lK24 hL, yK1 hL, iK1 hL, rK1_0 hL, rK1_1 hL, rK1_2 hL, rK1_3 hL, rm16, lm4, lm8, lm10, lm16, lm17, lm26, lm40, lm400, nI_add, nI_1, ix_nI, nI_clamp, gd_T, gd_t, bd_e, bo_e, b2_e, true_and, and_true, hC.tm, c1 a1, d2]
        rw [if_neg (Int32.not_lt.mpr hF.t0), decide_eq_false (fun w => w.1 a1), Bool.false_or]
        exact k30
      · obtain ⟨e1, e2⟩ := c2 a1
        simp (disch := first | omega | assumption) only [eK_hc, eK_hl, yK18 hL, iK18 hL, rK18_0 hL, rK18_2 hL, rK18_7 hL, rK18_8 hL, rK18_9 hL, rK18_10 hL, rK18_11 hL, rK18_12 hL, yK22 hL, iK22 hL, lK22 hL, yK24 hL, iK24 hL, lK24 hL, yK1 hL, iK1 hL, rK1_0 hL, rK1_1 hL, rK1_2 hL, rK1_3 hL, rm16, lm4, lm8, lm10, lm16, lm17, lm26, lm40, lm400, nI_add, nI_1, ix_nI, nI_clamp, gd_T, gd_t, bd_e, bo_e, b2_e, true_and, and_true, hC.tm, e2, d2]
        by_cases a2 : z.1 0 < z.2 32 (16 * (8 * (4 * r + p) + g) + x)
        · rw [if_pos a2, decide_eq_true ⟨a1, a2⟩, Bool.true_or]
          rfl
        · rw [if_neg a2, decide_eq_false (fun w => a2 w.2), Bool.false_or]
          exact k30
end
