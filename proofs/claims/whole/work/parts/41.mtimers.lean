/-! the timers of a router -/
def bdZ (z : Sg) (r g s : Nat) : Sg := cond (strt z r g s && !(wantS z r g s && decide (pS z r s = z.2 39 (16 * (8 * r + g) + s)))) (uA z 39 (16 * (8 * r + g) + s) (-1)) z
def rmZ (z : Sg) (r g s : Nat) : Sg := cond (decide (z.2 38 (16 * (8 * r + g) + s) = z.1 0 + 5) && kept z r g s && decide (nI r ≠ z.2 12 g) && dirS z r s && fst z r (pS z r s).toNatClampNeg) (tuZ z r g (nI s) 0 0) z
def upY (z : Sg) (r g y : Nat) : Int32 := if y = 0 then upM z r g else upS z r g (y - 1)
def wantY (z : Sg) (r g y : Nat) : Bool := if y = 0 then want0 z r g else wantS z r g (y - 1)
/-- prunes, if it has joined by another -/
def cm1 (z : Sg) (r g y : Nat) (u : Int32) : Sg := if z.2 33 (17 * (8 * r + g) + y) = -1 ∨ 16 * z.2 33 (17 * (8 * r + g) + y) + z.2 34 (17 * (8 * r + g) + y) = u then z else uA (uA (pu z (z.2 8 (4 * r + (z.2 33 (17 * (8 * r + g) + y)).toNatClampNeg)) 6 (nI r) (z.2 34 (17 * (8 * r + g) + y)) (nI g) (if y = 0 then -1 else nI (y - 1)) 0 0 0).2 33 (17 * (8 * r + g) + y) (-1)) 34 (17 * (8 * r + g) + y) (-1)
/-- joins anew -/
def cm3 (z : Sg) (r g y : Nat) (u bits : Int32) : Sg := sjZ (if y = 0 then uA (uA (uA z 33 (17 * (8 * r + g) + y) (u / 16)) 34 (17 * (8 * r + g) + y) (u - u / 16 * 16)) 36 (8 * r + g) bits else uA (uA z 33 (17 * (8 * r + g) + y) (u / 16)) 34 (17 * (8 * r + g) + y) (u - u / 16 * 16)) r g y
def due (z : Sg) (r g y : Nat) (bits : Int32) : Bool := decide (z.2 33 (17 * (8 * r + g) + y) = -1) || decide (20 ≤ z.1 0 - z.2 35 (17 * (8 * r + g) + y)) || (decide (y = 0) && decide (bits ≠ z.2 36 (8 * r + g)))
def cm2 (z : Sg) (r g y : Nat) (u : Int32) : Sg := if u = -1 then z else cond (due z r g y (if y = 0 then tcB z r g else 0)) (cm3 z r g y u (if y = 0 then tcB z r g else 0)) z
def cmZ (z : Sg) (r g y : Nat) : Sg := cm2 (cm1 z r g y (cond (wantY z r g y) (upY z r g y) (-1))) r g y (cond (wantY z r g y) (upY z r g y) (-1))
section
variable {x : Nat} {G : Hp} {z w : Sg} {r p q g s y k : Nat}
theorem M_bend (hM : MS x G) (hO : MO z) (hK : ∀ z, WF z → RK x G z) (hw : Cns z w) (h1 : r < nR z) (h3 : g < 8) (h4 : s < 16) : ∃ w', Cns (bdZ z r g s) w' ∧ d_X9_bend x (nI r) (nI g) (nI s) (em2 x G z w) = some (em2 x G (bdZ z r g s) w') := by
  have hn := hO.1.1
  obtain ⟨w1, hw1, e1⟩ := M_wantsSource hM hO.1 (hK z hO.1) hw h1 h3 h4
  obtain ⟨w2, hf2, e2⟩ := M_toSource hM hO.1 (hK z hO.1) hw1 (show r < 10 by omega) h4
  unfold d_X9_bend d_X9_bend_55 bdZ
  simp (disch := omega) only [e1, e2, M_portS hM hO.1 hf2 h1 h4, e2_hc, e2_hr, e2_hl, ms0, ms1, ms2, ms3, ms4, ms5, ms6, ms7, ms21, hM.1, mc39 hM, ml39 hM, mr39 hM, lm4, lm8, lm10, lm16, lm17, lm26, lm40, lm400, nI_add, nI_1, ix_nI, nI_clamp, gd_T, gd_t, bd_e, bo_e, b2_e, true_and, and_true, mu39 hM, ite_bI]
  by_cases c1 : z.2 39 (16 * (8 * r + g) + s) = -1
  · have e3 : strt z r g s = false := decide_eq_false (not_not_intro c1)
    rw [if_pos c1, e3, Bool.false_and, cond_false]
    exact ⟨w, hw, rfl⟩
  · have e3 : strt z r g s = true := decide_eq_true c1
    rw [if_neg c1, e3, Bool.true_and]
    cases wantS z r g s with
    | false =>
      rw [cond_false, Bool.false_and, Bool.not_false, cond_true]
      exact ⟨w1, te_Cns (te_uA (by decide)) hw1, rfl⟩
    | true =>
      rw [cond_true, Bool.true_and]
      by_cases c2 : pS z r s = z.2 39 (16 * (8 * r + g) + s)
      · rw [if_pos c2, decide_eq_true c2, Bool.not_true, cond_false]
        exact ⟨w2, hf2.cns, rfl⟩
      · rw [if_neg c2, decide_eq_false c2, Bool.not_false, cond_true]
        exact ⟨w2, te_Cns (te_uA (by decide)) hf2.cns, rfl⟩
theorem MO_bd (h : MO z) : MO (bdZ z r g s) := MO_c (MO_uA h (by decide)) h
theorem te_bd : TE (bdZ z r g s) z := te_c (te_uA (by decide)) te_rf
theorem M_remind (hM : MS x G) (hO : MO z) (hK : ∀ z, WF z → RK x G z) (hw : Cns z w) (h1 : r < nR z) (h3 : g < 8) (h4 : s < 16) : ∃ w', Cns (rmZ z r g s) w' ∧ d_X9_remind x (nI r) (nI g) (nI s) (em2 x G z w) = some (em2 x G (rmZ z r g s) w') := by
  have hn := hO.1.1
  obtain ⟨w1, hf1, e1⟩ := M_isDirect hM hO.1 (hK z hO.1) hw h1 h4
  obtain ⟨w2, hf2, e2⟩ := M_toSource hM hO.1 (hK z hO.1) hf1.cns (show r < 10 by omega) h4
  obtain ⟨w3, hw3, e3⟩ := M_sendTunnel (s := s) (nu := 0) (li := 0) hM hO (hK z hO.1) hf2.cns h1 h3
  unfold d_X9_remind rmZ
  simp (disch := omega) only [e1, e2, e3, M_isKept hM (show r < 10 by omega) h3 h4, M_portS hM hO.1 hf2 h1 h4, e2_hc, e2_hr, e2_hl, ms0, ms1, ms2, ms3, ms4, ms5, ms6, ms7, ms21, hM.1, mc38 hM, ml38 hM, mr38 hM, mc12 hM, ml12 hM, mr12 hM, lm4, lm8, lm10, lm16, lm17, lm26, lm40, lm400, nI_add, nI_1, ix_nI, nI_clamp, gd_T, gd_t, bd_e, bo_e, b2_e, true_and, and_true, ite_bI]
  by_cases c1 : z.2 38 (16 * (8 * r + g) + s) = z.1 0 + 5
  · rw [if_pos c1, decide_eq_true c1, Bool.true_and]
    cases kept z r g s with
    | false =>
      rw [cond_false, Bool.false_and, Bool.false_and, Bool.false_and, cond_false]
      exact ⟨w, hw, rfl⟩
    | true =>
      rw [cond_true, Bool.true_and]
      by_cases c2 : nI r = z.2 12 g
      · rw [if_pos c2, decide_eq_false (not_not_intro c2), Bool.false_and, Bool.false_and, cond_false]
        exact ⟨w, hw, rfl⟩
      · rw [if_neg c2, decide_eq_true c2, Bool.true_and]
        cases hdr : dirS z r s with
        | false =>
          rw [cond_false, Bool.false_and, cond_false]
          exact ⟨w1, hf1.cns, rfl⟩
        | true =>
          rw [cond_true, Bool.true_and]
          have hd := of_decide_eq_true hdr
          have ep : pS z r s = Wp z (tS z r s) := by unfold pS; rw [if_neg hd.1]
          rcases Wp_ok z (tS z r s) with a1 | ⟨p, hp, a1⟩
          · exact absurd a1 hd.2.1
          · rw [ep, a1, nI_clamp (by omega), M_isFirst hM (show r < 10 by omega) hp hn.2.1 hn.2.2, bo_e, ite_bI]
            cases fst z r p with
            | false =>
              rw [cond_false, cond_false]
              exact ⟨w2, hf2.cns, rfl⟩
            | true =>
              rw [cond_true, cond_true]
              exact ⟨w3, hw3, rfl⟩
  · rw [if_neg c1, decide_eq_false c1, Bool.false_and, Bool.false_and, Bool.false_and, Bool.false_and, cond_false]
    exact ⟨w, hw, rfl⟩
theorem MO_rm (h : MO z) : MO (rmZ z r g s) := MO_c (MO_tu h) h
theorem te_rm : TE (rmZ z r g s) z := te_c te_tu te_rf
end
