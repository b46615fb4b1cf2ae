/-! what comes to a router -/
def kpZ (z : Sg) (r g s : Nat) : Sg := uA z 37 (16 * (8 * r + g) + s) (z.1 0 + 70)
def lfZ (z : Sg) (r p g : Nat) : Sg := cond (mem z (4 * r + p) g && askg z r p) (pu (if z.2 28 (8 * (4 * r + p) + g) ≤ z.1 0 + 4 then z else uA z 28 (8 * (4 * r + p) + g) (z.1 0 + 4)) (z.2 8 (4 * r + p)) 2 (nI r) (-1) (nI g) (-1) 0 0 0).2 z
def jc1 (z : Sg) (j g : Nat) (bits was frm : Int32) (s : Nat) : Sg := if ((bits >>> (nI s &&& 31)) &&& 1) = 0 then uA z 30 (16 * (8 * j + g) + s) (-1) else if was = 0 ∨ z.2 30 (16 * (8 * j + g) + s) = -1 then uA z 30 (16 * (8 * j + g) + s) frm else z
def jcZ (z : Sg) (j g : Nat) (bits was frm : Int32) : Nat → Sg
  | 0 => z
  | s + 1 => jc1 (jcZ z j g bits was frm s) j g bits was frm s
def joZ (z : Sg) (r p g y : Nat) (bits : Int32) : Sg := if y = 0 then jcZ (uA z 29 (17 * (8 * (4 * r + p) + g) + y) (z.1 0 + 70)) (4 * r + p) g bits (bI (jn z (4 * r + p) g y)) (cond (two (uA z 29 (17 * (8 * (4 * r + p) + g) + y) (z.1 0 + 70)) r p) (z.1 0 + 3) (z.1 0)) 16 else uA z 29 (17 * (8 * (4 * r + p) + g) + y) (z.1 0 + 70)
def prZ (z : Sg) (r p g y : Nat) : Sg := cond (jn z (4 * r + p) g y) (if z.2 29 (17 * (8 * (4 * r + p) + g) + y) ≤ cond (two z r p) (z.1 0 + 3) (z.1 0) then z else uA z 29 (17 * (8 * (4 * r + p) + g) + y) (cond (two z r p) (z.1 0 + 3) (z.1 0))) z
def ohZ (z : Sg) (r p : Nat) (kind to : Int32) (g y : Nat) (bits : Int32) : Sg := if z.2 33 (17 * (8 * r + g) + y) = nI p ∧ z.2 34 (17 * (8 * r + g) + y) = to then (if kind = 6 then sjZ z r g y else if bits &&& ((if y = 0 then z.2 36 (8 * r + g) else bits) ^^^ (-1)) = 0 then (if bits = (if y = 0 then z.2 36 (8 * r + g) else bits) then uA z 35 (17 * (8 * r + g) + y) (z.1 0) else z) else sjZ z r g y) else z
def cl2 (z : Sg) (r p g s : Nat) (nu : Int32) : Sg := cond (cond (strt z r g s) (alP z r p g s) (shP z r p g s) && better (ownC z r g s) nu) (scZ z r p g s) z
def clK (z : Sg) (j g s : Nat) (nu : Int32) : Bool := decide (clm z j g s = -1) || better nu (clm z j g s) || decide (clm z j g s - clm z j g s / 100 * 100 = nu - nu / 100 * 100)
def clZ (z : Sg) (r p g s : Nat) (nu : Int32) : Sg := cl2 (cond (clK z (4 * r + p) g s nu) (uA (uA z 31 (16 * (8 * (4 * r + p) + g) + s) nu) 32 (16 * (8 * (4 * r + p) + g) + s) (z.1 0 + 60)) z) r p g s nu
def tn2 (z : Sg) (r g s : Nat) (nu bits : Int32) : Sg := cond (strt (kpZ z r g s) r g s) (kpZ z r g s) (sdZ (kpZ z r g s) r (shB (kpZ z r g s) r g s) (-1) (nI g) (nI s) nu (bits / 16 - 1) 4)
def tnZ (z : Sg) (r g s : Nat) (nu bits life : Int32) : Sg := if nI r = z.2 12 g then tn2 (cond (strt z r g s || decide (alB z r g s = 0)) (soZ z r (bits - bits / 16 * 16).toNatClampNeg (nI g) (nI s) 16) z) r g s nu bits else if life ≤ 1 then z else (sbZ z r (tM z r g) 9 (nI g) (nI s) nu bits (life - 1)).2
def stZ (z : Sg) (r g s to : Nat) (life : Int32) : Sg := if r = to then uA z 38 (16 * (8 * r + g) + s) (z.1 0 + 40) else if life ≤ 1 then z else soZ z r to (nI g) (nI s) (life - 1)
def dt1 (z : Sg) (r p g s : Nat) : Sg := cond ((dirS z r s && decide (pS z r s = nI p)) || (decide (pS z r s = nI p) && decide (z.2 33 (17 * (8 * r + g) + 1 + s) ≠ -1) && decide (alB z r g s ≠ 0))) (kpZ z r g s) z
def dt2 (z : Sg) (r p g s : Nat) (fs dr : Bool) : Sg := cond (fs && wantS z r g s && (dr || mayP z r p g s)) (uA z 39 (16 * (8 * r + g) + s) (nI p)) z
def dt3 (z : Sg) (r p g s : Nat) (nu life : Int32) (fs : Bool) : Sg := cond (fs && strt z r g s) (sdZ z r (alB z r g s) (nI p) (nI g) (nI s) nu (life - 1) 4) (cond (!strt z r g s && decide (pM z r g = nI p)) (sdZ (cond (hasO z r g) (kpZ z r g s) z) r (shB z r g s) (nI p) (nI g) (nI s) nu (life - 1) 4) (cond (cond (strt z r g s) (alP z r p g s) (shP z r p g s)) (scZ z r p g s) z))
def dt4 (z : Sg) (r p g s : Nat) (nu life : Int32) (dr : Bool) : Sg := cond (dr && fst z r p && decide (nI r ≠ z.2 12 g) && decide (z.2 38 (16 * (8 * r + g) + s) ≤ z.1 0)) (tuZ z r g (nI s) nu life) z
def dtZ (z : Sg) (r p g s : Nat) (nu life : Int32) : Sg := dt4 (dt3 (dt2 (dt1 z r p g s) r p g s (decide (pS z r s = nI p)) (dirS z r s && decide (pS z r s = nI p))) r p g s nu life (decide (pS z r s = nI p))) r p g s nu life (dirS z r s && decide (pS z r s = nI p))
theorem MO_kp {z : Sg} {r g s : Nat} (h : MO z) : MO (kpZ z r g s) := MO_uA h (by decide)
theorem te_kp {z : Sg} {r g s : Nat} : TE (kpZ z r g s) z := te_uA (by decide)
theorem MO_sj {z : Sg} {r g y : Nat} (h : MO z) : MO (sjZ z r g y) := MO_uA (MO_pu h) (by decide)
theorem te_sj {z : Sg} {r g y : Nat} : TE (sjZ z r g y) z := te_tr (te_uA (by decide)) te_pu
theorem MO_sc {z : Sg} {r p g s : Nat} (h : MO z) : MO (scZ z r p g s) := MO_inc (MO_pu h) (by decide)
theorem te_sc {z : Sg} {r p g s : Nat} : TE (scZ z r p g s) z := te_tr (te_inc (by decide)) te_pu
theorem MO_tu {z : Sg} {r g : Nat} {s nu li : Int32} (h : MO z) : MO (tuZ z r g s nu li) := MO_inc (MO_sbZ h) (by decide)
theorem te_tu {z : Sg} {r g : Nat} {s nu li : Int32} : TE (tuZ z r g s nu li) z := te_tr (te_inc (by decide)) te_sbZ
theorem MO_so {z : Sg} {r to : Nat} {g s li : Int32} (h : MO z) : MO (soZ z r to g s li) := MO_sbZ h
theorem te_so {z : Sg} {r to : Nat} {g s li : Int32} : TE (soZ z r to g s li) z := te_sbZ
theorem MO_c {b : Bool} {y z : Sg} (h1 : MO y) (h2 : MO z) : MO (cond b y z) := by cases b; exact h2; exact h1
theorem te_c {b : Bool} {x y z : Sg} (h1 : TE y x) (h2 : TE z x) : TE (cond b y z) x := by cases b; exact h2; exact h1
section
variable {x : Nat} {G : Hp} {z w : Sg} {r p q g s y k : Nat}
theorem M_sendJoin (hM : MS x G) (hO : MO z) (h1 : r < nR z) (h3 : g < 8) (hy : y < 17) (hj : z.2 33 (17 * (8 * r + g) + y) ≠ -1) : d_X9_sendJoin x (nI r) (nI g) (nI y) (em2 x G z w) = some (em2 x G (sjZ z r g y) w) := by
  have hn := hO.1.1
  rcases hO.2.2 (17 * (8 * r + g) + y) (by omega) with h | ⟨p, q, hp, hq, e1, e2⟩
  · exact absurd h.1 hj
  · unfold d_X9_sendJoin sjZ
    rw [e1]
    simp (disch := omega) only [e2_hc, e2_hr, e2_hl, ms0, ms1, ms2, ms3, ms4, ms5, ms6, ms7, ms21, hM.1, mc33 hM, ml33 hM, mr33 hM, mc8 hM, ml8 hM, mr8 hM, mc34 hM, ml34 hM, mr34 hM, lm4, lm8, lm10, lm16, lm17, lm26, lm40, lm400, nI_add, nI_1, ix_nI, nI_clamp, gd_T, gd_t, bd_e, bo_e, b2_e, true_and, and_true, e1]
    have e3 : (pu z (z.2 8 (4 * r + p)) 5 (nI r) (z.2 34 (17 * (8 * r + g) + y)) (nI g) (if y = 0 then -1 else nI (y - 1)) 0 (if y = 0 then z.2 36 (8 * r + g) else 0) 0).2.1 0 = z.1 0 := pu_sc (by decide)
    by_cases hy0 : y = 0
    · subst hy0
      rw [if_pos rfl, if_pos rfl] at e3
      unfold d_X9_sendJoin_55 d_X9_sendJoin_75
      simp (disch := omega) only [e2_hc, e2_hr, e2_hl, ms0, ms1, ms2, ms3, ms4, ms5, ms6, ms7, ms21, hM.1, mc36 hM, ml36 hM, mr36 hM, mc35 hM, ml35 hM, mr35 hM, lm4, lm8, lm10, lm16, lm17, lm26, lm40, lm400, nI_add, nI_1, ix_nI, nI_clamp, gd_T, gd_t, bd_e, bo_e, b2_e, true_and, and_true, nI_0, if_true, M_put hM hO.2.1 (row8 hO (show 4 * r + p < 40 by omega)), mu35 hM, e3]
    · have hy1 : ¬ nI y = 0 := nI_ne0 (by omega) (by omega)
      rw [if_neg hy0, if_neg hy0] at e3
      have e4 : nI y - 1 = nI (y - 1) := by
        obtain ⟨y', rfl⟩ : ∃ y', y = y' + 1 := ⟨y - 1, by omega⟩
        exact nI_pred y'
      rw [if_neg hy1, if_neg hy0, if_neg hy0, e4]
      unfold d_X9_sendJoin_55 d_X9_sendJoin_75
      rw [if_neg hy1]
      simp (disch := omega) only [e2_hc, e2_hr, e2_hl, ms0, ms1, ms2, ms3, ms4, ms5, ms6, ms7, ms21, hM.1, mc36 hM, ml36 hM, mr36 hM, mc35 hM, ml35 hM, mr35 hM, lm4, lm8, lm10, lm16, lm17, lm26, lm40, lm400, nI_add, nI_1, ix_nI, nI_clamp, gd_T, gd_t, bd_e, bo_e, b2_e, true_and, and_true, M_put hM hO.2.1 (row8 hO (show 4 * r + p < 40 by omega)), mu35 hM, e3]
theorem M_left (hM : MS x G) (hO : MO z) (h1 : r < nR z) (h2 : p < 4) (h3 : g < 8) : d_X9_left x (nI r) (nI p) (nI g) (em2 x G z w) = some (em2 x G (lfZ z r p g) w) := by
  have hn := hO.1.1
  unfold d_X9_left lfZ
  simp (disch := omega) only [M_hasMembers hM (show r < 10 by omega) h2 h3, M_isAsking hM (show r < 10 by omega) h2 hn.2.1 hn.2.2, e2_hc, e2_hr, e2_hl, ms0, ms1, ms2, ms3, ms4, ms5, ms6, ms7, ms21, hM.1, mc28 hM, ml28 hM, mr28 hM, lm4, lm8, lm10, lm16, lm17, lm26, lm40, lm400, nI_add, nI_1, ix_nI, nI_clamp, gd_T, gd_t, bd_e, bo_e, b2_e, true_and, and_true, ite_bI, mu28 hM]
  cases mem z (4 * r + p) g with
  | false => rfl
  | true =>
    cases askg z r p with
    | false => rfl
    | true =>
      simp only [cond_true, Bool.and_self]
      unfold d_X9_left_61
      by_cases c1 : z.2 28 (8 * (4 * r + p) + g) ≤ z.1 0 + 4
      · rw [if_pos c1, if_pos c1]
        simp (disch := omega) only [e2_hc, e2_hr, e2_hl, ms0, ms1, ms2, ms3, ms4, ms5, ms6, ms7, ms21, hM.1, mc8 hM, ml8 hM, mr8 hM, lm4, lm8, lm10, lm16, lm17, lm26, lm40, lm400, nI_add, nI_1, ix_nI, nI_clamp, gd_T, gd_t, bd_e, bo_e, b2_e, true_and, and_true, M_put hM hO.2.1 (row8 hO (show 4 * r + p < 40 by omega))]
      · rw [if_neg c1, if_neg c1]
        have hO2 : MO (uA z 28 (8 * (4 * r + p) + g) (z.1 0 + 4)) := MO_uA hO (by decide)
        have e8 : (uA z 28 (8 * (4 * r + p) + g) (z.1 0 + 4)).2 8 = z.2 8 := uA_ne (by decide)
        simp (disch := omega) only [e2_hc, e2_hr, e2_hl, ms0, ms1, ms2, ms3, ms4, ms5, ms6, ms7, ms21, hM.1, mc8 hM, ml8 hM, mr8 hM, lm4, lm8, lm10, lm16, lm17, lm26, lm40, lm400, nI_add, nI_1, ix_nI, nI_clamp, gd_T, gd_t, bd_e, bo_e, b2_e, true_and, and_true, e8, M_put hM hO2.2.1 (row8 hO (show 4 * r + p < 40 by omega))]
theorem M_joins_80 {bits was frm : Int32} (hM : MS x G) (h1 : r < 10) (h2 : p < 4) (h3 : g < 8) : ∀ (n s : Nat), s ≤ 16 → 16 - s < n → d_X9_joins_80 n x (nI r) (nI p) (nI g) bits was frm (nI s) (em2 x G (jcZ z (4 * r + p) g bits was frm s) w) = some (em2 x G (jcZ z (4 * r + p) g bits was frm 16) w) := by
  intro n
  induction n with
  | zero => intro s _ h; omega
  | succ n ih =>
    intro s hs hlt
    rw [d_X9_joins_80.eq_2, show (16 : Int32) = nI 16 from rfl]
    by_cases hse : s = 16
    · subst hse
      rw [if_pos (nI_le (Nat.le_refl _) (by decide))]
    · rw [if_neg (nI_ge (by omega) (by decide))]
      have e2 := ih (s + 1) (by omega) (by omega)
      rw [← e2]
      show _ = d_X9_joins_80 n x (nI r) (nI p) (nI g) bits was frm (nI (s + 1)) (em2 x G (jc1 (jcZ z (4 * r + p) g bits was frm s) (4 * r + p) g bits was frm s) w)
      unfold jc1 d_X9_joins_135
      simp (disch := omega) only [M_heardAt, e2_hc, e2_hr, e2_hl, ms0, ms1, ms2, ms3, ms4, ms5, ms6, ms7, ms21, hM.1, mc30 hM, ml30 hM, mr30 hM, lm4, lm8, lm10, lm16, lm17, lm26, lm40, lm400, nI_add, nI_1, ix_nI, nI_clamp, gd_T, gd_t, bd_e, bo_e, b2_e, true_and, and_true, mu30 hM]
      by_cases c1 : ((bits >>> (nI s &&& 31)) &&& 1) = 0
      · rw [if_pos c1, if_pos c1]
      · rw [if_neg c1, if_neg c1]
        by_cases c2 : was = 0
        · rw [if_pos c2, if_pos (Or.inl c2)]
        · rw [if_neg c2]
          by_cases c3 : (jcZ z (4 * r + p) g bits was frm s).2 30 (16 * (8 * (4 * r + p) + g) + s) = -1
          · rw [if_pos c3, if_pos (Or.inr c3)]
          · rw [if_neg c3, if_neg (fun h => h.elim c2 c3)]
theorem M_joins {bits : Int32} (hM : MS x G) (hO : MO z) (h1 : r < nR z) (h2 : p < 4) (h3 : g < 8) (hy : y < 17) : d_X9_joins x (nI r) (nI p) (nI g) (nI y) bits (em2 x G z w) = some (em2 x G (joZ z r p g y bits) w) := by
  have hn := hO.1.1
  have hO2 : MO (uA z 29 (17 * (8 * (4 * r + p) + g) + y) (z.1 0 + 70)) := MO_uA hO (by decide)
  have hn2 := hO2.1.1
  unfold d_X9_joins
  simp (disch := omega) only [M_joined hM (show r < 10 by omega) h2 h3 hy, e2_hc, e2_hr, e2_hl, ms0, ms1, ms2, ms3, ms4, ms5, ms6, ms7, ms21, hM.1, gd_T, gd_t, bd_e, bo_e, b2_e, true_and, and_true, jn_pos hO.1.t0]
  have key : ∀ b : Bool, d_X9_joins_17 x (nI r) (nI p) (nI g) (nI y) bits (bI b) (em2 x G z w) = some (em2 x G (if y = 0 then jcZ (uA z 29 (17 * (8 * (4 * r + p) + g) + y) (z.1 0 + 70)) (4 * r + p) g bits (bI b) (cond (two (uA z 29 (17 * (8 * (4 * r + p) + g) + y) (z.1 0 + 70)) r p) (z.1 0 + 3) (z.1 0)) 16 else uA z 29 (17 * (8 * (4 * r + p) + g) + y) (z.1 0 + 70)) w) := by
    intro b
    unfold d_X9_joins_17
    have e0 : ∀ f : Int32, d_X9_joins_80 FU x (nI r) (nI p) (nI g) bits (bI b) f 0 (em2 x G (uA z 29 (17 * (8 * (4 * r + p) + g) + y) (z.1 0 + 70)) w) = some (em2 x G (jcZ (uA z 29 (17 * (8 * (4 * r + p) + g) + y) (z.1 0 + 70)) (4 * r + p) g bits (bI b) f 16) w) := fun f => M_joins_80 hM (by omega) h2 h3 FU 0 (by decide) (by decide)
    simp (disch := omega) only [e2_hc, e2_hr, e2_hl, ms0, ms1, ms2, ms3, ms4, ms5, ms6, ms7, ms21, hM.1, mc29 hM, ml29 hM, mr29 hM, lm4, lm8, lm10, lm16, lm17, lm26, lm40, lm400, nI_add, nI_1, ix_nI, nI_clamp, gd_T, gd_t, bd_e, bo_e, b2_e, true_and, and_true, mu29 hM, M_hasTwo hM (show r < 10 by omega) h2 hn2.2.1 hn2.2.2, ite_bI, uA_1, e0]
    by_cases hy0 : y = 0
    · subst hy0
      rw [if_pos (by decide), if_pos rfl]
      cases two (uA z 29 (17 * (8 * (4 * r + p) + g) + 0) (z.1 0 + 70)) r p <;> rfl
    · rw [if_neg (nI_nle (by omega) (by omega)), if_neg hy0]
  unfold joZ
  rw [← key]
  cases jn z (4 * r + p) g y with
  | false => simp only [cond_false, bI]
  | true => simp only [cond_true, bI]
theorem M_prunes (hM : MS x G) (hO : MO z) (h1 : r < nR z) (h2 : p < 4) (h3 : g < 8) (hy : y < 17) : d_X9_prunes x (nI r) (nI p) (nI g) (nI y) (em2 x G z w) = some (em2 x G (prZ z r p g y) w) := by
  have hn := hO.1.1
  unfold d_X9_prunes prZ d_X9_prunes_39
  simp (disch := omega) only [M_joined hM (show r < 10 by omega) h2 h3 hy, M_hasTwo hM (show r < 10 by omega) h2 hn.2.1 hn.2.2, e2_hc, e2_hr, e2_hl, ms0, ms1, ms2, ms3, ms4, ms5, ms6, ms7, ms21, hM.1, mc29 hM, ml29 hM, mr29 hM, lm4, lm8, lm10, lm16, lm17, lm26, lm40, lm400, nI_add, nI_1, ix_nI, nI_clamp, gd_T, gd_t, bd_e, bo_e, b2_e, true_and, and_true, ite_bI, mu29 hM]
  cases hj : jn z (4 * r + p) g y with
  | false => rfl
  | true =>
    have h5 : z.1 0 < z.2 29 (17 * (8 * (4 * r + p) + g) + y) := of_decide_eq_true hj
    have h6 : ¬ z.2 29 (17 * (8 * (4 * r + p) + g) + y) = 0 := by
      intro e
      rw [e] at h5
      exact absurd (Int32.lt_of_le_of_lt hO.1.t0 h5) (by decide)
    simp only [cond_true]
    rw [if_neg h6]
    cases two z r p with
    | false =>
      simp only [cond_false]
      by_cases c1 : z.2 29 (17 * (8 * (4 * r + p) + g) + y) ≤ z.1 0
      · rw [if_pos c1, if_pos c1]
      · rw [if_neg c1, if_neg c1]
    | true =>
      simp only [cond_true]
      by_cases c1 : z.2 29 (17 * (8 * (4 * r + p) + g) + y) ≤ z.1 0 + 3
      · rw [if_pos c1, if_pos c1]
      · rw [if_neg c1, if_neg c1]
theorem M_overhears {kind to bits : Int32} (hM : MS x G) (hO : MO z) (h1 : r < nR z) (h2 : p < 4) (h3 : g < 8) (hy : y < 17) : d_X9_overhears x (nI r) (nI p) kind to (nI g) (nI y) bits (em2 x G z w) = some (em2 x G (ohZ z r p kind to g y bits) w) := by
  have hn := hO.1.1
  unfold d_X9_overhears ohZ
  simp (disch := omega) only [e2_hc, e2_hr, e2_hl, ms0, ms1, ms2, ms3, ms4, ms5, ms6, ms7, ms21, hM.1, mc33 hM, ml33 hM, mr33 hM, mc34 hM, ml34 hM, mr34 hM, mc36 hM, ml36 hM, mr36 hM, lm4, lm8, lm10, lm16, lm17, lm26, lm40, lm400, nI_add, nI_1, ix_nI, nI_clamp, gd_T, gd_t, bd_e, bo_e, b2_e, true_and, and_true]
  by_cases c1 : z.2 33 (17 * (8 * r + g) + y) = nI p
  · rw [if_pos c1]
    by_cases c2 : z.2 34 (17 * (8 * r + g) + y) = to
    · have hj : ¬ z.2 33 (17 * (8 * r + g) + y) = -1 := by rw [c1]; exact nI_m1 (by omega)
      have eJ := M_sendJoin (w := w) hM hO h1 h3 hy hj
      rw [if_pos c2, if_neg hj, if_pos (show z.2 33 (17 * (8 * r + g) + y) = nI p ∧ z.2 34 (17 * (8 * r + g) + y) = to from ⟨c1, c2⟩)]
      simp only [eJ, gd_T, gd_t, bd_e, bo_e, b2_e, true_and, and_true]
      by_cases c3 : kind = 6
      · rw [if_pos c3, if_pos c3]
      · rw [if_neg c3, if_neg c3]
        unfold d_X9_overhears_88
        simp (disch := omega) only [e2_hc, e2_hr, e2_hl, ms0, ms1, ms2, ms3, ms4, ms5, ms6, ms7, ms21, hM.1, mc35 hM, ml35 hM, mr35 hM, lm4, lm8, lm10, lm16, lm17, lm26, lm40, lm400, nI_add, nI_1, ix_nI, nI_clamp, gd_T, gd_t, bd_e, bo_e, b2_e, true_and, and_true, mu35 hM, eJ]
        by_cases hy0 : y = 0
        · subst hy0
          rw [if_pos (show nI 0 = 0 from rfl), if_pos rfl]
          by_cases c4 : bits &&& (z.2 36 (8 * r + g) ^^^ -1) = 0
          · rw [if_pos c4, if_pos c4]
            by_cases c5 : bits = z.2 36 (8 * r + g)
            · rw [if_pos c5, if_pos c5]
            · rw [if_neg c5, if_neg c5]
          · rw [if_neg c4, if_neg c4]
        · rw [if_neg (nI_ne0 (by omega) (by omega)), if_neg hy0]
          by_cases c4 : bits &&& (bits ^^^ -1) = 0
          · rw [if_pos c4, if_pos c4, if_pos trivial, if_pos rfl]
          · rw [if_neg c4, if_neg c4]
    · rw [if_neg c2, if_neg (fun h => c2 h.2)]
  · rw [if_neg c1, if_neg (fun h => c1 h.1)]
end
