theorem pOn_ok (z : Sg) (r : Nat) (v : Int32) : pOn z r v = -1 ∨ ∃ p, p < 4 ∧ pOn z r v = nI p := by
  unfold pOn
  repeat' split
  · exact Or.inr ⟨0, by decide, rfl⟩
  · exact Or.inr ⟨1, by decide, rfl⟩
  · exact Or.inr ⟨2, by decide, rfl⟩
  · exact Or.inr ⟨3, by decide, rfl⟩
  · exact Or.inl rfl
def bOk (z : Sg) (b : Int32 × Int32 × Int32) : Prop := (b.2.1 = -1 ∨ ∃ p, p < 4 ∧ b.2.1 = nI p) ∧ (b.2.2 = -1 ∨ ∃ q, q < nR z ∧ b.2.2 = nI q)
theorem bstQ_ok {z : Sg} {f : Nat → Int32} {r p : Nat} {b : Int32 × Int32 × Int32} (hp : p < 4) (hb : bOk z b) : ∀ q, q ≤ nR z → bOk z (bstQ z f r p b q) := by
  intro q
  induction q with
  | zero => intro _; exact hb
  | succ q ih =>
    intro hq
    unfold bstQ
    split
    · exact ih (by omega)
    · exact ⟨Or.inr ⟨p, hp, rfl⟩, Or.inr ⟨q, by omega, rfl⟩⟩
theorem bstP_ok {z : Sg} {f : Nat → Int32} {r : Nat} : ∀ p, p ≤ 4 → bOk z (bstP z f r p) := by
  intro p
  induction p with
  | zero => intro _; exact ⟨Or.inl rfl, Or.inl rfl⟩
  | succ p ih => intro hp; exact bstQ_ok (by omega) (ih (by omega)) _ (Nat.le_refl _)
theorem Wp_ok (z : Sg) (k : Nat) : Wp z k = -1 ∨ ∃ p, p < 4 ∧ Wp z k = nI p := by
  unfold Wp
  split
  · exact Or.inl rfl
  · split
    · exact pOn_ok _ _ _
    · exact (bstP_ok 4 (Nat.le_refl _)).1
theorem Wr_ok (z : Sg) (k : Nat) : Wr z k = -1 ∨ ∃ q, q < nR z ∧ Wr z k = nI q := by
  unfold Wr
  split
  · exact Or.inl rfl
  · exact (bstP_ok 4 (Nat.le_refl _)).2
def upG (z : Sg) (r k : Nat) (c : Int32) : Int32 := if Wp z k = -1 then -1 else if Wr z k = -1 then -1 else if nb z (4 * r + (Wp z k).toNatClampNeg) (if c = -1 then Wr z k else c - c / 100 * 100).toNatClampNeg = true then 16 * Wp z k + (if c = -1 then Wr z k else c - c / 100 * 100) else -1
def upS (z : Sg) (r g s : Nat) : Int32 := if noW z s then -1 else upG z r (tS z r s) (clm z (4 * r + (Wp z (tS z r s)).toNatClampNeg) g s)
def upM (z : Sg) (r g : Nat) : Int32 := upG z r (tM z r g) (-1)
def tcP (z : Sg) (r g s : Nat) : Bool := (strt z r g s && decide (upM z r g ≠ -1 ∧ upM z r g ≠ upS z r g s)) || decide (shB z r g s = 0)
def tcB (z : Sg) (r g : Nat) : Int32 := bN (fun s => tcP z r g s) 16
def hasO (z : Sg) (r g : Nat) : Bool := own z r 0 g || own z r 1 g || own z r 2 g || own z r 3 g
def mayP (z : Sg) (r p g s : Nat) : Bool := decide (pM z r g ≠ nI p) || decide (shB z r g s = 0) || lostP z r p g s || decide (upS z r g s ≠ -1 ∧ upS z r g s = upM z r g)
theorem clm_q {z : Sg} {r p g s : Nat} (hF : WF z) (h1 : r < nR z) (h2 : p < 4) (h3 : g < 8) (h4 : s < 16) (h : clm z (4 * r + p) g s ≠ -1) : ∃ q, q < nR z ∧ clm z (4 * r + p) g s - clm z (4 * r + p) g s / 100 * 100 = nI q := by
  have hn := hF.1
  unfold clm at h ⊢
  split at h
  · rename_i h5
    rw [if_pos h5]
    exact clm_mod hF (by omega) h5.1
  · exact absurd rfl h
theorem l1a (s : Nat) : (1 : Int32) + nI s = nI (1 + s) := nI_add 1 s
theorem l1s (s : Nat) : nI (1 + s) - 1 = nI s := by rw [Nat.add_comm]; exact nI_pred s
theorem l10 (s : Nat) (h : s < 100) : ¬ nI (1 + s) = 0 := nI_ne0 (by omega) (by omega)
section
variable {x : Nat} {G : Hp} {z w : Sg} {r p q g s y k : Nat}
theorem M_joined0 (hM : MS x G) (hF : WF z) (h1 : r < nR z) (h2 : p < 4) (h3 : g < 8) : d_X9_joined x (nI r) (nI p) (nI g) 0 (em2 x G z w) = some (cond (jn z (4 * r + p) g 0) (z.2 29 (17 * (8 * (4 * r + p) + g) + 0)) 0) := M_joined (y := 0) hM (by have := hF.1; omega) h2 h3 (by decide)
theorem M_joinedS (hM : MS x G) (hF : WF z) (h1 : r < nR z) (h2 : p < 4) (h3 : g < 8) (h4 : s < 16) : d_X9_joined x (nI r) (nI p) (nI g) (nI (1 + s)) (em2 x G z w) = some (cond (jn z (4 * r + p) g (1 + s)) (z.2 29 (17 * (8 * (4 * r + p) + g) + (1 + s))) 0) := M_joined hM (by have := hF.1; omega) h2 h3 (by omega)
theorem M_isInShared (hM : MS x G) (hF : WF z) (hK : RK x G z) (hw : Cns z w) (h1 : r < nR z) (h2 : p < 4) (h3 : g < 8) (h4 : s < 16) : ∃ w', Cns z w' ∧ d_X9_isInShared x (nI r) (nI p) (nI g) (nI s) (em2 x G z w) = some (bI (shP z r p g s), em2 x G z w') := by
  have hn := hF.1
  obtain ⟨w', hw', eL⟩ := M_isLost hM hF hK hw h1 h2 h3 h4
  unfold d_X9_isInShared d_X9_isInShared_33 d_X9_isInShared_23 d_X9_isInShared_38 shP
  simp (disch := omega) only [M_joined0 hM hF h1 h2 h3, eL, M_isOwn hM (show r < 10 by omega) h2 h3 hn.2.1 hn.2.2, M_isCutOff hM hF.t0 (show r < 10 by omega) h2 h3 h4, d_X9_isInShared_33, d_X9_isInShared_38, e2_hc, e2_hr, e2_hl, ms0, ms1, ms2, ms3, ms4, ms5, ms6, ms7, ms21, hM.1, gd_T, gd_t, bd_e, bo_e, b2_e, true_and, and_true, ite_bI, jn_pos hF.t0]
  generalize lostP z r p g s = a4
  generalize jn z (4 * r + p) g 0 = a1
  generalize cutO z (4 * r + p) g s = a2
  generalize own z r p g = a3
  cases a1 <;> cases a2 <;> cases a3 <;> cases a4 <;> first | exact ⟨w', hw', rfl⟩ | exact ⟨w, hw, rfl⟩
theorem M_isInAll (hM : MS x G) (hF : WF z) (hK : RK x G z) (hw : Cns z w) (h1 : r < nR z) (h2 : p < 4) (h3 : g < 8) (h4 : s < 16) : ∃ w', Cns z w' ∧ d_X9_isInAll x (nI r) (nI p) (nI g) (nI s) (em2 x G z w) = some (bI (alP z r p g s), em2 x G z w') := by
  have hn := hF.1
  obtain ⟨w1, hw1, eS⟩ := M_isInShared hM hF hK hw h1 h2 h3 h4
  obtain ⟨w2, hw2, eL⟩ := M_isLost hM hF hK hw1 h1 h2 h3 h4
  unfold d_X9_isInAll alP wjP
  simp (disch := omega) only [eS, eL, l1a, M_joinedS hM hF h1 h2 h3 h4, e2_hc, e2_hr, e2_hl, ms0, ms1, ms2, ms3, ms4, ms5, ms6, ms7, ms21, hM.1, gd_T, gd_t, bd_e, bo_e, b2_e, true_and, and_true, ite_bI, jn_pos hF.t0]
  generalize lostP z r p g s = a4
  generalize jn z (4 * r + p) g (1 + s) = a1
  generalize shP z r p g s = a2
  cases a1 <;> cases a2 <;> cases a4 <;> first | exact ⟨w2, hw2, rfl⟩ | exact ⟨w1, hw1, rfl⟩
theorem M_shared_6 (hM : MS x G) (hF : WF z) (hK : RK x G z) (h1 : r < nR z) (h3 : g < 8) (h4 : s < 16) : ∀ (n p : Nat) (w : Sg), Cns z w → p ≤ 4 → 4 - p < n → ∃ w', Cns z w' ∧ d_X9_shared_6 n x (nI r) (nI g) (nI s) (bN (fun p => shP z r p g s) p) (nI p) (em2 x G z w) = some (shB z r g s, em2 x G z w') := by
  intro n
  induction n with
  | zero => intro p w _ _ h; omega
  | succ n ih =>
    intro p w hw hp hlt
    rw [d_X9_shared_6.eq_2, show (4 : Int32) = nI 4 from rfl]
    by_cases hpe : p = 4
    · subst hpe
      rw [if_pos (nI_le (Nat.le_refl _) (by decide))]
      exact ⟨w, hw, rfl⟩
    · rw [if_neg (nI_ge (by omega) (by decide))]
      obtain ⟨w1, hw1, eS⟩ := M_isInShared hM hF hK hw h1 (show p < 4 by omega) h3 h4
      simp (disch := omega) only [eS, e2_hc, e2_hr, e2_hl, ms0, ms1, ms2, ms3, ms4, ms5, ms6, ms7, ms21, hM.1, gd_T, gd_t, bd_e, bo_e, b2_e, true_and, and_true, ite_bI]
      obtain ⟨w2, hw2, e2⟩ := ih (p + 1) w1 hw1 (by omega) (by omega)
      refine ⟨w2, hw2, ?_⟩
      rw [nI_1, ← e2]
      simp only [bN]
      cases shP z r p g s <;> rfl
theorem M_shared (hM : MS x G) (hF : WF z) (hK : RK x G z) (hw : Cns z w) (h1 : r < nR z) (h3 : g < 8) (h4 : s < 16) : ∃ w', Cns z w' ∧ d_X9_shared x (nI r) (nI g) (nI s) (em2 x G z w) = some (shB z r g s, em2 x G z w') := M_shared_6 hM hF hK h1 h3 h4 FU 0 w hw (by decide) (by decide)
theorem M_all_6 (hM : MS x G) (hF : WF z) (hK : RK x G z) (h1 : r < nR z) (h3 : g < 8) (h4 : s < 16) : ∀ (n p : Nat) (w : Sg), Cns z w → p ≤ 4 → 4 - p < n → ∃ w', Cns z w' ∧ d_X9_all_6 n x (nI r) (nI g) (nI s) (bN (fun p => alP z r p g s) p) (nI p) (em2 x G z w) = some (alB z r g s, em2 x G z w') := by
  intro n
  induction n with
  | zero => intro p w _ _ h; omega
  | succ n ih =>
    intro p w hw hp hlt
    rw [d_X9_all_6.eq_2, show (4 : Int32) = nI 4 from rfl]
    by_cases hpe : p = 4
    · subst hpe
      rw [if_pos (nI_le (Nat.le_refl _) (by decide))]
      exact ⟨w, hw, rfl⟩
    · rw [if_neg (nI_ge (by omega) (by decide))]
      obtain ⟨w1, hw1, eS⟩ := M_isInAll hM hF hK hw h1 (show p < 4 by omega) h3 h4
      simp (disch := omega) only [eS, e2_hc, e2_hr, e2_hl, ms0, ms1, ms2, ms3, ms4, ms5, ms6, ms7, ms21, hM.1, gd_T, gd_t, bd_e, bo_e, b2_e, true_and, and_true, ite_bI]
      obtain ⟨w2, hw2, e2⟩ := ih (p + 1) w1 hw1 (by omega) (by omega)
      refine ⟨w2, hw2, ?_⟩
      rw [nI_1, ← e2]
      simp only [bN]
      cases alP z r p g s <;> rfl
theorem M_all (hM : MS x G) (hF : WF z) (hK : RK x G z) (hw : Cns z w) (h1 : r < nR z) (h3 : g < 8) (h4 : s < 16) : ∃ w', Cns z w' ∧ d_X9_all x (nI r) (nI g) (nI s) (em2 x G z w) = some (alB z r g s, em2 x G z w') := M_all_6 hM hF hK h1 h3 h4 FU 0 w hw (by decide) (by decide)
theorem M_isKept (hM : MS x G) (h1 : r < 10) (h3 : g < 8) (h4 : s < 16) : d_X9_isKept x (nI r) (nI g) (nI s) (em2 x G z w) = some (bI (kept z r g s)) := by
  unfold d_X9_isKept kept
  simp (disch := omega) only [e2_hc, e2_hr, e2_hl, ms0, ms1, ms2, ms3, ms4, ms5, ms6, ms7, ms21, hM.1, mc37 hM, ml37 hM, mr37 hM, lm4, lm8, lm10, lm16, lm17, lm26, lm40, lm400, nI_add, nI_1, ix_nI, nI_clamp, gd_T, gd_t, bd_e, bo_e, b2_e, true_and, and_true, lt_ite]
  exact dec_10
theorem M_keep (hM : MS x G) (h1 : r < 10) (h3 : g < 8) (h4 : s < 16) : d_X9_keep x (nI r) (nI g) (nI s) (em2 x G z w) = some (em2 x G (uA z 37 (16 * (8 * r + g) + s) (z.1 0 + 70)) w) := by
  unfold d_X9_keep
  simp (disch := omega) only [e2_hc, e2_hr, e2_hl, ms0, ms1, ms2, ms3, ms4, ms5, ms6, ms7, ms21, hM.1, mc37 hM, ml37 hM, mr37 hM, lm4, lm8, lm10, lm16, lm17, lm26, lm40, lm400, nI_add, nI_1, ix_nI, nI_clamp, gd_T, gd_t, bd_e, bo_e, b2_e, true_and, and_true, mu37 hM]
theorem M_want_step (hM : MS x G) (hF : WF z) (hK : RK x G z) (hw : Cns z w) (n : Nat) (h1 : r < nR z) (h2 : p < 4) (h3 : g < 8) (h4 : s < 16) : ∃ w', Cns z w' ∧ d_X9_wantsSource_3 (n + 1) x (nI r) (nI g) (nI s) (nI p) (em2 x G z w) = cond (wjP z r p g s) (some (1, em2 x G z w')) (d_X9_wantsSource_3 n x (nI r) (nI g) (nI s) (nI (p + 1)) (em2 x G z w')) := by
  have hn := hF.1
  obtain ⟨w', hw', eL⟩ := M_isLost hM hF hK hw h1 h2 h3 h4
  rw [d_X9_wantsSource_3.eq_2, show (4 : Int32) = nI 4 from rfl, if_neg (nI_ge (by omega) (by decide))]
  unfold wjP
  simp (disch := omega) only [eL, l1a, nI_1, M_joinedS hM hF h1 h2 h3 h4, e2_hc, e2_hr, e2_hl, ms0, ms1, ms2, ms3, ms4, ms5, ms6, ms7, ms21, hM.1, gd_T, gd_t, bd_e, bo_e, b2_e, true_and, and_true, ite_bI, jn_pos hF.t0]
  generalize lostP z r p g s = a4
  generalize jn z (4 * r + p) g (1 + s) = a1
  cases a1 <;> cases a4 <;> first | exact ⟨w, hw, rfl⟩ | exact ⟨w', hw', rfl⟩
theorem M_wantsSource (hM : MS x G) (hF : WF z) (hK : RK x G z) (hw : Cns z w) (h1 : r < nR z) (h3 : g < 8) (h4 : s < 16) : ∃ w', Cns z w' ∧ d_X9_wantsSource x (nI r) (nI g) (nI s) (em2 x G z w) = some (bI (wantS z r g s), em2 x G z w') := by
  have hn := hF.1
  unfold wantS
  have e0 : d_X9_wantsSource x (nI r) (nI g) (nI s) (em2 x G z w) = d_X9_wantsSource_3 (5995 + 1 + 1 + 1 + 1 + 1) x (nI r) (nI g) (nI s) (nI 0) (em2 x G z w) := rfl
  obtain ⟨w1, hw1, e1⟩ := M_want_step (p := 0) hM hF hK hw (5995 + 1 + 1 + 1 + 1) h1 (by decide) h3 h4
  obtain ⟨w2, hw2, e2⟩ := M_want_step (p := 1) hM hF hK hw1 (5995 + 1 + 1 + 1) h1 (by decide) h3 h4
  obtain ⟨w3, hw3, e3⟩ := M_want_step (p := 2) hM hF hK hw2 (5995 + 1 + 1) h1 (by decide) h3 h4
  obtain ⟨w4, hw4, e4⟩ := M_want_step (p := 3) hM hF hK hw3 (5995 + 1) h1 (by decide) h3 h4
  obtain ⟨w5, hw5, e5⟩ := M_all hM hF hK hw4 h1 h3 h4
  rw [e0, e1, e2, e3, e4, d_X9_wantsSource_3.eq_2, show (4 : Int32) = nI 4 from rfl, if_pos (nI_le (Nat.le_refl _) (by decide))]
  simp (disch := omega) only [e5, M_isKept hM (show r < 10 by omega) h3 h4, e2_hc, e2_hr, e2_hl, ms0, ms1, ms2, ms3, ms4, ms5, ms6, ms7, ms21, hM.1, gd_T, gd_t, bd_e, bo_e, b2_e, true_and, and_true, ite_bI]
  generalize wjP z r 0 g s = a0
  generalize wjP z r 1 g s = a1
  generalize wjP z r 2 g s = a2
  generalize wjP z r 3 g s = a3
  generalize kept z r g s = a4
  by_cases a5 : alB z r g s = 0
  · simp only [a5, decide_true, ne_eq, not_true, decide_false, if_true]
    cases a0 <;> cases a1 <;> cases a2 <;> cases a3 <;> cases a4 <;> first | exact ⟨w1, hw1, rfl⟩ | exact ⟨w2, hw2, rfl⟩ | exact ⟨w3, hw3, rfl⟩ | exact ⟨w4, hw4, rfl⟩ | exact ⟨w5, hw5, rfl⟩
  · simp only [a5, decide_true, ne_eq, not_false_iff, decide_false, if_false]
    cases a0 <;> cases a1 <;> cases a2 <;> cases a3 <;> cases a4 <;> first | exact ⟨w1, hw1, rfl⟩ | exact ⟨w2, hw2, rfl⟩ | exact ⟨w3, hw3, rfl⟩ | exact ⟨w4, hw4, rfl⟩ | exact ⟨w5, hw5, rfl⟩
theorem M_base_5 (hM : MS x G) (hF : WF z) (h1 : r < nR z) (h3 : g < 8) : ∀ (n p : Nat), p ≤ 4 → 4 - p < n → d_X9_base_5 n x (nI r) (nI g) (bN (fun p => bsP z r p g) p) (nI p) (em2 x G z w) = some (bsB z r g) := by
  have hn := hF.1
  intro n
  induction n with
  | zero => intro p _ h; omega
  | succ n ih =>
    intro p hp hlt
    rw [d_X9_base_5.eq_2, show (4 : Int32) = nI 4 from rfl]
    by_cases hpe : p = 4
    · subst hpe
      rw [if_pos (nI_le (Nat.le_refl _) (by decide))]
      rfl
    · rw [if_neg (nI_ge (by omega) (by decide))]
      have e2 := ih (p + 1) (by omega) (by omega)
      simp (disch := omega) only [M_joined0 hM hF h1 (show p < 4 by omega) h3, M_isOwn hM (show r < 10 by omega) (show p < 4 by omega) h3 hn.2.1 hn.2.2, d_X9_base_34, e2_hc, e2_hr, e2_hl, ms0, ms1, ms2, ms3, ms4, ms5, ms6, ms7, ms21, hM.1, gd_T, gd_t, bd_e, bo_e, b2_e, true_and, and_true, ite_bI, jn_pos' hF.t0, nI_1]
      simp only [bN, bsP] at e2
      cases a1 : jn z (4 * r + p) g 0 <;> cases a2 : own z r p g <;> rw [a1, a2] at e2 <;> exact e2
theorem M_base (hM : MS x G) (hF : WF z) (h1 : r < nR z) (h3 : g < 8) : d_X9_base x (nI r) (nI g) (em2 x G z w) = some (bsB z r g) := M_base_5 hM hF h1 h3 FU 0 (by decide) (by decide)
theorem M_wants0 (hM : MS x G) (hF : WF z) (h1 : r < nR z) (h3 : g < 8) : d_X9_wants x (nI r) (nI g) 0 (em2 x G z w) = some (bI (want0 z r g), em2 x G z w) := by
  have hn := hF.1
  unfold d_X9_wants want0
  rw [if_pos (by decide)]
  simp (disch := omega) only [M_base hM hF h1 h3, e2_hc, e2_hr, e2_hl, ms0, ms1, ms2, ms3, ms4, ms5, ms6, ms7, ms21, hM.1, mc12 hM, ml12 hM, mr12 hM, lm4, lm8, lm10, lm16, lm17, lm26, lm40, lm400, nI_add, nI_1, ix_nI, nI_clamp, gd_T, gd_t, bd_e, bo_e, b2_e, true_and, and_true]
  by_cases a1 : nI r = z.2 12 g
  · simp [a1, bI]
  · by_cases a2 : bsB z r g = 0
    · simp [a1, a2, bI]
    · simp [a1, a2, bI]
theorem M_wantsS (hM : MS x G) (hF : WF z) (hK : RK x G z) (hw : Cns z w) (h1 : r < nR z) (h3 : g < 8) (h4 : s < 16) : ∃ w', Cns z w' ∧ d_X9_wants x (nI r) (nI g) (nI (1 + s)) (em2 x G z w) = some (bI (wantS z r g s), em2 x G z w') := by
  obtain ⟨w', hw', e⟩ := M_wantsSource hM hF hK hw h1 h3 h4
  refine ⟨w', hw', ?_⟩
  unfold d_X9_wants
  rw [if_neg (nI_nle (by omega) (by omega)), l1s]
  simp (disch := omega) only [e, e2_hc, e2_hr, e2_hl, ms0, ms1, ms2, ms3, ms4, ms5, ms6, ms7, ms21, hM.1, gd_T, gd_t, bd_e, bo_e, b2_e, true_and, and_true, bI_and1]
theorem M_own_step (hM : MS x G) (hF : WF z) (n : Nat) (h1 : r < nR z) (h2 : p < 4) (h3 : g < 8) : d_X9_hasOwn_2 (n + 1) x (nI r) (nI g) (nI p) (em2 x G z w) = cond (own z r p g) (some 1) (d_X9_hasOwn_2 n x (nI r) (nI g) (nI (p + 1)) (em2 x G z w)) := by
  have hn := hF.1
  rw [d_X9_hasOwn_2.eq_2, show (4 : Int32) = nI 4 from rfl, if_neg (nI_ge (by omega) (by decide))]
  simp (disch := omega) only [M_isOwn hM (show r < 10 by omega) h2 h3 hn.2.1 hn.2.2, nI_1, e2_hc, e2_hr, e2_hl, ms0, ms1, ms2, ms3, ms4, ms5, ms6, ms7, ms21, hM.1, gd_T, gd_t, bd_e, bo_e, b2_e, true_and, and_true, ite_bI]
theorem M_hasOwn (hM : MS x G) (hF : WF z) (h1 : r < nR z) (h3 : g < 8) : d_X9_hasOwn x (nI r) (nI g) (em2 x G z w) = some (bI (hasO z r g)) := by
  have e0 : d_X9_hasOwn x (nI r) (nI g) (em2 x G z w) = d_X9_hasOwn_2 (5995 + 1 + 1 + 1 + 1 + 1) x (nI r) (nI g) (nI 0) (em2 x G z w) := rfl
  rw [e0, M_own_step hM hF _ h1 (by decide) h3, M_own_step hM hF _ h1 (by decide) h3, M_own_step hM hF _ h1 (by decide) h3, M_own_step hM hF _ h1 (by decide) h3, d_X9_hasOwn_2.eq_2, show (4 : Int32) = nI 4 from rfl, if_pos (nI_le (Nat.le_refl _) (by decide))]
  unfold hasO
  cases own z r 0 g <;> cases own z r 1 g <;> cases own z r 2 g <;> cases own z r 3 g <;> rfl
end
