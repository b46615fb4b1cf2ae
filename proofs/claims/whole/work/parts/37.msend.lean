/-! what a frame's sending leaves as it is -/
theorem wr8_1 {z : Sg} {i : Nat} {a0 a1 a2 a3 a4 a5 a6 a7 : Int32} : (wr8 z i a0 a1 a2 a3 a4 a5 a6 a7).1 = z.1 := rfl
theorem wr8_ne {z : Sg} {i k : Nat} {a0 a1 a2 a3 a4 a5 a6 a7 : Int32} (h : k ≠ 18) : (wr8 z i a0 a1 a2 a3 a4 a5 a6 a7).2 k = z.2 k := by
  unfold wr8
  rw [uA_ne h, uA_ne h, uA_ne h, uA_ne h, uA_ne h, uA_ne h, uA_ne h, uA_ne h]
section
variable {z : Sg} {v a0 a1 a2 a3 a4 a5 a6 a7 : Int32} {k : Nat}
theorem pu_row (h : k ≠ 16 ∧ k ≠ 17 ∧ k ≠ 18) : (pu z v a0 a1 a2 a3 a4 a5 a6 a7).2.2 k = z.2 k := by
  unfold pu
  split
  · rfl
  · split
    · split
      · rfl
      · show (ptZ z _ a0 a1 a2 a3 a4 a5 a6 a7).2 k = _
        unfold ptZ
        rw [uS_2, uA_ne h.2.1, uA_ne h.1, wr8_ne h.2.2]
    · rfl
theorem pu_sc (h : k ≠ 3 ∧ k ≠ 4) : (pu z v a0 a1 a2 a3 a4 a5 a6 a7).2.1 k = z.1 k := by
  unfold pu
  split
  · rfl
  · split
    · split
      · show (uS z 4 _).1 k = _
        rw [uS_get, if_neg h.2]
      · show (ptZ z _ a0 a1 a2 a3 a4 a5 a6 a7).1 k = _
        unfold ptZ
        rw [uS_get, if_neg h.1]
        rfl
    · rfl
theorem pu_cnt (hc : cnt z) : cnt (pu z v a0 a1 a2 a3 a4 a5 a6 a7).2 := by
  unfold pu
  split
  · exact hc
  · split
    · split
      · exact hc
      · rename_i h1 h2 h3
        intro n hn
        obtain ⟨m, c, b1, b2, b3, b4⟩ := hc n hn
        show ∃ m c, m ≤ c ∧ c ≤ 40 ∧ (ptZ z v.toNatClampNeg a0 a1 a2 a3 a4 a5 a6 a7).2 16 n = nI m ∧ (ptZ z v.toNatClampNeg a0 a1 a2 a3 a4 a5 a6 a7).2 17 n = nI c
        unfold ptZ
        rw [uS_2, uA_ne (by decide), uA_get, uA_get, uA_ne (by decide), wr8_ne (by decide), wr8_ne (by decide)]
        by_cases he : n = v.toNatClampNeg
        · rw [if_pos he, if_pos he, ← he, b3, b4]
          have hc40 : c < 40 := by
            rcases Nat.lt_or_ge c 40 with h | h
            · exact h
            · exact absurd (by rw [← he, b4, show c = 40 by omega]; rfl) h3
          exact ⟨m + 1, c + 1, by omega, by omega, nI_1 m, nI_1 c⟩
        · rw [if_neg he, if_neg he]
          exact ⟨m, c, b1, b2, b3, b4⟩
    · exact hc
end
theorem WF_eq {z z' : Sg} (h : WF z) (h0 : z'.1 0 = z.1 0) (h1 : z'.1 1 = z.1 1) (r8 : z'.2 8 = z.2 8) (r11 : z'.2 11 = z.2 11) (r12 : z'.2 12 = z.2 12) (r31 : z'.2 31 = z.2 31) : WF z' := by
  unfold WF nR at h ⊢
  rw [h0, h1, r8, r11, r12, r31]
  exact h
/-- by what port and router each has joined -/
def jbk (z : Sg) : Prop := ∀ t, t < 1360 → (z.2 33 t = -1 ∧ z.2 34 t = -1) ∨ ∃ p q, p < 4 ∧ q < nR z ∧ z.2 33 t = nI p ∧ z.2 34 t = nI q
def MO (z : Sg) : Prop := WF z ∧ cnt z ∧ jbk z
theorem MO_pu {z : Sg} {v a0 a1 a2 a3 a4 a5 a6 a7 : Int32} (h : MO z) : MO (pu z v a0 a1 a2 a3 a4 a5 a6 a7).2 := by
  refine ⟨WF_eq h.1 (pu_sc (by decide)) (pu_sc (by decide)) (pu_row (by decide)) (pu_row (by decide)) (pu_row (by decide)) (pu_row (by decide)), pu_cnt h.2.1, ?_⟩
  have e : nR (pu z v a0 a1 a2 a3 a4 a5 a6 a7).2 = nR z := te_nR te_pu
  intro t ht
  rw [pu_row (by decide), pu_row (by decide), e]
  exact h.2.2 t ht
theorem MO_uA {z : Sg} {k i : Nat} {v : Int32} (h : MO z) (hk : k ≠ 8 ∧ k ≠ 11 ∧ k ≠ 12 ∧ k ≠ 31 ∧ k ≠ 16 ∧ k ≠ 17 ∧ k ≠ 33 ∧ k ≠ 34) : MO (uA z k i v) := by
  refine ⟨WF_eq h.1 rfl rfl (uA_ne (by omega)) (uA_ne (by omega)) (uA_ne (by omega)) (uA_ne (by omega)), ?_, ?_⟩
  · intro n hn
    rw [uA_ne (by omega), uA_ne (by omega)]
    exact h.2.1 n hn
  · intro t ht
    rw [uA_ne (by omega), uA_ne (by omega)]
    exact h.2.2 t ht
theorem MO_uS {z : Sg} {k : Nat} {v : Int32} (h : MO z) (hk : k ≠ 0 ∧ k ≠ 1) : MO (uS z k v) := by
  have e0 : (uS z k v).1 0 = z.1 0 := by rw [uS_get, if_neg (Ne.symm hk.1)]
  have e1 : (uS z k v).1 1 = z.1 1 := by rw [uS_get, if_neg (Ne.symm hk.2)]
  refine ⟨WF_eq h.1 e0 e1 rfl rfl rfl rfl, h.2.1, ?_⟩
  have e : nR (uS z k v) = nR z := by unfold nR; rw [e1]
  intro t ht
  rw [e]
  exact h.2.2 t ht
/-! the senders -/
def sjZ (z : Sg) (r g y : Nat) : Sg := uA (pu z (z.2 8 (4 * r + (z.2 33 (17 * (8 * r + g) + y)).toNatClampNeg)) 5 (nI r) (z.2 34 (17 * (8 * r + g) + y)) (nI g) (if y = 0 then -1 else nI (y - 1)) 0 (if y = 0 then z.2 36 (8 * r + g) else 0) 0).2 35 (17 * (8 * r + g) + y) (z.1 0)
def inc (b : Bool) (k : Nat) (z : Sg) : Sg := cond b (uS z k (z.1 k + 1)) z
def scZ (z : Sg) (r p g s : Nat) : Sg := inc (pu z (z.2 8 (4 * r + p)) 8 (nI r) (-1) (nI g) (nI s) (ownC z r g s) 0 0).1 7 (pu z (z.2 8 (4 * r + p)) 8 (nI r) (-1) (nI g) (nI s) (ownC z r g s) 0 0).2
def sd1 (z : Sg) (r : Nat) (out but g s nu li : Int32) (p : Nat) : Sg := if ((out >>> (nI p &&& 31)) &&& 1) = 0 ∨ nI p = but ∨ ¬ 1 ≤ li then z else inc (pu z (z.2 8 (4 * r + p)) 7 (nI r) (-1) g s nu 0 li).1 5 (pu z (z.2 8 (4 * r + p)) 7 (nI r) (-1) g s nu 0 li).2
def sdZ (z : Sg) (r : Nat) (out but g s nu li : Int32) : Nat → Sg
  | 0 => z
  | p + 1 => sd1 (sdZ z r out but g s nu li p) r out but g s nu li p
def sbZ (z : Sg) (r k : Nat) (kind g s nu bi li : Int32) : Bool × Sg := if Wp z k = -1 ∨ Wr z k = -1 then (false, z) else pu z (z.2 8 (4 * r + (Wp z k).toNatClampNeg)) kind (nI r) (Wr z k) g s nu bi li
def tuZ (z : Sg) (r g : Nat) (s nu li : Int32) : Sg := inc (sbZ z r (tM z r g) 9 (nI g) s nu (nI r + 16 * li) 16).1 6 (sbZ z r (tM z r g) 9 (nI g) s nu (nI r + 16 * li) 16).2
def soZ (z : Sg) (r to : Nat) (g s li : Int32) : Sg := (sbZ z r (26 * r + to) 10 g s 0 (nI to) li).2
theorem MO_inc {b : Bool} {k : Nat} {z : Sg} (h : MO z) (hk : k ≠ 0 ∧ k ≠ 1) : MO (inc b k z) := by
  cases b
  · exact h
  · exact MO_uS h hk
theorem te_inc {b : Bool} {k : Nat} {z : Sg} (hk : k ≠ 1 ∧ k ≠ 0) : TE (inc b k z) z := by
  cases b
  · exact te_rf
  · exact te_uS hk
theorem MO_sd1 {z : Sg} {r p : Nat} {out but g s nu li : Int32} (h : MO z) : MO (sd1 z r out but g s nu li p) := by
  unfold sd1
  split
  · exact h
  · exact MO_inc (MO_pu h) (by decide)
theorem te_sd1 {z : Sg} {r p : Nat} {out but g s nu li : Int32} : TE (sd1 z r out but g s nu li p) z := by
  unfold sd1
  split
  · exact te_rf
  · exact te_tr (te_inc (by decide)) te_pu
theorem MO_sdZ {z : Sg} {r : Nat} {out but g s nu li : Int32} (h : MO z) : ∀ p, MO (sdZ z r out but g s nu li p)
  | 0 => h
  | p + 1 => MO_sd1 (MO_sdZ h p)
theorem te_sdZ {z : Sg} {r : Nat} {out but g s nu li : Int32} : ∀ p, TE (sdZ z r out but g s nu li p) z
  | 0 => te_rf
  | p + 1 => te_tr te_sd1 (te_sdZ p)
theorem MO_sbZ {z : Sg} {r k : Nat} {kind g s nu bi li : Int32} (h : MO z) : MO (sbZ z r k kind g s nu bi li).2 := by
  unfold sbZ
  split
  · exact h
  · exact MO_pu h
theorem te_sbZ {z : Sg} {r k : Nat} {kind g s nu bi li : Int32} : TE (sbZ z r k kind g s nu bi li).2 z := by
  unfold sbZ
  split
  · exact te_rf
  · exact te_pu
theorem row8 {z : Sg} (h : MO z) {j : Nat} (hj : j < 40) : z.2 8 j = -1 ∨ ∃ n, n < 16 ∧ z.2 8 j = nI n := h.1.2.2.2.2.2 j hj
theorem inc_e {x : Nat} {G : Hp} {z w : Sg} {b : Bool} : (if bI b = 0 then some (em2 x G z w) else some (em2 x G (uS z 7 (z.1 7 + 1)) w)) = some (em2 x G (inc b 7 z) w) := by cases b <;> rfl
section
variable {x : Nat} {G : Hp} {z w : Sg} {r p q g s y k : Nat}
theorem M_sendClaim (hM : MS x G) (hO : MO z) (hK : RK x G z) (hw : Cns z w) (h1 : r < nR z) (h2 : p < 4) (h3 : g < 8) (h4 : s < 16) : ∃ w', Cns (scZ z r p g s) w' ∧ d_X9_sendClaim x (nI r) (nI p) (nI g) (nI s) (em2 x G z w) = some (em2 x G (scZ z r p g s) w') := by
  have hn := hO.1.1
  obtain ⟨w', hf, e⟩ := M_ownClaim hM hO.1 hK hw h1 h3 h4
  refine ⟨w', te_Cns (te_tr (te_inc (by decide)) te_pu) hf.cns, ?_⟩
  unfold d_X9_sendClaim scZ
  simp (disch := omega) only [e, e2_hc, e2_hr, e2_hl, ms0, ms1, ms2, ms3, ms4, ms5, ms6, ms7, ms21, hM.1, mc8 hM, ml8 hM, mr8 hM, lm4, lm8, lm10, lm16, lm17, lm26, lm40, lm400, nI_add, nI_1, ix_nI, nI_clamp, gd_T, gd_t, bd_e, bo_e, b2_e, true_and, and_true, M_put hM hO.2.1 (row8 hO (show 4 * r + p < 40 by omega)), mw7, ite_bI]
  cases (pu z (z.2 8 (4 * r + p)) 8 (nI r) (-1) (nI g) (nI s) (ownC z r g s) 0 0).1 <;> rfl
theorem M_sendData_3 {out but gg ss nu li : Int32} (hM : MS x G) (h1 : r < nR z) : ∀ (n p : Nat), MO (sdZ z r out but gg ss nu li p) → p ≤ 4 → 4 - p < n → d_X9_sendData_3 n x (nI r) out but gg ss nu li (nI p) (em2 x G (sdZ z r out but gg ss nu li p) w) = some (em2 x G (sdZ z r out but gg ss nu li 4) w) := by
  intro n
  induction n with
  | zero => intro p _ _ h; omega
  | succ n ih =>
    intro p hO hp hlt
    have hn := hO.1.1
    have hnr : nR (sdZ z r out but gg ss nu li p) = nR z := te_nR (te_sdZ p)
    rw [d_X9_sendData_3.eq_2, show (4 : Int32) = nI 4 from rfl]
    by_cases hpe : p = 4
    · subst hpe
      rw [if_pos (nI_le (Nat.le_refl _) (by decide))]
    · rw [if_neg (nI_ge (by omega) (by decide)), nI_1, ← show (4 : Int32) = nI 4 from rfl]
      have e2 := ih (p + 1) (MO_sd1 hO) (by omega) (by omega)
      rw [← e2]
      show _ = d_X9_sendData_3 n x (nI r) out but gg ss nu li (nI (p + 1)) (em2 x G (sd1 (sdZ z r out but gg ss nu li p) r out but gg ss nu li p) w)
      unfold sd1
      by_cases c1 : ((out >>> (nI p &&& 31)) &&& 1) = 0
      · rw [if_pos c1, if_pos (Or.inl c1)]
      · rw [if_neg c1]
        by_cases c2 : nI p = but
        · rw [if_pos c2, if_pos (Or.inr (Or.inl c2))]
        · rw [if_neg c2]
          by_cases c3 : 1 ≤ li
          · rw [if_pos c3, if_neg (by simp [c1, c2, c3])]
            simp (disch := omega) only [e2_hc, e2_hr, e2_hl, ms0, ms1, ms2, ms3, ms4, ms5, ms6, ms7, ms21, hM.1, mc8 hM, ml8 hM, mr8 hM, lm4, lm8, lm10, lm16, lm17, lm26, lm40, lm400, nI_add, nI_1, ix_nI, nI_clamp, gd_T, gd_t, bd_e, bo_e, b2_e, true_and, and_true, M_put hM hO.2.1 (row8 hO (show 4 * r + p < 40 by omega)), mw5, ite_bI]
            cases (pu (sdZ z r out but gg ss nu li p) ((sdZ z r out but gg ss nu li p).2 8 (4 * r + p)) 7 (nI r) (-1) gg ss nu 0 li).1 <;> rfl
          · rw [if_neg c3, if_pos (Or.inr (Or.inr c3))]
theorem M_sendData {out but gg ss nu li : Int32} (hM : MS x G) (hO : MO z) (h1 : r < nR z) : d_X9_sendData x (nI r) out but gg ss nu li (em2 x G z w) = some (em2 x G (sdZ z r out but gg ss nu li 4) w) := M_sendData_3 hM h1 FU 0 hO (by decide) (by decide)
theorem M_sendBy {kind gg ss nu bi li : Int32} (hM : MS x G) (hO : MO z) (hf : Frs z w) (h1 : r < nR z) (hk : k < 26 * nR z) : d_X9_sendBy x (nI r) (nI k) kind gg ss nu bi li (em2 x G z w) = some (bI (sbZ z r k kind gg ss nu bi li).1, em2 x G (sbZ z r k kind gg ss nu bi li).2 w) := by
  have hn := hO.1.1
  unfold d_X9_sendBy sbZ
  rw [if_neg (nI_m1 (by omega))]
  simp (disch := omega) only [e2_hc, e2_hr, e2_hl, ms0, ms1, ms2, ms3, ms4, ms5, ms6, ms7, ms21, hM.1, mc23 hM, ml23 hM, mr23 hM, mc24 hM, ml24 hM, mr24 hM, mc8 hM, ml8 hM, mr8 hM, lm4, lm8, lm10, lm16, lm17, lm26, lm40, lm400, nI_add, nI_1, ix_nI, nI_clamp, gd_T, gd_t, bd_e, bo_e, b2_e, true_and, and_true]
  rw [(hf.2 _ hk).2.1, (hf.2 _ hk).2.2]
  rcases Wp_ok z k with a1 | ⟨p, hp, a1⟩
  · rw [if_pos a1, if_pos (Or.inl a1)]
    rfl
  · have a1' : ¬ Wp z k = -1 := by rw [a1]; exact nI_m1 (by omega)
    rw [if_neg a1']
    rcases Wr_ok z k with a2 | ⟨q, hq, a2⟩
    · rw [if_pos a2, if_pos (Or.inr a2)]
      rfl
    · have a2' : ¬ Wr z k = -1 := by rw [a2]; exact nI_m1 (by omega)
      rw [if_neg a2', if_neg (fun h => h.elim a1' a2'), a1]
      simp (disch := omega) only [lm4, lm8, lm10, lm16, lm17, lm26, lm40, lm400, nI_add, nI_1, ix_nI, nI_clamp, gd_T, gd_t, bd_e, bo_e, b2_e, true_and, and_true, M_put hM hO.2.1 (row8 hO (show 4 * r + p < 40 by omega)), bI_and1]
theorem M_sendTunnel {nu li : Int32} (hM : MS x G) (hO : MO z) (hK : RK x G z) (hw : Cns z w) (h1 : r < nR z) (h3 : g < 8) : ∃ w', Cns (tuZ z r g (nI s) nu li) w' ∧ d_X9_sendTunnel x (nI r) (nI g) (nI s) nu li (em2 x G z w) = some (em2 x G (tuZ z r g (nI s) nu li) w') := by
  have hn := hO.1.1
  obtain ⟨w', hf, e⟩ := M_toMeeting hM hO.1 hK hw (show r < 10 by omega) h3
  refine ⟨w', te_Cns (te_tr (te_inc (by decide)) te_sbZ) hf.cns, ?_⟩
  unfold d_X9_sendTunnel tuZ
  simp (disch := omega) only [e, e2_hc, e2_hr, e2_hl, ms0, ms1, ms2, ms3, ms4, ms5, ms6, ms7, ms21, hM.1, gd_T, gd_t, bd_e, bo_e, b2_e, true_and, and_true, M_sendBy hM hO hf h1 (tM_lt hO.1 h1 h3), mw6, ite_bI]
  cases (sbZ z r (tM z r g) 9 (nI g) (nI s) nu (nI r + 16 * li) 16).1 <;> rfl
theorem M_sendStop {to : Nat} {li : Int32} (hM : MS x G) (hO : MO z) (hK : RK x G z) (hw : Cns z w) (h1 : r < nR z) (ht : to < 26) : ∃ w', Cns (soZ z r to (nI g) (nI s) li) w' ∧ d_X9_sendStop x (nI r) (nI to) (nI g) (nI s) li (em2 x G z w) = some (em2 x G (soZ z r to (nI g) (nI s) li) w') := by
  have hn := hO.1.1
  obtain ⟨w', e, hf⟩ := hK w hw
  refine ⟨w', te_Cns te_sbZ hf.cns, ?_⟩
  unfold d_X9_sendStop soZ
  simp (disch := omega) only [e, e2_hc, e2_hr, e2_hl, ms0, ms1, ms2, ms3, ms4, ms5, ms6, ms7, ms21, hM.1, lm4, lm8, lm10, lm16, lm17, lm26, lm40, lm400, nI_add, nI_1, ix_nI, nI_clamp, gd_T, gd_t, bd_e, bo_e, b2_e, true_and, and_true, M_sendBy hM hO hf h1 (show 26 * r + to < 26 * nR z by omega)]
end
