/-! the reference's calls that change its state -/
def NU (z : Sg) : Prop := ∃ m, m ≤ 400 ∧ z.1 2 = nI m
def GI (z : Sg) : Prop := MO z ∧ FO z ∧ CO z ∧ NU z
theorem GI.iv {z : Sg} (h : GI z) : IV z := ⟨h.1, h.2.1, DB_ok h.2.2.1 h.1.1.1.2.1⟩
theorem CO_t0 {z z' : Sg} (h : T0 z' z) (k : CO z) : CO z' := by
  unfold CO at k ⊢
  rw [h.2.1, h.2.2.1]
  exact k
theorem NU_eq {z z' : Sg} (h : z'.1 2 = z.1 2) (k : NU z) : NU z' := by
  unfold NU at k ⊢
  rw [h]
  exact k
abbrev tn (v : Int32) : Nat := v.toNatClampNeg
def plB (z : Sg) (r p v c : Int32) : Bool := inR r (nR z) && inR p 4 && inR v 16 && decide (¬ c < 1 ∧ c ≤ 9) && decide (z.1 0 = 0) && decide (z.2 8 (4 * tn r + tn p) = -1) && decide (pOn z (tn r) v = -1)
def plZ (z : Sg) (r p v c : Int32) : Sg := uA (uA z 8 (4 * tn r + tn p) v) 9 (4 * tn r + tn p) c
def hoB (z : Sg) (h v : Int32) : Bool := inR h 16 && inR v 16 && decide (z.1 0 = 0) && decide (z.2 11 (tn h) = -1)
def hoZ (z : Sg) (h v : Int32) : Sg := uA z 11 (tn h) v
def meB (z : Sg) (g r : Int32) : Bool := inR g 8 && inR r (nR z) && decide (z.1 0 = 0)
def meZ (z : Sg) (g r : Int32) : Sg := uA z 12 (tn g) r
def mdB (z : Sg) (v : Int32) : Bool := inR v 16 && decide (z.2 10 (tn v) ≠ 0)
def mdZ (z : Sg) (v : Int32) : Sg := uA z 10 (tn v) 0
def jiB (z : Sg) (h g : Int32) : Bool := inR h 16 && inR g 8 && decide (z.2 11 (tn h) ≠ -1) && !inB z (tn h) (tn g)
def jiZ (z : Sg) (h g : Int32) : Sg := (pu (uA z 13 (tn h) (z.2 13 (tn h) ||| (1 <<< (g &&& 31)))) (z.2 11 (tn h)) 3 (100 + h) (-1) g (-1) 0 0 0).2
def leB (z : Sg) (h g : Int32) : Bool := inR h 16 && inR g 8 && inB z (tn h) (tn g)
def leZ (z : Sg) (h g : Int32) : Sg := (pu (uA z 13 (tn h) (z.2 13 (tn h) &&& ((1 <<< (g &&& 31)) ^^^ (-1)))) (z.2 11 (tn h)) 4 (100 + h) (-1) g (-1) 0 0 0).2
def seB (z : Sg) (h g : Int32) : Bool := inR h 16 && inR g 8 && decide (z.2 11 (tn h) ≠ -1 ∧ z.2 10 (tn (z.2 11 (tn h))) = 0 ∧ z.1 2 ≠ 400)
def seZ (z : Sg) (h g : Int32) : Sg := uS (pu z (z.2 11 (tn h)) 7 (100 + h) (-1) g h (z.1 2) 0 16).2 2 (z.1 2 + 1)
def loB (z : Sg) (v i : Int32) : Bool := inR v 16 && decide (¬ i < 0 ∧ i < z.2 16 (tn v))
def lsZ (z : Sg) (a n : Nat) : Sg := (z.1, fun k => if k = 18 then (fun i => if a ≤ i ∧ i < n then z.2 18 (i + 8) else z.2 18 i) else z.2 k)
def loZ (z : Sg) (v i : Int32) : Sg := uA (lsZ z (8 * (40 * tn v + tn i)) (8 * (40 * tn v + tn (z.2 16 (tn v)) - 1))) 16 (tn v) (z.2 16 (tn v) - 1)
theorem GI_pl {z : Sg} {r p v c : Int32} (h : GI z) (hb : plB z r p v c = true) : GI (plZ z r p v c) := by
  obtain ⟨⟨⟨w1, w2, w3, w4, w5, w6⟩, hcn, hj⟩, hf, hco, hnu⟩ := h
  unfold plB at hb
  simp only [Bool.and_eq_true] at hb
  obtain ⟨⟨⟨⟨⟨⟨b1, b2⟩, b3⟩, b4⟩, -⟩, -⟩, -⟩ := hb
  obtain ⟨r', hr, rfl⟩ := inR_t (by omega) b1
  obtain ⟨p', hp, rfl⟩ := inR_t (by omega) b2
  obtain ⟨v', hv, rfl⟩ := inR_t (by omega) b3
  have b4' := of_decide_eq_true b4
  have hneg : ¬ c < 0 := fun q => b4'.1 (Int32.lt_trans q (by decide))
  obtain ⟨c', hc, rfl⟩ := nI_of2 (M := 9) (n := 9) (by decide) hneg b4'.2
  have hc1 : 1 ≤ c' := by
    rcases Nat.eq_zero_or_pos c' with h0 | h0
    · exact absurd (by rw [h0]; decide) b4'.1
    · exact h0
  unfold plZ tn
  rw [nI_clamp (by omega), nI_clamp (by omega)]
  refine ⟨⟨⟨w1, w2, ?_, ?_, ?_, ?_⟩, ?_, ?_⟩, FO_eq hf rfl (by rw [uA_ne (by decide), uA_ne (by decide)]) (by rw [uA_ne (by decide), uA_ne (by decide)]), ?_, hnu⟩
  · rw [uA_ne (by decide), uA_ne (by decide)]; exact w3
  · rw [uA_ne (by decide), uA_ne (by decide)]; exact w4
  · rw [uA_ne (by decide), uA_ne (by decide)]; exact w5
  · intro j hj2
    rw [uA_ne (by decide), uA_get]
    split
    · exact Or.inr ⟨v', hv, rfl⟩
    · exact w6 j hj2
  · intro n hn
    rw [uA_ne (by decide), uA_ne (by decide), uA_ne (by decide), uA_ne (by decide)]
    exact hcn n hn
  · intro t ht
    rw [uA_ne (by decide), uA_ne (by decide), uA_ne (by decide), uA_ne (by decide)]
    exact hj t ht
  · intro j hj2 hne
    rw [uA_get]
    split
    · exact ⟨c', hc1, hc, rfl⟩
    · rename_i hx
      rw [uA_ne (by decide), uA_get, if_neg hx] at hne
      rw [uA_ne (by decide)]
      exact hco j hj2 hne
theorem GI_uA {z : Sg} {k i : Nat} {v : Int32} (h : GI z) (hk : k ≠ 8 ∧ k ≠ 11 ∧ k ≠ 12 ∧ k ≠ 31 ∧ k ≠ 16 ∧ k ≠ 17 ∧ k ≠ 33 ∧ k ≠ 34 ∧ k ≠ 18 ∧ k ≠ 9) : GI (uA z k i v) := ⟨MO_uA h.1 (by omega), FO_eq h.2.1 rfl (uA_ne (by omega)) (uA_ne (by omega)), by
  intro j hj
  rw [uA_ne (by omega), uA_ne (by omega)]
  exact h.2.2.1 j hj, h.2.2.2⟩
theorem GI_pu {z : Sg} {v a0 a1 a2 a3 a4 a5 a6 a7 : Int32} (h : GI z) (hf : fok (nR z) (f8 a0 a1 a2 a3 a4 a5 a6 a7)) : GI (pu z v a0 a1 a2 a3 a4 a5 a6 a7).2 := ⟨MO_pu h.1, FO_pu h.1.2.1 h.2.1 hf, CO_t0 te_pu.1 h.2.2.1, NU_eq (pu_sc (by decide)) h.2.2.2⟩
theorem GI_ho {z : Sg} {h v : Int32} (hG : GI z) (hb : hoB z h v = true) : GI (hoZ z h v) := by
  obtain ⟨⟨⟨w1, w2, w3, w4, w5, w6⟩, hcn, hj⟩, hf, hco, hnu⟩ := hG
  unfold hoB at hb
  simp only [Bool.and_eq_true] at hb
  obtain ⟨v', hv, rfl⟩ := inR_t (by omega) hb.1.1.2
  unfold hoZ
  refine ⟨⟨⟨w1, w2, ?_, ?_, ?_, ?_⟩, ?_, ?_⟩, FO_eq hf rfl (uA_ne (by decide)) (uA_ne (by decide)), ?_, hnu⟩
  · intro s hs
    rw [uA_get]
    split
    · exact Or.inr ⟨v', hv, rfl⟩
    · exact w3 s hs
  · rw [uA_ne (by decide)]; exact w4
  · rw [uA_ne (by decide)]; exact w5
  · rw [uA_ne (by decide)]; exact w6
  · intro n hn
    rw [uA_ne (by decide), uA_ne (by decide)]
    exact hcn n hn
  · intro t ht
    rw [uA_ne (by decide), uA_ne (by decide)]
    exact hj t ht
  · intro j hj2
    rw [uA_ne (by decide), uA_ne (by decide)]
    exact hco j hj2
theorem GI_me {z : Sg} {g r : Int32} (hG : GI z) (hb : meB z g r = true) : GI (meZ z g r) := by
  obtain ⟨⟨⟨w1, w2, w3, w4, w5, w6⟩, hcn, hj⟩, hf, hco, hnu⟩ := hG
  unfold meB at hb
  simp only [Bool.and_eq_true] at hb
  obtain ⟨v', hv, rfl⟩ := inR_t (by omega) hb.1.2
  unfold meZ
  refine ⟨⟨⟨w1, w2, ?_, ?_, ?_, ?_⟩, ?_, ?_⟩, FO_eq hf rfl (uA_ne (by decide)) (uA_ne (by decide)), ?_, hnu⟩
  · rw [uA_ne (by decide)]; exact w3
  · intro s hs
    rw [uA_get]
    split
    · exact ⟨v', hv, rfl⟩
    · exact w4 s hs
  · rw [uA_ne (by decide)]; exact w5
  · rw [uA_ne (by decide)]; exact w6
  · intro n hn
    rw [uA_ne (by decide), uA_ne (by decide)]
    exact hcn n hn
  · intro t ht
    rw [uA_ne (by decide), uA_ne (by decide)]
    exact hj t ht
  · intro j hj2
    rw [uA_ne (by decide), uA_ne (by decide)]
    exact hco j hj2
theorem GI_md {z : Sg} {v : Int32} (hG : GI z) : GI (mdZ z v) := GI_uA hG (by decide)
theorem GI_ji {z : Sg} {h g : Int32} (hG : GI z) (hb : jiB z h g = true) : GI (jiZ z h g) := by
  unfold jiB at hb
  simp only [Bool.and_eq_true] at hb
  obtain ⟨g', hg, rfl⟩ := inR_t (by decide) hb.1.1.2
  exact GI_pu (GI_uA hG (by decide)) (Or.inr (Or.inr (Or.inl ⟨rfl, ⟨g', hg, rfl⟩, rfl⟩)))
theorem GI_le {z : Sg} {h g : Int32} (hG : GI z) (hb : leB z h g = true) : GI (leZ z h g) := by
  unfold leB at hb
  simp only [Bool.and_eq_true] at hb
  obtain ⟨g', hg, rfl⟩ := inR_t (by decide) hb.1.2
  exact GI_pu (GI_uA hG (by decide)) (Or.inr (Or.inr (Or.inr (Or.inl ⟨rfl, ⟨g', hg, rfl⟩, rfl⟩))))
theorem GI_se {z : Sg} {h g : Int32} (hG : GI z) (hb : seB z h g = true) : GI (seZ z h g) := by
  unfold seB at hb
  simp only [Bool.and_eq_true, decide_eq_true_eq] at hb
  obtain ⟨h', hh, rfl⟩ := inR_t (by decide) hb.1.1
  obtain ⟨g', hg, rfl⟩ := inR_t (by decide) hb.1.2
  obtain ⟨m, hm, em⟩ := hG.2.2.2
  have hm4 : m < 400 := by
    rcases Nat.lt_or_ge m 400 with h1 | h1
    · exact h1
    · exact absurd (by rw [em, show m = 400 by omega]; rfl) hb.2.2.2
  have h2 := GI_pu (v := z.2 11 (tn (nI h'))) (a0 := 7) (a1 := 100 + nI h') (a2 := -1) (a3 := nI g') (a4 := nI h') (a5 := z.1 2) (a6 := 0) (a7 := 16) hG (Or.inr (Or.inr (Or.inr (Or.inr (Or.inr (Or.inr (Or.inl ⟨rfl, ⟨g', hg, rfl⟩, ⟨h', hh, rfl⟩, ⟨m, hm4, em⟩, ⟨16, Nat.le_refl _, rfl⟩⟩)))))))
  unfold seZ
  refine ⟨MO_uS h2.1 (by decide), FO_eq h2.2.1 rfl rfl rfl, h2.2.2.1, m + 1, by omega, ?_⟩
  rw [uS_get, if_pos rfl, em]
  exact nI_1 m
theorem ls_ne {z : Sg} {a n k : Nat} (h : k ≠ 18) : (lsZ z a n).2 k = z.2 k := if_neg h
theorem ls_at {z : Sg} {a n i : Nat} : (lsZ z a n).2 18 i = if a ≤ i ∧ i < n then z.2 18 (i + 8) else z.2 18 i := rfl
theorem ls_0 {z : Sg} {a : Nat} : lsZ z a a = z := by
  refine Prod.ext rfl ?_
  funext k
  by_cases h : k = 18
  · subst h
    funext i
    rw [ls_at, if_neg (by omega)]
  · exact ls_ne h
theorem ls_s {z : Sg} {a n : Nat} (h : a ≤ n) : uA (lsZ z a n) 18 n ((lsZ z a n).2 18 (n + 8)) = lsZ z a (n + 1) := by
  refine Prod.ext rfl ?_
  funext k
  by_cases hk : k = 18
  · subst hk
    rw [uA_at]
    funext i
    show va_up ((lsZ z a n).2 18) n ((lsZ z a n).2 18 (n + 8)) i = _
    unfold va_up
    rw [ls_at, ls_at, ls_at, if_neg (show ¬ (a ≤ n + 8 ∧ n + 8 < n) by omega)]
    by_cases hi : i = n
    · rw [if_pos hi, if_pos (by omega), hi]
    · rw [if_neg hi]
      by_cases h2 : a ≤ i ∧ i < n
      · rw [if_pos h2, if_pos (by omega)]
      · rw [if_neg h2, if_neg (by omega)]
  · rw [uA_ne hk, ls_ne hk, ls_ne hk]
theorem lo_arg {z : Sg} {v i : Int32} (hc : cnt z) (hb : loB z v i = true) : ∃ v' i' m, v' < 16 ∧ i' < m ∧ m ≤ 40 ∧ v = nI v' ∧ i = nI i' ∧ z.2 16 v' = nI m := by
  unfold loB at hb
  simp only [Bool.and_eq_true, decide_eq_true_eq] at hb
  obtain ⟨v', hv, rfl⟩ := inR_t (by decide) hb.1
  obtain ⟨m, c, b1, b2, b3, b4⟩ := hc v' hv
  have h2 := hb.2.2
  unfold tn at h2
  rw [nI_clamp (by omega), b3] at h2
  rcases pk_ix i (show m < 2 ^ 31 by omega) with h3 | h3 | ⟨i', hi, rfl⟩
  · exact absurd h3 hb.2.1
  · exact absurd h3 (Int32.not_le.mpr h2)
  · exact ⟨v', i', m, hv, hi, by omega, rfl, rfl, b3⟩
theorem GI_lo {z : Sg} {v i : Int32} (hG : GI z) (hb : loB z v i = true) : GI (loZ z v i) := by
  obtain ⟨v', i', m, hv, hi, hm, rfl, rfl, em⟩ := lo_arg hG.1.2.1 hb
  obtain ⟨m', c, b1, b2, b3, b4⟩ := hG.1.2.1 v' hv
  have hmm : m' = m := (nI_eq (by omega) (by omega)).mp (b3.symm.trans em)
  subst hmm
  unfold loZ tn
  rw [nI_clamp (by omega), nI_clamp (by omega), em, nI_clamp (by omega)]
  have e1 : nI m' - 1 = nI (m' - 1) := by rw [show m' = m' - 1 + 1 by omega, nI_pred]; congr 1
  rw [e1]
  obtain ⟨⟨w, hcn, hj⟩, hf, hco, hnu⟩ := hG
  refine ⟨⟨WF_eq w rfl rfl ?_ ?_ ?_ ?_, ?_, ?_⟩, ?_, ?_, hnu⟩
  · rw [uA_ne (by decide), ls_ne (by decide)]
  · rw [uA_ne (by decide), ls_ne (by decide)]
  · rw [uA_ne (by decide), ls_ne (by decide)]
  · rw [uA_ne (by decide), ls_ne (by decide)]
  · intro n hn
    rw [uA_get, uA_ne (by decide), ls_ne (by decide), ls_ne (by decide)]
    by_cases hx : n = v'
    · rw [if_pos hx, hx]
      exact ⟨m' - 1, c, by omega, b2, rfl, b4⟩
    · rw [if_neg hx]
      exact hcn n hn
  · intro t ht
    rw [uA_ne (by decide), uA_ne (by decide), ls_ne (by decide), ls_ne (by decide)]
    exact hj t ht
  · intro u j hu hj2
    rw [uA_ne (by decide)]
    unfold mN at hj2
    rw [uA_get, ls_ne (by decide)] at hj2
    obtain ⟨c1, c2⟩ := cnt_mN hcn hu
    by_cases hx : u = v'
    · subst hx
      rw [if_pos rfl, nI_clamp (by omega)] at hj2
      by_cases hij : j < i'
      · refine fok_cong (fun a ha => ?_) (hf u j hu (by unfold mN; rw [em, nI_clamp (by omega)]; omega))
        show _ = (lsZ z _ _).2 18 (8 * (40 * u + j) + a)
        rw [ls_at, if_neg (by omega)]
      · refine fok_cong (fun a ha => ?_) (hf u (j + 1) hu (by unfold mN; rw [em, nI_clamp (by omega)]; omega))
        show _ = (lsZ z _ _).2 18 (8 * (40 * u + j) + a)
        rw [ls_at, if_pos (by omega)]
        exact congrArg (z.2 18) (show 8 * (40 * u + (j + 1)) + a = 8 * (40 * u + j) + a + 8 by omega)
    · rw [if_neg hx] at hj2
      refine fok_cong (fun a ha => ?_) (hf u j hu hj2)
      show _ = (lsZ z _ _).2 18 (8 * (40 * u + j) + a)
      have hj3 : j < mN z u := hj2
      rw [ls_at, if_neg (by omega)]
  · intro j hj2
    rw [uA_ne (by decide), uA_ne (by decide), ls_ne (by decide), ls_ne (by decide)]
    exact hco j hj2
theorem Cns_old {z w : Sg} : Cns z (uS w 21 1) := by
  intro h
  rw [uS_get, if_pos rfl] at h
  exact absurd h (by decide)
section
variable {x : Nat} {G : Hp} {z w : Sg} {v : Int32}
theorem M_plug {r p c : Int32} (hM : MS x G) (hF : WF z) : d_X9_plug x r p v c (em2 x G z w) = some (bI (plB z r p v c), cond (plB z r p v c) (em2 x G (plZ z r p v c) (uS w 21 1)) (em2 x G z w)) := by
  have hn := hF.1
  unfold d_X9_plug plB plZ tn
  rw [e2_hc, gd_t hM.1, M_isRouter hM hF, bo_e, ite_bI]
  cases hr : inR r (nR z) with
  | false => rfl
  | true =>
    obtain ⟨k, hk, rfl⟩ := inR_t (by omega) hr
    rw [cond_true, Bool.true_and, M_isPort, bo_e, ite_bI]
    cases hp : inR p 4 with
    | false => rfl
    | true =>
      obtain ⟨j, hj, rfl⟩ := inR_t (by omega) hp
      rw [cond_true, Bool.true_and, M_isWire, bo_e, ite_bI]
      cases hv : inR v 16 with
      | false => rfl
      | true =>
        rw [cond_true, Bool.true_and]
        by_cases h1 : c < 1
        · rw [if_pos h1, decide_eq_false (fun q => q.1 h1)]; rfl
        · rw [if_neg h1]
          by_cases h2 : c ≤ 9
          · rw [if_pos h2, decide_eq_true ⟨h1, h2⟩, Bool.true_and, ms0]
            by_cases h3 : z.1 0 = 0
            · rw [if_pos h3, decide_eq_true h3, Bool.true_and]
              simp (disch := omega) only [M_portOn hM (show k < 10 by omega), e2_hc, e2_hr, e2_hl, ms0, ms1, ms2, ms3, ms4, ms5, ms6, ms7, ms21, hM.1, mc8 hM, ml8 hM, mr8 hM, mc9 hM, ml9 hM, mr9 hM, lm4, lm8, lm10, lm16, lm17, lm26, lm40, lm400, nI_add, nI_1, ix_nI, nI_clamp, gd_T, gd_t, bd_e, bo_e, b2_e, true_and, and_true, mu8 hM, mu9 hM, mw21]
              by_cases h4 : z.2 8 (4 * k + j) = -1
              · rw [if_pos h4, decide_eq_true h4, Bool.true_and]
                by_cases h5 : pOn z k v = -1
                · rw [if_pos h5, decide_eq_true h5]; rfl
                · rw [if_neg h5, decide_eq_false h5]; rfl
              · rw [if_neg h4, decide_eq_false h4]; rfl
            · rw [if_neg h3, decide_eq_false h3]; rfl
          · rw [if_neg h2, decide_eq_false (fun q => h2 q.2)]; rfl
theorem M_hostC {h : Int32} (hM : MS x G) : d_X9_host x h v (em2 x G z w) = some (bI (hoB z h v), cond (hoB z h v) (em2 x G (hoZ z h v) w) (em2 x G z w)) := by
  unfold d_X9_host hoB hoZ tn
  rw [M_isHost, bo_e, ite_bI]
  cases hh : inR h 16 with
  | false => rfl
  | true =>
    obtain ⟨k, hk, rfl⟩ := inR_t (by omega) hh
    rw [cond_true, Bool.true_and, M_isWire, bo_e, ite_bI]
    cases hv : inR v 16 with
    | false => rfl
    | true =>
      rw [cond_true, Bool.true_and, e2_hc, gd_t hM.1, ms0]
      by_cases h3 : z.1 0 = 0
      · rw [if_pos h3, decide_eq_true h3, Bool.true_and]
        simp (disch := omega) only [e2_hc, e2_hr, e2_hl, ms0, ms1, ms2, ms3, ms4, ms5, ms6, ms7, ms21, hM.1, mc11 hM, ml11 hM, mr11 hM, lm4, lm8, lm10, lm16, lm17, lm26, lm40, lm400, nI_add, nI_1, ix_nI, nI_clamp, gd_T, gd_t, bd_e, bo_e, b2_e, true_and, and_true, mu11 hM]
        by_cases h4 : z.2 11 k = -1
        · rw [if_pos h4, decide_eq_true h4]; rfl
        · rw [if_neg h4, decide_eq_false h4]; rfl
      · rw [if_neg h3, decide_eq_false h3]; rfl
theorem M_meet {g r : Int32} (hM : MS x G) (hF : WF z) : d_X9_meet x g r (em2 x G z w) = some (bI (meB z g r), cond (meB z g r) (em2 x G (meZ z g r) w) (em2 x G z w)) := by
  unfold d_X9_meet meB meZ tn
  rw [M_isGroup, bo_e, ite_bI]
  cases hh : inR g 8 with
  | false => rfl
  | true =>
    obtain ⟨k, hk, rfl⟩ := inR_t (by omega) hh
    rw [cond_true, Bool.true_and, e2_hc, gd_t hM.1, M_isRouter hM hF, bo_e, ite_bI]
    cases hv : inR r (nR z) with
    | false => rfl
    | true =>
      rw [cond_true, Bool.true_and, ms0]
      by_cases h3 : z.1 0 = 0
      · rw [if_pos h3, decide_eq_true h3]
        simp (disch := omega) only [e2_hc, e2_hr, e2_hl, ms0, ms1, ms2, ms3, ms4, ms5, ms6, ms7, ms21, hM.1, mc12 hM, ml12 hM, mr12 hM, lm4, lm8, lm10, lm16, lm17, lm26, lm40, lm400, nI_add, nI_1, ix_nI, nI_clamp, gd_T, gd_t, bd_e, bo_e, b2_e, true_and, and_true, mu12 hM]
        rfl
      · rw [if_neg h3, decide_eq_false h3]; rfl
theorem M_mend (hM : MS x G) : d_X9_mend x v (em2 x G z w) = some (bI (mdB z v), cond (mdB z v) (em2 x G (mdZ z v) (uS w 21 1)) (em2 x G z w)) := by
  unfold d_X9_mend mdB mdZ tn
  rw [M_isWire, bo_e, ite_bI]
  cases hh : inR v 16 with
  | false => rfl
  | true =>
    obtain ⟨k, hk, rfl⟩ := inR_t (by omega) hh
    rw [cond_true, Bool.true_and]
    simp (disch := omega) only [e2_hc, e2_hr, e2_hl, ms0, ms1, ms2, ms3, ms4, ms5, ms6, ms7, ms21, hM.1, mc10 hM, ml10 hM, mr10 hM, lm4, lm8, lm10, lm16, lm17, lm26, lm40, lm400, nI_add, nI_1, ix_nI, nI_clamp, gd_T, gd_t, bd_e, bo_e, b2_e, true_and, and_true, mu10 hM, mw21]
    by_cases h3 : z.2 10 k = 0
    · rw [if_pos h3, decide_eq_false (fun q => q h3)]; rfl
    · rw [if_neg h3, decide_eq_true h3]; rfl
theorem M_join {h g : Int32} (hM : MS x G) (hO : MO z) : d_X9_join x h g (em2 x G z w) = some (bI (jiB z h g), cond (jiB z h g) (em2 x G (jiZ z h g) w) (em2 x G z w)) := by
  unfold d_X9_join jiB jiZ tn
  rw [M_isHost, bo_e, ite_bI]
  cases hh : inR h 16 with
  | false => rfl
  | true =>
    obtain ⟨k, hk, rfl⟩ := inR_t (by omega) hh
    rw [cond_true, Bool.true_and, M_isGroup, bo_e, ite_bI]
    cases hv : inR g 8 with
    | false => rfl
    | true =>
      obtain ⟨j, hj, rfl⟩ := inR_t (by omega) hv
      have hO2 : ∀ u, MO (uA z 13 k u) := fun u => MO_uA hO (by decide)
      have h11 : ∀ u, (uA z 13 k u).2 11 k = z.2 11 k := fun u => by rw [uA_ne (by decide)]
      rw [cond_true, Bool.true_and]
      simp (disch := omega) only [M_isIn hM hk, e2_hc, e2_hr, e2_hl, ms0, ms1, ms2, ms3, ms4, ms5, ms6, ms7, ms21, hM.1, mc11 hM, ml11 hM, mr11 hM, mc13 hM, ml13 hM, mr13 hM, lm4, lm8, lm10, lm16, lm17, lm26, lm40, lm400, nI_add, nI_1, ix_nI, nI_clamp, gd_T, gd_t, bd_e, bo_e, b2_e, true_and, and_true, mu13 hM, h11, M_put hM (hO2 _).2.1 (hO.1.2.2.1 k hk), ite_bI]
      by_cases h3 : z.2 11 k = -1
      · rw [if_pos h3, decide_eq_false (fun q => q h3)]; rfl
      · rw [if_neg h3, decide_eq_true h3, Bool.true_and]
        cases inB z k j <;> rfl
theorem M_leave {h g : Int32} (hM : MS x G) (hO : MO z) : d_X9_leave x h g (em2 x G z w) = some (bI (leB z h g), cond (leB z h g) (em2 x G (leZ z h g) w) (em2 x G z w)) := by
  unfold d_X9_leave leB leZ tn
  rw [M_isHost, bo_e, ite_bI]
  cases hh : inR h 16 with
  | false => rfl
  | true =>
    obtain ⟨k, hk, rfl⟩ := inR_t (by omega) hh
    rw [cond_true, Bool.true_and, M_isGroup, bo_e, ite_bI]
    cases hv : inR g 8 with
    | false => rfl
    | true =>
      obtain ⟨j, hj, rfl⟩ := inR_t (by omega) hv
      have hO2 : ∀ u, MO (uA z 13 k u) := fun u => MO_uA hO (by decide)
      have h11 : ∀ u, (uA z 13 k u).2 11 k = z.2 11 k := fun u => by rw [uA_ne (by decide)]
      rw [cond_true, Bool.true_and]
      simp (disch := omega) only [M_isIn hM hk, e2_hc, e2_hr, e2_hl, ms0, ms1, ms2, ms3, ms4, ms5, ms6, ms7, ms21, hM.1, mc11 hM, ml11 hM, mr11 hM, mc13 hM, ml13 hM, mr13 hM, lm4, lm8, lm10, lm16, lm17, lm26, lm40, lm400, nI_add, nI_1, ix_nI, nI_clamp, gd_T, gd_t, bd_e, bo_e, b2_e, true_and, and_true, mu13 hM, h11, M_put hM (hO2 _).2.1 (hO.1.2.2.1 k hk), ite_bI]
      cases inB z k j <;> rfl
theorem M_send {h g : Int32} (hM : MS x G) (hO : MO z) : d_X9_send x h g (em2 x G z w) = some (cond (seB z h g) (z.1 2) (-1), cond (seB z h g) (em2 x G (seZ z h g) w) (em2 x G z w)) := by
  unfold d_X9_send seB seZ tn
  rw [M_isHost, bo_e, ite_bI]
  cases hh : inR h 16 with
  | false => rfl
  | true =>
    obtain ⟨k, hk, rfl⟩ := inR_t (by omega) hh
    rw [cond_true, Bool.true_and, M_isGroup, bo_e, ite_bI]
    cases hv : inR g 8 with
    | false => rfl
    | true =>
      obtain ⟨j, hj, rfl⟩ := inR_t (by omega) hv
      rw [cond_true, Bool.true_and]
      simp (disch := omega) only [e2_hc, e2_hr, e2_hl, ms0, ms1, ms2, ms3, ms4, ms5, ms6, ms7, ms21, hM.1, mc11 hM, ml11 hM, mr11 hM, lm4, lm8, lm10, lm16, lm17, lm26, lm40, lm400, nI_add, nI_1, ix_nI, nI_clamp, gd_T, gd_t, bd_e, bo_e, b2_e, true_and, and_true]
      by_cases h3 : z.2 11 k = -1
      · rw [if_pos h3, decide_eq_false (fun q => q.1 h3)]; rfl
      · rw [if_neg h3]
        rcases hO.1.2.2.1 k hk with h4 | ⟨u, hu, h4⟩
        · exact absurd h4 h3
        · have e2 : (pu z (z.2 11 k) 7 (100 + nI k) (-1) (nI j) (nI k) (z.1 2) 0 16).2.1 2 = z.1 2 := pu_sc (by decide)
          simp (disch := omega) only [M_put hM hO.2.1 (hO.1.2.2.1 k hk), e2_hc, e2_hr, e2_hl, ms0, ms1, ms2, ms3, ms4, ms5, ms6, ms7, ms21, hM.1, gd_T, gd_t, bd_e, bo_e, b2_e, true_and, and_true, mw2, e2]
          rw [h4]
          simp (disch := omega) only [e2_hc, e2_hr, e2_hl, ms0, ms1, ms2, ms3, ms4, ms5, ms6, ms7, ms21, hM.1, mc10 hM, ml10 hM, mr10 hM, lm4, lm8, lm10, lm16, lm17, lm26, lm40, lm400, nI_add, nI_1, ix_nI, nI_clamp, gd_T, gd_t, bd_e, bo_e, b2_e, true_and, and_true]
          by_cases h5 : z.2 10 u = 0
          · rw [if_pos h5]
            by_cases h6 : z.1 2 = 400
            · rw [if_pos h6, decide_eq_false (fun q => q.2.2 h6)]; rfl
            · rw [if_neg h6, decide_eq_true ⟨nI_m1 (by omega), h5, h6⟩, cond_true, cond_true, uS_get, if_pos rfl, Int32.add_sub_cancel]
          · rw [if_neg h5, decide_eq_false (fun q => h5 q.2.1)]; rfl
theorem M_lo33 {v' m a : Nat} (hM : MS x G) (hv : v' < 16) (hm : 1 ≤ m) (hm2 : m ≤ 40) (em : z.2 16 v' = nI m) : ∀ (n f : Nat), a ≤ f → f ≤ 8 * (40 * v' + m - 1) → 8 * (40 * v' + m - 1) - f < n → d_X9_lose_33 n x (nI v') (nI f) (em2 x G (lsZ z a f) w) = some (1, em2 x G (uA (lsZ z a (8 * (40 * v' + m - 1))) 16 v' (nI m - 1)) w) := by
  intro n
  induction n with
  | zero => intro f _ _ h; omega
  | succ n ih =>
    intro f ha hf hlt
    have e1 : (8 : Int32) * (40 * nI v' + nI m - 1) = nI (8 * (40 * v' + m - 1)) := by
      rw [lm40, nI_add, show 40 * v' + m = 40 * v' + m - 1 + 1 by omega, nI_pred, lm8]
      congr 1
    rw [d_X9_lose_33.eq_2]
    simp (disch := omega) only [e2_hc, e2_hr, e2_hl, hM.1, mc16 hM, ml16 hM, mr16 hM, mc18 hM, ml18 hM, mr18 hM, ix_nI, nI_clamp, gd_T, gd_t, bd_e, bo_e, b2_e, true_and, and_true, mu16 hM, mu18 hM, ls_ne (show (16 : Nat) ≠ 18 by decide), em, e1]
    by_cases hfe : f = 8 * (40 * v' + m - 1)
    · rw [if_pos (nI_le (by omega) (by omega)), hfe]
    · rw [if_neg (nI_ge (by omega) (by omega)), show (8 : Int32) = nI 8 from rfl, nI_add]
      simp (disch := omega) only [ix_nI, nI_clamp, gd_T, gd_t, bd_e, bo_e, b2_e, true_and, and_true]
      rw [ls_s ha, nI_1]
      exact ih (f + 1) (by omega) (by omega) (by omega)
theorem M_lose {i : Int32} (hM : MS x G) (hO : MO z) : d_X9_lose x v i (em2 x G z w) = some (bI (loB z v i), cond (loB z v i) (em2 x G (loZ z v i) w) (em2 x G z w)) := by
  unfold d_X9_lose
  cases hb : loB z v i with
  | true =>
    obtain ⟨v', i', m, hv, hi, hm, rfl, rfl, em⟩ := lo_arg hO.2.1 hb
    rw [M_isWire, bo_e, ite_bI, inR_n hv (by decide), cond_true, if_neg (nI_pos (by omega))]
    simp (disch := omega) only [e2_hc, e2_hr, e2_hl, ms0, ms1, ms2, ms3, ms4, ms5, ms6, ms7, ms21, hM.1, mc16 hM, ml16 hM, mr16 hM, lm4, lm8, lm10, lm16, lm17, lm26, lm40, lm400, nI_add, nI_1, ix_nI, nI_clamp, gd_T, gd_t, bd_e, bo_e, b2_e, true_and, and_true]
    rw [em, if_pos (nI_lt hi (by omega))]
    have e := M_lo33 (w := w) (a := 8 * (40 * v' + i')) hM hv (by omega) hm em FU (8 * (40 * v' + i')) (Nat.le_refl _) (by omega) (by show _ < 6000; omega)
    rw [ls_0] at e
    rw [e]
    unfold loZ tn
    rw [nI_clamp (by omega), nI_clamp (by omega), em, nI_clamp (by omega)]
    rfl
  | false =>
    rw [M_isWire, bo_e, ite_bI]
    unfold loB at hb
    cases hv : inR v 16 with
    | false => rfl
    | true =>
      obtain ⟨v', hv', rfl⟩ := inR_t (by omega) hv
      rw [hv, Bool.true_and] at hb
      have hb2 := of_decide_eq_false hb
      unfold tn at hb2
      rw [nI_clamp (by omega)] at hb2
      rw [cond_true]
      by_cases h1 : i < 0
      · rw [if_pos h1]; rfl
      · rw [if_neg h1]
        simp (disch := omega) only [e2_hc, e2_hr, e2_hl, ms0, ms1, ms2, ms3, ms4, ms5, ms6, ms7, ms21, hM.1, mc16 hM, ml16 hM, mr16 hM, lm4, lm8, lm10, lm16, lm17, lm26, lm40, lm400, nI_add, nI_1, ix_nI, nI_clamp, gd_T, gd_t, bd_e, bo_e, b2_e, true_and, and_true]
        rw [if_neg (fun q => hb2 ⟨h1, q⟩)]
        rfl
end
