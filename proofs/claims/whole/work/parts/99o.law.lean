/-! THE LAW: call by call -/
def LwP (L i : Nat) (G : Hp) (v : Int32) (G' : Hp) : Prop := v = 1 ∧ 6 * hn G' ≤ 6 * hn G + 87 * (L + 6 - i) ∧ 6 * hs G' ≤ 6 * hs G + 3100 * (L + 6 - i)
theorem LwP_w {L i : Nat} {G G2 : Hp} {y : Option (Int32 × Hp)} (hi : i ≤ L) (h : OKP G2 y (LwP L (i + 6) G2)) (c : hn G2 ≤ hn G + 87 ∧ hs G2 ≤ hs G + 3100) : OKP G2 y (LwP L i G) := by
  obtain ⟨v, G', e, m, p1, p2, p3⟩ := h
  exact ⟨v, G', e, m, p1, by omega, by omega⟩
theorem LwP_n {L i : Nat} {G G2 : Hp} {y : Option (Int32 × Hp)} (hi : i ≤ L) (h : OKP G2 y (LwP L (i + 6) G2)) (a : hn G ≤ hn G2 ∧ hs G ≤ hs G2) (c : hn G2 ≤ hn G + 87 ∧ hs G2 ≤ hs G + 3100) : OKP G y (LwP L i G) := by
  obtain ⟨v, G', e, m, p1, p2, p3⟩ := h
  exact ⟨v, G', e, ⟨by omega, by omega⟩, p1, by omega, by omega⟩
theorem law_cond {L i : Nat} (hL : L ≤ 3073) (hi : i ≤ 4000) : (nI L - 6 < nI i) ↔ L < i + 6 := by
  rcases Nat.lt_or_ge L 6 with h | h
  · have h6 : L = 0 ∨ L = 1 ∨ L = 2 ∨ L = 3 ∨ L = 4 ∨ L = 5 := by omega
    have ng : nI L - 6 < 0 := by
      rcases h6 with rfl | rfl | rfl | rfl | rfl | rfl <;> decide
    refine ⟨fun _ => by omega, fun _ => Int32.lt_of_lt_of_le ng ?_⟩
    exact Int32.not_lt.mp (nI_pos (by omega))
  · have e : nI L - 6 = nI (L - 6) := by
      have e : nI (L - 6) + 6 = nI L := by
        rw [show (6 : Int32) = nI 6 from rfl, nI_add]
        congr 1
        omega
      rw [← e]
      exact Int32.add_sub_cancel _ _
    rw [e]
    refine ⟨fun w => ?_, fun w => nI_lt (by omega) (by omega)⟩
    rcases Nat.lt_or_ge (L - 6) i with o | o
    · omega
    · exact absurd w (Int32.not_lt.mpr (nI_le o (by omega)))
section
variable {b x n L i : Nat} {xs : Nat → Int32}
set_option maxHeartbeats 4000000 in
set_option maxRecDepth 20000 in
theorem P_law28 (hL : L ≤ 3073) : ∀ (N i : Nat) (G : Hp), i ≤ L + 6 → L + 6 - i < N → LI b x n G → OKP G (d_L_law_28 L xs N b x (nI i) G) (LwP L i G) := by
  intro N
  induction N with
  | zero => intro i _ _ h; omega
  | succ N ih =>
    intro i G hi hlt hI
    rw [d_L_law_28.eq_2]
    refine OKP_m ?_
    by_cases he : L < i + 6
    · rw [if_pos ((law_cond hL (by omega)).mpr he)]
      exact OKP_s ⟨rfl, by omega, by omega⟩
    · rw [if_neg (fun w => he ((law_cond hL (by omega)).mp w))]
      have ixs : ∀ k, k < 6 → ix (nI i + nI k) L := fun k hk => by
        rw [nI_add]
        exact (ix_nI (by omega)).mpr (by omega)
      have i0 : ix (nI i) L := (ix_nI (by omega)).mpr (by omega)
      have i1 : ix (nI i + 1) L := ixs 1 (by decide)
      have i2 : ix (nI i + 2) L := ixs 2 (by decide)
      have i3 : ix (nI i + 3) L := ixs 3 (by decide)
      have i4 : ix (nI i + 4) L := ixs 4 (by decide)
      have i5 : ix (nI i + 5) L := ixs 5 (by decide)
      have n6 : nI i + 6 = nI (i + 6) := by
        rw [show (6 : Int32) = nI 6 from rfl, nI_add]
      have hx9 := LI_c hI
      have hx10 := LI_x hI
      have nx : ∀ G2, LI b x n G2 → OKP G2 (d_L_law_28 L xs N b x (nI i + 6) G2) (LwP L (i + 6) G2) := fun G2 h2 => by
        rw [n6]
        exact ih (i + 6) G2 (by omega) (by omega) h2
      have hiL : i ≤ L := by omega
      clear ih
      refine OKP_g i0 ?_
      by_cases q0 : (xs (nI i).toNatClampNeg &&& 31) = 0
      · rw [if_pos q0]
        obtain ⟨v, G1, G2, e1, ⟨a1, a2⟩, ⟨a5, a6⟩, hx, e2, ⟨a3, a4⟩, hI2⟩ := L_plug (a := xs (nI i + 1).toNatClampNeg) (c := xs (nI i + 2).toNatClampNeg) (d := xs (nI i + 3).toNatClampNeg) (e := xs (nI i + 4).toNatClampNeg) hI
        refine OKP_g i1 (OKP_g i2 (OKP_g i3 (OKP_g i4 (OKP_g hx9 ?_))))
        rw [e1, b2_e]
        refine OKP_g ⟨a1, a2⟩ (OKP_t (G1 := G1) (OKP_m ?_) a1 a2)
        refine OKP_g i1 (OKP_g i2 (OKP_g i3 (OKP_g i4 (OKP_g hx ?_))))
        rw [show d_X9_plug x (xs (nI i + 1).toNatClampNeg) (xs (nI i + 2).toNatClampNeg) (xs (nI i + 3).toNatClampNeg) (xs (nI i + 4).toNatClampNeg) G1 = some (v, G2) from e2, b2_e]
        refine OKP_g ⟨a3, a4⟩ ?_
        rw [if_pos rfl]
        exact OKP_t (LwP_w hiL (nx G2 hI2) ⟨by omega, by omega⟩) (by omega) (by omega)
      rw [if_neg q0]
      by_cases q1 : (xs (nI i).toNatClampNeg &&& 31) = 1
      · rw [if_pos q1]
        obtain ⟨v, G1, G2, e1, ⟨a1, a2⟩, ⟨a5, a6⟩, hx, e2, ⟨a3, a4⟩, hI2⟩ := L_host (a := xs (nI i + 1).toNatClampNeg) (c := xs (nI i + 2).toNatClampNeg) hI
        refine OKP_g i1 (OKP_g i2 (OKP_g hx9 ?_))
        rw [e1, b2_e]
        refine OKP_g ⟨a1, a2⟩ (OKP_t (G1 := G1) (OKP_m ?_) a1 a2)
        refine OKP_g i1 (OKP_g i2 (OKP_g hx ?_))
        rw [show d_X9_host x (xs (nI i + 1).toNatClampNeg) (xs (nI i + 2).toNatClampNeg) G1 = some (v, G2) from e2, b2_e]
        refine OKP_g ⟨a3, a4⟩ ?_
        rw [if_pos rfl]
        exact OKP_t (LwP_w hiL (nx G2 hI2) ⟨by omega, by omega⟩) (by omega) (by omega)
      rw [if_neg q1]
      by_cases q2 : (xs (nI i).toNatClampNeg &&& 31) = 2
      · rw [if_pos q2]
        obtain ⟨v, G1, G2, e1, ⟨a1, a2⟩, hx, e2, ⟨a3, a4⟩, hI2⟩ := L_meet (a := xs (nI i + 1).toNatClampNeg) (c := xs (nI i + 2).toNatClampNeg) hI
        refine OKP_g i1 (OKP_g i2 (OKP_g hx9 ?_))
        rw [e1, b2_e]
        refine OKP_g ⟨a1, a2⟩ (OKP_g i1 (OKP_g i2 (OKP_g hx ?_)))
        rw [show d_X9_meet x (xs (nI i + 1).toNatClampNeg) (xs (nI i + 2).toNatClampNeg) G1 = some (v, G2) from e2, b2_e]
        refine OKP_g ⟨a3, a4⟩ ?_
        rw [if_pos rfl]
        exact LwP_n hiL (nx G2 hI2) ⟨by omega, by omega⟩ ⟨by omega, by omega⟩
      rw [if_neg q2]
      by_cases q3 : (xs (nI i).toNatClampNeg &&& 31) = 3
      · rw [if_pos q3]
        obtain ⟨v, G1, G2, e1, ⟨a1, a2⟩, hx, e2, ⟨a3, a4⟩, hI2⟩ := L_cut (a := xs (nI i + 1).toNatClampNeg) hI
        refine OKP_g i1 (OKP_g hx9 ?_)
        rw [e1, b2_e]
        refine OKP_g ⟨a1, a2⟩ (OKP_g i1 (OKP_g hx ?_))
        rw [show d_X9_cut x (xs (nI i + 1).toNatClampNeg) G1 = some (v, G2) from e2, b2_e]
        refine OKP_g ⟨a3, a4⟩ ?_
        rw [if_pos rfl]
        exact LwP_n hiL (nx G2 hI2) ⟨by omega, by omega⟩ ⟨by omega, by omega⟩
      rw [if_neg q3]
      by_cases q4 : (xs (nI i).toNatClampNeg &&& 31) = 4
      · rw [if_pos q4]
        obtain ⟨v, G1, G2, e1, ⟨a1, a2⟩, hx, e2, ⟨a3, a4⟩, hI2⟩ := L_mend (a := xs (nI i + 1).toNatClampNeg) hI
        refine OKP_g i1 (OKP_g hx9 ?_)
        rw [e1, b2_e]
        refine OKP_g ⟨a1, a2⟩ (OKP_g i1 (OKP_g hx ?_))
        rw [show d_X9_mend x (xs (nI i + 1).toNatClampNeg) G1 = some (v, G2) from e2, b2_e]
        refine OKP_g ⟨a3, a4⟩ ?_
        rw [if_pos rfl]
        exact LwP_n hiL (nx G2 hI2) ⟨by omega, by omega⟩ ⟨by omega, by omega⟩
      rw [if_neg q4]
      by_cases q5 : (xs (nI i).toNatClampNeg &&& 31) = 5
      · rw [if_pos q5]
        obtain ⟨v, G1, G2, e1, ⟨a1, a2⟩, hx, e2, ⟨a3, a4⟩, hI2⟩ := L_join (a := xs (nI i + 1).toNatClampNeg) (c := xs (nI i + 2).toNatClampNeg) hI
        refine OKP_g i1 (OKP_g i2 (OKP_g hx9 ?_))
        rw [e1, b2_e]
        refine OKP_g ⟨a1, a2⟩ (OKP_g i1 (OKP_g i2 (OKP_g hx ?_)))
        rw [show d_X9_join x (xs (nI i + 1).toNatClampNeg) (xs (nI i + 2).toNatClampNeg) G1 = some (v, G2) from e2, b2_e]
        refine OKP_g ⟨a3, a4⟩ ?_
        rw [if_pos rfl]
        exact LwP_n hiL (nx G2 hI2) ⟨by omega, by omega⟩ ⟨by omega, by omega⟩
      rw [if_neg q5]
      by_cases q6 : (xs (nI i).toNatClampNeg &&& 31) = 6
      · rw [if_pos q6]
        obtain ⟨v, G1, G2, e1, ⟨a1, a2⟩, hx, e2, ⟨a3, a4⟩, hI2⟩ := L_leave (a := xs (nI i + 1).toNatClampNeg) (c := xs (nI i + 2).toNatClampNeg) hI
        refine OKP_g i1 (OKP_g i2 (OKP_g hx9 ?_))
        rw [e1, b2_e]
        refine OKP_g ⟨a1, a2⟩ (OKP_g i1 (OKP_g i2 (OKP_g hx ?_)))
        rw [show d_X9_leave x (xs (nI i + 1).toNatClampNeg) (xs (nI i + 2).toNatClampNeg) G1 = some (v, G2) from e2, b2_e]
        refine OKP_g ⟨a3, a4⟩ ?_
        rw [if_pos rfl]
        exact LwP_n hiL (nx G2 hI2) ⟨by omega, by omega⟩ ⟨by omega, by omega⟩
      rw [if_neg q6]
      by_cases q7 : (xs (nI i).toNatClampNeg &&& 31) = 7
      · rw [if_pos q7]
        obtain ⟨v, G1, G2, e1, ⟨a1, a2⟩, hx, e2, ⟨a3, a4⟩, hI2⟩ := L_send (a := xs (nI i + 1).toNatClampNeg) (c := xs (nI i + 2).toNatClampNeg) hI
        refine OKP_g i1 (OKP_g i2 (OKP_g hx9 ?_))
        rw [e1, b2_e]
        refine OKP_g ⟨a1, a2⟩ (OKP_g i1 (OKP_g i2 (OKP_g hx ?_)))
        rw [show d_X9_send x (xs (nI i + 1).toNatClampNeg) (xs (nI i + 2).toNatClampNeg) G1 = some (v, G2) from e2, b2_e]
        refine OKP_g ⟨a3, a4⟩ ?_
        rw [if_pos rfl]
        exact LwP_n hiL (nx G2 hI2) ⟨by omega, by omega⟩ ⟨by omega, by omega⟩
      rw [if_neg q7]
      by_cases q8 : (xs (nI i).toNatClampNeg &&& 31) = 8
      · rw [if_pos q8]
        obtain ⟨v, G1, G2, e1, ⟨a1, a2⟩, hx, e2, ⟨a3, a4⟩, hI2⟩ := L_lose (a := xs (nI i + 1).toNatClampNeg) (c := xs (nI i + 2).toNatClampNeg) hI
        refine OKP_g i1 (OKP_g i2 (OKP_g hx9 ?_))
        rw [e1, b2_e]
        refine OKP_g ⟨a1, a2⟩ (OKP_g i1 (OKP_g i2 (OKP_g hx ?_)))
        rw [show d_X9_lose x (xs (nI i + 1).toNatClampNeg) (xs (nI i + 2).toNatClampNeg) G1 = some (v, G2) from e2, b2_e]
        refine OKP_g ⟨a3, a4⟩ ?_
        rw [if_pos rfl]
        exact LwP_n hiL (nx G2 hI2) ⟨by omega, by omega⟩ ⟨by omega, by omega⟩
      rw [if_neg q8]
      by_cases q9 : (xs (nI i).toNatClampNeg &&& 31) = 9
      · rw [if_pos q9]
        obtain ⟨v, G1, G2, e1, ⟨a1, a2⟩, hx, e2, ⟨a3, a4⟩, hI2⟩ := L_tick (a := xs (nI i + 1).toNatClampNeg) hI
        refine OKP_g i1 (OKP_g hx9 ?_)
        rw [e1, b2_e]
        refine OKP_g ⟨a1, a2⟩ (OKP_g i1 (OKP_g hx ?_))
        rw [show d_X9_tick x (xs (nI i + 1).toNatClampNeg) G1 = some (v, G2) from e2, b2_e]
        refine OKP_g ⟨a3, a4⟩ ?_
        rw [if_pos rfl]
        exact LwP_n hiL (nx G2 hI2) ⟨by omega, by omega⟩ ⟨by omega, by omega⟩
      rw [if_neg q9]
      by_cases q10 : (xs (nI i).toNatClampNeg &&& 31) = 10
      · rw [if_pos q10]
        obtain ⟨v, e1, e2⟩ := L_got (a := xs (nI i + 1).toNatClampNeg) (c := xs (nI i + 2).toNatClampNeg) hI
        refine OKP_g i1 (OKP_g i2 (OKP_g hx9 ?_))
        rw [e1, bo_e]
        refine OKP_g i1 (OKP_g i2 (OKP_g hx10 ?_))
        rw [e2, bo_e, if_pos rfl]
        exact LwP_n hiL (nx G hI) ⟨Nat.le_refl _, Nat.le_refl _⟩ ⟨by omega, by omega⟩
      rw [if_neg q10]
      by_cases q11 : (xs (nI i).toNatClampNeg &&& 31) = 11
      · rw [if_pos q11]
        obtain ⟨v, e1, e2⟩ := L_frame (a := xs (nI i + 1).toNatClampNeg) (c := xs (nI i + 2).toNatClampNeg) (d := xs (nI i + 3).toNatClampNeg) hI
        refine OKP_g i1 (OKP_g i2 (OKP_g i3 (OKP_g hx9 ?_)))
        rw [e1, bo_e]
        refine OKP_g i1 (OKP_g i2 (OKP_g i3 (OKP_g hx10 ?_)))
        rw [e2, bo_e, if_pos rfl]
        exact LwP_n hiL (nx G hI) ⟨Nat.le_refl _, Nat.le_refl _⟩ ⟨by omega, by omega⟩
      rw [if_neg q11]
      by_cases q12 : (xs (nI i).toNatClampNeg &&& 31) = 12
      · rw [if_pos q12]
        refine OKP_g i1 (OKP_g i2 ?_)
        have wy : ∀ t : Int32, (t = if xs (nI i + 2).toNatClampNeg = 0 then 0 else 1) → OKP G (d_L_law_543 L xs b x (nI i) t (xs (nI i + 1).toNatClampNeg) b G (fun y0 y1 y2 Gy => d_L_law_28 L xs N y0 y1 y2 Gy)) (LwP L i G) := by
          intro t ht
          obtain ⟨v, G1, G2, e1, ⟨a1, a2⟩, hx, e2, ⟨a3, a4⟩, hI2⟩ := L_way (a := xs (nI i + 1).toNatClampNeg) (c := t) (d := xs (nI i + 3).toNatClampNeg) (e := xs (nI i + 4).toNatClampNeg) hI
          unfold d_L_law_543
          refine OKP_m (OKP_g i3 (OKP_g i4 (OKP_g hx9 ?_)))
          rw [e1, b2_e]
          refine OKP_g ⟨a1, a2⟩ (OKP_g i1 (OKP_g i2 ?_))
          have w2 : OKP G (d_L_law_575 L xs b x (nI i) t (xs (nI i + 1).toNatClampNeg) x v G1 (fun y0 y1 y2 Gy => d_L_law_28 L xs N y0 y1 y2 Gy)) (LwP L i G) := by
            unfold d_L_law_575
            refine OKP_t (G1 := G1) (OKP_m (OKP_g i3 (OKP_g i4 (OKP_g hx ?_)))) (Nat.le_of_eq a1.symm) (Nat.le_of_eq a2.symm)
            rw [show d_X9_way x (xs (nI i + 1).toNatClampNeg) t (xs (nI i + 3).toNatClampNeg) (xs (nI i + 4).toNatClampNeg) G1 = some (v, G2) from e2, b2_e]
            refine OKP_g ⟨a3, a4⟩ ?_
            rw [if_pos rfl]
            exact OKP_t (LwP_w hiL (nx G2 hI2) ⟨by omega, by omega⟩) (by omega) (by omega)
          by_cases w0 : xs (nI i + 2).toNatClampNeg = 0
          · rw [if_pos w0] at ht ⊢
            rw [ht] at w2
            exact w2
          · rw [if_neg w0] at ht ⊢
            rw [ht] at w2
            exact w2
        by_cases w0 : xs (nI i + 2).toNatClampNeg = 0
        · rw [if_pos w0]
          exact wy 0 (if_pos w0).symm
        · rw [if_neg w0]
          exact wy 1 (if_neg w0).symm
      rw [if_neg q12]
      by_cases q13 : (xs (nI i).toNatClampNeg &&& 31) = 13
      · rw [if_pos q13]
        obtain ⟨v, e1, e2⟩ := L_port (a := xs (nI i + 1).toNatClampNeg) (c := xs (nI i + 2).toNatClampNeg) (d := xs (nI i + 3).toNatClampNeg) hI
        refine OKP_g i1 (OKP_g i2 (OKP_g i3 (OKP_g hx9 ?_)))
        rw [e1, bo_e]
        refine OKP_g i1 (OKP_g i2 (OKP_g i3 (OKP_g hx10 ?_)))
        rw [e2, bo_e, if_pos rfl]
        exact LwP_n hiL (nx G hI) ⟨Nat.le_refl _, Nat.le_refl _⟩ ⟨by omega, by omega⟩
      rw [if_neg q13]
      by_cases q14 : (xs (nI i).toNatClampNeg &&& 31) = 14
      · rw [if_pos q14]
        obtain ⟨v, e1, e2⟩ := L_members (a := xs (nI i + 1).toNatClampNeg) (c := xs (nI i + 2).toNatClampNeg) (d := xs (nI i + 3).toNatClampNeg) hI
        refine OKP_g i1 (OKP_g i2 (OKP_g i3 (OKP_g hx9 ?_)))
        rw [e1, bo_e]
        refine OKP_g i1 (OKP_g i2 (OKP_g i3 (OKP_g hx10 ?_)))
        rw [e2, bo_e, if_pos rfl]
        exact LwP_n hiL (nx G hI) ⟨Nat.le_refl _, Nat.le_refl _⟩ ⟨by omega, by omega⟩
      rw [if_neg q14]
      by_cases q15 : (xs (nI i).toNatClampNeg &&& 31) = 15
      · rw [if_pos q15]
        obtain ⟨v, G1, G2, e1, ⟨a1, a2⟩, hx, e2, ⟨a3, a4⟩, hI2⟩ := L_branch (a := xs (nI i + 1).toNatClampNeg) (c := xs (nI i + 2).toNatClampNeg) (d := xs (nI i + 3).toNatClampNeg) (e := xs (nI i + 4).toNatClampNeg) (f := xs (nI i + 5).toNatClampNeg) hI
        refine OKP_g i1 (OKP_g i2 (OKP_g i3 (OKP_g i4 (OKP_g i5 (OKP_g hx9 ?_)))))
        rw [e1, b2_e]
        refine OKP_g ⟨a1, a2⟩ (OKP_g i1 (OKP_g i2 (OKP_g i3 (OKP_g i4 (OKP_g i5 (OKP_g hx ?_))))))
        rw [show d_X9_branch x (xs (nI i + 1).toNatClampNeg) (xs (nI i + 2).toNatClampNeg) (xs (nI i + 3).toNatClampNeg) (xs (nI i + 4).toNatClampNeg) (xs (nI i + 5).toNatClampNeg) G1 = some (v, G2) from e2, b2_e]
        refine OKP_g ⟨a3, a4⟩ ?_
        rw [if_pos rfl]
        exact LwP_n hiL (nx G2 hI2) ⟨by omega, by omega⟩ ⟨by omega, by omega⟩
      rw [if_neg q15]
      by_cases q16 : (xs (nI i).toNatClampNeg &&& 31) = 16
      · rw [if_pos q16]
        obtain ⟨v, G1, G2, e1, ⟨a1, a2⟩, hx, e2, ⟨a3, a4⟩, hI2⟩ := L_tree (a := xs (nI i + 1).toNatClampNeg) (c := xs (nI i + 2).toNatClampNeg) (d := xs (nI i + 3).toNatClampNeg) (e := xs (nI i + 4).toNatClampNeg) hI
        refine OKP_g i1 (OKP_g i2 (OKP_g i3 (OKP_g i4 (OKP_g hx9 ?_))))
        rw [e1, b2_e]
        refine OKP_g ⟨a1, a2⟩ (OKP_g i1 (OKP_g i2 (OKP_g i3 (OKP_g i4 (OKP_g hx ?_)))))
        rw [show d_X9_tree x (xs (nI i + 1).toNatClampNeg) (xs (nI i + 2).toNatClampNeg) (xs (nI i + 3).toNatClampNeg) (xs (nI i + 4).toNatClampNeg) G1 = some (v, G2) from e2, b2_e]
        refine OKP_g ⟨a3, a4⟩ ?_
        rw [if_pos rfl]
        exact LwP_n hiL (nx G2 hI2) ⟨by omega, by omega⟩ ⟨by omega, by omega⟩
      rw [if_neg q16]
      by_cases q17 : (xs (nI i).toNatClampNeg &&& 31) = 17
      · rw [if_pos q17]
        obtain ⟨v, e1, e2⟩ := L_count (a := xs (nI i + 1).toNatClampNeg) hI
        refine OKP_g i1 (OKP_g hx9 ?_)
        rw [e1, bo_e]
        refine OKP_g i1 (OKP_g hx10 ?_)
        rw [e2, bo_e, if_pos rfl]
        exact LwP_n hiL (nx G hI) ⟨Nat.le_refl _, Nat.le_refl _⟩ ⟨by omega, by omega⟩
      rw [if_neg q17]
      exact LwP_n hiL (nx G hI) ⟨Nat.le_refl _, Nat.le_refl _⟩ ⟨by omega, by omega⟩
end
