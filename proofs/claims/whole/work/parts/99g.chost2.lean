/-! THE CLASS: host -/
section
variable {L L' : Ly} {G H H3 : Hp} {n : Nat} {st : Int32} {V : Vt} {Q Q' : Qt} {z : Sg} {r p q g s x y m v i h k t j : Nat}
set_option maxHeartbeats 1000000 in
theorem C_host {a b : Int32} (hI : IC L H n Q V) (hC : RC n st V Q z) (h0 : 0 < hn H) : OKP H (d_X8_host (L.1 0 0 0) a b H) (PC L H n (cond (hoB z a b) (hoZ z a b) z) (bI (hoB z a b))) := by
  have hL := hI.1
  have eH := IC_e hI
  have no : hoB z a b = false → PC L H n (cond (hoB z a b) (hoZ z a b) z) (bI (hoB z a b)) 0 H := by
    intro e
    rw [e]
    exact PC_0 hI hC
  have f1 := rK0_0 (V := V) hL
  rw [eH] at f1
  have f2 := rK0_2 (V := V) hL
  rw [eH] at f2
  have f3 := congrFun (IC_hi hI (show isL n Q 1 0 0 from ⟨rfl, rfl⟩)) 4
  rw [hC.tm] at f3
  have f4 := rK1_0 (V := V) hL
  rw [eH] at f4
  unfold d_X8_host
  refine OKP_m ?_
  rw [C_isIn16, bo_e, ite_bI]
  cases ha : inR a 16 with
  | false =>
    refine OKP_s (no ?_)
    unfold hoB
    rw [ha]
    rfl
  | true =>
    rw [cond_true, C_isIn16, bo_e, ite_bI]
    cases hb : inR b 16 with
    | false =>
      refine OKP_s (no ?_)
      unfold hoB
      rw [hb, Bool.and_false]
      rfl
    | true =>
      rw [cond_true]
      refine OKP_g (yK0 hL) ?_
      rw [f1]
      refine OKP_g (yK1 hL) ?_
      rw [f3]
      by_cases t0 : z.1 0 = 0
      · rw [if_pos t0, f2]
        obtain ⟨h, hh, rfl⟩ := inR_t (by decide) ha
        obtain ⟨v, hv, rfl⟩ := inR_t (by decide) hb
        have f5 := rK4_0 (V := V) hL hv
        rw [eH] at f5
        have f8 := rK4_2 (V := V) hL hh
        rw [eH] at f8
        rw [nI_clamp (show v < 2 ^ 31 by omega), nI_clamp (show h < 2 ^ 31 by omega)]
        refine OKP_g ⟨yK4_2 hL, (ix_nI (by omega)).mpr (by rw [lK4_2 hL]; exact hh)⟩ ?_
        rw [f8]
        have th : tn (nI h) = h := tn_n (by omega)
        by_cases u : qhw Q h ≠ -1
        · rw [if_pos u, if_neg (zK25 hL hh u)]
          refine OKP_s (no ?_)
          unfold hoB
          rw [th, decide_eq_false (show ¬ z.2 11 h = -1 from by rw [← hC.qh]; exact u), Bool.and_false]
        · have u' : qhw Q h = -1 := Decidable.not_not.mp u
          have u8 : z.2 11 h = -1 := by rw [← hC.qh]; exact u'
          rw [if_neg u, if_pos rfl, f4]
          refine OKP_g ⟨yK4_0 hL, (ix_nI (by omega)).mpr (by rw [lK4_0 hL]; exact hv)⟩ ?_
          rw [f5]
          refine OKP_g (yK5 hL hv) ?_
          have hB : hoB z (nI h) (nI v) = true := by
            unfold hoB
            rw [th, ha, hb, decide_eq_true t0, decide_eq_true u8]
            rfl
          rw [hB, cond_true]
          obtain ⟨L1, H1, Q1, V1, e1, hI1, hC1, hm1, k1, m1, b1, l1⟩ := C_mf hI hC h0 hv
          have hL1 := hI1.1
          have eH1 := IC_e hI1
          have g1 := rK0_0 (V := V1) hL1
          rw [eH1] at g1
          have g2 := rK0_2 (V := V1) hL1
          rw [eH1] at g2
          have g4 := rK1_0 (V := V1) hL1
          rw [eH1] at g4
          have g5 := rK4_0 (V := V1) hL1 hv
          rw [eH1] at g5
          have h01 : 0 < hn H1 := by omega
          have u1 : qhw Q1 h = -1 := by rw [hC1.qh]; exact u8
          rw [e1, bo_e]
          refine OKP_g m1 (OKP_t (OKP_m ?_) m1.1 m1.2)
          rw [← l1 0 0 0 (by decide)]
          refine OKP_g (yK0 hL1) (OKP_d (OKP_d ?_))
          rw [g2]
          have n0 : L1.1 0 0 0 ≠ hn H1 := Nat.ne_of_lt (IC_lt hI1 (show isL n Q1 0 0 0 from ⟨rfl, rfl⟩))
          have n1 : L1.1 1 0 0 ≠ hn H1 := Nat.ne_of_lt (IC_lt hI1 (show isL n Q1 1 0 0 from ⟨rfl, rfl⟩))
          have n4 : L1.1 4 0 0 ≠ hn H1 := Nat.ne_of_lt (IC_lt hI1 (show isL n Q1 4 0 0 from ⟨rfl, by decide⟩))
          have c0 : hc (nC H1 2 0 5) (L1.1 0 0 0) = 9 := by rw [nC_hc, if_neg n0]; exact yK0 hL1
          have c1 : hc (nC H1 2 0 5) (L1.1 1 0 0) = 3 := by rw [nC_hc, if_neg n1]; exact yK1 hL1
          have c4 : hc (nC H1 2 0 5) (L1.1 4 0 0) = 20 := by rw [nC_hc, if_neg n4]; exact yK4_0 hL1
          have cN : hc (nC H1 2 0 5) (hn H1) = 2 := by rw [nC_hc, if_pos rfl]
          refine OKP_t (G1 := nC H1 2 0 5) (OKP_m (OKP_g c0 ?_)) (Nat.le_succ _) (Nat.le_add_right _ _)
          rw [show hr (nC H1 2 0 5) (L1.1 0 0 0) 0 = L1.1 1 0 0 by rw [nC_hr, if_neg n0]; exact g1]
          refine OKP_g c1 ?_
          rw [show hr (nC H1 2 0 5) (L1.1 1 0 0) 0 = L1.1 4 0 0 by rw [nC_hr, if_neg n1]; exact g4]
          refine OKP_g ⟨c4, (ix_nI (by omega)).mpr (by rw [nC_hl, if_neg n4, lK4_0 hL1]; exact hv)⟩ (OKP_g cN ?_)
          rw [show hr (nC H1 2 0 5) (L1.1 4 0 0) v = L1.1 5 v 0 by rw [nC_hr, if_neg n4]; exact g5]
          refine OKP_o (P_host (by rw [nC_hn]; omega) cN (by rw [nC_hi, if_pos rfl]) (by rw [nC_hr, if_pos rfl])) (fun H3 hN le1 le2 => ?_)
          rw [nC_hn] at hN
          have hI2 := ho_IC hI1 h01 hh hv u1 hN
          have k2 := KE_ho (h := h) hI1 hN
          have hC2 := ho_RC hC1 hh hv u8 hm1
          obtain ⟨⟨s1, s2, s3, s4⟩, sb, ⟨sc, _, _, _⟩, _⟩ := id hN
          rw [nC_hn] at s1 sb
          rw [nC_hs] at s2 s3
          have n42 : L1.1 4 0 2 < hn H1 := IC_lt hI1 (show isL n Q1 4 0 2 from ⟨rfl, by decide⟩)
          obtain ⟨w1, w2, _, _⟩ := sb (L1.1 4 0 2) (by omega) (by omega)
          rw [nC_hc, if_neg (Nat.ne_of_lt n42), yK4_2 hL1] at w1
          rw [nC_hl, if_neg (Nat.ne_of_lt n42), lK4_2 hL1] at w2
          refine OKP_g ⟨le1, le2⟩ (OKP_m (OKP_g ⟨⟨w1, (ix_nI (by omega)).mpr (by rw [w2]; exact hh)⟩, Or.inr sc⟩ (OKP_d ?_)))
          have hL2 := hI2.1
          have eH2 := IC_e hI2
          generalize hH4 : sR H3 (L1.1 4 0 2) h (hn H1) = H4 at hI2 k2 hL2 eH2 ⊢
          have hn4 : hn H4 = hn H3 := by rw [← hH4]; rfl
          have hs4 : hs H4 = hs H3 := by rw [← hH4]; rfl
          have l2 : ∀ c i j, ¬ ((25 ≤ c ∧ c ≤ 26) ∧ i = h ∧ j = 0) → (exL L1 (hsA (hn H1) h) (hsU (hn H1) h)).1 c i j = L1.1 c i j := fun c i j hc => ex_o (if_neg hc)
          rw [← l2 0 0 0 (by omega)]
          generalize hL2e : exL L1 (hsA (hn H1) h) (hsU (hn H1) h) = L2 at hI2 k2 hL2 eH2 l2 ⊢
          rw [← eH2]
          rw [eK_hc]
          refine OKP_t (G1 := H4) ?_ (by omega) (by omega)
          refine OKP_g (yK0 hL2) ?_
          rw [rK0_0 hL2]
          refine OKP_g (yK1 hL2) ?_
          rw [rK1_3 hL2, eK_hl]
          refine OKP_g ⟨yK3_6 hL2, (ix_nI (by omega)).mpr (by rw [lK3_6 hL2]; exact hh)⟩ (OKP_d ?_)
          rw [wK3_6 hL2]
          refine ⟨1, _, rfl, ⟨Nat.le_refl _, Nat.le_refl _⟩, rfl, L2, hoQ Q1 h (nI v), hoV V1 h v, st, IC_s hI2 hL2, ?_, (k1.trans k2 m1.1).trans KE_eK (by omega), ⟨?_, ?_⟩, ?_⟩
          · unfold hoZ
            rw [th]
            exact hC2
          · show hn H4 ≤ _
            omega
          · show hs H4 ≤ _
            omega
          · rw [l2 0 0 0 (by omega), l1 0 0 0 (by decide)]
      · rw [if_neg t0]
        refine OKP_s (no ?_)
        unfold hoB
        rw [decide_eq_false t0, Bool.and_false]
        rfl
end
