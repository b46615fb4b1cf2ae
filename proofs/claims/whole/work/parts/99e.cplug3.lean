/-! THE CLASS: plug -/
/-- after a call of the class: the answer b, the state z', nothing else touched -/
def PC (L : Ly) (H : Hp) (n : Nat) (z' : Sg) (b : Int32) (v : Int32) (H' : Hp) : Prop := v = b ∧ ∃ L' Q' V' st', IC L' H' n Q' V' ∧ RC n st' V' Q' z' ∧ KE L H L' H' ∧ (hn H' ≤ hn H + 87 ∧ hs H' ≤ hs H + 3100) ∧ L'.1 0 0 0 = L.1 0 0 0
theorem KE.trans {L L1 L2 : Ly} {H H1 H2 : Hp} (h : KE L H L1 H1) (k : KE L1 H1 L2 H2) (le : hn H ≤ hn H1) : KE L H L2 H2 := by
  intro a ha hz
  obtain ⟨a1, a2, a3, a4, a5⟩ := h a ha hz
  obtain ⟨b1, b2, b3, b4, b5⟩ := k a (by omega) a1
  exact ⟨b1, b2.trans a2, b3.trans a3, b4.trans a4, b5.trans a5⟩
theorem KE_eK {L : Ly} {H : Hp} {V : Vt} {R : Rt} : KE L H L (eK L H V R) := by
  intro a ha hz
  refine ⟨hz, rfl, rfl, ?_, ?_⟩
  · show (match L.2 a with | some q => V q.1 q.2.1 q.2.2 | none => hi H a) = _
    rw [hz]
  · show (match L.2 a with | some q => R q.1 q.2.1 q.2.2 | none => hr H a) = _
    rw [hz]
section
variable {L L' : Ly} {G H H3 : Hp} {n : Nat} {st : Int32} {V : Vt} {Q Q' : Qt} {z : Sg} {r p q g s x y m v i h k t j : Nat}
theorem PC_0 (hI : IC L H n Q V) (hC : RC n st V Q z) {b : Int32} : PC L H n z b b H := ⟨rfl, L, Q, V, st, hI, hC, fun _ _ h2 => ⟨h2, rfl, rfl, rfl, rfl⟩, ⟨Nat.le_add_right _ _, Nat.le_add_right _ _⟩, rfl⟩
theorem KE_pt (hI : IC L H n Q V) (hr' : r < n) {f : Nat → Int32} {g : Nat → Nat} (hN : ND (nC H 4 0 13) (hn H) 4 plT plL 6 f g (fun _ _ => 0) H3) : KE L H (exL L (ptA (hn H) r p) (ptU (hn H) r p)) (sR H3 (L.1 10 r 0) p (hn H)) := by
  intro a ha hz
  obtain ⟨_, b, _, _⟩ := hN
  obtain ⟨o1, o2, o3, o4⟩ := b a (by rw [nC_hn]; omega) (by omega)
  have ne : a ≠ hn H := by omega
  rw [nC_hc, if_neg ne] at o1
  rw [nC_hl, if_neg ne] at o2
  rw [nC_hi, if_neg ne] at o3
  rw [nC_hr, if_neg ne] at o4
  have n10 : a ≠ L.1 10 r 0 := fun w => by
    have := (hI.1.2 10 r 0 ⟨hr', rfl⟩).1
    unfold lvK at this
    rw [← w, hz] at this
    cases this
  refine ⟨ex_2z ?_ hz, o1, o2, o3, ?_⟩
  · unfold ptU
    rw [if_neg (by omega)]
  · rw [sR_hr, if_neg n10, o4]
theorem C_put {d : Int32} (hL : LY L H n Q) (h1 : r < 10) (h2 : p < 4) : d_X6_put (L.1 2 0 0) (nI r) (nI p) (nI v) d (eK L H V (RF n L Q)) = some (eK L H (uR (uR (uR V 3 0 0 (va_up (V 3 0 0) (4 * r + p) (nI v))) 3 0 1 (va_up (V 3 0 1) (4 * r + p) d)) 2 0 0 (va_up (V 2 0 0) 6 1)) (RF n L Q)) := by
  have e : nI r * 4 + nI p = nI (4 * r + p) := by rw [rm4, nI_add]
  unfold d_X6_put
  rw [e, nI_clamp (by omega), eK_hc, gd_t (yK2 hL), rK2_1 hL, eK_hl, gd_t ⟨yK3_0 hL, (ix_nI (by omega)).mpr (by rw [lK3_0 hL]; omega)⟩, bd_e, wK3_0 hL, eK_hc, gd_t (yK2 hL), rK2_2 hL, eK_hl, gd_t ⟨yK3_1 hL, (ix_nI (by omega)).mpr (by rw [lK3_1 hL]; omega)⟩, bd_e, wK3_1 hL, eK_hc, gd_t (yK2 hL), bd_e, wK2 hL]
  rfl
set_option maxHeartbeats 1000000 in
theorem C_plug {a b c d : Int32} (hI : IC L H n Q V) (hC : RC n st V Q z) (h0 : 0 < hn H) : OKP H (d_X8_plug (L.1 0 0 0) a b c d H) (PC L H n (cond (plB z a b c d) (plZ z a b c d) z) (bI (plB z a b c d))) := by
  have hL := hI.1
  have eH := IC_e hI
  have n1 := hC.nn.2.2.1
  have n10 := hC.nn.2.2.2
  have hnR : nR z = n := by
    unfold nR
    rw [hC.nn.1, nI_clamp (by omega)]
  have no : plB z a b c d = false → PC L H n (cond (plB z a b c d) (plZ z a b c d) z) (bI (plB z a b c d)) 0 H := by
    intro e
    rw [e]
    exact PC_0 hI hC
  have eP := C_isPort (a := a) (b := b) hL hC
  rw [eH] at eP
  have f1 := rK0_0 (V := V) hL
  rw [eH] at f1
  have f2 := rK0_1 (V := V) hL
  rw [eH] at f2
  have f3 := congrFun (IC_hi hI (show isL n Q 1 0 0 from ⟨rfl, rfl⟩)) 4
  rw [hC.tm] at f3
  have f4 := rK1_0 (V := V) hL
  rw [eH] at f4
  unfold d_X8_plug
  refine OKP_m (OKP_g (yK0 hL) ?_)
  rw [eP, bo_e, ite_bI]
  cases hab : inR a n && inR b 4 with
  | false =>
    refine OKP_s (no ?_)
    unfold plB
    rw [hnR, hab]
    rfl
  | true =>
    rw [cond_true, C_isIn16, bo_e, ite_bI]
    cases hcc : inR c 16 with
    | false =>
      refine OKP_s (no ?_)
      unfold plB
      rw [hcc, Bool.and_false]
      rfl
    | true =>
      rw [cond_true]
      by_cases d1 : d < 1
      · rw [if_pos d1]
        refine OKP_s (no ?_)
        unfold plB
        rw [decide_eq_false (show ¬ (¬ d < 1 ∧ d ≤ 9) from fun w => w.1 d1), Bool.and_false]
        rfl
      · rw [if_neg d1]
        by_cases d9 : 9 < d
        · rw [if_pos d9]
          refine OKP_s (no ?_)
          unfold plB
          rw [decide_eq_false (show ¬ (¬ d < 1 ∧ d ≤ 9) from fun w => absurd d9 (Int32.not_lt.mpr w.2)), Bool.and_false]
          rfl
        · rw [if_neg d9, f1]
          refine OKP_g (yK1 hL) ?_
          rw [f3]
          by_cases t0 : z.1 0 = 0
          · rw [if_pos t0, f4]
            rw [Bool.and_eq_true] at hab
            obtain ⟨r, hr', rfl⟩ := inR_t (by omega) hab.1
            obtain ⟨p, hp, rfl⟩ := inR_t (by decide) hab.2
            obtain ⟨v, hv, rfl⟩ := inR_t (by decide) hcc
            have f5 := rK4_0 (V := V) hL hv
            rw [eH] at f5
            have f6 := rK4_1 (V := V) hL hr'
            rw [eH] at f6
            have f7 := rK9_2 (V := V) hL hr'
            rw [eH] at f7
            have f8 := rK10 (V := V) hL hr' hp
            rw [eH] at f8
            have f9 := rK5_1 (V := V) hL hv
            rw [eH] at f9
            have f10 := congrFun (IC_hi hI (show isL n Q 6 v 0 from ⟨hv, rfl⟩)) r
            rw [hC.po v r hv hr'] at f10
            rw [nI_clamp (show v < 2 ^ 31 by omega), nI_clamp (show r < 2 ^ 31 by omega), nI_clamp (show p < 2 ^ 31 by omega)]
            refine OKP_g ⟨yK4_0 hL, (ix_nI (by omega)).mpr (by rw [lK4_0 hL]; exact hv)⟩ (OKP_d ?_)
            rw [f5, f2]
            refine OKP_g ⟨yK4_1 hL, (ix_nI (by omega)).mpr (by rw [lK4_1 hL n1]; exact hr')⟩ ?_
            rw [f6]
            refine OKP_g (yK9 hL hr') ?_
            rw [f7]
            refine OKP_g ⟨yK10 hL hr', (ix_nI (by omega)).mpr (by rw [lK10 hL hr']; exact hp)⟩ ?_
            rw [f8]
            have tr : tn (nI r) = r := tn_n (by omega)
            have tp : tn (nI p) = p := tn_n (by omega)
            by_cases u : qpw Q (4 * r + p) ≠ -1
            · rw [if_pos u, if_neg (zK18 hL hr' hp u)]
              refine OKP_s (no ?_)
              unfold plB
              rw [tr, tp, decide_eq_false (show ¬ z.2 8 (4 * r + p) = -1 from by rw [← hC.qw]; exact u), Bool.and_false]
              rfl
            · have u' : qpw Q (4 * r + p) = -1 := Decidable.not_not.mp u
              have u8 : z.2 8 (4 * r + p) = -1 := by rw [← hC.qw]; exact u'
              rw [if_neg u, if_pos rfl]
              refine OKP_g (yK5 hL hv) ?_
              rw [f9]
              refine OKP_g ⟨yK6 hL hv, (ix_nI (by omega)).mpr (by rw [lK6 hL hv]; omega)⟩ ?_
              rw [f10]
              by_cases po : pOr (z.2 8) r (nI v) = -1
              · rw [if_pos po]
                have hB : plB z (nI r) (nI p) (nI v) d = true := by
                  unfold plB
                  rw [hnR, tr, tp, hab.1, hab.2, hcc, decide_eq_true t0, decide_eq_true u8, decide_eq_true (show pOn z r (nI v) = -1 from po), decide_eq_true (show ¬ d < 1 ∧ d ≤ 9 from ⟨d1, Int32.not_lt.mp d9⟩)]
                  rfl
                rw [hB, cond_true]
                obtain ⟨L1, H1, Q1, V1, e1, hI1, hC1, hm1, k1, m1, b1, l1⟩ := C_mf hI hC h0 hv
                have hL1 := hI1.1
                have eH1 := IC_e hI1
                have g2 := rK0_1 (V := V1) hL1
                rw [eH1] at g2
                have g6 := rK4_1 (V := V1) hL1 hr'
                rw [eH1] at g6
                have g7 := rK9_2 (V := V1) hL1 hr'
                rw [eH1] at g7
                have g1 := rK0_0 (V := V1) hL1
                rw [eH1] at g1
                have h01 : 0 < hn H1 := by omega
                have u1 : qpw Q1 (4 * r + p) = -1 := by rw [hC1.qw]; exact u8
                rw [e1, bo_e]
                refine OKP_g m1 (OKP_t (OKP_m ?_) m1.1 m1.2)
                rw [← l1 0 0 0 (by decide), ← l1 5 v 0 (by decide)]
                refine OKP_g (yK0 hL1) ?_
                rw [g2]
                refine OKP_g ⟨yK4_1 hL1, (ix_nI (by omega)).mpr (by rw [lK4_1 hL1 n1]; exact hr')⟩ ?_
                rw [g6]
                refine OKP_g (yK9 hL1 hr') (OKP_d (OKP_d ?_))
                rw [g7]
                have n0 : L1.1 0 0 0 ≠ hn H1 := Nat.ne_of_lt (IC_lt hI1 (show isL n Q1 0 0 0 from ⟨rfl, rfl⟩))
                have c0 : hc (nC H1 4 0 13) (L1.1 0 0 0) = 9 := by rw [nC_hc, if_neg n0]; exact yK0 hL1
                have cN : hc (nC H1 4 0 13) (hn H1) = 4 := by rw [nC_hc, if_pos rfl]
                refine OKP_t (G1 := nC H1 4 0 13) (OKP_m (OKP_g c0 (OKP_g cN ?_))) (Nat.le_succ _) (Nat.le_add_right _ _)
                rw [show hr (nC H1 4 0 13) (L1.1 0 0 0) 0 = L1.1 1 0 0 by rw [nC_hr, if_neg n0]; exact g1]
                refine OKP_o (P_port (by rw [nC_hn]; omega) cN (by rw [nC_hi, if_pos rfl]) (by rw [nC_hr, if_pos rfl])) (fun H3 hN le1 le2 => ?_)
                rw [nC_hn] at hN
                have hI2 := pl_IC hI1 h01 hr' hp hv u1 hN
                have k2 := KE_pt (p := p) hI1 hr' hN
                have hC2 := pl_RC (d := d) hC1 hr' hp hv t0 u8 po hm1
                obtain ⟨⟨s1, s2, s3, s4⟩, sb, ⟨sc, _, _, _⟩, _⟩ := id hN
                rw [nC_hn] at s1 sb
                rw [nC_hs] at s2 s3
                have n10' : L1.1 10 r 0 < hn H1 := IC_lt hI1 (show isL n Q1 10 r 0 from ⟨hr', rfl⟩)
                obtain ⟨w1, w2, _, _⟩ := sb (L1.1 10 r 0) (by omega) (by omega)
                rw [nC_hc, if_neg (Nat.ne_of_lt n10'), yK10 hL1 hr'] at w1
                rw [nC_hl, if_neg (Nat.ne_of_lt n10'), lK10 hL1 hr'] at w2
                refine OKP_g ⟨le1, le2⟩ (OKP_m (OKP_g ⟨⟨w1, (ix_nI (by omega)).mpr (by rw [w2]; exact hp)⟩, Or.inr sc⟩ (OKP_d ?_)))
                have hL2 := hI2.1
                have eH2 := IC_e hI2
                generalize hH4 : sR H3 (L1.1 10 r 0) p (hn H1) = H4 at hI2 k2 hL2 eH2 ⊢
                have hn4 : hn H4 = hn H3 := by rw [← hH4]; rfl
                have hs4 : hs H4 = hs H3 := by rw [← hH4]; rfl
                have l2 : ∀ c i j, ¬ ((18 ≤ c ∧ c ≤ 24) ∧ i = r ∧ j = p) → (exL L1 (ptA (hn H1) r p) (ptU (hn H1) r p)).1 c i j = L1.1 c i j := fun c i j hc => ex_o (if_neg hc)
                rw [← l2 0 0 0 (by omega), ← l2 5 v 0 (by omega)]
                generalize hL2e : exL L1 (ptA (hn H1) r p) (ptU (hn H1) r p) = L2 at hI2 k2 hL2 eH2 l2 ⊢
                rw [← eH2]
                rw [eK_hc]
                refine OKP_t (G1 := H4) ?_ (by omega) (by omega)
                refine OKP_g (yK5 hL2 hv) ?_
                rw [rK5_1 hL2 hv, eK_hl]
                refine OKP_g ⟨yK6 hL2 hv, (ix_nI (by omega)).mpr (by rw [lK6 hL2 hv]; omega)⟩ (OKP_d ?_)
                rw [wK6 hL2 hv, eK_hc]
                refine OKP_g (yK0 hL2) ?_
                rw [rK0_0 hL2]
                refine OKP_g (yK1 hL2) ?_
                rw [rK1_1 hL2]
                refine OKP_g (yK2 hL2) ?_
                rw [C_put hL2 (by omega) hp, bo_e]
                refine OKP_g ⟨rfl, rfl⟩ ⟨1, _, rfl, ⟨Nat.le_refl _, Nat.le_refl _⟩, rfl, L2, plQ Q1 (4 * r + p) (nI v), plV V1 r p v d, 1, IC_s hI2 hL2, ?_, (k1.trans k2 m1.1).trans KE_eK (by omega), ⟨?_, ?_⟩, ?_⟩
                · unfold plZ
                  rw [tr, tp]
                  exact hC2
                · show hn H4 ≤ _
                  omega
                · show hs H4 ≤ _
                  omega
                · rw [l2 0 0 0 (by omega), l1 0 0 0 (by decide)]
              · rw [if_neg po]
                refine OKP_s (no ?_)
                unfold plB
                rw [tr, decide_eq_false (show ¬ pOn z r (nI v) = -1 from po), Bool.and_false]
          · rw [if_neg t0]
            refine OKP_s (no ?_)
            unfold plB
            rw [decide_eq_false t0, Bool.and_false]
            rfl
end
