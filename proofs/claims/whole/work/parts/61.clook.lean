/-! THE CLASS'S TREES: what look() finds, and the ways up -/
theorem vu_self {α : Type} {f : Nat → α} {k : Nat} : va_up f k (f k) = f := by
  funext m
  rw [vu_a]
  split
  · rename_i h
    rw [h]
  · rfl
theorem bN4_0 {c : Nat → Bool} : bN c 4 = 0 ↔ (c 0 || c 1 || c 2 || c 3) = false := by
  cases h0 : c 0 <;> cases h1 : c 1 <;> cases h2 : c 2 <;> cases h3 : c 3 <;> simp only [bN, h0, h1, h2, h3, cond_true, cond_false] <;> decide
theorem bN4_or {c d : Nat → Bool} : bN c 4 ||| bN d 4 = bN (fun p => c p || d p) 4 := by
  cases h0 : c 0 <;> cases h1 : c 1 <;> cases h2 : c 2 <;> cases h3 : c 3 <;> cases e0 : d 0 <;> cases e1 : d 1 <;> cases e2 : d 2 <;> cases e3 : d 3 <;> simp only [bN, h0, h1, h2, h3, e0, e1, e2, e3, Bool.true_or, Bool.or_true, Bool.false_or, Bool.or_false, cond_true, cond_false] <;> decide
def loB4 (z : Sg) (r g s : Nat) : Int32 := bN (fun p => lostP z r p g s) 4
section
variable {L : Ly} {G : Hp} {n : Nat} {st : Int32} {V : Vt} {Q : Qt} {z : Sg} {r p q g s x m : Nat}
/-- what look() leaves in the tree -/
def lkF (V : Vt) (z : Sg) (r g s : Nat) (f : Nat → Int32) : Prop := (∀ k, k < 11 → f k = V 12 r g k) ∧ f 11 = ownC z r g s ∧ f 12 = loB4 z r g s ∧ f 13 = shB z r g s ∧ f 14 = alB z r g s ∧ f 15 = bI (wantS z r g s)
theorem C_look_23 (hL : LY L G n Q) (hF : WF z) (h1 : r < n) (h2 : g < 8) (h3 : s < 16) : ∀ (N p : Nat) (V : Vt), p ≤ 4 → 4 - p < N → RC n 0 V Q z → V 12 r g 11 = ownC z r g s → V 12 r g 12 = bN (fun p => lostP z r p g s) p → V 12 r g 13 = bN (fun p => shP z r p g s) p →
    ∃ f, lkF V z r g s f ∧ d_X5_look_23 N (L.1 12 r g) (nI s) (bN (fun p => wjP z r p g s) p) (nI p) (eK L G V (RF n L Q)) = some (eK L G (uR V 12 r g f) (RF n L Q)) := by
  intro N
  induction N with
  | zero => intro p V _ h; omega
  | succ N ih =>
    intro p V hp hlt hC e1 e2 e3
    rw [d_X5_look_23.eq_2, show (4 : Int32) = nI 4 from rfl]
    by_cases hpe : p = 4
    · subst hpe
      rw [if_pos (nI_le (by omega) (by omega))]
      have hz : bN (fun p => wjP z r p g s) 4 = 0 ↔ (wjP z r 0 g s || wjP z r 1 g s || wjP z r 2 g s || wjP z r 3 g s) = false := bN4_0
      have ea : V 12 r g 13 ||| bN (fun p => wjP z r p g s) 4 = alB z r g s := by
        rw [e3, bN4_or]
        rfl
      have fin : ∀ w : Int32, w = bI (wantS z r g s) → lkF V z r g s (va_up (va_up (V 12 r g) 14 (alB z r g s)) 15 w) := by
        intro w hw
        refine ⟨fun k hk => ?_, ?_, ?_, ?_, ?_, ?_⟩
        · rw [vu_n (by omega), vu_n (by omega)]
        · rw [vu_n (by decide), vu_n (by decide), e1]
        · rw [vu_n (by decide), vu_n (by decide), e2]
          rfl
        · rw [vu_n (by decide), vu_n (by decide), e3]
          rfl
        · rw [vu_n (by decide), vu_s]
        · rw [vu_s, hw]
      simp (disch := first | omega | assumption) only [eK_hc, eK_hl, yK12 hL, iK12 hL, rK12_0 hL, rK12_3 hL, rK12_5 hL, rK12_6 hL, rK12_8 hL, rK12_9 hL, rK12_10 hL, yK15 hL, iK15 hL, lK15 hL, yK1 hL, iK1 hL, rK1_0 hL, rK1_1 hL, rK1_2 hL, rK1_3 hL, wK12 hL h1 h2, uR_s, uR_uR, uR_ne, vu_s, ea, lm4, lm8, lm10, lm16, lm17, lm26, lm40, lm400, nI_add, nI_1, ix_nI, nI_clamp, gd_T, gd_t, bd_e, bo_e, b2_e, true_and, and_true, hC.kp r g s h1 h2 h3, hC.tm]
      cases hw : (wjP z r 0 g s || wjP z r 1 g s || wjP z r 2 g s || wjP z r 3 g s) with
      | true =>
        refine ⟨_, fin 1 ?_, ?_⟩
        · unfold wantS
          rw [hw]
          rfl
        · rw [if_neg (fun q => by rw [hz.mp q] at hw; cases hw)]
      | false =>
        rw [if_pos (hz.mpr hw)]
        by_cases a1 : z.2 37 (16 * (8 * r + g) + s) ≤ z.1 0
        · refine ⟨_, fin 0 ?_, ?_⟩
          · unfold wantS kept
            rw [hw, decide_eq_false (Int32.not_lt.mpr a1)]
            rfl
          · rw [if_pos a1]
        · by_cases a2 : alB z r g s = 0
          · refine ⟨_, fin 0 ?_, ?_⟩
            · unfold wantS kept
              rw [hw, decide_eq_true (Int32.not_le.mp a1), decide_eq_false (not_not_intro a2)]
              rfl
            · rw [if_neg a1, if_pos a2]
          · refine ⟨_, fin 1 ?_, ?_⟩
            · unfold wantS kept
              rw [hw, decide_eq_true (Int32.not_le.mp a1), decide_eq_true a2]
              rfl
            · rw [if_neg a1, if_neg a2]
    · have hp4 : p < 4 := by omega
      rw [if_neg (nI_ge (by omega) (by decide))]
      simp (disch := first | omega | assumption) only [eK_hc, eK_hl, yK12 hL, iK12 hL, rK12_0 hL, rK12_3 hL, rK12_5 hL, rK12_6 hL, rK12_8 hL, rK12_9 hL, rK12_10 hL, yK10 hL, iK10 hL, lK10 hL, rK10 hL, lm4, lm8, lm10, lm16, lm17, lm26, lm40, lm400, nI_add, nI_1, ix_nI, nI_clamp, gd_T, gd_t, bd_e, bo_e, b2_e, true_and, and_true, ((hC.id r h1).2 g h2).2]
      have t1 := bN_s (fun p => lostP z r p g s) p
      have t2 := bN_s (fun p => shP z r p g s) p
      have t3 := bN_s (fun p => wjP z r p g s) p
      by_cases hu : qpw Q (4 * r + p) = -1
      · rw [if_neg (not_not_intro hu), if_pos rfl]
        simp only [un_lost hC h1 hp4 hu h2 h3, un_sh hF hC h1 hp4 hu h2, un_wj hF hC h1 hp4 hu h2 h3, cond_false] at t1 t2 t3
        rw [← t3]
        exact ih (p + 1) V (by omega) (by omega) hC e1 (e2.trans t1.symm) (e3.trans t2.symm)
      · rw [if_pos hu, if_neg (zK18 hL h1 hp4 hu)]
        have w13 : ∀ X : Int32, X = bN (fun p => wjP z r p g s) (p + 1) → shP z r p g s = true → lostP z r p g s = false → ∃ f, lkF V z r g s f ∧ d_X5_look_23 N (L.1 12 r g) (nI s) X (nI (p + 1)) (eK L G (uR V 12 r g (va_up (V 12 r g) 13 (V 12 r g 13 ||| (1 <<< (nI p &&& 31))))) (RF n L Q)) = some (eK L G (uR V 12 r g f) (RF n L Q)) := by
          intro X hX hsh hlo
          rw [hsh, cond_true] at t2
          rw [hlo, cond_false] at t1
          have hC' : RC n 0 (uR V 12 r g (va_up (V 12 r g) 13 (V 12 r g 13 ||| (1 <<< (nI p &&& 31))))) Q z := RC_scr hC (fun k hk => vu_n (by omega))
          obtain ⟨f, hf, e⟩ := ih (p + 1) _ (by omega) (by omega) hC' (by rw [uR_s, vu_n (by decide)]; exact e1) (by rw [uR_s, vu_n (by decide), t1]; exact e2) (by rw [uR_s, vu_s, t2, e3])
          rw [hX, e, uR_uR]
          refine ⟨f, ⟨fun k hk => ?_, hf.2⟩, rfl⟩
          rw [hf.1 k hk, uR_s, vu_n (by omega)]
        have wno : ∀ X : Int32, X = bN (fun p => wjP z r p g s) (p + 1) → shP z r p g s = false → lostP z r p g s = false → ∃ f, lkF V z r g s f ∧ d_X5_look_23 N (L.1 12 r g) (nI s) X (nI (p + 1)) (eK L G V (RF n L Q)) = some (eK L G (uR V 12 r g f) (RF n L Q)) := by
          intro X hX hsh hlo
          rw [hsh, cond_false] at t2
          rw [hlo, cond_false] at t1
          rw [hX]
          exact ih (p + 1) V (by omega) (by omega) hC e1 (e2.trans t1.symm) (e3.trans t2.symm)
        have elo : (decide (clm z (4 * r + p) g s ≠ -1) && better (clm z (4 * r + p) g s) (ownC z r g s)) = lostP z r p g s := rfl
        have ejn : jn z (4 * r + p) g (yx s) = jn z (4 * r + p) g (1 + s) := by rw [yx_s h3, Nat.add_comm s 1]
        simp (disch := first | omega | assumption) only [eK_hc, eK_hl, yK12 hL, iK12 hL, rK12_0 hL, rK12_3 hL, rK12_5 hL, rK12_6 hL, rK12_8 hL, rK12_9 hL, rK12_10 hL, yK18 hL, iK18 hL, rK18_0 hL, rK18_2 hL, rK18_7 hL, rK18_8 hL, rK18_9 hL, rK18_10 hL, rK18_11 hL, rK18_12 hL, gd_T, gd_t, bd_e, bo_e, b2_e, true_and, and_true, e1, C_isLost hL hC hF h1 hp4 hu h2 h3, elo, C_isJoined hL hC h1 hp4 hu h2 (show s < 17 by omega), ejn, d_X5_look_95, d_X5_look_120, ((hC.id r h1).2 g h2).2, C_isOwn hL hC hF h1 hp4 hu h2, C_isShared hL hC h1 hp4 hu h2 h3, ite_bI, wK12 hL h1 h2, nI_1]
        cases hlo : lostP z r p g s with
        | true =>
          rw [cond_true]
          rw [hlo, cond_true] at t1
          have hs : shP z r p g s = false := by unfold shP; rw [hlo]; simp
          have hw : wjP z r p g s = false := by unfold wjP; rw [hlo]; simp
          rw [hs, cond_false] at t2
          rw [hw, cond_false] at t3
          have hC' : RC n 0 (uR V 12 r g (va_up (V 12 r g) 12 (V 12 r g 12 ||| (1 <<< (nI p &&& 31))))) Q z := RC_scr hC (fun k hk => vu_n (by omega))
          obtain ⟨f, hf, e⟩ := ih (p + 1) _ (by omega) (by omega) hC' (by rw [uR_s, vu_n (by decide)]; exact e1) (by rw [uR_s, vu_s, t1, e2]) (by rw [uR_s, vu_n (by decide), t2]; exact e3)
          rw [← t3, e, uR_uR]
          refine ⟨f, ⟨fun k hk => ?_, hf.2⟩, rfl⟩
          rw [hf.1 k hk, uR_s, vu_n (by omega)]
        | false =>
          rw [cond_false]
          have hs : shP z r p g s = ((jn z (4 * r + p) g 0 && !cutO z (4 * r + p) g s) || own z r p g) := by unfold shP; rw [hlo]; simp
          have hw : wjP z r p g s = jn z (4 * r + p) g (1 + s) := by unfold wjP; rw [hlo]; simp
          rw [hw] at t3
          cases hj : jn z (4 * r + p) g (1 + s) with
          | true =>
            rw [hj, cond_true] at t3
            rw [cond_true]
            cases ho : own z r p g with
            | true =>
              rw [cond_true]
              exact w13 _ t3.symm (by rw [hs, ho]; simp) hlo
            | false =>
              rw [cond_false]
              cases hh : (jn z (4 * r + p) g 0 && !cutO z (4 * r + p) g s) with
              | true =>
                rw [cond_true]
                exact w13 _ t3.symm (by rw [hs, hh]; simp) hlo
              | false =>
                rw [cond_false]
                exact wno _ t3.symm (by rw [hs, hh, ho]; rfl) hlo
          | false =>
            rw [hj, cond_false] at t3
            rw [cond_false]
            cases ho : own z r p g with
            | true =>
              rw [cond_true]
              exact w13 _ t3.symm (by rw [hs, ho]; simp) hlo
            | false =>
              rw [cond_false]
              cases hh : (jn z (4 * r + p) g 0 && !cutO z (4 * r + p) g s) with
              | true =>
                rw [cond_true]
                exact w13 _ t3.symm (by rw [hs, hh]; simp) hlo
              | false =>
                rw [cond_false]
                exact wno _ t3.symm (by rw [hs, hh, ho]; rfl) hlo
theorem C_look (hL : LY L G n Q) (hC : RC n 0 V Q z) (hF : WF z) (h1 : r < n) (h2 : g < 8) (h3 : s < 16) : ∃ f, lkF V z r g s f ∧ d_X5_look (L.1 12 r g) (nI s) (eK L G V (RF n L Q)) = some (eK L G (uR V 12 r g f) (RF n L Q)) := by
  unfold d_X5_look
  simp (disch := first | omega | assumption) only [eK_hc, eK_hl, yK12 hL, iK12 hL, rK12_0 hL, rK12_3 hL, rK12_5 hL, rK12_6 hL, rK12_8 hL, rK12_9 hL, rK12_10 hL, gd_T, gd_t, bd_e, bo_e, b2_e, true_and, and_true, C_ownClaim hL hC hF h1 h2 h3, wK12 hL h1 h2, uR_s, uR_uR]
  have hk : ∀ k, k < 11 → va_up (va_up (va_up (V 12 r g) 11 (ownC z r g s)) 12 0) 13 0 k = V 12 r g k := fun k hk => by rw [vu_n (by omega), vu_n (by omega), vu_n (by omega)]
  obtain ⟨f, hf, e⟩ := C_look_23 hL hF h1 h2 h3 FU 0 _ (by omega) (by show _ < 6000; omega) (RC_scr hC hk) (by rw [uR_s, vu_n (by decide), vu_n (by decide), vu_s]) (by rw [uR_s, vu_n (by decide), vu_s]; rfl) (by rw [uR_s, vu_s]; rfl)
  refine ⟨f, ⟨fun k hk' => ?_, hf.2⟩, ?_⟩
  · rw [hf.1 k hk', uR_s, hk k hk']
  · have e' : d_X5_look_23 FU (L.1 12 r g) (nI s) 0 0 (eK L G (uR V 12 r g (va_up (va_up (va_up (V 12 r g) 11 (ownC z r g s)) 12 0) 13 0)) (RF n L Q)) = some (eK L G (uR (uR V 12 r g (va_up (va_up (va_up (V 12 r g) 11 (ownC z r g s)) 12 0) 13 0)) 12 r g f) (RF n L Q)) := e
    rw [e', uR_uR]
/-! ports of the group's own members -/
theorem C_hasOwnPort_2 (hL : LY L G n Q) (hC : RC n st V Q z) (hF : WF z) (h1 : r < n) (h2 : g < 8) : ∀ (N p : Nat), p ≤ 4 → 4 - p < N → (∀ q, q < p → own z r q g = false) → d_X5_hasOwnPort_2 N (L.1 12 r g) (nI p) (eK L G V (RF n L Q)) = some (bI (hasO z r g)) := by
  intro N
  induction N with
  | zero => intro p _ h; omega
  | succ N ih =>
    intro p hp hlt hq
    rw [d_X5_hasOwnPort_2.eq_2, show (4 : Int32) = nI 4 from rfl]
    by_cases hpe : p = 4
    · subst hpe
      rw [if_pos (nI_le (by omega) (by omega))]
      unfold hasO
      rw [hq 0 (by decide), hq 1 (by decide), hq 2 (by decide), hq 3 (by decide)]
      rfl
    · have hp4 : p < 4 := by omega
      rw [if_neg (nI_ge (by omega) (by decide))]
      simp (disch := first | omega | assumption) only [eK_hc, eK_hl, yK12 hL, iK12 hL, rK12_0 hL, rK12_3 hL, rK12_5 hL, rK12_6 hL, rK12_8 hL, rK12_9 hL, rK12_10 hL, yK10 hL, iK10 hL, lK10 hL, rK10 hL, lm4, lm8, lm10, lm16, lm17, lm26, lm40, lm400, nI_add, nI_1, ix_nI, nI_clamp, gd_T, gd_t, bd_e, bo_e, b2_e, true_and, and_true, ((hC.id r h1).2 g h2).2]
      have step : own z r p g = false → ∀ q, q < p + 1 → own z r q g = false := fun h q hq1 => by
        by_cases e : q = p
        · rw [e, h]
        · exact hq q (by omega)
      by_cases hu : qpw Q (4 * r + p) = -1
      · rw [if_neg (not_not_intro hu), if_pos rfl]
        exact ih (p + 1) (by omega) (by omega) (step (un_own hF hC h1 hp4 hu h2))
      · rw [if_pos hu, if_neg (zK18 hL h1 hp4 hu)]
        simp (disch := first | omega | assumption) only [eK_hc, eK_hl, yK18 hL, iK18 hL, rK18_0 hL, rK18_2 hL, rK18_7 hL, rK18_8 hL, rK18_9 hL, rK18_10 hL, rK18_11 hL, rK18_12 hL, gd_T, gd_t, bd_e, bo_e, b2_e, true_and, and_true, C_isOwn hL hC hF h1 hp4 hu h2, ite_bI]
        cases ho : own z r p g with
        | true =>
          rw [cond_true]
          unfold hasO
          have : p = 0 ∨ p = 1 ∨ p = 2 ∨ p = 3 := by omega
          rcases this with e | e | e | e <;> subst e <;> rw [ho] <;> simp [bI]
        | false =>
          rw [cond_false]
          exact ih (p + 1) (by omega) (by omega) (step ho)
theorem C_hasOwnPort (hL : LY L G n Q) (hC : RC n st V Q z) (hF : WF z) (h1 : r < n) (h2 : g < 8) : d_X5_hasOwnPort (L.1 12 r g) (eK L G V (RF n L Q)) = some (bI (hasO z r g)) :=
  C_hasOwnPort_2 hL hC hF h1 h2 FU 0 (by omega) (by show _ < 6000; omega) (fun q h => by omega)
theorem C_base_4 (hL : LY L G n Q) (hC : RC n st V Q z) (hF : WF z) (h1 : r < n) (h2 : g < 8) : ∀ (N p : Nat), p ≤ 4 → 4 - p < N → d_X5_base_4 N (L.1 12 r g) (bN (fun p => bsP z r p g) p) (nI p) (eK L G V (RF n L Q)) = some (bsB z r g) := by
  intro N
  induction N with
  | zero => intro p _ h; omega
  | succ N ih =>
    intro p hp hlt
    rw [d_X5_base_4.eq_2, show (4 : Int32) = nI 4 from rfl]
    by_cases hpe : p = 4
    · subst hpe
      rw [if_pos (nI_le (by omega) (by omega))]
      rfl
    · have hp4 : p < 4 := by omega
      rw [if_neg (nI_ge (by omega) (by decide))]
      have t := bN_s (fun p => bsP z r p g) p
      have hi := ih (p + 1) (by omega) (by omega)
      simp (disch := first | omega | assumption) only [eK_hc, eK_hl, yK12 hL, iK12 hL, rK12_0 hL, rK12_3 hL, rK12_5 hL, rK12_6 hL, rK12_8 hL, rK12_9 hL, rK12_10 hL, yK10 hL, iK10 hL, lK10 hL, rK10 hL, lm4, lm8, lm10, lm16, lm17, lm26, lm40, lm400, nI_add, nI_1, ix_nI, nI_clamp, gd_T, gd_t, bd_e, bo_e, b2_e, true_and, and_true, ((hC.id r h1).2 g h2).2]
      by_cases hu : qpw Q (4 * r + p) = -1
      · rw [if_neg (not_not_intro hu), if_pos rfl]
        have hb : bsP z r p g = false := by
          unfold bsP
          rw [un_own hF hC h1 hp4 hu h2, un_jn hF hC h1 hp4 hu h2 (by decide)]
          rfl
        rw [hb, cond_false] at t
        rw [← t]
        exact hi
      · rw [if_pos hu, if_neg (zK18 hL h1 hp4 hu)]
        simp (disch := first | omega | assumption) only [eK_hc, eK_hl, yK12 hL, iK12 hL, rK12_0 hL, rK12_3 hL, rK12_5 hL, rK12_6 hL, rK12_8 hL, rK12_9 hL, rK12_10 hL, yK18 hL, iK18 hL, rK18_0 hL, rK18_2 hL, rK18_7 hL, rK18_8 hL, rK18_9 hL, rK18_10 hL, rK18_11 hL, rK18_12 hL, gd_T, gd_t, bd_e, bo_e, b2_e, true_and, and_true, ((hC.id r h1).2 g h2).2, C_isOwn hL hC hF h1 hp4 hu h2, C_isJoined0 hL hC h1 hp4 hu h2, d_X5_base_52, ite_bI, nI_1]
        cases hj : jn z (4 * r + p) g 0 with
        | true =>
          have hb : bsP z r p g = true := by unfold bsP; rw [hj]; rfl
          rw [hb, cond_true] at t
          rw [cond_true, ← t]
          exact hi
        | false =>
          rw [cond_false]
          cases ho : own z r p g with
          | true =>
            have hb : bsP z r p g = true := by unfold bsP; rw [hj, ho]; rfl
            rw [hb, cond_true] at t
            rw [cond_true, ← t]
            exact hi
          | false =>
            have hb : bsP z r p g = false := by unfold bsP; rw [hj, ho]; rfl
            rw [hb, cond_false] at t
            rw [cond_false, ← t]
            exact hi
theorem C_base (hL : LY L G n Q) (hC : RC n st V Q z) (hF : WF z) (h1 : r < n) (h2 : g < 8) : d_X5_base (L.1 12 r g) (eK L G V (RF n L Q)) = some (bsB z r g) :=
  C_base_4 hL hC hF h1 h2 FU 0 (by omega) (by show _ < 6000; omega)
end
