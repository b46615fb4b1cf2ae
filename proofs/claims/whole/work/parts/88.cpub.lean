/-! THE CLASS: answers -/
theorem C_isInG {a b : Int32} {G : Hp} : d_X8_isIn a b G = some (bI (!decide (a < 0) && !decide (b ≤ a))) := by
  unfold d_X8_isIn
  by_cases h : a < 0
  · simp [h, bI]
  · by_cases h2 : b ≤ a
    · simp [h, h2, bI]
    · simp [h, h2, bI]
theorem C_isIn16 {a : Int32} {G : Hp} : d_X8_isIn a 16 G = some (bI (inR a 16)) := C_isIn (n := 16)
theorem C_isIn8 {a : Int32} {G : Hp} : d_X8_isIn a 8 G = some (bI (inR a 8)) := C_isIn (n := 8)
theorem C_isIn4 {a : Int32} {G : Hp} : d_X8_isIn a 4 G = some (bI (inR a 4)) := C_isIn (n := 4)
section
variable {L : Ly} {G : Hp} {n : Nat} {st : Int32} {V : Vt} {Q : Qt} {z : Sg} {r p q g s x y m v i h k : Nat}
theorem C_isPort {a b : Int32} (hL : LY L G n Q) (hC : RC n st V Q z) : d_X8_isPort (L.1 0 0 0) a b (eK L G V (RF n L Q)) = some (bI (inR a n && inR b 4)) := by
  have hn1 := hC.nn.2.2.1
  unfold d_X8_isPort
  simp (disch := first | omega | assumption) only [eK_hc, eK_hl, yK0 hL, iK0 hL, rK0_0 hL, rK0_1 hL, rK0_2 hL, yK4_1 hL, iK4_1 hL, lK4_1 hL, rK4_1 hL, gd_T, gd_t, bd_e, bo_e, b2_e, true_and, and_true, C_isIn, C_isIn4, ite_bI]
  cases inR a n <;> cases inR b 4 <;> rfl
theorem C_got {a b : Int32} (hL : LY L G n Q) (hC : RC n st V Q z) (hN : NU z) (hF : WF z) : d_X8_got (L.1 0 0 0) a b (eK L G V (RF n L Q)) = some (gtA z a b) := by
  obtain ⟨M, hM, eM⟩ := hN
  unfold d_X8_got gtA
  rw [C_isIn16, bo_e, ite_bI]
  cases ha : inR a 16 with
  | false => rfl
  | true =>
    obtain ⟨h, hh, rfl⟩ := inR_t (by decide) ha
    rw [cond_true, eK_hc, gd_t (yK0 hL), iK0 hL, hC.nu, C_isInG, bo_e, ite_bI, Bool.true_and]
    cases hb : (!decide (b < 0) && !decide (z.1 2 ≤ b)) with
    | false => rfl
    | true =>
      rw [Bool.and_eq_true] at hb
      have b0 : ¬ b < 0 := by have := hb.1; simpa using this
      have b1 : ¬ z.1 2 ≤ b := by have := hb.2; simpa using this
      obtain ⟨k, hk, rfl⟩ := nI_of b0
      have hkM : k < M := by
        rcases Nat.lt_or_ge k M with o | o
        · exact o
        · exact absurd (by rw [eM]; exact nI_le o hk) b1
      rw [cond_true, cond_true]
      simp (disch := first | omega | assumption) only [eK_hc, eK_hl, yK0 hL, iK0 hL, rK0_0 hL, rK0_1 hL, rK0_2 hL, yK4_2 hL, iK4_2 hL, lK4_2 hL, rK4_2 hL, lm4, lm8, lm10, lm16, lm17, lm26, lm40, lm400, nI_add, nI_1, ix_nI, nI_clamp, gd_T, gd_t, bd_e, bo_e, b2_e, true_and, and_true]
      by_cases hu : qhw Q h = -1
      · rw [if_neg (not_not_intro hu), if_pos rfl, (hC.g0 h hh hu).2.2 k (by omega)]
      · rw [if_pos hu, if_neg (zK25 hL hh hu)]
        simp (disch := first | omega | assumption) only [eK_hc, eK_hl, yK25 hL, iK25 hL, rK25_1 hL, rK25_2 hL, yK26 hL, iK26 hL, lK26 hL, lm4, lm8, lm10, lm16, lm17, lm26, lm40, lm400, nI_add, nI_1, ix_nI, nI_clamp, gd_T, gd_t, bd_e, bo_e, b2_e, true_and, and_true, hC.go h k hh hu (show k < 400 by omega)]
theorem C_tell {f : Nat} {w : Int32} (hL : LY L G n Q) (hv : v < 16) (hf : f < 80) (hm : qmd Q v = true) : d_X0_tell (L.1 8 v f) w (eK L G V (RF n L Q)) = some (cond (inR w 8) (V 8 v f w.toNatClampNeg) (-2)) := by
  unfold d_X0_tell
  simp (disch := first | omega | assumption) only [eK_hc, eK_hl, yK8 hL, iK8 hL, gd_T, gd_t, bd_e, bo_e, b2_e, true_and, and_true]
  by_cases h0 : w = 0
  · rw [if_pos h0, h0]; rfl
  · rw [if_neg h0]
    by_cases h1 : w = 1
    · rw [if_pos h1, h1]; rfl
    · rw [if_neg h1]
      by_cases h2 : w = 2
      · rw [if_pos h2, h2]; rfl
      · rw [if_neg h2]
        by_cases h3 : w = 3
        · rw [if_pos h3, h3]; rfl
        · rw [if_neg h3]
          by_cases h4 : w = 4
          · rw [if_pos h4, h4]; rfl
          · rw [if_neg h4]
            by_cases h5 : w = 5
            · rw [if_pos h5, h5]; rfl
            · rw [if_neg h5]
              by_cases h6 : w = 6
              · rw [if_pos h6, h6]; rfl
              · rw [if_neg h6]
                by_cases h7 : w = 7
                · rw [if_pos h7, h7]; rfl
                · rw [if_neg h7]
                  cases hw : inR w 8 with
                  | false => rfl
                  | true =>
                    exfalso
                    obtain ⟨k, hk, rfl⟩ := inR_t (by decide) hw
                    have : k = 0 ∨ k = 1 ∨ k = 2 ∨ k = 3 ∨ k = 4 ∨ k = 5 ∨ k = 6 ∨ k = 7 := by omega
                    rcases this with e | e | e | e | e | e | e | e <;> subst e
                    · exact h0 rfl
                    · exact h1 rfl
                    · exact h2 rfl
                    · exact h3 rfl
                    · exact h4 rfl
                    · exact h5 rfl
                    · exact h6 rfl
                    · exact h7 rfl
theorem C_frame {a b w : Int32} (hL : LY L G n Q) (hC : RC n st V Q z) (hO : cnt z) : d_X8_frame (L.1 0 0 0) a b w (eK L G V (RF n L Q)) = some (frA z a b w) := by
  unfold d_X8_frame frA
  rw [C_isIn16, bo_e, ite_bI]
  cases ha : inR a 16 with
  | false => rfl
  | true =>
    obtain ⟨v, hv, rfl⟩ := inR_t (by decide) ha
    rw [cond_true, Bool.true_and, nI_clamp (by omega)]
    simp (disch := first | omega | assumption) only [eK_hc, eK_hl, yK0 hL, iK0 hL, rK0_0 hL, rK0_1 hL, rK0_2 hL, yK1 hL, iK1 hL, rK1_0 hL, rK1_1 hL, rK1_2 hL, rK1_3 hL, yK4_0 hL, iK4_0 hL, lK4_0 hL, rK4_0 hL, lm4, lm8, lm10, lm16, lm17, lm26, lm40, lm400, nI_add, nI_1, ix_nI, nI_clamp, gd_T, gd_t, bd_e, bo_e, b2_e, true_and, and_true]
    simp (disch := first | omega | assumption) only [eK_hc, eK_hl, yK5 hL, iK5 hL, rK5_1 hL, rK5_3 hL, rK5_4 hL, lm4, lm8, lm10, lm16, lm17, lm26, lm40, lm400, nI_add, nI_1, ix_nI, nI_clamp, gd_T, gd_t, bd_e, bo_e, b2_e, true_and, and_true, (hC.wi v hv).2.2.1, C_isInG, ite_bI]
    obtain ⟨m40, me⟩ := cnt_m hO hv
    cases hb : (!decide (b < 0) && !decide (z.2 16 v ≤ b)) with
    | false => rfl
    | true =>
      rw [Bool.and_eq_true] at hb
      have b0 : ¬ b < 0 := by have := hb.1; simpa using this
      have b1 : ¬ z.2 16 v ≤ b := by have := hb.2; simpa using this
      obtain ⟨k, hk, rfl⟩ := nI_of b0
      have hkM : k < (z.2 16 v).toNatClampNeg := by
        rcases Nat.lt_or_ge k (z.2 16 v).toNatClampNeg with o | o
        · exact o
        · exact absurd (by rw [me]; exact nI_le o hk) b1
      have hm : qmd Q v = true := by
        cases hmm : qmd Q v with
        | true => rfl
        | false =>
          have := (hC.me v hv hmm).1
          rw [this] at hkM
          exact absurd hkM (Nat.not_lt_zero _)
      have hcu := (hC.pi v hv).1
      have hf : qpi Q v (qcu Q v) k < 80 := ((hC.pi v hv).2 _ _ _ _ hcu (show k < 40 by omega) hcu (show k < 40 by omega)).1
      rw [cond_true, Bool.true_and]
      simp (disch := first | omega | assumption) only [eK_hc, eK_hl, yK5 hL, iK5 hL, rK5_1 hL, rK5_3 hL, rK5_4 hL, yK7 hL, iK7 hL, lK7 hL, rK7 hL, lm4, lm8, lm10, lm16, lm17, lm26, lm40, lm400, nI_add, nI_1, ix_nI, nI_clamp, gd_T, gd_t, bd_e, bo_e, b2_e, true_and, and_true]
      rw [if_neg (zK8 hL hv hf hm), gd_t (yK8 hL hv hf hm), C_tell hL hv hf hm, bo_e]
      cases hw : inR w 8 with
      | false => rfl
      | true =>
        obtain ⟨j, hj, rfl⟩ := inR_t (by decide) hw
        rw [cond_true, cond_true, nI_clamp (by omega), hC.fr v k j hv hm hkM hj]
theorem C_port {a b w : Int32} (hL : LY L G n Q) (hC : RC n st V Q z) (hF : WF z) : d_X8_port (L.1 0 0 0) a b w (eK L G V (RF n L Q)) = some (poA z a b w) := by
  have hn := hC.nn.2.2.2
  have hn1 := hC.nn.2.2.1
  have hnr := hC.nr
  unfold d_X8_port poA
  rw [eK_hc, gd_t (yK0 hL), C_isPort hL hC, bo_e, ite_bI, hnr]
  cases hab : (inR a n && inR b 4) with
  | false => rfl
  | true =>
    rw [Bool.and_eq_true] at hab
    obtain ⟨r, hr, rfl⟩ := inR_t (by omega) hab.1
    obtain ⟨p, hp, rfl⟩ := inR_t (by decide) hab.2
    rw [cond_true, cond_true, nI_clamp (by omega), nI_clamp (by omega)]
    simp (disch := first | omega | assumption) only [eK_hc, eK_hl, yK0 hL, iK0 hL, rK0_0 hL, rK0_1 hL, rK0_2 hL, yK4_1 hL, iK4_1 hL, lK4_1 hL, rK4_1 hL, yK9 hL, iK9 hL, rK9_0 hL, rK9_2 hL, rK9_3 hL, yK10 hL, iK10 hL, lK10 hL, rK10 hL, lm4, lm8, lm10, lm16, lm17, lm26, lm40, lm400, nI_add, nI_1, ix_nI, nI_clamp, gd_T, gd_t, bd_e, bo_e, b2_e, true_and, and_true]
    have e8 : z.2 8 (4 * r + p) = qpw Q (4 * r + p) := by rw [hC.qw]
    by_cases hu : qpw Q (4 * r + p) = -1
    · rw [if_neg (not_not_intro hu), if_pos rfl, e8, if_pos hu]
    · obtain ⟨v, hv, ev, ez, hm⟩ := port_w hC hF hr hp hu
      rw [if_pos hu, if_neg (zK18 hL hr hp hu), e8, if_neg hu]
      simp (disch := first | omega | assumption) only [eK_hc, eK_hl, yK18 hL, iK18 hL, rK18_0 hL, rK18_2 hL, rK18_7 hL, rK18_8 hL, rK18_9 hL, rK18_10 hL, rK18_11 hL, rK18_12 hL, gd_T, gd_t, bd_e, bo_e, b2_e, true_and, and_true, ev, lm4, lm8, lm10, lm16, lm17, lm26, lm40, lm400, nI_add, nI_1, ix_nI, nI_clamp, C_isFirst hL hC hF hr hp hu, C_isAsking hL hC hr hp hu, ite_bI, (hC.pt r p hr hp hu).2, hC.nb r p hr hp hu]
      simp (disch := first | omega | assumption) only [eK_hc, eK_hl, yK5 hL, iK5 hL, rK5_1 hL, rK5_3 hL, rK5_4 hL, gd_T, gd_t, bd_e, bo_e, b2_e, true_and, and_true, (hC.wi v hv).1]
      by_cases w0 : w = 0
      · rw [if_pos w0, if_pos w0]
      · rw [if_neg w0, if_neg w0]
        by_cases w1 : w = 1
        · rw [if_pos w1, if_pos w1]
        · rw [if_neg w1, if_neg w1]
          by_cases w2 : w = 2
          · rw [if_pos w2, if_pos w2]
          · rw [if_neg w2, if_neg w2]
            by_cases w3' : w = 3
            · rw [if_pos w3', if_pos w3']
              cases fst z r p <;> rfl
            · rw [if_neg w3', if_neg w3']
              by_cases w4 : w = 4
              · rw [if_pos w4, if_pos w4]
                cases askg z r p <;> rfl
              · rw [if_neg w4, if_neg w4]
theorem C_members {a b c : Int32} (hL : LY L G n Q) (hC : RC n st V Q z) (hF : WF z) : d_X8_members (L.1 0 0 0) a b c (eK L G V (RF n L Q)) = some (mbA z a b c) := by
  have hn := hC.nn.2.2.2
  have hn1 := hC.nn.2.2.1
  have hnr := hC.nr
  unfold d_X8_members mbA
  rw [eK_hc, gd_t (yK0 hL), C_isPort hL hC, bo_e, ite_bI, hnr]
  cases hab : (inR a n && inR b 4) with
  | false => rfl
  | true =>
    rw [Bool.and_eq_true] at hab
    obtain ⟨r, hr, rfl⟩ := inR_t (by omega) hab.1
    obtain ⟨p, hp, rfl⟩ := inR_t (by decide) hab.2
    rw [cond_true, C_isIn8, bo_e, ite_bI, Bool.true_and]
    cases hg : inR c 8 with
    | false => rfl
    | true =>
      obtain ⟨g, hg8, rfl⟩ := inR_t (by decide) hg
      rw [cond_true, cond_true, nI_clamp (by omega), nI_clamp (by omega), nI_clamp (by omega)]
      simp (disch := first | omega | assumption) only [eK_hc, eK_hl, yK0 hL, iK0 hL, rK0_0 hL, rK0_1 hL, rK0_2 hL, yK4_1 hL, iK4_1 hL, lK4_1 hL, rK4_1 hL, yK9 hL, iK9 hL, rK9_0 hL, rK9_2 hL, rK9_3 hL, yK10 hL, iK10 hL, lK10 hL, rK10 hL, lm4, lm8, lm10, lm16, lm17, lm26, lm40, lm400, nI_add, nI_1, ix_nI, nI_clamp, gd_T, gd_t, bd_e, bo_e, b2_e, true_and, and_true]
      by_cases hu : qpw Q (4 * r + p) = -1
      · rw [if_neg (not_not_intro hu), if_pos rfl, un_mem hF hC hr hp hu hg8]
        rfl
      · rw [if_pos hu, if_neg (zK18 hL hr hp hu)]
        simp (disch := first | omega | assumption) only [eK_hc, eK_hl, yK18 hL, iK18 hL, rK18_0 hL, rK18_2 hL, rK18_7 hL, rK18_8 hL, rK18_9 hL, rK18_10 hL, rK18_11 hL, rK18_12 hL, yK20 hL, iK20 hL, lK20 hL, lm4, lm8, lm10, lm16, lm17, lm26, lm40, lm400, nI_add, nI_1, ix_nI, nI_clamp, gd_T, gd_t, bd_e, bo_e, b2_e, true_and, and_true, C_hasMembers hL hC hr hp hu hg8, ite_bI, hC.mb r p g hr hp hu hg8]
        cases mem z (4 * r + p) g <;> rfl
end
