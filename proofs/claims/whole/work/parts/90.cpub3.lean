/-! THE CLASS: what is told of trees, what is counted -/
section
variable {L : Ly} {G : Hp} {n : Nat} {st : Int32} {V : Vt} {Q : Qt} {z : Sg} {r p q g s x y m v i h k : Nat}
theorem jb_parts (hO : MO z) (hC : RC n st V Q z) (h1 : r < n) (h2 : g < 8) (h3 : x < 17) : (V 13 r g x = -1 ∧ z.2 33 (17 * (8 * r + g) + yx x) = -1 ∧ z.2 34 (17 * (8 * r + g) + yx x) = -1) ∨ (V 13 r g x ≠ -1 ∧ z.2 33 (17 * (8 * r + g) + yx x) ≠ -1 ∧ V 13 r g x / 16 = z.2 33 (17 * (8 * r + g) + yx x) ∧ V 13 r g x - V 13 r g x / 16 * 16 = z.2 34 (17 * (8 * r + g) + yx x)) := by
  have hn := hC.nn.2.2.2
  have hnr := hC.nr
  have hy := yx_lt h3
  rw [hC.jb r g x h1 h2 h3]
  rcases hO.2.2 (17 * (8 * r + g) + yx x) (by omega) with ⟨a1, a2⟩ | ⟨p1, q1, hp1, hq1, a1, a2⟩
  · left
    rw [a1, a2]
    exact ⟨if_pos rfl, rfl, rfl⟩
  · right
    rw [a1, a2, jb_n.resolve_right (nI_m1 (by omega))]
    refine ⟨nI_m1 (by omega), nI_m1 (by omega), ?_, ?_⟩
    · rw [show (16 : Int32) = nI 16 from rfl, pk_div (by omega) (by decide) (by decide)]
      exact congrArg nI (by omega)
    · rw [show (16 : Int32) = nI 16 from rfl, pk_rem (by omega) (by decide) (by decide)]
      exact congrArg nI (by omega)
theorem C_joinedRouter (hL : LY L G n Q) (hC : RC n st V Q z) (hO : MO z) (h1 : r < n) (h2 : g < 8) (h3 : x < 17) : d_X5_joinedRouter (L.1 12 r g) (nI x) (eK L G V (RF n L Q)) = some (z.2 34 (17 * (8 * r + g) + yx x)) := by
  unfold d_X5_joinedRouter
  simp (disch := first | omega | assumption) only [eK_hc, eK_hl, yK12 hL, iK12 hL, rK12_0 hL, rK12_3 hL, rK12_5 hL, rK12_6 hL, rK12_8 hL, rK12_9 hL, rK12_10 hL, yK13 hL, iK13 hL, lK13 hL, lm4, lm8, lm10, lm16, lm17, lm26, lm40, lm400, nI_add, nI_1, ix_nI, nI_clamp, gd_T, gd_t, bd_e, bo_e, b2_e, true_and, and_true]
  rcases jb_parts hO hC h1 h2 h3 with ⟨a, b, c⟩ | ⟨a, b, c, d⟩
  · rw [if_pos a, c]
  · rw [if_neg a, d]
theorem C_joinedPort (hL : LY L G n Q) (hC : RC n st V Q z) (hO : MO z) (h1 : r < n) (h2 : g < 8) (h3 : x < 17) : d_X5_joinedPort (L.1 12 r g) (nI x) (eK L G V (RF n L Q)) = some (z.2 33 (17 * (8 * r + g) + yx x)) := by
  unfold d_X5_joinedPort
  simp (disch := first | omega | assumption) only [eK_hc, eK_hl, yK12 hL, iK12 hL, rK12_0 hL, rK12_3 hL, rK12_5 hL, rK12_6 hL, rK12_8 hL, rK12_9 hL, rK12_10 hL, yK13 hL, iK13 hL, lK13 hL, lm4, lm8, lm10, lm16, lm17, lm26, lm40, lm400, nI_add, nI_1, ix_nI, nI_clamp, gd_T, gd_t, bd_e, bo_e, b2_e, true_and, and_true]
  rcases jb_parts hO hC h1 h2 h3 with ⟨a, b, c⟩ | ⟨a, b, c, d⟩
  · rw [if_pos a, b]
  · rw [if_neg a, c]
theorem C_tellStar {w : Int32} (hL : LY L G n Q) (hC : RC n 0 V Q z) (hO : MO z) (h1 : r < n) (h2 : g < 8) : d_X5_tellStar (L.1 12 r g) w (eK L G V (RF n L Q)) = some (trK z r g 0 w, eK L G V (RF n L Q)) := by
  have eR := C_joinedRouter (x := 16) hL hC hO h1 h2 (by decide)
  have eP := C_joinedPort (x := 16) hL hC hO h1 h2 (by decide)
  rw [show nI 16 = (16 : Int32) from rfl, yx_16] at eR eP
  unfold d_X5_tellStar trK
  simp (disch := first | omega | assumption) only [eK_hc, eK_hl, yK12 hL, iK12 hL, rK12_0 hL, rK12_3 hL, rK12_5 hL, rK12_6 hL, rK12_8 hL, rK12_9 hL, rK12_10 hL, gd_T, gd_t, bd_e, bo_e, b2_e, true_and, and_true, C_wants0 hL hC hO.1 h1 h2, C_base hL hC hO.1 h1 h2, eR, eP, ite_bI, hC.tc r g h1 h2]
  by_cases w0 : w = 0
  · rw [if_pos w0, if_pos w0]
    unfold wantY
    rw [if_pos rfl]
    cases want0 z r g <;> rfl
  · rw [if_neg w0, if_neg w0]
    by_cases w1 : w = 1
    · rw [if_pos w1, if_pos w1]
    · rw [if_neg w1, if_neg w1]
      by_cases w2 : w = 2
      · rw [if_pos w2, if_pos w2]
      · rw [if_neg w2, if_neg w2]
        by_cases w3' : w = 3
        · rw [if_pos w3', if_pos w3', if_pos trivial]
        · rw [if_neg w3', if_neg w3']
          by_cases w4 : w = 4
          · rw [if_pos w4, if_pos w4, if_pos trivial]
            rfl
          · rw [if_neg w4, if_neg w4, if_pos trivial]
theorem C_tellSource {w : Int32} (hL : LY L G n Q) (hC : RC n 0 V Q z) (hO : MO z) (h1 : r < n) (h2 : g < 8) (h3 : s < 16) : ∃ V', d_X5_tellSource (L.1 12 r g) (nI s) w (eK L G V (RF n L Q)) = some (trK z r g (s + 1) w, eK L G V' (RF n L Q)) ∧ RC n 0 V' Q z := by
  obtain ⟨f, hlk, e⟩ := C_look hL hC hO.1 h1 h2 h3
  have hR := RC_scr hC hlk.1
  refine ⟨_, ?_, hR⟩
  have eR := C_joinedRouter (x := s) hL hR hO h1 h2 (by omega)
  have eP := C_joinedPort (x := s) hL hR hO h1 h2 (by omega)
  rw [yx_s h3] at eR eP
  have h13 := (congrFun (uR_s (V := V) (c := 12) (i := r) (j := g) (f := f)) 13).trans hlk.2.2.2.1
  have h14 := (congrFun (uR_s (V := V) (c := 12) (i := r) (j := g) (f := f)) 14).trans hlk.2.2.2.2.1
  have h15 := (congrFun (uR_s (V := V) (c := 12) (i := r) (j := g) (f := f)) 15).trans hlk.2.2.2.2.2
  have hx : ix (nI s) 16 := (ix_nI (by omega)).mpr h3
  unfold d_X5_tellSource trK
  rw [eK_hc, gd_t (yK12 hL h1 h2), e, bo_e]
  by_cases w0 : w = 0
  · rw [if_pos w0, if_pos w0, eK_hc, gd_t (yK12 hL h1 h2), iK12 hL h1 h2, h15, ite_bI]
    unfold wantY
    rw [if_neg (by omega), Nat.add_sub_cancel]
    cases wantS z r g s <;> rfl
  · rw [if_neg w0, if_neg w0]
    by_cases w1 : w = 1
    · rw [if_pos w1, if_pos w1, eK_hc, gd_t (yK12 hL h1 h2), eR, bo_e]
    · rw [if_neg w1, if_neg w1]
      by_cases w2 : w = 2
      · rw [if_pos w2, if_pos w2, eK_hc, gd_t (yK12 hL h1 h2), eP, bo_e]
      · rw [if_neg w2, if_neg w2]
        by_cases w3' : w = 3
        · rw [if_pos w3', if_pos w3', if_neg (by omega), Nat.add_sub_cancel, eK_hc, gd_t (yK12 hL h1 h2), iK12 hL h1 h2, h14]
        · rw [if_neg w3', if_neg w3']
          by_cases w4 : w = 4
          · rw [if_pos w4, if_pos w4, if_neg (by omega), Nat.add_sub_cancel, eK_hc, gd_t (yK12 hL h1 h2), iK12 hL h1 h2, h13]
          · rw [if_neg w4, if_neg w4, if_neg (show ¬ s + 1 = 0 by omega), Nat.add_sub_cancel]
            unfold ofS
            by_cases w5 : w = 5
            · rw [if_pos w5, if_pos w5, eK_hc, gd_t (yK12 hL h1 h2), C_isStraight hL hR h1 h2 h3, bo_e, ite_bI]
              unfold strt
              by_cases hs : z.2 39 (16 * (8 * r + g) + s) ≠ -1
              · rw [decide_eq_true hs]
                rfl
              · rw [decide_eq_false hs]
                rfl
            · rw [if_neg w5, if_neg w5]
              by_cases w6 : w = 6
              · rw [if_pos w6, if_pos w6, eK_hc, gd_t (yK12 hL h1 h2), rK12_8 hL h1 h2, rK12_0 hL h1 h2, eK_hl, yK15 hL h1 h2, lK15 hL h1 h2, gd_t ⟨rfl, hx⟩, gd_t (yK1 hL), iK15 hL h1 h2, iK1 hL, nI_clamp (by omega), hR.kp r g s h1 h2 h3, hR.tm, gd_t ⟨rfl, hx⟩]
                split <;> rfl
              · rw [if_neg w6, if_neg w6]
                by_cases w7 : w = 7
                · rw [if_pos w7, if_pos w7, eK_hc, gd_t (yK12 hL h1 h2), rK12_9 hL h1 h2, rK12_0 hL h1 h2, eK_hl, yK16 hL h1 h2, lK16 hL h1 h2, gd_t ⟨rfl, hx⟩, gd_t (yK1 hL), iK16 hL h1 h2, iK1 hL, nI_clamp (by omega), hR.sp r g s h1 h2 h3, hR.tm, gd_t ⟨rfl, hx⟩]
                  split <;> rfl
                · rw [if_neg w7, if_neg w7]
theorem C_tree {a b c w : Int32} (hL : LY L G n Q) (hC : RC n st V Q z) (hI : IV z) (hc : CO z) : ∃ V' st', d_X8_tree (L.1 0 0 0) a b c w (eK L G V (RF n L Q)) = some (trA z a b c w, eK L G V' (RF n L Q)) ∧ RC n st' V' Q z := by
  have hn := hC.nn.2.2.2
  have hn1 := hC.nn.2.2.1
  have hnr := hC.nr
  unfold d_X8_tree trA
  simp (disch := first | omega | assumption) only [eK_hc, eK_hl, yK0 hL, iK0 hL, rK0_0 hL, rK0_1 hL, rK0_2 hL, yK4_1 hL, iK4_1 hL, lK4_1 hL, rK4_1 hL, gd_T, gd_t, bd_e, bo_e, b2_e, true_and, and_true, C_isIn, C_isIn8, C_isSource, ite_bI]
  rw [hnr]
  cases ha : inR a n with
  | false => exact ⟨V, st, rfl, hC⟩
  | true =>
    obtain ⟨r, hr, rfl⟩ := inR_t (by omega) ha
    rw [cond_true, Bool.true_and]
    cases hb : inR b 8 with
    | false => exact ⟨V, st, rfl, hC⟩
    | true =>
      obtain ⟨g, hg, rfl⟩ := inR_t (by decide) hb
      rw [cond_true, Bool.true_and]
      cases hs : (decide (c = -1) || inR c 16) with
      | false => exact ⟨V, st, rfl, hC⟩
      | true =>
        obtain ⟨V1, e1, hR1⟩ := C_refresh hL hC hI.1.1 hc
        rw [cond_true, cond_true, nI_clamp (by omega), nI_clamp (by omega)]
        simp (disch := first | omega | assumption) only [eK_hc, eK_hl, yK0 hL, iK0 hL, rK0_0 hL, rK0_1 hL, rK0_2 hL, yK1 hL, iK1 hL, rK1_0 hL, rK1_1 hL, rK1_2 hL, rK1_3 hL, gd_T, gd_t, bd_e, bo_e, b2_e, true_and, and_true]
        simp (disch := first | omega | assumption) only [eK_hc, eK_hl, yK2 hL, iK2 hL, rK2_1 hL, rK2_2 hL, rK2_3 hL, rK2_4 hL, rK2_5 hL, gd_T, gd_t, bd_e, bo_e, b2_e, true_and, and_true, e1]
        simp (disch := first | omega | assumption) only [eK_hc, eK_hl, yK0 hL, iK0 hL, rK0_0 hL, rK0_1 hL, rK0_2 hL, yK4_1 hL, iK4_1 hL, lK4_1 hL, rK4_1 hL, yK9 hL, iK9 hL, rK9_0 hL, rK9_2 hL, rK9_3 hL, yK11 hL, iK11 hL, lK11 hL, rK11 hL, lm4, lm8, lm10, lm16, lm17, lm26, lm40, lm400, nI_add, nI_1, ix_nI, nI_clamp, gd_T, gd_t, bd_e, bo_e, b2_e, true_and, and_true]
        simp (disch := first | omega | assumption) only [eK_hc, eK_hl, yK12 hL, iK12 hL, rK12_0 hL, rK12_3 hL, rK12_5 hL, rK12_6 hL, rK12_8 hL, rK12_9 hL, rK12_10 hL, gd_T, gd_t, bd_e, bo_e, b2_e, true_and, and_true]
        rcases src_y hs with ⟨e0, e⟩ | ⟨s, hs16, e0, e⟩
        · rw [if_pos e0, C_tellStar hL hR1 hI.1 hr hg, b2_e, e]
          exact ⟨V1, 0, rfl, hR1⟩
        · obtain ⟨V2, e2, hR2⟩ := C_tellSource (w := w) hL hR1 hI.1 hr hg hs16
          rw [e0, if_neg (nI_m1 (by omega)), e2, b2_e, nI_1, nI_clamp (by omega)]
          exact ⟨V2, 0, rfl, hR2⟩
/-! what is counted -/
theorem C_cow {w : Int32} {j : Nat} (hL : LY L G n Q) (hw : (w = 2 ∧ j = 8) ∨ (w = 3 ∧ j = 9) ∨ (w = 4 ∧ j = 10) ∨ (w = 6 ∧ j = 11)) : ∀ (N v : Nat), v ≤ 16 → 16 - v < N → d_X8_countOnWires_4 N (L.1 0 0 0) w (sm (fun v => V 5 v 0 j) v) (nI v) (eK L G V (RF n L Q)) = some (sm (fun v => V 5 v 0 j) 16) := by
  intro N
  induction N with
  | zero => intro v _ h; omega
  | succ N ih =>
    intro v hv hlt
    rw [d_X8_countOnWires_4.eq_2, show (16 : Int32) = nI 16 from rfl]
    by_cases he : v = 16
    · subst he
      rw [if_pos (nI_le (by omega) (by decide))]
    · have hv16 : v < 16 := by omega
      rw [if_neg (nI_ge hv16 (by decide))]
      simp (disch := first | omega | assumption) only [eK_hc, eK_hl, yK0 hL, iK0 hL, rK0_0 hL, rK0_1 hL, rK0_2 hL, yK1 hL, iK1 hL, rK1_0 hL, rK1_1 hL, rK1_2 hL, rK1_3 hL, yK4_0 hL, iK4_0 hL, lK4_0 hL, rK4_0 hL, lm4, lm8, lm10, lm16, lm17, lm26, lm40, lm400, nI_add, nI_1, ix_nI, nI_clamp, gd_T, gd_t, bd_e, bo_e, b2_e, true_and, and_true]
      simp (disch := first | omega | assumption) only [eK_hc, eK_hl, yK5 hL, iK5 hL, rK5_1 hL, rK5_3 hL, rK5_4 hL, gd_T, gd_t, bd_e, bo_e, b2_e, true_and, and_true]
      have hi := ih (v + 1) (by omega) (by omega)
      have es : sm (fun v => V 5 v 0 j) (v + 1) = sm (fun v => V 5 v 0 j) v + V 5 v 0 j := rfl
      rw [es] at hi
      rcases hw with ⟨e, e'⟩ | ⟨e, e'⟩ | ⟨e, e'⟩ | ⟨e, e'⟩
      · subst e e'
        rw [if_pos rfl]
        exact hi
      · subst e e'
        rw [if_neg (by decide), if_pos rfl]
        exact hi
      · subst e e'
        rw [if_neg (by decide), if_neg (by decide), if_pos rfl]
        exact hi
      · subst e e'
        rw [if_neg (by decide), if_neg (by decide), if_neg (by decide), if_neg (by decide), if_pos rfl]
        exact hi
theorem C_count {w : Int32} (hL : LY L G n Q) (hC : RC n st V Q z) : d_X8_count (L.1 0 0 0) w (eK L G V (RF n L Q)) = some (coA z w) := by
  have hn1 := hC.nn.2.2.1
  obtain ⟨s8, s9, s10, s11⟩ := hC.su
  have c2 := C_cow (V := V) (w := 2) (j := 8) hL (Or.inl ⟨rfl, rfl⟩) FU 0 (by omega) (by show _ < 6000; omega)
  have c3 := C_cow (V := V) (w := 3) (j := 9) hL (Or.inr (Or.inl ⟨rfl, rfl⟩)) FU 0 (by omega) (by show _ < 6000; omega)
  have c4 := C_cow (V := V) (w := 4) (j := 10) hL (Or.inr (Or.inr (Or.inl ⟨rfl, rfl⟩))) FU 0 (by omega) (by show _ < 6000; omega)
  have c6 := C_cow (V := V) (w := 6) (j := 11) hL (Or.inr (Or.inr (Or.inr ⟨rfl, rfl⟩))) FU 0 (by omega) (by show _ < 6000; omega)
  rw [nI_0, show sm (fun v => V 5 v 0 8) 0 = 0 from rfl, s8] at c2
  rw [nI_0, show sm (fun v => V 5 v 0 9) 0 = 0 from rfl, s9] at c3
  rw [nI_0, show sm (fun v => V 5 v 0 10) 0 = 0 from rfl, s10] at c4
  rw [nI_0, show sm (fun v => V 5 v 0 11) 0 = 0 from rfl, s11] at c6
  unfold d_X8_count coA d_X8_countOnWires
  simp (disch := first | omega | assumption) only [eK_hc, eK_hl, yK0 hL, iK0 hL, rK0_0 hL, rK0_1 hL, rK0_2 hL, yK1 hL, iK1 hL, rK1_0 hL, rK1_1 hL, rK1_2 hL, rK1_3 hL, yK4_1 hL, iK4_1 hL, lK4_1 hL, rK4_1 hL, gd_T, gd_t, bd_e, bo_e, b2_e, true_and, and_true, hC.tm, hC.nu, hC.tu]
  by_cases w0 : w = 0
  · rw [if_pos w0, if_pos w0]
  · rw [if_neg w0, if_neg w0]
    by_cases w1 : w = 1
    · rw [if_pos w1, if_pos w1]
    · rw [if_neg w1, if_neg w1]
      by_cases w2 : w = 2
      · rw [if_pos w2, if_pos w2, w2, c2, bo_e]
      · rw [if_neg w2, if_neg w2]
        by_cases w3' : w = 3
        · rw [if_pos w3', if_pos w3', w3', c3, bo_e]
        · rw [if_neg w3', if_neg w3']
          by_cases w4 : w = 4
          · rw [if_pos w4, if_pos w4, w4, c4, bo_e]
          · rw [if_neg w4, if_neg w4]
            by_cases w5 : w = 5
            · rw [if_pos w5, if_pos w5]
            · rw [if_neg w5, if_neg w5]
              by_cases w6 : w = 6
              · rw [if_pos w6, if_pos w6, w6, c6, bo_e]
              · rw [if_neg w6, if_neg w6]
                by_cases w7 : w = 7
                · rw [if_pos w7, if_pos w7, hC.nn.1]
                · rw [if_neg w7, if_neg w7, show FU = 5999 + 1 from rfl, d_X8_countOnWires_4.eq_2, if_neg (by decide)]
                  have ez : nI 0 = 0 := nI_0
                  rw [← ez]
                  simp (disch := first | omega | assumption) only [eK_hc, eK_hl, yK0 hL, iK0 hL, rK0_0 hL, rK0_1 hL, rK0_2 hL, yK1 hL, iK1 hL, rK1_0 hL, rK1_1 hL, rK1_2 hL, rK1_3 hL, yK4_0 hL, iK4_0 hL, lK4_0 hL, rK4_0 hL, lm4, lm8, lm10, lm16, lm17, lm26, lm40, lm400, nI_add, nI_1, ix_nI, nI_clamp, gd_T, gd_t, bd_e, bo_e, b2_e, true_and, and_true]
                  rw [if_neg w2, if_neg w3', if_neg w4, if_neg w5, if_neg w6, bo_e]
end
