/-! a frame that comes: its eight numbers -/
def fr3 (a : Nat → Int32) : Prop := ∃ g, g < 8 ∧ a 3 = nI g
def fr4 (a : Nat → Int32) : Prop := ∃ s, s < 16 ∧ a 4 = nI s
def frX (a : Nat → Int32) : Prop := ∃ y, y < 17 ∧ a 4 + 1 = nI y
def frT (n : Nat) (a : Nat → Int32) : Prop := ∃ t, t < n ∧ a 2 = nI t
def frN (a : Nat → Int32) : Prop := ∃ m, m < 400 ∧ a 5 = nI m
def fok (n : Nat) (a : Nat → Int32) : Prop :=
  (a 0 = 1 ∧ ∃ b, b < n ∧ a 1 = nI b) ∨ (a 0 = 2 ∧ (a 3 = -1 ∨ fr3 a)) ∨ (a 0 = 3 ∧ fr3 a ∧ a 4 = -1) ∨ (a 0 = 4 ∧ fr3 a ∧ a 4 = -1) ∨ (a 0 = 5 ∧ fr3 a ∧ frX a ∧ frT n a ∧ (a 4 = -1 ∨ a 6 = 0)) ∨ (a 0 = 6 ∧ fr3 a ∧ frX a ∧ frT n a) ∨ (a 0 = 7 ∧ fr3 a ∧ fr4 a ∧ frN a ∧ ∃ l, l ≤ 16 ∧ a 7 = nI l) ∨ (a 0 = 8 ∧ fr3 a ∧ fr4 a ∧ ∃ c q, c < 100000 ∧ q < n ∧ a 5 = nI (100 * c + q)) ∨ (a 0 = 9 ∧ fr3 a ∧ fr4 a ∧ frN a ∧ ∃ b1 b2, b1 ≤ 16 ∧ b2 < n ∧ a 6 = nI (16 * b1 + b2)) ∨ (a 0 = 10 ∧ fr3 a ∧ fr4 a ∧ a 5 = 0 ∧ ∃ t, t < n ∧ a 6 = nI t)
def coZ (z : Sg) (r p : Nat) (a : Nat → Int32) : Sg :=
  if a 0 = 1 then uA z 25 (10 * (4 * r + p) + (a 1).toNatClampNeg) (z.1 0 + 65)
  else if a 0 = 3 then uA z 28 (8 * (4 * r + p) + (a 3).toNatClampNeg) (z.1 0 + 60)
  else if a 0 = 4 then lfZ z r p (a 3).toNatClampNeg
  else if a 0 = 5 then (if a 2 = nI r then joZ z r p (a 3).toNatClampNeg (a 4 + 1).toNatClampNeg (a 6) else ohZ z r p 5 (a 2) (a 3).toNatClampNeg (a 4 + 1).toNatClampNeg (a 6))
  else if a 0 = 6 then (if a 2 = nI r then prZ z r p (a 3).toNatClampNeg (a 4 + 1).toNatClampNeg else ohZ z r p 6 (a 2) (a 3).toNatClampNeg (a 4 + 1).toNatClampNeg (a 6))
  else if a 0 = 7 then dtZ z r p (a 3).toNatClampNeg (a 4).toNatClampNeg (a 5) (a 7)
  else if a 0 = 8 then clZ z r p (a 3).toNatClampNeg (a 4).toNatClampNeg (a 5)
  else if a 0 = 9 then (if a 2 = nI r then tnZ z r (a 3).toNatClampNeg (a 4).toNatClampNeg (a 5) (a 6) (a 7) else z)
  else if a 0 = 10 then (if a 2 = nI r then stZ z r (a 3).toNatClampNeg (a 4).toNatClampNeg (a 6).toNatClampNeg (a 7) else z)
  else z
section
variable {x0 : Nat} {x1 x2 x3 x4 x5 x6 x7 x8 : Int32} {H : Hp}
theorem cs340 (h : ¬ x4 = 10) : d_X9_comes_340 x0 x1 x3 x4 x6 x7 x8 H = some H := by
  unfold d_X9_comes_340; rw [if_neg h]
theorem cs293 (h : ¬ x4 = 9) : d_X9_comes_293 x0 x1 x3 x4 x6 x7 x8 H = d_X9_comes_340 x0 x1 x3 x4 x6 x7 x8 H := by
  unfold d_X9_comes_293; rw [if_neg h]
theorem cs268 (h : ¬ x4 = 8) : d_X9_comes_268 x0 x1 x2 x3 x4 x6 x7 x8 H = d_X9_comes_293 x0 x1 x3 x4 x6 x7 x8 H := by
  unfold d_X9_comes_268; rw [if_neg h]
theorem cs234 (h : ¬ x4 = 7) : d_X9_comes_234 x0 x1 x2 x3 x4 x6 x7 x8 H = d_X9_comes_268 x0 x1 x2 x3 x4 x6 x7 x8 H := by
  unfold d_X9_comes_234; rw [if_neg h]
theorem cs198 (h : ¬ x8 = 0) : d_X9_comes_198 x0 x1 x2 x3 x4 x6 x7 x8 H = d_X9_comes_234 x0 x1 x2 x3 x4 x6 x7 x8 H := by
  unfold d_X9_comes_198; rw [if_neg h]
theorem cs185 (h5 : ¬ x4 = 5) (h6 : ¬ x4 = 6) : d_X9_comes_185 x0 x1 x2 x3 x4 x6 x7 x8 H = d_X9_comes_234 x0 x1 x2 x3 x4 x6 x7 x8 H := by
  unfold d_X9_comes_185; rw [if_neg h5, if_neg h6]
theorem cs185a (h5 : x4 = 5 ∨ x4 = 6) : d_X9_comes_185 x0 x1 x2 x3 x4 x6 x7 x8 H = d_X9_comes_198 x0 x1 x2 x3 x4 x6 x7 x8 H := by
  unfold d_X9_comes_185
  rcases h5 with h5 | h5
  · rw [if_pos h5]
  · by_cases h6 : x4 = 5
    · rw [if_pos h6]
    · rw [if_neg h6, if_pos h5]
theorem cs161 (h : ¬ x4 = 6) : d_X9_comes_161 x0 x1 x2 x3 x4 x6 x7 x8 H = d_X9_comes_185 x0 x1 x2 x3 x4 x6 x7 x8 H := by
  unfold d_X9_comes_161; rw [if_neg h]
theorem cs129 (h : ¬ x4 = 5) : d_X9_comes_129 x0 x1 x2 x3 x4 x6 x7 x8 H = d_X9_comes_161 x0 x1 x2 x3 x4 x6 x7 x8 H := by
  unfold d_X9_comes_129; rw [if_neg h]
theorem cs115 (h : ¬ x4 = 4) : d_X9_comes_115 x0 x1 x2 x3 x4 x6 x7 x8 H = d_X9_comes_129 x0 x1 x2 x3 x4 x6 x7 x8 H := by
  unfold d_X9_comes_115; rw [if_neg h]
theorem cs86 (h : ¬ x4 = 3) : d_X9_comes_86 x0 x1 x2 x3 x4 x6 x7 x8 H = d_X9_comes_115 x0 x1 x2 x3 x4 x6 x7 x8 H := by
  unfold d_X9_comes_86; rw [if_neg h]
theorem cs55 (h : ¬ x4 = 1) : d_X9_comes_55 x0 x1 x2 x3 x4 x5 x6 x7 x8 H = d_X9_comes_86 x0 x1 x2 x3 x4 x6 x7 x8 H := by
  unfold d_X9_comes_55; rw [if_neg h]
end
theorem fok_cong {n : Nat} {a b : Nat → Int32} (h : ∀ j, j < 8 → a j = b j) (hf : fok n a) : fok n b := by
  unfold fok fr3 fr4 frX frT frN at hf ⊢
  rw [← h 0 (by decide), ← h 1 (by decide), ← h 2 (by decide), ← h 3 (by decide), ← h 4 (by decide), ← h 5 (by decide), ← h 6 (by decide), ← h 7 (by decide)]
  exact hf
section
variable {x : Nat} {G : Hp} {z w : Sg} {r p q g s y k f : Nat}
theorem M_comes0 (hM : MS x G) (hf : f + 7 < 5120) : d_X9_comes x (nI r) (nI p) (nI f) (em2 x G z w) = d_X9_comes_55 x (nI r) (nI p) (nI f) (z.2 20 f) (z.2 20 (f + 1)) (z.2 20 (f + 3)) (z.2 20 (f + 4)) (bI (decide (z.2 20 (f + 2) = nI r))) (em2 x G z w) := by
  unfold d_X9_comes
  simp (disch := omega) only [e2_hc, e2_hr, e2_hl, ms0, ms1, ms2, ms3, ms4, ms5, ms6, ms7, ms21, hM.1, mc20 hM, ml20 hM, mr20 hM, lm4, lm8, lm10, lm16, lm17, lm26, lm40, lm400, nI_add, nI_1, ix_nI, nI_clamp, gd_T, gd_t, bd_e, bo_e, b2_e, true_and, and_true, la2, la3, la4]
  by_cases c : z.2 20 (f + 2) = nI r
  · rw [if_pos c, decide_eq_true c]
    rfl
  · rw [if_neg c, decide_eq_false c]
    rfl
theorem M_comes_1 {v3 v4 : Int32} {b : Bool} (hM : MS x G) (hO : MO z) (h1 : r < nR z) (h2 : p < 4) (hq : q < nR z) : d_X9_comes_55 x (nI r) (nI p) (nI f) 1 (nI q) v3 v4 (bI b) (em2 x G z w) = some (em2 x G (uA z 25 (10 * (4 * r + p) + q) (z.1 0 + 65)) w) := by
  have hn := hO.1.1
  unfold d_X9_comes_55
  rw [if_pos rfl]
  simp (disch := omega) only [e2_hc, e2_hr, e2_hl, ms0, ms1, ms2, ms3, ms4, ms5, ms6, ms7, ms21, hM.1, mc25 hM, ml25 hM, mr25 hM, lm4, lm8, lm10, lm16, lm17, lm26, lm40, lm400, nI_add, nI_1, ix_nI, nI_clamp, gd_T, gd_t, bd_e, bo_e, b2_e, true_and, and_true, mu25 hM]
  rw [cs86 (by decide), cs115 (by decide), cs129 (by decide), cs161 (by decide), cs185 (by decide) (by decide), cs234 (by decide), cs268 (by decide), cs293 (by decide), cs340 (by decide)]
theorem M_comes_2 {v1 v3 v4 : Int32} {b : Bool} : d_X9_comes_55 x (nI r) (nI p) (nI f) 2 v1 v3 v4 (bI b) (em2 x G z w) = some (em2 x G z w) := by
  rw [cs55 (by decide), cs86 (by decide), cs115 (by decide), cs129 (by decide), cs161 (by decide), cs185 (by decide) (by decide), cs234 (by decide), cs268 (by decide), cs293 (by decide), cs340 (by decide)]
theorem M_comes_3 {v1 v4 : Int32} {b : Bool} (hM : MS x G) (hO : MO z) (h1 : r < nR z) (h2 : p < 4) (h3 : g < 8) : d_X9_comes_55 x (nI r) (nI p) (nI f) 3 v1 (nI g) v4 (bI b) (em2 x G z w) = some (em2 x G (uA z 28 (8 * (4 * r + p) + g) (z.1 0 + 60)) w) := by
  have hn := hO.1.1
  rw [cs55 (by decide)]
  unfold d_X9_comes_86
  rw [if_pos rfl]
  simp (disch := omega) only [e2_hc, e2_hr, e2_hl, ms0, ms1, ms2, ms3, ms4, ms5, ms6, ms7, ms21, hM.1, mc28 hM, ml28 hM, mr28 hM, lm4, lm8, lm10, lm16, lm17, lm26, lm40, lm400, nI_add, nI_1, ix_nI, nI_clamp, gd_T, gd_t, bd_e, bo_e, b2_e, true_and, and_true, mu28 hM]
  rw [cs115 (by decide), cs129 (by decide), cs161 (by decide), cs185 (by decide) (by decide), cs234 (by decide), cs268 (by decide), cs293 (by decide), cs340 (by decide)]
theorem M_comes_4 {v1 v4 : Int32} {b : Bool} (hM : MS x G) (hO : MO z) (h1 : r < nR z) (h2 : p < 4) (h3 : g < 8) : d_X9_comes_55 x (nI r) (nI p) (nI f) 4 v1 (nI g) v4 (bI b) (em2 x G z w) = some (em2 x G (lfZ z r p g) w) := by
  rw [cs55 (by decide), cs86 (by decide)]
  unfold d_X9_comes_115
  rw [if_pos rfl, e2_hc, gd_t hM.1, M_left hM hO h1 h2 h3, bo_e, cs129 (by decide), cs161 (by decide), cs185 (by decide) (by decide), cs234 (by decide), cs268 (by decide), cs293 (by decide), cs340 (by decide)]
theorem M_comes_5 {v1 v4 : Int32} {b : Bool} (hM : MS x G) (hO : MO z) (h1 : r < nR z) (h2 : p < 4) (h3 : g < 8) (hy : y < 17) (hf : f + 7 < 5120) (h4 : v4 + 1 = nI y) : d_X9_comes_55 x (nI r) (nI p) (nI f) 5 v1 (nI g) v4 (bI b) (em2 x G z w) = some (em2 x G (cond b (joZ z r p g y (z.2 20 (f + 6))) (ohZ z r p 5 (z.2 20 (f + 2)) g y (z.2 20 (f + 6)))) w) := by
  rw [cs55 (by decide), cs86 (by decide), cs115 (by decide)]
  unfold d_X9_comes_129
  rw [if_pos rfl, ite_bI]
  cases b with
  | true =>
    rw [cond_true, cond_true]
    simp (disch := omega) only [e2_hc, e2_hr, e2_hl, ms0, ms1, ms2, ms3, ms4, ms5, ms6, ms7, ms21, hM.1, mc20 hM, ml20 hM, mr20 hM, lm4, lm8, lm10, lm16, lm17, lm26, lm40, lm400, nI_add, nI_1, ix_nI, nI_clamp, gd_T, gd_t, bd_e, bo_e, b2_e, true_and, and_true, la6]
    rw [h4, M_joins hM hO h1 h2 h3 hy, bo_e, cs161 (by decide), cs185a (Or.inl rfl), cs198 (by decide), cs234 (by decide), cs268 (by decide), cs293 (by decide), cs340 (by decide)]
  | false =>
    rw [cond_false, cond_false, cs161 (by decide), cs185a (Or.inl rfl)]
    unfold d_X9_comes_198
    rw [ite_bI, cond_false]
    simp (disch := omega) only [e2_hc, e2_hr, e2_hl, ms0, ms1, ms2, ms3, ms4, ms5, ms6, ms7, ms21, hM.1, mc20 hM, ml20 hM, mr20 hM, lm4, lm8, lm10, lm16, lm17, lm26, lm40, lm400, nI_add, nI_1, ix_nI, nI_clamp, gd_T, gd_t, bd_e, bo_e, b2_e, true_and, and_true, la2, la6]
    rw [h4, M_overhears hM hO h1 h2 h3 hy, bo_e, cs234 (by decide), cs268 (by decide), cs293 (by decide), cs340 (by decide)]
theorem M_comes_6 {v1 v4 : Int32} {b : Bool} (hM : MS x G) (hO : MO z) (h1 : r < nR z) (h2 : p < 4) (h3 : g < 8) (hy : y < 17) (hf : f + 7 < 5120) (h4 : v4 + 1 = nI y) : d_X9_comes_55 x (nI r) (nI p) (nI f) 6 v1 (nI g) v4 (bI b) (em2 x G z w) = some (em2 x G (cond b (prZ z r p g y) (ohZ z r p 6 (z.2 20 (f + 2)) g y (z.2 20 (f + 6)))) w) := by
  rw [cs55 (by decide), cs86 (by decide), cs115 (by decide), cs129 (by decide)]
  unfold d_X9_comes_161
  rw [if_pos rfl, ite_bI]
  cases b with
  | true =>
    rw [cond_true, cond_true, e2_hc, gd_t hM.1, h4, M_prunes hM hO h1 h2 h3 hy, bo_e, cs185a (Or.inr rfl), cs198 (by decide), cs234 (by decide), cs268 (by decide), cs293 (by decide), cs340 (by decide)]
  | false =>
    rw [cond_false, cond_false, cs185a (Or.inr rfl)]
    unfold d_X9_comes_198
    rw [ite_bI, cond_false]
    simp (disch := omega) only [e2_hc, e2_hr, e2_hl, ms0, ms1, ms2, ms3, ms4, ms5, ms6, ms7, ms21, hM.1, mc20 hM, ml20 hM, mr20 hM, lm4, lm8, lm10, lm16, lm17, lm26, lm40, lm400, nI_add, nI_1, ix_nI, nI_clamp, gd_T, gd_t, bd_e, bo_e, b2_e, true_and, and_true, la2, la6]
    rw [h4, M_overhears hM hO h1 h2 h3 hy, bo_e, cs234 (by decide), cs268 (by decide), cs293 (by decide), cs340 (by decide)]
theorem M_comes_7 {v1 : Int32} {b : Bool} (hM : MS x G) (hO : MO z) (hK : ∀ z, WF z → RK x G z) (hw : Cns z w) (h1 : r < nR z) (h2 : p < 4) (h3 : g < 8) (h4 : s < 16) (hf : f + 7 < 5120) : ∃ w', Cns (dtZ z r p g s (z.2 20 (f + 5)) (z.2 20 (f + 7))) w' ∧ d_X9_comes_55 x (nI r) (nI p) (nI f) 7 v1 (nI g) (nI s) (bI b) (em2 x G z w) = some (em2 x G (dtZ z r p g s (z.2 20 (f + 5)) (z.2 20 (f + 7))) w') := by
  obtain ⟨w1, hw1, e1⟩ := M_data (nu := z.2 20 (f + 5)) (life := z.2 20 (f + 7)) hM hO hK hw h1 h2 h3 h4
  refine ⟨w1, hw1, ?_⟩
  rw [cs55 (by decide), cs86 (by decide), cs115 (by decide), cs129 (by decide), cs161 (by decide), cs185 (by decide) (by decide)]
  unfold d_X9_comes_234
  rw [if_pos rfl]
  simp (disch := omega) only [e2_hc, e2_hr, e2_hl, ms0, ms1, ms2, ms3, ms4, ms5, ms6, ms7, ms21, hM.1, mc20 hM, ml20 hM, mr20 hM, lm4, lm8, lm10, lm16, lm17, lm26, lm40, lm400, nI_add, nI_1, ix_nI, nI_clamp, gd_T, gd_t, bd_e, bo_e, b2_e, true_and, and_true, la5, la7]
  rw [e1, bo_e, cs268 (by decide), cs293 (by decide), cs340 (by decide)]
theorem M_comes_8 {v1 : Int32} {b : Bool} (hM : MS x G) (hO : MO z) (hK : ∀ z, WF z → RK x G z) (hw : Cns z w) (h1 : r < nR z) (h2 : p < 4) (h3 : g < 8) (h4 : s < 16) (hf : f + 7 < 5120) (hnu : ∃ c q, c < 100000 ∧ q < nR z ∧ z.2 20 (f + 5) = nI (100 * c + q)) : ∃ w', Cns (clZ z r p g s (z.2 20 (f + 5))) w' ∧ d_X9_comes_55 x (nI r) (nI p) (nI f) 8 v1 (nI g) (nI s) (bI b) (em2 x G z w) = some (em2 x G (clZ z r p g s (z.2 20 (f + 5))) w') := by
  obtain ⟨w1, hw1, e1⟩ := M_claimed (nu := z.2 20 (f + 5)) hM hO hK hw h1 h2 h3 h4 hnu
  refine ⟨w1, hw1, ?_⟩
  rw [cs55 (by decide), cs86 (by decide), cs115 (by decide), cs129 (by decide), cs161 (by decide), cs185 (by decide) (by decide), cs234 (by decide)]
  unfold d_X9_comes_268
  rw [if_pos rfl]
  simp (disch := omega) only [e2_hc, e2_hr, e2_hl, ms0, ms1, ms2, ms3, ms4, ms5, ms6, ms7, ms21, hM.1, mc20 hM, ml20 hM, mr20 hM, lm4, lm8, lm10, lm16, lm17, lm26, lm40, lm400, nI_add, nI_1, ix_nI, nI_clamp, gd_T, gd_t, bd_e, bo_e, b2_e, true_and, and_true, la5]
  rw [e1, bo_e, cs293 (by decide), cs340 (by decide)]
theorem M_comes_9 {v1 : Int32} {b : Bool} (hM : MS x G) (hO : MO z) (hK : ∀ z, WF z → RK x G z) (hw : Cns z w) (h1 : r < nR z) (h3 : g < 8) (h4 : s < 16) (hf : f + 7 < 5120) (hb : ∃ b1 b2, b1 ≤ 16 ∧ b2 < nR z ∧ z.2 20 (f + 6) = nI (16 * b1 + b2)) : ∃ w', Cns (cond b (tnZ z r g s (z.2 20 (f + 5)) (z.2 20 (f + 6)) (z.2 20 (f + 7))) z) w' ∧ d_X9_comes_55 x (nI r) (nI p) (nI f) 9 v1 (nI g) (nI s) (bI b) (em2 x G z w) = some (em2 x G (cond b (tnZ z r g s (z.2 20 (f + 5)) (z.2 20 (f + 6)) (z.2 20 (f + 7))) z) w') := by
  obtain ⟨b1, b2, q1, q2, q3⟩ := hb
  obtain ⟨w1, hw1, e1⟩ := M_tunnel (nu := z.2 20 (f + 5)) (bits := z.2 20 (f + 6)) (life := z.2 20 (f + 7)) hM hO hK hw h1 h3 h4 q3 q1 q2
  rw [cs55 (by decide), cs86 (by decide), cs115 (by decide), cs129 (by decide), cs161 (by decide), cs185 (by decide) (by decide), cs234 (by decide), cs268 (by decide)]
  unfold d_X9_comes_293
  rw [if_pos rfl, ite_bI]
  cases b with
  | false => exact ⟨w, hw, by rw [cond_false, cond_false, cs340 (by decide)]⟩
  | true =>
    refine ⟨w1, hw1, ?_⟩
    rw [cond_true, cond_true]
    simp (disch := omega) only [e2_hc, e2_hr, e2_hl, ms0, ms1, ms2, ms3, ms4, ms5, ms6, ms7, ms21, hM.1, mc20 hM, ml20 hM, mr20 hM, lm4, lm8, lm10, lm16, lm17, lm26, lm40, lm400, nI_add, nI_1, ix_nI, nI_clamp, gd_T, gd_t, bd_e, bo_e, b2_e, true_and, and_true, la5, la6, la7]
    rw [e1, bo_e, cs340 (by decide)]
theorem M_comes_10 {v1 : Int32} {b : Bool} (hM : MS x G) (hO : MO z) (hK : ∀ z, WF z → RK x G z) (hw : Cns z w) (h1 : r < nR z) (h3 : g < 8) (h4 : s < 16) (hf : f + 7 < 5120) (hb : ∃ t, t < nR z ∧ z.2 20 (f + 6) = nI t) : ∃ w', Cns (cond b (stZ z r g s (z.2 20 (f + 6)).toNatClampNeg (z.2 20 (f + 7))) z) w' ∧ d_X9_comes_55 x (nI r) (nI p) (nI f) 10 v1 (nI g) (nI s) (bI b) (em2 x G z w) = some (em2 x G (cond b (stZ z r g s (z.2 20 (f + 6)).toNatClampNeg (z.2 20 (f + 7))) z) w') := by
  have hn := hO.1.1
  obtain ⟨t, q1, q2⟩ := hb
  obtain ⟨w1, hw1, e1⟩ := M_stop (to := t) (life := z.2 20 (f + 7)) hM hO hK hw h1 h3 h4 q1
  rw [cs55 (by decide), cs86 (by decide), cs115 (by decide), cs129 (by decide), cs161 (by decide), cs185 (by decide) (by decide), cs234 (by decide), cs268 (by decide), cs293 (by decide)]
  unfold d_X9_comes_340
  rw [if_pos rfl, ite_bI, q2, nI_clamp (by omega)]
  cases b with
  | false => exact ⟨w, hw, by rw [cond_false, cond_false]⟩
  | true =>
    refine ⟨w1, hw1, ?_⟩
    rw [cond_true, cond_true]
    simp (disch := omega) only [e2_hc, e2_hr, e2_hl, ms0, ms1, ms2, ms3, ms4, ms5, ms6, ms7, ms21, hM.1, mc20 hM, ml20 hM, mr20 hM, lm4, lm8, lm10, lm16, lm17, lm26, lm40, lm400, nI_add, nI_1, ix_nI, nI_clamp, gd_T, gd_t, bd_e, bo_e, b2_e, true_and, and_true, la6, la7]
    rw [q2, e1, bo_e]
end
