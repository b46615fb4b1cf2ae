/-! cut and forget -/
def fgP (z : Sg) (r p n25 n28 n29 n30 n33 : Nat) : Sg := (z.1, fun k =>
  if k = 25 then (fun i => if i / 10 = 4 * r + p ∧ i % 10 < n25 then 0 else z.2 25 i)
  else if k = 28 then (fun i => if i / 8 = 4 * r + p ∧ i % 8 < n28 then 0 else z.2 28 i)
  else if k = 29 then (fun i => if i / 136 = 4 * r + p ∧ i % 136 < n29 then 0 else z.2 29 i)
  else if k = 30 then (fun i => if i / 128 = 4 * r + p ∧ i % 128 < n30 then -1 else z.2 30 i)
  else if k = 31 then (fun i => if i / 128 = 4 * r + p ∧ i % 128 < n30 then -1 else z.2 31 i)
  else if k = 33 then (fun i => if i / 136 = r ∧ i % 136 < n33 ∧ z.2 33 i = nI p then -1 else z.2 33 i)
  else if k = 34 then (fun i => if i / 136 = r ∧ i % 136 < n33 ∧ z.2 33 i = nI p then -1 else z.2 34 i)
  else z.2 k)
def fgZ (z : Sg) (r p : Nat) : Sg := fgP (uA (uA z 26 (4 * r + p) (-1)) 27 (4 * r + p) (-1)) r p 10 8 136 128 136
section
variable {z : Sg} {r p a b c d e i : Nat}
theorem fg_1 : (fgP z r p a b c d e).1 = z.1 := rfl
theorem fg_25 : (fgP z r p a b c d e).2 25 = fun i => if i / 10 = 4 * r + p ∧ i % 10 < a then 0 else z.2 25 i := rfl
theorem fg_28 : (fgP z r p a b c d e).2 28 = fun i => if i / 8 = 4 * r + p ∧ i % 8 < b then 0 else z.2 28 i := rfl
theorem fg_29 : (fgP z r p a b c d e).2 29 = fun i => if i / 136 = 4 * r + p ∧ i % 136 < c then 0 else z.2 29 i := rfl
theorem fg_30 : (fgP z r p a b c d e).2 30 = fun i => if i / 128 = 4 * r + p ∧ i % 128 < d then -1 else z.2 30 i := rfl
theorem fg_31 : (fgP z r p a b c d e).2 31 = fun i => if i / 128 = 4 * r + p ∧ i % 128 < d then -1 else z.2 31 i := rfl
theorem fg_33 : (fgP z r p a b c d e).2 33 = fun i => if i / 136 = r ∧ i % 136 < e ∧ z.2 33 i = nI p then -1 else z.2 33 i := rfl
theorem fg_34 : (fgP z r p a b c d e).2 34 = fun i => if i / 136 = r ∧ i % 136 < e ∧ z.2 33 i = nI p then -1 else z.2 34 i := rfl
theorem fg_ne {k : Nat} (h : k ≠ 25 ∧ k ≠ 28 ∧ k ≠ 29 ∧ k ≠ 30 ∧ k ≠ 31 ∧ k ≠ 33 ∧ k ≠ 34) : (fgP z r p a b c d e).2 k = z.2 k := by
  show (if k = 25 then _ else if k = 28 then _ else if k = 29 then _ else if k = 30 then _ else if k = 31 then _ else if k = 33 then _ else if k = 34 then _ else _) = _
  rw [if_neg (by omega), if_neg (by omega), if_neg (by omega), if_neg (by omega), if_neg (by omega), if_neg (by omega), if_neg (by omega)]
theorem fg_ext {y y' : Sg} (h1 : y.1 = y'.1) (h25 : y.2 25 = y'.2 25) (h28 : y.2 28 = y'.2 28) (h29 : y.2 29 = y'.2 29) (h30 : y.2 30 = y'.2 30) (h31 : y.2 31 = y'.2 31) (h33 : y.2 33 = y'.2 33) (h34 : y.2 34 = y'.2 34) (ho : ∀ k, k ≠ 25 ∧ k ≠ 28 ∧ k ≠ 29 ∧ k ≠ 30 ∧ k ≠ 31 ∧ k ≠ 33 ∧ k ≠ 34 → y.2 k = y'.2 k) : y = y' := by
  refine Prod.ext h1 ?_
  funext k
  by_cases a1 : k = 25
  · rw [a1]; exact h25
  by_cases a2 : k = 28
  · rw [a2]; exact h28
  by_cases a3 : k = 29
  · rw [a3]; exact h29
  by_cases a4 : k = 30
  · rw [a4]; exact h30
  by_cases a5 : k = 31
  · rw [a5]; exact h31
  by_cases a6 : k = 33
  · rw [a6]; exact h33
  by_cases a7 : k = 34
  · rw [a7]; exact h34
  exact ho k ⟨a1, a2, a3, a4, a5, a6, a7⟩
theorem up_if {C C' : Nat → Prop} [DecidablePred C] [DecidablePred C'] {v : Int32} {f : Nat → Int32} {i : Nat} (h : ∀ j, C' j ↔ (C j ∨ j = i)) : va_up (fun j => if C j then v else f j) i v = fun j => if C' j then v else f j := by
  funext j
  unfold va_up
  by_cases hj : j = i
  · rw [if_pos hj, if_pos ((h j).mpr (Or.inr hj))]
  · rw [if_neg hj]
    show (if C j then v else f j) = _
    by_cases hc : C j
    · rw [if_pos hc, if_pos ((h j).mpr (Or.inl hc))]
    · rw [if_neg hc, if_neg (fun q => ((h j).mp q).elim hc hj)]
theorem fg_s25 (h : a < 10) : uA (fgP z r p a b c d e) 25 (10 * (4 * r + p) + a) 0 = fgP z r p (a + 1) b c d e := by
  refine fg_ext rfl ?_ ?_ ?_ ?_ ?_ ?_ ?_ ?_
  · rw [uA_at, fg_25, fg_25]; exact up_if (fun j => by omega)
  · rw [uA_ne (show (28 : Nat) ≠ 25 by decide)]; rfl
  · rw [uA_ne (show (29 : Nat) ≠ 25 by decide)]; rfl
  · rw [uA_ne (show (30 : Nat) ≠ 25 by decide)]; rfl
  · rw [uA_ne (show (31 : Nat) ≠ 25 by decide)]; rfl
  · rw [uA_ne (show (33 : Nat) ≠ 25 by decide)]; rfl
  · rw [uA_ne (show (34 : Nat) ≠ 25 by decide)]; rfl
  · intro k hk
    rw [uA_ne (show k ≠ 25 by omega), fg_ne hk, fg_ne hk]
theorem fg_s28 (h : b < 8) : uA (fgP z r p a b c d e) 28 (8 * (4 * r + p) + b) 0 = fgP z r p a (b + 1) c d e := by
  refine fg_ext rfl ?_ ?_ ?_ ?_ ?_ ?_ ?_ ?_
  · rw [uA_ne (show (25 : Nat) ≠ 28 by decide)]; rfl
  · rw [uA_at, fg_28, fg_28]; exact up_if (fun j => by omega)
  · rw [uA_ne (show (29 : Nat) ≠ 28 by decide)]; rfl
  · rw [uA_ne (show (30 : Nat) ≠ 28 by decide)]; rfl
  · rw [uA_ne (show (31 : Nat) ≠ 28 by decide)]; rfl
  · rw [uA_ne (show (33 : Nat) ≠ 28 by decide)]; rfl
  · rw [uA_ne (show (34 : Nat) ≠ 28 by decide)]; rfl
  · intro k hk
    rw [uA_ne (show k ≠ 28 by omega), fg_ne hk, fg_ne hk]
theorem fg_s29 (h : c < 136) : uA (fgP z r p a b c d e) 29 (136 * (4 * r + p) + c) 0 = fgP z r p a b (c + 1) d e := by
  refine fg_ext rfl ?_ ?_ ?_ ?_ ?_ ?_ ?_ ?_
  · rw [uA_ne (show (25 : Nat) ≠ 29 by decide)]; rfl
  · rw [uA_ne (show (28 : Nat) ≠ 29 by decide)]; rfl
  · rw [uA_at, fg_29, fg_29]; exact up_if (fun j => by omega)
  · rw [uA_ne (show (30 : Nat) ≠ 29 by decide)]; rfl
  · rw [uA_ne (show (31 : Nat) ≠ 29 by decide)]; rfl
  · rw [uA_ne (show (33 : Nat) ≠ 29 by decide)]; rfl
  · rw [uA_ne (show (34 : Nat) ≠ 29 by decide)]; rfl
  · intro k hk
    rw [uA_ne (show k ≠ 29 by omega), fg_ne hk, fg_ne hk]
theorem fg_s30 (h : d < 128) : uA (uA (fgP z r p a b c d e) 30 (128 * (4 * r + p) + d) (-1)) 31 (128 * (4 * r + p) + d) (-1) = fgP z r p a b c (d + 1) e := by
  refine fg_ext rfl ?_ ?_ ?_ ?_ ?_ ?_ ?_ ?_
  · rw [uA_ne (show (25 : Nat) ≠ 31 by decide), uA_ne (show (25 : Nat) ≠ 30 by decide)]; rfl
  · rw [uA_ne (show (28 : Nat) ≠ 31 by decide), uA_ne (show (28 : Nat) ≠ 30 by decide)]; rfl
  · rw [uA_ne (show (29 : Nat) ≠ 31 by decide), uA_ne (show (29 : Nat) ≠ 30 by decide)]; rfl
  · rw [uA_ne (by decide), uA_at, fg_30, fg_30]; exact up_if (fun j => by omega)
  · rw [uA_at, uA_ne (by decide), fg_31, fg_31]; exact up_if (fun j => by omega)
  · rw [uA_ne (show (33 : Nat) ≠ 31 by decide), uA_ne (show (33 : Nat) ≠ 30 by decide)]; rfl
  · rw [uA_ne (show (34 : Nat) ≠ 31 by decide), uA_ne (show (34 : Nat) ≠ 30 by decide)]; rfl
  · intro k hk
    rw [uA_ne (show k ≠ 31 by omega), uA_ne (show k ≠ 30 by omega), fg_ne hk, fg_ne hk]
theorem fg_s33 (h : e < 136) (hz : z.2 33 (136 * r + e) = nI p) : uA (uA (fgP z r p a b c d e) 33 (136 * r + e) (-1)) 34 (136 * r + e) (-1) = fgP z r p a b c d (e + 1) := by
  refine fg_ext rfl ?_ ?_ ?_ ?_ ?_ ?_ ?_ ?_
  · rw [uA_ne (show (25 : Nat) ≠ 34 by decide), uA_ne (show (25 : Nat) ≠ 33 by decide)]; rfl
  · rw [uA_ne (show (28 : Nat) ≠ 34 by decide), uA_ne (show (28 : Nat) ≠ 33 by decide)]; rfl
  · rw [uA_ne (show (29 : Nat) ≠ 34 by decide), uA_ne (show (29 : Nat) ≠ 33 by decide)]; rfl
  · rw [uA_ne (show (30 : Nat) ≠ 34 by decide), uA_ne (show (30 : Nat) ≠ 33 by decide)]; rfl
  · rw [uA_ne (show (31 : Nat) ≠ 34 by decide), uA_ne (show (31 : Nat) ≠ 33 by decide)]; rfl
  · rw [uA_ne (by decide), uA_at, fg_33, fg_33]; exact up_if (fun j => ⟨fun q => if hj : j = 136 * r + e then Or.inr hj else Or.inl ⟨q.1, by omega, q.2.2⟩, fun q => q.elim (fun q => ⟨q.1, by omega, q.2.2⟩) (fun q => ⟨by omega, by omega, by rw [q]; exact hz⟩)⟩)
  · rw [uA_at, uA_ne (by decide), fg_34, fg_34]; exact up_if (fun j => ⟨fun q => if hj : j = 136 * r + e then Or.inr hj else Or.inl ⟨q.1, by omega, q.2.2⟩, fun q => q.elim (fun q => ⟨q.1, by omega, q.2.2⟩) (fun q => ⟨by omega, by omega, by rw [q]; exact hz⟩)⟩)
  · intro k hk
    rw [uA_ne (show k ≠ 34 by omega), uA_ne (show k ≠ 33 by omega), fg_ne hk, fg_ne hk]
theorem fg_n33 (h : e < 136) (hz : z.2 33 (136 * r + e) ≠ nI p) : fgP z r p a b c d e = fgP z r p a b c d (e + 1) := by
  have key : ∀ j, (j / 136 = r ∧ j % 136 < e ∧ z.2 33 j = nI p) ↔ (j / 136 = r ∧ j % 136 < e + 1 ∧ z.2 33 j = nI p) := by
    intro j
    refine ⟨fun q => ⟨q.1, by omega, q.2.2⟩, fun q => ⟨q.1, ?_, q.2.2⟩⟩
    rcases Nat.lt_or_ge (j % 136) e with h1 | h1
    · exact h1
    · have : j = 136 * r + e := by omega
      rw [this] at q
      exact absurd q.2.2 hz
  refine fg_ext rfl rfl rfl rfl rfl rfl ?_ ?_ ?_
  · rw [fg_33, fg_33]
    funext j
    by_cases hc : j / 136 = r ∧ j % 136 < e ∧ z.2 33 j = nI p
    · rw [if_pos hc, if_pos ((key j).mp hc)]
    · rw [if_neg hc, if_neg (fun q => hc ((key j).mpr q))]
  · rw [fg_34, fg_34]
    funext j
    by_cases hc : j / 136 = r ∧ j % 136 < e ∧ z.2 33 j = nI p
    · rw [if_pos hc, if_pos ((key j).mp hc)]
    · rw [if_neg hc, if_neg (fun q => hc ((key j).mpr q))]
  · intro k hk
    rw [fg_ne hk, fg_ne hk]
theorem fg_0 : fgP z r p 0 0 0 0 0 = z := by
  refine fg_ext rfl ?_ ?_ ?_ ?_ ?_ ?_ ?_ ?_
  · rw [fg_25]; funext j; exact if_neg (fun q => by omega)
  · rw [fg_28]; funext j; exact if_neg (fun q => by omega)
  · rw [fg_29]; funext j; exact if_neg (fun q => by omega)
  · rw [fg_30]; funext j; exact if_neg (fun q => by omega)
  · rw [fg_31]; funext j; exact if_neg (fun q => by omega)
  · rw [fg_33]; funext j; exact if_neg (fun q => by omega)
  · rw [fg_34]; funext j; exact if_neg (fun q => by omega)
  · intro k hk
    exact fg_ne hk
end
section
variable {x : Nat} {G : Hp} {z w : Sg} {r p g a b c d e : Nat}
theorem M_fg33 {kk : Nat → Int32 → Int32 → Int32 → Int32 → Hp → Option Hp} (hM : MS x G) (h1 : r < 10) (h3 : g < 8) : ∀ (n y : Nat), y ≤ 17 → 17 - y < n → d_X9_forget_164 n x (nI r) (nI p) (nI (4 * r + p)) (nI g) (nI y) (em2 x G (fgP z r p a b c d (17 * g + y)) w) kk = kk x (nI r) (nI p) (nI (4 * r + p)) (nI (g + 1)) (em2 x G (fgP z r p a b c d (17 * (g + 1))) w) := by
  intro n
  induction n with
  | zero => intro y _ h; omega
  | succ n ih =>
    intro y hy hlt
    rw [d_X9_forget_164.eq_2, show (17 : Int32) = nI 17 from rfl]
    by_cases hye : y = 17
    · subst hye
      rw [if_pos (nI_le (Nat.le_refl _) (by decide)), nI_1]
      rfl
    · rw [if_neg (nI_ge (by omega) (by decide)), ← show (17 : Int32) = nI 17 from rfl]
      have e2 := ih (y + 1) (by omega) (by omega)
      have ei : 17 * (8 * r + g) + y = 136 * r + (17 * g + y) := by omega
      have e33 : (fgP z r p a b c d (17 * g + y)).2 33 (136 * r + (17 * g + y)) = z.2 33 (136 * r + (17 * g + y)) := by
        rw [fg_33]
        exact if_neg (fun q => by omega)
      simp (disch := omega) only [e2_hc, e2_hr, e2_hl, ms0, ms1, ms2, ms3, ms4, ms5, ms6, ms7, ms21, hM.1, mc33 hM, ml33 hM, mr33 hM, mc34 hM, ml34 hM, mr34 hM, lm4, lm8, lm10, lm16, lm17, lm26, lm40, lm400, nI_add, nI_1, ix_nI, nI_clamp, gd_T, gd_t, bd_e, bo_e, b2_e, true_and, and_true, mu33 hM, mu34 hM]
      rw [ei, e33]
      by_cases hz : z.2 33 (136 * r + (17 * g + y)) = nI p
      · rw [if_pos hz, fg_s33 (by omega) hz]
        exact e2
      · rw [if_neg hz, fg_n33 (by omega) hz]
        exact e2
theorem M_fg30 {kk : Nat → Int32 → Int32 → Int32 → Int32 → Hp → Option Hp} (hM : MS x G) (h1 : r < 10) (h2 : p < 4) (h3 : g < 8) : ∀ (n s : Nat), s ≤ 16 → 16 - s < n → d_X9_forget_110 n x (nI r) (nI p) (nI (4 * r + p)) (nI g) (nI s) (em2 x G (fgP z r p a b c (16 * g + s) e) w) kk = d_X9_forget_164 FU x (nI r) (nI p) (nI (4 * r + p)) (nI g) 0 (em2 x G (fgP z r p a b c (16 * (g + 1)) e) w) kk := by
  intro n
  induction n with
  | zero => intro y _ h; omega
  | succ n ih =>
    intro s hs hlt
    rw [d_X9_forget_110.eq_2, show (16 : Int32) = nI 16 from rfl]
    by_cases hse : s = 16
    · subst hse
      rw [if_pos (nI_le (Nat.le_refl _) (by decide))]
      rfl
    · rw [if_neg (nI_ge (by omega) (by decide)), ← show (16 : Int32) = nI 16 from rfl]
      have e2 := ih (s + 1) (by omega) (by omega)
      have ei : 16 * (8 * (4 * r + p) + g) + s = 128 * (4 * r + p) + (16 * g + s) := by omega
      simp (disch := omega) only [e2_hc, e2_hr, e2_hl, ms0, ms1, ms2, ms3, ms4, ms5, ms6, ms7, ms21, hM.1, mc30 hM, ml30 hM, mr30 hM, mc31 hM, ml31 hM, mr31 hM, lm4, lm8, lm10, lm16, lm17, lm26, lm40, lm400, nI_add, nI_1, ix_nI, nI_clamp, gd_T, gd_t, bd_e, bo_e, b2_e, true_and, and_true, mu30 hM, mu31 hM]
      rw [ei, fg_s30 (by omega)]
      exact e2
theorem M_fg29 {kk : Nat → Int32 → Int32 → Int32 → Int32 → Hp → Option Hp} (hM : MS x G) (h1 : r < 10) (h2 : p < 4) (h3 : g < 8) : ∀ (n y : Nat), y ≤ 17 → 17 - y < n → d_X9_forget_75 n x (nI r) (nI p) (nI (4 * r + p)) (nI g) (nI y) (em2 x G (fgP z r p a b (17 * g + y) d e) w) kk = d_X9_forget_110 FU x (nI r) (nI p) (nI (4 * r + p)) (nI g) 0 (em2 x G (fgP z r p a b (17 * (g + 1)) d e) w) kk := by
  intro n
  induction n with
  | zero => intro y _ h; omega
  | succ n ih =>
    intro y hy hlt
    rw [d_X9_forget_75.eq_2, show (17 : Int32) = nI 17 from rfl]
    by_cases hye : y = 17
    · subst hye
      rw [if_pos (nI_le (Nat.le_refl _) (by decide))]
      rfl
    · rw [if_neg (nI_ge (by omega) (by decide)), ← show (17 : Int32) = nI 17 from rfl]
      have e2 := ih (y + 1) (by omega) (by omega)
      have ei : 17 * (8 * (4 * r + p) + g) + y = 136 * (4 * r + p) + (17 * g + y) := by omega
      simp (disch := omega) only [e2_hc, e2_hr, e2_hl, ms0, ms1, ms2, ms3, ms4, ms5, ms6, ms7, ms21, hM.1, mc29 hM, ml29 hM, mr29 hM, lm4, lm8, lm10, lm16, lm17, lm26, lm40, lm400, nI_add, nI_1, ix_nI, nI_clamp, gd_T, gd_t, bd_e, bo_e, b2_e, true_and, and_true, mu29 hM]
      rw [ei, fg_s29 (by omega)]
      exact e2
theorem M_fg8 (hM : MS x G) (h1 : r < 10) (h2 : p < 4) : ∀ (n g : Nat), g ≤ 8 → 8 - g < n → d_X9_forget_52 n x (nI r) (nI p) (nI (4 * r + p)) (nI g) (em2 x G (fgP z r p a g (17 * g) (16 * g) (17 * g)) w) = some (em2 x G (fgP z r p a 8 136 128 136) w) := by
  intro n
  induction n with
  | zero => intro y _ h; omega
  | succ n ih =>
    intro g hg hlt
    rw [d_X9_forget_52.eq_2, show (8 : Int32) = nI 8 from rfl]
    by_cases hge : g = 8
    · subst hge
      rw [if_pos (nI_le (Nat.le_refl _) (by decide))]
    · rw [if_neg (nI_ge (by omega) (by decide)), ← show (8 : Int32) = nI 8 from rfl]
      have e2 := ih (g + 1) (by omega) (by omega)
      simp (disch := omega) only [e2_hc, e2_hr, e2_hl, ms0, ms1, ms2, ms3, ms4, ms5, ms6, ms7, ms21, hM.1, mc28 hM, ml28 hM, mr28 hM, lm4, lm8, lm10, lm16, lm17, lm26, lm40, lm400, nI_add, nI_1, ix_nI, nI_clamp, gd_T, gd_t, bd_e, bo_e, b2_e, true_and, and_true, mu28 hM]
      rw [fg_s28 (by omega)]
      have a1 := M_fg29 (kk := fun y0 y1 y2 y3 y4 Gy => d_X9_forget_52 n y0 y1 y2 y3 y4 Gy) (z := z) (w := w) (a := a) (b := g + 1) (d := 16 * g) (e := 17 * g) hM h1 h2 (show g < 8 by omega) FU 0 (Nat.zero_le _) (by show _ < 6000; omega)
      have a2 := M_fg30 (kk := fun y0 y1 y2 y3 y4 Gy => d_X9_forget_52 n y0 y1 y2 y3 y4 Gy) (z := z) (w := w) (a := a) (b := g + 1) (c := 17 * (g + 1)) (e := 17 * g) hM h1 h2 (show g < 8 by omega) FU 0 (Nat.zero_le _) (by show _ < 6000; omega)
      have a3 := M_fg33 (kk := fun y0 y1 y2 y3 y4 Gy => d_X9_forget_52 n y0 y1 y2 y3 y4 Gy) (z := z) (w := w) (p := p) (a := a) (b := g + 1) (c := 17 * (g + 1)) (d := 16 * (g + 1)) hM h1 (show g < 8 by omega) FU 0 (Nat.zero_le _) (by show _ < 6000; omega)
      rw [Nat.add_zero, nI_0] at a1 a2 a3
      rw [← e2]
      exact a1.trans (a2.trans a3)
theorem M_fg25 (hM : MS x G) (h1 : r < 10) (h2 : p < 4) : ∀ (n q : Nat), q ≤ 10 → 10 - q < n → d_X9_forget_23 n x (nI r) (nI p) (nI (4 * r + p)) (nI q) (em2 x G (fgP z r p q 0 0 0 0) w) = some (em2 x G (fgP z r p 10 8 136 128 136) w) := by
  intro n
  induction n with
  | zero => intro y _ h; omega
  | succ n ih =>
    intro q hq hlt
    rw [d_X9_forget_23.eq_2, show (10 : Int32) = nI 10 from rfl]
    by_cases hqe : q = 10
    · subst hqe
      rw [if_pos (nI_le (Nat.le_refl _) (by decide))]
      have e := M_fg8 (z := z) (w := w) (a := 10) hM h1 h2 FU 0 (Nat.zero_le _) (by show _ < 6000; omega)
      rw [nI_0] at e
      exact e
    · rw [if_neg (nI_ge (by omega) (by decide)), ← show (10 : Int32) = nI 10 from rfl]
      have e2 := ih (q + 1) (by omega) (by omega)
      simp (disch := omega) only [e2_hc, e2_hr, e2_hl, ms0, ms1, ms2, ms3, ms4, ms5, ms6, ms7, ms21, hM.1, mc25 hM, ml25 hM, mr25 hM, lm4, lm8, lm10, lm16, lm17, lm26, lm40, lm400, nI_add, nI_1, ix_nI, nI_clamp, gd_T, gd_t, bd_e, bo_e, b2_e, true_and, and_true, mu25 hM]
      rw [fg_s25 (by omega)]
      exact e2
theorem M_forget (hM : MS x G) (h1 : r < 10) (h2 : p < 4) : d_X9_forget x (nI r) (nI p) (em2 x G z w) = some (em2 x G (fgZ z r p) w) := by
  unfold d_X9_forget fgZ
  simp (disch := omega) only [e2_hc, e2_hr, e2_hl, ms0, ms1, ms2, ms3, ms4, ms5, ms6, ms7, ms21, hM.1, mc26 hM, ml26 hM, mr26 hM, mc27 hM, ml27 hM, mr27 hM, lm4, lm8, lm10, lm16, lm17, lm26, lm40, lm400, nI_add, nI_1, ix_nI, nI_clamp, gd_T, gd_t, bd_e, bo_e, b2_e, true_and, and_true, mu26 hM, mu27 hM]
  have e := M_fg25 (z := uA (uA z 26 (4 * r + p) (-1)) 27 (4 * r + p) (-1)) (w := w) hM h1 h2 FU 0 (Nat.zero_le _) (by show _ < 6000; omega)
  rw [fg_0, nI_0] at e
  exact e
end
theorem te_fg {z : Sg} {r p : Nat} : TE (fgZ z r p) z := by
  unfold fgZ
  refine ⟨⟨rfl, ?_, ?_, ?_⟩, rfl, ?_, ?_, ?_, ?_⟩
  all_goals rw [fg_ne (by decide), uA_ne (by decide), uA_ne (by decide)]
theorem GI_fg {z : Sg} {r p : Nat} (h : GI z) : GI (fgZ z r p) := by
  obtain ⟨⟨w, hcn, hj⟩, hf, hco, hnu⟩ := h
  have ek : ∀ k, k ≠ 25 ∧ k ≠ 28 ∧ k ≠ 29 ∧ k ≠ 30 ∧ k ≠ 31 ∧ k ≠ 33 ∧ k ≠ 34 ∧ k ≠ 26 ∧ k ≠ 27 → (fgZ z r p).2 k = z.2 k := by
    intro k hk
    unfold fgZ
    rw [fg_ne ⟨hk.1, hk.2.1, hk.2.2.1, hk.2.2.2.1, hk.2.2.2.2.1, hk.2.2.2.2.2.1, hk.2.2.2.2.2.2.1⟩, uA_ne hk.2.2.2.2.2.2.2.2, uA_ne hk.2.2.2.2.2.2.2.1]
  have e31 : (fgZ z r p).2 31 = fun i => if i / 128 = 4 * r + p ∧ i % 128 < 128 then -1 else z.2 31 i := by
    unfold fgZ
    rw [fg_31, uA_ne (by decide), uA_ne (by decide)]
  have e33 : (fgZ z r p).2 33 = fun i => if i / 136 = r ∧ i % 136 < 136 ∧ z.2 33 i = nI p then -1 else z.2 33 i := by
    unfold fgZ
    rw [fg_33, uA_ne (by decide), uA_ne (by decide)]
  have e34 : (fgZ z r p).2 34 = fun i => if i / 136 = r ∧ i % 136 < 136 ∧ z.2 33 i = nI p then -1 else z.2 34 i := by
    unfold fgZ
    rw [fg_34, uA_ne (by decide), uA_ne (by decide), uA_ne (by decide), uA_ne (by decide)]
  have en : nR (fgZ z r p) = nR z := rfl
  refine ⟨⟨?_, ?_, ?_⟩, FO_eq hf rfl (ek 16 (by decide)) (ek 18 (by decide)), ?_, hnu⟩
  · obtain ⟨w1, w2, w3, w4, w5, w6⟩ := w
    refine ⟨w1, w2, ?_, ?_, ?_, ?_⟩
    · rw [ek 11 (by decide)]; exact w3
    · rw [ek 12 (by decide)]; exact w4
    · rw [e31]
      intro i hi
      show (if i / 128 = 4 * r + p ∧ i % 128 < 128 then -1 else z.2 31 i) = -1 ∨ _
      by_cases hc : i / 128 = 4 * r + p ∧ i % 128 < 128
      · exact Or.inl (if_pos hc)
      · show _ ∨ ∃ a q, a < 100000 ∧ q < nR z ∧ (if i / 128 = 4 * r + p ∧ i % 128 < 128 then -1 else z.2 31 i) = nI (100 * a + q)
        rw [if_neg hc]
        exact w5 i hi
    · rw [ek 8 (by decide)]; exact w6
  · unfold cnt
    rw [ek 16 (by decide), ek 17 (by decide)]
    exact hcn
  · intro t ht
    rw [e33, e34, en]
    show ((if t / 136 = r ∧ t % 136 < 136 ∧ z.2 33 t = nI p then -1 else z.2 33 t) = -1 ∧ (if t / 136 = r ∧ t % 136 < 136 ∧ z.2 33 t = nI p then -1 else z.2 34 t) = -1) ∨ ∃ p' q, p' < 4 ∧ q < nR z ∧ (if t / 136 = r ∧ t % 136 < 136 ∧ z.2 33 t = nI p then -1 else z.2 33 t) = nI p' ∧ (if t / 136 = r ∧ t % 136 < 136 ∧ z.2 33 t = nI p then -1 else z.2 34 t) = nI q
    by_cases hc : t / 136 = r ∧ t % 136 < 136 ∧ z.2 33 t = nI p
    · rw [if_pos hc, if_pos hc]; exact Or.inl ⟨rfl, rfl⟩
    · rw [if_neg hc, if_neg hc]; exact hj t ht
  · exact CO_t0 te_fg.1 hco
/-- cut -/
def cuB (z : Sg) (v : Int32) : Bool := inR v 16 && decide (z.2 10 (tn v) = 0)
def cu1 (v : Int32) (z : Sg) (r : Nat) : Sg := cond (decide (pOn z r v ≠ -1)) (fgZ z r (tn (pOn z r v))) z
def cuZ (z : Sg) (v : Int32) : Sg := fo (fun z r => cu1 v z r) (uA (uA z 10 (tn v) 1) 16 (tn v) 0) (nR z)
theorem te_cu1 {v : Int32} {z : Sg} {r : Nat} : TE (cu1 v z r) z := te_c te_fg te_rf
theorem GI_c {b : Bool} {y z : Sg} (h1 : GI y) (h2 : GI z) : GI (cond b y z) := by cases b; exact h2; exact h1
theorem fo_GI {f : Sg → Nat → Sg} {z : Sg} {N : Nat} (hf : ∀ y i, GI y → TE y z → i < N → GI (f y i) ∧ TE (f y i) y) (h : GI z) : ∀ n, n ≤ N → GI (fo f z n) ∧ TE (fo f z n) z := by
  intro n
  induction n with
  | zero => intro _; exact ⟨h, te_rf⟩
  | succ n ih =>
    intro hn
    obtain ⟨a, b⟩ := ih (by omega)
    obtain ⟨c, d⟩ := hf _ n a b (by omega)
    exact ⟨c, te_tr d b⟩
theorem GI_cu0 {z : Sg} {v : Nat} (h : GI z) (hv : v < 16) : GI (uA (uA z 10 v 1) 16 v 0) := by
  obtain ⟨⟨w, hcn, hj⟩, hf, hco, hnu⟩ := h
  refine ⟨⟨WF_eq w rfl rfl ?_ ?_ ?_ ?_, ?_, ?_⟩, ?_, ?_, hnu⟩
  · rw [uA_ne (by decide), uA_ne (by decide)]
  · rw [uA_ne (by decide), uA_ne (by decide)]
  · rw [uA_ne (by decide), uA_ne (by decide)]
  · rw [uA_ne (by decide), uA_ne (by decide)]
  · intro n hn
    obtain ⟨m, c, b1, b2, b3, b4⟩ := hcn n hn
    rw [uA_get, uA_ne (by decide), uA_ne (by decide), uA_ne (by decide)]
    by_cases hx : n = v
    · rw [if_pos hx]; exact ⟨0, c, Nat.zero_le _, b2, rfl, b4⟩
    · rw [if_neg hx]; exact ⟨m, c, b1, b2, b3, b4⟩
  · intro t ht
    rw [uA_ne (by decide), uA_ne (by decide), uA_ne (by decide), uA_ne (by decide)]
    exact hj t ht
  · intro u i hu hi
    unfold mN at hi
    rw [uA_get, uA_ne (by decide)] at hi
    rw [uA_ne (by decide), uA_ne (by decide)]
    by_cases hx : u = v
    · rw [if_pos hx] at hi; exact absurd hi (Nat.not_lt_zero _)
    · rw [if_neg hx] at hi; exact hf u i hu hi
  · intro j hj2
    rw [uA_ne (by decide), uA_ne (by decide), uA_ne (by decide), uA_ne (by decide)]
    exact hco j hj2
theorem cu_st {z : Sg} {v : Int32} (h : GI z) : ∀ n, n ≤ nR z → GI (fo (fun z r => cu1 v z r) z n) ∧ TE (fo (fun z r => cu1 v z r) z n) z := fo_GI (fun y i hy _ _ => ⟨GI_c (GI_fg hy) hy, te_cu1⟩) h
theorem GI_cu {z : Sg} {v : Int32} (h : GI z) (hb : cuB z v = true) : GI (cuZ z v) := by
  unfold cuB at hb
  rw [Bool.and_eq_true] at hb
  obtain ⟨k, hk, rfl⟩ := inR_t (by decide) hb.1
  unfold cuZ tn
  rw [nI_clamp (by omega)]
  exact (cu_st (GI_cu0 h hk) (nR z) (Nat.le_refl _)).1
section
variable {x : Nat} {G : Hp} {z w : Sg} {v : Int32}
theorem M_cu39 (hM : MS x G) (hI : GI z) : ∀ (n r : Nat), r ≤ nR z → nR z - r < n → d_X9_cut_39 n x v (nI r) (em2 x G (fo (fun z r => cu1 v z r) z r) w) = some (1, em2 x G (fo (fun z r => cu1 v z r) z (nR z)) w) := by
  have hn := hI.1.1.1
  intro n
  induction n with
  | zero => intro r _ h; omega
  | succ n ih =>
    intro r hr hlt
    obtain ⟨hOs, ts⟩ := cu_st (v := v) hI r hr
    rw [d_X9_cut_39.eq_2, e2_hc, gd_t hM.1, ms1, ts.1.1, hn.2.2]
    by_cases hre : r = nR z
    · subst hre
      rw [if_pos (nI_le (Nat.le_refl _) (by omega))]
    · rw [if_neg (nI_ge (by omega) (by omega)), M_portOn hM (by omega), bo_e, nI_1]
      have e2 := ih (r + 1) (by omega) (by omega)
      rw [fo_s] at e2
      generalize fo (fun z r => cu1 v z r) z r = y at hOs ts e2 ⊢
      rw [← e2]
      unfold cu1 tn
      rcases pOn_ok y r v with e | ⟨p, hp, e⟩
      · rw [if_pos e, decide_eq_false (fun q => q e), cond_false]
      · have e' : ¬ pOn y r v = -1 := by rw [e]; exact nI_m1 (by omega)
        rw [if_neg e', decide_eq_true e', cond_true, e, nI_clamp (by omega), M_forget hM (by omega) hp, bo_e]
theorem M_cut (hM : MS x G) (hI : GI z) : d_X9_cut x v (em2 x G z w) = some (bI (cuB z v), cond (cuB z v) (em2 x G (cuZ z v) (uS w 21 1)) (em2 x G z w)) := by
  unfold d_X9_cut cuB cuZ tn
  rw [M_isWire, bo_e, ite_bI]
  cases hh : inR v 16 with
  | false => rfl
  | true =>
    obtain ⟨k, hk, rfl⟩ := inR_t (by omega) hh
    have hn := hI.1.1.1
    rw [cond_true, Bool.true_and]
    simp (disch := omega) only [e2_hc, e2_hr, e2_hl, ms0, ms1, ms2, ms3, ms4, ms5, ms6, ms7, ms21, hM.1, mc10 hM, ml10 hM, mr10 hM, mc16 hM, ml16 hM, mr16 hM, lm4, lm8, lm10, lm16, lm17, lm26, lm40, lm400, nI_add, nI_1, ix_nI, nI_clamp, gd_T, gd_t, bd_e, bo_e, b2_e, true_and, and_true, mu10 hM, mu16 hM, mw21]
    by_cases h3 : z.2 10 k = 0
    · rw [if_pos h3, decide_eq_true h3]
      have e := M_cu39 (z := uA (uA z 10 k 1) 16 k 0) (w := uS w 21 1) (v := nI k) hM (GI_cu0 hI hk) FU 0 (Nat.zero_le _) (by show nR z - 0 < 6000; omega)
      rw [fo_0, nI_0] at e
      exact e
    · rw [if_neg h3, decide_eq_false h3]; rfl
end
