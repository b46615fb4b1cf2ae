/-! THE CLASS'S WAYS: the distances, on -/
def dR (z : Sg) (n y r t k : Nat) : Nat := if k % 26 < n then (if k / 26 < n then (if k / 26 < r ∨ (k / 26 = r ∧ k % 26 < t) then fwK (m0 z) (y + 1) (k / 26) (k % 26) else fwK (m0 z) y (k / 26) (k % 26)) else 9999) else 9999
section
variable {L : Ly} {G : Hp} {n : Nat} {V : Vt} {Q : Qt} {z : Sg} {r p b t k y w : Nat}
theorem C_ms12 {f : Nat → Int32} {k2 : Nat → Nat → Int32 → Hp → Option Hp} (hL : LY L G n Q) (hB : WB n V z) (hF : WF z) (hc : CO z) (hr : r < n) : ∀ (N p : Nat), p ≤ 4 → 4 - p < N → d_X6_measureSteps_12 N (L.1 2 0 0) (L.1 4 0 0) (nI r) (nI p) (eK L G (uR V 3 0 2 (pd f n (fun k => dS z n r p 0 k))) (RF n L Q)) k2 = k2 (L.1 2 0 0) (L.1 4 0 0) (nI (r + 1)) (eK L G (uR V 3 0 2 (pd f n (fun k => dS z n (r + 1) 0 0 k))) (RF n L Q)) := by
  have hB' := hB
  obtain ⟨⟨hn1, hn, hnr⟩, e20, e5, e6, e3⟩ := hB
  intro N
  induction N with
  | zero => intro p _ h; omega
  | succ N ih =>
    intro p hp hlt
    rw [d_X6_measureSteps_12.eq_2, show (4 : Int32) = nI 4 from rfl]
    by_cases hpe : p = 4
    · subst hpe
      rw [if_pos (nI_le (by omega) (by decide))]
      simp (disch := first | omega | assumption) only [eK_hc, eK_hl, yK2 hL, iK2 hL, rK2_1 hL, rK2_2 hL, rK2_3 hL, rK2_4 hL, rK2_5 hL, yK3_2 hL, iK3_2 hL, lK3_2 hL, wK3_2 hL, rm26, lm4, lm8, lm10, lm16, lm17, lm26, lm40, lm400, nI_add, nI_1, ix_nI, nI_clamp, gd_T, gd_t, bd_e, bo_e, b2_e, true_and, and_true, uR_s, uR_uR, pd_up0]
      rw [dS_r hr hn]
    · have hp4 : p < 4 := by omega
      rw [if_neg (nI_ge hp4 (by decide)), show nI 4 = (4 : Int32) from rfl]
      simp (disch := first | omega | assumption) only [eK_hc, eK_hl, yK2 hL, iK2 hL, rK2_1 hL, rK2_2 hL, rK2_3 hL, rK2_4 hL, rK2_5 hL, yK3_0 hL, iK3_0 hL, lK3_0 hL, rm4, lm4, lm8, lm10, lm16, lm17, lm26, lm40, lm400, nI_add, nI_1, ix_nI, nI_clamp, gd_T, gd_t, bd_e, bo_e, b2_e, true_and, and_true, uR_nej, (e3 (4 * r + p) (by omega)).1]
      have e32 := C_ms32 (f := f) (k12 := fun y0 y1 y2 y3 Gy => d_X6_measureSteps_12 N y0 y1 y2 y3 Gy k2) hL hB' hF hc hr hp4 FU 0 (by omega) (by show _ < 6000; omega)
      rw [nI_0] at e32
      rw [e32]
      exact ih (p + 1) (by omega) (by omega)
theorem C_ms2 {f : Nat → Int32} (hL : LY L G n Q) (hB : WB n V z) (hF : WF z) (hc : CO z) : ∀ (N r : Nat), r ≤ n → n - r < N → d_X6_measureSteps_2 N (L.1 2 0 0) (L.1 4 0 0) (nI r) (eK L G (uR V 3 0 2 (pd f n (fun k => dS z n r 0 0 k))) (RF n L Q)) = some (eK L G (uR V 3 0 2 (pd f n (fun k => dS z n n 0 0 k))) (RF n L Q)) := by
  have hB' := hB
  obtain ⟨⟨hn1, hn, hnr⟩, e20, e5, e6, e3⟩ := hB
  intro N
  induction N with
  | zero => intro r _ h; omega
  | succ N ih =>
    intro r hr hlt
    rw [d_X6_measureSteps_2.eq_2, eK_hc, gd_t (yK2 hL), iK2 hL, uR_ne (show 2 ≠ 3 by decide), e20]
    by_cases he : r = n
    · subst he
      rw [if_pos (nI_le (by omega) (by omega))]
    · have hrn : r < n := by omega
      have e12 := C_ms12 (f := f) (k2 := fun y0 y1 y2 Gy => d_X6_measureSteps_2 N y0 y1 y2 Gy) hL hB' hF hc hrn FU 0 (by omega) (by show _ < 6000; omega)
      rw [nI_0] at e12
      rw [if_neg (nI_ge hrn (by omega)), e12]
      exact ih (r + 1) (by omega) (by omega)
theorem dS_dR (hn1 : 1 ≤ n) : (fun k => dS z n n 0 0 k) = fun k => dR z n 0 0 0 k := by
  funext k
  unfold dS dR
  by_cases h1 : k % 26 < n
  · rw [if_pos h1, if_pos h1]
    by_cases h2 : k / 26 < n
    · rw [if_pos h2, if_pos h2, if_neg (by omega)]
      rfl
    · rw [if_neg h2, if_neg h2]
      split
      · rfl
      · rfl
  · rw [if_neg h1, if_neg h1]
/-- what Floyd and Warshall keep -/
def fwH (z : Sg) (n : Nat) : Prop := n ≤ 10 ∧ 1 ≤ n ∧ ∀ y, y ≤ n → (∀ r, r < n → fwK (m0 z) y r r = 0) ∧ ∀ r t, r < n → t < n → fwK (m0 z) y r t ≤ 9999
theorem fwH_ok (hc : CO z) (hnr : nR z = n) (hn : n ≤ 10) (hn1 : 1 ≤ n) : fwH z n := by
  refine ⟨hn, hn1, fun y hy => ?_⟩
  have h := FWI_N (m0_ok hc (by rw [hnr]; exact hn)) (by rw [hnr]; exact hn) y (by rw [hnr]; exact hy)
  rw [hnr] at h
  exact ⟨h.1, fun r t hr ht => (h.2.1 r t hr ht).1⟩
theorem dR_le (hH : fwH z n) (hy : y < n) : dR z n y r t k ≤ 9999 := by
  unfold dR
  split
  · split
    · split
      · exact (hH.2.2 (y + 1) (by omega)).2 _ _ ‹_› ‹_›
      · exact (hH.2.2 y (by omega)).2 _ _ ‹_› ‹_›
    · omega
  · omega
theorem fw_s (r t : Nat) : fwK (m0 z) (y + 1) r t = min (fwK (m0 z) y r t) (fwK (m0 z) y r y + fwK (m0 z) y y t) := rfl
theorem dR_by (hH : fwH z n) (hy : y < n) (ht : t < n) {r' t' : Nat} : dR z n y r' t' (26 * y + t) = fwK (m0 z) y y t := by
  have hn := hH.1
  unfold dR
  rw [show (26 * y + t) % 26 = t by omega, show (26 * y + t) / 26 = y by omega, if_pos ht, if_pos hy]
  split
  · rw [fw_s, (hH.2.2 y (by omega)).1 y hy, Nat.zero_add, Nat.min_self]
  · rfl
theorem dR_t (hH : fwH z n) (hy : y < n) (hr : r < n) (ht : t < n) : (fun k => dR z n y r (t + 1) k) = va_up (fun k => dR z n y r t k) (26 * r + t) (min (dR z n y r t (26 * r + t)) (fwK (m0 z) y r y + dR z n y r t (26 * y + t))) := by
  have hn := hH.1
  funext k
  rw [vu_a]
  by_cases hk : k = 26 * r + t
  · rw [if_pos hk, hk, dR_by hH hy ht]
    unfold dR
    rw [show (26 * r + t) % 26 = t by omega, show (26 * r + t) / 26 = r by omega, if_pos ht, if_pos hr, if_pos (Or.inr ⟨rfl, by omega⟩), if_pos ht, if_pos hr, if_neg (by omega), fw_s]
  · rw [if_neg hk]
    unfold dR
    by_cases h1 : k % 26 < n
    · rw [if_pos h1, if_pos h1]
      by_cases h2 : k / 26 < n
      · rw [if_pos h2, if_pos h2]
        by_cases h3 : k / 26 < r ∨ (k / 26 = r ∧ k % 26 < t)
        · rw [if_pos h3, if_pos (by omega)]
        · rw [if_neg h3, if_neg (by omega)]
      · rw [if_neg h2, if_neg h2]
    · rw [if_neg h1, if_neg h1]
theorem dR_skip (hH : fwH z n) (hy : y < n) (hr : r < n) (h : 9999 ≤ fwK (m0 z) y r y) : (fun k => dR z n y r t k) = fun k => dR z n y (r + 1) 0 k := by
  funext k
  unfold dR
  by_cases h1 : k % 26 < n
  · rw [if_pos h1, if_pos h1]
    by_cases h2 : k / 26 < n
    · rw [if_pos h2, if_pos h2]
      by_cases h3 : k / 26 = r
      · have e : fwK (m0 z) (y + 1) (k / 26) (k % 26) = fwK (m0 z) y (k / 26) (k % 26) := by
          rw [fw_s, h3]
          have := (hH.2.2 y (by omega)).2 r (k % 26) hr h1
          omega
        rw [e]
        split <;> split <;> rfl
      · by_cases h4 : k / 26 < r
        · rw [if_pos (Or.inl h4), if_pos (Or.inl (by omega))]
        · rw [if_neg (by omega), if_neg (by omega)]
    · rw [if_neg h2, if_neg h2]
  · rw [if_neg h1, if_neg h1]
theorem dR_r (hH : fwH z n) : (fun k => dR z n y r n k) = fun k => dR z n y (r + 1) 0 k := by
  funext k
  unfold dR
  by_cases h1 : k % 26 < n
  · rw [if_pos h1, if_pos h1]
    by_cases h2 : k / 26 < n
    · rw [if_pos h2, if_pos h2]
      by_cases h3 : k / 26 < r ∨ (k / 26 = r ∧ k % 26 < n)
      · rw [if_pos h3, if_pos (by omega)]
      · rw [if_neg h3, if_neg (by omega)]
    · rw [if_neg h2, if_neg h2]
  · rw [if_neg h1, if_neg h1]
theorem dR_y : (fun k => dR z n y n 0 k) = fun k => dR z n (y + 1) 0 0 k := by
  funext k
  unfold dR
  by_cases h1 : k % 26 < n
  · rw [if_pos h1, if_pos h1]
    by_cases h2 : k / 26 < n
    · rw [if_pos h2, if_pos h2, if_pos (Or.inl h2), if_neg (by omega)]
    · rw [if_neg h2, if_neg h2]
  · rw [if_neg h1, if_neg h1]
theorem C_mr35 {f : Nat → Int32} {k12 : Nat → Int32 → Int32 → Hp → Option Hp} (hL : LY L G n Q) (hB : WB n V z) (hH : fwH z n) (hy : y < n) (hr : r < n) : ∀ (N t : Nat), t ≤ n → n - t < N → d_X6_measureRouters_35 N (L.1 2 0 0) (nI y) (nI r) (nI (fwK (m0 z) y r y)) (nI t) (eK L G (uR V 3 0 2 (pd f n (fun k => dR z n y r t k))) (RF n L Q)) k12 = k12 (L.1 2 0 0) (nI y) (nI (r + 1)) (eK L G (uR V 3 0 2 (pd f n (fun k => dR z n y (r + 1) 0 k))) (RF n L Q)) := by
  obtain ⟨⟨hn1, hn, hnr⟩, e20, e5, e6, e3⟩ := hB
  have hth := (hH.2.2 y (by omega)).2 r y hr hy
  intro N
  induction N with
  | zero => intro t _ h; omega
  | succ N ih =>
    intro t ht hlt
    rw [d_X6_measureRouters_35.eq_2, eK_hc, gd_t (yK2 hL), iK2 hL, uR_ne (show 2 ≠ 3 by decide), e20]
    by_cases hte : t = n
    · subst hte
      rw [if_pos (nI_le (by omega) (by omega)), nI_1, (dR_r hH)]
    · have htn : t < n := by omega
      rw [if_neg (nI_ge htn (by omega)), show (9999 : Int32) = nI 9999 from rfl]
      by_cases h9 : 9999 ≤ fwK (m0 z) y r y
      · rw [if_pos (nI_le h9 (by omega)), nI_1, (dR_skip hH hy hr h9)]
      · rw [if_neg (nI_ge (by omega) (by decide))]
        have l1 : dR z n y r t (26 * y + t) ≤ 9999 := dR_le hH hy
        have l2 : dR z n y r t (26 * r + t) ≤ 9999 := dR_le hH hy
        simp (disch := first | omega | assumption) only [eK_hc, eK_hl, yK2 hL, iK2 hL, rK2_1 hL, rK2_2 hL, rK2_3 hL, rK2_4 hL, rK2_5 hL, yK3_2 hL, iK3_2 hL, lK3_2 hL, wK3_2 hL, rm26, lm4, lm8, lm10, lm16, lm17, lm26, lm40, lm400, nI_add, nI_1, ix_nI, nI_clamp, gd_T, gd_t, bd_e, bo_e, b2_e, true_and, and_true, uR_s, uR_uR, pd_at, pd_up, imin_n (show dR z n y r t (26 * r + t) < 2 ^ 31 by omega) (show fwK (m0 z) y r y + dR z n y r t (26 * y + t) < 2 ^ 31 by omega)]
        rw [← (dR_t hH hy hr htn)]
        exact ih (t + 1) (by omega) (by omega)
theorem C_mr12 {f : Nat → Int32} {k2 : Nat → Int32 → Hp → Option Hp} (hL : LY L G n Q) (hB : WB n V z) (hH : fwH z n) (hy : y < n) : ∀ (N r : Nat), r ≤ n → n - r < N → d_X6_measureRouters_12 N (L.1 2 0 0) (nI y) (nI r) (eK L G (uR V 3 0 2 (pd f n (fun k => dR z n y r 0 k))) (RF n L Q)) k2 = k2 (L.1 2 0 0) (nI (y + 1)) (eK L G (uR V 3 0 2 (pd f n (fun k => dR z n (y + 1) 0 0 k))) (RF n L Q)) := by
  have hB' := hB
  obtain ⟨⟨hn1, hn, hnr⟩, e20, e5, e6, e3⟩ := hB
  intro N
  induction N with
  | zero => intro r _ h; omega
  | succ N ih =>
    intro r hr hlt
    rw [d_X6_measureRouters_12.eq_2, eK_hc, gd_t (yK2 hL), iK2 hL, uR_ne (show 2 ≠ 3 by decide), e20]
    by_cases he : r = n
    · subst he
      rw [if_pos (nI_le (by omega) (by omega)), nI_1, dR_y]
    · have hrn : r < n := by omega
      rw [if_neg (nI_ge hrn (by omega))]
      have et : dR z n y r 0 (26 * r + y) = fwK (m0 z) y r y := by
        unfold dR
        rw [show (26 * r + y) % 26 = y by omega, show (26 * r + y) / 26 = r by omega, if_pos hy, if_pos hrn, if_neg (by omega)]
      simp (disch := first | omega | assumption) only [eK_hc, eK_hl, yK2 hL, iK2 hL, rK2_1 hL, rK2_2 hL, rK2_3 hL, rK2_4 hL, rK2_5 hL, yK3_2 hL, iK3_2 hL, lK3_2 hL, rm26, lm4, lm8, lm10, lm16, lm17, lm26, lm40, lm400, nI_add, nI_1, ix_nI, nI_clamp, gd_T, gd_t, bd_e, bo_e, b2_e, true_and, and_true, uR_s, pd_at, et]
      have e35 := C_mr35 (f := f) (k12 := fun y0 y1 y2 Gy => d_X6_measureRouters_12 N y0 y1 y2 Gy k2) hL hB' hH hy hrn FU 0 (by omega) (by show _ < 6000; omega)
      rw [nI_0] at e35
      rw [e35]
      exact ih (r + 1) (by omega) (by omega)
theorem C_mr2 {f : Nat → Int32} (hL : LY L G n Q) (hB : WB n V z) (hH : fwH z n) : ∀ (N y : Nat), y ≤ n → n - y < N → d_X6_measureRouters_2 N (L.1 2 0 0) (nI y) (eK L G (uR V 3 0 2 (pd f n (fun k => dR z n y 0 0 k))) (RF n L Q)) = some (eK L G (uR V 3 0 2 (pd f n (fun k => dR z n n 0 0 k))) (RF n L Q)) := by
  have hB' := hB
  obtain ⟨⟨hn1, hn, hnr⟩, e20, e5, e6, e3⟩ := hB
  intro N
  induction N with
  | zero => intro y _ h; omega
  | succ N ih =>
    intro y hy hlt
    rw [d_X6_measureRouters_2.eq_2, eK_hc, gd_t (yK2 hL), iK2 hL, uR_ne (show 2 ≠ 3 by decide), e20]
    by_cases he : y = n
    · subst he
      rw [if_pos (nI_le (by omega) (by omega))]
    · have hyn : y < n := by omega
      have e12 := C_mr12 (f := f) (k2 := fun y0 y1 Gy => d_X6_measureRouters_2 N y0 y1 Gy) hL hB' hH hyn FU 0 (by omega) (by show _ < 6000; omega)
      rw [nI_0] at e12
      rw [if_neg (nI_ge hyn (by omega)), e12]
      exact ih (y + 1) (by omega) (by omega)
end
