/-! THE CLASS'S WAYS: distances to wires -/
def dM (z : Sg) (n w b r k : Nat) : Nat := if k / 26 < n then (if k % 26 < 10 then (if k % 26 < n then fwZ z (k / 26) (k % 26) else 9999) else if k % 26 - 10 < w then mnB (fun b => atB z b (k % 26)) (fwZ z (k / 26)) n else if k % 26 - 10 = w then mnB (fun b => atB z b (k % 26)) (fwZ z (k / 26)) (if k / 26 < r then b + 1 else b) else 9999) else 9999
section
variable {L : Ly} {G : Hp} {n : Nat} {V : Vt} {Q : Qt} {z : Sg} {r p b t k y w : Nat}
theorem a10 (a : Nat) : nI a + (10 : Int32) = nI (a + 10) := nI_add a 10
theorem dR_dM (hnr : nR z = n) (hn : n ≤ 10) : (fun k => dR z n n 0 0 k) = fun k => dM z n 0 0 0 k := by
  funext k
  unfold dR dM fwZ
  rw [hnr]
  by_cases h2 : k / 26 < n
  · rw [if_pos h2]
    by_cases h1 : k % 26 < n
    · rw [if_pos h1, if_pos h1, if_neg (by omega), if_pos (show k % 26 < 10 by omega), if_pos h2]
    · by_cases h3 : k % 26 < 10
      · simp only [if_neg h1, if_pos h3, if_pos h2]
      · simp only [if_neg h1, if_neg h3, if_pos h2]
        rw [if_neg (show ¬ k % 26 - 10 < 0 by omega), if_neg (show ¬ k / 26 < 0 by omega)]
        split <;> rfl
  · rw [if_neg h2, if_neg h2]
    split <;> rfl
theorem fwZ_le (hH : fwH z n) (hnr : nR z = n) (hr : r < n) (ht : t < n) : fwZ z r t ≤ 9999 := by
  unfold fwZ
  rw [hnr]
  exact (hH.2.2 n (Nat.le_refl n)).2 r t hr ht
theorem dM_le (hH : fwH z n) (hnr : nR z = n) : dM z n w b r k ≤ 9999 := by
  unfold dM
  split
  · split
    · split
      · exact fwZ_le hH hnr ‹_› ‹_›
      · omega
    · split
      · exact (mnB_le _).1
      · split
        · exact (mnB_le _).1
        · omega
  · omega
theorem dM_d (hn : n ≤ 10) (hr : r < n) (hb : b < n) {r' : Nat} : dM z n w b r' (26 * r + b) = fwZ z r b := by
  unfold dM
  rw [show (26 * r + b) % 26 = b by omega, show (26 * r + b) / 26 = r by omega, if_pos hr, if_pos (by omega), if_pos hb]
theorem dM_r (hn : n ≤ 10) (hr : r < n) (hb : b < n) (hw : w < 16) (hat : atB z b (10 + w) = true) : (fun k => dM z n w b (r + 1) k) = va_up (fun k => dM z n w b r k) (26 * r + 10 + w) (min (dM z n w b r (26 * r + 10 + w)) (dM z n w b r (26 * r + b))) := by
  funext k
  rw [vu_a]
  by_cases hk : k = 26 * r + 10 + w
  · rw [if_pos hk, hk, dM_d hn hr hb]
    unfold dM
    rw [show (26 * r + 10 + w) % 26 = 10 + w by omega, show (26 * r + 10 + w) / 26 = r by omega, if_pos hr, if_pos hr, if_neg (show ¬ 10 + w < 10 by omega), if_neg (show ¬ 10 + w < 10 by omega), if_neg (show ¬ 10 + w - 10 < w by omega), if_neg (show ¬ 10 + w - 10 < w by omega), if_pos (show 10 + w - 10 = w by omega), if_pos (show 10 + w - 10 = w by omega), if_pos (show r < r + 1 by omega), if_neg (show ¬ r < r by omega)]
    show (if atB z b (10 + w) = true then min (mnB (fun b => atB z b (10 + w)) (fwZ z r) b) (fwZ z r b) else mnB (fun b => atB z b (10 + w)) (fwZ z r) b) = _
    rw [if_pos hat]
  · rw [if_neg hk]
    unfold dM
    by_cases h1 : k / 26 < n
    · rw [if_pos h1, if_pos h1]
      by_cases h2 : k % 26 < 10
      · rw [if_pos h2, if_pos h2]
      · rw [if_neg h2, if_neg h2]
        by_cases h3 : k % 26 - 10 < w
        · rw [if_pos h3, if_pos h3]
        · rw [if_neg h3, if_neg h3]
          by_cases h4 : k % 26 - 10 = w
          · rw [if_pos h4, if_pos h4]
            by_cases h5 : k / 26 < r
            · rw [if_pos h5, if_pos (by omega)]
            · rw [if_neg h5, if_neg (by omega)]
          · rw [if_neg h4, if_neg h4]
    · rw [if_neg h1, if_neg h1]
theorem dM_b : (fun k => dM z n w b n k) = fun k => dM z n w (b + 1) 0 k := by
  funext k
  unfold dM
  by_cases h1 : k / 26 < n
  · rw [if_pos h1, if_pos h1, if_pos h1, if_neg (show ¬ k / 26 < 0 by omega)]
  · rw [if_neg h1, if_neg h1]
theorem dM_no (hat : atB z b (10 + w) = false) : (fun k => dM z n w b 0 k) = fun k => dM z n w (b + 1) 0 k := by
  funext k
  unfold dM
  by_cases h1 : k / 26 < n
  · rw [if_pos h1, if_pos h1]
    by_cases h2 : k % 26 < 10
    · rw [if_pos h2, if_pos h2]
    · rw [if_neg h2, if_neg h2]
      by_cases h3 : k % 26 - 10 < w
      · rw [if_pos h3, if_pos h3]
      · rw [if_neg h3, if_neg h3]
        by_cases h4 : k % 26 - 10 = w
        · rw [if_pos h4, if_pos h4, if_neg (show ¬ k / 26 < 0 by omega), if_neg (show ¬ k / 26 < 0 by omega)]
          have e : k % 26 = 10 + w := by omega
          rw [e]
          show _ = if atB z b (10 + w) = true then _ else _
          rw [hat, if_neg (by decide)]
        · rw [if_neg h4, if_neg h4]
  · rw [if_neg h1, if_neg h1]
theorem dM_w : (fun k => dM z n w n 0 k) = fun k => dM z n (w + 1) 0 0 k := by
  funext k
  unfold dM
  by_cases h1 : k / 26 < n
  · rw [if_pos h1, if_pos h1]
    by_cases h2 : k % 26 < 10
    · rw [if_pos h2, if_pos h2]
    · rw [if_neg h2, if_neg h2]
      by_cases h3 : k % 26 - 10 < w
      · rw [if_pos h3, if_pos (by omega)]
      · rw [if_neg h3]
        by_cases h4 : k % 26 - 10 = w
        · rw [if_pos h4, if_neg (show ¬ k / 26 < 0 by omega), if_pos (by omega)]
        · rw [if_neg h4, if_neg (by omega)]
          by_cases h5 : k % 26 - 10 = w + 1
          · rw [if_pos h5, if_neg (show ¬ k / 26 < 0 by omega)]
            rfl
          · rw [if_neg h5]
  · rw [if_neg h1, if_neg h1]
theorem mnB_f {B : Nat → Bool} {f : Nat → Nat} (h : ∀ b, B b = false) : ∀ m, mnB B f m = 9999 := by
  intro m
  induction m with
  | zero => rfl
  | succ m ih =>
    show (if B m = true then _ else mnB B f m) = 9999
    rw [h m, if_neg (by decide), ih]
theorem dM_down (hat : ∀ b, atB z b (10 + w) = false) : (fun k => dM z n w b 0 k) = fun k => dM z n (w + 1) 0 0 k := by
  rw [← dM_w]
  funext k
  unfold dM
  by_cases h1 : k / 26 < n
  · rw [if_pos h1, if_pos h1]
    by_cases h2 : k % 26 < 10
    · rw [if_pos h2, if_pos h2]
    · rw [if_neg h2, if_neg h2]
      by_cases h3 : k % 26 - 10 < w
      · rw [if_pos h3, if_pos h3]
      · rw [if_neg h3, if_neg h3]
        by_cases h4 : k % 26 - 10 = w
        · rw [if_pos h4, if_pos h4]
          have e : k % 26 = 10 + w := by omega
          rw [e, mnB_f hat, mnB_f hat]
        · rw [if_neg h4, if_neg h4]
  · rw [if_neg h1, if_neg h1]
theorem dM_dF (hnr : nR z = n) (hr : r < n) (ht : t < 26) : dM z n 16 0 0 (26 * r + t) = dF z r t := by
  unfold dM dF
  rw [show (26 * r + t) % 26 = t by omega, show (26 * r + t) / 26 = r by omega, if_pos hr, hnr]
  by_cases h : t < 10
  · rw [if_pos h, if_pos h]
  · rw [if_neg h, if_neg h, if_pos (by omega)]
theorem atB_w (hb : b < n) : atB z b (10 + w) = (decide (z.2 10 w = 0) && decide (pOn z b (nI w) ≠ -1)) := by
  unfold atB
  by_cases h1 : z.2 10 w = 0
  · by_cases h2 : pOn z b (nI w) = -1
    · rw [decide_eq_true h1, decide_eq_false (not_not_intro h2), decide_eq_false]
      · rfl
      · intro q
        rcases q with q | q
        · omega
        · rw [show 10 + w - 10 = w by omega] at q
          exact q.2.2 h2
    · rw [decide_eq_true h1, decide_eq_true h2, decide_eq_true]
      · rfl
      · right
        rw [show 10 + w - 10 = w by omega]
        exact ⟨by omega, h1, h2⟩
  · rw [decide_eq_false h1, decide_eq_false, Bool.false_and]
    intro q
    rcases q with q | q
    · omega
    · rw [show 10 + w - 10 = w by omega] at q
      exact h1 q.2.1
theorem C_mw45 {f : Nat → Int32} {k10 : Nat → Nat → Int32 → Int32 → Hp → Option Hp} (hL : LY L G n Q) (hB : WB n V z) (hH : fwH z n) (hw : w < 16) (hb : b < n) (hat : atB z b (10 + w) = true) : ∀ (N r : Nat), r ≤ n → n - r < N → d_X6_measureWires_45 N (L.1 2 0 0) (L.1 4 0 0) (nI w) (nI b) (nI r) (eK L G (uR V 3 0 2 (pd f n (fun k => dM z n w b r k))) (RF n L Q)) k10 = k10 (L.1 2 0 0) (L.1 4 0 0) (nI w) (nI (b + 1)) (eK L G (uR V 3 0 2 (pd f n (fun k => dM z n w (b + 1) 0 k))) (RF n L Q)) := by
  obtain ⟨⟨hn1, hn, hnr⟩, e20, e5, e6, e3⟩ := hB
  intro N
  induction N with
  | zero => intro r _ h; omega
  | succ N ih =>
    intro r hr hlt
    rw [d_X6_measureWires_45.eq_2, eK_hc, gd_t (yK2 hL), iK2 hL, uR_ne (show 2 ≠ 3 by decide), e20]
    by_cases he : r = n
    · subst he
      rw [if_pos (nI_le (by omega) (by omega)), nI_1, dM_b]
    · have hrn : r < n := by omega
      have l1 : dM z n w b r (26 * r + 10 + w) ≤ 9999 := dM_le hH hnr
      have l2 : dM z n w b r (26 * r + b) ≤ 9999 := dM_le hH hnr
      rw [if_neg (nI_ge hrn (by omega))]
      simp (disch := first | omega | assumption) only [eK_hc, eK_hl, yK2 hL, iK2 hL, rK2_1 hL, rK2_2 hL, rK2_3 hL, rK2_4 hL, rK2_5 hL, yK3_2 hL, iK3_2 hL, lK3_2 hL, wK3_2 hL, rm26, a10, lm4, lm8, lm10, lm16, lm17, lm26, lm40, lm400, nI_add, nI_1, ix_nI, nI_clamp, gd_T, gd_t, bd_e, bo_e, b2_e, true_and, and_true, uR_s, uR_uR, pd_at, pd_up, imin_n (show dM z n w b r (26 * r + 10 + w) < 2 ^ 31 by omega) (show dM z n w b r (26 * r + b) < 2 ^ 31 by omega)]
      rw [← (dM_r hn hrn hb hw hat)]
      exact ih (r + 1) (by omega) (by omega)
theorem C_mw10 {f : Nat → Int32} {k2 : Nat → Nat → Int32 → Hp → Option Hp} (hL : LY L G n Q) (hB : WB n V z) (hH : fwH z n) (hw : w < 16) : ∀ (N b : Nat), b ≤ n → n - b < N → d_X6_measureWires_10 N (L.1 2 0 0) (L.1 4 0 0) (nI w) (nI b) (eK L G (uR V 3 0 2 (pd f n (fun k => dM z n w b 0 k))) (RF n L Q)) k2 = k2 (L.1 2 0 0) (L.1 4 0 0) (nI (w + 1)) (eK L G (uR V 3 0 2 (pd f n (fun k => dM z n (w + 1) 0 0 k))) (RF n L Q)) := by
  have hB' := hB
  obtain ⟨⟨hn1, hn, hnr⟩, e20, e5, e6, e3⟩ := hB
  intro N
  induction N with
  | zero => intro b _ h; omega
  | succ N ih =>
    intro b hb hlt
    rw [d_X6_measureWires_10.eq_2, eK_hc, gd_t (yK2 hL), iK2 hL, uR_ne (show 2 ≠ 3 by decide), e20]
    by_cases he : b = n
    · subst he
      rw [if_pos (nI_le (by omega) (by omega)), nI_1, dM_w]
    · have hbn : b < n := by omega
      rw [if_neg (nI_ge hbn (by omega))]
      simp (disch := first | omega | assumption) only [eK_hc, eK_hl, yK4_0 hL, iK4_0 hL, lK4_0 hL, rK4_0 hL, yK5 hL, iK5 hL, rK5_1 hL, rK5_3 hL, rK5_4 hL, yK6 hL, iK6 hL, lK6 hL, lm4, lm8, lm10, lm16, lm17, lm26, lm40, lm400, nI_add, nI_1, ix_nI, nI_clamp, gd_T, gd_t, bd_e, bo_e, b2_e, true_and, and_true, uR_ne, e5 w hw, e6 w b hw hbn, ite_bI]
      by_cases hup : z.2 10 w = 0
      · rw [decide_eq_true hup, cond_true]
        have hab := atB_w (z := z) (w := w) hbn
        rw [decide_eq_true hup, Bool.true_and] at hab
        by_cases hpo : pOn z b (nI w) = -1
        · rw [decide_eq_false (not_not_intro hpo)] at hab
          rw [if_pos hpo, (dM_no hab)]
          exact ih (b + 1) (by omega) (by omega)
        · rw [decide_eq_true hpo] at hab
          have e45 := C_mw45 (f := f) (k10 := fun y0 y1 y2 y3 Gy => d_X6_measureWires_10 N y0 y1 y2 y3 Gy k2) hL hB' hH hw hbn hab FU 0 (by omega) (by show _ < 6000; omega)
          rw [nI_0] at e45
          rw [if_neg hpo, e45]
          exact ih (b + 1) (by omega) (by omega)
      · have hall : ∀ b, atB z b (10 + w) = false := by
          intro b
          unfold atB
          refine decide_eq_false (fun q => ?_)
          rcases q with q | q
          · omega
          · rw [show 10 + w - 10 = w by omega] at q
            exact hup q.2.1
        rw [decide_eq_false hup, cond_false, (dM_down hall)]
theorem C_mw2 {f : Nat → Int32} (hL : LY L G n Q) (hB : WB n V z) (hH : fwH z n) : ∀ (N w : Nat), w ≤ 16 → 16 - w < N → d_X6_measureWires_2 N (L.1 2 0 0) (L.1 4 0 0) (nI w) (eK L G (uR V 3 0 2 (pd f n (fun k => dM z n w 0 0 k))) (RF n L Q)) = some (eK L G (uR V 3 0 2 (pd f n (fun k => dM z n 16 0 0 k))) (RF n L Q)) := by
  have hn := hH.1
  intro N
  induction N with
  | zero => intro w _ h; omega
  | succ N ih =>
    intro w hw hlt
    rw [d_X6_measureWires_2.eq_2, show (16 : Int32) = nI 16 from rfl]
    by_cases he : w = 16
    · subst he
      rw [if_pos (nI_le (by omega) (by omega))]
    · have hwn : w < 16 := by omega
      have e10 := C_mw10 (f := f) (k2 := fun y0 y1 y2 Gy => d_X6_measureWires_2 N y0 y1 y2 Gy) hL hB hH hwn FU 0 (by omega) (by show _ < 6000; omega)
      rw [nI_0] at e10
      rw [if_neg (nI_ge hwn (by decide)), e10]
      exact ih (w + 1) (by omega) (by omega)
end
