/-! THE CLASS'S WAYS: the distances -/
def WB (n : Nat) (V : Vt) (z : Sg) : Prop := (1 ≤ n ∧ n ≤ 10 ∧ nR z = n) ∧ V 2 0 0 0 = nI n ∧ (∀ v, v < 16 → V 5 v 0 2 = bI (decide (z.2 10 v = 0))) ∧ (∀ v b, v < 16 → b < n → V 6 v 0 b = pOn z b (nI v)) ∧ ∀ j, j < 40 → V 3 0 0 j = z.2 8 j ∧ (z.2 8 j ≠ -1 → V 3 0 1 j = z.2 9 j)
theorem imin_n {a b : Nat} (ha : a < 2 ^ 31) (hb : b < 2 ^ 31) : imin (nI a) (nI b) = nI (min a b) := by
  unfold imin
  by_cases h : b < a
  · rw [if_pos (nI_lt h ha), Nat.min_eq_right (by omega)]
  · rw [if_neg (nI_nlt (by omega) hb), Nat.min_eq_left (by omega)]
/-- a row of numbers as far as it goes -/
def pd (f : Nat → Int32) (n : Nat) (d : Nat → Nat) : Nat → Int32 := fun k => if k < 26 * n then nI (d k) else f k
theorem pd_at {f : Nat → Int32} {n i : Nat} {d : Nat → Nat} (h : i < 26 * n) : pd f n d i = nI (d i) := if_pos h
theorem pd_up {f : Nat → Int32} {n i v : Nat} {d : Nat → Nat} (h : i < 26 * n) : va_up (pd f n d) i (nI v) = pd f n (va_up d i v) := by
  funext k
  rw [vu_a]
  unfold pd
  by_cases e : k = i
  · rw [if_pos e, if_pos (by omega), vu_a, if_pos e]
  · rw [if_neg e, vu_a, if_neg e]
theorem pd_up0 {f : Nat → Int32} {n i : Nat} {d : Nat → Nat} (h : i < 26 * n) : va_up (pd f n d) i 0 = pd f n (va_up d i 0) := pd_up (v := 0) h
def dS (z : Sg) (n r p b k : Nat) : Nat := if k % 26 < n then (if k / 26 < r then m0 z (k / 26) (k % 26) else if k / 26 = r then mnB (fun q => eB z r q (k % 26)) (fun q => cN z r q) (if k % 26 < b then p + 1 else p) else 9999) else 9999
section
variable {L : Ly} {G : Hp} {n : Nat} {V : Vt} {Q : Qt} {z : Sg} {r p b t k by' w : Nat}
theorem m0_le (z : Sg) (r t : Nat) : m0 z r t ≤ 9999 := by
  unfold m0
  split
  · omega
  · exact (mnB_le 4).1
theorem dS_le : dS z n r p b k ≤ 9999 := by
  unfold dS
  split
  · split
    · exact m0_le z _ _
    · split
      · exact (mnB_le _).1
      · omega
  · omega
theorem dS_b (hb : b < n) (hn : n ≤ 10) : (fun k => dS z n r p (b + 1) k) = if eB z r p b = true then va_up (fun k => dS z n r p b k) (26 * r + b) (min (dS z n r p b (26 * r + b)) (cN z r p)) else fun k => dS z n r p b k := by
  have eo : ∀ k, k ≠ 26 * r + b → dS z n r p (b + 1) k = dS z n r p b k := by
    intro k hk
    unfold dS
    by_cases h1 : k % 26 < n
    · rw [if_pos h1, if_pos h1]
      by_cases h2 : k / 26 < r
      · rw [if_pos h2, if_pos h2]
      · rw [if_neg h2, if_neg h2]
        by_cases h3 : k / 26 = r
        · rw [if_pos h3, if_pos h3]
          by_cases h4 : k % 26 < b
          · rw [if_pos h4, if_pos (by omega)]
          · rw [if_neg h4, if_neg (by omega)]
        · rw [if_neg h3, if_neg h3]
    · rw [if_neg h1, if_neg h1]
  have a1 : (26 * r + b) % 26 = b := by omega
  have a2 : (26 * r + b) / 26 = r := by omega
  have e0 : dS z n r p b (26 * r + b) = mnB (fun q => eB z r q b) (fun q => cN z r q) p := by
    unfold dS
    rw [a1, a2, if_pos hb, if_neg (by omega), if_pos rfl, if_neg (by omega)]
  have e1 : dS z n r p (b + 1) (26 * r + b) = mnB (fun q => eB z r q b) (fun q => cN z r q) (p + 1) := by
    unfold dS
    rw [a1, a2, if_pos hb, if_neg (by omega), if_pos rfl, if_pos (by omega)]
  have es : mnB (fun q => eB z r q b) (fun q => cN z r q) (p + 1) = if eB z r p b = true then min (mnB (fun q => eB z r q b) (fun q => cN z r q) p) (cN z r p) else mnB (fun q => eB z r q b) (fun q => cN z r q) p := rfl
  funext k
  by_cases hk : k = 26 * r + b
  · rw [hk, e1, es]
    split
    · rw [vu_s, e0]
    · exact e0.symm
  · rw [eo k hk]
    split
    · rw [vu_n hk]
    · rfl
theorem dS_p : (fun k => dS z n r p n k) = fun k => dS z n r (p + 1) 0 k := by
  funext k
  unfold dS
  by_cases h1 : k % 26 < n
  · rw [if_pos h1, if_pos h1, if_pos h1, if_neg (show ¬ k % 26 < 0 by omega)]
  · rw [if_neg h1, if_neg h1]
theorem dS_r (hr : r < n) (hn : n ≤ 10) : va_up (fun k => dS z n r 4 0 k) (26 * r + r) 0 = fun k => dS z n (r + 1) 0 0 k := by
  funext k
  rw [vu_a]
  by_cases hk : k = 26 * r + r
  · rw [if_pos hk, hk]
    unfold dS
    rw [show (26 * r + r) % 26 = r by omega, show (26 * r + r) / 26 = r by omega, if_pos hr, if_pos (by omega)]
    unfold m0
    rw [if_pos rfl]
  · rw [if_neg hk]
    unfold dS
    by_cases h1 : k % 26 < n
    · rw [if_pos h1, if_pos h1]
      by_cases h2 : k / 26 < r
      · rw [if_pos h2, if_pos (by omega)]
      · rw [if_neg h2]
        by_cases h3 : k / 26 = r
        · rw [if_pos h3, if_neg (show ¬ k % 26 < 0 by omega), if_pos (show k / 26 < r + 1 by omega), h3]
          unfold m0
          rw [if_neg (show ¬ k % 26 = r by omega)]
        · rw [if_neg h3, if_neg (by omega)]
          split
          · rfl
          · rfl
    · rw [if_neg h1, if_neg h1]
theorem dS_0 : (fun k => dS z n 0 0 0 k) = fun _ => 9999 := by
  funext k
  unfold dS
  split
  · rw [if_neg (by omega)]
    split
    · rfl
    · rfl
  · rfl
theorem eB_up {q : Nat} (h : eB z r p q = true) : upP z (4 * r + p) := by
  unfold eB at h
  rw [Bool.and_eq_true] at h
  exact of_decide_eq_true h.1
theorem C_ms32 {f : Nat → Int32} {k12 : Nat → Nat → Int32 → Int32 → Hp → Option Hp} (hL : LY L G n Q) (hB : WB n V z) (hF : WF z) (hc : CO z) (hr : r < n) (hp : p < 4) : ∀ (N b : Nat), b ≤ n → n - b < N → d_X6_measureSteps_32 N (L.1 2 0 0) (L.1 4 0 0) (nI r) (nI p) (z.2 8 (4 * r + p)) (nI b) (eK L G (uR V 3 0 2 (pd f n (fun k => dS z n r p b k))) (RF n L Q)) k12 = k12 (L.1 2 0 0) (L.1 4 0 0) (nI r) (nI (p + 1)) (eK L G (uR V 3 0 2 (pd f n (fun k => dS z n r (p + 1) 0 k))) (RF n L Q)) := by
  obtain ⟨⟨hn1, hn, hnr⟩, e20, e5, e6, e3⟩ := hB
  intro N
  induction N with
  | zero => intro b _ h; omega
  | succ N ih =>
    intro b hb hlt
    rw [d_X6_measureSteps_32.eq_2, eK_hc, gd_t (yK2 hL), iK2 hL, uR_ne (show 2 ≠ 3 by decide), e20]
    by_cases hbe : b = n
    · subst hbe
      rw [if_pos (nI_le (by omega) (by omega)), nI_1, dS_p]
    · have hbn : b < n := by omega
      rw [if_neg (nI_ge hbn (by omega))]
      have fin : ¬ upP z (4 * r + p) → (fun k => dS z n r p b k) = fun k => dS z n r (p + 1) 0 k := by
        intro h
        rw [← (dS_p (z := z) (n := n) (r := r) (p := p))]
        have : ∀ d, b + d ≤ n → (fun k => dS z n r p b k) = fun k => dS z n r p (b + d) k := by
          intro d
          induction d with
          | zero => intro _; rfl
          | succ d ihd =>
            intro hd
            rw [ihd (by omega), ← Nat.add_assoc, dS_b (by omega) hn, if_neg (fun w => h (eB_up w))]
        have h2 := this (n - b) (by omega)
        rw [show b + (n - b) = n by omega] at h2
        exact h2
      by_cases h8 : z.2 8 (4 * r + p) = -1
      · rw [if_pos h8, nI_1, fin (fun w => w.1 h8)]
      · obtain ⟨v, hv, ev⟩ := (hF.2.2.2.2.2 (4 * r + p) (by omega)).resolve_left h8
        have hib := ih (b + 1) (by omega) (by omega)
        rw [(dS_b (z := z) (r := r) (p := p) hbn hn)] at hib
        rw [ev] at hib ⊢
        rw [if_neg (nI_m1 (by omega))]
        simp (disch := first | omega | assumption) only [eK_hc, eK_hl, yK4_0 hL, iK4_0 hL, lK4_0 hL, rK4_0 hL, yK5 hL, iK5 hL, rK5_1 hL, rK5_3 hL, rK5_4 hL, yK6 hL, iK6 hL, lK6 hL, lm4, lm8, lm10, lm16, lm17, lm26, lm40, lm400, nI_add, nI_1, ix_nI, nI_clamp, gd_T, gd_t, bd_e, bo_e, b2_e, true_and, and_true, uR_ne, e5 v hv, e6 v b hv hbn, ite_bI]
        by_cases hup : z.2 10 v = 0
        · rw [decide_eq_true hup, cond_true]
          have eeb : eB z r p b = decide (pOn z b (nI v) ≠ -1) := by
            unfold eB
            rw [decide_eq_true (show upP z (4 * r + p) from ⟨h8, by rw [ev, nI_clamp (by omega)]; exact hup⟩), Bool.true_and, ev]
          by_cases hpo : pOn z b (nI v) = -1
          · rw [if_pos hpo]
            rw [eeb, decide_eq_false (not_not_intro hpo), if_neg (by decide)] at hib
            exact hib
          · rw [if_neg hpo]
            rw [eeb, decide_eq_true hpo, if_pos rfl] at hib
            obtain ⟨c1, c2, c3⟩ := CO_c (q := b) hc (show r < 10 by omega) hp (by rw [eeb, decide_eq_true hpo])
            simp (disch := first | omega | assumption) only [eK_hc, eK_hl, yK2 hL, iK2 hL, rK2_1 hL, rK2_2 hL, rK2_3 hL, rK2_4 hL, rK2_5 hL, yK3_2 hL, iK3_2 hL, lK3_2 hL, yK3_1 hL, iK3_1 hL, lK3_1 hL, wK3_2 hL, rm26, rm4, lm4, lm8, lm10, lm16, lm17, lm26, lm40, lm400, nI_add, nI_1, ix_nI, nI_clamp, gd_T, gd_t, bd_e, bo_e, b2_e, true_and, and_true, uR_s, uR_uR, uR_nej, pd_at, pd_up, (e3 (4 * r + p) (by omega)).2 h8, c3, imin_n (Nat.lt_of_le_of_lt dS_le (show 9999 < 2 ^ 31 by decide)) (show cN z r p < 2 ^ 31 by omega)]
            exact hib
        · rw [decide_eq_false hup, cond_false]
          have eeb : eB z r p b = false := by
            unfold eB
            rw [decide_eq_false (fun w : upP z (4 * r + p) => hup (by have := w.2; rw [ev, nI_clamp (by omega)] at this; exact this)), Bool.false_and]
          rw [eeb, if_neg (by decide)] at hib
          exact hib
end
