/-! THE CLASS: neighbours that are silent are dropped; a tick has begun -/
def dnV (V : Vt) (Q : Qt) (z : Sg) (K : Nat) : Vt := fun c => if c = 18 then (fun i j => if 4 * i + j < K ∧ j < 4 ∧ qpw Q (4 * i + j) ≠ -1 then va_up (V 18 i j) 4 (nbits z (4 * i + j)) else V 18 i j) else V c
section
variable {L : Ly} {G : Hp} {n : Nat} {st : Int32} {V W : Vt} {Q : Qt} {z z' : Sg} {r p q g s x y m v i h k : Nat}
theorem C_dropN_2 {R : Rt} (hL : LY L G n Q) (h1 : r < n) (hp : p < 4) (hu : qpw Q (4 * r + p) ≠ -1) (hn : n ≤ 10) (hnr : nR z' = n) (hr0 : ∀ W : Vt, hr (eK L G W R) (L.1 18 r p) 0 = L.1 1 0 0) (hr7 : ∀ W : Vt, hr (eK L G W R) (L.1 18 r p) 7 = L.1 19 r p) : ∀ (N q : Nat) (W : Vt), q ≤ 10 → 10 - q < N → W 1 0 0 4 = z'.1 0 → (∀ k, k < 10 → W 19 r p k = z'.2 25 (10 * (4 * r + p) + k)) → (∀ k, k < 32 → bt (W 18 r p 4) k = true → k < n) → (∀ k, k < n → k < q → bt (W 18 r p 4) k = nb z' (4 * r + p) k) → (∀ k, k < n → nb z' (4 * r + p) k = true → bt (W 18 r p 4) k = true) →
    d_X3_dropNeighbours_2 N (L.1 18 r p) (nI q) (eK L G W R) = some (eK L G (uR W 18 r p (va_up (W 18 r p) 4 (nbits z' (4 * r + p)))) R) := by
  intro N
  induction N with
  | zero => intro q W _ h; omega
  | succ N ih =>
    intro q W hq hlt et e19 b1 b2 b3
    have fin : W 18 r p 4 = nbits z' (4 * r + p) → some (eK L G W R) = some (eK L G (uR W 18 r p (va_up (W 18 r p) 4 (nbits z' (4 * r + p)))) R) := by
      intro e
      rw [← e, vu_self, uR_self]
    rw [d_X3_dropNeighbours_2.eq_2, show (10 : Int32) = nI 10 from rfl]
    by_cases hqe : q = 10
    · subst hqe
      rw [if_pos (nI_le (by omega) (by decide))]
      refine fin (b_ext (fun k hk => ?_))
      rw [b_nbits (by omega) hk, hnr]
      by_cases hkn : k < n
      · rw [b2 k hkn (by omega), decide_eq_true hkn, Bool.true_and]
      · rw [decide_eq_false hkn, Bool.false_and]
        cases hb : bt (W 18 r p 4) k with
        | false => rfl
        | true => exact absurd (b1 k hk hb) hkn
    · have hq10 : q < 10 := by omega
      rw [if_neg (nI_ge hq10 (by decide)), eK_hc, gd_t (yK18 hL h1 hp hu), iK18 hL h1 hp hu]
      by_cases h0 : W 18 r p 4 = 0
      · rw [if_pos h0]
        refine fin (b_ext (fun k hk => ?_))
        rw [b_nbits (by omega) hk, hnr, h0, b_0]
        by_cases hkn : k < n
        · cases hb : nb z' (4 * r + p) k with
          | false => rw [Bool.and_false]
          | true =>
            have := b3 k hkn hb
            rw [h0, b_0] at this
            cases this
        · rw [decide_eq_false hkn, Bool.false_and]
      · rw [if_neg h0, hr7, hr0, eK_hl, yK19 hL h1 hp hu, lK19 hL h1 hp hu, gd_t ⟨rfl, (ix_nI (by omega)).mpr hq10⟩, gd_t (yK1 hL), iK1 hL, iK19 hL h1 hp hu, nI_clamp (by omega), et, e19 q hq10, nI_1]
        have enb : nb z' (4 * r + p) q = decide (z'.1 0 < z'.2 25 (10 * (4 * r + p) + q)) := rfl
        by_cases c : z'.1 0 < z'.2 25 (10 * (4 * r + p) + q)
        · rw [if_pos c]
          refine ih (q + 1) W (by omega) (by omega) et e19 b1 (fun k hk hkq => ?_) b3
          by_cases e : k = q
          · rw [e, enb, decide_eq_true c]
            exact b3 q (by omega) (by rw [enb, decide_eq_true c])
          · exact b2 k hk (by omega)
        · rw [if_neg c, wK18 hL h1 hp hu, bd_e]
          have eb : ∀ k, k < 32 → bt (W 18 r p 4 &&& ((1 <<< (nI q &&& 31)) ^^^ (-1))) k = (bt (W 18 r p 4) k && !decide (k = q)) := fun k hk => by rw [b_and, b_not hk, b_bit (by omega) hk]
          have := ih (q + 1) (uR W 18 r p (va_up (W 18 r p) 4 (W 18 r p 4 &&& ((1 <<< (nI q &&& 31)) ^^^ (-1))))) (by omega) (by omega) (by rw [uR_ne (by decide)]; exact et) (fun k hk => by rw [uR_ne (by decide)]; exact e19 k hk) (fun k hk hb => by
              rw [uR_s, vu_s, eb k hk, Bool.and_eq_true] at hb
              exact b1 k hk hb.1) (fun k hk hkq => by
              rw [uR_s, vu_s, eb k (by omega)]
              by_cases e : k = q
              · rw [e, enb, decide_eq_false c, decide_eq_true rfl, Bool.not_true, Bool.and_false]
              · rw [decide_eq_false e, Bool.not_false, Bool.and_true]
                exact b2 k hk (by omega)) (fun k hk hb => by
              rw [uR_s, vu_s, eb k (by omega)]
              by_cases e : k = q
              · rw [e, enb, decide_eq_false c] at hb
                cases hb
              · rw [decide_eq_false e, Bool.not_false, Bool.and_true]
                exact b3 k hk hb)
          rw [this, uR_uR, uR_s]
          have ev : va_up (va_up (W 18 r p) 4 (W 18 r p 4 &&& ((1 <<< (nI q &&& 31)) ^^^ (-1)))) 4 (nbits z' (4 * r + p)) = va_up (W 18 r p) 4 (nbits z' (4 * r + p)) := by
            funext k
            rw [vu_a, vu_a, vu_a]
            split <;> rfl
          rw [ev]
theorem dnV_18 : dnV V Q z k 18 i p = if 4 * i + p < k ∧ p < 4 ∧ qpw Q (4 * i + p) ≠ -1 then va_up (V 18 i p) 4 (nbits z (4 * i + p)) else V 18 i p := rfl
theorem dnV_o {c : Nat} (hc : c ≠ 18) : dnV V Q z k c = V c := if_neg hc
theorem dnV_s (hp : p < 4) (hu : qpw Q (4 * r + p) ≠ -1) : uR (dnV V Q z (4 * r + p)) 18 r p (va_up (dnV V Q z (4 * r + p) 18 r p) 4 (nbits z (4 * r + p))) = dnV V Q z (4 * r + p + 1) := by
  funext c
  by_cases hc : c = 18
  · subst hc
    funext i j
    rw [uR_at, dnV_18, dnV_18, dnV_18]
    by_cases e : i = r ∧ j = p
    · obtain ⟨rfl, rfl⟩ := e
      rw [if_pos ⟨rfl, rfl⟩, if_neg (fun w => Nat.lt_irrefl _ w.1), if_pos ⟨by omega, hp, hu⟩]
    · rw [if_neg e]
      by_cases c1 : 4 * i + j < 4 * r + p ∧ j < 4 ∧ qpw Q (4 * i + j) ≠ -1
      · rw [if_pos c1, if_pos ⟨by omega, c1.2⟩]
      · rw [if_neg c1, if_neg (fun w => c1 ⟨by omega, w.2⟩)]
  · rw [uR_ne hc, dnV_o hc, dnV_o hc]
theorem dnV_n (hp : p < 4) (hu : qpw Q (4 * r + p) = -1) : dnV V Q z (4 * r + p) = dnV V Q z (4 * r + p + 1) := by
  funext c
  by_cases hc : c = 18
  · subst hc
    funext i j
    rw [dnV_18, dnV_18]
    by_cases c1 : 4 * i + j < 4 * r + p ∧ j < 4 ∧ qpw Q (4 * i + j) ≠ -1
    · rw [if_pos c1, if_pos ⟨by omega, c1.2⟩]
    · rw [if_neg c1, if_neg (fun w => c1 ⟨by
        rcases Nat.lt_or_ge (4 * i + j) (4 * r + p) with o | o
        · exact o
        · exfalso
          have e : 4 * i + j = 4 * r + p := by omega
          exact w.2.2 (by rw [e]; exact hu), w.2⟩)]
  · rw [dnV_o hc, dnV_o hc]
/-- what the silent ones need -/
def dnH (n : Nat) (V : Vt) (Q : Qt) (z' : Sg) : Prop := n ≤ 10 ∧ 1 ≤ n ∧ nR z' = n ∧ V 1 0 0 4 = z'.1 0 ∧ ∀ r p, r < n → p < 4 → qpw Q (4 * r + p) ≠ -1 → (∀ k, k < 10 → V 19 r p k = z'.2 25 (10 * (4 * r + p) + k)) ∧ (∀ k, k < 32 → bt (V 18 r p 4) k = true → k < n) ∧ ∀ k, k < n → nb z' (4 * r + p) k = true → bt (V 18 r p 4) k = true
theorem C_dropR (hL : LY L G n Q) (hH : dnH n V Q z') (h1 : r < n) : ∀ (N p : Nat), p ≤ 4 → 4 - p < N → d_X4_dropNeighbours_2 N (L.1 9 r 0) (nI p) (eK L G (dnV V Q z' (4 * r + p)) (RF n L Q)) = some (eK L G (dnV V Q z' (4 * r + 4)) (RF n L Q)) := by
  intro N
  induction N with
  | zero => intro p _ h; omega
  | succ N ih =>
    intro p hp hlt
    rw [d_X4_dropNeighbours_2.eq_2, show (4 : Int32) = nI 4 from rfl]
    by_cases hpe : p = 4
    · subst hpe
      rw [if_pos (nI_le (by omega) (by decide))]
    · have hp4 : p < 4 := by omega
      rw [if_neg (nI_ge hp4 (by decide))]
      simp (disch := first | omega | assumption) only [eK_hc, eK_hl, yK9 hL, iK9 hL, rK9_0 hL, rK9_2 hL, rK9_3 hL, yK10 hL, iK10 hL, lK10 hL, rK10 hL, lm4, lm8, lm10, lm16, lm17, lm26, lm40, lm400, nI_add, nI_1, ix_nI, nI_clamp, gd_T, gd_t, bd_e, bo_e, b2_e, true_and, and_true]
      by_cases hu : qpw Q (4 * r + p) = -1
      · rw [if_neg (not_not_intro hu), if_pos rfl, dnV_n hp4 hu]
        exact ih (p + 1) (by omega) (by omega)
      · obtain ⟨q1, q2, q3⟩ := hH.2.2.2.2 r p h1 hp4 hu
        have e18 : dnV V Q z' (4 * r + p) 18 r p = V 18 r p := by rw [dnV_18, if_neg (fun w => Nat.lt_irrefl _ w.1)]
        have ed := C_dropN_2 (z' := z') (R := RF n L Q) hL h1 hp4 hu hH.1 hH.2.2.1 (fun W => rK18_0 hL h1 hp4 hu) (fun W => rK18_7 hL h1 hp4 hu) FU 0 (dnV V Q z' (4 * r + p)) (by omega) (by show _ < 6000; omega) (by rw [dnV_o (by decide)]; exact hH.2.2.2.1) (fun k hk => by rw [dnV_o (by decide)]; exact q1 k hk) (fun k hk hb => by rw [e18] at hb; exact q2 k hk hb) (fun k _ h => by omega) (fun k hk hb => by rw [e18]; exact q3 k hk hb)
        rw [nI_0] at ed
        rw [if_pos hu, if_neg (zK18 hL h1 hp4 hu), gd_t (yK18 hL h1 hp4 hu)]
        unfold d_X3_dropNeighbours
        rw [ed, bo_e, dnV_s hp4 hu]
        exact ih (p + 1) (by omega) (by omega)
theorem C_begin_41 (hL : LY L G n Q) (hH : dnH n V Q z') : ∀ (N r : Nat), r ≤ n → n - r < N → d_X8_beginTick_41 N (L.1 0 0 0) (nI r) (eK L G (dnV V Q z' (4 * r)) (RF n L Q)) = some (eK L G (dnV V Q z' (4 * n)) (RF n L Q)) := by
  have hn := hH.1
  have hn1 := hH.2.1
  intro N
  induction N with
  | zero => intro r _ h; omega
  | succ N ih =>
    intro r hr hlt
    rw [d_X8_beginTick_41.eq_2]
    simp (disch := first | omega | assumption) only [eK_hc, eK_hl, yK0 hL, iK0 hL, rK0_0 hL, rK0_1 hL, rK0_2 hL, yK4_1 hL, iK4_1 hL, lK4_1 hL, rK4_1 hL, lm4, lm8, lm10, lm16, lm17, lm26, lm40, lm400, nI_add, nI_1, ix_nI, nI_clamp, gd_T, gd_t, bd_e, bo_e, b2_e, true_and, and_true]
    by_cases he : r = n
    · subst he
      rw [if_pos (nI_le (by omega) (by omega))]
    · have hrn : r < n := by omega
      have e := C_dropR hL hH hrn FU 0 (by omega) (by show _ < 6000; omega)
      rw [nI_0, Nat.add_zero] at e
      rw [if_neg (nI_ge hrn (by omega)), gd_t hrn, rK4_1 hL hrn, gd_t (yK9 hL hrn)]
      unfold d_X4_dropNeighbours
      rw [e, bo_e]
      exact ih (r + 1) (by omega) (by omega)
end
