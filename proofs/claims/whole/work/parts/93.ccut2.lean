/-! THE CLASS: a wire is cut, on -/
section
variable {L : Ly} {G : Hp} {n : Nat} {st : Int32} {V : Vt} {Q : Qt} {z : Sg} {r p q g s x y m v i h k : Nat}
theorem fp_at {a b c len : Nat} (hc : (c = 19 ∧ len = 10) ∨ (c = 20 ∧ len = 8) ∨ (c = 21 ∧ len = 136) ∨ (c = 22 ∧ len = 128) ∨ (c = 23 ∧ len = 128) ∨ (c = 24 ∧ len = 128)) : fpV V r p c a b = if a = r ∧ b = p then flF (V c r p) 0 len else V c a b := by
  unfold fpV
  rcases hc with ⟨rfl, rfl⟩ | ⟨rfl, rfl⟩ | ⟨rfl, rfl⟩ | ⟨rfl, rfl⟩ | ⟨rfl, rfl⟩ | ⟨rfl, rfl⟩
  · rw [uR_ne (by decide), uR_ne (by decide), uR_ne (by decide), uR_ne (by decide), uR_ne (by decide), uR_at, uR_ne (by decide)]
  · rw [uR_ne (by decide), uR_ne (by decide), uR_ne (by decide), uR_ne (by decide), uR_at, uR_ne (by decide), uR_ne (by decide)]
  · rw [uR_ne (by decide), uR_ne (by decide), uR_ne (by decide), uR_at, uR_ne (by decide), uR_ne (by decide), uR_ne (by decide)]
  · rw [uR_ne (by decide), uR_ne (by decide), uR_at, uR_ne (by decide), uR_ne (by decide), uR_ne (by decide), uR_ne (by decide)]
  · rw [uR_ne (by decide), uR_at, uR_ne (by decide), uR_ne (by decide), uR_ne (by decide), uR_ne (by decide), uR_ne (by decide)]
  · rw [uR_at, uR_ne (by decide), uR_ne (by decide), uR_ne (by decide), uR_ne (by decide), uR_ne (by decide), uR_ne (by decide)]
theorem fp_18 {a b : Nat} : fpV V r p 18 a b = if a = r ∧ b = p then va_up (va_up (va_up (V 18 r p) 4 0) 5 0) 6 0 else V 18 a b := by
  unfold fpV
  rw [uR_ne (by decide), uR_ne (by decide), uR_ne (by decide), uR_ne (by decide), uR_ne (by decide), uR_ne (by decide), uR_at]
theorem fl_at {f : Nat → Int32} {w : Int32} {len i : Nat} (h : i < len) : flF f w len i = w := if_pos h
theorem RC_fp (hC : RC n st V Q z) (hF : WF z) (h1 : r < n) (hp : p < 4) (hu : qpw Q (4 * r + p) ≠ -1) : RC n st (fpV V r p) Q (fqZ z r p) := by
  have hn := hC.nn.2.2.2
  have hnr := hC.nr
  have ht := hF.t0
  have hne : ∀ j, qpw Q j = -1 → j ≠ 4 * r + p := fun j hj e => hu (e ▸ hj)
  have e29 : ∀ j g y, g < 8 → y < 17 → (fqZ z r p).2 29 (17 * (8 * j + g) + y) = if j = 4 * r + p then 0 else z.2 29 (17 * (8 * j + g) + y) := by
    intro j g y hg hy
    have := fq_29 (z := z) (r := r) (p := p) (q := 17 * g + y) (j := j) (by omega)
    rw [show 136 * j + (17 * g + y) = 17 * (8 * j + g) + y by omega] at this
    exact this
  have e30 : ∀ j g s, g < 8 → s < 16 → (fqZ z r p).2 30 (16 * (8 * j + g) + s) = if j = 4 * r + p then -1 else z.2 30 (16 * (8 * j + g) + s) := by
    intro j g s hg hs
    have := fq_30 (z := z) (r := r) (p := p) (q := 16 * g + s) (j := j) (by omega)
    rw [show 128 * j + (16 * g + s) = 16 * (8 * j + g) + s by omega] at this
    exact this
  have e31 : ∀ j g s, g < 8 → s < 16 → (fqZ z r p).2 31 (16 * (8 * j + g) + s) = if j = 4 * r + p then -1 else z.2 31 (16 * (8 * j + g) + s) := by
    intro j g s hg hs
    have := fq_31 (z := z) (r := r) (p := p) (q := 16 * g + s) (j := j) (by omega)
    rw [show 128 * j + (16 * g + s) = 16 * (8 * j + g) + s by omega] at this
    exact this
  have e32 : (fqZ z r p).2 32 = z.2 32 := fq_row (by decide)
  have hpt : cPo2 n Q (fpV V r p 18) (z.2 9) := by
    intro a b h1 h2 h3
    rw [fp_18]
    split
    · rename_i w
      obtain ⟨rfl, rfl⟩ := w
      exact hC.pt a b h1 h2 h3
    · exact hC.pt a b h1 h2 h3
  have hhe : cHe n Q (fpV V r p 18) 5 ((fqZ z r p).2 26) := by
    intro a b h1 h2 h3
    rw [fp_18, fq_26]
    by_cases e : a = r ∧ b = p
    · obtain ⟨rfl, rfl⟩ := e
      rw [if_pos (show a = a ∧ b = b from ⟨rfl, rfl⟩), if_pos rfl, if_pos rfl]
      exact ⟨by decide, rfl⟩
    · rw [if_neg e, if_neg (show ¬ 4 * a + b = 4 * r + p by omega)]
      exact hC.he a b h1 h2 h3
  have hqu : cHe n Q (fpV V r p 18) 6 ((fqZ z r p).2 27) := by
    intro a b h1 h2 h3
    rw [fp_18, fq_27]
    by_cases e : a = r ∧ b = p
    · obtain ⟨rfl, rfl⟩ := e
      rw [if_pos (show a = a ∧ b = b from ⟨rfl, rfl⟩), if_pos rfl, if_pos rfl]
      exact ⟨by decide, rfl⟩
    · rw [if_neg e, if_neg (show ¬ 4 * a + b = 4 * r + p by omega)]
      exact hC.qu a b h1 h2 h3
  have hnt : cNt n Q (fpV V r p 19) ((fqZ z r p).2 25) := by
    intro a b q h1 h2 h3 h4
    rw [fp_at (Or.inl ⟨rfl, rfl⟩), fq_25 h4]
    by_cases e : a = r ∧ b = p
    · rw [if_pos e, if_pos (by omega), fl_at h4]
    · rw [if_neg e, if_neg (show ¬ 4 * a + b = 4 * r + p by omega)]
      exact hC.nt a b q h1 h2 h3 h4
  have hmb : cMb n Q (fpV V r p 20) ((fqZ z r p).2 28) := by
    intro a b q h1 h2 h3 h4
    rw [fp_at (Or.inr (Or.inl ⟨rfl, rfl⟩)), fq_28 h4]
    by_cases e : a = r ∧ b = p
    · rw [if_pos e, if_pos (by omega), fl_at h4]
    · rw [if_neg e, if_neg (show ¬ 4 * a + b = 4 * r + p by omega)]
      exact hC.mb a b q h1 h2 h3 h4
  have hjt : cJt n Q (fpV V r p 21) ((fqZ z r p).2 29) := by
    intro a b g x h1 h2 h3 h4 h5
    rw [fp_at (Or.inr (Or.inr (Or.inl ⟨rfl, rfl⟩))), e29 _ _ _ h4 (yx_lt h5)]
    by_cases e : a = r ∧ b = p
    · rw [if_pos e, if_pos (by omega), fl_at (by omega)]
    · rw [if_neg e, if_neg (show ¬ 4 * a + b = 4 * r + p by omega)]
      exact hC.jt a b g x h1 h2 h3 h4 h5
  have hcf : cCf n Q (fpV V r p 22) ((fqZ z r p).2 30) := by
    intro a b g s h1 h2 h3 h4 h5
    rw [fp_at (Or.inr (Or.inr (Or.inr (Or.inl ⟨rfl, rfl⟩)))), e30 _ _ _ h4 h5]
    by_cases e : a = r ∧ b = p
    · rw [if_pos e, if_pos (show 4 * a + b = 4 * r + p by omega), fl_at (by omega), if_pos rfl]
      exact ⟨by decide, rfl⟩
    · rw [if_neg e, if_neg (show ¬ 4 * a + b = 4 * r + p by omega)]
      exact hC.cf a b g s h1 h2 h3 h4 h5
  have hcl : cCl n Q (fpV V r p 23) (fpV V r p 24) ((fqZ z r p).2 31) ((fqZ z r p).2 32) := by
    intro a b g s h1 h2 h3 h4 h5
    rw [fp_at (Or.inr (Or.inr (Or.inr (Or.inr (Or.inl ⟨rfl, rfl⟩))))), fp_at (Or.inr (Or.inr (Or.inr (Or.inr (Or.inr ⟨rfl, rfl⟩))))), e31 _ _ _ h4 h5, e32]
    by_cases e : a = r ∧ b = p
    · rw [if_pos e, if_pos e, if_pos (show 4 * a + b = 4 * r + p by omega), fl_at (show 16 * g + s < 128 by omega)]
      exact ⟨fun _ => rfl, fun w => absurd rfl w⟩
    · rw [if_neg e, if_neg e, if_neg (show ¬ 4 * a + b = 4 * r + p by omega)]
      exact hC.cl a b g s h1 h2 h3 h4 h5
  have hnbz : ∀ j q, q < 10 → nb (fqZ z r p) j q = if j = 4 * r + p then false else nb z j q := by
    intro j q hq
    unfold nb
    rw [fq_25 hq]
    show decide (z.1 0 < _) = _
    split
    · exact decide_eq_false (Int32.not_lt.mpr ht)
    · rfl
  have hnb : cNb n Q (fpV V r p 18) (fqZ z r p) := by
    intro a b h1 h2 h3
    have hR : nR (fqZ z r p) = nR z := rfl
    rw [fp_18]
    apply b_ext
    intro k hk
    rw [b_nbits (by rw [hR]; omega) hk, hR]
    by_cases hk10 : k < nR z
    · rw [hnbz _ _ (by omega)]
      by_cases e : a = r ∧ b = p
      · rw [if_pos e, if_pos (by omega), Bool.and_false]
        exact b_0 k
      · rw [if_neg e, if_neg (by omega), hC.nb a b h1 h2 h3, b_nbits (by omega) hk]
    · rw [decide_eq_false hk10, Bool.false_and]
      by_cases e : a = r ∧ b = p
      · rw [if_pos e]
        exact b_0 k
      · rw [if_neg e, hC.nb a b h1 h2 h3, b_nbits (by omega) hk, decide_eq_false hk10, Bool.false_and]
  have hk29 : cK29 n (V 12) (z.1 0) ((fqZ z r p).2 29) := by
    intro a b c l d e i m j
    rw [e29 _ _ _ e (yx_lt i)]
    split
    · exact ht
    · exact hC.k29 a b c l d e i m j
  have hk28 : cK28 n (V 12) (z.1 0) ((fqZ z r p).2 28) := by
    intro a b l d e i j
    rw [fq_28 e]
    split
    · exact ht
    · exact hC.k28 a b l d e i j
  have hk31 : cK31 n (V 12) (z.1 0) ((fqZ z r p).2 31) ((fqZ z r p).2 32) := by
    intro a b c l d e i m j
    rw [e31 _ _ _ e i, e32]
    split
    · exact Or.inl rfl
    · exact hC.k31 a b c l d e i m j
  have hk30 : cK30 n (V 12) (z.1 0) ((fqZ z r p).2 30) ((fqZ z r p).2 29) := by
    intro a b c l d e i m j
    have := e29 (4 * a + l) b 0 e (by decide)
    rw [Nat.add_zero] at this
    rw [e30 _ _ _ e i, this]
    split
    · exact Or.inl rfl
    · exact hC.k30 a b c l d e i m j
  have hun : cUn Q ((fqZ z r p).2 25) ((fqZ z r p).2 28) ((fqZ z r p).2 29) ((fqZ z r p).2 31) := by
    intro j hj hm
    obtain ⟨u1, u2, u3, u4⟩ := hC.un j hj hm
    have hn4 := hne j hm
    refine ⟨fun q hq => ?_, fun q hq => ?_, fun q hq => ?_, fun q hq => ?_⟩
    · rw [fq_25 hq, if_neg hn4]; exact u1 q hq
    · rw [fq_28 hq, if_neg hn4]; exact u2 q hq
    · rw [fq_29 hq, if_neg hn4]; exact u3 q hq
    · rw [fq_31 hq, if_neg hn4]; exact u4 q hq
  have hon : cOn ((fqZ z r p).2 25) := by
    intro a b h1 h2
    rw [fq_25 h1]
    split
    · rfl
    · exact hC.on a b h1 h2
  have hu2 : cU2 Q ((fqZ z r p).2 26) ((fqZ z r p).2 27) ((fqZ z r p).2 30) := by
    intro j hj hm
    obtain ⟨u1, u2, u3⟩ := hC.u2 j hj hm
    have hn4 := hne j hm
    refine ⟨?_, ?_, fun q hq => ?_⟩
    · rw [fq_26, if_neg hn4]; exact u1
    · rw [fq_27, if_neg hn4]; exact u2
    · rw [fq_30 hq, if_neg hn4]; exact u3 q hq
  have o : ∀ c, (c ≠ 25 ∧ c ≠ 26 ∧ c ≠ 27 ∧ c ≠ 28 ∧ c ≠ 29 ∧ c ≠ 30 ∧ c ≠ 31) → (fqZ z r p).2 c = z.2 c := fun c hc => fq_row hc
  unfold RC
  rw [o 8 (by decide), o 9 (by decide), o 10 (by decide), o 11 (by decide), o 12 (by decide), o 13 (by decide), o 14 (by decide), o 15 (by decide), o 16 (by decide), o 17 (by decide), o 18 (by decide), o 19 (by decide), o 20 (by decide), o 33 (by decide), o 34 (by decide), o 35 (by decide), o 36 (by decide), o 37 (by decide), o 38 (by decide), o 39 (by decide)]
  exact ⟨hC.tm, hC.nu, hC.tu, hC.nn, hC.ns, hC.qw, hC.qh, hC.wa, hC.mt, hC.hz, hC.wi, hC.su, hC.po, hC.fr, hC.fc, hC.pi, hC.md, hC.me, hC.fn, hC.id, hC.jb, hC.ja, hC.tc, hC.kp, hC.sp, hC.sb, (hpt), (hhe), (hqu), (hnt), (hnb), (hmb), (hjt), (hcf), (hcl), hC.ho, hC.go, hC.k33, hC.k39, hC.k37, (hk29), (hk28), (hk31), (hk30), (hun), (hon), (hu2), hC.g0, hC.jp, (cWs_t hC.ws ⟨rfl, o 8 (by decide), o 9 (by decide), o 10 (by decide)⟩)⟩
end
