/-! the reference's ways are the shortest ones -/
def eB (z : Sg) (r p q : Nat) : Bool := decide (upP z (4 * r + p)) && decide (pOn z q (z.2 8 (4 * r + p)) ≠ -1)
def cN (z : Sg) (r p : Nat) : Nat := (z.2 9 (4 * r + p)).toNatClampNeg
def CO (z : Sg) : Prop := ∀ j, j < 40 → z.2 8 j ≠ -1 → ∃ c, 1 ≤ c ∧ c ≤ 9 ∧ z.2 9 j = nI c
def lk (f : Nat → Int32) (F : Nat → Nat) : Prop := ∀ x, f x = nI (F x) ∧ F x ≤ 1000000
theorem CO_c {z : Sg} (h : CO z) {r p q : Nat} (hr : r < 10) (hp : p < 4) (he : eB z r p q = true) : 1 ≤ cN z r p ∧ cN z r p ≤ 9 ∧ z.2 9 (4 * r + p) = nI (cN z r p) := by
  unfold eB at he
  rw [Bool.and_eq_true, decide_eq_true_eq] at he
  obtain ⟨c, h1, h2, h3⟩ := h (4 * r + p) (by omega) he.1.1
  unfold cN
  rw [h3, nI_clamp (by omega)]
  exact ⟨h1, h2, rfl⟩
theorem lk_ovr {z : Sg} {f : Nat → Int32} {F : Nat → Nat} (hc : CO z) (h : lk f F) {r p q : Nat} (hr : r < 10) (hp : p < 4) : ovr z f r p q = nI (ovN (eB z) (cN z) F r p q) ∧ ovN (eB z) (cN z) F r p q ≤ 1000009 := by
  obtain ⟨h1, h2⟩ := h q
  unfold ovr ovN
  by_cases a : eB z r p q = true ∧ q ≠ r ∧ F q < 1000000
  · obtain ⟨c1, c2, c3⟩ := CO_c hc hr hp a.1
    rw [if_pos a]
    have ha := a.1
    unfold eB at ha
    rw [Bool.and_eq_true, decide_eq_true_eq, decide_eq_true_eq] at ha
    have hlt : ¬ (1000000 : Int32) ≤ f q := by
      rw [h1]
      exact nI_ge (b := 1000000) a.2.2 (by decide)
    rw [if_neg (fun o => o.elim (fun b => b ha.1) (fun o => o.elim a.2.1 (fun o => o.elim ha.2 hlt))), h1, c3, nI_add]
    exact ⟨rfl, by omega⟩
  · rw [if_neg a]
    refine ⟨?_, by omega⟩
    by_cases b : ¬ upP z (4 * r + p) ∨ q = r ∨ pOn z q (z.2 8 (4 * r + p)) = -1 ∨ 1000000 ≤ f q
    · rw [if_pos b]; rfl
    · refine absurd ?_ a
      have b1 : upP z (4 * r + p) := Decidable.not_not.mp (fun x => b (Or.inl x))
      have b2 : ¬ q = r := fun x => b (Or.inr (Or.inl x))
      have b3 : ¬ pOn z q (z.2 8 (4 * r + p)) = -1 := fun x => b (Or.inr (Or.inr (Or.inl x)))
      have b4 : ¬ (1000000 : Int32) ≤ f q := fun x => b (Or.inr (Or.inr (Or.inr x)))
      refine ⟨?_, b2, ?_⟩
      · unfold eB
        rw [decide_eq_true b1, decide_eq_true b3]
        rfl
      · rw [h1] at b4
        rcases Nat.lt_or_ge (F q) 1000000 with hx | hx
        · exact hx
        · exact absurd (nI_le (a := 1000000) hx (by omega)) b4
theorem lk_up {f : Nat → Int32} {F : Nat → Nat} {r v : Nat} (h : lk f F) (hv : v ≤ 1000000) : lk (va_up f r (nI v)) (va_up F r v) := by
  intro x
  unfold va_up
  by_cases hx : x = r
  · rw [if_pos hx, if_pos hx]; exact ⟨rfl, hv⟩
  · rw [if_neg hx, if_neg hx]; exact h x
theorem lk_Q {z : Sg} {r p : Nat} {f : Nat → Int32} {F : Nat → Nat} (hc : CO z) (h : lk f F) (hr : r < 10) (hp : p < 4) : ∀ q, lk (wyQ z r p f q) (nyQ (eB z) (cN z) r p F q) := by
  intro q
  induction q with
  | zero => exact h
  | succ q ih =>
    obtain ⟨o1, o2⟩ := lk_ovr (q := q) hc ih hr hp
    obtain ⟨i1, i2⟩ := ih r
    unfold wyQ nyQ
    by_cases a : ovN (eB z) (cN z) (nyQ (eB z) (cN z) r p F q) r p q < nyQ (eB z) (cN z) r p F q r
    · rw [if_pos a, o1, i1, if_pos (nI_lt a (by omega))]
      exact lk_up ih (by omega)
    · rw [if_neg a, o1, i1, if_neg (nI_nlt (Nat.not_lt.mp a) (by omega))]
      exact ih
theorem lk_P {z : Sg} {r : Nat} {f : Nat → Int32} {F : Nat → Nat} (hc : CO z) (h : lk f F) (hr : r < 10) : ∀ p, p ≤ 4 → lk (wyP z r f p) (nyP (nR z) (eB z) (cN z) r F p) := by
  intro p
  induction p with
  | zero => intro _; exact h
  | succ p ih => intro hp; exact lk_Q hc (ih (by omega)) hr (by omega) (nR z)
theorem lk_R {z : Sg} {f : Nat → Int32} {F : Nat → Nat} (hc : CO z) (h : lk f F) : ∀ r, r ≤ 10 → lk (wyR z f r) (nyR (nR z) (eB z) (cN z) F r) := by
  intro r
  induction r with
  | zero => intro _; exact h
  | succ r ih => intro hr; exact lk_P hc (ih (by omega)) (by omega) 4 (Nat.le_refl _)
theorem lk_N {z : Sg} {f : Nat → Int32} {F : Nat → Nat} (hc : CO z) (hn : nR z ≤ 10) (h : lk f F) : ∀ n, lk (wyN z f n) (nyN (nR z) (eB z) (cN z) F n) := by
  intro n
  induction n with
  | zero => exact h
  | succ n ih => exact lk_R hc ih (nR z) hn
theorem Dt_BS {z : Sg} {t : Nat} {D : Nat → Nat} (hc : CO z) (hn : nR z ≤ 10) (h : BS (nR z) (eB z) (cN z) (fun r => atB z r t) D) : ∀ r, r < nR z → Dt z t r = nI (D r) := by
  intro r hr
  have h0 : lk (wy0 z t) (fun r => if (fun r => atB z r t) r = true then 0 else 1000000) := by
    intro x
    show (if atT z x t then (0 : Int32) else 1000000) = nI (if atB z x t = true then 0 else 1000000) ∧ (if atB z x t = true then 0 else 1000000) ≤ 1000000
    unfold atB
    by_cases a : atT z x t
    · rw [if_pos a, decide_eq_true a]; exact ⟨rfl, by decide⟩
    · rw [if_neg a, decide_eq_false a]; exact ⟨rfl, by decide⟩
  have h1 := (lk_N hc hn h0 (nR z) r).1
  have hb := BF_ok (N := nR z) (e := eB z) (c := cN z) (A := fun r => atB z r t) (D := D) (fun r p q hr hp he => (CO_c hc (show r < 10 by omega) hp he).1) h r hr
  exact h1.trans (congrArg nI hb)
/-- the matrix -/
def m0 (z : Sg) (r t : Nat) : Nat := if t = r then 0 else mnB (fun p => eB z r p t) (fun p => cN z r p) 4
theorem m0_ok {z : Sg} (hc : CO z) (hn : nR z ≤ 10) : FWI (nR z) (eB z) (cN z) (m0 z) 0 := by
  refine ⟨fun r _ => if_pos rfl, ?_, fun j r t h => absurd h (Nat.not_lt_zero _), ?_, ?_⟩
  · intro r t hr ht
    unfold m0
    split
    · omega
    · refine ⟨(mnB_le 4).1, fun h => ?_⟩
      obtain ⟨p, hp, hB, e⟩ := mnB_at 4 h
      have := CO_c hc (show r < 10 by omega) hp hB
      omega
  · intro r p t hr hp ht he hne
    unfold m0
    rw [if_neg hne]
    exact (mnB_le 4).2 p hp he
  · intro r t hr ht hne h
    unfold m0 at h
    rw [if_neg (Ne.symm hne)] at h
    obtain ⟨p, hp, hB, e⟩ := mnB_at 4 h
    refine ⟨p, t, hp, ht, hB, Ne.symm hne, ?_⟩
    unfold m0
    rw [if_pos rfl, if_neg (Ne.symm hne), e]
    exact Nat.le_refl _
def fwZ (z : Sg) : Nat → Nat → Nat := fwK (m0 z) (nR z)
def dF (z : Sg) (r t : Nat) : Nat := if t < 10 then (if t < nR z then fwZ z r t else 9999) else mnB (fun b => atB z b t) (fwZ z r) (nR z)
theorem fw_ok {z : Sg} (hc : CO z) (hn : nR z ≤ 10) : FWI (nR z) (eB z) (cN z) (fwZ z) (nR z) := FWI_N (m0_ok hc hn) hn (nR z) (Nat.le_refl _)
theorem dF_BS {z : Sg} {t : Nat} (hc : CO z) (hn : nR z ≤ 10) : BS (nR z) (eB z) (cN z) (fun r => atB z r t) (fun r => toI (dF z r t)) := by
  have hc9 : ∀ r p q, r < nR z → p < 4 → eB z r p q = true → cN z r p ≤ 9 := fun r p q hr hp he => (CO_c hc (by omega) hp he).2.1
  unfold dF
  by_cases h1 : t < 10
  · have ea : ∀ r, atB z r t = decide (r = t) := by
      intro r
      unfold atB
      by_cases h : r = t
      · rw [decide_eq_true h, decide_eq_true (Or.inl ⟨h1, h.symm⟩)]
      · rw [decide_eq_false h, decide_eq_false (fun o => o.elim (fun a => h a.2.symm) (fun a => by omega))]
    rw [show (fun r => atB z r t) = (fun r => decide (r = t)) from funext ea]
    simp only [if_pos h1]
    by_cases h2 : t < nR z
    · simp only [if_pos h2]
      exact BS_r (fw_ok hc hn) hn hc9 h2
    · simp only [if_neg h2]
      refine ⟨fun r hr ha => ?_, fun r hr => Nat.le_refl _, fun r p q _ _ _ _ _ hx => absurd hx (by show ¬ toI 9999 < 1000000; decide), fun r _ _ hx => absurd hx (by show ¬ toI 9999 < 1000000; decide)⟩
      have : r = t := of_decide_eq_true ha
      omega
  · simp only [if_neg h1]
    exact BS_w (fw_ok hc hn) hn hc9
theorem dF_le {z : Sg} {r t : Nat} (hc : CO z) (hn : nR z ≤ 10) (hr : r < nR z) : dF z r t ≤ 9999 ∧ (dF z r t < 9999 → dF z r t ≤ 9216) := by
  have h := (fw_ok hc hn).2.1
  have hpw : 2 ^ nR z ≤ 1024 := Nat.pow_le_pow_right (by decide) hn
  unfold dF
  split
  · split
    · rename_i h2
      have := h r t hr h2
      omega
    · omega
  · refine ⟨(mnB_le (nR z)).1, fun hx => ?_⟩
    obtain ⟨b, hb, hB, e⟩ := mnB_at (nR z) hx
    rw [e] at hx ⊢
    have := (h r b hr hb).2 hx
    omega
theorem Wd_e {z : Sg} {r t : Nat} (hc : CO z) (hn : nR z ≤ 10) (hr : r < nR z) (ht : t < 26) : Wd z (26 * r + t) = nI (toI (dF z r t)) := by
  rw [← Dt_e ht]
  exact Dt_BS hc hn (dF_BS hc hn) r hr
theorem DB_ok {z : Sg} (hc : CO z) (hn : nR z ≤ 10) : DB z := by
  intro k hk
  have e : k = 26 * (k / 26) + k % 26 := by omega
  rw [e]
  refine ⟨_, Wd_e hc hn (by omega) (by omega), ?_⟩
  have := dF_le (t := k % 26) hc hn (show k / 26 < nR z by omega)
  unfold toI
  split
  · exact Or.inr (by assumption)
  · exact Or.inl rfl
/-! the first pair that keeps to the distance -/
def scQ (P : Nat → Nat → Bool) (p : Nat) (b : Int32 × Int32) : Nat → Int32 × Int32
  | 0 => b
  | q + 1 => if (scQ P p b q).1 = -1 ∧ P p q = true then (nI p, nI q) else scQ P p b q
def scP (P : Nat → Nat → Bool) (N : Nat) : Nat → Int32 × Int32
  | 0 => (-1, -1)
  | p + 1 => scQ P p (scP P N p) N
def fitP (z : Sg) (r t p q : Nat) : Bool := eB z r p q && decide (q ≠ r) && decide (cN z r p + dF z q t = dF z r t)
def bsI (D : Nat) (b : Int32 × Int32 × Int32) (s : Int32 × Int32) : Prop := (s = (-1, -1) ∧ nI D < b.1) ∨ (s.1 ≠ -1 ∧ b = (nI D, s.1, s.2))
theorem fit_ov {z : Sg} {r t p q : Nat} (hc : CO z) (hn : nR z ≤ 10) (hr : r < nR z) (hp : p < 4) (hq : q < nR z) (hD : dF z r t < 9999) : dF z r t ≤ ovN (eB z) (cN z) (fun r => toI (dF z r t)) r p q ∧ (fitP z r t p q = true ↔ ovN (eB z) (cN z) (fun r => toI (dF z r t)) r p q = dF z r t) := by
  have hB := dF_BS (t := t) hc hn
  have hDr := dF_le (t := t) hc hn hr
  have hDq := dF_le (t := t) hc hn hq
  have er : toI (dF z r t) = dF z r t := if_pos hD
  unfold ovN fitP
  by_cases a : eB z r p q = true ∧ q ≠ r ∧ toI (dF z q t) < 1000000
  · have hf : dF z q t < 9999 := by
      have h2 := a.2.2
      unfold toI at h2
      split at h2
      · assumption
      · omega
    have eq2 : toI (dF z q t) = dF z q t := if_pos hf
    have hcl := hB.2.2.1 r p q hr hp hq a.1 a.2.1 a.2.2
    have hcl2 : toI (dF z r t) ≤ cN z r p + toI (dF z q t) := hcl
    show dF z r t ≤ (if eB z r p q = true ∧ q ≠ r ∧ toI (dF z q t) < 1000000 then cN z r p + toI (dF z q t) else 1000000) ∧ (_ ↔ (if eB z r p q = true ∧ q ≠ r ∧ toI (dF z q t) < 1000000 then cN z r p + toI (dF z q t) else 1000000) = _)
    rw [if_pos a, eq2]
    rw [er, eq2] at hcl2
    refine ⟨hcl2, ?_⟩
    rw [a.1, decide_eq_true a.2.1, Bool.true_and, Bool.true_and, decide_eq_true_eq]
  · show dF z r t ≤ (if eB z r p q = true ∧ q ≠ r ∧ toI (dF z q t) < 1000000 then cN z r p + toI (dF z q t) else 1000000) ∧ (_ ↔ (if eB z r p q = true ∧ q ≠ r ∧ toI (dF z q t) < 1000000 then cN z r p + toI (dF z q t) else 1000000) = _)
    rw [if_neg a]
    refine ⟨by omega, ⟨fun h => ?_, fun h => by omega⟩⟩
    rw [Bool.and_eq_true, Bool.and_eq_true, decide_eq_true_eq, decide_eq_true_eq] at h
    refine absurd ⟨h.1.1, h.1.2, ?_⟩ a
    have : dF z q t < 9999 := by omega
    rw [show toI (dF z q t) = dF z q t from if_pos this]
    omega
theorem bst_sc {z : Sg} {r t p : Nat} (hc : CO z) (hn : nR z ≤ 10) (hr : r < nR z) (hp : p < 4) (hD : dF z r t < 9999) {b : Int32 × Int32 × Int32} {s : Int32 × Int32} (h : bsI (dF z r t) b s) : ∀ q, q ≤ nR z → bsI (dF z r t) (bstQ z (Dt z t) r p b q) (scQ (fitP z r t) p s q) := by
  intro q
  induction q with
  | zero => intro _; exact h
  | succ q ih =>
    intro hq
    have ih2 := ih (by omega)
    have hDr := dF_le (t := t) hc hn hr
    obtain ⟨f1, f2⟩ := fit_ov (p := p) hc hn hr hp (show q < nR z by omega) hD
    have eo : ovr z (Dt z t) r p q = nI (ovN (eB z) (cN z) (fun r => toI (dF z r t)) r p q) := by
      have h1 : ovr z (Dt z t) r p q = ovr z (fun x => nI (toI (dF z x t))) r p q := by
        unfold ovr
        rw [Dt_BS hc hn (dF_BS hc hn) q (by omega)]
      rw [h1]
      refine (lk_ovr hc (fun x => ⟨rfl, ?_⟩) (by omega) hp).1
      unfold toI
      split <;> omega
    have ho : ovN (eB z) (cN z) (fun r => toI (dF z r t)) r p q ≤ 1000009 := by
      refine (lk_ovr (f := fun x => nI (toI (dF z x t))) hc (fun x => ⟨rfl, ?_⟩) (by omega) hp).2
      unfold toI
      split <;> omega
    generalize ovN (eB z) (cN z) (fun r => toI (dF z r t)) r p q = o at f1 f2 eo ho
    unfold bstQ scQ
    rw [eo]
    generalize bstQ z (Dt z t) r p b q = bb at ih2 ⊢
    generalize scQ (fitP z r t) p s q = ss at ih2 ⊢
    rcases ih2 with ⟨i1, i2⟩ | ⟨i1, i2⟩
    · cases hf : fitP z r t p q with
      | true =>
        have hoe := f2.mp hf
        rw [hoe, if_neg (Int32.not_le.mpr i2), if_pos (show ss.1 = -1 ∧ true = true from ⟨by rw [i1], rfl⟩)]
        exact Or.inr ⟨nI_m1 (by omega), rfl⟩
      | false =>
        have hoe : o ≠ dF z r t := fun hx => by rw [f2.mpr hx] at hf; cases hf
        rw [if_neg (show ¬ (ss.1 = -1 ∧ false = true) from fun hx => by cases hx.2)]
        refine Or.inl ⟨i1, ?_⟩
        split
        · exact i2
        · exact nI_lt (by omega) (by omega)
    · rw [if_neg (show ¬ (ss.1 = -1 ∧ fitP z r t p q = true) from fun hx => i1 hx.1), i2, if_pos (show ((nI (dF z r t), ss.1, ss.2) : Int32 × Int32 × Int32).1 ≤ nI o from nI_le f1 (by omega))]
      exact Or.inr ⟨i1, rfl⟩
theorem bst_scP {z : Sg} {r t : Nat} (hc : CO z) (hn : nR z ≤ 10) (hr : r < nR z) (hD : dF z r t < 9999) : ∀ p, p ≤ 4 → bsI (dF z r t) (bstP z (Dt z t) r p) (scP (fitP z r t) (nR z) p) := by
  intro p
  induction p with
  | zero => intro _; exact Or.inl ⟨rfl, nI_lt (b := 1000000) (by omega) (by decide)⟩
  | succ p ih => intro hp; exact bst_sc hc hn hr (by omega) hD (ih (by omega)) (nR z) (Nat.le_refl _)
theorem sc_hitQ {P : Nat → Nat → Bool} {p : Nat} {b : Int32 × Int32} (hp : p < 4) : ∀ q, q ≤ 10 → ((b.1 ≠ -1 ∨ ∃ q0, q0 < q ∧ P p q0 = true) → (scQ P p b q).1 ≠ -1) := by
  intro q
  induction q with
  | zero =>
    intro _ h
    rcases h with h | ⟨q0, h, -⟩
    · exact h
    · omega
  | succ q ih =>
    intro hq h
    unfold scQ
    by_cases a : (scQ P p b q).1 = -1 ∧ P p q = true
    · rw [if_pos a]; exact nI_m1 (by omega)
    · rw [if_neg a]
      intro hx
      have hno : ¬ P p q = true := fun hy => a ⟨hx, hy⟩
      refine ih (by omega) ?_ hx
      rcases h with h | ⟨q0, h1, h2⟩
      · exact Or.inl h
      · refine Or.inr ⟨q0, ?_, h2⟩
        rcases Nat.lt_or_ge q0 q with h3 | h3
        · exact h3
        · exact absurd (by rw [show q = q0 by omega]; exact h2) hno
theorem sc_hitP {P : Nat → Nat → Bool} {N : Nat} (hN : N ≤ 10) : ∀ p, p ≤ 4 → (∃ p0 q0, p0 < p ∧ q0 < N ∧ P p0 q0 = true) → (scP P N p).1 ≠ -1 := by
  intro p
  induction p with
  | zero => intro _ ⟨p0, q0, h, _⟩; omega
  | succ p ih =>
    intro hp ⟨p0, q0, h1, h2, h3⟩
    refine sc_hitQ (by omega) N hN ?_
    by_cases he : p0 = p
    · exact Or.inr ⟨q0, h2, by rw [← he]; exact h3⟩
    · exact Or.inl (ih (by omega) ⟨p0, q0, by omega, h2, h3⟩)
theorem sc_noQ {P : Nat → Nat → Bool} {p : Nat} {b : Int32 × Int32} : ∀ q, (∀ q0, q0 < q → P p q0 = false) → scQ P p b q = b := by
  intro q
  induction q with
  | zero => intro _; rfl
  | succ q ih =>
    intro h
    unfold scQ
    rw [if_neg (fun hx => by rw [h q (by omega)] at hx; cases hx.2)]
    exact ih (fun q0 hq => h q0 (by omega))
theorem sc_noP {P : Nat → Nat → Bool} {N : Nat} : ∀ p, (∀ p0 q0, p0 < p → q0 < N → P p0 q0 = false) → scP P N p = (-1, -1) := by
  intro p
  induction p with
  | zero => intro _; rfl
  | succ p ih =>
    intro h
    show scQ P p (scP P N p) N = _
    rw [ih (fun p0 q0 hp hq => h p0 q0 (by omega) hq)]
    exact sc_noQ N (fun q0 hq => h p q0 (by omega) hq)
def cPt (z : Sg) (r t : Nat) : Int32 := if 10 ≤ t ∧ atT z r t then pOn z r (nI (t - 10)) else (scP (fitP z r t) (nR z) 4).1
def cRt (z : Sg) (r t : Nat) : Int32 := if 10 ≤ t ∧ atT z r t then -1 else (scP (fitP z r t) (nR z) 4).2
theorem fit_no {z : Sg} {r t : Nat} (hc : CO z) (hn : nR z ≤ 10) (hr : r < nR z) (h : dF z r t = 9999 ∨ dF z r t = 0) : ∀ p0 q0, p0 < 4 → q0 < nR z → fitP z r t p0 q0 = false := by
  intro p q hp hq
  cases hf : fitP z r t p q with
  | false => rfl
  | true =>
    unfold fitP at hf
    rw [Bool.and_eq_true, Bool.and_eq_true, decide_eq_true_eq, decide_eq_true_eq] at hf
    have h1 := CO_c hc (show r < 10 by omega) hp hf.1.1
    have h2 := dF_le (t := t) hc hn hq
    omega
theorem at_0 {z : Sg} {r t : Nat} (hc : CO z) (hn : nR z ≤ 10) (hr : r < nR z) (h : atT z r t) : dF z r t = 0 := by
  have h1 := (dF_BS (t := t) hc hn).1 r hr (decide_eq_true h)
  have h2 : toI (dF z r t) = 0 := h1
  unfold toI at h2
  split at h2
  · exact h2
  · omega
theorem Wpr_e {z : Sg} {r t : Nat} (hc : CO z) (hn : nR z ≤ 10) (hr : r < nR z) (ht : t < 26) : Wp z (26 * r + t) = cPt z r t ∧ Wr z (26 * r + t) = cRt z r t := by
  unfold Wp Wr cPt cRt
  rw [Wd_e hc hn hr ht, show (26 * r + t) % 26 = t by omega, show (26 * r + t) / 26 = r by omega]
  have hle := dF_le (t := t) hc hn hr
  by_cases hfar : dF z r t < 9999
  · have e1 : toI (dF z r t) = dF z r t := if_pos hfar
    have n1 : ¬ (1000000 : Int32) ≤ nI (dF z r t) := nI_ge (b := 1000000) (by omega) (by decide)
    rw [e1]
    by_cases htr : t = r
    · have hat : atT z r t := Or.inl ⟨by omega, htr⟩
      have h0 := at_0 hc hn hr hat
      rw [if_pos (Or.inr htr), if_pos (Or.inr (Or.inl htr)), if_neg (fun o => by omega), if_neg (fun o => by omega), sc_noP 4 (fit_no hc hn hr (Or.inr h0))]
      exact ⟨rfl, rfl⟩
    · rw [if_neg (fun o => o.elim n1 htr)]
      by_cases hat : atT z r t
      · have h10 : 10 ≤ t := hat.elim (fun a => absurd a.2 htr) (fun a => a.1)
        rw [if_pos hat, if_pos (Or.inr (Or.inr hat)), if_pos ⟨h10, hat⟩, if_pos ⟨h10, hat⟩]
        exact ⟨rfl, rfl⟩
      · rw [if_neg hat, if_neg (show ¬ ((1000000 : Int32) ≤ nI (dF z r t) ∨ t = r ∨ atT z r t) from fun o => o.elim n1 (fun o => o.elim htr hat)), if_neg (show ¬ (10 ≤ t ∧ atT z r t) from fun o => hat o.2), if_neg (show ¬ (10 ≤ t ∧ atT z r t) from fun o => hat o.2)]
        have hb := bst_scP (t := t) hc hn hr hfar 4 (Nat.le_refl _)
        obtain ⟨p, q, hp, hq, he, hqr, hqI, hle2⟩ := (dF_BS (t := t) hc hn).2.2.2 r hr (decide_eq_false hat) (by show toI (dF z r t) < 1000000; rw [e1]; omega)
        have hf : fitP z r t p q = true := by
          obtain ⟨f1, f2⟩ := fit_ov (p := p) hc hn hr hp hq hfar
          refine f2.mpr ?_
          have : ovN (eB z) (cN z) (fun r => toI (dF z r t)) r p q = cN z r p + toI (dF z q t) := by
            unfold ovN
            rw [if_pos ⟨he, hqr, hqI⟩]
          rw [this] at f1 ⊢
          have hle3 : cN z r p + toI (dF z q t) ≤ toI (dF z r t) := hle2
          rw [e1] at hle3
          omega
        have hh := sc_hitP (P := fitP z r t) hn 4 (Nat.le_refl _) ⟨p, q, hp, hq, hf⟩
        rcases hb with ⟨b1, -⟩ | ⟨-, b2⟩
        · exact absurd (by rw [b1]) hh
        · rw [b2]
          exact ⟨rfl, rfl⟩
  · have e1 : toI (dF z r t) = 1000000 := if_neg hfar
    have hnat : ¬ atT z r t := fun hx => by have := at_0 hc hn hr hx; omega
    rw [e1, if_pos (Or.inl (show (1000000 : Int32) ≤ nI 1000000 by decide)), if_pos (Or.inl (show (1000000 : Int32) ≤ nI 1000000 by decide)), if_neg (fun o => hnat o.2), if_neg (fun o => hnat o.2), sc_noP 4 (fit_no hc hn hr (Or.inl (by omega)))]
    exact ⟨rfl, rfl⟩
