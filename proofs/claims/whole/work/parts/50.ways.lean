/-! shortest ways: Bellman and Ford against Floyd and Warshall, over natural numbers -/
section
variable {N : Nat} {e : Nat → Nat → Nat → Bool} {c : Nat → Nat → Nat}
def ovN (e : Nat → Nat → Nat → Bool) (c : Nat → Nat → Nat) (F : Nat → Nat) (r p q : Nat) : Nat := if e r p q = true ∧ q ≠ r ∧ F q < 1000000 then c r p + F q else 1000000
def nyQ (e : Nat → Nat → Nat → Bool) (c : Nat → Nat → Nat) (r p : Nat) (F : Nat → Nat) : Nat → Nat → Nat
  | 0 => F
  | q + 1 => if ovN e c (nyQ e c r p F q) r p q < nyQ e c r p F q r then va_up (nyQ e c r p F q) r (ovN e c (nyQ e c r p F q) r p q) else nyQ e c r p F q
def nyP (N : Nat) (e : Nat → Nat → Nat → Bool) (c : Nat → Nat → Nat) (r : Nat) (F : Nat → Nat) : Nat → Nat → Nat
  | 0 => F
  | p + 1 => nyQ e c r p (nyP N e c r F p) N
def nyR (N : Nat) (e : Nat → Nat → Nat → Bool) (c : Nat → Nat → Nat) (F : Nat → Nat) : Nat → Nat → Nat
  | 0 => F
  | r + 1 => nyP N e c r (nyR N e c F r) 4
def nyN (N : Nat) (e : Nat → Nat → Nat → Bool) (c : Nat → Nat → Nat) (F : Nat → Nat) : Nat → Nat → Nat
  | 0 => F
  | n + 1 => nyR N e c (nyN N e c F n) N
theorem nyQ_le {r p : Nat} {F : Nat → Nat} : ∀ q x, nyQ e c r p F q x ≤ F x := by
  intro q
  induction q with
  | zero => intro x; exact Nat.le_refl _
  | succ q ih =>
    intro x
    unfold nyQ
    split
    · rename_i h
      unfold va_up
      split
      · rename_i hx
        rw [hx]
        exact Nat.le_trans (Nat.le_of_lt h) (ih r)
      · exact ih x
    · exact ih x
theorem nyP_le {r : Nat} {F : Nat → Nat} : ∀ p x, nyP N e c r F p x ≤ F x := by
  intro p
  induction p with
  | zero => intro x; exact Nat.le_refl _
  | succ p ih => intro x; exact Nat.le_trans (nyQ_le N x) (ih x)
theorem nyR_le {F : Nat → Nat} : ∀ r x, nyR N e c F r x ≤ F x := by
  intro r
  induction r with
  | zero => intro x; exact Nat.le_refl _
  | succ r ih => intro x; exact Nat.le_trans (nyP_le 4 x) (ih x)
theorem nyN_le {F : Nat → Nat} : ∀ n x, nyN N e c F n x ≤ F x := by
  intro n
  induction n with
  | zero => intro x; exact Nat.le_refl _
  | succ n ih => intro x; exact Nat.le_trans (nyR_le N x) (ih x)
theorem ov_mono {F F' : Nat → Nat} {r p q v : Nat} (h : ∀ x, F' x ≤ F x) (hv : v ≤ ovN e c F' r p q) (h1 : v ≤ 1000000) : v ≤ ovN e c F r p q := by
  unfold ovN at hv ⊢
  have hq := h q
  by_cases a : e r p q = true ∧ q ≠ r ∧ F q < 1000000
  · rw [if_pos a]
    rw [if_pos ⟨a.1, a.2.1, by omega⟩] at hv
    omega
  · rw [if_neg a]
    exact h1
theorem nyQ_rel {r p : Nat} {F : Nat → Nat} (hF : F r ≤ 1000000) : ∀ q q', q' < q → nyQ e c r p F q r ≤ ovN e c F r p q' := by
  intro q
  induction q with
  | zero => intro q' h; omega
  | succ q ih =>
    intro q' hq
    have h1 : nyQ e c r p F (q + 1) r ≤ nyQ e c r p F q r := by
      show (if ovN e c (nyQ e c r p F q) r p q < nyQ e c r p F q r then va_up (nyQ e c r p F q) r (ovN e c (nyQ e c r p F q) r p q) else nyQ e c r p F q) r ≤ _
      split
      · rename_i h
        unfold va_up
        rw [if_pos rfl]
        exact Nat.le_of_lt h
      · exact Nat.le_refl _
    by_cases he : q' = q
    · subst he
      refine ov_mono (F' := nyQ e c r p F q') (nyQ_le q') ?_ (Nat.le_trans h1 (Nat.le_trans (nyQ_le q' r) hF))
      show (if ovN e c (nyQ e c r p F q') r p q' < nyQ e c r p F q' r then va_up (nyQ e c r p F q') r (ovN e c (nyQ e c r p F q') r p q') else nyQ e c r p F q') r ≤ _
      split
      · unfold va_up
        rw [if_pos rfl]
        exact Nat.le_refl _
      · rename_i h
        exact Nat.not_lt.mp h
    · exact Nat.le_trans h1 (ih q' (by omega))
theorem nyP_rel {r : Nat} {F : Nat → Nat} (hF : F r ≤ 1000000) : ∀ p p' q', p' < p → q' < N → nyP N e c r F p r ≤ ovN e c F r p' q' := by
  intro p
  induction p with
  | zero => intro p' q' h; omega
  | succ p ih =>
    intro p' q' hp hq
    have h2 : nyP N e c r F p r ≤ 1000000 := Nat.le_trans (nyP_le p r) hF
    by_cases he : p' = p
    · subst he
      exact ov_mono (nyP_le p') (nyQ_rel h2 N q' hq) (Nat.le_trans (nyQ_le N r) h2)
    · exact Nat.le_trans (nyQ_le N r) (ih p' q' (by omega) hq)
theorem nyR_rel {F : Nat → Nat} (hF : ∀ x, F x ≤ 1000000) : ∀ r r' p' q', r' < r → p' < 4 → q' < N → nyR N e c F r r' ≤ ovN e c F r' p' q' := by
  intro r
  induction r with
  | zero => intro r' p' q' h; omega
  | succ r ih =>
    intro r' p' q' hr hp hq
    by_cases he : r' = r
    · subst he
      have h2 : nyR N e c F r' r' ≤ 1000000 := Nat.le_trans (nyR_le r' r') (hF r')
      exact ov_mono (nyR_le r') (nyP_rel h2 4 p' q' hp hq) (Nat.le_trans (nyP_le 4 r') h2)
    · exact Nat.le_trans (nyP_le 4 r') (ih r' p' q' (by omega) hp hq)
/-- D is below what it is compared with, where the numbers count -/
def clo (N : Nat) (e : Nat → Nat → Nat → Bool) (c : Nat → Nat → Nat) (D : Nat → Nat) : Prop := ∀ r p q, r < N → p < 4 → q < N → e r p q = true → q ≠ r → D q < 1000000 → D r ≤ c r p + D q
theorem nyQ_lo {r p : Nat} {F D : Nat → Nat} (hD : clo N e c D) (hI : ∀ x, x < N → D x ≤ 1000000) (hr : r < N) (hp : p < 4) (h : ∀ x, x < N → D x ≤ F x) : ∀ q, q ≤ N → ∀ x, x < N → D x ≤ nyQ e c r p F q x := by
  intro q
  induction q with
  | zero => intro _ x hx; exact h x hx
  | succ q ih =>
    intro hq x hx
    have h1 := ih (by omega)
    unfold nyQ
    split
    · unfold va_up
      split
      · rename_i hx2
        rw [hx2]
        unfold ovN
        split
        · rename_i a
          have := h1 q (by omega)
          have := hD r p q hr hp (by omega) a.1 a.2.1 (by omega)
          omega
        · exact hI r hr
      · exact h1 x hx
    · exact h1 x hx
theorem nyP_lo {r : Nat} {F D : Nat → Nat} (hD : clo N e c D) (hI : ∀ x, x < N → D x ≤ 1000000) (hr : r < N) (h : ∀ x, x < N → D x ≤ F x) : ∀ p, p ≤ 4 → ∀ x, x < N → D x ≤ nyP N e c r F p x := by
  intro p
  induction p with
  | zero => intro _ x hx; exact h x hx
  | succ p ih => intro hp x hx; exact nyQ_lo hD hI hr (by omega) (ih (by omega)) N (Nat.le_refl _) x hx
theorem nyR_lo {F D : Nat → Nat} (hD : clo N e c D) (hI : ∀ x, x < N → D x ≤ 1000000) (h : ∀ x, x < N → D x ≤ F x) : ∀ r, r ≤ N → ∀ x, x < N → D x ≤ nyR N e c F r x := by
  intro r
  induction r with
  | zero => intro _ x hx; exact h x hx
  | succ r ih => intro hr x hx; exact nyP_lo hD hI (by omega) (ih (by omega)) 4 (Nat.le_refl _) x hx
def neN (F D : Nat → Nat) : Nat → Nat
  | 0 => 0
  | n + 1 => neN F D n + (if F n = D n then 0 else 1)
theorem neN_le {F F' D : Nat → Nat} : ∀ n, (∀ r, r < n → F r = D r → F' r = D r) → neN F' D n ≤ neN F D n := by
  intro n
  induction n with
  | zero => intro _; exact Nat.le_refl _
  | succ n ih =>
    intro h
    have h1 := ih (fun r hr => h r (by omega))
    show neN F' D n + (if F' n = D n then 0 else 1) ≤ neN F D n + (if F n = D n then 0 else 1)
    by_cases a : F n = D n
    · rw [if_pos a, if_pos (h n (by omega) a)]; exact h1
    · rw [if_neg a]
      split <;> omega
theorem neN_lt {F F' D : Nat → Nat} : ∀ n, (∀ r, r < n → F r = D r → F' r = D r) → (∃ r, r < n ∧ F r ≠ D r ∧ F' r = D r) → neN F' D n < neN F D n := by
  intro n
  induction n with
  | zero => intro _ ⟨r, h, _⟩; omega
  | succ n ih =>
    intro h ⟨r, hr, h1, h2⟩
    show neN F' D n + (if F' n = D n then 0 else 1) < neN F D n + (if F n = D n then 0 else 1)
    by_cases he : r = n
    · subst he
      have := neN_le (F := F) (F' := F') (D := D) r (fun x hx => h x (by omega))
      rw [if_pos h2, if_neg h1]
      omega
    · have := ih (fun x hx => h x (by omega)) ⟨r, by omega, h1, h2⟩
      by_cases a : F n = D n
      · rw [if_pos a, if_pos (h n (by omega) a)]; omega
      · rw [if_neg a]
        split <;> omega
theorem neN_n {F D : Nat → Nat} : ∀ n, neN F D n ≤ n := by
  intro n
  induction n with
  | zero => exact Nat.le_refl _
  | succ n ih =>
    show neN F D n + (if F n = D n then 0 else 1) ≤ n + 1
    split <;> omega
theorem neN_0 {F D : Nat → Nat} : ∀ n, neN F D n = 0 → ∀ r, r < n → F r = D r := by
  intro n
  induction n with
  | zero => intro _ r h; omega
  | succ n ih =>
    intro h r hr
    have h1 : neN F D n + (if F n = D n then 0 else 1) = 0 := h
    by_cases a : F n = D n
    · by_cases he : r = n
      · rw [he]; exact a
      · exact ih (by omega) r (by omega)
    · rw [if_neg a] at h1
      omega
/-- D solves Bellman's equation, with the places A at 0 -/
def BS (N : Nat) (e : Nat → Nat → Nat → Bool) (c : Nat → Nat → Nat) (A : Nat → Bool) (D : Nat → Nat) : Prop :=
  (∀ r, r < N → A r = true → D r = 0) ∧ (∀ r, r < N → D r ≤ 1000000) ∧ clo N e c D ∧ (∀ r, r < N → A r = false → D r < 1000000 → ∃ p q, p < 4 ∧ q < N ∧ e r p q = true ∧ q ≠ r ∧ D q < 1000000 ∧ c r p + D q ≤ D r)
theorem BF_ok {A : Nat → Bool} {D : Nat → Nat} (hc : ∀ r p q, r < N → p < 4 → e r p q = true → 1 ≤ c r p) (h : BS N e c A D) : ∀ r, r < N → nyN N e c (fun r => if A r = true then 0 else 1000000) N r = D r := by
  obtain ⟨hA, hI, hC, hE⟩ := h
  have hF0 : ∀ x, (fun r => if A r = true then 0 else 1000000) x ≤ 1000000 := by
    intro x
    show (if A x = true then 0 else 1000000) ≤ 1000000
    split <;> omega
  have key : ∀ n, (∀ x, x < N → D x ≤ nyN N e c (fun r => if A r = true then 0 else 1000000) n x) ∧ neN (nyN N e c (fun r => if A r = true then 0 else 1000000) n) D N ≤ N - n := by
    intro n
    induction n with
    | zero =>
      refine ⟨fun x hx => ?_, neN_n N⟩
      show D x ≤ if A x = true then 0 else 1000000
      split
      · rename_i a; rw [hA x hx a]; exact Nat.le_refl _
      · exact hI x hx
    | succ n ih =>
      obtain ⟨i1, i2⟩ := ih
      generalize hG : nyN N e c (fun r => if A r = true then 0 else 1000000) n = F at i1 i2
      have hFI : ∀ x, F x ≤ 1000000 := fun x => by rw [← hG]; exact Nat.le_trans (nyN_le n x) (hF0 x)
      have hFA : ∀ x, A x = true → F x = 0 := by
        intro x a
        have h1 := nyN_le (N := N) (e := e) (c := c) (F := fun r => if A r = true then 0 else 1000000) n x
        rw [hG] at h1
        have h2 : F x ≤ if A x = true then 0 else 1000000 := h1
        rw [if_pos a] at h2
        omega
      have e1 : nyN N e c (fun r => if A r = true then 0 else 1000000) (n + 1) = nyR N e c F N := by
        show nyR N e c (nyN N e c (fun r => if A r = true then 0 else 1000000) n) N = _
        rw [hG]
      rw [e1]
      have l1 := nyR_lo hC hI i1 N (Nat.le_refl _)
      refine ⟨l1, ?_⟩
      have keep : ∀ r, r < N → F r = D r → nyR N e c F N r = D r := by
        intro r hr hx
        have := l1 r hr
        have := nyR_le (N := N) (e := e) (c := c) (F := F) N r
        omega
      by_cases hz : neN F D N = 0
      · have := neN_le N keep
        omega
      · have hex : ∃ k, ∃ r, r < N ∧ F r ≠ D r ∧ D r = k := by
          refine Classical.byContradiction (fun hno => hz ?_)
          have hall : ∀ r, r < N → F r = D r := fun r hr => Classical.byContradiction (fun hx => hno ⟨D r, r, hr, hx, rfl⟩)
          have := neN_le (F := D) (F' := F) (D := D) N (fun r hr _ => hall r hr)
          have hDD : ∀ n, neN D D n = 0 := by
            intro n
            induction n with
            | zero => rfl
            | succ n ih => show neN D D n + (if D n = D n then 0 else 1) = 0; rw [if_pos rfl, ih]
          rw [hDD] at this
          omega
        obtain ⟨k, ⟨r, hr, hx, hk⟩, hmin⟩ := pk_least _ hex
        have hlt : D r < 1000000 := by
          have := hI r hr
          have := hFI r
          have := i1 r hr
          omega
        have hnA : A r = false := by
          cases ha : A r with
          | false => rfl
          | true =>
            have := hFA r ha
            have := hA r hr ha
            omega
        obtain ⟨p, q, hp, hq, he, hne, hqI, hle⟩ := hE r hr hnA hlt
        have hc1 := hc r p q hr hp he
        have hqx : F q = D q := Classical.byContradiction (fun hb => hmin (D q) (by omega) ⟨q, hq, hb, rfl⟩)
        have h1 := nyR_rel (N := N) (e := e) (c := c) hFI N r p q hr hp hq
        have h2 : ovN e c F r p q = c r p + D q := by
          unfold ovN
          rw [if_pos ⟨he, hne, by rw [hqx]; exact hqI⟩, hqx]
        rw [h2] at h1
        have h3 : nyR N e c F N r = D r := by
          have := l1 r hr
          omega
        have := neN_lt N keep ⟨r, hr, hx, h3⟩
        omega
  intro r hr
  have h1 := (key N).2
  exact neN_0 N (by omega) r hr
/-! Floyd and Warshall -/
def fwS (M : Nat → Nat → Nat) (k : Nat) : Nat → Nat → Nat := fun r t => min (M r t) (M r k + M k t)
def fwK (M : Nat → Nat → Nat) : Nat → Nat → Nat → Nat
  | 0 => M
  | k + 1 => fwS (fwK M k) k
def FWI (N : Nat) (e : Nat → Nat → Nat → Bool) (c : Nat → Nat → Nat) (M : Nat → Nat → Nat) (k : Nat) : Prop :=
  (∀ r, r < N → M r r = 0) ∧ (∀ r t, r < N → t < N → M r t ≤ 9999 ∧ (M r t < 9999 → M r t ≤ 9 * 2 ^ k)) ∧ (∀ j r t, j < k → r < N → t < N → M r t ≤ M r j + M j t) ∧ (∀ r p t, r < N → p < 4 → t < N → e r p t = true → t ≠ r → M r t ≤ c r p) ∧ (∀ r t, r < N → t < N → r ≠ t → M r t < 9999 → ∃ p q, p < 4 ∧ q < N ∧ e r p q = true ∧ q ≠ r ∧ c r p + M q t ≤ M r t)
theorem FWI_s {M : Nat → Nat → Nat} {k : Nat} (h : FWI N e c M k) (hk : k < N) (hk9 : k < 10) : FWI N e c (fwS M k) (k + 1) := by
  obtain ⟨h1, h2, h3, h4, h5⟩ := h
  have e1 : ∀ r t, fwS M k r t = min (M r t) (M r k + M k t) := fun _ _ => rfl
  have hkk := h1 k hk
  have hpow : 2 ^ (k + 1) = 2 * 2 ^ k := by rw [Nat.pow_succ]; omega
  refine ⟨?_, ?_, ?_, ?_, ?_⟩
  · intro r hr
    rw [e1, h1 r hr]
    omega
  · intro r t hr ht
    rw [e1]
    have a1 := h2 r t hr ht
    have a2 := h2 r k hr hk
    have a3 := h2 k t hk ht
    rw [hpow]
    generalize 2 ^ k = P at *
    omega
  · intro j r t hj hr ht
    rw [e1, e1, e1]
    by_cases hje : j = k
    · subst hje
      rw [hkk]
      omega
    · have b1 := h3 j r t (by omega) hr ht
      have b2 := h3 j k t (by omega) hk ht
      have b3 := h3 j r k (by omega) hr hk
      omega
  · intro r p t hr hp ht he hne
    rw [e1]
    have := h4 r p t hr hp ht he hne
    omega
  · intro r t hr ht hne hlt
    rw [e1] at hlt ⊢
    by_cases ha : M r t ≤ M r k + M k t
    · have e2 : min (M r t) (M r k + M k t) = M r t := by omega
      rw [e2] at hlt ⊢
      obtain ⟨p, q, hp, hq, he, hq2, hle⟩ := h5 r t hr ht hne hlt
      refine ⟨p, q, hp, hq, he, hq2, ?_⟩
      rw [e1]
      omega
    · have e2 : min (M r t) (M r k + M k t) = M r k + M k t := by omega
      rw [e2] at hlt ⊢
      have hrk : r ≠ k := by
        intro hx
        subst hx
        omega
      obtain ⟨p, q, hp, hq, he, hq2, hle⟩ := h5 r k hr hk hrk (by omega)
      refine ⟨p, q, hp, hq, he, hq2, ?_⟩
      rw [e1]
      omega
theorem FWI_N {M : Nat → Nat → Nat} (h : FWI N e c M 0) (hN : N ≤ 10) : ∀ k, k ≤ N → FWI N e c (fwK M k) k := by
  intro k
  induction k with
  | zero => intro _; exact h
  | succ k ih => intro hk; exact FWI_s (ih (by omega)) (by omega) (by omega)
/-- the least of f over those that are in B -/
def mnB (B : Nat → Bool) (f : Nat → Nat) : Nat → Nat
  | 0 => 9999
  | b + 1 => if B b = true then min (mnB B f b) (f b) else mnB B f b
theorem mnB_le {B : Nat → Bool} {f : Nat → Nat} : ∀ n, mnB B f n ≤ 9999 ∧ ∀ b, b < n → B b = true → mnB B f n ≤ f b := by
  intro n
  induction n with
  | zero => exact ⟨Nat.le_refl _, fun b h => absurd h (Nat.not_lt_zero _)⟩
  | succ n ih =>
    unfold mnB
    split
    · rename_i hb
      refine ⟨by omega, fun b hb2 hB => ?_⟩
      by_cases he : b = n
      · rw [he]; omega
      · have := ih.2 b (by omega) hB
        omega
    · rename_i hb
      refine ⟨ih.1, fun b hb2 hB => ?_⟩
      by_cases he : b = n
      · rw [he] at hB; exact absurd hB hb
      · exact ih.2 b (by omega) hB
theorem mnB_at {B : Nat → Bool} {f : Nat → Nat} : ∀ n, mnB B f n < 9999 → ∃ b, b < n ∧ B b = true ∧ mnB B f n = f b := by
  intro n
  induction n with
  | zero => intro h; exact absurd h (Nat.lt_irrefl _)
  | succ n ih =>
    intro h
    unfold mnB at h ⊢
    split
    · rename_i hb
      rw [if_pos hb] at h
      by_cases hm : mnB B f n ≤ f n
      · obtain ⟨b, h1, h2, h3⟩ := ih (by omega)
        exact ⟨b, by omega, h2, by omega⟩
      · exact ⟨n, by omega, hb, by omega⟩
    · rename_i hb
      rw [if_neg hb] at h
      obtain ⟨b, h1, h2, h3⟩ := ih h
      exact ⟨b, by omega, h2, h3⟩
def toI (d : Nat) : Nat := if d < 9999 then d else 1000000
theorem BS_r {M : Nat → Nat → Nat} {t : Nat} (h : FWI N e c M N) (hN : N ≤ 10) (hc : ∀ r p q, r < N → p < 4 → e r p q = true → c r p ≤ 9) (ht : t < N) : BS N e c (fun r => decide (r = t)) (fun r => toI (M r t)) := by
  obtain ⟨h1, h2, h3, h4, h5⟩ := h
  have hpw : 2 ^ N ≤ 1024 := Nat.pow_le_pow_right (by decide) hN
  have fin : ∀ r, r < N → toI (M r t) < 1000000 → M r t < 9999 := by
    intro r hr hx
    unfold toI at hx
    split at hx
    · assumption
    · omega
  have fe : ∀ r, M r t < 9999 → toI (M r t) = M r t := fun r hx => if_pos hx
  refine ⟨?_, ?_, ?_, ?_⟩
  · intro r hr ha
    have : r = t := of_decide_eq_true ha
    subst this
    show toI (M r r) = 0
    rw [h1 r hr]
    rfl
  · intro r hr
    show toI (M r t) ≤ 1000000
    unfold toI
    split <;> omega
  · intro r p q hr hp hq he hne hx
    have h6 := fin q hq hx
    show toI (M r t) ≤ c r p + toI (M q t)
    rw [fe q h6]
    have a1 := h4 r p q hr hp hq he hne
    have a2 := h3 q r t hq hr ht
    have a3 := hc r p q hr hp he
    have a4 := (h2 q t hq ht).2 h6
    rw [fe r (by omega)]
    omega
  · intro r hr ha hx
    have hne : r ≠ t := of_decide_eq_false ha
    have h6 := fin r hr hx
    obtain ⟨p, q, hp, hq, he, hq2, hle⟩ := h5 r t hr ht hne h6
    refine ⟨p, q, hp, hq, he, hq2, ?_, ?_⟩
    · show toI (M q t) < 1000000
      rw [fe q (by omega)]
      omega
    · show c r p + toI (M q t) ≤ toI (M r t)
      rw [fe q (by omega), fe r h6]
      exact hle
theorem BS_w {M : Nat → Nat → Nat} {B : Nat → Bool} (h : FWI N e c M N) (hN : N ≤ 10) (hc : ∀ r p q, r < N → p < 4 → e r p q = true → c r p ≤ 9) : BS N e c B (fun r => toI (mnB B (M r) N)) := by
  obtain ⟨h1, h2, h3, h4, h5⟩ := h
  have hpw : 2 ^ N ≤ 1024 := Nat.pow_le_pow_right (by decide) hN
  have fin : ∀ r, r < N → toI (mnB B (M r) N) < 1000000 → mnB B (M r) N < 9999 := by
    intro r hr hx
    unfold toI at hx
    split at hx
    · assumption
    · omega
  have fe : ∀ r, mnB B (M r) N < 9999 → toI (mnB B (M r) N) = mnB B (M r) N := fun r hx => if_pos hx
  refine ⟨?_, ?_, ?_, ?_⟩
  · intro r hr ha
    show toI (mnB B (M r) N) = 0
    have a1 := (mnB_le (B := B) (f := M r) N).2 r hr ha
    rw [h1 r hr] at a1
    rw [fe r (by omega)]
    omega
  · intro r hr
    show toI (mnB B (M r) N) ≤ 1000000
    unfold toI
    split <;> omega
  · intro r p q hr hp hq he hne hx
    have h6 := fin q hq hx
    show toI (mnB B (M r) N) ≤ c r p + toI (mnB B (M q) N)
    rw [fe q h6]
    obtain ⟨b, hb, hB, eb⟩ := mnB_at N h6
    have a0 := (mnB_le (B := B) (f := M r) N).2 b hb hB
    have a1 := h4 r p q hr hp hq he hne
    have a2 := h3 q r b hq hr hb
    have a3 := hc r p q hr hp he
    have a4 := (h2 q b hq hb).2 (by omega)
    rw [fe r (by omega)]
    omega
  · intro r hr ha hx
    have h6 := fin r hr hx
    obtain ⟨b, hb, hB, eb⟩ := mnB_at N h6
    have hne : r ≠ b := by
      intro hx2
      rw [← hx2] at hB
      rw [ha] at hB
      cases hB
    obtain ⟨p, q, hp, hq, he, hq2, hle⟩ := h5 r b hr hb hne (by omega)
    have a0 := (mnB_le (B := B) (f := M q) N).2 b hb hB
    refine ⟨p, q, hp, hq, he, hq2, ?_, ?_⟩
    · show toI (mnB B (M q) N) < 1000000
      rw [fe q (by omega)]
      omega
    · show c r p + toI (mnB B (M q) N) ≤ toI (mnB B (M r) N)
      rw [fe q (by omega), fe r h6]
      omega
end
