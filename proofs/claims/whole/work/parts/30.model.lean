/-! THE REFERENCE'S STATE: numbers (by field) and rows of numbers (by field) -/
abbrev Sg : Type := (Nat → Int32) × (Nat → Nat → Int32)
def arrB (k : Nat) : Bool := decide (8 ≤ k ∧ k ≤ 39 ∧ k ≠ 21)
def kd (k : Nat) : Nat := if k = 10 then 12 else 11
def ln (k : Nat) : Nat := match k with
  | 8 => 40 | 9 => 40 | 10 => 16 | 11 => 16 | 12 => 8 | 13 => 16 | 14 => 16 | 15 => 6400 | 16 => 16 | 17 => 16 | 18 => 5120 | 19 => 16 | 20 => 5120
  | 22 => 260 | 23 => 260 | 24 => 260 | 25 => 400 | 26 => 40 | 27 => 40 | 28 => 320 | 29 => 5440 | 30 => 5120 | 31 => 5120 | 32 => 5120 | 33 => 1360 | 34 => 1360 | 35 => 1360 | 36 => 80 | 37 => 1280 | 38 => 1280 | 39 => 1280
  | _ => 0
def MS (x : Nat) (G : Hp) : Prop := hc G x = 10 ∧ (∀ k, arrB k = true → hc G (hr G x k) = kd k ∧ hl G (hr G x k) = ln k) ∧ ∀ k k', arrB k = true → arrB k' = true → hr G x k = hr G x k' → k = k'
def rowOf (x : Nat) (G : Hp) (a : Nat) : Option Nat := (List.range 40).find? (fun k => arrB k && (hr G x k == a))
def em (x : Nat) (G : Hp) (z : Sg) : Hp := (hc G, hl G, fun a => if a = x then z.1 else match rowOf x G a with | some k => z.2 k | none => hi G a, hr G, hn G, hs G)
def uS (z : Sg) (k : Nat) (v : Int32) : Sg := (va_up z.1 k v, z.2)
def uA (z : Sg) (k i : Nat) (v : Int32) : Sg := (z.1, u2 z.2 k i v)
theorem arrB_lt {k : Nat} (h : arrB k = true) : k < 40 := by
  have := of_decide_eq_true h
  omega
theorem rowOf_at {x : Nat} {G : Hp} (hM : MS x G) {k : Nat} (hk : arrB k = true) : rowOf x G (hr G x k) = some k := by
  unfold rowOf
  cases h : (List.range 40).find? (fun j => arrB j && (hr G x j == hr G x k)) with
  | none =>
    have h1 := List.find?_eq_none.mp h k (List.mem_range.mpr (arrB_lt hk))
    simp [hk] at h1
  | some j =>
    have h1 := List.find?_some h
    simp only [Bool.and_eq_true, beq_iff_eq] at h1
    rw [hM.2.2 j k h1.1 hk h1.2]
theorem MS.ne {x : Nat} {G : Hp} (hM : MS x G) {k : Nat} (hk : arrB k = true) : hr G x k ≠ x := by
  intro e
  have h1 := (hM.2.1 k hk).1
  rw [e, hM.1] at h1
  unfold kd at h1
  split at h1 <;> omega
theorem em_s {x : Nat} {G : Hp} {z : Sg} : hi (em x G z) x = z.1 := by
  show (if x = x then z.1 else _) = _
  rw [if_pos rfl]
theorem em_r {x : Nat} {G : Hp} {z : Sg} (hM : MS x G) {k : Nat} (hk : arrB k = true) : hi (em x G z) (hr G x k) = z.2 k := by
  show (if hr G x k = x then z.1 else _) = _
  rw [if_neg (hM.ne hk), rowOf_at hM hk]
theorem em_hr {x : Nat} {G : Hp} {z : Sg} : hr (em x G z) = hr G := rfl
theorem em_hc {x : Nat} {G : Hp} {z : Sg} : hc (em x G z) = hc G := rfl
theorem em_hl {x : Nat} {G : Hp} {z : Sg} : hl (em x G z) = hl G := rfl
theorem em_hn {x : Nat} {G : Hp} {z : Sg} : hn (em x G z) = hn G := rfl
theorem em_hs {x : Nat} {G : Hp} {z : Sg} : hs (em x G z) = hs G := rfl
theorem MS.em {x : Nat} {G : Hp} {z : Sg} (hM : MS x G) : MS x (em x G z) := hM
theorem em_uS {x : Nat} {G : Hp} {z : Sg} {k : Nat} {v : Int32} : sI (em x G z) x k v = em x G (uS z k v) := by
  unfold sI em uS
  refine congrArg (fun f => (hc G, hl G, f, hr G, hn G, hs G)) ?_
  funext a
  show u2 (hi (em x G z)) x k v a = _
  unfold u2
  by_cases ha : a = x
  · rw [if_pos ha, if_pos ha, em_s]
  · rw [if_neg ha, if_neg ha]
    show (if a = x then z.1 else _) = _
    rw [if_neg ha]
theorem em_uA {x : Nat} {G : Hp} {z : Sg} (hM : MS x G) {k i : Nat} {v : Int32} (hk : arrB k = true) : sI (em x G z) (hr G x k) i v = em x G (uA z k i v) := by
  unfold sI uA
  unfold em
  refine congrArg (fun f => (hc G, hl G, f, hr G, hn G, hs G)) ?_
  funext a
  show u2 (hi (em x G z)) (hr G x k) i v a = _
  unfold u2
  by_cases ha : a = hr G x k
  · subst ha
    rw [if_pos rfl, if_neg (hM.ne hk), rowOf_at hM hk, em_r hM hk]
    show _ = u2 z.2 k i v k
    unfold u2
    rw [if_pos rfl]
  · rw [if_neg ha]
    by_cases hx : a = x
    · rw [if_pos hx, hx, em_s]
    · rw [if_neg hx]
      show (if a = x then z.1 else _) = _
      rw [if_neg hx]
      cases h : rowOf x G a with
      | none => rfl
      | some j =>
        have h1 := List.find?_some h
        simp only [Bool.and_eq_true, beq_iff_eq] at h1
        have hj : j ≠ k := fun e => ha (by rw [← h1.2, e])
        show z.2 j = u2 z.2 k i v j
        unfold u2
        rw [if_neg hj]
theorem em_self {x : Nat} {G : Hp} : em x G (hi G x, fun k => hi G (hr G x k)) = G := by
  unfold em
  have e : (fun a => if a = x then hi G x else match rowOf x G a with | some k => hi G (hr G x k) | none => hi G a) = hi G := by
    funext a
    by_cases ha : a = x
    · rw [if_pos ha, ha]
    · rw [if_neg ha]
      cases h : rowOf x G a with
      | none => rfl
      | some j =>
        have h1 := List.find?_some h
        simp only [Bool.and_eq_true, beq_iff_eq] at h1
        show hi G (hr G x j) = _
        rw [h1.2]
  show (hc G, hl G, (fun a => if a = x then hi G x else match rowOf x G a with | some k => hi G (hr G x k) | none => hi G a), hr G, hn G, hs G) = G
  rw [e]
  rfl
theorem MS.kc {x : Nat} {G : Hp} (hM : MS x G) {k : Nat} (hk : arrB k = true) : hc G (hr G x k) = kd k := (hM.2.1 k hk).1
theorem MS.kl {x : Nat} {G : Hp} (hM : MS x G) {k : Nat} (hk : arrB k = true) : hl G (hr G x k) = ln k := (hM.2.1 k hk).2
/-! numbers -/
theorem gd_t {α : Type} {c : Prop} [Decidable c] {x : Option α} (h : c) : gd c x = x := if_pos h
theorem bd_e {α β : Type} (x : α) (f : α → Option β) : bd x f = f x := rfl
theorem bo_e {α β : Type} (x : α) (f : α → Option β) : bo (some x) f = f x := rfl
theorem b2_e {α β : Type} (x : α) (G : Hp) (f : α → Hp → Option β) : b2 (some (x, G)) f = f x G := rfl
theorem lm4 (n : Nat) : (4 : Int32) * nI n = nI (4 * n) := pk_mul 4 n
theorem lm8 (n : Nat) : (8 : Int32) * nI n = nI (8 * n) := pk_mul 8 n
theorem lm10 (n : Nat) : (10 : Int32) * nI n = nI (10 * n) := pk_mul 10 n
theorem lm16 (n : Nat) : (16 : Int32) * nI n = nI (16 * n) := pk_mul 16 n
theorem lm17 (n : Nat) : (17 : Int32) * nI n = nI (17 * n) := pk_mul 17 n
theorem lm26 (n : Nat) : (26 : Int32) * nI n = nI (26 * n) := pk_mul 26 n
theorem lm40 (n : Nat) : (40 : Int32) * nI n = nI (40 * n) := pk_mul 40 n
theorem lm400 (n : Nat) : (400 : Int32) * nI n = nI (400 * n) := pk_mul 400 n
theorem ix_nI {n m : Nat} (h : n < 2 ^ 31) : ix (nI n) m ↔ n < m := by
  unfold ix
  rw [nI_toInt h]
  omega
