/-! THE CLASS AT ITS START: where its cells lie, what stands in them -/
def oF (c i j : Nat) : Nat := match c with
  | 0 => 0
  | 1 => 2
  | 2 => 6
  | 3 => if j = 5 then 4 else if j = 6 then 5 else 7 + j
  | 4 => if j = 0 then 3 else if j = 1 then 76 else 1
  | 5 => 12 + 4 * i
  | 6 => 13 + 4 * i
  | 7 => if j = 0 then 15 + 4 * i else 14 + 4 * i
  | 9 => 127 + 51 * i
  | 10 => 77 + 51 * i
  | 11 => 78 + 51 * i
  | 12 => 79 + 51 * i + 6 * j
  | 13 => 80 + 51 * i + 6 * j
  | 14 => 81 + 51 * i + 6 * j
  | 15 => 82 + 51 * i + 6 * j
  | 16 => 83 + 51 * i + 6 * j
  | 17 => 84 + 51 * i + 6 * j
  | _ => 0
def o12 (d : Nat) : Option (Nat × Nat × Nat) := match d with
  | 0 => some (0, 0, 0)
  | 1 => some (4, 0, 2)
  | 2 => some (1, 0, 0)
  | 3 => some (4, 0, 0)
  | 4 => some (3, 0, 5)
  | 5 => some (3, 0, 6)
  | 6 => some (2, 0, 0)
  | 7 => some (3, 0, 0)
  | 8 => some (3, 0, 1)
  | 9 => some (3, 0, 2)
  | 10 => some (3, 0, 3)
  | 11 => some (3, 0, 4)
  | _ => none
def oW (e : Nat) : Option (Nat × Nat × Nat) := if e % 4 = 0 then some (5, e / 4, 0) else if e % 4 = 1 then some (6, e / 4, 0) else if e % 4 = 2 then some (7, e / 4, 1) else some (7, e / 4, 0)
def oR (e : Nat) : Option (Nat × Nat × Nat) := if e % 51 = 0 then some (10, e / 51, 0) else if e % 51 = 1 then some (11, e / 51, 0) else if e % 51 = 50 then some (9, e / 51, 0) else some (12 + (e % 51 - 2) % 6, e / 51, (e % 51 - 2) / 6)
def oU (n d : Nat) : Option (Nat × Nat × Nat) := if d < 12 then o12 d else if d < 76 then oW (d - 12) else if d = 76 then some (4, 0, 1) else if d < 77 + 51 * n then oR (d - 77) else none
def Ly0 (b n : Nat) : Ly := (fun c i j => b + oF c i j, fun a => if a < b then none else oU n (a - b))
def lv0 (Q : Qt) : Prop := (∀ v, qmd Q v = false) ∧ (∀ j, j < 40 → qpw Q j = -1) ∧ (∀ h, h < 16 → qhw Q h = -1) ∧ ∀ v, qcu Q v = 0
def Vt0 (n : Nat) : Vt := fun c i j => match c with
  | 0 => cF
  | 1 => nF
  | 2 => mwyF n
  | 3 => if j = 0 then flF (fun _ => 0) (-1) 40 else if j = 6 then flF (fun _ => 0) (-1) 16 else fun _ => 0
  | 5 => mwiF (nI i)
  | 6 => flF (fun _ => 0) (-1) 10
  | 9 => mroF (nI i)
  | 12 => mtrF (nI i) (nI j)
  | 13 => flF (fun _ => 0) (-1) 17
  | 17 => flF (fun _ => 0) (-1) 16
  | _ => fun _ => 0
section
variable {b n d c i j : Nat} {Q : Qt} {q : Nat × Nat × Nat}
theorem oU_s (h : oU n d = some q) : isL n Q q.1 q.2.1 q.2.2 ∧ oF q.1 q.2.1 q.2.2 = d ∧ d < 77 + 51 * n := by
  unfold oU at h
  by_cases d12 : d < 12
  · rw [if_pos d12] at h
    have hd : d = 0 ∨ d = 1 ∨ d = 2 ∨ d = 3 ∨ d = 4 ∨ d = 5 ∨ d = 6 ∨ d = 7 ∨ d = 8 ∨ d = 9 ∨ d = 10 ∨ d = 11 := by omega
    rcases hd with rfl | rfl | rfl | rfl | rfl | rfl | rfl | rfl | rfl | rfl | rfl | rfl
    · obtain rfl : (0, 0, 0) = q := Option.some.inj h
      exact ⟨⟨rfl, by decide⟩, rfl, by omega⟩
    · obtain rfl : (4, 0, 2) = q := Option.some.inj h
      exact ⟨⟨rfl, by decide⟩, rfl, by omega⟩
    · obtain rfl : (1, 0, 0) = q := Option.some.inj h
      exact ⟨⟨rfl, by decide⟩, rfl, by omega⟩
    · obtain rfl : (4, 0, 0) = q := Option.some.inj h
      exact ⟨⟨rfl, by decide⟩, rfl, by omega⟩
    · obtain rfl : (3, 0, 5) = q := Option.some.inj h
      exact ⟨⟨rfl, by decide⟩, rfl, by omega⟩
    · obtain rfl : (3, 0, 6) = q := Option.some.inj h
      exact ⟨⟨rfl, by decide⟩, rfl, by omega⟩
    · obtain rfl : (2, 0, 0) = q := Option.some.inj h
      exact ⟨⟨rfl, by decide⟩, rfl, by omega⟩
    · obtain rfl : (3, 0, 0) = q := Option.some.inj h
      exact ⟨⟨rfl, by decide⟩, rfl, by omega⟩
    · obtain rfl : (3, 0, 1) = q := Option.some.inj h
      exact ⟨⟨rfl, by decide⟩, rfl, by omega⟩
    · obtain rfl : (3, 0, 2) = q := Option.some.inj h
      exact ⟨⟨rfl, by decide⟩, rfl, by omega⟩
    · obtain rfl : (3, 0, 3) = q := Option.some.inj h
      exact ⟨⟨rfl, by decide⟩, rfl, by omega⟩
    · obtain rfl : (3, 0, 4) = q := Option.some.inj h
      exact ⟨⟨rfl, by decide⟩, rfl, by omega⟩
  · rw [if_neg d12] at h
    by_cases d76 : d < 76
    · rw [if_pos d76] at h
      unfold oW at h
      by_cases e0 : (d - 12) % 4 = 0
      · rw [if_pos e0] at h
        obtain rfl := Option.some.inj h
        exact ⟨⟨show (d - 12) / 4 < 16 by omega, rfl⟩, show 12 + 4 * ((d - 12) / 4) = d by omega, by omega⟩
      · rw [if_neg e0] at h
        by_cases e1 : (d - 12) % 4 = 1
        · rw [if_pos e1] at h
          obtain rfl := Option.some.inj h
          exact ⟨⟨show (d - 12) / 4 < 16 by omega, rfl⟩, show 13 + 4 * ((d - 12) / 4) = d by omega, by omega⟩
        · rw [if_neg e1] at h
          by_cases e2 : (d - 12) % 4 = 2
          · rw [if_pos e2] at h
            obtain rfl := Option.some.inj h
            exact ⟨⟨show (d - 12) / 4 < 16 by omega, show (1 : Nat) < 2 by decide⟩, show 14 + 4 * ((d - 12) / 4) = d by omega, by omega⟩
          · rw [if_neg e2] at h
            obtain rfl := Option.some.inj h
            exact ⟨⟨show (d - 12) / 4 < 16 by omega, show (0 : Nat) < 2 by decide⟩, show 15 + 4 * ((d - 12) / 4) = d by omega, by omega⟩
    · rw [if_neg d76] at h
      by_cases d77 : d = 76
      · rw [if_pos d77] at h
        obtain rfl := Option.some.inj h
        exact ⟨⟨rfl, show (1 : Nat) < 3 by decide⟩, d77.symm, by omega⟩
      · rw [if_neg d77] at h
        by_cases dn : d < 77 + 51 * n
        · rw [if_pos dn] at h
          unfold oR at h
          have lr : (d - 77) / 51 < n := by omega
          by_cases e0 : (d - 77) % 51 = 0
          · rw [if_pos e0] at h
            obtain rfl := Option.some.inj h
            exact ⟨⟨lr, rfl⟩, show 77 + 51 * ((d - 77) / 51) = d by omega, dn⟩
          · rw [if_neg e0] at h
            by_cases e1 : (d - 77) % 51 = 1
            · rw [if_pos e1] at h
              obtain rfl := Option.some.inj h
              exact ⟨⟨lr, rfl⟩, show 78 + 51 * ((d - 77) / 51) = d by omega, dn⟩
            · rw [if_neg e1] at h
              by_cases e5 : (d - 77) % 51 = 50
              · rw [if_pos e5] at h
                obtain rfl := Option.some.inj h
                exact ⟨⟨lr, rfl⟩, show 127 + 51 * ((d - 77) / 51) = d by omega, dn⟩
              · rw [if_neg e5] at h
                have lg : ((d - 77) % 51 - 2) / 6 < 8 := by omega
                have hk : ((d - 77) % 51 - 2) % 6 = 0 ∨ ((d - 77) % 51 - 2) % 6 = 1 ∨ ((d - 77) % 51 - 2) % 6 = 2 ∨ ((d - 77) % 51 - 2) % 6 = 3 ∨ ((d - 77) % 51 - 2) % 6 = 4 ∨ ((d - 77) % 51 - 2) % 6 = 5 := by omega
                rcases hk with hk | hk | hk | hk | hk | hk
                · rw [hk] at h
                  obtain rfl := Option.some.inj h
                  exact ⟨⟨lr, lg⟩, show 79 + 51 * ((d - 77) / 51) + 6 * (((d - 77) % 51 - 2) / 6) = d by omega, dn⟩
                · rw [hk] at h
                  obtain rfl := Option.some.inj h
                  exact ⟨⟨lr, lg⟩, show 80 + 51 * ((d - 77) / 51) + 6 * (((d - 77) % 51 - 2) / 6) = d by omega, dn⟩
                · rw [hk] at h
                  obtain rfl := Option.some.inj h
                  exact ⟨⟨lr, lg⟩, show 81 + 51 * ((d - 77) / 51) + 6 * (((d - 77) % 51 - 2) / 6) = d by omega, dn⟩
                · rw [hk] at h
                  obtain rfl := Option.some.inj h
                  exact ⟨⟨lr, lg⟩, show 82 + 51 * ((d - 77) / 51) + 6 * (((d - 77) % 51 - 2) / 6) = d by omega, dn⟩
                · rw [hk] at h
                  obtain rfl := Option.some.inj h
                  exact ⟨⟨lr, lg⟩, show 83 + 51 * ((d - 77) / 51) + 6 * (((d - 77) % 51 - 2) / 6) = d by omega, dn⟩
                · rw [hk] at h
                  obtain rfl := Option.some.inj h
                  exact ⟨⟨lr, lg⟩, show 84 + 51 * ((d - 77) / 51) + 6 * (((d - 77) % 51 - 2) / 6) = d by omega, dn⟩
        · rw [if_neg dn] at h
          cases h
theorem oU_l (hQ : lv0 Q) (hn10 : n ≤ 10) (h : isL n Q c i j) : oU n (oF c i j) = some (c, i, j) := by
  unfold isL at h
  split at h
  · obtain ⟨rfl, rfl⟩ := h
    rfl
  · obtain ⟨rfl, rfl⟩ := h
    rfl
  · obtain ⟨rfl, rfl⟩ := h
    rfl
  · obtain ⟨rfl, hj⟩ := h
    have hj : j = 0 ∨ j = 1 ∨ j = 2 ∨ j = 3 ∨ j = 4 ∨ j = 5 ∨ j = 6 := by omega
    rcases hj with rfl | rfl | rfl | rfl | rfl | rfl | rfl <;> rfl
  · obtain ⟨rfl, hj⟩ := h
    have hj : j = 0 ∨ j = 1 ∨ j = 2 := by omega
    rcases hj with rfl | rfl | rfl <;> rfl
  · obtain ⟨hi, rfl⟩ := h
    show oU n (12 + 4 * i) = some (5, i, 0)
    unfold oU oW
    rw [if_neg (by omega), if_pos (by omega), if_pos (by omega), show (12 + 4 * i - 12) / 4 = i by omega]
  · obtain ⟨hi, rfl⟩ := h
    show oU n (13 + 4 * i) = some (6, i, 0)
    unfold oU oW
    rw [if_neg (by omega), if_pos (by omega), if_neg (by omega), if_pos (by omega), show (13 + 4 * i - 12) / 4 = i by omega]
  · obtain ⟨hi, hj⟩ := h
    have hj : j = 0 ∨ j = 1 := by omega
    rcases hj with rfl | rfl
    · show oU n (15 + 4 * i) = some (7, i, 0)
      unfold oU oW
      rw [if_neg (by omega), if_pos (by omega), if_neg (by omega), if_neg (by omega), if_neg (by omega), show (15 + 4 * i - 12) / 4 = i by omega]
    · show oU n (14 + 4 * i) = some (7, i, 1)
      unfold oU oW
      rw [if_neg (by omega), if_pos (by omega), if_neg (by omega), if_neg (by omega), if_pos (by omega), show (14 + 4 * i - 12) / 4 = i by omega]
  · rw [hQ.1 i] at h
    cases h.2.2
  · obtain ⟨hi, rfl⟩ := h
    show oU n (127 + 51 * i) = some (9, i, 0)
    unfold oU oR
    rw [if_neg (by omega), if_neg (by omega), if_neg (by omega), if_pos (by omega), if_neg (by omega), if_neg (by omega), if_pos (by omega), show (127 + 51 * i - 77) / 51 = i by omega]
  · obtain ⟨hi, rfl⟩ := h
    show oU n (77 + 51 * i) = some (10, i, 0)
    unfold oU oR
    rw [if_neg (by omega), if_neg (by omega), if_neg (by omega), if_pos (by omega), if_pos (by omega), show (77 + 51 * i - 77) / 51 = i by omega]
  · obtain ⟨hi, rfl⟩ := h
    show oU n (78 + 51 * i) = some (11, i, 0)
    unfold oU oR
    rw [if_neg (by omega), if_neg (by omega), if_neg (by omega), if_pos (by omega), if_neg (by omega), if_pos (by omega), show (78 + 51 * i - 77) / 51 = i by omega]
  · obtain ⟨hi, hj⟩ := h
    show oU n (79 + 51 * i + 6 * j) = some (12, i, j)
    unfold oU oR
    rw [if_neg (by omega), if_neg (by omega), if_neg (by omega), if_pos (by omega), if_neg (by omega), if_neg (by omega), if_neg (by omega), show ((79 + 51 * i + 6 * j - 77) % 51 - 2) % 6 = 0 by omega, show (79 + 51 * i + 6 * j - 77) / 51 = i by omega, show ((79 + 51 * i + 6 * j - 77) % 51 - 2) / 6 = j by omega]
  · obtain ⟨hi, hj⟩ := h
    show oU n (80 + 51 * i + 6 * j) = some (13, i, j)
    unfold oU oR
    rw [if_neg (by omega), if_neg (by omega), if_neg (by omega), if_pos (by omega), if_neg (by omega), if_neg (by omega), if_neg (by omega), show ((80 + 51 * i + 6 * j - 77) % 51 - 2) % 6 = 1 by omega, show (80 + 51 * i + 6 * j - 77) / 51 = i by omega, show ((80 + 51 * i + 6 * j - 77) % 51 - 2) / 6 = j by omega]
  · obtain ⟨hi, hj⟩ := h
    show oU n (81 + 51 * i + 6 * j) = some (14, i, j)
    unfold oU oR
    rw [if_neg (by omega), if_neg (by omega), if_neg (by omega), if_pos (by omega), if_neg (by omega), if_neg (by omega), if_neg (by omega), show ((81 + 51 * i + 6 * j - 77) % 51 - 2) % 6 = 2 by omega, show (81 + 51 * i + 6 * j - 77) / 51 = i by omega, show ((81 + 51 * i + 6 * j - 77) % 51 - 2) / 6 = j by omega]
  · obtain ⟨hi, hj⟩ := h
    show oU n (82 + 51 * i + 6 * j) = some (15, i, j)
    unfold oU oR
    rw [if_neg (by omega), if_neg (by omega), if_neg (by omega), if_pos (by omega), if_neg (by omega), if_neg (by omega), if_neg (by omega), show ((82 + 51 * i + 6 * j - 77) % 51 - 2) % 6 = 3 by omega, show (82 + 51 * i + 6 * j - 77) / 51 = i by omega, show ((82 + 51 * i + 6 * j - 77) % 51 - 2) / 6 = j by omega]
  · obtain ⟨hi, hj⟩ := h
    show oU n (83 + 51 * i + 6 * j) = some (16, i, j)
    unfold oU oR
    rw [if_neg (by omega), if_neg (by omega), if_neg (by omega), if_pos (by omega), if_neg (by omega), if_neg (by omega), if_neg (by omega), show ((83 + 51 * i + 6 * j - 77) % 51 - 2) % 6 = 4 by omega, show (83 + 51 * i + 6 * j - 77) / 51 = i by omega, show ((83 + 51 * i + 6 * j - 77) % 51 - 2) / 6 = j by omega]
  · obtain ⟨hi, hj⟩ := h
    show oU n (84 + 51 * i + 6 * j) = some (17, i, j)
    unfold oU oR
    rw [if_neg (by omega), if_neg (by omega), if_neg (by omega), if_pos (by omega), if_neg (by omega), if_neg (by omega), if_neg (by omega), show ((84 + 51 * i + 6 * j - 77) % 51 - 2) % 6 = 5 by omega, show (84 + 51 * i + 6 * j - 77) / 51 = i by omega, show ((84 + 51 * i + 6 * j - 77) % 51 - 2) / 6 = j by omega]
  · exact absurd (hQ.2.1 (4 * i + j) (by omega)) h.2.2
  · exact absurd (hQ.2.1 (4 * i + j) (by omega)) h.2.2
  · exact absurd (hQ.2.1 (4 * i + j) (by omega)) h.2.2
  · exact absurd (hQ.2.1 (4 * i + j) (by omega)) h.2.2
  · exact absurd (hQ.2.1 (4 * i + j) (by omega)) h.2.2
  · exact absurd (hQ.2.1 (4 * i + j) (by omega)) h.2.2
  · exact absurd (hQ.2.1 (4 * i + j) (by omega)) h.2.2
  · exact absurd (hQ.2.2.1 i h.1) h.2.2
  · exact absurd (hQ.2.2.1 i h.1) h.2.2
  · exact h.elim
theorem kcB_w {m : Nat} (hi : i < 16) (hm : m < 4) : kcB b n (12 + 4 * i + m) = kwB i (b + 12 + 4 * i) m := by
  unfold kcB knB
  rw [if_neg (by omega), if_neg (by omega), if_neg (by omega), if_pos (by omega), if_neg (by omega), if_neg (by omega), if_neg (by omega), if_neg (by omega), if_neg (by omega), show (12 + 4 * i + m - 3 - 9) / 4 = i by omega, show (12 + 4 * i + m - 3 - 9) % 4 = m by omega, show b + 3 + 9 + 4 * i = b + 12 + 4 * i by omega]
theorem kcB_r {m : Nat} (hm : m < 51) : kcB b n (77 + 51 * i + m) = krB (b + 2) i (b + 77 + 51 * i) m := by
  unfold kcB
  rw [if_neg (by omega), if_neg (by omega), if_neg (by omega), if_neg (by omega), if_neg (by omega), show (77 + 51 * i + m - 77) / 51 = i by omega, show (77 + 51 * i + m - 77) % 51 = m by omega]
theorem krB_t {x r a g k : Nat} (hg : g < 8) (hk : k < 6) : krB x r a (2 + 6 * g + k) = ktB x r a g (a + 2 + 6 * g) k := by
  unfold krB
  rw [if_neg (by omega), if_neg (by omega), if_neg (by omega), show (2 + 6 * g + k - 2) / 6 = g by omega, show (2 + 6 * g + k - 2) % 6 = k by omega]
theorem kcB_t {g k : Nat} (hg : g < 8) (hk : k < 6) : kcB b n (79 + k + 51 * i + 6 * g) = ktB (b + 2) i (b + 77 + 51 * i) g (b + 79 + 51 * i + 6 * g) k := by
  rw [show 79 + k + 51 * i + 6 * g = 77 + 51 * i + (2 + 6 * g + k) by omega, kcB_r (by omega), krB_t hg hk, show b + 77 + 51 * i + 2 + 6 * g = b + 79 + 51 * i + 6 * g by omega]
/-- a block is what the tables say -/
def sB (q : Bq) (t l : Nat) (f : Nat → Int32) (g : Nat → Nat) : Prop := q.1 = t ∧ q.2.1 = l ∧ q.2.2.1 = f ∧ q.2.2.2 = g
theorem up3 {a1 a2 a3 k : Nat} {v1 v2 v3 : Nat} : va_up (va_up (va_up (fun _ => 0) a1 v1) a2 v2) a3 v3 k = if k = a3 then v3 else if k = a2 then v2 else if k = a1 then v1 else 0 := rfl
theorem up4 {a1 a2 a3 a4 k : Nat} {v1 v2 v3 v4 : Nat} : va_up (va_up (va_up (va_up (fun _ => 0) a1 v1) a2 v2) a3 v3) a4 v4 k = if k = a4 then v4 else if k = a3 then v3 else if k = a2 then v2 else if k = a1 then v1 else 0 := rfl
theorem up5 {a1 a2 a3 a4 a5 k : Nat} {v1 v2 v3 v4 v5 : Nat} : va_up (va_up (va_up (va_up (va_up (fun _ => 0) a1 v1) a2 v2) a3 v3) a4 v4) a5 v5 k = if k = a5 then v5 else if k = a4 then v4 else if k = a3 then v3 else if k = a2 then v2 else if k = a1 then v1 else 0 := rfl
theorem up7 {a1 a2 a3 a4 a5 a6 a7 k : Nat} {v1 v2 v3 v4 v5 v6 v7 : Nat} : va_up (va_up (va_up (va_up (va_up (va_up (va_up (fun _ => 0) a1 v1) a2 v2) a3 v3) a4 v4) a5 v5) a6 v6) a7 v7 k = if k = a7 then v7 else if k = a6 then v6 else if k = a5 then v5 else if k = a4 then v4 else if k = a3 then v3 else if k = a2 then v2 else if k = a1 then v1 else 0 := rfl
theorem cG_e : cG b = RF n (Ly0 b n) Q 0 0 0 := by
  funext k
  show cG b k = if k = 0 then b + 2 else if k = 1 then b + 76 else if k = 2 then b + 1 else 0
  unfold cG
  rw [up3]
  repeat' split
  all_goals omega
theorem nG_e : nG (b + 3) = RF n (Ly0 b n) Q 1 0 0 := by
  funext k
  show nG (b + 3) k = if k = 0 then b + 3 else if k = 1 then b + 6 else if k = 2 then b + 4 else if k = 3 then b + 5 else 0
  unfold nG
  rw [up4]
  repeat' split
  all_goals omega
theorem wyG_e : mwyG (b + 7) = RF n (Ly0 b n) Q 2 0 0 := by
  funext k
  show mwyG (b + 7) k = if k = 1 then b + (7 + 0) else if k = 2 then b + (7 + 1) else if k = 3 then b + (7 + 2) else if k = 4 then b + (7 + 3) else if k = 5 then b + (7 + 4) else 0
  unfold mwyG
  rw [up5]
  repeat' split
  all_goals omega
theorem wiG_e (hQ : lv0 Q) : mwiG (b + 12 + 4 * i + 1) = RF n (Ly0 b n) Q 5 i 0 := by
  funext k
  show mwiG (b + 12 + 4 * i + 1) k = if k = 1 then b + (13 + 4 * i) else if k = 3 then b + oF 7 i (1 - qcu Q i) else if k = 4 then b + oF 7 i (qcu Q i) else 0
  rw [hQ.2.2.2 i]
  show mwiG (b + 12 + 4 * i + 1) k = if k = 1 then b + (13 + 4 * i) else if k = 3 then b + (14 + 4 * i) else if k = 4 then b + (15 + 4 * i) else 0
  unfold mwiG
  rw [up3]
  repeat' split
  all_goals omega
theorem roG_e : mroG (b + 2) (b + 77 + 51 * i) (b + 77 + 51 * i + 1) = RF n (Ly0 b n) Q 9 i 0 := by
  funext k
  show mroG (b + 2) (b + 77 + 51 * i) (b + 77 + 51 * i + 1) k = if k = 0 then b + 2 else if k = 2 then b + (77 + 51 * i) else if k = 3 then b + (78 + 51 * i) else 0
  unfold mroG
  rw [up3]
  repeat' split
  all_goals omega
theorem trG_e : mtrG (b + 79 + 51 * i + 6 * j + 1) (b + 2) (b + 77 + 51 * i) = RF n (Ly0 b n) Q 12 i j := by
  funext k
  show mtrG (b + 79 + 51 * i + 6 * j + 1) (b + 2) (b + 77 + 51 * i) k = if k = 0 then b + 2 else if k = 3 then b + (77 + 51 * i) else if k = 5 then b + (80 + 51 * i + 6 * j) else if k = 6 then b + (81 + 51 * i + 6 * j) else if k = 8 then b + (82 + 51 * i + 6 * j) else if k = 9 then b + (83 + 51 * i + 6 * j) else if k = 10 then b + (84 + 51 * i + 6 * j) else 0
  unfold mtrG
  rw [up7]
  by_cases k0 : k = 0
  · subst k0
    rfl
  by_cases k3 : k = 3
  · subst k3
    show b + 77 + 51 * i = b + (77 + 51 * i)
    omega
  rw [if_neg k3, if_neg k0, if_neg k0, if_neg k3]
  by_cases k5 : k = 5
  · subst k5
    show b + 79 + 51 * i + 6 * j + 1 + 0 = b + (80 + 51 * i + 6 * j)
    omega
  by_cases k6 : k = 6
  · subst k6
    show b + 79 + 51 * i + 6 * j + 1 + 1 = b + (81 + 51 * i + 6 * j)
    omega
  by_cases k8 : k = 8
  · subst k8
    show b + 79 + 51 * i + 6 * j + 1 + 2 = b + (82 + 51 * i + 6 * j)
    omega
  by_cases k9 : k = 9
  · subst k9
    show b + 79 + 51 * i + 6 * j + 1 + 3 = b + (83 + 51 * i + 6 * j)
    omega
  by_cases k10 : k = 10
  · subst k10
    show b + 79 + 51 * i + 6 * j + 1 + 4 = b + (84 + 51 * i + 6 * j)
    omega
  rw [if_neg k10, if_neg k9, if_neg k8, if_neg k6, if_neg k5, if_neg k5, if_neg k6, if_neg k8, if_neg k9, if_neg k10]
theorem kcB_e (hQ : lv0 Q) (hn10 : n ≤ 10) (h : isL n Q c i j) : sB (kcB b n (oF c i j)) (kC c j) (kL n c j) (Vt0 n c i j) (RF n (Ly0 b n) Q c i j) := by
  unfold isL at h
  split at h
  · obtain ⟨rfl, rfl⟩ := h
    exact ⟨rfl, rfl, rfl, cG_e⟩
  · obtain ⟨rfl, rfl⟩ := h
    exact ⟨rfl, rfl, rfl, nG_e⟩
  · obtain ⟨rfl, rfl⟩ := h
    exact ⟨rfl, rfl, rfl, wyG_e⟩
  · obtain ⟨rfl, hj⟩ := h
    have hj : j = 0 ∨ j = 1 ∨ j = 2 ∨ j = 3 ∨ j = 4 ∨ j = 5 ∨ j = 6 := by omega
    rcases hj with rfl | rfl | rfl | rfl | rfl | rfl | rfl <;> exact ⟨rfl, rfl, rfl, rfl⟩
  · obtain ⟨rfl, hj⟩ := h
    have hj : j = 0 ∨ j = 1 ∨ j = 2 := by omega
    rcases hj with rfl | rfl | rfl
    · refine ⟨rfl, rfl, rfl, ?_⟩
      funext k
      show (if k < 16 then b + 3 + 9 + 4 * k else 0) = if k < 16 then b + (12 + 4 * k) else 0
      split <;> omega
    · refine ⟨rfl, rfl, rfl, ?_⟩
      funext k
      show (if k < n then b + 77 + 51 * k + 50 else 0) = if k < n then b + (127 + 51 * k) else 0
      split <;> omega
    · refine ⟨rfl, rfl, rfl, ?_⟩
      funext k
      show 0 = if (2 : Nat) = 2 ∧ k < 16 ∧ qhw Q k ≠ -1 then _ else 0
      rw [if_neg (fun w => w.2.2 (hQ.2.2.1 k w.2.1))]
  · obtain ⟨hi, rfl⟩ := h
    have e : kcB b n (oF 5 i 0) = kwB i (b + 12 + 4 * i) 0 := kcB_w (m := 0) hi (by decide)
    rw [e]
    exact ⟨rfl, rfl, rfl, wiG_e hQ⟩
  · obtain ⟨hi, rfl⟩ := h
    have e : kcB b n (12 + 4 * i + 1) = kwB i (b + 12 + 4 * i) 1 := kcB_w hi (by decide)
    rw [show oF 6 i 0 = 12 + 4 * i + 1 by show 13 + 4 * i = _; omega, e]
    exact ⟨rfl, rfl, rfl, rfl⟩
  · obtain ⟨hi, hj⟩ := h
    have hj : j = 0 ∨ j = 1 := by omega
    have hz : (fun _ => 0 : Nat → Nat) = RF n (Ly0 b n) Q 7 i j := by
      funext k
      show 0 = if k < 40 ∧ j < 2 ∧ qmd Q i = true then _ else 0
      rw [if_neg (fun w => by rw [hQ.1 i] at w; cases w.2.2)]
    rcases hj with rfl | rfl
    · have e : kcB b n (12 + 4 * i + 3) = kwB i (b + 12 + 4 * i) 3 := kcB_w hi (by decide)
      rw [show oF 7 i 0 = 12 + 4 * i + 3 by show 15 + 4 * i = _; omega, e]
      exact ⟨rfl, rfl, rfl, hz⟩
    · have e : kcB b n (12 + 4 * i + 2) = kwB i (b + 12 + 4 * i) 2 := kcB_w hi (by decide)
      rw [show oF 7 i 1 = 12 + 4 * i + 2 by show 14 + 4 * i = _; omega, e]
      exact ⟨rfl, rfl, rfl, hz⟩
  · rw [hQ.1 i] at h
    cases h.2.2
  · obtain ⟨hi, rfl⟩ := h
    have e : kcB b n (77 + 51 * i + 50) = krB (b + 2) i (b + 77 + 51 * i) 50 := kcB_r (by decide)
    rw [show oF 9 i 0 = 77 + 51 * i + 50 by show 127 + 51 * i = _; omega, e]
    exact ⟨rfl, rfl, rfl, roG_e⟩
  · obtain ⟨hi, rfl⟩ := h
    have e : kcB b n (oF 10 i 0) = krB (b + 2) i (b + 77 + 51 * i) 0 := kcB_r (m := 0) (by decide)
    rw [e]
    refine ⟨rfl, rfl, rfl, ?_⟩
    funext k
    show 0 = if (0 : Nat) = 0 ∧ k < 4 ∧ qpw Q (4 * i + k) ≠ -1 then _ else 0
    rw [if_neg (fun w => w.2.2 (hQ.2.1 _ (by omega)))]
  · obtain ⟨hi, rfl⟩ := h
    have e : kcB b n (77 + 51 * i + 1) = krB (b + 2) i (b + 77 + 51 * i) 1 := kcB_r (by decide)
    rw [show oF 11 i 0 = 77 + 51 * i + 1 by show 78 + 51 * i = _; omega, e]
    refine ⟨rfl, rfl, rfl, ?_⟩
    funext k
    show (if k < 8 then b + 77 + 51 * i + 2 + 6 * k else 0) = if k < 8 then b + (79 + 51 * i + 6 * k) else 0
    split <;> omega
  · obtain ⟨hi, hj⟩ := h
    have e : kcB b n (oF 12 i j) = ktB (b + 2) i (b + 77 + 51 * i) j (b + 79 + 51 * i + 6 * j) 0 := kcB_t (k := 0) hj (by decide)
    rw [e]
    exact ⟨rfl, rfl, rfl, trG_e⟩
  · obtain ⟨hi, hj⟩ := h
    have e : kcB b n (oF 13 i j) = ktB (b + 2) i (b + 77 + 51 * i) j (b + 79 + 51 * i + 6 * j) 1 := kcB_t (k := 1) hj (by decide)
    rw [e]
    exact ⟨rfl, rfl, rfl, rfl⟩
  · obtain ⟨hi, hj⟩ := h
    have e : kcB b n (oF 14 i j) = ktB (b + 2) i (b + 77 + 51 * i) j (b + 79 + 51 * i + 6 * j) 2 := kcB_t (k := 2) hj (by decide)
    rw [e]
    exact ⟨rfl, rfl, rfl, rfl⟩
  · obtain ⟨hi, hj⟩ := h
    have e : kcB b n (oF 15 i j) = ktB (b + 2) i (b + 77 + 51 * i) j (b + 79 + 51 * i + 6 * j) 3 := kcB_t (k := 3) hj (by decide)
    rw [e]
    exact ⟨rfl, rfl, rfl, rfl⟩
  · obtain ⟨hi, hj⟩ := h
    have e : kcB b n (oF 16 i j) = ktB (b + 2) i (b + 77 + 51 * i) j (b + 79 + 51 * i + 6 * j) 4 := kcB_t (k := 4) hj (by decide)
    rw [e]
    exact ⟨rfl, rfl, rfl, rfl⟩
  · obtain ⟨hi, hj⟩ := h
    have e : kcB b n (oF 17 i j) = ktB (b + 2) i (b + 77 + 51 * i) j (b + 79 + 51 * i + 6 * j) 5 := kcB_t (k := 5) hj (by decide)
    rw [e]
    exact ⟨rfl, rfl, rfl, rfl⟩
  · exact absurd (hQ.2.1 (4 * i + j) (by omega)) h.2.2
  · exact absurd (hQ.2.1 (4 * i + j) (by omega)) h.2.2
  · exact absurd (hQ.2.1 (4 * i + j) (by omega)) h.2.2
  · exact absurd (hQ.2.1 (4 * i + j) (by omega)) h.2.2
  · exact absurd (hQ.2.1 (4 * i + j) (by omega)) h.2.2
  · exact absurd (hQ.2.1 (4 * i + j) (by omega)) h.2.2
  · exact absurd (hQ.2.1 (4 * i + j) (by omega)) h.2.2
  · exact absurd (hQ.2.2.1 i h.1) h.2.2
  · exact absurd (hQ.2.2.1 i h.1) h.2.2
  · exact h.elim
theorem isL_st (h : isL n Q c i j) : stK c i j := by
  refine ⟨fun e => ?_, fun e => ?_, fun e => ?_⟩
  · subst e
    exact h.2.1
  · subst e
    exact h.2.1
  · subst e
    exact h.1
theorem Ly0_s {a : Nat} (h : (Ly0 b n).2 a = some q) : isL n Q q.1 q.2.1 q.2.2 ∧ (Ly0 b n).1 q.1 q.2.1 q.2.2 = a ∧ b ≤ a ∧ a < b + 77 + 51 * n := by
  have h' : (if a < b then none else oU n (a - b)) = some q := h
  by_cases c : a < b
  · rw [if_pos c] at h'
    cases h'
  · rw [if_neg c] at h'
    obtain ⟨h1, h2, h3⟩ := oU_s (Q := Q) h'
    refine ⟨h1, ?_, by omega, by omega⟩
    show b + oF q.1 q.2.1 q.2.2 = a
    omega
theorem oF_lt (h : isL n Q c i j) (hQ : lv0 Q) (hn10 : n ≤ 10) : oF c i j < 77 + 51 * n := (oU_s (Q := Q) (oU_l hQ hn10 h)).2.2
theorem IC_0 {H G : Hp} (hQ : lv0 Q) (hn10 : n ≤ 10) (hH : 0 < hn H) (h : KP n H G) : IC (Ly0 (hn H) n) G n Q (Vt0 n) := by
  obtain ⟨⟨k1, k2, k3⟩, ks, kb⟩ := h
  have at' : ∀ c i j, isL n Q c i j → CE G ((Ly0 (hn H) n).1 c i j) (kC c j) (kL n c j) (Vt0 n c i j) (RF n (Ly0 (hn H) n) Q c i j) := by
    intro c i j hl
    obtain ⟨e1, e2, e3, e4⟩ := kcB_e (b := hn H) hQ hn10 hl
    obtain ⟨f1, f2, f3, f4⟩ := kb (oF c i j) (oF_lt hl hQ hn10)
    exact ⟨f1.trans e1, f2.trans e2, f3.trans e3, f4.trans e4⟩
  refine ⟨⟨fun a q e => (Ly0_s (Q := Q) e).2.1, fun c i j hl => ?_⟩, fun a q e => ?_, fun a q e => isL_st (Ly0_s (Q := Q) e).1⟩
  · refine ⟨?_, ?_, (at' c i j hl).1, fun _ => (at' c i j hl).2.1⟩
    · show (if hn H + oF c i j < hn H then none else oU n (hn H + oF c i j - hn H)) = some (c, i, j)
      rw [if_neg (by omega), Nat.add_sub_cancel_left]
      exact oU_l hQ hn10 hl
    · show hn H + oF c i j ≠ 0
      omega
  · obtain ⟨h1, h2, h3, h4⟩ := Ly0_s (Q := Q) e
    have := at' _ _ _ h1
    rw [h2] at this
    exact ⟨by omega, this.2.2.1, this.2.2.2⟩
end
