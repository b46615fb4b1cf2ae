/-! THE CLASS'S CELLS: where they lie (kind, two numbers), what stands in them -/
abbrev Ly : Type := (Nat → Nat → Nat → Nat) × (Nat → Option (Nat × Nat × Nat))
abbrev Vt : Type := Nat → Nat → Nat → Nat → Int32
abbrev Rt : Type := Nat → Nat → Nat → Nat → Nat
def eK (L : Ly) (G : Hp) (V : Vt) (R : Rt) : Hp := (hc G, hl G, fun a => match L.2 a with | some q => V q.1 q.2.1 q.2.2 | none => hi G a, fun a => match L.2 a with | some q => R q.1 q.2.1 q.2.2 | none => hr G a, hn G, hs G)
def lvK (L : Ly) (c i j : Nat) : Prop := L.2 (L.1 c i j) = some (c, i, j)
def LSK (L : Ly) : Prop := ∀ a q, L.2 a = some q → L.1 q.1 q.2.1 q.2.2 = a
def uR {α : Type} (V : Nat → Nat → Nat → Nat → α) (c i j : Nat) (f : Nat → α) : Nat → Nat → Nat → Nat → α := fun a => if a = c then (fun b => if b = i then (fun d => if d = j then f else V c i d) else V c b) else V a
section
variable {α : Type} {V : Nat → Nat → Nat → Nat → α} {c i j a b d : Nat} {f g : Nat → α}
theorem uR_s : uR V c i j f c i j = f := by unfold uR; rw [if_pos rfl, if_pos rfl, if_pos rfl]
theorem uR_ne (h : a ≠ c) : uR V c i j f a = V a := by unfold uR; rw [if_neg h]
theorem uR_nei (h : b ≠ i) : uR V c i j f c b = V c b := by unfold uR; rw [if_pos rfl, if_neg h]
theorem uR_nej (h : d ≠ j) : uR V c i j f c i d = V c i d := by unfold uR; rw [if_pos rfl, if_pos rfl, if_neg h]
theorem uR_at : uR V c i j f c b d = if b = i ∧ d = j then f else V c b d := by
  by_cases h : b = i
  · subst h
    by_cases h2 : d = j
    · subst h2
      rw [uR_s, if_pos ⟨rfl, rfl⟩]
    · rw [uR_nej h2, if_neg (fun q => h2 q.2)]
  · rw [uR_nei h, if_neg (fun q => h q.1)]
theorem uR_uR : uR (uR V c i j f) c i j g = uR V c i j g := by
  funext a
  by_cases ha : a = c
  · subst ha
    funext b d
    rw [uR_at, uR_at, uR_at]
    split <;> rfl
  · rw [uR_ne ha, uR_ne ha, uR_ne ha]
theorem uR_self : uR V c i j (V c i j) = V := by
  funext a
  by_cases ha : a = c
  · subst ha
    funext b d
    rw [uR_at]
    split
    · rename_i h
      rw [h.1, h.2]
    · rfl
  · rw [uR_ne ha]
end
theorem vu_s {α : Type} {f : Nat → α} {k : Nat} {v : α} : va_up f k v k = v := by unfold va_up; rw [if_pos rfl]
theorem vu_n {α : Type} {f : Nat → α} {k m : Nat} {v : α} (h : m ≠ k) : va_up f k v m = f m := by unfold va_up; rw [if_neg h]
theorem vu_a {α : Type} {f : Nat → α} {k m : Nat} {v : α} : va_up f k v m = if m = k then v else f m := rfl
section
variable {L : Ly} {G : Hp} {V : Vt} {R : Rt} {c i j k : Nat} {v : Int32} {q : Nat}
theorem eK_hc : hc (eK L G V R) = hc G := rfl
theorem eK_hl : hl (eK L G V R) = hl G := rfl
theorem eK_hn : hn (eK L G V R) = hn G := rfl
theorem eK_hs : hs (eK L G V R) = hs G := rfl
theorem eK_hi (h : lvK L c i j) : hi (eK L G V R) (L.1 c i j) = V c i j := by
  show (match L.2 (L.1 c i j) with | some q => V q.1 q.2.1 q.2.2 | none => hi G (L.1 c i j)) = _
  rw [show L.2 (L.1 c i j) = some (c, i, j) from h]
theorem eK_hr (h : lvK L c i j) : hr (eK L G V R) (L.1 c i j) = R c i j := by
  show (match L.2 (L.1 c i j) with | some q => R q.1 q.2.1 q.2.2 | none => hr G (L.1 c i j)) = _
  rw [show L.2 (L.1 c i j) = some (c, i, j) from h]
theorem lvK_of (hS : LSK L) (h : lvK L c i j) {a : Nat} {q : Nat × Nat × Nat} (e : L.2 a = some q) (ha : a ≠ L.1 c i j) : ¬ (q.1 = c ∧ q.2.1 = i ∧ q.2.2 = j) := by
  intro w
  apply ha
  rw [← hS a q e, w.1, w.2.1, w.2.2]
theorem uR_q {α : Type} {V : Nat → Nat → Nat → Nat → α} {f : Nat → α} {q : Nat × Nat × Nat} (h : ¬ (q.1 = c ∧ q.2.1 = i ∧ q.2.2 = j)) : uR V c i j f q.1 q.2.1 q.2.2 = V q.1 q.2.1 q.2.2 := by
  by_cases h1 : q.1 = c
  · rw [h1, uR_at, if_neg (fun w => h ⟨h1, w⟩)]
  · rw [uR_ne h1]
theorem eK_sI (hS : LSK L) (h : lvK L c i j) : sI (eK L G V R) (L.1 c i j) k v = eK L G (uR V c i j (va_up (V c i j) k v)) R := by
  unfold sI
  show ((hc G, hl G, u2 (hi (eK L G V R)) (L.1 c i j) k v, hr (eK L G V R), hn G, hs G) : Hp) = (hc G, hl G, hi (eK L G (uR V c i j (va_up (V c i j) k v)) R), hr (eK L G V R), hn G, hs G)
  refine congrArg (fun f : Nat → Nat → Int32 => ((hc G, hl G, f, hr (eK L G V R), hn G, hs G) : Hp)) ?_
  funext a
  show u2 (hi (eK L G V R)) (L.1 c i j) k v a = _
  unfold u2
  by_cases ha : a = L.1 c i j
  · rw [if_pos ha, ha, eK_hi h, eK_hi h, uR_s]
  · rw [if_neg ha]
    show (match L.2 a with | some q => V q.1 q.2.1 q.2.2 | none => hi G a) = (match L.2 a with | some q => uR V c i j (va_up (V c i j) k v) q.1 q.2.1 q.2.2 | none => hi G a)
    cases e : L.2 a with
    | none => rfl
    | some q => exact (uR_q (lvK_of hS h e ha)).symm
theorem eK_sR (hS : LSK L) (h : lvK L c i j) : sR (eK L G V R) (L.1 c i j) k q = eK L G V (uR R c i j (va_up (R c i j) k q)) := by
  unfold sR
  show ((hc G, hl G, hi (eK L G V R), u2 (hr (eK L G V R)) (L.1 c i j) k q, hn G, hs G) : Hp) = (hc G, hl G, hi (eK L G V R), hr (eK L G V (uR R c i j (va_up (R c i j) k q))), hn G, hs G)
  refine congrArg (fun f : Nat → Nat → Nat => ((hc G, hl G, hi (eK L G V R), f, hn G, hs G) : Hp)) ?_
  funext a
  show u2 (hr (eK L G V R)) (L.1 c i j) k q a = _
  unfold u2
  by_cases ha : a = L.1 c i j
  · rw [if_pos ha, ha, eK_hr h, eK_hr h, uR_s]
  · rw [if_neg ha]
    show (match L.2 a with | some q => R q.1 q.2.1 q.2.2 | none => hr G a) = (match L.2 a with | some w => uR R c i j (va_up (R c i j) k q) w.1 w.2.1 w.2.2 | none => hr G a)
    cases e : L.2 a with
    | none => rfl
    | some w => exact (uR_q (lvK_of hS h e ha)).symm
end
/-- what the references hang on: frames by wire, row and place; which row waits; frames made; wires of ports and of hosts -/
abbrev Qt : Type := (Nat → Nat → Nat → Nat) × (Nat → Nat) × (Nat → Bool) × (Nat → Int32) × (Nat → Int32)
def qpi (Q : Qt) : Nat → Nat → Nat → Nat := Q.1
def qcu (Q : Qt) : Nat → Nat := Q.2.1
def qmd (Q : Qt) : Nat → Bool := Q.2.2.1
def qpw (Q : Qt) : Nat → Int32 := Q.2.2.2.1
def qhw (Q : Qt) : Nat → Int32 := Q.2.2.2.2
def l3 (n j : Nat) : Nat := if j = 0 then 40 else if j = 1 then 40 else if j = 5 then 8 else if j = 6 then 16 else 26 * n
def l4 (n j : Nat) : Nat := if j = 1 then n else 16
def k4 (j : Nat) : Nat := if j = 0 then 20 else if j = 1 then 17 else 14
def isL (n : Nat) (Q : Qt) (c i j : Nat) : Prop := match c with
  | 0 => i = 0 ∧ j = 0
  | 1 => i = 0 ∧ j = 0
  | 2 => i = 0 ∧ j = 0
  | 3 => i = 0 ∧ j < 7
  | 4 => i = 0 ∧ j < 3
  | 5 => i < 16 ∧ j = 0
  | 6 => i < 16 ∧ j = 0
  | 7 => i < 16 ∧ j < 2
  | 8 => i < 16 ∧ j < 80 ∧ qmd Q i = true
  | 9 => i < n ∧ j = 0
  | 10 => i < n ∧ j = 0
  | 11 => i < n ∧ j = 0
  | 12 => i < n ∧ j < 8
  | 13 => i < n ∧ j < 8
  | 14 => i < n ∧ j < 8
  | 15 => i < n ∧ j < 8
  | 16 => i < n ∧ j < 8
  | 17 => i < n ∧ j < 8
  | 18 => i < n ∧ j < 4 ∧ qpw Q (4 * i + j) ≠ -1
  | 19 => i < n ∧ j < 4 ∧ qpw Q (4 * i + j) ≠ -1
  | 20 => i < n ∧ j < 4 ∧ qpw Q (4 * i + j) ≠ -1
  | 21 => i < n ∧ j < 4 ∧ qpw Q (4 * i + j) ≠ -1
  | 22 => i < n ∧ j < 4 ∧ qpw Q (4 * i + j) ≠ -1
  | 23 => i < n ∧ j < 4 ∧ qpw Q (4 * i + j) ≠ -1
  | 24 => i < n ∧ j < 4 ∧ qpw Q (4 * i + j) ≠ -1
  | 25 => i < 16 ∧ j = 0 ∧ qhw Q i ≠ -1
  | 26 => i < 16 ∧ j = 0 ∧ qhw Q i ≠ -1
  | _ => False
def kC (c j : Nat) : Nat := match c with
  | 0 => 9
  | 1 => 3
  | 2 => 7
  | 3 => 11
  | 4 => k4 j
  | 5 => 8
  | 6 => 11
  | 7 => 13
  | 8 => 1
  | 9 => 5
  | 10 => 16
  | 11 => 18
  | 12 => 6
  | 13 => 11
  | 14 => 11
  | 15 => 11
  | 16 => 11
  | 17 => 11
  | 18 => 4
  | 19 => 11
  | 20 => 11
  | 21 => 11
  | 22 => 11
  | 23 => 11
  | 24 => 11
  | 25 => 2
  | 26 => 11
  | _ => 0
def kL (n c j : Nat) : Nat := match c with
  | 3 => l3 n j
  | 4 => l4 n j
  | 6 => 10
  | 7 => 40
  | 10 => 4
  | 11 => 8
  | 13 => 17
  | 14 => 17
  | 15 => 16
  | 16 => 16
  | 17 => 16
  | 19 => 10
  | 20 => 8
  | 21 => 136
  | 22 => 128
  | 23 => 128
  | 24 => 128
  | 26 => 400
  | _ => 0
def RF (n : Nat) (L : Ly) (Q : Qt) (c i j k : Nat) : Nat := match c with
  | 0 => if k = 0 then L.1 1 0 0 else if k = 1 then L.1 4 0 1 else if k = 2 then L.1 4 0 2 else 0
  | 1 => if k = 0 then L.1 4 0 0 else if k = 1 then L.1 2 0 0 else if k = 2 then L.1 3 0 5 else if k = 3 then L.1 3 0 6 else 0
  | 2 => if k = 1 then L.1 3 0 0 else if k = 2 then L.1 3 0 1 else if k = 3 then L.1 3 0 2 else if k = 4 then L.1 3 0 3 else if k = 5 then L.1 3 0 4 else 0
  | 4 => if j = 0 then (if k < 16 then L.1 5 k 0 else 0) else if j = 1 then (if k < n then L.1 9 k 0 else 0) else if j = 2 ∧ k < 16 ∧ qhw Q k ≠ -1 then L.1 25 k 0 else 0
  | 5 => if j = 0 then (if k = 1 then L.1 6 i 0 else if k = 3 then L.1 7 i (1 - qcu Q i) else if k = 4 then L.1 7 i (qcu Q i) else 0) else 0
  | 7 => if k < 40 ∧ j < 2 ∧ qmd Q i = true then L.1 8 i (qpi Q i j k) else 0
  | 9 => if k = 0 then L.1 1 0 0 else if k = 2 then L.1 10 i 0 else if k = 3 then L.1 11 i 0 else 0
  | 10 => if j = 0 ∧ k < 4 ∧ qpw Q (4 * i + k) ≠ -1 then L.1 18 i k else 0
  | 11 => if k < 8 then L.1 12 i k else 0
  | 12 => if k = 0 then L.1 1 0 0 else if k = 3 then L.1 10 i 0 else if k = 5 then L.1 13 i j else if k = 6 then L.1 14 i j else if k = 8 then L.1 15 i j else if k = 9 then L.1 16 i j else if k = 10 then L.1 17 i j else 0
  | 18 => if k = 0 then L.1 1 0 0 else if k = 2 then L.1 5 (qpw Q (4 * i + j)).toNatClampNeg 0 else if k = 7 then L.1 19 i j else if k = 8 then L.1 20 i j else if k = 9 then L.1 21 i j else if k = 10 then L.1 22 i j else if k = 11 then L.1 23 i j else if k = 12 then L.1 24 i j else 0
  | 25 => if k = 1 then L.1 5 (qhw Q i).toNatClampNeg 0 else if k = 2 then L.1 26 i 0 else 0
  | _ => 0
def LY (L : Ly) (G : Hp) (n : Nat) (Q : Qt) : Prop := LSK L ∧ ∀ c i j, isL n Q c i j → lvK L c i j ∧ L.1 c i j ≠ 0 ∧ hc G (L.1 c i j) = kC c j ∧ (kL n c j ≠ 0 → hl G (L.1 c i j) = kL n c j)
abbrev eH (L : Ly) (G : Hp) (n : Nat) (Q : Qt) (V : Vt) : Hp := eK L G V (RF n L Q)
section
variable {L : Ly} {G : Hp} {n : Nat} {Q : Qt} {V : Vt} {R : Rt} {i j k : Nat} {v : Int32}
theorem yK0 (hL : LY L G n Q) : hc G (L.1 0 0 0) = 9 := (hL.2 0 0 0 ⟨rfl, rfl⟩).2.2.1
theorem zK0 (hL : LY L G n Q) : L.1 0 0 0 ≠ 0 := (hL.2 0 0 0 ⟨rfl, rfl⟩).2.1
theorem iK0 (hL : LY L G n Q) : hi (eK L G V R) (L.1 0 0 0) = V 0 0 0 := eK_hi (hL.2 0 0 0 ⟨rfl, rfl⟩).1
theorem wK0 (hL : LY L G n Q) : sI (eK L G V R) (L.1 0 0 0) k v = eK L G (uR V 0 0 0 (va_up (V 0 0 0) k v)) R := eK_sI hL.1 (hL.2 0 0 0 ⟨rfl, rfl⟩).1
theorem rK0_0 (hL : LY L G n Q) : hr (eK L G V (RF n L Q)) (L.1 0 0 0) 0 = L.1 1 0 0 := congrFun (eK_hr (hL.2 0 0 0 ⟨rfl, rfl⟩).1) 0
theorem rK0_1 (hL : LY L G n Q) : hr (eK L G V (RF n L Q)) (L.1 0 0 0) 1 = L.1 4 0 1 := congrFun (eK_hr (hL.2 0 0 0 ⟨rfl, rfl⟩).1) 1
theorem rK0_2 (hL : LY L G n Q) : hr (eK L G V (RF n L Q)) (L.1 0 0 0) 2 = L.1 4 0 2 := congrFun (eK_hr (hL.2 0 0 0 ⟨rfl, rfl⟩).1) 2
theorem yK1 (hL : LY L G n Q) : hc G (L.1 1 0 0) = 3 := (hL.2 1 0 0 ⟨rfl, rfl⟩).2.2.1
theorem zK1 (hL : LY L G n Q) : L.1 1 0 0 ≠ 0 := (hL.2 1 0 0 ⟨rfl, rfl⟩).2.1
theorem iK1 (hL : LY L G n Q) : hi (eK L G V R) (L.1 1 0 0) = V 1 0 0 := eK_hi (hL.2 1 0 0 ⟨rfl, rfl⟩).1
theorem wK1 (hL : LY L G n Q) : sI (eK L G V R) (L.1 1 0 0) k v = eK L G (uR V 1 0 0 (va_up (V 1 0 0) k v)) R := eK_sI hL.1 (hL.2 1 0 0 ⟨rfl, rfl⟩).1
theorem rK1_0 (hL : LY L G n Q) : hr (eK L G V (RF n L Q)) (L.1 1 0 0) 0 = L.1 4 0 0 := congrFun (eK_hr (hL.2 1 0 0 ⟨rfl, rfl⟩).1) 0
theorem rK1_1 (hL : LY L G n Q) : hr (eK L G V (RF n L Q)) (L.1 1 0 0) 1 = L.1 2 0 0 := congrFun (eK_hr (hL.2 1 0 0 ⟨rfl, rfl⟩).1) 1
theorem rK1_2 (hL : LY L G n Q) : hr (eK L G V (RF n L Q)) (L.1 1 0 0) 2 = L.1 3 0 5 := congrFun (eK_hr (hL.2 1 0 0 ⟨rfl, rfl⟩).1) 2
theorem rK1_3 (hL : LY L G n Q) : hr (eK L G V (RF n L Q)) (L.1 1 0 0) 3 = L.1 3 0 6 := congrFun (eK_hr (hL.2 1 0 0 ⟨rfl, rfl⟩).1) 3
theorem yK2 (hL : LY L G n Q) : hc G (L.1 2 0 0) = 7 := (hL.2 2 0 0 ⟨rfl, rfl⟩).2.2.1
theorem zK2 (hL : LY L G n Q) : L.1 2 0 0 ≠ 0 := (hL.2 2 0 0 ⟨rfl, rfl⟩).2.1
theorem iK2 (hL : LY L G n Q) : hi (eK L G V R) (L.1 2 0 0) = V 2 0 0 := eK_hi (hL.2 2 0 0 ⟨rfl, rfl⟩).1
theorem wK2 (hL : LY L G n Q) : sI (eK L G V R) (L.1 2 0 0) k v = eK L G (uR V 2 0 0 (va_up (V 2 0 0) k v)) R := eK_sI hL.1 (hL.2 2 0 0 ⟨rfl, rfl⟩).1
theorem rK2_1 (hL : LY L G n Q) : hr (eK L G V (RF n L Q)) (L.1 2 0 0) 1 = L.1 3 0 0 := congrFun (eK_hr (hL.2 2 0 0 ⟨rfl, rfl⟩).1) 1
theorem rK2_2 (hL : LY L G n Q) : hr (eK L G V (RF n L Q)) (L.1 2 0 0) 2 = L.1 3 0 1 := congrFun (eK_hr (hL.2 2 0 0 ⟨rfl, rfl⟩).1) 2
theorem rK2_3 (hL : LY L G n Q) : hr (eK L G V (RF n L Q)) (L.1 2 0 0) 3 = L.1 3 0 2 := congrFun (eK_hr (hL.2 2 0 0 ⟨rfl, rfl⟩).1) 3
theorem rK2_4 (hL : LY L G n Q) : hr (eK L G V (RF n L Q)) (L.1 2 0 0) 4 = L.1 3 0 3 := congrFun (eK_hr (hL.2 2 0 0 ⟨rfl, rfl⟩).1) 4
theorem rK2_5 (hL : LY L G n Q) : hr (eK L G V (RF n L Q)) (L.1 2 0 0) 5 = L.1 3 0 4 := congrFun (eK_hr (hL.2 2 0 0 ⟨rfl, rfl⟩).1) 5
theorem yK3_0 (hL : LY L G n Q) : hc G (L.1 3 0 0) = 11 := (hL.2 3 0 0 ⟨rfl, by decide⟩).2.2.1
theorem zK3_0 (hL : LY L G n Q) : L.1 3 0 0 ≠ 0 := (hL.2 3 0 0 ⟨rfl, by decide⟩).2.1
theorem iK3_0 (hL : LY L G n Q) : hi (eK L G V R) (L.1 3 0 0) = V 3 0 0 := eK_hi (hL.2 3 0 0 ⟨rfl, by decide⟩).1
theorem wK3_0 (hL : LY L G n Q) : sI (eK L G V R) (L.1 3 0 0) k v = eK L G (uR V 3 0 0 (va_up (V 3 0 0) k v)) R := eK_sI hL.1 (hL.2 3 0 0 ⟨rfl, by decide⟩).1
theorem lK3_0 (hL : LY L G n Q) : hl G (L.1 3 0 0) = 40 := (hL.2 3 0 0 ⟨rfl, by decide⟩).2.2.2 (show (40 : Nat) ≠ 0 by decide)
theorem yK3_1 (hL : LY L G n Q) : hc G (L.1 3 0 1) = 11 := (hL.2 3 0 1 ⟨rfl, by decide⟩).2.2.1
theorem zK3_1 (hL : LY L G n Q) : L.1 3 0 1 ≠ 0 := (hL.2 3 0 1 ⟨rfl, by decide⟩).2.1
theorem iK3_1 (hL : LY L G n Q) : hi (eK L G V R) (L.1 3 0 1) = V 3 0 1 := eK_hi (hL.2 3 0 1 ⟨rfl, by decide⟩).1
theorem wK3_1 (hL : LY L G n Q) : sI (eK L G V R) (L.1 3 0 1) k v = eK L G (uR V 3 0 1 (va_up (V 3 0 1) k v)) R := eK_sI hL.1 (hL.2 3 0 1 ⟨rfl, by decide⟩).1
theorem lK3_1 (hL : LY L G n Q) : hl G (L.1 3 0 1) = 40 := (hL.2 3 0 1 ⟨rfl, by decide⟩).2.2.2 (show (40 : Nat) ≠ 0 by decide)
theorem yK3_2 (hL : LY L G n Q) : hc G (L.1 3 0 2) = 11 := (hL.2 3 0 2 ⟨rfl, by decide⟩).2.2.1
theorem zK3_2 (hL : LY L G n Q) : L.1 3 0 2 ≠ 0 := (hL.2 3 0 2 ⟨rfl, by decide⟩).2.1
theorem iK3_2 (hL : LY L G n Q) : hi (eK L G V R) (L.1 3 0 2) = V 3 0 2 := eK_hi (hL.2 3 0 2 ⟨rfl, by decide⟩).1
theorem wK3_2 (hL : LY L G n Q) : sI (eK L G V R) (L.1 3 0 2) k v = eK L G (uR V 3 0 2 (va_up (V 3 0 2) k v)) R := eK_sI hL.1 (hL.2 3 0 2 ⟨rfl, by decide⟩).1
theorem lK3_2 (hL : LY L G n Q) (hn : 1 ≤ n) : hl G (L.1 3 0 2) = 26 * n := (hL.2 3 0 2 ⟨rfl, by decide⟩).2.2.2 (by show 26 * n ≠ 0; omega)
theorem yK3_3 (hL : LY L G n Q) : hc G (L.1 3 0 3) = 11 := (hL.2 3 0 3 ⟨rfl, by decide⟩).2.2.1
theorem zK3_3 (hL : LY L G n Q) : L.1 3 0 3 ≠ 0 := (hL.2 3 0 3 ⟨rfl, by decide⟩).2.1
theorem iK3_3 (hL : LY L G n Q) : hi (eK L G V R) (L.1 3 0 3) = V 3 0 3 := eK_hi (hL.2 3 0 3 ⟨rfl, by decide⟩).1
theorem wK3_3 (hL : LY L G n Q) : sI (eK L G V R) (L.1 3 0 3) k v = eK L G (uR V 3 0 3 (va_up (V 3 0 3) k v)) R := eK_sI hL.1 (hL.2 3 0 3 ⟨rfl, by decide⟩).1
theorem lK3_3 (hL : LY L G n Q) (hn : 1 ≤ n) : hl G (L.1 3 0 3) = 26 * n := (hL.2 3 0 3 ⟨rfl, by decide⟩).2.2.2 (by show 26 * n ≠ 0; omega)
theorem yK3_4 (hL : LY L G n Q) : hc G (L.1 3 0 4) = 11 := (hL.2 3 0 4 ⟨rfl, by decide⟩).2.2.1
theorem zK3_4 (hL : LY L G n Q) : L.1 3 0 4 ≠ 0 := (hL.2 3 0 4 ⟨rfl, by decide⟩).2.1
theorem iK3_4 (hL : LY L G n Q) : hi (eK L G V R) (L.1 3 0 4) = V 3 0 4 := eK_hi (hL.2 3 0 4 ⟨rfl, by decide⟩).1
theorem wK3_4 (hL : LY L G n Q) : sI (eK L G V R) (L.1 3 0 4) k v = eK L G (uR V 3 0 4 (va_up (V 3 0 4) k v)) R := eK_sI hL.1 (hL.2 3 0 4 ⟨rfl, by decide⟩).1
theorem lK3_4 (hL : LY L G n Q) (hn : 1 ≤ n) : hl G (L.1 3 0 4) = 26 * n := (hL.2 3 0 4 ⟨rfl, by decide⟩).2.2.2 (by show 26 * n ≠ 0; omega)
theorem yK3_5 (hL : LY L G n Q) : hc G (L.1 3 0 5) = 11 := (hL.2 3 0 5 ⟨rfl, by decide⟩).2.2.1
theorem zK3_5 (hL : LY L G n Q) : L.1 3 0 5 ≠ 0 := (hL.2 3 0 5 ⟨rfl, by decide⟩).2.1
theorem iK3_5 (hL : LY L G n Q) : hi (eK L G V R) (L.1 3 0 5) = V 3 0 5 := eK_hi (hL.2 3 0 5 ⟨rfl, by decide⟩).1
theorem wK3_5 (hL : LY L G n Q) : sI (eK L G V R) (L.1 3 0 5) k v = eK L G (uR V 3 0 5 (va_up (V 3 0 5) k v)) R := eK_sI hL.1 (hL.2 3 0 5 ⟨rfl, by decide⟩).1
theorem lK3_5 (hL : LY L G n Q) : hl G (L.1 3 0 5) = 8 := (hL.2 3 0 5 ⟨rfl, by decide⟩).2.2.2 (show (8 : Nat) ≠ 0 by decide)
theorem yK3_6 (hL : LY L G n Q) : hc G (L.1 3 0 6) = 11 := (hL.2 3 0 6 ⟨rfl, by decide⟩).2.2.1
theorem zK3_6 (hL : LY L G n Q) : L.1 3 0 6 ≠ 0 := (hL.2 3 0 6 ⟨rfl, by decide⟩).2.1
theorem iK3_6 (hL : LY L G n Q) : hi (eK L G V R) (L.1 3 0 6) = V 3 0 6 := eK_hi (hL.2 3 0 6 ⟨rfl, by decide⟩).1
theorem wK3_6 (hL : LY L G n Q) : sI (eK L G V R) (L.1 3 0 6) k v = eK L G (uR V 3 0 6 (va_up (V 3 0 6) k v)) R := eK_sI hL.1 (hL.2 3 0 6 ⟨rfl, by decide⟩).1
theorem lK3_6 (hL : LY L G n Q) : hl G (L.1 3 0 6) = 16 := (hL.2 3 0 6 ⟨rfl, by decide⟩).2.2.2 (show (16 : Nat) ≠ 0 by decide)
theorem yK4_0 (hL : LY L G n Q) : hc G (L.1 4 0 0) = 20 := (hL.2 4 0 0 ⟨rfl, by decide⟩).2.2.1
theorem zK4_0 (hL : LY L G n Q) : L.1 4 0 0 ≠ 0 := (hL.2 4 0 0 ⟨rfl, by decide⟩).2.1
theorem iK4_0 (hL : LY L G n Q) : hi (eK L G V R) (L.1 4 0 0) = V 4 0 0 := eK_hi (hL.2 4 0 0 ⟨rfl, by decide⟩).1
theorem wK4_0 (hL : LY L G n Q) : sI (eK L G V R) (L.1 4 0 0) k v = eK L G (uR V 4 0 0 (va_up (V 4 0 0) k v)) R := eK_sI hL.1 (hL.2 4 0 0 ⟨rfl, by decide⟩).1
theorem lK4_0 (hL : LY L G n Q) : hl G (L.1 4 0 0) = 16 := (hL.2 4 0 0 ⟨rfl, by decide⟩).2.2.2 (show (16 : Nat) ≠ 0 by decide)
theorem rK4_0 (hL : LY L G n Q) (hk : k < 16) : hr (eK L G V (RF n L Q)) (L.1 4 0 0) k = L.1 5 k 0 := (congrFun (eK_hr (hL.2 4 0 0 ⟨rfl, by decide⟩).1) k).trans (if_pos hk)
theorem yK4_1 (hL : LY L G n Q) : hc G (L.1 4 0 1) = 17 := (hL.2 4 0 1 ⟨rfl, by decide⟩).2.2.1
theorem zK4_1 (hL : LY L G n Q) : L.1 4 0 1 ≠ 0 := (hL.2 4 0 1 ⟨rfl, by decide⟩).2.1
theorem iK4_1 (hL : LY L G n Q) : hi (eK L G V R) (L.1 4 0 1) = V 4 0 1 := eK_hi (hL.2 4 0 1 ⟨rfl, by decide⟩).1
theorem wK4_1 (hL : LY L G n Q) : sI (eK L G V R) (L.1 4 0 1) k v = eK L G (uR V 4 0 1 (va_up (V 4 0 1) k v)) R := eK_sI hL.1 (hL.2 4 0 1 ⟨rfl, by decide⟩).1
theorem lK4_1 (hL : LY L G n Q) (hn : 1 ≤ n) : hl G (L.1 4 0 1) = n := (hL.2 4 0 1 ⟨rfl, by decide⟩).2.2.2 (by show n ≠ 0; omega)
theorem rK4_1 (hL : LY L G n Q) (hk : k < n) : hr (eK L G V (RF n L Q)) (L.1 4 0 1) k = L.1 9 k 0 := (congrFun (eK_hr (hL.2 4 0 1 ⟨rfl, by decide⟩).1) k).trans (if_pos hk)
theorem yK4_2 (hL : LY L G n Q) : hc G (L.1 4 0 2) = 14 := (hL.2 4 0 2 ⟨rfl, by decide⟩).2.2.1
theorem zK4_2 (hL : LY L G n Q) : L.1 4 0 2 ≠ 0 := (hL.2 4 0 2 ⟨rfl, by decide⟩).2.1
theorem iK4_2 (hL : LY L G n Q) : hi (eK L G V R) (L.1 4 0 2) = V 4 0 2 := eK_hi (hL.2 4 0 2 ⟨rfl, by decide⟩).1
theorem wK4_2 (hL : LY L G n Q) : sI (eK L G V R) (L.1 4 0 2) k v = eK L G (uR V 4 0 2 (va_up (V 4 0 2) k v)) R := eK_sI hL.1 (hL.2 4 0 2 ⟨rfl, by decide⟩).1
theorem lK4_2 (hL : LY L G n Q) : hl G (L.1 4 0 2) = 16 := (hL.2 4 0 2 ⟨rfl, by decide⟩).2.2.2 (show (16 : Nat) ≠ 0 by decide)
theorem rK4_2 (hL : LY L G n Q) (hk : k < 16) : hr (eK L G V (RF n L Q)) (L.1 4 0 2) k = (if qhw Q k ≠ -1 then L.1 25 k 0 else 0) := (congrFun (eK_hr (hL.2 4 0 2 ⟨rfl, by decide⟩).1) k).trans (by
  show (if (2 : Nat) = 2 ∧ k < 16 ∧ qhw Q k ≠ -1 then L.1 25 k 0 else 0) = _
  simp only [hk, true_and])
theorem yK5 (hL : LY L G n Q) (h1 : i < 16) : hc G (L.1 5 i 0) = 8 := (hL.2 5 i 0 ⟨h1, rfl⟩).2.2.1
theorem zK5 (hL : LY L G n Q) (h1 : i < 16) : L.1 5 i 0 ≠ 0 := (hL.2 5 i 0 ⟨h1, rfl⟩).2.1
theorem iK5 (hL : LY L G n Q) (h1 : i < 16) : hi (eK L G V R) (L.1 5 i 0) = V 5 i 0 := eK_hi (hL.2 5 i 0 ⟨h1, rfl⟩).1
theorem wK5 (hL : LY L G n Q) (h1 : i < 16) : sI (eK L G V R) (L.1 5 i 0) k v = eK L G (uR V 5 i 0 (va_up (V 5 i 0) k v)) R := eK_sI hL.1 (hL.2 5 i 0 ⟨h1, rfl⟩).1
theorem rK5_1 (hL : LY L G n Q) (h1 : i < 16) : hr (eK L G V (RF n L Q)) (L.1 5 i 0) 1 = L.1 6 i 0 := congrFun (eK_hr (hL.2 5 i 0 ⟨h1, rfl⟩).1) 1
theorem rK5_3 (hL : LY L G n Q) (h1 : i < 16) : hr (eK L G V (RF n L Q)) (L.1 5 i 0) 3 = L.1 7 i (1 - qcu Q i) := congrFun (eK_hr (hL.2 5 i 0 ⟨h1, rfl⟩).1) 3
theorem rK5_4 (hL : LY L G n Q) (h1 : i < 16) : hr (eK L G V (RF n L Q)) (L.1 5 i 0) 4 = L.1 7 i (qcu Q i) := congrFun (eK_hr (hL.2 5 i 0 ⟨h1, rfl⟩).1) 4
theorem yK6 (hL : LY L G n Q) (h1 : i < 16) : hc G (L.1 6 i 0) = 11 := (hL.2 6 i 0 ⟨h1, rfl⟩).2.2.1
theorem zK6 (hL : LY L G n Q) (h1 : i < 16) : L.1 6 i 0 ≠ 0 := (hL.2 6 i 0 ⟨h1, rfl⟩).2.1
theorem iK6 (hL : LY L G n Q) (h1 : i < 16) : hi (eK L G V R) (L.1 6 i 0) = V 6 i 0 := eK_hi (hL.2 6 i 0 ⟨h1, rfl⟩).1
theorem wK6 (hL : LY L G n Q) (h1 : i < 16) : sI (eK L G V R) (L.1 6 i 0) k v = eK L G (uR V 6 i 0 (va_up (V 6 i 0) k v)) R := eK_sI hL.1 (hL.2 6 i 0 ⟨h1, rfl⟩).1
theorem lK6 (hL : LY L G n Q) (h1 : i < 16) : hl G (L.1 6 i 0) = 10 := (hL.2 6 i 0 ⟨h1, rfl⟩).2.2.2 (show (10 : Nat) ≠ 0 by decide)
theorem yK7 (hL : LY L G n Q) (h1 : i < 16) (h2 : j < 2) : hc G (L.1 7 i j) = 13 := (hL.2 7 i j ⟨h1, h2⟩).2.2.1
theorem zK7 (hL : LY L G n Q) (h1 : i < 16) (h2 : j < 2) : L.1 7 i j ≠ 0 := (hL.2 7 i j ⟨h1, h2⟩).2.1
theorem iK7 (hL : LY L G n Q) (h1 : i < 16) (h2 : j < 2) : hi (eK L G V R) (L.1 7 i j) = V 7 i j := eK_hi (hL.2 7 i j ⟨h1, h2⟩).1
theorem wK7 (hL : LY L G n Q) (h1 : i < 16) (h2 : j < 2) : sI (eK L G V R) (L.1 7 i j) k v = eK L G (uR V 7 i j (va_up (V 7 i j) k v)) R := eK_sI hL.1 (hL.2 7 i j ⟨h1, h2⟩).1
theorem lK7 (hL : LY L G n Q) (h1 : i < 16) (h2 : j < 2) : hl G (L.1 7 i j) = 40 := (hL.2 7 i j ⟨h1, h2⟩).2.2.2 (show (40 : Nat) ≠ 0 by decide)
theorem rK7 (hL : LY L G n Q) (h1 : i < 16) (h2 : j < 2) (hk : k < 40) (hm : qmd Q i = true) : hr (eK L G V (RF n L Q)) (L.1 7 i j) k = L.1 8 i (qpi Q i j k) := (congrFun (eK_hr (hL.2 7 i j ⟨h1, h2⟩).1) k).trans (if_pos ⟨hk, h2, hm⟩)
theorem yK8 (hL : LY L G n Q) (h1 : i < 16) (h2 : j < 80) (h3 : qmd Q i = true) : hc G (L.1 8 i j) = 1 := (hL.2 8 i j ⟨h1, h2, h3⟩).2.2.1
theorem zK8 (hL : LY L G n Q) (h1 : i < 16) (h2 : j < 80) (h3 : qmd Q i = true) : L.1 8 i j ≠ 0 := (hL.2 8 i j ⟨h1, h2, h3⟩).2.1
theorem iK8 (hL : LY L G n Q) (h1 : i < 16) (h2 : j < 80) (h3 : qmd Q i = true) : hi (eK L G V R) (L.1 8 i j) = V 8 i j := eK_hi (hL.2 8 i j ⟨h1, h2, h3⟩).1
theorem wK8 (hL : LY L G n Q) (h1 : i < 16) (h2 : j < 80) (h3 : qmd Q i = true) : sI (eK L G V R) (L.1 8 i j) k v = eK L G (uR V 8 i j (va_up (V 8 i j) k v)) R := eK_sI hL.1 (hL.2 8 i j ⟨h1, h2, h3⟩).1
theorem yK9 (hL : LY L G n Q) (h1 : i < n) : hc G (L.1 9 i 0) = 5 := (hL.2 9 i 0 ⟨h1, rfl⟩).2.2.1
theorem zK9 (hL : LY L G n Q) (h1 : i < n) : L.1 9 i 0 ≠ 0 := (hL.2 9 i 0 ⟨h1, rfl⟩).2.1
theorem iK9 (hL : LY L G n Q) (h1 : i < n) : hi (eK L G V R) (L.1 9 i 0) = V 9 i 0 := eK_hi (hL.2 9 i 0 ⟨h1, rfl⟩).1
theorem wK9 (hL : LY L G n Q) (h1 : i < n) : sI (eK L G V R) (L.1 9 i 0) k v = eK L G (uR V 9 i 0 (va_up (V 9 i 0) k v)) R := eK_sI hL.1 (hL.2 9 i 0 ⟨h1, rfl⟩).1
theorem rK9_0 (hL : LY L G n Q) (h1 : i < n) : hr (eK L G V (RF n L Q)) (L.1 9 i 0) 0 = L.1 1 0 0 := congrFun (eK_hr (hL.2 9 i 0 ⟨h1, rfl⟩).1) 0
theorem rK9_2 (hL : LY L G n Q) (h1 : i < n) : hr (eK L G V (RF n L Q)) (L.1 9 i 0) 2 = L.1 10 i 0 := congrFun (eK_hr (hL.2 9 i 0 ⟨h1, rfl⟩).1) 2
theorem rK9_3 (hL : LY L G n Q) (h1 : i < n) : hr (eK L G V (RF n L Q)) (L.1 9 i 0) 3 = L.1 11 i 0 := congrFun (eK_hr (hL.2 9 i 0 ⟨h1, rfl⟩).1) 3
theorem yK10 (hL : LY L G n Q) (h1 : i < n) : hc G (L.1 10 i 0) = 16 := (hL.2 10 i 0 ⟨h1, rfl⟩).2.2.1
theorem zK10 (hL : LY L G n Q) (h1 : i < n) : L.1 10 i 0 ≠ 0 := (hL.2 10 i 0 ⟨h1, rfl⟩).2.1
theorem iK10 (hL : LY L G n Q) (h1 : i < n) : hi (eK L G V R) (L.1 10 i 0) = V 10 i 0 := eK_hi (hL.2 10 i 0 ⟨h1, rfl⟩).1
theorem wK10 (hL : LY L G n Q) (h1 : i < n) : sI (eK L G V R) (L.1 10 i 0) k v = eK L G (uR V 10 i 0 (va_up (V 10 i 0) k v)) R := eK_sI hL.1 (hL.2 10 i 0 ⟨h1, rfl⟩).1
theorem lK10 (hL : LY L G n Q) (h1 : i < n) : hl G (L.1 10 i 0) = 4 := (hL.2 10 i 0 ⟨h1, rfl⟩).2.2.2 (show (4 : Nat) ≠ 0 by decide)
theorem rK10 (hL : LY L G n Q) (h1 : i < n) (hk : k < 4) : hr (eK L G V (RF n L Q)) (L.1 10 i 0) k = (if qpw Q (4 * i + k) ≠ -1 then L.1 18 i k else 0) := (congrFun (eK_hr (hL.2 10 i 0 ⟨h1, rfl⟩).1) k).trans (by
  show (if (0 : Nat) = 0 ∧ k < 4 ∧ qpw Q (4 * i + k) ≠ -1 then L.1 18 i k else 0) = _
  simp only [hk, true_and])
theorem yK11 (hL : LY L G n Q) (h1 : i < n) : hc G (L.1 11 i 0) = 18 := (hL.2 11 i 0 ⟨h1, rfl⟩).2.2.1
theorem zK11 (hL : LY L G n Q) (h1 : i < n) : L.1 11 i 0 ≠ 0 := (hL.2 11 i 0 ⟨h1, rfl⟩).2.1
theorem iK11 (hL : LY L G n Q) (h1 : i < n) : hi (eK L G V R) (L.1 11 i 0) = V 11 i 0 := eK_hi (hL.2 11 i 0 ⟨h1, rfl⟩).1
theorem wK11 (hL : LY L G n Q) (h1 : i < n) : sI (eK L G V R) (L.1 11 i 0) k v = eK L G (uR V 11 i 0 (va_up (V 11 i 0) k v)) R := eK_sI hL.1 (hL.2 11 i 0 ⟨h1, rfl⟩).1
theorem lK11 (hL : LY L G n Q) (h1 : i < n) : hl G (L.1 11 i 0) = 8 := (hL.2 11 i 0 ⟨h1, rfl⟩).2.2.2 (show (8 : Nat) ≠ 0 by decide)
theorem rK11 (hL : LY L G n Q) (h1 : i < n) (hk : k < 8) : hr (eK L G V (RF n L Q)) (L.1 11 i 0) k = L.1 12 i k := (congrFun (eK_hr (hL.2 11 i 0 ⟨h1, rfl⟩).1) k).trans (if_pos hk)
theorem yK12 (hL : LY L G n Q) (h1 : i < n) (h2 : j < 8) : hc G (L.1 12 i j) = 6 := (hL.2 12 i j ⟨h1, h2⟩).2.2.1
theorem zK12 (hL : LY L G n Q) (h1 : i < n) (h2 : j < 8) : L.1 12 i j ≠ 0 := (hL.2 12 i j ⟨h1, h2⟩).2.1
theorem iK12 (hL : LY L G n Q) (h1 : i < n) (h2 : j < 8) : hi (eK L G V R) (L.1 12 i j) = V 12 i j := eK_hi (hL.2 12 i j ⟨h1, h2⟩).1
theorem wK12 (hL : LY L G n Q) (h1 : i < n) (h2 : j < 8) : sI (eK L G V R) (L.1 12 i j) k v = eK L G (uR V 12 i j (va_up (V 12 i j) k v)) R := eK_sI hL.1 (hL.2 12 i j ⟨h1, h2⟩).1
theorem rK12_0 (hL : LY L G n Q) (h1 : i < n) (h2 : j < 8) : hr (eK L G V (RF n L Q)) (L.1 12 i j) 0 = L.1 1 0 0 := congrFun (eK_hr (hL.2 12 i j ⟨h1, h2⟩).1) 0
theorem rK12_3 (hL : LY L G n Q) (h1 : i < n) (h2 : j < 8) : hr (eK L G V (RF n L Q)) (L.1 12 i j) 3 = L.1 10 i 0 := congrFun (eK_hr (hL.2 12 i j ⟨h1, h2⟩).1) 3
theorem rK12_5 (hL : LY L G n Q) (h1 : i < n) (h2 : j < 8) : hr (eK L G V (RF n L Q)) (L.1 12 i j) 5 = L.1 13 i j := congrFun (eK_hr (hL.2 12 i j ⟨h1, h2⟩).1) 5
theorem rK12_6 (hL : LY L G n Q) (h1 : i < n) (h2 : j < 8) : hr (eK L G V (RF n L Q)) (L.1 12 i j) 6 = L.1 14 i j := congrFun (eK_hr (hL.2 12 i j ⟨h1, h2⟩).1) 6
theorem rK12_8 (hL : LY L G n Q) (h1 : i < n) (h2 : j < 8) : hr (eK L G V (RF n L Q)) (L.1 12 i j) 8 = L.1 15 i j := congrFun (eK_hr (hL.2 12 i j ⟨h1, h2⟩).1) 8
theorem rK12_9 (hL : LY L G n Q) (h1 : i < n) (h2 : j < 8) : hr (eK L G V (RF n L Q)) (L.1 12 i j) 9 = L.1 16 i j := congrFun (eK_hr (hL.2 12 i j ⟨h1, h2⟩).1) 9
theorem rK12_10 (hL : LY L G n Q) (h1 : i < n) (h2 : j < 8) : hr (eK L G V (RF n L Q)) (L.1 12 i j) 10 = L.1 17 i j := congrFun (eK_hr (hL.2 12 i j ⟨h1, h2⟩).1) 10
theorem yK13 (hL : LY L G n Q) (h1 : i < n) (h2 : j < 8) : hc G (L.1 13 i j) = 11 := (hL.2 13 i j ⟨h1, h2⟩).2.2.1
theorem zK13 (hL : LY L G n Q) (h1 : i < n) (h2 : j < 8) : L.1 13 i j ≠ 0 := (hL.2 13 i j ⟨h1, h2⟩).2.1
theorem iK13 (hL : LY L G n Q) (h1 : i < n) (h2 : j < 8) : hi (eK L G V R) (L.1 13 i j) = V 13 i j := eK_hi (hL.2 13 i j ⟨h1, h2⟩).1
theorem wK13 (hL : LY L G n Q) (h1 : i < n) (h2 : j < 8) : sI (eK L G V R) (L.1 13 i j) k v = eK L G (uR V 13 i j (va_up (V 13 i j) k v)) R := eK_sI hL.1 (hL.2 13 i j ⟨h1, h2⟩).1
theorem lK13 (hL : LY L G n Q) (h1 : i < n) (h2 : j < 8) : hl G (L.1 13 i j) = 17 := (hL.2 13 i j ⟨h1, h2⟩).2.2.2 (show (17 : Nat) ≠ 0 by decide)
theorem yK14 (hL : LY L G n Q) (h1 : i < n) (h2 : j < 8) : hc G (L.1 14 i j) = 11 := (hL.2 14 i j ⟨h1, h2⟩).2.2.1
theorem zK14 (hL : LY L G n Q) (h1 : i < n) (h2 : j < 8) : L.1 14 i j ≠ 0 := (hL.2 14 i j ⟨h1, h2⟩).2.1
theorem iK14 (hL : LY L G n Q) (h1 : i < n) (h2 : j < 8) : hi (eK L G V R) (L.1 14 i j) = V 14 i j := eK_hi (hL.2 14 i j ⟨h1, h2⟩).1
theorem wK14 (hL : LY L G n Q) (h1 : i < n) (h2 : j < 8) : sI (eK L G V R) (L.1 14 i j) k v = eK L G (uR V 14 i j (va_up (V 14 i j) k v)) R := eK_sI hL.1 (hL.2 14 i j ⟨h1, h2⟩).1
theorem lK14 (hL : LY L G n Q) (h1 : i < n) (h2 : j < 8) : hl G (L.1 14 i j) = 17 := (hL.2 14 i j ⟨h1, h2⟩).2.2.2 (show (17 : Nat) ≠ 0 by decide)
theorem yK15 (hL : LY L G n Q) (h1 : i < n) (h2 : j < 8) : hc G (L.1 15 i j) = 11 := (hL.2 15 i j ⟨h1, h2⟩).2.2.1
theorem zK15 (hL : LY L G n Q) (h1 : i < n) (h2 : j < 8) : L.1 15 i j ≠ 0 := (hL.2 15 i j ⟨h1, h2⟩).2.1
theorem iK15 (hL : LY L G n Q) (h1 : i < n) (h2 : j < 8) : hi (eK L G V R) (L.1 15 i j) = V 15 i j := eK_hi (hL.2 15 i j ⟨h1, h2⟩).1
theorem wK15 (hL : LY L G n Q) (h1 : i < n) (h2 : j < 8) : sI (eK L G V R) (L.1 15 i j) k v = eK L G (uR V 15 i j (va_up (V 15 i j) k v)) R := eK_sI hL.1 (hL.2 15 i j ⟨h1, h2⟩).1
theorem lK15 (hL : LY L G n Q) (h1 : i < n) (h2 : j < 8) : hl G (L.1 15 i j) = 16 := (hL.2 15 i j ⟨h1, h2⟩).2.2.2 (show (16 : Nat) ≠ 0 by decide)
theorem yK16 (hL : LY L G n Q) (h1 : i < n) (h2 : j < 8) : hc G (L.1 16 i j) = 11 := (hL.2 16 i j ⟨h1, h2⟩).2.2.1
theorem zK16 (hL : LY L G n Q) (h1 : i < n) (h2 : j < 8) : L.1 16 i j ≠ 0 := (hL.2 16 i j ⟨h1, h2⟩).2.1
theorem iK16 (hL : LY L G n Q) (h1 : i < n) (h2 : j < 8) : hi (eK L G V R) (L.1 16 i j) = V 16 i j := eK_hi (hL.2 16 i j ⟨h1, h2⟩).1
theorem wK16 (hL : LY L G n Q) (h1 : i < n) (h2 : j < 8) : sI (eK L G V R) (L.1 16 i j) k v = eK L G (uR V 16 i j (va_up (V 16 i j) k v)) R := eK_sI hL.1 (hL.2 16 i j ⟨h1, h2⟩).1
theorem lK16 (hL : LY L G n Q) (h1 : i < n) (h2 : j < 8) : hl G (L.1 16 i j) = 16 := (hL.2 16 i j ⟨h1, h2⟩).2.2.2 (show (16 : Nat) ≠ 0 by decide)
theorem yK17 (hL : LY L G n Q) (h1 : i < n) (h2 : j < 8) : hc G (L.1 17 i j) = 11 := (hL.2 17 i j ⟨h1, h2⟩).2.2.1
theorem zK17 (hL : LY L G n Q) (h1 : i < n) (h2 : j < 8) : L.1 17 i j ≠ 0 := (hL.2 17 i j ⟨h1, h2⟩).2.1
theorem iK17 (hL : LY L G n Q) (h1 : i < n) (h2 : j < 8) : hi (eK L G V R) (L.1 17 i j) = V 17 i j := eK_hi (hL.2 17 i j ⟨h1, h2⟩).1
theorem wK17 (hL : LY L G n Q) (h1 : i < n) (h2 : j < 8) : sI (eK L G V R) (L.1 17 i j) k v = eK L G (uR V 17 i j (va_up (V 17 i j) k v)) R := eK_sI hL.1 (hL.2 17 i j ⟨h1, h2⟩).1
theorem lK17 (hL : LY L G n Q) (h1 : i < n) (h2 : j < 8) : hl G (L.1 17 i j) = 16 := (hL.2 17 i j ⟨h1, h2⟩).2.2.2 (show (16 : Nat) ≠ 0 by decide)
theorem yK18 (hL : LY L G n Q) (h1 : i < n) (h2 : j < 4) (h3 : qpw Q (4 * i + j) ≠ -1) : hc G (L.1 18 i j) = 4 := (hL.2 18 i j ⟨h1, h2, h3⟩).2.2.1
theorem zK18 (hL : LY L G n Q) (h1 : i < n) (h2 : j < 4) (h3 : qpw Q (4 * i + j) ≠ -1) : L.1 18 i j ≠ 0 := (hL.2 18 i j ⟨h1, h2, h3⟩).2.1
theorem iK18 (hL : LY L G n Q) (h1 : i < n) (h2 : j < 4) (h3 : qpw Q (4 * i + j) ≠ -1) : hi (eK L G V R) (L.1 18 i j) = V 18 i j := eK_hi (hL.2 18 i j ⟨h1, h2, h3⟩).1
theorem wK18 (hL : LY L G n Q) (h1 : i < n) (h2 : j < 4) (h3 : qpw Q (4 * i + j) ≠ -1) : sI (eK L G V R) (L.1 18 i j) k v = eK L G (uR V 18 i j (va_up (V 18 i j) k v)) R := eK_sI hL.1 (hL.2 18 i j ⟨h1, h2, h3⟩).1
theorem rK18_0 (hL : LY L G n Q) (h1 : i < n) (h2 : j < 4) (h3 : qpw Q (4 * i + j) ≠ -1) : hr (eK L G V (RF n L Q)) (L.1 18 i j) 0 = L.1 1 0 0 := congrFun (eK_hr (hL.2 18 i j ⟨h1, h2, h3⟩).1) 0
theorem rK18_2 (hL : LY L G n Q) (h1 : i < n) (h2 : j < 4) (h3 : qpw Q (4 * i + j) ≠ -1) : hr (eK L G V (RF n L Q)) (L.1 18 i j) 2 = L.1 5 (qpw Q (4 * i + j)).toNatClampNeg 0 := congrFun (eK_hr (hL.2 18 i j ⟨h1, h2, h3⟩).1) 2
theorem rK18_7 (hL : LY L G n Q) (h1 : i < n) (h2 : j < 4) (h3 : qpw Q (4 * i + j) ≠ -1) : hr (eK L G V (RF n L Q)) (L.1 18 i j) 7 = L.1 19 i j := congrFun (eK_hr (hL.2 18 i j ⟨h1, h2, h3⟩).1) 7
theorem rK18_8 (hL : LY L G n Q) (h1 : i < n) (h2 : j < 4) (h3 : qpw Q (4 * i + j) ≠ -1) : hr (eK L G V (RF n L Q)) (L.1 18 i j) 8 = L.1 20 i j := congrFun (eK_hr (hL.2 18 i j ⟨h1, h2, h3⟩).1) 8
theorem rK18_9 (hL : LY L G n Q) (h1 : i < n) (h2 : j < 4) (h3 : qpw Q (4 * i + j) ≠ -1) : hr (eK L G V (RF n L Q)) (L.1 18 i j) 9 = L.1 21 i j := congrFun (eK_hr (hL.2 18 i j ⟨h1, h2, h3⟩).1) 9
theorem rK18_10 (hL : LY L G n Q) (h1 : i < n) (h2 : j < 4) (h3 : qpw Q (4 * i + j) ≠ -1) : hr (eK L G V (RF n L Q)) (L.1 18 i j) 10 = L.1 22 i j := congrFun (eK_hr (hL.2 18 i j ⟨h1, h2, h3⟩).1) 10
theorem rK18_11 (hL : LY L G n Q) (h1 : i < n) (h2 : j < 4) (h3 : qpw Q (4 * i + j) ≠ -1) : hr (eK L G V (RF n L Q)) (L.1 18 i j) 11 = L.1 23 i j := congrFun (eK_hr (hL.2 18 i j ⟨h1, h2, h3⟩).1) 11
theorem rK18_12 (hL : LY L G n Q) (h1 : i < n) (h2 : j < 4) (h3 : qpw Q (4 * i + j) ≠ -1) : hr (eK L G V (RF n L Q)) (L.1 18 i j) 12 = L.1 24 i j := congrFun (eK_hr (hL.2 18 i j ⟨h1, h2, h3⟩).1) 12
theorem yK19 (hL : LY L G n Q) (h1 : i < n) (h2 : j < 4) (h3 : qpw Q (4 * i + j) ≠ -1) : hc G (L.1 19 i j) = 11 := (hL.2 19 i j ⟨h1, h2, h3⟩).2.2.1
theorem zK19 (hL : LY L G n Q) (h1 : i < n) (h2 : j < 4) (h3 : qpw Q (4 * i + j) ≠ -1) : L.1 19 i j ≠ 0 := (hL.2 19 i j ⟨h1, h2, h3⟩).2.1
theorem iK19 (hL : LY L G n Q) (h1 : i < n) (h2 : j < 4) (h3 : qpw Q (4 * i + j) ≠ -1) : hi (eK L G V R) (L.1 19 i j) = V 19 i j := eK_hi (hL.2 19 i j ⟨h1, h2, h3⟩).1
theorem wK19 (hL : LY L G n Q) (h1 : i < n) (h2 : j < 4) (h3 : qpw Q (4 * i + j) ≠ -1) : sI (eK L G V R) (L.1 19 i j) k v = eK L G (uR V 19 i j (va_up (V 19 i j) k v)) R := eK_sI hL.1 (hL.2 19 i j ⟨h1, h2, h3⟩).1
theorem lK19 (hL : LY L G n Q) (h1 : i < n) (h2 : j < 4) (h3 : qpw Q (4 * i + j) ≠ -1) : hl G (L.1 19 i j) = 10 := (hL.2 19 i j ⟨h1, h2, h3⟩).2.2.2 (show (10 : Nat) ≠ 0 by decide)
theorem yK20 (hL : LY L G n Q) (h1 : i < n) (h2 : j < 4) (h3 : qpw Q (4 * i + j) ≠ -1) : hc G (L.1 20 i j) = 11 := (hL.2 20 i j ⟨h1, h2, h3⟩).2.2.1
theorem zK20 (hL : LY L G n Q) (h1 : i < n) (h2 : j < 4) (h3 : qpw Q (4 * i + j) ≠ -1) : L.1 20 i j ≠ 0 := (hL.2 20 i j ⟨h1, h2, h3⟩).2.1
theorem iK20 (hL : LY L G n Q) (h1 : i < n) (h2 : j < 4) (h3 : qpw Q (4 * i + j) ≠ -1) : hi (eK L G V R) (L.1 20 i j) = V 20 i j := eK_hi (hL.2 20 i j ⟨h1, h2, h3⟩).1
theorem wK20 (hL : LY L G n Q) (h1 : i < n) (h2 : j < 4) (h3 : qpw Q (4 * i + j) ≠ -1) : sI (eK L G V R) (L.1 20 i j) k v = eK L G (uR V 20 i j (va_up (V 20 i j) k v)) R := eK_sI hL.1 (hL.2 20 i j ⟨h1, h2, h3⟩).1
theorem lK20 (hL : LY L G n Q) (h1 : i < n) (h2 : j < 4) (h3 : qpw Q (4 * i + j) ≠ -1) : hl G (L.1 20 i j) = 8 := (hL.2 20 i j ⟨h1, h2, h3⟩).2.2.2 (show (8 : Nat) ≠ 0 by decide)
theorem yK21 (hL : LY L G n Q) (h1 : i < n) (h2 : j < 4) (h3 : qpw Q (4 * i + j) ≠ -1) : hc G (L.1 21 i j) = 11 := (hL.2 21 i j ⟨h1, h2, h3⟩).2.2.1
theorem zK21 (hL : LY L G n Q) (h1 : i < n) (h2 : j < 4) (h3 : qpw Q (4 * i + j) ≠ -1) : L.1 21 i j ≠ 0 := (hL.2 21 i j ⟨h1, h2, h3⟩).2.1
theorem iK21 (hL : LY L G n Q) (h1 : i < n) (h2 : j < 4) (h3 : qpw Q (4 * i + j) ≠ -1) : hi (eK L G V R) (L.1 21 i j) = V 21 i j := eK_hi (hL.2 21 i j ⟨h1, h2, h3⟩).1
theorem wK21 (hL : LY L G n Q) (h1 : i < n) (h2 : j < 4) (h3 : qpw Q (4 * i + j) ≠ -1) : sI (eK L G V R) (L.1 21 i j) k v = eK L G (uR V 21 i j (va_up (V 21 i j) k v)) R := eK_sI hL.1 (hL.2 21 i j ⟨h1, h2, h3⟩).1
theorem lK21 (hL : LY L G n Q) (h1 : i < n) (h2 : j < 4) (h3 : qpw Q (4 * i + j) ≠ -1) : hl G (L.1 21 i j) = 136 := (hL.2 21 i j ⟨h1, h2, h3⟩).2.2.2 (show (136 : Nat) ≠ 0 by decide)
theorem yK22 (hL : LY L G n Q) (h1 : i < n) (h2 : j < 4) (h3 : qpw Q (4 * i + j) ≠ -1) : hc G (L.1 22 i j) = 11 := (hL.2 22 i j ⟨h1, h2, h3⟩).2.2.1
theorem zK22 (hL : LY L G n Q) (h1 : i < n) (h2 : j < 4) (h3 : qpw Q (4 * i + j) ≠ -1) : L.1 22 i j ≠ 0 := (hL.2 22 i j ⟨h1, h2, h3⟩).2.1
theorem iK22 (hL : LY L G n Q) (h1 : i < n) (h2 : j < 4) (h3 : qpw Q (4 * i + j) ≠ -1) : hi (eK L G V R) (L.1 22 i j) = V 22 i j := eK_hi (hL.2 22 i j ⟨h1, h2, h3⟩).1
theorem wK22 (hL : LY L G n Q) (h1 : i < n) (h2 : j < 4) (h3 : qpw Q (4 * i + j) ≠ -1) : sI (eK L G V R) (L.1 22 i j) k v = eK L G (uR V 22 i j (va_up (V 22 i j) k v)) R := eK_sI hL.1 (hL.2 22 i j ⟨h1, h2, h3⟩).1
theorem lK22 (hL : LY L G n Q) (h1 : i < n) (h2 : j < 4) (h3 : qpw Q (4 * i + j) ≠ -1) : hl G (L.1 22 i j) = 128 := (hL.2 22 i j ⟨h1, h2, h3⟩).2.2.2 (show (128 : Nat) ≠ 0 by decide)
theorem yK23 (hL : LY L G n Q) (h1 : i < n) (h2 : j < 4) (h3 : qpw Q (4 * i + j) ≠ -1) : hc G (L.1 23 i j) = 11 := (hL.2 23 i j ⟨h1, h2, h3⟩).2.2.1
theorem zK23 (hL : LY L G n Q) (h1 : i < n) (h2 : j < 4) (h3 : qpw Q (4 * i + j) ≠ -1) : L.1 23 i j ≠ 0 := (hL.2 23 i j ⟨h1, h2, h3⟩).2.1
theorem iK23 (hL : LY L G n Q) (h1 : i < n) (h2 : j < 4) (h3 : qpw Q (4 * i + j) ≠ -1) : hi (eK L G V R) (L.1 23 i j) = V 23 i j := eK_hi (hL.2 23 i j ⟨h1, h2, h3⟩).1
theorem wK23 (hL : LY L G n Q) (h1 : i < n) (h2 : j < 4) (h3 : qpw Q (4 * i + j) ≠ -1) : sI (eK L G V R) (L.1 23 i j) k v = eK L G (uR V 23 i j (va_up (V 23 i j) k v)) R := eK_sI hL.1 (hL.2 23 i j ⟨h1, h2, h3⟩).1
theorem lK23 (hL : LY L G n Q) (h1 : i < n) (h2 : j < 4) (h3 : qpw Q (4 * i + j) ≠ -1) : hl G (L.1 23 i j) = 128 := (hL.2 23 i j ⟨h1, h2, h3⟩).2.2.2 (show (128 : Nat) ≠ 0 by decide)
theorem yK24 (hL : LY L G n Q) (h1 : i < n) (h2 : j < 4) (h3 : qpw Q (4 * i + j) ≠ -1) : hc G (L.1 24 i j) = 11 := (hL.2 24 i j ⟨h1, h2, h3⟩).2.2.1
theorem zK24 (hL : LY L G n Q) (h1 : i < n) (h2 : j < 4) (h3 : qpw Q (4 * i + j) ≠ -1) : L.1 24 i j ≠ 0 := (hL.2 24 i j ⟨h1, h2, h3⟩).2.1
theorem iK24 (hL : LY L G n Q) (h1 : i < n) (h2 : j < 4) (h3 : qpw Q (4 * i + j) ≠ -1) : hi (eK L G V R) (L.1 24 i j) = V 24 i j := eK_hi (hL.2 24 i j ⟨h1, h2, h3⟩).1
theorem wK24 (hL : LY L G n Q) (h1 : i < n) (h2 : j < 4) (h3 : qpw Q (4 * i + j) ≠ -1) : sI (eK L G V R) (L.1 24 i j) k v = eK L G (uR V 24 i j (va_up (V 24 i j) k v)) R := eK_sI hL.1 (hL.2 24 i j ⟨h1, h2, h3⟩).1
theorem lK24 (hL : LY L G n Q) (h1 : i < n) (h2 : j < 4) (h3 : qpw Q (4 * i + j) ≠ -1) : hl G (L.1 24 i j) = 128 := (hL.2 24 i j ⟨h1, h2, h3⟩).2.2.2 (show (128 : Nat) ≠ 0 by decide)
theorem yK25 (hL : LY L G n Q) (h1 : i < 16) (h2 : qhw Q i ≠ -1) : hc G (L.1 25 i 0) = 2 := (hL.2 25 i 0 ⟨h1, rfl, h2⟩).2.2.1
theorem zK25 (hL : LY L G n Q) (h1 : i < 16) (h2 : qhw Q i ≠ -1) : L.1 25 i 0 ≠ 0 := (hL.2 25 i 0 ⟨h1, rfl, h2⟩).2.1
theorem iK25 (hL : LY L G n Q) (h1 : i < 16) (h2 : qhw Q i ≠ -1) : hi (eK L G V R) (L.1 25 i 0) = V 25 i 0 := eK_hi (hL.2 25 i 0 ⟨h1, rfl, h2⟩).1
theorem wK25 (hL : LY L G n Q) (h1 : i < 16) (h2 : qhw Q i ≠ -1) : sI (eK L G V R) (L.1 25 i 0) k v = eK L G (uR V 25 i 0 (va_up (V 25 i 0) k v)) R := eK_sI hL.1 (hL.2 25 i 0 ⟨h1, rfl, h2⟩).1
theorem rK25_1 (hL : LY L G n Q) (h1 : i < 16) (h2 : qhw Q i ≠ -1) : hr (eK L G V (RF n L Q)) (L.1 25 i 0) 1 = L.1 5 (qhw Q i).toNatClampNeg 0 := congrFun (eK_hr (hL.2 25 i 0 ⟨h1, rfl, h2⟩).1) 1
theorem rK25_2 (hL : LY L G n Q) (h1 : i < 16) (h2 : qhw Q i ≠ -1) : hr (eK L G V (RF n L Q)) (L.1 25 i 0) 2 = L.1 26 i 0 := congrFun (eK_hr (hL.2 25 i 0 ⟨h1, rfl, h2⟩).1) 2
theorem yK26 (hL : LY L G n Q) (h1 : i < 16) (h2 : qhw Q i ≠ -1) : hc G (L.1 26 i 0) = 11 := (hL.2 26 i 0 ⟨h1, rfl, h2⟩).2.2.1
theorem zK26 (hL : LY L G n Q) (h1 : i < 16) (h2 : qhw Q i ≠ -1) : L.1 26 i 0 ≠ 0 := (hL.2 26 i 0 ⟨h1, rfl, h2⟩).2.1
theorem iK26 (hL : LY L G n Q) (h1 : i < 16) (h2 : qhw Q i ≠ -1) : hi (eK L G V R) (L.1 26 i 0) = V 26 i 0 := eK_hi (hL.2 26 i 0 ⟨h1, rfl, h2⟩).1
theorem wK26 (hL : LY L G n Q) (h1 : i < 16) (h2 : qhw Q i ≠ -1) : sI (eK L G V R) (L.1 26 i 0) k v = eK L G (uR V 26 i 0 (va_up (V 26 i 0) k v)) R := eK_sI hL.1 (hL.2 26 i 0 ⟨h1, rfl, h2⟩).1
theorem lK26 (hL : LY L G n Q) (h1 : i < 16) (h2 : qhw Q i ≠ -1) : hl G (L.1 26 i 0) = 400 := (hL.2 26 i 0 ⟨h1, rfl, h2⟩).2.2.2 (show (400 : Nat) ≠ 0 by decide)
end
