/-! THE CLASS: a wire is cut -/
section
variable {L : Ly} {G : Hp} {n : Nat} {st : Int32} {V : Vt} {Q : Qt} {z : Sg} {r p q g s x y m v i h k : Nat}
/-- the port's part of what is forgotten -/
def fqZ (z : Sg) (r p : Nat) : Sg := fgP (uA (uA z 26 (4 * r + p) (-1)) 27 (4 * r + p) (-1)) r p 10 8 136 128 0
theorem C_fill18 {c len : Nat} {w : Int32} (hL : LY L G n Q) (h1 : r < n) (hp : p < 4) (hu : qpw Q (4 * r + p) ≠ -1) (hc : (c = 19 ∧ len = 10) ∨ (c = 20 ∧ len = 8) ∨ (c = 21 ∧ len = 136) ∨ (c = 22 ∧ len = 128) ∨ (c = 23 ∧ len = 128) ∨ (c = 24 ∧ len = 128)) : d_J7_fill_53178 (L.1 c r p) w (eK L G V (RF n L Q)) = some (eK L G (uR V c r p (flF (V c r p) w len)) (RF n L Q)) := by
  rcases hc with ⟨rfl, rfl⟩ | ⟨rfl, rfl⟩ | ⟨rfl, rfl⟩ | ⟨rfl, rfl⟩ | ⟨rfl, rfl⟩ | ⟨rfl, rfl⟩
  · exact C_fill hL.1 (hL.2 19 r p ⟨h1, hp, hu⟩).1 (yK19 hL h1 hp hu) (lK19 hL h1 hp hu) (by decide)
  · exact C_fill hL.1 (hL.2 20 r p ⟨h1, hp, hu⟩).1 (yK20 hL h1 hp hu) (lK20 hL h1 hp hu) (by decide)
  · exact C_fill hL.1 (hL.2 21 r p ⟨h1, hp, hu⟩).1 (yK21 hL h1 hp hu) (lK21 hL h1 hp hu) (by decide)
  · exact C_fill hL.1 (hL.2 22 r p ⟨h1, hp, hu⟩).1 (yK22 hL h1 hp hu) (lK22 hL h1 hp hu) (by decide)
  · exact C_fill hL.1 (hL.2 23 r p ⟨h1, hp, hu⟩).1 (yK23 hL h1 hp hu) (lK23 hL h1 hp hu) (by decide)
  · exact C_fill hL.1 (hL.2 24 r p ⟨h1, hp, hu⟩).1 (yK24 hL h1 hp hu) (lK24 hL h1 hp hu) (by decide)
theorem fq_row {c : Nat} (h : c ≠ 25 ∧ c ≠ 26 ∧ c ≠ 27 ∧ c ≠ 28 ∧ c ≠ 29 ∧ c ≠ 30 ∧ c ≠ 31) : (fqZ z r p).2 c = z.2 c := by
  show (if c = 25 then _ else if c = 28 then _ else if c = 29 then _ else if c = 30 then _ else if c = 31 then _ else if c = 33 then _ else if c = 34 then _ else (uA (uA z 26 (4 * r + p) (-1)) 27 (4 * r + p) (-1)).2 c) = z.2 c
  rw [if_neg h.1, if_neg h.2.2.2.1, if_neg h.2.2.2.2.1, if_neg h.2.2.2.2.2.1, if_neg h.2.2.2.2.2.2]
  by_cases h33 : c = 33
  · subst h33
    rw [if_pos rfl]
    funext i
    rw [if_neg (by omega)]
    rfl
  · rw [if_neg h33]
    by_cases h34 : c = 34
    · subst h34
      rw [if_pos rfl]
      funext i
      rw [if_neg (by omega)]
      rfl
    · rw [if_neg h34, uA_ne h.2.2.1, uA_ne h.2.1]
theorem fq_25 (hq : q < 10) {j : Nat} : (fqZ z r p).2 25 (10 * j + q) = if j = 4 * r + p then 0 else z.2 25 (10 * j + q) := by
  show (if (10 * j + q) / 10 = 4 * r + p ∧ (10 * j + q) % 10 < 10 then (0 : Int32) else z.2 25 (10 * j + q)) = _
  by_cases e : j = 4 * r + p
  · rw [if_pos (by omega), if_pos e]
  · rw [if_neg (by omega), if_neg e]
theorem fq_28 (hq : q < 8) {j : Nat} : (fqZ z r p).2 28 (8 * j + q) = if j = 4 * r + p then 0 else z.2 28 (8 * j + q) := by
  show (if (8 * j + q) / 8 = 4 * r + p ∧ (8 * j + q) % 8 < 8 then (0 : Int32) else z.2 28 (8 * j + q)) = _
  by_cases e : j = 4 * r + p
  · rw [if_pos (by omega), if_pos e]
  · rw [if_neg (by omega), if_neg e]
theorem fq_29 (hq : q < 136) {j : Nat} : (fqZ z r p).2 29 (136 * j + q) = if j = 4 * r + p then 0 else z.2 29 (136 * j + q) := by
  show (if (136 * j + q) / 136 = 4 * r + p ∧ (136 * j + q) % 136 < 136 then (0 : Int32) else z.2 29 (136 * j + q)) = _
  by_cases e : j = 4 * r + p
  · rw [if_pos (by omega), if_pos e]
  · rw [if_neg (by omega), if_neg e]
theorem fq_30 (hq : q < 128) {j : Nat} : (fqZ z r p).2 30 (128 * j + q) = if j = 4 * r + p then -1 else z.2 30 (128 * j + q) := by
  show (if (128 * j + q) / 128 = 4 * r + p ∧ (128 * j + q) % 128 < 128 then (-1 : Int32) else z.2 30 (128 * j + q)) = _
  by_cases e : j = 4 * r + p
  · rw [if_pos (by omega), if_pos e]
  · rw [if_neg (by omega), if_neg e]
theorem fq_31 (hq : q < 128) {j : Nat} : (fqZ z r p).2 31 (128 * j + q) = if j = 4 * r + p then -1 else z.2 31 (128 * j + q) := by
  show (if (128 * j + q) / 128 = 4 * r + p ∧ (128 * j + q) % 128 < 128 then (-1 : Int32) else z.2 31 (128 * j + q)) = _
  by_cases e : j = 4 * r + p
  · rw [if_pos (by omega), if_pos e]
  · rw [if_neg (by omega), if_neg e]
theorem fq_26 {j : Nat} : (fqZ z r p).2 26 j = if j = 4 * r + p then -1 else z.2 26 j := by
  show (uA (uA z 26 (4 * r + p) (-1)) 27 (4 * r + p) (-1)).2 26 j = _
  rw [uA_ne (by decide), uA_get]
theorem fq_27 {j : Nat} : (fqZ z r p).2 27 j = if j = 4 * r + p then -1 else z.2 27 j := by
  show (uA (uA z 26 (4 * r + p) (-1)) 27 (4 * r + p) (-1)).2 27 j = _
  rw [uA_get, uA_ne (by decide)]
/-- a port forgets -/
def fpV (V : Vt) (r p : Nat) : Vt := uR (uR (uR (uR (uR (uR (uR V 18 r p (va_up (va_up (va_up (V 18 r p) 4 0) 5 0) 6 0)) 19 r p (flF (V 19 r p) 0 10)) 20 r p (flF (V 20 r p) 0 8)) 21 r p (flF (V 21 r p) 0 136)) 22 r p (flF (V 22 r p) 0 128)) 23 r p (flF (V 23 r p) 0 128)) 24 r p (flF (V 24 r p) 0 128)
theorem C_forget (hL : LY L G n Q) (h1 : r < n) (hp : p < 4) (hu : qpw Q (4 * r + p) ≠ -1) : d_X3_forget (L.1 18 r p) (eK L G V (RF n L Q)) = some (eK L G (fpV V r p) (RF n L Q)) := by
  unfold d_X3_forget fpV
  rw [eK_hc, gd_t (yK18 hL h1 hp hu), wK18 hL h1 hp hu, bd_e, eK_hc, gd_t (yK18 hL h1 hp hu), wK18 hL h1 hp hu, uR_s, uR_uR, bd_e, eK_hc, gd_t (yK18 hL h1 hp hu), wK18 hL h1 hp hu, uR_s, uR_uR, bd_e,
    eK_hc, gd_t (yK18 hL h1 hp hu), rK18_7 hL h1 hp hu, C_fill18 hL h1 hp hu (Or.inl ⟨rfl, rfl⟩), bo_e, eK_hc, gd_t (yK18 hL h1 hp hu), rK18_8 hL h1 hp hu, C_fill18 hL h1 hp hu (Or.inr (Or.inl ⟨rfl, rfl⟩)), bo_e,
    eK_hc, gd_t (yK18 hL h1 hp hu), rK18_9 hL h1 hp hu, C_fill18 hL h1 hp hu (Or.inr (Or.inr (Or.inl ⟨rfl, rfl⟩))), bo_e, eK_hc, gd_t (yK18 hL h1 hp hu), rK18_10 hL h1 hp hu, C_fill18 hL h1 hp hu (Or.inr (Or.inr (Or.inr (Or.inl ⟨rfl, rfl⟩)))), bo_e,
    eK_hc, gd_t (yK18 hL h1 hp hu), rK18_11 hL h1 hp hu, C_fill18 hL h1 hp hu (Or.inr (Or.inr (Or.inr (Or.inr (Or.inl ⟨rfl, rfl⟩))))), bo_e, eK_hc, gd_t (yK18 hL h1 hp hu), rK18_12 hL h1 hp hu, C_fill18 hL h1 hp hu (Or.inr (Or.inr (Or.inr (Or.inr (Or.inr ⟨rfl, rfl⟩))))), bo_e]
  simp (disch := first | omega | assumption) only [uR_ne]
end
