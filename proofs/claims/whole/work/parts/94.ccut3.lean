/-! THE CLASS: a wire is cut, the trees -/
def fsZ (z : Sg) (p : Nat) (S : Nat → Bool) : Sg := (z.1, fun k => if k = 33 then (fun i => if S i = true ∧ z.2 33 i = nI p then -1 else z.2 33 i) else if k = 34 then (fun i => if S i = true ∧ z.2 33 i = nI p then -1 else z.2 34 i) else z.2 k)
def ivx (t : Nat) : Nat := if t = 0 then 16 else t - 1
def Sx (r g x i : Nat) : Bool := decide (136 * r ≤ i ∧ i < 136 * r + 17 * g) || decide (i / 17 = 8 * r + g ∧ ivx (i % 17) < x)
section
variable {L : Ly} {G : Hp} {n : Nat} {st : Int32} {V : Vt} {Q : Qt} {z : Sg} {r p q g s x y m v i h k : Nat}
theorem Sx_s (hx : x < 17) (hg : g < 8) : Sx r g (x + 1) i = (Sx r g x i || decide (i = 17 * (8 * r + g) + yx x)) := by
  have e : (i / 17 = 8 * r + g ∧ ivx (i % 17) < x + 1) ↔ ((i / 17 = 8 * r + g ∧ ivx (i % 17) < x) ∨ i = 17 * (8 * r + g) + yx x) := by
    unfold ivx yx
    by_cases h0 : i % 17 = 0
    · rw [if_pos h0]
      by_cases h16 : x = 16
      · rw [if_pos h16]
        omega
      · rw [if_neg h16]
        omega
    · rw [if_neg h0]
      by_cases h16 : x = 16
      · rw [if_pos h16]
        omega
      · rw [if_neg h16]
        omega
  unfold Sx
  by_cases a : 136 * r ≤ i ∧ i < 136 * r + 17 * g
  · rw [decide_eq_true a]
    rfl
  · rw [decide_eq_false a, Bool.false_or, Bool.false_or]
    by_cases b : i / 17 = 8 * r + g ∧ ivx (i % 17) < x
    · rw [decide_eq_true b, decide_eq_true (e.mpr (Or.inl b)), Bool.true_or]
    · rw [decide_eq_false b, Bool.false_or]
      by_cases c : i = 17 * (8 * r + g) + yx x
      · rw [decide_eq_true c, decide_eq_true (e.mpr (Or.inr c))]
      · rw [decide_eq_false c, decide_eq_false (fun w => (e.mp w).elim b c)]
theorem Sx_g : (fun i => Sx r g 17 i) = fun i => Sx r (g + 1) 0 i := by
  funext i
  unfold Sx
  have h1 : ivx (i % 17) < 17 := by
    unfold ivx
    split <;> omega
  rw [decide_eq_false (show ¬ (i / 17 = 8 * r + (g + 1) ∧ ivx (i % 17) < 0) from fun w => Nat.not_lt_zero _ w.2), Bool.or_false]
  by_cases a : 136 * r ≤ i ∧ i < 136 * r + 17 * g
  · rw [decide_eq_true a, Bool.true_or, decide_eq_true (by omega)]
  · rw [decide_eq_false a, Bool.false_or]
    by_cases b : i / 17 = 8 * r + g
    · rw [decide_eq_true ⟨b, h1⟩, decide_eq_true (by omega)]
    · rw [decide_eq_false (fun w => b w.1), decide_eq_false (by omega)]
theorem Sx_00 : (fun i => Sx r 0 0 i) = fun _ => false := by
  funext i
  unfold Sx
  rw [decide_eq_false (by omega), decide_eq_false (fun w => Nat.not_lt_zero _ w.2)]
  rfl
theorem Sx_80 : Sx r 8 0 i = decide (i / 136 = r) := by
  unfold Sx
  rw [decide_eq_false (show ¬ (i / 17 = 8 * r + 8 ∧ ivx (i % 17) < 0) from fun w => Nat.not_lt_zero _ w.2), Bool.or_false]
  by_cases a : i / 136 = r
  · rw [decide_eq_true a, decide_eq_true (by omega)]
  · rw [decide_eq_false a, decide_eq_false (by omega)]
theorem fs_33 {S : Nat → Bool} : (fsZ z p S).2 33 i = if S i = true ∧ z.2 33 i = nI p then -1 else z.2 33 i := rfl
theorem fs_34 {S : Nat → Bool} : (fsZ z p S).2 34 i = if S i = true ∧ z.2 33 i = nI p then -1 else z.2 34 i := rfl
theorem fs_o {S : Nat → Bool} {c : Nat} (h3 : c ≠ 33) (h4 : c ≠ 34) : (fsZ z p S).2 c = z.2 c := by
  show (if c = 33 then _ else if c = 34 then _ else z.2 c) = _
  rw [if_neg h3, if_neg h4]
theorem fs_set {S : Nat → Bool} {j : Nat} (h : z.2 33 j = nI p) : uA (uA (fsZ z p S) 33 j (-1)) 34 j (-1) = fsZ z p (fun i => S i || decide (i = j)) := by
  refine Prod.ext rfl ?_
  funext c
  by_cases h3 : c = 33
  · subst h3
    funext i
    rw [uA_ne (by decide), uA_get, fs_33, fs_33]
    by_cases e : i = j
    · rw [if_pos e, decide_eq_true e, Bool.or_true, if_pos ⟨rfl, by rw [e]; exact h⟩]
    · rw [if_neg e, decide_eq_false e, Bool.or_false]
  · by_cases h4 : c = 34
    · subst h4
      funext i
      rw [uA_get, uA_ne (by decide), fs_34, fs_34]
      by_cases e : i = j
      · rw [if_pos e, decide_eq_true e, Bool.or_true, if_pos ⟨rfl, by rw [e]; exact h⟩]
      · rw [if_neg e, decide_eq_false e, Bool.or_false]
    · rw [uA_ne h4, uA_ne h3, fs_o h3 h4, fs_o h3 h4]
theorem fs_no {S : Nat → Bool} {j : Nat} (h : z.2 33 j ≠ nI p ∨ S j = true) : fsZ z p S = fsZ z p (fun i => S i || decide (i = j)) := by
  refine Prod.ext rfl ?_
  have key : ∀ i, (S i = true ∧ z.2 33 i = nI p) ↔ ((S i || decide (i = j)) = true ∧ z.2 33 i = nI p) := by
    intro i
    by_cases e : i = j
    · subst e
      rw [decide_eq_true rfl, Bool.or_true]
      rcases h with h | h
      · exact ⟨fun w => absurd w.2 h, fun w => absurd w.2 h⟩
      · exact ⟨fun w => ⟨rfl, w.2⟩, fun w => ⟨h, w.2⟩⟩
    · rw [decide_eq_false e, Bool.or_false]
  funext c
  by_cases h3 : c = 33
  · subst h3
    funext i
    rw [fs_33, fs_33]
    by_cases a : S i = true ∧ z.2 33 i = nI p
    · rw [if_pos a, if_pos ((key i).mp a)]
    · rw [if_neg a, if_neg (fun w => a ((key i).mpr w))]
  · by_cases h4 : c = 34
    · subst h4
      funext i
      rw [fs_34, fs_34]
      by_cases a : S i = true ∧ z.2 33 i = nI p
      · rw [if_pos a, if_pos ((key i).mp a)]
      · rw [if_neg a, if_neg (fun w => a ((key i).mpr w))]
    · rw [fs_o h3 h4, fs_o h3 h4]
theorem MO_fs {S : Nat → Bool} (hO : MO z) : MO (fsZ z p S) := by
  refine ⟨WF_eq hO.1 rfl rfl (fs_o (by decide) (by decide)) (fs_o (by decide) (by decide)) (fs_o (by decide) (by decide)) (fs_o (by decide) (by decide)), ?_, ?_⟩
  · intro w hw
    rw [fs_o (by decide) (by decide), fs_o (by decide) (by decide)]
    exact hO.2.1 w hw
  · intro t ht
    rw [fs_33, fs_34]
    by_cases a : S t = true ∧ z.2 33 t = nI p
    · rw [if_pos a, if_pos a]
      exact Or.inl ⟨rfl, rfl⟩
    · rw [if_neg a, if_neg a]
      exact hO.2.2 t ht
theorem C_tfp_2 (hL : LY L G n Q) (hO : MO z) (h1 : r < n) (hg : g < 8) (hp : p < 4) : ∀ (N x : Nat) (V : Vt), x ≤ 17 → 17 - x < N → RC n st V Q (fsZ z p (fun i => Sx r g x i)) → ∃ V', d_X5_forgetPort_2 N (L.1 12 r g) (nI p) (nI x) (eK L G V (RF n L Q)) = some (eK L G V' (RF n L Q)) ∧ RC n st V' Q (fsZ z p (fun i => Sx r (g + 1) 0 i)) := by
  intro N
  induction N with
  | zero => intro x V _ h; omega
  | succ N ih =>
    intro x V hx hlt hR
    rw [d_X5_forgetPort_2.eq_2, show (17 : Int32) = nI 17 from rfl]
    by_cases he : x = 17
    · subst he
      rw [if_pos (nI_le (by omega) (by decide))]
      rw [Sx_g] at hR
      exact ⟨V, rfl, hR⟩
    · have hx17 : x < 17 := by omega
      have es : (fun i => Sx r g (x + 1) i) = fun i => Sx r g x i || decide (i = 17 * (8 * r + g) + yx x) := by
        funext i
        exact Sx_s hx17 hg
      rw [if_neg (nI_ge hx17 (by decide)), eK_hc, gd_t (yK12 hL h1 hg), rK12_5 hL h1 hg, eK_hl, yK13 hL h1 hg, lK13 hL h1 hg, gd_t ⟨rfl, (ix_nI (by omega)).mpr hx17⟩, iK13 hL h1 hg, nI_clamp (by omega), nI_1]
      rcases jb_parts (MO_fs hO) hR h1 hg hx17 with ⟨a, b, c⟩ | ⟨a, b, c, d⟩
      · rw [if_pos a]
        refine ih (x + 1) V (by omega) (by omega) (RCe hR ?_)
        rw [es]
        refine fs_no ?_
        rw [fs_33] at b
        by_cases w : Sx r g x (17 * (8 * r + g) + yx x) = true ∧ z.2 33 (17 * (8 * r + g) + yx x) = nI p
        · exact Or.inr w.1
        · rw [if_neg w] at b
          exact Or.inl (by rw [b]; exact fun q => nI_m1 (by omega) q.symm)
      · rw [if_neg a, gd_t ⟨rfl, (ix_nI (by omega)).mpr hx17⟩, c, fs_33]
        rw [fs_33] at b
        have hw : ¬ (Sx r g x (17 * (8 * r + g) + yx x) = true ∧ z.2 33 (17 * (8 * r + g) + yx x) = nI p) := fun w => b (if_pos w)
        rw [if_neg hw]
        by_cases hz : z.2 33 (17 * (8 * r + g) + yx x) = nI p
        · rw [if_pos hz]
          obtain ⟨V1, e1, hR1, -⟩ := C_joinNone hL hR h1 hg hx17
          rw [e1, bo_e]
          refine ih (x + 1) V1 (by omega) (by omega) (RCe hR1 ?_)
          rw [es, fs_set hz]
        · rw [if_neg hz]
          refine ih (x + 1) V (by omega) (by omega) (RCe hR ?_)
          rw [es]
          exact fs_no (Or.inl hz)
theorem C_rfp_29 (hL : LY L G n Q) (hO : MO z) (h1 : r < n) (hp : p < 4) : ∀ (N g : Nat) (V : Vt), g ≤ 8 → 8 - g < N → RC n st V Q (fsZ z p (fun i => Sx r g 0 i)) → ∃ V', d_X4_forgetPort_29 N (L.1 9 r 0) (nI p) (nI g) (eK L G V (RF n L Q)) = some (eK L G V' (RF n L Q)) ∧ RC n st V' Q (fsZ z p (fun i => Sx r 8 0 i)) := by
  intro N
  induction N with
  | zero => intro g V _ h; omega
  | succ N ih =>
    intro g V hg hlt hR
    rw [d_X4_forgetPort_29.eq_2, show (8 : Int32) = nI 8 from rfl]
    by_cases he : g = 8
    · subst he
      rw [if_pos (nI_le (by omega) (by decide))]
      exact ⟨V, rfl, hR⟩
    · have hg8 : g < 8 := by omega
      obtain ⟨V1, e1, hR1⟩ := C_tfp_2 hL hO h1 hg8 hp FU 0 V (by omega) (by show _ < 6000; omega) hR
      rw [nI_0] at e1
      rw [if_neg (nI_ge hg8 (by decide))]
      simp (disch := first | omega | assumption) only [eK_hc, eK_hl, yK9 hL, iK9 hL, rK9_0 hL, rK9_2 hL, rK9_3 hL, yK11 hL, iK11 hL, lK11 hL, rK11 hL, lm4, lm8, lm10, lm16, lm17, lm26, lm40, lm400, nI_add, nI_1, ix_nI, nI_clamp, gd_T, gd_t, bd_e, bo_e, b2_e, true_and, and_true]
      unfold d_X5_forgetPort
      simp (disch := first | omega | assumption) only [eK_hc, eK_hl, yK12 hL, iK12 hL, rK12_0 hL, rK12_3 hL, rK12_5 hL, rK12_6 hL, rK12_8 hL, rK12_9 hL, rK12_10 hL, gd_T, gd_t, bd_e, bo_e, b2_e, true_and, and_true, e1]
      exact ih (g + 1) V1 (by omega) (by omega) hR1
theorem fs_fg : fsZ (fqZ z r p) p (fun i => Sx r 8 0 i) = fgZ z r p := by
  refine Prod.ext rfl ?_
  funext c
  by_cases h3 : c = 33
  · subst h3
    funext i
    rw [fs_33, fq_row (by decide), Sx_80]
    show _ = if i / 136 = r ∧ i % 136 < 136 ∧ z.2 33 i = nI p then -1 else z.2 33 i
    by_cases a : i / 136 = r ∧ z.2 33 i = nI p
    · rw [if_pos ⟨decide_eq_true a.1, a.2⟩, if_pos ⟨a.1, Nat.mod_lt _ (by decide), a.2⟩]
    · rw [if_neg (fun w => a ⟨of_decide_eq_true w.1, w.2⟩), if_neg (fun w => a ⟨w.1, w.2.2⟩)]
  · by_cases h4 : c = 34
    · subst h4
      funext i
      rw [fs_34, fq_row (by decide), fq_row (by decide), Sx_80]
      show _ = if i / 136 = r ∧ i % 136 < 136 ∧ z.2 33 i = nI p then -1 else z.2 34 i
      by_cases a : i / 136 = r ∧ z.2 33 i = nI p
      · rw [if_pos ⟨decide_eq_true a.1, a.2⟩, if_pos ⟨a.1, Nat.mod_lt _ (by decide), a.2⟩]
      · rw [if_neg (fun w => a ⟨of_decide_eq_true w.1, w.2⟩), if_neg (fun w => a ⟨w.1, w.2.2⟩)]
    · rw [fs_o h3 h4]
      show (if c = 25 then _ else if c = 28 then _ else if c = 29 then _ else if c = 30 then _ else if c = 31 then _ else if c = 33 then _ else if c = 34 then _ else _) = (if c = 25 then _ else if c = 28 then _ else if c = 29 then _ else if c = 30 then _ else if c = 31 then _ else if c = 33 then _ else if c = 34 then _ else _)
      rw [if_neg h3, if_neg h4, if_neg h3, if_neg h4]
theorem C_forgetPort (hL : LY L G n Q) (hC : RC n st V Q z) (hO : MO z) (hOq : MO (fqZ z r p)) (h1 : r < n) (hp : p < 4) (hu : qpw Q (4 * r + p) ≠ -1) : ∃ V', d_X4_forgetPort (L.1 9 r 0) (nI p) (eK L G V (RF n L Q)) = some (eK L G V' (RF n L Q)) ∧ RC n st V' Q (fgZ z r p) := by
  have h0 : RC n st (fpV V r p) Q (fsZ (fqZ z r p) p (fun i => Sx r 0 0 i)) := by
    refine RCe (RC_fp hC hO.1 h1 hp hu) ?_
    rw [Sx_00]
    refine Prod.ext rfl ?_
    funext c
    by_cases h3 : c = 33
    · subst h3
      funext i
      rw [fs_33, if_neg (fun w => by cases w.1)]
    · by_cases h4 : c = 34
      · subst h4
        funext i
        rw [fs_34, if_neg (fun w => by cases w.1)]
      · rw [fs_o h3 h4]
  obtain ⟨V1, e1, hR1⟩ := C_rfp_29 hL hOq h1 hp FU 0 (fpV V r p) (by omega) (by show _ < 6000; omega) h0
  rw [nI_0] at e1
  rw [fs_fg] at hR1
  unfold d_X4_forgetPort
  rw [C_isIn4, inR_n hp (by decide), bo_e, if_neg (show ¬ bI true = 0 by decide)]
  simp (disch := first | omega | assumption) only [eK_hc, eK_hl, yK9 hL, iK9 hL, rK9_0 hL, rK9_2 hL, rK9_3 hL, yK10 hL, iK10 hL, lK10 hL, rK10 hL, lm4, lm8, lm10, lm16, lm17, lm26, lm40, lm400, nI_add, nI_1, ix_nI, nI_clamp, gd_T, gd_t, bd_e, bo_e, b2_e, true_and, and_true, if_pos hu, if_neg (zK18 hL h1 hp hu)]
  simp (disch := first | omega | assumption) only [eK_hc, eK_hl, yK18 hL, iK18 hL, rK18_0 hL, rK18_2 hL, rK18_7 hL, rK18_8 hL, rK18_9 hL, rK18_10 hL, rK18_11 hL, rK18_12 hL, gd_T, gd_t, bd_e, bo_e, b2_e, true_and, and_true, C_forget hL h1 hp hu, e1]
  exact ⟨V1, rfl, hR1⟩
end
