/-! writing -/
theorem uA_1 {z : Sg} {k i : Nat} {v : Int32} : (uA z k i v).1 = z.1 := rfl
theorem uS_2 {z : Sg} {k : Nat} {v : Int32} : (uS z k v).2 = z.2 := rfl
theorem uA_ne {z : Sg} {k i k' : Nat} {v : Int32} (h : k' ≠ k) : (uA z k i v).2 k' = z.2 k' := by show u2 _ _ _ _ _ = _; unfold u2; rw [if_neg h]
theorem uA_at {z : Sg} {k i : Nat} {v : Int32} : (uA z k i v).2 k = va_up (z.2 k) i v := by show u2 _ _ _ _ _ = _; unfold u2; rw [if_pos rfl]
theorem uA_get {z : Sg} {k i j : Nat} {v : Int32} : (uA z k i v).2 k j = if j = i then v else z.2 k j := by rw [uA_at]; rfl
theorem uS_get {z : Sg} {k j : Nat} {v : Int32} : (uS z k v).1 j = if j = k then v else z.1 j := rfl
/-- the same net: routers, ports, costs, cuts -/
def T0 (z z' : Sg) : Prop := z.1 1 = z'.1 1 ∧ z.2 8 = z'.2 8 ∧ z.2 9 = z'.2 9 ∧ z.2 10 = z'.2 10
theorem t0_rf {z : Sg} : T0 z z := ⟨rfl, rfl, rfl, rfl⟩
theorem t0_tr {a b c : Sg} (h : T0 a b) (k : T0 b c) : T0 a c := ⟨h.1.trans k.1, h.2.1.trans k.2.1, h.2.2.1.trans k.2.2.1, h.2.2.2.trans k.2.2.2⟩
theorem t0_uA {z : Sg} {k i : Nat} {v : Int32} (h : k ≠ 8 ∧ k ≠ 9 ∧ k ≠ 10) : T0 (uA z k i v) z := ⟨rfl, uA_ne (Ne.symm h.1), uA_ne (Ne.symm h.2.1), uA_ne (Ne.symm h.2.2)⟩
theorem t0_uS {z : Sg} {k : Nat} {v : Int32} (h : k ≠ 1) : T0 (uS z k v) z := ⟨by rw [uS_get, if_neg (Ne.symm h)], rfl, rfl, rfl⟩
theorem t0_nR {z z' : Sg} (h : T0 z z') : nR z = nR z' := by unfold nR; rw [h.1]
theorem t0_pOn {z z' : Sg} (h : T0 z z') (r : Nat) (v : Int32) : pOn z r v = pOn z' r v := by unfold pOn; rw [h.2.1]
theorem t0_ovr {z z' : Sg} (h : T0 z z') (f : Nat → Int32) (r p q : Nat) : ovr z f r p q = ovr z' f r p q := by
  unfold ovr upP
  rw [h.2.1, h.2.2.1, h.2.2.2, (t0_pOn h)]
theorem t0_wyQ {z z' : Sg} (h : T0 z z') (r p : Nat) (f : Nat → Int32) (q : Nat) : wyQ z r p f q = wyQ z' r p f q := by
  induction q with
  | zero => rfl
  | succ q ih => unfold wyQ; rw [ih, (t0_ovr h)]
theorem t0_wyP {z z' : Sg} (h : T0 z z') (r : Nat) (f : Nat → Int32) (p : Nat) : wyP z r f p = wyP z' r f p := by
  induction p with
  | zero => rfl
  | succ p ih => unfold wyP; rw [ih, (t0_wyQ h), (t0_nR h)]
theorem t0_wyR {z z' : Sg} (h : T0 z z') (f : Nat → Int32) (r : Nat) : wyR z f r = wyR z' f r := by
  induction r with
  | zero => rfl
  | succ r ih => unfold wyR; rw [ih, (t0_wyP h)]
theorem t0_wyN {z z' : Sg} (h : T0 z z') (f : Nat → Int32) (n : Nat) : wyN z f n = wyN z' f n := by
  induction n with
  | zero => rfl
  | succ n ih => unfold wyN; rw [ih, (t0_wyR h), (t0_nR h)]
theorem t0_atT {z z' : Sg} (h : T0 z z') (r t : Nat) : atT z r t ↔ atT z' r t := by
  unfold atT
  rw [h.2.2.2, (t0_pOn h)]
theorem t0_Dt {z z' : Sg} (h : T0 z z') (t : Nat) : Dt z t = Dt z' t := by
  unfold Dt
  have e : wy0 z t = wy0 z' t := by
    funext r
    unfold wy0
    by_cases a : atT z r t
    · rw [if_pos a, if_pos ((t0_atT h r t).mp a)]
    · rw [if_neg a, if_neg (fun q => a ((t0_atT h r t).mpr q))]
  rw [e, (t0_wyN h), (t0_nR h)]
theorem t0_bstQ {z z' : Sg} (h : T0 z z') (f : Nat → Int32) (r p : Nat) (b : Int32 × Int32 × Int32) (q : Nat) : bstQ z f r p b q = bstQ z' f r p b q := by
  induction q with
  | zero => rfl
  | succ q ih => unfold bstQ; rw [ih, (t0_ovr h)]
theorem t0_bstP {z z' : Sg} (h : T0 z z') (f : Nat → Int32) (r p : Nat) : bstP z f r p = bstP z' f r p := by
  induction p with
  | zero => rfl
  | succ p ih => unfold bstP; rw [ih, (t0_bstQ h), (t0_nR h)]
theorem t0_Wd {z z' : Sg} (h : T0 z z') (k : Nat) : Wd z k = Wd z' k := by unfold Wd; rw [(t0_Dt h)]
theorem t0_Wp {z z' : Sg} (h : T0 z z') (k : Nat) : Wp z k = Wp z' k := by
  unfold Wp
  rw [(t0_Wd h), (t0_Dt h), (t0_bstP h)]
  by_cases a : atT z (k / 26) (k % 26)
  · rw [if_pos a, if_pos ((t0_atT h _ _).mp a), t0_pOn h]
  · rw [if_neg a, if_neg (fun q => a ((t0_atT h _ _).mpr q))]
theorem t0_Wr {z z' : Sg} (h : T0 z z') (k : Nat) : Wr z k = Wr z' k := by
  unfold Wr
  rw [(t0_Wd h), (t0_Dt h), (t0_bstP h)]
  by_cases a : 1000000 ≤ Wd z' k ∨ k % 26 = k / 26 ∨ atT z (k / 26) (k % 26)
  · rw [if_pos a, if_pos (a.imp id (Or.imp id (t0_atT h _ _).mp))]
  · rw [if_neg a, if_neg (fun q => a (q.imp id (Or.imp id (t0_atT h _ _).mpr)))]
theorem t0_Frs {z z' w : Sg} (h : T0 z' z) (k : Frs z w) : Frs z' w := ⟨k.1, fun i hi => by rw [(t0_Wd h), (t0_Wp h), (t0_Wr h)]; exact k.2 i (by rw [← (t0_nR h)]; exact hi)⟩
theorem t0_Cns {z z' w : Sg} (h : T0 z' z) (k : Cns z w) : Cns z' w := fun e => (t0_Frs h) (k e)
def TE (z z' : Sg) : Prop := T0 z z' ∧ z.1 0 = z'.1 0 ∧ z.2 11 = z'.2 11 ∧ z.2 12 = z'.2 12 ∧ z.2 19 = z'.2 19 ∧ z.2 20 = z'.2 20
theorem te_rf {z : Sg} : TE z z := ⟨t0_rf, rfl, rfl, rfl, rfl, rfl⟩
theorem te_tr {a b c : Sg} (h : TE a b) (k : TE b c) : TE a c := ⟨t0_tr h.1 k.1, h.2.1.trans k.2.1, h.2.2.1.trans k.2.2.1, h.2.2.2.1.trans k.2.2.2.1, h.2.2.2.2.1.trans k.2.2.2.2.1, h.2.2.2.2.2.trans k.2.2.2.2.2⟩
theorem te_uA {z : Sg} {k i : Nat} {v : Int32} (h : k ≠ 8 ∧ k ≠ 9 ∧ k ≠ 10 ∧ k ≠ 11 ∧ k ≠ 12 ∧ k ≠ 19 ∧ k ≠ 20) : TE (uA z k i v) z := ⟨t0_uA ⟨h.1, h.2.1, h.2.2.1⟩, rfl, uA_ne (by omega), uA_ne (by omega), uA_ne (by omega), uA_ne (by omega)⟩
theorem te_uS {z : Sg} {k : Nat} {v : Int32} (h : k ≠ 1 ∧ k ≠ 0) : TE (uS z k v) z := ⟨t0_uS h.1, by rw [uS_get, if_neg (Ne.symm h.2)], rfl, rfl, rfl, rfl⟩
theorem te_nR {z z' : Sg} (h : TE z z') : nR z = nR z' := t0_nR h.1
theorem te_pOn {z z' : Sg} (h : TE z z') (r : Nat) (v : Int32) : pOn z r v = pOn z' r v := t0_pOn h.1 r v
theorem te_Wd {z z' : Sg} (h : TE z z') (k : Nat) : Wd z k = Wd z' k := t0_Wd h.1 k
theorem te_Wp {z z' : Sg} (h : TE z z') (k : Nat) : Wp z k = Wp z' k := t0_Wp h.1 k
theorem te_Wr {z z' : Sg} (h : TE z z') (k : Nat) : Wr z k = Wr z' k := t0_Wr h.1 k
theorem te_Frs {z z' w : Sg} (h : TE z' z) (k : Frs z w) : Frs z' w := t0_Frs h.1 k
theorem te_Cns {z z' w : Sg} (h : TE z' z) (k : Cns z w) : Cns z' w := t0_Cns h.1 k
/-- eight numbers of a frame -/
def wr8 (z : Sg) (i : Nat) (a0 a1 a2 a3 a4 a5 a6 a7 : Int32) : Sg := uA (uA (uA (uA (uA (uA (uA (uA z 18 i a0) 18 (i + 1) a1) 18 (i + 2) a2) 18 (i + 3) a3) 18 (i + 4) a4) 18 (i + 5) a5) 18 (i + 6) a6) 18 (i + 7) a7
def ptZ (z : Sg) (v : Nat) (a0 a1 a2 a3 a4 a5 a6 a7 : Int32) : Sg := uS (uA (uA (wr8 z (8 * (40 * v + (z.2 16 v).toNatClampNeg)) a0 a1 a2 a3 a4 a5 a6 a7) 16 v (z.2 16 v + 1)) 17 v (z.2 17 v + 1)) 3 (z.1 3 + 1)
def pu (z : Sg) (v a0 a1 a2 a3 a4 a5 a6 a7 : Int32) : Bool × Sg := if v = -1 then (false, z) else if z.2 10 v.toNatClampNeg = 0 then (if z.2 17 v.toNatClampNeg = 40 then (false, uS z 4 (z.1 4 + 1)) else (true, ptZ z v.toNatClampNeg a0 a1 a2 a3 a4 a5 a6 a7)) else (false, z)
def cnt (z : Sg) : Prop := ∀ v, v < 16 → ∃ m c, m ≤ c ∧ c ≤ 40 ∧ z.2 16 v = nI m ∧ z.2 17 v = nI c
theorem la2 (n : Nat) : nI n + 2 = nI (n + 2) := nI_add n 2
theorem la3 (n : Nat) : nI n + 3 = nI (n + 3) := nI_add n 3
theorem la4 (n : Nat) : nI n + 4 = nI (n + 4) := nI_add n 4
theorem la5 (n : Nat) : nI n + 5 = nI (n + 5) := nI_add n 5
theorem la6 (n : Nat) : nI n + 6 = nI (n + 6) := nI_add n 6
theorem la7 (n : Nat) : nI n + 7 = nI (n + 7) := nI_add n 7
section
variable {x : Nat} {G : Hp} {z w : Sg} {r p q g s y k : Nat}
theorem M_put {v a0 a1 a2 a3 a4 a5 a6 a7 : Int32} (hM : MS x G) (hc : cnt z) (hv : v = -1 ∨ ∃ n, n < 16 ∧ v = nI n) : d_X9_put x v a0 a1 a2 a3 a4 a5 a6 a7 (em2 x G z w) = some (bI (pu z v a0 a1 a2 a3 a4 a5 a6 a7).1, em2 x G (pu z v a0 a1 a2 a3 a4 a5 a6 a7).2 w) := by
  unfold d_X9_put pu
  rcases hv with rfl | ⟨n, hn, rfl⟩
  · rw [if_pos rfl, if_pos rfl]
    rfl
  · obtain ⟨m, c, h1, h2, h3, h4⟩ := hc n hn
    rw [if_neg (nI_m1 (by omega)), if_neg (nI_m1 (by omega))]
    simp (disch := omega) only [e2_hc, e2_hr, e2_hl, ms0, ms1, ms2, ms3, ms4, ms5, ms6, ms7, ms21, hM.1, mc10 hM, ml10 hM, mr10 hM, mc17 hM, ml17 hM, mr17 hM, mc16 hM, ml16 hM, mr16 hM, mc18 hM, ml18 hM, mr18 hM, lm4, lm8, lm10, lm16, lm17, lm26, lm40, lm400, nI_add, nI_1, ix_nI, nI_clamp, gd_T, gd_t, bd_e, bo_e, b2_e, true_and, and_true]
    by_cases b1 : z.2 10 n = 0
    · rw [if_pos b1, if_pos b1]
      by_cases b2 : z.2 17 n = 40
      · rw [if_pos b2, if_pos b2]
        simp (disch := omega) only [mw4, gd_T, gd_t, bd_e, bo_e, b2_e, true_and, and_true]
        rfl
      · have hc40 : c < 40 := by
          rcases Nat.lt_or_ge c 40 with h | h
          · exact h
          · exact absurd (by rw [h4, show c = 40 by omega]; rfl) b2
        rw [if_neg b2, if_neg b2]
        unfold ptZ wr8
        rw [h3]
        simp (disch := omega) only [e2_hc, e2_hr, e2_hl, ms0, ms1, ms2, ms3, ms4, ms5, ms6, ms7, ms21, hM.1, mc10 hM, ml10 hM, mr10 hM, mc17 hM, ml17 hM, mr17 hM, mc16 hM, ml16 hM, mr16 hM, mc18 hM, ml18 hM, mr18 hM, lm4, lm8, lm10, lm16, lm17, lm26, lm40, lm400, nI_add, nI_1, ix_nI, nI_clamp, gd_T, gd_t, bd_e, bo_e, b2_e, true_and, and_true, la2, la3, la4, la5, la6, la7, mu18 hM, mu16 hM, mu17 hM, mw3, uA_1, uA_ne, h3]
        rfl
    · rw [if_neg b1, if_neg b1]
      rfl
theorem te_pu {v a0 a1 a2 a3 a4 a5 a6 a7 : Int32} : TE (pu z v a0 a1 a2 a3 a4 a5 a6 a7).2 z := by
  unfold pu
  split
  · exact te_rf
  · split
    · split
      · exact te_uS (by decide)
      · unfold ptZ wr8
        refine te_tr (te_uS (by decide)) ?_
        repeat' (first | exact te_rf | refine te_tr (te_uA (by decide)) ?_)
    · exact te_rf
end
