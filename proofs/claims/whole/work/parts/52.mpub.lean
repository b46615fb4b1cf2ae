/-! the reference's calls that answer only -/
def inR (v : Int32) (n : Nat) : Bool := decide (¬ v < 0 ∧ ¬ nI n ≤ v)
theorem inR_t {v : Int32} {n : Nat} (hn : n < 2 ^ 31) (h : inR v n = true) : ∃ j, j < n ∧ v = nI j := by
  have h1 := of_decide_eq_true h
  rcases pk_ix v hn with h2 | h2 | h2
  · exact absurd h2 h1.1
  · exact absurd h2 h1.2
  · exact h2
theorem inR_n {j n : Nat} (h : j < n) (hn : n < 2 ^ 31) : inR (nI j) n = true := decide_eq_true ⟨nI_pos (by omega), nI_ge h hn⟩
theorem in2 {v : Int32} {n : Nat} : (if v < 0 then some (0 : Int32) else if nI n ≤ v then some 0 else some 1) = some (bI (inR v n)) := by
  unfold inR
  by_cases h1 : v < 0
  · rw [if_pos h1, decide_eq_false (fun q => q.1 h1)]; rfl
  · rw [if_neg h1]
    by_cases h2 : nI n ≤ v
    · rw [if_pos h2, decide_eq_false (fun q => q.2 h2)]; rfl
    · rw [if_neg h2, decide_eq_true ⟨h1, h2⟩]; rfl
def frA (z : Sg) (v i k : Int32) : Int32 := cond (inR v 16 && !decide (i < 0) && !decide (z.2 16 v.toNatClampNeg ≤ i) && inR k 8) (z.2 18 (8 * (40 * v.toNatClampNeg + i.toNatClampNeg) + k.toNatClampNeg)) (-2)
def gtA (z : Sg) (h n : Int32) : Int32 := cond (inR h 16 && !decide (n < 0) && !decide (z.1 2 ≤ n)) (z.2 15 (400 * h.toNatClampNeg + n.toNatClampNeg)) (-1)
def wyK (z : Sg) (k : Nat) (what : Int32) : Int32 := if what = 0 then (if Wd z k < 1000000 then Wd z k else -1) else if what = 1 then Wp z k else if what = 2 then Wr z k else -1
def wyA (z : Sg) (r ov t what : Int32) : Int32 := cond (inR r (nR z) && (if ov = 0 then inR t (nR z) else inR t 16)) (wyK z (26 * r.toNatClampNeg + (if ov = 0 then t.toNatClampNeg else 10 + t.toNatClampNeg)) what) (-1)
def poA (z : Sg) (r p what : Int32) : Int32 := cond (inR r (nR z) && inR p 4) (if z.2 8 (4 * r.toNatClampNeg + p.toNatClampNeg) = -1 then -1 else if what = 0 then z.2 8 (4 * r.toNatClampNeg + p.toNatClampNeg) else if what = 1 then z.2 9 (4 * r.toNatClampNeg + p.toNatClampNeg) else if what = 2 then nbits z (4 * r.toNatClampNeg + p.toNatClampNeg) else if what = 3 then bI (fst z r.toNatClampNeg p.toNatClampNeg) else if what = 4 then bI (askg z r.toNatClampNeg p.toNatClampNeg) else -1) (-1)
def mbA (z : Sg) (r p g : Int32) : Int32 := cond (inR r (nR z) && inR p 4 && inR g 8) (cond (mem z (4 * r.toNatClampNeg + p.toNatClampNeg) g.toNatClampNeg) (z.2 28 (8 * (4 * r.toNatClampNeg + p.toNatClampNeg) + g.toNatClampNeg)) 0) (-1)
def brK (z : Sg) (r p g y : Nat) (what : Int32) : Int32 := if what = 0 then cond (jn z (4 * r + p) g y) (z.2 29 (17 * (8 * (4 * r + p) + g) + y)) 0 else if y = 0 then -1 else if what = 1 then bI (cutO z (4 * r + p) g (y - 1)) else if what = 2 then bI (lostP z r p g (y - 1)) else if what = 3 then (if clm z (4 * r + p) g (y - 1) = -1 then -1 else clm z (4 * r + p) g (y - 1) - clm z (4 * r + p) g (y - 1) / 100 * 100) else -1
def brA (z : Sg) (r p g s what : Int32) : Int32 := cond (inR r (nR z) && inR p 4 && inR g 8 && (decide (s = -1) || inR s 16)) (brK z r.toNatClampNeg p.toNatClampNeg g.toNatClampNeg (s + 1).toNatClampNeg what) (-1)
def ofS (z : Sg) (k : Nat) (what : Int32) : Int32 := if what = 5 then bI (decide (z.2 39 k ≠ -1)) else if what = 6 then (if z.2 37 k ≤ z.1 0 then 0 else z.2 37 k) else if what = 7 then (if z.2 38 k ≤ z.1 0 then 0 else z.2 38 k) else -1
def trK (z : Sg) (r g y : Nat) (what : Int32) : Int32 := if what = 0 then bI (wantY z r g y) else if what = 1 then z.2 34 (17 * (8 * r + g) + y) else if what = 2 then z.2 33 (17 * (8 * r + g) + y) else if what = 3 then (if y = 0 then bsB z r g else alB z r g (y - 1)) else if what = 4 then (if y = 0 then (if z.2 33 (17 * (8 * r + g) + y) = -1 then 0 else z.2 36 (8 * r + g)) else shB z r g (y - 1)) else if y = 0 then -1 else ofS z (16 * (8 * r + g) + (y - 1)) what
def trA (z : Sg) (r g s what : Int32) : Int32 := cond (inR r (nR z) && inR g 8 && (decide (s = -1) || inR s 16)) (trK z r.toNatClampNeg g.toNatClampNeg (s + 1).toNatClampNeg what) (-1)
def coA (z : Sg) (what : Int32) : Int32 := if what = 0 then z.1 0 else if what = 1 then z.1 2 else if what = 2 then z.1 3 else if what = 3 then z.1 4 else if what = 4 then z.1 5 else if what = 5 then z.1 6 else if what = 6 then z.1 7 else if what = 7 then z.1 1 else -1
section
variable {x : Nat} {G : Hp} {z w : Sg} {v : Int32}
theorem M_isRouter (hM : MS x G) (hF : WF z) : d_X9_isRouter x v (em2 x G z w) = some (bI (inR v (nR z))) := by
  unfold d_X9_isRouter
  rw [e2_hc, gd_t hM.1, ms1, hF.1.2.2]
  exact in2
theorem M_isPort : d_X9_isPort v G = some (bI (inR v 4)) := in2
theorem M_isWire : d_X9_isWire v G = some (bI (inR v 16)) := in2
theorem M_isHost : d_X9_isHost v G = some (bI (inR v 16)) := in2
theorem M_isGroup : d_X9_isGroup v G = some (bI (inR v 8)) := in2
theorem M_count (hM : MS x G) : d_X9_count x v (em2 x G z w) = some (coA z v) := by
  unfold d_X9_count coA
  simp only [e2_hc, e2_hr, e2_hl, ms0, ms1, ms2, ms3, ms4, ms5, ms6, ms7, ms21, hM.1, gd_T, gd_t, bd_e, bo_e, b2_e, true_and, and_true]
  repeat' split
  all_goals rfl
theorem M_frame {i k : Int32} (hM : MS x G) (hO : MO z) : d_X9_frame x v i k (em2 x G z w) = some (frA z v i k) := by
  unfold d_X9_frame frA
  rw [M_isWire, bo_e, ite_bI]
  cases hv : inR v 16 with
  | false => rfl
  | true =>
    obtain ⟨n, hn, rfl⟩ := inR_t (by decide) hv
    obtain ⟨m, c, b1, b2, b3, b4⟩ := hO.2.1 n hn
    rw [cond_true]
    by_cases h1 : i < 0
    · rw [if_pos h1, decide_eq_true h1]; rfl
    · rw [if_neg h1, decide_eq_false h1]
      simp (disch := omega) only [e2_hc, e2_hr, e2_hl, ms0, ms1, ms2, ms3, ms4, ms5, ms6, ms7, ms21, hM.1, mc16 hM, ml16 hM, mr16 hM, lm4, lm8, lm10, lm16, lm17, lm26, lm40, lm400, nI_add, nI_1, ix_nI, nI_clamp, gd_T, gd_t, bd_e, bo_e, b2_e, true_and, and_true]
      rw [b3]
      by_cases h2 : nI m ≤ i
      · rw [if_pos h2, decide_eq_true h2]; rfl
      · rw [if_neg h2, decide_eq_false h2]
        obtain ⟨j, hj, rfl⟩ : ∃ j, j < m ∧ i = nI j := by
          rcases pk_ix i (show m < 2 ^ 31 by omega) with h3 | h3 | h3
          · exact absurd h3 h1
          · exact absurd h3 h2
          · exact h3
        by_cases h3 : k < 0
        · rw [if_pos h3]
          have : inR k 8 = false := decide_eq_false (fun q => q.1 h3)
          rw [this]; rfl
        · rw [if_neg h3]
          by_cases h4 : k ≤ 7
          · rw [if_pos h4]
            obtain ⟨u, hu, rfl⟩ := nI_of2 (M := 7) (n := 7) (by decide) h3 h4
            rw [inR_n (show u < 8 by omega) (by decide)]
            simp (disch := omega) only [e2_hc, e2_hr, e2_hl, ms0, ms1, ms2, ms3, ms4, ms5, ms6, ms7, ms21, hM.1, mc18 hM, ml18 hM, mr18 hM, lm4, lm8, lm10, lm16, lm17, lm26, lm40, lm400, nI_add, nI_1, ix_nI, nI_clamp, gd_T, gd_t, bd_e, bo_e, b2_e, true_and, and_true]
            rfl
          · rw [if_neg h4]
            have : inR k 8 = false := by
              refine decide_eq_false (fun q => h4 ?_)
              rcases pk_ix k (show 8 < 2 ^ 31 by decide) with h5 | h5 | ⟨u, hu, rfl⟩
              · exact absurd h5 h3
              · exact absurd h5 q.2
              · exact nI_le (b := 7) (by omega) (by decide)
            rw [this]; rfl
theorem M_got {h n : Int32} {m : Nat} (hM : MS x G) (hm : m ≤ 400) (hme : z.1 2 = nI m) : d_X9_got x h n (em2 x G z w) = some (gtA z h n) := by
  unfold d_X9_got gtA
  rw [M_isHost, bo_e, ite_bI]
  cases hv : inR h 16 with
  | false => rfl
  | true =>
    obtain ⟨k, hk, rfl⟩ := inR_t (by decide) hv
    rw [cond_true]
    by_cases h1 : n < 0
    · rw [if_pos h1, decide_eq_true h1]; rfl
    · rw [if_neg h1, decide_eq_false h1, e2_hc, gd_t hM.1, ms2]
      by_cases h2 : z.1 2 ≤ n
      · rw [if_pos h2, decide_eq_true h2]; rfl
      · rw [if_neg h2, decide_eq_false h2]
        rw [hme] at h2
        obtain ⟨j, hj, rfl⟩ : ∃ j, j < m ∧ n = nI j := by
          rcases pk_ix n (show m < 2 ^ 31 by omega) with h3 | h3 | h3
          · exact absurd h3 h1
          · exact absurd h3 h2
          · exact h3
        simp (disch := omega) only [e2_hc, e2_hr, e2_hl, ms0, ms1, ms2, ms3, ms4, ms5, ms6, ms7, ms21, hM.1, mc15 hM, ml15 hM, mr15 hM, lm4, lm8, lm10, lm16, lm17, lm26, lm40, lm400, nI_add, nI_1, ix_nI, nI_clamp, gd_T, gd_t, bd_e, bo_e, b2_e, true_and, and_true]
        rfl
theorem M_way52 {k : Nat} {what s0 s1 : Int32} (hM : MS x G) (hF : WF z) (hf : Frs z w) (hk : k < 26 * nR z) (hs : s1 + s0 = nI k) : d_X9_way_52 x what s0 s1 (em2 x G z w) = some (wyK z k what, em2 x G z w) := by
  have hn := hF.1
  unfold d_X9_way_52 wyK
  rw [hs]
  simp (disch := omega) only [e2_hc, e2_hr, e2_hl, ms0, ms1, ms2, ms3, ms4, ms5, ms6, ms7, ms21, hM.1, mc22 hM, ml22 hM, mr22 hM, mc23 hM, ml23 hM, mr23 hM, mc24 hM, ml24 hM, mr24 hM, lm4, lm8, lm10, lm16, lm17, lm26, lm40, lm400, nI_add, nI_1, ix_nI, nI_clamp, gd_T, gd_t, bd_e, bo_e, b2_e, true_and, and_true]
  rw [(hf.2 k hk).1, (hf.2 k hk).2.1, (hf.2 k hk).2.2]
  repeat' split
  all_goals rfl
theorem M_way {r ov t what : Int32} (hM : MS x G) (hF : WF z) (hK : RK x G z) (hw : Cns z w) : ∃ w', Cns z w' ∧ d_X9_way x r ov t what (em2 x G z w) = some (wyA z r ov t what, em2 x G z w') := by
  have hn := hF.1
  unfold d_X9_way wyA
  rw [e2_hc, gd_t hM.1, M_isRouter hM hF, bo_e, ite_bI]
  cases hr : inR r (nR z) with
  | false => exact ⟨w, hw, rfl⟩
  | true =>
    obtain ⟨k, hk, rfl⟩ := inR_t (by omega) hr
    rw [cond_true, Bool.true_and]
    obtain ⟨w1, e1, hf⟩ := hK w hw
    by_cases ho : ov = 0
    · rw [if_pos ho, if_pos ho, M_isRouter hM hF, bo_e, ite_bI]
      cases ht : inR t (nR z) with
      | false => exact ⟨w, hw, rfl⟩
      | true =>
        obtain ⟨j, hj, rfl⟩ := inR_t (by omega) ht
        refine ⟨w1, hf.cns, ?_⟩
        rw [cond_true, cond_true]
        unfold d_X9_way_32
        rw [e2_hc, gd_t hM.1, e1, bo_e, if_pos ho, if_pos ho, M_way52 (k := 26 * k + j) hM hF hf (by omega) (by rw [lm26, nI_add]), nI_clamp (by omega), nI_clamp (by omega)]
    · rw [if_neg ho, if_neg ho, M_isWire, bo_e, ite_bI]
      cases ht : inR t 16 with
      | false => exact ⟨w, hw, rfl⟩
      | true =>
        obtain ⟨j, hj, rfl⟩ := inR_t (by omega) ht
        refine ⟨w1, hf.cns, ?_⟩
        rw [cond_true, cond_true]
        unfold d_X9_way_32
        rw [e2_hc, gd_t hM.1, e1, bo_e, if_neg ho, if_neg ho, M_way52 (k := 26 * k + (10 + j)) hM hF hf (by omega) (by rw [lm26, show (10 : Int32) = nI 10 from rfl, nI_add, nI_add]), nI_clamp (by omega), nI_clamp (by omega)]
theorem bI_10 {b : Bool} : (if bI b = 0 then some (0 : Int32) else some 1) = some (bI b) := by cases b <;> rfl
theorem bI_10p {b : Bool} {H : Hp} : (if bI b = 0 then some ((0 : Int32), H) else some (1, H)) = some (bI b, H) := by cases b <;> rfl
theorem M_port {r p what : Int32} (hM : MS x G) (hF : WF z) : d_X9_port x r p what (em2 x G z w) = some (poA z r p what) := by
  have hn := hF.1
  unfold d_X9_port poA
  rw [e2_hc, gd_t hM.1, M_isRouter hM hF, bo_e, ite_bI]
  cases hr : inR r (nR z) with
  | false => rfl
  | true =>
    obtain ⟨k, hk, rfl⟩ := inR_t (by omega) hr
    rw [cond_true, Bool.true_and, M_isPort, bo_e, ite_bI]
    cases hp : inR p 4 with
    | false => rfl
    | true =>
      obtain ⟨j, hj, rfl⟩ := inR_t (by omega) hp
      rw [cond_true, cond_true]
      simp (disch := omega) only [M_neighbours hM (show k < 10 by omega) hj hn.2.1 hn.2.2, M_isFirst hM (show k < 10 by omega) hj hn.2.1 hn.2.2, M_isAsking hM (show k < 10 by omega) hj hn.2.1 hn.2.2, e2_hc, e2_hr, e2_hl, ms0, ms1, ms2, ms3, ms4, ms5, ms6, ms7, ms21, hM.1, mc8 hM, ml8 hM, mr8 hM, mc9 hM, ml9 hM, mr9 hM, lm4, lm8, lm10, lm16, lm17, lm26, lm40, lm400, nI_add, nI_1, ix_nI, nI_clamp, gd_T, gd_t, bd_e, bo_e, b2_e, true_and, and_true, bI_10]
      repeat' split
      all_goals rfl
theorem M_members {r p g : Int32} (hM : MS x G) (hF : WF z) : d_X9_members x r p g (em2 x G z w) = some (mbA z r p g) := by
  have hn := hF.1
  unfold d_X9_members mbA
  rw [e2_hc, gd_t hM.1, M_isRouter hM hF, bo_e, ite_bI]
  cases hr : inR r (nR z) with
  | false => rfl
  | true =>
    obtain ⟨k, hk, rfl⟩ := inR_t (by omega) hr
    rw [cond_true, Bool.true_and, M_isPort, bo_e, ite_bI]
    cases hp : inR p 4 with
    | false => rfl
    | true =>
      obtain ⟨j, hj, rfl⟩ := inR_t (by omega) hp
      rw [cond_true, Bool.true_and, M_isGroup, bo_e, ite_bI]
      cases hg : inR g 8 with
      | false => rfl
      | true =>
        obtain ⟨i, hi, rfl⟩ := inR_t (by omega) hg
        rw [cond_true, cond_true]
        simp (disch := omega) only [M_hasMembers hM (show k < 10 by omega) hj hi, e2_hc, e2_hr, e2_hl, ms0, ms1, ms2, ms3, ms4, ms5, ms6, ms7, ms21, hM.1, mc28 hM, ml28 hM, mr28 hM, lm4, lm8, lm10, lm16, lm17, lm26, lm40, lm400, nI_add, nI_1, ix_nI, nI_clamp, gd_T, gd_t, bd_e, bo_e, b2_e, true_and, and_true, ite_bI]
        cases mem z (4 * k + j) i <;> rfl
theorem M_br38 {r p g y : Nat} {s what : Int32} (hM : MS x G) (hF : WF z) (hK : RK x G z) (hw : Cns z w) (h1 : r < nR z) (h2 : p < 4) (h3 : g < 8) (hy : y < 17) (hs : s + 1 = nI y) : ∃ w', Cns z w' ∧ d_X9_branch_38 x (nI r) (nI p) (nI g) s what (em2 x G z w) = some (brK z r p g y what, em2 x G z w') := by
  have hn := hF.1
  have es : (1 : Int32) + s = nI y := by rw [← hs]; exact Int32.add_comm _ _
  unfold d_X9_branch_38 brK
  by_cases w0 : what = 0
  · rw [if_pos w0, if_pos w0, e2_hc, gd_t hM.1, es, M_joined hM (by omega) h2 h3 hy, bo_e]
    exact ⟨w, hw, rfl⟩
  · rw [if_neg w0, if_neg w0]
    cases y with
    | zero =>
      have e : s = -1 := by
        have : s = s + 1 - 1 := (Int32.add_sub_cancel s 1).symm
        rw [this, hs]
        rfl
      rw [if_pos e, if_pos rfl]
      exact ⟨w, hw, rfl⟩
    | succ y =>
      have e : s = nI y := by
        have : s = s + 1 - 1 := (Int32.add_sub_cancel s 1).symm
        rw [this, hs, nI_pred]
      subst e
      rw [if_neg (nI_m1 (by omega)), if_neg (Nat.succ_ne_zero y), Nat.add_sub_cancel]
      by_cases w1 : what = 1
      · rw [if_pos w1, if_pos w1, e2_hc, gd_t hM.1, M_isCutOff hM hF.t0 (by omega) h2 h3 (by omega), bo_e, bI_10p]
        exact ⟨w, hw, rfl⟩
      · rw [if_neg w1, if_neg w1]
        by_cases w2 : what = 2
        · obtain ⟨w', hw', e1⟩ := M_isLost hM hF hK hw h1 h2 h3 (show y < 16 by omega)
          rw [if_pos w2, if_pos w2, e2_hc, gd_t hM.1, e1, b2_e, bI_10p]
          exact ⟨w', hw', rfl⟩
        · rw [if_neg w2, if_neg w2]
          unfold d_X9_branch_130
          by_cases w3 : what = 3
          · rw [if_pos w3, if_pos w3, e2_hc, gd_t hM.1, M_claimAt hM hF h1 h2 h3 (by omega), bo_e]
            refine ⟨w, hw, ?_⟩
            split <;> rfl
          · rw [if_neg w3, if_neg w3, if_pos rfl]
            exact ⟨w, hw, rfl⟩
theorem sY {s : Int32} (h : (decide (s = -1) || inR s 16) = true) : ∃ y, y < 17 ∧ s + 1 = nI y ∧ (s + 1).toNatClampNeg = y := by
  rw [Bool.or_eq_true, decide_eq_true_eq] at h
  rcases h with h | h
  · exact ⟨0, by decide, by rw [h]; rfl, by rw [h]; rfl⟩
  · obtain ⟨j, hj, rfl⟩ := inR_t (by decide) h
    exact ⟨j + 1, by omega, nI_1 j, by rw [nI_1, nI_clamp (by omega)]⟩
theorem M_branch {r p g s what : Int32} (hM : MS x G) (hF : WF z) (hK : RK x G z) (hw : Cns z w) : ∃ w', Cns z w' ∧ d_X9_branch x r p g s what (em2 x G z w) = some (brA z r p g s what, em2 x G z w') := by
  have hn := hF.1
  unfold d_X9_branch brA
  rw [e2_hc, gd_t hM.1, M_isRouter hM hF, bo_e, ite_bI]
  cases hr : inR r (nR z) with
  | false => exact ⟨w, hw, rfl⟩
  | true =>
    obtain ⟨k, hk, rfl⟩ := inR_t (by omega) hr
    rw [cond_true, Bool.true_and, M_isPort, bo_e, ite_bI]
    cases hp : inR p 4 with
    | false => exact ⟨w, hw, rfl⟩
    | true =>
      obtain ⟨j, hj, rfl⟩ := inR_t (by omega) hp
      rw [cond_true, Bool.true_and, M_isGroup, bo_e, ite_bI]
      cases hg : inR g 8 with
      | false => exact ⟨w, hw, rfl⟩
      | true =>
        obtain ⟨i, hi, rfl⟩ := inR_t (by omega) hg
        rw [cond_true, Bool.true_and, M_isHost, bo_e, ite_bI]
        cases hs : (decide (s = -1) || inR s 16) with
        | false =>
          rw [Bool.or_eq_false_iff] at hs
          rw [hs.2, if_neg (of_decide_eq_false hs.1)]
          exact ⟨w, hw, rfl⟩
        | true =>
          obtain ⟨y, hy, e1, e2⟩ := sY hs
          obtain ⟨w', hw', e3⟩ := M_br38 (what := what) hM hF hK hw hk hj hi hy e1
          rw [cond_true, e2, nI_clamp (by omega), nI_clamp (by omega), nI_clamp (by omega)]
          refine ⟨w', hw', ?_⟩
          by_cases h1 : s = -1
          · rw [if_pos h1]; exact e3
          · rw [decide_eq_false h1, Bool.false_or] at hs
            rw [if_neg h1, hs, cond_true]; exact e3
theorem M_ofSource {k : Nat} {what : Int32} (hM : MS x G) (hk : k < 1280) : d_X9_ofSource x (nI k) what (em2 x G z w) = some (ofS z k what) := by
  unfold d_X9_ofSource ofS
  simp (disch := omega) only [e2_hc, e2_hr, e2_hl, ms0, ms1, ms2, ms3, ms4, ms5, ms6, ms7, ms21, hM.1, mc39 hM, ml39 hM, mr39 hM, mc37 hM, ml37 hM, mr37 hM, mc38 hM, ml38 hM, mr38 hM, lm4, lm8, lm10, lm16, lm17, lm26, lm40, lm400, nI_add, nI_1, ix_nI, nI_clamp, gd_T, gd_t, bd_e, bo_e, b2_e, true_and, and_true, dec_01]
  repeat' split
  all_goals rfl
theorem M_tr29 {r g y : Nat} {s what : Int32} (hM : MS x G) (hF : WF z) (hK : RK x G z) (hw : Cns z w) (h1 : r < nR z) (h3 : g < 8) (hy : y < 17) (hs : s + 1 = nI y) : ∃ w', Cns z w' ∧ d_X9_tree_29 x (nI r) (nI g) s what (em2 x G z w) = some (trK z r g y what, em2 x G z w') := by
  have hn := hF.1
  have es : (1 : Int32) + s = nI y := by rw [← hs]; exact Int32.add_comm _ _
  have et : 17 * (8 * nI r + nI g) + 1 + s = nI (17 * (8 * r + g) + y) := by
    rw [Int32.add_assoc, es, lm8, nI_add, lm17, nI_add]
  have hs0 : s = -1 ↔ y = 0 := by
    constructor
    · intro h
      rw [h] at hs
      have : nI y = nI 0 := hs.symm
      exact (nI_eq (by omega) (by omega)).mp this
    · intro h
      have h2 : s = s + 1 - 1 := (Int32.add_sub_cancel s 1).symm
      rw [h2, hs, h]
      rfl
  have hs1 : y ≠ 0 → s = nI (y - 1) := by
    intro h
    have h2 : s = s + 1 - 1 := (Int32.add_sub_cancel s 1).symm
    rw [h2, hs, show y = y - 1 + 1 by omega, nI_pred]
    congr 1
  unfold d_X9_tree_29 trK
  rw [bd_e, et]
  by_cases w0 : what = 0
  · rw [if_pos w0, if_pos w0, e2_hc, gd_t hM.1, es]
    unfold wantY
    by_cases hy0 : y = 0
    · rw [if_pos hy0, hy0, nI_0, M_wants0 hM hF h1 h3, b2_e, bI_10p]
      exact ⟨w, hw, rfl⟩
    · obtain ⟨w', hw', e1⟩ := M_wantsS hM hF hK hw h1 h3 (show y - 1 < 16 by omega)
      rw [show 1 + (y - 1) = y by omega] at e1
      rw [if_neg hy0, e1, b2_e, bI_10p]
      exact ⟨w', hw', rfl⟩
  · rw [if_neg w0, if_neg w0]
    by_cases w1 : what = 1
    · rw [if_pos w1, if_pos w1]
      simp (disch := omega) only [e2_hc, e2_hr, e2_hl, ms0, ms1, ms2, ms3, ms4, ms5, ms6, ms7, ms21, hM.1, mc34 hM, ml34 hM, mr34 hM, lm4, lm8, lm10, lm16, lm17, lm26, lm40, lm400, nI_add, nI_1, ix_nI, nI_clamp, gd_T, gd_t, bd_e, bo_e, b2_e, true_and, and_true]
      exact ⟨w, hw, rfl⟩
    · rw [if_neg w1, if_neg w1]
      by_cases w2 : what = 2
      · rw [if_pos w2, if_pos w2]
        simp (disch := omega) only [e2_hc, e2_hr, e2_hl, ms0, ms1, ms2, ms3, ms4, ms5, ms6, ms7, ms21, hM.1, mc33 hM, ml33 hM, mr33 hM, lm4, lm8, lm10, lm16, lm17, lm26, lm40, lm400, nI_add, nI_1, ix_nI, nI_clamp, gd_T, gd_t, bd_e, bo_e, b2_e, true_and, and_true]
        exact ⟨w, hw, rfl⟩
      · rw [if_neg w2, if_neg w2]
        by_cases w3 : what = 3
        · rw [if_pos w3, if_pos w3]
          by_cases hy0 : y = 0
          · rw [if_pos (hs0.mpr hy0), if_pos hy0, e2_hc, gd_t hM.1, M_base hM hF h1 h3, bo_e]
            exact ⟨w, hw, rfl⟩
          · obtain ⟨w', hw', e1⟩ := M_all hM hF hK hw h1 h3 (show y - 1 < 16 by omega)
            rw [if_neg (fun h => hy0 (hs0.mp h)), if_neg hy0, e2_hc, gd_t hM.1, hs1 hy0, e1, b2_e]
            exact ⟨w', hw', rfl⟩
        · rw [if_neg w3, if_neg w3]
          by_cases w4 : what = 4
          · rw [if_pos w4, if_pos w4]
            by_cases hy0 : y = 0
            · rw [if_pos (hs0.mpr hy0), if_pos hy0]
              simp (disch := omega) only [e2_hc, e2_hr, e2_hl, ms0, ms1, ms2, ms3, ms4, ms5, ms6, ms7, ms21, hM.1, mc33 hM, ml33 hM, mr33 hM, mc36 hM, ml36 hM, mr36 hM, lm4, lm8, lm10, lm16, lm17, lm26, lm40, lm400, nI_add, nI_1, ix_nI, nI_clamp, gd_T, gd_t, bd_e, bo_e, b2_e, true_and, and_true]
              refine ⟨w, hw, ?_⟩
              split <;> rfl
            · obtain ⟨w', hw', e1⟩ := M_shared hM hF hK hw h1 h3 (show y - 1 < 16 by omega)
              rw [if_neg (fun h => hy0 (hs0.mp h)), if_neg hy0, e2_hc, gd_t hM.1, hs1 hy0, e1, b2_e]
              exact ⟨w', hw', rfl⟩
          · rw [if_neg w4, if_neg w4]
            by_cases hy0 : y = 0
            · rw [if_pos (hs0.mpr hy0), if_pos hy0]
              exact ⟨w, hw, rfl⟩
            · rw [if_neg (fun h => hy0 (hs0.mp h)), if_neg hy0, e2_hc, gd_t hM.1, hs1 hy0, lm8, nI_add, lm16, nI_add, M_ofSource hM (by omega), bo_e]
              exact ⟨w, hw, rfl⟩
theorem M_tree {r g s what : Int32} (hM : MS x G) (hF : WF z) (hK : RK x G z) (hw : Cns z w) : ∃ w', Cns z w' ∧ d_X9_tree x r g s what (em2 x G z w) = some (trA z r g s what, em2 x G z w') := by
  have hn := hF.1
  unfold d_X9_tree trA
  rw [e2_hc, gd_t hM.1, M_isRouter hM hF, bo_e, ite_bI]
  cases hr : inR r (nR z) with
  | false => exact ⟨w, hw, rfl⟩
  | true =>
    obtain ⟨k, hk, rfl⟩ := inR_t (by omega) hr
    rw [cond_true, Bool.true_and, M_isGroup, bo_e, ite_bI]
    cases hg : inR g 8 with
    | false => exact ⟨w, hw, rfl⟩
    | true =>
      obtain ⟨i, hi, rfl⟩ := inR_t (by omega) hg
      rw [cond_true, Bool.true_and, M_isHost, bo_e, ite_bI]
      cases hs : (decide (s = -1) || inR s 16) with
      | false =>
        rw [Bool.or_eq_false_iff] at hs
        rw [hs.2, if_neg (of_decide_eq_false hs.1)]
        exact ⟨w, hw, rfl⟩
      | true =>
        obtain ⟨y, hy, e1, e2⟩ := sY hs
        obtain ⟨w', hw', e3⟩ := M_tr29 (what := what) hM hF hK hw hk hi hy e1
        rw [cond_true, e2, nI_clamp (by omega), nI_clamp (by omega)]
        refine ⟨w', hw', ?_⟩
        by_cases h1 : s = -1
        · rw [if_pos h1]; exact e3
        · rw [decide_eq_false h1, Bool.false_or] at hs
          rw [if_neg h1, hs, cond_true]; exact e3
end
