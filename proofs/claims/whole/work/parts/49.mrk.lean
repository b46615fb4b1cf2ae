/-! reckon: a column t (targets) of a row of the ways -/
def cs (k0 t n : Nat) (A : Nat → Int32) (w : Sg) : Sg := (w.1, fun k => if k = k0 then (fun i => if i % 26 = t ∧ i / 26 < n then A (i / 26) else w.2 k0 i) else w.2 k)
theorem cs_ne {k0 t n k : Nat} {A : Nat → Int32} {w : Sg} (h : k ≠ k0) : (cs k0 t n A w).2 k = w.2 k := if_neg h
theorem cs_in {k0 t n r : Nat} {A : Nat → Int32} {w : Sg} (ht : t < 26) (hr : r < n) : (cs k0 t n A w).2 k0 (26 * r + t) = A r := by
  show (if k0 = k0 then (fun i => if i % 26 = t ∧ i / 26 < n then A (i / 26) else w.2 k0 i) else w.2 k0) (26 * r + t) = _
  rw [if_pos rfl]
  show (if (26 * r + t) % 26 = t ∧ (26 * r + t) / 26 < n then A ((26 * r + t) / 26) else _) = _
  have e : (26 * r + t) / 26 = r := by omega
  rw [if_pos ⟨by omega, by omega⟩, e]
theorem cs_out {k0 t n i : Nat} {A : Nat → Int32} {w : Sg} (h : i % 26 ≠ t) : (cs k0 t n A w).2 k0 i = w.2 k0 i := by
  show (if k0 = k0 then (fun i => if i % 26 = t ∧ i / 26 < n then A (i / 26) else w.2 k0 i) else w.2 k0) i = _
  rw [if_pos rfl]
  show (if i % 26 = t ∧ i / 26 < n then A (i / 26) else _) = _
  rw [if_neg (fun q => h q.1)]
theorem cs_0 {k0 t : Nat} {A : Nat → Int32} {w : Sg} : cs k0 t 0 A w = w := by
  refine Prod.ext rfl ?_
  funext k
  show (if k = k0 then _ else _) = _
  by_cases h : k = k0
  · rw [if_pos h, h]; funext i; exact if_neg (fun q => Nat.not_lt_zero _ q.2)
  · rw [if_neg h]
theorem cs_up {k0 t n r : Nat} {A : Nat → Int32} {w : Sg} {v : Int32} (ht : t < 26) (hr : r < n) : uA (cs k0 t n A w) k0 (26 * r + t) v = cs k0 t n (va_up A r v) w := by
  refine Prod.ext rfl ?_
  funext k
  by_cases h : k = k0
  · subst h
    rw [uA_at]
    funext i
    show va_up ((if k = k then (fun i => if i % 26 = t ∧ i / 26 < n then A (i / 26) else w.2 k i) else w.2 k)) (26 * r + t) v i = (if k = k then (fun i => if i % 26 = t ∧ i / 26 < n then va_up A r v (i / 26) else w.2 k i) else w.2 k) i
    rw [if_pos rfl, if_pos rfl]
    unfold va_up
    by_cases hi : i = 26 * r + t
    · have e : i / 26 = r := by omega
      rw [if_pos hi, if_pos ⟨by omega, by omega⟩, e, if_pos rfl]
    · rw [if_neg hi]
      show (if i % 26 = t ∧ i / 26 < n then A (i / 26) else w.2 k i) = _
      by_cases h2 : i % 26 = t ∧ i / 26 < n
      · rw [if_pos h2, if_pos h2, if_neg (by omega)]
      · rw [if_neg h2, if_neg h2]
  · rw [uA_ne h, cs_ne h, cs_ne h]
theorem cs_ext {k0 t n : Nat} {A : Nat → Int32} {w : Sg} {v : Int32} (ht : t < 26) (hv : v = A n) : uA (cs k0 t n A w) k0 (26 * n + t) v = cs k0 t (n + 1) A w := by
  refine Prod.ext rfl ?_
  funext k
  by_cases h : k = k0
  · subst h
    rw [uA_at]
    funext i
    show va_up ((if k = k then (fun i => if i % 26 = t ∧ i / 26 < n then A (i / 26) else w.2 k i) else w.2 k)) (26 * n + t) v i = (if k = k then (fun i => if i % 26 = t ∧ i / 26 < n + 1 then A (i / 26) else w.2 k i) else w.2 k) i
    rw [if_pos rfl, if_pos rfl]
    unfold va_up
    by_cases hi : i = 26 * n + t
    · have e : i / 26 = n := by omega
      rw [if_pos hi, if_pos ⟨by omega, by omega⟩, e, hv]
    · rw [if_neg hi]
      show (if i % 26 = t ∧ i / 26 < n then A (i / 26) else w.2 k i) = _
      by_cases h2 : i % 26 = t ∧ i / 26 < n
      · rw [if_pos h2, if_pos ⟨h2.1, by omega⟩]
      · rw [if_neg h2, if_neg (fun q => h2 ⟨q.1, by omega⟩)]
  · rw [uA_ne h, cs_ne h, cs_ne h]
theorem nI_s10 {t : Nat} (h : 10 ≤ t) : nI t - 10 = nI (t - 10) := by
  have e : nI (t - 10) + 10 = nI t := by
    rw [show (10 : Int32) = nI 10 from rfl, nI_add]
    congr 1
    omega
  rw [← e]
  exact Int32.add_sub_cancel _ _
/-- the pair of rows 23 and 24 at a place -/
def st2 (w : Sg) (k : Nat) (a b : Int32) : Sg := uA (uA w 23 k a) 24 k b
theorem uA_uA {z : Sg} {k i : Nat} {u v : Int32} : uA (uA z k i u) k i v = uA z k i v := by
  refine Prod.ext rfl ?_
  funext j
  by_cases h : j = k
  · subst h
    rw [uA_at, uA_at, uA_at]
    funext a
    unfold va_up
    by_cases ha : a = i
    · rw [if_pos ha, if_pos ha]
    · rw [if_neg ha, if_neg ha]
      exact (if_neg ha).symm
  · rw [uA_ne h, uA_ne h, uA_ne h]
theorem uA_cm {z : Sg} {k k' i i' : Nat} {u v : Int32} (h : k ≠ k') : uA (uA z k i u) k' i' v = uA (uA z k' i' v) k i u := by
  refine Prod.ext rfl ?_
  funext j
  by_cases h1 : j = k
  · subst h1
    rw [uA_ne h, uA_at, uA_at, uA_ne h]
  · by_cases h2 : j = k'
    · subst h2
      rw [uA_at, uA_ne h1, uA_ne h1, uA_at]
    · rw [uA_ne h2, uA_ne h1, uA_ne h1, uA_ne h2]
theorem st_23 {w : Sg} {k : Nat} {a b c : Int32} : uA (st2 w k a b) 23 k c = st2 w k c b := by
  unfold st2
  rw [uA_cm (by decide), uA_uA]
theorem st_24 {w : Sg} {k : Nat} {a b c : Int32} : uA (st2 w k a b) 24 k c = st2 w k a c := by
  unfold st2
  rw [uA_uA]
theorem st_22 {w : Sg} {k : Nat} {a b : Int32} : (st2 w k a b).2 22 = w.2 22 := by
  unfold st2
  rw [uA_ne (by decide), uA_ne (by decide)]
def atB (z : Sg) (r t : Nat) : Bool := decide (atT z r t)
section
variable {x : Nat} {G : Hp} {z w : Sg} {r p q t k : Nat} {f : Nat → Int32}
theorem M_isUpW (hM : MS x G) (hF : WF z) (h1 : r < nR z) (h2 : p < 4) : d_X9_isUp x (nI r) (nI p) (em2 x G z w) = some (bI (decide (upP z (4 * r + p)))) := by
  have hn := hF.1
  unfold d_X9_isUp
  simp (disch := omega) only [e2_hc, e2_hr, e2_hl, ms0, ms1, ms2, ms3, ms4, ms5, ms6, ms7, ms21, hM.1, mc8 hM, ml8 hM, mr8 hM, lm4, lm8, lm10, lm16, lm17, lm26, lm40, lm400, nI_add, nI_1, ix_nI, nI_clamp, gd_T, gd_t, bd_e, bo_e, b2_e, true_and, and_true]
  rcases hF.2.2.2.2.2 (4 * r + p) (by omega) with h | ⟨n, hn2, h⟩
  · rw [if_pos h, decide_eq_false (fun q => q.1 h)]
    rfl
  · have h8 : ¬ z.2 8 (4 * r + p) = -1 := by rw [h]; exact nI_m1 (by omega)
    rw [if_neg h8]
    unfold upP
    rw [h]
    simp (disch := omega) only [e2_hc, e2_hr, e2_hl, ms0, ms1, ms2, ms3, ms4, ms5, ms6, ms7, ms21, hM.1, mc10 hM, ml10 hM, mr10 hM, lm4, lm8, lm10, lm16, lm17, lm26, lm40, lm400, nI_add, nI_1, ix_nI, nI_clamp, gd_T, gd_t, bd_e, bo_e, b2_e, true_and, and_true]
    by_cases c : z.2 10 n = 0
    · rw [if_pos c, decide_eq_true ⟨nI_m1 (by omega), c⟩]
      rfl
    · rw [if_neg c, decide_eq_false (fun q => c q.2)]
      rfl
theorem M_isAt (hM : MS x G) (h1 : r < 10) (ht : t < 26) : d_X9_isAt x (nI r) (nI t) (em2 x G z w) = some (bI (atB z r t)) := by
  unfold d_X9_isAt atB
  rw [show (10 : Int32) = nI 10 from rfl]
  by_cases h10 : 10 ≤ t
  · rw [if_pos (nI_le h10 (by omega)), ← show (10 : Int32) = nI 10 from rfl, nI_s10 h10]
    simp (disch := omega) only [e2_hc, e2_hr, e2_hl, ms0, ms1, ms2, ms3, ms4, ms5, ms6, ms7, ms21, hM.1, mc10 hM, ml10 hM, mr10 hM, lm4, lm8, lm10, lm16, lm17, lm26, lm40, lm400, nI_add, nI_1, ix_nI, nI_clamp, gd_T, gd_t, bd_e, bo_e, b2_e, true_and, and_true, M_portOn hM h1]
    by_cases c1 : z.2 10 (t - 10) = 0
    · rw [if_pos c1]
      by_cases c2 : pOn z r (nI (t - 10)) = -1
      · rw [if_pos c2, decide_eq_false (fun q => q.elim (fun a => by omega) (fun a => a.2.2 c2))]
        rfl
      · rw [if_neg c2, decide_eq_true (Or.inr ⟨h10, c1, c2⟩)]
        rfl
    · rw [if_neg c1, decide_eq_false (fun q => q.elim (fun a => by omega) (fun a => c1 a.2.1))]
      rfl
  · rw [if_neg (nI_ge (by omega) (by omega))]
    by_cases c : t = r
    · rw [if_pos (by rw [c]), decide_eq_true (Or.inl ⟨by omega, c⟩)]
      rfl
    · rw [if_neg (fun e => c ((nI_eq (by omega) (by omega)).mp e)), decide_eq_false (fun q => q.elim (fun a => c a.2) (fun a => h10 a.1))]
      rfl
theorem M_over (hM : MS x G) (hF : WF z) (h1 : r < nR z) (h2 : p < 4) (hq : q < nR z) (ht : t < 26) (hf : w.2 22 (26 * q + t) = f q) : d_X9_over x (nI r) (nI p) (nI q) (nI t) (em2 x G z w) = some (ovr z f r p q) := by
  have hn := hF.1
  unfold d_X9_over ovr
  rw [e2_hc, gd_t hM.1, M_isUpW hM hF h1 h2, bo_e, ite_bI]
  by_cases c1 : upP z (4 * r + p)
  · rw [decide_eq_true c1, cond_true]
    by_cases c2 : q = r
    · rw [if_pos (by rw [c2]), if_pos (Or.inr (Or.inl c2))]
    · rw [if_neg (fun e => c2 ((nI_eq (by omega) (by omega)).mp e))]
      simp (disch := omega) only [e2_hc, e2_hr, e2_hl, ms0, ms1, ms2, ms3, ms4, ms5, ms6, ms7, ms21, hM.1, mc8 hM, ml8 hM, mr8 hM, mc22 hM, ml22 hM, mr22 hM, mc9 hM, ml9 hM, mr9 hM, lm4, lm8, lm10, lm16, lm17, lm26, lm40, lm400, nI_add, nI_1, ix_nI, nI_clamp, gd_T, gd_t, bd_e, bo_e, b2_e, true_and, and_true, M_portOn hM (show q < 10 by omega)]
      rw [hf]
      by_cases c3 : pOn z q (z.2 8 (4 * r + p)) = -1
      · rw [if_pos c3, if_pos (Or.inr (Or.inr (Or.inl c3)))]
      · rw [if_neg c3]
        by_cases c4 : f q < 1000000
        · rw [if_pos c4, if_neg (fun e => e.elim (fun a => a c1) (fun e => e.elim c2 (fun e => e.elim c3 (fun e => Int32.not_le.mpr c4 e))))]
        · rw [if_neg c4, if_pos (Or.inr (Or.inr (Or.inr (Int32.not_lt.mp c4))))]
  · rw [decide_eq_false c1, cond_false, if_pos (Or.inl c1)]
theorem M_stQ {kk : Nat → Int32 → Int32 → Int32 → Hp → Option Hp} (hM : MS x G) (hF : WF z) (h1 : r < nR z) (h2 : p < 4) (ht : t < 26) : ∀ (n q : Nat), q ≤ nR z → nR z - q < n → d_X9_step_10 n x (nI r) (nI t) (nI p) (nI q) (em2 x G z (cs 22 t (nR z) (wyQ z r p f q) w)) kk = kk x (nI r) (nI t) (nI (p + 1)) (em2 x G z (cs 22 t (nR z) (wyQ z r p f (nR z)) w)) := by
  have hn := hF.1
  intro n
  induction n with
  | zero => intro q _ h; omega
  | succ n ih =>
    intro q hq hlt
    rw [d_X9_step_10.eq_2, e2_hc, gd_t hM.1, ms1, hn.2.2]
    by_cases hqe : q = nR z
    · subst hqe
      rw [if_pos (nI_le (Nat.le_refl _) (by omega)), nI_1]
    · rw [if_neg (nI_ge (by omega) (by omega)), M_over hM hF h1 h2 (show q < nR z by omega) ht (cs_in ht (by omega)), bo_e]
      have e2 := ih (q + 1) (by omega) (by omega)
      simp (disch := omega) only [e2_hc, e2_hr, e2_hl, ms0, ms1, ms2, ms3, ms4, ms5, ms6, ms7, ms21, hM.1, mc22 hM, ml22 hM, mr22 hM, lm4, lm8, lm10, lm16, lm17, lm26, lm40, lm400, nI_add, nI_1, ix_nI, nI_clamp, gd_T, gd_t, bd_e, bo_e, b2_e, true_and, and_true, mu22 hM]
      rw [cs_in ht h1, cs_up ht h1]
      rw [show wyQ z r p f (q + 1) = (if ovr z (wyQ z r p f q) r p q < wyQ z r p f q r then va_up (wyQ z r p f q) r (ovr z (wyQ z r p f q) r p q) else wyQ z r p f q) from rfl] at e2
      by_cases c : wyQ z r p f q r ≤ ovr z (wyQ z r p f q) r p q
      · rw [if_pos c]
        rw [if_neg (Int32.not_lt.mpr c)] at e2
        exact e2
      · rw [if_neg c]
        rw [if_pos (Int32.not_le.mp c)] at e2
        exact e2
theorem M_stP (hM : MS x G) (hF : WF z) (h1 : r < nR z) (ht : t < 26) : ∀ (n p : Nat), p ≤ 4 → 4 - p < n → d_X9_step_2 n x (nI r) (nI t) (nI p) (em2 x G z (cs 22 t (nR z) (wyP z r f p) w)) = some (em2 x G z (cs 22 t (nR z) (wyP z r f 4) w)) := by
  have hn := hF.1
  intro n
  induction n with
  | zero => intro p _ h; omega
  | succ n ih =>
    intro p hp hlt
    rw [d_X9_step_2.eq_2, show (4 : Int32) = nI 4 from rfl]
    by_cases hpe : p = 4
    · subst hpe
      rw [if_pos (nI_le (Nat.le_refl _) (by decide))]
    · rw [if_neg (nI_ge (by omega) (by decide))]
      have e1 := M_stQ (kk := fun y0 y1 y2 y3 Gy => d_X9_step_2 n y0 y1 y2 y3 Gy) (w := w) (f := wyP z r f p) hM hF h1 (show p < 4 by omega) ht FU 0 (Nat.zero_le _) (by show _ < 6000; omega)
      rw [nI_0, show wyQ z r p (wyP z r f p) 0 = wyP z r f p from rfl] at e1
      rw [e1]
      exact ih (p + 1) (by omega) (by omega)
theorem M_step (hM : MS x G) (hF : WF z) (h1 : r < nR z) (ht : t < 26) : d_X9_step x (nI r) (nI t) (em2 x G z (cs 22 t (nR z) f w)) = some (em2 x G z (cs 22 t (nR z) (wyP z r f 4) w)) := by
  have e := M_stP (w := w) (f := f) hM hF h1 ht FU 0 (Nat.zero_le _) (by show _ < 6000; omega)
  rw [nI_0, show wyP z r f 0 = f from rfl] at e
  exact e
theorem M_rk75 {kk : Nat → Int32 → Int32 → Hp → Option Hp} {rd : Nat} (hM : MS x G) (hF : WF z) (ht : t < 26) : ∀ (n r : Nat), r ≤ nR z → nR z - r < n → d_X9_reckon_75 n x (nI t) (nI rd) (nI r) (em2 x G z (cs 22 t (nR z) (wyR z f r) w)) kk = kk x (nI t) (nI (rd + 1)) (em2 x G z (cs 22 t (nR z) (wyR z f (nR z)) w)) := by
  have hn := hF.1
  intro n
  induction n with
  | zero => intro r _ h; omega
  | succ n ih =>
    intro r hr hlt
    rw [d_X9_reckon_75.eq_2, e2_hc, gd_t hM.1, ms1, hn.2.2]
    by_cases hre : r = nR z
    · subst hre
      rw [if_pos (nI_le (Nat.le_refl _) (by omega)), nI_1]
    · rw [if_neg (nI_ge (by omega) (by omega)), M_step hM hF (by omega) ht, bo_e, nI_1]
      exact ih (r + 1) (by omega) (by omega)
theorem M_rk65 {kk : Nat → Int32 → Hp → Option Hp} (hM : MS x G) (hF : WF z) (ht : t < 26) : ∀ (n rd : Nat), rd ≤ nR z → nR z - rd < n → d_X9_reckon_65 n x (nI t) (nI rd) (em2 x G z (cs 22 t (nR z) (wyN z f rd) w)) kk = d_X9_reckon_103 FU x (nI t) 0 (em2 x G z (cs 22 t (nR z) (wyN z f (nR z)) w)) kk := by
  have hn := hF.1
  intro n
  induction n with
  | zero => intro r _ h; omega
  | succ n ih =>
    intro rd hr hlt
    rw [d_X9_reckon_65.eq_2, e2_hc, gd_t hM.1, ms1, hn.2.2]
    by_cases hre : rd = nR z
    · subst hre
      rw [if_pos (nI_le (Nat.le_refl _) (by omega))]
    · rw [if_neg (nI_ge (by omega) (by omega))]
      have e1 := M_rk75 (kk := fun y0 y1 y2 Gy => d_X9_reckon_65 n y0 y1 y2 Gy kk) (rd := rd) (w := w) (f := wyN z f rd) hM hF ht FU 0 (Nat.zero_le _) (by show _ < 6000; omega)
      rw [nI_0, show wyR z (wyN z f rd) 0 = wyN z f rd from rfl] at e1
      rw [e1]
      exact ih (rd + 1) (by omega) (by omega)
theorem M_rk23 {kk : Nat → Int32 → Hp → Option Hp} (hM : MS x G) (hF : WF z) (ht : t < 26) : ∀ (n r : Nat), r ≤ nR z → nR z - r < n → d_X9_reckon_23 n x (nI t) (nI r) (em2 x G z (cs 22 t r (wy0 z t) w)) kk = d_X9_reckon_65 FU x (nI t) 0 (em2 x G z (cs 22 t (nR z) (wy0 z t) w)) kk := by
  have hn := hF.1
  intro n
  induction n with
  | zero => intro r _ h; omega
  | succ n ih =>
    intro r hr hlt
    rw [d_X9_reckon_23.eq_2, e2_hc, gd_t hM.1, ms1, hn.2.2]
    by_cases hre : r = nR z
    · subst hre
      rw [if_pos (nI_le (Nat.le_refl _) (by omega))]
    · rw [if_neg (nI_ge (by omega) (by omega)), M_isAt hM (by omega) ht, bo_e, ite_bI]
      simp (disch := omega) only [e2_hc, e2_hr, e2_hl, ms0, ms1, ms2, ms3, ms4, ms5, ms6, ms7, ms21, hM.1, mc22 hM, ml22 hM, mr22 hM, lm4, lm8, lm10, lm16, lm17, lm26, lm40, lm400, nI_add, nI_1, ix_nI, nI_clamp, gd_T, gd_t, bd_e, bo_e, b2_e, true_and, and_true, mu22 hM]
      have e2 := ih (r + 1) (by omega) (by omega)
      unfold atB
      by_cases c : atT z r t
      · rw [decide_eq_true c, cond_true, cs_ext ht (show 0 = wy0 z t r from (if_pos c).symm)]
        exact e2
      · rw [decide_eq_false c, cond_false, cs_ext ht (show 1000000 = wy0 z t r from (if_neg c).symm)]
        exact e2
theorem M_seQ {kk : Nat → Int32 → Int32 → Int32 → Int32 → Int32 → Hp → Option Hp} {b : Int32 × Int32 × Int32} (hM : MS x G) (hF : WF z) (h1 : r < nR z) (h2 : p < 4) (ht : t < 26) (hf : ∀ q, q < nR z → w.2 22 (26 * q + t) = f q) : ∀ (n q : Nat), q ≤ nR z → nR z - q < n → d_X9_settle_79 n x (nI r) (nI t) (nI (26 * r + t)) (bstQ z f r p b q).1 (nI p) (nI q) (em2 x G z (st2 w (26 * r + t) (bstQ z f r p b q).2.1 (bstQ z f r p b q).2.2)) kk = kk x (nI r) (nI t) (nI (26 * r + t)) (bstQ z f r p b (nR z)).1 (nI (p + 1)) (em2 x G z (st2 w (26 * r + t) (bstQ z f r p b (nR z)).2.1 (bstQ z f r p b (nR z)).2.2)) := by
  have hn := hF.1
  intro n
  induction n with
  | zero => intro q _ h; omega
  | succ n ih =>
    intro q hq hlt
    rw [d_X9_settle_79.eq_2, e2_hc, gd_t hM.1, ms1, hn.2.2]
    by_cases hqe : q = nR z
    · subst hqe
      rw [if_pos (nI_le (Nat.le_refl _) (by omega)), nI_1]
    · rw [if_neg (nI_ge (by omega) (by omega)), M_over (f := f) hM hF h1 h2 (show q < nR z by omega) ht (by rw [st_22]; exact hf q (by omega)), bo_e]
      have e2 := ih (q + 1) (by omega) (by omega)
      rw [show bstQ z f r p b (q + 1) = (if (bstQ z f r p b q).1 ≤ ovr z f r p q then bstQ z f r p b q else (ovr z f r p q, nI p, nI q)) from rfl] at e2
      simp (disch := omega) only [e2_hc, e2_hr, e2_hl, ms0, ms1, ms2, ms3, ms4, ms5, ms6, ms7, ms21, hM.1, mc23 hM, ml23 hM, mr23 hM, mc24 hM, ml24 hM, mr24 hM, lm4, lm8, lm10, lm16, lm17, lm26, lm40, lm400, nI_add, nI_1, ix_nI, nI_clamp, gd_T, gd_t, bd_e, bo_e, b2_e, true_and, and_true, mu23 hM, mu24 hM]
      rw [st_23, st_24]
      by_cases c : (bstQ z f r p b q).1 ≤ ovr z f r p q
      · rw [if_neg (Int32.not_lt.mpr c)]
        rw [if_pos c] at e2
        exact e2
      · rw [if_pos (Int32.not_le.mp c)]
        rw [if_neg c] at e2
        exact e2
theorem M_seP (hM : MS x G) (hF : WF z) (h1 : r < nR z) (ht : t < 26) (hf : ∀ q, q < nR z → w.2 22 (26 * q + t) = f q) : ∀ (n p : Nat), p ≤ 4 → 4 - p < n → d_X9_settle_70 n x (nI r) (nI t) (nI (26 * r + t)) (bstP z f r p).1 (nI p) (em2 x G z (st2 w (26 * r + t) (bstP z f r p).2.1 (bstP z f r p).2.2)) = some (em2 x G z (st2 w (26 * r + t) (bstP z f r 4).2.1 (bstP z f r 4).2.2)) := by
  have hn := hF.1
  intro n
  induction n with
  | zero => intro p _ h; omega
  | succ n ih =>
    intro p hp hlt
    rw [d_X9_settle_70.eq_2, show (4 : Int32) = nI 4 from rfl]
    by_cases hpe : p = 4
    · subst hpe
      rw [if_pos (nI_le (Nat.le_refl _) (by decide))]
    · rw [if_neg (nI_ge (by omega) (by decide))]
      have e1 := M_seQ (kk := fun y0 y1 y2 y3 y4 y5 Gy => d_X9_settle_70 n y0 y1 y2 y3 y4 y5 Gy) (b := bstP z f r p) hM hF h1 (show p < 4 by omega) ht hf FU 0 (Nat.zero_le _) (by show _ < 6000; omega)
      rw [nI_0, show bstQ z f r p (bstP z f r p) 0 = bstP z f r p from rfl] at e1
      rw [e1]
      exact ih (p + 1) (by omega) (by omega)
end
/-- port and router to t, from the distances f -/
def sePt (z : Sg) (f : Nat → Int32) (t r : Nat) : Int32 := if 1000000 ≤ f r ∨ t = r then -1 else if atT z r t then pOn z r (nI (t - 10)) else (bstP z f r 4).2.1
def seRt (z : Sg) (f : Nat → Int32) (t r : Nat) : Int32 := if 1000000 ≤ f r ∨ t = r ∨ atT z r t then -1 else (bstP z f r 4).2.2
section
variable {x : Nat} {G : Hp} {z w : Sg} {r p q t k : Nat} {f : Nat → Int32}
theorem M_settle (hM : MS x G) (hF : WF z) (h1 : r < nR z) (ht : t < 26) (hf : ∀ q, q < nR z → w.2 22 (26 * q + t) = f q) : d_X9_settle x (nI r) (nI t) (em2 x G z w) = some (em2 x G z (st2 w (26 * r + t) (sePt z f t r) (seRt z f t r))) := by
  have hn := hF.1
  unfold d_X9_settle sePt seRt
  simp (disch := omega) only [e2_hc, e2_hr, e2_hl, ms0, ms1, ms2, ms3, ms4, ms5, ms6, ms7, ms21, hM.1, mc22 hM, ml22 hM, mr22 hM, mc23 hM, ml23 hM, mr23 hM, mc24 hM, ml24 hM, mr24 hM, lm4, lm8, lm10, lm16, lm17, lm26, lm40, lm400, nI_add, nI_1, ix_nI, nI_clamp, gd_T, gd_t, bd_e, bo_e, b2_e, true_and, and_true, mu23 hM, mu24 hM]
  rw [show uA (uA w 23 (26 * r + t) (-1)) 24 (26 * r + t) (-1) = st2 w (26 * r + t) (-1) (-1) from rfl, st_22, hf r h1]
  by_cases c1 : 1000000 ≤ f r
  · rw [if_pos c1, if_pos (Or.inl c1), if_pos (Or.inl c1)]
  · rw [if_neg c1]
    by_cases c2 : t = r
    · rw [if_pos (by rw [c2]), if_pos (Or.inr c2), if_pos (Or.inr (Or.inl c2))]
    · rw [if_neg (fun e => c2 ((nI_eq (by omega) (by omega)).mp e)), if_neg (fun e => e.elim c1 c2), M_isAt hM (by omega) ht, bo_e, ite_bI]
      unfold atB
      by_cases c3 : atT z r t
      · have h10 : 10 ≤ t := c3.elim (fun a => absurd a.2 c2) (fun a => a.1)
        rw [decide_eq_true c3, cond_true, if_pos c3, if_pos (Or.inr (Or.inr c3)), nI_s10 h10, M_portOn hM (by omega), bo_e, st_23]
      · rw [decide_eq_false c3, cond_false, if_neg c3, if_neg (fun e => e.elim c1 (fun e => e.elim c2 c3))]
        have e := M_seP (w := w) hM hF h1 ht hf FU 0 (Nat.zero_le _) (by show _ < 6000; omega)
        rw [nI_0] at e
        exact e
theorem cs_st {n : Nat} {A B : Nat → Int32} (ht : t < 26) : st2 (cs 23 t n A (cs 24 t n B w)) (26 * n + t) (A n) (B n) = cs 23 t (n + 1) A (cs 24 t (n + 1) B w) := by
  have e : ∀ (m : Nat) (y : Sg) (v : Int32), uA (cs 23 t m A y) 24 (26 * n + t) v = cs 23 t m A (uA y 24 (26 * n + t) v) := by
    intro m y v
    refine Prod.ext rfl ?_
    funext j
    by_cases h : j = 24
    · subst h
      rw [uA_at, cs_ne (by decide), cs_ne (by decide), uA_at]
    · rw [uA_ne h]
      show (if j = 23 then (fun i => if i % 26 = t ∧ i / 26 < m then A (i / 26) else y.2 23 i) else y.2 j) = (if j = 23 then (fun i => if i % 26 = t ∧ i / 26 < m then A (i / 26) else (uA y 24 (26 * n + t) v).2 23 i) else (uA y 24 (26 * n + t) v).2 j)
      rw [uA_ne (show (23 : Nat) ≠ 24 by decide), uA_ne h]
  unfold st2
  rw [cs_ext ht rfl, e, cs_ext ht rfl]
theorem M_rk103 {kk : Nat → Int32 → Hp → Option Hp} (hM : MS x G) (hF : WF z) (ht : t < 26) (hf : ∀ q, q < nR z → w.2 22 (26 * q + t) = f q) : ∀ (n r : Nat), r ≤ nR z → nR z - r < n → d_X9_reckon_103 n x (nI t) (nI r) (em2 x G z (cs 23 t r (sePt z f t) (cs 24 t r (seRt z f t) w))) kk = kk x (nI (t + 1)) (em2 x G z (cs 23 t (nR z) (sePt z f t) (cs 24 t (nR z) (seRt z f t) w))) := by
  have hn := hF.1
  intro n
  induction n with
  | zero => intro r _ h; omega
  | succ n ih =>
    intro r hr hlt
    rw [d_X9_reckon_103.eq_2, e2_hc, gd_t hM.1, ms1, hn.2.2]
    by_cases hre : r = nR z
    · subst hre
      rw [if_pos (nI_le (Nat.le_refl _) (by omega)), nI_1]
    · rw [if_neg (nI_ge (by omega) (by omega)), M_settle (f := f) hM hF (by omega) ht (fun q hq => by rw [cs_ne (by decide), cs_ne (by decide)]; exact hf q hq), bo_e, nI_1, cs_st ht]
      exact ih (r + 1) (by omega) (by omega)
/-- one target -/
def rk1 (z w : Sg) (t : Nat) : Sg := cs 23 t (nR z) (sePt z (Dt z t) t) (cs 24 t (nR z) (seRt z (Dt z t) t) (cs 22 t (nR z) (Dt z t) w))
theorem M_rk1 {kk : Nat → Int32 → Hp → Option Hp} (hM : MS x G) (hF : WF z) (ht : t < 26) : d_X9_reckon_23 FU x (nI t) 0 (em2 x G z w) kk = kk x (nI (t + 1)) (em2 x G z (rk1 z w t)) := by
  have hn := hF.1
  have e1 := M_rk23 (kk := kk) (w := w) hM hF ht FU 0 (Nat.zero_le _) (by show _ < 6000; omega)
  have e2 := M_rk65 (kk := kk) (w := w) (f := wy0 z t) hM hF ht FU 0 (Nat.zero_le _) (by show _ < 6000; omega)
  have e3 := M_rk103 (kk := kk) (w := cs 22 t (nR z) (Dt z t) w) (f := Dt z t) hM hF ht (fun q hq => cs_in ht hq) FU 0 (Nat.zero_le _) (by show _ < 6000; omega)
  rw [nI_0, cs_0] at e1
  rw [nI_0, show wyN z (wy0 z t) 0 = wy0 z t from rfl] at e2
  rw [nI_0, cs_0, cs_0] at e3
  exact e1.trans (e2.trans e3)
theorem sePt_e (ht : t < 26) : sePt z (Dt z t) t r = Wp z (26 * r + t) := by
  unfold sePt Wp Wd
  rw [show (26 * r + t) % 26 = t by omega, show (26 * r + t) / 26 = r by omega]
theorem seRt_e (ht : t < 26) : seRt z (Dt z t) t r = Wr z (26 * r + t) := by
  unfold seRt Wr Wd
  rw [show (26 * r + t) % 26 = t by omega, show (26 * r + t) / 26 = r by omega]
theorem Dt_e (ht : t < 26) : Dt z t r = Wd z (26 * r + t) := by
  unfold Wd
  rw [show (26 * r + t) % 26 = t by omega, show (26 * r + t) / 26 = r by omega]
theorem M_rk15 (hM : MS x G) (hF : WF z) : ∀ (n t : Nat) (w : Sg), t ≤ 26 → 26 - t < n → w.1 21 = 0 → (∀ r t', r < nR z → t' < t → w.2 22 (26 * r + t') = Wd z (26 * r + t') ∧ w.2 23 (26 * r + t') = Wp z (26 * r + t') ∧ w.2 24 (26 * r + t') = Wr z (26 * r + t')) → ∃ w', d_X9_reckon_15 n x (nI t) (em2 x G z w) = some (em2 x G z w') ∧ Frs z w' := by
  intro n
  induction n with
  | zero => intro t w _ h; omega
  | succ n ih =>
    intro t w ht hlt h21 hd
    rw [d_X9_reckon_15.eq_2, show (26 : Int32) = nI 26 from rfl]
    by_cases hte : t = 26
    · subst hte
      rw [if_pos (nI_le (Nat.le_refl _) (by decide))]
      refine ⟨w, rfl, h21, fun k hk => ?_⟩
      have e : k = 26 * (k / 26) + k % 26 := by omega
      rw [e]
      exact hd (k / 26) (k % 26) (by omega) (by omega)
    · rw [if_neg (nI_ge (by omega) (by decide)), M_rk1 hM hF (by omega)]
      refine ih (t + 1) (rk1 z w t) (by omega) (by omega) h21 ?_
      intro r t' hr ht'
      unfold rk1
      by_cases he : t' = t
      · subst he
        rw [cs_ne (show (22 : Nat) ≠ 23 by decide), cs_ne (show (22 : Nat) ≠ 24 by decide), cs_in (by omega) hr, cs_in (by omega) hr, cs_ne (show (24 : Nat) ≠ 23 by decide), cs_in (by omega) hr]
        exact ⟨Dt_e (by omega), sePt_e (by omega), seRt_e (by omega)⟩
      · have ho : (26 * r + t') % 26 ≠ t := by omega
        rw [cs_ne (show (22 : Nat) ≠ 23 by decide), cs_ne (show (22 : Nat) ≠ 24 by decide), cs_out ho, cs_out ho, cs_ne (show (23 : Nat) ≠ 24 by decide), cs_ne (show (23 : Nat) ≠ 22 by decide), cs_ne (show (24 : Nat) ≠ 23 by decide), cs_out ho, cs_ne (show (24 : Nat) ≠ 22 by decide)]
        exact hd r t' hr (by omega)
theorem M_reckon (hM : MS x G) (hF : WF z) : RK x G z := by
  intro w hw
  unfold d_X9_reckon
  rw [e2_hc, gd_t hM.1, ms21, mw21, bd_e]
  by_cases c : w.1 21 = 0
  · rw [if_pos c]
    exact ⟨w, rfl, hw c⟩
  · rw [if_neg c]
    have e := M_rk15 hM hF FU 0 (uS w 21 0) (Nat.zero_le _) (by show _ < 6000; omega) (by rw [uS_get, if_pos rfl]) (fun r t' _ h => absurd h (Nat.not_lt_zero _))
    rw [nI_0] at e
    exact e
end
