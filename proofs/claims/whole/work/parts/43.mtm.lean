/-- f for 0, 1, .., n - 1 -/
def fo (f : Sg → Nat → Sg) (z : Sg) : Nat → Sg
  | 0 => z
  | n + 1 => f (fo f z n) n
theorem fo_0 {f : Sg → Nat → Sg} {z : Sg} : fo f z 0 = z := rfl
theorem fo_s {f : Sg → Nat → Sg} {z : Sg} {n : Nat} : fo f z (n + 1) = f (fo f z n) n := rfl
theorem fo_MO {f : Sg → Nat → Sg} {z : Sg} {N : Nat} (hf : ∀ y i, MO y → TE y z → i < N → MO (f y i) ∧ TE (f y i) y) (h : MO z) : ∀ n, n ≤ N → MO (fo f z n) ∧ TE (fo f z n) z := by
  intro n
  induction n with
  | zero => intro _; exact ⟨h, te_rf⟩
  | succ n ih =>
    intro hn
    obtain ⟨a, b⟩ := ih (by omega)
    obtain ⟨c, d⟩ := hf _ n a b (by omega)
    exact ⟨c, te_tr d b⟩
def upB (z : Sg) (j : Nat) : Bool := decide (z.2 8 j ≠ -1 ∧ z.2 10 (z.2 8 j).toNatClampNeg = 0)
def heZ (z : Sg) (r p : Nat) : Sg := cond (upB z (4 * r + p) && (decide (z.2 26 (4 * r + p) = -1) || decide (20 ≤ z.1 0 - z.2 26 (4 * r + p)))) (uA (pu z (z.2 8 (4 * r + p)) 1 (nI r) (-1) (-1) (-1) 0 0 0).2 26 (4 * r + p) (z.1 0)) z
def quZ (z : Sg) (r p : Nat) : Sg := cond (upB z (4 * r + p) && askg z r p && (decide (z.2 27 (4 * r + p) = -1) || decide (25 ≤ z.1 0 - z.2 27 (4 * r + p)))) (uA (pu z (z.2 8 (4 * r + p)) 2 (nI r) (-1) (-1) (-1) 0 0 0).2 27 (4 * r + p) (z.1 0)) z
def bdG (z : Sg) (r g : Nat) : Sg := fo (fun z s => bdZ z r g s) z 16
def cmG (z : Sg) (r g : Nat) : Sg := fo (fun z y => cmZ z r g y) z 17
def rmG (z : Sg) (r g : Nat) : Sg := fo (fun z s => rmZ z r g s) z 16
def tmZ (z : Sg) (r : Nat) : Sg := fo (fun z g => rmG z r g) (fo (fun z g => cmG z r g) (fo (fun z g => bdG z r g) (fo (fun z p => quZ z r p) (fo (fun z p => heZ z r p) z 4) 4) 8) 8) 8
theorem he_ok {z : Sg} {r p : Nat} (h : MO z) : MO (heZ z r p) ∧ TE (heZ z r p) z := ⟨MO_c (MO_uA (MO_pu h) (by decide)) h, te_c (te_tr (te_uA (by decide)) te_pu) te_rf⟩
theorem qu_ok {z : Sg} {r p : Nat} (h : MO z) : MO (quZ z r p) ∧ TE (quZ z r p) z := ⟨MO_c (MO_uA (MO_pu h) (by decide)) h, te_c (te_tr (te_uA (by decide)) te_pu) te_rf⟩
theorem bdG_ok {z : Sg} {r g : Nat} (h : MO z) : MO (bdG z r g) ∧ TE (bdG z r g) z := fo_MO (N := 16) (fun y i hy _ _ => ⟨MO_bd hy, te_bd⟩) h 16 (Nat.le_refl _)
theorem cmG_ok {z : Sg} {r g : Nat} (h : MO z) (h1 : r < nR z) (h3 : g < 8) : MO (cmG z r g) ∧ TE (cmG z r g) z := fo_MO (N := 17) (fun y i hy ty hi => ⟨MO_cm hy (by rw [te_nR ty]; exact h1) h3 hi, te_cm⟩) h 17 (Nat.le_refl _)
theorem rmG_ok {z : Sg} {r g : Nat} (h : MO z) : MO (rmG z r g) ∧ TE (rmG z r g) z := fo_MO (N := 16) (fun y i hy _ _ => ⟨MO_rm hy, te_rm⟩) h 16 (Nat.le_refl _)
section
variable {x : Nat} {G : Hp} {z w : Sg} {r p q g s y k : Nat}
theorem M_isUp (hM : MS x G) (hO : MO z) (h1 : r < nR z) (h2 : p < 4) : d_X9_isUp x (nI r) (nI p) (em2 x G z w) = some (bI (upB z (4 * r + p))) := by
  have hn := hO.1.1
  unfold d_X9_isUp upB
  simp (disch := omega) only [e2_hc, e2_hr, e2_hl, ms0, ms1, ms2, ms3, ms4, ms5, ms6, ms7, ms21, hM.1, mc8 hM, ml8 hM, mr8 hM, lm4, lm8, lm10, lm16, lm17, lm26, lm40, lm400, nI_add, nI_1, ix_nI, nI_clamp, gd_T, gd_t, bd_e, bo_e, b2_e, true_and, and_true]
  rcases row8 hO (show 4 * r + p < 40 by omega) with h | ⟨n, hn2, h⟩
  · rw [if_pos h, decide_eq_false (fun q => q.1 h)]
    rfl
  · have h8 : ¬ z.2 8 (4 * r + p) = -1 := by rw [h]; exact nI_m1 (by omega)
    rw [if_neg h8, h]
    simp (disch := omega) only [e2_hc, e2_hr, e2_hl, ms0, ms1, ms2, ms3, ms4, ms5, ms6, ms7, ms21, hM.1, mc10 hM, ml10 hM, mr10 hM, lm4, lm8, lm10, lm16, lm17, lm26, lm40, lm400, nI_add, nI_1, ix_nI, nI_clamp, gd_T, gd_t, bd_e, bo_e, b2_e, true_and, and_true]
    by_cases c : z.2 10 n = 0
    · rw [if_pos c, decide_eq_true ⟨nI_m1 (by omega), c⟩]
      rfl
    · rw [if_neg c, decide_eq_false (fun q => c q.2)]
      rfl
theorem M_he1 {n : Nat} (hM : MS x G) (hO : MO z) (h1 : r < nR z) (h2 : p < 4) : d_X9_timers_2 (n + 1) x (nI r) (nI p) (em2 x G z w) = d_X9_timers_2 n x (nI r) (nI (p + 1)) (em2 x G (heZ z r p) w) := by
  have hn := hO.1.1
  have e0 : (pu z (z.2 8 (4 * r + p)) 1 (nI r) (-1) (-1) (-1) 0 0 0).2.1 0 = z.1 0 := pu_sc (by decide)
  rw [d_X9_timers_2.eq_2, show (4 : Int32) = nI 4 from rfl, if_neg (nI_ge (by omega) (by decide)), ← show (4 : Int32) = nI 4 from rfl]
  unfold d_X9_timers_51 heZ
  simp (disch := omega) only [M_isUp hM hO h1 h2, M_put hM hO.2.1 (row8 hO (show 4 * r + p < 40 by omega)), e2_hc, e2_hr, e2_hl, ms0, ms1, ms2, ms3, ms4, ms5, ms6, ms7, ms21, hM.1, mc8 hM, ml8 hM, mr8 hM, mc26 hM, ml26 hM, mr26 hM, lm4, lm8, lm10, lm16, lm17, lm26, lm40, lm400, nI_add, nI_1, ix_nI, nI_clamp, gd_T, gd_t, bd_e, bo_e, b2_e, true_and, and_true, ite_bI, mu26 hM, e0]
  cases upB z (4 * r + p) with
  | false => rw [cond_false, Bool.false_and, cond_false]
  | true =>
    rw [cond_true, Bool.true_and]
    by_cases c1 : z.2 26 (4 * r + p) = -1
    · rw [if_pos c1, decide_eq_true c1, Bool.true_or, cond_true]
    · rw [if_neg c1, decide_eq_false c1, Bool.false_or]
      by_cases c2 : 20 ≤ z.1 0 - z.2 26 (4 * r + p)
      · rw [if_pos c2, decide_eq_true c2, cond_true]
      · rw [if_neg c2, decide_eq_false c2, cond_false]
theorem M_qu1 {n : Nat} (hM : MS x G) (hO : MO z) (h1 : r < nR z) (h2 : p < 4) : d_X9_timers_88 (n + 1) x (nI r) (nI p) (em2 x G z w) = d_X9_timers_88 n x (nI r) (nI (p + 1)) (em2 x G (quZ z r p) w) := by
  have hn := hO.1.1
  have e0 : (pu z (z.2 8 (4 * r + p)) 2 (nI r) (-1) (-1) (-1) 0 0 0).2.1 0 = z.1 0 := pu_sc (by decide)
  rw [d_X9_timers_88.eq_2, show (4 : Int32) = nI 4 from rfl, if_neg (nI_ge (by omega) (by decide)), ← show (4 : Int32) = nI 4 from rfl]
  unfold d_X9_timers_146 quZ
  simp (disch := omega) only [M_isUp hM hO h1 h2, M_isAsking hM (show r < 10 by omega) h2 hn.2.1 hn.2.2, M_put hM hO.2.1 (row8 hO (show 4 * r + p < 40 by omega)), e2_hc, e2_hr, e2_hl, ms0, ms1, ms2, ms3, ms4, ms5, ms6, ms7, ms21, hM.1, mc8 hM, ml8 hM, mr8 hM, mc27 hM, ml27 hM, mr27 hM, lm4, lm8, lm10, lm16, lm17, lm26, lm40, lm400, nI_add, nI_1, ix_nI, nI_clamp, gd_T, gd_t, bd_e, bo_e, b2_e, true_and, and_true, ite_bI, mu27 hM, e0]
  cases upB z (4 * r + p) with
  | false => rw [cond_false, Bool.false_and, Bool.false_and, cond_false]
  | true =>
    rw [cond_true, Bool.true_and]
    cases askg z r p with
    | false => rw [cond_false, Bool.false_and, cond_false]
    | true =>
      rw [cond_true, Bool.true_and]
      by_cases c1 : z.2 27 (4 * r + p) = -1
      · rw [if_pos c1, decide_eq_true c1, Bool.true_or, cond_true]
      · rw [if_neg c1, decide_eq_false c1, Bool.false_or]
        by_cases c2 : 25 ≤ z.1 0 - z.2 27 (4 * r + p)
        · rw [if_pos c2, decide_eq_true c2, cond_true]
        · rw [if_neg c2, decide_eq_false c2, cond_false]
theorem M_bd16 {kk : Nat → Int32 → Int32 → Hp → Option Hp} (hM : MS x G) (hO : MO z) (hK : ∀ z, WF z → RK x G z) (h1 : r < nR z) (h3 : g < 8) : ∀ (n s : Nat) (w : Sg), s ≤ 16 → 16 - s < n → Cns (fo (fun z s => bdZ z r g s) z s) w → ∃ w', Cns (bdG z r g) w' ∧ d_X9_timers_191 n x (nI r) (nI g) (nI s) (em2 x G (fo (fun z s => bdZ z r g s) z s) w) kk = kk x (nI r) (nI (g + 1)) (em2 x G (bdG z r g) w') := by
  intro n
  induction n with
  | zero => intro s w _ h; omega
  | succ n ih =>
    intro s w hs hlt hw
    obtain ⟨hOs, ts⟩ := fo_MO (f := fun z s => bdZ z r g s) (N := 16) (z := z) (fun y i hy ty hi => ⟨MO_bd hy, te_bd⟩) hO s hs
    rw [d_X9_timers_191.eq_2, show (16 : Int32) = nI 16 from rfl]
    by_cases hse : s = 16
    · subst hse
      rw [if_pos (nI_le (Nat.le_refl _) (by decide)), nI_1]
      exact ⟨w, hw, rfl⟩
    · rw [if_neg (nI_ge (by omega) (by decide))]
      obtain ⟨w1, hw1, e1⟩ := M_bend (w := w) hM hOs hK hw (by rw [te_nR ts]; exact h1) h3 (show s < 16 by omega)
      rw [e2_hc, gd_t hM.1, e1, bo_e, nI_1]
      exact ih (s + 1) w1 (by omega) (by omega) hw1
theorem M_cm17 {kk : Nat → Int32 → Int32 → Hp → Option Hp} (hM : MS x G) (hO : MO z) (hK : ∀ z, WF z → RK x G z) (h1 : r < nR z) (h3 : g < 8) : ∀ (n s : Nat) (w : Sg), s ≤ 17 → 17 - s < n → Cns (fo (fun z s => cmZ z r g s) z s) w → ∃ w', Cns (cmG z r g) w' ∧ d_X9_timers_226 n x (nI r) (nI g) (nI s) (em2 x G (fo (fun z s => cmZ z r g s) z s) w) kk = kk x (nI r) (nI (g + 1)) (em2 x G (cmG z r g) w') := by
  intro n
  induction n with
  | zero => intro s w _ h; omega
  | succ n ih =>
    intro s w hs hlt hw
    obtain ⟨hOs, ts⟩ := fo_MO (f := fun z s => cmZ z r g s) (N := 17) (z := z) (fun y i hy ty hi => ⟨MO_cm hy (by rw [te_nR ty]; exact h1) h3 hi, te_cm⟩) hO s hs
    rw [d_X9_timers_226.eq_2, show (17 : Int32) = nI 17 from rfl]
    by_cases hse : s = 17
    · subst hse
      rw [if_pos (nI_le (Nat.le_refl _) (by decide)), nI_1]
      exact ⟨w, hw, rfl⟩
    · rw [if_neg (nI_ge (by omega) (by decide))]
      obtain ⟨w1, hw1, e1⟩ := M_climb (w := w) hM hOs hK hw (by rw [te_nR ts]; exact h1) h3 (show s < 17 by omega)
      rw [e2_hc, gd_t hM.1, e1, bo_e, nI_1]
      exact ih (s + 1) w1 (by omega) (by omega) hw1
theorem M_rm16 {kk : Nat → Int32 → Int32 → Hp → Option Hp} (hM : MS x G) (hO : MO z) (hK : ∀ z, WF z → RK x G z) (h1 : r < nR z) (h3 : g < 8) : ∀ (n s : Nat) (w : Sg), s ≤ 16 → 16 - s < n → Cns (fo (fun z s => rmZ z r g s) z s) w → ∃ w', Cns (rmG z r g) w' ∧ d_X9_timers_261 n x (nI r) (nI g) (nI s) (em2 x G (fo (fun z s => rmZ z r g s) z s) w) kk = kk x (nI r) (nI (g + 1)) (em2 x G (rmG z r g) w') := by
  intro n
  induction n with
  | zero => intro s w _ h; omega
  | succ n ih =>
    intro s w hs hlt hw
    obtain ⟨hOs, ts⟩ := fo_MO (f := fun z s => rmZ z r g s) (N := 16) (z := z) (fun y i hy ty hi => ⟨MO_rm hy, te_rm⟩) hO s hs
    rw [d_X9_timers_261.eq_2, show (16 : Int32) = nI 16 from rfl]
    by_cases hse : s = 16
    · subst hse
      rw [if_pos (nI_le (Nat.le_refl _) (by decide)), nI_1]
      exact ⟨w, hw, rfl⟩
    · rw [if_neg (nI_ge (by omega) (by decide))]
      obtain ⟨w1, hw1, e1⟩ := M_remind (w := w) hM hOs hK hw (by rw [te_nR ts]; exact h1) h3 (show s < 16 by omega)
      rw [e2_hc, gd_t hM.1, e1, bo_e, nI_1]
      exact ih (s + 1) w1 (by omega) (by omega) hw1
theorem M_bd8 (hM : MS x G) (hO : MO z) (hK : ∀ z, WF z → RK x G z) (h1 : r < nR z) : ∀ (n g : Nat) (w : Sg), g ≤ 8 → 8 - g < n → Cns (fo (fun z g => bdG z r g) z g) w → ∃ w', Cns (fo (fun z g => bdG z r g) z 8) w' ∧ d_X9_timers_183 n x (nI r) (nI g) (em2 x G (fo (fun z g => bdG z r g) z g) w) = d_X9_timers_218 FU x (nI r) 0 (em2 x G (fo (fun z g => bdG z r g) z 8) w') := by
  intro n
  induction n with
  | zero => intro g w _ h; omega
  | succ n ih =>
    intro g w hg hlt hw
    obtain ⟨hOs, ts⟩ := fo_MO (f := fun z g => bdG z r g) (N := 8) (z := z) (fun y i hy ty hi => bdG_ok hy) hO g hg
    rw [d_X9_timers_183.eq_2, show (8 : Int32) = nI 8 from rfl]
    by_cases hge : g = 8
    · subst hge
      rw [if_pos (nI_le (Nat.le_refl _) (by decide))]
      exact ⟨w, hw, rfl⟩
    · rw [if_neg (nI_ge (by omega) (by decide))]
      obtain ⟨w1, hw1, e1⟩ := M_bd16 (kk := fun y0 y1 y2 Gy => d_X9_timers_183 n y0 y1 y2 Gy) hM hOs hK (by rw [te_nR ts]; exact h1) (show g < 8 by omega) FU 0 w (Nat.zero_le _) (by show _ < 6000; omega) (by rw [fo_0]; exact hw)
      rw [fo_0, nI_0] at e1
      obtain ⟨w2, hw2, e2⟩ := ih (g + 1) w1 (by omega) (by omega) (by rw [fo_s]; exact hw1)
      rw [fo_s] at e2
      refine ⟨w2, hw2, ?_⟩
      rw [← e2]
      exact e1
theorem M_cm8 (hM : MS x G) (hO : MO z) (hK : ∀ z, WF z → RK x G z) (h1 : r < nR z) : ∀ (n g : Nat) (w : Sg), g ≤ 8 → 8 - g < n → Cns (fo (fun z g => cmG z r g) z g) w → ∃ w', Cns (fo (fun z g => cmG z r g) z 8) w' ∧ d_X9_timers_218 n x (nI r) (nI g) (em2 x G (fo (fun z g => cmG z r g) z g) w) = d_X9_timers_253 FU x (nI r) 0 (em2 x G (fo (fun z g => cmG z r g) z 8) w') := by
  intro n
  induction n with
  | zero => intro g w _ h; omega
  | succ n ih =>
    intro g w hg hlt hw
    obtain ⟨hOs, ts⟩ := fo_MO (f := fun z g => cmG z r g) (N := 8) (z := z) (fun y i hy ty hi => cmG_ok hy (by rw [te_nR ty]; exact h1) hi) hO g hg
    rw [d_X9_timers_218.eq_2, show (8 : Int32) = nI 8 from rfl]
    by_cases hge : g = 8
    · subst hge
      rw [if_pos (nI_le (Nat.le_refl _) (by decide))]
      exact ⟨w, hw, rfl⟩
    · rw [if_neg (nI_ge (by omega) (by decide))]
      obtain ⟨w1, hw1, e1⟩ := M_cm17 (kk := fun y0 y1 y2 Gy => d_X9_timers_218 n y0 y1 y2 Gy) hM hOs hK (by rw [te_nR ts]; exact h1) (show g < 8 by omega) FU 0 w (Nat.zero_le _) (by show _ < 6000; omega) (by rw [fo_0]; exact hw)
      rw [fo_0, nI_0] at e1
      obtain ⟨w2, hw2, e2⟩ := ih (g + 1) w1 (by omega) (by omega) (by rw [fo_s]; exact hw1)
      rw [fo_s] at e2
      refine ⟨w2, hw2, ?_⟩
      rw [← e2]
      exact e1
theorem M_rm8 (hM : MS x G) (hO : MO z) (hK : ∀ z, WF z → RK x G z) (h1 : r < nR z) : ∀ (n g : Nat) (w : Sg), g ≤ 8 → 8 - g < n → Cns (fo (fun z g => rmG z r g) z g) w → ∃ w', Cns (fo (fun z g => rmG z r g) z 8) w' ∧ d_X9_timers_253 n x (nI r) (nI g) (em2 x G (fo (fun z g => rmG z r g) z g) w) = some (em2 x G (fo (fun z g => rmG z r g) z 8) w') := by
  intro n
  induction n with
  | zero => intro g w _ h; omega
  | succ n ih =>
    intro g w hg hlt hw
    obtain ⟨hOs, ts⟩ := fo_MO (f := fun z g => rmG z r g) (N := 8) (z := z) (fun y i hy ty hi => rmG_ok hy) hO g hg
    rw [d_X9_timers_253.eq_2, show (8 : Int32) = nI 8 from rfl]
    by_cases hge : g = 8
    · subst hge
      rw [if_pos (nI_le (Nat.le_refl _) (by decide))]
      exact ⟨w, hw, rfl⟩
    · rw [if_neg (nI_ge (by omega) (by decide))]
      obtain ⟨w1, hw1, e1⟩ := M_rm16 (kk := fun y0 y1 y2 Gy => d_X9_timers_253 n y0 y1 y2 Gy) hM hOs hK (by rw [te_nR ts]; exact h1) (show g < 8 by omega) FU 0 w (Nat.zero_le _) (by show _ < 6000; omega) (by rw [fo_0]; exact hw)
      rw [fo_0, nI_0] at e1
      obtain ⟨w2, hw2, e2⟩ := ih (g + 1) w1 (by omega) (by omega) (by rw [fo_s]; exact hw1)
      rw [fo_s] at e2
      refine ⟨w2, hw2, ?_⟩
      rw [← e2]
      exact e1
theorem M_he4 (hM : MS x G) (hO : MO z) (h1 : r < nR z) : ∀ (n p : Nat), p ≤ 4 → 4 - p < n → d_X9_timers_2 n x (nI r) (nI p) (em2 x G (fo (fun z p => heZ z r p) z p) w) = d_X9_timers_88 FU x (nI r) 0 (em2 x G (fo (fun z p => heZ z r p) z 4) w) := by
  intro n
  induction n with
  | zero => intro p _ h; omega
  | succ n ih =>
    intro p hp hlt
    obtain ⟨hOs, ts⟩ := fo_MO (f := fun z p => heZ z r p) (N := 4) (z := z) (fun y i hy _ _ => he_ok hy) hO p hp
    by_cases hpe : p = 4
    · subst hpe
      rw [d_X9_timers_2.eq_2, show (4 : Int32) = nI 4 from rfl, if_pos (nI_le (Nat.le_refl _) (by decide))]
    · rw [M_he1 hM hOs (by rw [te_nR ts]; exact h1) (show p < 4 by omega)]
      exact ih (p + 1) (by omega) (by omega)
theorem M_qu4 (hM : MS x G) (hO : MO z) (h1 : r < nR z) : ∀ (n p : Nat), p ≤ 4 → 4 - p < n → d_X9_timers_88 n x (nI r) (nI p) (em2 x G (fo (fun z p => quZ z r p) z p) w) = d_X9_timers_183 FU x (nI r) 0 (em2 x G (fo (fun z p => quZ z r p) z 4) w) := by
  intro n
  induction n with
  | zero => intro p _ h; omega
  | succ n ih =>
    intro p hp hlt
    obtain ⟨hOs, ts⟩ := fo_MO (f := fun z p => quZ z r p) (N := 4) (z := z) (fun y i hy _ _ => qu_ok hy) hO p hp
    by_cases hpe : p = 4
    · subst hpe
      rw [d_X9_timers_88.eq_2, show (4 : Int32) = nI 4 from rfl, if_pos (nI_le (Nat.le_refl _) (by decide))]
    · rw [M_qu1 hM hOs (by rw [te_nR ts]; exact h1) (show p < 4 by omega)]
      exact ih (p + 1) (by omega) (by omega)
theorem tm_ok (hO : MO z) (h1 : r < nR z) : MO (tmZ z r) ∧ TE (tmZ z r) z := by
  obtain ⟨a1, t1⟩ := fo_MO (f := fun z p => heZ z r p) (N := 4) (fun y i hy _ _ => he_ok hy) hO 4 (Nat.le_refl _)
  obtain ⟨a2, t2⟩ := fo_MO (f := fun z p => quZ z r p) (N := 4) (fun y i hy _ _ => qu_ok hy) a1 4 (Nat.le_refl _)
  obtain ⟨a3, t3⟩ := fo_MO (f := fun z g => bdG z r g) (N := 8) (fun y i hy _ _ => bdG_ok hy) a2 8 (Nat.le_refl _)
  obtain ⟨a4, t4⟩ := fo_MO (f := fun z g => cmG z r g) (N := 8) (fun y i hy ty hi => cmG_ok hy (by rw [te_nR ty, te_nR t3, te_nR t2, te_nR t1]; exact h1) hi) a3 8 (Nat.le_refl _)
  obtain ⟨a5, t5⟩ := fo_MO (f := fun z g => rmG z r g) (N := 8) (fun y i hy _ _ => rmG_ok hy) a4 8 (Nat.le_refl _)
  exact ⟨a5, te_tr t5 (te_tr t4 (te_tr t3 (te_tr t2 t1)))⟩
theorem M_timers (hM : MS x G) (hO : MO z) (hK : ∀ z, WF z → RK x G z) (hw : Cns z w) (h1 : r < nR z) : ∃ w', Cns (tmZ z r) w' ∧ d_X9_timers x (nI r) (em2 x G z w) = some (em2 x G (tmZ z r) w') := by
  obtain ⟨a1, t1⟩ := fo_MO (f := fun z p => heZ z r p) (N := 4) (fun y i hy _ _ => he_ok hy) hO 4 (Nat.le_refl _)
  obtain ⟨a2, t2⟩ := fo_MO (f := fun z p => quZ z r p) (N := 4) (fun y i hy _ _ => qu_ok hy) a1 4 (Nat.le_refl _)
  obtain ⟨a3, t3⟩ := fo_MO (f := fun z g => bdG z r g) (N := 8) (fun y i hy _ _ => bdG_ok hy) a2 8 (Nat.le_refl _)
  have n1 := te_nR t1
  have n2 := te_nR t2
  have n3 := te_nR t3
  obtain ⟨a4, t4⟩ := fo_MO (f := fun z g => cmG z r g) (N := 8) (fun y i hy ty hi => cmG_ok hy (by rw [te_nR ty, n3, n2, n1]; exact h1) hi) a3 8 (Nat.le_refl _)
  have n4 := te_nR t4
  obtain ⟨w3, hw3, e3⟩ := M_bd8 hM a2 hK (by rw [n2, n1]; exact h1) FU 0 w (by decide) (by show _ < 6000; omega) (by rw [fo_0]; exact te_Cns t2 (te_Cns t1 hw))
  obtain ⟨w4, hw4, e4⟩ := M_cm8 hM a3 hK (by rw [n3, n2, n1]; exact h1) FU 0 w3 (by decide) (by show _ < 6000; omega) (by rw [fo_0]; exact hw3)
  obtain ⟨w5, hw5, e5⟩ := M_rm8 hM a4 hK (by rw [n4, n3, n2, n1]; exact h1) FU 0 w4 (by decide) (by show _ < 6000; omega) (by rw [fo_0]; exact hw4)
  have e1 := M_he4 (w := w) hM hO h1 FU 0 (by decide) (by show _ < 6000; omega)
  have e2 := M_qu4 (w := w) hM a1 (by rw [n1]; exact h1) FU 0 (by decide) (by show _ < 6000; omega)
  rw [fo_0, nI_0] at e1 e2 e3 e4 e5
  exact ⟨w5, hw5, e1.trans (e2.trans (e3.trans (e4.trans e5)))⟩
end
