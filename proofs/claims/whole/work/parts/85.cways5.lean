/-! THE CLASS'S WAYS: they are measured anew -/
section
variable {L : Ly} {G : Hp} {n : Nat} {st : Int32} {V : Vt} {Q : Qt} {z : Sg} {r p b t k y w s T m v : Nat}
def md (f : Nat → Int32) (n : Nat) (P : Nat → Int32) : Nat → Int32 := fun k => if k < 26 * n then P k else f k
theorem md_at {f : Nat → Int32} {n i : Nat} {P : Nat → Int32} (h : i < 26 * n) : md f n P i = P i := if_pos h
theorem md_up {f : Nat → Int32} {n i : Nat} {v : Int32} {P : Nat → Int32} (h : i < 26 * n) : va_up (md f n P) i v = md f n (va_up P i v) := by
  funext k
  rw [vu_a]
  unfold md
  by_cases e : k = i
  · rw [if_pos e, if_pos (by omega), vu_a, if_pos e]
  · rw [if_neg e, vu_a, if_neg e]
/-- the three rows of the ways -/
abbrev w3 (V : Vt) (P N : Nat → Int32) : Vt := uR (uR V 3 0 3 P) 3 0 4 N
theorem w3_c {P N : Nat → Int32} {c : Nat} (hc : c ≠ 3) : w3 V P N c = V c := by
  show uR (uR V 3 0 3 P) 3 0 4 N c = V c
  rw [uR_ne hc, uR_ne hc]
theorem w3_j {P N : Nat → Int32} {j : Nat} (h3 : j ≠ 3) (h4 : j ≠ 4) : w3 V P N 3 0 j = V 3 0 j := by
  show uR (uR V 3 0 3 P) 3 0 4 N 3 0 j = V 3 0 j
  rw [uR_nej h4, uR_nej h3]
theorem w3_3 {P N : Nat → Int32} : w3 V P N 3 0 3 = P := by
  show uR (uR V 3 0 3 P) 3 0 4 N 3 0 3 = P
  rw [uR_nej (by decide), uR_s]
theorem w3_4 {P N : Nat → Int32} : w3 V P N 3 0 4 = N := uR_s
theorem uR_commj {α : Type} {V : Nat → Nat → Nat → Nat → α} {c i j j' : Nat} {f f' : Nat → α} (h : j ≠ j') : uR (uR V c i j f) c i j' f' = uR (uR V c i j' f') c i j f := by
  funext a
  by_cases ha : a = c
  · subst ha
    funext b d
    rw [uR_at, uR_at, uR_at, uR_at]
    by_cases e1 : b = i ∧ d = j'
    · rw [if_pos e1, if_neg (fun w => h (w.2.symm.trans e1.2)), if_pos e1]
    · rw [if_neg e1, if_neg e1]
  · rw [uR_ne ha, uR_ne ha, uR_ne ha, uR_ne ha]
theorem w3_p {P N f : Nat → Int32} : uR (w3 V P N) 3 0 3 f = w3 V f N := by
  show uR (uR (uR V 3 0 3 P) 3 0 4 N) 3 0 3 f = _
  rw [uR_commj (by decide), uR_uR]
theorem w3_n {P N f : Nat → Int32} : uR (w3 V P N) 3 0 4 f = w3 V P f := uR_uR
theorem C_ch83 {f3 f4 : Nat → Int32} {k48 : Nat → Nat → Int32 → Int32 → Int32 → Int32 → Hp → Option Hp} {x4 : Int32} (hL : LY L G n Q) (hc : CO z) (hnr : nR z = n) (hn1 : 1 ≤ n) (hn : n ≤ 10) (hd : ∀ k, k < 26 * n → V 3 0 2 k = nI (dF z (k / 26) (k % 26))) (hco : V 3 0 1 (4 * r + p) = nI (cN z r p)) (hr : r < n) (hp : p < 4) (hb : b < n) (hbr : b ≠ r) (heb : eB z r p b = true) : ∀ (N t : Nat), t ≤ 26 → 26 - t < N → d_X6_choosePort_83 N (L.1 2 0 0) (L.1 4 0 0) (nI r) (nI p) x4 (nI b) (nI t) (eK L G (w3 V (md f3 n (fun k => pC z n r p 1 b t k)) (md f4 n (fun k => nC' z n r p b t k))) (RF n L Q)) k48 = k48 (L.1 2 0 0) (L.1 4 0 0) (nI r) (nI p) x4 (nI (b + 1)) (eK L G (w3 V (md f3 n (fun k => pC z n r p 1 (b + 1) 0 k)) (md f4 n (fun k => nC' z n r p (b + 1) 0 k))) (RF n L Q)) := by
  intro N
  induction N with
  | zero => intro t _ h; omega
  | succ N ih =>
    intro t ht hlt
    rw [d_X6_choosePort_83.eq_2, show (26 : Int32) = nI 26 from rfl]
    by_cases hte : t = 26
    · subst hte
      rw [if_pos (nI_le (by omega) (by decide)), nI_1, pC_b.1, (pC_b (s := 1)).2]
    · have ht26 : t < 26 := by omega
      rw [if_neg (nI_ge ht26 (by decide)), show nI 26 = (26 : Int32) from rfl]
      have hi := ih (t + 1) (by omega) (by omega)
      have st := pC_t (s := 1) hc hnr hn hr hp hb ht26
      obtain ⟨c1, c2, c3⟩ := CO_c hc (show r < 10 by omega) hp heb
      have l1 := (dF_le (t := t) hc (by omega) (show b < nR z by omega)).1
      have l2 := (dF_le (t := t) hc (by omega) (show r < nR z by omega)).1
      have db : V 3 0 2 (26 * b + t) = nI (dF z b t) := by
        rw [hd _ (by omega), show (26 * b + t) % 26 = t by omega, show (26 * b + t) / 26 = b by omega]
      have dr : V 3 0 2 (26 * r + t) = nI (dF z r t) := by
        rw [hd _ (by omega), show (26 * r + t) % 26 = t by omega, show (26 * r + t) / 26 = r by omega]
      have efit : (nI (cN z r p + dF z b t) = nI (dF z r t)) ↔ fitP z r t p b = true := by
        rw [nI_eq (by omega) (by omega)]
        unfold fitP
        rw [heb, decide_eq_true hbr, Bool.true_and, Bool.true_and, decide_eq_true_iff]
      simp (disch := first | omega | assumption) only [eK_hc, eK_hl, yK2 hL, iK2 hL, rK2_1 hL, rK2_2 hL, rK2_3 hL, rK2_4 hL, rK2_5 hL, yK3_1 hL, iK3_1 hL, lK3_1 hL, yK3_2 hL, iK3_2 hL, lK3_2 hL, yK3_3 hL, iK3_3 hL, lK3_3 hL, yK3_4 hL, iK3_4 hL, lK3_4 hL, wK3_3 hL, wK3_4 hL, rm4, rm26, lm4, lm8, lm10, lm16, lm17, lm26, lm40, lm400, nI_add, nI_1, ix_nI, nI_clamp, gd_T, gd_t, bd_e, bo_e, b2_e, true_and, and_true, w3_j, w3_3, w3_4, w3_p, w3_n, md_at, md_up, hco, db, dr]
      by_cases h1 : pC z n r p 1 b t (26 * r + t) = -1
      · rw [if_pos h1]
        by_cases h2 : fitP z r t p b = true
        · rw [if_pos ⟨h1, h2⟩] at st
          rw [if_pos (efit.mpr h2)]
          have s1 := congrArg Prod.fst st
          have s2 := congrArg Prod.snd st
          dsimp only at s1 s2
          rw [← s1, ← s2]
          exact hi
        · rw [if_neg (fun w => h2 w.2)] at st
          rw [if_neg (fun w => h2 (efit.mp w))]
          have s1 := congrArg Prod.fst st
          have s2 := congrArg Prod.snd st
          dsimp only at s1 s2
          rw [← s1, ← s2]
          exact hi
      · rw [if_neg (fun w => h1 w.1)] at st
        rw [if_neg h1]
        have s1 := congrArg Prod.fst st
        have s2 := congrArg Prod.snd st
        dsimp only at s1 s2
        rw [← s1, ← s2]
        exact hi
theorem C_ch48 {f3 f4 : Nat → Int32} (hL : LY L G n Q) (hB : WB n V z) (hc : CO z) (hd : ∀ k, k < 26 * n → V 3 0 2 k = nI (dF z (k / 26) (k % 26))) (hr : r < n) (hp : p < 4) (hv : v < 16) (ev : z.2 8 (4 * r + p) = nI v) (hup : z.2 10 v = 0) : ∀ (N b : Nat), b ≤ n → n - b < N → d_X6_choosePort_48 N (L.1 2 0 0) (L.1 4 0 0) (nI r) (nI p) (nI v) (nI b) (eK L G (w3 V (md f3 n (fun k => pC z n r p 1 b 0 k)) (md f4 n (fun k => nC' z n r p b 0 k))) (RF n L Q)) = some (eK L G (w3 V (md f3 n (fun k => pC z n r (p + 1) 0 0 0 k)) (md f4 n (fun k => nC' z n r (p + 1) 0 0 k))) (RF n L Q)) := by
  obtain ⟨⟨hn1, hn, hnr⟩, e20, e5, e6, e3⟩ := hB
  have h8 : z.2 8 (4 * r + p) ≠ -1 := by rw [ev]; exact nI_m1 (by omega)
  intro N
  induction N with
  | zero => intro b _ h; omega
  | succ N ih =>
    intro b hb hlt
    rw [d_X6_choosePort_48.eq_2, eK_hc, gd_t (yK2 hL), iK2 hL, w3_c (show 2 ≠ 3 by decide), e20]
    by_cases he : b = n
    · subst he
      rw [if_pos (nI_le (by omega) (by omega)), pC_p.1, pC_p.2]
    · have hbn : b < n := by omega
      rw [if_neg (nI_ge hbn (by omega))]
      have skip : (∀ T, fitP z r T p b = false) → d_X6_choosePort_48 N (L.1 2 0 0) (L.1 4 0 0) (nI r) (nI p) (nI v) (nI (b + 1)) (eK L G (w3 V (md f3 n (fun k => pC z n r p 1 b 0 k)) (md f4 n (fun k => nC' z n r p b 0 k))) (RF n L Q)) = some (eK L G (w3 V (md f3 n (fun k => pC z n r (p + 1) 0 0 0 k)) (md f4 n (fun k => nC' z n r (p + 1) 0 0 k))) (RF n L Q)) := by
        intro h
        rw [(pC_no (s := 1) hc hnr hn hr hp hbn h).1, (pC_no (s := 1) hc hnr hn hr hp hbn h).2]
        exact ih (b + 1) (by omega) (by omega)
      by_cases hbr : b = r
      · rw [if_pos (by rw [hbr]), nI_1]
        refine skip (fun T => ?_)
        unfold fitP
        rw [decide_eq_false (not_not_intro hbr), Bool.and_false, Bool.false_and]
      · rw [if_neg (fun w => hbr ((nI_eq (by omega) (by omega)).mp w))]
        simp (disch := first | omega | assumption) only [eK_hc, eK_hl, yK4_0 hL, iK4_0 hL, lK4_0 hL, rK4_0 hL, yK5 hL, iK5 hL, rK5_1 hL, rK5_3 hL, rK5_4 hL, yK6 hL, iK6 hL, lK6 hL, lm4, lm8, lm10, lm16, lm17, lm26, lm40, lm400, nI_add, nI_1, ix_nI, nI_clamp, gd_T, gd_t, bd_e, bo_e, b2_e, true_and, and_true, w3_c, e6 v b hv hbn]
        have eeb : eB z r p b = decide (pOn z b (nI v) ≠ -1) := by
          unfold eB
          rw [decide_eq_true (show upP z (4 * r + p) from ⟨h8, by rw [ev, nI_clamp (by omega)]; exact hup⟩), Bool.true_and, ev]
        by_cases hpo : pOn z b (nI v) = -1
        · rw [if_pos hpo]
          refine skip (fun T => ?_)
          unfold fitP
          rw [eeb, decide_eq_false (not_not_intro hpo), Bool.false_and, Bool.false_and]
        · rw [if_neg hpo]
          have heb : eB z r p b = true := by rw [eeb, decide_eq_true hpo]
          obtain ⟨c1, c2, c3⟩ := CO_c hc (show r < 10 by omega) hp heb
          have hco : V 3 0 1 (4 * r + p) = nI (cN z r p) := by rw [(e3 (4 * r + p) (by omega)).2 h8]; exact c3
          have e83 := C_ch83 (f3 := f3) (f4 := f4) (x4 := nI v) (k48 := fun y0 y1 y2 y3 y4 y5 Gy => d_X6_choosePort_48 N y0 y1 y2 y3 y4 y5 Gy) hL hc hnr hn1 hn hd hco hr hp hbn hbr heb FU 0 (by omega) (by show _ < 6000; omega)
          rw [nI_0] at e83
          rw [e83]
          exact ih (b + 1) (by omega) (by omega)
theorem C_choosePort {f3 f4 : Nat → Int32} (hL : LY L G n Q) (hB : WB n V z) (hF : WF z) (hc : CO z) (hd : ∀ k, k < 26 * n → V 3 0 2 k = nI (dF z (k / 26) (k % 26))) (hdw : ∀ p p', p < 4 → p' < 4 → z.2 8 (4 * r + p) ≠ -1 → z.2 8 (4 * r + p) = z.2 8 (4 * r + p') → p = p') (hr : r < n) (hp : p < 4) : d_X6_choosePort (L.1 2 0 0) (L.1 4 0 0) (nI r) (nI p) (eK L G (w3 V (md f3 n (fun k => pC z n r p 0 0 0 k)) (md f4 n (fun k => nC' z n r p 0 0 k))) (RF n L Q)) = some (eK L G (w3 V (md f3 n (fun k => pC z n r (p + 1) 0 0 0 k)) (md f4 n (fun k => nC' z n r (p + 1) 0 0 k))) (RF n L Q)) := by
  have hB' := hB
  obtain ⟨⟨hn1, hn, hnr⟩, e20, e5, e6, e3⟩ := hB
  unfold d_X6_choosePort
  simp (disch := first | omega | assumption) only [eK_hc, eK_hl, yK2 hL, iK2 hL, rK2_1 hL, rK2_2 hL, rK2_3 hL, rK2_4 hL, rK2_5 hL, yK3_0 hL, iK3_0 hL, lK3_0 hL, rm4, lm4, lm8, lm10, lm16, lm17, lm26, lm40, lm400, nI_add, nI_1, ix_nI, nI_clamp, gd_T, gd_t, bd_e, bo_e, b2_e, true_and, and_true, w3_j, (e3 (4 * r + p) (by omega)).1]
  have down : ¬ upP z (4 * r + p) → some (eK L G (w3 V (md f3 n (fun k => pC z n r p 0 0 0 k)) (md f4 n (fun k => nC' z n r p 0 0 k))) (RF n L Q)) = some (eK L G (w3 V (md f3 n (fun k => pC z n r (p + 1) 0 0 0 k)) (md f4 n (fun k => nC' z n r (p + 1) 0 0 k))) (RF n L Q)) := by
    intro h
    rw [(pC_down hnr hp hF (by omega) h).1, (pC_down hnr hp hF (by omega) h).2]
  by_cases h8 : z.2 8 (4 * r + p) = -1
  · rw [if_pos h8]
    exact down (fun w => w.1 h8)
  · obtain ⟨v, hv, ev⟩ := (hF.2.2.2.2.2 (4 * r + p) (by omega)).resolve_left h8
    rw [if_neg h8, ev]
    simp (disch := first | omega | assumption) only [eK_hc, eK_hl, yK4_0 hL, iK4_0 hL, lK4_0 hL, rK4_0 hL, yK5 hL, iK5 hL, rK5_1 hL, rK5_3 hL, rK5_4 hL, lm4, lm8, lm10, lm16, lm17, lm26, lm40, lm400, nI_add, nI_1, ix_nI, nI_clamp, gd_T, gd_t, bd_e, bo_e, b2_e, true_and, and_true, w3_c, e5 v hv, ite_bI]
    by_cases hup : z.2 10 v = 0
    · rw [decide_eq_true hup, cond_true]
      simp (disch := first | omega | assumption) only [eK_hc, eK_hl, yK3_3 hL, iK3_3 hL, lK3_3 hL, wK3_3 hL, rm26, a10, lm4, lm8, lm10, lm16, lm17, lm26, lm40, lm400, nI_add, nI_1, ix_nI, nI_clamp, gd_T, gd_t, bd_e, bo_e, b2_e, true_and, and_true, w3_3, w3_p, md_up]
      rw [pC_own hp hv hup ev (fun p' hp' e => (hdw p p' hp hp' h8 (ev.trans e.symm)).symm)]
      have e48 := C_ch48 (f3 := f3) (f4 := f4) hL hB' hc hd hr hp hv ev hup FU 0 (by omega) (by show _ < 6000; omega)
      rw [nI_0] at e48
      exact e48
    · rw [decide_eq_false hup, cond_false]
      exact down (fun w => hup (by have := w.2; rw [ev, nI_clamp (by omega)] at this; exact this))
theorem C_rf65 {f3 f4 : Nat → Int32} {k55 : Nat → Nat → Int32 → Hp → Option Hp} (hL : LY L G n Q) (hB : WB n V z) (hF : WF z) (hc : CO z) (hd : ∀ k, k < 26 * n → V 3 0 2 k = nI (dF z (k / 26) (k % 26))) (hdw : ∀ p p', p < 4 → p' < 4 → z.2 8 (4 * r + p) ≠ -1 → z.2 8 (4 * r + p) = z.2 8 (4 * r + p') → p = p') (hr : r < n) : ∀ (N p : Nat), p ≤ 4 → 4 - p < N → d_X6_refresh_65 N (L.1 2 0 0) (L.1 4 0 0) (nI r) (nI p) (eK L G (w3 V (md f3 n (fun k => pC z n r p 0 0 0 k)) (md f4 n (fun k => nC' z n r p 0 0 k))) (RF n L Q)) k55 = k55 (L.1 2 0 0) (L.1 4 0 0) (nI (r + 1)) (eK L G (w3 V (md f3 n (fun k => pC z n (r + 1) 0 0 0 0 k)) (md f4 n (fun k => nC' z n (r + 1) 0 0 0 k))) (RF n L Q)) := by
  intro N
  induction N with
  | zero => intro p _ h; omega
  | succ N ih =>
    intro p hp hlt
    rw [d_X6_refresh_65.eq_2, show (4 : Int32) = nI 4 from rfl]
    by_cases he : p = 4
    · subst he
      rw [if_pos (nI_le (by omega) (by decide)), nI_1, (pC_r hB.1.2.2).1, (pC_r hB.1.2.2).2]
    · have hp4 : p < 4 := by omega
      rw [if_neg (nI_ge hp4 (by decide)), eK_hc, gd_t (yK2 hL), C_choosePort hL hB hF hc hd hdw hr hp4, bo_e, nI_1]
      exact ih (p + 1) (by omega) (by omega)
theorem C_rf55 {f3 f4 : Nat → Int32} (hL : LY L G n Q) (hB : WB n V z) (hF : WF z) (hc : CO z) (hd : ∀ k, k < 26 * n → V 3 0 2 k = nI (dF z (k / 26) (k % 26))) (hdw : ∀ r p p', r < 10 → p < 4 → p' < 4 → z.2 8 (4 * r + p) ≠ -1 → z.2 8 (4 * r + p) = z.2 8 (4 * r + p') → p = p') : ∀ (N r : Nat), r ≤ n → n - r < N → d_X6_refresh_55 N (L.1 2 0 0) (L.1 4 0 0) (nI r) (eK L G (w3 V (md f3 n (fun k => pC z n r 0 0 0 0 k)) (md f4 n (fun k => nC' z n r 0 0 0 k))) (RF n L Q)) = some (eK L G (w3 V (md f3 n (fun k => pC z n n 0 0 0 0 k)) (md f4 n (fun k => nC' z n n 0 0 0 k))) (RF n L Q)) := by
  have hB' := hB
  obtain ⟨⟨hn1, hn, hnr⟩, e20, e5, e6, e3⟩ := hB
  intro N
  induction N with
  | zero => intro r _ h; omega
  | succ N ih =>
    intro r hr hlt
    rw [d_X6_refresh_55.eq_2, eK_hc, gd_t (yK2 hL), iK2 hL, w3_c (show 2 ≠ 3 by decide), e20]
    by_cases he : r = n
    · subst he
      rw [if_pos (nI_le (by omega) (by omega))]
    · have hrn : r < n := by omega
      have e65 := C_rf65 (f3 := f3) (f4 := f4) (k55 := fun y0 y1 y2 Gy => d_X6_refresh_55 N y0 y1 y2 Gy) hL hB' hF hc hd (fun p p' => hdw r p p' (by omega)) hrn FU 0 (by omega) (by show _ < 6000; omega)
      rw [nI_0] at e65
      rw [if_neg (nI_ge hrn (by omega)), e65]
      exact ih (r + 1) (by omega) (by omega)
/-! a row is filled -/
def flF (f : Nat → Int32) (v : Int32) (k : Nat) : Nat → Int32 := fun i => if i < k then v else f i
theorem fl_s {f : Nat → Int32} {v : Int32} {k : Nat} : va_up (flF f v k) k v = flF f v (k + 1) := by
  funext i
  rw [vu_a]
  unfold flF
  by_cases h : i = k
  · rw [if_pos h, if_pos (by omega)]
  · rw [if_neg h]
    by_cases h2 : i < k
    · rw [if_pos h2, if_pos (by omega)]
    · rw [if_neg h2, if_neg (by omega)]
theorem fl_0 {f : Nat → Int32} {v : Int32} : flF f v 0 = f := by
  funext i
  unfold flF
  rw [if_neg (by omega)]
theorem C_fill {R : Rt} {c i j len : Nat} {v : Int32} (hS : LSK L) (hlv : lvK L c i j) (hcc : hc G (L.1 c i j) = 11) (hlen : hl G (L.1 c i j) = len) (h6 : len < 5000) : d_J7_fill_53178 (L.1 c i j) v (eK L G V R) = some (eK L G (uR V c i j (flF (V c i j) v len)) R) := by
  have gen : ∀ (N k : Nat), k ≤ len → len - k < N → d_J7_fill_53178_5 N (L.1 c i j) v (nI k) (nI len) (eK L G (uR V c i j (flF (V c i j) v k)) R) = some (eK L G (uR V c i j (flF (V c i j) v len)) R) := by
    intro N
    induction N with
    | zero => intro k _ h; omega
    | succ N ih =>
      intro k hk hlt
      rw [d_J7_fill_53178_5.eq_2]
      by_cases he : k = len
      · subst he
        rw [if_pos (nI_le (by omega) (by omega))]
      · rw [if_neg (nI_ge (show k < len by omega) (by omega)), eK_hc, eK_hl, hlen, gd_t ⟨hcc, (ix_nI (by omega)).mpr (by omega)⟩, eK_sI hS hlv, nI_clamp (by omega), uR_s, uR_uR, bd_e, fl_s, nI_1]
        exact ih (k + 1) (by omega) (by omega)
  have e := gen FU 0 (by omega) (by show _ < 6000; omega)
  rw [nI_0, fl_0, uR_self] at e
  unfold d_J7_fill_53178
  rw [eK_hc, gd_t hcc, eK_hl, hlen]
  exact e
end
