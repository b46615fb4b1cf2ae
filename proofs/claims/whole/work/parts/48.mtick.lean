section
variable {x : Nat} {G : Hp} {z w : Sg} {r p q g s y k f h v : Nat} {a : Nat → Int32}
theorem M_dlH (hM : MS x G) (hI : IV z) (hf : f + 7 < 5120) (hae : ∀ j, a j = z.2 20 (f + j)) (ha : fok (nR z) a) : ∀ (n h : Nat), h ≤ 16 → 16 - h < n → d_X9_deliver_52 n x (nI v) (nI f) (nI h) (em2 x G (fo (fun z h => dh1 a v z h) z h) w) = some (em2 x G (fo (fun z h => dh1 a v z h) z 16) w) := by
  intro n
  induction n with
  | zero => intro h _ h; omega
  | succ n ih =>
    intro h hh hlt
    obtain ⟨hOs, ts⟩ := dlH_ok (a := a) (v := v) hI h hh
    rw [d_X9_deliver_52.eq_2, show (16 : Int32) = nI 16 from rfl]
    by_cases hhe : h = 16
    · subst hhe
      rw [if_pos (nI_le (Nat.le_refl _) (by decide))]
    · rw [if_neg (nI_ge (by omega) (by decide))]
      have e2 := ih (h + 1) (by omega) (by omega)
      rw [← e2, fo_s]
      generalize fo (fun z h => dh1 a v z h) z h = y at hOs ts ⊢
      have hae2 : ∀ j, a j = y.2 20 (f + j) := fun j => by rw [ts.2.2.2.2.2]; exact hae j
      unfold dh1
      simp (disch := omega) only [e2_hc, e2_hr, e2_hl, ms0, ms1, ms2, ms3, ms4, ms5, ms6, ms7, ms21, hM.1, mc11 hM, ml11 hM, mr11 hM, mc20 hM, ml20 hM, mr20 hM, lm4, lm8, lm10, lm16, lm17, lm26, lm40, lm400, nI_add, nI_1, ix_nI, nI_clamp, gd_T, gd_t, bd_e, bo_e, b2_e, true_and, and_true, M_comesToHost hM (show h < 16 by omega) hf hae2 ha]
      by_cases c1 : y.2 11 h = nI v
      · rw [if_pos c1, ← hae2 1]
        by_cases c2 : a 1 = 100 + nI h
        · rw [if_pos c2, decide_eq_false (fun q => q.2 c2), cond_false]
        · rw [if_neg c2, decide_eq_true ⟨c1, c2⟩, cond_true]
      · rw [if_neg c1, decide_eq_false (fun q => c1 q.1), cond_false]
theorem M_dlR (hM : MS x G) (hI : IV z) (hK : ∀ z, WF z → RK x G z) (hf : f + 7 < 5120) (hae : ∀ j, a j = z.2 20 (f + j)) (ha : fok (nR z) a) : ∀ (n r : Nat) (w : Sg), r ≤ nR z → nR z - r < n → Cns (fo (fun z r => dl1 a v z r) z r) w → ∃ w', Cns (fo (fun z r => dl1 a v z r) z (nR z)) w' ∧ d_X9_deliver_2 n x (nI v) (nI f) (nI r) (em2 x G (fo (fun z r => dl1 a v z r) z r) w) = d_X9_deliver_52 FU x (nI v) (nI f) 0 (em2 x G (fo (fun z r => dl1 a v z r) z (nR z)) w') := by
  have hn := hI.1.1.1
  intro n
  induction n with
  | zero => intro r w _ h; omega
  | succ n ih =>
    intro r w hr hlt hw
    obtain ⟨hOs, ts⟩ := dlR_ok (v := v) hI ha r hr
    rw [d_X9_deliver_2.eq_2, e2_hc, gd_t hM.1, ms1, ts.1.1, hn.2.2]
    by_cases hre : r = nR z
    · subst hre
      rw [if_pos (nI_le (Nat.le_refl _) (by omega))]
      exact ⟨w, hw, rfl⟩
    · rw [if_neg (nI_ge (by omega) (by omega)), M_portOn hM (by omega), bo_e]
      have e2 := ih (r + 1)
      rw [fo_s] at e2
      generalize fo (fun z r => dl1 a v z r) z r = y at hOs ts hw e2 ⊢
      have hae2 : ∀ j, a j = y.2 20 (f + j) := fun j => by rw [ts.2.2.2.2.2]; exact hae j
      have ny := te_nR ts
      rw [nI_1]
      unfold dl1 at e2 ⊢
      rcases pOn_ok y r (nI v) with e | ⟨p, hp, e⟩
      · rw [if_pos e]
        rw [e, decide_eq_false (fun q => q.1 rfl), cond_false] at e2
        exact e2 w (by omega) (by omega) hw
      · have e' : ¬ pOn y r (nI v) = -1 := by rw [e]; exact nI_m1 (by omega)
        rw [if_neg e']
        simp (disch := omega) only [e2_hc, e2_hr, e2_hl, ms0, ms1, ms2, ms3, ms4, ms5, ms6, ms7, ms21, hM.1, mc20 hM, ml20 hM, mr20 hM, lm4, lm8, lm10, lm16, lm17, lm26, lm40, lm400, nI_add, nI_1, ix_nI, nI_clamp, gd_T, gd_t, bd_e, bo_e, b2_e, true_and, and_true]
        rw [← hae2 1]
        by_cases c2 : a 1 = nI r
        · rw [if_pos c2]
          rw [decide_eq_false (fun q => q.2 c2), cond_false] at e2
          exact e2 w (by omega) (by omega) hw
        · rw [if_neg c2]
          rw [decide_eq_true ⟨e', c2⟩, cond_true, e, nI_clamp (by omega)] at e2
          obtain ⟨w1, hw1, e1⟩ := M_comes hM hOs.1 hK hw (show r < nR y by omega) hp hf hae2 (by rw [ny]; exact ha)
          rw [e, e1, bo_e]
          exact e2 w1 (by omega) (by omega) hw1
theorem M_deliver (hM : MS x G) (hI : IV z) (hK : ∀ z, WF z → RK x G z) (hw : Cns z w) (hf : f + 7 < 5120) (hae : ∀ j, a j = z.2 20 (f + j)) (ha : fok (nR z) a) : ∃ w', Cns (dlZ z v a) w' ∧ d_X9_deliver x (nI v) (nI f) (em2 x G z w) = some (em2 x G (dlZ z v a) w') := by
  have hn := hI.1.1.1
  obtain ⟨b1, b2⟩ := dlR_ok (v := v) hI ha (nR z) (Nat.le_refl _)
  obtain ⟨w1, hw1, e1⟩ := M_dlR (v := v) hM hI hK hf hae ha FU 0 w (Nat.zero_le _) (by show _ < 6000; omega) (by rw [fo_0]; exact hw)
  have e2 := M_dlH (a := a) (v := v) (w := w1) hM b1 hf (fun j => by rw [b2.2.2.2.2.2]; exact hae j) (by rw [te_nR b2]; exact ha) FU 0 (by decide) (by show _ < 6000; omega)
  rw [fo_0, nI_0] at e1 e2
  refine ⟨w1, te_Cns (dlH_ok b1 16 (Nat.le_refl _)).2 hw1, ?_⟩
  unfold d_X9_deliver dlZ
  exact e1.trans e2
theorem M_dw {kk : Nat → Int32 → Hp → Option Hp} (hM : MS x G) (hI : IV z) (hN : FN z) (hK : ∀ z, WF z → RK x G z) (hv : v < 16) : ∀ (n i : Nat) (w : Sg), i ≤ nN z v → nN z v - i < n → Cns (fo (fun z i => dlZ z v (fA z v i)) z i) w → ∃ w', Cns (dwZ v z) w' ∧ d_X9_one_87 n x (nI v) (nI i) (em2 x G (fo (fun z i => dlZ z v (fA z v i)) z i) w) kk = kk x (nI (v + 1)) (em2 x G (dwZ v z) w') := by
  have hn := hI.1.1.1
  obtain ⟨⟨hm, hme⟩, hfo⟩ := hN v hv
  intro n
  induction n with
  | zero => intro i w _ h; omega
  | succ n ih =>
    intro i w hi hlt hw
    obtain ⟨hOs, ts⟩ := dw_ok hI hN hv i hi
    rw [d_X9_one_87.eq_2]
    have e2 := ih (i + 1)
    rw [fo_s] at e2
    by_cases hie : i = nN z v
    · subst hie
      simp (disch := omega) only [e2_hc, e2_hr, e2_hl, ms0, ms1, ms2, ms3, ms4, ms5, ms6, ms7, ms21, hM.1, mc19 hM, ml19 hM, mr19 hM, lm4, lm8, lm10, lm16, lm17, lm26, lm40, lm400, nI_add, nI_1, ix_nI, nI_clamp, gd_T, gd_t, bd_e, bo_e, b2_e, true_and, and_true]
      rw [ts.2.2.2.2.1, hme, if_pos (nI_le (Nat.le_refl _) (by omega))]
      exact ⟨w, hw, rfl⟩
    · generalize fo (fun z i => dlZ z v (fA z v i)) z i = y at hOs ts hw e2 ⊢
      simp (disch := omega) only [e2_hc, e2_hr, e2_hl, ms0, ms1, ms2, ms3, ms4, ms5, ms6, ms7, ms21, hM.1, mc19 hM, ml19 hM, mr19 hM, lm4, lm8, lm10, lm16, lm17, lm26, lm40, lm400, nI_add, nI_1, ix_nI, nI_clamp, gd_T, gd_t, bd_e, bo_e, b2_e, true_and, and_true]
      rw [ts.2.2.2.2.1, hme, if_neg (nI_ge (by omega) (by omega))]
      obtain ⟨w1, hw1, e1⟩ := M_deliver (v := v) (f := 8 * (40 * v + i)) (a := fA y v i) hM hOs hK hw (by omega) (fun j => rfl) (by rw [te_nR ts, te_fA ts]; exact hfo i (by omega))
      rw [e1, bo_e]
      exact e2 w1 (by omega) (by omega) hw1
theorem M_ds (hM : MS x G) (hI : IV z) (hN : FN z) (hK : ∀ z, WF z → RK x G z) : ∀ (n v : Nat) (w : Sg), v ≤ 16 → 16 - v < n → Cns (fo (fun z v => dwZ v z) z v) w → ∃ w', Cns (dsZ z) w' ∧ d_X9_one_79 n x (nI v) (em2 x G (fo (fun z v => dwZ v z) z v) w) = d_X9_one_125 FU x 0 (em2 x G (dsZ z) w') := by
  intro n
  induction n with
  | zero => intro v w _ h; omega
  | succ n ih =>
    intro v w hv hlt hw
    obtain ⟨hOs, ts⟩ := ds_ok hI hN v hv
    rw [d_X9_one_79.eq_2, show (16 : Int32) = nI 16 from rfl]
    by_cases hve : v = 16
    · subst hve
      rw [if_pos (nI_le (Nat.le_refl _) (by decide))]
      exact ⟨w, hw, rfl⟩
    · rw [if_neg (nI_ge (by omega) (by decide))]
      have hn2 := te_FN ts hN
      have hm := (hn2 v (by omega)).1.1
      obtain ⟨w1, hw1, e1⟩ := M_dw (kk := fun y0 y1 Gy => d_X9_one_79 n y0 y1 Gy) hM hOs hn2 hK (show v < 16 by omega) FU 0 w (Nat.zero_le _) (by show _ < 6000; omega) (by rw [fo_0]; exact hw)
      rw [fo_0, nI_0] at e1
      obtain ⟨w2, hw2, e2⟩ := ih (v + 1) w1 (by omega) (by omega) (by rw [fo_s]; exact hw1)
      rw [fo_s] at e2
      refine ⟨w2, hw2, ?_⟩
      rw [← e2]
      exact e1
theorem M_tms (hM : MS x G) (hI : IV z) (hK : ∀ z, WF z → RK x G z) : ∀ (n r : Nat) (w : Sg), r ≤ nR z → nR z - r < n → Cns (fo (fun z r => tmZ z r) z r) w → ∃ w', Cns (fo (fun z r => tmZ z r) z (nR z)) w' ∧ d_X9_one_125 n x (nI r) (em2 x G (fo (fun z r => tmZ z r) z r) w) = d_X9_one_146 FU x 0 (em2 x G (fo (fun z r => tmZ z r) z (nR z)) w') := by
  have hn := hI.1.1.1
  intro n
  induction n with
  | zero => intro r w _ h; omega
  | succ n ih =>
    intro r w hr hlt hw
    obtain ⟨hOs, ts⟩ := tms_ok hI r hr
    rw [d_X9_one_125.eq_2, e2_hc, gd_t hM.1, ms1, ts.1.1, hn.2.2]
    by_cases hre : r = nR z
    · subst hre
      rw [if_pos (nI_le (Nat.le_refl _) (by omega))]
      exact ⟨w, hw, rfl⟩
    · rw [if_neg (nI_ge (by omega) (by omega))]
      obtain ⟨w1, hw1, e1⟩ := M_timers hM hOs.1 hK hw (show r < nR (fo (fun z r => tmZ z r) z r) by rw [te_nR ts]; omega)
      have e2 := ih (r + 1) w1 (by omega) (by omega)
      rw [fo_s] at e2
      rw [e1, bo_e, nI_1]
      exact e2 hw1
theorem M_ans (hM : MS x G) (hI : IV z) : ∀ (n h : Nat), h ≤ 16 → 16 - h < n → d_X9_one_146 n x (nI h) (em2 x G (fo (fun z h => anZ z h) z h) w) = some (em2 x G (fo (fun z h => anZ z h) z 16) w) := by
  intro n
  induction n with
  | zero => intro h _ h; omega
  | succ n ih =>
    intro h hh hlt
    obtain ⟨hOs, ts⟩ := ans_ok hI h hh
    rw [d_X9_one_146.eq_2, show (16 : Int32) = nI 16 from rfl]
    by_cases hhe : h = 16
    · subst hhe
      rw [if_pos (nI_le (Nat.le_refl _) (by decide))]
    · rw [if_neg (nI_ge (by omega) (by decide)), e2_hc, gd_t hM.1, M_answers hM hOs (by omega), bo_e, nI_1]
      have e2 := ih (h + 1) (by omega) (by omega)
      rw [fo_s] at e2
      exact e2
theorem M_mv (hM : MS x G) : ∀ (n v : Nat), v ≤ 16 → 16 - v < n → d_X9_one_39 n x (nI v) (em2 x G (mvZ z v) w) = d_X9_one_79 FU x 0 (em2 x G (mvZ z 16) w) := by
  intro n
  induction n with
  | zero => intro v _ h; omega
  | succ n ih =>
    intro v hv hlt
    rw [d_X9_one_39.eq_2, show (16 : Int32) = nI 16 from rfl]
    by_cases hve : v = 16
    · subst hve
      rw [if_pos (nI_le (Nat.le_refl _) (by decide))]
    · rw [if_neg (nI_ge (by omega) (by decide))]
      simp (disch := omega) only [e2_hc, e2_hr, e2_hl, ms0, ms1, ms2, ms3, ms4, ms5, ms6, ms7, ms21, hM.1, mc16 hM, ml16 hM, mr16 hM, mc17 hM, ml17 hM, mr17 hM, mc19 hM, ml19 hM, mr19 hM, lm4, lm8, lm10, lm16, lm17, lm26, lm40, lm400, nI_add, nI_1, ix_nI, nI_clamp, gd_T, gd_t, bd_e, bo_e, b2_e, true_and, and_true, mu16 hM, mu17 hM, mu19 hM]
      rw [mv_s]
      exact ih (v + 1) (by omega) (by omega)
theorem M_cp (hM : MS x G) : ∀ (n k : Nat), k ≤ 5120 → 5120 - k < n → d_X9_one_12 n x (nI k) (em2 x G (cpZ z k) w) = d_X9_one_39 FU x 0 (em2 x G (cpZ z 5120) w) := by
  intro n
  induction n with
  | zero => intro v _ h; omega
  | succ n ih =>
    intro k hk hlt
    rw [d_X9_one_12.eq_2, show (5120 : Int32) = nI 5120 from rfl]
    by_cases hke : k = 5120
    · subst hke
      rw [if_pos (nI_le (Nat.le_refl _) (by decide))]
    · rw [if_neg (nI_ge (by omega) (by decide))]
      simp (disch := omega) only [e2_hc, e2_hr, e2_hl, ms0, ms1, ms2, ms3, ms4, ms5, ms6, ms7, ms21, hM.1, mc18 hM, ml18 hM, mr18 hM, mc20 hM, ml20 hM, mr20 hM, lm4, lm8, lm10, lm16, lm17, lm26, lm40, lm400, nI_add, nI_1, ix_nI, nI_clamp, gd_T, gd_t, bd_e, bo_e, b2_e, true_and, and_true, mu20 hM]
      rw [cp_s]
      exact ih (k + 1) (by omega) (by omega)
theorem M_one {t : Nat} (hM : MS x G) (hI : IV z) (hK : ∀ z, WF z → RK x G z) (hw : Cns z w) (ht : t < 6000) (et : z.1 0 = nI t) : ∃ w', Cns (oneZ z) w' ∧ d_X9_one x (em2 x G z w) = some (em2 x G (oneZ z) w') := by
  have hn := hI.1.1.1
  obtain ⟨a1, a2⟩ := be_ok hI ht et
  obtain ⟨b1, b2⟩ := ds_ok a1 a2 16 (Nat.le_refl _)
  have n1 : nR (beZ z) = nR z := t0_nR t0_be
  have n2 : nR (dsZ (beZ z)) = nR z := (te_nR b2).trans n1
  obtain ⟨c1, c2⟩ := tms_ok b1 (nR z) (by rw [show nR (fo (fun z v => dwZ v z) (beZ z) 16) = nR z from n2]; exact Nat.le_refl _)
  have e1 := M_cp (z := uS z 0 (z.1 0 + 1)) (w := w) hM FU 0 (Nat.zero_le _) (by show _ < 6000; omega)
  have e2 := M_mv (z := cpZ (uS z 0 (z.1 0 + 1)) 5120) (w := w) hM FU 0 (Nat.zero_le _) (by show _ < 6000; omega)
  obtain ⟨w3, hw3, e3⟩ := M_ds hM a1 a2 hK FU 0 w (Nat.zero_le _) (by show _ < 6000; omega) (by rw [fo_0]; exact t0_Cns t0_be hw)
  obtain ⟨w4, hw4, e4⟩ := M_tms hM (z := dsZ (beZ z)) b1 hK FU 0 w3 (Nat.zero_le _) (by rw [n2]; show _ < 6000; omega) (by rw [fo_0]; exact hw3)
  rw [n2] at hw4 e4
  have e5 := M_ans (w := w4) hM c1 FU 0 (Nat.zero_le _) (by show _ < 6000; omega)
  rw [cp_0, nI_0] at e1
  rw [mv_0, nI_0] at e2
  rw [fo_0, nI_0] at e3 e4 e5
  refine ⟨w4, te_Cns (ans_ok c1 16 (Nat.le_refl _)).2 hw4, ?_⟩
  unfold d_X9_one
  rw [e2_hc, gd_t hM.1, bd_e, ms0, mw0]
  exact e1.trans (e2.trans (e3.trans (e4.trans e5)))
end
/-- n ticks -/
def onesZ (z : Sg) (n : Nat) : Sg := fo (fun z _ => oneZ z) z n
def tkZ (z : Sg) (n : Int32) : Int32 × Sg := if n < 1 ∨ 50 < n ∨ ¬ z.1 0 + n ≤ 6000 then (-1, z) else (z.1 0 + n, onesZ z n.toNatClampNeg)
theorem ones_ok {z : Sg} {t : Nat} (hI : IV z) (et : z.1 0 = nI t) : ∀ n, t + n ≤ 6000 → IV (onesZ z n) ∧ T0 (onesZ z n) z ∧ (onesZ z n).1 0 = nI (t + n) := by
  intro n
  induction n with
  | zero => intro _; exact ⟨hI, t0_rf, et⟩
  | succ n ih =>
    intro h
    obtain ⟨a, b, c⟩ := ih (by omega)
    obtain ⟨d, e⟩ := one_ok a (by omega) c
    refine ⟨d, t0_tr e.1 (t0_tr t0_be b), ?_⟩
    show (oneZ (onesZ z n)).1 0 = _
    rw [e.2.1, be_0, c]
    exact nI_1 _
section
variable {x : Nat} {G : Hp} {z w : Sg}
theorem M_ones {t N : Nat} (hM : MS x G) (hI : IV z) (hK : ∀ z, WF z → RK x G z) (et : z.1 0 = nI t) (hN : t + N ≤ 6000) (hN2 : N ≤ 50) : ∀ (n k : Nat) (w : Sg), k ≤ N → N - k < n → Cns (onesZ z k) w → ∃ w', Cns (onesZ z N) w' ∧ d_X9_tick_27 n x (nI N) (nI k) (em2 x G (onesZ z k) w) = some (z.1 0 + nI N, em2 x G (onesZ z N) w') := by
  intro n
  induction n with
  | zero => intro v w _ h; omega
  | succ n ih =>
    intro k w hk hlt hw
    obtain ⟨a, b, c⟩ := ones_ok hI et k (by omega)
    rw [d_X9_tick_27.eq_2]
    by_cases hke : k = N
    · subst hke
      rw [if_pos (nI_le (Nat.le_refl _) (by omega)), e2_hc, gd_t hM.1, ms0, c, et, nI_add]
      exact ⟨w, hw, rfl⟩
    · rw [if_neg (nI_ge (by omega) (by omega))]
      obtain ⟨w1, hw1, e1⟩ := M_one hM a hK hw (by omega) c
      rw [e2_hc, gd_t hM.1, e1, bo_e, nI_1]
      exact ih (k + 1) w1 (by omega) (by omega) hw1
theorem M_tick {n : Int32} (hM : MS x G) (hI : IV z) (hK : ∀ z, WF z → RK x G z) (hw : Cns z w) : ∃ w', Cns (tkZ z n).2 w' ∧ d_X9_tick x n (em2 x G z w) = some ((tkZ z n).1, em2 x G (tkZ z n).2 w') := by
  obtain ⟨t, ht, et⟩ := hI.1.1.2.1
  unfold d_X9_tick tkZ
  by_cases c1 : n < 1
  · rw [if_pos c1, if_pos (Or.inl c1)]
    exact ⟨w, hw, rfl⟩
  · rw [if_neg c1]
    by_cases c2 : 50 < n
    · rw [if_pos c2, if_pos (Or.inr (Or.inl c2))]
      exact ⟨w, hw, rfl⟩
    · rw [if_neg c2, e2_hc, gd_t hM.1, ms0]
      by_cases c3 : z.1 0 + n ≤ 6000
      · rw [if_pos c3, if_neg (fun q => q.elim c1 (fun q => q.elim c2 (fun q => q c3)))]
        have hneg : ¬ n < 0 := fun q => c1 (Int32.lt_trans q (by decide))
        obtain ⟨N, hN, eN⟩ := nI_of2 (M := 50) (n := 50) (by decide) hneg (Int32.not_lt.mp c2)
        subst eN
        rw [et, nI_add, show (6000 : Int32) = nI 6000 from rfl, nI_leI (by omega) (by decide)] at c3
        rw [nI_clamp (by omega)]
        obtain ⟨w1, hw1, e1⟩ := M_ones hM hI hK et c3 hN FU 0 w (Nat.zero_le _) (by show _ < 6000; omega) hw
        exact ⟨w1, hw1, by rw [nI_0] at e1; exact e1⟩
      · rw [if_neg c3, if_pos (Or.inr (Or.inr c3))]
        exact ⟨w, hw, rfl⟩
end
