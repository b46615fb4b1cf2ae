/-! THE CLASS: joins, prunes, claims and hellos that come -/
def FR (Q : Qt) (z : Sg) (v0 i : Nat) (a : Nat → Int32) : Prop := v0 < 16 ∧ qmd Q v0 = true ∧ i < (z.2 19 v0).toNatClampNeg ∧ ∀ k, k < 8 → z.2 20 (8 * (40 * v0 + i) + k) = a k
theorem FR_te {Q : Qt} {z z' : Sg} {v0 i : Nat} {a : Nat → Int32} (h : FR Q z v0 i a) (t : TE z' z) : FR Q z' v0 i a := ⟨h.1, h.2.1, by rw [t.2.2.2.2.1]; exact h.2.2.1, fun k hk => by rw [t.2.2.2.2.2]; exact h.2.2.2 k hk⟩
section
variable {L : Ly} {G : Hp} {n : Nat} {st : Int32} {V : Vt} {Q : Qt} {z : Sg} {r p q g s x y m v0 i : Nat} {a : Nat → Int32}
theorem fr_k (hC : RC n st V Q z) (h : FR Q z v0 i a) {k : Nat} (hk : k < 8) : V 8 v0 (qpi Q v0 (1 - qcu Q v0) i) k = a k := by
  rw [hC.fc v0 i k h.1 h.2.1 h.2.2.1 hk]
  exact h.2.2.2 k hk
theorem fr_80 (hC : RC n st V Q z) (h : FR Q z v0 i a) : qpi Q v0 (1 - qcu Q v0) i < 80 := by
  have h40 := hC.fn v0 h.1
  have hp := hC.pi v0 h.1
  have := h.2.2.1
  exact (hp.2 _ _ _ _ (show 1 - qcu Q v0 < 2 by omega) (show i < 40 by omega) (show 1 - qcu Q v0 < 2 by omega) (show i < 40 by omega)).1
theorem two_c {z' : Sg} (h0 : z'.1 0 = z.1 0) (h1 : z'.1 1 = z.1 1) (h25 : z'.2 25 = z.2 25) : two z' r p = two z r p := by
  unfold two
  rw [nbits_c h0 h1 h25]
/-- joins of * begin with no cuts -/
def zJ (z : Sg) (r p g x : Nat) : Sg := uA (if x = 16 ∧ jn z (4 * r + p) g 0 = false then jcZ z (4 * r + p) g 0 1 (cond (two z r p) (z.1 0 + 3) (z.1 0)) 16 else z) 29 (17 * (8 * (4 * r + p) + g) + yx x) (z.1 0 + 70)
theorem C_takeJoin_21 (hL : LY L G n Q) (hC : RC n st V Q z) (h1 : r < n) (h2 : g < 8) (hp : p < 4) (hu : qpw Q (4 * r + p) ≠ -1) (h3 : x < 17) (hkn : bt (V 12 r g 4) x = true) (h0 : x = 16 → ∀ s, s < 16 → bt (V 12 r g 4) s = false → z.2 30 (16 * (8 * (4 * r + p) + g) + s) = -1) : ∃ V', d_X3_takeJoin_21 (L.1 18 r p) (nI g) (nI x) (eK L G V (RF n L Q)) = some (eK L G V' (RF n L Q)) ∧ RC n st V' Q (uA z 29 (17 * (8 * (4 * r + p) + g) + yx x) (z.1 0 + 70)) ∧ V' 12 = V 12 ∧ V' 8 = V 8 := by
  unfold d_X3_takeJoin_21
  simp (disch := first | omega | assumption) only [eK_hc, eK_hl, yK18 hL, iK18 hL, rK18_0 hL, rK18_2 hL, rK18_7 hL, rK18_8 hL, rK18_9 hL, rK18_10 hL, rK18_11 hL, rK18_12 hL, yK21 hL, iK21 hL, lK21 hL, yK1 hL, iK1 hL, rK1_0 hL, rK1_1 hL, rK1_2 hL, rK1_3 hL, wK21 hL, rm17, lm4, lm8, lm10, lm16, lm17, lm26, lm40, lm400, nI_add, nI_1, ix_nI, nI_clamp, gd_T, gd_t, bd_e, bo_e, b2_e, true_and, and_true, hC.tm]
  exact ⟨_, rfl, RC_jt hC hp hu h2 h3 (Or.inl hkn) (fun e => Or.inr (Or.inr (h0 e))), uR_ne (by decide), uR_ne (by decide)⟩
theorem jcZ_30 {j : Nat} {bits was frm : Int32} {i : Nat} : (jcZ z j g bits was frm 16).2 30 i = if i / 16 = 8 * j + g ∧ i % 16 < 16 then (if bt bits (i % 16) = false then -1 else if was = 0 ∨ z.2 30 i = -1 then frm else z.2 30 i) else z.2 30 i := by
  rw [jcZ_e 16 (by decide)]
  rfl
theorem jcZ_1 {j : Nat} {bits was frm : Int32} {m : Nat} (hm : m ≤ 16) : (jcZ z j g bits was frm m).1 = z.1 := by rw [jcZ_e m hm]
theorem jcZ_o {j : Nat} {bits was frm : Int32} {m k : Nat} (hm : m ≤ 16) (hk : k ≠ 30) : (jcZ z j g bits was frm m).2 k = z.2 k := by
  rw [jcZ_e m hm]
  exact if_neg hk
theorem C_takeJoin (hL : LY L G n Q) (hC : RC n st V Q z) (ht : ∃ t, 1 ≤ t ∧ t ≤ 6000 ∧ z.1 0 = nI t) (h1 : r < n) (h2 : g < 8) (hp : p < 4) (hu : qpw Q (4 * r + p) ≠ -1) (h3 : x < 17) (hkn : bt (V 12 r g 4) x = true) : ∃ V', d_X3_takeJoin (L.1 18 r p) (nI g) (nI x) (eK L G V (RF n L Q)) = some (eK L G V' (RF n L Q)) ∧ RC n st V' Q (zJ z r p g x) ∧ V' 12 = V 12 ∧ V' 8 = V 8 := by
  unfold d_X3_takeJoin zJ
  by_cases hx : x = 16
  · subst hx
    rw [if_pos (show nI 16 = 16 from rfl)]
    simp (disch := first | omega | assumption) only [eK_hc, eK_hl, yK18 hL, iK18 hL, rK18_0 hL, rK18_2 hL, rK18_7 hL, rK18_8 hL, rK18_9 hL, rK18_10 hL, rK18_11 hL, rK18_12 hL, gd_T, gd_t, bd_e, bo_e, b2_e, true_and, and_true, C_isJoined hL hC h1 hp hu h2 h3, ite_bI, yx_16]
    cases hj : jn z (4 * r + p) g 0 with
    | true =>
      rw [cond_true, if_neg (show ¬ (true = false) by decide)]
      refine C_takeJoin_21 hL hC h1 h2 hp hu h3 hkn (fun _ s hs hb => ?_)
      rcases hC.k30 r g s p h1 h2 hs hp hb with o | o
      · exact o
      · exact absurd (of_decide_eq_true hj) (Int32.not_lt.mpr o)
    | false =>
      rw [cond_false, if_pos rfl]
      obtain ⟨V1, e, hR, h12, h8⟩ := C_takeCuts (bits := 0) hL hC ht h1 h2 hp hu (fun x _ h => by rw [b_0] at h; cases h)
      rw [e, bo_e]
      obtain ⟨V2, e2, hR2, g12, g8⟩ := C_takeJoin_21 (x := 16) hL hR h1 h2 hp hu h3 (by rw [h12]; exact hkn) (fun _ s hs hb => by
        rw [jcZ_30, if_pos (by omega), if_pos (b_0 _)])
      refine ⟨V2, e2, RCe hR2 ?_, g12.trans h12, g8.trans h8⟩
      rw [jcZ_1 (by decide), yx_16]
  · rw [if_neg (nI_n16 (by omega) hx), if_neg (fun w => hx w.1)]
    exact C_takeJoin_21 hL hC h1 h2 hp hu h3 hkn (fun w => absurd w hx)
theorem uA_f {k i : Nat} {v : Int32} : (uA z k i v).1 = z.1 := rfl
theorem jc2 {j i0 : Nat} {frm bits t : Int32} : jcZ (uA (jcZ z j g 0 1 frm 16) 29 i0 t) j g bits 1 frm 16 = jcZ (uA z 29 i0 t) j g bits 0 frm 16 := by
  refine Prod.ext ?_ ?_
  · rw [jcZ_1 (by decide), jcZ_1 (by decide)]
    rw [uA_f, uA_f, jcZ_1 (by decide)]
  · funext k
    by_cases hk : k = 30
    · subst hk
      funext i
      rw [jcZ_30, jcZ_30, uA_ne (by decide), uA_ne (by decide), jcZ_30]
      by_cases hi : i / 16 = 8 * j + g ∧ i % 16 < 16
      · rw [if_pos hi, if_pos hi, if_pos hi, if_pos (b_0 (i % 16))]
        by_cases hb : bt bits (i % 16) = false
        · rw [if_pos hb, if_pos hb]
        · rw [if_neg hb, if_neg hb, if_pos (Or.inr rfl), if_pos (Or.inl rfl)]
      · rw [if_neg hi, if_neg hi, if_neg hi]
    · rw [jcZ_o (by decide) hk, jcZ_o (by decide) hk]
      by_cases h29 : k = 29
      · subst h29
        funext i
        rw [uA_get, uA_get, jcZ_o (by decide) (by decide)]
      · rw [uA_ne h29, uA_ne h29, jcZ_o (by decide) hk]
theorem joZ_e {bits : Int32} : jcZ (zJ z r p g 16) (4 * r + p) g bits 1 (cond (two (zJ z r p g 16) r p) ((zJ z r p g 16).1 0 + 3) ((zJ z r p g 16).1 0)) 16 = joZ z r p g 0 bits := by
  have e1 : (zJ z r p g 16).1 = z.1 := by
    unfold zJ
    show (if _ then _ else _ : Sg).1 = _
    split
    · exact jcZ_1 (by decide)
    · rfl
  have e25 : (zJ z r p g 16).2 25 = z.2 25 := by
    unfold zJ
    rw [uA_ne (by decide)]
    split
    · exact jcZ_o (by decide) (by decide)
    · rfl
  have et : two (zJ z r p g 16) r p = two z r p := two_c (by rw [e1]) (by rw [e1]) e25
  have et2 : two (uA z 29 (17 * (8 * (4 * r + p) + g) + 0) (z.1 0 + 70)) r p = two z r p := two_c rfl rfl rfl
  unfold joZ
  rw [if_pos rfl, et, et2, e1]
  cases hj : jn z (4 * r + p) g 0 with
  | true =>
    have : zJ z r p g 16 = uA z 29 (17 * (8 * (4 * r + p) + g) + 0) (z.1 0 + 70) := by
      unfold zJ
      rw [hj, if_neg (fun w => by cases w.2)]
      rfl
    rw [this]
    rfl
  | false =>
    have : zJ z r p g 16 = uA (jcZ z (4 * r + p) g 0 1 (cond (two z r p) (z.1 0 + 3) (z.1 0)) 16) 29 (17 * (8 * (4 * r + p) + g) + 0) (z.1 0 + 70) := by
      unfold zJ
      rw [hj, if_pos ⟨rfl, rfl⟩]
      rfl
    rw [this, jc2]
    rfl
theorem C_takeJP_17 (hL : LY L G n Q) (hC : RC n st V Q z) (hF : WF z) (ht : ∃ t, 1 ≤ t ∧ t ≤ 6000 ∧ z.1 0 = nI t) (hfr : FR Q z v0 i a) (h1 : r < n) (h2 : g < 8) (hp : p < 4) (hu : qpw Q (4 * r + p) ≠ -1) (h3 : x < 17) : ∃ V', d_X5_takeJoinOrPrune_17 (L.1 12 r g) (L.1 8 v0 (qpi Q v0 (1 - qcu Q v0) i)) (L.1 18 r p) (nI x) (eK L G V (RF n L Q)) = some (eK L G V' (RF n L Q)) ∧ RC n st V' Q (if a 0 = 6 then prZ z r p g (yx x) else joZ z r p g (yx x) (a 6)) := by
  have hv0 := hfr.1
  have hm0 := hfr.2.1
  have hf0 := fr_80 hC hfr
  unfold d_X5_takeJoinOrPrune_17
  simp (disch := first | omega | assumption) only [eK_hc, eK_hl, yK8 hL, iK8 hL, yK12 hL, iK12 hL, rK12_0 hL, rK12_3 hL, rK12_5 hL, rK12_6 hL, rK12_8 hL, rK12_9 hL, rK12_10 hL, yK18 hL, iK18 hL, rK18_0 hL, rK18_2 hL, rK18_7 hL, rK18_8 hL, rK18_9 hL, rK18_10 hL, rK18_11 hL, rK18_12 hL, gd_T, gd_t, bd_e, bo_e, b2_e, true_and, and_true, fr_k hC hfr (show 0 < 8 by decide), fr_k hC hfr (show 6 < 8 by decide), ((hC.id r h1).2 g h2).2]
  by_cases h6 : a 0 = 6
  · rw [if_pos h6, if_pos h6]
    obtain ⟨V', e, hR⟩ := C_takePrune hL hC hF h1 h2 hp hu h3
    rw [e, bo_e]
    exact ⟨V', rfl, hR⟩
  · rw [if_neg h6, if_neg h6]
    have hC1 : RC n st (uR V 12 r g (va_up (V 12 r g) 4 (V 12 r g 4 ||| ((1 <<< (nI x &&& 31)) ||| a 6)))) Q z := RC_kn hC kn_or
    have hkx : bt (uR V 12 r g (va_up (V 12 r g) 4 (V 12 r g 4 ||| ((1 <<< (nI x &&& 31)) ||| a 6))) 12 r g 4) x = true := by
      rw [uR_s, vu_s, b_or, b_or, b_bit (by omega) (by omega)]
      simp
    have hk6 : ∀ y, y < 16 → bt (a 6) y = true → bt (uR V 12 r g (va_up (V 12 r g) 4 (V 12 r g 4 ||| ((1 <<< (nI x &&& 31)) ||| a 6))) 12 r g 4) y = true := by
      intro y hy hb
      rw [uR_s, vu_s, b_or, b_or, hb]
      simp
    obtain ⟨V1, e, hR, h12, h8⟩ := C_takeJoin hL hC1 ht h1 h2 hp hu h3 hkx
    simp (disch := first | omega | assumption) only [eK_hc, eK_hl, yK12 hL, iK12 hL, rK12_0 hL, rK12_3 hL, rK12_5 hL, rK12_6 hL, rK12_8 hL, rK12_9 hL, rK12_10 hL, yK18 hL, iK18 hL, rK18_0 hL, rK18_2 hL, rK18_7 hL, rK18_8 hL, rK18_9 hL, rK18_10 hL, rK18_11 hL, rK18_12 hL, wK12 hL, uR_s, vu_n, gd_T, gd_t, bd_e, bo_e, b2_e, true_and, and_true, ((hC.id r h1).2 g h2).2, e]
    by_cases hx : x = 16
    · subst hx
      rw [if_pos (show nI 16 = 16 from rfl)]
      have k8 : V1 8 v0 (qpi Q v0 (1 - qcu Q v0) i) 6 = a 6 := by
        rw [h8, uR_ne (by decide)]
        exact fr_k hC hfr (by decide)
      have k12 : V1 12 r g 2 = nI g := by
        rw [h12, uR_s, vu_n (by decide)]
        exact ((hC.id r h1).2 g h2).2
      have htj : (zJ z r p g 16).1 = z.1 := by
        unfold zJ
        show (if _ then _ else _ : Sg).1 = _
        split
        · exact jcZ_1 (by decide)
        · rfl
      obtain ⟨V2, e2, hR2, -, -⟩ := C_takeCuts (bits := a 6) hL hR (by rw [htj]; exact ht) h1 h2 hp hu (fun y hy hb => by rw [h12]; exact hk6 y hy hb)
      simp (disch := first | omega | assumption) only [eK_hc, eK_hl, yK8 hL, iK8 hL, yK12 hL, iK12 hL, rK12_0 hL, rK12_3 hL, rK12_5 hL, rK12_6 hL, rK12_8 hL, rK12_9 hL, rK12_10 hL, yK18 hL, iK18 hL, rK18_0 hL, rK18_2 hL, rK18_7 hL, rK18_8 hL, rK18_9 hL, rK18_10 hL, rK18_11 hL, rK18_12 hL, gd_T, gd_t, bd_e, bo_e, b2_e, true_and, and_true, k8, k12, e2]
      refine ⟨V2, rfl, RCe hR2 ?_⟩
      rw [joZ_e]
      rfl
    · rw [if_neg (nI_n16 (by omega) hx)]
      refine ⟨V1, rfl, RCe hR ?_⟩
      unfold zJ joZ
      rw [if_neg (fun w => hx w.1), if_neg (by rw [yx_s (by omega)]; omega)]
theorem C_takeJP (hL : LY L G n Q) (hC : RC n st V Q z) (hF : WF z) (ht : ∃ t, 1 ≤ t ∧ t ≤ 6000 ∧ z.1 0 = nI t) (hfr : FR Q z v0 i a) (h1 : r < n) (h2 : g < 8) (hp : p < 4) (hu : qpw Q (4 * r + p) ≠ -1) (hy : y < 17) (ey : a 4 + 1 = nI y) : ∃ V', d_X5_takeJoinOrPrune (L.1 12 r g) (L.1 8 v0 (qpi Q v0 (1 - qcu Q v0) i)) (L.1 18 r p) (eK L G V (RF n L Q)) = some (eK L G V' (RF n L Q)) ∧ RC n st V' Q (if a 0 = 6 then prZ z r p g y else joZ z r p g y (a 6)) := by
  have hv0 := hfr.1
  have hm0 := hfr.2.1
  have hf0 := fr_80 hC hfr
  unfold d_X5_takeJoinOrPrune
  simp (disch := first | omega | assumption) only [eK_hc, eK_hl, yK8 hL, iK8 hL, gd_T, gd_t, bd_e, bo_e, b2_e, true_and, and_true, fr_k hC hfr (show 4 < 8 by decide)]
  by_cases h4 : a 4 = -1
  · have y0 : y = 0 := by
      rw [h4] at ey
      exact ((nI_eq (a := 0) (b := y) (by decide) (by omega)).mp ey).symm
    rw [if_pos h4, y0]
    exact C_takeJP_17 (x := 16) hL hC hF ht hfr h1 h2 hp hu (by decide)
  · rw [if_neg h4]
    obtain ⟨s, hs, es, ys⟩ : ∃ s, s < 16 ∧ a 4 = nI s ∧ y = s + 1 := by
      cases y with
      | zero =>
        exfalso
        apply h4
        have : a 4 + 1 - 1 = nI 0 - 1 := by rw [ey]
        rw [Int32.add_sub_cancel] at this
        rw [this]
        rfl
      | succ s =>
        refine ⟨s, by omega, ?_, rfl⟩
        have : a 4 + 1 - 1 = nI (s + 1) - 1 := by rw [ey]
        rw [Int32.add_sub_cancel, nI_pred] at this
        exact this
    rw [es, ys]
    have := C_takeJP_17 (x := s) hL hC hF ht hfr h1 h2 hp hu (by omega)
    rw [yx_s hs] at this
    exact this
end
