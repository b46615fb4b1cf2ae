/-! THE CLASS: joins that are renewed, trees that are forgotten, the timers of a router -/
section
variable {L : Ly} {G : Hp} {n : Nat} {st : Int32} {V : Vt} {Q : Qt} {z : Sg} {r p q g s x y m : Nat}
theorem RC_g35 (hC : RC n st V Q z) (h2 : g < 8) (h3 : x < 17) : RC n st V Q (uA z 35 (17 * (8 * r + g) + yx x) (V 14 r g x)) := by
  have h := RC_ja (v := V 14 r g x) (r := r) hC h2 h3
  rw [vu_self, uR_self] at h
  exact h
theorem RC_g36 (hC : RC n st V Q z) (h2 : g < 8) : RC n st V Q (uA z 36 (8 * r + g) (V 12 r g 7)) := by
  have h : RC n st (uR V 12 r g (va_up (V 12 r g) 7 (V 12 r g 7))) Q (uA z 36 (8 * r + g) (V 12 r g 7)) := by
    refine RC_tc hC (fun h r' g' a1 a2 => ?_) rfl (fun k hk => uA_ne hk)
    rw [vu_self, uR_self]
    show V 12 r' g' 7 = if z.2 33 (17 * (8 * r' + g')) = -1 then 0 else (uA z 36 (8 * r + g) (V 12 r g 7)).2 36 (8 * r' + g')
    rw [uA_get]
    have ht := h.tc r' g' a1 a2
    by_cases e : 8 * r' + g' = 8 * r + g
    · have er : r' = r := by omega
      have eg : g' = g := by omega
      subst er eg
      rw [if_pos rfl]
      split
      · rename_i w
        rw [ht, if_pos w]
      · rfl
    · rw [if_neg e]
      exact ht
  rw [vu_self, uR_self] at h
  exact h
/-- row 36 does not count where * is not joined -/
theorem RC_u36 {v : Int32} (hC : RC n st V Q z) (h2 : g < 8) (h33 : z.2 33 (17 * (8 * r + g)) = -1) : RC n st V Q (uA z 36 (8 * r + g) v) := by
  have h : RC n st (uR V 12 r g (va_up (V 12 r g) 7 (V 12 r g 7))) Q (uA z 36 (8 * r + g) v) := by
    refine RC_tc hC (fun h r' g' a1 a2 => ?_) rfl (fun k hk => uA_ne hk)
    rw [vu_self, uR_self]
    show V 12 r' g' 7 = if z.2 33 (17 * (8 * r' + g')) = -1 then 0 else (uA z 36 (8 * r + g) v).2 36 (8 * r' + g')
    rw [uA_get]
    have ht := h.tc r' g' a1 a2
    by_cases e : 8 * r' + g' = 8 * r + g
    · have er : r' = r := by omega
      have eg : g' = g := by omega
      subst er eg
      rw [h33, if_pos rfl] at ht ⊢
      exact ht
    · rw [if_neg e]
      exact ht
  rw [vu_self, uR_self] at h
  exact h
theorem C_joinNone (hL : LY L G n Q) (hC : RC n st V Q z) (h1 : r < n) (h2 : g < 8) (h3 : x < 17) : ∃ V', d_X5_joinNone (L.1 12 r g) (nI x) (eK L G V (RF n L Q)) = some (eK L G V' (RF n L Q)) ∧ RC n st V' Q (uA (uA z 33 (17 * (8 * r + g) + yx x) (-1)) 34 (17 * (8 * r + g) + yx x) (-1)) ∧ V' 12 r g 4 = V 12 r g 4 := by
  unfold d_X5_joinNone
  simp (disch := first | omega | assumption) only [eK_hc, eK_hl, yK12 hL, iK12 hL, rK12_0 hL, rK12_3 hL, rK12_5 hL, rK12_6 hL, rK12_8 hL, rK12_9 hL, rK12_10 hL, yK13 hL, iK13 hL, lK13 hL, wK13 hL, lm4, lm8, lm10, lm16, lm17, lm26, lm40, lm400, nI_add, nI_1, ix_nI, nI_clamp, gd_T, gd_t, bd_e, bo_e, b2_e, true_and, and_true]
  by_cases hx : x = 16
  · subst hx
    rw [if_pos (show nI 16 = 16 from rfl)]
    simp (disch := first | omega | assumption) only [eK_hc, eK_hl, yK12 hL, iK12 hL, rK12_0 hL, rK12_3 hL, rK12_5 hL, rK12_6 hL, rK12_8 hL, rK12_9 hL, rK12_10 hL, wK12 hL, uR_ne, gd_T, gd_t, bd_e, bo_e, b2_e, true_and, and_true]
    have h0 : RC n st (uR V 12 r g (va_up (V 12 r g) 7 0)) Q (uA z 36 (8 * r + g) 0) := by
      refine RC_tc hC (fun h r' g' a1 a2 => ?_) rfl (fun k hk => uA_ne hk)
      rw [uR_at]
      show _ = if z.2 33 (17 * (8 * r' + g')) = -1 then 0 else (uA z 36 (8 * r + g) 0).2 36 (8 * r' + g')
      rw [uA_get]
      by_cases e : r' = r ∧ g' = g
      · obtain ⟨rfl, rfl⟩ := e
        rw [if_pos ⟨rfl, rfl⟩, vu_s, if_pos rfl]
        split <;> rfl
      · rw [if_neg e, if_neg (show ¬ 8 * r' + g' = 8 * r + g by omega)]
        exact h.tc r' g' a1 a2
    have h1' := RC_jb (r := r) (g := g) (x := 16) (a := -1) (b := -1) h0 h2 (by decide) (Or.inl rfl) (fun _ => by rw [uR_s, vu_s, if_pos rfl])
    have h2' := RC_u36 (r := r) (g := g) (v := z.2 36 (8 * r + g)) h1' h2 (by rw [uA_ne (by decide), uA_get, yx_16, Nat.add_zero, if_pos rfl])
    refine ⟨_, rfl, RCe (RCv h2' ?_) ?_, ?_⟩
    · rw [uR_ne (show 13 ≠ 12 by decide), uR_comm (by decide)]
      rfl
    · rw [uA_comm (k := 36) (k' := 33) (by decide), uA_comm (k := 36) (k' := 34) (by decide), uA_uA]
      have : z.2 36 (8 * r + g) = (uA (uA z 33 (17 * (8 * r + g) + yx 16) (-1)) 34 (17 * (8 * r + g) + yx 16) (-1)).2 36 (8 * r + g) := rfl
      rw [this, uA_self]
    · rw [uR_s, vu_n (by decide)]
  · rw [if_neg (nI_n16 (by omega) hx)]
    exact ⟨_, rfl, RC_jb hC h2 h3 (Or.inl rfl) (fun w => absurd w hx), by rw [uR_ne (by decide)]⟩
theorem sj_35 {v : Int32} : sjZ (uA z 35 (17 * (8 * r + g) + y) v) r g y = sjZ z r g y := by
  unfold sjZ
  rw [pu_uA (by decide), uA_uA]
  rfl
theorem C_renew_140 {u bits : Int32} (hL : LY L G n Q) (hC : RC n st V Q z) (hO : MO z) (h1 : r < n) (h2 : g < 8) (h3 : x < 17) (hp : p < 4) (hq : q < n) (hu : u = nI (16 * p + q)) (hpl : qpw Q (4 * r + p) ≠ -1) (hkn : bt (V 12 r g 4) x = true) (hb0 : x ≠ 16 → bits = 0) : ∃ V', d_X5_renewJoin_140 (L.1 12 r g) (nI x) u bits (eK L G V (RF n L Q)) = some (eK L G V' (RF n L Q)) ∧ RC n st V' Q (cm3 z r g (yx x) u bits) := by
  have hn := hC.nn.2.2.2
  have hnr := hC.nr
  have ed : u / 16 = nI p := by
    rw [hu, show (16 : Int32) = nI 16 from rfl, pk_div (by omega) (by decide) (by decide)]
    exact congrArg nI (by omega)
  have em : u - u / 16 * 16 = nI q := by
    rw [hu, show (16 : Int32) = nI 16 from rfl, pk_rem (by omega) (by decide) (by decide)]
    exact congrArg nI (by omega)
  have ejb : u = jbV (nI p) (nI q) := hu.trans (jb_n.resolve_right (nI_m1 (by omega))).symm
  have hC1 : RC n st V Q (uA (if x = 16 then uA z 36 (8 * r + g) (V 12 r g 7) else z) 35 (17 * (8 * r + g) + yx x) (V 14 r g x)) := by
    refine RC_g35 ?_ h2 h3
    split
    · exact RC_g36 hC h2
    · exact hC
  have hO1 : MO (uA (if x = 16 then uA z 36 (8 * r + g) (V 12 r g 7) else z) 35 (17 * (8 * r + g) + yx x) (V 14 r g x)) := by
    refine MO_uA ?_ (by decide)
    split
    · exact MO_uA hO (by decide)
    · exact hO
  have hC2 := RC_jb (r := r) (g := g) (x := x) (a := nI p) (b := nI q) hC1 h2 h3 (Or.inr ⟨hkn, by rw [uA_get, if_pos rfl], fun p' hp' e => by rw [← (nI_eq (by omega) (by omega)).mp e]; exact hpl⟩) (fun hx => by
    rw [if_neg (nI_m1 (by omega)), uA_ne (by decide), if_pos hx, uA_get, if_pos rfl])
  have hO2 := MO_3334 (t := 17 * (8 * r + g) + yx x) (a := nI p) (b := nI q) hO1 (Or.inr ⟨p, q, hp, by rw [hC1.nr]; exact hq, rfl, rfl⟩)
  obtain ⟨V2, e2, hR2⟩ := C_sendJoin (bits := bits) hL hC2 hO2 h1 h2 h3 hp hq (by rw [uA_ne (by decide), uA_get, if_pos rfl]) (by rw [uA_get, if_pos rfl]) rfl hb0
  unfold d_X5_renewJoin_140
  rw [eK_hc, gd_t (yK12 hL h1 h2), rK12_5 hL h1 h2, eK_hl, yK13 hL h1 h2, lK13 hL h1 h2, gd_t ⟨rfl, (ix_nI (by omega)).mpr h3⟩, wK13 hL h1 h2, nI_clamp (by omega), bd_e, eK_hc, gd_t (yK12 hL h1 h2), ejb, e2, bo_e]
  refine ⟨V2, rfl, RCe hR2 ?_⟩
  unfold cm3
  rw [← ejb, ed, show u - nI p * 16 = nI q by rw [← ed]; exact em]
  by_cases hx : x = 16
  · subst hx
    rw [if_pos rfl, if_pos rfl, yx_16, if_pos rfl, uA_comm (k := 36) (k' := 35) (by decide), uA_comm (k := 36) (k' := 33) (by decide), uA_comm (k := 36) (k' := 34) (by decide), uA_uA, uA_comm (k := 35) (k' := 33) (by decide), uA_comm (k := 35) (k' := 34) (by decide), uA_comm (k := 35) (k' := 36) (by decide), sj_35]
  · rw [if_neg hx, if_neg hx, yx_s (by omega), if_neg (by omega), uA_comm (k := 35) (k' := 33) (by decide), uA_comm (k := 35) (k' := 34) (by decide), sj_35]
theorem C_renew_84 {u bits : Int32} (hL : LY L G n Q) (hC : RC n st V Q z) (hO : MO z) (h1 : r < n) (h2 : g < 8) (h3 : x < 17) (hp : p < 4) (hq : q < n) (hu : u = nI (16 * p + q)) (hpl : qpw Q (4 * r + p) ≠ -1) (hkn : bt (V 12 r g 4) x = true) (hb0 : x ≠ 16 → bits = 0) : ∃ V', d_X5_renewJoin_84 (L.1 12 r g) (nI x) u bits (eK L G V (RF n L Q)) = some (eK L G V' (RF n L Q)) ∧ RC n st V' Q (cond (due z r g (yx x) bits) (cm3 z r g (yx x) u bits) z) := by
  have hn := hC.nn.2.2.2
  have hnr := hC.nr
  have hy := yx_lt h3
  have put := C_renew_140 (bits := bits) hL hC hO h1 h2 h3 hp hq hu hpl hkn hb0
  have ejb : (jbV (z.2 33 (17 * (8 * r + g) + yx x)) (z.2 34 (17 * (8 * r + g) + yx x)) = -1) ↔ z.2 33 (17 * (8 * r + g) + yx x) = -1 := by
    rcases hO.2.2 (17 * (8 * r + g) + yx x) (by omega) with ⟨a1, a2⟩ | ⟨p1, q1, hp1, hq1, a1, a2⟩
    · rw [a1]
      unfold jbV
      rw [if_pos rfl]
    · rw [a1, a2, jb_n.resolve_right (nI_m1 (by omega))]
      exact ⟨fun w => absurd w (nI_m1 (by omega)), fun w => absurd w (nI_m1 (by omega))⟩
  unfold d_X5_renewJoin_84 d_X5_renewJoin_114 d_X5_renewJoin_119 due
  rw [if_neg (show ¬ (1 : Int32) = 0 by decide), if_pos rfl]
  simp (disch := first | omega | assumption) only [eK_hc, eK_hl, yK12 hL, iK12 hL, rK12_0 hL, rK12_3 hL, rK12_5 hL, rK12_6 hL, rK12_8 hL, rK12_9 hL, rK12_10 hL, yK13 hL, iK13 hL, lK13 hL, yK14 hL, iK14 hL, lK14 hL, yK1 hL, iK1 hL, rK1_0 hL, rK1_1 hL, rK1_2 hL, rK1_3 hL, lm4, lm8, lm10, lm16, lm17, lm26, lm40, lm400, nI_add, nI_1, ix_nI, nI_clamp, gd_T, gd_t, bd_e, bo_e, b2_e, true_and, and_true, hC.jb r g x h1 h2 h3, hC.tm]
  by_cases c1 : z.2 33 (17 * (8 * r + g) + yx x) = -1
  · rw [if_pos (ejb.mpr c1), decide_eq_true c1, Bool.true_or, Bool.true_or, cond_true]
    exact put
  · rw [if_neg (fun w => c1 (ejb.mp w)), decide_eq_false c1, Bool.false_or, hC.ja r g x h1 h2 h3 c1]
    by_cases c2 : z.1 0 - z.2 35 (17 * (8 * r + g) + yx x) < 20
    · rw [if_pos c2, decide_eq_false (Int32.not_le.mpr c2), Bool.false_or]
      by_cases hx : x = 16
      · subst hx
        have c1' : ¬ z.2 33 (17 * (8 * r + g)) = -1 := c1
        rw [if_pos (show nI 16 = 16 from rfl), hC.tc r g h1 h2, if_neg c1', yx_16, decide_eq_true rfl, Bool.true_and]
        by_cases c3 : bits = z.2 36 (8 * r + g)
        · rw [if_pos c3, decide_eq_false (not_not_intro c3), cond_false]
          exact ⟨V, rfl, hC⟩
        · rw [if_neg c3, decide_eq_true c3, cond_true]
          exact put
      · rw [if_neg (nI_n16 (by omega) hx), yx_s (by omega), decide_eq_false (show ¬ x + 1 = 0 by omega), Bool.false_and, cond_false]
        exact ⟨V, rfl, hC⟩
    · rw [if_neg c2, decide_eq_true (Int32.not_lt.mp c2), Bool.true_or, cond_true]
      exact put
end
section
variable {z z' : Sg} {r p g s : Nat}
theorem sh_bsB (h : SH z' z) : bsB z' r g = bsB z r g := by
  unfold bsB bsP
  simp only [sh_jn h, sh_own h]
theorem sh_upM (h : SH z' z) : upM z' r g = upM z r g := by
  simp only [upM, upG, tM, mtN, nb, h.1.2.1, h.1.2.2.2.1, h.2.1, te_Wp h.1, te_Wr h.1]
theorem sh_3334 {t : Nat} {a b : Int32} : SH (uA (uA z 33 t a) 34 t b) z := ⟨te_3334, rfl, rfl, rfl, rfl, rfl, rfl, rfl⟩
theorem sh_tr {x y w : Sg} (h : SH x y) (k : SH y w) : SH x w := ⟨te_tr h.1 k.1, h.2.1.trans k.2.1, h.2.2.1.trans k.2.2.1, h.2.2.2.1.trans k.2.2.2.1, h.2.2.2.2.1.trans k.2.2.2.2.1, h.2.2.2.2.2.1.trans k.2.2.2.2.2.1, h.2.2.2.2.2.2.1.trans k.2.2.2.2.2.2.1, h.2.2.2.2.2.2.2.trans k.2.2.2.2.2.2.2⟩
theorem sh_cm1 {y : Nat} {u : Int32} : SH (cm1 z r g y u) z := by
  unfold cm1
  split
  · exact sh_rf
  · exact sh_tr sh_3334 sh_pu
/-- a way up goes to a neighbour -/
theorem upG_nb {k : Nat} {c : Int32} (hF : WF z) (hc : c = -1 ∨ ∃ q, q < nR z ∧ c - c / 100 * 100 = nI q) (h : upG z r k c ≠ -1) : ∃ p q, p < 4 ∧ q < nR z ∧ upG z r k c = nI (16 * p + q) ∧ nb z (4 * r + p) q = true := by
  have hn := hF.1
  unfold upG at h ⊢
  rcases Wp_ok z k with a1 | ⟨p, hp, a1⟩
  · exact absurd (if_pos a1) h
  · rw [if_neg (by rw [a1]; exact nI_m1 (by omega))] at h ⊢
    rcases Wr_ok z k with a2 | ⟨q, hq, a2⟩
    · exact absurd (if_pos a2) h
    · rw [if_neg (by rw [a2]; exact nI_m1 (by omega))] at h ⊢
      have hv : ∃ q2, q2 < nR z ∧ (if c = -1 then Wr z k else c - c / 100 * 100) = nI q2 := by
        by_cases hc1 : c = -1
        · rw [if_pos hc1]; exact ⟨q, hq, a2⟩
        · rw [if_neg hc1]
          rcases hc with hc | hc
          · exact absurd hc hc1
          · exact hc
      obtain ⟨q2, hq2, e2⟩ := hv
      rw [e2, a1, nI_clamp (by omega), nI_clamp (by omega)] at h ⊢
      by_cases hb : nb z (4 * r + p) q2 = true
      · rw [if_pos hb]
        exact ⟨p, q2, hp, hq2, by rw [lm16, nI_add], hb⟩
      · exact absurd (if_neg hb) h
theorem upY_nb {y : Nat} (hF : WF z) (h1 : r < nR z) (h3 : g < 8) (hy : y < 17) (h : upY z r g y ≠ -1) : ∃ p q, p < 4 ∧ q < nR z ∧ upY z r g y = nI (16 * p + q) ∧ nb z (4 * r + p) q = true := by
  unfold upY at h ⊢
  by_cases hy0 : y = 0
  · rw [if_pos hy0] at h ⊢
    exact upG_nb hF (Or.inl rfl) h
  · rw [if_neg hy0] at h ⊢
    unfold upS at h ⊢
    by_cases hw : noW z (y - 1)
    · exact absurd (if_pos hw) h
    · rw [if_neg hw] at h ⊢
      rcases Wp_ok z (tS z r (y - 1)) with a1 | ⟨p, hp, a1⟩
      · exfalso
        apply h
        unfold upG
        rw [if_pos a1]
      · refine upG_nb hF ?_ h
        rw [a1, nI_clamp (by omega)]
        exact clm_ok hF h1 hp h3 (by omega)
end
section
variable {L : Ly} {G : Hp} {n : Nat} {st : Int32} {V : Vt} {Q : Qt} {z : Sg} {r p q g s x y m : Nat}
/-- who is not known has no joins to renew -/
theorem unk_cm (hC : RC n st V Q z) (h1 : r < n) (h2 : g < 8) (h3 : x < 17) (hk : bt (V 12 r g 4) x = false) : cmZ z r g (yx x) = z := by
  have hy := yx_lt h3
  have e33 := hC.k33 r g x h1 h2 h3 hk
  have hw : wantY z r g (yx x) = false := by
    unfold wantY
    by_cases hx : x = 16
    · subst hx
      rw [yx_16, if_pos rfl]
      unfold want0
      have : bsB z r g = 0 := by
        have hb : ∀ p, p < 4 → bsP z r p g = false := by
          intro p hp
          unfold bsP own mem
          have j0 : jn z (4 * r + p) g 0 = false := decide_eq_false (Int32.not_lt.mpr (hC.k29 r g 16 p h1 h2 (by decide) hp hk))
          rw [j0, decide_eq_false (Int32.not_lt.mpr (hC.k28 r g p h1 h2 hp hk))]
          rfl
        unfold bsB
        exact bN4_0.mpr (by rw [hb 0 (by decide), hb 1 (by decide), hb 2 (by decide), hb 3 (by decide)]; rfl)
      rw [decide_eq_false (not_not_intro this), Bool.and_false]
    · have hs : x < 16 := by omega
      rw [yx_s hs, if_neg (by omega), Nat.add_sub_cancel]
      unfold wantS
      have hj : ∀ p, p < 4 → wjP z r p g x = false := by
        intro p hp
        unfold wjP
        have : jn z (4 * r + p) g (1 + x) = false := by
          have := hC.k29 r g x p h1 h2 h3 hp hk
          rw [yx_s hs, Nat.add_comm x 1] at this
          exact decide_eq_false (Int32.not_lt.mpr this)
        rw [this]
        rfl
      have hkp : kept z r g x = false := decide_eq_false (Int32.not_lt.mpr (hC.k37 r g x h1 h2 hs hk))
      rw [hj 0 (by decide), hj 1 (by decide), hj 2 (by decide), hj 3 (by decide), hkp]
      rfl
  unfold cmZ
  rw [hw, cond_false]
  have c1 : cm1 z r g (yx x) (-1) = z := by
    unfold cm1
    rw [if_pos (Or.inl e33)]
  rw [c1]
  unfold cm2
  rw [if_pos rfl]
theorem C_renew_63 {u : Int32} (hL : LY L G n Q) (hC : RC n 0 V Q z) (hO : MO z) (h1 : r < n) (h2 : g < 8) (h3 : x < 17) (hu : u = -1 ∨ ∃ p q, p < 4 ∧ q < n ∧ u = nI (16 * p + q) ∧ qpw Q (4 * r + p) ≠ -1) (hkn : bt (V 12 r g 4) x = true) (h16 : x = 16 → u ≠ -1 → u = upM z r g ∧ bsB z r g ≠ 0) : ∃ V', d_X5_renewJoin_63 (L.1 12 r g) (nI x) u (eK L G V (RF n L Q)) = some (eK L G V' (RF n L Q)) ∧ RC n 0 V' Q (cm2 z r g (yx x) u) := by
  unfold d_X5_renewJoin_63 cm2
  rcases hu with hu | ⟨p, q, hp, hq, hu, hpl⟩
  · rw [if_pos hu, if_pos hu]
    exact ⟨V, rfl, hC⟩
  · have hn := hC.nn.2.2.2
    have hu1 : u ≠ -1 := by rw [hu]; exact nI_m1 (by omega)
    rw [if_neg hu1, if_neg hu1]
    by_cases hx : x = 16
    · subst hx
      obtain ⟨k1, k2⟩ := h16 rfl hu1
      obtain ⟨f, hf, e⟩ := C_toCutOff hL hC hO.1 h1 h2 k2 (by rw [← k1]; exact hu1)
      rw [if_pos (show nI 16 = 16 from rfl), eK_hc, gd_t (yK12 hL h1 h2), k1, e, b2_e, ← k1, yx_16, if_pos rfl]
      exact C_renew_84 (x := 16) (bits := tcB z r g) hL (RC_scr hC hf) hO h1 h2 (by decide) hp hq hu hpl (by rw [uR_s, hf 4 (by decide)]; exact hkn) (fun w => absurd rfl w)
    · rw [if_neg (nI_n16 (by omega) hx), yx_s (by omega), if_neg (show ¬ x + 1 = 0 by omega)]
      have := C_renew_84 (x := x) (bits := 0) hL hC hO h1 h2 h3 hp hq hu hpl hkn (fun _ => rfl)
      rw [yx_s (by omega)] at this
      exact this
theorem C_renew_29 {u : Int32} (hL : LY L G n Q) (hC : RC n 0 V Q z) (hO : MO z) (h1 : r < n) (h2 : g < 8) (h3 : x < 17) (hu : u = -1 ∨ ∃ p q, p < 4 ∧ q < n ∧ u = nI (16 * p + q) ∧ qpw Q (4 * r + p) ≠ -1) (hkn : bt (V 12 r g 4) x = true) (h16 : x = 16 → u ≠ -1 → u = upM z r g ∧ bsB z r g ≠ 0) : ∃ V', d_X5_renewJoin_29 (L.1 12 r g) (nI x) u (eK L G V (RF n L Q)) = some (eK L G V' (RF n L Q)) ∧ RC n 0 V' Q (cm2 (cm1 z r g (yx x) u) r g (yx x) u) := by
  have hn := hC.nn.2.2.2
  have hnr := hC.nr
  have hy := yx_lt h3
  unfold d_X5_renewJoin_29
  rw [eK_hc, gd_t (yK12 hL h1 h2), rK12_5 hL h1 h2, eK_hl, yK13 hL h1 h2, lK13 hL h1 h2, gd_t ⟨rfl, (ix_nI (by omega)).mpr h3⟩, gd_t ⟨rfl, (ix_nI (by omega)).mpr h3⟩, iK13 hL h1 h2, nI_clamp (by omega), hC.jb r g x h1 h2 h3]
  rcases hO.2.2 (17 * (8 * r + g) + yx x) (by omega) with ⟨a1, a2⟩ | ⟨p1, q1, hp1, hq1, a1, a2⟩
  · have c1 : cm1 z r g (yx x) u = z := by
      unfold cm1
      rw [if_pos (Or.inl a1)]
    rw [a1, c1]
    unfold jbV
    rw [if_pos rfl, if_pos rfl]
    exact C_renew_63 hL hC hO h1 h2 h3 hu hkn h16
  · have n1 : ¬ nI p1 = -1 := nI_m1 (by omega)
    have ej : 16 * nI p1 + nI q1 = nI (16 * p1 + q1) := by rw [lm16, nI_add]
    rw [a1, a2, jb_n.resolve_right n1, if_neg (nI_m1 (by omega))]
    by_cases hju : nI (16 * p1 + q1) = u
    · have c1 : cm1 z r g (yx x) u = z := by
        unfold cm1
        rw [if_pos (Or.inr (by rw [a1, a2, ej]; exact hju))]
      rw [if_pos hju, c1]
      exact C_renew_63 hL hC hO h1 h2 h3 hu hkn h16
    · have c1 : cm1 z r g (yx x) u = uA (uA (pu z (z.2 8 (4 * r + p1)) 6 (nI r) (nI q1) (nI g) (if x = 16 then -1 else nI x) 0 0 0).2 33 (17 * (8 * r + g) + yx x) (-1)) 34 (17 * (8 * r + g) + yx x) (-1) := by
        unfold cm1
        rw [if_neg (fun w => by rw [a1, a2, ej] at w; exact w.elim n1 hju), a1, a2, nI_clamp (by omega)]
        by_cases hx : x = 16
        · subst hx
          rfl
        · rw [if_neg hx, yx_s (by omega), if_neg (show ¬ x + 1 = 0 by omega), Nat.add_sub_cancel]
      have h1' := sh_cm1 (z := z) (r := r) (g := g) (y := yx x) (u := u)
      have hOc : MO (cm1 z r g (yx x) u) := MO_cm1 hO
      rw [if_neg hju]
      have fin : ∀ V1, RC n 0 V1 Q (pu z (z.2 8 (4 * r + p1)) 6 (nI r) (nI q1) (nI g) (if x = 16 then -1 else nI x) 0 0 0).2 → V1 12 = V 12 → ∃ V', bo (d_X5_joinNone (L.1 12 r g) (nI x) (eK L G V1 (RF n L Q))) (fun G11 => d_X5_renewJoin_63 (L.1 12 r g) (nI x) u G11) = some (eK L G V' (RF n L Q)) ∧ RC n 0 V' Q (cm2 (cm1 z r g (yx x) u) r g (yx x) u) := by
        intro V1 hR1 h12
        obtain ⟨V2, e2, hR2, k4⟩ := C_joinNone hL hR1 h1 h2 h3
        rw [← c1] at hR2
        rw [e2, bo_e]
        exact C_renew_63 hL hR2 hOc h1 h2 h3 hu (by rw [k4, h12]; exact hkn) (fun hx hu1 => by rw [sh_upM h1', sh_bsB h1']; exact h16 hx hu1)
      rcases C_openUp (kd := 6) hL hC hO h1 h2 h3 hp1 (by omega) a1 a2 with ⟨V1, v, f, hv, hm, hf, e, hk, hs, hfr, hT, hb⟩ | ⟨V1, e, hs, hb⟩
      · rw [e, b2_e, eK_hc, gd_t (yK12 hL h1 h2)]
        refine fin V1 ?_ (hs 12 (by decide) (by decide))
        refine RCe (RCv (hb (V1 8 v f) (hk 0 (by decide)) (hk 1 (by decide)) (hk 2 (by decide)) (hk 3 (by decide)) (hk 4 (by decide))) uR_i) ?_
        rw [cz_o (by decide) (by decide)]
        simp (disch := first | omega | assumption) only [vu_s, vu_n, hk 0 (by decide), hk 1 (by decide), hk 2 (by decide), hk 3 (by decide), hk 4 (by decide), hk 5 (by decide), hk 6 (by decide), hk 7 (by decide), f8]
      · rw [e, b2_e, eK_hc, gd_t (yK12 hL h1 h2)]
        exact fin V1 (hb 0 0 0).1 (hs 12 (by decide))
theorem C_renewJoin (hL : LY L G n Q) (hC : RC n 0 V Q z) (hO : MO z) (h1 : r < n) (h2 : g < 8) (h3 : x < 17) : ∃ V', d_X5_renewJoin (L.1 12 r g) (nI x) (eK L G V (RF n L Q)) = some (eK L G V' (RF n L Q)) ∧ RC n 0 V' Q (cmZ z r g (yx x)) := by
  have hn := hC.nn.2.2.2
  have hnr := hC.nr
  have hy := yx_lt h3
  unfold d_X5_renewJoin
  rw [eK_hc, gd_t (yK12 hL h1 h2), iK12 hL h1 h2, C_has (show x < 32 by omega), bo_e, ite_bI]
  cases hk : bt (V 12 r g 4) x with
  | false => exact ⟨V, rfl, RCe hC (unk_cm hC h1 h2 h3 hk).symm⟩
  | true =>
    rw [cond_true]
    have hup : ∀ u, u = upY z r g (yx x) → u = -1 ∨ ∃ p q, p < 4 ∧ q < n ∧ u = nI (16 * p + q) ∧ qpw Q (4 * r + p) ≠ -1 := by
      intro u hu
      by_cases h : u = -1
      · exact Or.inl h
      · obtain ⟨p, q, hp, hq, e, hb⟩ := upY_nb (r := r) (g := g) (y := yx x) hO.1 (by omega) h2 hy (by rw [← hu]; exact h)
        refine Or.inr ⟨p, q, hp, by omega, hu.trans e, fun w => ?_⟩
        rw [un_nb (q := q) hO.1 hC h1 hp w (by omega)] at hb
        cases hb
    unfold cmZ
    by_cases hx : x = 16
    · subst hx
      have e0 := C_wants0 hL hC hO.1 h1 h2
      rw [show nI 16 = (16 : Int32) from rfl, e0, b2_e, ite_bI, eK_hc, gd_t (yK12 hL h1 h2), C_upM hL hC hO.1 h1 h2, bo_e]
      have ew : wantY z r g (yx 16) = want0 z r g := rfl
      have eu : upY z r g (yx 16) = upM z r g := rfl
      rw [ew, eu]
      cases hw : want0 z r g with
      | false => exact C_renew_29 (x := 16) hL hC hO h1 h2 (by decide) (Or.inl rfl) hk (fun _ w => absurd rfl w)
      | true =>
        refine C_renew_29 (x := 16) hL hC hO h1 h2 (by decide) (hup _ rfl) hk (fun _ _ => ⟨rfl, ?_⟩)
        unfold want0 at hw
        rw [Bool.and_eq_true] at hw
        exact of_decide_eq_true hw.2
    · have hs : x < 16 := by omega
      obtain ⟨f, hlk, e0⟩ := C_wantsS hL hC hO.1 h1 h2 hs
      have hC1 := RC_scr hC hlk.1
      have hk1 : bt (uR V 12 r g f 12 r g 4) x = true := by
        rw [uR_s, hlk.1 4 (by decide)]
        exact hk
      rw [e0, b2_e, ite_bI, eK_hc, gd_t (yK12 hL h1 h2), C_upS hL hC1 hO.1 h1 h2 hs, bo_e]
      have ew : wantY z r g (yx x) = wantS z r g x := by
        unfold wantY
        rw [yx_s hs, if_neg (by omega), Nat.add_sub_cancel]
      have eu : upY z r g (yx x) = upS z r g x := by
        unfold upY
        rw [yx_s hs, if_neg (by omega), Nat.add_sub_cancel]
      rw [ew, eu]
      cases hw : wantS z r g x with
      | false => exact C_renew_29 hL hC1 hO h1 h2 h3 (Or.inl rfl) hk1 (fun w => absurd w hx)
      | true => exact C_renew_29 hL hC1 hO h1 h2 h3 (hup _ eu.symm) hk1 (fun w => absurd w hx)
end
