/-! THE CLASS'S TREES: frames on the ways, and up -/
section
variable {L : Ly} {G : Hp} {n : Nat} {st : Int32} {V : Vt} {Q : Qt} {z : Sg} {r p q g s x y m : Nat}
/-- what an opened frame is: t is where it goes -/
def opT (L : Ly) (G : Hp) (n : Nat) (st : Int32) (V : Vt) (Q : Qt) (z : Sg) (kd se a2 a3 a4 : Int32) (P : Int32 → Int32 → Int32 → Bool × Sg) (R : Option (Nat × Hp)) : Prop :=
  (∃ V1 v f, v < 16 ∧ qmd Q v = true ∧ f < 80 ∧ R = some (L.1 8 v f, eK L G V1 (RF n L Q)) ∧ (∀ k, k < 8 → V1 8 v f k = f8 kd se a2 a3 a4 0 0 0 k) ∧ (∀ c, c ≠ 8 → c ≠ 5 → V1 c = V c) ∧ (∀ a i, a < 16 → qmd Q a = true → i < (z.2 19 a).toNatClampNeg → ¬ (a = v ∧ qpi Q a (1 - qcu Q a) i = f) ∧ V1 8 a (qpi Q a (1 - qcu Q a) i) = V 8 a (qpi Q a (1 - qcu Q a) i)) ∧ (∀ a5 a6 a7, (P a5 a6 a7).1 = true) ∧
    ∀ b : Nat → Int32, b 0 = kd → b 1 = se → b 2 = a2 → b 3 = a3 → b 4 = a4 → RC n st (uR V1 8 v f b) Q (cz kd se (P (b 5) (b 6) (b 7)).2)) ∨
  (∃ V1, R = some (0, eK L G V1 (RF n L Q)) ∧ (∀ c, c ≠ 5 → V1 c = V c) ∧ ∀ a5 a6 a7, RC n st V1 Q (P a5 a6 a7).2 ∧ (P a5 a6 a7).1 = false)
theorem C_openTo {kd : Int32} (hL : LY L G n Q) (hC : RC n 0 V Q z) (hO : MO z) (h1 : r < n) (h2 : g < 8) (h4 : m < 26) : opT L G n 0 V Q z kd (nI r) (Wr z (26 * r + m)) (nI g) (nI s) (fun a5 a6 a7 => sbZ z r (26 * r + m) kd (nI g) (nI s) a5 a6 a7) (d_X5_openTo (L.1 12 r g) (nI m) kd (nI s) (eK L G V (RF n L Q))) := by
  have hn := hC.nn.2.2.2
  unfold d_X5_openTo
  simp (disch := first | omega | assumption) only [eK_hc, eK_hl, yK12 hL, iK12 hL, rK12_0 hL, rK12_3 hL, rK12_5 hL, rK12_6 hL, rK12_8 hL, rK12_9 hL, rK12_10 hL, yK1 hL, iK1 hL, rK1_0 hL, rK1_1 hL, rK1_2 hL, rK1_3 hL, yK2 hL, iK2 hL, rK2_1 hL, rK2_2 hL, rK2_3 hL, rK2_4 hL, rK2_5 hL, gd_T, gd_t, bd_e, bo_e, b2_e, true_and, and_true, ((hC.id r h1).2 g h2).1, C_portTo hL hC h1 h4, C_routerTo hL hC h1 h4]
  have none : (∀ a5 a6 a7, sbZ z r (26 * r + m) kd (nI g) (nI s) a5 a6 a7 = (false, z)) → opT L G n 0 V Q z kd (nI r) (Wr z (26 * r + m)) (nI g) (nI s) (fun a5 a6 a7 => sbZ z r (26 * r + m) kd (nI g) (nI s) a5 a6 a7) (some (0, eK L G V (RF n L Q))) := by
    intro h
    refine Or.inr ⟨V, rfl, fun _ _ => rfl, fun a5 a6 a7 => ?_⟩
    show RC n 0 V Q (sbZ z r (26 * r + m) kd (nI g) (nI s) a5 a6 a7).2 ∧ (sbZ z r (26 * r + m) kd (nI g) (nI s) a5 a6 a7).1 = false
    rw [h]
    exact ⟨hC, rfl⟩
  rcases Wr_ok z (26 * r + m) with e | ⟨q, hq, e⟩
  · rw [if_pos e]
    exact none (fun a5 a6 a7 => by unfold sbZ; rw [if_pos (Or.inr e)])
  · rw [if_neg (by rw [e]; exact nI_m1 (by have := hC.nr; omega))]
    have hr0 : ¬ Wr z (26 * r + m) = -1 := by rw [e]; exact nI_m1 (by have := hC.nr; omega)
    rcases Wp_ok z (26 * r + m) with e2 | ⟨p, hp, e2⟩
    · rw [e2, show (4 : Int32) = nI 4 from rfl, C_isIn, inR_m1]
      exact none (fun a5 a6 a7 => by unfold sbZ; rw [if_pos (Or.inl e2)])
    · rw [e2, show (4 : Int32) = nI 4 from rfl, C_isIn, inR_n hp (by decide)]
      have hu : qpw Q (4 * r + p) ≠ -1 := by rw [hC.qw]; exact Wp_pl h4 hp e2
      obtain ⟨v, hv, ev, ez, hm⟩ := port_w hC hO.1 h1 hp hu
      have esb : ∀ a5 a6 a7, sbZ z r (26 * r + m) kd (nI g) (nI s) a5 a6 a7 = pu z (nI v) kd (nI r) (Wr z (26 * r + m)) (nI g) (nI s) a5 a6 a7 := by
        intro a5 a6 a7
        unfold sbZ
        rw [if_neg (fun w => w.elim (fun w => by rw [e2] at w; exact nI_m1 (by omega) w) hr0), e2, nI_clamp (by omega), ez]
      simp (disch := first | omega | assumption) only [eK_hc, eK_hl, yK12 hL, iK12 hL, rK12_0 hL, rK12_3 hL, rK12_5 hL, rK12_6 hL, rK12_8 hL, rK12_9 hL, rK12_10 hL, yK10 hL, iK10 hL, lK10 hL, rK10 hL, lm4, lm8, lm10, lm16, lm17, lm26, lm40, lm400, nI_add, nI_1, ix_nI, nI_clamp, gd_T, gd_t, bd_e, bo_e, b2_e, true_and, and_true, ite_bI, cond_true, if_pos hu, if_neg (zK18 hL h1 hp hu)]
      simp (disch := first | omega | assumption) only [eK_hc, eK_hl, yK18 hL, iK18 hL, rK18_0 hL, rK18_2 hL, rK18_7 hL, rK18_8 hL, rK18_9 hL, rK18_10 hL, rK18_11 hL, rK18_12 hL, ev, lm4, lm8, lm10, lm16, lm17, lm26, lm40, lm400, nI_add, nI_1, ix_nI, nI_clamp, gd_T, gd_t, bd_e, bo_e, b2_e, true_and, and_true]
      simp (disch := first | omega | assumption) only [eK_hc, eK_hl, yK5 hL, iK5 hL, rK5_1 hL, rK5_3 hL, rK5_4 hL, gd_T, gd_t, bd_e, bo_e, b2_e, true_and, and_true]
      rcases C_open (kd := kd) (se := nI r) hL hC hO.2.1 hv hm with ⟨V1, f, hT, hf, eo, hk, hs, hfr, hb⟩ | ⟨V1, hT, eo, hs, hb⟩
      · rw [eo, b2_e, if_neg (zK8 hL hv hf hm)]
        simp (disch := first | omega | assumption) only [d_X0_aim, eK_hc, eK_hl, yK12 hL, iK12 hL, rK12_0 hL, rK12_3 hL, rK12_5 hL, rK12_6 hL, rK12_8 hL, rK12_9 hL, rK12_10 hL, yK8 hL, iK8 hL, wK8 hL, hs 12 (by decide) (by decide), uR_s, uR_uR, uR_ne, gd_T, gd_t, bd_e, bo_e, b2_e, true_and, and_true, ((hC.id r h1).2 g h2).2]
        refine Or.inl ⟨_, v, f, hv, hm, hf, rfl, fun k hk8 => ?_, fun c c8 c5 => ?_, fun a i ha hma hi => ?_, fun a5 a6 a7 => ?_, fun b b0 b1 b2 b3 b4 => ?_⟩
        · rw [uR_s]
          have : k = 0 ∨ k = 1 ∨ k = 2 ∨ k = 3 ∨ k = 4 ∨ k = 5 ∨ k = 6 ∨ k = 7 := by omega
          rcases this with e | e | e | e | e | e | e | e <;> subst e <;> simp (disch := first | omega | assumption) only [vu_s, vu_n, hk 0 (by decide), hk 1 (by decide), hk 2 (by decide), hk 3 (by decide), hk 4 (by decide), hk 5 (by decide), hk 6 (by decide), hk 7 (by decide), f8]
        · rw [uR_ne c8]
          exact hs c c8 c5
        · obtain ⟨w1, w2⟩ := hfr a i ha hma hi
          exact ⟨w1, by rw [uR_at, if_neg w1]; exact w2⟩
        · show (sbZ z r (26 * r + m) kd (nI g) (nI s) a5 a6 a7).1 = true
          rw [esb, pu_T hv hT]
        · rw [uR_uR]
          refine RCe (hb b b0 b1) ?_
          show _ = cz kd (nI r) (sbZ z r (26 * r + m) kd (nI g) (nI s) (b 5) (b 6) (b 7)).2
          rw [b0, b1, b2, b3, b4, esb]
      · rw [eo, b2_e, if_pos rfl]
        refine Or.inr ⟨V1, rfl, hs, fun a5 a6 a7 => ?_⟩
        show RC n 0 V1 Q (sbZ z r (26 * r + m) kd (nI g) (nI s) a5 a6 a7).2 ∧ (sbZ z r (26 * r + m) kd (nI g) (nI s) a5 a6 a7).1 = false
        rw [esb]
        exact hb kd (nI r) (Wr z (26 * r + m)) (nI g) (nI s) a5 a6 a7
theorem jb_n {p q : Nat} : jbV (nI p) (nI q) = nI (16 * p + q) ∨ nI p = -1 := by
  by_cases h : nI p = -1
  · exact Or.inr h
  · left
    unfold jbV
    rw [if_neg h, lm16, nI_add]
theorem C_openUp {kd : Int32} (hL : LY L G n Q) (hC : RC n st V Q z) (hO : MO z) (h1 : r < n) (h2 : g < 8) (h3 : x < 17) (hp : p < 4) (hq : q < n) (e33 : z.2 33 (17 * (8 * r + g) + yx x) = nI p) (e34 : z.2 34 (17 * (8 * r + g) + yx x) = nI q) : opT L G n st V Q z kd (nI r) (nI q) (nI g) (if x = 16 then -1 else nI x) (fun a5 a6 a7 => pu z (z.2 8 (4 * r + p)) kd (nI r) (nI q) (nI g) (if x = 16 then -1 else nI x) a5 a6 a7) (d_X5_openUp (L.1 12 r g) kd (nI x) (eK L G V (RF n L Q))) := by
  have hn := hC.nn.2.2.2
  have hu : qpw Q (4 * r + p) ≠ -1 := hC.jp r g (yx x) p h1 h2 (yx_lt h3) hp e33
  obtain ⟨v, hv, ev, ez, hm⟩ := port_w hC hO.1 h1 hp hu
  have ejb : V 13 r g x = nI (16 * p + q) := by
    rw [hC.jb r g x h1 h2 h3, e33, e34]
    exact jb_n.resolve_right (nI_m1 (by omega))
  have ed : nI (16 * p + q) / 16 = nI p := by
    rw [show (16 : Int32) = nI 16 from rfl, pk_div (by omega) (by decide) (by decide)]
    exact congrArg nI (by omega)
  have em : nI (16 * p + q) - nI p * 16 = nI q := by
    have := pk_rem (a := 16 * p + q) (d := 16) (by omega) (by decide) (by decide)
    rw [show nI 16 = (16 : Int32) from rfl, ed] at this
    rw [this]
    exact congrArg nI (by omega)
  unfold d_X5_openUp
  simp (disch := first | omega | assumption) only [eK_hc, eK_hl, yK12 hL, iK12 hL, rK12_0 hL, rK12_3 hL, rK12_5 hL, rK12_6 hL, rK12_8 hL, rK12_9 hL, rK12_10 hL, yK13 hL, iK13 hL, lK13 hL, lm4, lm8, lm10, lm16, lm17, lm26, lm40, lm400, nI_add, nI_1, ix_nI, nI_clamp, gd_T, gd_t, bd_e, bo_e, b2_e, true_and, and_true, ejb, ed, ((hC.id r h1).2 g h2).1]
  rw [if_neg (nI_m1 (by omega)), show (4 : Int32) = nI 4 from rfl, C_isIn, inR_n hp (by decide)]
  simp (disch := first | omega | assumption) only [eK_hc, eK_hl, yK12 hL, iK12 hL, rK12_0 hL, rK12_3 hL, rK12_5 hL, rK12_6 hL, rK12_8 hL, rK12_9 hL, rK12_10 hL, yK10 hL, iK10 hL, lK10 hL, rK10 hL, lm4, lm8, lm10, lm16, lm17, lm26, lm40, lm400, nI_add, nI_1, ix_nI, nI_clamp, gd_T, gd_t, bd_e, bo_e, b2_e, true_and, and_true, ite_bI, cond_true, if_pos hu, if_neg (zK18 hL h1 hp hu)]
  simp (disch := first | omega | assumption) only [eK_hc, eK_hl, yK18 hL, iK18 hL, rK18_0 hL, rK18_2 hL, rK18_7 hL, rK18_8 hL, rK18_9 hL, rK18_10 hL, rK18_11 hL, rK18_12 hL, ev, lm4, lm8, lm10, lm16, lm17, lm26, lm40, lm400, nI_add, nI_1, ix_nI, nI_clamp, gd_T, gd_t, bd_e, bo_e, b2_e, true_and, and_true]
  simp (disch := first | omega | assumption) only [eK_hc, eK_hl, yK5 hL, iK5 hL, rK5_1 hL, rK5_3 hL, rK5_4 hL, gd_T, gd_t, bd_e, bo_e, b2_e, true_and, and_true]
  rcases C_open (kd := kd) (se := nI r) hL hC hO.2.1 hv hm with ⟨V1, f, hT, hf, eo, hk, hs, hfr, hb⟩ | ⟨V1, hT, eo, hs, hb⟩
  · rw [eo, b2_e, if_neg (zK8 hL hv hf hm)]
    have fin : ∀ a4 : Int32, opT L G n st V Q z kd (nI r) (nI q) (nI g) a4 (fun a5 a6 a7 => pu z (z.2 8 (4 * r + p)) kd (nI r) (nI q) (nI g) a4 a5 a6 a7) (some (L.1 8 v f, eK L G (uR V1 8 v f (va_up (va_up (va_up (V1 8 v f) 2 (nI q)) 3 (nI g)) 4 a4)) (RF n L Q))) := by
      intro a4
      refine Or.inl ⟨_, v, f, hv, hm, hf, rfl, fun k hk8 => ?_, fun c c8 c5 => ?_, fun a i ha hma hi => ?_, fun a5 a6 a7 => ?_, fun b b0 b1 b2 b3 b4 => ?_⟩
      · rw [uR_s]
        have : k = 0 ∨ k = 1 ∨ k = 2 ∨ k = 3 ∨ k = 4 ∨ k = 5 ∨ k = 6 ∨ k = 7 := by omega
        rcases this with e | e | e | e | e | e | e | e <;> subst e <;> simp (disch := first | omega | assumption) only [vu_s, vu_n, hk 0 (by decide), hk 1 (by decide), hk 2 (by decide), hk 3 (by decide), hk 4 (by decide), hk 5 (by decide), hk 6 (by decide), hk 7 (by decide), f8]
      · rw [uR_ne c8]
        exact hs c c8 c5
      · obtain ⟨w1, w2⟩ := hfr a i ha hma hi
        exact ⟨w1, by rw [uR_at, if_neg w1]; exact w2⟩
      · show (pu z (z.2 8 (4 * r + p)) kd (nI r) (nI q) (nI g) a4 a5 a6 a7).1 = true
        rw [ez, pu_T hv hT]
      · rw [uR_uR]
        refine RCe (hb b b0 b1) ?_
        show _ = cz kd (nI r) (pu z (z.2 8 (4 * r + p)) kd (nI r) (nI q) (nI g) a4 (b 5) (b 6) (b 7)).2
        rw [b0, b1, b2, b3, b4, ez]
    simp (disch := first | omega | assumption) only [d_X0_aim, eK_hc, eK_hl, yK12 hL, iK12 hL, rK12_0 hL, rK12_3 hL, rK12_5 hL, rK12_6 hL, rK12_8 hL, rK12_9 hL, rK12_10 hL, yK13 hL, iK13 hL, lK13 hL, yK8 hL, iK8 hL, wK8 hL, hs 12 (by decide) (by decide), hs 13 (by decide) (by decide), uR_s, uR_uR, uR_ne, lm4, lm8, lm10, lm16, lm17, lm26, lm40, lm400, nI_add, nI_1, ix_nI, nI_clamp, gd_T, gd_t, bd_e, bo_e, b2_e, true_and, and_true, ejb, ed, em, ((hC.id r h1).2 g h2).2]
    by_cases hx : x = 16
    · subst hx
      rw [if_pos (show nI 16 = 16 from rfl), if_pos rfl]
      exact fin (-1)
    · rw [if_neg (nI_n16 (by omega) hx), if_neg hx]
      exact fin (nI x)
  · rw [eo, b2_e, if_pos rfl]
    refine Or.inr ⟨V1, rfl, hs, fun a5 a6 a7 => ?_⟩
    show RC n st V1 Q (pu z (z.2 8 (4 * r + p)) kd (nI r) (nI q) (nI g) (if x = 16 then -1 else nI x) a5 a6 a7).2 ∧ (pu z (z.2 8 (4 * r + p)) kd (nI r) (nI q) (nI g) (if x = 16 then -1 else nI x) a5 a6 a7).1 = false
    rw [ez]
    exact hb kd (nI r) (nI q) (nI g) (if x = 16 then -1 else nI x) a5 a6 a7
end
