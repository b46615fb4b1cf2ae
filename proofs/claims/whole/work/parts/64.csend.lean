/-! THE CLASS'S TREES: what they send -/
theorem RCe {n : Nat} {st : Int32} {V : Vt} {Q : Qt} {z z' : Sg} (h : RC n st V Q z) (e : z = z') : RC n st V Q z' := e ▸ h
theorem RCv {n : Nat} {st : Int32} {V V' : Vt} {Q : Qt} {z : Sg} (h : RC n st V Q z) (e : V = V') : RC n st V' Q z := e ▸ h
theorem cz8 {se : Int32} {z : Sg} : cz 8 se z = inc true 7 z := if_pos rfl
theorem cz7 {se : Int32} {z : Sg} (h : se < 100) : cz 7 se z = inc true 5 z := (if_neg (by decide)).trans (if_pos ⟨rfl, h⟩)
theorem cz7h {se : Int32} {z : Sg} (h : ¬ se < 100) : cz 7 se z = z := (if_neg (by decide)).trans (if_neg (fun w => h w.2))
theorem cz_o {kd se : Int32} {z : Sg} (h8 : kd ≠ 8) (h7 : kd ≠ 7) : cz kd se z = z := (if_neg h8).trans (if_neg (fun w => h7 w.1))
theorem pu_T {z : Sg} {v : Nat} {a0 a1 a2 a3 a4 a5 a6 a7 : Int32} (hv : v < 16) (h : puT z v) : (pu z (nI v) a0 a1 a2 a3 a4 a5 a6 a7).1 = true := by
  unfold pu
  rw [if_neg (nI_m1 (by omega)), nI_clamp (by omega), if_pos h.1, if_neg h.2]
theorem pu_m1 {z : Sg} {a0 a1 a2 a3 a4 a5 a6 a7 : Int32} : pu z (-1) a0 a1 a2 a3 a4 a5 a6 a7 = (false, z) := if_pos rfl
theorem lt100 {r : Nat} (h : r < 10) : nI r < 100 := nI_lt (b := 100) (by omega) (by decide)
/-- what is put apart from the wires can be put before or behind -/
theorem uA_comm {z : Sg} {k k' i i' : Nat} {v v' : Int32} (h : k ≠ k') : uA (uA z k i v) k' i' v' = uA (uA z k' i' v') k i v := by
  refine Prod.ext rfl ?_
  funext a
  show u2 (u2 z.2 k i v) k' i' v' a = u2 (u2 z.2 k' i' v') k i v a
  unfold u2
  by_cases e : a = k
  · subst e
    rw [if_neg h, if_pos rfl, if_pos rfl, if_neg h]
  · by_cases e' : a = k'
    · subst e'
      rw [if_pos rfl, if_neg e, if_neg e, if_pos rfl]
    · rw [if_neg e', if_neg e, if_neg e, if_neg e']
theorem uA_uS {z : Sg} {k i k' : Nat} {v v' : Int32} : uA (uS z k' v') k i v = uS (uA z k i v) k' v' := rfl
theorem pu_uA {z : Sg} {k i : Nat} {x v a0 a1 a2 a3 a4 a5 a6 a7 : Int32} (h : k ≠ 10 ∧ k ≠ 16 ∧ k ≠ 17 ∧ k ≠ 18) : pu (uA z k i x) v a0 a1 a2 a3 a4 a5 a6 a7 = ((pu z v a0 a1 a2 a3 a4 a5 a6 a7).1, uA (pu z v a0 a1 a2 a3 a4 a5 a6 a7).2 k i x) := by
  unfold pu
  rw [uA_ne (Ne.symm h.1), uA_ne (Ne.symm h.2.2.1)]
  split
  · rfl
  · split
    · split
      · rfl
      · refine Prod.ext rfl ?_
        show ptZ (uA z k i x) v.toNatClampNeg a0 a1 a2 a3 a4 a5 a6 a7 = uA (ptZ z v.toNatClampNeg a0 a1 a2 a3 a4 a5 a6 a7) k i x
        unfold ptZ wr8
        rw [uA_ne (Ne.symm h.2.1), uA_ne (Ne.symm h.2.2.1), uA_uS, uA_comm h.2.2.2, uA_comm h.2.2.2, uA_comm h.2.2.2, uA_comm h.2.2.2, uA_comm h.2.2.2, uA_comm h.2.2.2, uA_comm h.2.2.2, uA_comm h.2.2.2, uA_comm h.2.1, uA_comm h.2.2.1]
        rfl
    · rfl
section
variable {L : Ly} {G : Hp} {n : Nat} {st : Int32} {V : Vt} {Q : Qt} {z : Sg} {r p q g s x y m : Nat}
theorem port_w (hC : RC n st V Q z) (hF : WF z) (h1 : r < n) (h2 : p < 4) (hu : qpw Q (4 * r + p) ≠ -1) : ∃ v, v < 16 ∧ qpw Q (4 * r + p) = nI v ∧ z.2 8 (4 * r + p) = nI v ∧ qmd Q v = true := by
  have hn := hC.nn.2.2.2
  have e : qpw Q (4 * r + p) = z.2 8 (4 * r + p) := by rw [hC.qw]
  rcases hF.2.2.2.2.2 (4 * r + p) (by omega) with a | ⟨v, hv, a⟩
  · exact absurd (e.trans a) hu
  · refine ⟨v, hv, e.trans a, a, ?_⟩
    have := hC.md.1 (4 * r + p) (by omega) hu
    rw [e, a, nI_clamp (by omega)] at this
    exact this
theorem C_sendClaim (hL : LY L G n Q) (hC : RC n st V Q z) (hO : MO z) (h1 : r < n) (h2 : g < 8) (hp : p < 4) (hu : qpw Q (4 * r + p) ≠ -1) (hcl : V 12 r g 11 = ownC z r g s) : ∃ V', d_X5_sendClaim (L.1 12 r g) (nI s) (nI p) (eK L G V (RF n L Q)) = some (eK L G V' (RF n L Q)) ∧ RC n st V' Q (scZ z r p g s) := by
  obtain ⟨v, hv, ev, ez, hm⟩ := port_w hC hO.1 h1 hp hu
  unfold d_X5_sendClaim
  simp (disch := first | omega | assumption) only [eK_hc, eK_hl, yK12 hL, iK12 hL, rK12_0 hL, rK12_3 hL, rK12_5 hL, rK12_6 hL, rK12_8 hL, rK12_9 hL, rK12_10 hL, yK10 hL, iK10 hL, lK10 hL, rK10 hL, lm4, lm8, lm10, lm16, lm17, lm26, lm40, lm400, nI_add, nI_1, ix_nI, nI_clamp, gd_T, gd_t, bd_e, bo_e, b2_e, true_and, and_true, if_pos hu]
  simp (disch := first | omega | assumption) only [eK_hc, eK_hl, yK18 hL, iK18 hL, rK18_0 hL, rK18_2 hL, rK18_7 hL, rK18_8 hL, rK18_9 hL, rK18_10 hL, rK18_11 hL, rK18_12 hL, ev, lm4, lm8, lm10, lm16, lm17, lm26, lm40, lm400, nI_add, nI_1, ix_nI, nI_clamp, gd_T, gd_t, bd_e, bo_e, b2_e, true_and, and_true]
  simp (disch := first | omega | assumption) only [eK_hc, eK_hl, yK5 hL, iK5 hL, rK5_1 hL, rK5_3 hL, rK5_4 hL, gd_T, gd_t, bd_e, bo_e, b2_e, true_and, and_true, ((hC.id r h1).2 g h2).1]
  rcases C_open (kd := 8) (se := nI r) hL hC hO.2.1 hv hm with ⟨V1, f, hT, hf, e, hk, hs, hfr, hb⟩ | ⟨V1, hT, e, hs, hb⟩
  · rw [e, b2_e, if_neg (zK8 hL hv hf hm)]
    simp (disch := first | omega | assumption) only [d_X0_aim, eK_hc, eK_hl, yK12 hL, iK12 hL, rK12_0 hL, rK12_3 hL, rK12_5 hL, rK12_6 hL, rK12_8 hL, rK12_9 hL, rK12_10 hL, yK8 hL, iK8 hL, wK8 hL, hs 12 (by decide) (by decide), uR_s, uR_uR, uR_ne, gd_T, gd_t, bd_e, bo_e, b2_e, true_and, and_true, ((hC.id r h1).2 g h2).2, hcl]
    refine ⟨_, rfl, RCe (hb _ ?_ ?_) ?_⟩
    · simp (disch := first | omega | assumption) only [vu_s, vu_n, hk 0 (by decide), hk 1 (by decide), hk 2 (by decide), hk 3 (by decide), hk 4 (by decide), hk 5 (by decide), hk 6 (by decide), hk 7 (by decide), f8]
    · simp (disch := first | omega | assumption) only [vu_s, vu_n, hk 0 (by decide), hk 1 (by decide), hk 2 (by decide), hk 3 (by decide), hk 4 (by decide), hk 5 (by decide), hk 6 (by decide), hk 7 (by decide), f8]
    · simp (disch := first | omega | assumption) only [vu_s, vu_n, hk 0 (by decide), hk 1 (by decide), hk 2 (by decide), hk 3 (by decide), hk 4 (by decide), hk 5 (by decide), hk 6 (by decide), hk 7 (by decide), f8]
      unfold scZ
      rw [ez, pu_T hv hT, cz8]
  · rw [e, b2_e, if_pos rfl]
    refine ⟨_, rfl, RCe (hb 8 (nI r) (-1) (nI g) (nI s) (ownC z r g s) 0 0).1 ?_⟩
    unfold scZ
    rw [ez, (hb 8 (nI r) (-1) (nI g) (nI s) (ownC z r g s) 0 0).2]
    rfl
theorem le0_1 {a : Int32} : a ≤ 0 ↔ ¬ 1 ≤ a := by
  rw [Int32.le_iff_toInt_le, Int32.le_iff_toInt_le, show (0 : Int32).toInt = 0 from rfl, show (1 : Int32).toInt = 1 from rfl]
  omega
theorem sdZ_0 {out but gg ss nu li : Int32} (h : ¬ 1 ≤ li) : ∀ p, sdZ z r out but gg ss nu li p = z := by
  intro p
  induction p with
  | zero => rfl
  | succ p ih =>
    show sd1 (sdZ z r out but gg ss nu li p) r out but gg ss nu li p = z
    rw [ih]
    unfold sd1
    rw [if_pos (Or.inr (Or.inr h))]
theorem C_sendData_3 {out out' but nu li : Int32} (hL : LY L G n Q) (hO : MO z) (h1 : r < n) (h2 : g < 8) (hout : ∀ p, p < 4 → bt out' p = (bt out p && decide (nI p ≠ but))) : ∀ (N p : Nat) (V : Vt), p ≤ 4 → 4 - p < N → RC n st V Q (sdZ z r out but (nI g) (nI s) nu li p) →
    ∃ V', d_X5_sendData_3 N (L.1 12 r g) out' (nI s) nu li (nI p) (eK L G V (RF n L Q)) = some (eK L G V' (RF n L Q)) ∧ RC n st V' Q (sdZ z r out but (nI g) (nI s) nu li 4) := by
  intro N
  induction N with
  | zero => intro p V _ h; omega
  | succ N ih =>
    intro p V hp hlt hC
    have hn := hC.nn.2.2.2
    rw [d_X5_sendData_3.eq_2, show (4 : Int32) = nI 4 from rfl]
    by_cases hpe : p = 4
    · subst hpe
      rw [if_pos (nI_le (by omega) (by omega))]
      exact ⟨V, rfl, hC⟩
    · have hp4 : p < 4 := by omega
      rw [if_neg (nI_ge (by omega) (by decide))]
      by_cases hl : 1 ≤ li
      · rw [if_neg (fun w => (le0_1.mp w) hl)]
        have hOp := MO_sdZ (r := r) (out := out) (but := but) (g := nI g) (s := nI s) (nu := nu) (li := li) hO p
        have es : sdZ z r out but (nI g) (nI s) nu li (p + 1) = sd1 (sdZ z r out but (nI g) (nI s) nu li p) r out but (nI g) (nI s) nu li p := rfl
        simp (disch := first | omega | assumption) only [C_has (show p < 32 by omega), gd_T, gd_t, bd_e, bo_e, b2_e, true_and, and_true, ite_bI, nI_1]
        cases hb : bt out' p with
        | false =>
          rw [cond_false]
          have e1 : sdZ z r out but (nI g) (nI s) nu li (p + 1) = sdZ z r out but (nI g) (nI s) nu li p := by
            rw [es]
            unfold sd1
            rw [if_pos]
            rw [hout p hp4] at hb
            cases h3 : bt out p with
            | false => exact Or.inl ((hb_e (by omega)).mpr h3)
            | true =>
              rw [h3, Bool.true_and] at hb
              exact Or.inr (Or.inl (Classical.not_not.mp (of_decide_eq_false hb)))
          exact ih (p + 1) V (by omega) (by omega) (RCe hC e1.symm)
        | true =>
          rw [cond_true]
          rw [hout p hp4, Bool.and_eq_true] at hb
          have hno : ¬ (((out >>> (nI p &&& 31)) &&& 1) = 0 ∨ nI p = but ∨ ¬ 1 ≤ li) := by
            intro w
            rcases w with w | w | w
            · rw [(hb_e (by omega)).mp w] at hb
              cases hb.1
            · exact (of_decide_eq_true hb.2) w
            · exact w hl
          simp (disch := first | omega | assumption) only [eK_hc, eK_hl, yK12 hL, iK12 hL, rK12_0 hL, rK12_3 hL, rK12_5 hL, rK12_6 hL, rK12_8 hL, rK12_9 hL, rK12_10 hL, yK10 hL, iK10 hL, lK10 hL, rK10 hL, lm4, lm8, lm10, lm16, lm17, lm26, lm40, lm400, nI_add, nI_1, ix_nI, nI_clamp, gd_T, gd_t, bd_e, bo_e, b2_e, true_and, and_true, ((hC.id r h1).2 g h2).1]
          by_cases hu : qpw Q (4 * r + p) = -1
          · rw [if_neg (not_not_intro hu), if_pos rfl]
            have e1 : sdZ z r out but (nI g) (nI s) nu li (p + 1) = sdZ z r out but (nI g) (nI s) nu li p := by
              rw [es]
              unfold sd1
              rw [if_neg hno, ← hC.qw, hu, pu_m1]
              rfl
            exact ih (p + 1) V (by omega) (by omega) (RCe hC e1.symm)
          · rw [if_pos hu, if_neg (zK18 hL h1 hp4 hu)]
            obtain ⟨v, hv, ev, ez, hm⟩ := port_w hC hOp.1 h1 hp4 hu
            simp (disch := first | omega | assumption) only [eK_hc, eK_hl, yK18 hL, iK18 hL, rK18_0 hL, rK18_2 hL, rK18_7 hL, rK18_8 hL, rK18_9 hL, rK18_10 hL, rK18_11 hL, rK18_12 hL, ev, lm4, lm8, lm10, lm16, lm17, lm26, lm40, lm400, nI_add, nI_1, ix_nI, nI_clamp, gd_T, gd_t, bd_e, bo_e, b2_e, true_and, and_true]
            simp (disch := first | omega | assumption) only [eK_hc, eK_hl, yK5 hL, iK5 hL, rK5_1 hL, rK5_3 hL, rK5_4 hL, gd_T, gd_t, bd_e, bo_e, b2_e, true_and, and_true]
            rcases C_open (kd := 7) (se := nI r) hL hC hOp.2.1 hv hm with ⟨V1, f, hT, hf, e, hk, hs, hfr, hb'⟩ | ⟨V1, hT, e, hs, hb'⟩
            · rw [e, b2_e, if_neg (zK8 hL hv hf hm)]
              simp (disch := first | omega | assumption) only [d_X0_aim, eK_hc, eK_hl, yK12 hL, iK12 hL, rK12_0 hL, rK12_3 hL, rK12_5 hL, rK12_6 hL, rK12_8 hL, rK12_9 hL, rK12_10 hL, yK8 hL, iK8 hL, wK8 hL, hs 12 (by decide) (by decide), uR_s, uR_uR, uR_ne, gd_T, gd_t, bd_e, bo_e, b2_e, true_and, and_true, ((hC.id r h1).2 g h2).2]
              refine ih (p + 1) _ (by omega) (by omega) (RCe (hb' _ ?_ ?_) ?_)
              · simp (disch := first | omega | assumption) only [vu_s, vu_n, hk 0 (by decide), hk 1 (by decide), hk 2 (by decide), hk 3 (by decide), hk 4 (by decide), hk 5 (by decide), hk 6 (by decide), hk 7 (by decide), f8]
              · simp (disch := first | omega | assumption) only [vu_s, vu_n, hk 0 (by decide), hk 1 (by decide), hk 2 (by decide), hk 3 (by decide), hk 4 (by decide), hk 5 (by decide), hk 6 (by decide), hk 7 (by decide), f8]
              · simp (disch := first | omega | assumption) only [vu_s, vu_n, hk 0 (by decide), hk 1 (by decide), hk 2 (by decide), hk 3 (by decide), hk 4 (by decide), hk 5 (by decide), hk 6 (by decide), hk 7 (by decide), f8]
                rw [es]
                unfold sd1
                rw [if_neg hno, ez, pu_T hv hT, cz7 (lt100 (by omega))]
            · rw [e, b2_e, if_pos rfl]
              refine ih (p + 1) _ (by omega) (by omega) (RCe (hb' 7 (nI r) (-1) (nI g) (nI s) nu 0 li).1 ?_)
              rw [es]
              unfold sd1
              rw [if_neg hno, ez, (hb' 7 (nI r) (-1) (nI g) (nI s) nu 0 li).2]
              rfl
      · rw [if_pos (le0_1.mpr hl)]
        rw [sdZ_0 hl] at hC ⊢
        exact ⟨V, rfl, hC⟩
theorem C_sendData {out out' but nu li : Int32} (hL : LY L G n Q) (hC : RC n st V Q z) (hO : MO z) (h1 : r < n) (h2 : g < 8) (hout : ∀ p, p < 4 → bt out' p = (bt out p && decide (nI p ≠ but))) : ∃ V', d_X5_sendData (L.1 12 r g) out' (nI s) nu li (eK L G V (RF n L Q)) = some (eK L G V' (RF n L Q)) ∧ RC n st V' Q (sdZ z r out but (nI g) (nI s) nu li 4) :=
  C_sendData_3 hL hO h1 h2 hout FU 0 V (by omega) (by show _ < 6000; omega) hC
end
