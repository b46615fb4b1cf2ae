/-! THE CLASS'S TREES: the ways up, what is cut off, tunnels -/
/-! a port that is a way is there -/
theorem pOn_pl {z : Sg} {r p : Nat} {w : Int32} (hp : p < 4) (h : pOn z r w = nI p) : z.2 8 (4 * r + p) = w := by
  unfold pOn at h
  have k0 : ∀ a b : Nat, a < 4 → b < 4 → nI a = nI b → a = b := fun a b ha hb e => (nI_eq (by omega) (by omega)).mp e
  split at h
  · rename_i a
    rw [← k0 0 p (by decide) hp h]
    exact a
  · split at h
    · rename_i a
      rw [← k0 1 p (by decide) hp h]
      exact a
    · split at h
      · rename_i a
        rw [← k0 2 p (by decide) hp h]
        exact a
      · split at h
        · rename_i a
          rw [← k0 3 p (by decide) hp h]
          exact a
        · exact absurd h.symm (nI_m1 (by omega))
def bPl (z : Sg) (r : Nat) (b : Int32 × Int32 × Int32) : Prop := b.1 ≤ 1000000 ∧ (b.2.1 = -1 ∨ ∃ p, p < 4 ∧ b.2.1 = nI p ∧ z.2 8 (4 * r + p) ≠ -1)
theorem bstQ_pl {z : Sg} {f : Nat → Int32} {r p : Nat} {b : Int32 × Int32 × Int32} (hp : p < 4) (hb : bPl z r b) : ∀ q, bPl z r (bstQ z f r p b q) := by
  intro q
  induction q with
  | zero => exact hb
  | succ q ih =>
    show bPl z r (if (bstQ z f r p b q).1 ≤ ovr z f r p q then bstQ z f r p b q else (ovr z f r p q, nI p, nI q))
    split
    · exact ih
    · rename_i h
      have h1 : ovr z f r p q < 1000000 := Int32.lt_of_lt_of_le (Int32.not_le.mp h) ih.1
      refine ⟨Int32.le_of_lt h1, Or.inr ⟨p, hp, rfl, ?_⟩⟩
      unfold ovr at h1
      split at h1
      · exact absurd h1 (by decide)
      · rename_i w
        exact fun e => w (Or.inl (fun u => u.1 e))
theorem bstP_pl {z : Sg} {f : Nat → Int32} {r : Nat} : ∀ p, p ≤ 4 → bPl z r (bstP z f r p) := by
  intro p
  induction p with
  | zero => intro _; exact ⟨by show (1000000 : Int32) ≤ 1000000; decide, Or.inl rfl⟩
  | succ p ih =>
    intro hp
    exact bstQ_pl (by omega) (ih (by omega)) _
theorem Wp_pl {z : Sg} {r m p : Nat} (hm : m < 26) (hp : p < 4) (h : Wp z (26 * r + m) = nI p) : z.2 8 (4 * r + p) ≠ -1 := by
  unfold Wp at h
  rw [show (26 * r + m) % 26 = m by omega, show (26 * r + m) / 26 = r by omega] at h
  split at h
  · exact absurd h.symm (nI_m1 (by omega))
  · split at h
    · rw [pOn_pl hp h]
      exact nI_m1 (by omega)
    · rcases (bstP_pl (z := z) (f := Dt z m) (r := r) 4 (by decide)).2 with e | ⟨p', hp', e, e2⟩
      · rw [e] at h
        exact absurd h.symm (nI_m1 (by omega))
      · rw [e] at h
        rw [(nI_eq (by omega) (by omega)).mp h] at e2
        exact e2
section
variable {L : Ly} {G : Hp} {n : Nat} {st : Int32} {V : Vt} {Q : Qt} {z : Sg} {r p q g s x m : Nat}
theorem un_nb (hF : WF z) (hC : RC n st V Q z) (h1 : r < n) (h2 : p < 4) (h3 : qpw Q (4 * r + p) = -1) (h4 : q < 10) : nb z (4 * r + p) q = false := by
  have hn := hC.nn.2.2.2
  unfold nb
  rw [(hC.un (4 * r + p) (by omega) h3).1 q h4]
  exact decide_eq_false (Int32.not_lt.mpr hF.t0)
theorem C_up_127 (hL : LY L G n Q) (hC : RC n st V Q z) (h1 : r < n) (h2 : g < 8) (h3 : p < 4) (h4 : q < n) (hu : qpw Q (4 * r + p) ≠ -1) : d_X5_up_127 (L.1 12 r g) (nI p) (nI q) (eK L G V (RF n L Q)) = some (if nb z (4 * r + p) q = true then 16 * nI p + nI q else -1) := by
  have hn := hC.nn.2.2.2
  have hr := hC.nr
  unfold d_X5_up_127
  simp (disch := first | omega | assumption) only [eK_hc, eK_hl, yK12 hL, iK12 hL, rK12_0 hL, rK12_3 hL, rK12_5 hL, rK12_6 hL, rK12_8 hL, rK12_9 hL, rK12_10 hL, yK10 hL, iK10 hL, lK10 hL, rK10 hL, lm4, lm8, lm10, lm16, lm17, lm26, lm40, lm400, nI_add, nI_1, ix_nI, nI_clamp, gd_T, gd_t, bd_e, bo_e, b2_e, true_and, and_true, if_pos hu]
  simp (disch := first | omega | assumption) only [eK_hc, eK_hl, yK18 hL, iK18 hL, rK18_0 hL, rK18_2 hL, rK18_7 hL, rK18_8 hL, rK18_9 hL, rK18_10 hL, rK18_11 hL, rK18_12 hL, gd_T, gd_t, bd_e, bo_e, b2_e, true_and, and_true, lm4, lm8, lm10, lm16, lm17, lm26, lm40, lm400, nI_add, nI_1, ix_nI, nI_clamp, rm16, hC.nb r p h1 h3 hu, C_has (show q < 32 by omega), b_nbits (show nR z ≤ 10 by omega) (show q < 32 by omega), ite_bI]
  rw [decide_eq_true (show q < nR z by omega), Bool.true_and]
  cases nb z (4 * r + p) q <;> rfl
theorem C_up_112 {c : Int32} (hL : LY L G n Q) (hC : RC n st V Q z) (h1 : r < n) (h2 : g < 8) (h3 : p < 4) (h4 : q < n) (hu : qpw Q (4 * r + p) ≠ -1) (hc : c = -1 ∨ ∃ q, q < n ∧ c - c / 100 * 100 = nI q) : d_X5_up_112 (L.1 12 r g) (nI p) (nI q) c (eK L G V (RF n L Q)) = some (if nb z (4 * r + p) (if c = -1 then nI q else c - c / 100 * 100).toNatClampNeg = true then 16 * nI p + (if c = -1 then nI q else c - c / 100 * 100) else -1) := by
  have hn := hC.nn.2.2.2
  unfold d_X5_up_112
  rcases hc with e | ⟨q', hq', e⟩
  · rw [if_pos e, if_pos e, C_up_127 hL hC h1 h2 h3 h4 hu, nI_clamp (by omega)]
  · by_cases h : c = -1
    · rw [if_pos h, if_pos h, C_up_127 hL hC h1 h2 h3 h4 hu, nI_clamp (by omega)]
    · rw [if_neg h, if_neg h, e, C_up_127 hL hC h1 h2 h3 hq' hu, nI_clamp (by omega)]
theorem C_up_29 (hL : LY L G n Q) (hC : RC n 0 V Q z) (hF : WF z) (h1 : r < n) (h2 : g < 8) (h3 : x < 17) (h4 : m < 26) : d_X5_up_29 (L.1 12 r g) (nI x) (nI m) (eK L G V (RF n L Q)) = some (upG z r (26 * r + m) (if x = 16 then -1 else clm z (4 * r + (Wp z (26 * r + m)).toNatClampNeg) g x)) := by
  have hn := hC.nn.2.2.2
  have hr := hC.nr
  unfold d_X5_up_29 upG
  simp (disch := first | omega | assumption) only [eK_hc, eK_hl, yK12 hL, iK12 hL, rK12_0 hL, rK12_3 hL, rK12_5 hL, rK12_6 hL, rK12_8 hL, rK12_9 hL, rK12_10 hL, yK1 hL, iK1 hL, rK1_0 hL, rK1_1 hL, rK1_2 hL, rK1_3 hL, yK2 hL, iK2 hL, rK2_1 hL, rK2_2 hL, rK2_3 hL, rK2_4 hL, rK2_5 hL, gd_T, gd_t, bd_e, bo_e, b2_e, true_and, and_true, ((hC.id r h1).2 g h2).1, C_portTo hL hC h1 h4, C_routerTo hL hC h1 h4]
  rcases Wr_ok z (26 * r + m) with e | ⟨q, hq, e⟩
  · rw [if_pos e, if_pos e]
    split <;> rfl
  · rw [e, if_neg (nI_m1 (by omega)), if_neg (nI_m1 (by omega))]
    rcases Wp_ok z (26 * r + m) with e2 | ⟨p, hp, e2⟩
    · rw [e2, if_pos rfl, show (4 : Int32) = nI 4 from rfl, C_isIn, inR_m1]
      rfl
    · rw [e2, if_neg (nI_m1 (by omega)), show (4 : Int32) = nI 4 from rfl, C_isIn, inR_n hp (by decide)]
      simp (disch := first | omega | assumption) only [eK_hc, eK_hl, yK12 hL, iK12 hL, rK12_0 hL, rK12_3 hL, rK12_5 hL, rK12_6 hL, rK12_8 hL, rK12_9 hL, rK12_10 hL, yK10 hL, iK10 hL, lK10 hL, rK10 hL, lm4, lm8, lm10, lm16, lm17, lm26, lm40, lm400, nI_add, nI_1, ix_nI, nI_clamp, gd_T, gd_t, bd_e, bo_e, b2_e, true_and, and_true, ((hC.id r h1).2 g h2).2, ite_bI, cond_true]
      by_cases hu : qpw Q (4 * r + p) = -1
      · rw [if_neg (not_not_intro hu), if_pos rfl]
        have t : (if x = 16 then (-1 : Int32) else clm z (4 * r + p) g x) = -1 := by
          by_cases hx : x = 16
          · rw [if_pos hx]
          · rw [if_neg hx, un_clm hC h1 hp hu h2 (by omega)]
        rw [t, if_pos rfl, nI_clamp (by omega), un_nb hF hC h1 hp hu (by omega), if_neg (show ¬ (false = true) by decide)]
      · rw [if_pos hu, if_neg (zK18 hL h1 hp hu)]
        by_cases hx : x = 16
        · subst hx
          rw [if_pos (show nI 16 = 16 from rfl), if_pos rfl, C_up_112 hL hC h1 h2 hp (by omega) hu (Or.inl rfl), lm16]
        · rw [if_neg (nI_n16 (by omega) hx), if_neg hx, gd_t (yK18 hL h1 hp hu), C_keptClaim hL hC hF h1 hp hu h2 (show x < 16 by omega), bo_e, C_up_112 hL hC h1 h2 hp (by omega) hu (hr ▸ clm_ok (r := r) (p := p) (g := g) (s := x) hF (by omega) hp h2 (by omega)), lm16]
theorem C_up_291 {a : Nat} {x1 : Int32} (hL : LY L G n Q) (h1 : r < n) (h2 : g < 8) : d_X5_up_29 (L.1 12 r g) x1 (-1) (eK L G V (RF n L Q)) = some (-1) := by
  unfold d_X5_up_29
  simp (disch := first | omega | assumption) only [eK_hc, eK_hl, yK12 hL, iK12 hL, rK12_0 hL, rK12_3 hL, rK12_5 hL, rK12_6 hL, rK12_8 hL, rK12_9 hL, rK12_10 hL, yK1 hL, iK1 hL, rK1_0 hL, rK1_1 hL, rK1_2 hL, rK1_3 hL, yK2 hL, iK2 hL, rK2_1 hL, rK2_2 hL, rK2_3 hL, rK2_4 hL, rK2_5 hL, gd_T, gd_t, bd_e, bo_e, b2_e, true_and, and_true, C_portTo1, C_routerTo1]
  rfl
theorem C_upS (hL : LY L G n Q) (hC : RC n 0 V Q z) (hF : WF z) (h1 : r < n) (h2 : g < 8) (h3 : s < 16) : d_X5_up (L.1 12 r g) (nI s) (eK L G V (RF n L Q)) = some (upS z r g s) := by
  unfold d_X5_up upS
  rw [if_neg (nI_n16 (x := s) (by omega) (by omega))]
  simp (disch := first | omega | assumption) only [eK_hc, eK_hl, yK12 hL, iK12 hL, rK12_0 hL, rK12_3 hL, rK12_5 hL, rK12_6 hL, rK12_8 hL, rK12_9 hL, rK12_10 hL, yK1 hL, iK1 hL, rK1_0 hL, rK1_1 hL, rK1_2 hL, rK1_3 hL, gd_T, gd_t, bd_e, bo_e, b2_e, true_and, and_true, C_targetOf hL hC hF h3]
  by_cases h : noW z s
  · rw [if_pos h, if_pos h, C_up_291 (a := 0) hL h1 h2]
  · have := (hwN_of hF h3 h).1
    rw [if_neg h, if_neg h, C_up_29 hL hC hF h1 h2 (by omega) (by omega), tS_a, if_neg (by omega)]
theorem C_upM (hL : LY L G n Q) (hC : RC n 0 V Q z) (hF : WF z) (h1 : r < n) (h2 : g < 8) : d_X5_up (L.1 12 r g) 16 (eK L G V (RF n L Q)) = some (upM z r g) := by
  have hn := hC.nn.2.2.2
  have hr := hC.nr
  obtain ⟨m1, m2⟩ := mtN_of hF h2
  unfold d_X5_up upM
  rw [if_pos rfl]
  simp (disch := first | omega | assumption) only [eK_hc, eK_hl, yK12 hL, iK12 hL, rK12_0 hL, rK12_3 hL, rK12_5 hL, rK12_6 hL, rK12_8 hL, rK12_9 hL, rK12_10 hL, yK1 hL, iK1 hL, rK1_0 hL, rK1_1 hL, rK1_2 hL, rK1_3 hL, yK3_5 hL, iK3_5 hL, lK3_5 hL, lm4, lm8, lm10, lm16, lm17, lm26, lm40, lm400, nI_add, nI_1, ix_nI, nI_clamp, gd_T, gd_t, bd_e, bo_e, b2_e, true_and, and_true, ((hC.id r h1).2 g h2).2, hC.mt g h2]
  have e := C_up_29 (x := 16) hL hC hF h1 h2 (by decide) (show mtN z g < 26 by omega)
  rw [← m2] at e
  exact e
theorem C_isBranch {a b : Int32} (hL : LY L G n Q) (hC : RC n st V Q z) (h1 : r < n) (h2 : g < 8) (h3 : s < 16) (h4 : p < 32) (ha : V 12 r g 13 = a) (hb : V 12 r g 14 = b) : d_X5_isBranch (L.1 12 r g) (nI s) (nI p) (eK L G V (RF n L Q)) = some (bI (cond (strt z r g s) (bt b p) (bt a p))) := by
  unfold d_X5_isBranch
  simp (disch := first | omega | assumption) only [eK_hc, eK_hl, yK12 hL, iK12 hL, rK12_0 hL, rK12_3 hL, rK12_5 hL, rK12_6 hL, rK12_8 hL, rK12_9 hL, rK12_10 hL, gd_T, gd_t, bd_e, bo_e, b2_e, true_and, and_true, C_isStraight hL hC h1 h2 h3, ha, hb, C_has h4, bI_and1, ite_bI]
  cases strt z r g s <;> rfl
theorem C_goesStraight (hL : LY L G n Q) (hC : RC n 0 V Q z) (hF : WF z) (h1 : r < n) (h2 : g < 8) (h3 : s < 16) (h4 : p < 4) (ha : V 12 r g 13 = shB z r g s) (hb : V 12 r g 12 = loB4 z r g s) : d_X5_goesStraight (L.1 12 r g) (nI s) (nI p) (eK L G V (RF n L Q)) = some (bI (dirS z r s || mayP z r p g s)) := by
  have el : bt (loB4 z r g s) p = lostP z r p g s := by
    unfold loB4
    rw [b_bN 4 (by decide) p (by omega), decide_eq_true h4, Bool.true_and]
  unfold d_X5_goesStraight mayP
  simp (disch := first | omega | assumption) only [eK_hc, eK_hl, yK12 hL, iK12 hL, rK12_0 hL, rK12_3 hL, rK12_5 hL, rK12_6 hL, rK12_8 hL, rK12_9 hL, rK12_10 hL, gd_T, gd_t, bd_e, bo_e, b2_e, true_and, and_true, C_isDirect hL hC hF h1 h2 h3, C_portToMeeting hL hC hF h1 h2, ha, hb, C_has (show p < 32 by omega), el, C_upS hL hC hF h1 h2 h3, C_upM hL hC hF h1 h2, ite_bI]
  cases dirS z r s with
  | true => rfl
  | false =>
    rw [cond_false, Bool.false_or]
    by_cases a1 : pM z r g = nI p
    · rw [if_pos a1, decide_eq_false (not_not_intro a1), Bool.false_or]
      by_cases a2 : shB z r g s = 0
      · rw [if_pos a2, decide_eq_true a2]
        rfl
      · rw [if_neg a2, decide_eq_false a2, Bool.false_or]
        cases lostP z r p g s with
        | true => rfl
        | false =>
          rw [cond_false, Bool.false_or]
          by_cases a3 : upS z r g s = -1
          · rw [if_pos a3, decide_eq_false (fun w => w.1 a3)]
            rfl
          · rw [if_neg a3]
            by_cases a4 : upS z r g s = upM z r g
            · rw [if_pos a4, decide_eq_true ⟨a3, a4⟩]
              rfl
            · rw [if_neg a4, decide_eq_false (fun w => a4 w.2)]
              rfl
    · rw [if_neg a1, decide_eq_true a1]
      rfl
/-- who may send tunnels -/
def tuB (z : Sg) (r g s : Nat) : Bool := decide (nI r ≠ z.2 12 g) && dirS z r s && fst z r (pS z r s).toNatClampNeg
theorem pS_ok (z : Sg) (r s : Nat) : pS z r s = -1 ∨ ∃ p, p < 4 ∧ pS z r s = nI p := by
  unfold pS
  split
  · exact Or.inl rfl
  · exact Wp_ok z _
theorem pS_pl (hC : RC n st V Q z) (hF : WF z) (h3 : s < 16) (hp : p < 4) (e : pS z r s = nI p) : qpw Q (4 * r + p) ≠ -1 := by
  unfold pS at e
  rw [hC.qw]
  by_cases h : noW z s
  · rw [if_pos h] at e
    exact absurd e.symm (nI_m1 (by omega))
  · have := (hwN_of hF h3 h).1
    rw [if_neg h, ← tS_a] at e
    exact Wp_pl (by omega) hp e
theorem C_mayTunnel (hL : LY L G n Q) (hC : RC n 0 V Q z) (hF : WF z) (h1 : r < n) (h2 : g < 8) (h3 : s < 16) : d_X5_mayTunnel (L.1 12 r g) (nI s) (eK L G V (RF n L Q)) = some (bI (tuB z r g s)) := by
  unfold d_X5_mayTunnel tuB
  simp (disch := first | omega | assumption) only [eK_hc, eK_hl, yK12 hL, iK12 hL, rK12_0 hL, rK12_3 hL, rK12_5 hL, rK12_6 hL, rK12_8 hL, rK12_9 hL, rK12_10 hL, gd_T, gd_t, bd_e, bo_e, b2_e, true_and, and_true, C_portToSource hL hC hF h1 h2 h3]
  rw [show (4 : Int32) = nI 4 from rfl, C_isIn]
  rcases pS_ok z r s with e | ⟨p, hp, e⟩
  · have hd : dirS z r s = false := by
      unfold dirS
      unfold pS at e
      by_cases h : noW z s
      · exact decide_eq_false (fun w => w.1 h)
      · rw [if_neg h] at e
        exact decide_eq_false (fun w => w.2.1 e)
    rw [e, inR_m1, hd]
    simp [bo_e, bI]
  · have hu := pS_pl hC hF h3 hp e
    rw [e, inR_n hp (by decide)]
    simp (disch := first | omega | assumption) only [eK_hc, eK_hl, yK12 hL, iK12 hL, rK12_0 hL, rK12_3 hL, rK12_5 hL, rK12_6 hL, rK12_8 hL, rK12_9 hL, rK12_10 hL, yK10 hL, iK10 hL, lK10 hL, rK10 hL, lm4, lm8, lm10, lm16, lm17, lm26, lm40, lm400, nI_add, nI_1, ix_nI, nI_clamp, gd_T, gd_t, bd_e, bo_e, b2_e, true_and, and_true, ite_bI, cond_true, if_pos hu, if_neg (zK18 hL h1 hp hu)]
    simp (disch := first | omega | assumption) only [eK_hc, eK_hl, yK18 hL, iK18 hL, rK18_0 hL, rK18_2 hL, rK18_7 hL, rK18_8 hL, rK18_9 hL, rK18_10 hL, rK18_11 hL, rK18_12 hL, gd_T, gd_t, bd_e, bo_e, b2_e, true_and, and_true, C_isFirst hL hC hF h1 hp hu, C_isDirect hL hC hF h1 h2 h3, C_isMeeting hL hC h1 h2, ite_bI]
    cases fst z r p with
    | false => simp [bI]
    | true =>
      cases dirS z r s with
      | false => simp [bI]
      | true =>
        by_cases a : nI r = z.2 12 g
        · rw [decide_eq_true a, decide_eq_false (not_not_intro a)]
          rfl
        · rw [decide_eq_false a, decide_eq_true a]
          rfl
/-! wants, and what is told ahead -/
theorem C_wantsS (hL : LY L G n Q) (hC : RC n 0 V Q z) (hF : WF z) (h1 : r < n) (h2 : g < 8) (h3 : s < 16) : ∃ f, lkF V z r g s f ∧ d_X5_wants (L.1 12 r g) (nI s) (eK L G V (RF n L Q)) = some (bI (wantS z r g s), eK L G (uR V 12 r g f) (RF n L Q)) := by
  obtain ⟨f, hf, e⟩ := C_look hL hC hF h1 h2 h3
  refine ⟨f, hf, ?_⟩
  unfold d_X5_wants
  rw [if_neg (nI_n16 (x := s) (by omega) (by omega))]
  simp (disch := first | omega | assumption) only [eK_hc, eK_hl, yK12 hL, iK12 hL, rK12_0 hL, rK12_3 hL, rK12_5 hL, rK12_6 hL, rK12_8 hL, rK12_9 hL, rK12_10 hL, gd_T, gd_t, bd_e, bo_e, b2_e, true_and, and_true, e, uR_s, hf.2.2.2.2.2, bI_and1]
theorem C_wants0 (hL : LY L G n Q) (hC : RC n 0 V Q z) (hF : WF z) (h1 : r < n) (h2 : g < 8) : d_X5_wants (L.1 12 r g) 16 (eK L G V (RF n L Q)) = some (bI (want0 z r g), eK L G V (RF n L Q)) := by
  unfold d_X5_wants want0
  rw [if_pos rfl]
  simp (disch := first | omega | assumption) only [eK_hc, eK_hl, yK12 hL, iK12 hL, rK12_0 hL, rK12_3 hL, rK12_5 hL, rK12_6 hL, rK12_8 hL, rK12_9 hL, rK12_10 hL, gd_T, gd_t, bd_e, bo_e, b2_e, true_and, and_true, C_isMeeting hL hC h1 h2, C_base hL hC hF h1 h2, ite_bI]
  by_cases a : nI r = z.2 12 g
  · rw [decide_eq_true a, decide_eq_false (not_not_intro a)]
    rfl
  · rw [decide_eq_false a, decide_eq_true a, cond_false]
    by_cases b : bsB z r g = 0
    · rw [if_pos b, decide_eq_false (not_not_intro b)]
      rfl
    · rw [if_neg b, decide_eq_true b]
      rfl
/-- who is not known is not cut off -/
theorem unk_lost (hC : RC n st V Q z) (h1 : r < n) (h2 : g < 8) (h3 : s < 16) (h4 : p < 4) (hk : bt (V 12 r g 4) s = false) : lostP z r p g s = false := by
  unfold lostP
  have e : clm z (4 * r + p) g s = -1 := by
    unfold clm
    rcases hC.k31 r g s p h1 h2 h3 h4 hk with a | a
    · rw [if_neg (fun w => w.1 a)]
    · rw [if_neg (fun w => (Int32.not_le.mpr w.2.1) a)]
  rw [e, decide_eq_false (fun w => w rfl), Bool.false_and]
theorem unk_cut (hC : RC n st V Q z) (h1 : r < n) (h2 : g < 8) (h3 : s < 16) (h4 : p < 4) (hk : bt (V 12 r g 4) s = false) : cutO z (4 * r + p) g s = false := by
  unfold cutO
  rcases hC.k30 r g s p h1 h2 h3 h4 hk with a | a
  · unfold cutT
    rw [decide_eq_false (fun w => w.1 a), Bool.and_false]
  · unfold jn
    rw [Nat.add_zero, decide_eq_false (Int32.not_lt.mpr a), Bool.false_and]
theorem unk_sh (hC : RC n st V Q z) (h1 : r < n) (h2 : g < 8) (h3 : s < 16) (hk : bt (V 12 r g 4) s = false) : shB z r g s = bsB z r g := by
  unfold shB bsB
  have e : ∀ p, p < 4 → shP z r p g s = bsP z r p g := by
    intro p hp
    unfold shP bsP
    rw [unk_lost hC h1 h2 h3 hp hk, unk_cut hC h1 h2 h3 hp hk]
    simp
  simp only [bN, e 0 (by decide), e 1 (by decide), e 2 (by decide), e 3 (by decide)]
theorem C_toCutOff_4 (hL : LY L G n Q) (hF : WF z) (h1 : r < n) (h2 : g < 8) (hb : bsB z r g ≠ 0) (hup : upM z r g ≠ -1) : ∀ (N s : Nat) (V : Vt), s ≤ 16 → 16 - s < N → RC n 0 V Q z →
    ∃ f, (∀ k, k < 11 → f k = V 12 r g k) ∧ d_X5_toCutOff_4 N (L.1 12 r g) (upM z r g) (bN (fun s => tcP z r g s) s) (nI s) (eK L G V (RF n L Q)) = some (tcB z r g, eK L G (uR V 12 r g f) (RF n L Q)) := by
  intro N
  induction N with
  | zero => intro s V _ h; omega
  | succ N ih =>
    intro s V hs hlt hC
    rw [d_X5_toCutOff_4.eq_2, show (16 : Int32) = nI 16 from rfl]
    by_cases hse : s = 16
    · subst hse
      rw [if_pos (nI_le (by omega) (by omega))]
      exact ⟨V 12 r g, fun _ _ => rfl, by rw [uR_self]; rfl⟩
    · have hs4 : s < 16 := by omega
      rw [if_neg (nI_ge (by omega) (by decide))]
      have t := bN_s (fun s => tcP z r g s) s
      simp (disch := first | omega | assumption) only [eK_hc, eK_hl, yK12 hL, iK12 hL, rK12_0 hL, rK12_3 hL, rK12_5 hL, rK12_6 hL, rK12_8 hL, rK12_9 hL, rK12_10 hL, gd_T, gd_t, bd_e, bo_e, b2_e, true_and, and_true, C_has (show s < 32 by omega), ite_bI, nI_1]
      cases hk : bt (V 12 r g 4) s with
      | false =>
        have ht : tcP z r g s = false := by
          unfold tcP strt
          rw [hC.k39 r g s h1 h2 hs4 hk, unk_sh hC h1 h2 hs4 hk, decide_eq_false hb]
          rfl
        rw [ht, cond_false] at t
        rw [cond_false, ← t]
        exact ih (s + 1) V (by omega) (by omega) hC
      | true =>
        obtain ⟨f, hf, e⟩ := C_look hL hC hF h1 h2 hs4
        have hC' := RC_scr hC hf.1
        have go : ∃ f', (∀ k, k < 11 → f' k = V 12 r g k) ∧ d_X5_toCutOff_4 N (L.1 12 r g) (upM z r g) (bN (fun s => tcP z r g s) (s + 1)) (nI (s + 1)) (eK L G (uR V 12 r g f) (RF n L Q)) = some (tcB z r g, eK L G (uR V 12 r g f') (RF n L Q)) := by
          obtain ⟨f', hf', e'⟩ := ih (s + 1) _ (by omega) (by omega) hC'
          refine ⟨f', fun k hk => ?_, ?_⟩
          · rw [hf' k hk, uR_s, hf.1 k hk]
          · rw [e', uR_uR]
        rw [cond_true]
        simp (disch := first | omega | assumption) only [eK_hc, eK_hl, yK12 hL, iK12 hL, rK12_0 hL, rK12_3 hL, rK12_5 hL, rK12_6 hL, rK12_8 hL, rK12_9 hL, rK12_10 hL, gd_T, gd_t, bd_e, bo_e, b2_e, true_and, and_true, e, uR_s, hf.2.2.2.1, d_X5_toCutOff_53, C_isStraight hL hC' h1 h2 hs4, C_upS hL hC' hF h1 h2 hs4, ite_bI, nI_1]
        by_cases a1 : shB z r g s = 0
        · have ht : tcP z r g s = true := by unfold tcP; rw [decide_eq_true a1, Bool.or_true]
          rw [ht, cond_true] at t
          rw [if_pos a1, ← t]
          exact go
        · rw [if_neg a1]
          cases hst : strt z r g s with
          | false =>
            have ht : tcP z r g s = false := by unfold tcP; rw [decide_eq_false a1, hst]; rfl
            rw [ht, cond_false] at t
            rw [cond_false, ← t]
            exact go
          | true =>
            rw [cond_true]
            by_cases a2 : upS z r g s = upM z r g
            · have ht : tcP z r g s = false := by unfold tcP; rw [decide_eq_false a1, hst, decide_eq_false (fun w => w.2 a2.symm)]; rfl
              rw [ht, cond_false] at t
              rw [if_pos a2, ← t]
              exact go
            · have ht : tcP z r g s = true := by unfold tcP; rw [hst, decide_eq_true ⟨hup, fun w => a2 w.symm⟩]; rfl
              rw [ht, cond_true] at t
              rw [if_neg a2, ← t]
              exact go
theorem C_toCutOff (hL : LY L G n Q) (hC : RC n 0 V Q z) (hF : WF z) (h1 : r < n) (h2 : g < 8) (hb : bsB z r g ≠ 0) (hup : upM z r g ≠ -1) : ∃ f, (∀ k, k < 11 → f k = V 12 r g k) ∧ d_X5_toCutOff (L.1 12 r g) (upM z r g) (eK L G V (RF n L Q)) = some (tcB z r g, eK L G (uR V 12 r g f) (RF n L Q)) :=
  C_toCutOff_4 hL hF h1 h2 hb hup FU 0 V (by omega) (by show _ < 6000; omega) hC
end
