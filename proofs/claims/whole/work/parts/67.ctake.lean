/-! THE CLASS: what a port or a tree hears -/
theorem uA_self {z : Sg} {k i : Nat} : uA z k i (z.2 k i) = z := by
  refine Prod.ext rfl ?_
  funext a
  show u2 z.2 k i (z.2 k i) a = z.2 a
  unfold u2
  by_cases e : a = k
  · subst e
    rw [if_pos rfl]
    exact vu_self
  · rw [if_neg e]
theorem imin_l {a b : Int32} : imin a b ≤ a := by
  unfold imin
  split
  · rename_i h
    exact Int32.le_of_lt h
  · exact Int32.le_refl a
section
variable {L : Ly} {G : Hp} {n : Nat} {st : Int32} {V : Vt} {Q : Qt} {z : Sg} {r p q g s x y m : Nat}
theorem WF.t3 (hF : WF z) : ∃ t, t ≤ 6000 ∧ z.1 0 = nI t := hF.2.1
theorem le_add {d : Nat} (hF : WF z) (hd : d ≤ 100) : z.1 0 ≤ z.1 0 + nI d := by
  obtain ⟨t, ht, e⟩ := hF.2.1
  rw [e, nI_add]
  exact nI_le (by omega) (by omega)
theorem lt_add {d : Nat} (hF : WF z) (hd : d ≤ 100) (h0 : 0 < d) : z.1 0 < z.1 0 + nI d := by
  obtain ⟨t, ht, e⟩ := hF.2.1
  rw [e, nI_add]
  exact nI_lt (by omega) (by omega)
theorem C_takeReport (hL : LY L G n Q) (hC : RC n st V Q z) (h1 : r < n) (h2 : g < 8) (hp : p < 4) (hu : qpw Q (4 * r + p) ≠ -1) : ∃ V', d_X5_takeReport (L.1 12 r g) (L.1 18 r p) (eK L G V (RF n L Q)) = some (eK L G V' (RF n L Q)) ∧ RC n st V' Q (uA z 28 (8 * (4 * r + p) + g) (z.1 0 + 60)) := by
  unfold d_X5_takeReport
  simp (disch := first | omega | assumption) only [eK_hc, eK_hl, yK12 hL, iK12 hL, rK12_0 hL, rK12_3 hL, rK12_5 hL, rK12_6 hL, rK12_8 hL, rK12_9 hL, rK12_10 hL, yK18 hL, iK18 hL, rK18_0 hL, rK18_2 hL, rK18_7 hL, rK18_8 hL, rK18_9 hL, rK18_10 hL, rK18_11 hL, rK18_12 hL, yK20 hL, iK20 hL, lK20 hL, yK1 hL, iK1 hL, rK1_0 hL, rK1_1 hL, rK1_2 hL, rK1_3 hL, wK12 hL, wK20 hL, uR_s, uR_ne, vu_n, lm4, lm8, lm10, lm16, lm17, lm26, lm40, lm400, nI_add, nI_1, ix_nI, nI_clamp, gd_T, gd_t, bd_e, bo_e, b2_e, true_and, and_true, ((hC.id r h1).2 g h2).2, hC.tm]
  refine ⟨_, rfl, RC_mb (RC_kn hC kn_or) hp hu h2 (Or.inl ?_)⟩
  rw [uR_s, vu_s, b_or, show (65536 : Int32) = 1 <<< (nI 16 &&& 31) from by decide, b_bit (by decide) (by decide)]
  simp
theorem C_takeLeave (hL : LY L G n Q) (hC : RC n st V Q z) (hO : MO z) (h1 : r < n) (h2 : g < 8) (hp : p < 4) (hu : qpw Q (4 * r + p) ≠ -1) : ∃ V', d_X5_takeLeave (L.1 12 r g) (L.1 18 r p) (eK L G V (RF n L Q)) = some (eK L G V' (RF n L Q)) ∧ RC n st V' Q (lfZ z r p g) := by
  unfold d_X5_takeLeave lfZ
  simp (disch := first | omega | assumption) only [eK_hc, eK_hl, yK12 hL, iK12 hL, rK12_0 hL, rK12_3 hL, rK12_5 hL, rK12_6 hL, rK12_8 hL, rK12_9 hL, rK12_10 hL, yK18 hL, iK18 hL, rK18_0 hL, rK18_2 hL, rK18_7 hL, rK18_8 hL, rK18_9 hL, rK18_10 hL, rK18_11 hL, rK18_12 hL, gd_T, gd_t, bd_e, bo_e, b2_e, true_and, and_true, ((hC.id r h1).2 g h2).2, C_hasMembers hL hC h1 hp hu h2, C_isAsking hL hC h1 hp hu, ite_bI]
  cases hme : mem z (4 * r + p) g with
  | false => exact ⟨V, rfl, hC⟩
  | true =>
    cases hask : askg z r p with
    | false => exact ⟨V, rfl, hC⟩
    | true =>
      rw [cond_true, cond_true, Bool.and_self, cond_true]
      have hkn : bt (V 12 r g 4) 16 = true := by
        cases hb : bt (V 12 r g 4) 16 with
        | true => rfl
        | false => exact absurd (hC.k28 r g p h1 h2 hp hb) (Int32.not_le.mpr (of_decide_eq_true hme))
      have hC1 : RC n st (uR V 20 r p (va_up (V 20 r p) g (imin (z.2 28 (8 * (4 * r + p) + g)) (z.1 0 + 4)))) Q (if z.2 28 (8 * (4 * r + p) + g) ≤ z.1 0 + 4 then z else uA z 28 (8 * (4 * r + p) + g) (z.1 0 + 4)) := by
        refine RCe (RC_mb hC hp hu h2 (Or.inl hkn)) ?_
        unfold imin
        by_cases h : z.2 28 (8 * (4 * r + p) + g) ≤ z.1 0 + 4
        · rw [if_neg (Int32.not_lt.mpr h), if_pos h, uA_self]
        · rw [if_pos (Int32.not_le.mp h), if_neg h]
      have hO1 : MO (if z.2 28 (8 * (4 * r + p) + g) ≤ z.1 0 + 4 then z else uA z 28 (8 * (4 * r + p) + g) (z.1 0 + 4)) := by
        split
        · exact hO
        · exact MO_uA hO (by decide)
      have e8 : (if z.2 28 (8 * (4 * r + p) + g) ≤ z.1 0 + 4 then z else uA z 28 (8 * (4 * r + p) + g) (z.1 0 + 4)).2 8 = z.2 8 := by
        split <;> rfl
      obtain ⟨v, hv, ev, ez, hm⟩ := port_w hC hO.1 h1 hp hu
      simp (disch := first | omega | assumption) only [eK_hc, eK_hl, yK12 hL, iK12 hL, rK12_0 hL, rK12_3 hL, rK12_5 hL, rK12_6 hL, rK12_8 hL, rK12_9 hL, rK12_10 hL, yK18 hL, iK18 hL, rK18_0 hL, rK18_2 hL, rK18_7 hL, rK18_8 hL, rK18_9 hL, rK18_10 hL, rK18_11 hL, rK18_12 hL, yK20 hL, iK20 hL, lK20 hL, yK1 hL, iK1 hL, rK1_0 hL, rK1_1 hL, rK1_2 hL, rK1_3 hL, wK20 hL, uR_s, uR_ne, lm4, lm8, lm10, lm16, lm17, lm26, lm40, lm400, nI_add, nI_1, ix_nI, nI_clamp, gd_T, gd_t, bd_e, bo_e, b2_e, true_and, and_true, ((hC.id r h1).2 g h2).1, ((hC.id r h1).2 g h2).2, hC.tm, hC.mb r p g h1 hp hu h2, ev]
      simp (disch := first | omega | assumption) only [eK_hc, eK_hl, yK5 hL, iK5 hL, rK5_1 hL, rK5_3 hL, rK5_4 hL, gd_T, gd_t, bd_e, bo_e, b2_e, true_and, and_true]
      rcases C_open (kd := 2) (se := nI r) hL hC1 hO1.2.1 hv hm with ⟨V1, f, hT, hf, e, hk, hs, hfr, hb⟩ | ⟨V1, hT, e, hs, hb⟩
      · rw [e, b2_e, if_neg (zK8 hL hv hf hm)]
        have h12 : V1 12 = V 12 := (hs 12 (by decide) (by decide)).trans (uR_ne (by decide))
        simp (disch := first | omega | assumption) only [eK_hc, eK_hl, yK12 hL, iK12 hL, rK12_0 hL, rK12_3 hL, rK12_5 hL, rK12_6 hL, rK12_8 hL, rK12_9 hL, rK12_10 hL, yK8 hL, iK8 hL, wK8 hL, h12, uR_s, uR_uR, uR_ne, gd_T, gd_t, bd_e, bo_e, b2_e, true_and, and_true, ((hC.id r h1).2 g h2).2]
        refine ⟨_, rfl, RCe (hb _ ?_ ?_) ?_⟩
        · simp (disch := first | omega | assumption) only [vu_s, vu_n, hk 0 (by decide), hk 1 (by decide), hk 2 (by decide), hk 3 (by decide), hk 4 (by decide), hk 5 (by decide), hk 6 (by decide), hk 7 (by decide), f8]
        · simp (disch := first | omega | assumption) only [vu_s, vu_n, hk 0 (by decide), hk 1 (by decide), hk 2 (by decide), hk 3 (by decide), hk 4 (by decide), hk 5 (by decide), hk 6 (by decide), hk 7 (by decide), f8]
        · simp (disch := first | omega | assumption) only [vu_s, vu_n, hk 0 (by decide), hk 1 (by decide), hk 2 (by decide), hk 3 (by decide), hk 4 (by decide), hk 5 (by decide), hk 6 (by decide), hk 7 (by decide), f8]
          rw [ez, cz_o (by decide) (by decide)]
      · rw [e, b2_e, if_pos rfl]
        exact ⟨_, rfl, RCe (hb 2 (nI r) (-1) (nI g) (-1) 0 0 0).1 (by rw [ez])⟩
theorem C_takePrune (hL : LY L G n Q) (hC : RC n st V Q z) (hF : WF z) (h1 : r < n) (h2 : g < 8) (hp : p < 4) (hu : qpw Q (4 * r + p) ≠ -1) (h3 : x < 17) : ∃ V', d_X3_takePrune (L.1 18 r p) (nI g) (nI x) (eK L G V (RF n L Q)) = some (eK L G V' (RF n L Q)) ∧ RC n st V' Q (prZ z r p g (yx x)) := by
  unfold d_X3_takePrune
  simp (disch := first | omega | assumption) only [eK_hc, eK_hl, yK18 hL, iK18 hL, rK18_0 hL, rK18_2 hL, rK18_7 hL, rK18_8 hL, rK18_9 hL, rK18_10 hL, rK18_11 hL, rK18_12 hL, yK21 hL, iK21 hL, lK21 hL, yK1 hL, iK1 hL, rK1_0 hL, rK1_1 hL, rK1_2 hL, rK1_3 hL, wK21 hL, rm17, lm4, lm8, lm10, lm16, lm17, lm26, lm40, lm400, nI_add, nI_1, ix_nI, nI_clamp, gd_T, gd_t, bd_e, bo_e, b2_e, true_and, and_true, hC.tm, C_timeToObject hL hC h1 hp hu, hC.jt r p g x h1 hp hu h2 h3]
  refine ⟨_, rfl, RCe (RC_jt hC hp hu h2 h3 (Or.inr (Or.inl imin_l)) (fun _ => Or.inr (Or.inl imin_l))) ?_⟩
  have et : z.1 0 + cond (two z r p) 3 0 = cond (two z r p) (z.1 0 + 3) (z.1 0) := by
    cases two z r p
    · exact Int32.add_zero _
    · rfl
  unfold prZ
  rw [et]
  cases hj : jn z (4 * r + p) g (yx x) with
  | true =>
    rw [cond_true]
    unfold imin
    by_cases h : z.2 29 (17 * (8 * (4 * r + p) + g) + yx x) ≤ cond (two z r p) (z.1 0 + 3) (z.1 0)
    · rw [if_neg (Int32.not_lt.mpr h), if_pos h, uA_self]
    · rw [if_pos (Int32.not_le.mp h), if_neg h]
  | false =>
    rw [cond_false]
    have h0 : z.2 29 (17 * (8 * (4 * r + p) + g) + yx x) ≤ z.1 0 := Int32.not_lt.mp (of_decide_eq_false hj)
    have h1 : z.1 0 ≤ cond (two z r p) (z.1 0 + 3) (z.1 0) := by
      cases two z r p
      · exact Int32.le_refl _
      · exact le_add (d := 3) hF (by decide)
    unfold imin
    rw [if_neg (Int32.not_lt.mpr (Int32.le_trans h0 h1)), uA_self]
/-- the cuts, as they are at once -/
theorem jcZ_e {j : Nat} {bits was frm : Int32} : ∀ m, m ≤ 16 → jcZ z j g bits was frm m = (z.1, fun k => if k = 30 then (fun i => if i / 16 = 8 * j + g ∧ i % 16 < m then (if bt bits (i % 16) = false then -1 else if was = 0 ∨ z.2 30 i = -1 then frm else z.2 30 i) else z.2 30 i) else z.2 k) := by
  intro m
  induction m with
  | zero =>
    intro _
    refine Prod.ext rfl ?_
    funext k
    by_cases hk : k = 30
    · subst hk
      show z.2 30 = fun i => if i / 16 = 8 * j + g ∧ i % 16 < 0 then _ else z.2 30 i
      funext i
      rw [if_neg (by omega)]
    · exact (if_neg hk).symm
  | succ m ih =>
    intro hm
    have e := ih (by omega)
    show jc1 (jcZ z j g bits was frm m) j g bits was frm m = _
    have e30 : ∀ i, (jcZ z j g bits was frm m).2 30 i = if i / 16 = 8 * j + g ∧ i % 16 < m then (if bt bits (i % 16) = false then -1 else if was = 0 ∨ z.2 30 i = -1 then frm else z.2 30 i) else z.2 30 i := by
      intro i
      rw [e]
      rfl
    have e1 : (jcZ z j g bits was frm m).1 = z.1 := by rw [e]
    have eo : ∀ k, k ≠ 30 → (jcZ z j g bits was frm m).2 k = z.2 k := by
      intro k hk
      rw [e]
      exact if_neg hk
    have at0 : (jcZ z j g bits was frm m).2 30 (16 * (8 * j + g) + m) = z.2 30 (16 * (8 * j + g) + m) := by
      rw [e30, if_neg (by omega)]
    have gen : ∀ v : Int32, v = (if bt bits m = false then -1 else if was = 0 ∨ z.2 30 (16 * (8 * j + g) + m) = -1 then frm else z.2 30 (16 * (8 * j + g) + m)) → uA (jcZ z j g bits was frm m) 30 (16 * (8 * j + g) + m) v = (z.1, fun k => if k = 30 then (fun i => if i / 16 = 8 * j + g ∧ i % 16 < m + 1 then (if bt bits (i % 16) = false then -1 else if was = 0 ∨ z.2 30 i = -1 then frm else z.2 30 i) else z.2 30 i) else z.2 k) := by
      intro v hv
      refine Prod.ext e1 ?_
      funext k
      by_cases hk : k = 30
      · subst hk
        funext i
        rw [uA_get, e30]
        show _ = if i / 16 = 8 * j + g ∧ i % 16 < m + 1 then _ else _
        by_cases hi : i = 16 * (8 * j + g) + m
        · have hb' : i / 16 = 8 * j + g ∧ i % 16 < m + 1 := by omega
          rw [if_pos hi, if_pos hb', hv]
          have : i % 16 = m := by omega
          rw [this, hi]
        · rw [if_neg hi]
          by_cases hb : i / 16 = 8 * j + g ∧ i % 16 < m
          · have hb' : i / 16 = 8 * j + g ∧ i % 16 < m + 1 := ⟨hb.1, by omega⟩
            rw [if_pos hb, if_pos hb']
          · rw [if_neg hb, if_neg (by omega)]
      · rw [uA_ne hk, eo k hk]
        exact (if_neg hk).symm
    unfold jc1
    by_cases hb : bt bits m = false
    · rw [if_pos ((hb_e (by omega)).mpr hb)]
      exact gen _ (by rw [if_pos hb])
    · rw [if_neg (fun w => hb ((hb_e (by omega)).mp w)), at0]
      by_cases hw : was = 0 ∨ z.2 30 (16 * (8 * j + g) + m) = -1
      · rw [if_pos hw]
        exact gen _ (by rw [if_neg hb, if_pos hw])
      · rw [if_neg hw]
        have := gen (z.2 30 (16 * (8 * j + g) + m)) (by rw [if_neg hb, if_neg hw])
        rw [← at0, uA_self] at this
        exact this
theorem C_takeCuts_16 {bits frm : Int32} (hL : LY L G n Q) (h1 : r < n) (h2 : g < 8) (hp : p < 4) (hu : qpw Q (4 * r + p) ≠ -1) (f0 : frm ≠ 0) (f1 : frm ≠ -1) : ∀ (N s : Nat) (V : Vt), s ≤ 16 → 16 - s < N → RC n st V Q (jcZ z (4 * r + p) g bits 1 frm s) → (∀ x, x < 16 → bt bits x = true → bt (V 12 r g 4) x = true) →
    ∃ V', d_X3_takeCuts_16 N (L.1 18 r p) (nI g) bits frm (nI s) (eK L G V (RF n L Q)) = some (eK L G V' (RF n L Q)) ∧ RC n st V' Q (jcZ z (4 * r + p) g bits 1 frm 16) ∧ V' 12 = V 12 ∧ V' 8 = V 8 := by
  intro N
  induction N with
  | zero => intro s V _ h; omega
  | succ N ih =>
    intro s V hs hlt hC hkn
    rw [d_X3_takeCuts_16.eq_2, show (16 : Int32) = nI 16 from rfl]
    by_cases hse : s = 16
    · subst hse
      rw [if_pos (nI_le (by omega) (by omega))]
      exact ⟨V, rfl, hC, rfl, rfl⟩
    · have hs4 : s < 16 := by omega
      rw [if_neg (nI_ge (by omega) (by decide)), show nI 16 = (16 : Int32) from rfl]
      obtain ⟨c1, c2⟩ := hC.cf r p g s h1 hp hu h2 hs4
      have es : jcZ z (4 * r + p) g bits 1 frm (s + 1) = jc1 (jcZ z (4 * r + p) g bits 1 frm s) (4 * r + p) g bits 1 frm s := rfl
      simp (disch := first | omega | assumption) only [eK_hc, eK_hl, yK18 hL, iK18 hL, rK18_0 hL, rK18_2 hL, rK18_7 hL, rK18_8 hL, rK18_9 hL, rK18_10 hL, rK18_11 hL, rK18_12 hL, yK22 hL, iK22 hL, lK22 hL, wK22 hL, rm16, C_has (show s < 32 by omega), lm4, lm8, lm10, lm16, lm17, lm26, lm40, lm400, nI_add, nI_1, ix_nI, nI_clamp, gd_T, gd_t, bd_e, bo_e, b2_e, true_and, and_true, ite_bI, c2]
      cases hb : bt bits s with
      | false =>
        rw [cond_false]
        have hC' := RC_cf (v' := 0) hC hp hu h2 hs4 (v := -1) (r := r) (by decide) (by rw [if_pos rfl]) (Or.inl rfl)
        obtain ⟨V', e, hR, h12, h8⟩ := ih (s + 1) _ (by omega) (by omega) (RCe hC' (by rw [es]; unfold jc1; rw [if_pos ((hb_e (by omega)).mpr hb)])) (fun x hx hbx => by rw [uR_ne (by decide)]; exact hkn x hx hbx)
        exact ⟨V', e, hR, h12.trans (uR_ne (by decide)), h8.trans (uR_ne (by decide))⟩
      | true =>
        rw [cond_true]
        have hno : ¬ ((bits >>> (nI s &&& 31)) &&& 1) = 0 := fun w => by rw [(hb_e (by omega)).mp w] at hb; cases hb
        by_cases hz : (jcZ z (4 * r + p) g bits 1 frm s).2 30 (16 * (8 * (4 * r + p) + g) + s) = -1
        · rw [if_pos hz, if_pos rfl]
          have hC' := RC_cf (v' := frm) hC hp hu h2 hs4 (v := frm) (r := r) f0 (by rw [if_neg f1]) (Or.inr (hkn s hs4 hb))
          obtain ⟨V', e, hR, h12, h8⟩ := ih (s + 1) _ (by omega) (by omega) (RCe hC' (by rw [es]; unfold jc1; rw [if_neg hno, if_pos (Or.inr hz)])) (fun x hx hbx => by rw [uR_ne (by decide)]; exact hkn x hx hbx)
          exact ⟨V', e, hR, h12.trans (uR_ne (by decide)), h8.trans (uR_ne (by decide))⟩
        · rw [if_neg hz, if_neg c1]
          exact ih (s + 1) V (by omega) (by omega) (RCe hC (by rw [es]; unfold jc1; rw [if_neg hno, if_neg (fun w => w.elim (by decide) hz)])) hkn
theorem C_takeCuts {bits : Int32} (hL : LY L G n Q) (hC : RC n st V Q z) (ht : ∃ t, 1 ≤ t ∧ t ≤ 6000 ∧ z.1 0 = nI t) (h1 : r < n) (h2 : g < 8) (hp : p < 4) (hu : qpw Q (4 * r + p) ≠ -1) (hkn : ∀ x, x < 16 → bt bits x = true → bt (V 12 r g 4) x = true) : ∃ V', d_X3_takeCuts (L.1 18 r p) (nI g) bits (eK L G V (RF n L Q)) = some (eK L G V' (RF n L Q)) ∧ RC n st V' Q (jcZ z (4 * r + p) g bits 1 (cond (two z r p) (z.1 0 + 3) (z.1 0)) 16) ∧ V' 12 = V 12 ∧ V' 8 = V 8 := by
  have et : z.1 0 + cond (two z r p) 3 0 = cond (two z r p) (z.1 0 + 3) (z.1 0) := by
    cases two z r p
    · exact Int32.add_zero _
    · rfl
  obtain ⟨t, t1, t2, t3⟩ := ht
  have hf : cond (two z r p) (z.1 0 + 3) (z.1 0) ≠ 0 ∧ cond (two z r p) (z.1 0 + 3) (z.1 0) ≠ -1 := by
    rw [t3]
    cases two z r p
    · exact ⟨nI_ne0 (by omega) (by omega), nI_m1 (by omega)⟩
    · rw [cond_true, show (3 : Int32) = nI 3 from rfl, nI_add]
      exact ⟨nI_ne0 (by omega) (by omega), nI_m1 (by omega)⟩
  unfold d_X3_takeCuts
  simp (disch := first | omega | assumption) only [eK_hc, eK_hl, yK18 hL, iK18 hL, rK18_0 hL, rK18_2 hL, rK18_7 hL, rK18_8 hL, rK18_9 hL, rK18_10 hL, rK18_11 hL, rK18_12 hL, yK1 hL, iK1 hL, rK1_0 hL, rK1_1 hL, rK1_2 hL, rK1_3 hL, gd_T, gd_t, bd_e, bo_e, b2_e, true_and, and_true, C_timeToObject hL hC h1 hp hu, hC.tm, et]
  exact C_takeCuts_16 hL h1 h2 hp hu hf.1 hf.2 FU 0 V (by omega) (by show _ < 6000; omega) hC hkn
end
