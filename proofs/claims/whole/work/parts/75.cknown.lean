/-! THE CLASS: what is held of a tree; the timers of a router -/
section
variable {L : Ly} {G : Hp} {n : Nat} {st : Int32} {V : Vt} {Q : Qt} {z : Sg} {r p q g s x y m : Nat}
theorem un_ho (hF : WF z) (hC : RC n st V Q z) (h1 : r < n) (h2 : p < 4) (h3 : qpw Q (4 * r + p) = -1) (h4 : g < 8) (h5 : x < 17) : hoP z (4 * r + p) g x = false := by
  have hn := hC.nn.2.2.2
  unfold hoP
  rw [un_jn hF hC h1 h2 h3 h4 (yx_lt h5), un_jn hF hC h1 h2 h3 h4 (by decide), un_mem hF hC h1 h2 h3 h4, Bool.and_false, Bool.or_false]
  by_cases hx : x = 16
  · rw [if_pos hx]
    rfl
  · rw [if_neg hx]
    have e := (hC.un (4 * r + p) (by omega) h3).2.2.2 (16 * g + x) (by omega)
    rw [show 128 * (4 * r + p) + (16 * g + x) = 16 * (8 * (4 * r + p) + g) + x by omega] at e
    rw [decide_eq_false (fun w => w.1 e)]
    rfl
def hoO (z : Sg) (r g x : Nat) : Bool := hoP z (4 * r) g x || hoP z (4 * r + 1) g x || hoP z (4 * r + 2) g x || hoP z (4 * r + 3) g x
theorem C_holds_44 (hL : LY L G n Q) (hC : RC n st V Q z) (hF : WF z) (h1 : r < n) (h2 : g < 8) (h3 : x < 17) : ∀ (N p : Nat), p ≤ 4 → 4 - p < N → (∀ q, q < p → hoP z (4 * r + q) g x = false) → d_X5_holds_44 N (L.1 12 r g) (nI x) (nI p) (eK L G V (RF n L Q)) = some (bI (hoO z r g x)) := by
  intro N
  induction N with
  | zero => intro p _ h; omega
  | succ N ih =>
    intro p hp hlt hq
    rw [d_X5_holds_44.eq_2, show (4 : Int32) = nI 4 from rfl]
    by_cases hpe : p = 4
    · subst hpe
      rw [if_pos (nI_le (by omega) (by omega))]
      unfold hoO
      have q0 : hoP z (4 * r) g x = false := hq 0 (by decide)
      rw [q0, hq 1 (by decide), hq 2 (by decide), hq 3 (by decide)]
      rfl
    · have hp4 : p < 4 := by omega
      rw [if_neg (nI_ge (by omega) (by decide))]
      simp (disch := first | omega | assumption) only [eK_hc, eK_hl, yK12 hL, iK12 hL, rK12_0 hL, rK12_3 hL, rK12_5 hL, rK12_6 hL, rK12_8 hL, rK12_9 hL, rK12_10 hL, yK10 hL, iK10 hL, lK10 hL, rK10 hL, lm4, lm8, lm10, lm16, lm17, lm26, lm40, lm400, nI_add, nI_1, ix_nI, nI_clamp, gd_T, gd_t, bd_e, bo_e, b2_e, true_and, and_true, ((hC.id r h1).2 g h2).2]
      have step : hoP z (4 * r + p) g x = false → ∀ q, q < p + 1 → hoP z (4 * r + q) g x = false := fun h q hq1 => by
        by_cases e : q = p
        · rw [e, h]
        · exact hq q (by omega)
      by_cases hu : qpw Q (4 * r + p) = -1
      · rw [if_neg (not_not_intro hu), if_pos rfl]
        exact ih (p + 1) (by omega) (by omega) (step (un_ho hF hC h1 hp4 hu h2 h3))
      · rw [if_pos hu, if_neg (zK18 hL h1 hp4 hu)]
        simp (disch := first | omega | assumption) only [eK_hc, eK_hl, yK18 hL, iK18 hL, rK18_0 hL, rK18_2 hL, rK18_7 hL, rK18_8 hL, rK18_9 hL, rK18_10 hL, rK18_11 hL, rK18_12 hL, gd_T, gd_t, bd_e, bo_e, b2_e, true_and, and_true, C_holdsP hL hC hF h1 hp4 hu h2 h3, ite_bI]
        cases ho : hoP z (4 * r + p) g x with
        | true =>
          rw [cond_true]
          unfold hoO
          have : p = 0 ∨ p = 1 ∨ p = 2 ∨ p = 3 := by omega
          rcases this with e | e | e | e
          · subst e
            have ho' : hoP z (4 * r) g x = true := ho
            rw [ho']
            simp [bI]
          · subst e
            rw [ho]
            simp [bI]
          · subst e
            rw [ho]
            simp [bI]
          · subst e
            rw [ho]
            simp [bI]
        | false =>
          rw [cond_false]
          exact ih (p + 1) (by omega) (by omega) (step ho)
/-- nothing is held -/
def nhT (z : Sg) (r g x : Nat) : Prop := z.2 33 (17 * (8 * r + g) + yx x) = -1 ∧ (x ≠ 16 → z.2 39 (16 * (8 * r + g) + x) = -1 ∧ z.2 37 (16 * (8 * r + g) + x) ≤ z.1 0) ∧ ∀ p, p < 4 → hoP z (4 * r + p) g x = false
theorem C_holds (hL : LY L G n Q) (hC : RC n st V Q z) (hO : MO z) (h1 : r < n) (h2 : g < 8) (h3 : x < 17) : ∃ b, d_X5_holds (L.1 12 r g) (nI x) (eK L G V (RF n L Q)) = some (bI b) ∧ (b = false → nhT z r g x) := by
  have hn := hC.nn.2.2.2
  have hnr := hC.nr
  have hy := yx_lt h3
  have e44 := C_holds_44 hL hC hO.1 h1 h2 h3 FU 0 (by omega) (by show _ < 6000; omega) (fun q h => by omega)
  rw [nI_0] at e44
  have hoF : hoO z r g x = false → ∀ p, p < 4 → hoP z (4 * r + p) g x = false := by
    intro h p hp
    unfold hoO at h
    simp only [Bool.or_eq_false_iff] at h
    have : p = 0 ∨ p = 1 ∨ p = 2 ∨ p = 3 := by omega
    rcases this with e | e | e | e <;> subst e
    · exact h.1.1.1
    · exact h.1.1.2
    · exact h.1.2
    · exact h.2
  have ejb : (jbV (z.2 33 (17 * (8 * r + g) + yx x)) (z.2 34 (17 * (8 * r + g) + yx x)) = -1) ↔ z.2 33 (17 * (8 * r + g) + yx x) = -1 := by
    rcases hO.2.2 (17 * (8 * r + g) + yx x) (by omega) with ⟨a1, a2⟩ | ⟨p1, q1, hp1, hq1, a1, a2⟩
    · rw [a1]
      unfold jbV
      rw [if_pos rfl]
    · rw [a1, a2, jb_n.resolve_right (nI_m1 (by omega))]
      exact ⟨fun w => absurd w (nI_m1 (by omega)), fun w => absurd w (nI_m1 (by omega))⟩
  unfold d_X5_holds
  rw [e44]
  simp (disch := first | omega | assumption) only [eK_hc, eK_hl, yK12 hL, iK12 hL, rK12_0 hL, rK12_3 hL, rK12_5 hL, rK12_6 hL, rK12_8 hL, rK12_9 hL, rK12_10 hL, yK13 hL, iK13 hL, lK13 hL, lm4, lm8, lm10, lm16, lm17, lm26, lm40, lm400, nI_add, nI_1, ix_nI, nI_clamp, gd_T, gd_t, bd_e, bo_e, b2_e, true_and, and_true, hC.jb r g x h1 h2 h3]
  by_cases c1 : z.2 33 (17 * (8 * r + g) + yx x) = -1
  · rw [if_pos (ejb.mpr c1)]
    by_cases hx : x = 16
    · rw [if_pos (by rw [hx]; rfl)]
      exact ⟨hoO z r g x, rfl, fun h => ⟨c1, fun w => absurd hx w, hoF h⟩⟩
    · have hs : x < 16 := by omega
      rw [if_neg (nI_n16 (by omega) hx)]
      simp (disch := first | omega | assumption) only [eK_hc, eK_hl, yK12 hL, iK12 hL, rK12_0 hL, rK12_3 hL, rK12_5 hL, rK12_6 hL, rK12_8 hL, rK12_9 hL, rK12_10 hL, yK15 hL, iK15 hL, lK15 hL, yK1 hL, iK1 hL, rK1_0 hL, rK1_1 hL, rK1_2 hL, rK1_3 hL, lm4, lm8, lm10, lm16, lm17, lm26, lm40, lm400, nI_add, nI_1, ix_nI, nI_clamp, gd_T, gd_t, bd_e, bo_e, b2_e, true_and, and_true, C_isStraight hL hC h1 h2 hs, ite_bI, hC.kp r g x h1 h2 hs, hC.tm]
      cases hst : strt z r g x with
      | true => exact ⟨true, rfl, fun h => by cases h⟩
      | false =>
        rw [cond_false]
        by_cases c2 : z.2 37 (16 * (8 * r + g) + x) ≤ z.1 0
        · rw [if_pos c2]
          exact ⟨hoO z r g x, rfl, fun h => ⟨c1, fun _ => ⟨Classical.not_not.mp (of_decide_eq_false hst), c2⟩, hoF h⟩⟩
        · rw [if_neg c2]
          exact ⟨true, rfl, fun h => by cases h⟩
  · rw [if_neg (fun w => c1 (ejb.mp w))]
    exact ⟨true, rfl, fun h => by cases h⟩
/-- a tree of which nothing is held is no longer known -/
theorem RC_kd {w : Int32} (hC : RC n st V Q z) (hw : ∀ x, x < 17 → bt w x = false → bt (V 12 r g 4) x = false ∨ nhT z r g x) : RC n st (uR V 12 r g (va_up (V 12 r g) 4 w)) Q z := by
  have k4 : ∀ a b c, c < 17 → bt (uR V 12 r g (va_up (V 12 r g) 4 w) 12 a b 4) c = false → bt (V 12 a b 4) c = false ∨ (a = r ∧ b = g ∧ nhT z r g c) := by
    intro a b c hc h
    rw [uR_at] at h
    by_cases e : a = r ∧ b = g
    · rw [if_pos e, vu_s] at h
      rw [e.1, e.2]
      rcases hw c hc h with o | o
      · exact Or.inl o
      · exact Or.inr ⟨rfl, rfl, o⟩
    · rw [if_neg e] at h
      exact Or.inl h
  have e33 : cK33 n (uR V 12 r g (va_up (V 12 r g) 4 w) 12) (z.2 33) := by
    intro a b c d e i j
    rcases k4 a b c i j with o | ⟨rfl, rfl, o⟩
    · exact hC.k33 a b c d e i o
    · exact o.1
  have e39 : cK39 n (uR V 12 r g (va_up (V 12 r g) 4 w) 12) (z.2 39) := by
    intro a b c d e i j
    rcases k4 a b c (by omega) j with o | ⟨rfl, rfl, o⟩
    · exact hC.k39 a b c d e i o
    · exact (o.2.1 (by omega)).1
  have e37 : cK37 n (uR V 12 r g (va_up (V 12 r g) 4 w) 12) (z.1 0) (z.2 37) := by
    intro a b c d e i j
    rcases k4 a b c (by omega) j with o | ⟨rfl, rfl, o⟩
    · exact hC.k37 a b c d e i o
    · exact (o.2.1 (by omega)).2
  have e29 : cK29 n (uR V 12 r g (va_up (V 12 r g) 4 w) 12) (z.1 0) (z.2 29) := by
    intro a b c l d e i m j
    rcases k4 a b c i j with o | ⟨rfl, rfl, o⟩
    · exact hC.k29 a b c l d e i m o
    · have := o.2.2 l m
      unfold hoP at this
      rw [Bool.or_eq_false_iff] at this
      exact Int32.not_lt.mp (of_decide_eq_false this.1)
  have e28 : cK28 n (uR V 12 r g (va_up (V 12 r g) 4 w) 12) (z.1 0) (z.2 28) := by
    intro a b l d e i j
    rcases k4 a b 16 (by decide) j with o | ⟨rfl, rfl, o⟩
    · exact hC.k28 a b l d e i o
    · have := o.2.2 l i
      unfold hoP at this
      rw [Bool.or_eq_false_iff, if_pos rfl] at this
      exact Int32.not_lt.mp (of_decide_eq_false this.2)
  have e31 : cK31 n (uR V 12 r g (va_up (V 12 r g) 4 w) 12) (z.1 0) (z.2 31) (z.2 32) := by
    intro a b c l d e i m j
    rcases k4 a b c (by omega) j with o | ⟨rfl, rfl, o⟩
    · exact hC.k31 a b c l d e i m o
    · have := o.2.2 l m
      unfold hoP at this
      rw [Bool.or_eq_false_iff, if_neg (show ¬ c = 16 by omega), Bool.or_eq_false_iff] at this
      have h2 := of_decide_eq_false this.2.1
      by_cases h3 : z.2 31 (16 * (8 * (4 * a + l) + b) + c) = -1
      · exact Or.inl h3
      · exact Or.inr (Int32.not_lt.mp (fun q => h2 ⟨h3, q⟩))
  have e30 : cK30 n (uR V 12 r g (va_up (V 12 r g) 4 w) 12) (z.1 0) (z.2 30) (z.2 29) := by
    intro a b c l d e i m j
    rcases k4 a b c (by omega) j with o | ⟨rfl, rfl, o⟩
    · exact hC.k30 a b c l d e i m o
    · have := o.2.2 l m
      unfold hoP at this
      rw [Bool.or_eq_false_iff, if_neg (show ¬ c = 16 by omega), Bool.or_eq_false_iff] at this
      by_cases h3 : z.2 30 (16 * (8 * (4 * a + l) + b) + c) = -1
      · exact Or.inl h3
      · right
        have h4 := this.2.2
        rw [decide_eq_true h3, Bool.true_and] at h4
        exact Int32.not_lt.mp (of_decide_eq_false h4)
  exact ⟨hC.tm, hC.nu, hC.tu, hC.nn, hC.ns, hC.qw, hC.qh, hC.wa, hC.mt, hC.hz, hC.wi, hC.su, hC.po, hC.fr, hC.fc, hC.pi, hC.md, hC.me, hC.fn, (fun a d => ⟨(hC.id a d).1, fun b e => ⟨(kn_at a b 1 (by decide)).trans ((hC.id a d).2 b e).1, (kn_at a b 2 (by decide)).trans ((hC.id a d).2 b e).2⟩⟩), hC.jb, hC.ja, (fun a b d e => (kn_at a b 7 (by decide)).trans (hC.tc a b d e)), hC.kp, hC.sp, hC.sb, hC.pt, hC.he, hC.qu, hC.nt, (cNb_c hC.nb rfl rfl rfl), hC.mb, hC.jt, hC.cf, hC.cl, hC.ho, hC.go, (e33), (e39), (e37), (e29), (e28), (e31), (e30), hC.un, hC.on, hC.u2, hC.g0, hC.jp, (cWs_t hC.ws ⟨rfl, rfl, rfl, rfl⟩)⟩
theorem fo_id : ∀ k, fo (fun z _ => z) z k = z := by
  intro k
  induction k with
  | zero => rfl
  | succ k ih => exact ih
theorem C_dropKnown (hL : LY L G n Q) (hC : RC n st V Q z) (hO : MO z) (h1 : r < n) (h2 : g < 8) : ∃ V', d_X5_dropKnown (L.1 12 r g) (eK L G V (RF n L Q)) = some (eK L G V' (RF n L Q)) ∧ RC n st V' Q z := by
  have main : ∃ V', d_X5_dropKnown (L.1 12 r g) (eK L G V (RF n L Q)) = some (eK L G V' (RF n L Q)) ∧ RC n st V' Q (fo (fun z _ => z) z 17) := by
    refine loopC (N := 17) (f := fun z _ => z) (D := fun m i H => d_X5_dropKnown_2 m (L.1 12 r g) (nI i) H) (K := some) (by decide) (fun m x V hx hR => ?_) (fun m V _ => ?_) hC
    · rw [fo_id] at hR
      rw [fo_id, fo_id]
      rw [d_X5_dropKnown_2.eq_2, show (17 : Int32) = nI 17 from rfl, if_neg (nI_ge hx (by decide)), eK_hc, gd_t (yK12 hL h1 h2), iK12 hL h1 h2]
      by_cases hk0 : V 12 r g 4 = 0
      · exact Or.inr ⟨V, by rw [if_pos hk0], hR⟩
      · left
        rw [if_neg hk0, C_has (show x < 32 by omega), bo_e, ite_bI, nI_1]
        cases hk : bt (V 12 r g 4) x with
        | false => exact ⟨V, rfl, hR⟩
        | true =>
          obtain ⟨b, e, hb⟩ := C_holds hL hR hO h1 h2 hx
          rw [cond_true, e, bo_e, ite_bI]
          cases b with
          | true => exact ⟨V, rfl, hR⟩
          | false =>
            rw [cond_false, wK12 hL h1 h2, bd_e]
            refine ⟨_, rfl, RC_kd hR (fun y hy hw => ?_)⟩
            rw [b_and, b_not (by omega), b_bit (by omega) (by omega)] at hw
            by_cases ey : y = x
            · rw [ey]
              exact Or.inr (hb rfl)
            · rw [decide_eq_false ey, Bool.not_false, Bool.and_true] at hw
              exact Or.inl hw
    · rw [d_X5_dropKnown_2.eq_2, show (17 : Int32) = nI 17 from rfl, if_pos (nI_le (by omega) (by decide))]
  rw [fo_id] at main
  exact main
end
