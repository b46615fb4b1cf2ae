/-! THE CLASS: a wire's frames are made, in the tables -/
/-- what lies beside the class's cells stays -/
def KE (L : Ly) (H : Hp) (L' : Ly) (H' : Hp) : Prop := ∀ a, a < hn H → L.2 a = none → L'.2 a = none ∧ hc H' a = hc H a ∧ hl H' a = hl H a ∧ hi H' a = hi H a ∧ hr H' a = hr H a
def mfQ (Q : Qt) (v : Nat) : Qt := (fun w b k => if w = v then (if b = qcu Q v then 2 * k + 1 else 2 * k) else qpi Q w b k, qcu Q, fun w => if w = v then true else qmd Q w, qpw Q, qhw Q)
def mfV (V : Vt) (v : Nat) : Vt := fun c => match c with
  | 8 => fun i j k => if i = v ∧ j < 80 then 0 else V 8 i j k
  | c => V c
def mfA (h0 v : Nat) (c i j : Nat) : Option Nat := if c = 8 ∧ i = v ∧ j < 80 then some (h0 + j) else none
def mfU (h0 v : Nat) (a : Nat) : Option (Nat × Nat × Nat) := if h0 ≤ a ∧ a < h0 + 80 then some (8, v, a - h0) else none
section
variable {L L' : Ly} {G H : Hp} {n : Nat} {st : Int32} {V : Vt} {Q Q' : Qt} {z : Sg} {r p q g s x y m v i h k t c : Nat}
theorem RF_8 (h : ∀ c i j, c ≠ 8 → L'.1 c i j = L.1 c i j) (h2 : qcu Q' = qcu Q) (h3 : qpw Q' = qpw Q) (h4 : qhw Q' = qhw Q) (hc : c ≠ 7) : RF n L' Q' c = RF n L Q c := by
  funext i j k
  have a1 := fun i j => h 1 i j (by decide)
  have a2 := fun i j => h 2 i j (by decide)
  have a3 := fun i j => h 3 i j (by decide)
  have a4 := fun i j => h 4 i j (by decide)
  have a5 := fun i j => h 5 i j (by decide)
  have a6 := fun i j => h 6 i j (by decide)
  have a7 := fun i j => h 7 i j (by decide)
  have a9 := fun i j => h 9 i j (by decide)
  have a10 := fun i j => h 10 i j (by decide)
  have a11 := fun i j => h 11 i j (by decide)
  have a12 := fun i j => h 12 i j (by decide)
  have a13 := fun i j => h 13 i j (by decide)
  have a14 := fun i j => h 14 i j (by decide)
  have a15 := fun i j => h 15 i j (by decide)
  have a16 := fun i j => h 16 i j (by decide)
  have a17 := fun i j => h 17 i j (by decide)
  have a18 := fun i j => h 18 i j (by decide)
  have a19 := fun i j => h 19 i j (by decide)
  have a20 := fun i j => h 20 i j (by decide)
  have a21 := fun i j => h 21 i j (by decide)
  have a22 := fun i j => h 22 i j (by decide)
  have a23 := fun i j => h 23 i j (by decide)
  have a24 := fun i j => h 24 i j (by decide)
  have a25 := fun i j => h 25 i j (by decide)
  have a26 := fun i j => h 26 i j (by decide)
  unfold RF
  rw [h2, h3, h4]
  split <;> first | exact absurd rfl hc | rfl | simp only [a1, a2, a3, a4, a5, a6, a7, a9, a10, a11, a12, a13, a14, a15, a16, a17, a18, a19, a20, a21, a22, a23, a24, a25, a26]
theorem isL_8 {j : Nat} (h3 : qpw Q' = qpw Q) (h4 : qhw Q' = qhw Q) (hc : c ≠ 8) (h : isL n Q' c i j) : isL n Q c i j := by
  have e : isL n Q' c i j = isL n Q c i j := by
    unfold isL
    rw [h3, h4]
    split <;> first | rfl | exact absurd rfl hc
  rw [← e]
  exact h
theorem mf_RC (hC : RC n st V Q z) (hv : v < 16) (hm : qmd Q v = false) : RC n st (mfV V v) (mfQ Q v) z := by
  obtain ⟨m16, m19⟩ := hC.me v hv hm
  have hcu := (hC.pi v hv).1
  have efr : cFr (mfQ Q v) (mfV V v 8) (z.2 16) (z.2 18) := by
    intro w j k hw hmw hj hk
    by_cases e : w = v
    · subst e
      rw [m16] at hj
      exact absurd hj (Nat.not_lt_zero _)
    · have e1 : qmd Q w = true := (if_neg e).symm.trans hmw
      have e2 : qpi (mfQ Q v) w (qcu (mfQ Q v) w) j = qpi Q w (qcu Q w) j := if_neg e
      have e3 : mfV V v 8 w (qpi (mfQ Q v) w (qcu (mfQ Q v) w) j) k = V 8 w (qpi (mfQ Q v) w (qcu (mfQ Q v) w) j) k := if_neg (fun o => e o.1)
      rw [e3, e2]
      exact hC.fr w j k hw e1 hj hk
  have efc : cFc (mfQ Q v) (mfV V v 8) (z.2 19) (z.2 20) := by
    intro w j k hw hmw hj hk
    by_cases e : w = v
    · subst e
      rw [m19] at hj
      exact absurd hj (Nat.not_lt_zero _)
    · have e1 : qmd Q w = true := (if_neg e).symm.trans hmw
      have e2 : qpi (mfQ Q v) w (1 - qcu (mfQ Q v) w) j = qpi Q w (1 - qcu Q w) j := if_neg e
      have e3 : mfV V v 8 w (qpi (mfQ Q v) w (1 - qcu (mfQ Q v) w) j) k = V 8 w (qpi (mfQ Q v) w (1 - qcu (mfQ Q v) w) j) k := if_neg (fun o => e o.1)
      rw [e3, e2]
      exact hC.fc w j k hw e1 hj hk
  have epi : cPi (mfQ Q v) := by
    intro w hw
    obtain ⟨p1, p2⟩ := hC.pi w hw
    refine ⟨p1, fun b1 i1 b2 i2 hb1 hi1 hb2 hi2 => ?_⟩
    show (if w = v then (if b1 = qcu Q v then 2 * i1 + 1 else 2 * i1) else qpi Q w b1 i1) < 80 ∧ ((if w = v then (if b1 = qcu Q v then 2 * i1 + 1 else 2 * i1) else qpi Q w b1 i1) = (if w = v then (if b2 = qcu Q v then 2 * i2 + 1 else 2 * i2) else qpi Q w b2 i2) → b1 = b2 ∧ i1 = i2)
    by_cases e : w = v
    · rw [if_pos e, if_pos e]
      by_cases c1 : b1 = qcu Q v
      · rw [if_pos c1]
        by_cases c2 : b2 = qcu Q v
        · rw [if_pos c2]
          exact ⟨by omega, fun q => ⟨by omega, by omega⟩⟩
        · rw [if_neg c2]
          exact ⟨by omega, fun q => by omega⟩
      · rw [if_neg c1]
        by_cases c2 : b2 = qcu Q v
        · rw [if_pos c2]
          exact ⟨by omega, fun q => by omega⟩
        · rw [if_neg c2]
          exact ⟨by omega, fun q => ⟨by omega, by omega⟩⟩
    · rw [if_neg e, if_neg e]
      exact p2 _ _ _ _ hb1 hi1 hb2 hi2
  have up : ∀ w, qmd Q w = true → qmd (mfQ Q v) w = true := fun w h => by
    show (if w = v then true else qmd Q w) = true
    rw [h]
    split <;> rfl
  have emd : cMd (mfQ Q v) := ⟨fun j h1 h2 => up _ (hC.md.1 j h1 h2), fun j h1 h2 => up _ (hC.md.2.1 j h1 h2), hC.md.2.2⟩
  have eme : cMe (mfQ Q v) (z.2 16) (z.2 19) := by
    intro w hw hmw
    have h1 : (if w = v then true else qmd Q w) = false := hmw
    by_cases e : w = v
    · rw [if_pos e] at h1
      cases h1
    · rw [if_neg e] at h1
      exact hC.me w hw h1
  exact ⟨hC.tm, hC.nu, hC.tu, hC.nn, hC.ns, hC.qw, hC.qh, hC.wa, hC.mt, hC.hz, hC.wi, hC.su, hC.po, (efr), (efc), (epi), (emd), (eme), hC.fn, hC.id, hC.jb, hC.ja, hC.tc, hC.kp, hC.sp, hC.sb, hC.pt, hC.he, hC.qu, hC.nt, (cNb_c hC.nb rfl rfl rfl), hC.mb, hC.jt, hC.cf, hC.cl, hC.ho, hC.go, hC.k33, hC.k39, hC.k37, hC.k29, hC.k28, hC.k31, hC.k30, hC.un, hC.on, hC.u2, hC.g0, hC.jp, (cWs_t hC.ws ⟨rfl, rfl, rfl, rfl⟩)⟩
theorem C_mf (hI : IC L H n Q V) (hC : RC n st V Q z) (h0 : 0 < hn H) (hv : v < 16) : ∃ L' H' Q' V', d_X7_makeFrames (L.1 5 v 0) H = some H' ∧ IC L' H' n Q' V' ∧ RC n st V' Q' z ∧ qmd Q' v = true ∧ KE L H L' H' ∧ (hn H ≤ hn H' ∧ hs H ≤ hs H') ∧ (hn H' ≤ hn H + 80 ∧ hs H' ≤ hs H + 640) ∧ ∀ c i j, c ≠ 8 → L'.1 c i j = L.1 c i j := by
  have hL := hI.1
  have eH := IC_e hI
  have hcu := (hC.pi v hv).1
  have x3 : hr H (L.1 5 v 0) 3 = L.1 7 v (1 - qcu Q v) := by
    have e := rK5_3 (V := V) hL hv
    rw [eH] at e
    exact e
  have x4 : hr H (L.1 5 v 0) 4 = L.1 7 v (qcu Q v) := by
    have e := rK5_4 (V := V) hL hv
    rw [eH] at e
    exact e
  have lt : ∀ c i j, isL n Q c i j → L.1 c i j < hn H := fun c i j w => (hI.2.1 _ _ (hL.2 c i j w).1).1
  have c1 : 1 - qcu Q v < 2 := by omega
  have row : ∀ b, b < 2 → hr H (L.1 7 v b) = RF n L Q 7 v b := fun b hb => (hI.2.1 _ _ (hL.2 7 v b ⟨hv, hb⟩).1).2.2
  unfold d_X7_makeFrames
  cases hm : qmd Q v with
  | true =>
    refine ⟨L, H, Q, V, ?_, hI, hC, hm, fun a h1 h2 => ⟨h2, rfl, rfl, rfl, rfl⟩, ⟨Nat.le_refl _, Nat.le_refl _⟩, ⟨Nat.le_add_right _ _, Nat.le_add_right _ _⟩, fun _ _ _ _ => rfl⟩
    have e : OKM H (mV H (d_X7_makeFrames_2 FU (L.1 5 v 0) 0 H)) (fun y => y = H) := by
      refine OKM_m ?_
      rw [show FU = 5999 + 1 from rfl, d_X7_makeFrames_2.eq_2, if_neg (show ¬ (40 : Int32) ≤ 0 by decide)]
      refine OKM_m (OKM_g (yK5 hL hv) ?_)
      rw [x3]
      refine OKM_g ⟨yK7 hL hv c1, by rw [lK7 hL hv c1]; decide⟩ ?_
      have nz : hr H (L.1 7 v (1 - qcu Q v)) (0 : Int32).toNatClampNeg ≠ 0 := by
        rw [row _ c1]
        show (if 0 < 40 ∧ 1 - qcu Q v < 2 ∧ qmd Q v = true then L.1 8 v (qpi Q v (1 - qcu Q v) 0) else 0) ≠ 0
        rw [if_pos ⟨by decide, c1, hm⟩]
        exact zK8 hL hv ((hC.pi v hv).2 _ _ _ _ c1 (show 0 < 40 by decide) c1 (show 0 < 40 by decide)).1 hm
      rw [if_neg nz]
      exact OKM_s rfl
    obtain ⟨y, e1, _, e2⟩ := e
    rw [e1, e2]
  | false =>
    have z3 : hr H (L.1 7 v (1 - qcu Q v)) = fun k => if k < 0 then hn H + 2 * k else 0 := by
      rw [row _ c1]
      funext k
      show (if k < 40 ∧ 1 - qcu Q v < 2 ∧ qmd Q v = true then L.1 8 v (qpi Q v (1 - qcu Q v) k) else 0) = _
      rw [if_neg (fun w => by rw [hm] at w; exact absurd w.2.2 (by decide)), if_neg (Nat.not_lt_zero _)]
    have z4 : hr H (L.1 7 v (qcu Q v)) = fun k => if k < 0 then hn H + 2 * k + 1 else 0 := by
      rw [row _ hcu]
      funext k
      show (if k < 40 ∧ qcu Q v < 2 ∧ qmd Q v = true then L.1 8 v (qpi Q v (qcu Q v) k) else 0) = _
      rw [if_neg (fun w => by rw [hm] at w; exact absurd w.2.2 (by decide)), if_neg (Nat.not_lt_zero _)]
    have ne34 : L.1 7 v (1 - qcu Q v) ≠ L.1 7 v (qcu Q v) := by
      intro w
      have e1 := (hL.2 7 v (1 - qcu Q v) ⟨hv, c1⟩).1
      have e2 := (hL.2 7 v (qcu Q v) ⟨hv, hcu⟩).1
      unfold lvK at e1 e2
      rw [w, e2] at e1
      have e4 : qcu Q v = 1 - qcu Q v := congrArg (fun q : Nat × Nat × Nat => q.2.2) (Option.some.inj e1)
      omega
    have e := OKM_m (P_mf (lt 7 v _ ⟨hv, c1⟩) (lt 7 v _ ⟨hv, hcu⟩) (lt 5 v 0 ⟨hv, rfl⟩) ne34 (yK5 hL hv) ⟨yK7 hL hv c1, lK7 hL hv c1⟩ ⟨yK7 hL hv hcu, lK7 hL hv hcu⟩ x3 x4 FU 0 H (by omega) (by show _ < 6000; omega) ⟨rfl, rfl, fun a ha => ⟨rfl, rfl, rfl, fun _ _ => rfl⟩, fun a h1 h2 => absurd h2 (by omega), z3, z4⟩)
    rw [nI_0] at e
    obtain ⟨H', e1, e2, f1, f2, f3, f4, f5, f6⟩ := e
    have aA : ∀ j, j < 80 → mfA (hn H) v 8 v j = some (hn H + j) := fun j hj => if_pos ⟨rfl, rfl, hj⟩
    have aN : ∀ c i j, c ≠ 8 → mfA (hn H) v c i j = none := fun c i j hc => if_neg (fun w => hc w.1)
    have hLo : ∀ c i j, c ≠ 8 → (exL L (mfA (hn H) v) (mfU (hn H) v)).1 c i j = L.1 c i j := fun c i j hc => ex_o (aN c i j hc)
    have aI : ∀ c i j a, mfA (hn H) v c i j = some a → c = 8 ∧ i = v ∧ j < 80 ∧ a = hn H + j := by
      intro c i j a w
      unfold mfA at w
      split at w
      · rename_i o
        exact ⟨o.1, o.2.1, o.2.2, (Option.some.inj w).symm⟩
      · cases w
    have uI : ∀ a q, mfU (hn H) v a = some q → hn H ≤ a ∧ a < hn H + 80 ∧ q = (8, v, a - hn H) := by
      intro a q w
      unfold mfU at w
      split at w
      · rename_i o
        exact ⟨o.1, o.2, (Option.some.inj w).symm⟩
      · cases w
    have hLY : LY (exL L (mfA (hn H) v) (mfU (hn H) v)) H' n (mfQ Q v) := by
      refine ex_LY hI h0 ?_ ?_ ?_ ?_ (fun a ha => ⟨(f3 a ha).1, (f3 a ha).2.1⟩)
      · intro c i j h1 h2
        by_cases hc : c = 8
        · subst hc
          obtain ⟨b1, b2, b3⟩ := h1
          by_cases hi : i = v
          · subst hi
            rw [aA j b2] at h2
            cases h2
          · exact ⟨b1, b2, (if_neg hi).symm.trans b3⟩
        · exact isL_8 (Q' := mfQ Q v) rfl rfl hc h1
      · intro c i j a w
        obtain ⟨rfl, rfl, o1, rfl⟩ := aI c i j a w
        exact ⟨Nat.le_add_right _ _, (f4 _ (by omega) (by omega)).1, fun w => absurd rfl w⟩
      · intro a q w
        obtain ⟨o1, o2, rfl⟩ := uI a q w
        show mfA (hn H) v 8 v (a - hn H) = some a
        rw [aA _ (by omega)]
        exact congrArg some (by omega)
      · intro c i j a w
        obtain ⟨rfl, rfl, o1, rfl⟩ := aI c i j a w
        unfold mfU
        rw [if_pos (by omega)]
        exact congrArg (fun j => some (8, i, j)) (by omega)
    refine ⟨exL L (mfA (hn H) v) (mfU (hn H) v), H', mfQ Q v, mfV V v, e1, ?_, mf_RC hC hv hm, if_pos rfl, ?_, e2, ⟨by omega, by omega⟩, hLo⟩
    · refine ex_IC hI e2.1 hLY ?_ ?_ (fun a q w => by
        rw [(uI a _ w).2.2]
        exact ⟨(fun o => absurd (show 8 = 18 from o) (by decide)), (fun o => absurd (show 8 = 25 from o) (by decide)), (fun o => absurd (show 8 = 4 from o) (by decide))⟩)
      · intro a q w
        obtain ⟨o1, o2, rfl⟩ := uI a q w
        obtain ⟨g1, g2, g3⟩ := f4 a o1 (by omega)
        refine ⟨by omega, ?_, g3⟩
        rw [g2]
        funext k
        exact (if_pos ⟨rfl, show a - hn H < 80 by omega⟩).symm
      · intro a q w w2
        obtain ⟨lt1, v1, v2⟩ := hI.2.1 a q w
        have eA := hL.1 a q w
        obtain ⟨o1, o2, o3, o4⟩ := f3 a lt1
        obtain ⟨c, i, j⟩ := q
        dsimp only at v1 v2 eA ⊢
        refine ⟨?_, ?_⟩
        · rw [o3, v1]
          by_cases hc : c = 8
          · subst hc
            funext k
            by_cases hi : i = v ∧ j < 80
            · rw [show mfA (hn H) v 8 i j = some (hn H + j) from if_pos ⟨rfl, hi⟩] at w2
              cases w2
            · exact (if_neg hi).symm
          · unfold mfV
            split
            · exact absurd rfl hc
            · rfl
        · by_cases hc : c = 7
          · subst hc
            by_cases hi : i = v ∧ j < 2
            · obtain ⟨rfl, hj⟩ := hi
              funext k
              show hr H' a k = if k < 40 ∧ j < 2 ∧ (if i = i then true else qmd Q i) = true then (exL L (mfA (hn H) i) (mfU (hn H) i)).1 8 i (if i = i then (if j = qcu Q i then 2 * k + 1 else 2 * k) else qpi Q i j k) else 0
              rw [if_pos rfl, if_pos rfl]
              by_cases hj2 : j = qcu Q i
              · rw [if_pos hj2, ← eA, hj2, f6]
                by_cases hk : k < 40
                · rw [if_pos (show k < 40 ∧ qcu Q i < 2 ∧ true = true from ⟨hk, hcu, rfl⟩), ex_n (aA _ (show 2 * k + 1 < 80 by omega))]
                  show (if k < 40 then hn H + 2 * k + 1 else 0) = _
                  rw [if_pos hk]
                  rfl
                · rw [if_neg (fun w => hk w.1)]
                  exact if_neg hk
              · have hj3 : j = 1 - qcu Q i := by omega
                rw [if_neg hj2, ← eA, hj3, f5]
                by_cases hk : k < 40
                · rw [if_pos (show k < 40 ∧ 1 - qcu Q i < 2 ∧ true = true from ⟨hk, c1, rfl⟩), ex_n (aA _ (show 2 * k < 80 by omega))]
                  exact if_pos hk
                · rw [if_neg (fun w => hk w.1)]
                  exact if_neg hk
            · have far : ∀ b, b < 2 → a ≠ L.1 7 v b := by
                intro b hb e
                have e1 := (hL.2 7 v b ⟨hv, hb⟩).1
                unfold lvK at e1
                rw [← e, w] at e1
                have e2 := Option.some.inj e1
                have e3 : i = v := congrArg (fun q : Nat × Nat × Nat => q.2.1) e2
                have e4 : j = b := congrArg (fun q : Nat × Nat × Nat => q.2.2) e2
                exact hi ⟨e3, by omega⟩
              rw [o4 (far _ c1) (far _ hcu), v2]
              funext k
              show (if k < 40 ∧ j < 2 ∧ qmd Q i = true then L.1 8 i (qpi Q i j k) else 0) = if k < 40 ∧ j < 2 ∧ (if i = v then true else qmd Q i) = true then (exL L (mfA (hn H) v) (mfU (hn H) v)).1 8 i (if i = v then (if j = qcu Q v then 2 * k + 1 else 2 * k) else qpi Q i j k) else 0
              by_cases hj : j < 2
              · have hi2 : i ≠ v := fun w => hi ⟨w, hj⟩
                rw [if_neg hi2, if_neg hi2, show (exL L (mfA (hn H) v) (mfU (hn H) v)).1 8 i (qpi Q i j k) = L.1 8 i (qpi Q i j k) from ex_o (if_neg (fun w => hi2 w.2.1))]
              · rw [if_neg (fun w => hj w.2.1), if_neg (fun w => hj w.2.1)]
          · have far : ∀ b, b < 2 → a ≠ L.1 7 v b := by
              intro b hb e
              have e1 := (hL.2 7 v b ⟨hv, hb⟩).1
              unfold lvK at e1
              rw [← e, w] at e1
              have e2 := Option.some.inj e1
              exact hc (congrArg (fun q : Nat × Nat × Nat => q.1) e2)
            rw [o4 (far _ c1) (far _ hcu), v2]
            exact (congrFun (congrFun (RF_8 (n := n) (L := L) (L' := exL L (mfA (hn H) v) (mfU (hn H) v)) (Q := Q) (Q' := mfQ Q v) hLo rfl rfl rfl hc) i) j).symm
    · intro a h1 h2
      obtain ⟨o1, o2, o3, o4⟩ := f3 a h1
      have n3 : a ≠ L.1 7 v (1 - qcu Q v) := fun w => by
        have := (hL.2 7 v _ ⟨hv, c1⟩).1
        unfold lvK at this
        rw [← w, h2] at this
        cases this
      have n4 : a ≠ L.1 7 v (qcu Q v) := fun w => by
        have := (hL.2 7 v _ ⟨hv, hcu⟩).1
        unfold lvK at this
        rw [← w, h2] at this
        cases this
      refine ⟨ex_2z ?_ h2, o1, o2, o3, o4 n3 n4⟩
      unfold mfU
      rw [if_neg (by omega)]
end
