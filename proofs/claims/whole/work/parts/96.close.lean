/-! THE CLASS: a frame is lost -/
def sgt (i t k : Nat) : Nat := if i ≤ k ∧ k + 1 < t then k + 1 else k
def sgf (i m k : Nat) : Nat := if i ≤ k ∧ k + 1 < m then k + 1 else if k + 1 = m then i else k
def roQ (Q : Qt) (v : Nat) (f : Nat → Nat) : Qt := (fun w b k => if w = v ∧ b = qcu Q v then qpi Q v b (f k) else qpi Q w b k, qcu Q, qmd Q, qpw Q, qhw Q)
section
variable {L : Ly} {G : Hp} {n : Nat} {st : Int32} {V : Vt} {Q : Qt} {z : Sg} {r p q g s x y m v i h k t : Nat}
theorem rK7w {a b j : Nat} {R : Rt} (hL : LY L G n Q) (h1 : i < 16) (h2 : j < 2) : sR (eK L G V R) (L.1 7 i j) a b = eK L G V (uR R 7 i j (va_up (R 7 i j) a b)) := eK_sR hL.1 (hL.2 7 i j ⟨h1, h2⟩).1
theorem RF_ro {f f' : Nat → Nat} {a e : Nat} (hcu : qcu Q v < 2) (ha : a < 40) (hm : qmd Q v = true) (hf : ∀ k, k < 40 → f' k = if k = a then e else f k) : uR (RF n L (roQ Q v f)) 7 v (qcu Q v) (va_up (RF n L (roQ Q v f) 7 v (qcu Q v)) a (L.1 8 v (qpi Q v (qcu Q v) e))) = RF n L (roQ Q v f') := by
  funext c
  by_cases hc : c = 7
  · subst hc
    funext w b
    rw [uR_at]
    by_cases hw : w = v ∧ b = qcu Q v
    · obtain ⟨rfl, rfl⟩ := hw
      rw [if_pos ⟨rfl, rfl⟩]
      funext k
      rw [vu_a]
      show (if k = a then _ else if k < 40 ∧ qcu Q w < 2 ∧ qmd Q w = true then L.1 8 w (if w = w ∧ qcu Q w = qcu Q w then qpi Q w (qcu Q w) (f k) else qpi Q w (qcu Q w) k) else 0) = (if k < 40 ∧ qcu Q w < 2 ∧ qmd Q w = true then L.1 8 w (if w = w ∧ qcu Q w = qcu Q w then qpi Q w (qcu Q w) (f' k) else qpi Q w (qcu Q w) k) else 0)
      rw [if_pos (show w = w ∧ qcu Q w = qcu Q w from ⟨rfl, rfl⟩), if_pos (show w = w ∧ qcu Q w = qcu Q w from ⟨rfl, rfl⟩)]
      by_cases hk : k < 40
      · have hP : k < 40 ∧ qcu Q w < 2 ∧ qmd Q w = true := ⟨hk, hcu, hm⟩
        have hfk := hf k hk
        by_cases e1 : k = a
        · rw [if_pos e1] at hfk
          rw [if_pos e1, if_pos hP, hfk]
        · rw [if_neg e1] at hfk
          rw [if_neg e1, if_pos hP, if_pos hP, hfk]
      · rw [if_neg (by omega), if_neg (fun w => hk w.1), if_neg (fun w => hk w.1)]
    · rw [if_neg hw]
      funext k
      show (if k < 40 ∧ b < 2 ∧ qmd Q w = true then L.1 8 w (if w = v ∧ b = qcu Q v then _ else qpi Q w b k) else 0) = (if k < 40 ∧ b < 2 ∧ qmd Q w = true then L.1 8 w (if w = v ∧ b = qcu Q v then _ else qpi Q w b k) else 0)
      rw [if_neg hw, if_neg hw]
  · rw [uR_ne hc]
    funext w b k
    unfold RF
    split <;> first | rfl | exact absurd rfl hc
theorem C_drop24 (hL : LY L G n Q) (hC : RC n st V Q z) (hv : v < 16) (hm : qmd Q v = true) (hM : m ≤ 40) (em : z.2 16 v = nI m) (him : i < m) : ∀ (N t : Nat), i + 1 ≤ t → t ≤ m → m - t < N → d_X7_drop_24 N (L.1 5 v 0) (L.1 8 v (qpi Q v (qcu Q v) i)) (nI t) (eK L G V (RF n L (roQ Q v (sgt i t)))) = some (1, eK L G (uR V 5 v 0 (va_up (V 5 v 0) 6 (nI (m - 1)))) (RF n L (roQ Q v (sgf i m)))) := by
  have hcu := (hC.pi v hv).1
  have hq : ∀ k, k < 40 → qpi Q v (qcu Q v) k < 80 := fun k hk => ((hC.pi v hv).2 _ _ _ _ hcu hk hcu hk).1
  have c6 := (hC.wi v hv).2.2.1
  intro N
  induction N with
  | zero => intro t _ _ h; omega
  | succ N ih =>
    intro t h1 h2 hlt
    have hL' : LY L G n (roQ Q v (sgt i t)) := LY_q hL rfl rfl rfl
    have hqq : ∀ k, qpi (roQ Q v (sgt i t)) v (qcu Q v) k = qpi Q v (qcu Q v) (sgt i t k) := fun k => if_pos ⟨rfl, rfl⟩
    rw [d_X7_drop_24.eq_2, eK_hc, gd_t (yK5 hL' hv), iK5 hL' hv, c6, em]
    by_cases he : t = m
    · subst he
      rw [if_pos (nI_le (by omega) (by omega)), wK5 hL' hv, bd_e]
      have e1 : nI t - 1 = nI (t - 1) := by
        have := nI_pred (t - 1)
        rw [show t - 1 + 1 = t by omega] at this
        exact this
      rw [e1, eK_hc, gd_t (yK5 hL' hv), iK5 hL' hv, uR_s, vu_s, rK5_4 hL' hv, eK_hl]
      rw [show qcu (roQ Q v (sgt i t)) v = qcu Q v from rfl]
      rw [yK7 hL' hv hcu, lK7 hL' hv hcu, gd_t ⟨⟨rfl, (ix_nI (by omega)).mpr (by omega)⟩, Or.inr (yK8 hL hv (hq i (by omega)) hm)⟩, nI_clamp (by omega), rK7w hL' hv hcu, bd_e, RF_ro (f' := sgf i t) hcu (by omega) hm (fun k hk => ?_)]
      unfold sgf sgt
      by_cases e : k = t - 1
      · rw [if_neg (by omega), if_pos (by omega), if_pos e]
      · rw [if_neg (show ¬ k + 1 = t by omega), if_neg e]
    · rw [if_neg (nI_ge (show t < m by omega) (by omega)), rK5_4 hL' hv, eK_hl]
      rw [show qcu (roQ Q v (sgt i t)) v = qcu Q v from rfl]
      have e1 : nI t - 1 = nI (t - 1) := by
        have := nI_pred (t - 1)
        rw [show t - 1 + 1 = t by omega] at this
        exact this
      have et : sgt i t t = t := by
        unfold sgt
        rw [if_neg (by omega)]
      have eref : hr (eK L G V (RF n L (roQ Q v (sgt i t)))) (L.1 7 v (qcu Q v)) t = L.1 8 v (qpi Q v (qcu Q v) t) := by
        rw [rK7 hL' hv hcu (show t < 40 by omega) hm, hqq, et]
      rw [e1, yK7 hL' hv hcu, lK7 hL' hv hcu, gd_t ⟨rfl, (ix_nI (by omega)).mpr (show t < 40 by omega)⟩, nI_clamp (show t < 2 ^ 31 by omega), nI_clamp (show t - 1 < 2 ^ 31 by omega), eref, gd_t ⟨⟨rfl, (ix_nI (by omega)).mpr (show t - 1 < 40 by omega)⟩, Or.inr (yK8 hL hv (hq t (by omega)) hm)⟩, rK7w hL' hv hcu, bd_e, RF_ro (f' := sgt i (t + 1)) (e := t) hcu (by omega) hm (fun k hk => ?_), nI_1]
      · exact ih (t + 1) (by omega) (by omega) (by omega)
      · unfold sgt
        by_cases e : k = t - 1
        · rw [if_pos (by omega), if_pos e]
          omega
        · rw [if_neg e]
          by_cases c : i ≤ k ∧ k + 1 < t
          · rw [if_pos c, if_pos (by omega)]
          · rw [if_neg c, if_neg (by omega)]
theorem sgf_ok (him : i < m) (hM : m ≤ 40) (hk : k < 40) : sgf i m k < 40 := by
  unfold sgf
  split
  · omega
  · split <;> omega
theorem sgf_inj {k' : Nat} (him : i < m) (h : sgf i m k = sgf i m k') : k = k' := by
  unfold sgf at h
  by_cases a1 : i ≤ k ∧ k + 1 < m
  · rw [if_pos a1] at h
    by_cases b1 : i ≤ k' ∧ k' + 1 < m
    · rw [if_pos b1] at h
      omega
    · rw [if_neg b1] at h
      by_cases b2 : k' + 1 = m
      · rw [if_pos b2] at h
        omega
      · rw [if_neg b2] at h
        omega
  · rw [if_neg a1] at h
    by_cases a2 : k + 1 = m
    · rw [if_pos a2] at h
      by_cases b1 : i ≤ k' ∧ k' + 1 < m
      · rw [if_pos b1] at h
        omega
      · rw [if_neg b1] at h
        by_cases b2 : k' + 1 = m
        · rw [if_pos b2] at h
          omega
        · rw [if_neg b2] at h
          omega
    · rw [if_neg a2] at h
      by_cases b1 : i ≤ k' ∧ k' + 1 < m
      · rw [if_pos b1] at h
        omega
      · rw [if_neg b1] at h
        by_cases b2 : k' + 1 = m
        · rw [if_pos b2] at h
          omega
        · rw [if_neg b2] at h
          omega
theorem C_lose {a b : Int32} (hL : LY L G n Q) (hC : RC n st V Q z) (hO : cnt z) : ∃ V' Q', d_X8_lose (L.1 0 0 0) a b (eK L G V (RF n L Q)) = some (bI (loB z a b), eK L G V' (RF n L Q')) ∧ RC n st V' Q' (cond (loB z a b) (loZ z a b) z) ∧ LY L G n Q' := by
  unfold d_X8_lose loB
  rw [C_isIn16, bo_e, ite_bI]
  cases ha : inR a 16 with
  | false => exact ⟨V, Q, rfl, hC, hL⟩
  | true =>
    obtain ⟨v, hv, rfl⟩ := inR_t (by decide) ha
    rw [cond_true, Bool.true_and, tn_n (show v < 2 ^ 31 by omega)]
    simp (disch := first | omega | assumption) only [eK_hc, eK_hl, yK0 hL, iK0 hL, rK0_0 hL, rK0_1 hL, rK0_2 hL, yK1 hL, iK1 hL, rK1_0 hL, rK1_1 hL, rK1_2 hL, rK1_3 hL, yK4_0 hL, iK4_0 hL, lK4_0 hL, rK4_0 hL, lm4, lm8, lm10, lm16, lm17, lm26, lm40, lm400, nI_add, nI_1, ix_nI, nI_clamp, gd_T, gd_t, bd_e, bo_e, b2_e, true_and, and_true]
    simp (disch := first | omega | assumption) only [eK_hc, eK_hl, yK5 hL, iK5 hL, rK5_1 hL, rK5_3 hL, rK5_4 hL, gd_T, gd_t, bd_e, bo_e, b2_e, true_and, and_true]
    obtain ⟨m40, me⟩ := cnt_m hO hv
    have c6 := (hC.wi v hv).2.2.1
    have hcu := (hC.pi v hv).1
    unfold d_X7_drop
    rw [eK_hc, gd_t (yK5 hL hv), iK5 hL hv, c6, C_isInG, bo_e, ite_bI]
    by_cases hb : ¬ b < 0 ∧ b < z.2 16 v
    · rw [decide_eq_true hb, decide_eq_false hb.1, decide_eq_false (Int32.not_le.mpr hb.2)]
      obtain ⟨i, hi31, rfl⟩ := nI_of hb.1
      have him : i < (z.2 16 v).toNatClampNeg := by
        have := hb.2
        rw [me] at this
        rcases Nat.lt_or_ge i (z.2 16 v).toNatClampNeg with o | o
        · exact o
        · exact absurd this (nI_nlt o hi31)
      generalize hm : (z.2 16 v).toNatClampNeg = M at m40 me him
      have hmd : qmd Q v = true := by
        cases hmm : qmd Q v with
        | true => rfl
        | false =>
          have := (hC.me v hv hmm).1
          rw [me] at this
          exact absurd this (nI_ne0 (by omega) (by omega))
      have hq : qpi Q v (qcu Q v) i < 80 := ((hC.pi v hv).2 _ _ _ _ hcu (show i < 40 by omega) hcu (show i < 40 by omega)).1
      have h0 : roQ Q v (sgt i (i + 1)) = Q := by
        have : (fun w b k => if w = v ∧ b = qcu Q v then qpi Q v b (sgt i (i + 1) k) else qpi Q w b k) = qpi Q := by
          funext w b k
          unfold sgt
          rw [if_neg (show ¬ (i ≤ k ∧ k + 1 < i + 1) by omega)]
          split
          · rename_i e
            rw [e.1]
          · rfl
        show ((fun w b k => if w = v ∧ b = qcu Q v then qpi Q v b (sgt i (i + 1) k) else qpi Q w b k), qcu Q, qmd Q, qpw Q, qhw Q) = Q
        rw [this]
        rfl
      have ed := C_drop24 hL hC hv hmd m40 me him FU (i + 1) (by omega) (by omega) (by show _ < 6000; omega)
      rw [h0] at ed
      rw [rK5_4 hL hv, eK_hl, yK7 hL hv hcu, lK7 hL hv hcu, Bool.not_false, Bool.and_self, cond_true, gd_t ⟨rfl, (ix_nI (by omega)).mpr (show i < 40 by omega)⟩, nI_clamp hi31, rK7 hL hv hcu (show i < 40 by omega) hmd, bd_e, nI_1, ed, b2_e, if_neg (by decide)]
      refine ⟨uR V 5 v 0 (va_up (V 5 v 0) 6 (nI (M - 1))), roQ Q v (sgf i M), rfl, ?_, LY_q hL rfl rfl rfl⟩
      show RC n st _ _ (loZ z (nI v) (nI i))
      unfold loZ
      rw [tn_n (show v < 2 ^ 31 by omega), tn_n hi31, me, tn_n (show M < 2 ^ 31 by omega)]
      have e1 : nI M - 1 = nI (M - 1) := by
        have := nI_pred (M - 1)
        rw [show M - 1 + 1 = M by omega] at this
        exact this
      rw [e1]
      have k16 : ∀ w, (uA (lsZ z (8 * (40 * v + i)) (8 * (40 * v + M - 1))) 16 v (nI (M - 1))).2 16 w = if w = v then nI (M - 1) else z.2 16 w := fun w => by rw [uA_get, ls_ne (by decide)]
      have k18 : ∀ j, (uA (lsZ z (8 * (40 * v + i)) (8 * (40 * v + M - 1))) 16 v (nI (M - 1))).2 18 j = if 8 * (40 * v + i) ≤ j ∧ j < 8 * (40 * v + M - 1) then z.2 18 (j + 8) else z.2 18 j := fun j => by rw [uA_ne (by decide), ls_at]
      have ewi : cWi (uR V 5 v 0 (va_up (V 5 v 0) 6 (nI (M - 1))) 5) (z.2 10) ((uA (lsZ z (8 * (40 * v + i)) (8 * (40 * v + M - 1))) 16 v (nI (M - 1))).2 16) (z.2 17) (z.2 19) := by
        intro w hw
        obtain ⟨d0, d2, d6, d7, d5⟩ := hC.wi w hw
        rw [uR_at, k16]
        by_cases e : w = v
        · subst e
          rw [if_pos ⟨rfl, rfl⟩, if_pos rfl, vu_n (by decide), vu_n (by decide), vu_s, vu_n (by decide), vu_n (by decide)]
          exact ⟨d0, d2, rfl, d7, d5⟩
        · rw [if_neg (fun q => e q.1), if_neg e]
          exact ⟨d0, d2, d6, d7, d5⟩
      have esu : cSu (uR V 5 v 0 (va_up (V 5 v 0) 6 (nI (M - 1))) 5) (z.1 3) (z.1 4) (z.1 5) (z.1 7) := by
        obtain ⟨s8, s9, s10, s11⟩ := hC.su
        refine ⟨?_, ?_, ?_, ?_⟩
        · rw [sm_uR hv (d := 0) (by rw [vu_n (by decide), Int32.add_zero]), s8, Int32.add_zero]
        · rw [sm_uR hv (d := 0) (by rw [vu_n (by decide), Int32.add_zero]), s9, Int32.add_zero]
        · rw [sm_uR hv (d := 0) (by rw [vu_n (by decide), Int32.add_zero]), s10, Int32.add_zero]
        · rw [sm_uR hv (d := 0) (by rw [vu_n (by decide), Int32.add_zero]), s11, Int32.add_zero]
      have efr : cFr (roQ Q v (sgf i M)) (V 8) ((uA (lsZ z (8 * (40 * v + i)) (8 * (40 * v + M - 1))) 16 v (nI (M - 1))).2 16) ((uA (lsZ z (8 * (40 * v + i)) (8 * (40 * v + M - 1))) 16 v (nI (M - 1))).2 18) := by
        intro w j k hw hmw hj hk
        rw [k16] at hj
        rw [k18]
        by_cases e : w = v
        · subst e
          rw [if_pos rfl, nI_clamp (by omega)] at hj
          have eq : qpi (roQ Q w (sgf i M)) w (qcu (roQ Q w (sgf i M)) w) j = qpi Q w (qcu Q w) (sgf i M j) := if_pos ⟨rfl, rfl⟩
          rw [eq]
          unfold sgf
          by_cases c : i ≤ j ∧ j + 1 < M
          · rw [if_pos c, if_pos (by omega), hC.fr w (j + 1) k hw hmw (by rw [hm]; omega) hk]
            exact congrArg (z.2 18) (by omega)
          · rw [if_neg c, if_neg (by omega), if_neg (by omega)]
            exact hC.fr w j k hw hmw (by rw [hm]; omega) hk
        · rw [if_neg e] at hj
          have w40 := (cnt_m hO hw).1
          have eq : qpi (roQ Q v (sgf i M)) w (qcu (roQ Q v (sgf i M)) w) j = qpi Q w (qcu Q w) j := if_neg (fun q => e q.1)
          rw [eq, if_neg (by omega)]
          exact hC.fr w j k hw hmw hj hk
      have efc : cFc (roQ Q v (sgf i M)) (V 8) (z.2 19) (z.2 20) := by
        intro w j k hw hmw hj hk
        have eq : qpi (roQ Q v (sgf i M)) w (1 - qcu (roQ Q v (sgf i M)) w) j = qpi Q w (1 - qcu Q w) j := by
          refine if_neg (fun q => ?_)
          have h1 := q.1
          subst h1
          have h2 : 1 - qcu Q w = qcu Q w := q.2
          have := (hC.pi w hw).1
          omega
        rw [eq]
        exact hC.fc w j k hw hmw hj hk
      have epi : cPi (roQ Q v (sgf i M)) := by
        intro w hw
        obtain ⟨p1, p2⟩ := hC.pi w hw
        refine ⟨p1, fun b1 i1 b2 i2 hb1 hi1 hb2 hi2 => ?_⟩
        show (if w = v ∧ b1 = qcu Q v then qpi Q v b1 (sgf i M i1) else qpi Q w b1 i1) < 80 ∧ ((if w = v ∧ b1 = qcu Q v then qpi Q v b1 (sgf i M i1) else qpi Q w b1 i1) = (if w = v ∧ b2 = qcu Q v then qpi Q v b2 (sgf i M i2) else qpi Q w b2 i2) → b1 = b2 ∧ i1 = i2)
        have o1 := sgf_ok (k := i1) him m40 hi1
        have o2 := sgf_ok (k := i2) him m40 hi2
        by_cases c1 : w = v ∧ b1 = qcu Q v
        · rw [if_pos c1]
          have ew := c1.1
          subst ew
          by_cases c2 : w = w ∧ b2 = qcu Q w
          · rw [if_pos c2]
            refine ⟨(p2 _ _ _ _ hb1 o1 hb1 o1).1, fun q => ?_⟩
            obtain ⟨q1, q2⟩ := (p2 _ _ _ _ hb1 o1 hb2 o2).2 q
            exact ⟨q1, sgf_inj him q2⟩
          · rw [if_neg c2]
            refine ⟨(p2 _ _ _ _ hb1 o1 hb1 o1).1, fun q => ?_⟩
            obtain ⟨q1, q2⟩ := (p2 _ _ _ _ hb1 o1 hb2 hi2).2 q
            exact absurd ⟨rfl, q1.symm.trans c1.2⟩ c2
        · rw [if_neg c1]
          by_cases c2 : w = v ∧ b2 = qcu Q v
          · rw [if_pos c2]
            have ew := c2.1
            subst ew
            refine ⟨(p2 _ _ _ _ hb1 hi1 hb1 hi1).1, fun q => ?_⟩
            obtain ⟨q1, q2⟩ := (p2 _ _ _ _ hb1 hi1 hb2 o2).2 q
            exact absurd ⟨rfl, q1.trans c2.2⟩ c1
          · rw [if_neg c2]
            exact p2 _ _ _ _ hb1 hi1 hb2 hi2
      have eme : cMe (roQ Q v (sgf i M)) ((uA (lsZ z (8 * (40 * v + i)) (8 * (40 * v + M - 1))) 16 v (nI (M - 1))).2 16) (z.2 19) := by
        intro w hw hmw
        rw [k16]
        by_cases e : w = v
        · subst e
          have : qmd Q w = false := hmw
          rw [hmd] at this
          cases this
        · rw [if_neg e]
          exact hC.me w hw hmw
      exact ⟨hC.tm, hC.nu, hC.tu, hC.nn, hC.ns, hC.qw, hC.qh, hC.wa, hC.mt, hC.hz, (ewi), (esu), hC.po, (efr), (efc), (epi), hC.md, (eme), hC.fn, hC.id, hC.jb, hC.ja, hC.tc, hC.kp, hC.sp, hC.sb, hC.pt, hC.he, hC.qu, hC.nt, (cNb_c hC.nb rfl rfl rfl), hC.mb, hC.jt, hC.cf, hC.cl, hC.ho, hC.go, hC.k33, hC.k39, hC.k37, hC.k29, hC.k28, hC.k31, hC.k30, hC.un, hC.on, hC.u2, hC.g0, hC.jp, (cWs_t hC.ws ⟨rfl, rfl, rfl, rfl⟩)⟩
    · rw [decide_eq_false hb]
      have : (!decide (b < 0) && !decide (z.2 16 v ≤ b)) = false := by
        by_cases c : b < 0
        · rw [decide_eq_true c]
          rfl
        · rw [decide_eq_false c]
          have : z.2 16 v ≤ b := Int32.not_lt.mp (fun w => hb ⟨c, w⟩)
          rw [decide_eq_true this]
          rfl
      rw [this, cond_false, b2_e, if_pos rfl]
      exact ⟨V, Q, rfl, hC, hL⟩
end
