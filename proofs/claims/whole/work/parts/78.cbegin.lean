/-! THE CLASS: a tick begins -/
def tnV (V : Vt) (k : Nat) : Vt := fun c => if c = 5 then (fun i j => if i < k ∧ j = 0 then va_up (va_up (va_up (V 5 i 0) 5 (V 5 i 0 6)) 6 0) 7 0 else V 5 i j) else V c
def tnQ (Q : Qt) (k : Nat) : Qt := (qpi Q, fun v => if v < k then 1 - qcu Q v else qcu Q v, qmd Q, qpw Q, qhw Q)
section
variable {L : Ly} {G : Hp} {n : Nat} {st : Int32} {V W : Vt} {Q : Qt} {z z' : Sg} {r p q g s x y m v i h k : Nat}
theorem LY_q {Q' : Qt} (hL : LY L G n Q) (h1 : qmd Q' = qmd Q) (h2 : qpw Q' = qpw Q) (h3 : qhw Q' = qhw Q) : LY L G n Q' := by
  have e : ∀ c i j, isL n Q' c i j → isL n Q c i j := by
    intro c i j h
    unfold isL at h ⊢
    rw [h1, h2, h3] at h
    exact h
  exact ⟨hL.1, fun c i j h => hL.2 c i j (e c i j h)⟩
theorem RF_q {Q' : Qt} {c : Nat} (hc : c ≠ 5) (h0 : qpi Q' = qpi Q) (h1 : qmd Q' = qmd Q) (h2 : qpw Q' = qpw Q) (h3 : qhw Q' = qhw Q) : RF n L Q' c = RF n L Q c := by
  funext i j k
  unfold RF
  rw [h0, h1, h2, h3]
  split <;> first | rfl | exact absurd rfl hc
theorem RF_tn (hcu : qcu Q v < 2) : uR (RF n L (tnQ Q v)) 5 v 0 (va_up (va_up (RF n L (tnQ Q v) 5 v 0) 3 (L.1 7 v (qcu Q v))) 4 (L.1 7 v (1 - qcu Q v))) = RF n L (tnQ Q (v + 1)) := by
  funext c
  by_cases hc : c = 5
  · subst hc
    funext i j
    rw [uR_at]
    by_cases hi : i = v ∧ j = 0
    · rw [if_pos hi]
      obtain ⟨rfl, rfl⟩ := hi
      funext k
      rw [vu_a, vu_a]
      show _ = if k = 1 then L.1 6 i 0 else if k = 3 then L.1 7 i (1 - qcu (tnQ Q (i + 1)) i) else if k = 4 then L.1 7 i (qcu (tnQ Q (i + 1)) i) else 0
      have eq : qcu (tnQ Q (i + 1)) i = 1 - qcu Q i := if_pos (by omega)
      rw [eq]
      by_cases h4 : k = 4
      · subst h4
        rfl
      · by_cases h3 : k = 3
        · subst h3
          show L.1 7 i (qcu Q i) = L.1 7 i (1 - (1 - qcu Q i))
          rw [show 1 - (1 - qcu Q i) = qcu Q i by omega]
        · rw [if_neg h4, if_neg h3, if_neg h3, if_neg h4]
          show (if k = 1 then L.1 6 i 0 else if k = 3 then _ else if k = 4 then _ else 0) = _
          rw [if_neg h3, if_neg h4]
    · rw [if_neg hi]
      funext k
      show (if j = 0 then (if k = 1 then L.1 6 i 0 else if k = 3 then L.1 7 i (1 - qcu (tnQ Q v) i) else if k = 4 then L.1 7 i (qcu (tnQ Q v) i) else 0) else 0) = (if j = 0 then (if k = 1 then L.1 6 i 0 else if k = 3 then L.1 7 i (1 - qcu (tnQ Q (v + 1)) i) else if k = 4 then L.1 7 i (qcu (tnQ Q (v + 1)) i) else 0) else 0)
      by_cases hj : j = 0
      · have eq : qcu (tnQ Q v) i = qcu (tnQ Q (v + 1)) i := by
          show (if i < v then 1 - qcu Q i else qcu Q i) = (if i < v + 1 then 1 - qcu Q i else qcu Q i)
          by_cases hlt : i < v
          · rw [if_pos hlt, if_pos (by omega)]
          · rw [if_neg hlt, if_neg (by omega)]
        rw [eq]
      · rw [if_neg hj, if_neg hj]
  · rw [uR_ne hc, RF_q (Q' := tnQ Q v) (Q := tnQ Q (v + 1)) hc rfl rfl rfl rfl]
end
section
variable {L : Ly} {G : Hp} {n : Nat} {st : Int32} {V W : Vt} {Q : Qt} {z z' : Sg} {r p q g s x y m v i h k : Nat}
theorem rK5w {a b : Nat} {R : Rt} (hL : LY L G n Q) (h1 : i < 16) : sR (eK L G V R) (L.1 5 i 0) a b = eK L G V (uR R 5 i 0 (va_up (R 5 i 0) a b)) := eK_sR hL.1 (hL.2 5 i 0 ⟨h1, rfl⟩).1
theorem rK5r {a : Nat} {R : Rt} (hL : LY L G n Q) (h1 : i < 16) : hr (eK L G V R) (L.1 5 i 0) a = R 5 i 0 a := congrFun (eK_hr (hL.2 5 i 0 ⟨h1, rfl⟩).1) a
theorem tnV_s : uR (tnV V v) 5 v 0 (va_up (va_up (va_up (V 5 v 0) 5 (V 5 v 0 6)) 6 0) 7 0) = tnV V (v + 1) := by
  funext c
  by_cases hc : c = 5
  · subst hc
    funext i j
    rw [uR_at]
    show _ = if i < v + 1 ∧ j = 0 then _ else V 5 i j
    by_cases hi : i = v ∧ j = 0
    · obtain ⟨rfl, rfl⟩ := hi
      rw [if_pos ⟨rfl, rfl⟩, if_pos ⟨by omega, rfl⟩]
    · rw [if_neg hi]
      show (if i < v ∧ j = 0 then _ else V 5 i j) = _
      by_cases hlt : i < v ∧ j = 0
      · rw [if_pos hlt, if_pos ⟨by omega, hlt.2⟩]
      · rw [if_neg hlt, if_neg (by omega)]
  · rw [uR_ne hc]
    show (if c = 5 then _ else V c) = (if c = 5 then _ else V c)
    rw [if_neg hc, if_neg hc]
theorem C_turnOver (hL : LY L G n Q) (hv : v < 16) (hcu : qcu Q v < 2) : d_X7_turnOver (L.1 5 v 0) (eK L G (tnV V v) (RF n L (tnQ Q v))) = some (eK L G (tnV V (v + 1)) (RF n L (tnQ Q (v + 1)))) := by
  have e5 : tnV V v 5 v 0 = V 5 v 0 := if_neg (fun w => Nat.lt_irrefl v w.1)
  have r4 : RF n L (tnQ Q v) 5 v 0 4 = L.1 7 v (qcu Q v) := by
    show L.1 7 v (qcu (tnQ Q v) v) = _
    rw [show qcu (tnQ Q v) v = qcu Q v from if_neg (by omega)]
  have r3 : RF n L (tnQ Q v) 5 v 0 3 = L.1 7 v (1 - qcu Q v) := by
    show L.1 7 v (1 - qcu (tnQ Q v) v) = _
    rw [show qcu (tnQ Q v) v = qcu Q v from if_neg (by omega)]
  unfold d_X7_turnOver
  rw [eK_hc, gd_t (yK5 hL hv), rK5r hL hv, rK5r hL hv, r4, r3, rK5w hL hv, bd_e, eK_hc, gd_t (yK5 hL hv), rK5w hL hv, uR_s, uR_uR, bd_e, RF_tn hcu, eK_hc, gd_t (yK5 hL hv), iK5 hL hv, wK5 hL hv, e5, bd_e, eK_hc, gd_t (yK5 hL hv), wK5 hL hv, uR_s, uR_uR, bd_e, eK_hc, gd_t (yK5 hL hv), wK5 hL hv, uR_s, uR_uR, bd_e, tnV_s]
theorem C_begin_15 (hL : LY L G n Q) (hcu : ∀ v, v < 16 → qcu Q v < 2) : ∀ (N v : Nat), v ≤ 16 → 16 - v < N → d_X8_beginTick_15 N (L.1 0 0 0) (nI v) (eK L G (tnV V v) (RF n L (tnQ Q v))) = d_X8_beginTick_41 FU (L.1 0 0 0) 0 (eK L G (tnV V 16) (RF n L (tnQ Q 16))) := by
  intro N
  induction N with
  | zero => intro v _ h; omega
  | succ N ih =>
    intro v hv hlt
    rw [d_X8_beginTick_15.eq_2, show (16 : Int32) = nI 16 from rfl]
    by_cases he : v = 16
    · subst he
      rw [if_pos (nI_le (by omega) (by decide))]
    · have hv16 : v < 16 := by omega
      have hL' : LY L G n (tnQ Q v) := LY_q hL rfl rfl rfl
      rw [if_neg (nI_ge hv16 (by decide))]
      rw [eK_hc, gd_t (yK0 hL'), rK0_0 hL', gd_t (yK1 hL'), rK1_0 hL', eK_hl, yK4_0 hL', lK4_0 hL', gd_t ⟨rfl, (ix_nI (by omega)).mpr hv16⟩, nI_clamp (by omega), rK4_0 hL' hv16, gd_t (yK5 hL' hv16), C_turnOver hL hv16 (hcu v hv16), bo_e, nI_1]
      exact ih (v + 1) (by omega) (by omega)
end
