/-! THE CLASS: a port is plugged, where its cells lie -/
def ptA (h0 r p : Nat) (c i j : Nat) : Option Nat := if (18 ≤ c ∧ c ≤ 24) ∧ i = r ∧ j = p then some (h0 + (c - 18)) else none
def ptU (h0 r p : Nat) (a : Nat) : Option (Nat × Nat × Nat) := if h0 ≤ a ∧ a < h0 + 7 then some (18 + (a - h0), r, p) else none
section
variable {L L' : Ly} {G H H3 : Hp} {n : Nat} {st : Int32} {V : Vt} {Q Q' : Qt} {z : Sg} {r p q g s x y m v i h k t c j : Nat} {d w : Int32}
theorem RF_18 (h : ∀ c i j, ¬ ((18 ≤ c ∧ c ≤ 24) ∧ i = r ∧ j = p) → L'.1 c i j = L.1 c i j) (hp : p < 4) (h10 : ¬ (c = 10 ∧ i = r ∧ j = 0)) (h18 : c = 18 → j < 4 ∧ ¬ (i = r ∧ j = p)) : RF n L' (plQ Q (4 * r + p) w) c i j = RF n L Q c i j := by
  funext k
  by_cases c10 : c = 10
  · subst c10
    show (if j = 0 ∧ k < 4 ∧ va_up (qpw Q) (4 * r + p) w (4 * i + k) ≠ -1 then L'.1 18 i k else 0) = (if j = 0 ∧ k < 4 ∧ qpw Q (4 * i + k) ≠ -1 then L.1 18 i k else 0)
    by_cases hj : j = 0 ∧ k < 4
    · have hi : i ≠ r := fun e => h10 ⟨rfl, e, hj.1⟩
      rw [vu_n (show 4 * i + k ≠ 4 * r + p by omega), h 18 i k (fun o => hi o.2.1)]
    · rw [if_neg (fun o => hj ⟨o.1, o.2.1⟩), if_neg (fun o => hj ⟨o.1, o.2.1⟩)]
  · by_cases c18 : c = 18
    · subst c18
      obtain ⟨j4, hij⟩ := h18 rfl
      show (if k = 0 then L'.1 1 0 0 else if k = 2 then L'.1 5 (va_up (qpw Q) (4 * r + p) w (4 * i + j)).toNatClampNeg 0 else if k = 7 then L'.1 19 i j else if k = 8 then L'.1 20 i j else if k = 9 then L'.1 21 i j else if k = 10 then L'.1 22 i j else if k = 11 then L'.1 23 i j else if k = 12 then L'.1 24 i j else 0) = (if k = 0 then L.1 1 0 0 else if k = 2 then L.1 5 (qpw Q (4 * i + j)).toNatClampNeg 0 else if k = 7 then L.1 19 i j else if k = 8 then L.1 20 i j else if k = 9 then L.1 21 i j else if k = 10 then L.1 22 i j else if k = 11 then L.1 23 i j else if k = 12 then L.1 24 i j else 0)
      rw [vu_n (show 4 * i + j ≠ 4 * r + p by omega), h 1 0 0 (by omega), h 5 _ 0 (by omega), h 19 i j (fun o => hij o.2), h 20 i j (fun o => hij o.2), h 21 i j (fun o => hij o.2), h 22 i j (fun o => hij o.2), h 23 i j (fun o => hij o.2), h 24 i j (fun o => hij o.2)]
    · have a1 := fun i j => h 1 i j (by omega)
      have a2 := fun i j => h 2 i j (by omega)
      have a3 := fun i j => h 3 i j (by omega)
      have a4 := fun i j => h 4 i j (by omega)
      have a5 := fun i j => h 5 i j (by omega)
      have a6 := fun i j => h 6 i j (by omega)
      have a7 := fun i j => h 7 i j (by omega)
      have a8 := fun i j => h 8 i j (by omega)
      have a9 := fun i j => h 9 i j (by omega)
      have a10 := fun i j => h 10 i j (by omega)
      have a11 := fun i j => h 11 i j (by omega)
      have a12 := fun i j => h 12 i j (by omega)
      have a13 := fun i j => h 13 i j (by omega)
      have a14 := fun i j => h 14 i j (by omega)
      have a15 := fun i j => h 15 i j (by omega)
      have a16 := fun i j => h 16 i j (by omega)
      have a17 := fun i j => h 17 i j (by omega)
      have a25 := fun i j => h 25 i j (by omega)
      have a26 := fun i j => h 26 i j (by omega)
      have q1 : qcu (plQ Q (4 * r + p) w) = qcu Q := rfl
      have q2 : qmd (plQ Q (4 * r + p) w) = qmd Q := rfl
      have q3 : qpi (plQ Q (4 * r + p) w) = qpi Q := rfl
      have q4 : qhw (plQ Q (4 * r + p) w) = qhw Q := rfl
      unfold RF
      split <;> first | exact absurd rfl c10 | exact absurd rfl c18 | rfl | simp only [a1, a2, a3, a4, a5, a6, a7, a8, a9, a10, a11, a12, a13, a14, a15, a16, a17, a25, a26, q1, q2, q3, q4]
theorem isL_18 (hp : p < 4) (hn : ¬ ((18 ≤ c ∧ c ≤ 24) ∧ i = r ∧ j = p)) (h : isL n (plQ Q (4 * r + p) w) c i j) : isL n Q c i j := by
  by_cases hc : 18 ≤ c ∧ c ≤ 24
  · have hij : ¬ (i = r ∧ j = p) := fun o => hn ⟨hc, o⟩
    have gen : (i < n ∧ j < 4 ∧ va_up (qpw Q) (4 * r + p) w (4 * i + j) ≠ -1) → i < n ∧ j < 4 ∧ qpw Q (4 * i + j) ≠ -1 := by
      intro o
      have o2 := o.2.2
      rw [vu_n (show 4 * i + j ≠ 4 * r + p by omega)] at o2
      exact ⟨o.1, o.2.1, o2⟩
    rcases (show c = 18 ∨ c = 19 ∨ c = 20 ∨ c = 21 ∨ c = 22 ∨ c = 23 ∨ c = 24 by omega) with e | e | e | e | e | e | e <;> subst e <;> exact gen h
  · have e : isL n (plQ Q (4 * r + p) w) c i j = isL n Q c i j := by
      unfold isL
      split <;> first | rfl | exact absurd (by decide) hc
    rw [← e]
    exact h
theorem pl_IC (hI : IC L H n Q V) (h0 : 0 < hn H) (hr' : r < n) (hp : p < 4) (hv : v < 16) (hq : qpw Q (4 * r + p) = -1) (hN : ND (nC H 4 0 13) (hn H) 4 plT plL 6 (ptF (nI r) d) (ptG (hn H + 1) (L.1 1 0 0) (L.1 5 v 0)) (fun _ _ => 0) H3) : IC (exL L (ptA (hn H) r p) (ptU (hn H) r p)) (sR H3 (L.1 10 r 0) p (hn H)) n (plQ Q (4 * r + p) (nI v)) (ptV V r p d) := by
  obtain ⟨⟨a1, a2, a3, a4⟩, b, ⟨c1, c2, c3, c4⟩, e⟩ := hN
  rw [nC_hn] at a1 b e
  have old : ∀ a, a < hn H → Sm a H H3 := by
    intro a ha
    obtain ⟨o1, o2, o3, o4⟩ := b a (by omega) (by omega)
    have ne : a ≠ hn H := by omega
    rw [nC_hc, if_neg ne] at o1
    rw [nC_hl, if_neg ne] at o2
    rw [nC_hi, if_neg ne] at o3
    rw [nC_hr, if_neg ne] at o4
    exact ⟨o1, o2, o3, o4⟩
  have aA : ∀ c, 18 ≤ c → c ≤ 24 → ptA (hn H) r p c r p = some (hn H + (c - 18)) := fun c h1 h2 => if_pos ⟨⟨h1, h2⟩, rfl, rfl⟩
  have aN : ∀ c i j, ¬ ((18 ≤ c ∧ c ≤ 24) ∧ i = r ∧ j = p) → ptA (hn H) r p c i j = none := fun c i j hc => if_neg hc
  have hLo : ∀ c i j, ¬ ((18 ≤ c ∧ c ≤ 24) ∧ i = r ∧ j = p) → (exL L (ptA (hn H) r p) (ptU (hn H) r p)).1 c i j = L.1 c i j := fun c i j hc => ex_o (aN c i j hc)
  have hLn : ∀ c, 18 ≤ c → c ≤ 24 → (exL L (ptA (hn H) r p) (ptU (hn H) r p)).1 c r p = hn H + (c - 18) := fun c h1 h2 => ex_n (aA c h1 h2)
  have aI : ∀ c i j a, ptA (hn H) r p c i j = some a → (18 ≤ c ∧ c ≤ 24) ∧ i = r ∧ j = p ∧ a = hn H + (c - 18) := by
    intro c i j a w
    unfold ptA at w
    split at w
    · rename_i o
      exact ⟨o.1, o.2.1, o.2.2, (Option.some.inj w).symm⟩
    · cases w
  have uI : ∀ a q, ptU (hn H) r p a = some q → hn H ≤ a ∧ a < hn H + 7 ∧ q = (18 + (a - hn H), r, p) := by
    intro a q w
    unfold ptU at w
    split at w
    · rename_i o
      exact ⟨o.1, o.2, (Option.some.inj w).symm⟩
    · cases w
  have l10 : L.1 10 r 0 < hn H := IC_lt hI (show isL n Q 10 r 0 from ⟨hr', rfl⟩)
  have row : ∀ c, 19 ≤ c → c ≤ 24 → hc H3 (hn H + (c - 18)) = 11 ∧ hl H3 (hn H + (c - 18)) = plL (c - 19) ∧ hi H3 (hn H + (c - 18)) = (fun _ => 0) ∧ hr H3 (hn H + (c - 18)) = fun _ => 0 := by
    intro c h1 h2
    have := e (c - 19) (by omega)
    rw [show hn H + 1 + (c - 19) = hn H + (c - 18) by omega] at this
    exact this
  have hLY : LY (exL L (ptA (hn H) r p) (ptU (hn H) r p)) (sR H3 (L.1 10 r 0) p (hn H)) n (plQ Q (4 * r + p) (nI v)) := by
    refine ex_LY hI h0 ?_ ?_ ?_ ?_ (fun a ha => ⟨(old a ha).1, (old a ha).2.1⟩)
    · intro c i j h1 h2
      refine isL_18 hp (fun o => ?_) h1
      obtain ⟨⟨o1, o2⟩, rfl, rfl⟩ := o
      rw [aA c o1 o2] at h2
      cases h2
    · intro c i j a w
      obtain ⟨⟨o1, o2⟩, rfl, rfl, rfl⟩ := aI c i j a w
      refine ⟨Nat.le_add_right _ _, ?_⟩
      rw [sR_hc, sR_hl]
      rcases (show c = 18 ∨ c = 19 ∨ c = 20 ∨ c = 21 ∨ c = 22 ∨ c = 23 ∨ c = 24 by omega) with e | e | e | e | e | e | e
      · subst e
        exact ⟨c1, fun w => absurd rfl w⟩
      all_goals
        subst e
        exact ⟨(row _ (by decide) (by decide)).1, fun _ => (row _ (by decide) (by decide)).2.1⟩
    · intro a q w
      obtain ⟨o1, o2, rfl⟩ := uI a q w
      show ptA (hn H) r p (18 + (a - hn H)) r p = some a
      rw [aA _ (by omega) (by omega)]
      exact congrArg some (by omega)
    · intro c i j a w
      obtain ⟨⟨o1, o2⟩, rfl, rfl, rfl⟩ := aI c i j a w
      unfold ptU
      rw [if_pos (by omega)]
      exact congrArg (fun c => some (c, i, j)) (by omega)
  refine ex_IC hI (by rw [sR_hn]; omega) hLY ?_ ?_ (fun a q w => ?_)
  · intro a q w
    obtain ⟨o1, o2, rfl⟩ := uI a q w
    rw [sR_hn, sR_hi, sR_hr, if_neg (show a ≠ L.1 10 r 0 by omega)]
    refine ⟨by omega, ?_⟩
    rcases (show a = hn H ∨ a = hn H + 1 ∨ a = hn H + 2 ∨ a = hn H + 3 ∨ a = hn H + 4 ∨ a = hn H + 5 ∨ a = hn H + 6 by omega) with e | e | e | e | e | e | e
    · subst e
      rw [Nat.sub_self, c3, c4]
      refine ⟨(if_pos ⟨rfl, rfl⟩).symm, ?_⟩
      funext k
      show ptG (hn H + 1) (L.1 1 0 0) (L.1 5 v 0) k = (if k = 0 then (exL L (ptA (hn H) r p) (ptU (hn H) r p)).1 1 0 0 else if k = 2 then (exL L (ptA (hn H) r p) (ptU (hn H) r p)).1 5 (va_up (qpw Q) (4 * r + p) (nI v) (4 * r + p)).toNatClampNeg 0 else if k = 7 then (exL L (ptA (hn H) r p) (ptU (hn H) r p)).1 19 r p else if k = 8 then (exL L (ptA (hn H) r p) (ptU (hn H) r p)).1 20 r p else if k = 9 then (exL L (ptA (hn H) r p) (ptU (hn H) r p)).1 21 r p else if k = 10 then (exL L (ptA (hn H) r p) (ptU (hn H) r p)).1 22 r p else if k = 11 then (exL L (ptA (hn H) r p) (ptU (hn H) r p)).1 23 r p else if k = 12 then (exL L (ptA (hn H) r p) (ptU (hn H) r p)).1 24 r p else 0)
      rw [vu_s, nI_clamp (show v < 2 ^ 31 by omega), hLo 1 0 0 (by omega), hLo 5 v 0 (by omega), hLn 19 (by decide) (by decide), hLn 20 (by decide) (by decide), hLn 21 (by decide) (by decide), hLn 22 (by decide) (by decide), hLn 23 (by decide) (by decide), hLn 24 (by decide) (by decide)]
      unfold ptG
      rw [vu_a, vu_a, vu_a, vu_a, vu_a, vu_a, vu_a, vu_a]
      by_cases k0 : k = 0
      · subst k0
        rfl
      · by_cases k2 : k = 2
        · subst k2
          rfl
        · rw [if_neg k2, if_neg k0, if_neg k0, if_neg k2]
          by_cases k7 : k = 7
          · subst k7
            rfl
          · by_cases k8 : k = 8
            · subst k8
              rfl
            · by_cases k9 : k = 9
              · subst k9
                rfl
              · by_cases k10 : k = 10
                · subst k10
                  rfl
                · by_cases k11 : k = 11
                  · subst k11
                    rfl
                  · by_cases k12 : k = 12
                    · subst k12
                      rfl
                    · rw [if_neg k12, if_neg k11, if_neg k10, if_neg k9, if_neg k8, if_neg k7, if_neg k7, if_neg k8, if_neg k9, if_neg k10, if_neg k11, if_neg k12]
    · subst e
      rw [show hn H + 1 - hn H = 1 by omega]
      obtain ⟨_, _, g3, g4⟩ := row 19 (by decide) (by decide)
      exact ⟨g3.trans (if_pos ⟨rfl, rfl⟩).symm, g4⟩
    · subst e
      rw [show hn H + 2 - hn H = 2 by omega]
      obtain ⟨_, _, g3, g4⟩ := row 20 (by decide) (by decide)
      exact ⟨g3.trans (if_pos ⟨rfl, rfl⟩).symm, g4⟩
    · subst e
      rw [show hn H + 3 - hn H = 3 by omega]
      obtain ⟨_, _, g3, g4⟩ := row 21 (by decide) (by decide)
      exact ⟨g3.trans (if_pos ⟨rfl, rfl⟩).symm, g4⟩
    · subst e
      rw [show hn H + 4 - hn H = 4 by omega]
      obtain ⟨_, _, g3, g4⟩ := row 22 (by decide) (by decide)
      exact ⟨g3.trans (if_pos ⟨rfl, rfl⟩).symm, g4⟩
    · subst e
      rw [show hn H + 5 - hn H = 5 by omega]
      obtain ⟨_, _, g3, g4⟩ := row 23 (by decide) (by decide)
      exact ⟨g3.trans (if_pos ⟨rfl, rfl⟩).symm, g4⟩
    · subst e
      rw [show hn H + 6 - hn H = 6 by omega]
      obtain ⟨_, _, g3, g4⟩ := row 24 (by decide) (by decide)
      exact ⟨g3.trans (if_pos ⟨rfl, rfl⟩).symm, g4⟩
  · intro a q w w2
    obtain ⟨lt1, v1, v2⟩ := hI.2.1 a q w
    have eA := hI.1.1 a q w
    have h4 := hI.2.2 a
    obtain ⟨o1, o2, o3, o4⟩ := old a lt1
    obtain ⟨c, i, j⟩ := q
    dsimp only at v1 v2 eA w2 ⊢
    have hnew : ¬ ((18 ≤ c ∧ c ≤ 24) ∧ i = r ∧ j = p) := by
      intro o
      obtain ⟨⟨o1, o2⟩, rfl, rfl⟩ := o
      rw [aA c o1 o2] at w2
      cases w2
    refine ⟨?_, ?_⟩
    · rw [sR_hi, o3, v1]
      by_cases hc : 18 ≤ c ∧ c ≤ 24
      · have hij : ¬ (i = r ∧ j = p) := fun o => hnew ⟨hc, o⟩
        rcases (show c = 18 ∨ c = 19 ∨ c = 20 ∨ c = 21 ∨ c = 22 ∨ c = 23 ∨ c = 24 by omega) with e | e | e | e | e | e | e <;> subst e <;> exact (if_neg hij).symm
      · unfold ptV
        split <;> first | rfl | exact absurd (by decide) hc
    · rw [sR_hr]
      by_cases h10 : c = 10 ∧ i = r ∧ j = 0
      · obtain ⟨rfl, rfl, rfl⟩ := h10
        rw [if_pos eA.symm, show L.1 10 i 0 = a from eA, o4, v2]
        funext k
        rw [vu_a]
        show (if k = p then hn H else if 0 = 0 ∧ k < 4 ∧ qpw Q (4 * i + k) ≠ -1 then L.1 18 i k else 0) = (if 0 = 0 ∧ k < 4 ∧ qpw (plQ Q (4 * i + p) (nI v)) (4 * i + k) ≠ -1 then (exL L (ptA (hn H) i p) (ptU (hn H) i p)).1 18 i k else 0)
        by_cases hk : k = p
        · subst hk
          rw [if_pos rfl, show qpw (plQ Q (4 * i + k) (nI v)) (4 * i + k) = nI v from vu_s, if_pos ⟨rfl, hp, nI_m1 (by omega)⟩, hLn 18 (by decide) (by decide)]
          rfl
        · rw [if_neg hk, show qpw (plQ Q (4 * i + p) (nI v)) (4 * i + k) = qpw Q (4 * i + k) from vu_n (by omega), hLo 18 i k (fun o => hk o.2.2)]
      · have ne : a ≠ L.1 10 r 0 := by
          intro q
          have e1 := (hI.1.2 10 r 0 ⟨hr', rfl⟩).1
          unfold lvK at e1
          rw [← q, w] at e1
          have e2 := Option.some.inj e1
          exact h10 ⟨congrArg (fun q : Nat × Nat × Nat => q.1) e2, congrArg (fun q : Nat × Nat × Nat => q.2.1) e2, congrArg (fun q : Nat × Nat × Nat => q.2.2) e2⟩
        rw [if_neg ne, o4, v2]
        exact (RF_18 hLo hp h10 (fun o => by
          subst o
          exact ⟨(h4 _ w).1 rfl, fun o2 => hnew ⟨by decide, o2⟩⟩)).symm
  · obtain ⟨u1, u2, u3⟩ := uI a q w
    rw [u3]
    exact ⟨fun _ => hp, fun o => absurd (show 18 + (a - hn H) = 25 from o) (by omega), fun o => absurd (show 18 + (a - hn H) = 4 from o) (by omega)⟩
end
