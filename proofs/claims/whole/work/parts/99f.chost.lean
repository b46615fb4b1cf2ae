/-! THE CLASS: a host is set on a wire -/
def hoQ (Q : Qt) (h : Nat) (w : Int32) : Qt := (qpi Q, qcu Q, qmd Q, qpw Q, va_up (qhw Q) h w)
def hsV (V : Vt) (h : Nat) : Vt := fun c => match c with
  | 25 => fun i j => if i = h ∧ j = 0 then hsF (nI h) else V 25 i j
  | 26 => fun i j => if i = h ∧ j = 0 then (fun _ => 0) else V 26 i j
  | c => V c
def hoV (V : Vt) (h v : Nat) : Vt := uR (hsV V h) 3 0 6 (va_up (V 3 0 6) h (nI v))
def hsA (h0 h : Nat) (c i j : Nat) : Option Nat := if (25 ≤ c ∧ c ≤ 26) ∧ i = h ∧ j = 0 then some (h0 + (c - 25)) else none
def hsU (h0 h : Nat) (a : Nat) : Option (Nat × Nat × Nat) := if h0 ≤ a ∧ a < h0 + 2 then some (25 + (a - h0), h, 0) else none
section
variable {L L' : Ly} {G H H3 : Hp} {n : Nat} {st : Int32} {V : Vt} {Q Q' : Qt} {z : Sg} {r p q g s x y m v i h k t c j : Nat} {d w : Int32}
theorem ho_RC (hC : RC n st V Q z) (hh : h < 16) (hv : v < 16) (hq : z.2 11 h = -1) (hm : qmd Q v = true) : RC n st (hoV V h v) (hoQ Q h (nI v)) (uA z 11 h (nI v)) := by
  have hv1 : ¬ nI v = -1 := nI_m1 (by omega)
  have e11 : (uA z 11 h (nI v)).2 11 = va_up (z.2 11) h (nI v) := rfl
  have hqQ : qhw Q h = -1 := by rw [hC.qh]; exact hq
  have qA : ∀ j, qhw (hoQ Q h (nI v)) j = if j = h then nI v else qhw Q j := fun j => rfl
  obtain ⟨g13, g14, g15⟩ := hC.g0 h hh hqQ
  have eqh : qhw (hoQ Q h (nI v)) = (uA z 11 h (nI v)).2 11 := by
    rw [e11, ← hC.qh]
    rfl
  have ehz : cEq 16 (va_up (V 3 0 6) h (nI v)) (va_up (z.2 11) h (nI v)) := by
    intro j hj
    rw [vu_a, vu_a, hC.hz j hj]
  have emd : cMd (hoQ Q h (nI v)) := by
    refine ⟨hC.md.1, fun j hj hw => ?_, hC.md.2.2⟩
    show qmd Q (qhw (hoQ Q h (nI v)) j).toNatClampNeg = true
    rw [qA] at hw ⊢
    by_cases e : j = h
    · rw [if_pos e, nI_clamp (by omega)]
      exact hm
    · rw [if_neg e] at hw ⊢
      exact hC.md.2.1 j hj hw
  have eho : cHo (hoQ Q h (nI v)) (hsV V h 25) (z.2 13) (z.2 14) := by
    intro j hj hw
    show (if j = h ∧ 0 = 0 then hsF (nI h) else V 25 j 0) 0 = _ ∧ (if j = h ∧ 0 = 0 then hsF (nI h) else V 25 j 0) 3 = _ ∧ (if j = h ∧ 0 = 0 then hsF (nI h) else V 25 j 0) 4 = _
    by_cases e : j = h
    · subst e
      rw [if_pos ⟨rfl, rfl⟩, g13, g14]
      exact ⟨rfl, rfl, rfl⟩
    · rw [if_neg (fun o => e o.1)]
      rw [qA, if_neg e] at hw
      exact hC.ho j hj hw
  have ego : cGo (hoQ Q h (nI v)) (hsV V h 26) (z.2 15) := by
    intro j m hj hw hm
    show (if j = h ∧ 0 = 0 then (fun _ => 0) else V 26 j 0) m = _
    by_cases e : j = h
    · subst e
      rw [if_pos ⟨rfl, rfl⟩, g15 m hm]
    · rw [if_neg (fun o => e o.1)]
      rw [qA, if_neg e] at hw
      exact hC.go j m hj hw hm
  have eg0 : cG0 (hoQ Q h (nI v)) (z.2 13) (z.2 14) (z.2 15) := by
    intro j hj hw
    rw [qA] at hw
    by_cases e : j = h
    · rw [if_pos e] at hw
      exact absurd hw hv1
    · rw [if_neg e] at hw
      exact hC.g0 j hj hw
  exact ⟨hC.tm, hC.nu, hC.tu, hC.nn, hC.ns, hC.qw, (eqh), hC.wa, hC.mt, (ehz), hC.wi, hC.su, hC.po, hC.fr, hC.fc, hC.pi, (emd), hC.me, hC.fn, hC.id, hC.jb, hC.ja, hC.tc, hC.kp, hC.sp, hC.sb, hC.pt, hC.he, hC.qu, hC.nt, (cNb_c hC.nb rfl rfl rfl), hC.mb, hC.jt, hC.cf, hC.cl, (eho), (ego), hC.k33, hC.k39, hC.k37, hC.k29, hC.k28, hC.k31, hC.k30, hC.un, hC.on, hC.u2, (eg0), hC.jp, (cWs_t hC.ws ⟨rfl, rfl, rfl, rfl⟩)⟩
theorem RF_25 (hL : ∀ c i j, ¬ ((25 ≤ c ∧ c ≤ 26) ∧ i = h ∧ j = 0) → L'.1 c i j = L.1 c i j) (h4 : ¬ (c = 4 ∧ j = 2)) (h25 : c = 25 → i ≠ h) : RF n L' (hoQ Q h w) c i j = RF n L Q c i j := by
  funext k
  by_cases c4 : c = 4
  · subst c4
    have hj : ¬ j = 2 := fun o => h4 ⟨rfl, o⟩
    show (if j = 0 then (if k < 16 then L'.1 5 k 0 else 0) else if j = 1 then (if k < n then L'.1 9 k 0 else 0) else if j = 2 ∧ k < 16 ∧ qhw (hoQ Q h w) k ≠ -1 then L'.1 25 k 0 else 0) = (if j = 0 then (if k < 16 then L.1 5 k 0 else 0) else if j = 1 then (if k < n then L.1 9 k 0 else 0) else if j = 2 ∧ k < 16 ∧ qhw Q k ≠ -1 then L.1 25 k 0 else 0)
    rw [if_neg (show ¬ (j = 2 ∧ k < 16 ∧ qhw (hoQ Q h w) k ≠ -1) from fun o => hj o.1), if_neg (show ¬ (j = 2 ∧ k < 16 ∧ qhw Q k ≠ -1) from fun o => hj o.1), hL 5 k 0 (by omega), hL 9 k 0 (by omega)]
  · by_cases c25 : c = 25
    · subst c25
      have hi := h25 rfl
      show (if k = 1 then L'.1 5 (qhw (hoQ Q h w) i).toNatClampNeg 0 else if k = 2 then L'.1 26 i 0 else 0) = (if k = 1 then L.1 5 (qhw Q i).toNatClampNeg 0 else if k = 2 then L.1 26 i 0 else 0)
      rw [show qhw (hoQ Q h w) i = qhw Q i from vu_n hi, hL 5 _ 0 (by omega), hL 26 i 0 (fun o => hi o.2.1)]
    · have a1 := fun i j => hL 1 i j (by omega)
      have a2 := fun i j => hL 2 i j (by omega)
      have a3 := fun i j => hL 3 i j (by omega)
      have a4 := fun i j => hL 4 i j (by omega)
      have a5 := fun i j => hL 5 i j (by omega)
      have a6 := fun i j => hL 6 i j (by omega)
      have a7 := fun i j => hL 7 i j (by omega)
      have a8 := fun i j => hL 8 i j (by omega)
      have a9 := fun i j => hL 9 i j (by omega)
      have a10 := fun i j => hL 10 i j (by omega)
      have a11 := fun i j => hL 11 i j (by omega)
      have a12 := fun i j => hL 12 i j (by omega)
      have a13 := fun i j => hL 13 i j (by omega)
      have a14 := fun i j => hL 14 i j (by omega)
      have a15 := fun i j => hL 15 i j (by omega)
      have a16 := fun i j => hL 16 i j (by omega)
      have a17 := fun i j => hL 17 i j (by omega)
      have a18 := fun i j => hL 18 i j (by omega)
      have a19 := fun i j => hL 19 i j (by omega)
      have a20 := fun i j => hL 20 i j (by omega)
      have a21 := fun i j => hL 21 i j (by omega)
      have a22 := fun i j => hL 22 i j (by omega)
      have a23 := fun i j => hL 23 i j (by omega)
      have a24 := fun i j => hL 24 i j (by omega)
      have q1 : qcu (hoQ Q h w) = qcu Q := rfl
      have q2 : qmd (hoQ Q h w) = qmd Q := rfl
      have q3 : qpi (hoQ Q h w) = qpi Q := rfl
      have q4 : qpw (hoQ Q h w) = qpw Q := rfl
      unfold RF
      rw [q4]
      split <;> first | exact absurd rfl c4 | exact absurd rfl c25 | rfl | simp only [a1, a2, a3, a4, a5, a6, a7, a8, a9, a10, a11, a12, a13, a14, a15, a16, a17, a18, a19, a20, a21, a22, a23, a24, q1, q2, q3]
theorem isL_25 (hN : ¬ ((25 ≤ c ∧ c ≤ 26) ∧ i = h ∧ j = 0)) (hh : isL n (hoQ Q h w) c i j) : isL n Q c i j := by
  by_cases hc : 25 ≤ c ∧ c ≤ 26
  · have gen : (i < 16 ∧ j = 0 ∧ qhw (hoQ Q h w) i ≠ -1) → i < 16 ∧ j = 0 ∧ qhw Q i ≠ -1 := by
      intro o
      have hi : i ≠ h := fun e => hN ⟨hc, e, o.2.1⟩
      have o2 := o.2.2
      rw [show qhw (hoQ Q h w) i = qhw Q i from vu_n hi] at o2
      exact ⟨o.1, o.2.1, o2⟩
    rcases (show c = 25 ∨ c = 26 by omega) with e | e <;> subst e <;> exact gen hh
  · have e : isL n (hoQ Q h w) c i j = isL n Q c i j := by
      unfold isL
      rw [show qpw (hoQ Q h w) = qpw Q from rfl]
      split <;> first | rfl | exact absurd (by decide) hc
    rw [← e]
    exact hh
theorem ho_IC (hI : IC L H n Q V) (h0 : 0 < hn H) (hh : h < 16) (hv : v < 16) (hq : qhw Q h = -1) (hN : ND (nC H 2 0 5) (hn H) 2 hsT hsL 1 (hsF (nI h)) (hsG (hn H + 1) (L.1 5 v 0)) (fun _ _ => 0) H3) : IC (exL L (hsA (hn H) h) (hsU (hn H) h)) (sR H3 (L.1 4 0 2) h (hn H)) n (hoQ Q h (nI v)) (hsV V h) := by
  obtain ⟨⟨a1, a2, a3, a4⟩, b, ⟨c1, c2, c3, c4⟩, e⟩ := hN
  rw [nC_hn] at a1 b e
  have old : ∀ a, a < hn H → Sm a H H3 := by
    intro a ha
    obtain ⟨o1, o2, o3, o4⟩ := b a (by omega) (by omega)
    have ne : a ≠ hn H := by omega
    rw [nC_hc, if_neg ne] at o1
    rw [nC_hl, if_neg ne] at o2
    rw [nC_hi, if_neg ne] at o3
    rw [nC_hr, if_neg ne] at o4
    exact ⟨o1, o2, o3, o4⟩
  have aA : ∀ c, 25 ≤ c → c ≤ 26 → hsA (hn H) h c h 0 = some (hn H + (c - 25)) := fun c h1 h2 => if_pos ⟨⟨h1, h2⟩, rfl, rfl⟩
  have hLo : ∀ c i j, ¬ ((25 ≤ c ∧ c ≤ 26) ∧ i = h ∧ j = 0) → (exL L (hsA (hn H) h) (hsU (hn H) h)).1 c i j = L.1 c i j := fun c i j hc => ex_o (if_neg hc)
  have hLn : ∀ c, 25 ≤ c → c ≤ 26 → (exL L (hsA (hn H) h) (hsU (hn H) h)).1 c h 0 = hn H + (c - 25) := fun c h1 h2 => ex_n (aA c h1 h2)
  have aI : ∀ c i j a, hsA (hn H) h c i j = some a → (25 ≤ c ∧ c ≤ 26) ∧ i = h ∧ j = 0 ∧ a = hn H + (c - 25) := by
    intro c i j a w
    unfold hsA at w
    split at w
    · rename_i o
      exact ⟨o.1, o.2.1, o.2.2, (Option.some.inj w).symm⟩
    · cases w
  have uI : ∀ a q, hsU (hn H) h a = some q → hn H ≤ a ∧ a < hn H + 2 ∧ q = (25 + (a - hn H), h, 0) := by
    intro a q w
    unfold hsU at w
    split at w
    · rename_i o
      exact ⟨o.1, o.2, (Option.some.inj w).symm⟩
    · cases w
  have l42 : L.1 4 0 2 < hn H := IC_lt hI (show isL n Q 4 0 2 from ⟨rfl, by decide⟩)
  have row := e 0 (by decide)
  rw [Nat.add_zero] at row
  have hLY : LY (exL L (hsA (hn H) h) (hsU (hn H) h)) (sR H3 (L.1 4 0 2) h (hn H)) n (hoQ Q h (nI v)) := by
    refine ex_LY hI h0 ?_ ?_ ?_ ?_ (fun a ha => ⟨(old a ha).1, (old a ha).2.1⟩)
    · intro c i j h1 h2
      refine isL_25 (fun o => ?_) h1
      obtain ⟨⟨o1, o2⟩, rfl, rfl⟩ := o
      rw [aA c o1 o2] at h2
      cases h2
    · intro c i j a w
      obtain ⟨⟨o1, o2⟩, rfl, rfl, rfl⟩ := aI c i j a w
      refine ⟨Nat.le_add_right _ _, ?_⟩
      rw [sR_hc, sR_hl]
      rcases (show c = 25 ∨ c = 26 by omega) with e | e
      · subst e
        exact ⟨c1, fun w => absurd rfl w⟩
      · subst e
        exact ⟨row.1, fun _ => row.2.1⟩
    · intro a q w
      obtain ⟨o1, o2, rfl⟩ := uI a q w
      show hsA (hn H) h (25 + (a - hn H)) h 0 = some a
      rw [aA _ (by omega) (by omega)]
      exact congrArg some (by omega)
    · intro c i j a w
      obtain ⟨⟨o1, o2⟩, rfl, rfl, rfl⟩ := aI c i j a w
      unfold hsU
      rw [if_pos (by omega)]
      exact congrArg (fun c => some (c, i, 0)) (by omega)
  refine ex_IC hI (by rw [sR_hn]; omega) hLY ?_ ?_ (fun a q w => ?_)
  · intro a q w
    obtain ⟨o1, o2, rfl⟩ := uI a q w
    rw [sR_hn, sR_hi, sR_hr, if_neg (show a ≠ L.1 4 0 2 by omega)]
    refine ⟨by omega, ?_⟩
    rcases (show a = hn H ∨ a = hn H + 1 by omega) with e | e
    · subst e
      rw [Nat.sub_self, c3, c4]
      refine ⟨(if_pos ⟨rfl, rfl⟩).symm, ?_⟩
      funext k
      show hsG (hn H + 1) (L.1 5 v 0) k = (if k = 1 then (exL L (hsA (hn H) h) (hsU (hn H) h)).1 5 (qhw (hoQ Q h (nI v)) h).toNatClampNeg 0 else if k = 2 then (exL L (hsA (hn H) h) (hsU (hn H) h)).1 26 h 0 else 0)
      rw [show qhw (hoQ Q h (nI v)) h = nI v from vu_s, nI_clamp (show v < 2 ^ 31 by omega), hLo 5 v 0 (by omega), hLn 26 (by decide) (by decide)]
      unfold hsG
      rw [vu_a, vu_a]
    · subst e
      rw [show hn H + 1 - hn H = 1 by omega]
      obtain ⟨_, _, g3, g4⟩ := row
      exact ⟨g3.trans (if_pos ⟨rfl, rfl⟩).symm, g4⟩
  · intro a q w w2
    obtain ⟨lt1, v1, v2⟩ := hI.2.1 a q w
    have eA := hI.1.1 a q w
    have h4 := hI.2.2 a q w
    obtain ⟨o1, o2, o3, o4⟩ := old a lt1
    obtain ⟨c, i, j⟩ := q
    dsimp only at v1 v2 eA w2 h4 ⊢
    have hnew : ¬ ((25 ≤ c ∧ c ≤ 26) ∧ i = h ∧ j = 0) := by
      intro o
      obtain ⟨⟨o1, o2⟩, rfl, rfl⟩ := o
      rw [aA c o1 o2] at w2
      cases w2
    refine ⟨?_, ?_⟩
    · rw [sR_hi, o3, v1]
      by_cases hc : 25 ≤ c ∧ c ≤ 26
      · have hij : ¬ (i = h ∧ j = 0) := fun o => hnew ⟨hc, o⟩
        rcases (show c = 25 ∨ c = 26 by omega) with e | e <;> subst e <;> exact (if_neg hij).symm
      · unfold hsV
        split <;> first | rfl | exact absurd (by decide) hc
    · rw [sR_hr]
      by_cases h42 : c = 4 ∧ j = 2
      · obtain ⟨rfl, rfl⟩ := h42
        have hi := h4.2.2 rfl
        subst hi
        rw [if_pos eA.symm, show L.1 4 0 2 = a from eA, o4, v2]
        funext k
        rw [vu_a]
        show (if k = h then hn H else if 2 = 2 ∧ k < 16 ∧ qhw Q k ≠ -1 then L.1 25 k 0 else 0) = (if 2 = 2 ∧ k < 16 ∧ qhw (hoQ Q h (nI v)) k ≠ -1 then (exL L (hsA (hn H) h) (hsU (hn H) h)).1 25 k 0 else 0)
        by_cases hk : k = h
        · subst hk
          rw [if_pos rfl, show qhw (hoQ Q k (nI v)) k = nI v from vu_s, if_pos ⟨rfl, hh, nI_m1 (by omega)⟩, hLn 25 (by decide) (by decide)]
          rfl
        · rw [if_neg hk, show qhw (hoQ Q h (nI v)) k = qhw Q k from vu_n hk, hLo 25 k 0 (fun o => hk o.2.1)]
      · have ne : a ≠ L.1 4 0 2 := by
          intro q
          have e1 := (hI.1.2 4 0 2 ⟨rfl, by decide⟩).1
          unfold lvK at e1
          rw [← q, w] at e1
          have e2 := Option.some.inj e1
          exact h42 ⟨congrArg (fun q : Nat × Nat × Nat => q.1) e2, congrArg (fun q : Nat × Nat × Nat => q.2.2) e2⟩
        rw [if_neg ne, o4, v2]
        exact (RF_25 hLo h42 (fun o o2 => by
          subst o
          exact hnew ⟨by decide, o2, h4.2.1 rfl⟩)).symm
  · obtain ⟨u1, u2, u3⟩ := uI a q w
    rw [u3]
    exact ⟨fun o => absurd (show 25 + (a - hn H) = 18 from o) (by omega), fun _ => rfl, fun o => absurd (show 25 + (a - hn H) = 4 from o) (by omega)⟩
theorem KE_ho (hI : IC L H n Q V) {f : Nat → Int32} {g : Nat → Nat} (hN : ND (nC H 2 0 5) (hn H) 2 hsT hsL 1 f g (fun _ _ => 0) H3) : KE L H (exL L (hsA (hn H) h) (hsU (hn H) h)) (sR H3 (L.1 4 0 2) h (hn H)) := by
  intro a ha hz
  obtain ⟨_, b, _, _⟩ := hN
  obtain ⟨o1, o2, o3, o4⟩ := b a (by rw [nC_hn]; omega) (by omega)
  have ne : a ≠ hn H := by omega
  rw [nC_hc, if_neg ne] at o1
  rw [nC_hl, if_neg ne] at o2
  rw [nC_hi, if_neg ne] at o3
  rw [nC_hr, if_neg ne] at o4
  have n10 : a ≠ L.1 4 0 2 := fun w => by
    have := (hI.1.2 4 0 2 ⟨rfl, by decide⟩).1
    unfold lvK at this
    rw [← w, hz] at this
    cases this
  refine ⟨ex_2z ?_ hz, o1, o2, o3, ?_⟩
  · unfold hsU
    rw [if_neg (by omega)]
  · rw [sR_hr, if_neg n10, o4]
end
