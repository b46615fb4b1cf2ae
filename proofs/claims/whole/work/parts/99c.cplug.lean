/-! THE CLASS: a port is plugged, what then holds -/
def plQ (Q : Qt) (j : Nat) (w : Int32) : Qt := (qpi Q, qcu Q, qmd Q, va_up (qpw Q) j w, qhw Q)
def ptV (V : Vt) (r p : Nat) (d : Int32) : Vt := fun c => match c with
  | 18 => fun i j => if i = r ∧ j = p then ptF (nI r) d else V 18 i j
  | 19 => fun i j => if i = r ∧ j = p then (fun _ => 0) else V 19 i j
  | 20 => fun i j => if i = r ∧ j = p then (fun _ => 0) else V 20 i j
  | 21 => fun i j => if i = r ∧ j = p then (fun _ => 0) else V 21 i j
  | 22 => fun i j => if i = r ∧ j = p then (fun _ => 0) else V 22 i j
  | 23 => fun i j => if i = r ∧ j = p then (fun _ => 0) else V 23 i j
  | 24 => fun i j => if i = r ∧ j = p then (fun _ => 0) else V 24 i j
  | c => V c
def plV1 (V : Vt) (r p v : Nat) (d : Int32) : Vt := uR (ptV V r p d) 6 v 0 (va_up (V 6 v 0) r (nI p))
def plV2 (V : Vt) (r p v : Nat) (d : Int32) : Vt := uR (plV1 V r p v d) 3 0 0 (va_up (V 3 0 0) (4 * r + p) (nI v))
def plV3 (V : Vt) (r p v : Nat) (d : Int32) : Vt := uR (plV2 V r p v d) 3 0 1 (va_up (V 3 0 1) (4 * r + p) d)
def plV (V : Vt) (r p v : Nat) (d : Int32) : Vt := uR (plV3 V r p v d) 2 0 0 (va_up (V 2 0 0) 6 1)
theorem nbS_0 {z : Sg} {j : Nat} (h0 : z.1 0 = 0) : ∀ m, (∀ q, q < m → z.2 25 (10 * j + q) = 0) → nbS z j m = 0 := by
  intro m
  induction m with
  | zero => intro _; rfl
  | succ m ih =>
    intro h
    show cond (nb z j m) (nbS z j m ||| (1 <<< (nI m &&& 31))) (nbS z j m) = 0
    have e : nb z j m = false := by
      unfold nb
      rw [h0, h m (Nat.lt_succ_self _)]
      rfl
    rw [e, cond_false]
    exact ih (fun q hq => h q (Nat.lt_succ_of_lt hq))
section
variable {L : Ly} {G : Hp} {n : Nat} {st : Int32} {V : Vt} {Q : Qt} {z : Sg} {r p q g s x y m v i h k j : Nat} {d : Int32}
theorem pOr_m1 {w : Int32} {R : Nat → Int32} (h : pOr R r w = -1) (hp : p < 4) : R (4 * r + p) ≠ w := by
  intro e
  unfold pOr at h
  by_cases c0 : R (4 * r) = w
  · rw [if_pos c0] at h
    exact absurd h (by decide)
  · rw [if_neg c0] at h
    by_cases c1 : R (4 * r + 1) = w
    · rw [if_pos c1] at h
      exact absurd h (by decide)
    · rw [if_neg c1] at h
      by_cases c2 : R (4 * r + 2) = w
      · rw [if_pos c2] at h
        exact absurd h (by decide)
      · rw [if_neg c2] at h
        by_cases c3 : R (4 * r + 3) = w
        · rw [if_pos c3] at h
          exact absurd h (by decide)
        · rcases (show p = 0 ∨ p = 1 ∨ p = 2 ∨ p = 3 by omega) with e1 | e1 | e1 | e1
          · subst e1
            exact c0 e
          · subst e1
            exact c1 e
          · subst e1
            exact c2 e
          · subst e1
            exact c3 e
theorem pOr_set {w : Int32} {R : Nat → Int32} (h : pOr R r w = -1) (hp : p < 4) : pOr (va_up R (4 * r + p) w) r w = nI p := by
  have n0 := pOr_m1 (p := 0) h (by decide)
  have n1 := pOr_m1 (p := 1) h (by decide)
  have n2 := pOr_m1 (p := 2) h (by decide)
  have n3 := pOr_m1 (p := 3) h (by decide)
  unfold pOr
  rw [vu_a, vu_a, vu_a, vu_a]
  rcases (show p = 0 ∨ p = 1 ∨ p = 2 ∨ p = 3 by omega) with e | e | e | e
  · subst e
    rw [if_pos (show (if 4 * r = 4 * r + 0 then w else R (4 * r)) = w from if_pos rfl)]
    rfl
  · subst e
    rw [if_neg (show ¬ (if 4 * r = 4 * r + 1 then w else R (4 * r)) = w by rw [if_neg (by omega)]; exact n0), if_pos (show (if 4 * r + 1 = 4 * r + 1 then w else R (4 * r + 1)) = w from if_pos rfl)]
    rfl
  · subst e
    rw [if_neg (show ¬ (if 4 * r = 4 * r + 2 then w else R (4 * r)) = w by rw [if_neg (by omega)]; exact n0), if_neg (show ¬ (if 4 * r + 1 = 4 * r + 2 then w else R (4 * r + 1)) = w by rw [if_neg (by omega)]; exact n1), if_pos (show (if 4 * r + 2 = 4 * r + 2 then w else R (4 * r + 2)) = w from if_pos rfl)]
    rfl
  · subst e
    rw [if_neg (show ¬ (if 4 * r = 4 * r + 3 then w else R (4 * r)) = w by rw [if_neg (by omega)]; exact n0), if_neg (show ¬ (if 4 * r + 1 = 4 * r + 3 then w else R (4 * r + 1)) = w by rw [if_neg (by omega)]; exact n1), if_neg (show ¬ (if 4 * r + 2 = 4 * r + 3 then w else R (4 * r + 2)) = w by rw [if_neg (by omega)]; exact n2), if_pos (show (if 4 * r + 3 = 4 * r + 3 then w else R (4 * r + 3)) = w from if_pos rfl)]
    rfl
theorem pOr_c {w : Int32} {R R' : Nat → Int32} (h : ∀ i, i < 4 → (R' (4 * r + i) = w ↔ R (4 * r + i) = w)) : pOr R' r w = pOr R r w := by
  unfold pOr
  have h0 := h 0 (by decide)
  have h1 := h 1 (by decide)
  have h2 := h 2 (by decide)
  have h3 := h 3 (by decide)
  rw [show 4 * r + 0 = 4 * r from rfl] at h0
  simp only [h0, h1, h2, h3]
theorem pl_RC (hC : RC n st V Q z) (hr : r < n) (hp : p < 4) (hv : v < 16) (h0 : z.1 0 = 0) (hq : z.2 8 (4 * r + p) = -1) (ho : pOr (z.2 8) r (nI v) = -1) (hm : qmd Q v = true) : RC n 1 (plV V r p v d) (plQ Q (4 * r + p) (nI v)) (uA (uA z 8 (4 * r + p) (nI v)) 9 (4 * r + p) d) := by
  have hn10 := hC.nn.2.2.2
  have hv1 : ¬ nI v = -1 := nI_m1 (by omega)
  have e8 : (uA (uA z 8 (4 * r + p) (nI v)) 9 (4 * r + p) d).2 8 = va_up (z.2 8) (4 * r + p) (nI v) := rfl
  have e9 : (uA (uA z 8 (4 * r + p) (nI v)) 9 (4 * r + p) d).2 9 = va_up (z.2 9) (4 * r + p) d := rfl
  have hqQ : qpw Q (4 * r + p) = -1 := by rw [hC.qw]; exact hq
  have qA : ∀ j, qpw (plQ Q (4 * r + p) (nI v)) j = if j = 4 * r + p then nI v else qpw Q j := fun j => rfl
  obtain ⟨u25, u28, u29, u31⟩ := hC.un (4 * r + p) (by omega) hqQ
  obtain ⟨u26, u27, u30⟩ := hC.u2 (4 * r + p) (by omega) hqQ
  have eqw : qpw (plQ Q (4 * r + p) (nI v)) = (uA (uA z 8 (4 * r + p) (nI v)) 9 (4 * r + p) d).2 8 := by
    rw [e8, ← hC.qw]
    rfl
  have ewa : cWa (va_up (V 3 0 0) (4 * r + p) (nI v)) (va_up (V 3 0 1) (4 * r + p) d) (va_up (z.2 8) (4 * r + p) (nI v)) (va_up (z.2 9) (4 * r + p) d) := by
    intro j hj
    rw [vu_a, vu_a, vu_a, vu_a]
    by_cases e : j = 4 * r + p
    · rw [if_pos e, if_pos e, if_pos e, if_pos e]
      exact ⟨rfl, fun _ => rfl⟩
    · rw [if_neg e, if_neg e, if_neg e, if_neg e]
      exact hC.wa j hj
  have epo : cPo n (uR V 6 v 0 (va_up (V 6 v 0) r (nI p)) 6) (va_up (z.2 8) (4 * r + p) (nI v)) := by
    intro w r' hw hr'
    rw [uR_at]
    by_cases er : r' = r
    · subst er
      by_cases ew : w = v
      · subst ew
        rw [if_pos ⟨rfl, rfl⟩, vu_s, pOr_set ho hp]
      · rw [if_neg (fun q => ew q.1), hC.po w r' hw hr']
        refine (pOr_c (fun i hi => ?_)).symm
        rw [vu_a]
        by_cases ei : 4 * r' + i = 4 * r' + p
        · rw [if_pos ei, ei, hq]
          refine ⟨fun q => ?_, fun q => absurd q.symm (nI_m1 (by omega))⟩
          have := congrArg Int32.toNatClampNeg q
          rw [nI_clamp (by omega), nI_clamp (by omega)] at this
          omega
        · rw [if_neg ei]
    · have e1 : (if w = v ∧ 0 = 0 then va_up (V 6 v 0) r (nI p) else V 6 w 0) r' = V 6 w 0 r' := by
        split
        · rename_i o
          rw [vu_n er, o.1]
        · rfl
      rw [e1, hC.po w r' hw hr']
      refine (pOr_c (fun i hi => ?_)).symm
      rw [vu_n (by omega)]
  have emd : cMd (plQ Q (4 * r + p) (nI v)) := by
    refine ⟨fun j hj hw => ?_, hC.md.2.1, fun r' p1 p2 h1 h2 h3 hw he => ?_⟩
    · show qmd Q (qpw (plQ Q (4 * r + p) (nI v)) j).toNatClampNeg = true
      rw [qA] at hw ⊢
      by_cases e : j = 4 * r + p
      · rw [if_pos e, nI_clamp (by omega)]
        exact hm
      · rw [if_neg e] at hw ⊢
        exact hC.md.1 j hj hw
    · rw [qA] at hw he
      rw [qA] at he
      by_cases e1 : 4 * r' + p1 = 4 * r + p
      · have er : r' = r := by omega
        subst er
        by_cases e2 : 4 * r' + p2 = 4 * r' + p
        · omega
        · rw [if_pos e1, if_neg e2, hC.qw] at he
          exact absurd he.symm (pOr_m1 ho h3)
      · rw [if_neg e1] at hw he
        by_cases e2 : 4 * r' + p2 = 4 * r + p
        · have er : r' = r := by omega
          subst er
          rw [if_pos e2, hC.qw] at he
          exact absurd he (pOr_m1 ho h2)
        · rw [if_neg e2] at he
          exact hC.md.2.2 r' p1 p2 h1 h2 h3 hw he
  have far : ∀ {r' p' : Nat}, p' < 4 → ¬ (r' = r ∧ p' = p) → qpw (plQ Q (4 * r + p) (nI v)) (4 * r' + p') = qpw Q (4 * r' + p') := by
    intro r' p' h1 h2
    rw [qA, if_neg (by omega)]
  have ept : cPo2 n (plQ Q (4 * r + p) (nI v)) (ptV V r p d 18) (va_up (z.2 9) (4 * r + p) d) := by
    intro r' p' h1 h2 h3
    show (if r' = r ∧ p' = p then ptF (nI r) d else V 18 r' p') 1 = _ ∧ (if r' = r ∧ p' = p then ptF (nI r) d else V 18 r' p') 3 = _
    by_cases e : r' = r ∧ p' = p
    · rw [if_pos e, e.1, e.2, vu_s]
      exact ⟨rfl, rfl⟩
    · rw [if_neg e, vu_n (by omega)]
      rw [far h2 e] at h3
      exact hC.pt r' p' h1 h2 h3
  have ehe : cHe n (plQ Q (4 * r + p) (nI v)) (ptV V r p d 18) 5 (z.2 26) := by
    intro r' p' h1 h2 h3
    show _ ∧ (if r' = r ∧ p' = p then ptF (nI r) d else V 18 r' p') 5 = _
    by_cases e : r' = r ∧ p' = p
    · rw [if_pos e, e.1, e.2, u26]
      exact ⟨by decide, rfl⟩
    · rw [if_neg e]
      rw [far h2 e] at h3
      exact hC.he r' p' h1 h2 h3
  have equ : cHe n (plQ Q (4 * r + p) (nI v)) (ptV V r p d 18) 6 (z.2 27) := by
    intro r' p' h1 h2 h3
    show _ ∧ (if r' = r ∧ p' = p then ptF (nI r) d else V 18 r' p') 6 = _
    by_cases e : r' = r ∧ p' = p
    · rw [if_pos e, e.1, e.2, u27]
      exact ⟨by decide, rfl⟩
    · rw [if_neg e]
      rw [far h2 e] at h3
      exact hC.qu r' p' h1 h2 h3
  have ent : cNt n (plQ Q (4 * r + p) (nI v)) (ptV V r p d 19) (z.2 25) := by
    intro r' p' q h1 h2 h3 h4
    show (if r' = r ∧ p' = p then (fun _ => 0) else V 19 r' p') q = _
    by_cases e : r' = r ∧ p' = p
    · rw [if_pos e, e.1, e.2, u25 q h4]
    · rw [if_neg e]
      rw [far h2 e] at h3
      exact hC.nt r' p' q h1 h2 h3 h4
  have enb : cNb n (plQ Q (4 * r + p) (nI v)) (ptV V r p d 18) (uA (uA z 8 (4 * r + p) (nI v)) 9 (4 * r + p) d) := by
    intro r' p' h1 h2 h3
    rw [show nbits (uA (uA z 8 (4 * r + p) (nI v)) 9 (4 * r + p) d) (4 * r' + p') = nbits z (4 * r' + p') from nbits_c (z := z) (z' := uA (uA z 8 (4 * r + p) (nI v)) 9 (4 * r + p) d) rfl rfl rfl _]
    show (if r' = r ∧ p' = p then ptF (nI r) d else V 18 r' p') 4 = _
    by_cases e : r' = r ∧ p' = p
    · rw [if_pos e, e.1, e.2]
      unfold nbits
      rw [nbS_0 h0 (nR z) (fun q hq => u25 q (by
        have : nR z = n := by
          unfold nR
          rw [hC.nn.1, nI_clamp (by omega)]
        omega))]
      rfl
    · rw [if_neg e]
      rw [far h2 e] at h3
      exact hC.nb r' p' h1 h2 h3
  have emb : cMb n (plQ Q (4 * r + p) (nI v)) (ptV V r p d 20) (z.2 28) := by
    intro r' p' q h1 h2 h3 h4
    show (if r' = r ∧ p' = p then (fun _ => 0) else V 20 r' p') q = _
    by_cases e : r' = r ∧ p' = p
    · rw [if_pos e, e.1, e.2, u28 q h4]
    · rw [if_neg e]
      rw [far h2 e] at h3
      exact hC.mb r' p' q h1 h2 h3 h4
  have ejt : cJt n (plQ Q (4 * r + p) (nI v)) (ptV V r p d 21) (z.2 29) := by
    intro r' p' g x h1 h2 h3 h4 h5
    show (if r' = r ∧ p' = p then (fun _ => 0) else V 21 r' p') (17 * g + x) = _
    have hy := yx_lt h5
    by_cases e : r' = r ∧ p' = p
    · rw [if_pos e, e.1, e.2]
      have := u29 (17 * g + yx x) (by omega)
      rw [show 136 * (4 * r + p) + (17 * g + yx x) = 17 * (8 * (4 * r + p) + g) + yx x by omega] at this
      exact this.symm
    · rw [if_neg e]
      rw [far h2 e] at h3
      exact hC.jt r' p' g x h1 h2 h3 h4 h5
  have ecf : cCf n (plQ Q (4 * r + p) (nI v)) (ptV V r p d 22) (z.2 30) := by
    intro r' p' g x h1 h2 h3 h4 h5
    show _ ∧ (if r' = r ∧ p' = p then (fun _ => 0) else V 22 r' p') (16 * g + x) = _
    by_cases e : r' = r ∧ p' = p
    · rw [if_pos e, e.1, e.2]
      have := u30 (16 * g + x) (by omega)
      rw [show 128 * (4 * r + p) + (16 * g + x) = 16 * (8 * (4 * r + p) + g) + x by omega] at this
      rw [this]
      exact ⟨by decide, rfl⟩
    · rw [if_neg e]
      rw [far h2 e] at h3
      exact hC.cf r' p' g x h1 h2 h3 h4 h5
  have ecl : cCl n (plQ Q (4 * r + p) (nI v)) (ptV V r p d 23) (ptV V r p d 24) (z.2 31) (z.2 32) := by
    intro r' p' g x h1 h2 h3 h4 h5
    show (_ → (if r' = r ∧ p' = p then (fun _ => 0) else V 24 r' p') (16 * g + x) = 0) ∧ (_ → (if r' = r ∧ p' = p then (fun _ => 0) else V 23 r' p') (16 * g + x) = _ ∧ (if r' = r ∧ p' = p then (fun _ => 0) else V 24 r' p') (16 * g + x) = _)
    by_cases e : r' = r ∧ p' = p
    · rw [if_pos e, if_pos e, e.1, e.2]
      have := u31 (16 * g + x) (by omega)
      rw [show 128 * (4 * r + p) + (16 * g + x) = 16 * (8 * (4 * r + p) + g) + x by omega] at this
      rw [this]
      exact ⟨fun _ => rfl, fun o => absurd rfl o⟩
    · rw [if_neg e, if_neg e]
      rw [far h2 e] at h3
      exact hC.cl r' p' g x h1 h2 h3 h4 h5
  have ejp : cJp n (plQ Q (4 * r + p) (nI v)) (z.2 33) := by
    intro r' g y p' h1 h2 h3 h4 h5
    rw [qA]
    split
    · exact hv1
    · exact hC.jp r' g y p' h1 h2 h3 h4 h5
  have eun : cUn (plQ Q (4 * r + p) (nI v)) (z.2 25) (z.2 28) (z.2 29) (z.2 31) := by
    intro j hj hw
    rw [qA] at hw
    by_cases e : j = 4 * r + p
    · rw [if_pos e] at hw
      exact absurd hw hv1
    · rw [if_neg e] at hw
      exact hC.un j hj hw
  have eu2 : cU2 (plQ Q (4 * r + p) (nI v)) (z.2 26) (z.2 27) (z.2 30) := by
    intro j hj hw
    rw [qA] at hw
    by_cases e : j = 4 * r + p
    · rw [if_pos e] at hw
      exact absurd hw hv1
    · rw [if_neg e] at hw
      exact hC.u2 j hj hw
  have ews : cWs 1 n (plV V r p v d 3) (uA (uA z 8 (4 * r + p) (nI v)) 9 (4 * r + p) d) := fun q => absurd q (by decide)
  exact ⟨hC.tm, hC.nu, hC.tu, hC.nn, (rfl), (eqw), hC.qh, (ewa), hC.mt, hC.hz, hC.wi, hC.su, (epo), hC.fr, hC.fc, hC.pi, (emd), hC.me, hC.fn, hC.id, hC.jb, hC.ja, hC.tc, hC.kp, hC.sp, hC.sb, (ept), (ehe), (equ), (ent), (enb), (emb), (ejt), (ecf), (ecl), hC.ho, hC.go, hC.k33, hC.k39, hC.k37, hC.k29, hC.k28, hC.k31, hC.k30, (eun), hC.on, (eu2), hC.g0, (ejp), (ews)⟩
end
