/-! WHAT THE CLASS'S CELLS HOLD OF THE REFERENCE'S STATE -/
def yx (x : Nat) : Nat := if x = 16 then 0 else x + 1
def cEq (m : Nat) (f g : Nat → Int32) : Prop := ∀ i, i < m → f i = g i
def cWa (w c r8 r9 : Nat → Int32) : Prop := ∀ j, j < 40 → w j = r8 j ∧ (r8 j ≠ -1 → c j = r9 j)
def cWi (W : Nat → Nat → Nat → Int32) (r10 r16 r17 r19 : Nat → Int32) : Prop := ∀ v, v < 16 → W v 0 0 = nI v ∧ W v 0 2 = bI (decide (r10 v = 0)) ∧ W v 0 6 = r16 v ∧ W v 0 7 = r17 v ∧ W v 0 5 = r19 v
def sm (f : Nat → Int32) : Nat → Int32
  | 0 => 0
  | v + 1 => sm f v + f v
def cSu (W : Nat → Nat → Nat → Int32) (a b c d : Int32) : Prop := sm (fun v => W v 0 8) 16 = a ∧ sm (fun v => W v 0 9) 16 = b ∧ sm (fun v => W v 0 10) 16 = c ∧ sm (fun v => W v 0 11) 16 = d
def pOr (r8 : Nat → Int32) (r : Nat) (w : Int32) : Int32 := if r8 (4 * r) = w then 0 else if r8 (4 * r + 1) = w then 1 else if r8 (4 * r + 2) = w then 2 else if r8 (4 * r + 3) = w then 3 else -1
theorem pOr_e {z : Sg} {r : Nat} {w : Int32} : pOr (z.2 8) r w = pOn z r w := rfl
def cPo (n : Nat) (W : Nat → Nat → Nat → Int32) (r8 : Nat → Int32) : Prop := ∀ v r, v < 16 → r < n → W v 0 r = pOr r8 r (nI v)
def cFr (Q : Qt) (W : Nat → Nat → Nat → Int32) (r16 r18 : Nat → Int32) : Prop := ∀ v i k, v < 16 → qmd Q v = true → i < (r16 v).toNatClampNeg → k < 8 → W v (qpi Q v (qcu Q v) i) k = r18 (8 * (40 * v + i) + k)
def cFc (Q : Qt) (W : Nat → Nat → Nat → Int32) (r19 r20 : Nat → Int32) : Prop := ∀ v i k, v < 16 → qmd Q v = true → i < (r19 v).toNatClampNeg → k < 8 → W v (qpi Q v (1 - qcu Q v) i) k = r20 (8 * (40 * v + i) + k)
def cPi (Q : Qt) : Prop := ∀ v, v < 16 → qcu Q v < 2 ∧ ∀ b i b' i', b < 2 → i < 40 → b' < 2 → i' < 40 → qpi Q v b i < 80 ∧ (qpi Q v b i = qpi Q v b' i' → b = b' ∧ i = i')
def cMd (Q : Qt) : Prop := (∀ j, j < 40 → qpw Q j ≠ -1 → qmd Q (qpw Q j).toNatClampNeg = true) ∧ (∀ h, h < 16 → qhw Q h ≠ -1 → qmd Q (qhw Q h).toNatClampNeg = true) ∧ ∀ r p p', r < 10 → p < 4 → p' < 4 → qpw Q (4 * r + p) ≠ -1 → qpw Q (4 * r + p) = qpw Q (4 * r + p') → p = p'
def cMe (Q : Qt) (r16 r19 : Nat → Int32) : Prop := ∀ v, v < 16 → qmd Q v = false → r16 v = 0 ∧ r19 v = 0
def cFn (r19 : Nat → Int32) : Prop := ∀ v, v < 16 → (r19 v).toNatClampNeg ≤ 40
def cId (n : Nat) (T W : Nat → Nat → Nat → Int32) : Prop := ∀ r, r < n → W r 0 1 = nI r ∧ ∀ g, g < 8 → T r g 1 = nI r ∧ T r g 2 = nI g
def jbV (a b : Int32) : Int32 := if a = -1 then -1 else 16 * a + b
def cJb (n : Nat) (T : Nat → Nat → Nat → Int32) (r33 r34 : Nat → Int32) : Prop := ∀ r g x, r < n → g < 8 → x < 17 → T r g x = jbV (r33 (17 * (8 * r + g) + yx x)) (r34 (17 * (8 * r + g) + yx x))
def cJa (n : Nat) (T : Nat → Nat → Nat → Int32) (r33 r35 : Nat → Int32) : Prop := ∀ r g x, r < n → g < 8 → x < 17 → r33 (17 * (8 * r + g) + yx x) ≠ -1 → T r g x = r35 (17 * (8 * r + g) + yx x)
def cTc (n : Nat) (T : Nat → Nat → Nat → Int32) (r33 r36 : Nat → Int32) : Prop := ∀ r g, r < n → g < 8 → T r g 7 = if r33 (17 * (8 * r + g)) = -1 then 0 else r36 (8 * r + g)
def cT3 (n : Nat) (T : Nat → Nat → Nat → Int32) (rr : Nat → Int32) : Prop := ∀ r g s, r < n → g < 8 → s < 16 → T r g s = rr (16 * (8 * r + g) + s)
def cPo2 (n : Nat) (Q : Qt) (P : Nat → Nat → Nat → Int32) (r9 : Nat → Int32) : Prop := ∀ r p, r < n → p < 4 → qpw Q (4 * r + p) ≠ -1 → P r p 1 = nI r ∧ P r p 3 = r9 (4 * r + p)
def cHe (n : Nat) (Q : Qt) (P : Nat → Nat → Nat → Int32) (k : Nat) (rr : Nat → Int32) : Prop := ∀ r p, r < n → p < 4 → qpw Q (4 * r + p) ≠ -1 → rr (4 * r + p) ≠ 0 ∧ P r p k = if rr (4 * r + p) = -1 then 0 else rr (4 * r + p)
def cNt (n : Nat) (Q : Qt) (P : Nat → Nat → Nat → Int32) (r25 : Nat → Int32) : Prop := ∀ r p q, r < n → p < 4 → qpw Q (4 * r + p) ≠ -1 → q < 10 → P r p q = r25 (10 * (4 * r + p) + q)
def cNb (n : Nat) (Q : Qt) (P : Nat → Nat → Nat → Int32) (z : Sg) : Prop := ∀ r p, r < n → p < 4 → qpw Q (4 * r + p) ≠ -1 → P r p 4 = nbits z (4 * r + p)
theorem nbS_c {z z' : Sg} (h0 : z'.1 0 = z.1 0) (h25 : z'.2 25 = z.2 25) (j : Nat) : ∀ q, nbS z' j q = nbS z j q := by
  intro q
  induction q with
  | zero => rfl
  | succ q ih =>
    show cond (nb z' j q) (nbS z' j q ||| (1 <<< (nI q &&& 31))) (nbS z' j q) = cond (nb z j q) (nbS z j q ||| (1 <<< (nI q &&& 31))) (nbS z j q)
    rw [ih, show nb z' j q = nb z j q by unfold nb; rw [h0, h25]]
theorem nbits_c {z z' : Sg} (h0 : z'.1 0 = z.1 0) (h1 : z'.1 1 = z.1 1) (h25 : z'.2 25 = z.2 25) (j : Nat) : nbits z' j = nbits z j := by
  unfold nbits nR
  rw [h1, nbS_c h0 h25]
theorem cNb_c {n : Nat} {Q : Qt} {P : Nat → Nat → Nat → Int32} {z z' : Sg} (h : cNb n Q P z) (h0 : z'.1 0 = z.1 0) (h1 : z'.1 1 = z.1 1) (h25 : z'.2 25 = z.2 25) : cNb n Q P z' := by
  intro r p a b c
  rw [nbits_c h0 h1 h25]
  exact h r p a b c
def cMb (n : Nat) (Q : Qt) (P : Nat → Nat → Nat → Int32) (r28 : Nat → Int32) : Prop := ∀ r p g, r < n → p < 4 → qpw Q (4 * r + p) ≠ -1 → g < 8 → P r p g = r28 (8 * (4 * r + p) + g)
def cJt (n : Nat) (Q : Qt) (P : Nat → Nat → Nat → Int32) (r29 : Nat → Int32) : Prop := ∀ r p g x, r < n → p < 4 → qpw Q (4 * r + p) ≠ -1 → g < 8 → x < 17 → P r p (17 * g + x) = r29 (17 * (8 * (4 * r + p) + g) + yx x)
def cCf (n : Nat) (Q : Qt) (P : Nat → Nat → Nat → Int32) (r30 : Nat → Int32) : Prop := ∀ r p g s, r < n → p < 4 → qpw Q (4 * r + p) ≠ -1 → g < 8 → s < 16 → r30 (16 * (8 * (4 * r + p) + g) + s) ≠ 0 ∧ P r p (16 * g + s) = if r30 (16 * (8 * (4 * r + p) + g) + s) = -1 then 0 else r30 (16 * (8 * (4 * r + p) + g) + s)
def cCl (n : Nat) (Q : Qt) (P T : Nat → Nat → Nat → Int32) (r31 r32 : Nat → Int32) : Prop := ∀ r p g s, r < n → p < 4 → qpw Q (4 * r + p) ≠ -1 → g < 8 → s < 16 → (r31 (16 * (8 * (4 * r + p) + g) + s) = -1 → T r p (16 * g + s) = 0) ∧ (r31 (16 * (8 * (4 * r + p) + g) + s) ≠ -1 → P r p (16 * g + s) = r31 (16 * (8 * (4 * r + p) + g) + s) ∧ T r p (16 * g + s) = r32 (16 * (8 * (4 * r + p) + g) + s))
def cHo (Q : Qt) (H : Nat → Nat → Nat → Int32) (r13 r14 : Nat → Int32) : Prop := ∀ h, h < 16 → qhw Q h ≠ -1 → H h 0 0 = nI h ∧ H h 0 3 = r13 h ∧ H h 0 4 = r14 h
def cGo (Q : Qt) (H : Nat → Nat → Nat → Int32) (r15 : Nat → Int32) : Prop := ∀ h m, h < 16 → qhw Q h ≠ -1 → m < 400 → H h 0 m = r15 (400 * h + m)
/-- who is not known has nothing that holds -/
def cK33 (n : Nat) (T : Nat → Nat → Nat → Int32) (r33 : Nat → Int32) : Prop := ∀ r g x, r < n → g < 8 → x < 17 → bt (T r g 4) x = false → r33 (17 * (8 * r + g) + yx x) = -1
def cK39 (n : Nat) (T : Nat → Nat → Nat → Int32) (r39 : Nat → Int32) : Prop := ∀ r g s, r < n → g < 8 → s < 16 → bt (T r g 4) s = false → r39 (16 * (8 * r + g) + s) = -1
def cK37 (n : Nat) (T : Nat → Nat → Nat → Int32) (t : Int32) (r37 : Nat → Int32) : Prop := ∀ r g s, r < n → g < 8 → s < 16 → bt (T r g 4) s = false → r37 (16 * (8 * r + g) + s) ≤ t
def cK29 (n : Nat) (T : Nat → Nat → Nat → Int32) (t : Int32) (r29 : Nat → Int32) : Prop := ∀ r g x p, r < n → g < 8 → x < 17 → p < 4 → bt (T r g 4) x = false → r29 (17 * (8 * (4 * r + p) + g) + yx x) ≤ t
def cK28 (n : Nat) (T : Nat → Nat → Nat → Int32) (t : Int32) (r28 : Nat → Int32) : Prop := ∀ r g p, r < n → g < 8 → p < 4 → bt (T r g 4) 16 = false → r28 (8 * (4 * r + p) + g) ≤ t
def cK31 (n : Nat) (T : Nat → Nat → Nat → Int32) (t : Int32) (r31 r32 : Nat → Int32) : Prop := ∀ r g s p, r < n → g < 8 → s < 16 → p < 4 → bt (T r g 4) s = false → r31 (16 * (8 * (4 * r + p) + g) + s) = -1 ∨ r32 (16 * (8 * (4 * r + p) + g) + s) ≤ t
def cK30 (n : Nat) (T : Nat → Nat → Nat → Int32) (t : Int32) (r30 r29 : Nat → Int32) : Prop := ∀ r g s p, r < n → g < 8 → s < 16 → p < 4 → bt (T r g 4) s = false → r30 (16 * (8 * (4 * r + p) + g) + s) = -1 ∨ r29 (17 * (8 * (4 * r + p) + g)) ≤ t
def cUn (Q : Qt) (r25 r28 r29 r31 : Nat → Int32) : Prop := ∀ j, j < 40 → qpw Q j = -1 → (∀ q, q < 10 → r25 (10 * j + q) = 0) ∧ (∀ g, g < 8 → r28 (8 * j + g) = 0) ∧ (∀ m, m < 136 → r29 (136 * j + m) = 0) ∧ ∀ m, m < 128 → r31 (128 * j + m) = -1
def cU2 (Q : Qt) (r26 r27 r30 : Nat → Int32) : Prop := ∀ j, j < 40 → qpw Q j = -1 → r26 j = -1 ∧ r27 j = -1 ∧ ∀ m, m < 128 → r30 (128 * j + m) = -1
def cG0 (Q : Qt) (r13 r14 r15 : Nat → Int32) : Prop := ∀ h, h < 16 → qhw Q h = -1 → r13 h = 0 ∧ r14 h = 0 ∧ ∀ m, m < 400 → r15 (400 * h + m) = 0
def cOn (r25 : Nat → Int32) : Prop := ∀ r p, r < 10 → p < 4 → r25 (10 * (4 * r + p) + r) = 0
def cJp (n : Nat) (Q : Qt) (r33 : Nat → Int32) : Prop := ∀ r g y p, r < n → g < 8 → y < 17 → p < 4 → r33 (17 * (8 * r + g) + y) = nI p → qpw Q (4 * r + p) ≠ -1
def cWs (st : Int32) (n : Nat) (W : Nat → Nat → Nat → Int32) (z : Sg) : Prop := st = 0 → ∀ k, k < 26 * n → W 0 2 k = (if Wd z k < 1000000 then Wd z k else 9999) ∧ W 0 3 k = Wp z k ∧ W 0 4 k = Wr z k
theorem cWs_t {st : Int32} {n : Nat} {W : Nat → Nat → Nat → Int32} {z z' : Sg} (h : cWs st n W z) (t : T0 z' z) : cWs st n W z' := by
  intro e k hk
  rw [t0_Wd t, t0_Wp t, t0_Wr t]
  exact h e k hk
def RC (n : Nat) (st : Int32) (V : Vt) (Q : Qt) (z : Sg) : Prop :=
  V 1 0 0 4 = z.1 0 ∧ V 0 0 0 3 = z.1 2 ∧ V 1 0 0 5 = z.1 6 ∧ (z.1 1 = nI n ∧ V 2 0 0 0 = nI n ∧ 1 ≤ n ∧ n ≤ 10) ∧ V 2 0 0 6 = st ∧ qpw Q = z.2 8 ∧ qhw Q = z.2 11 ∧ cWa (V 3 0 0) (V 3 0 1) (z.2 8) (z.2 9) ∧ cEq 8 (V 3 0 5) (z.2 12) ∧ cEq 16 (V 3 0 6) (z.2 11) ∧ cWi (V 5) (z.2 10) (z.2 16) (z.2 17) (z.2 19) ∧ cSu (V 5) (z.1 3) (z.1 4) (z.1 5) (z.1 7) ∧ cPo n (V 6) (z.2 8) ∧ cFr Q (V 8) (z.2 16) (z.2 18) ∧ cFc Q (V 8) (z.2 19) (z.2 20) ∧ cPi Q ∧ cMd Q ∧ cMe Q (z.2 16) (z.2 19) ∧ cFn (z.2 19) ∧ cId n (V 12) (V 9) ∧ cJb n (V 13) (z.2 33) (z.2 34) ∧ cJa n (V 14) (z.2 33) (z.2 35) ∧ cTc n (V 12) (z.2 33) (z.2 36) ∧ cT3 n (V 15) (z.2 37) ∧ cT3 n (V 16) (z.2 38) ∧ cT3 n (V 17) (z.2 39) ∧ cPo2 n Q (V 18) (z.2 9) ∧ cHe n Q (V 18) 5 (z.2 26) ∧ cHe n Q (V 18) 6 (z.2 27) ∧ cNt n Q (V 19) (z.2 25) ∧ cNb n Q (V 18) z ∧ cMb n Q (V 20) (z.2 28) ∧ cJt n Q (V 21) (z.2 29) ∧ cCf n Q (V 22) (z.2 30) ∧ cCl n Q (V 23) (V 24) (z.2 31) (z.2 32) ∧ cHo Q (V 25) (z.2 13) (z.2 14) ∧ cGo Q (V 26) (z.2 15) ∧ cK33 n (V 12) (z.2 33) ∧ cK39 n (V 12) (z.2 39) ∧ cK37 n (V 12) (z.1 0) (z.2 37) ∧ cK29 n (V 12) (z.1 0) (z.2 29) ∧ cK28 n (V 12) (z.1 0) (z.2 28) ∧ cK31 n (V 12) (z.1 0) (z.2 31) (z.2 32) ∧ cK30 n (V 12) (z.1 0) (z.2 30) (z.2 29) ∧ cUn Q (z.2 25) (z.2 28) (z.2 29) (z.2 31) ∧ cOn (z.2 25) ∧ cU2 Q (z.2 26) (z.2 27) (z.2 30) ∧ cG0 Q (z.2 13) (z.2 14) (z.2 15) ∧ cJp n Q (z.2 33) ∧ cWs st n (V 3) z
theorem RC.tm {n : Nat} {st : Int32} {V : Vt} {Q : Qt} {z : Sg} (h : RC n st V Q z) : V 1 0 0 4 = z.1 0 := h.1
theorem RC.nu {n : Nat} {st : Int32} {V : Vt} {Q : Qt} {z : Sg} (h : RC n st V Q z) : V 0 0 0 3 = z.1 2 := h.2.1
theorem RC.tu {n : Nat} {st : Int32} {V : Vt} {Q : Qt} {z : Sg} (h : RC n st V Q z) : V 1 0 0 5 = z.1 6 := h.2.2.1
theorem RC.nn {n : Nat} {st : Int32} {V : Vt} {Q : Qt} {z : Sg} (h : RC n st V Q z) : z.1 1 = nI n ∧ V 2 0 0 0 = nI n ∧ 1 ≤ n ∧ n ≤ 10 := h.2.2.2.1
theorem RC.ns {n : Nat} {st : Int32} {V : Vt} {Q : Qt} {z : Sg} (h : RC n st V Q z) : V 2 0 0 6 = st := h.2.2.2.2.1
theorem RC.qw {n : Nat} {st : Int32} {V : Vt} {Q : Qt} {z : Sg} (h : RC n st V Q z) : qpw Q = z.2 8 := h.2.2.2.2.2.1
theorem RC.qh {n : Nat} {st : Int32} {V : Vt} {Q : Qt} {z : Sg} (h : RC n st V Q z) : qhw Q = z.2 11 := h.2.2.2.2.2.2.1
theorem RC.wa {n : Nat} {st : Int32} {V : Vt} {Q : Qt} {z : Sg} (h : RC n st V Q z) : cWa (V 3 0 0) (V 3 0 1) (z.2 8) (z.2 9) := h.2.2.2.2.2.2.2.1
theorem RC.mt {n : Nat} {st : Int32} {V : Vt} {Q : Qt} {z : Sg} (h : RC n st V Q z) : cEq 8 (V 3 0 5) (z.2 12) := h.2.2.2.2.2.2.2.2.1
theorem RC.hz {n : Nat} {st : Int32} {V : Vt} {Q : Qt} {z : Sg} (h : RC n st V Q z) : cEq 16 (V 3 0 6) (z.2 11) := h.2.2.2.2.2.2.2.2.2.1
theorem RC.wi {n : Nat} {st : Int32} {V : Vt} {Q : Qt} {z : Sg} (h : RC n st V Q z) : cWi (V 5) (z.2 10) (z.2 16) (z.2 17) (z.2 19) := h.2.2.2.2.2.2.2.2.2.2.1
theorem RC.su {n : Nat} {st : Int32} {V : Vt} {Q : Qt} {z : Sg} (h : RC n st V Q z) : cSu (V 5) (z.1 3) (z.1 4) (z.1 5) (z.1 7) := h.2.2.2.2.2.2.2.2.2.2.2.1
theorem RC.po {n : Nat} {st : Int32} {V : Vt} {Q : Qt} {z : Sg} (h : RC n st V Q z) : cPo n (V 6) (z.2 8) := h.2.2.2.2.2.2.2.2.2.2.2.2.1
theorem RC.fr {n : Nat} {st : Int32} {V : Vt} {Q : Qt} {z : Sg} (h : RC n st V Q z) : cFr Q (V 8) (z.2 16) (z.2 18) := h.2.2.2.2.2.2.2.2.2.2.2.2.2.1
theorem RC.fc {n : Nat} {st : Int32} {V : Vt} {Q : Qt} {z : Sg} (h : RC n st V Q z) : cFc Q (V 8) (z.2 19) (z.2 20) := h.2.2.2.2.2.2.2.2.2.2.2.2.2.2.1
theorem RC.pi {n : Nat} {st : Int32} {V : Vt} {Q : Qt} {z : Sg} (h : RC n st V Q z) : cPi Q := h.2.2.2.2.2.2.2.2.2.2.2.2.2.2.2.1
theorem RC.md {n : Nat} {st : Int32} {V : Vt} {Q : Qt} {z : Sg} (h : RC n st V Q z) : cMd Q := h.2.2.2.2.2.2.2.2.2.2.2.2.2.2.2.2.1
theorem RC.me {n : Nat} {st : Int32} {V : Vt} {Q : Qt} {z : Sg} (h : RC n st V Q z) : cMe Q (z.2 16) (z.2 19) := h.2.2.2.2.2.2.2.2.2.2.2.2.2.2.2.2.2.1
theorem RC.fn {n : Nat} {st : Int32} {V : Vt} {Q : Qt} {z : Sg} (h : RC n st V Q z) : cFn (z.2 19) := h.2.2.2.2.2.2.2.2.2.2.2.2.2.2.2.2.2.2.1
theorem RC.id {n : Nat} {st : Int32} {V : Vt} {Q : Qt} {z : Sg} (h : RC n st V Q z) : cId n (V 12) (V 9) := h.2.2.2.2.2.2.2.2.2.2.2.2.2.2.2.2.2.2.2.1
theorem RC.jb {n : Nat} {st : Int32} {V : Vt} {Q : Qt} {z : Sg} (h : RC n st V Q z) : cJb n (V 13) (z.2 33) (z.2 34) := h.2.2.2.2.2.2.2.2.2.2.2.2.2.2.2.2.2.2.2.2.1
theorem RC.ja {n : Nat} {st : Int32} {V : Vt} {Q : Qt} {z : Sg} (h : RC n st V Q z) : cJa n (V 14) (z.2 33) (z.2 35) := h.2.2.2.2.2.2.2.2.2.2.2.2.2.2.2.2.2.2.2.2.2.1
theorem RC.tc {n : Nat} {st : Int32} {V : Vt} {Q : Qt} {z : Sg} (h : RC n st V Q z) : cTc n (V 12) (z.2 33) (z.2 36) := h.2.2.2.2.2.2.2.2.2.2.2.2.2.2.2.2.2.2.2.2.2.2.1
theorem RC.kp {n : Nat} {st : Int32} {V : Vt} {Q : Qt} {z : Sg} (h : RC n st V Q z) : cT3 n (V 15) (z.2 37) := h.2.2.2.2.2.2.2.2.2.2.2.2.2.2.2.2.2.2.2.2.2.2.2.1
theorem RC.sp {n : Nat} {st : Int32} {V : Vt} {Q : Qt} {z : Sg} (h : RC n st V Q z) : cT3 n (V 16) (z.2 38) := h.2.2.2.2.2.2.2.2.2.2.2.2.2.2.2.2.2.2.2.2.2.2.2.2.1
theorem RC.sb {n : Nat} {st : Int32} {V : Vt} {Q : Qt} {z : Sg} (h : RC n st V Q z) : cT3 n (V 17) (z.2 39) := h.2.2.2.2.2.2.2.2.2.2.2.2.2.2.2.2.2.2.2.2.2.2.2.2.2.1
theorem RC.pt {n : Nat} {st : Int32} {V : Vt} {Q : Qt} {z : Sg} (h : RC n st V Q z) : cPo2 n Q (V 18) (z.2 9) := h.2.2.2.2.2.2.2.2.2.2.2.2.2.2.2.2.2.2.2.2.2.2.2.2.2.2.1
theorem RC.he {n : Nat} {st : Int32} {V : Vt} {Q : Qt} {z : Sg} (h : RC n st V Q z) : cHe n Q (V 18) 5 (z.2 26) := h.2.2.2.2.2.2.2.2.2.2.2.2.2.2.2.2.2.2.2.2.2.2.2.2.2.2.2.1
theorem RC.qu {n : Nat} {st : Int32} {V : Vt} {Q : Qt} {z : Sg} (h : RC n st V Q z) : cHe n Q (V 18) 6 (z.2 27) := h.2.2.2.2.2.2.2.2.2.2.2.2.2.2.2.2.2.2.2.2.2.2.2.2.2.2.2.2.1
theorem RC.nt {n : Nat} {st : Int32} {V : Vt} {Q : Qt} {z : Sg} (h : RC n st V Q z) : cNt n Q (V 19) (z.2 25) := h.2.2.2.2.2.2.2.2.2.2.2.2.2.2.2.2.2.2.2.2.2.2.2.2.2.2.2.2.2.1
theorem RC.nb {n : Nat} {st : Int32} {V : Vt} {Q : Qt} {z : Sg} (h : RC n st V Q z) : cNb n Q (V 18) z := h.2.2.2.2.2.2.2.2.2.2.2.2.2.2.2.2.2.2.2.2.2.2.2.2.2.2.2.2.2.2.1
theorem RC.mb {n : Nat} {st : Int32} {V : Vt} {Q : Qt} {z : Sg} (h : RC n st V Q z) : cMb n Q (V 20) (z.2 28) := h.2.2.2.2.2.2.2.2.2.2.2.2.2.2.2.2.2.2.2.2.2.2.2.2.2.2.2.2.2.2.2.1
theorem RC.jt {n : Nat} {st : Int32} {V : Vt} {Q : Qt} {z : Sg} (h : RC n st V Q z) : cJt n Q (V 21) (z.2 29) := h.2.2.2.2.2.2.2.2.2.2.2.2.2.2.2.2.2.2.2.2.2.2.2.2.2.2.2.2.2.2.2.2.1
theorem RC.cf {n : Nat} {st : Int32} {V : Vt} {Q : Qt} {z : Sg} (h : RC n st V Q z) : cCf n Q (V 22) (z.2 30) := h.2.2.2.2.2.2.2.2.2.2.2.2.2.2.2.2.2.2.2.2.2.2.2.2.2.2.2.2.2.2.2.2.2.1
theorem RC.cl {n : Nat} {st : Int32} {V : Vt} {Q : Qt} {z : Sg} (h : RC n st V Q z) : cCl n Q (V 23) (V 24) (z.2 31) (z.2 32) := h.2.2.2.2.2.2.2.2.2.2.2.2.2.2.2.2.2.2.2.2.2.2.2.2.2.2.2.2.2.2.2.2.2.2.1
theorem RC.ho {n : Nat} {st : Int32} {V : Vt} {Q : Qt} {z : Sg} (h : RC n st V Q z) : cHo Q (V 25) (z.2 13) (z.2 14) := h.2.2.2.2.2.2.2.2.2.2.2.2.2.2.2.2.2.2.2.2.2.2.2.2.2.2.2.2.2.2.2.2.2.2.2.1
theorem RC.go {n : Nat} {st : Int32} {V : Vt} {Q : Qt} {z : Sg} (h : RC n st V Q z) : cGo Q (V 26) (z.2 15) := h.2.2.2.2.2.2.2.2.2.2.2.2.2.2.2.2.2.2.2.2.2.2.2.2.2.2.2.2.2.2.2.2.2.2.2.2.1
theorem RC.k33 {n : Nat} {st : Int32} {V : Vt} {Q : Qt} {z : Sg} (h : RC n st V Q z) : cK33 n (V 12) (z.2 33) := h.2.2.2.2.2.2.2.2.2.2.2.2.2.2.2.2.2.2.2.2.2.2.2.2.2.2.2.2.2.2.2.2.2.2.2.2.2.1
theorem RC.k39 {n : Nat} {st : Int32} {V : Vt} {Q : Qt} {z : Sg} (h : RC n st V Q z) : cK39 n (V 12) (z.2 39) := h.2.2.2.2.2.2.2.2.2.2.2.2.2.2.2.2.2.2.2.2.2.2.2.2.2.2.2.2.2.2.2.2.2.2.2.2.2.2.1
theorem RC.k37 {n : Nat} {st : Int32} {V : Vt} {Q : Qt} {z : Sg} (h : RC n st V Q z) : cK37 n (V 12) (z.1 0) (z.2 37) := h.2.2.2.2.2.2.2.2.2.2.2.2.2.2.2.2.2.2.2.2.2.2.2.2.2.2.2.2.2.2.2.2.2.2.2.2.2.2.2.1
theorem RC.k29 {n : Nat} {st : Int32} {V : Vt} {Q : Qt} {z : Sg} (h : RC n st V Q z) : cK29 n (V 12) (z.1 0) (z.2 29) := h.2.2.2.2.2.2.2.2.2.2.2.2.2.2.2.2.2.2.2.2.2.2.2.2.2.2.2.2.2.2.2.2.2.2.2.2.2.2.2.2.1
theorem RC.k28 {n : Nat} {st : Int32} {V : Vt} {Q : Qt} {z : Sg} (h : RC n st V Q z) : cK28 n (V 12) (z.1 0) (z.2 28) := h.2.2.2.2.2.2.2.2.2.2.2.2.2.2.2.2.2.2.2.2.2.2.2.2.2.2.2.2.2.2.2.2.2.2.2.2.2.2.2.2.2.1
theorem RC.k31 {n : Nat} {st : Int32} {V : Vt} {Q : Qt} {z : Sg} (h : RC n st V Q z) : cK31 n (V 12) (z.1 0) (z.2 31) (z.2 32) := h.2.2.2.2.2.2.2.2.2.2.2.2.2.2.2.2.2.2.2.2.2.2.2.2.2.2.2.2.2.2.2.2.2.2.2.2.2.2.2.2.2.2.1
theorem RC.k30 {n : Nat} {st : Int32} {V : Vt} {Q : Qt} {z : Sg} (h : RC n st V Q z) : cK30 n (V 12) (z.1 0) (z.2 30) (z.2 29) := h.2.2.2.2.2.2.2.2.2.2.2.2.2.2.2.2.2.2.2.2.2.2.2.2.2.2.2.2.2.2.2.2.2.2.2.2.2.2.2.2.2.2.2.1
theorem RC.un {n : Nat} {st : Int32} {V : Vt} {Q : Qt} {z : Sg} (h : RC n st V Q z) : cUn Q (z.2 25) (z.2 28) (z.2 29) (z.2 31) := h.2.2.2.2.2.2.2.2.2.2.2.2.2.2.2.2.2.2.2.2.2.2.2.2.2.2.2.2.2.2.2.2.2.2.2.2.2.2.2.2.2.2.2.2.1
theorem RC.on {n : Nat} {st : Int32} {V : Vt} {Q : Qt} {z : Sg} (h : RC n st V Q z) : cOn (z.2 25) := h.2.2.2.2.2.2.2.2.2.2.2.2.2.2.2.2.2.2.2.2.2.2.2.2.2.2.2.2.2.2.2.2.2.2.2.2.2.2.2.2.2.2.2.2.2.1
theorem RC.u2 {n : Nat} {st : Int32} {V : Vt} {Q : Qt} {z : Sg} (h : RC n st V Q z) : cU2 Q (z.2 26) (z.2 27) (z.2 30) := h.2.2.2.2.2.2.2.2.2.2.2.2.2.2.2.2.2.2.2.2.2.2.2.2.2.2.2.2.2.2.2.2.2.2.2.2.2.2.2.2.2.2.2.2.2.2.1
theorem RC.g0 {n : Nat} {st : Int32} {V : Vt} {Q : Qt} {z : Sg} (h : RC n st V Q z) : cG0 Q (z.2 13) (z.2 14) (z.2 15) := h.2.2.2.2.2.2.2.2.2.2.2.2.2.2.2.2.2.2.2.2.2.2.2.2.2.2.2.2.2.2.2.2.2.2.2.2.2.2.2.2.2.2.2.2.2.2.2.1
theorem RC.jp {n : Nat} {st : Int32} {V : Vt} {Q : Qt} {z : Sg} (h : RC n st V Q z) : cJp n Q (z.2 33) := h.2.2.2.2.2.2.2.2.2.2.2.2.2.2.2.2.2.2.2.2.2.2.2.2.2.2.2.2.2.2.2.2.2.2.2.2.2.2.2.2.2.2.2.2.2.2.2.2.1
theorem RC.ws {n : Nat} {st : Int32} {V : Vt} {Q : Qt} {z : Sg} (h : RC n st V Q z) : cWs st n (V 3) z := h.2.2.2.2.2.2.2.2.2.2.2.2.2.2.2.2.2.2.2.2.2.2.2.2.2.2.2.2.2.2.2.2.2.2.2.2.2.2.2.2.2.2.2.2.2.2.2.2.2
/-! one number of a row is put -/
section
variable {n : Nat} {V : Vt} {Q : Qt} {z : Sg} {r p g s x c k q : Nat} {v : Int32}
theorem cT3_set (h : cT3 n (V c) (z.2 k)) (h2 : g < 8) (h3 : s < 16) : cT3 n (uR V c r g (va_up (V c r g) s v) c) ((uA z k (16 * (8 * r + g) + s) v).2 k) := by
  intro r' g' s' a1 a2 a3
  rw [uR_at, uA_get]
  by_cases e : r' = r ∧ g' = g
  · obtain ⟨rfl, rfl⟩ := e
    rw [if_pos ⟨rfl, rfl⟩, vu_a]
    by_cases e2 : s' = s
    · rw [if_pos e2, if_pos (by omega)]
    · rw [if_neg e2, if_neg (by omega)]
      exact h r' g' s' a1 a2 a3
  · rw [if_neg e, if_neg (by omega)]
    exact h r' g' s' a1 a2 a3
theorem cNt_set (h : cNt n Q (V c) (z.2 k)) (h2 : p < 4) (h3 : q < 10) : cNt n Q (uR V c r p (va_up (V c r p) q v) c) ((uA z k (10 * (4 * r + p) + q) v).2 k) := by
  intro r' p' q' a1 a2 a3 a4
  rw [uR_at, uA_get]
  by_cases e : r' = r ∧ p' = p
  · obtain ⟨rfl, rfl⟩ := e
    rw [if_pos ⟨rfl, rfl⟩, vu_a]
    by_cases e2 : q' = q
    · rw [if_pos e2, if_pos (by omega)]
    · rw [if_neg e2, if_neg (by omega)]
      exact h r' p' q' a1 a2 a3 a4
  · rw [if_neg e, if_neg (by omega)]
    exact h r' p' q' a1 a2 a3 a4
theorem cMb_set (h : cMb n Q (V c) (z.2 k)) (h2 : p < 4) (h3 : g < 8) : cMb n Q (uR V c r p (va_up (V c r p) g v) c) ((uA z k (8 * (4 * r + p) + g) v).2 k) := by
  intro r' p' q' a1 a2 a3 a4
  rw [uR_at, uA_get]
  by_cases e : r' = r ∧ p' = p
  · obtain ⟨rfl, rfl⟩ := e
    rw [if_pos ⟨rfl, rfl⟩, vu_a]
    by_cases e2 : q' = g
    · rw [if_pos e2, if_pos (by omega)]
    · rw [if_neg e2, if_neg (by omega)]
      exact h r' p' q' a1 a2 a3 a4
  · rw [if_neg e, if_neg (by omega)]
    exact h r' p' q' a1 a2 a3 a4
theorem yx_lt (h : x < 17) : yx x < 17 := by unfold yx; split <;> omega
theorem yx_inj {x' : Nat} (h : yx x' = yx x) (h1 : x < 17) (h2 : x' < 17) : x' = x := by
  unfold yx at h
  split at h <;> split at h <;> omega
theorem yx_16 : yx 16 = 0 := rfl
theorem yx_s (h : s < 16) : yx s = s + 1 := if_neg (by omega)
theorem cJt_set (h : cJt n Q (V c) (z.2 k)) (h2 : p < 4) (h3 : g < 8) (h4 : x < 17) : cJt n Q (uR V c r p (va_up (V c r p) (17 * g + x) v) c) ((uA z k (17 * (8 * (4 * r + p) + g) + yx x) v).2 k) := by
  intro r' p' g' x' a1 a2 a3 a4 a5
  rw [uR_at, uA_get]
  have b1 := yx_lt h4
  have b2 := yx_lt a5
  by_cases e : r' = r ∧ p' = p
  · obtain ⟨rfl, rfl⟩ := e
    rw [if_pos ⟨rfl, rfl⟩, vu_a]
    by_cases e2 : g' = g ∧ x' = x
    · obtain ⟨rfl, rfl⟩ := e2
      rw [if_pos rfl, if_pos rfl]
    · have b3 : g' = g → yx x' ≠ yx x := fun w w2 => e2 ⟨w, yx_inj w2 h4 a5⟩
      rw [if_neg (by omega), if_neg (by omega)]
      exact h r' p' g' x' a1 a2 a3 a4 a5
  · rw [if_neg e, if_neg (by omega)]
    exact h r' p' g' x' a1 a2 a3 a4 a5
end
