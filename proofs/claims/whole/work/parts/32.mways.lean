/-! what the ways are, by the reference's own way of reckoning them (Bellman and Ford, target by target) -/
def pOn (z : Sg) (r : Nat) (w : Int32) : Int32 := if z.2 8 (4 * r) = w then 0 else if z.2 8 (4 * r + 1) = w then 1 else if z.2 8 (4 * r + 2) = w then 2 else if z.2 8 (4 * r + 3) = w then 3 else -1
abbrev upP (z : Sg) (j : Nat) : Prop := z.2 8 j ≠ -1 ∧ z.2 10 (z.2 8 j).toNatClampNeg = 0
abbrev atT (z : Sg) (r t : Nat) : Prop := (t < 10 ∧ t = r) ∨ (10 ≤ t ∧ z.2 10 (t - 10) = 0 ∧ pOn z r (nI (t - 10)) ≠ -1)
def ovr (z : Sg) (f : Nat → Int32) (r p q : Nat) : Int32 := if ¬ upP z (4 * r + p) ∨ q = r ∨ pOn z q (z.2 8 (4 * r + p)) = -1 ∨ 1000000 ≤ f q then 1000000 else z.2 9 (4 * r + p) + f q
def wyQ (z : Sg) (r p : Nat) (f : Nat → Int32) : Nat → Nat → Int32
  | 0 => f
  | q + 1 => if ovr z (wyQ z r p f q) r p q < wyQ z r p f q r then va_up (wyQ z r p f q) r (ovr z (wyQ z r p f q) r p q) else wyQ z r p f q
def wyP (z : Sg) (r : Nat) (f : Nat → Int32) : Nat → Nat → Int32
  | 0 => f
  | p + 1 => wyQ z r p (wyP z r f p) (nR z)
def wyR (z : Sg) (f : Nat → Int32) : Nat → Nat → Int32
  | 0 => f
  | r + 1 => wyP z r (wyR z f r) 4
def wyN (z : Sg) (f : Nat → Int32) : Nat → Nat → Int32
  | 0 => f
  | n + 1 => wyR z (wyN z f n) (nR z)
def wy0 (z : Sg) (t : Nat) : Nat → Int32 := fun r => if atT z r t then 0 else 1000000
/-- the distances to t -/
def Dt (z : Sg) (t : Nat) : Nat → Int32 := wyN z (wy0 z t) (nR z)
/-- the best pair of a port and a router so far: sum, port, router -/
def bstQ (z : Sg) (f : Nat → Int32) (r p : Nat) (b : Int32 × Int32 × Int32) : Nat → Int32 × Int32 × Int32
  | 0 => b
  | q + 1 => if (bstQ z f r p b q).1 ≤ ovr z f r p q then bstQ z f r p b q else (ovr z f r p q, nI p, nI q)
def bstP (z : Sg) (f : Nat → Int32) (r : Nat) : Nat → Int32 × Int32 × Int32
  | 0 => (1000000, -1, -1)
  | p + 1 => bstQ z f r p (bstP z f r p) (nR z)
def Wd (z : Sg) (k : Nat) : Int32 := Dt z (k % 26) (k / 26)
def Wp (z : Sg) (k : Nat) : Int32 := if 1000000 ≤ Wd z k ∨ k % 26 = k / 26 then -1 else if atT z (k / 26) (k % 26) then pOn z (k / 26) (nI (k % 26 - 10)) else (bstP z (Dt z (k % 26)) (k / 26) 4).2.1
def Wr (z : Sg) (k : Nat) : Int32 := if 1000000 ≤ Wd z k ∨ k % 26 = k / 26 ∨ atT z (k / 26) (k % 26) then -1 else (bstP z (Dt z (k % 26)) (k / 26) 4).2.2
/-- w holds the ways of z -/
def Frs (z w : Sg) : Prop := w.1 21 = 0 ∧ ∀ k, k < 26 * nR z → w.2 22 k = Wd z k ∧ w.2 23 k = Wp z k ∧ w.2 24 k = Wr z k
def Cns (z w : Sg) : Prop := w.1 21 = 0 → Frs z w
def RK (x : Nat) (G : Hp) (z : Sg) : Prop := ∀ w, Cns z w → ∃ w', d_X9_reckon x (em2 x G z w) = some (em2 x G z w') ∧ Frs z w'
/-! what always holds of the reference's numbers -/
def i10 (v : Int32) : Prop := v = -1 ∨ ∃ q, q < 10 ∧ v = nI q
def WF (z : Sg) : Prop := (1 ≤ nR z ∧ nR z ≤ 10 ∧ z.1 1 = nI (nR z)) ∧ (∃ t, t ≤ 6000 ∧ z.1 0 = nI t) ∧ (∀ s, s < 16 → z.2 11 s = -1 ∨ ∃ v, v < 16 ∧ z.2 11 s = nI v) ∧ (∀ g, g < 8 → ∃ v, v < nR z ∧ z.2 12 g = nI v) ∧ (∀ i, i < 5120 → z.2 31 i = -1 ∨ ∃ a q, a < 100000 ∧ q < nR z ∧ z.2 31 i = nI (100 * a + q)) ∧ (∀ j, j < 40 → z.2 8 j = -1 ∨ ∃ v, v < 16 ∧ z.2 8 j = nI v)
theorem WF.t0 {z : Sg} (h : WF z) : 0 ≤ z.1 0 := by
  obtain ⟨-, ⟨t, ht, e⟩, -⟩ := h
  rw [e]
  exact nI_pos' (by omega)
abbrev hwN (z : Sg) (s : Nat) : Nat := (z.2 11 s).toNatClampNeg
abbrev mtN (z : Sg) (g : Nat) : Nat := (z.2 12 g).toNatClampNeg
abbrev tS (z : Sg) (r s : Nat) : Nat := 26 * r + 10 + hwN z s
abbrev tM (z : Sg) (r g : Nat) : Nat := 26 * r + mtN z g
abbrev noW (z : Sg) (s : Nat) : Prop := z.2 11 s = -1
def pS (z : Sg) (r s : Nat) : Int32 := if noW z s then -1 else Wp z (tS z r s)
def pM (z : Sg) (r g : Nat) : Int32 := Wp z (tM z r g)
def dirS (z : Sg) (r s : Nat) : Bool := decide (¬ noW z s ∧ Wp z (tS z r s) ≠ -1 ∧ Wr z (tS z r s) = -1)
def farS (z : Sg) (r s : Nat) : Int32 := if noW z s then 9999 else if Wd z (tS z r s) < 1000000 then Wd z (tS z r s) else 9999
def farM (z : Sg) (r g : Nat) : Int32 := if Wd z (tM z r g) < 1000000 then Wd z (tM z r g) else 9999
def ownC (z : Sg) (r g s : Nat) : Int32 := cond (strt z r g s) (0 + 100 * farS z r s + nI r) (1000000 + 100 * farM z r g + nI r)
def better (a b : Int32) : Bool := if a / 100 = b / 100 then decide (b - b / 100 * 100 < a - a / 100 * 100) else decide (a / 100 < b / 100)
def clm (z : Sg) (j g s : Nat) : Int32 := if z.2 31 (16 * (8 * j + g) + s) ≠ -1 ∧ z.1 0 < z.2 32 (16 * (8 * j + g) + s) ∧ nb z j (z.2 31 (16 * (8 * j + g) + s) - z.2 31 (16 * (8 * j + g) + s) / 100 * 100).toNatClampNeg = true then z.2 31 (16 * (8 * j + g) + s) else -1
def lostP (z : Sg) (r p g s : Nat) : Bool := decide (clm z (4 * r + p) g s ≠ -1) && better (clm z (4 * r + p) g s) (ownC z r g s)
def shP (z : Sg) (r p g s : Nat) : Bool := ((jn z (4 * r + p) g 0 && !cutO z (4 * r + p) g s) || own z r p g) && !lostP z r p g s
def wjP (z : Sg) (r p g s : Nat) : Bool := jn z (4 * r + p) g (1 + s) && !lostP z r p g s
def alP (z : Sg) (r p g s : Nat) : Bool := shP z r p g s || wjP z r p g s
/-- bits of what holds below n -/
def bN (c : Nat → Bool) : Nat → Int32
  | 0 => 0
  | p + 1 => cond (c p) (bN c p ||| (1 <<< (nI p &&& 31))) (bN c p)
def shB (z : Sg) (r g s : Nat) : Int32 := bN (fun p => shP z r p g s) 4
def alB (z : Sg) (r g s : Nat) : Int32 := bN (fun p => alP z r p g s) 4
def bsP (z : Sg) (r p g : Nat) : Bool := jn z (4 * r + p) g 0 || own z r p g
def bsB (z : Sg) (r g : Nat) : Int32 := bN (fun p => bsP z r p g) 4
def kept (z : Sg) (r g s : Nat) : Bool := decide (z.1 0 < z.2 37 (16 * (8 * r + g) + s))
def wantS (z : Sg) (r g s : Nat) : Bool := (wjP z r 0 g s || wjP z r 1 g s || wjP z r 2 g s || wjP z r 3 g s) || (kept z r g s && decide (alB z r g s ≠ 0))
def want0 (z : Sg) (r g : Nat) : Bool := decide (nI r ≠ z.2 12 g) && decide (bsB z r g ≠ 0)
section
variable {x : Nat} {G : Hp} {z w : Sg} {r p q g s y : Nat}
theorem M_toSource (hM : MS x G) (hF : WF z) (hK : RK x G z) (hw : Cns z w) (h1 : r < 10) (h4 : s < 16) : ∃ w', Frs z w' ∧ d_X9_toSource x (nI r) (nI s) (em2 x G z w) = some (if noW z s then -1 else nI (tS z r s), em2 x G z w') := by
  obtain ⟨w', e, hf⟩ := hK w hw
  refine ⟨w', hf, ?_⟩
  unfold d_X9_toSource
  simp (disch := omega) only [e, e2_hc, e2_hr, e2_hl, ms0, ms1, ms2, ms3, ms4, ms5, ms6, ms7, ms21, hM.1, mc11 hM, ml11 hM, mr11 hM, lm4, lm8, lm10, lm16, lm17, lm26, lm40, lm400, nI_add, nI_1, ix_nI, nI_clamp, gd_T, gd_t, bd_e, bo_e, b2_e, true_and, and_true]
  by_cases h : noW z s
  · rw [if_pos h, if_pos h]
  · rw [if_neg h, if_neg h]
    rcases hF.2.2.1 s h4 with h5 | ⟨v, hv, h5⟩
    · exact absurd h5 h
    · have e1 : hwN z s = v := by show (z.2 11 s).toNatClampNeg = v; rw [h5, nI_clamp (by omega)]
      rw [h5, show (10 : Int32) = nI 10 from rfl, nI_add, nI_add]
      show _ = some (nI (26 * r + 10 + hwN z s), _)
      rw [e1]
theorem M_toMeeting (hM : MS x G) (hF : WF z) (hK : RK x G z) (hw : Cns z w) (h1 : r < 10) (h3 : g < 8) : ∃ w', Frs z w' ∧ d_X9_toMeeting x (nI r) (nI g) (em2 x G z w) = some (nI (tM z r g), em2 x G z w') := by
  obtain ⟨w', e, hf⟩ := hK w hw
  refine ⟨w', hf, ?_⟩
  unfold d_X9_toMeeting
  simp (disch := omega) only [e, e2_hc, e2_hr, e2_hl, ms0, ms1, ms2, ms3, ms4, ms5, ms6, ms7, ms21, hM.1, mc12 hM, ml12 hM, mr12 hM, lm4, lm8, lm10, lm16, lm17, lm26, lm40, lm400, nI_add, nI_1, ix_nI, nI_clamp, gd_T, gd_t, bd_e, bo_e, b2_e, true_and, and_true]
  obtain ⟨v, hv, h5⟩ := hF.2.2.2.1 g h3
  have e1 : mtN z g = v := by show (z.2 12 g).toNatClampNeg = v; rw [h5, nI_clamp (by have := hF.1; omega)]
  rw [h5, nI_add]
  show _ = some (nI (26 * r + mtN z g), _)
  rw [e1]
end
