/-! THE START: class and reference agree -/
def mrow (k : Nat) : Bool := decide (k = 8 ∨ k = 11 ∨ k = 26 ∨ k = 27 ∨ k = 30 ∨ k = 31 ∨ k = 33 ∨ k = 34 ∨ k = 39)
def ZS (n : Nat) (z : Sg) : Prop := (∀ k, k < 8 → k ≠ 1 → z.1 k = 0) ∧ z.1 1 = nI n ∧ (∀ k i, arrB k = true → mrow k = false → z.2 k i = 0) ∧ ∀ k i, mrow k = true → i < ln k → z.2 k i = -1
def Qt0 (z : Sg) : Qt := (fun _ b i => 40 * b + i, fun _ => 0, fun _ => false, z.2 8, z.2 11)
section
variable {n : Nat} {z : Sg}
theorem Qt0_l (hz : ZS n z) : lv0 (Qt0 z) := ⟨fun _ => rfl, fun j hj => hz.2.2.2 8 j rfl hj, fun h hh => hz.2.2.2 11 h rfl hh, fun _ => rfl⟩
theorem su_0 {f : Nat → Int32} (h : ∀ v, f v = 0) : sm f 16 = 0 := by
  rw [show f = fun _ => 0 from funext h]
  rfl
theorem RC_0 (hn1 : 1 ≤ n) (hn10 : n ≤ 10) (hz : ZS n z) : RC n 1 (Vt0 n) (Qt0 z) z := by
  obtain ⟨h1, hn, h0, hm⟩ := hz
  have m8 : ∀ i, i < 40 → z.2 8 i = -1 := fun i hi => hm 8 i rfl hi
  have m11 : ∀ i, i < 16 → z.2 11 i = -1 := fun i hi => hm 11 i rfl hi
  have m26 : ∀ i, i < 40 → z.2 26 i = -1 := fun i hi => hm 26 i rfl hi
  have m27 : ∀ i, i < 40 → z.2 27 i = -1 := fun i hi => hm 27 i rfl hi
  have m30 : ∀ i, i < 5120 → z.2 30 i = -1 := fun i hi => hm 30 i rfl hi
  have m31 : ∀ i, i < 5120 → z.2 31 i = -1 := fun i hi => hm 31 i rfl hi
  have m33 : ∀ i, i < 1360 → z.2 33 i = -1 := fun i hi => hm 33 i rfl hi
  have m39 : ∀ i, i < 1280 → z.2 39 i = -1 := fun i hi => hm 39 i rfl hi
  have s0 : z.1 0 = 0 := h1 0 (by decide) (by decide)
  have z0 : ∀ k i, arrB k = true → mrow k = false → z.2 k i = 0 := h0
  have dd : ∀ r p, r < n → p < 4 → qpw (Qt0 z) (4 * r + p) ≠ -1 → False := fun r p a b w => w (m8 _ (by omega))
  have dh : ∀ h, h < 16 → qhw (Qt0 z) h ≠ -1 → False := fun h a w => w (m11 h a)
  have jx : ∀ {r g x : Nat}, r < n → g < 8 → x < 17 → 17 * (8 * r + g) + yx x < 1360 := fun {r g x} a b c => by
    have := yx_lt c
    omega
  have e_tm : Vt0 n 1 0 0 4 = z.1 0 := by rw [s0]; rfl
  have e_nu : Vt0 n 0 0 0 3 = z.1 2 := by rw [h1 2 (by decide) (by decide)]; rfl
  have e_tu : Vt0 n 1 0 0 5 = z.1 6 := by rw [h1 6 (by decide) (by decide)]; rfl
  have e_wa : cWa (Vt0 n 3 0 0) (Vt0 n 3 0 1) (z.2 8) (z.2 9) := fun j hj => ⟨(show flF (fun _ => 0) (-1) 40 j = -1 from fl_at hj).trans (m8 j hj).symm, fun w => absurd (m8 j hj) w⟩
  have e_mt : cEq 8 (Vt0 n 3 0 5) (z.2 12) := fun j hj => (z0 12 j rfl rfl).symm
  have e_hz : cEq 16 (Vt0 n 3 0 6) (z.2 11) := fun j hj => (show flF (fun _ => 0) (-1) 16 j = -1 from fl_at hj).trans (m11 j hj).symm
  have e_wi : cWi (Vt0 n 5) (z.2 10) (z.2 16) (z.2 17) (z.2 19) := fun v hv => by
    rw [z0 10 v rfl rfl, z0 16 v rfl rfl, z0 17 v rfl rfl, z0 19 v rfl rfl]
    exact ⟨rfl, rfl, rfl, rfl, rfl⟩
  have e_su : cSu (Vt0 n 5) (z.1 3) (z.1 4) (z.1 5) (z.1 7) := by
    rw [h1 3 (by decide) (by decide), h1 4 (by decide) (by decide), h1 5 (by decide) (by decide), h1 7 (by decide) (by decide)]
    exact ⟨su_0 (fun _ => rfl), su_0 (fun _ => rfl), su_0 (fun _ => rfl), su_0 (fun _ => rfl)⟩
  have e_po : cPo n (Vt0 n 6) (z.2 8) := fun v r hv hr => by
    have ne : ∀ i, i < 4 → ¬ z.2 8 (4 * r + i) = nI v := fun i hi w => nI_m1 (k := v) (by omega) (w.symm.trans (m8 _ (by omega)))
    show flF (fun _ => 0) (-1) 10 r = pOr (z.2 8) r (nI v)
    rw [fl_at (by omega)]
    unfold pOr
    rw [if_neg (show ¬ z.2 8 (4 * r) = nI v from ne 0 (by decide)), if_neg (ne 1 (by decide)), if_neg (ne 2 (by decide)), if_neg (ne 3 (by decide))]
  have e_pi : cPi (Qt0 z) := fun v hv => ⟨show (0 : Nat) < 2 by decide, fun b i b' i' h1 h2 h3 h4 => ⟨show 40 * b + i < 80 by omega, fun e => by
    have e : 40 * b + i = 40 * b' + i' := e
    omega⟩⟩
  have e_md : cMd (Qt0 z) := ⟨fun j hj w => absurd (m8 j hj) w, fun h hh w => absurd (m11 h hh) w, fun r p p' hr hp _ w => absurd (m8 _ (by omega)) w⟩
  have e_me : cMe (Qt0 z) (z.2 16) (z.2 19) := fun v hv _ => ⟨z0 16 v rfl rfl, z0 19 v rfl rfl⟩
  have e_fn : cFn (z.2 19) := fun v hv => by
    rw [z0 19 v rfl rfl]
    decide
  have e_jb : cJb n (Vt0 n 13) (z.2 33) (z.2 34) := fun r g x hr hg hx => by
    show flF (fun _ => 0) (-1) 17 x = _
    rw [fl_at hx, m33 _ (jx hr hg hx)]
    exact (if_pos rfl).symm
  have e_tc : cTc n (Vt0 n 12) (z.2 33) (z.2 36) := fun r g hr hg => by
    rw [m33 _ (by omega), if_pos rfl]
    rfl
  have e_sb : cT3 n (Vt0 n 17) (z.2 39) := fun r g s hr hg hs => (show flF (fun _ => 0) (-1) 16 s = -1 from fl_at hs).trans (m39 _ (by omega)).symm
  have le0 : ∀ k i, arrB k = true → mrow k = false → z.2 k i ≤ z.1 0 := fun k i a b => by
    rw [z0 k i a b, s0]
    decide
  have e_jp : cJp n (Qt0 z) (z.2 33) := fun r g y p hr hg hy hp e => absurd (e.symm.trans (m33 _ (by omega))) (nI_m1 (by omega))
  exact ⟨e_tm, e_nu, e_tu, ⟨hn, rfl, hn1, hn10⟩, rfl, rfl, rfl, e_wa, e_mt, e_hz, e_wi, e_su, e_po,
    fun _ _ _ _ w => absurd (show false = true from w) (by decide), fun _ _ _ _ w => absurd (show false = true from w) (by decide), e_pi, e_md, e_me, e_fn,
    fun r hr => ⟨rfl, fun g hg => ⟨rfl, rfl⟩⟩, e_jb, fun r g x hr hg hx w => absurd (m33 _ (jx hr hg hx)) w, e_tc,
    fun r g s _ _ _ => (z0 37 _ rfl rfl).symm, fun r g s _ _ _ => (z0 38 _ rfl rfl).symm, e_sb,
    fun r p a b w => (dd r p a b w).elim, fun r p a b w => (dd r p a b w).elim, fun r p a b w => (dd r p a b w).elim, fun r p _ a b w => (dd r p a b w).elim, fun r p a b w => (dd r p a b w).elim,
    fun r p _ a b w => (dd r p a b w).elim, fun r p _ _ a b w => (dd r p a b w).elim, fun r p _ _ a b w => (dd r p a b w).elim, fun r p _ _ a b w => (dd r p a b w).elim,
    fun h a w => (dh h a w).elim, fun h _ a w => (dh h a w).elim,
    fun r g x hr hg hx _ => m33 _ (jx hr hg hx), fun r g s hr hg hs _ => m39 _ (by omega), fun r g s _ _ _ _ => le0 37 _ rfl rfl, fun r g x p _ _ _ _ _ => le0 29 _ rfl rfl, fun r g p _ _ _ _ => le0 28 _ rfl rfl,
    fun r g s p hr hg hs hp _ => Or.inl (m31 _ (by omega)), fun r g s p hr hg hs hp _ => Or.inl (m30 _ (by omega)),
    fun j hj _ => ⟨fun q _ => z0 25 _ rfl rfl, fun g _ => z0 28 _ rfl rfl, fun m _ => z0 29 _ rfl rfl, fun m hm => m31 _ (by omega)⟩,
    fun r p _ _ => z0 25 _ rfl rfl, fun j hj _ => ⟨m26 j hj, m27 j hj, fun m hm => m30 _ (by omega)⟩,
    fun h hh _ => ⟨z0 13 _ rfl rfl, z0 14 _ rfl rfl, fun m _ => z0 15 _ rfl rfl⟩, e_jp,
    fun e => absurd e (by decide)⟩
theorem GI_0 (hn1 : 1 ≤ n) (hn10 : n ≤ 10) (hz : ZS n z) : GI z := by
  obtain ⟨h1, hn, h0, hm⟩ := hz
  have hnR : nR z = n := by
    unfold nR
    rw [hn, nI_clamp (by omega)]
  have c0 : (0 : Int32) = nI 0 := nI_0.symm
  have hW : WF z := by
    refine ⟨⟨by omega, by omega, by rw [hnR, hn]⟩, ⟨0, by decide, (h1 0 (by decide) (by decide)).trans c0⟩, fun s hs => Or.inl (hm 11 s rfl hs), fun g hg => ⟨0, by omega, (h0 12 g rfl rfl).trans c0⟩, fun i hi => Or.inl (hm 31 i rfl hi), fun j hj => Or.inl (hm 8 j rfl hj)⟩
  refine ⟨⟨hW, fun v hv => ⟨0, 0, Nat.le_refl _, by decide, (h0 16 v rfl rfl).trans c0, (h0 17 v rfl rfl).trans c0⟩, fun t ht => Or.inl ⟨hm 33 t rfl ht, hm 34 t rfl ht⟩⟩, fun v i hv hi => ?_, fun j hj w => absurd (hm 8 j rfl hj) w, ⟨0, by decide, (h1 2 (by decide) (by decide)).trans c0⟩⟩
  unfold mN at hi
  rw [h0 16 v rfl rfl] at hi
  exact absurd hi (Nat.not_lt_zero _)
end
