/-! THE REFERENCE IS MADE -/
def NW (H : Hp) (x t : Nat) (T Ln : Nat → Nat) (m : Nat) (f : Nat → Int32) (g : Nat → Nat) (F : Nat → Nat → Int32) (G : Hp) : Prop := (hn G = hn H + m ∧ hs H ≤ hs G ∧ hs G ≤ hs H + 6400 * m ∧ x < hn H) ∧ (∀ a, a < hn H → a ≠ x → Sm a H G) ∧ (hc G x = t ∧ hl G x = hl H x ∧ hi G x = f ∧ hr G x = g) ∧ ∀ i, i < m → hc G (hn H + i) = T i ∧ hl G (hn H + i) = Ln i ∧ hi G (hn H + i) = F i ∧ hr G (hn H + i) = fun _ => 0
section
variable {H G : Hp} {x t m k : Nat} {T Ln : Nat → Nat} {f : Nat → Int32} {g : Nat → Nat} {F : Nat → Nat → Int32} {P : Hp → Prop}
theorem NW_0 (h : x < hn H) (h1 : hc H x = t) (h2 : hi H x = f) (h3 : hr H x = g) : NW H x t T Ln 0 f g F H := ⟨⟨rfl, Nat.le_refl _, Nat.le_refl _, h⟩, fun a _ _ => Sm.refl a H, ⟨h1, rfl, h2, h3⟩, fun i hi => absurd hi (Nat.not_lt_zero _)⟩
theorem NW_I {v : Int32} (h : NW H x t T Ln m f g F G) : NW H x t T Ln m (va_up f k v) g F (sI G x k v) := by
  obtain ⟨⟨a1, a2, a3, a4⟩, b, ⟨c1, c2, c3, c4⟩, d⟩ := h
  refine ⟨⟨a1, a2, a3, a4⟩, fun a h1 h2 => ?_, ⟨c1, c2, ?_, c4⟩, fun i hi => ?_⟩
  · obtain ⟨o1, o2, o3, o4⟩ := b a h1 h2
    refine ⟨o1, o2, ?_, o4⟩
    rw [sI_hi, if_neg h2, o3]
  · rw [sI_hi, if_pos rfl, c3]
  · obtain ⟨o1, o2, o3, o4⟩ := d i hi
    refine ⟨o1, o2, ?_, o4⟩
    rw [sI_hi, if_neg (by omega), o3]
theorem NW_R {v : Nat} (h : NW H x t T Ln m f g F G) : NW H x t T Ln m f (va_up g k v) F (sR G x k v) := by
  obtain ⟨⟨a1, a2, a3, a4⟩, b, ⟨c1, c2, c3, c4⟩, d⟩ := h
  refine ⟨⟨a1, a2, a3, a4⟩, fun a h1 h2 => ?_, ⟨c1, c2, c3, ?_⟩, fun i hi => ?_⟩
  · obtain ⟨o1, o2, o3, o4⟩ := b a h1 h2
    refine ⟨o1, o2, o3, ?_⟩
    rw [sR_hr, if_neg h2, o4]
  · rw [sR_hr, if_pos rfl, c4]
  · obtain ⟨o1, o2, o3, o4⟩ := d i hi
    refine ⟨o1, o2, o3, ?_⟩
    rw [sR_hr, if_neg (by omega), o4]
theorem NW_N {t' l : Nat} (h : NW H x t T Ln m f g F G) (h1 : T m = t') (h2 : Ln m = l) (h3 : l ≤ 6400) (h4 : F m = fun _ => 0) : NW H x t T Ln (m + 1) f g F (nC G t' l l) := by
  obtain ⟨⟨a1, a2, a3, a4⟩, b, ⟨c1, c2, c3, c4⟩, d⟩ := h
  refine ⟨⟨?_, ?_, ?_, a4⟩, fun a h1 h2 => ?_, ⟨?_, ?_, ?_, ?_⟩, fun i hi => ?_⟩
  · rw [nC_hn, a1]
    omega
  · rw [nC_hs]
    omega
  · rw [nC_hs]
    omega
  · have ne : a ≠ hn G := by omega
    obtain ⟨o1, o2, o3, o4⟩ := b a h1 h2
    refine ⟨?_, ?_, ?_, ?_⟩
    · rw [nC_hc, if_neg ne, o1]
    · rw [nC_hl, if_neg ne, o2]
    · rw [nC_hi, if_neg ne, o3]
    · rw [nC_hr, if_neg ne, o4]
  · rw [nC_hc, if_neg (by omega), c1]
  · rw [nC_hl, if_neg (by omega), c2]
  · rw [nC_hi, if_neg (by omega), c3]
  · rw [nC_hr, if_neg (by omega), c4]
  · rw [nC_hc, nC_hl, nC_hi, nC_hr]
    by_cases e : i = m
    · have ne : hn H + i = hn G := by omega
      rw [if_pos ne, if_pos ne, if_pos ne, if_pos ne, e, h1, h2, h4]
      exact ⟨rfl, rfl, rfl, rfl⟩
    · have ne : hn H + i ≠ hn G := by omega
      rw [if_neg ne, if_neg ne, if_neg ne, if_neg ne]
      exact d i (by omega)
theorem WI {v : Int32} {rest : Hp → Option Hp} (h : NW H x t T Ln m f g F G) (k' : ∀ G', NW H x t T Ln m (va_up f k v) g F G' → OKM G' (rest G') P) : OKM G (gd (hc G x = t) <| bd (sI G x k v) rest) P :=
  OKM_g h.2.2.1.1 (OKM_t (k' _ (NW_I h)) (Nat.le_refl _) (Nat.le_refl _))
theorem WR {v : Nat} {rest : Hp → Option Hp} (h : NW H x t T Ln m f g F G) (k' : ∀ G', NW H x t T Ln m f (va_up g k v) F G' → OKM G' (rest G') P) : OKM G (gd (hc G x = t) <| bd (sR G x k v) rest) P :=
  OKM_g h.2.2.1.1 (OKM_t (k' _ (NW_R h)) (Nat.le_refl _) (Nat.le_refl _))
theorem WA {t' l : Nat} {rest : Hp → Option Hp} (h : NW H x t T Ln m f g F G) (h1 : T m = t') (h2 : Ln m = l) (h3 : l ≤ 6400) (h4 : F m = fun _ => 0) (k' : ∀ G', NW H x t T Ln (m + 1) f (va_up g k (hn H + m)) F G' → OKM G' (rest G') P) : OKM G (bd (hn G) fun q => bd (nC G t' l l) fun G3 => mV G3 <| gd (hc G3 x = t) <| bd (sR G3 x k q) rest) P := by
  have h5 := NW_N h h1 h2 h3 h4
  refine OKM_d (OKM_d (OKM_t (OKM_m (WR h5 (fun G' h6 => ?_))) (Nat.le_succ _) (Nat.le_add_right _ _)))
  rw [h.1.1] at h6
  exact k' G' h6
end
def rfK (i : Nat) : Nat := if i < 13 then i + 8 else i + 9
def rfT : Nat → Nat := fun i => kd (rfK i)
def rfL : Nat → Nat := fun i => ln (rfK i)
def rfG (b : Nat) : Nat → Nat := va_up (va_up (va_up (va_up (va_up (va_up (va_up (va_up (va_up (va_up (va_up (va_up (va_up (va_up (va_up (va_up (va_up (va_up (va_up (va_up (va_up (va_up (va_up (va_up (va_up (va_up (va_up (va_up (va_up (va_up (va_up (fun _ => 0) 8 (b + 0)) 9 (b + 1)) 10 (b + 2)) 11 (b + 3)) 12 (b + 4)) 13 (b + 5)) 14 (b + 6)) 15 (b + 7)) 16 (b + 8)) 17 (b + 9)) 18 (b + 10)) 19 (b + 11)) 20 (b + 12)) 22 (b + 13)) 23 (b + 14)) 24 (b + 15)) 25 (b + 16)) 26 (b + 17)) 27 (b + 18)) 28 (b + 19)) 29 (b + 20)) 30 (b + 21)) 31 (b + 22)) 32 (b + 23)) 33 (b + 24)) 34 (b + 25)) 35 (b + 26)) 36 (b + 27)) 37 (b + 28)) 38 (b + 29)) 39 (b + 30)
def rfF (n : Nat) : Nat → Int32 := va_up (va_up (fun _ => 0) 21 1) 1 (nI n)
theorem rfG_at (b k : Nat) (h : arrB k = true) : ∃ i, i < 31 ∧ rfG b k = b + i ∧ k = rfK i := by
  have h1 := of_decide_eq_true h
  have hk : k = 8 ∨ k = 9 ∨ k = 10 ∨ k = 11 ∨ k = 12 ∨ k = 13 ∨ k = 14 ∨ k = 15 ∨ k = 16 ∨ k = 17 ∨ k = 18 ∨ k = 19 ∨ k = 20 ∨ k = 22 ∨ k = 23 ∨ k = 24 ∨ k = 25 ∨ k = 26 ∨ k = 27 ∨ k = 28 ∨ k = 29 ∨ k = 30 ∨ k = 31 ∨ k = 32 ∨ k = 33 ∨ k = 34 ∨ k = 35 ∨ k = 36 ∨ k = 37 ∨ k = 38 ∨ k = 39 := by omega
  rcases hk with rfl | rfl | rfl | rfl | rfl | rfl | rfl | rfl | rfl | rfl | rfl | rfl | rfl | rfl | rfl | rfl | rfl | rfl | rfl | rfl | rfl | rfl | rfl | rfl | rfl | rfl | rfl | rfl | rfl | rfl | rfl
  · exact ⟨0, by decide, rfl, rfl⟩
  · exact ⟨1, by decide, rfl, rfl⟩
  · exact ⟨2, by decide, rfl, rfl⟩
  · exact ⟨3, by decide, rfl, rfl⟩
  · exact ⟨4, by decide, rfl, rfl⟩
  · exact ⟨5, by decide, rfl, rfl⟩
  · exact ⟨6, by decide, rfl, rfl⟩
  · exact ⟨7, by decide, rfl, rfl⟩
  · exact ⟨8, by decide, rfl, rfl⟩
  · exact ⟨9, by decide, rfl, rfl⟩
  · exact ⟨10, by decide, rfl, rfl⟩
  · exact ⟨11, by decide, rfl, rfl⟩
  · exact ⟨12, by decide, rfl, rfl⟩
  · exact ⟨13, by decide, rfl, rfl⟩
  · exact ⟨14, by decide, rfl, rfl⟩
  · exact ⟨15, by decide, rfl, rfl⟩
  · exact ⟨16, by decide, rfl, rfl⟩
  · exact ⟨17, by decide, rfl, rfl⟩
  · exact ⟨18, by decide, rfl, rfl⟩
  · exact ⟨19, by decide, rfl, rfl⟩
  · exact ⟨20, by decide, rfl, rfl⟩
  · exact ⟨21, by decide, rfl, rfl⟩
  · exact ⟨22, by decide, rfl, rfl⟩
  · exact ⟨23, by decide, rfl, rfl⟩
  · exact ⟨24, by decide, rfl, rfl⟩
  · exact ⟨25, by decide, rfl, rfl⟩
  · exact ⟨26, by decide, rfl, rfl⟩
  · exact ⟨27, by decide, rfl, rfl⟩
  · exact ⟨28, by decide, rfl, rfl⟩
  · exact ⟨29, by decide, rfl, rfl⟩
  · exact ⟨30, by decide, rfl, rfl⟩
/-- row k is filled up to m -/
def flP (z : Sg) (k m : Nat) : Sg := (z.1, fun r => if r = k then (fun i => if i < m then -1 else z.2 k i) else z.2 r)
section
variable {z : Sg} {k k' m i : Nat} {v : Int32}
theorem flP_0 : flP z k 0 = z := by
  unfold flP
  refine Prod.ext rfl ?_
  funext r
  show (if r = k then (fun i => if i < 0 then -1 else z.2 k i) else z.2 r) = z.2 r
  by_cases h : r = k
  · rw [if_pos h, h]
    funext i
    rw [if_neg (Nat.not_lt_zero _)]
  · rw [if_neg h]
theorem flP_s : uA (flP z k m) k m (-1) = flP z k (m + 1) := by
  refine Prod.ext rfl ?_
  funext r
  show u2 (flP z k m).2 k m (-1) r = (if r = k then (fun i => if i < m + 1 then -1 else z.2 k i) else z.2 r)
  unfold u2
  by_cases h : r = k
  · rw [if_pos h, if_pos h]
    funext i
    rw [vu_a]
    show (if i = m then -1 else (if k = k then (fun i => if i < m then -1 else z.2 k i) else z.2 k) i) = _
    rw [if_pos rfl]
    by_cases e : i = m
    · rw [if_pos e, if_pos (by omega)]
    · rw [if_neg e]
      show (if i < m then -1 else z.2 k i) = _
      by_cases e2 : i < m
      · rw [if_pos e2, if_pos (by omega)]
      · rw [if_neg e2, if_neg (by omega)]
  · rw [if_neg h, if_neg h]
    exact if_neg h
theorem flP_c (h : k ≠ k') : uA (flP z k m) k' i v = flP (uA z k' i v) k m := by
  refine Prod.ext rfl ?_
  funext r
  show u2 (flP z k m).2 k' i v r = (if r = k then (fun i' => if i' < m then -1 else u2 z.2 k' i v k i') else u2 z.2 k' i v r)
  unfold u2
  by_cases e : r = k
  · rw [if_pos e, if_neg (by omega), if_neg h]
    exact if_pos e
  · rw [if_neg e]
    by_cases e2 : r = k'
    · rw [if_pos e2, if_pos e2]
      show va_up (if k' = k then _ else z.2 k') i v = _
      rw [if_neg (fun w => h w.symm)]
    · rw [if_neg e2, if_neg e2]
      exact if_neg e
theorem flP_at : (flP z k m).2 k i = if i < m then -1 else z.2 k i := by
  show (if k = k then (fun i => if i < m then -1 else z.2 k i) else z.2 k) i = _
  rw [if_pos rfl]
theorem flP_n (h : k' ≠ k) : (flP z k m).2 k' = z.2 k' := if_neg h
end
section
variable {x : Nat} {G : Hp} {z : Sg}
theorem R_416 (hM : MS x G) : ∀ (N m : Nat), m ≤ 1280 → 1280 - m < N → OKM (em x G (flP z 39 m)) (d_X9_init_416 N x (nI m) (em x G (flP z 39 m))) (fun y => y = em x G (flP z 39 1280)) := by
  intro N
  induction N with
  | zero => intro m _ h; omega
  | succ N ih =>
    intro m hm hlt
    rw [d_X9_init_416.eq_2, show (1280 : Int32) = nI 1280 from rfl]
    refine OKM_m ?_
    by_cases he : m = 1280
    · subst he
      rw [if_pos (nI_le (Nat.le_refl _) (by decide))]
      exact OKM_s rfl
    · have hm4 : m < 1280 := by omega
      rw [if_neg (nI_ge hm4 (by decide)), nI_clamp (by omega), nI_1]
      refine OKM_g (show hc G x = 10 from hM.1) (OKM_g (show hc G (hr G x 39) = 11 ∧ ix (nI m) (hl G (hr G x 39)) from ⟨hM.kc rfl, (ix_nI (by omega)).mpr (by rw [hM.kl rfl]; exact hm4)⟩) (OKM_d ?_))
      have e : uA (flP z 39 m) 39 m (-1) = flP z 39 (m + 1) := by
        rw [flP_s]
      have k1 := ih (m + 1) (by omega) (by omega)
      rw [← e] at k1
      show OKM _ (d_X9_init_416 N x (nI (m + 1)) (sI (em x G (flP z 39 m)) (hr G x 39) m (-1))) _
      rw [em_uA hM (k := 39) rfl]
      exact OKM_t k1 (Nat.le_refl _) (Nat.le_refl _)
theorem R_387 (hM : MS x G) : ∀ (N m : Nat), m ≤ 1360 → 1360 - m < N → OKM (em x G (flP (flP z 33 m) 34 m)) (d_X9_init_387 N x (nI m) (em x G (flP (flP z 33 m) 34 m))) (fun y => y = em x G (flP (flP (flP z 33 1360) 34 1360) 39 1280)) := by
  intro N
  induction N with
  | zero => intro m _ h; omega
  | succ N ih =>
    intro m hm hlt
    rw [d_X9_init_387.eq_2, show (1360 : Int32) = nI 1360 from rfl]
    refine OKM_m ?_
    by_cases he : m = 1360
    · subst he
      rw [if_pos (nI_le (Nat.le_refl _) (by decide))]
      have k1 := R_416 (z := flP (flP z 33 1360) 34 1360) hM FU 0 (by omega) (by decide)
      rw [flP_0, nI_0] at k1
      exact k1
    · have hm4 : m < 1360 := by omega
      rw [if_neg (nI_ge hm4 (by decide)), nI_clamp (by omega), nI_1]
      refine OKM_g (show hc G x = 10 from hM.1) (OKM_g (show hc G (hr G x 33) = 11 ∧ ix (nI m) (hl G (hr G x 33)) from ⟨hM.kc rfl, (ix_nI (by omega)).mpr (by rw [hM.kl rfl]; exact hm4)⟩) (OKM_d ?_))
      refine OKM_g (show hc G x = 10 from hM.1) (OKM_g (show hc G (hr G x 34) = 11 ∧ ix (nI m) (hl G (hr G x 34)) from ⟨hM.kc rfl, (ix_nI (by omega)).mpr (by rw [hM.kl rfl]; exact hm4)⟩) (OKM_d ?_))
      have e : uA (uA (flP (flP z 33 m) 34 m) 33 m (-1)) 34 m (-1) = flP (flP z 33 (m + 1)) 34 (m + 1) := by
        rw [flP_c (k := 34) (k' := 33) (by decide), flP_s, flP_s]
      have k1 := ih (m + 1) (by omega) (by omega)
      rw [← e] at k1
      show OKM _ (d_X9_init_387 N x (nI (m + 1)) (sI (sI (em x G (flP (flP z 33 m) 34 m)) (hr G x 33) m (-1)) (hr G x 34) m (-1))) _
      rw [em_uA hM (k := 33) rfl, em_uA hM (k := 34) rfl]
      exact OKM_t k1 (Nat.le_refl _) (Nat.le_refl _)
theorem R_358 (hM : MS x G) : ∀ (N m : Nat), m ≤ 5120 → 5120 - m < N → OKM (em x G (flP (flP z 30 m) 31 m)) (d_X9_init_358 N x (nI m) (em x G (flP (flP z 30 m) 31 m))) (fun y => y = em x G (flP (flP (flP (flP (flP z 30 5120) 31 5120) 33 1360) 34 1360) 39 1280)) := by
  intro N
  induction N with
  | zero => intro m _ h; omega
  | succ N ih =>
    intro m hm hlt
    rw [d_X9_init_358.eq_2, show (5120 : Int32) = nI 5120 from rfl]
    refine OKM_m ?_
    by_cases he : m = 5120
    · subst he
      rw [if_pos (nI_le (Nat.le_refl _) (by decide))]
      have k1 := R_387 (z := flP (flP z 30 5120) 31 5120) hM FU 0 (by omega) (by decide)
      rw [flP_0, flP_0, nI_0] at k1
      exact k1
    · have hm4 : m < 5120 := by omega
      rw [if_neg (nI_ge hm4 (by decide)), nI_clamp (by omega), nI_1]
      refine OKM_g (show hc G x = 10 from hM.1) (OKM_g (show hc G (hr G x 30) = 11 ∧ ix (nI m) (hl G (hr G x 30)) from ⟨hM.kc rfl, (ix_nI (by omega)).mpr (by rw [hM.kl rfl]; exact hm4)⟩) (OKM_d ?_))
      refine OKM_g (show hc G x = 10 from hM.1) (OKM_g (show hc G (hr G x 31) = 11 ∧ ix (nI m) (hl G (hr G x 31)) from ⟨hM.kc rfl, (ix_nI (by omega)).mpr (by rw [hM.kl rfl]; exact hm4)⟩) (OKM_d ?_))
      have e : uA (uA (flP (flP z 30 m) 31 m) 30 m (-1)) 31 m (-1) = flP (flP z 30 (m + 1)) 31 (m + 1) := by
        rw [flP_c (k := 31) (k' := 30) (by decide), flP_s, flP_s]
      have k1 := ih (m + 1) (by omega) (by omega)
      rw [← e] at k1
      show OKM _ (d_X9_init_358 N x (nI (m + 1)) (sI (sI (em x G (flP (flP z 30 m) 31 m)) (hr G x 30) m (-1)) (hr G x 31) m (-1))) _
      rw [em_uA hM (k := 30) rfl, em_uA hM (k := 31) rfl]
      exact OKM_t k1 (Nat.le_refl _) (Nat.le_refl _)
theorem R_337 (hM : MS x G) : ∀ (N m : Nat), m ≤ 16 → 16 - m < N → OKM (em x G (flP z 11 m)) (d_X9_init_337 N x (nI m) (em x G (flP z 11 m))) (fun y => y = em x G (flP (flP (flP (flP (flP (flP z 11 16) 30 5120) 31 5120) 33 1360) 34 1360) 39 1280)) := by
  intro N
  induction N with
  | zero => intro m _ h; omega
  | succ N ih =>
    intro m hm hlt
    rw [d_X9_init_337.eq_2, show (16 : Int32) = nI 16 from rfl]
    refine OKM_m ?_
    by_cases he : m = 16
    · subst he
      rw [if_pos (nI_le (Nat.le_refl _) (by decide))]
      have k1 := R_358 (z := flP z 11 16) hM FU 0 (by omega) (by decide)
      rw [flP_0, flP_0, nI_0] at k1
      exact k1
    · have hm4 : m < 16 := by omega
      rw [if_neg (nI_ge hm4 (by decide)), nI_clamp (by omega), nI_1]
      refine OKM_g (show hc G x = 10 from hM.1) (OKM_g (show hc G (hr G x 11) = 11 ∧ ix (nI m) (hl G (hr G x 11)) from ⟨hM.kc rfl, (ix_nI (by omega)).mpr (by rw [hM.kl rfl]; exact hm4)⟩) (OKM_d ?_))
      have e : uA (flP z 11 m) 11 m (-1) = flP z 11 (m + 1) := by
        rw [flP_s]
      have k1 := ih (m + 1) (by omega) (by omega)
      rw [← e] at k1
      show OKM _ (d_X9_init_337 N x (nI (m + 1)) (sI (em x G (flP z 11 m)) (hr G x 11) m (-1))) _
      rw [em_uA hM (k := 11) rfl]
      exact OKM_t k1 (Nat.le_refl _) (Nat.le_refl _)
theorem R_302 (hM : MS x G) : ∀ (N m : Nat), m ≤ 40 → 40 - m < N → OKM (em x G (flP (flP (flP z 8 m) 26 m) 27 m)) (d_X9_init_302 N x (nI m) (em x G (flP (flP (flP z 8 m) 26 m) 27 m))) (fun y => y = em x G (flP (flP (flP (flP (flP (flP (flP (flP (flP z 8 40) 26 40) 27 40) 11 16) 30 5120) 31 5120) 33 1360) 34 1360) 39 1280)) := by
  intro N
  induction N with
  | zero => intro m _ h; omega
  | succ N ih =>
    intro m hm hlt
    rw [d_X9_init_302.eq_2, show (40 : Int32) = nI 40 from rfl]
    refine OKM_m ?_
    by_cases he : m = 40
    · subst he
      rw [if_pos (nI_le (Nat.le_refl _) (by decide))]
      have k1 := R_337 (z := flP (flP (flP z 8 40) 26 40) 27 40) hM FU 0 (by omega) (by decide)
      rw [flP_0, nI_0] at k1
      exact k1
    · have hm4 : m < 40 := by omega
      rw [if_neg (nI_ge hm4 (by decide)), nI_clamp (by omega), nI_1]
      refine OKM_g (show hc G x = 10 from hM.1) (OKM_g (show hc G (hr G x 8) = 11 ∧ ix (nI m) (hl G (hr G x 8)) from ⟨hM.kc rfl, (ix_nI (by omega)).mpr (by rw [hM.kl rfl]; exact hm4)⟩) (OKM_d ?_))
      refine OKM_g (show hc G x = 10 from hM.1) (OKM_g (show hc G (hr G x 26) = 11 ∧ ix (nI m) (hl G (hr G x 26)) from ⟨hM.kc rfl, (ix_nI (by omega)).mpr (by rw [hM.kl rfl]; exact hm4)⟩) (OKM_d ?_))
      refine OKM_g (show hc G x = 10 from hM.1) (OKM_g (show hc G (hr G x 27) = 11 ∧ ix (nI m) (hl G (hr G x 27)) from ⟨hM.kc rfl, (ix_nI (by omega)).mpr (by rw [hM.kl rfl]; exact hm4)⟩) (OKM_d ?_))
      have e : uA (uA (uA (flP (flP (flP z 8 m) 26 m) 27 m) 8 m (-1)) 26 m (-1)) 27 m (-1) = flP (flP (flP z 8 (m + 1)) 26 (m + 1)) 27 (m + 1) := by
        rw [flP_c (k := 27) (k' := 8) (by decide), flP_c (k := 26) (k' := 8) (by decide), flP_s, flP_c (k := 27) (k' := 26) (by decide), flP_s, flP_s]
      have k1 := ih (m + 1) (by omega) (by omega)
      rw [← e] at k1
      show OKM _ (d_X9_init_302 N x (nI (m + 1)) (sI (sI (sI (em x G (flP (flP (flP z 8 m) 26 m) 27 m)) (hr G x 8) m (-1)) (hr G x 26) m (-1)) (hr G x 27) m (-1))) _
      rw [em_uA hM (k := 8) rfl, em_uA hM (k := 26) rfl, em_uA hM (k := 27) rfl]
      exact OKM_t k1 (Nat.le_refl _) (Nat.le_refl _)
end
def zE (z : Sg) : Sg := flP (flP (flP (flP (flP (flP (flP (flP (flP z 8 40) 26 40) 27 40) 11 16) 30 5120) 31 5120) 33 1360) 34 1360) 39 1280
theorem zE_1 {z : Sg} : (zE z).1 = z.1 := rfl
theorem zE_n {z : Sg} {k : Nat} (h : mrow k = false) : (zE z).2 k = z.2 k := by
  have h := of_decide_eq_false h
  unfold zE
  rw [flP_n (by omega), flP_n (by omega), flP_n (by omega), flP_n (by omega), flP_n (by omega), flP_n (by omega), flP_n (by omega), flP_n (by omega), flP_n (by omega)]
theorem zE_m {z : Sg} {k i : Nat} (h : mrow k = true) (hi : i < ln k) : (zE z).2 k i = -1 := by
  have h := of_decide_eq_true h
  unfold zE
  rcases h with rfl | rfl | rfl | rfl | rfl | rfl | rfl | rfl | rfl
  · rw [flP_n (k := 39) (k' := 8) (by decide), flP_n (k := 34) (k' := 8) (by decide), flP_n (k := 33) (k' := 8) (by decide), flP_n (k := 31) (k' := 8) (by decide), flP_n (k := 30) (k' := 8) (by decide), flP_n (k := 11) (k' := 8) (by decide), flP_n (k := 27) (k' := 8) (by decide), flP_n (k := 26) (k' := 8) (by decide), flP_at]
    exact if_pos hi
  · rw [flP_n (k := 39) (k' := 11) (by decide), flP_n (k := 34) (k' := 11) (by decide), flP_n (k := 33) (k' := 11) (by decide), flP_n (k := 31) (k' := 11) (by decide), flP_n (k := 30) (k' := 11) (by decide), flP_at]
    exact if_pos hi
  · rw [flP_n (k := 39) (k' := 26) (by decide), flP_n (k := 34) (k' := 26) (by decide), flP_n (k := 33) (k' := 26) (by decide), flP_n (k := 31) (k' := 26) (by decide), flP_n (k := 30) (k' := 26) (by decide), flP_n (k := 11) (k' := 26) (by decide), flP_n (k := 27) (k' := 26) (by decide), flP_at]
    exact if_pos hi
  · rw [flP_n (k := 39) (k' := 27) (by decide), flP_n (k := 34) (k' := 27) (by decide), flP_n (k := 33) (k' := 27) (by decide), flP_n (k := 31) (k' := 27) (by decide), flP_n (k := 30) (k' := 27) (by decide), flP_n (k := 11) (k' := 27) (by decide), flP_at]
    exact if_pos hi
  · rw [flP_n (k := 39) (k' := 30) (by decide), flP_n (k := 34) (k' := 30) (by decide), flP_n (k := 33) (k' := 30) (by decide), flP_n (k := 31) (k' := 30) (by decide), flP_at]
    exact if_pos hi
  · rw [flP_n (k := 39) (k' := 31) (by decide), flP_n (k := 34) (k' := 31) (by decide), flP_n (k := 33) (k' := 31) (by decide), flP_at]
    exact if_pos hi
  · rw [flP_n (k := 39) (k' := 33) (by decide), flP_n (k := 34) (k' := 33) (by decide), flP_at]
    exact if_pos hi
  · rw [flP_n (k := 39) (k' := 34) (by decide), flP_at]
    exact if_pos hi
  · rw [flP_at]
    exact if_pos hi
theorem cl10r {x : Int32} {n : Nat} (h : imax 1 (imin 10 x) = nI n) : (1 ≤ x → x ≤ 10 → x = nI n) ∧ (1 ≤ x → ¬ x ≤ 10 → 10 = nI n) ∧ (¬ 1 ≤ x → 1 = nI n) := by
  unfold imax imin at h
  have t10 : (10 : Int32).toInt = 10 := rfl
  have t1 : (1 : Int32).toInt = 1 := rfl
  refine ⟨fun a b => ?_, fun a b => ?_, fun a => ?_⟩
  · rw [Int32.le_iff_toInt_le, t1] at a
    rw [Int32.le_iff_toInt_le, t10] at b
    by_cases c : x < 10
    · rw [if_pos c] at h
      by_cases d : 1 < x
      · rw [if_pos d] at h
        exact h
      · rw [if_neg d] at h
        rw [Int32.lt_iff_toInt_lt, t1] at d
        have : x = 1 := Int32.toInt_inj.mp (by rw [t1]; omega)
        rw [this]
        exact h
    · rw [if_neg c, if_pos (by decide)] at h
      rw [Int32.lt_iff_toInt_lt, t10] at c
      have : x = 10 := Int32.toInt_inj.mp (by rw [t10]; omega)
      rw [this]
      exact h
  · rw [Int32.le_iff_toInt_le, t10] at b
    have c : ¬ x < 10 := by
      rw [Int32.lt_iff_toInt_lt, t10]
      omega
    rw [if_neg c, if_pos (by decide)] at h
    exact h
  · rw [Int32.le_iff_toInt_le, t1] at a
    have c : x < 10 := by
      rw [Int32.lt_iff_toInt_lt, t10]
      omega
    have d : ¬ 1 < x := by
      rw [Int32.lt_iff_toInt_lt, t1]
      omega
    rw [if_pos c, if_neg d] at h
    exact h
/-- the reference's cells, of which a heap holds z (and w of the ways) -/
def RS (x : Nat) (G : Hp) (z w : Sg) : Prop := MS x G ∧ em2 x G z w = G ∧ x < hn G ∧ ∀ k, arrB k = true → hr G x k < hn G
def RP (n : Nat) (H G : Hp) : Prop := (hn G = hn H + 32 ∧ hs H ≤ hs G ∧ hs G ≤ hs H + 200000) ∧ (∀ a, a < hn H → Sm a H G) ∧ (∀ k, arrB k = true → hn H ≤ hr G (hn H) k) ∧ ∃ z w, RS (hn H) G z w ∧ ZS n z ∧ Cns z w
theorem mk_self {z : Sg} : mk z z = z := by
  unfold mk
  refine Prod.ext ?_ ?_
  · funext k
    show (if k = 21 then z.1 k else z.1 k) = z.1 k
    split <;> rfl
  · funext k
    show (if isW k = true then z.2 k else z.2 k) = z.2 k
    split <;> rfl
theorem em_em {x : Nat} {G : Hp} {z : Sg} (hM : MS x G) : em x (em x G z) z = em x G z := by
  have e := em_self (x := x) (G := em x G z)
  show em x (em x G z) z = em x G z
  have hf : hi (em x (em x G z) z) = hi (em x G z) := by
    funext a
    show (if a = x then z.1 else match rowOf x G a with | some k => z.2 k | none => hi (em x G z) a) = hi (em x G z) a
    by_cases ha : a = x
    · rw [if_pos ha, ha, em_s]
    · rw [if_neg ha]
      cases h : rowOf x G a with
      | none => rfl
      | some j =>
        show z.2 j = if a = x then z.1 else match rowOf x G a with | some k => z.2 k | none => hi G a
        rw [if_neg ha, h]
  show ((hc G, hl G, hi (em x (em x G z) z), hr G, hn G, hs G) : Hp) = (hc G, hl G, hi (em x G z), hr G, hn G, hs G)
  rw [hf]
set_option maxHeartbeats 4000000 in
theorem P_ref {n : Nat} {x1 : Int32} {H : Hp} (hn1 : 1 ≤ n) (hn10 : n ≤ 10) (ex : imax 1 (imin 10 x1) = nI n) : OKM (nC H 10 0 40) (d_X9_init (hn H) x1 (nC H 10 0 40)) (RP n H) := by
  obtain ⟨n1, n2, n3, n4⟩ := CE_nC (G := H) (t := 10) (l := 0) (z := 40)
  unfold d_X9_init
  refine OKM_m (OKM_g n1 ?_)
  refine WA (T := rfT) (Ln := rfL) (F := fun _ _ => 0) (NW_0 (Nat.lt_succ_self _) n1 n3 n4) rfl rfl (by decide) rfl (fun G1 d1 => ?_)
  refine WA d1 rfl rfl (by decide) rfl (fun G2 d2 => ?_)
  refine WA d2 rfl rfl (by decide) rfl (fun G3 d3 => ?_)
  refine WA d3 rfl rfl (by decide) rfl (fun G4 d4 => ?_)
  refine WA d4 rfl rfl (by decide) rfl (fun G5 d5 => ?_)
  refine WA d5 rfl rfl (by decide) rfl (fun G6 d6 => ?_)
  refine WA d6 rfl rfl (by decide) rfl (fun G7 d7 => ?_)
  refine WA d7 rfl rfl (by decide) rfl (fun G8 d8 => ?_)
  refine WA d8 rfl rfl (by decide) rfl (fun G9 d9 => ?_)
  refine WA d9 rfl rfl (by decide) rfl (fun G10 d10 => ?_)
  refine WA d10 rfl rfl (by decide) rfl (fun G11 d11 => ?_)
  refine WA d11 rfl rfl (by decide) rfl (fun G12 d12 => ?_)
  refine WA d12 rfl rfl (by decide) rfl (fun G13 d13 => ?_)
  refine WI d13 (fun G14 d14 => ?_)
  refine WA d14 rfl rfl (by decide) rfl (fun G15 d15 => ?_)
  refine WA d15 rfl rfl (by decide) rfl (fun G16 d16 => ?_)
  refine WA d16 rfl rfl (by decide) rfl (fun G17 d17 => ?_)
  refine WA d17 rfl rfl (by decide) rfl (fun G18 d18 => ?_)
  refine WA d18 rfl rfl (by decide) rfl (fun G19 d19 => ?_)
  refine WA d19 rfl rfl (by decide) rfl (fun G20 d20 => ?_)
  refine WA d20 rfl rfl (by decide) rfl (fun G21 d21 => ?_)
  refine WA d21 rfl rfl (by decide) rfl (fun G22 d22 => ?_)
  refine WA d22 rfl rfl (by decide) rfl (fun G23 d23 => ?_)
  refine WA d23 rfl rfl (by decide) rfl (fun G24 d24 => ?_)
  refine WA d24 rfl rfl (by decide) rfl (fun G25 d25 => ?_)
  refine WA d25 rfl rfl (by decide) rfl (fun G26 d26 => ?_)
  refine WA d26 rfl rfl (by decide) rfl (fun G27 d27 => ?_)
  refine WA d27 rfl rfl (by decide) rfl (fun G28 d28 => ?_)
  refine WA d28 rfl rfl (by decide) rfl (fun G29 d29 => ?_)
  refine WA d29 rfl rfl (by decide) rfl (fun G30 d30 => ?_)
  refine WA d30 rfl rfl (by decide) rfl (fun G31 d31 => ?_)
  refine WA d31 rfl rfl (by decide) rfl (fun G32 d32 => ?_)
  have kk : OKM G32 (gd (hc G32 (hn H) = 10) <| bd (sI G32 (hn H) 1 (nI n)) fun Gy => d_X9_init_302 FU (hn H) 0 Gy) (RP n H) := by
    refine WI d32 (fun G dd => ?_)
    obtain ⟨⟨a1, a2, a3, a4⟩, b, ⟨c1, c2, c3, c4⟩, d⟩ := dd
    rw [nC_hn] at a1 b c4 d
    rw [nC_hs] at a2 a3
    have c3 : hi G (hn H) = rfF n := c3
    have c4 : hr G (hn H) = rfG (hn H + 1) := c4
    have hM : MS (hn H) G := by
      refine ⟨c1, fun k hk => ?_, fun k k' hk hk' e => ?_⟩
      · obtain ⟨i, hi, e1, e2⟩ := rfG_at (hn H + 1) k hk
        rw [c4, e1, e2]
        exact ⟨(d i hi).1, (d i hi).2.1⟩
      · obtain ⟨i, hi, e1, e2⟩ := rfG_at (hn H + 1) k hk
        obtain ⟨j, hj, f1, f2⟩ := rfG_at (hn H + 1) k' hk'
        rw [c4, e1, f1] at e
        have : i = j := by omega
        rw [e2, f2, this]
    have rb : ∀ k, arrB k = true → hn H < hr G (hn H) k ∧ hr G (hn H) k < hn H + 32 := fun k hk => by
      obtain ⟨i, hi, e1, e2⟩ := rfG_at (hn H + 1) k hk
      rw [c4, e1]
      omega
    have r0 : ∀ k, arrB k = true → hi G (hr G (hn H) k) = fun _ => 0 := fun k hk => by
      obtain ⟨i, hi, e1, e2⟩ := rfG_at (hn H + 1) k hk
      rw [c4, e1]
      exact (d i hi).2.2.1
    have k1 := R_302 (z := (hi G (hn H), fun k => hi G (hr G (hn H) k))) hM FU 0 (by omega) (by decide)
    rw [flP_0, flP_0, flP_0, nI_0, em_self] at k1
    refine OKM_w k1 (fun G' e => ?_)
    obtain rfl : G' = em (hn H) G (zE (hi G (hn H), fun k => hi G (hr G (hn H) k))) := e
    refine ⟨⟨by rw [em_hn]; omega, by rw [em_hs]; omega, by rw [em_hs]; omega⟩, fun a la => ?_, fun k hk => by rw [em_hr]; exact Nat.le_of_lt (rb k hk).1, zE (hi G (hn H), fun k => hi G (hr G (hn H) k)), zE (hi G (hn H), fun k => hi G (hr G (hn H) k)), ⟨hM.em, ?_, ?_, fun k hk => ?_⟩, ⟨fun k h8 h1 => ?_, ?_, fun k i ka hk => ?_, fun k i hk hi => zE_m hk hi⟩, fun h => ?_⟩
    · have sa := (Sm_nC (t := 10) (l := 0) (z := 40) la).trans (b a (by omega) (by omega))
      refine sa.trans ⟨rfl, rfl, ?_, rfl⟩
      show (if a = hn H then _ else match rowOf (hn H) G a with | some k => (zE _).2 k | none => hi G a) = hi G a
      rw [if_neg (by omega)]
      cases h : rowOf (hn H) G a with
      | none => rfl
      | some j =>
        have h1 := List.find?_some h
        simp only [Bool.and_eq_true, beq_iff_eq] at h1
        have := (rb j h1.1).1
        omega
    · unfold em2
      rw [mk_self]
      exact em_em hM
    · rw [em_hn]
      omega
    · rw [em_hr, em_hn]
      have := rb k hk
      omega
    · show hi G (hn H) k = 0
      rw [c3]
      unfold rfF
      rw [vu_n h1, vu_n (by omega)]
    · show hi G (hn H) 1 = nI n
      rw [c3]
      exact vu_s
    · rw [zE_n hk]
      show hi G (hr G (hn H) k) i = 0
      rw [r0 k ka]
    · exfalso
      have h : hi G (hn H) 21 = 0 := h
      rw [c3] at h
      have h : (1 : Int32) = 0 := h
      exact absurd h (by decide)
  obtain ⟨q1, q2, q3⟩ := cl10r ex
  by_cases h1 : 1 ≤ x1
  · rw [if_pos h1]
    by_cases h2 : x1 ≤ 10
    · rw [if_pos h2, q1 h1 h2]
      exact kk
    · rw [if_neg h2, q2 h1 h2]
      exact kk
  · rw [if_neg h1, q3 h1]
    exact kk
