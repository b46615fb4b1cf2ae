/-! THE CLASS: a wire's frames are made -/
def FI (r3 r4 : Nat) (H0 : Hp) (i : Nat) (H : Hp) : Prop := hn H = hn H0 + 2 * i ∧ hs H = hs H0 + 16 * i ∧ (∀ a, a < hn H0 → hc H a = hc H0 a ∧ hl H a = hl H0 a ∧ hi H a = hi H0 a ∧ (a ≠ r3 → a ≠ r4 → hr H a = hr H0 a)) ∧ (∀ a, hn H0 ≤ a → a < hn H0 + 2 * i → hc H a = 1 ∧ hi H a = (fun _ => 0) ∧ hr H a = fun _ => 0) ∧ hr H r3 = (fun k => if k < i then hn H0 + 2 * k else 0) ∧ hr H r4 = fun k => if k < i then hn H0 + 2 * k + 1 else 0
theorem FI_s {r3 r4 i : Nat} {H0 H : Hp} (h : FI r3 r4 H0 i H) (l3 : r3 < hn H0) (l4 : r4 < hn H0) (h34 : r3 ≠ r4) : FI r3 r4 H0 (i + 1) (sR (nC (sR (nC H 1 0 8) r3 i (hn H)) 1 0 8) r4 i (hn H + 1)) := by
  obtain ⟨e1, e2, e3, e4, e5, e6⟩ := h
  refine ⟨?_, ?_, fun a ha => ?_, fun a ha hb => ?_, ?_, ?_⟩
  · rw [sR_hn, nC_hn, sR_hn, nC_hn, e1]
    omega
  · rw [sR_hs, nC_hs, sR_hs, nC_hs, e2]
    omega
  · obtain ⟨d1, d2, d3, d4⟩ := e3 a ha
    have n1 : a ≠ hn H := by omega
    have n2 : a ≠ hn H + 1 := by omega
    rw [sR_hc, nC_hc, sR_hn, nC_hn, if_neg n2, sR_hc, nC_hc, if_neg n1, sR_hl, nC_hl, sR_hn, nC_hn, if_neg n2, sR_hl, nC_hl, if_neg n1, sR_hi, nC_hi, sR_hn, nC_hn, if_neg n2, sR_hi, nC_hi, if_neg n1]
    refine ⟨d1, d2, d3, fun q3 q4 => ?_⟩
    rw [sR_hr, if_neg q4, nC_hr, sR_hn, nC_hn, if_neg n2, sR_hr, if_neg q3, nC_hr, if_neg n1]
    exact d4 q3 q4
  · have q3 : a ≠ r3 := by omega
    have q4 : a ≠ r4 := by omega
    rw [sR_hc, nC_hc, sR_hn, nC_hn, sR_hc, nC_hc, sR_hi, nC_hi, sR_hn, nC_hn, sR_hi, nC_hi, sR_hr, if_neg q4, nC_hr, sR_hn, nC_hn, sR_hr, if_neg q3, nC_hr]
    by_cases n2 : a = hn H + 1
    · rw [if_pos n2, if_pos n2, if_pos n2]
      exact ⟨rfl, rfl, rfl⟩
    · rw [if_neg n2, if_neg n2, if_neg n2]
      by_cases n1 : a = hn H
      · rw [if_pos n1, if_pos n1, if_pos n1]
        exact ⟨rfl, rfl, rfl⟩
      · rw [if_neg n1, if_neg n1, if_neg n1]
        exact e4 a ha (by omega)
  · rw [sR_hr, if_neg h34, nC_hr, sR_hn, nC_hn, if_neg (by omega), sR_hr, if_pos rfl, nC_hr, if_neg (by omega), e5]
    funext k
    rw [vu_a]
    by_cases c : k = i
    · rw [if_pos c, if_pos (by omega), e1, c]
    · rw [if_neg c]
      by_cases c2 : k < i
      · rw [if_pos c2, if_pos (by omega)]
      · rw [if_neg c2, if_neg (by omega)]
  · rw [sR_hr, if_pos rfl, nC_hr, sR_hn, nC_hn, if_neg (by omega), sR_hr, if_neg (fun q => h34 q.symm), nC_hr, if_neg (by omega), e6]
    funext k
    rw [vu_a]
    by_cases c : k = i
    · rw [if_pos c, if_pos (by omega), e1, c]
    · rw [if_neg c]
      by_cases c2 : k < i
      · rw [if_pos c2, if_pos (by omega)]
      · rw [if_neg c2, if_neg (by omega)]
theorem P_mf {x r3 r4 : Nat} {H0 : Hp} (l3 : r3 < hn H0) (l4 : r4 < hn H0) (lx : x < hn H0) (h34 : r3 ≠ r4) (hx : hc H0 x = 8) (h3 : hc H0 r3 = 13 ∧ hl H0 r3 = 40) (h4 : hc H0 r4 = 13 ∧ hl H0 r4 = 40) (e3 : hr H0 x 3 = r3) (e4 : hr H0 x 4 = r4) : ∀ (N i : Nat) (H : Hp), i ≤ 40 → 40 - i < N → FI r3 r4 H0 i H → OKM H (d_X7_makeFrames_2 N x (nI i) H) (FI r3 r4 H0 40) := by
  intro N
  have x3 : x ≠ r3 := fun q => by rw [q, h3.1] at hx; cases hx
  have x4 : x ≠ r4 := fun q => by rw [q, h4.1] at hx; cases hx
  induction N with
  | zero => intro i _ _ h; omega
  | succ N ih =>
    intro i H hi hlt hF
    rw [d_X7_makeFrames_2.eq_2, show (40 : Int32) = nI 40 from rfl]
    refine OKM_m ?_
    by_cases he : i = 40
    · subst he
      rw [if_pos (nI_le (Nat.le_refl _) (by decide))]
      exact OKM_s hF
    · have hi4 : i < 40 := by omega
      rw [if_neg (nI_ge hi4 (by decide))]
      have hF1 := FI_s hF l3 l4 h34
      obtain ⟨f1, f2, f3, f4, f5, f6⟩ := id hF
      obtain ⟨c1, c2, c3, c4⟩ := f3 x lx
      obtain ⟨b1, b2, b3, b4⟩ := f3 r3 l3
      obtain ⟨g1, g2, g3, g4⟩ := f3 r4 l4
      have ex3 : hr H x 3 = r3 := by rw [c4 x3 x4, e3]
      have ex4 : hr H x 4 = r4 := by rw [c4 x3 x4, e4]
      rw [nI_clamp (by omega), ex3, f5]
      refine OKM_g (c1.trans hx) (OKM_g ⟨b1.trans h3.1, (ix_nI (by omega)).mpr (by rw [b2, h3.2]; exact hi4)⟩ ?_)
      rw [if_pos (show (if i < i then hn H0 + 2 * i else 0) = 0 from if_neg (Nat.lt_irrefl _))]
      refine OKM_d (OKM_d (OKM_t (G1 := nC H 1 0 8) (OKM_m ?_) (Nat.le_succ _) (Nat.le_add_right _ _)))
      have hcN : hc (nC H 1 0 8) (hn H) = 1 := by rw [nC_hc, if_pos rfl]
      refine OKM_g hcN ?_
      unfold d_X0_init
      rw [gd_t hcN, bo_e]
      have r3n : r3 ≠ hn H := by omega
      refine OKM_g ⟨⟨by rw [nC_hc, if_neg r3n, b1, h3.1], (ix_nI (by omega)).mpr (by rw [nC_hl, if_neg r3n, b2, h3.2]; exact hi4)⟩, Or.inr hcN⟩ (OKM_d ?_)
      have xn : x ≠ hn H := by omega
      refine OKM_g (by rw [sR_hc, nC_hc, if_neg xn, c1, hx]) (OKM_d (OKM_d ?_))
      rw [show hn (sR (nC H 1 0 8) r3 i (hn H)) = hn H + 1 from rfl]
      have ex4' : hr (sR (nC H 1 0 8) r3 i (hn H)) x 4 = r4 := by rw [sR_hr, if_neg x3, nC_hr, if_neg xn, ex4]
      rw [ex4']
      refine OKM_t (G1 := nC (sR (nC H 1 0 8) r3 i (hn H)) 1 0 8) (OKM_m ?_) (Nat.le_succ _) (Nat.le_add_right _ _)
      have hcN2 : hc (nC (sR (nC H 1 0 8) r3 i (hn H)) 1 0 8) (hn H + 1) = 1 := by rw [nC_hc, sR_hn, nC_hn, if_pos rfl]
      refine OKM_g hcN2 ?_
      rw [gd_t hcN2, bo_e]
      have r4n : r4 ≠ hn H := by omega
      have r4n2 : r4 ≠ hn H + 1 := by omega
      refine OKM_g ⟨⟨by rw [nC_hc, sR_hn, nC_hn, if_neg r4n2, sR_hc, nC_hc, if_neg r4n, g1, h4.1], (ix_nI (by omega)).mpr (by rw [nC_hl, sR_hn, nC_hn, if_neg r4n2, sR_hl, nC_hl, if_neg r4n, g2, h4.2]; exact hi4)⟩, Or.inr hcN2⟩ (OKM_d ?_)
      rw [nI_1]
      exact OKM_t (ih (i + 1) _ (by omega) (by omega) hF1) (Nat.le_refl _) (Nat.le_refl _)
