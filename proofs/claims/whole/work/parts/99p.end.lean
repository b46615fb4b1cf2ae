/-! THE CLAIM -/
theorem law_cell {L : Nat} {xs : Nat → Int32} : ∃ v, d_L_cell L xs 0 = some v := by
  unfold d_L_cell
  by_cases h : nI L ≤ 0
  · rw [if_pos h]
    exact ⟨0, rfl⟩
  · rw [if_neg h]
    have h0 : 0 < (nI L).toInt := by
      rw [Int32.le_iff_toInt_le] at h
      exact Int.not_le.mp h
    have hlt : 0 < L := by
      rcases Nat.eq_zero_or_pos L with e | e
      · subst e
        exact absurd h0 (by decide)
      · exact e
    refine ⟨xs (0 : Int32).toNatClampNeg, gd_t ?_⟩
    exact (ix_nI (n := 0) (by decide)).mpr hlt
theorem pure_law : PureLaw := by
  intro L xs b0 hL hb0
  obtain ⟨v, hv⟩ := law_cell (L := L) (xs := xs)
  obtain ⟨n, n1, n10, en⟩ := cl10 v
  have key : OKP (Gz b0) (d_L_law L xs (Gz b0)) (fun u GG => u = 1 ∧ hn GG ≤ b0 + 600000 ∧ hs GG ≤ 7302250) := by
    unfold d_L_law
    refine OKP_m (OKP_d (OKP_d (OKP_t (G1 := nC (Gz b0) 9 0 4) (OKP_m ?_) (Nat.le_succ _) (Nat.le_add_right _ _))))
    have c9 := CE_nC (G := Gz b0) (t := 9) (l := 0) (z := 4)
    rw [hv, bo_e]
    refine OKP_g c9.1 (OKP_o (P_class n1 n10 en) (fun G7 k7 l1 l2 => OKP_g ⟨l1, l2⟩ (OKP_m ?_)))
    refine OKP_d (OKP_d (OKP_t (G1 := nC G7 10 0 40) (OKP_m ?_) (Nat.le_succ _) (Nat.le_add_right _ _)))
    have c10 := CE_nC (G := G7) (t := 10) (l := 0) (z := 40)
    rw [bo_e]
    refine OKP_g c10.1 (OKP_o (P_ref n1 n10 en) (fun G15 k15 l3 l4 => OKP_g ⟨l3, l4⟩ (OKP_m ?_)))
    obtain ⟨⟨o1, o2, o3⟩, os, ob, z, w, hR, hz, hw⟩ := k15
    obtain ⟨⟨p1, p2, p3⟩, ps, pb⟩ := id k7
    have e0 : hn (Gz b0) = b0 := rfl
    have e1 : hs (Gz b0) = 0 := rfl
    rw [e0] at p1
    rw [e1] at p2 p3
    have hI7 : IC (Ly0 (hn (Gz b0)) n) G7 n (Qt0 z) (Vt0 n) := IC_0 (Qt0_l hz) n10 hb0 k7
    have hI15 : IC (Ly0 (hn (Gz b0)) n) G15 n (Qt0 z) (Vt0 n) := by
      refine ⟨⟨hI7.1.1, fun c i j h => ?_⟩, fun a q e => ?_, hI7.2.2⟩
      · obtain ⟨g1, g2, g3, g4⟩ := hI7.1.2 c i j h
        have s := os _ (hI7.2.1 _ _ g1).1
        exact ⟨g1, g2, s.1.trans g3, fun w => s.2.1.trans (g4 w)⟩
      · obtain ⟨g1, g2, g3⟩ := hI7.2.1 a q e
        have s := os a g1
        exact ⟨by omega, s.2.2.1.trans g2, s.2.2.2.trans g3⟩
    have out : ∀ a, hn G7 ≤ a → (Ly0 (hn (Gz b0)) n).2 a = none := fun a ha => by
      cases e : (Ly0 (hn (Gz b0)) n).2 a with
      | none => rfl
      | some q =>
        have := (hI7.2.1 a q e).1
        omega
    have hLI : LI b0 (hn G7) n G15 := ⟨by omega, z, w, ⟨_, _, _, _, hI15, RC_0 n1 n10 hz, ⟨out _ (Nat.le_refl _), fun k hk => out _ (ob k hk)⟩, rfl⟩, GI_0 n1 n10 hz, hw, hR⟩
    obtain ⟨u, GG, e, m, q1, q2, q3⟩ := P_law28 (xs := xs) hL FU 1 G15 (by omega) (by show L + 6 - 1 < 6000; omega) hLI
    exact ⟨u, GG, e, m, q1, by omega, by omega⟩
  obtain ⟨u, GG, e, m, rfl, h1, h2⟩ := key
  exact ⟨GG, e, by omega, by omega⟩
