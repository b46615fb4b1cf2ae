/-! the claim out of a pure statement -/
def Gz (n : Nat) : Hp := (fun _ => 0, fun _ => 0, fun _ _ => 0, fun _ _ => 0, n, 0)
def PureLaw : Prop := ∀ (L : Nat) (xs : Nat → Int32) (b0 : Nat), L ≤ 3073 → 0 < b0 → ∃ GG : Hp, d_L_law L xs (Gz b0) = some (1, GG) ∧ hn GG - b0 ≤ 600000 ∧ hs GG - 0 ≤ 7302250
theorem nest_in : ∀ q ∈ nestL, Cond.methodLinkNest q.1 q.2.1 q.2.2 "GroveWorks" ∈ lw_tbl := by decide +kernel
theorem over_in : ∀ ci ∈ arrCi, Cond.arrayOver (.object (Cn ci)) ∈ lw_tbl := by decide +kernel
set_option maxHeartbeats 4000000 in
set_option maxRecDepth 100000 in
theorem whole_start_of (hPL : PureLaw) {p : Program} {e : Env} {s : State} {m : MethodId} {below : List Frame} {meth : Method} {c : Code} (l : Launch) {b L : Nat} {xs : Nat → Int32} (hL : L ≤ 3073) (C0 : lw_At p s m meth c b L xs) : W p l e room_1 s m #[Value.ref b] below meth c s.heap [] 0 0 (lw_Z below #[Value.ref b] s) (entryFrame m ([Value.ref b] : List Value).toArray 4) := by
  obtain ⟨hx, hb, hr, hml, hown, hts, hX, hbl, hlocks, hgv⟩ := id C0
  have htb : ∀ w ∈ tb, w.before #[Value.ref b] s = true := fun w hw => hts w (tb_in hw)
  have hcl : ∀ ci, ci < 10 → ∃ (cC : ClassId) (iS : Nat → Nat), u_Kn s (Cn ci) (Tn ci) (Nn ci) cC iS := fun ci h => u_known htb (cl_in ci h) (htb _ (cl_inst ci h))
  obtain ⟨D, hD⟩ : ∃ D : va_G, ∀ ci, ci < 10 → u_Kn s (Cn ci) (Tn ci) (Nn ci) (D.1 ci) (D.2 ci) := by
    refine ⟨(fun ci => if h : ci < 10 then Classical.choose (hcl ci h) else 0, fun ci => if h : ci < 10 then Classical.choose (Classical.choose_spec (hcl ci h)) else fun _ => 0), fun ci h => ?_⟩
    have h1 := Classical.choose_spec (Classical.choose_spec (hcl ci h))
    simpa only [dif_pos h] using h1
  have hover : ∀ ci ∈ arrCi, va_AO (Cn ci) s := fun ci h => va_AO.of (hts _ (over_in ci h))
  have harrO : ∀ ci ∈ arrCi, ∃ cA : ClassId, ArrOfT s cA (.object (Cn ci)) ∧ va_RA s cA (.object (Cn ci)) := by
    intro ci h
    obtain ⟨comp, cA, k, h1, h2, h3, h4, h5⟩ := Cond.arrayOver_spec (hover ci h)
    exact ⟨cA, fun n z => ⟨fun q hq => (by cases hq), k, h3, comp, h4⟩, k, comp, h3, h4, h1, h5⟩
  obtain ⟨cI, kI, compI, i1, i2, i3⟩ := Cond.arrayClass_spec (htb _ arr_int)
  obtain ⟨cZ, kZ, compZ, z1, z2, z3⟩ := Cond.arrayClass_spec (htb _ arr_bool)
  obtain ⟨E, hEi, hEz, hEo⟩ : ∃ E : Nat → ClassId, E 11 = cI ∧ E 12 = cZ ∧ ∀ ci (h : ci ∈ arrCi), E (13 + ci) = Classical.choose (harrO ci h) := by
    refine ⟨fun t => if t = 11 then cI else if t = 12 then cZ else if h : t - 13 ∈ arrCi then Classical.choose (harrO (t - 13) h) else 0, by simp, by simp, fun ci h => ?_⟩
    have e1 : 13 + ci - 13 = ci := by omega
    have n1 : 13 + ci ≠ 11 := by omega
    have n2 : 13 + ci ≠ 12 := by omega
    simp only [n1, n2, if_false]
    split
    · rename_i h2
      congr 1
      simp [e1]
    · rename_i h2
      exact absurd (by rw [e1]; exact h) h2
  have hK : Kx D E s := by
    refine ⟨⟨fun c q hq => ?_, fun k q h => by simp at h⟩, ?_, ?_, fun ci h => ⟨?_, hover ci h⟩, fun q hq => va_Nw.of rfl (hts _ (nest_in q hq))⟩
    · have hc10 : c < 10 := (List.getElem?_eq_some_iff.mp hq).1
      have e1 := (cl_at c hc10).symm.trans hq
      cases e1
      exact hD c hc10
    · refine ⟨?_, ?_⟩
      · rw [hEi]; exact fun n z => ⟨fun q hq => (by cases hq), kI, i2, compI, i3⟩
      · rw [hEi]; exact i1
    · refine ⟨?_, ?_⟩
      · rw [hEz]; exact fun n z => ⟨fun q hq => (by cases hq), kZ, z2, compZ, z3⟩
      · rw [hEz]; exact z1
    · have h1 := Classical.choose_spec (harrO ci h)
      unfold AK
      rw [hEo ci h]
      exact h1
  obtain ⟨GG, hd, f1, f2⟩ := hPL L xs s.heap.size hL (Nat.lt_of_le_of_lt (Nat.zero_le _) hbl)
  have C : Cx p s m #[Value.ref b] meth c RL cL_law 4 (some .boolean) s.heap.size D E := ⟨hx, hb, hr, hml, hown, htb, hlocks, hK, Nat.lt_of_le_of_lt (Nat.zero_le _) hbl⟩
  have hL0 := lv_entry ([.ref b]) (n := 4) (Nat.le_of_ble_eq_true rfl)
  rw [lg_entry_eq]
  generalize (lg_sl ([.ref b]) ++ List.replicate (4 - (lg_sl ([.ref b])).length) Slot.unset).toArray = ls at hL0 ⊢
  have hL0 : lv_has ls 4 [(0, .ref b)] := hL0
  have k := k_L_law (p := p) (l := l) (e := e) (s := s) (m := m) (below := below) (meth := meth) (c := c) (n0 := s.heap.size) (s0 := 0) (H := s.heap) (locs := []) C hX hbl rfl ⟨f1, f2⟩ hL0 ⟨rfl, fun a h => absurd rfl h⟩ ⟨fun _ _ => rfl, fun _ h => by cases h⟩ (Nat.le_refl _) ⟨Nat.le_refl _, Nat.le_refl _⟩ hd
  rw [show hn (Gz s.heap.size) - s.heap.size = 0 from Nat.sub_self _, show hs (Gz s.heap.size) - 0 = 0 from rfl] at k
  exact k
