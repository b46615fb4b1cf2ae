/-! BOTH IN ONE HEAP: the class's cells by L, the reference's at x beside them -/
def BE (x : Nat) (L : Ly) (G : Hp) : Prop := L.2 x = none ∧ ∀ k, arrB k = true → L.2 (hr G x k) = none
def LJ (b x n : Nat) (z : Sg) (G : Hp) : Prop := ∃ L Q V st, IC L G n Q V ∧ RC n st V Q z ∧ BE x L G ∧ L.1 0 0 0 = b
def LI (b x n : Nat) (G : Hp) : Prop := 0 < hn G ∧ ∃ z w, LJ b x n z G ∧ GI z ∧ Cns z w ∧ RS x G z w
section
variable {b x n : Nat} {G G1 : Hp} {z z' w w' : Sg} {L L' : Ly} {Q Q' : Qt} {V V' : Vt} {st st' : Int32}
theorem em_of {y : Sg} (h1 : hi G x = y.1) (h2 : ∀ k, arrB k = true → hi G (hr G x k) = y.2 k) : em x G y = G := by
  have hf : hi (em x G y) = hi G := by
    funext a
    show (if a = x then y.1 else match rowOf x G a with | some k => y.2 k | none => hi G a) = hi G a
    by_cases ha : a = x
    · rw [if_pos ha, ha, h1]
    · rw [if_neg ha]
      cases h : rowOf x G a with
      | none => rfl
      | some j =>
        have h3 := List.find?_some h
        simp only [Bool.and_eq_true, beq_iff_eq] at h3
        show y.2 j = hi G a
        rw [← h2 j h3.1, h3.2]
  show ((hc G, hl G, hi (em x G y), hr G, hn G, hs G) : Hp) = G
  rw [hf]
  rfl
/-- the class has moved: the reference's cells are as they were -/
theorem RS_KE (hR : RS x G z w) (hB : BE x L G) (hK : KE L G L' G1) (hle : hn G ≤ hn G1) : RS x G1 z w ∧ BE x L' G1 := by
  obtain ⟨hM, he, lx, lr⟩ := hR
  obtain ⟨b1, b2⟩ := hB
  obtain ⟨k1, k2, k3, k4, k5⟩ := hK x lx b1
  have row : ∀ k, arrB k = true → L'.2 (hr G x k) = none ∧ hc G1 (hr G x k) = hc G (hr G x k) ∧ hl G1 (hr G x k) = hl G (hr G x k) ∧ hi G1 (hr G x k) = hi G (hr G x k) ∧ hr G1 (hr G x k) = hr G (hr G x k) := fun k hk => hK _ (lr k hk) (b2 k hk)
  have e1 : hi G x = (mk z w).1 := by
    have := em_s (x := x) (G := G) (z := mk z w)
    rw [show em x G (mk z w) = G from he] at this
    exact this
  have e2 : ∀ k, arrB k = true → hi G (hr G x k) = (mk z w).2 k := fun k hk => by
    have := em_r (z := mk z w) hM hk
    rw [show em x G (mk z w) = G from he] at this
    exact this
  refine ⟨⟨⟨k2.trans hM.1, fun k hk => ?_, fun k k' hk hk' e => ?_⟩, em_of (k4.trans e1) (fun k hk => ?_), by omega, fun k hk => ?_⟩, k1, fun k hk => ?_⟩
  · rw [k5]
    obtain ⟨r1, r2, r3, r4, r5⟩ := row k hk
    exact ⟨r2.trans (hM.2.1 k hk).1, r3.trans (hM.2.1 k hk).2⟩
  · rw [k5] at e
    exact hM.2.2 k k' hk hk' e
  · rw [k5]
    exact (row k hk).2.2.2.1.trans (e2 k hk)
  · rw [k5]
    have := lr k hk
    omega
  · rw [k5]
    exact (row k hk).1
/-- the reference has moved: the class's cells are as they were -/
theorem em_IC {y : Sg} (hI : IC L G n Q V) (hB : BE x L G) : IC L (em x G y) n Q V := by
  refine ⟨hI.1, fun a q e => ?_, hI.2.2⟩
  obtain ⟨h1, h2, h3⟩ := hI.2.1 a q e
  refine ⟨h1, ?_, h3⟩
  show (if a = x then y.1 else match rowOf x G a with | some k => y.2 k | none => hi G a) = _
  have ne : a ≠ x := fun w => by
    rw [w, hB.1] at e
    cases e
  rw [if_neg ne]
  cases h : rowOf x G a with
  | none => exact h2
  | some j =>
    have h3 := List.find?_some h
    simp only [Bool.and_eq_true, beq_iff_eq] at h3
    have := hB.2 j h3.1
    rw [h3.2, e] at this
    cases this
theorem RS_em (hR : RS x G z w) : RS x (em2 x G z' w') z' w' := ⟨hR.1.em, em_em hR.1, hR.2.2.1, hR.2.2.2⟩
theorem LI_c (h : LI b x n G) : hc G b = 9 := by
  obtain ⟨h0, z, w, ⟨L, Q, V, st, hI, hC, hB, eb⟩, hG, hw, hR⟩ := h
  rw [← eb]
  exact yK0 hI.1
theorem LI_x (h : LI b x n G) : hc G x = 10 := by
  obtain ⟨h0, z, w, hJ, hG, hw, hR⟩ := h
  exact hR.1.1
/-- one call of each, the class's f and the reference's g -/
def C3 (b x n : Nat) (G : Hp) (f : Option (Int32 × Hp)) (g : Hp → Option (Int32 × Hp)) : Prop := ∃ v G1 G2, f = some (v, G1) ∧ (hn G ≤ hn G1 ∧ hs G ≤ hs G1) ∧ (hn G1 ≤ hn G + 87 ∧ hs G1 ≤ hs G + 3100) ∧ hc G1 x = 10 ∧ g G1 = some (v, G2) ∧ (hn G2 = hn G1 ∧ hs G2 = hs G1) ∧ LI b x n G2
def C2 (b x n : Nat) (G : Hp) (f : Option (Int32 × Hp)) (g : Hp → Option (Int32 × Hp)) : Prop := ∃ v G1 G2, f = some (v, G1) ∧ (hn G1 = hn G ∧ hs G1 = hs G) ∧ hc G1 x = 10 ∧ g G1 = some (v, G2) ∧ (hn G2 = hn G1 ∧ hs G2 = hs G1) ∧ LI b x n G2
theorem LI_ref (h0 : 0 < hn G1) (hI : IC L G1 n Q V) (hC : RC n st V Q z') (hB : BE x L G1) (eb : L.1 0 0 0 = b) (hG : GI z') (hw : Cns z' w') (hR : RS x G1 z w) : LI b x n (em2 x G1 z' w') := ⟨h0, z', w', ⟨L, Q, V, st, em_IC hI hB, hC, hB, eb⟩, hG, hw, RS_em hR⟩
theorem K_2 {f : Option (Int32 × Hp)} {g : Hp → Option (Int32 × Hp)} {v : Int32} (h0 : 0 < hn G) (hI : IC L G n Q V) (hB : BE x L G) (eb : L.1 0 0 0 = b) (hR : RS x G z w) (hf : f = some (v, eK L G V' (RF n L Q'))) (hL' : LY L G n Q') (hC' : RC n st' V' Q' z') (hG' : GI z') (hg : ∀ G1, MS x G1 → ∃ w', Cns z' w' ∧ g (em2 x G1 z w) = some (v, em2 x G1 z' w')) : C2 b x n G f g := by
  have hI1 : IC L (eK L G V' (RF n L Q')) n Q' V' := IC_s hI hL'
  obtain ⟨hR1, hB1⟩ := RS_KE hR hB (KE_eK (V := V') (R := RF n L Q')) (Nat.le_refl _)
  obtain ⟨w', hw', e⟩ := hg _ hR1.1
  rw [hR1.2.1] at e
  exact ⟨v, _, _, hf, ⟨rfl, rfl⟩, hR1.1.1, e, ⟨rfl, rfl⟩, LI_ref h0 hI1 hC' hB1 eb hG' hw' hR1⟩
theorem K_c {f : Option (Int32 × Hp)} {g : Hp → Option (Int32 × Hp)} {v : Int32} {bb : Bool} {z1 w1 : Sg} (h0 : 0 < hn G) (hI : IC L G n Q V) (hB : BE x L G) (eb : L.1 0 0 0 = b) (hR : RS x G z w) (hG : GI z) (hw : Cns z w) (hf : f = some (v, eK L G V' (RF n L Q'))) (hL' : LY L G n Q') (hC' : RC n st' V' Q' (cond bb z1 z)) (hG1 : bb = true → GI z1) (hw1 : Cns z1 w1) (hg : ∀ G1, MS x G1 → g (em2 x G1 z w) = some (v, cond bb (em2 x G1 z1 w1) (em2 x G1 z w))) : C2 b x n G f g := by
  cases bb with
  | false => exact K_2 h0 hI hB eb hR hf hL' hC' hG (fun G1 hM => ⟨w, hw, hg G1 hM⟩)
  | true => exact K_2 h0 hI hB eb hR hf hL' hC' (hG1 rfl) (fun G1 hM => ⟨w1, hw1, hg G1 hM⟩)
theorem K_3 {f : Option (Int32 × Hp)} {g : Hp → Option (Int32 × Hp)} {v : Int32} {bb : Bool} {z1 w1 : Sg} (h0 : 0 < hn G) (hB : BE x L G) (eb : L.1 0 0 0 = b) (hR : RS x G z w) (hG : GI z) (hw : Cns z w) (hf : OKP G f (PC L G n (cond bb z1 z) v)) (hG1 : bb = true → GI z1) (hw1 : Cns z1 w1) (hg : ∀ G1, MS x G1 → g (em2 x G1 z w) = some (v, cond bb (em2 x G1 z1 w1) (em2 x G1 z w))) : C3 b x n G f g := by
  obtain ⟨v', G1, e, hle, rfl, L', Q', V', st', hI', hC', hK, hb, eb'⟩ := hf
  obtain ⟨hR1, hB1⟩ := RS_KE hR hB hK hle.1
  have e2 := hg _ hR1.1
  rw [hR1.2.1] at e2
  cases bb with
  | false =>
    refine ⟨v', G1, G1, e, hle, hb, hR1.1.1, ?_, ⟨rfl, rfl⟩, by omega, z, w, ⟨L', Q', V', st', hI', hC', hB1, eb'.trans eb⟩, hG, hw, hR1⟩
    rw [e2, cond_false]
  | true => exact ⟨v', G1, em2 x G1 z1 w1, e, hle, hb, hR1.1.1, e2, ⟨rfl, rfl⟩, LI_ref (by omega) hI' hC' hB1 (eb'.trans eb) (hG1 rfl) hw1 hR1⟩
variable {a c d e f : Int32}
theorem L_plug (h : LI b x n G) : C3 b x n G (d_X8_plug b a c d e G) (fun G1 => d_X9_plug x a c d e G1) := by
  obtain ⟨h0, z, w, ⟨L, Q, V, st, hI, hC, hB, eb⟩, hG, hw, hR⟩ := h
  have k := C_plug (a := a) (b := c) (c := d) (d := e) hI hC h0
  rw [eb] at k
  exact K_3 h0 hB eb hR hG hw k (GI_pl hG) Cns_old (fun G1 hM => M_plug hM hG.1.1)
theorem L_host (h : LI b x n G) : C3 b x n G (d_X8_host b a c G) (fun G1 => d_X9_host x a c G1) := by
  obtain ⟨h0, z, w, ⟨L, Q, V, st, hI, hC, hB, eb⟩, hG, hw, hR⟩ := h
  have k := C_host (a := a) (b := c) hI hC h0
  rw [eb] at k
  exact K_3 h0 hB eb hR hG hw k (GI_ho hG) (t0_Cns (t0_uA (by decide)) hw) (fun G1 hM => M_hostC hM)
theorem L_meet (h : LI b x n G) : C2 b x n G (d_X8_meet b a c G) (fun G1 => d_X9_meet x a c G1) := by
  obtain ⟨h0, z, w, ⟨L, Q, V, st, hI, hC, hB, eb⟩, hG, hw, hR⟩ := h
  obtain ⟨V', k, hC'⟩ := C_meet (a := a) (b := c) hI.1 hC
  rw [IC_e hI, eb] at k
  exact K_c h0 hI hB eb hR hG hw k hI.1 hC' (GI_me hG) (t0_Cns (t0_uA (by decide)) hw) (fun G1 hM => M_meet hM hG.1.1)
theorem L_cut (h : LI b x n G) : C2 b x n G (d_X8_cut b a G) (fun G1 => d_X9_cut x a G1) := by
  obtain ⟨h0, z, w, ⟨L, Q, V, st, hI, hC, hB, eb⟩, hG, hw, hR⟩ := h
  obtain ⟨V', st', k, hC'⟩ := C_cut (a := a) hI.1 hC hG
  rw [IC_e hI, eb] at k
  exact K_c h0 hI hB eb hR hG hw k hI.1 hC' (GI_cu hG) Cns_old (fun G1 hM => M_cut hM hG)
theorem L_mend (h : LI b x n G) : C2 b x n G (d_X8_mend b a G) (fun G1 => d_X9_mend x a G1) := by
  obtain ⟨h0, z, w, ⟨L, Q, V, st, hI, hC, hB, eb⟩, hG, hw, hR⟩ := h
  obtain ⟨V', st', k, hC'⟩ := C_mend (a := a) hI.1 hC
  rw [IC_e hI, eb] at k
  exact K_c h0 hI hB eb hR hG hw k hI.1 hC' (fun _ => GI_md hG) Cns_old (fun G1 hM => M_mend hM)
theorem L_join (h : LI b x n G) : C2 b x n G (d_X8_join b a c G) (fun G1 => d_X9_join x a c G1) := by
  obtain ⟨h0, z, w, ⟨L, Q, V, st, hI, hC, hB, eb⟩, hG, hw, hR⟩ := h
  obtain ⟨V', k, hC'⟩ := C_join (a := a) (b := c) hI.1 hC hG.1
  rw [IC_e hI, eb] at k
  exact K_c h0 hI hB eb hR hG hw k hI.1 hC' (GI_ji hG) (te_Cns (te_tr te_pu (te_uA (by decide))) hw) (fun G1 hM => M_join hM hG.1)
theorem L_leave (h : LI b x n G) : C2 b x n G (d_X8_leave b a c G) (fun G1 => d_X9_leave x a c G1) := by
  obtain ⟨h0, z, w, ⟨L, Q, V, st, hI, hC, hB, eb⟩, hG, hw, hR⟩ := h
  obtain ⟨V', k, hC'⟩ := C_leave (a := a) (b := c) hI.1 hC hG.1
  rw [IC_e hI, eb] at k
  exact K_c h0 hI hB eb hR hG hw k hI.1 hC' (GI_le hG) (te_Cns (te_tr te_pu (te_uA (by decide))) hw) (fun G1 hM => M_leave hM hG.1)
theorem L_send (h : LI b x n G) : C2 b x n G (d_X8_send b a c G) (fun G1 => d_X9_send x a c G1) := by
  obtain ⟨h0, z, w, ⟨L, Q, V, st, hI, hC, hB, eb⟩, hG, hw, hR⟩ := h
  obtain ⟨V', k, hC'⟩ := C_send (a := a) (b := c) hI.1 hC hG.1 hG.2.2.2
  rw [IC_e hI, eb] at k
  exact K_c h0 hI hB eb hR hG hw k hI.1 hC' (GI_se hG) (te_Cns (te_tr (te_uS (by decide)) te_pu) hw) (fun G1 hM => M_send hM hG.1)
theorem T0_lo {v i : Int32} : T0 (loZ z v i) z := ⟨rfl, rfl, rfl, rfl⟩
theorem L_lose (h : LI b x n G) : C2 b x n G (d_X8_lose b a c G) (fun G1 => d_X9_lose x a c G1) := by
  obtain ⟨h0, z, w, ⟨L, Q, V, st, hI, hC, hB, eb⟩, hG, hw, hR⟩ := h
  obtain ⟨V', Q', k, hC', hL'⟩ := C_lose (a := a) (b := c) hI.1 hC hG.1.2.1
  rw [IC_e hI, eb] at k
  exact K_c h0 hI hB eb hR hG hw k hL' hC' (GI_lo hG) (t0_Cns T0_lo hw) (fun G1 hM => M_lose hM hG.1)
theorem L_tick (h : LI b x n G) : C2 b x n G (d_X8_tick b a G) (fun G1 => d_X9_tick x a G1) := by
  obtain ⟨h0, z, w, ⟨L, Q, V, st, hI, hC, hB, eb⟩, hG, hw, hR⟩ := h
  obtain ⟨V', Q', st', k, hC', hL'⟩ := C_tick (N := a) hI.1 hC hG.iv hG.2.2.1
  rw [IC_e hI, eb] at k
  exact K_2 h0 hI hB eb hR k hL' hC' (GI_tk hG).1 (fun G1 hM => M_tick hM hG.iv (fun z hz => M_reckon hM hz) hw)
theorem L_way (h : LI b x n G) : C2 b x n G (d_X8_way b a c d e G) (fun G1 => d_X9_way x a c d e G1) := by
  obtain ⟨h0, z, w, ⟨L, Q, V, st, hI, hC, hB, eb⟩, hG, hw, hR⟩ := h
  obtain ⟨V', st', k, hC'⟩ := C_way (a := a) (o := c) (b := d) (w := e) hI.1 hC hG.iv hG.2.2.1
  rw [IC_e hI, eb] at k
  exact K_2 h0 hI hB eb hR k hI.1 hC' hG (fun G1 hM => M_way hM hG.1.1 (M_reckon hM hG.1.1) hw)
theorem L_branch (h : LI b x n G) : C2 b x n G (d_X8_branch b a c d e f G) (fun G1 => d_X9_branch x a c d e f G1) := by
  obtain ⟨h0, z, w, ⟨L, Q, V, st, hI, hC, hB, eb⟩, hG, hw, hR⟩ := h
  obtain ⟨V', st', k, hC'⟩ := C_branch (a := a) (b := c) (c := d) (d := e) (w := f) hI.1 hC hG.iv hG.2.2.1
  rw [IC_e hI, eb] at k
  exact K_2 h0 hI hB eb hR k hI.1 hC' hG (fun G1 hM => M_branch hM hG.1.1 (M_reckon hM hG.1.1) hw)
theorem L_tree (h : LI b x n G) : C2 b x n G (d_X8_tree b a c d e G) (fun G1 => d_X9_tree x a c d e G1) := by
  obtain ⟨h0, z, w, ⟨L, Q, V, st, hI, hC, hB, eb⟩, hG, hw, hR⟩ := h
  obtain ⟨V', st', k, hC'⟩ := C_tree (a := a) (b := c) (c := d) (w := e) hI.1 hC hG.iv hG.2.2.1
  rw [IC_e hI, eb] at k
  exact K_2 h0 hI hB eb hR k hI.1 hC' hG (fun G1 hM => M_tree hM hG.1.1 (M_reckon hM hG.1.1) hw)
/-- answers alone -/
def C1 (f g : Option Int32) : Prop := ∃ v, f = some v ∧ g = some v
theorem L_got (h : LI b x n G) : C1 (d_X8_got b a c G) (d_X9_got x a c G) := by
  obtain ⟨h0, z, w, ⟨L, Q, V, st, hI, hC, hB, eb⟩, hG, hw, hR⟩ := h
  obtain ⟨m, hm, hme⟩ := hG.2.2.2
  have k := C_got (a := a) (b := c) hI.1 hC hG.2.2.2 hG.1.1
  rw [IC_e hI, eb] at k
  have k2 := M_got (w := w) (h := a) (n := c) hR.1 hm hme
  rw [hR.2.1] at k2
  exact ⟨_, k, k2⟩
theorem L_frame (h : LI b x n G) : C1 (d_X8_frame b a c d G) (d_X9_frame x a c d G) := by
  obtain ⟨h0, z, w, ⟨L, Q, V, st, hI, hC, hB, eb⟩, hG, hw, hR⟩ := h
  have k := C_frame (a := a) (b := c) (w := d) hI.1 hC hG.1.2.1
  rw [IC_e hI, eb] at k
  have k2 := M_frame (w := w) (v := a) (i := c) (k := d) hR.1 hG.1
  rw [hR.2.1] at k2
  exact ⟨_, k, k2⟩
theorem L_port (h : LI b x n G) : C1 (d_X8_port b a c d G) (d_X9_port x a c d G) := by
  obtain ⟨h0, z, w, ⟨L, Q, V, st, hI, hC, hB, eb⟩, hG, hw, hR⟩ := h
  have k := C_port (a := a) (b := c) (w := d) hI.1 hC hG.1.1
  rw [IC_e hI, eb] at k
  have k2 := M_port (w := w) (r := a) (p := c) (what := d) hR.1 hG.1.1
  rw [hR.2.1] at k2
  exact ⟨_, k, k2⟩
theorem L_members (h : LI b x n G) : C1 (d_X8_members b a c d G) (d_X9_members x a c d G) := by
  obtain ⟨h0, z, w, ⟨L, Q, V, st, hI, hC, hB, eb⟩, hG, hw, hR⟩ := h
  have k := C_members (a := a) (b := c) (c := d) hI.1 hC hG.1.1
  rw [IC_e hI, eb] at k
  have k2 := M_members (w := w) (r := a) (p := c) (g := d) hR.1 hG.1.1
  rw [hR.2.1] at k2
  exact ⟨_, k, k2⟩
theorem L_count (h : LI b x n G) : C1 (d_X8_count b a G) (d_X9_count x a G) := by
  obtain ⟨h0, z, w, ⟨L, Q, V, st, hI, hC, hB, eb⟩, hG, hw, hR⟩ := h
  have k := C_count (w := a) hI.1 hC
  rw [IC_e hI, eb] at k
  have k2 := M_count (w := w) (v := a) hR.1 (z := z)
  rw [hR.2.1] at k2
  exact ⟨_, k, k2⟩
end
