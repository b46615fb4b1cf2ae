/-! GroveWorks.lose(II)Z -/
theorem dX8_lose_0 : decode cX8_lose 0 = .ok (.iload_n 1, 1) := by decide +kernel
theorem dX8_lose_1 : decode cX8_lose 1 = .ok (.bipush 16, 2) := by decide +kernel
theorem dX8_lose_3 : decode cX8_lose 3 = .ok (.invokestatic 61, 3) := by decide +kernel
theorem dX8_lose_6 : decode cX8_lose 6 = .ok (.ifCond .eq 23, 3) := by decide +kernel
theorem dX8_lose_9 : decode cX8_lose 9 = .ok (.aload_n 0, 1) := by decide +kernel
theorem dX8_lose_10 : decode cX8_lose 10 = .ok (.getfield 33, 3) := by decide +kernel
theorem dX8_lose_13 : decode cX8_lose 13 = .ok (.getfield 67, 3) := by decide +kernel
theorem dX8_lose_16 : decode cX8_lose 16 = .ok (.iload_n 1, 1) := by decide +kernel
theorem dX8_lose_17 : decode cX8_lose 17 = .ok (.aaload, 1) := by decide +kernel
theorem dX8_lose_18 : decode cX8_lose 18 = .ok (.iload_n 2, 1) := by decide +kernel
theorem dX8_lose_19 : decode cX8_lose 19 = .ok (.invokevirtual 137, 3) := by decide +kernel
theorem dX8_lose_22 : decode cX8_lose 22 = .ok (.ifCond .eq 7, 3) := by decide +kernel
theorem dX8_lose_25 : decode cX8_lose 25 = .ok (.iconst 1, 1) := by decide +kernel
theorem dX8_lose_26 : decode cX8_lose 26 = .ok (.goto 4, 3) := by decide +kernel
theorem dX8_lose_29 : decode cX8_lose 29 = .ok (.iconst 0, 1) := by decide +kernel
theorem dX8_lose_30 : decode cX8_lose 30 = .ok (.ireturn, 1) := by decide +kernel
def d_X8_lose (x0 : Nat) (x1 : Int32) (x2 : Int32) (G : Hp) : Option (Int32 × Hp) :=
  bo (d_X8_isIn x1 16 G) fun v2 =>
  if v2 = 0 then
    some (0, G)
  else
    gd (hc G x0 = 9) <|
    gd (hc G (hr G x0 0) = 3) <|
    gd (hc G (hr G (hr G x0 0) 0) = 20 ∧ ix x1 (hl G (hr G (hr G x0 0) 0))) <|
    gd (hc G (hr G (hr G (hr G x0 0) 0) x1.toNatClampNeg) = 8) <|
    b2 (d_X7_drop (hr G (hr G (hr G x0 0) 0) x1.toNatClampNeg) x2 G) fun v9 G10 =>
    if v9 = 0 then
      some (0, G10)
    else
      some (1, G10)
section
variable {p : Program} {l : Launch} {e : Env} {s : State} {m : MethodId} {args : Array Value} {below : List Frame} {meth : Method} {c : Code} {b0 : Nat} {D : va_G} {E : Nat → ClassId}
set_option maxHeartbeats 4000000 in
set_option maxRecDepth 100000 in
theorem k_X8_lose (C : Cx p s m args meth c RX8 cX8_lose 3 (some .boolean) b0 D E) {rr : Int32} {GG : Hp} {x0 : Nat} {x1 : Int32} {x2 : Int32} {G : Hp} {ls : Array Slot} {H : Heap} {locs : List Loc} : lx ls 3 [(0, .inr x0), (1, .inl x1), (2, .inl x2)] → Rp b0 D E G H → SS b0 s H locs → d_X8_lose x0 x1 x2 G = some (rr, GG) → W p l e (rmd 2 (0) (0)) s m args below meth c H locs (0) (0) (MQ below (CQ b0 D E (some (.int rr)) GG) args s (0) (0) (fun q => b0 ≤ q)) (F0 m 0 ls []) := by
  intro hL hR hS hd
  unfold d_X8_lose at hd
  have hx := C.1
  have hb := C.2.1
  refine x_iload_n C dX8_lose_0 hL 1 rfl ?_
  refine lv_bipush (v := 16) hx hb dX8_lose_1 (by decide) ?_
  obtain ⟨v2, h1, hd⟩ := bo_ex hd
  refine r_callS (As := [.int x1, .int 16]) C (ct_X8_isIn h1) mf_X8_isIn ml_X8_61 ms_X8_isIn rfl ⟨Nat.le_of_ble_eq_true rfl, Nat.le_of_ble_eq_true rfl⟩ dX8_lose_3 (lx_size hL) rfl hR hS ⟨Nat.le_refl _, Nat.le_refl _⟩ (cat_le [] (Nat.le_of_ble_eq_true rfl)) (fun H locs hR hS => ?_)
  refine W_st (st2 := [.int v2]) rfl ?_
  refine lv_if_eq (tgt := 29) hx hb dX8_lose_6 (by decide) (fun c3 => ?_) (fun c3 => ?_)
  · rw [if_pos c3] at hd
    refine lv_iconst (v := 0) hx hb dX8_lose_29 (by decide) ?_
    cases hd
    exact r_zret C (by decide) dX8_lose_30 hR hS
  · rw [if_neg c3] at hd
    refine x_aload_n C dX8_lose_9 hL 0 rfl ?_
    obtain ⟨g4, hd⟩ := gd_ex hd
    refine r_getr (ci := 8) (k := 0) C fl_X8_33 rfl dX8_lose_10 hR g4 ?_
    obtain ⟨g5, hd⟩ := gd_ex hd
    refine r_getr (ci := 2) (k := 0) C fl_X8_67 rfl dX8_lose_13 hR g5 ?_
    refine x_iload_n C dX8_lose_16 hL 1 rfl ?_
    obtain ⟨g6, hd⟩ := gd_ex hd
    refine r_aald (ci := 7) C (by decide) dX8_lose_17 hR g6 ?_
    refine x_iload_n C dX8_lose_18 hL 2 rfl ?_
    obtain ⟨g7, hd⟩ := gd_ex hd
    obtain ⟨v9, G10, h8, hd⟩ := b2_ex hd
    refine r_callV (a := (hr G (hr G (hr G x0 0) 0) x1.toNatClampNeg)) (ci := 7) (As := [.int x2]) C (ct_X7_drop h8) mf_X7_drop ml_X8_137 mv_X7_drop rfl ⟨Nat.le_of_ble_eq_true rfl, Nat.le_of_ble_eq_true rfl⟩ dX8_lose_19 (lx_size hL) rfl hR hS g7 ⟨Nat.le_refl _, Nat.le_refl _⟩ (cat_le [] (Nat.le_of_ble_eq_true rfl)) (fun H locs hR hS => ?_)
    refine W_st (st2 := [.int v9]) rfl ?_
    refine lv_if_eq (tgt := 29) hx hb dX8_lose_22 (by decide) (fun c11 => ?_) (fun c11 => ?_)
    · rw [if_pos c11] at hd
      refine lv_iconst (v := 0) hx hb dX8_lose_29 (by decide) ?_
      cases hd
      exact r_zret C (by decide) dX8_lose_30 hR hS
    · rw [if_neg c11] at hd
      refine lv_iconst (v := 1) hx hb dX8_lose_25 (by decide) ?_
      refine lv_goto (tgt := 30) hx hb dX8_lose_26 (by decide) ?_
      cases hd
      exact r_zret C (by decide) dX8_lose_30 hR hS
end
set_option maxHeartbeats 4000000 in
set_option maxRecDepth 100000 in
theorem ct_X8_lose {l : Launch} {b0 : Nat} {D : va_G} {E : Nat → ClassId} {G : Hp} {a0 : Nat} {a1 : Int32} {a2 : Int32} {rr : Int32} {GG : Hp} (hd : d_X8_lose a0 a1 a2 G = some (rr, GG)) : CT l yX8_lose cX8_lose 3 (some .boolean) 2 0 0 b0 D E [rv a0, .int a1, .int a2] G (some (.int rr)) GG := by
  refine CT_of (by decide +kernel) ?_
  intro p e s m below meth c C hnm hR
  refine r_entry [.inr a0, .inl a1, .inl a2] (n := 3) (Nat.le_of_ble_eq_true rfl) (lv := [(0, .inr a0), (1, .inl a1), (2, .inl a2)]) rfl (fun ls hL => ?_)
  exact k_X8_lose C (lx_sub hL [0, 1, 2] rfl) hR ⟨fun _ _ => rfl, fun _ h => by cases h⟩ hd

/-! GroveWorks.beginTick()V -/
theorem dX8_beginTick_0 : decode cX8_beginTick 0 = .ok (.aload_n 0, 1) := by decide +kernel
theorem dX8_beginTick_1 : decode cX8_beginTick 1 = .ok (.getfield 33, 3) := by decide +kernel
theorem dX8_beginTick_4 : decode cX8_beginTick 4 = .ok (.dup, 1) := by decide +kernel
theorem dX8_beginTick_5 : decode cX8_beginTick 5 = .ok (.getfield 64, 3) := by decide +kernel
theorem dX8_beginTick_8 : decode cX8_beginTick 8 = .ok (.iconst 1, 1) := by decide +kernel
theorem dX8_beginTick_9 : decode cX8_beginTick 9 = .ok (.iadd, 1) := by decide +kernel
theorem dX8_beginTick_10 : decode cX8_beginTick 10 = .ok (.putfield 64, 3) := by decide +kernel
theorem dX8_beginTick_13 : decode cX8_beginTick 13 = .ok (.iconst 0, 1) := by decide +kernel
theorem dX8_beginTick_14 : decode cX8_beginTick 14 = .ok (.istore_n 1, 1) := by decide +kernel
theorem dX8_beginTick_15 : decode cX8_beginTick 15 = .ok (.iload_n 1, 1) := by decide +kernel
theorem dX8_beginTick_16 : decode cX8_beginTick 16 = .ok (.bipush 16, 2) := by decide +kernel
theorem dX8_beginTick_18 : decode cX8_beginTick 18 = .ok (.if_icmp .ge 21, 3) := by decide +kernel
theorem dX8_beginTick_21 : decode cX8_beginTick 21 = .ok (.aload_n 0, 1) := by decide +kernel
theorem dX8_beginTick_22 : decode cX8_beginTick 22 = .ok (.getfield 33, 3) := by decide +kernel
theorem dX8_beginTick_25 : decode cX8_beginTick 25 = .ok (.getfield 67, 3) := by decide +kernel
theorem dX8_beginTick_28 : decode cX8_beginTick 28 = .ok (.iload_n 1, 1) := by decide +kernel
theorem dX8_beginTick_29 : decode cX8_beginTick 29 = .ok (.aaload, 1) := by decide +kernel
theorem dX8_beginTick_30 : decode cX8_beginTick 30 = .ok (.invokevirtual 157, 3) := by decide +kernel
theorem dX8_beginTick_33 : decode cX8_beginTick 33 = .ok (.iinc 1 1, 3) := by decide +kernel
theorem dX8_beginTick_36 : decode cX8_beginTick 36 = .ok (.goto (-21), 3) := by decide +kernel
theorem dX8_beginTick_39 : decode cX8_beginTick 39 = .ok (.iconst 0, 1) := by decide +kernel
theorem dX8_beginTick_40 : decode cX8_beginTick 40 = .ok (.istore_n 1, 1) := by decide +kernel
theorem dX8_beginTick_41 : decode cX8_beginTick 41 = .ok (.iload_n 1, 1) := by decide +kernel
theorem dX8_beginTick_42 : decode cX8_beginTick 42 = .ok (.aload_n 0, 1) := by decide +kernel
theorem dX8_beginTick_43 : decode cX8_beginTick 43 = .ok (.getfield 39, 3) := by decide +kernel
theorem dX8_beginTick_46 : decode cX8_beginTick 46 = .ok (.arraylength, 1) := by decide +kernel
theorem dX8_beginTick_47 : decode cX8_beginTick 47 = .ok (.if_icmp .ge 18, 3) := by decide +kernel
theorem dX8_beginTick_50 : decode cX8_beginTick 50 = .ok (.aload_n 0, 1) := by decide +kernel
theorem dX8_beginTick_51 : decode cX8_beginTick 51 = .ok (.getfield 39, 3) := by decide +kernel
theorem dX8_beginTick_54 : decode cX8_beginTick 54 = .ok (.iload_n 1, 1) := by decide +kernel
theorem dX8_beginTick_55 : decode cX8_beginTick 55 = .ok (.aaload, 1) := by decide +kernel
theorem dX8_beginTick_56 : decode cX8_beginTick 56 = .ok (.invokevirtual 160, 3) := by decide +kernel
theorem dX8_beginTick_59 : decode cX8_beginTick 59 = .ok (.iinc 1 1, 3) := by decide +kernel
theorem dX8_beginTick_62 : decode cX8_beginTick 62 = .ok (.goto (-21), 3) := by decide +kernel
theorem dX8_beginTick_65 : decode cX8_beginTick 65 = .ok (.return_, 1) := by decide +kernel
def d_X8_beginTick_41 : Nat → Nat → Int32 → Hp → Option (Hp)
  | 0, _, _, _ => none
  | n_ + 1, x0, x1, G =>
    gd (hc G x0 = 9) <|
    gd (hc G (hr G x0 1) = 17) <|
    if (nI (hl G (hr G x0 1))) ≤ x1 then
      some G
    else
      gd (hc G (hr G x0 1) = 17 ∧ ix x1 (hl G (hr G x0 1))) <|
      gd (hc G (hr G (hr G x0 1) x1.toNatClampNeg) = 5) <|
      bo (d_X4_dropNeighbours (hr G (hr G x0 1) x1.toNatClampNeg) G) fun G7 =>
      d_X8_beginTick_41 n_ x0 (x1 + 1) G7
def d_X8_beginTick_15 : Nat → Nat → Int32 → Hp → Option (Hp)
  | 0, _, _, _ => none
  | n_ + 1, x0, x1, G =>
    if 16 ≤ x1 then
      d_X8_beginTick_41 FU x0 0 G
    else
      gd (hc G x0 = 9) <|
      gd (hc G (hr G x0 0) = 3) <|
      gd (hc G (hr G (hr G x0 0) 0) = 20 ∧ ix x1 (hl G (hr G (hr G x0 0) 0))) <|
      gd (hc G (hr G (hr G (hr G x0 0) 0) x1.toNatClampNeg) = 8) <|
      bo (d_X7_turnOver (hr G (hr G (hr G x0 0) 0) x1.toNatClampNeg) G) fun G7 =>
      d_X8_beginTick_15 n_ x0 (x1 + 1) G7
def d_X8_beginTick (x0 : Nat) (G : Hp) : Option (Hp) :=
  gd (hc G x0 = 9) <|
  gd (hc G (hr G x0 0) = 3) <|
  bd (sI G (hr G x0 0) 4 ((hi G (hr G x0 0) 4) + 1)) fun G3 =>
  d_X8_beginTick_15 FU x0 0 G3
section
variable {p : Program} {l : Launch} {e : Env} {s : State} {m : MethodId} {args : Array Value} {below : List Frame} {meth : Method} {c : Code} {b0 : Nat} {D : va_G} {E : Nat → ClassId}
set_option maxHeartbeats 4000000 in
set_option maxRecDepth 100000 in
theorem k_X8_beginTick_41 (C : Cx p s m args meth c RX8 cX8_beginTick 2 none b0 D E) {GG : Hp} : ∀ (n_ : Nat) {x0 : Nat} {x1 : Int32} {G : Hp} {ls : Array Slot} {H : Heap} {locs : List Loc}, lx ls 2 [(0, .inr x0), (1, .inl x1)] → Rp b0 D E G H → SS b0 s H locs → d_X8_beginTick_41 n_ x0 x1 G = some GG → W p l e (rmd 2 (0) (0)) s m args below meth c H locs (0) (0) (MQ below (CQ b0 D E none GG) args s (0) (0) (fun q => b0 ≤ q)) (F0 m 41 ls []) := by
  intro n_
  induction n_ with
  | zero =>
    intro x0 x1 G ls H locs hL hR hS hd
    cases (show (none : Option _) = some _ from hd)
  | succ n_ ih =>
    intro x0 x1 G ls H locs hL hR hS hd
    rw [d_X8_beginTick_41.eq_2] at hd
    have hx := C.1
    have hb := C.2.1
    refine x_iload_n C dX8_beginTick_41 hL 1 rfl ?_
    refine x_aload_n C dX8_beginTick_42 hL 0 rfl ?_
    obtain ⟨g1, hd⟩ := gd_ex hd
    refine r_getr (ci := 8) (k := 1) C fl_X8_39 rfl dX8_beginTick_43 hR g1 ?_
    obtain ⟨g2, hd⟩ := gd_ex hd
    refine r_alen C dX8_beginTick_46 hR (Or.inr ⟨4, by decide, g2⟩) ?_
    refine lv_icmp_ge (tgt := 65) hx hb dX8_beginTick_47 (by decide) (fun c3 => ?_) (fun c3 => ?_)
    · rw [if_pos c3] at hd
      cases hd
      exact r_vret C dX8_beginTick_65 hR hS
    · rw [if_neg c3] at hd
      refine x_aload_n C dX8_beginTick_50 hL 0 rfl ?_
      refine r_getr (ci := 8) (k := 1) C fl_X8_39 rfl dX8_beginTick_51 hR g1 ?_
      refine x_iload_n C dX8_beginTick_54 hL 1 rfl ?_
      obtain ⟨g4, hd⟩ := gd_ex hd
      refine r_aald (ci := 4) C (by decide) dX8_beginTick_55 hR g4 ?_
      obtain ⟨g5, hd⟩ := gd_ex hd
      obtain ⟨G7, h6, hd⟩ := bo_ex hd
      refine r_callV (a := (hr G (hr G x0 1) x1.toNatClampNeg)) (ci := 4) (As := []) C (ct_X4_dropNeighbours h6) mf_X4_dropNeighbours ml_X8_160 mv_X4_dropNeighbours rfl ⟨Nat.le_of_ble_eq_true rfl, Nat.le_of_ble_eq_true rfl⟩ dX8_beginTick_56 (lx_size hL) rfl hR hS g5 ⟨Nat.le_refl _, Nat.le_refl _⟩ (cat_le [] (Nat.le_of_ble_eq_true rfl)) (fun H locs hR hS => ?_)
      refine W_st (st2 := []) rfl ?_
      refine x_iinc (lv' := [(1, .inl (x1 + 1)), (0, .inr x0)]) C dX8_beginTick_59 hL 1 rfl rfl (by decide) rfl (fun ls hL => ?_)
      refine lv_goto (tgt := 41) hx hb dX8_beginTick_62 (by decide) ?_
      exact ih (lx_sub hL [1, 0] rfl) hR hS hd
set_option maxHeartbeats 4000000 in
set_option maxRecDepth 100000 in
theorem k_X8_beginTick_15 (C : Cx p s m args meth c RX8 cX8_beginTick 2 none b0 D E) {GG : Hp} : ∀ (n_ : Nat) {x0 : Nat} {x1 : Int32} {G : Hp} {ls : Array Slot} {H : Heap} {locs : List Loc}, lx ls 2 [(0, .inr x0), (1, .inl x1)] → Rp b0 D E G H → SS b0 s H locs → d_X8_beginTick_15 n_ x0 x1 G = some GG → W p l e (rmd 2 (0) (0)) s m args below meth c H locs (0) (0) (MQ below (CQ b0 D E none GG) args s (0) (0) (fun q => b0 ≤ q)) (F0 m 15 ls []) := by
  intro n_
  induction n_ with
  | zero =>
    intro x0 x1 G ls H locs hL hR hS hd
    cases (show (none : Option _) = some _ from hd)
  | succ n_ ih =>
    intro x0 x1 G ls H locs hL hR hS hd
    rw [d_X8_beginTick_15.eq_2] at hd
    have hx := C.1
    have hb := C.2.1
    refine x_iload_n C dX8_beginTick_15 hL 1 rfl ?_
    refine lv_bipush (v := 16) hx hb dX8_beginTick_16 (by decide) ?_
    refine lv_icmp_ge (tgt := 39) hx hb dX8_beginTick_18 (by decide) (fun c1 => ?_) (fun c1 => ?_)
    · rw [if_pos c1] at hd
      refine lv_iconst (v := 0) hx hb dX8_beginTick_39 (by decide) ?_
      refine x_istore_n (lv' := [(1, .inl 0), (0, .inr x0)]) C dX8_beginTick_40 hL (by decide) rfl (fun ls hL => ?_)
      exact k_X8_beginTick_41 C FU (lx_sub hL [1, 0] rfl) hR hS hd
    · rw [if_neg c1] at hd
      refine x_aload_n C dX8_beginTick_21 hL 0 rfl ?_
      obtain ⟨g2, hd⟩ := gd_ex hd
      refine r_getr (ci := 8) (k := 0) C fl_X8_33 rfl dX8_beginTick_22 hR g2 ?_
      obtain ⟨g3, hd⟩ := gd_ex hd
      refine r_getr (ci := 2) (k := 0) C fl_X8_67 rfl dX8_beginTick_25 hR g3 ?_
      refine x_iload_n C dX8_beginTick_28 hL 1 rfl ?_
      obtain ⟨g4, hd⟩ := gd_ex hd
      refine r_aald (ci := 7) C (by decide) dX8_beginTick_29 hR g4 ?_
      obtain ⟨g5, hd⟩ := gd_ex hd
      obtain ⟨G7, h6, hd⟩ := bo_ex hd
      refine r_callV (a := (hr G (hr G (hr G x0 0) 0) x1.toNatClampNeg)) (ci := 7) (As := []) C (ct_X7_turnOver h6) mf_X7_turnOver ml_X8_157 mv_X7_turnOver rfl ⟨Nat.le_of_ble_eq_true rfl, Nat.le_of_ble_eq_true rfl⟩ dX8_beginTick_30 (lx_size hL) rfl hR hS g5 ⟨Nat.le_refl _, Nat.le_refl _⟩ (cat_le [] (Nat.le_of_ble_eq_true rfl)) (fun H locs hR hS => ?_)
      refine W_st (st2 := []) rfl ?_
      refine x_iinc (lv' := [(1, .inl (x1 + 1)), (0, .inr x0)]) C dX8_beginTick_33 hL 1 rfl rfl (by decide) rfl (fun ls hL => ?_)
      refine lv_goto (tgt := 15) hx hb dX8_beginTick_36 (by decide) ?_
      exact ih (lx_sub hL [1, 0] rfl) hR hS hd
set_option maxHeartbeats 4000000 in
set_option maxRecDepth 100000 in
theorem k_X8_beginTick (C : Cx p s m args meth c RX8 cX8_beginTick 2 none b0 D E) {GG : Hp} {x0 : Nat} {G : Hp} {ls : Array Slot} {H : Heap} {locs : List Loc} : lx ls 2 [(0, .inr x0)] → Rp b0 D E G H → SS b0 s H locs → d_X8_beginTick x0 G = some GG → W p l e (rmd 2 (0) (0)) s m args below meth c H locs (0) (0) (MQ below (CQ b0 D E none GG) args s (0) (0) (fun q => b0 ≤ q)) (F0 m 0 ls []) := by
  intro hL hR hS hd
  unfold d_X8_beginTick at hd
  have hx := C.1
  have hb := C.2.1
  refine x_aload_n C dX8_beginTick_0 hL 0 rfl ?_
  obtain ⟨g1, hd⟩ := gd_ex hd
  refine r_getr (ci := 8) (k := 0) C fl_X8_33 rfl dX8_beginTick_1 hR g1 ?_
  refine lv_dup hx hb dX8_beginTick_4 (rv_cat _) ?_
  obtain ⟨g2, hd⟩ := gd_ex hd
  refine r_geti (ci := 2) (k := 4) C fl_X8_64 rfl dX8_beginTick_5 hR g2 ?_
  refine lv_iconst (v := 1) hx hb dX8_beginTick_8 (by decide) ?_
  refine lv_iadd hx hb dX8_beginTick_9 ?_
  obtain ⟨G3, eG3, hd⟩ := bd_ex hd
  refine r_puti (ci := 2) (k := 4) C fl_X8_64 rfl (Or.inl rfl) dX8_beginTick_10 hR hS g2 (fun H locs hR hS => ?_)
  replace hR : Rp b0 D E G3 H := by rw [eG3]; exact hR
  refine lv_iconst (v := 0) hx hb dX8_beginTick_13 (by decide) ?_
  refine x_istore_n (lv' := [(1, .inl 0), (0, .inr x0)]) C dX8_beginTick_14 hL (by decide) rfl (fun ls hL => ?_)
  exact k_X8_beginTick_15 C FU (lx_sub hL [1, 0] rfl) hR hS hd
end
set_option maxHeartbeats 4000000 in
set_option maxRecDepth 100000 in
theorem ct_X8_beginTick {l : Launch} {b0 : Nat} {D : va_G} {E : Nat → ClassId} {G : Hp} {a0 : Nat} {GG : Hp} (hd : d_X8_beginTick a0 G = some GG) : CT l yX8_beginTick cX8_beginTick 2 none 2 0 0 b0 D E [rv a0] G none GG := by
  refine CT_of (by decide +kernel) ?_
  intro p e s m below meth c C hnm hR
  refine r_entry [.inr a0] (n := 2) (Nat.le_of_ble_eq_true rfl) (lv := [(0, .inr a0)]) rfl (fun ls hL => ?_)
  exact k_X8_beginTick C (lx_sub hL [0] rfl) hR ⟨fun _ _ => rfl, fun _ h => by cases h⟩ hd

/-! GroveWorks.deliver(LGroveWorks$Wire;)V -/
theorem dX8_deliver_0 : decode cX8_deliver 0 = .ok (.iconst 0, 1) := by decide +kernel
theorem dX8_deliver_1 : decode cX8_deliver 1 = .ok (.istore_n 2, 1) := by decide +kernel
theorem dX8_deliver_2 : decode cX8_deliver 2 = .ok (.iload_n 2, 1) := by decide +kernel
theorem dX8_deliver_3 : decode cX8_deliver 3 = .ok (.aload_n 1, 1) := by decide +kernel
theorem dX8_deliver_4 : decode cX8_deliver 4 = .ok (.getfield 163, 3) := by decide +kernel
theorem dX8_deliver_7 : decode cX8_deliver 7 = .ok (.if_icmp .ge 149, 3) := by decide +kernel
theorem dX8_deliver_10 : decode cX8_deliver 10 = .ok (.aload_n 1, 1) := by decide +kernel
theorem dX8_deliver_11 : decode cX8_deliver 11 = .ok (.getfield 166, 3) := by decide +kernel
theorem dX8_deliver_14 : decode cX8_deliver 14 = .ok (.iload_n 2, 1) := by decide +kernel
theorem dX8_deliver_15 : decode cX8_deliver 15 = .ok (.aaload, 1) := by decide +kernel
theorem dX8_deliver_16 : decode cX8_deliver 16 = .ok (.astore_n 3, 1) := by decide +kernel
theorem dX8_deliver_17 : decode cX8_deliver 17 = .ok (.aload_n 3, 1) := by decide +kernel
theorem dX8_deliver_18 : decode cX8_deliver 18 = .ok (.ifnonnull 6, 3) := by decide +kernel
theorem dX8_deliver_21 : decode cX8_deliver 21 = .ok (.goto 129, 3) := by decide +kernel
theorem dX8_deliver_24 : decode cX8_deliver 24 = .ok (.iconst 0, 1) := by decide +kernel
theorem dX8_deliver_25 : decode cX8_deliver 25 = .ok (.istore 4, 2) := by decide +kernel
theorem dX8_deliver_27 : decode cX8_deliver 27 = .ok (.iload 4, 2) := by decide +kernel
theorem dX8_deliver_29 : decode cX8_deliver 29 = .ok (.aload_n 0, 1) := by decide +kernel
theorem dX8_deliver_30 : decode cX8_deliver 30 = .ok (.getfield 39, 3) := by decide +kernel
theorem dX8_deliver_33 : decode cX8_deliver 33 = .ok (.arraylength, 1) := by decide +kernel
theorem dX8_deliver_34 : decode cX8_deliver 34 = .ok (.if_icmp .ge 47, 3) := by decide +kernel
theorem dX8_deliver_37 : decode cX8_deliver 37 = .ok (.aload_n 1, 1) := by decide +kernel
theorem dX8_deliver_38 : decode cX8_deliver 38 = .ok (.getfield 75, 3) := by decide +kernel
theorem dX8_deliver_41 : decode cX8_deliver 41 = .ok (.iload 4, 2) := by decide +kernel
theorem dX8_deliver_43 : decode cX8_deliver 43 = .ok (.iaload, 1) := by decide +kernel
theorem dX8_deliver_44 : decode cX8_deliver 44 = .ok (.iconst (-1), 1) := by decide +kernel
theorem dX8_deliver_45 : decode cX8_deliver 45 = .ok (.if_icmp .eq 30, 3) := by decide +kernel
theorem dX8_deliver_48 : decode cX8_deliver 48 = .ok (.aload_n 3, 1) := by decide +kernel
theorem dX8_deliver_49 : decode cX8_deliver 49 = .ok (.getfield 170, 3) := by decide +kernel
theorem dX8_deliver_52 : decode cX8_deliver 52 = .ok (.iload 4, 2) := by decide +kernel
theorem dX8_deliver_54 : decode cX8_deliver 54 = .ok (.if_icmp .eq 21, 3) := by decide +kernel
theorem dX8_deliver_57 : decode cX8_deliver 57 = .ok (.aload_n 0, 1) := by decide +kernel
theorem dX8_deliver_58 : decode cX8_deliver 58 = .ok (.getfield 39, 3) := by decide +kernel
theorem dX8_deliver_61 : decode cX8_deliver 61 = .ok (.iload 4, 2) := by decide +kernel
theorem dX8_deliver_63 : decode cX8_deliver 63 = .ok (.aaload, 1) := by decide +kernel
theorem dX8_deliver_64 : decode cX8_deliver 64 = .ok (.aload_n 3, 1) := by decide +kernel
theorem dX8_deliver_65 : decode cX8_deliver 65 = .ok (.aload_n 1, 1) := by decide +kernel
theorem dX8_deliver_66 : decode cX8_deliver 66 = .ok (.getfield 75, 3) := by decide +kernel
theorem dX8_deliver_69 : decode cX8_deliver 69 = .ok (.iload 4, 2) := by decide +kernel
theorem dX8_deliver_71 : decode cX8_deliver 71 = .ok (.iaload, 1) := by decide +kernel
theorem dX8_deliver_72 : decode cX8_deliver 72 = .ok (.invokevirtual 175, 3) := by decide +kernel
theorem dX8_deliver_75 : decode cX8_deliver 75 = .ok (.iinc 4 1, 3) := by decide +kernel
theorem dX8_deliver_78 : decode cX8_deliver 78 = .ok (.goto (-51), 3) := by decide +kernel
theorem dX8_deliver_81 : decode cX8_deliver 81 = .ok (.iconst 0, 1) := by decide +kernel
theorem dX8_deliver_82 : decode cX8_deliver 82 = .ok (.istore 4, 2) := by decide +kernel
theorem dX8_deliver_84 : decode cX8_deliver 84 = .ok (.iload 4, 2) := by decide +kernel
theorem dX8_deliver_86 : decode cX8_deliver 86 = .ok (.bipush 16, 2) := by decide +kernel
theorem dX8_deliver_88 : decode cX8_deliver 88 = .ok (.if_icmp .ge 62, 3) := by decide +kernel
theorem dX8_deliver_91 : decode cX8_deliver 91 = .ok (.aload_n 0, 1) := by decide +kernel
theorem dX8_deliver_92 : decode cX8_deliver 92 = .ok (.getfield 11, 3) := by decide +kernel
theorem dX8_deliver_95 : decode cX8_deliver 95 = .ok (.iload 4, 2) := by decide +kernel
theorem dX8_deliver_97 : decode cX8_deliver 97 = .ok (.aaload, 1) := by decide +kernel
theorem dX8_deliver_98 : decode cX8_deliver 98 = .ok (.ifnull 46, 3) := by decide +kernel
theorem dX8_deliver_101 : decode cX8_deliver 101 = .ok (.aload_n 0, 1) := by decide +kernel
theorem dX8_deliver_102 : decode cX8_deliver 102 = .ok (.getfield 11, 3) := by decide +kernel
theorem dX8_deliver_105 : decode cX8_deliver 105 = .ok (.iload 4, 2) := by decide +kernel
theorem dX8_deliver_107 : decode cX8_deliver 107 = .ok (.aaload, 1) := by decide +kernel
theorem dX8_deliver_108 : decode cX8_deliver 108 = .ok (.getfield 130, 3) := by decide +kernel
theorem dX8_deliver_111 : decode cX8_deliver 111 = .ok (.getfield 179, 3) := by decide +kernel
theorem dX8_deliver_114 : decode cX8_deliver 114 = .ok (.aload_n 1, 1) := by decide +kernel
theorem dX8_deliver_115 : decode cX8_deliver 115 = .ok (.getfield 179, 3) := by decide +kernel
theorem dX8_deliver_118 : decode cX8_deliver 118 = .ok (.if_icmp .ne 26, 3) := by decide +kernel
theorem dX8_deliver_121 : decode cX8_deliver 121 = .ok (.aload_n 3, 1) := by decide +kernel
theorem dX8_deliver_122 : decode cX8_deliver 122 = .ok (.getfield 170, 3) := by decide +kernel
theorem dX8_deliver_125 : decode cX8_deliver 125 = .ok (.bipush 100, 2) := by decide +kernel
theorem dX8_deliver_127 : decode cX8_deliver 127 = .ok (.iload 4, 2) := by decide +kernel
theorem dX8_deliver_129 : decode cX8_deliver 129 = .ok (.iadd, 1) := by decide +kernel
theorem dX8_deliver_130 : decode cX8_deliver 130 = .ok (.if_icmp .eq 14, 3) := by decide +kernel
theorem dX8_deliver_133 : decode cX8_deliver 133 = .ok (.aload_n 0, 1) := by decide +kernel
theorem dX8_deliver_134 : decode cX8_deliver 134 = .ok (.getfield 11, 3) := by decide +kernel
theorem dX8_deliver_137 : decode cX8_deliver 137 = .ok (.iload 4, 2) := by decide +kernel
theorem dX8_deliver_139 : decode cX8_deliver 139 = .ok (.aaload, 1) := by decide +kernel
theorem dX8_deliver_140 : decode cX8_deliver 140 = .ok (.aload_n 3, 1) := by decide +kernel
theorem dX8_deliver_141 : decode cX8_deliver 141 = .ok (.invokevirtual 182, 3) := by decide +kernel
theorem dX8_deliver_144 : decode cX8_deliver 144 = .ok (.iinc 4 1, 3) := by decide +kernel
theorem dX8_deliver_147 : decode cX8_deliver 147 = .ok (.goto (-63), 3) := by decide +kernel
theorem dX8_deliver_150 : decode cX8_deliver 150 = .ok (.iinc 2 1, 3) := by decide +kernel
theorem dX8_deliver_153 : decode cX8_deliver 153 = .ok (.goto (-151), 3) := by decide +kernel
theorem dX8_deliver_156 : decode cX8_deliver 156 = .ok (.return_, 1) := by decide +kernel
def d_X8_deliver_84 : Nat → Nat → Nat → Int32 → Nat → Int32 → Hp → (Nat → Nat → Int32 → Hp → Option (Hp)) → Option (Hp)
  | 0, _, _, _, _, _, _, _ => none
  | n_ + 1, x0, x1, x2, x3, x4, G, k2 =>
    if 16 ≤ x4 then
      k2 x0 x1 (x2 + 1) G
    else
      gd (hc G x0 = 9) <|
      gd (hc G (hr G x0 2) = 14 ∧ ix x4 (hl G (hr G x0 2))) <|
      if (hr G (hr G x0 2) x4.toNatClampNeg) = 0 then
        d_X8_deliver_84 n_ x0 x1 x2 x3 (x4 + 1) G k2
      else
        gd (hc G (hr G x0 2) = 14 ∧ ix x4 (hl G (hr G x0 2))) <|
        gd (hc G (hr G (hr G x0 2) x4.toNatClampNeg) = 2) <|
        gd (hc G (hr G (hr G (hr G x0 2) x4.toNatClampNeg) 1) = 8) <|
        gd (hc G x1 = 8) <|
        if (hi G (hr G (hr G (hr G x0 2) x4.toNatClampNeg) 1) 0) = (hi G x1 0) then
          gd (hc G x3 = 1) <|
          if (hi G x3 1) = (100 + x4) then
            d_X8_deliver_84 n_ x0 x1 x2 x3 (x4 + 1) G k2
          else
            gd (hc G (hr G x0 2) = 14 ∧ ix x4 (hl G (hr G x0 2))) <|
            bo (d_X1_hear (hr G (hr G x0 2) x4.toNatClampNeg) x3 G) fun G14 =>
            d_X8_deliver_84 n_ x0 x1 x2 x3 (x4 + 1) G14 k2
        else
          d_X8_deliver_84 n_ x0 x1 x2 x3 (x4 + 1) G k2
def d_X8_deliver_27 : Nat → Nat → Nat → Int32 → Nat → Int32 → Hp → (Nat → Nat → Int32 → Hp → Option (Hp)) → Option (Hp)
  | 0, _, _, _, _, _, _, _ => none
  | n_ + 1, x0, x1, x2, x3, x4, G, k2 =>
    gd (hc G x0 = 9) <|
    gd (hc G (hr G x0 1) = 17) <|
    if (nI (hl G (hr G x0 1))) ≤ x4 then
      d_X8_deliver_84 FU x0 x1 x2 x3 0 G k2
    else
      gd (hc G x1 = 8) <|
      gd (hc G (hr G x1 1) = 11 ∧ ix x4 (hl G (hr G x1 1))) <|
      if (hi G (hr G x1 1) x4.toNatClampNeg) = (-1) then
        d_X8_deliver_27 n_ x0 x1 x2 x3 (x4 + 1) G k2
      else
        gd (hc G x3 = 1) <|
        if (hi G x3 1) = x4 then
          d_X8_deliver_27 n_ x0 x1 x2 x3 (x4 + 1) G k2
        else
          gd (hc G (hr G x0 1) = 17 ∧ ix x4 (hl G (hr G x0 1))) <|
          gd (hc G (hr G x1 1) = 11 ∧ ix x4 (hl G (hr G x1 1))) <|
          gd (hc G (hr G (hr G x0 1) x4.toNatClampNeg) = 5) <|
          bo (d_X4_hear (hr G (hr G x0 1) x4.toNatClampNeg) x3 (hi G (hr G x1 1) x4.toNatClampNeg) G) fun G13 =>
          d_X8_deliver_27 n_ x0 x1 x2 x3 (x4 + 1) G13 k2
def d_X8_deliver_2 : Nat → Nat → Nat → Int32 → Hp → Option (Hp)
  | 0, _, _, _, _ => none
  | n_ + 1, x0, x1, x2, G =>
    gd (hc G x1 = 8) <|
    if (hi G x1 5) ≤ x2 then
      some G
    else
      gd (hc G (hr G x1 3) = 13 ∧ ix x2 (hl G (hr G x1 3))) <|
      bd ((hr G (hr G x1 3) x2.toNatClampNeg)) fun v4 =>
      if v4 = 0 then
        d_X8_deliver_2 n_ x0 x1 (x2 + 1) G
      else
        d_X8_deliver_27 FU x0 x1 x2 v4 0 G (fun y0 y1 y2 Gy => d_X8_deliver_2 n_ y0 y1 y2 Gy)
def d_X8_deliver (x0 : Nat) (x1 : Nat) (G : Hp) : Option (Hp) :=
  d_X8_deliver_2 FU x0 x1 0 G
section
variable {p : Program} {l : Launch} {e : Env} {s : State} {m : MethodId} {args : Array Value} {below : List Frame} {meth : Method} {c : Code} {b0 : Nat} {D : va_G} {E : Nat → ClassId}
set_option maxHeartbeats 4000000 in
set_option maxRecDepth 100000 in
theorem k_X8_deliver_84 (C : Cx p s m args meth c RX8 cX8_deliver 5 none b0 D E) {GG : Hp} {k2 : Nat → Nat → Int32 → Hp → Option (Hp)} (hk2 : ∀ (y0 : Nat) (y1 : Nat) (y2 : Int32) (Gy : Hp) (H1 : Heap) (locs1 : List Loc) (ls1 : Array Slot), lx ls1 5 [(0, .inr y0), (1, .inr y1), (2, .inl y2)] → Rp b0 D E Gy H1 → SS b0 s H1 locs1 → k2 y0 y1 y2 Gy = some GG → W p l e (rmd 6 (0) (0)) s m args below meth c H1 locs1 (0) (0) (MQ below (CQ b0 D E none GG) args s (0) (0) (fun q => b0 ≤ q)) (F0 m 2 ls1 [])) : ∀ (n_ : Nat) {x0 : Nat} {x1 : Nat} {x2 : Int32} {x3 : Nat} {x4 : Int32} {G : Hp} {ls : Array Slot} {H : Heap} {locs : List Loc}, lx ls 5 [(0, .inr x0), (1, .inr x1), (2, .inl x2), (3, .inr x3), (4, .inl x4)] → Rp b0 D E G H → SS b0 s H locs → d_X8_deliver_84 n_ x0 x1 x2 x3 x4 G k2 = some GG → W p l e (rmd 6 (0) (0)) s m args below meth c H locs (0) (0) (MQ below (CQ b0 D E none GG) args s (0) (0) (fun q => b0 ≤ q)) (F0 m 84 ls []) := by
  intro n_
  induction n_ with
  | zero =>
    intro x0 x1 x2 x3 x4 G ls H locs hL hR hS hd
    cases (show (none : Option _) = some _ from hd)
  | succ n_ ih =>
    intro x0 x1 x2 x3 x4 G ls H locs hL hR hS hd
    rw [d_X8_deliver_84.eq_2] at hd
    have hx := C.1
    have hb := C.2.1
    refine x_iload C dX8_deliver_84 hL 4 rfl ?_
    refine lv_bipush (v := 16) hx hb dX8_deliver_86 (by decide) ?_
    refine lv_icmp_ge (tgt := 150) hx hb dX8_deliver_88 (by decide) (fun c1 => ?_) (fun c1 => ?_)
    · rw [if_pos c1] at hd
      refine x_iinc (lv' := [(2, .inl (x2 + 1)), (0, .inr x0), (1, .inr x1), (3, .inr x3), (4, .inl x4)]) C dX8_deliver_150 hL 2 rfl rfl (by decide) rfl (fun ls hL => ?_)
      refine lv_goto (tgt := 2) hx hb dX8_deliver_153 (by decide) ?_
      exact hk2 _ _ _ _ _ _ _ (lx_sub hL [1, 2, 0] rfl) hR hS hd
    · rw [if_neg c1] at hd
      refine x_aload_n C dX8_deliver_91 hL 0 rfl ?_
      obtain ⟨g2, hd⟩ := gd_ex hd
      refine r_getr (ci := 8) (k := 2) C fl_X8_11 rfl dX8_deliver_92 hR g2 ?_
      refine x_iload C dX8_deliver_95 hL 4 rfl ?_
      obtain ⟨g3, hd⟩ := gd_ex hd
      refine r_aald (ci := 1) C (by decide) dX8_deliver_97 hR g3 ?_
      refine r_ifnull (tgt := 144) C dX8_deliver_98 (by decide) (fun c4 => ?_) (fun c4 => ?_)
      · rw [if_pos c4] at hd
        refine x_iinc (lv' := [(4, .inl (x4 + 1)), (0, .inr x0), (1, .inr x1), (2, .inl x2), (3, .inr x3)]) C dX8_deliver_144 hL 4 rfl rfl (by decide) rfl (fun ls hL => ?_)
        refine lv_goto (tgt := 84) hx hb dX8_deliver_147 (by decide) ?_
        exact ih (lx_sub hL [1, 2, 3, 4, 0] rfl) hR hS hd
      · rw [if_neg c4] at hd
        refine x_aload_n C dX8_deliver_101 hL 0 rfl ?_
        refine r_getr (ci := 8) (k := 2) C fl_X8_11 rfl dX8_deliver_102 hR g2 ?_
        refine x_iload C dX8_deliver_105 hL 4 rfl ?_
        obtain ⟨g5, hd⟩ := gd_ex hd
        refine r_aald (ci := 1) C (by decide) dX8_deliver_107 hR g5 ?_
        obtain ⟨g6, hd⟩ := gd_ex hd
        refine r_getr (ci := 1) (k := 1) C fl_X8_130 rfl dX8_deliver_108 hR g6 ?_
        obtain ⟨g7, hd⟩ := gd_ex hd
        refine r_geti (ci := 7) (k := 0) C fl_X8_179 rfl dX8_deliver_111 hR g7 ?_
        refine x_aload_n C dX8_deliver_114 hL 1 rfl ?_
        obtain ⟨g8, hd⟩ := gd_ex hd
        refine r_geti (ci := 7) (k := 0) C fl_X8_179 rfl dX8_deliver_115 hR g8 ?_
        refine lv_icmp_ne (tgt := 144) hx hb dX8_deliver_118 (by decide) (fun c9 => ?_) (fun c9 => ?_)
        · rw [if_neg c9] at hd
          refine x_iinc (lv' := [(4, .inl (x4 + 1)), (0, .inr x0), (1, .inr x1), (2, .inl x2), (3, .inr x3)]) C dX8_deliver_144 hL 4 rfl rfl (by decide) rfl (fun ls hL => ?_)
          refine lv_goto (tgt := 84) hx hb dX8_deliver_147 (by decide) ?_
          exact ih (lx_sub hL [1, 2, 3, 4, 0] rfl) hR hS hd
        · rw [if_pos c9] at hd
          refine x_aload_n C dX8_deliver_121 hL 3 rfl ?_
          obtain ⟨g10, hd⟩ := gd_ex hd
          refine r_geti (ci := 0) (k := 1) C fl_X8_170 rfl dX8_deliver_122 hR g10 ?_
          refine lv_bipush (v := 100) hx hb dX8_deliver_125 (by decide) ?_
          refine x_iload C dX8_deliver_127 hL 4 rfl ?_
          refine lv_iadd hx hb dX8_deliver_129 ?_
          refine lv_icmp_eq (tgt := 144) hx hb dX8_deliver_130 (by decide) (fun c11 => ?_) (fun c11 => ?_)
          · rw [if_pos c11] at hd
            refine x_iinc (lv' := [(4, .inl (x4 + 1)), (0, .inr x0), (1, .inr x1), (2, .inl x2), (3, .inr x3)]) C dX8_deliver_144 hL 4 rfl rfl (by decide) rfl (fun ls hL => ?_)
            refine lv_goto (tgt := 84) hx hb dX8_deliver_147 (by decide) ?_
            exact ih (lx_sub hL [1, 2, 3, 4, 0] rfl) hR hS hd
          · rw [if_neg c11] at hd
            refine x_aload_n C dX8_deliver_133 hL 0 rfl ?_
            refine r_getr (ci := 8) (k := 2) C fl_X8_11 rfl dX8_deliver_134 hR g2 ?_
            refine x_iload C dX8_deliver_137 hL 4 rfl ?_
            obtain ⟨g12, hd⟩ := gd_ex hd
            refine r_aald (ci := 1) C (by decide) dX8_deliver_139 hR g12 ?_
            refine x_aload_n C dX8_deliver_140 hL 3 rfl ?_
            obtain ⟨G14, h13, hd⟩ := bo_ex hd
            refine r_callV (a := (hr G (hr G x0 2) x4.toNatClampNeg)) (ci := 1) (As := [rv x3]) C (ct_X1_hear h13) mf_X1_hear ml_X8_182 mv_X1_hear rfl ⟨Nat.le_of_ble_eq_true rfl, Nat.le_of_ble_eq_true rfl⟩ dX8_deliver_141 (lx_size hL) rfl hR hS g6 ⟨Nat.le_refl _, Nat.le_refl _⟩ (cat_le [] (Nat.le_of_ble_eq_true rfl)) (fun H locs hR hS => ?_)
            refine W_st (st2 := []) rfl ?_
            refine x_iinc (lv' := [(4, .inl (x4 + 1)), (0, .inr x0), (1, .inr x1), (2, .inl x2), (3, .inr x3)]) C dX8_deliver_144 hL 4 rfl rfl (by decide) rfl (fun ls hL => ?_)
            refine lv_goto (tgt := 84) hx hb dX8_deliver_147 (by decide) ?_
            exact ih (lx_sub hL [1, 2, 3, 4, 0] rfl) hR hS hd
set_option maxHeartbeats 4000000 in
set_option maxRecDepth 100000 in
theorem k_X8_deliver_27 (C : Cx p s m args meth c RX8 cX8_deliver 5 none b0 D E) {GG : Hp} {k2 : Nat → Nat → Int32 → Hp → Option (Hp)} (hk2 : ∀ (y0 : Nat) (y1 : Nat) (y2 : Int32) (Gy : Hp) (H1 : Heap) (locs1 : List Loc) (ls1 : Array Slot), lx ls1 5 [(0, .inr y0), (1, .inr y1), (2, .inl y2)] → Rp b0 D E Gy H1 → SS b0 s H1 locs1 → k2 y0 y1 y2 Gy = some GG → W p l e (rmd 6 (0) (0)) s m args below meth c H1 locs1 (0) (0) (MQ below (CQ b0 D E none GG) args s (0) (0) (fun q => b0 ≤ q)) (F0 m 2 ls1 [])) : ∀ (n_ : Nat) {x0 : Nat} {x1 : Nat} {x2 : Int32} {x3 : Nat} {x4 : Int32} {G : Hp} {ls : Array Slot} {H : Heap} {locs : List Loc}, lx ls 5 [(0, .inr x0), (1, .inr x1), (2, .inl x2), (3, .inr x3), (4, .inl x4)] → Rp b0 D E G H → SS b0 s H locs → d_X8_deliver_27 n_ x0 x1 x2 x3 x4 G k2 = some GG → W p l e (rmd 6 (0) (0)) s m args below meth c H locs (0) (0) (MQ below (CQ b0 D E none GG) args s (0) (0) (fun q => b0 ≤ q)) (F0 m 27 ls []) := by
  intro n_
  induction n_ with
  | zero =>
    intro x0 x1 x2 x3 x4 G ls H locs hL hR hS hd
    cases (show (none : Option _) = some _ from hd)
  | succ n_ ih =>
    intro x0 x1 x2 x3 x4 G ls H locs hL hR hS hd
    rw [d_X8_deliver_27.eq_2] at hd
    have hx := C.1
    have hb := C.2.1
    refine x_iload C dX8_deliver_27 hL 4 rfl ?_
    refine x_aload_n C dX8_deliver_29 hL 0 rfl ?_
    obtain ⟨g1, hd⟩ := gd_ex hd
    refine r_getr (ci := 8) (k := 1) C fl_X8_39 rfl dX8_deliver_30 hR g1 ?_
    obtain ⟨g2, hd⟩ := gd_ex hd
    refine r_alen C dX8_deliver_33 hR (Or.inr ⟨4, by decide, g2⟩) ?_
    refine lv_icmp_ge (tgt := 81) hx hb dX8_deliver_34 (by decide) (fun c3 => ?_) (fun c3 => ?_)
    · rw [if_pos c3] at hd
      refine lv_iconst (v := 0) hx hb dX8_deliver_81 (by decide) ?_
      refine x_istore (lv' := [(4, .inl 0), (0, .inr x0), (1, .inr x1), (2, .inl x2), (3, .inr x3)]) C dX8_deliver_82 hL (by decide) rfl (fun ls hL => ?_)
      exact k_X8_deliver_84 C hk2 FU (lx_sub hL [1, 2, 3, 4, 0] rfl) hR hS hd
    · rw [if_neg c3] at hd
      refine x_aload_n C dX8_deliver_37 hL 1 rfl ?_
      obtain ⟨g4, hd⟩ := gd_ex hd
      refine r_getr (ci := 7) (k := 1) C fl_X8_75 rfl dX8_deliver_38 hR g4 ?_
      refine x_iload C dX8_deliver_41 hL 4 rfl ?_
      obtain ⟨g5, hd⟩ := gd_ex hd
      refine r_iald C dX8_deliver_43 hR g5 ?_
      refine lv_iconst (v := (-1)) hx hb dX8_deliver_44 (by decide) ?_
      refine lv_icmp_eq (tgt := 75) hx hb dX8_deliver_45 (by decide) (fun c6 => ?_) (fun c6 => ?_)
      · rw [if_pos c6] at hd
        refine x_iinc (lv' := [(4, .inl (x4 + 1)), (0, .inr x0), (1, .inr x1), (2, .inl x2), (3, .inr x3)]) C dX8_deliver_75 hL 4 rfl rfl (by decide) rfl (fun ls hL => ?_)
        refine lv_goto (tgt := 27) hx hb dX8_deliver_78 (by decide) ?_
        exact ih (lx_sub hL [1, 2, 3, 4, 0] rfl) hR hS hd
      · rw [if_neg c6] at hd
        refine x_aload_n C dX8_deliver_48 hL 3 rfl ?_
        obtain ⟨g7, hd⟩ := gd_ex hd
        refine r_geti (ci := 0) (k := 1) C fl_X8_170 rfl dX8_deliver_49 hR g7 ?_
        refine x_iload C dX8_deliver_52 hL 4 rfl ?_
        refine lv_icmp_eq (tgt := 75) hx hb dX8_deliver_54 (by decide) (fun c8 => ?_) (fun c8 => ?_)
        · rw [if_pos c8] at hd
          refine x_iinc (lv' := [(4, .inl (x4 + 1)), (0, .inr x0), (1, .inr x1), (2, .inl x2), (3, .inr x3)]) C dX8_deliver_75 hL 4 rfl rfl (by decide) rfl (fun ls hL => ?_)
          refine lv_goto (tgt := 27) hx hb dX8_deliver_78 (by decide) ?_
          exact ih (lx_sub hL [1, 2, 3, 4, 0] rfl) hR hS hd
        · rw [if_neg c8] at hd
          refine x_aload_n C dX8_deliver_57 hL 0 rfl ?_
          refine r_getr (ci := 8) (k := 1) C fl_X8_39 rfl dX8_deliver_58 hR g1 ?_
          refine x_iload C dX8_deliver_61 hL 4 rfl ?_
          obtain ⟨g9, hd⟩ := gd_ex hd
          refine r_aald (ci := 4) C (by decide) dX8_deliver_63 hR g9 ?_
          refine x_aload_n C dX8_deliver_64 hL 3 rfl ?_
          refine x_aload_n C dX8_deliver_65 hL 1 rfl ?_
          refine r_getr (ci := 7) (k := 1) C fl_X8_75 rfl dX8_deliver_66 hR g4 ?_
          refine x_iload C dX8_deliver_69 hL 4 rfl ?_
          obtain ⟨g10, hd⟩ := gd_ex hd
          refine r_iald C dX8_deliver_71 hR g10 ?_
          obtain ⟨g11, hd⟩ := gd_ex hd
          obtain ⟨G13, h12, hd⟩ := bo_ex hd
          refine r_callV (a := (hr G (hr G x0 1) x4.toNatClampNeg)) (ci := 4) (As := [rv x3, .int (hi G (hr G x1 1) x4.toNatClampNeg)]) C (ct_X4_hear h12) mf_X4_hear ml_X8_175 mv_X4_hear rfl ⟨Nat.le_of_ble_eq_true rfl, Nat.le_of_ble_eq_true rfl⟩ dX8_deliver_72 (lx_size hL) rfl hR hS g11 ⟨Nat.le_refl _, Nat.le_refl _⟩ (cat_le [] (Nat.le_of_ble_eq_true rfl)) (fun H locs hR hS => ?_)
          refine W_st (st2 := []) rfl ?_
          refine x_iinc (lv' := [(4, .inl (x4 + 1)), (0, .inr x0), (1, .inr x1), (2, .inl x2), (3, .inr x3)]) C dX8_deliver_75 hL 4 rfl rfl (by decide) rfl (fun ls hL => ?_)
          refine lv_goto (tgt := 27) hx hb dX8_deliver_78 (by decide) ?_
          exact ih (lx_sub hL [1, 2, 3, 4, 0] rfl) hR hS hd
set_option maxHeartbeats 4000000 in
set_option maxRecDepth 100000 in
theorem k_X8_deliver_2 (C : Cx p s m args meth c RX8 cX8_deliver 5 none b0 D E) {GG : Hp} : ∀ (n_ : Nat) {x0 : Nat} {x1 : Nat} {x2 : Int32} {G : Hp} {ls : Array Slot} {H : Heap} {locs : List Loc}, lx ls 5 [(0, .inr x0), (1, .inr x1), (2, .inl x2)] → Rp b0 D E G H → SS b0 s H locs → d_X8_deliver_2 n_ x0 x1 x2 G = some GG → W p l e (rmd 6 (0) (0)) s m args below meth c H locs (0) (0) (MQ below (CQ b0 D E none GG) args s (0) (0) (fun q => b0 ≤ q)) (F0 m 2 ls []) := by
  intro n_
  induction n_ with
  | zero =>
    intro x0 x1 x2 G ls H locs hL hR hS hd
    cases (show (none : Option _) = some _ from hd)
  | succ n_ ih =>
    intro x0 x1 x2 G ls H locs hL hR hS hd
    rw [d_X8_deliver_2.eq_2] at hd
    have hx := C.1
    have hb := C.2.1
    refine x_iload_n C dX8_deliver_2 hL 2 rfl ?_
    refine x_aload_n C dX8_deliver_3 hL 1 rfl ?_
    obtain ⟨g1, hd⟩ := gd_ex hd
    refine r_geti (ci := 7) (k := 5) C fl_X8_163 rfl dX8_deliver_4 hR g1 ?_
    refine lv_icmp_ge (tgt := 156) hx hb dX8_deliver_7 (by decide) (fun c2 => ?_) (fun c2 => ?_)
    · rw [if_pos c2] at hd
      cases hd
      exact r_vret C dX8_deliver_156 hR hS
    · rw [if_neg c2] at hd
      refine x_aload_n C dX8_deliver_10 hL 1 rfl ?_
      refine r_getr (ci := 7) (k := 3) C fl_X8_166 rfl dX8_deliver_11 hR g1 ?_
      refine x_iload_n C dX8_deliver_14 hL 2 rfl ?_
      obtain ⟨g3, hd⟩ := gd_ex hd
      refine r_aald (ci := 0) C (by decide) dX8_deliver_15 hR g3 ?_
      obtain ⟨v4, ev4, hd⟩ := bd_ex hd
      rw [← ev4]
      refine x_astore_n (lv' := [(3, .inr v4), (0, .inr x0), (1, .inr x1), (2, .inl x2)]) C dX8_deliver_16 hL (by decide) rfl (fun ls hL => ?_)
      refine x_aload_n C dX8_deliver_17 hL 0 rfl ?_
      refine r_ifnonnull (tgt := 24) C dX8_deliver_18 (by decide) (fun c5 => ?_) (fun c5 => ?_)
      · rw [if_neg c5] at hd
        refine lv_iconst (v := 0) hx hb dX8_deliver_24 (by decide) ?_
        refine x_istore (lv' := [(4, .inl 0), (3, .inr v4), (0, .inr x0), (1, .inr x1), (2, .inl x2)]) C dX8_deliver_25 hL (by decide) rfl (fun ls hL => ?_)
        exact k_X8_deliver_27 C (fun y0 y1 y2 Gy H1 locs1 ls1 hL1 hR1 hS1 hd1 => ih hL1 hR1 hS1 hd1) FU (lx_sub hL [2, 3, 4, 1, 0] rfl) hR hS hd
      · rw [if_pos c5] at hd
        refine lv_goto (tgt := 150) hx hb dX8_deliver_21 (by decide) ?_
        refine x_iinc (lv' := [(2, .inl (x2 + 1)), (3, .inr v4), (0, .inr x0), (1, .inr x1)]) C dX8_deliver_150 hL 3 rfl rfl (by decide) rfl (fun ls hL => ?_)
        refine lv_goto (tgt := 2) hx hb dX8_deliver_153 (by decide) ?_
        exact ih (lx_sub hL [2, 3, 0] rfl) hR hS hd
set_option maxHeartbeats 4000000 in
set_option maxRecDepth 100000 in
theorem k_X8_deliver (C : Cx p s m args meth c RX8 cX8_deliver 5 none b0 D E) {GG : Hp} {x0 : Nat} {x1 : Nat} {G : Hp} {ls : Array Slot} {H : Heap} {locs : List Loc} : lx ls 5 [(0, .inr x0), (1, .inr x1)] → Rp b0 D E G H → SS b0 s H locs → d_X8_deliver x0 x1 G = some GG → W p l e (rmd 6 (0) (0)) s m args below meth c H locs (0) (0) (MQ below (CQ b0 D E none GG) args s (0) (0) (fun q => b0 ≤ q)) (F0 m 0 ls []) := by
  intro hL hR hS hd
  unfold d_X8_deliver at hd
  have hx := C.1
  have hb := C.2.1
  refine lv_iconst (v := 0) hx hb dX8_deliver_0 (by decide) ?_
  refine x_istore_n (lv' := [(2, .inl 0), (0, .inr x0), (1, .inr x1)]) C dX8_deliver_1 hL (by decide) rfl (fun ls hL => ?_)
  exact k_X8_deliver_2 C FU (lx_sub hL [1, 2, 0] rfl) hR hS hd
end
set_option maxHeartbeats 4000000 in
set_option maxRecDepth 100000 in
theorem ct_X8_deliver {l : Launch} {b0 : Nat} {D : va_G} {E : Nat → ClassId} {G : Hp} {a0 : Nat} {a1 : Nat} {GG : Hp} (hd : d_X8_deliver a0 a1 G = some GG) : CT l yX8_deliver cX8_deliver 5 none 6 0 0 b0 D E [rv a0, rv a1] G none GG := by
  refine CT_of (by decide +kernel) ?_
  intro p e s m below meth c C hnm hR
  refine r_entry [.inr a0, .inr a1] (n := 5) (Nat.le_of_ble_eq_true rfl) (lv := [(0, .inr a0), (1, .inr a1)]) rfl (fun ls hL => ?_)
  exact k_X8_deliver C (lx_sub hL [0, 1] rfl) hR ⟨fun _ _ => rfl, fun _ h => by cases h⟩ hd

/-! GroveWorks.tick(I)I -/
theorem dX8_tick_0 : decode cX8_tick 0 = .ok (.iload_n 1, 1) := by decide +kernel
theorem dX8_tick_1 : decode cX8_tick 1 = .ok (.iconst 1, 1) := by decide +kernel
theorem dX8_tick_2 : decode cX8_tick 2 = .ok (.if_icmp .lt 24, 3) := by decide +kernel
theorem dX8_tick_5 : decode cX8_tick 5 = .ok (.iload_n 1, 1) := by decide +kernel
theorem dX8_tick_6 : decode cX8_tick 6 = .ok (.bipush 50, 2) := by decide +kernel
theorem dX8_tick_8 : decode cX8_tick 8 = .ok (.if_icmp .gt 18, 3) := by decide +kernel
theorem dX8_tick_11 : decode cX8_tick 11 = .ok (.aload_n 0, 1) := by decide +kernel
theorem dX8_tick_12 : decode cX8_tick 12 = .ok (.getfield 33, 3) := by decide +kernel
theorem dX8_tick_15 : decode cX8_tick 15 = .ok (.getfield 64, 3) := by decide +kernel
theorem dX8_tick_18 : decode cX8_tick 18 = .ok (.iload_n 1, 1) := by decide +kernel
theorem dX8_tick_19 : decode cX8_tick 19 = .ok (.iadd, 1) := by decide +kernel
theorem dX8_tick_20 : decode cX8_tick 20 = .ok (.sipush 6000, 3) := by decide +kernel
theorem dX8_tick_23 : decode cX8_tick 23 = .ok (.if_icmp .le 5, 3) := by decide +kernel
theorem dX8_tick_26 : decode cX8_tick 26 = .ok (.iconst (-1), 1) := by decide +kernel
theorem dX8_tick_27 : decode cX8_tick 27 = .ok (.ireturn, 1) := by decide +kernel
theorem dX8_tick_28 : decode cX8_tick 28 = .ok (.aload_n 0, 1) := by decide +kernel
theorem dX8_tick_29 : decode cX8_tick 29 = .ok (.getfield 33, 3) := by decide +kernel
theorem dX8_tick_32 : decode cX8_tick 32 = .ok (.getfield 87, 3) := by decide +kernel
theorem dX8_tick_35 : decode cX8_tick 35 = .ok (.aload_n 0, 1) := by decide +kernel
theorem dX8_tick_36 : decode cX8_tick 36 = .ok (.getfield 33, 3) := by decide +kernel
theorem dX8_tick_39 : decode cX8_tick 39 = .ok (.getfield 67, 3) := by decide +kernel
theorem dX8_tick_42 : decode cX8_tick 42 = .ok (.invokevirtual 140, 3) := by decide +kernel
theorem dX8_tick_45 : decode cX8_tick 45 = .ok (.iconst 0, 1) := by decide +kernel
theorem dX8_tick_46 : decode cX8_tick 46 = .ok (.istore_n 2, 1) := by decide +kernel
theorem dX8_tick_47 : decode cX8_tick 47 = .ok (.iload_n 2, 1) := by decide +kernel
theorem dX8_tick_48 : decode cX8_tick 48 = .ok (.iload_n 1, 1) := by decide +kernel
theorem dX8_tick_49 : decode cX8_tick 49 = .ok (.if_icmp .ge 98, 3) := by decide +kernel
theorem dX8_tick_52 : decode cX8_tick 52 = .ok (.aload_n 0, 1) := by decide +kernel
theorem dX8_tick_53 : decode cX8_tick 53 = .ok (.invokevirtual 144, 3) := by decide +kernel
theorem dX8_tick_56 : decode cX8_tick 56 = .ok (.iconst 0, 1) := by decide +kernel
theorem dX8_tick_57 : decode cX8_tick 57 = .ok (.istore_n 3, 1) := by decide +kernel
theorem dX8_tick_58 : decode cX8_tick 58 = .ok (.iload_n 3, 1) := by decide +kernel
theorem dX8_tick_59 : decode cX8_tick 59 = .ok (.bipush 16, 2) := by decide +kernel
theorem dX8_tick_61 : decode cX8_tick 61 = .ok (.if_icmp .ge 22, 3) := by decide +kernel
theorem dX8_tick_64 : decode cX8_tick 64 = .ok (.aload_n 0, 1) := by decide +kernel
theorem dX8_tick_65 : decode cX8_tick 65 = .ok (.aload_n 0, 1) := by decide +kernel
theorem dX8_tick_66 : decode cX8_tick 66 = .ok (.getfield 33, 3) := by decide +kernel
theorem dX8_tick_69 : decode cX8_tick 69 = .ok (.getfield 67, 3) := by decide +kernel
theorem dX8_tick_72 : decode cX8_tick 72 = .ok (.iload_n 3, 1) := by decide +kernel
theorem dX8_tick_73 : decode cX8_tick 73 = .ok (.aaload, 1) := by decide +kernel
theorem dX8_tick_74 : decode cX8_tick 74 = .ok (.invokevirtual 147, 3) := by decide +kernel
theorem dX8_tick_77 : decode cX8_tick 77 = .ok (.iinc 3 1, 3) := by decide +kernel
theorem dX8_tick_80 : decode cX8_tick 80 = .ok (.goto (-22), 3) := by decide +kernel
theorem dX8_tick_83 : decode cX8_tick 83 = .ok (.iconst 0, 1) := by decide +kernel
theorem dX8_tick_84 : decode cX8_tick 84 = .ok (.istore_n 3, 1) := by decide +kernel
theorem dX8_tick_85 : decode cX8_tick 85 = .ok (.iload_n 3, 1) := by decide +kernel
theorem dX8_tick_86 : decode cX8_tick 86 = .ok (.aload_n 0, 1) := by decide +kernel
theorem dX8_tick_87 : decode cX8_tick 87 = .ok (.getfield 39, 3) := by decide +kernel
theorem dX8_tick_90 : decode cX8_tick 90 = .ok (.arraylength, 1) := by decide +kernel
theorem dX8_tick_91 : decode cX8_tick 91 = .ok (.if_icmp .ge 18, 3) := by decide +kernel
theorem dX8_tick_94 : decode cX8_tick 94 = .ok (.aload_n 0, 1) := by decide +kernel
theorem dX8_tick_95 : decode cX8_tick 95 = .ok (.getfield 39, 3) := by decide +kernel
theorem dX8_tick_98 : decode cX8_tick 98 = .ok (.iload_n 3, 1) := by decide +kernel
theorem dX8_tick_99 : decode cX8_tick 99 = .ok (.aaload, 1) := by decide +kernel
theorem dX8_tick_100 : decode cX8_tick 100 = .ok (.invokevirtual 151, 3) := by decide +kernel
theorem dX8_tick_103 : decode cX8_tick 103 = .ok (.iinc 3 1, 3) := by decide +kernel
theorem dX8_tick_106 : decode cX8_tick 106 = .ok (.goto (-21), 3) := by decide +kernel
theorem dX8_tick_109 : decode cX8_tick 109 = .ok (.iconst 0, 1) := by decide +kernel
theorem dX8_tick_110 : decode cX8_tick 110 = .ok (.istore_n 3, 1) := by decide +kernel
theorem dX8_tick_111 : decode cX8_tick 111 = .ok (.iload_n 3, 1) := by decide +kernel
theorem dX8_tick_112 : decode cX8_tick 112 = .ok (.bipush 16, 2) := by decide +kernel
theorem dX8_tick_114 : decode cX8_tick 114 = .ok (.if_icmp .ge 27, 3) := by decide +kernel
theorem dX8_tick_117 : decode cX8_tick 117 = .ok (.aload_n 0, 1) := by decide +kernel
theorem dX8_tick_118 : decode cX8_tick 118 = .ok (.getfield 11, 3) := by decide +kernel
theorem dX8_tick_121 : decode cX8_tick 121 = .ok (.iload_n 3, 1) := by decide +kernel
theorem dX8_tick_122 : decode cX8_tick 122 = .ok (.aaload, 1) := by decide +kernel
theorem dX8_tick_123 : decode cX8_tick 123 = .ok (.ifnull 12, 3) := by decide +kernel
theorem dX8_tick_126 : decode cX8_tick 126 = .ok (.aload_n 0, 1) := by decide +kernel
theorem dX8_tick_127 : decode cX8_tick 127 = .ok (.getfield 11, 3) := by decide +kernel
theorem dX8_tick_130 : decode cX8_tick 130 = .ok (.iload_n 3, 1) := by decide +kernel
theorem dX8_tick_131 : decode cX8_tick 131 = .ok (.aaload, 1) := by decide +kernel
theorem dX8_tick_132 : decode cX8_tick 132 = .ok (.invokevirtual 154, 3) := by decide +kernel
theorem dX8_tick_135 : decode cX8_tick 135 = .ok (.iinc 3 1, 3) := by decide +kernel
theorem dX8_tick_138 : decode cX8_tick 138 = .ok (.goto (-27), 3) := by decide +kernel
theorem dX8_tick_141 : decode cX8_tick 141 = .ok (.iinc 2 1, 3) := by decide +kernel
theorem dX8_tick_144 : decode cX8_tick 144 = .ok (.goto (-97), 3) := by decide +kernel
theorem dX8_tick_147 : decode cX8_tick 147 = .ok (.aload_n 0, 1) := by decide +kernel
theorem dX8_tick_148 : decode cX8_tick 148 = .ok (.getfield 33, 3) := by decide +kernel
theorem dX8_tick_151 : decode cX8_tick 151 = .ok (.getfield 64, 3) := by decide +kernel
theorem dX8_tick_154 : decode cX8_tick 154 = .ok (.ireturn, 1) := by decide +kernel
def d_X8_tick_111 : Nat → Nat → Int32 → Int32 → Int32 → Hp → (Nat → Int32 → Int32 → Hp → Option (Int32 × Hp)) → Option (Int32 × Hp)
  | 0, _, _, _, _, _, _ => none
  | n_ + 1, x0, x1, x2, x3, G, k47 =>
    if 16 ≤ x3 then
      k47 x0 x1 (x2 + 1) G
    else
      gd (hc G x0 = 9) <|
      gd (hc G (hr G x0 2) = 14 ∧ ix x3 (hl G (hr G x0 2))) <|
      if (hr G (hr G x0 2) x3.toNatClampNeg) = 0 then
        d_X8_tick_111 n_ x0 x1 x2 (x3 + 1) G k47
      else
        gd (hc G (hr G x0 2) = 14 ∧ ix x3 (hl G (hr G x0 2))) <|
        gd (hc G (hr G (hr G x0 2) x3.toNatClampNeg) = 2) <|
        bo (d_X1_answerQueries (hr G (hr G x0 2) x3.toNatClampNeg) G) fun G8 =>
        d_X8_tick_111 n_ x0 x1 x2 (x3 + 1) G8 k47
def d_X8_tick_85 : Nat → Nat → Int32 → Int32 → Int32 → Hp → (Nat → Int32 → Int32 → Hp → Option (Int32 × Hp)) → Option (Int32 × Hp)
  | 0, _, _, _, _, _, _ => none
  | n_ + 1, x0, x1, x2, x3, G, k47 =>
    gd (hc G x0 = 9) <|
    gd (hc G (hr G x0 1) = 17) <|
    if (nI (hl G (hr G x0 1))) ≤ x3 then
      d_X8_tick_111 FU x0 x1 x2 0 G k47
    else
      gd (hc G (hr G x0 1) = 17 ∧ ix x3 (hl G (hr G x0 1))) <|
      gd (hc G (hr G (hr G x0 1) x3.toNatClampNeg) = 5) <|
      bo (d_X4_doTimers (hr G (hr G x0 1) x3.toNatClampNeg) G) fun G7 =>
      d_X8_tick_85 n_ x0 x1 x2 (x3 + 1) G7 k47
def d_X8_tick_58 : Nat → Nat → Int32 → Int32 → Int32 → Hp → (Nat → Int32 → Int32 → Hp → Option (Int32 × Hp)) → Option (Int32 × Hp)
  | 0, _, _, _, _, _, _ => none
  | n_ + 1, x0, x1, x2, x3, G, k47 =>
    if 16 ≤ x3 then
      d_X8_tick_85 FU x0 x1 x2 0 G k47
    else
      gd (hc G x0 = 9) <|
      gd (hc G (hr G x0 0) = 3) <|
      gd (hc G (hr G (hr G x0 0) 0) = 20 ∧ ix x3 (hl G (hr G (hr G x0 0) 0))) <|
      bo (d_X8_deliver x0 (hr G (hr G (hr G x0 0) 0) x3.toNatClampNeg) G) fun G6 =>
      d_X8_tick_58 n_ x0 x1 x2 (x3 + 1) G6 k47
def d_X8_tick_47 : Nat → Nat → Int32 → Int32 → Hp → Option (Int32 × Hp)
  | 0, _, _, _, _ => none
  | n_ + 1, x0, x1, x2, G =>
    if x1 ≤ x2 then
      gd (hc G x0 = 9) <|
      gd (hc G (hr G x0 0) = 3) <|
      some ((hi G (hr G x0 0) 4), G)
    else
      gd (hc G x0 = 9) <|
      bo (d_X8_beginTick x0 G) fun G6 =>
      d_X8_tick_58 FU x0 x1 x2 0 G6 (fun y0 y1 y2 Gy => d_X8_tick_47 n_ y0 y1 y2 Gy)
def d_X8_tick (x0 : Nat) (x1 : Int32) (G : Hp) : Option (Int32 × Hp) :=
  if x1 < 1 then
    some ((-1), G)
  else
    if 50 < x1 then
      some ((-1), G)
    else
      gd (hc G x0 = 9) <|
      gd (hc G (hr G x0 0) = 3) <|
      if ((hi G (hr G x0 0) 4) + x1) ≤ 6000 then
        gd (hc G (hr G (hr G x0 0) 1) = 7) <|
        bo (d_X6_refresh (hr G (hr G x0 0) 1) (hr G (hr G x0 0) 0) G) fun G8 =>
        d_X8_tick_47 FU x0 x1 0 G8
      else
        some ((-1), G)
section
variable {p : Program} {l : Launch} {e : Env} {s : State} {m : MethodId} {args : Array Value} {below : List Frame} {meth : Method} {c : Code} {b0 : Nat} {D : va_G} {E : Nat → ClassId}
set_option maxHeartbeats 4000000 in
set_option maxRecDepth 100000 in
theorem k_X8_tick_111 (C : Cx p s m args meth c RX8 cX8_tick 4 (some .int) b0 D E) {rr : Int32} {GG : Hp} {k47 : Nat → Int32 → Int32 → Hp → Option (Int32 × Hp)} (hk47 : ∀ (y0 : Nat) (y1 : Int32) (y2 : Int32) (Gy : Hp) (H1 : Heap) (locs1 : List Loc) (ls1 : Array Slot), lx ls1 4 [(0, .inr y0), (1, .inl y1), (2, .inl y2)] → Rp b0 D E Gy H1 → SS b0 s H1 locs1 → k47 y0 y1 y2 Gy = some (rr, GG) → W p l e (rmd 7 (0) (0)) s m args below meth c H1 locs1 (0) (0) (MQ below (CQ b0 D E (some (.int rr)) GG) args s (0) (0) (fun q => b0 ≤ q)) (F0 m 47 ls1 [])) : ∀ (n_ : Nat) {x0 : Nat} {x1 : Int32} {x2 : Int32} {x3 : Int32} {G : Hp} {ls : Array Slot} {H : Heap} {locs : List Loc}, lx ls 4 [(0, .inr x0), (1, .inl x1), (2, .inl x2), (3, .inl x3)] → Rp b0 D E G H → SS b0 s H locs → d_X8_tick_111 n_ x0 x1 x2 x3 G k47 = some (rr, GG) → W p l e (rmd 7 (0) (0)) s m args below meth c H locs (0) (0) (MQ below (CQ b0 D E (some (.int rr)) GG) args s (0) (0) (fun q => b0 ≤ q)) (F0 m 111 ls []) := by
  intro n_
  induction n_ with
  | zero =>
    intro x0 x1 x2 x3 G ls H locs hL hR hS hd
    cases (show (none : Option _) = some _ from hd)
  | succ n_ ih =>
    intro x0 x1 x2 x3 G ls H locs hL hR hS hd
    rw [d_X8_tick_111.eq_2] at hd
    have hx := C.1
    have hb := C.2.1
    refine x_iload_n C dX8_tick_111 hL 3 rfl ?_
    refine lv_bipush (v := 16) hx hb dX8_tick_112 (by decide) ?_
    refine lv_icmp_ge (tgt := 141) hx hb dX8_tick_114 (by decide) (fun c1 => ?_) (fun c1 => ?_)
    · rw [if_pos c1] at hd
      refine x_iinc (lv' := [(2, .inl (x2 + 1)), (0, .inr x0), (1, .inl x1), (3, .inl x3)]) C dX8_tick_141 hL 2 rfl rfl (by decide) rfl (fun ls hL => ?_)
      refine lv_goto (tgt := 47) hx hb dX8_tick_144 (by decide) ?_
      exact hk47 _ _ _ _ _ _ _ (lx_sub hL [1, 2, 0] rfl) hR hS hd
    · rw [if_neg c1] at hd
      refine x_aload_n C dX8_tick_117 hL 0 rfl ?_
      obtain ⟨g2, hd⟩ := gd_ex hd
      refine r_getr (ci := 8) (k := 2) C fl_X8_11 rfl dX8_tick_118 hR g2 ?_
      refine x_iload_n C dX8_tick_121 hL 3 rfl ?_
      obtain ⟨g3, hd⟩ := gd_ex hd
      refine r_aald (ci := 1) C (by decide) dX8_tick_122 hR g3 ?_
      refine r_ifnull (tgt := 135) C dX8_tick_123 (by decide) (fun c4 => ?_) (fun c4 => ?_)
      · rw [if_pos c4] at hd
        refine x_iinc (lv' := [(3, .inl (x3 + 1)), (0, .inr x0), (1, .inl x1), (2, .inl x2)]) C dX8_tick_135 hL 3 rfl rfl (by decide) rfl (fun ls hL => ?_)
        refine lv_goto (tgt := 111) hx hb dX8_tick_138 (by decide) ?_
        exact ih (lx_sub hL [1, 2, 3, 0] rfl) hR hS hd
      · rw [if_neg c4] at hd
        refine x_aload_n C dX8_tick_126 hL 0 rfl ?_
        refine r_getr (ci := 8) (k := 2) C fl_X8_11 rfl dX8_tick_127 hR g2 ?_
        refine x_iload_n C dX8_tick_130 hL 3 rfl ?_
        obtain ⟨g5, hd⟩ := gd_ex hd
        refine r_aald (ci := 1) C (by decide) dX8_tick_131 hR g5 ?_
        obtain ⟨g6, hd⟩ := gd_ex hd
        obtain ⟨G8, h7, hd⟩ := bo_ex hd
        refine r_callV (a := (hr G (hr G x0 2) x3.toNatClampNeg)) (ci := 1) (As := []) C (ct_X1_answerQueries h7) mf_X1_answerQueries ml_X8_154 mv_X1_answerQueries rfl ⟨Nat.le_of_ble_eq_true rfl, Nat.le_of_ble_eq_true rfl⟩ dX8_tick_132 (lx_size hL) rfl hR hS g6 ⟨Nat.le_refl _, Nat.le_refl _⟩ (cat_le [] (Nat.le_of_ble_eq_true rfl)) (fun H locs hR hS => ?_)
        refine W_st (st2 := []) rfl ?_
        refine x_iinc (lv' := [(3, .inl (x3 + 1)), (0, .inr x0), (1, .inl x1), (2, .inl x2)]) C dX8_tick_135 hL 3 rfl rfl (by decide) rfl (fun ls hL => ?_)
        refine lv_goto (tgt := 111) hx hb dX8_tick_138 (by decide) ?_
        exact ih (lx_sub hL [1, 2, 3, 0] rfl) hR hS hd
set_option maxHeartbeats 4000000 in
set_option maxRecDepth 100000 in
theorem k_X8_tick_85 (C : Cx p s m args meth c RX8 cX8_tick 4 (some .int) b0 D E) {rr : Int32} {GG : Hp} {k47 : Nat → Int32 → Int32 → Hp → Option (Int32 × Hp)} (hk47 : ∀ (y0 : Nat) (y1 : Int32) (y2 : Int32) (Gy : Hp) (H1 : Heap) (locs1 : List Loc) (ls1 : Array Slot), lx ls1 4 [(0, .inr y0), (1, .inl y1), (2, .inl y2)] → Rp b0 D E Gy H1 → SS b0 s H1 locs1 → k47 y0 y1 y2 Gy = some (rr, GG) → W p l e (rmd 7 (0) (0)) s m args below meth c H1 locs1 (0) (0) (MQ below (CQ b0 D E (some (.int rr)) GG) args s (0) (0) (fun q => b0 ≤ q)) (F0 m 47 ls1 [])) : ∀ (n_ : Nat) {x0 : Nat} {x1 : Int32} {x2 : Int32} {x3 : Int32} {G : Hp} {ls : Array Slot} {H : Heap} {locs : List Loc}, lx ls 4 [(0, .inr x0), (1, .inl x1), (2, .inl x2), (3, .inl x3)] → Rp b0 D E G H → SS b0 s H locs → d_X8_tick_85 n_ x0 x1 x2 x3 G k47 = some (rr, GG) → W p l e (rmd 7 (0) (0)) s m args below meth c H locs (0) (0) (MQ below (CQ b0 D E (some (.int rr)) GG) args s (0) (0) (fun q => b0 ≤ q)) (F0 m 85 ls []) := by
  intro n_
  induction n_ with
  | zero =>
    intro x0 x1 x2 x3 G ls H locs hL hR hS hd
    cases (show (none : Option _) = some _ from hd)
  | succ n_ ih =>
    intro x0 x1 x2 x3 G ls H locs hL hR hS hd
    rw [d_X8_tick_85.eq_2] at hd
    have hx := C.1
    have hb := C.2.1
    refine x_iload_n C dX8_tick_85 hL 3 rfl ?_
    refine x_aload_n C dX8_tick_86 hL 0 rfl ?_
    obtain ⟨g1, hd⟩ := gd_ex hd
    refine r_getr (ci := 8) (k := 1) C fl_X8_39 rfl dX8_tick_87 hR g1 ?_
    obtain ⟨g2, hd⟩ := gd_ex hd
    refine r_alen C dX8_tick_90 hR (Or.inr ⟨4, by decide, g2⟩) ?_
    refine lv_icmp_ge (tgt := 109) hx hb dX8_tick_91 (by decide) (fun c3 => ?_) (fun c3 => ?_)
    · rw [if_pos c3] at hd
      refine lv_iconst (v := 0) hx hb dX8_tick_109 (by decide) ?_
      refine x_istore_n (lv' := [(3, .inl 0), (0, .inr x0), (1, .inl x1), (2, .inl x2)]) C dX8_tick_110 hL (by decide) rfl (fun ls hL => ?_)
      exact k_X8_tick_111 C hk47 FU (lx_sub hL [1, 2, 3, 0] rfl) hR hS hd
    · rw [if_neg c3] at hd
      refine x_aload_n C dX8_tick_94 hL 0 rfl ?_
      refine r_getr (ci := 8) (k := 1) C fl_X8_39 rfl dX8_tick_95 hR g1 ?_
      refine x_iload_n C dX8_tick_98 hL 3 rfl ?_
      obtain ⟨g4, hd⟩ := gd_ex hd
      refine r_aald (ci := 4) C (by decide) dX8_tick_99 hR g4 ?_
      obtain ⟨g5, hd⟩ := gd_ex hd
      obtain ⟨G7, h6, hd⟩ := bo_ex hd
      refine r_callV (a := (hr G (hr G x0 1) x3.toNatClampNeg)) (ci := 4) (As := []) C (ct_X4_doTimers h6) mf_X4_doTimers ml_X8_151 mv_X4_doTimers rfl ⟨Nat.le_of_ble_eq_true rfl, Nat.le_of_ble_eq_true rfl⟩ dX8_tick_100 (lx_size hL) rfl hR hS g5 ⟨Nat.le_refl _, Nat.le_refl _⟩ (cat_le [] (Nat.le_of_ble_eq_true rfl)) (fun H locs hR hS => ?_)
      refine W_st (st2 := []) rfl ?_
      refine x_iinc (lv' := [(3, .inl (x3 + 1)), (0, .inr x0), (1, .inl x1), (2, .inl x2)]) C dX8_tick_103 hL 3 rfl rfl (by decide) rfl (fun ls hL => ?_)
      refine lv_goto (tgt := 85) hx hb dX8_tick_106 (by decide) ?_
      exact ih (lx_sub hL [1, 2, 3, 0] rfl) hR hS hd
set_option maxHeartbeats 4000000 in
set_option maxRecDepth 100000 in
theorem k_X8_tick_58 (C : Cx p s m args meth c RX8 cX8_tick 4 (some .int) b0 D E) {rr : Int32} {GG : Hp} {k47 : Nat → Int32 → Int32 → Hp → Option (Int32 × Hp)} (hk47 : ∀ (y0 : Nat) (y1 : Int32) (y2 : Int32) (Gy : Hp) (H1 : Heap) (locs1 : List Loc) (ls1 : Array Slot), lx ls1 4 [(0, .inr y0), (1, .inl y1), (2, .inl y2)] → Rp b0 D E Gy H1 → SS b0 s H1 locs1 → k47 y0 y1 y2 Gy = some (rr, GG) → W p l e (rmd 7 (0) (0)) s m args below meth c H1 locs1 (0) (0) (MQ below (CQ b0 D E (some (.int rr)) GG) args s (0) (0) (fun q => b0 ≤ q)) (F0 m 47 ls1 [])) : ∀ (n_ : Nat) {x0 : Nat} {x1 : Int32} {x2 : Int32} {x3 : Int32} {G : Hp} {ls : Array Slot} {H : Heap} {locs : List Loc}, lx ls 4 [(0, .inr x0), (1, .inl x1), (2, .inl x2), (3, .inl x3)] → Rp b0 D E G H → SS b0 s H locs → d_X8_tick_58 n_ x0 x1 x2 x3 G k47 = some (rr, GG) → W p l e (rmd 7 (0) (0)) s m args below meth c H locs (0) (0) (MQ below (CQ b0 D E (some (.int rr)) GG) args s (0) (0) (fun q => b0 ≤ q)) (F0 m 58 ls []) := by
  intro n_
  induction n_ with
  | zero =>
    intro x0 x1 x2 x3 G ls H locs hL hR hS hd
    cases (show (none : Option _) = some _ from hd)
  | succ n_ ih =>
    intro x0 x1 x2 x3 G ls H locs hL hR hS hd
    rw [d_X8_tick_58.eq_2] at hd
    have hx := C.1
    have hb := C.2.1
    refine x_iload_n C dX8_tick_58 hL 3 rfl ?_
    refine lv_bipush (v := 16) hx hb dX8_tick_59 (by decide) ?_
    refine lv_icmp_ge (tgt := 83) hx hb dX8_tick_61 (by decide) (fun c1 => ?_) (fun c1 => ?_)
    · rw [if_pos c1] at hd
      refine lv_iconst (v := 0) hx hb dX8_tick_83 (by decide) ?_
      refine x_istore_n (lv' := [(3, .inl 0), (0, .inr x0), (1, .inl x1), (2, .inl x2)]) C dX8_tick_84 hL (by decide) rfl (fun ls hL => ?_)
      exact k_X8_tick_85 C hk47 FU (lx_sub hL [1, 2, 3, 0] rfl) hR hS hd
    · rw [if_neg c1] at hd
      refine x_aload_n C dX8_tick_64 hL 0 rfl ?_
      refine x_aload_n C dX8_tick_65 hL 0 rfl ?_
      obtain ⟨g2, hd⟩ := gd_ex hd
      refine r_getr (ci := 8) (k := 0) C fl_X8_33 rfl dX8_tick_66 hR g2 ?_
      obtain ⟨g3, hd⟩ := gd_ex hd
      refine r_getr (ci := 2) (k := 0) C fl_X8_67 rfl dX8_tick_69 hR g3 ?_
      refine x_iload_n C dX8_tick_72 hL 3 rfl ?_
      obtain ⟨g4, hd⟩ := gd_ex hd
      refine r_aald (ci := 7) C (by decide) dX8_tick_73 hR g4 ?_
      obtain ⟨G6, h5, hd⟩ := bo_ex hd
      refine r_callV (a := x0) (ci := 8) (As := [rv (hr G (hr G (hr G x0 0) 0) x3.toNatClampNeg)]) C (ct_X8_deliver h5) mf_X8_deliver ml_X8_147 mv_X8_deliver rfl ⟨Nat.le_of_ble_eq_true rfl, Nat.le_of_ble_eq_true rfl⟩ dX8_tick_74 (lx_size hL) rfl hR hS g2 ⟨Nat.le_refl _, Nat.le_refl _⟩ (cat_le [] (Nat.le_of_ble_eq_true rfl)) (fun H locs hR hS => ?_)
      refine W_st (st2 := []) rfl ?_
      refine x_iinc (lv' := [(3, .inl (x3 + 1)), (0, .inr x0), (1, .inl x1), (2, .inl x2)]) C dX8_tick_77 hL 3 rfl rfl (by decide) rfl (fun ls hL => ?_)
      refine lv_goto (tgt := 58) hx hb dX8_tick_80 (by decide) ?_
      exact ih (lx_sub hL [1, 2, 3, 0] rfl) hR hS hd
set_option maxHeartbeats 4000000 in
set_option maxRecDepth 100000 in
theorem k_X8_tick_47 (C : Cx p s m args meth c RX8 cX8_tick 4 (some .int) b0 D E) {rr : Int32} {GG : Hp} : ∀ (n_ : Nat) {x0 : Nat} {x1 : Int32} {x2 : Int32} {G : Hp} {ls : Array Slot} {H : Heap} {locs : List Loc}, lx ls 4 [(0, .inr x0), (1, .inl x1), (2, .inl x2)] → Rp b0 D E G H → SS b0 s H locs → d_X8_tick_47 n_ x0 x1 x2 G = some (rr, GG) → W p l e (rmd 7 (0) (0)) s m args below meth c H locs (0) (0) (MQ below (CQ b0 D E (some (.int rr)) GG) args s (0) (0) (fun q => b0 ≤ q)) (F0 m 47 ls []) := by
  intro n_
  induction n_ with
  | zero =>
    intro x0 x1 x2 G ls H locs hL hR hS hd
    cases (show (none : Option _) = some _ from hd)
  | succ n_ ih =>
    intro x0 x1 x2 G ls H locs hL hR hS hd
    rw [d_X8_tick_47.eq_2] at hd
    have hx := C.1
    have hb := C.2.1
    refine x_iload_n C dX8_tick_47 hL 2 rfl ?_
    refine x_iload_n C dX8_tick_48 hL 1 rfl ?_
    refine lv_icmp_ge (tgt := 147) hx hb dX8_tick_49 (by decide) (fun c1 => ?_) (fun c1 => ?_)
    · rw [if_pos c1] at hd
      refine x_aload_n C dX8_tick_147 hL 0 rfl ?_
      obtain ⟨g2, hd⟩ := gd_ex hd
      refine r_getr (ci := 8) (k := 0) C fl_X8_33 rfl dX8_tick_148 hR g2 ?_
      obtain ⟨g3, hd⟩ := gd_ex hd
      refine r_geti (ci := 2) (k := 4) C fl_X8_64 rfl dX8_tick_151 hR g3 ?_
      cases hd
      exact r_iret C dX8_tick_154 hR hS
    · rw [if_neg c1] at hd
      refine x_aload_n C dX8_tick_52 hL 0 rfl ?_
      obtain ⟨g4, hd⟩ := gd_ex hd
      obtain ⟨G6, h5, hd⟩ := bo_ex hd
      refine r_callV (a := x0) (ci := 8) (As := []) C (ct_X8_beginTick h5) mf_X8_beginTick ml_X8_144 mv_X8_beginTick rfl ⟨Nat.le_of_ble_eq_true rfl, Nat.le_of_ble_eq_true rfl⟩ dX8_tick_53 (lx_size hL) rfl hR hS g4 ⟨Nat.le_refl _, Nat.le_refl _⟩ (cat_le [] (Nat.le_of_ble_eq_true rfl)) (fun H locs hR hS => ?_)
      refine W_st (st2 := []) rfl ?_
      refine lv_iconst (v := 0) hx hb dX8_tick_56 (by decide) ?_
      refine x_istore_n (lv' := [(3, .inl 0), (0, .inr x0), (1, .inl x1), (2, .inl x2)]) C dX8_tick_57 hL (by decide) rfl (fun ls hL => ?_)
      exact k_X8_tick_58 C (fun y0 y1 y2 Gy H1 locs1 ls1 hL1 hR1 hS1 hd1 => ih hL1 hR1 hS1 hd1) FU (lx_sub hL [1, 2, 3, 0] rfl) hR hS hd
set_option maxHeartbeats 4000000 in
set_option maxRecDepth 100000 in
theorem k_X8_tick (C : Cx p s m args meth c RX8 cX8_tick 4 (some .int) b0 D E) {rr : Int32} {GG : Hp} {x0 : Nat} {x1 : Int32} {G : Hp} {ls : Array Slot} {H : Heap} {locs : List Loc} : lx ls 4 [(0, .inr x0), (1, .inl x1)] → Rp b0 D E G H → SS b0 s H locs → d_X8_tick x0 x1 G = some (rr, GG) → W p l e (rmd 7 (0) (0)) s m args below meth c H locs (0) (0) (MQ below (CQ b0 D E (some (.int rr)) GG) args s (0) (0) (fun q => b0 ≤ q)) (F0 m 0 ls []) := by
  intro hL hR hS hd
  unfold d_X8_tick at hd
  have hx := C.1
  have hb := C.2.1
  refine x_iload_n C dX8_tick_0 hL 1 rfl ?_
  refine lv_iconst (v := 1) hx hb dX8_tick_1 (by decide) ?_
  refine lv_icmp_lt (tgt := 26) hx hb dX8_tick_2 (by decide) (fun c1 => ?_) (fun c1 => ?_)
  · rw [if_pos c1] at hd
    refine lv_iconst (v := (-1)) hx hb dX8_tick_26 (by decide) ?_
    cases hd
    exact r_iret C dX8_tick_27 hR hS
  · rw [if_neg c1] at hd
    refine x_iload_n C dX8_tick_5 hL 1 rfl ?_
    refine lv_bipush (v := 50) hx hb dX8_tick_6 (by decide) ?_
    refine lv_icmp_gt (tgt := 26) hx hb dX8_tick_8 (by decide) (fun c2 => ?_) (fun c2 => ?_)
    · rw [if_pos c2] at hd
      refine lv_iconst (v := (-1)) hx hb dX8_tick_26 (by decide) ?_
      cases hd
      exact r_iret C dX8_tick_27 hR hS
    · rw [if_neg c2] at hd
      refine x_aload_n C dX8_tick_11 hL 0 rfl ?_
      obtain ⟨g3, hd⟩ := gd_ex hd
      refine r_getr (ci := 8) (k := 0) C fl_X8_33 rfl dX8_tick_12 hR g3 ?_
      obtain ⟨g4, hd⟩ := gd_ex hd
      refine r_geti (ci := 2) (k := 4) C fl_X8_64 rfl dX8_tick_15 hR g4 ?_
      refine x_iload_n C dX8_tick_18 hL 1 rfl ?_
      refine lv_iadd hx hb dX8_tick_19 ?_
      refine lv_sipush (v := 6000) hx hb dX8_tick_20 (by decide) ?_
      refine lv_icmp_le (tgt := 28) hx hb dX8_tick_23 (by decide) (fun c5 => ?_) (fun c5 => ?_)
      · rw [if_pos c5] at hd
        refine x_aload_n C dX8_tick_28 hL 0 rfl ?_
        refine r_getr (ci := 8) (k := 0) C fl_X8_33 rfl dX8_tick_29 hR g3 ?_
        refine r_getr (ci := 2) (k := 1) C fl_X8_87 rfl dX8_tick_32 hR g4 ?_
        refine x_aload_n C dX8_tick_35 hL 0 rfl ?_
        refine r_getr (ci := 8) (k := 0) C fl_X8_33 rfl dX8_tick_36 hR g3 ?_
        refine r_getr (ci := 2) (k := 0) C fl_X8_67 rfl dX8_tick_39 hR g4 ?_
        obtain ⟨g6, hd⟩ := gd_ex hd
        obtain ⟨G8, h7, hd⟩ := bo_ex hd
        refine r_callV (a := (hr G (hr G x0 0) 1)) (ci := 6) (As := [rv (hr G (hr G x0 0) 0)]) C (ct_X6_refresh h7) mf_X6_refresh ml_X8_140 mv_X6_refresh rfl ⟨Nat.le_of_ble_eq_true rfl, Nat.le_of_ble_eq_true rfl⟩ dX8_tick_42 (lx_size hL) rfl hR hS g6 ⟨Nat.le_refl _, Nat.le_refl _⟩ (cat_le [] (Nat.le_of_ble_eq_true rfl)) (fun H locs hR hS => ?_)
        refine W_st (st2 := []) rfl ?_
        refine lv_iconst (v := 0) hx hb dX8_tick_45 (by decide) ?_
        refine x_istore_n (lv' := [(2, .inl 0), (0, .inr x0), (1, .inl x1)]) C dX8_tick_46 hL (by decide) rfl (fun ls hL => ?_)
        exact k_X8_tick_47 C FU (lx_sub hL [1, 2, 0] rfl) hR hS hd
      · rw [if_neg c5] at hd
        refine lv_iconst (v := (-1)) hx hb dX8_tick_26 (by decide) ?_
        cases hd
        exact r_iret C dX8_tick_27 hR hS
end
set_option maxHeartbeats 4000000 in
set_option maxRecDepth 100000 in
theorem ct_X8_tick {l : Launch} {b0 : Nat} {D : va_G} {E : Nat → ClassId} {G : Hp} {a0 : Nat} {a1 : Int32} {rr : Int32} {GG : Hp} (hd : d_X8_tick a0 a1 G = some (rr, GG)) : CT l yX8_tick cX8_tick 4 (some .int) 7 0 0 b0 D E [rv a0, .int a1] G (some (.int rr)) GG := by
  refine CT_of (by decide +kernel) ?_
  intro p e s m below meth c C hnm hR
  refine r_entry [.inr a0, .inl a1] (n := 4) (Nat.le_of_ble_eq_true rfl) (lv := [(0, .inr a0), (1, .inl a1)]) rfl (fun ls hL => ?_)
  exact k_X8_tick C (lx_sub hL [0, 1] rfl) hR ⟨fun _ _ => rfl, fun _ h => by cases h⟩ hd

/-! GroveWorks.got(II)I pure -/
theorem dX8_got_0 : decode cX8_got 0 = .ok (.iload_n 1, 1) := by decide +kernel
theorem dX8_got_1 : decode cX8_got 1 = .ok (.bipush 16, 2) := by decide +kernel
theorem dX8_got_3 : decode cX8_got 3 = .ok (.invokestatic 61, 3) := by decide +kernel
theorem dX8_got_6 : decode cX8_got 6 = .ok (.ifCond .eq 14, 3) := by decide +kernel
theorem dX8_got_9 : decode cX8_got 9 = .ok (.iload_n 2, 1) := by decide +kernel
theorem dX8_got_10 : decode cX8_got 10 = .ok (.aload_n 0, 1) := by decide +kernel
theorem dX8_got_11 : decode cX8_got 11 = .ok (.getfield 15, 3) := by decide +kernel
theorem dX8_got_14 : decode cX8_got 14 = .ok (.invokestatic 61, 3) := by decide +kernel
theorem dX8_got_17 : decode cX8_got 17 = .ok (.ifCond .ne 5, 3) := by decide +kernel
theorem dX8_got_20 : decode cX8_got 20 = .ok (.iconst (-1), 1) := by decide +kernel
theorem dX8_got_21 : decode cX8_got 21 = .ok (.ireturn, 1) := by decide +kernel
theorem dX8_got_22 : decode cX8_got 22 = .ok (.aload_n 0, 1) := by decide +kernel
theorem dX8_got_23 : decode cX8_got 23 = .ok (.getfield 11, 3) := by decide +kernel
theorem dX8_got_26 : decode cX8_got 26 = .ok (.iload_n 1, 1) := by decide +kernel
theorem dX8_got_27 : decode cX8_got 27 = .ok (.aaload, 1) := by decide +kernel
theorem dX8_got_28 : decode cX8_got 28 = .ok (.ifnonnull 7, 3) := by decide +kernel
theorem dX8_got_31 : decode cX8_got 31 = .ok (.iconst 0, 1) := by decide +kernel
theorem dX8_got_32 : decode cX8_got 32 = .ok (.goto 14, 3) := by decide +kernel
theorem dX8_got_35 : decode cX8_got 35 = .ok (.aload_n 0, 1) := by decide +kernel
theorem dX8_got_36 : decode cX8_got 36 = .ok (.getfield 11, 3) := by decide +kernel
theorem dX8_got_39 : decode cX8_got 39 = .ok (.iload_n 1, 1) := by decide +kernel
theorem dX8_got_40 : decode cX8_got 40 = .ok (.aaload, 1) := by decide +kernel
theorem dX8_got_41 : decode cX8_got 41 = .ok (.getfield 185, 3) := by decide +kernel
theorem dX8_got_44 : decode cX8_got 44 = .ok (.iload_n 2, 1) := by decide +kernel
theorem dX8_got_45 : decode cX8_got 45 = .ok (.iaload, 1) := by decide +kernel
theorem dX8_got_46 : decode cX8_got 46 = .ok (.ireturn, 1) := by decide +kernel
def d_X8_got (x0 : Nat) (x1 : Int32) (x2 : Int32) (G : Hp) : Option (Int32) :=
  bo (d_X8_isIn x1 16 G) fun v2 =>
  if v2 = 0 then
    some (-1)
  else
    gd (hc G x0 = 9) <|
    bo (d_X8_isIn x2 (hi G x0 3) G) fun v6 =>
    if v6 = 0 then
      some (-1)
    else
      gd (hc G (hr G x0 2) = 14 ∧ ix x1 (hl G (hr G x0 2))) <|
      if (hr G (hr G x0 2) x1.toNatClampNeg) = 0 then
        some 0
      else
        gd (hc G (hr G x0 2) = 14 ∧ ix x1 (hl G (hr G x0 2))) <|
        gd (hc G (hr G (hr G x0 2) x1.toNatClampNeg) = 2) <|
        gd (hc G (hr G (hr G (hr G x0 2) x1.toNatClampNeg) 2) = 11 ∧ ix x2 (hl G (hr G (hr G (hr G x0 2) x1.toNatClampNeg) 2))) <|
        some (hi G (hr G (hr G (hr G x0 2) x1.toNatClampNeg) 2) x2.toNatClampNeg)
section
variable {p : Program} {l : Launch} {e : Env} {s : State} {m : MethodId} {args : Array Value} {below : List Frame} {meth : Method} {c : Code} {b0 : Nat} {D : va_G} {E : Nat → ClassId}
set_option maxHeartbeats 4000000 in
set_option maxRecDepth 100000 in
theorem k_X8_got (C : Cx p s m args meth c RX8 cX8_got 3 (some .int) b0 D E) {rr : Int32} {G : Hp} {x0 : Nat} {x1 : Int32} {x2 : Int32} {ls : Array Slot} {H : Heap} {locs : List Loc} : lx ls 3 [(0, .inr x0), (1, .inl x1), (2, .inl x2)] → Rp b0 D E G H → SS b0 s H locs → d_X8_got x0 x1 x2 G = some rr → W p l e (rmd 1 (0) (0)) s m args below meth c H locs (0) (0) (MQ below (CQ b0 D E (some (.int rr)) G) args s (0) (0) (fun q => b0 ≤ q)) (F0 m 0 ls []) := by
  intro hL hR hS hd
  unfold d_X8_got at hd
  have hx := C.1
  have hb := C.2.1
  refine x_iload_n C dX8_got_0 hL 1 rfl ?_
  refine lv_bipush (v := 16) hx hb dX8_got_1 (by decide) ?_
  obtain ⟨v2, h1, hd⟩ := bo_ex hd
  refine r_callS (As := [.int x1, .int 16]) C (ct_X8_isIn h1) mf_X8_isIn ml_X8_61 ms_X8_isIn rfl ⟨Nat.le_of_ble_eq_true rfl, Nat.le_of_ble_eq_true rfl⟩ dX8_got_3 (lx_size hL) rfl hR hS ⟨Nat.le_refl _, Nat.le_refl _⟩ (cat_le [] (Nat.le_of_ble_eq_true rfl)) (fun H locs hR hS => ?_)
  refine W_st (st2 := [.int v2]) rfl ?_
  refine lv_if_eq (tgt := 20) hx hb dX8_got_6 (by decide) (fun c3 => ?_) (fun c3 => ?_)
  · rw [if_pos c3] at hd
    refine lv_iconst (v := (-1)) hx hb dX8_got_20 (by decide) ?_
    cases hd
    exact r_iret C dX8_got_21 hR hS
  · rw [if_neg c3] at hd
    refine x_iload_n C dX8_got_9 hL 2 rfl ?_
    refine x_aload_n C dX8_got_10 hL 0 rfl ?_
    obtain ⟨g4, hd⟩ := gd_ex hd
    refine r_geti (ci := 8) (k := 3) C fl_X8_15 rfl dX8_got_11 hR g4 ?_
    obtain ⟨v6, h5, hd⟩ := bo_ex hd
    refine r_callS (As := [.int x2, .int (hi G x0 3)]) C (ct_X8_isIn h5) mf_X8_isIn ml_X8_61 ms_X8_isIn rfl ⟨Nat.le_of_ble_eq_true rfl, Nat.le_of_ble_eq_true rfl⟩ dX8_got_14 (lx_size hL) rfl hR hS ⟨Nat.le_refl _, Nat.le_refl _⟩ (cat_le [] (Nat.le_of_ble_eq_true rfl)) (fun H locs hR hS => ?_)
    refine W_st (st2 := [.int v6]) rfl ?_
    refine lv_if_ne (tgt := 22) hx hb dX8_got_17 (by decide) (fun c7 => ?_) (fun c7 => ?_)
    · rw [if_neg c7] at hd
      refine x_aload_n C dX8_got_22 hL 0 rfl ?_
      refine r_getr (ci := 8) (k := 2) C fl_X8_11 rfl dX8_got_23 hR g4 ?_
      refine x_iload_n C dX8_got_26 hL 1 rfl ?_
      obtain ⟨g8, hd⟩ := gd_ex hd
      refine r_aald (ci := 1) C (by decide) dX8_got_27 hR g8 ?_
      refine r_ifnonnull (tgt := 35) C dX8_got_28 (by decide) (fun c9 => ?_) (fun c9 => ?_)
      · rw [if_neg c9] at hd
        refine x_aload_n C dX8_got_35 hL 0 rfl ?_
        refine r_getr (ci := 8) (k := 2) C fl_X8_11 rfl dX8_got_36 hR g4 ?_
        refine x_iload_n C dX8_got_39 hL 1 rfl ?_
        obtain ⟨g10, hd⟩ := gd_ex hd
        refine r_aald (ci := 1) C (by decide) dX8_got_40 hR g10 ?_
        obtain ⟨g11, hd⟩ := gd_ex hd
        refine r_getr (ci := 1) (k := 2) C fl_X8_185 rfl dX8_got_41 hR g11 ?_
        refine x_iload_n C dX8_got_44 hL 2 rfl ?_
        obtain ⟨g12, hd⟩ := gd_ex hd
        refine r_iald C dX8_got_45 hR g12 ?_
        cases hd
        exact r_iret C dX8_got_46 hR hS
      · rw [if_pos c9] at hd
        refine lv_iconst (v := 0) hx hb dX8_got_31 (by decide) ?_
        refine lv_goto (tgt := 46) hx hb dX8_got_32 (by decide) ?_
        cases hd
        exact r_iret C dX8_got_46 hR hS
    · rw [if_pos c7] at hd
      refine lv_iconst (v := (-1)) hx hb dX8_got_20 (by decide) ?_
      cases hd
      exact r_iret C dX8_got_21 hR hS
end
set_option maxHeartbeats 4000000 in
set_option maxRecDepth 100000 in
theorem ct_X8_got {l : Launch} {b0 : Nat} {D : va_G} {E : Nat → ClassId} {G : Hp} {a0 : Nat} {a1 : Int32} {a2 : Int32} {rr : Int32} (hd : d_X8_got a0 a1 a2 G = some rr) : CT l yX8_got cX8_got 3 (some .int) 1 0 0 b0 D E [rv a0, .int a1, .int a2] G (some (.int rr)) G := by
  refine CT_of (by decide +kernel) ?_
  intro p e s m below meth c C hnm hR
  refine r_entry [.inr a0, .inl a1, .inl a2] (n := 3) (Nat.le_of_ble_eq_true rfl) (lv := [(0, .inr a0), (1, .inl a1), (2, .inl a2)]) rfl (fun ls hL => ?_)
  exact k_X8_got C (lx_sub hL [0, 1, 2] rfl) hR ⟨fun _ _ => rfl, fun _ h => by cases h⟩ hd

/-! GroveWorks.frame(III)I pure -/
theorem dX8_frame_0 : decode cX8_frame 0 = .ok (.iload_n 1, 1) := by decide +kernel
theorem dX8_frame_1 : decode cX8_frame 1 = .ok (.bipush 16, 2) := by decide +kernel
theorem dX8_frame_3 : decode cX8_frame 3 = .ok (.invokestatic 61, 3) := by decide +kernel
theorem dX8_frame_6 : decode cX8_frame 6 = .ok (.ifCond .eq 22, 3) := by decide +kernel
theorem dX8_frame_9 : decode cX8_frame 9 = .ok (.iload_n 2, 1) := by decide +kernel
theorem dX8_frame_10 : decode cX8_frame 10 = .ok (.aload_n 0, 1) := by decide +kernel
theorem dX8_frame_11 : decode cX8_frame 11 = .ok (.getfield 33, 3) := by decide +kernel
theorem dX8_frame_14 : decode cX8_frame 14 = .ok (.getfield 67, 3) := by decide +kernel
theorem dX8_frame_17 : decode cX8_frame 17 = .ok (.iload_n 1, 1) := by decide +kernel
theorem dX8_frame_18 : decode cX8_frame 18 = .ok (.aaload, 1) := by decide +kernel
theorem dX8_frame_19 : decode cX8_frame 19 = .ok (.getfield 110, 3) := by decide +kernel
theorem dX8_frame_22 : decode cX8_frame 22 = .ok (.invokestatic 61, 3) := by decide +kernel
theorem dX8_frame_25 : decode cX8_frame 25 = .ok (.ifCond .ne 6, 3) := by decide +kernel
theorem dX8_frame_28 : decode cX8_frame 28 = .ok (.bipush (-2), 2) := by decide +kernel
theorem dX8_frame_30 : decode cX8_frame 30 = .ok (.ireturn, 1) := by decide +kernel
theorem dX8_frame_31 : decode cX8_frame 31 = .ok (.aload_n 0, 1) := by decide +kernel
theorem dX8_frame_32 : decode cX8_frame 32 = .ok (.getfield 33, 3) := by decide +kernel
theorem dX8_frame_35 : decode cX8_frame 35 = .ok (.getfield 67, 3) := by decide +kernel
theorem dX8_frame_38 : decode cX8_frame 38 = .ok (.iload_n 1, 1) := by decide +kernel
theorem dX8_frame_39 : decode cX8_frame 39 = .ok (.aaload, 1) := by decide +kernel
theorem dX8_frame_40 : decode cX8_frame 40 = .ok (.getfield 188, 3) := by decide +kernel
theorem dX8_frame_43 : decode cX8_frame 43 = .ok (.iload_n 2, 1) := by decide +kernel
theorem dX8_frame_44 : decode cX8_frame 44 = .ok (.aaload, 1) := by decide +kernel
theorem dX8_frame_45 : decode cX8_frame 45 = .ok (.astore 4, 2) := by decide +kernel
theorem dX8_frame_47 : decode cX8_frame 47 = .ok (.aload 4, 2) := by decide +kernel
theorem dX8_frame_49 : decode cX8_frame 49 = .ok (.ifnonnull 8, 3) := by decide +kernel
theorem dX8_frame_52 : decode cX8_frame 52 = .ok (.bipush (-2), 2) := by decide +kernel
theorem dX8_frame_54 : decode cX8_frame 54 = .ok (.goto 9, 3) := by decide +kernel
theorem dX8_frame_57 : decode cX8_frame 57 = .ok (.aload 4, 2) := by decide +kernel
theorem dX8_frame_59 : decode cX8_frame 59 = .ok (.iload_n 3, 1) := by decide +kernel
theorem dX8_frame_60 : decode cX8_frame 60 = .ok (.invokevirtual 191, 3) := by decide +kernel
theorem dX8_frame_63 : decode cX8_frame 63 = .ok (.ireturn, 1) := by decide +kernel
def d_X8_frame (x0 : Nat) (x1 : Int32) (x2 : Int32) (x3 : Int32) (G : Hp) : Option (Int32) :=
  bo (d_X8_isIn x1 16 G) fun v2 =>
  if v2 = 0 then
    some (-2)
  else
    gd (hc G x0 = 9) <|
    gd (hc G (hr G x0 0) = 3) <|
    gd (hc G (hr G (hr G x0 0) 0) = 20 ∧ ix x1 (hl G (hr G (hr G x0 0) 0))) <|
    gd (hc G (hr G (hr G (hr G x0 0) 0) x1.toNatClampNeg) = 8) <|
    bo (d_X8_isIn x2 (hi G (hr G (hr G (hr G x0 0) 0) x1.toNatClampNeg) 6) G) fun v9 =>
    if v9 = 0 then
      some (-2)
    else
      gd (hc G (hr G (hr G x0 0) 0) = 20 ∧ ix x1 (hl G (hr G (hr G x0 0) 0))) <|
      gd (hc G (hr G (hr G (hr G (hr G x0 0) 0) x1.toNatClampNeg) 4) = 13 ∧ ix x2 (hl G (hr G (hr G (hr G (hr G x0 0) 0) x1.toNatClampNeg) 4))) <|
      bd ((hr G (hr G (hr G (hr G (hr G x0 0) 0) x1.toNatClampNeg) 4) x2.toNatClampNeg)) fun v13 =>
      if v13 = 0 then
        some (-2)
      else
        gd (hc G v13 = 1) <|
        bo (d_X0_tell v13 x3 G) fun v17 =>
        some v17
section
variable {p : Program} {l : Launch} {e : Env} {s : State} {m : MethodId} {args : Array Value} {below : List Frame} {meth : Method} {c : Code} {b0 : Nat} {D : va_G} {E : Nat → ClassId}
set_option maxHeartbeats 4000000 in
set_option maxRecDepth 100000 in
theorem k_X8_frame (C : Cx p s m args meth c RX8 cX8_frame 5 (some .int) b0 D E) {rr : Int32} {G : Hp} {x0 : Nat} {x1 : Int32} {x2 : Int32} {x3 : Int32} {ls : Array Slot} {H : Heap} {locs : List Loc} : lx ls 5 [(0, .inr x0), (1, .inl x1), (2, .inl x2), (3, .inl x3)] → Rp b0 D E G H → SS b0 s H locs → d_X8_frame x0 x1 x2 x3 G = some rr → W p l e (rmd 1 (0) (0)) s m args below meth c H locs (0) (0) (MQ below (CQ b0 D E (some (.int rr)) G) args s (0) (0) (fun q => b0 ≤ q)) (F0 m 0 ls []) := by
  intro hL hR hS hd
  unfold d_X8_frame at hd
  have hx := C.1
  have hb := C.2.1
  refine x_iload_n C dX8_frame_0 hL 1 rfl ?_
  refine lv_bipush (v := 16) hx hb dX8_frame_1 (by decide) ?_
  obtain ⟨v2, h1, hd⟩ := bo_ex hd
  refine r_callS (As := [.int x1, .int 16]) C (ct_X8_isIn h1) mf_X8_isIn ml_X8_61 ms_X8_isIn rfl ⟨Nat.le_of_ble_eq_true rfl, Nat.le_of_ble_eq_true rfl⟩ dX8_frame_3 (lx_size hL) rfl hR hS ⟨Nat.le_refl _, Nat.le_refl _⟩ (cat_le [] (Nat.le_of_ble_eq_true rfl)) (fun H locs hR hS => ?_)
  refine W_st (st2 := [.int v2]) rfl ?_
  refine lv_if_eq (tgt := 28) hx hb dX8_frame_6 (by decide) (fun c3 => ?_) (fun c3 => ?_)
  · rw [if_pos c3] at hd
    refine lv_bipush (v := (-2)) hx hb dX8_frame_28 (by decide) ?_
    cases hd
    exact r_iret C dX8_frame_30 hR hS
  · rw [if_neg c3] at hd
    refine x_iload_n C dX8_frame_9 hL 2 rfl ?_
    refine x_aload_n C dX8_frame_10 hL 0 rfl ?_
    obtain ⟨g4, hd⟩ := gd_ex hd
    refine r_getr (ci := 8) (k := 0) C fl_X8_33 rfl dX8_frame_11 hR g4 ?_
    obtain ⟨g5, hd⟩ := gd_ex hd
    refine r_getr (ci := 2) (k := 0) C fl_X8_67 rfl dX8_frame_14 hR g5 ?_
    refine x_iload_n C dX8_frame_17 hL 1 rfl ?_
    obtain ⟨g6, hd⟩ := gd_ex hd
    refine r_aald (ci := 7) C (by decide) dX8_frame_18 hR g6 ?_
    obtain ⟨g7, hd⟩ := gd_ex hd
    refine r_geti (ci := 7) (k := 6) C fl_X8_110 rfl dX8_frame_19 hR g7 ?_
    obtain ⟨v9, h8, hd⟩ := bo_ex hd
    refine r_callS (As := [.int x2, .int (hi G (hr G (hr G (hr G x0 0) 0) x1.toNatClampNeg) 6)]) C (ct_X8_isIn h8) mf_X8_isIn ml_X8_61 ms_X8_isIn rfl ⟨Nat.le_of_ble_eq_true rfl, Nat.le_of_ble_eq_true rfl⟩ dX8_frame_22 (lx_size hL) rfl hR hS ⟨Nat.le_refl _, Nat.le_refl _⟩ (cat_le [] (Nat.le_of_ble_eq_true rfl)) (fun H locs hR hS => ?_)
    refine W_st (st2 := [.int v9]) rfl ?_
    refine lv_if_ne (tgt := 31) hx hb dX8_frame_25 (by decide) (fun c10 => ?_) (fun c10 => ?_)
    · rw [if_neg c10] at hd
      refine x_aload_n C dX8_frame_31 hL 0 rfl ?_
      refine r_getr (ci := 8) (k := 0) C fl_X8_33 rfl dX8_frame_32 hR g4 ?_
      refine r_getr (ci := 2) (k := 0) C fl_X8_67 rfl dX8_frame_35 hR g5 ?_
      refine x_iload_n C dX8_frame_38 hL 1 rfl ?_
      obtain ⟨g11, hd⟩ := gd_ex hd
      refine r_aald (ci := 7) C (by decide) dX8_frame_39 hR g11 ?_
      refine r_getr (ci := 7) (k := 4) C fl_X8_188 rfl dX8_frame_40 hR g7 ?_
      refine x_iload_n C dX8_frame_43 hL 2 rfl ?_
      obtain ⟨g12, hd⟩ := gd_ex hd
      refine r_aald (ci := 0) C (by decide) dX8_frame_44 hR g12 ?_
      obtain ⟨v13, ev13, hd⟩ := bd_ex hd
      rw [← ev13]
      refine x_astore (lv' := [(4, .inr v13), (0, .inr x0), (1, .inl x1), (2, .inl x2), (3, .inl x3)]) C dX8_frame_45 hL (by decide) rfl (fun ls hL => ?_)
      refine x_aload C dX8_frame_47 hL 0 rfl ?_
      refine r_ifnonnull (tgt := 57) C dX8_frame_49 (by decide) (fun c14 => ?_) (fun c14 => ?_)
      · rw [if_neg c14] at hd
        refine x_aload C dX8_frame_57 hL 0 rfl ?_
        refine x_iload_n C dX8_frame_59 hL 4 rfl ?_
        obtain ⟨g15, hd⟩ := gd_ex hd
        obtain ⟨v17, h16, hd⟩ := bo_ex hd
        refine r_callV (a := v13) (ci := 0) (As := [.int x3]) C (ct_X0_tell h16) mf_X0_tell ml_X8_191 mv_X0_tell rfl ⟨Nat.le_of_ble_eq_true rfl, Nat.le_of_ble_eq_true rfl⟩ dX8_frame_60 (lx_size hL) rfl hR hS g15 ⟨Nat.le_refl _, Nat.le_refl _⟩ (cat_le [] (Nat.le_of_ble_eq_true rfl)) (fun H locs hR hS => ?_)
        refine W_st (st2 := [.int v17]) rfl ?_
        cases hd
        exact r_iret C dX8_frame_63 hR hS
      · rw [if_pos c14] at hd
        refine lv_bipush (v := (-2)) hx hb dX8_frame_52 (by decide) ?_
        refine lv_goto (tgt := 63) hx hb dX8_frame_54 (by decide) ?_
        cases hd
        exact r_iret C dX8_frame_63 hR hS
    · rw [if_pos c10] at hd
      refine lv_bipush (v := (-2)) hx hb dX8_frame_28 (by decide) ?_
      cases hd
      exact r_iret C dX8_frame_30 hR hS
end
set_option maxHeartbeats 4000000 in
set_option maxRecDepth 100000 in
theorem ct_X8_frame {l : Launch} {b0 : Nat} {D : va_G} {E : Nat → ClassId} {G : Hp} {a0 : Nat} {a1 : Int32} {a2 : Int32} {a3 : Int32} {rr : Int32} (hd : d_X8_frame a0 a1 a2 a3 G = some rr) : CT l yX8_frame cX8_frame 5 (some .int) 1 0 0 b0 D E [rv a0, .int a1, .int a2, .int a3] G (some (.int rr)) G := by
  refine CT_of (by decide +kernel) ?_
  intro p e s m below meth c C hnm hR
  refine r_entry [.inr a0, .inl a1, .inl a2, .inl a3] (n := 5) (Nat.le_of_ble_eq_true rfl) (lv := [(0, .inr a0), (1, .inl a1), (2, .inl a2), (3, .inl a3)]) rfl (fun ls hL => ?_)
  exact k_X8_frame C (lx_sub hL [0, 1, 2, 3] rfl) hR ⟨fun _ _ => rfl, fun _ h => by cases h⟩ hd

/-! GroveWorks.way(IZII)I -/
theorem dX8_way_0 : decode cX8_way 0 = .ok (.iload_n 1, 1) := by decide +kernel
theorem dX8_way_1 : decode cX8_way 1 = .ok (.aload_n 0, 1) := by decide +kernel
theorem dX8_way_2 : decode cX8_way 2 = .ok (.getfield 39, 3) := by decide +kernel
theorem dX8_way_5 : decode cX8_way 5 = .ok (.arraylength, 1) := by decide +kernel
theorem dX8_way_6 : decode cX8_way 6 = .ok (.invokestatic 61, 3) := by decide +kernel
theorem dX8_way_9 : decode cX8_way 9 = .ok (.ifCond .eq 24, 3) := by decide +kernel
theorem dX8_way_12 : decode cX8_way 12 = .ok (.iload_n 3, 1) := by decide +kernel
theorem dX8_way_13 : decode cX8_way 13 = .ok (.iload_n 2, 1) := by decide +kernel
theorem dX8_way_14 : decode cX8_way 14 = .ok (.ifCond .eq 8, 3) := by decide +kernel
theorem dX8_way_17 : decode cX8_way 17 = .ok (.bipush 16, 2) := by decide +kernel
theorem dX8_way_19 : decode cX8_way 19 = .ok (.goto 8, 3) := by decide +kernel
theorem dX8_way_22 : decode cX8_way 22 = .ok (.aload_n 0, 1) := by decide +kernel
theorem dX8_way_23 : decode cX8_way 23 = .ok (.getfield 39, 3) := by decide +kernel
theorem dX8_way_26 : decode cX8_way 26 = .ok (.arraylength, 1) := by decide +kernel
theorem dX8_way_27 : decode cX8_way 27 = .ok (.invokestatic 61, 3) := by decide +kernel
theorem dX8_way_30 : decode cX8_way 30 = .ok (.ifCond .ne 5, 3) := by decide +kernel
theorem dX8_way_33 : decode cX8_way 33 = .ok (.iconst (-1), 1) := by decide +kernel
theorem dX8_way_34 : decode cX8_way 34 = .ok (.ireturn, 1) := by decide +kernel
theorem dX8_way_35 : decode cX8_way 35 = .ok (.aload_n 0, 1) := by decide +kernel
theorem dX8_way_36 : decode cX8_way 36 = .ok (.getfield 33, 3) := by decide +kernel
theorem dX8_way_39 : decode cX8_way 39 = .ok (.getfield 87, 3) := by decide +kernel
theorem dX8_way_42 : decode cX8_way 42 = .ok (.aload_n 0, 1) := by decide +kernel
theorem dX8_way_43 : decode cX8_way 43 = .ok (.getfield 33, 3) := by decide +kernel
theorem dX8_way_46 : decode cX8_way 46 = .ok (.getfield 67, 3) := by decide +kernel
theorem dX8_way_49 : decode cX8_way 49 = .ok (.invokevirtual 140, 3) := by decide +kernel
theorem dX8_way_52 : decode cX8_way 52 = .ok (.iload_n 2, 1) := by decide +kernel
theorem dX8_way_53 : decode cX8_way 53 = .ok (.ifCond .eq 10, 3) := by decide +kernel
theorem dX8_way_56 : decode cX8_way 56 = .ok (.bipush 10, 2) := by decide +kernel
theorem dX8_way_58 : decode cX8_way 58 = .ok (.iload_n 3, 1) := by decide +kernel
theorem dX8_way_59 : decode cX8_way 59 = .ok (.iadd, 1) := by decide +kernel
theorem dX8_way_60 : decode cX8_way 60 = .ok (.goto 4, 3) := by decide +kernel
theorem dX8_way_63 : decode cX8_way 63 = .ok (.iload_n 3, 1) := by decide +kernel
theorem dX8_way_64 : decode cX8_way 64 = .ok (.istore 5, 2) := by decide +kernel
theorem dX8_way_66 : decode cX8_way 66 = .ok (.iload 4, 2) := by decide +kernel
theorem dX8_way_68 : decode cX8_way 68 = .ok (.tableswitch 93 0 2 #[28, 65, 79], 28) := by decide +kernel
theorem dX8_way_96 : decode cX8_way 96 = .ok (.aload_n 0, 1) := by decide +kernel
theorem dX8_way_97 : decode cX8_way 97 = .ok (.getfield 33, 3) := by decide +kernel
theorem dX8_way_100 : decode cX8_way 100 = .ok (.getfield 87, 3) := by decide +kernel
theorem dX8_way_103 : decode cX8_way 103 = .ok (.iload_n 1, 1) := by decide +kernel
theorem dX8_way_104 : decode cX8_way 104 = .ok (.iload 5, 2) := by decide +kernel
theorem dX8_way_106 : decode cX8_way 106 = .ok (.invokevirtual 195, 3) := by decide +kernel
theorem dX8_way_109 : decode cX8_way 109 = .ok (.sipush 9999, 3) := by decide +kernel
theorem dX8_way_112 : decode cX8_way 112 = .ok (.if_icmp .ne 7, 3) := by decide +kernel
theorem dX8_way_115 : decode cX8_way 115 = .ok (.iconst (-1), 1) := by decide +kernel
theorem dX8_way_116 : decode cX8_way 116 = .ok (.goto 16, 3) := by decide +kernel
theorem dX8_way_119 : decode cX8_way 119 = .ok (.aload_n 0, 1) := by decide +kernel
theorem dX8_way_120 : decode cX8_way 120 = .ok (.getfield 33, 3) := by decide +kernel
theorem dX8_way_123 : decode cX8_way 123 = .ok (.getfield 87, 3) := by decide +kernel
theorem dX8_way_126 : decode cX8_way 126 = .ok (.iload_n 1, 1) := by decide +kernel
theorem dX8_way_127 : decode cX8_way 127 = .ok (.iload 5, 2) := by decide +kernel
theorem dX8_way_129 : decode cX8_way 129 = .ok (.invokevirtual 195, 3) := by decide +kernel
theorem dX8_way_132 : decode cX8_way 132 = .ok (.ireturn, 1) := by decide +kernel
theorem dX8_way_133 : decode cX8_way 133 = .ok (.aload_n 0, 1) := by decide +kernel
theorem dX8_way_134 : decode cX8_way 134 = .ok (.getfield 33, 3) := by decide +kernel
theorem dX8_way_137 : decode cX8_way 137 = .ok (.getfield 87, 3) := by decide +kernel
theorem dX8_way_140 : decode cX8_way 140 = .ok (.iload_n 1, 1) := by decide +kernel
theorem dX8_way_141 : decode cX8_way 141 = .ok (.iload 5, 2) := by decide +kernel
theorem dX8_way_143 : decode cX8_way 143 = .ok (.invokevirtual 198, 3) := by decide +kernel
theorem dX8_way_146 : decode cX8_way 146 = .ok (.ireturn, 1) := by decide +kernel
theorem dX8_way_147 : decode cX8_way 147 = .ok (.aload_n 0, 1) := by decide +kernel
theorem dX8_way_148 : decode cX8_way 148 = .ok (.getfield 33, 3) := by decide +kernel
theorem dX8_way_151 : decode cX8_way 151 = .ok (.getfield 87, 3) := by decide +kernel
theorem dX8_way_154 : decode cX8_way 154 = .ok (.iload_n 1, 1) := by decide +kernel
theorem dX8_way_155 : decode cX8_way 155 = .ok (.iload 5, 2) := by decide +kernel
theorem dX8_way_157 : decode cX8_way 157 = .ok (.invokevirtual 201, 3) := by decide +kernel
theorem dX8_way_160 : decode cX8_way 160 = .ok (.ireturn, 1) := by decide +kernel
theorem dX8_way_161 : decode cX8_way 161 = .ok (.iconst (-1), 1) := by decide +kernel
theorem dX8_way_162 : decode cX8_way 162 = .ok (.ireturn, 1) := by decide +kernel
def d_X8_way_64 (x0 : Nat) (x1 : Int32) (x4 : Int32) (s0 : Int32) (G : Hp) : Option (Int32 × Hp) :=
  if x4 = 0 then
    gd (hc G x0 = 9) <|
    gd (hc G (hr G x0 0) = 3) <|
    gd (hc G (hr G (hr G x0 0) 1) = 7) <|
    bo (d_X6_distanceTo (hr G (hr G x0 0) 1) x1 s0 G) fun v6 =>
    if v6 = 9999 then
      some ((-1), G)
    else
      bo (d_X6_distanceTo (hr G (hr G x0 0) 1) x1 s0 G) fun v9 =>
      some (v9, G)
  else
  if x4 = 1 then
    gd (hc G x0 = 9) <|
    gd (hc G (hr G x0 0) = 3) <|
    gd (hc G (hr G (hr G x0 0) 1) = 7) <|
    bo (d_X6_portTo (hr G (hr G x0 0) 1) x1 s0 G) fun v14 =>
    some (v14, G)
  else
  if x4 = 2 then
    gd (hc G x0 = 9) <|
    gd (hc G (hr G x0 0) = 3) <|
    gd (hc G (hr G (hr G x0 0) 1) = 7) <|
    bo (d_X6_routerTo (hr G (hr G x0 0) 1) x1 s0 G) fun v19 =>
    some (v19, G)
  else
  some ((-1), G)
def d_X8_way_27 (x0 : Nat) (x1 : Int32) (x2 : Int32) (x3 : Int32) (x4 : Int32) (s0 : Int32) (s1 : Int32) (G : Hp) : Option (Int32 × Hp) :=
  bo (d_X8_isIn s1 s0 G) fun v2 =>
  if v2 = 0 then
    some ((-1), G)
  else
    gd (hc G x0 = 9) <|
    gd (hc G (hr G x0 0) = 3) <|
    gd (hc G (hr G (hr G x0 0) 1) = 7) <|
    bo (d_X6_refresh (hr G (hr G x0 0) 1) (hr G (hr G x0 0) 0) G) fun G8 =>
    if x2 = 0 then
      d_X8_way_64 x0 x1 x4 x3 G8
    else
      d_X8_way_64 x0 x1 x4 (10 + x3) G8
def d_X8_way (x0 : Nat) (x1 : Int32) (x2 : Int32) (x3 : Int32) (x4 : Int32) (G : Hp) : Option (Int32 × Hp) :=
  gd (hc G x0 = 9) <|
  gd (hc G (hr G x0 1) = 17) <|
  bo (d_X8_isIn x1 (nI (hl G (hr G x0 1))) G) fun v4 =>
  if v4 = 0 then
    some ((-1), G)
  else
    if x2 = 0 then
      d_X8_way_27 x0 x1 x2 x3 x4 (nI (hl G (hr G x0 1))) x3 G
    else
      d_X8_way_27 x0 x1 x2 x3 x4 16 x3 G
section
variable {p : Program} {l : Launch} {e : Env} {s : State} {m : MethodId} {args : Array Value} {below : List Frame} {meth : Method} {c : Code} {b0 : Nat} {D : va_G} {E : Nat → ClassId}
set_option maxHeartbeats 4000000 in
set_option maxRecDepth 100000 in
theorem k_X8_way_64 (C : Cx p s m args meth c RX8 cX8_way 6 (some .int) b0 D E) {rr : Int32} {GG : Hp} {x0 : Nat} {x1 : Int32} {x4 : Int32} {s0 : Int32} {G : Hp} {ls : Array Slot} {H : Heap} {locs : List Loc} : lx ls 6 [(0, .inr x0), (1, .inl x1), (4, .inl x4)] → Rp b0 D E G H → SS b0 s H locs → d_X8_way_64 x0 x1 x4 s0 G = some (rr, GG) → W p l e (rmd 3 (0) (0)) s m args below meth c H locs (0) (0) (MQ below (CQ b0 D E (some (.int rr)) GG) args s (0) (0) (fun q => b0 ≤ q)) (F0 m 64 ls [.int s0]) := by
  intro hL hR hS hd
  unfold d_X8_way_64 at hd
  have hx := C.1
  have hb := C.2.1
  refine x_istore (lv' := [(5, .inl s0), (0, .inr x0), (1, .inl x1), (4, .inl x4)]) C dX8_way_64 hL (by decide) rfl (fun ls hL => ?_)
  refine x_iload C dX8_way_66 hL 3 rfl ?_
  by_cases c1_0 : x4 = 0
  · rw [if_pos c1_0] at hd
    rw [c1_0]
    refine lv_tableIn (tgt := 96) hx hb dX8_way_68 (by decide) (by decide) rfl (by decide) ?_
    refine x_aload_n C dX8_way_96 hL 1 rfl ?_
    obtain ⟨g2, hd⟩ := gd_ex hd
    refine r_getr (ci := 8) (k := 0) C fl_X8_33 rfl dX8_way_97 hR g2 ?_
    obtain ⟨g3, hd⟩ := gd_ex hd
    refine r_getr (ci := 2) (k := 1) C fl_X8_87 rfl dX8_way_100 hR g3 ?_
    refine x_iload_n C dX8_way_103 hL 2 rfl ?_
    refine x_iload C dX8_way_104 hL 0 rfl ?_
    obtain ⟨g4, hd⟩ := gd_ex hd
    obtain ⟨v6, h5, hd⟩ := bo_ex hd
    refine r_callV (a := (hr G (hr G x0 0) 1)) (ci := 6) (As := [.int x1, .int s0]) C (ct_X6_distanceTo h5) mf_X6_distanceTo ml_X8_195 mv_X6_distanceTo rfl ⟨Nat.le_of_ble_eq_true rfl, Nat.le_of_ble_eq_true rfl⟩ dX8_way_106 (lx_size hL) rfl hR hS g4 ⟨Nat.le_refl _, Nat.le_refl _⟩ (cat_le [] (Nat.le_of_ble_eq_true rfl)) (fun H locs hR hS => ?_)
    refine W_st (st2 := [.int v6]) rfl ?_
    refine lv_sipush (v := 9999) hx hb dX8_way_109 (by decide) ?_
    refine lv_icmp_ne (tgt := 119) hx hb dX8_way_112 (by decide) (fun c7 => ?_) (fun c7 => ?_)
    · rw [if_neg c7] at hd
      refine x_aload_n C dX8_way_119 hL 1 rfl ?_
      refine r_getr (ci := 8) (k := 0) C fl_X8_33 rfl dX8_way_120 hR g2 ?_
      refine r_getr (ci := 2) (k := 1) C fl_X8_87 rfl dX8_way_123 hR g3 ?_
      refine x_iload_n C dX8_way_126 hL 2 rfl ?_
      refine x_iload C dX8_way_127 hL 0 rfl ?_
      obtain ⟨v9, h8, hd⟩ := bo_ex hd
      refine r_callV (a := (hr G (hr G x0 0) 1)) (ci := 6) (As := [.int x1, .int s0]) C (ct_X6_distanceTo h8) mf_X6_distanceTo ml_X8_195 mv_X6_distanceTo rfl ⟨Nat.le_of_ble_eq_true rfl, Nat.le_of_ble_eq_true rfl⟩ dX8_way_129 (lx_size hL) rfl hR hS g4 ⟨Nat.le_refl _, Nat.le_refl _⟩ (cat_le [] (Nat.le_of_ble_eq_true rfl)) (fun H locs hR hS => ?_)
      refine W_st (st2 := [.int v9]) rfl ?_
      cases hd
      exact r_iret C dX8_way_132 hR hS
    · rw [if_pos c7] at hd
      refine lv_iconst (v := (-1)) hx hb dX8_way_115 (by decide) ?_
      refine lv_goto (tgt := 132) hx hb dX8_way_116 (by decide) ?_
      cases hd
      exact r_iret C dX8_way_132 hR hS
  rw [if_neg c1_0] at hd
  by_cases c1_1 : x4 = 1
  · rw [if_pos c1_1] at hd
    rw [c1_1]
    refine lv_tableIn (tgt := 133) hx hb dX8_way_68 (by decide) (by decide) rfl (by decide) ?_
    refine x_aload_n C dX8_way_133 hL 1 rfl ?_
    obtain ⟨g10, hd⟩ := gd_ex hd
    refine r_getr (ci := 8) (k := 0) C fl_X8_33 rfl dX8_way_134 hR g10 ?_
    obtain ⟨g11, hd⟩ := gd_ex hd
    refine r_getr (ci := 2) (k := 1) C fl_X8_87 rfl dX8_way_137 hR g11 ?_
    refine x_iload_n C dX8_way_140 hL 2 rfl ?_
    refine x_iload C dX8_way_141 hL 0 rfl ?_
    obtain ⟨g12, hd⟩ := gd_ex hd
    obtain ⟨v14, h13, hd⟩ := bo_ex hd
    refine r_callV (a := (hr G (hr G x0 0) 1)) (ci := 6) (As := [.int x1, .int s0]) C (ct_X6_portTo h13) mf_X6_portTo ml_X8_198 mv_X6_portTo rfl ⟨Nat.le_of_ble_eq_true rfl, Nat.le_of_ble_eq_true rfl⟩ dX8_way_143 (lx_size hL) rfl hR hS g12 ⟨Nat.le_refl _, Nat.le_refl _⟩ (cat_le [] (Nat.le_of_ble_eq_true rfl)) (fun H locs hR hS => ?_)
    refine W_st (st2 := [.int v14]) rfl ?_
    cases hd
    exact r_iret C dX8_way_146 hR hS
  rw [if_neg c1_1] at hd
  by_cases c1_2 : x4 = 2
  · rw [if_pos c1_2] at hd
    rw [c1_2]
    refine lv_tableIn (tgt := 147) hx hb dX8_way_68 (by decide) (by decide) rfl (by decide) ?_
    refine x_aload_n C dX8_way_147 hL 1 rfl ?_
    obtain ⟨g15, hd⟩ := gd_ex hd
    refine r_getr (ci := 8) (k := 0) C fl_X8_33 rfl dX8_way_148 hR g15 ?_
    obtain ⟨g16, hd⟩ := gd_ex hd
    refine r_getr (ci := 2) (k := 1) C fl_X8_87 rfl dX8_way_151 hR g16 ?_
    refine x_iload_n C dX8_way_154 hL 2 rfl ?_
    refine x_iload C dX8_way_155 hL 0 rfl ?_
    obtain ⟨g17, hd⟩ := gd_ex hd
    obtain ⟨v19, h18, hd⟩ := bo_ex hd
    refine r_callV (a := (hr G (hr G x0 0) 1)) (ci := 6) (As := [.int x1, .int s0]) C (ct_X6_routerTo h18) mf_X6_routerTo ml_X8_201 mv_X6_routerTo rfl ⟨Nat.le_of_ble_eq_true rfl, Nat.le_of_ble_eq_true rfl⟩ dX8_way_157 (lx_size hL) rfl hR hS g17 ⟨Nat.le_refl _, Nat.le_refl _⟩ (cat_le [] (Nat.le_of_ble_eq_true rfl)) (fun H locs hR hS => ?_)
    refine W_st (st2 := [.int v19]) rfl ?_
    cases hd
    exact r_iret C dX8_way_160 hR hS
  rw [if_neg c1_2] at hd
  have z_0 := i32_ne c1_0
  have z_1 := i32_ne c1_1
  have z_2 := i32_ne c1_2
  refine lv_tableOut (tgt := 161) hx hb dX8_way_68 (by simp only [show ((0 : Int32)).toInt = 0 from rfl, show ((1 : Int32)).toInt = 1 from rfl, show ((2 : Int32)).toInt = 2 from rfl] at z_0 z_1 z_2; omega) (by decide) ?_
  refine lv_iconst (v := (-1)) hx hb dX8_way_161 (by decide) ?_
  cases hd
  exact r_iret C dX8_way_162 hR hS
set_option maxHeartbeats 4000000 in
set_option maxRecDepth 100000 in
theorem k_X8_way_27 (C : Cx p s m args meth c RX8 cX8_way 6 (some .int) b0 D E) {rr : Int32} {GG : Hp} {x0 : Nat} {x1 : Int32} {x2 : Int32} {x3 : Int32} {x4 : Int32} {s0 : Int32} {s1 : Int32} {G : Hp} {ls : Array Slot} {H : Heap} {locs : List Loc} : lx ls 6 [(0, .inr x0), (1, .inl x1), (2, .inl x2), (3, .inl x3), (4, .inl x4)] → Rp b0 D E G H → SS b0 s H locs → d_X8_way_27 x0 x1 x2 x3 x4 s0 s1 G = some (rr, GG) → W p l e (rmd 3 (0) (0)) s m args below meth c H locs (0) (0) (MQ below (CQ b0 D E (some (.int rr)) GG) args s (0) (0) (fun q => b0 ≤ q)) (F0 m 27 ls [.int s0, .int s1]) := by
  intro hL hR hS hd
  unfold d_X8_way_27 at hd
  have hx := C.1
  have hb := C.2.1
  obtain ⟨v2, h1, hd⟩ := bo_ex hd
  refine r_callS (As := [.int s1, .int s0]) C (ct_X8_isIn h1) mf_X8_isIn ml_X8_61 ms_X8_isIn rfl ⟨Nat.le_of_ble_eq_true rfl, Nat.le_of_ble_eq_true rfl⟩ dX8_way_27 (lx_size hL) rfl hR hS ⟨Nat.le_refl _, Nat.le_refl _⟩ (cat_le [] (Nat.le_of_ble_eq_true rfl)) (fun H locs hR hS => ?_)
  refine W_st (st2 := [.int v2]) rfl ?_
  refine lv_if_ne (tgt := 35) hx hb dX8_way_30 (by decide) (fun c3 => ?_) (fun c3 => ?_)
  · rw [if_neg c3] at hd
    refine x_aload_n C dX8_way_35 hL 0 rfl ?_
    obtain ⟨g4, hd⟩ := gd_ex hd
    refine r_getr (ci := 8) (k := 0) C fl_X8_33 rfl dX8_way_36 hR g4 ?_
    obtain ⟨g5, hd⟩ := gd_ex hd
    refine r_getr (ci := 2) (k := 1) C fl_X8_87 rfl dX8_way_39 hR g5 ?_
    refine x_aload_n C dX8_way_42 hL 0 rfl ?_
    refine r_getr (ci := 8) (k := 0) C fl_X8_33 rfl dX8_way_43 hR g4 ?_
    refine r_getr (ci := 2) (k := 0) C fl_X8_67 rfl dX8_way_46 hR g5 ?_
    obtain ⟨g6, hd⟩ := gd_ex hd
    obtain ⟨G8, h7, hd⟩ := bo_ex hd
    refine r_callV (a := (hr G (hr G x0 0) 1)) (ci := 6) (As := [rv (hr G (hr G x0 0) 0)]) C (ct_X6_refresh h7) mf_X6_refresh ml_X8_140 mv_X6_refresh rfl ⟨Nat.le_of_ble_eq_true rfl, Nat.le_of_ble_eq_true rfl⟩ dX8_way_49 (lx_size hL) rfl hR hS g6 ⟨Nat.le_refl _, Nat.le_refl _⟩ (cat_le [] (Nat.le_of_ble_eq_true rfl)) (fun H locs hR hS => ?_)
    refine W_st (st2 := []) rfl ?_
    refine x_iload_n C dX8_way_52 hL 2 rfl ?_
    refine lv_if_eq (tgt := 63) hx hb dX8_way_53 (by decide) (fun c9 => ?_) (fun c9 => ?_)
    · rw [if_pos c9] at hd
      refine x_iload_n C dX8_way_63 hL 3 rfl ?_
      exact k_X8_way_64 C (lx_sub hL [0, 1, 4] rfl) hR hS hd
    · rw [if_neg c9] at hd
      refine lv_bipush (v := 10) hx hb dX8_way_56 (by decide) ?_
      refine x_iload_n C dX8_way_58 hL 3 rfl ?_
      refine lv_iadd hx hb dX8_way_59 ?_
      refine lv_goto (tgt := 64) hx hb dX8_way_60 (by decide) ?_
      exact k_X8_way_64 C (lx_sub hL [0, 1, 4] rfl) hR hS hd
  · rw [if_pos c3] at hd
    refine lv_iconst (v := (-1)) hx hb dX8_way_33 (by decide) ?_
    cases hd
    exact r_iret C dX8_way_34 hR hS
set_option maxHeartbeats 4000000 in
set_option maxRecDepth 100000 in
theorem k_X8_way (C : Cx p s m args meth c RX8 cX8_way 6 (some .int) b0 D E) {rr : Int32} {GG : Hp} {x0 : Nat} {x1 : Int32} {x2 : Int32} {x3 : Int32} {x4 : Int32} {G : Hp} {ls : Array Slot} {H : Heap} {locs : List Loc} : lx ls 6 [(0, .inr x0), (1, .inl x1), (2, .inl x2), (3, .inl x3), (4, .inl x4)] → Rp b0 D E G H → SS b0 s H locs → d_X8_way x0 x1 x2 x3 x4 G = some (rr, GG) → W p l e (rmd 3 (0) (0)) s m args below meth c H locs (0) (0) (MQ below (CQ b0 D E (some (.int rr)) GG) args s (0) (0) (fun q => b0 ≤ q)) (F0 m 0 ls []) := by
  intro hL hR hS hd
  unfold d_X8_way at hd
  have hx := C.1
  have hb := C.2.1
  refine x_iload_n C dX8_way_0 hL 1 rfl ?_
  refine x_aload_n C dX8_way_1 hL 0 rfl ?_
  obtain ⟨g1, hd⟩ := gd_ex hd
  refine r_getr (ci := 8) (k := 1) C fl_X8_39 rfl dX8_way_2 hR g1 ?_
  obtain ⟨g2, hd⟩ := gd_ex hd
  refine r_alen C dX8_way_5 hR (Or.inr ⟨4, by decide, g2⟩) ?_
  obtain ⟨v4, h3, hd⟩ := bo_ex hd
  refine r_callS (As := [.int x1, .int (nI (hl G (hr G x0 1)))]) C (ct_X8_isIn h3) mf_X8_isIn ml_X8_61 ms_X8_isIn rfl ⟨Nat.le_of_ble_eq_true rfl, Nat.le_of_ble_eq_true rfl⟩ dX8_way_6 (lx_size hL) rfl hR hS ⟨Nat.le_refl _, Nat.le_refl _⟩ (cat_le [] (Nat.le_of_ble_eq_true rfl)) (fun H locs hR hS => ?_)
  refine W_st (st2 := [.int v4]) rfl ?_
  refine lv_if_eq (tgt := 33) hx hb dX8_way_9 (by decide) (fun c5 => ?_) (fun c5 => ?_)
  · rw [if_pos c5] at hd
    refine lv_iconst (v := (-1)) hx hb dX8_way_33 (by decide) ?_
    cases hd
    exact r_iret C dX8_way_34 hR hS
  · rw [if_neg c5] at hd
    refine x_iload_n C dX8_way_12 hL 3 rfl ?_
    refine x_iload_n C dX8_way_13 hL 2 rfl ?_
    refine lv_if_eq (tgt := 22) hx hb dX8_way_14 (by decide) (fun c6 => ?_) (fun c6 => ?_)
    · rw [if_pos c6] at hd
      refine x_aload_n C dX8_way_22 hL 0 rfl ?_
      refine r_getr (ci := 8) (k := 1) C fl_X8_39 rfl dX8_way_23 hR g1 ?_
      refine r_alen C dX8_way_26 hR (Or.inr ⟨4, by decide, g2⟩) ?_
      exact k_X8_way_27 C hL hR hS hd
    · rw [if_neg c6] at hd
      refine lv_bipush (v := 16) hx hb dX8_way_17 (by decide) ?_
      refine lv_goto (tgt := 27) hx hb dX8_way_19 (by decide) ?_
      exact k_X8_way_27 C hL hR hS hd
end
set_option maxHeartbeats 4000000 in
set_option maxRecDepth 100000 in
theorem ct_X8_way {l : Launch} {b0 : Nat} {D : va_G} {E : Nat → ClassId} {G : Hp} {a0 : Nat} {a1 : Int32} {a2 : Int32} {a3 : Int32} {a4 : Int32} {rr : Int32} {GG : Hp} (hd : d_X8_way a0 a1 a2 a3 a4 G = some (rr, GG)) : CT l yX8_way cX8_way 6 (some .int) 3 0 0 b0 D E [rv a0, .int a1, .int a2, .int a3, .int a4] G (some (.int rr)) GG := by
  refine CT_of (by decide +kernel) ?_
  intro p e s m below meth c C hnm hR
  refine r_entry [.inr a0, .inl a1, .inl a2, .inl a3, .inl a4] (n := 6) (Nat.le_of_ble_eq_true rfl) (lv := [(0, .inr a0), (1, .inl a1), (2, .inl a2), (3, .inl a3), (4, .inl a4)]) rfl (fun ls hL => ?_)
  exact k_X8_way C (lx_sub hL [0, 1, 2, 3, 4] rfl) hR ⟨fun _ _ => rfl, fun _ h => by cases h⟩ hd

/-! GroveWorks.port(III)I pure -/
theorem dX8_port_0 : decode cX8_port 0 = .ok (.aload_n 0, 1) := by decide +kernel
theorem dX8_port_1 : decode cX8_port 1 = .ok (.iload_n 1, 1) := by decide +kernel
theorem dX8_port_2 : decode cX8_port 2 = .ok (.iload_n 2, 1) := by decide +kernel
theorem dX8_port_3 : decode cX8_port 3 = .ok (.invokevirtual 57, 3) := by decide +kernel
theorem dX8_port_6 : decode cX8_port 6 = .ok (.ifCond .eq 17, 3) := by decide +kernel
theorem dX8_port_9 : decode cX8_port 9 = .ok (.aload_n 0, 1) := by decide +kernel
theorem dX8_port_10 : decode cX8_port 10 = .ok (.getfield 39, 3) := by decide +kernel
theorem dX8_port_13 : decode cX8_port 13 = .ok (.iload_n 1, 1) := by decide +kernel
theorem dX8_port_14 : decode cX8_port 14 = .ok (.aaload, 1) := by decide +kernel
theorem dX8_port_15 : decode cX8_port 15 = .ok (.getfield 71, 3) := by decide +kernel
theorem dX8_port_18 : decode cX8_port 18 = .ok (.iload_n 2, 1) := by decide +kernel
theorem dX8_port_19 : decode cX8_port 19 = .ok (.aaload, 1) := by decide +kernel
theorem dX8_port_20 : decode cX8_port 20 = .ok (.ifnonnull 5, 3) := by decide +kernel
theorem dX8_port_23 : decode cX8_port 23 = .ok (.iconst (-1), 1) := by decide +kernel
theorem dX8_port_24 : decode cX8_port 24 = .ok (.ireturn, 1) := by decide +kernel
theorem dX8_port_25 : decode cX8_port 25 = .ok (.aload_n 0, 1) := by decide +kernel
theorem dX8_port_26 : decode cX8_port 26 = .ok (.getfield 39, 3) := by decide +kernel
theorem dX8_port_29 : decode cX8_port 29 = .ok (.iload_n 1, 1) := by decide +kernel
theorem dX8_port_30 : decode cX8_port 30 = .ok (.aaload, 1) := by decide +kernel
theorem dX8_port_31 : decode cX8_port 31 = .ok (.getfield 71, 3) := by decide +kernel
theorem dX8_port_34 : decode cX8_port 34 = .ok (.iload_n 2, 1) := by decide +kernel
theorem dX8_port_35 : decode cX8_port 35 = .ok (.aaload, 1) := by decide +kernel
theorem dX8_port_36 : decode cX8_port 36 = .ok (.astore 4, 2) := by decide +kernel
theorem dX8_port_38 : decode cX8_port 38 = .ok (.iload_n 3, 1) := by decide +kernel
theorem dX8_port_39 : decode cX8_port 39 = .ok (.tableswitch 82 0 4 #[33, 42, 48, 54, 68], 33) := by decide +kernel
theorem dX8_port_72 : decode cX8_port 72 = .ok (.aload 4, 2) := by decide +kernel
theorem dX8_port_74 : decode cX8_port 74 = .ok (.getfield 204, 3) := by decide +kernel
theorem dX8_port_77 : decode cX8_port 77 = .ok (.getfield 179, 3) := by decide +kernel
theorem dX8_port_80 : decode cX8_port 80 = .ok (.ireturn, 1) := by decide +kernel
theorem dX8_port_81 : decode cX8_port 81 = .ok (.aload 4, 2) := by decide +kernel
theorem dX8_port_83 : decode cX8_port 83 = .ok (.getfield 205, 3) := by decide +kernel
theorem dX8_port_86 : decode cX8_port 86 = .ok (.ireturn, 1) := by decide +kernel
theorem dX8_port_87 : decode cX8_port 87 = .ok (.aload 4, 2) := by decide +kernel
theorem dX8_port_89 : decode cX8_port 89 = .ok (.getfield 208, 3) := by decide +kernel
theorem dX8_port_92 : decode cX8_port 92 = .ok (.ireturn, 1) := by decide +kernel
theorem dX8_port_93 : decode cX8_port 93 = .ok (.aload 4, 2) := by decide +kernel
theorem dX8_port_95 : decode cX8_port 95 = .ok (.invokevirtual 211, 3) := by decide +kernel
theorem dX8_port_98 : decode cX8_port 98 = .ok (.ifCond .eq 7, 3) := by decide +kernel
theorem dX8_port_101 : decode cX8_port 101 = .ok (.iconst 1, 1) := by decide +kernel
theorem dX8_port_102 : decode cX8_port 102 = .ok (.goto 4, 3) := by decide +kernel
theorem dX8_port_105 : decode cX8_port 105 = .ok (.iconst 0, 1) := by decide +kernel
theorem dX8_port_106 : decode cX8_port 106 = .ok (.ireturn, 1) := by decide +kernel
theorem dX8_port_107 : decode cX8_port 107 = .ok (.aload 4, 2) := by decide +kernel
theorem dX8_port_109 : decode cX8_port 109 = .ok (.invokevirtual 215, 3) := by decide +kernel
theorem dX8_port_112 : decode cX8_port 112 = .ok (.ifCond .eq 7, 3) := by decide +kernel
theorem dX8_port_115 : decode cX8_port 115 = .ok (.iconst 1, 1) := by decide +kernel
theorem dX8_port_116 : decode cX8_port 116 = .ok (.goto 4, 3) := by decide +kernel
theorem dX8_port_119 : decode cX8_port 119 = .ok (.iconst 0, 1) := by decide +kernel
theorem dX8_port_120 : decode cX8_port 120 = .ok (.ireturn, 1) := by decide +kernel
theorem dX8_port_121 : decode cX8_port 121 = .ok (.iconst (-1), 1) := by decide +kernel
theorem dX8_port_122 : decode cX8_port 122 = .ok (.ireturn, 1) := by decide +kernel
def d_X8_port (x0 : Nat) (x1 : Int32) (x2 : Int32) (x3 : Int32) (G : Hp) : Option (Int32) :=
  gd (hc G x0 = 9) <|
  bo (d_X8_isPort x0 x1 x2 G) fun v3 =>
  if v3 = 0 then
    some (-1)
  else
    gd (hc G (hr G x0 1) = 17 ∧ ix x1 (hl G (hr G x0 1))) <|
    gd (hc G (hr G (hr G x0 1) x1.toNatClampNeg) = 5) <|
    gd (hc G (hr G (hr G (hr G x0 1) x1.toNatClampNeg) 2) = 16 ∧ ix x2 (hl G (hr G (hr G (hr G x0 1) x1.toNatClampNeg) 2))) <|
    if (hr G (hr G (hr G (hr G x0 1) x1.toNatClampNeg) 2) x2.toNatClampNeg) = 0 then
      some (-1)
    else
      gd (hc G (hr G x0 1) = 17 ∧ ix x1 (hl G (hr G x0 1))) <|
      gd (hc G (hr G (hr G (hr G x0 1) x1.toNatClampNeg) 2) = 16 ∧ ix x2 (hl G (hr G (hr G (hr G x0 1) x1.toNatClampNeg) 2))) <|
      bd ((hr G (hr G (hr G (hr G x0 1) x1.toNatClampNeg) 2) x2.toNatClampNeg)) fun v11 =>
      if x3 = 0 then
        gd (hc G v11 = 4) <|
        gd (hc G (hr G v11 2) = 8) <|
        some (hi G (hr G v11 2) 0)
      else
      if x3 = 1 then
        gd (hc G v11 = 4) <|
        some (hi G v11 3)
      else
      if x3 = 2 then
        gd (hc G v11 = 4) <|
        some (hi G v11 4)
      else
      if x3 = 3 then
        gd (hc G v11 = 4) <|
        bo (d_X3_isFirst v11 G) fun v19 =>
        if v19 = 0 then
          some 0
        else
          some 1
      else
      if x3 = 4 then
        gd (hc G v11 = 4) <|
        bo (d_X3_isAsking v11 G) fun v23 =>
        if v23 = 0 then
          some 0
        else
          some 1
      else
      some (-1)
section
variable {p : Program} {l : Launch} {e : Env} {s : State} {m : MethodId} {args : Array Value} {below : List Frame} {meth : Method} {c : Code} {b0 : Nat} {D : va_G} {E : Nat → ClassId}
set_option maxHeartbeats 4000000 in
set_option maxRecDepth 100000 in
theorem k_X8_port (C : Cx p s m args meth c RX8 cX8_port 5 (some .int) b0 D E) {rr : Int32} {G : Hp} {x0 : Nat} {x1 : Int32} {x2 : Int32} {x3 : Int32} {ls : Array Slot} {H : Heap} {locs : List Loc} : lx ls 5 [(0, .inr x0), (1, .inl x1), (2, .inl x2), (3, .inl x3)] → Rp b0 D E G H → SS b0 s H locs → d_X8_port x0 x1 x2 x3 G = some rr → W p l e (rmd 2 (0) (0)) s m args below meth c H locs (0) (0) (MQ below (CQ b0 D E (some (.int rr)) G) args s (0) (0) (fun q => b0 ≤ q)) (F0 m 0 ls []) := by
  intro hL hR hS hd
  unfold d_X8_port at hd
  have hx := C.1
  have hb := C.2.1
  refine x_aload_n C dX8_port_0 hL 0 rfl ?_
  refine x_iload_n C dX8_port_1 hL 1 rfl ?_
  refine x_iload_n C dX8_port_2 hL 2 rfl ?_
  obtain ⟨g1, hd⟩ := gd_ex hd
  obtain ⟨v3, h2, hd⟩ := bo_ex hd
  refine r_callV (a := x0) (ci := 8) (As := [.int x1, .int x2]) C (ct_X8_isPort h2) mf_X8_isPort ml_X8_57 mv_X8_isPort rfl ⟨Nat.le_of_ble_eq_true rfl, Nat.le_of_ble_eq_true rfl⟩ dX8_port_3 (lx_size hL) rfl hR hS g1 ⟨Nat.le_refl _, Nat.le_refl _⟩ (cat_le [] (Nat.le_of_ble_eq_true rfl)) (fun H locs hR hS => ?_)
  refine W_st (st2 := [.int v3]) rfl ?_
  refine lv_if_eq (tgt := 23) hx hb dX8_port_6 (by decide) (fun c4 => ?_) (fun c4 => ?_)
  · rw [if_pos c4] at hd
    refine lv_iconst (v := (-1)) hx hb dX8_port_23 (by decide) ?_
    cases hd
    exact r_iret C dX8_port_24 hR hS
  · rw [if_neg c4] at hd
    refine x_aload_n C dX8_port_9 hL 0 rfl ?_
    refine r_getr (ci := 8) (k := 1) C fl_X8_39 rfl dX8_port_10 hR g1 ?_
    refine x_iload_n C dX8_port_13 hL 1 rfl ?_
    obtain ⟨g5, hd⟩ := gd_ex hd
    refine r_aald (ci := 4) C (by decide) dX8_port_14 hR g5 ?_
    obtain ⟨g6, hd⟩ := gd_ex hd
    refine r_getr (ci := 4) (k := 2) C fl_X8_71 rfl dX8_port_15 hR g6 ?_
    refine x_iload_n C dX8_port_18 hL 2 rfl ?_
    obtain ⟨g7, hd⟩ := gd_ex hd
    refine r_aald (ci := 3) C (by decide) dX8_port_19 hR g7 ?_
    refine r_ifnonnull (tgt := 25) C dX8_port_20 (by decide) (fun c8 => ?_) (fun c8 => ?_)
    · rw [if_neg c8] at hd
      refine x_aload_n C dX8_port_25 hL 0 rfl ?_
      refine r_getr (ci := 8) (k := 1) C fl_X8_39 rfl dX8_port_26 hR g1 ?_
      refine x_iload_n C dX8_port_29 hL 1 rfl ?_
      obtain ⟨g9, hd⟩ := gd_ex hd
      refine r_aald (ci := 4) C (by decide) dX8_port_30 hR g9 ?_
      refine r_getr (ci := 4) (k := 2) C fl_X8_71 rfl dX8_port_31 hR g6 ?_
      refine x_iload_n C dX8_port_34 hL 2 rfl ?_
      obtain ⟨g10, hd⟩ := gd_ex hd
      refine r_aald (ci := 3) C (by decide) dX8_port_35 hR g10 ?_
      obtain ⟨v11, ev11, hd⟩ := bd_ex hd
      rw [← ev11]
      refine x_astore (lv' := [(4, .inr v11), (0, .inr x0), (1, .inl x1), (2, .inl x2), (3, .inl x3)]) C dX8_port_36 hL (by decide) rfl (fun ls hL => ?_)
      refine x_iload_n C dX8_port_38 hL 4 rfl ?_
      by_cases c12_0 : x3 = 0
      · rw [if_pos c12_0] at hd
        rw [c12_0]
        refine lv_tableIn (tgt := 72) hx hb dX8_port_39 (by decide) (by decide) rfl (by decide) ?_
        refine x_aload C dX8_port_72 hL 0 rfl ?_
        obtain ⟨g13, hd⟩ := gd_ex hd
        refine r_getr (ci := 3) (k := 2) C fl_X8_204 rfl dX8_port_74 hR g13 ?_
        obtain ⟨g14, hd⟩ := gd_ex hd
        refine r_geti (ci := 7) (k := 0) C fl_X8_179 rfl dX8_port_77 hR g14 ?_
        cases hd
        exact r_iret C dX8_port_80 hR hS
      rw [if_neg c12_0] at hd
      by_cases c12_1 : x3 = 1
      · rw [if_pos c12_1] at hd
        rw [c12_1]
        refine lv_tableIn (tgt := 81) hx hb dX8_port_39 (by decide) (by decide) rfl (by decide) ?_
        refine x_aload C dX8_port_81 hL 0 rfl ?_
        obtain ⟨g15, hd⟩ := gd_ex hd
        refine r_geti (ci := 3) (k := 3) C fl_X8_205 rfl dX8_port_83 hR g15 ?_
        cases hd
        exact r_iret C dX8_port_86 hR hS
      rw [if_neg c12_1] at hd
      by_cases c12_2 : x3 = 2
      · rw [if_pos c12_2] at hd
        rw [c12_2]
        refine lv_tableIn (tgt := 87) hx hb dX8_port_39 (by decide) (by decide) rfl (by decide) ?_
        refine x_aload C dX8_port_87 hL 0 rfl ?_
        obtain ⟨g16, hd⟩ := gd_ex hd
        refine r_geti (ci := 3) (k := 4) C fl_X8_208 rfl dX8_port_89 hR g16 ?_
        cases hd
        exact r_iret C dX8_port_92 hR hS
      rw [if_neg c12_2] at hd
      by_cases c12_3 : x3 = 3
      · rw [if_pos c12_3] at hd
        rw [c12_3]
        refine lv_tableIn (tgt := 93) hx hb dX8_port_39 (by decide) (by decide) rfl (by decide) ?_
        refine x_aload C dX8_port_93 hL 0 rfl ?_
        obtain ⟨g17, hd⟩ := gd_ex hd
        obtain ⟨v19, h18, hd⟩ := bo_ex hd
        refine r_callV (a := v11) (ci := 3) (As := []) C (ct_X3_isFirst h18) mf_X3_isFirst ml_X8_211 mv_X3_isFirst rfl ⟨Nat.le_of_ble_eq_true rfl, Nat.le_of_ble_eq_true rfl⟩ dX8_port_95 (lx_size hL) rfl hR hS g17 ⟨Nat.le_refl _, Nat.le_refl _⟩ (cat_le [] (Nat.le_of_ble_eq_true rfl)) (fun H locs hR hS => ?_)
        refine W_st (st2 := [.int v19]) rfl ?_
        refine lv_if_eq (tgt := 105) hx hb dX8_port_98 (by decide) (fun c20 => ?_) (fun c20 => ?_)
        · rw [if_pos c20] at hd
          refine lv_iconst (v := 0) hx hb dX8_port_105 (by decide) ?_
          cases hd
          exact r_iret C dX8_port_106 hR hS
        · rw [if_neg c20] at hd
          refine lv_iconst (v := 1) hx hb dX8_port_101 (by decide) ?_
          refine lv_goto (tgt := 106) hx hb dX8_port_102 (by decide) ?_
          cases hd
          exact r_iret C dX8_port_106 hR hS
      rw [if_neg c12_3] at hd
      by_cases c12_4 : x3 = 4
      · rw [if_pos c12_4] at hd
        rw [c12_4]
        refine lv_tableIn (tgt := 107) hx hb dX8_port_39 (by decide) (by decide) rfl (by decide) ?_
        refine x_aload C dX8_port_107 hL 0 rfl ?_
        obtain ⟨g21, hd⟩ := gd_ex hd
        obtain ⟨v23, h22, hd⟩ := bo_ex hd
        refine r_callV (a := v11) (ci := 3) (As := []) C (ct_X3_isAsking h22) mf_X3_isAsking ml_X8_215 mv_X3_isAsking rfl ⟨Nat.le_of_ble_eq_true rfl, Nat.le_of_ble_eq_true rfl⟩ dX8_port_109 (lx_size hL) rfl hR hS g21 ⟨Nat.le_refl _, Nat.le_refl _⟩ (cat_le [] (Nat.le_of_ble_eq_true rfl)) (fun H locs hR hS => ?_)
        refine W_st (st2 := [.int v23]) rfl ?_
        refine lv_if_eq (tgt := 119) hx hb dX8_port_112 (by decide) (fun c24 => ?_) (fun c24 => ?_)
        · rw [if_pos c24] at hd
          refine lv_iconst (v := 0) hx hb dX8_port_119 (by decide) ?_
          cases hd
          exact r_iret C dX8_port_120 hR hS
        · rw [if_neg c24] at hd
          refine lv_iconst (v := 1) hx hb dX8_port_115 (by decide) ?_
          refine lv_goto (tgt := 120) hx hb dX8_port_116 (by decide) ?_
          cases hd
          exact r_iret C dX8_port_120 hR hS
      rw [if_neg c12_4] at hd
      have z_0 := i32_ne c12_0
      have z_1 := i32_ne c12_1
      have z_2 := i32_ne c12_2
      have z_3 := i32_ne c12_3
      have z_4 := i32_ne c12_4
      refine lv_tableOut (tgt := 121) hx hb dX8_port_39 (by simp only [show ((0 : Int32)).toInt = 0 from rfl, show ((1 : Int32)).toInt = 1 from rfl, show ((2 : Int32)).toInt = 2 from rfl, show ((3 : Int32)).toInt = 3 from rfl, show ((4 : Int32)).toInt = 4 from rfl] at z_0 z_1 z_2 z_3 z_4; omega) (by decide) ?_
      refine lv_iconst (v := (-1)) hx hb dX8_port_121 (by decide) ?_
      cases hd
      exact r_iret C dX8_port_122 hR hS
    · rw [if_pos c8] at hd
      refine lv_iconst (v := (-1)) hx hb dX8_port_23 (by decide) ?_
      cases hd
      exact r_iret C dX8_port_24 hR hS
end
set_option maxHeartbeats 4000000 in
set_option maxRecDepth 100000 in
theorem ct_X8_port {l : Launch} {b0 : Nat} {D : va_G} {E : Nat → ClassId} {G : Hp} {a0 : Nat} {a1 : Int32} {a2 : Int32} {a3 : Int32} {rr : Int32} (hd : d_X8_port a0 a1 a2 a3 G = some rr) : CT l yX8_port cX8_port 5 (some .int) 2 0 0 b0 D E [rv a0, .int a1, .int a2, .int a3] G (some (.int rr)) G := by
  refine CT_of (by decide +kernel) ?_
  intro p e s m below meth c C hnm hR
  refine r_entry [.inr a0, .inl a1, .inl a2, .inl a3] (n := 5) (Nat.le_of_ble_eq_true rfl) (lv := [(0, .inr a0), (1, .inl a1), (2, .inl a2), (3, .inl a3)]) rfl (fun ls hL => ?_)
  exact k_X8_port C (lx_sub hL [0, 1, 2, 3] rfl) hR ⟨fun _ _ => rfl, fun _ h => by cases h⟩ hd

/-! GroveWorks.members(III)I pure -/
theorem dX8_members_0 : decode cX8_members 0 = .ok (.aload_n 0, 1) := by decide +kernel
theorem dX8_members_1 : decode cX8_members 1 = .ok (.iload_n 1, 1) := by decide +kernel
theorem dX8_members_2 : decode cX8_members 2 = .ok (.iload_n 2, 1) := by decide +kernel
theorem dX8_members_3 : decode cX8_members 3 = .ok (.invokevirtual 57, 3) := by decide +kernel
theorem dX8_members_6 : decode cX8_members 6 = .ok (.ifCond .eq 12, 3) := by decide +kernel
theorem dX8_members_9 : decode cX8_members 9 = .ok (.iload_n 3, 1) := by decide +kernel
theorem dX8_members_10 : decode cX8_members 10 = .ok (.bipush 8, 2) := by decide +kernel
theorem dX8_members_12 : decode cX8_members 12 = .ok (.invokestatic 61, 3) := by decide +kernel
theorem dX8_members_15 : decode cX8_members 15 = .ok (.ifCond .ne 5, 3) := by decide +kernel
theorem dX8_members_18 : decode cX8_members 18 = .ok (.iconst (-1), 1) := by decide +kernel
theorem dX8_members_19 : decode cX8_members 19 = .ok (.ireturn, 1) := by decide +kernel
theorem dX8_members_20 : decode cX8_members 20 = .ok (.aload_n 0, 1) := by decide +kernel
theorem dX8_members_21 : decode cX8_members 21 = .ok (.getfield 39, 3) := by decide +kernel
theorem dX8_members_24 : decode cX8_members 24 = .ok (.iload_n 1, 1) := by decide +kernel
theorem dX8_members_25 : decode cX8_members 25 = .ok (.aaload, 1) := by decide +kernel
theorem dX8_members_26 : decode cX8_members 26 = .ok (.getfield 71, 3) := by decide +kernel
theorem dX8_members_29 : decode cX8_members 29 = .ok (.iload_n 2, 1) := by decide +kernel
theorem dX8_members_30 : decode cX8_members 30 = .ok (.aaload, 1) := by decide +kernel
theorem dX8_members_31 : decode cX8_members 31 = .ok (.astore 4, 2) := by decide +kernel
theorem dX8_members_33 : decode cX8_members 33 = .ok (.aload 4, 2) := by decide +kernel
theorem dX8_members_35 : decode cX8_members 35 = .ok (.ifnull 22, 3) := by decide +kernel
theorem dX8_members_38 : decode cX8_members 38 = .ok (.aload 4, 2) := by decide +kernel
theorem dX8_members_40 : decode cX8_members 40 = .ok (.iload_n 3, 1) := by decide +kernel
theorem dX8_members_41 : decode cX8_members 41 = .ok (.invokevirtual 218, 3) := by decide +kernel
theorem dX8_members_44 : decode cX8_members 44 = .ok (.ifCond .eq 13, 3) := by decide +kernel
theorem dX8_members_47 : decode cX8_members 47 = .ok (.aload 4, 2) := by decide +kernel
theorem dX8_members_49 : decode cX8_members 49 = .ok (.getfield 221, 3) := by decide +kernel
theorem dX8_members_52 : decode cX8_members 52 = .ok (.iload_n 3, 1) := by decide +kernel
theorem dX8_members_53 : decode cX8_members 53 = .ok (.iaload, 1) := by decide +kernel
theorem dX8_members_54 : decode cX8_members 54 = .ok (.goto 4, 3) := by decide +kernel
theorem dX8_members_57 : decode cX8_members 57 = .ok (.iconst 0, 1) := by decide +kernel
theorem dX8_members_58 : decode cX8_members 58 = .ok (.ireturn, 1) := by decide +kernel
def d_X8_members (x0 : Nat) (x1 : Int32) (x2 : Int32) (x3 : Int32) (G : Hp) : Option (Int32) :=
  gd (hc G x0 = 9) <|
  bo (d_X8_isPort x0 x1 x2 G) fun v3 =>
  if v3 = 0 then
    some (-1)
  else
    bo (d_X8_isIn x3 8 G) fun v6 =>
    if v6 = 0 then
      some (-1)
    else
      gd (hc G (hr G x0 1) = 17 ∧ ix x1 (hl G (hr G x0 1))) <|
      gd (hc G (hr G (hr G x0 1) x1.toNatClampNeg) = 5) <|
      gd (hc G (hr G (hr G (hr G x0 1) x1.toNatClampNeg) 2) = 16 ∧ ix x2 (hl G (hr G (hr G (hr G x0 1) x1.toNatClampNeg) 2))) <|
      bd ((hr G (hr G (hr G (hr G x0 1) x1.toNatClampNeg) 2) x2.toNatClampNeg)) fun v11 =>
      if v11 = 0 then
        some 0
      else
        gd (hc G v11 = 4) <|
        bo (d_X3_hasMembers v11 x3 G) fun v15 =>
        if v15 = 0 then
          some 0
        else
          gd (hc G (hr G v11 8) = 11 ∧ ix x3 (hl G (hr G v11 8))) <|
          some (hi G (hr G v11 8) x3.toNatClampNeg)
section
variable {p : Program} {l : Launch} {e : Env} {s : State} {m : MethodId} {args : Array Value} {below : List Frame} {meth : Method} {c : Code} {b0 : Nat} {D : va_G} {E : Nat → ClassId}
set_option maxHeartbeats 4000000 in
set_option maxRecDepth 100000 in
theorem k_X8_members (C : Cx p s m args meth c RX8 cX8_members 5 (some .int) b0 D E) {rr : Int32} {G : Hp} {x0 : Nat} {x1 : Int32} {x2 : Int32} {x3 : Int32} {ls : Array Slot} {H : Heap} {locs : List Loc} : lx ls 5 [(0, .inr x0), (1, .inl x1), (2, .inl x2), (3, .inl x3)] → Rp b0 D E G H → SS b0 s H locs → d_X8_members x0 x1 x2 x3 G = some rr → W p l e (rmd 2 (0) (0)) s m args below meth c H locs (0) (0) (MQ below (CQ b0 D E (some (.int rr)) G) args s (0) (0) (fun q => b0 ≤ q)) (F0 m 0 ls []) := by
  intro hL hR hS hd
  unfold d_X8_members at hd
  have hx := C.1
  have hb := C.2.1
  refine x_aload_n C dX8_members_0 hL 0 rfl ?_
  refine x_iload_n C dX8_members_1 hL 1 rfl ?_
  refine x_iload_n C dX8_members_2 hL 2 rfl ?_
  obtain ⟨g1, hd⟩ := gd_ex hd
  obtain ⟨v3, h2, hd⟩ := bo_ex hd
  refine r_callV (a := x0) (ci := 8) (As := [.int x1, .int x2]) C (ct_X8_isPort h2) mf_X8_isPort ml_X8_57 mv_X8_isPort rfl ⟨Nat.le_of_ble_eq_true rfl, Nat.le_of_ble_eq_true rfl⟩ dX8_members_3 (lx_size hL) rfl hR hS g1 ⟨Nat.le_refl _, Nat.le_refl _⟩ (cat_le [] (Nat.le_of_ble_eq_true rfl)) (fun H locs hR hS => ?_)
  refine W_st (st2 := [.int v3]) rfl ?_
  refine lv_if_eq (tgt := 18) hx hb dX8_members_6 (by decide) (fun c4 => ?_) (fun c4 => ?_)
  · rw [if_pos c4] at hd
    refine lv_iconst (v := (-1)) hx hb dX8_members_18 (by decide) ?_
    cases hd
    exact r_iret C dX8_members_19 hR hS
  · rw [if_neg c4] at hd
    refine x_iload_n C dX8_members_9 hL 3 rfl ?_
    refine lv_bipush (v := 8) hx hb dX8_members_10 (by decide) ?_
    obtain ⟨v6, h5, hd⟩ := bo_ex hd
    refine r_callS (As := [.int x3, .int 8]) C (ct_X8_isIn h5) mf_X8_isIn ml_X8_61 ms_X8_isIn rfl ⟨Nat.le_of_ble_eq_true rfl, Nat.le_of_ble_eq_true rfl⟩ dX8_members_12 (lx_size hL) rfl hR hS ⟨Nat.le_refl _, Nat.le_refl _⟩ (cat_le [] (Nat.le_of_ble_eq_true rfl)) (fun H locs hR hS => ?_)
    refine W_st (st2 := [.int v6]) rfl ?_
    refine lv_if_ne (tgt := 20) hx hb dX8_members_15 (by decide) (fun c7 => ?_) (fun c7 => ?_)
    · rw [if_neg c7] at hd
      refine x_aload_n C dX8_members_20 hL 0 rfl ?_
      refine r_getr (ci := 8) (k := 1) C fl_X8_39 rfl dX8_members_21 hR g1 ?_
      refine x_iload_n C dX8_members_24 hL 1 rfl ?_
      obtain ⟨g8, hd⟩ := gd_ex hd
      refine r_aald (ci := 4) C (by decide) dX8_members_25 hR g8 ?_
      obtain ⟨g9, hd⟩ := gd_ex hd
      refine r_getr (ci := 4) (k := 2) C fl_X8_71 rfl dX8_members_26 hR g9 ?_
      refine x_iload_n C dX8_members_29 hL 2 rfl ?_
      obtain ⟨g10, hd⟩ := gd_ex hd
      refine r_aald (ci := 3) C (by decide) dX8_members_30 hR g10 ?_
      obtain ⟨v11, ev11, hd⟩ := bd_ex hd
      rw [← ev11]
      refine x_astore (lv' := [(4, .inr v11), (0, .inr x0), (1, .inl x1), (2, .inl x2), (3, .inl x3)]) C dX8_members_31 hL (by decide) rfl (fun ls hL => ?_)
      refine x_aload C dX8_members_33 hL 0 rfl ?_
      refine r_ifnull (tgt := 57) C dX8_members_35 (by decide) (fun c12 => ?_) (fun c12 => ?_)
      · rw [if_pos c12] at hd
        refine lv_iconst (v := 0) hx hb dX8_members_57 (by decide) ?_
        cases hd
        exact r_iret C dX8_members_58 hR hS
      · rw [if_neg c12] at hd
        refine x_aload C dX8_members_38 hL 0 rfl ?_
        refine x_iload_n C dX8_members_40 hL 4 rfl ?_
        obtain ⟨g13, hd⟩ := gd_ex hd
        obtain ⟨v15, h14, hd⟩ := bo_ex hd
        refine r_callV (a := v11) (ci := 3) (As := [.int x3]) C (ct_X3_hasMembers h14) mf_X3_hasMembers ml_X8_218 mv_X3_hasMembers rfl ⟨Nat.le_of_ble_eq_true rfl, Nat.le_of_ble_eq_true rfl⟩ dX8_members_41 (lx_size hL) rfl hR hS g13 ⟨Nat.le_refl _, Nat.le_refl _⟩ (cat_le [] (Nat.le_of_ble_eq_true rfl)) (fun H locs hR hS => ?_)
        refine W_st (st2 := [.int v15]) rfl ?_
        refine lv_if_eq (tgt := 57) hx hb dX8_members_44 (by decide) (fun c16 => ?_) (fun c16 => ?_)
        · rw [if_pos c16] at hd
          refine lv_iconst (v := 0) hx hb dX8_members_57 (by decide) ?_
          cases hd
          exact r_iret C dX8_members_58 hR hS
        · rw [if_neg c16] at hd
          refine x_aload C dX8_members_47 hL 0 rfl ?_
          refine r_getr (ci := 3) (k := 8) C fl_X8_221 rfl dX8_members_49 hR g13 ?_
          refine x_iload_n C dX8_members_52 hL 4 rfl ?_
          obtain ⟨g17, hd⟩ := gd_ex hd
          refine r_iald C dX8_members_53 hR g17 ?_
          refine lv_goto (tgt := 58) hx hb dX8_members_54 (by decide) ?_
          cases hd
          exact r_iret C dX8_members_58 hR hS
    · rw [if_pos c7] at hd
      refine lv_iconst (v := (-1)) hx hb dX8_members_18 (by decide) ?_
      cases hd
      exact r_iret C dX8_members_19 hR hS
end
set_option maxHeartbeats 4000000 in
set_option maxRecDepth 100000 in
theorem ct_X8_members {l : Launch} {b0 : Nat} {D : va_G} {E : Nat → ClassId} {G : Hp} {a0 : Nat} {a1 : Int32} {a2 : Int32} {a3 : Int32} {rr : Int32} (hd : d_X8_members a0 a1 a2 a3 G = some rr) : CT l yX8_members cX8_members 5 (some .int) 2 0 0 b0 D E [rv a0, .int a1, .int a2, .int a3] G (some (.int rr)) G := by
  refine CT_of (by decide +kernel) ?_
  intro p e s m below meth c C hnm hR
  refine r_entry [.inr a0, .inl a1, .inl a2, .inl a3] (n := 5) (Nat.le_of_ble_eq_true rfl) (lv := [(0, .inr a0), (1, .inl a1), (2, .inl a2), (3, .inl a3)]) rfl (fun ls hL => ?_)
  exact k_X8_members C (lx_sub hL [0, 1, 2, 3] rfl) hR ⟨fun _ _ => rfl, fun _ h => by cases h⟩ hd

/-! GroveWorks.branch(IIIII)I -/
theorem dX8_branch_0 : decode cX8_branch 0 = .ok (.aload_n 0, 1) := by decide +kernel
theorem dX8_branch_1 : decode cX8_branch 1 = .ok (.iload_n 1, 1) := by decide +kernel
theorem dX8_branch_2 : decode cX8_branch 2 = .ok (.iload_n 2, 1) := by decide +kernel
theorem dX8_branch_3 : decode cX8_branch 3 = .ok (.invokevirtual 57, 3) := by decide +kernel
theorem dX8_branch_6 : decode cX8_branch 6 = .ok (.ifCond .eq 20, 3) := by decide +kernel
theorem dX8_branch_9 : decode cX8_branch 9 = .ok (.iload_n 3, 1) := by decide +kernel
theorem dX8_branch_10 : decode cX8_branch 10 = .ok (.bipush 8, 2) := by decide +kernel
theorem dX8_branch_12 : decode cX8_branch 12 = .ok (.invokestatic 61, 3) := by decide +kernel
theorem dX8_branch_15 : decode cX8_branch 15 = .ok (.ifCond .eq 11, 3) := by decide +kernel
theorem dX8_branch_18 : decode cX8_branch 18 = .ok (.iload 4, 2) := by decide +kernel
theorem dX8_branch_20 : decode cX8_branch 20 = .ok (.invokestatic 224, 3) := by decide +kernel
theorem dX8_branch_23 : decode cX8_branch 23 = .ok (.ifCond .ne 5, 3) := by decide +kernel
theorem dX8_branch_26 : decode cX8_branch 26 = .ok (.iconst (-1), 1) := by decide +kernel
theorem dX8_branch_27 : decode cX8_branch 27 = .ok (.ireturn, 1) := by decide +kernel
theorem dX8_branch_28 : decode cX8_branch 28 = .ok (.aload_n 0, 1) := by decide +kernel
theorem dX8_branch_29 : decode cX8_branch 29 = .ok (.getfield 39, 3) := by decide +kernel
theorem dX8_branch_32 : decode cX8_branch 32 = .ok (.iload_n 1, 1) := by decide +kernel
theorem dX8_branch_33 : decode cX8_branch 33 = .ok (.aaload, 1) := by decide +kernel
theorem dX8_branch_34 : decode cX8_branch 34 = .ok (.getfield 71, 3) := by decide +kernel
theorem dX8_branch_37 : decode cX8_branch 37 = .ok (.iload_n 2, 1) := by decide +kernel
theorem dX8_branch_38 : decode cX8_branch 38 = .ok (.aaload, 1) := by decide +kernel
theorem dX8_branch_39 : decode cX8_branch 39 = .ok (.astore 6, 2) := by decide +kernel
theorem dX8_branch_41 : decode cX8_branch 41 = .ok (.iload 5, 2) := by decide +kernel
theorem dX8_branch_43 : decode cX8_branch 43 = .ok (.ifCond .ne 32, 3) := by decide +kernel
theorem dX8_branch_46 : decode cX8_branch 46 = .ok (.aload 6, 2) := by decide +kernel
theorem dX8_branch_48 : decode cX8_branch 48 = .ok (.ifnonnull 7, 3) := by decide +kernel
theorem dX8_branch_51 : decode cX8_branch 51 = .ok (.iconst 0, 1) := by decide +kernel
theorem dX8_branch_52 : decode cX8_branch 52 = .ok (.goto 22, 3) := by decide +kernel
theorem dX8_branch_55 : decode cX8_branch 55 = .ok (.aload 6, 2) := by decide +kernel
theorem dX8_branch_57 : decode cX8_branch 57 = .ok (.iload_n 3, 1) := by decide +kernel
theorem dX8_branch_58 : decode cX8_branch 58 = .ok (.iload 4, 2) := by decide +kernel
theorem dX8_branch_60 : decode cX8_branch 60 = .ok (.iconst (-1), 1) := by decide +kernel
theorem dX8_branch_61 : decode cX8_branch 61 = .ok (.if_icmp .ne 8, 3) := by decide +kernel
theorem dX8_branch_64 : decode cX8_branch 64 = .ok (.bipush 16, 2) := by decide +kernel
theorem dX8_branch_66 : decode cX8_branch 66 = .ok (.goto 5, 3) := by decide +kernel
theorem dX8_branch_69 : decode cX8_branch 69 = .ok (.iload 4, 2) := by decide +kernel
theorem dX8_branch_71 : decode cX8_branch 71 = .ok (.invokevirtual 227, 3) := by decide +kernel
theorem dX8_branch_74 : decode cX8_branch 74 = .ok (.ireturn, 1) := by decide +kernel
theorem dX8_branch_75 : decode cX8_branch 75 = .ok (.iload 4, 2) := by decide +kernel
theorem dX8_branch_77 : decode cX8_branch 77 = .ok (.iconst (-1), 1) := by decide +kernel
theorem dX8_branch_78 : decode cX8_branch 78 = .ok (.if_icmp .ne 5, 3) := by decide +kernel
theorem dX8_branch_81 : decode cX8_branch 81 = .ok (.iconst (-1), 1) := by decide +kernel
theorem dX8_branch_82 : decode cX8_branch 82 = .ok (.ireturn, 1) := by decide +kernel
theorem dX8_branch_83 : decode cX8_branch 83 = .ok (.aload_n 0, 1) := by decide +kernel
theorem dX8_branch_84 : decode cX8_branch 84 = .ok (.getfield 33, 3) := by decide +kernel
theorem dX8_branch_87 : decode cX8_branch 87 = .ok (.getfield 87, 3) := by decide +kernel
theorem dX8_branch_90 : decode cX8_branch 90 = .ok (.aload_n 0, 1) := by decide +kernel
theorem dX8_branch_91 : decode cX8_branch 91 = .ok (.getfield 33, 3) := by decide +kernel
theorem dX8_branch_94 : decode cX8_branch 94 = .ok (.getfield 67, 3) := by decide +kernel
theorem dX8_branch_97 : decode cX8_branch 97 = .ok (.invokevirtual 140, 3) := by decide +kernel
theorem dX8_branch_100 : decode cX8_branch 100 = .ok (.iload 5, 2) := by decide +kernel
theorem dX8_branch_102 : decode cX8_branch 102 = .ok (.tableswitch 92 1 3 #[26, 48, 74], 26) := by decide +kernel
theorem dX8_branch_128 : decode cX8_branch 128 = .ok (.aload 6, 2) := by decide +kernel
theorem dX8_branch_130 : decode cX8_branch 130 = .ok (.ifnull 18, 3) := by decide +kernel
theorem dX8_branch_133 : decode cX8_branch 133 = .ok (.aload 6, 2) := by decide +kernel
theorem dX8_branch_135 : decode cX8_branch 135 = .ok (.iload_n 3, 1) := by decide +kernel
theorem dX8_branch_136 : decode cX8_branch 136 = .ok (.iload 4, 2) := by decide +kernel
theorem dX8_branch_138 : decode cX8_branch 138 = .ok (.invokevirtual 230, 3) := by decide +kernel
theorem dX8_branch_141 : decode cX8_branch 141 = .ok (.ifCond .eq 7, 3) := by decide +kernel
theorem dX8_branch_144 : decode cX8_branch 144 = .ok (.iconst 1, 1) := by decide +kernel
theorem dX8_branch_145 : decode cX8_branch 145 = .ok (.goto 4, 3) := by decide +kernel
theorem dX8_branch_148 : decode cX8_branch 148 = .ok (.iconst 0, 1) := by decide +kernel
theorem dX8_branch_149 : decode cX8_branch 149 = .ok (.ireturn, 1) := by decide +kernel
theorem dX8_branch_150 : decode cX8_branch 150 = .ok (.aload_n 0, 1) := by decide +kernel
theorem dX8_branch_151 : decode cX8_branch 151 = .ok (.getfield 39, 3) := by decide +kernel
theorem dX8_branch_154 : decode cX8_branch 154 = .ok (.iload_n 1, 1) := by decide +kernel
theorem dX8_branch_155 : decode cX8_branch 155 = .ok (.aaload, 1) := by decide +kernel
theorem dX8_branch_156 : decode cX8_branch 156 = .ok (.getfield 233, 3) := by decide +kernel
theorem dX8_branch_159 : decode cX8_branch 159 = .ok (.iload_n 3, 1) := by decide +kernel
theorem dX8_branch_160 : decode cX8_branch 160 = .ok (.aaload, 1) := by decide +kernel
theorem dX8_branch_161 : decode cX8_branch 161 = .ok (.iload 4, 2) := by decide +kernel
theorem dX8_branch_163 : decode cX8_branch 163 = .ok (.iload_n 2, 1) := by decide +kernel
theorem dX8_branch_164 : decode cX8_branch 164 = .ok (.invokevirtual 237, 3) := by decide +kernel
theorem dX8_branch_167 : decode cX8_branch 167 = .ok (.ifCond .eq 7, 3) := by decide +kernel
theorem dX8_branch_170 : decode cX8_branch 170 = .ok (.iconst 1, 1) := by decide +kernel
theorem dX8_branch_171 : decode cX8_branch 171 = .ok (.goto 4, 3) := by decide +kernel
theorem dX8_branch_174 : decode cX8_branch 174 = .ok (.iconst 0, 1) := by decide +kernel
theorem dX8_branch_175 : decode cX8_branch 175 = .ok (.ireturn, 1) := by decide +kernel
theorem dX8_branch_176 : decode cX8_branch 176 = .ok (.aload 6, 2) := by decide +kernel
theorem dX8_branch_178 : decode cX8_branch 178 = .ok (.ifnonnull 7, 3) := by decide +kernel
theorem dX8_branch_181 : decode cX8_branch 181 = .ok (.iconst (-1), 1) := by decide +kernel
theorem dX8_branch_182 : decode cX8_branch 182 = .ok (.goto 11, 3) := by decide +kernel
theorem dX8_branch_185 : decode cX8_branch 185 = .ok (.aload 6, 2) := by decide +kernel
theorem dX8_branch_187 : decode cX8_branch 187 = .ok (.iload_n 3, 1) := by decide +kernel
theorem dX8_branch_188 : decode cX8_branch 188 = .ok (.iload 4, 2) := by decide +kernel
theorem dX8_branch_190 : decode cX8_branch 190 = .ok (.invokevirtual 240, 3) := by decide +kernel
theorem dX8_branch_193 : decode cX8_branch 193 = .ok (.ireturn, 1) := by decide +kernel
theorem dX8_branch_194 : decode cX8_branch 194 = .ok (.iconst (-1), 1) := by decide +kernel
theorem dX8_branch_195 : decode cX8_branch 195 = .ok (.ireturn, 1) := by decide +kernel
def d_X8_branch (x0 : Nat) (x1 : Int32) (x2 : Int32) (x3 : Int32) (x4 : Int32) (x5 : Int32) (G : Hp) : Option (Int32 × Hp) :=
  gd (hc G x0 = 9) <|
  bo (d_X8_isPort x0 x1 x2 G) fun v3 =>
  if v3 = 0 then
    some ((-1), G)
  else
    bo (d_X8_isIn x3 8 G) fun v6 =>
    if v6 = 0 then
      some ((-1), G)
    else
      bo (d_X8_isSource x4 G) fun v9 =>
      if v9 = 0 then
        some ((-1), G)
      else
        gd (hc G (hr G x0 1) = 17 ∧ ix x1 (hl G (hr G x0 1))) <|
        gd (hc G (hr G (hr G x0 1) x1.toNatClampNeg) = 5) <|
        gd (hc G (hr G (hr G (hr G x0 1) x1.toNatClampNeg) 2) = 16 ∧ ix x2 (hl G (hr G (hr G (hr G x0 1) x1.toNatClampNeg) 2))) <|
        bd ((hr G (hr G (hr G (hr G x0 1) x1.toNatClampNeg) 2) x2.toNatClampNeg)) fun v14 =>
        if x5 = 0 then
          if v14 = 0 then
            some (0, G)
          else
            if x4 = (-1) then
              gd (hc G v14 = 4) <|
              bo (d_X3_whenJoinEnds v14 x3 16 G) fun v47 =>
              some (v47, G)
            else
              gd (hc G v14 = 4) <|
              bo (d_X3_whenJoinEnds v14 x3 x4 G) fun v44 =>
              some (v44, G)
        else
          if x4 = (-1) then
            some ((-1), G)
          else
            gd (hc G (hr G x0 0) = 3) <|
            gd (hc G (hr G (hr G x0 0) 1) = 7) <|
            bo (d_X6_refresh (hr G (hr G x0 0) 1) (hr G (hr G x0 0) 0) G) fun G20 =>
            if x5 = 1 then
              if v14 = 0 then
                some (0, G20)
              else
                gd (hc G20 v14 = 4) <|
                bo (d_X3_isCutOff v14 x3 x4 G20) fun v25 =>
                if v25 = 0 then
                  some (0, G20)
                else
                  some (1, G20)
            else
            if x5 = 2 then
              gd (hc G20 x0 = 9) <|
              gd (hc G20 (hr G20 x0 1) = 17 ∧ ix x1 (hl G20 (hr G20 x0 1))) <|
              gd (hc G20 (hr G20 (hr G20 x0 1) x1.toNatClampNeg) = 5) <|
              gd (hc G20 (hr G20 (hr G20 (hr G20 x0 1) x1.toNatClampNeg) 3) = 18 ∧ ix x3 (hl G20 (hr G20 (hr G20 (hr G20 x0 1) x1.toNatClampNeg) 3))) <|
              gd (hc G20 (hr G20 (hr G20 (hr G20 (hr G20 x0 1) x1.toNatClampNeg) 3) x3.toNatClampNeg) = 6) <|
              b2 (d_X5_isLost (hr G20 (hr G20 (hr G20 (hr G20 x0 1) x1.toNatClampNeg) 3) x3.toNatClampNeg) x4 x2 G20) fun v33 G34 =>
              if v33 = 0 then
                some (0, G34)
              else
                some (1, G34)
            else
            if x5 = 3 then
              if v14 = 0 then
                some ((-1), G20)
              else
                gd (hc G20 v14 = 4) <|
                bo (d_X3_claimant v14 x3 x4 G20) fun v39 =>
                some (v39, G20)
            else
            some ((-1), G20)
section
variable {p : Program} {l : Launch} {e : Env} {s : State} {m : MethodId} {args : Array Value} {below : List Frame} {meth : Method} {c : Code} {b0 : Nat} {D : va_G} {E : Nat → ClassId}
set_option maxHeartbeats 4000000 in
set_option maxRecDepth 100000 in
theorem k_X8_branch (C : Cx p s m args meth c RX8 cX8_branch 7 (some .int) b0 D E) {rr : Int32} {GG : Hp} {x0 : Nat} {x1 : Int32} {x2 : Int32} {x3 : Int32} {x4 : Int32} {x5 : Int32} {G : Hp} {ls : Array Slot} {H : Heap} {locs : List Loc} : lx ls 7 [(0, .inr x0), (1, .inl x1), (2, .inl x2), (3, .inl x3), (4, .inl x4), (5, .inl x5)] → Rp b0 D E G H → SS b0 s H locs → d_X8_branch x0 x1 x2 x3 x4 x5 G = some (rr, GG) → W p l e (rmd 5 (0) (0)) s m args below meth c H locs (0) (0) (MQ below (CQ b0 D E (some (.int rr)) GG) args s (0) (0) (fun q => b0 ≤ q)) (F0 m 0 ls []) := by
  intro hL hR hS hd
  unfold d_X8_branch at hd
  have hx := C.1
  have hb := C.2.1
  refine x_aload_n C dX8_branch_0 hL 0 rfl ?_
  refine x_iload_n C dX8_branch_1 hL 1 rfl ?_
  refine x_iload_n C dX8_branch_2 hL 2 rfl ?_
  obtain ⟨g1, hd⟩ := gd_ex hd
  obtain ⟨v3, h2, hd⟩ := bo_ex hd
  refine r_callV (a := x0) (ci := 8) (As := [.int x1, .int x2]) C (ct_X8_isPort h2) mf_X8_isPort ml_X8_57 mv_X8_isPort rfl ⟨Nat.le_of_ble_eq_true rfl, Nat.le_of_ble_eq_true rfl⟩ dX8_branch_3 (lx_size hL) rfl hR hS g1 ⟨Nat.le_refl _, Nat.le_refl _⟩ (cat_le [] (Nat.le_of_ble_eq_true rfl)) (fun H locs hR hS => ?_)
  refine W_st (st2 := [.int v3]) rfl ?_
  refine lv_if_eq (tgt := 26) hx hb dX8_branch_6 (by decide) (fun c4 => ?_) (fun c4 => ?_)
  · rw [if_pos c4] at hd
    refine lv_iconst (v := (-1)) hx hb dX8_branch_26 (by decide) ?_
    cases hd
    exact r_iret C dX8_branch_27 hR hS
  · rw [if_neg c4] at hd
    refine x_iload_n C dX8_branch_9 hL 3 rfl ?_
    refine lv_bipush (v := 8) hx hb dX8_branch_10 (by decide) ?_
    obtain ⟨v6, h5, hd⟩ := bo_ex hd
    refine r_callS (As := [.int x3, .int 8]) C (ct_X8_isIn h5) mf_X8_isIn ml_X8_61 ms_X8_isIn rfl ⟨Nat.le_of_ble_eq_true rfl, Nat.le_of_ble_eq_true rfl⟩ dX8_branch_12 (lx_size hL) rfl hR hS ⟨Nat.le_refl _, Nat.le_refl _⟩ (cat_le [] (Nat.le_of_ble_eq_true rfl)) (fun H locs hR hS => ?_)
    refine W_st (st2 := [.int v6]) rfl ?_
    refine lv_if_eq (tgt := 26) hx hb dX8_branch_15 (by decide) (fun c7 => ?_) (fun c7 => ?_)
    · rw [if_pos c7] at hd
      refine lv_iconst (v := (-1)) hx hb dX8_branch_26 (by decide) ?_
      cases hd
      exact r_iret C dX8_branch_27 hR hS
    · rw [if_neg c7] at hd
      refine x_iload C dX8_branch_18 hL 4 rfl ?_
      obtain ⟨v9, h8, hd⟩ := bo_ex hd
      refine r_callS (As := [.int x4]) C (ct_X8_isSource h8) mf_X8_isSource ml_X8_224 ms_X8_isSource rfl ⟨Nat.le_of_ble_eq_true rfl, Nat.le_of_ble_eq_true rfl⟩ dX8_branch_20 (lx_size hL) rfl hR hS ⟨Nat.le_refl _, Nat.le_refl _⟩ (cat_le [] (Nat.le_of_ble_eq_true rfl)) (fun H locs hR hS => ?_)
      refine W_st (st2 := [.int v9]) rfl ?_
      refine lv_if_ne (tgt := 28) hx hb dX8_branch_23 (by decide) (fun c10 => ?_) (fun c10 => ?_)
      · rw [if_neg c10] at hd
        refine x_aload_n C dX8_branch_28 hL 0 rfl ?_
        refine r_getr (ci := 8) (k := 1) C fl_X8_39 rfl dX8_branch_29 hR g1 ?_
        refine x_iload_n C dX8_branch_32 hL 1 rfl ?_
        obtain ⟨g11, hd⟩ := gd_ex hd
        refine r_aald (ci := 4) C (by decide) dX8_branch_33 hR g11 ?_
        obtain ⟨g12, hd⟩ := gd_ex hd
        refine r_getr (ci := 4) (k := 2) C fl_X8_71 rfl dX8_branch_34 hR g12 ?_
        refine x_iload_n C dX8_branch_37 hL 2 rfl ?_
        obtain ⟨g13, hd⟩ := gd_ex hd
        refine r_aald (ci := 3) C (by decide) dX8_branch_38 hR g13 ?_
        obtain ⟨v14, ev14, hd⟩ := bd_ex hd
        rw [← ev14]
        refine x_astore (lv' := [(6, .inr v14), (0, .inr x0), (1, .inl x1), (2, .inl x2), (3, .inl x3), (4, .inl x4), (5, .inl x5)]) C dX8_branch_39 hL (by decide) rfl (fun ls hL => ?_)
        refine x_iload C dX8_branch_41 hL 6 rfl ?_
        refine lv_if_ne (tgt := 75) hx hb dX8_branch_43 (by decide) (fun c15 => ?_) (fun c15 => ?_)
        · rw [if_neg c15] at hd
          refine x_iload C dX8_branch_75 hL 5 rfl ?_
          refine lv_iconst (v := (-1)) hx hb dX8_branch_77 (by decide) ?_
          refine lv_icmp_ne (tgt := 83) hx hb dX8_branch_78 (by decide) (fun c16 => ?_) (fun c16 => ?_)
          · rw [if_neg c16] at hd
            refine x_aload_n C dX8_branch_83 hL 1 rfl ?_
            refine r_getr (ci := 8) (k := 0) C fl_X8_33 rfl dX8_branch_84 hR g1 ?_
            obtain ⟨g17, hd⟩ := gd_ex hd
            refine r_getr (ci := 2) (k := 1) C fl_X8_87 rfl dX8_branch_87 hR g17 ?_
            refine x_aload_n C dX8_branch_90 hL 1 rfl ?_
            refine r_getr (ci := 8) (k := 0) C fl_X8_33 rfl dX8_branch_91 hR g1 ?_
            refine r_getr (ci := 2) (k := 0) C fl_X8_67 rfl dX8_branch_94 hR g17 ?_
            obtain ⟨g18, hd⟩ := gd_ex hd
            obtain ⟨G20, h19, hd⟩ := bo_ex hd
            refine r_callV (a := (hr G (hr G x0 0) 1)) (ci := 6) (As := [rv (hr G (hr G x0 0) 0)]) C (ct_X6_refresh h19) mf_X6_refresh ml_X8_140 mv_X6_refresh rfl ⟨Nat.le_of_ble_eq_true rfl, Nat.le_of_ble_eq_true rfl⟩ dX8_branch_97 (lx_size hL) rfl hR hS g18 ⟨Nat.le_refl _, Nat.le_refl _⟩ (cat_le [] (Nat.le_of_ble_eq_true rfl)) (fun H locs hR hS => ?_)
            refine W_st (st2 := []) rfl ?_
            refine x_iload C dX8_branch_100 hL 6 rfl ?_
            by_cases c21_0 : x5 = 1
            · rw [if_pos c21_0] at hd
              rw [c21_0]
              refine lv_tableIn (tgt := 128) hx hb dX8_branch_102 (by decide) (by decide) rfl (by decide) ?_
              refine x_aload C dX8_branch_128 hL 0 rfl ?_
              refine r_ifnull (tgt := 148) C dX8_branch_130 (by decide) (fun c22 => ?_) (fun c22 => ?_)
              · rw [if_pos c22] at hd
                refine lv_iconst (v := 0) hx hb dX8_branch_148 (by decide) ?_
                cases hd
                exact r_iret C dX8_branch_149 hR hS
              · rw [if_neg c22] at hd
                refine x_aload C dX8_branch_133 hL 0 rfl ?_
                refine x_iload_n C dX8_branch_135 hL 4 rfl ?_
                refine x_iload C dX8_branch_136 hL 5 rfl ?_
                obtain ⟨g23, hd⟩ := gd_ex hd
                obtain ⟨v25, h24, hd⟩ := bo_ex hd
                refine r_callV (a := v14) (ci := 3) (As := [.int x3, .int x4]) C (ct_X3_isCutOff h24) mf_X3_isCutOff ml_X8_230 mv_X3_isCutOff rfl ⟨Nat.le_of_ble_eq_true rfl, Nat.le_of_ble_eq_true rfl⟩ dX8_branch_138 (lx_size hL) rfl hR hS g23 ⟨Nat.le_refl _, Nat.le_refl _⟩ (cat_le [] (Nat.le_of_ble_eq_true rfl)) (fun H locs hR hS => ?_)
                refine W_st (st2 := [.int v25]) rfl ?_
                refine lv_if_eq (tgt := 148) hx hb dX8_branch_141 (by decide) (fun c26 => ?_) (fun c26 => ?_)
                · rw [if_pos c26] at hd
                  refine lv_iconst (v := 0) hx hb dX8_branch_148 (by decide) ?_
                  cases hd
                  exact r_iret C dX8_branch_149 hR hS
                · rw [if_neg c26] at hd
                  refine lv_iconst (v := 1) hx hb dX8_branch_144 (by decide) ?_
                  refine lv_goto (tgt := 149) hx hb dX8_branch_145 (by decide) ?_
                  cases hd
                  exact r_iret C dX8_branch_149 hR hS
            rw [if_neg c21_0] at hd
            by_cases c21_1 : x5 = 2
            · rw [if_pos c21_1] at hd
              rw [c21_1]
              refine lv_tableIn (tgt := 150) hx hb dX8_branch_102 (by decide) (by decide) rfl (by decide) ?_
              refine x_aload_n C dX8_branch_150 hL 1 rfl ?_
              obtain ⟨g27, hd⟩ := gd_ex hd
              refine r_getr (ci := 8) (k := 1) C fl_X8_39 rfl dX8_branch_151 hR g27 ?_
              refine x_iload_n C dX8_branch_154 hL 2 rfl ?_
              obtain ⟨g28, hd⟩ := gd_ex hd
              refine r_aald (ci := 4) C (by decide) dX8_branch_155 hR g28 ?_
              obtain ⟨g29, hd⟩ := gd_ex hd
              refine r_getr (ci := 4) (k := 3) C fl_X8_233 rfl dX8_branch_156 hR g29 ?_
              refine x_iload_n C dX8_branch_159 hL 4 rfl ?_
              obtain ⟨g30, hd⟩ := gd_ex hd
              refine r_aald (ci := 5) C (by decide) dX8_branch_160 hR g30 ?_
              refine x_iload C dX8_branch_161 hL 5 rfl ?_
              refine x_iload_n C dX8_branch_163 hL 3 rfl ?_
              obtain ⟨g31, hd⟩ := gd_ex hd
              obtain ⟨v33, G34, h32, hd⟩ := b2_ex hd
              refine r_callV (a := (hr G20 (hr G20 (hr G20 (hr G20 x0 1) x1.toNatClampNeg) 3) x3.toNatClampNeg)) (ci := 5) (As := [.int x4, .int x2]) C (ct_X5_isLost h32) mf_X5_isLost ml_X8_237 mv_X5_isLost rfl ⟨Nat.le_of_ble_eq_true rfl, Nat.le_of_ble_eq_true rfl⟩ dX8_branch_164 (lx_size hL) rfl hR hS g31 ⟨Nat.le_refl _, Nat.le_refl _⟩ (cat_le [] (Nat.le_of_ble_eq_true rfl)) (fun H locs hR hS => ?_)
              refine W_st (st2 := [.int v33]) rfl ?_
              refine lv_if_eq (tgt := 174) hx hb dX8_branch_167 (by decide) (fun c35 => ?_) (fun c35 => ?_)
              · rw [if_pos c35] at hd
                refine lv_iconst (v := 0) hx hb dX8_branch_174 (by decide) ?_
                cases hd
                exact r_iret C dX8_branch_175 hR hS
              · rw [if_neg c35] at hd
                refine lv_iconst (v := 1) hx hb dX8_branch_170 (by decide) ?_
                refine lv_goto (tgt := 175) hx hb dX8_branch_171 (by decide) ?_
                cases hd
                exact r_iret C dX8_branch_175 hR hS
            rw [if_neg c21_1] at hd
            by_cases c21_2 : x5 = 3
            · rw [if_pos c21_2] at hd
              rw [c21_2]
              refine lv_tableIn (tgt := 176) hx hb dX8_branch_102 (by decide) (by decide) rfl (by decide) ?_
              refine x_aload C dX8_branch_176 hL 0 rfl ?_
              refine r_ifnonnull (tgt := 185) C dX8_branch_178 (by decide) (fun c36 => ?_) (fun c36 => ?_)
              · rw [if_neg c36] at hd
                refine x_aload C dX8_branch_185 hL 0 rfl ?_
                refine x_iload_n C dX8_branch_187 hL 4 rfl ?_
                refine x_iload C dX8_branch_188 hL 5 rfl ?_
                obtain ⟨g37, hd⟩ := gd_ex hd
                obtain ⟨v39, h38, hd⟩ := bo_ex hd
                refine r_callV (a := v14) (ci := 3) (As := [.int x3, .int x4]) C (ct_X3_claimant h38) mf_X3_claimant ml_X8_240 mv_X3_claimant rfl ⟨Nat.le_of_ble_eq_true rfl, Nat.le_of_ble_eq_true rfl⟩ dX8_branch_190 (lx_size hL) rfl hR hS g37 ⟨Nat.le_refl _, Nat.le_refl _⟩ (cat_le [] (Nat.le_of_ble_eq_true rfl)) (fun H locs hR hS => ?_)
                refine W_st (st2 := [.int v39]) rfl ?_
                cases hd
                exact r_iret C dX8_branch_193 hR hS
              · rw [if_pos c36] at hd
                refine lv_iconst (v := (-1)) hx hb dX8_branch_181 (by decide) ?_
                refine lv_goto (tgt := 193) hx hb dX8_branch_182 (by decide) ?_
                cases hd
                exact r_iret C dX8_branch_193 hR hS
            rw [if_neg c21_2] at hd
            have z_0 := i32_ne c21_0
            have z_1 := i32_ne c21_1
            have z_2 := i32_ne c21_2
            refine lv_tableOut (tgt := 194) hx hb dX8_branch_102 (by simp only [show ((1 : Int32)).toInt = 1 from rfl, show ((2 : Int32)).toInt = 2 from rfl, show ((3 : Int32)).toInt = 3 from rfl] at z_0 z_1 z_2; omega) (by decide) ?_
            refine lv_iconst (v := (-1)) hx hb dX8_branch_194 (by decide) ?_
            cases hd
            exact r_iret C dX8_branch_195 hR hS
          · rw [if_pos c16] at hd
            refine lv_iconst (v := (-1)) hx hb dX8_branch_81 (by decide) ?_
            cases hd
            exact r_iret C dX8_branch_82 hR hS
        · rw [if_pos c15] at hd
          refine x_aload C dX8_branch_46 hL 0 rfl ?_
          refine r_ifnonnull (tgt := 55) C dX8_branch_48 (by decide) (fun c40 => ?_) (fun c40 => ?_)
          · rw [if_neg c40] at hd
            refine x_aload C dX8_branch_55 hL 0 rfl ?_
            refine x_iload_n C dX8_branch_57 hL 4 rfl ?_
            refine x_iload C dX8_branch_58 hL 5 rfl ?_
            refine lv_iconst (v := (-1)) hx hb dX8_branch_60 (by decide) ?_
            refine lv_icmp_ne (tgt := 69) hx hb dX8_branch_61 (by decide) (fun c41 => ?_) (fun c41 => ?_)
            · rw [if_neg c41] at hd
              refine x_iload C dX8_branch_69 hL 5 rfl ?_
              obtain ⟨g42, hd⟩ := gd_ex hd
              obtain ⟨v44, h43, hd⟩ := bo_ex hd
              refine r_callV (a := v14) (ci := 3) (As := [.int x3, .int x4]) C (ct_X3_whenJoinEnds h43) mf_X3_whenJoinEnds ml_X8_227 mv_X3_whenJoinEnds rfl ⟨Nat.le_of_ble_eq_true rfl, Nat.le_of_ble_eq_true rfl⟩ dX8_branch_71 (lx_size hL) rfl hR hS g42 ⟨Nat.le_refl _, Nat.le_refl _⟩ (cat_le [] (Nat.le_of_ble_eq_true rfl)) (fun H locs hR hS => ?_)
              refine W_st (st2 := [.int v44]) rfl ?_
              cases hd
              exact r_iret C dX8_branch_74 hR hS
            · rw [if_pos c41] at hd
              refine lv_bipush (v := 16) hx hb dX8_branch_64 (by decide) ?_
              refine lv_goto (tgt := 71) hx hb dX8_branch_66 (by decide) ?_
              obtain ⟨g45, hd⟩ := gd_ex hd
              obtain ⟨v47, h46, hd⟩ := bo_ex hd
              refine r_callV (a := v14) (ci := 3) (As := [.int x3, .int 16]) C (ct_X3_whenJoinEnds h46) mf_X3_whenJoinEnds ml_X8_227 mv_X3_whenJoinEnds rfl ⟨Nat.le_of_ble_eq_true rfl, Nat.le_of_ble_eq_true rfl⟩ dX8_branch_71 (lx_size hL) rfl hR hS g45 ⟨Nat.le_refl _, Nat.le_refl _⟩ (cat_le [] (Nat.le_of_ble_eq_true rfl)) (fun H locs hR hS => ?_)
              refine W_st (st2 := [.int v47]) rfl ?_
              cases hd
              exact r_iret C dX8_branch_74 hR hS
          · rw [if_pos c40] at hd
            refine lv_iconst (v := 0) hx hb dX8_branch_51 (by decide) ?_
            refine lv_goto (tgt := 74) hx hb dX8_branch_52 (by decide) ?_
            cases hd
            exact r_iret C dX8_branch_74 hR hS
      · rw [if_pos c10] at hd
        refine lv_iconst (v := (-1)) hx hb dX8_branch_26 (by decide) ?_
        cases hd
        exact r_iret C dX8_branch_27 hR hS
end
set_option maxHeartbeats 4000000 in
set_option maxRecDepth 100000 in
theorem ct_X8_branch {l : Launch} {b0 : Nat} {D : va_G} {E : Nat → ClassId} {G : Hp} {a0 : Nat} {a1 : Int32} {a2 : Int32} {a3 : Int32} {a4 : Int32} {a5 : Int32} {rr : Int32} {GG : Hp} (hd : d_X8_branch a0 a1 a2 a3 a4 a5 G = some (rr, GG)) : CT l yX8_branch cX8_branch 7 (some .int) 5 0 0 b0 D E [rv a0, .int a1, .int a2, .int a3, .int a4, .int a5] G (some (.int rr)) GG := by
  refine CT_of (by decide +kernel) ?_
  intro p e s m below meth c C hnm hR
  refine r_entry [.inr a0, .inl a1, .inl a2, .inl a3, .inl a4, .inl a5] (n := 7) (Nat.le_of_ble_eq_true rfl) (lv := [(0, .inr a0), (1, .inl a1), (2, .inl a2), (3, .inl a3), (4, .inl a4), (5, .inl a5)]) rfl (fun ls hL => ?_)
  exact k_X8_branch C (lx_sub hL [0, 1, 2, 3, 4, 5] rfl) hR ⟨fun _ _ => rfl, fun _ h => by cases h⟩ hd

/-! GroveWorks.tree(IIII)I -/
theorem dX8_tree_0 : decode cX8_tree 0 = .ok (.iload_n 1, 1) := by decide +kernel
theorem dX8_tree_1 : decode cX8_tree 1 = .ok (.aload_n 0, 1) := by decide +kernel
theorem dX8_tree_2 : decode cX8_tree 2 = .ok (.getfield 39, 3) := by decide +kernel
theorem dX8_tree_5 : decode cX8_tree 5 = .ok (.arraylength, 1) := by decide +kernel
theorem dX8_tree_6 : decode cX8_tree 6 = .ok (.invokestatic 61, 3) := by decide +kernel
theorem dX8_tree_9 : decode cX8_tree 9 = .ok (.ifCond .eq 19, 3) := by decide +kernel
theorem dX8_tree_12 : decode cX8_tree 12 = .ok (.iload_n 2, 1) := by decide +kernel
theorem dX8_tree_13 : decode cX8_tree 13 = .ok (.bipush 8, 2) := by decide +kernel
theorem dX8_tree_15 : decode cX8_tree 15 = .ok (.invokestatic 61, 3) := by decide +kernel
theorem dX8_tree_18 : decode cX8_tree 18 = .ok (.ifCond .eq 10, 3) := by decide +kernel
theorem dX8_tree_21 : decode cX8_tree 21 = .ok (.iload_n 3, 1) := by decide +kernel
theorem dX8_tree_22 : decode cX8_tree 22 = .ok (.invokestatic 224, 3) := by decide +kernel
theorem dX8_tree_25 : decode cX8_tree 25 = .ok (.ifCond .ne 5, 3) := by decide +kernel
theorem dX8_tree_28 : decode cX8_tree 28 = .ok (.iconst (-1), 1) := by decide +kernel
theorem dX8_tree_29 : decode cX8_tree 29 = .ok (.ireturn, 1) := by decide +kernel
theorem dX8_tree_30 : decode cX8_tree 30 = .ok (.aload_n 0, 1) := by decide +kernel
theorem dX8_tree_31 : decode cX8_tree 31 = .ok (.getfield 33, 3) := by decide +kernel
theorem dX8_tree_34 : decode cX8_tree 34 = .ok (.getfield 87, 3) := by decide +kernel
theorem dX8_tree_37 : decode cX8_tree 37 = .ok (.aload_n 0, 1) := by decide +kernel
theorem dX8_tree_38 : decode cX8_tree 38 = .ok (.getfield 33, 3) := by decide +kernel
theorem dX8_tree_41 : decode cX8_tree 41 = .ok (.getfield 67, 3) := by decide +kernel
theorem dX8_tree_44 : decode cX8_tree 44 = .ok (.invokevirtual 140, 3) := by decide +kernel
theorem dX8_tree_47 : decode cX8_tree 47 = .ok (.aload_n 0, 1) := by decide +kernel
theorem dX8_tree_48 : decode cX8_tree 48 = .ok (.getfield 39, 3) := by decide +kernel
theorem dX8_tree_51 : decode cX8_tree 51 = .ok (.iload_n 1, 1) := by decide +kernel
theorem dX8_tree_52 : decode cX8_tree 52 = .ok (.aaload, 1) := by decide +kernel
theorem dX8_tree_53 : decode cX8_tree 53 = .ok (.getfield 233, 3) := by decide +kernel
theorem dX8_tree_56 : decode cX8_tree 56 = .ok (.iload_n 2, 1) := by decide +kernel
theorem dX8_tree_57 : decode cX8_tree 57 = .ok (.aaload, 1) := by decide +kernel
theorem dX8_tree_58 : decode cX8_tree 58 = .ok (.astore 5, 2) := by decide +kernel
theorem dX8_tree_60 : decode cX8_tree 60 = .ok (.iload_n 3, 1) := by decide +kernel
theorem dX8_tree_61 : decode cX8_tree 61 = .ok (.iconst (-1), 1) := by decide +kernel
theorem dX8_tree_62 : decode cX8_tree 62 = .ok (.if_icmp .ne 13, 3) := by decide +kernel
theorem dX8_tree_65 : decode cX8_tree 65 = .ok (.aload 5, 2) := by decide +kernel
theorem dX8_tree_67 : decode cX8_tree 67 = .ok (.iload 4, 2) := by decide +kernel
theorem dX8_tree_69 : decode cX8_tree 69 = .ok (.invokevirtual 243, 3) := by decide +kernel
theorem dX8_tree_72 : decode cX8_tree 72 = .ok (.goto 11, 3) := by decide +kernel
theorem dX8_tree_75 : decode cX8_tree 75 = .ok (.aload 5, 2) := by decide +kernel
theorem dX8_tree_77 : decode cX8_tree 77 = .ok (.iload_n 3, 1) := by decide +kernel
theorem dX8_tree_78 : decode cX8_tree 78 = .ok (.iload 4, 2) := by decide +kernel
theorem dX8_tree_80 : decode cX8_tree 80 = .ok (.invokevirtual 246, 3) := by decide +kernel
theorem dX8_tree_83 : decode cX8_tree 83 = .ok (.ireturn, 1) := by decide +kernel
def d_X8_tree (x0 : Nat) (x1 : Int32) (x2 : Int32) (x3 : Int32) (x4 : Int32) (G : Hp) : Option (Int32 × Hp) :=
  gd (hc G x0 = 9) <|
  gd (hc G (hr G x0 1) = 17) <|
  bo (d_X8_isIn x1 (nI (hl G (hr G x0 1))) G) fun v4 =>
  if v4 = 0 then
    some ((-1), G)
  else
    bo (d_X8_isIn x2 8 G) fun v7 =>
    if v7 = 0 then
      some ((-1), G)
    else
      bo (d_X8_isSource x3 G) fun v10 =>
      if v10 = 0 then
        some ((-1), G)
      else
        gd (hc G (hr G x0 0) = 3) <|
        gd (hc G (hr G (hr G x0 0) 1) = 7) <|
        bo (d_X6_refresh (hr G (hr G x0 0) 1) (hr G (hr G x0 0) 0) G) fun G15 =>
        gd (hc G15 x0 = 9) <|
        gd (hc G15 (hr G15 x0 1) = 17 ∧ ix x1 (hl G15 (hr G15 x0 1))) <|
        gd (hc G15 (hr G15 (hr G15 x0 1) x1.toNatClampNeg) = 5) <|
        gd (hc G15 (hr G15 (hr G15 (hr G15 x0 1) x1.toNatClampNeg) 3) = 18 ∧ ix x2 (hl G15 (hr G15 (hr G15 (hr G15 x0 1) x1.toNatClampNeg) 3))) <|
        bd ((hr G15 (hr G15 (hr G15 (hr G15 x0 1) x1.toNatClampNeg) 3) x2.toNatClampNeg)) fun v20 =>
        if x3 = (-1) then
          gd (hc G15 v20 = 6) <|
          b2 (d_X5_tellStar v20 x4 G15) fun v28 G29 =>
          some (v28, G29)
        else
          gd (hc G15 v20 = 6) <|
          b2 (d_X5_tellSource v20 x3 x4 G15) fun v24 G25 =>
          some (v24, G25)
section
variable {p : Program} {l : Launch} {e : Env} {s : State} {m : MethodId} {args : Array Value} {below : List Frame} {meth : Method} {c : Code} {b0 : Nat} {D : va_G} {E : Nat → ClassId}
set_option maxHeartbeats 4000000 in
set_option maxRecDepth 100000 in
theorem k_X8_tree (C : Cx p s m args meth c RX8 cX8_tree 6 (some .int) b0 D E) {rr : Int32} {GG : Hp} {x0 : Nat} {x1 : Int32} {x2 : Int32} {x3 : Int32} {x4 : Int32} {G : Hp} {ls : Array Slot} {H : Heap} {locs : List Loc} : lx ls 6 [(0, .inr x0), (1, .inl x1), (2, .inl x2), (3, .inl x3), (4, .inl x4)] → Rp b0 D E G H → SS b0 s H locs → d_X8_tree x0 x1 x2 x3 x4 G = some (rr, GG) → W p l e (rmd 6 (0) (0)) s m args below meth c H locs (0) (0) (MQ below (CQ b0 D E (some (.int rr)) GG) args s (0) (0) (fun q => b0 ≤ q)) (F0 m 0 ls []) := by
  intro hL hR hS hd
  unfold d_X8_tree at hd
  have hx := C.1
  have hb := C.2.1
  refine x_iload_n C dX8_tree_0 hL 1 rfl ?_
  refine x_aload_n C dX8_tree_1 hL 0 rfl ?_
  obtain ⟨g1, hd⟩ := gd_ex hd
  refine r_getr (ci := 8) (k := 1) C fl_X8_39 rfl dX8_tree_2 hR g1 ?_
  obtain ⟨g2, hd⟩ := gd_ex hd
  refine r_alen C dX8_tree_5 hR (Or.inr ⟨4, by decide, g2⟩) ?_
  obtain ⟨v4, h3, hd⟩ := bo_ex hd
  refine r_callS (As := [.int x1, .int (nI (hl G (hr G x0 1)))]) C (ct_X8_isIn h3) mf_X8_isIn ml_X8_61 ms_X8_isIn rfl ⟨Nat.le_of_ble_eq_true rfl, Nat.le_of_ble_eq_true rfl⟩ dX8_tree_6 (lx_size hL) rfl hR hS ⟨Nat.le_refl _, Nat.le_refl _⟩ (cat_le [] (Nat.le_of_ble_eq_true rfl)) (fun H locs hR hS => ?_)
  refine W_st (st2 := [.int v4]) rfl ?_
  refine lv_if_eq (tgt := 28) hx hb dX8_tree_9 (by decide) (fun c5 => ?_) (fun c5 => ?_)
  · rw [if_pos c5] at hd
    refine lv_iconst (v := (-1)) hx hb dX8_tree_28 (by decide) ?_
    cases hd
    exact r_iret C dX8_tree_29 hR hS
  · rw [if_neg c5] at hd
    refine x_iload_n C dX8_tree_12 hL 2 rfl ?_
    refine lv_bipush (v := 8) hx hb dX8_tree_13 (by decide) ?_
    obtain ⟨v7, h6, hd⟩ := bo_ex hd
    refine r_callS (As := [.int x2, .int 8]) C (ct_X8_isIn h6) mf_X8_isIn ml_X8_61 ms_X8_isIn rfl ⟨Nat.le_of_ble_eq_true rfl, Nat.le_of_ble_eq_true rfl⟩ dX8_tree_15 (lx_size hL) rfl hR hS ⟨Nat.le_refl _, Nat.le_refl _⟩ (cat_le [] (Nat.le_of_ble_eq_true rfl)) (fun H locs hR hS => ?_)
    refine W_st (st2 := [.int v7]) rfl ?_
    refine lv_if_eq (tgt := 28) hx hb dX8_tree_18 (by decide) (fun c8 => ?_) (fun c8 => ?_)
    · rw [if_pos c8] at hd
      refine lv_iconst (v := (-1)) hx hb dX8_tree_28 (by decide) ?_
      cases hd
      exact r_iret C dX8_tree_29 hR hS
    · rw [if_neg c8] at hd
      refine x_iload_n C dX8_tree_21 hL 3 rfl ?_
      obtain ⟨v10, h9, hd⟩ := bo_ex hd
      refine r_callS (As := [.int x3]) C (ct_X8_isSource h9) mf_X8_isSource ml_X8_224 ms_X8_isSource rfl ⟨Nat.le_of_ble_eq_true rfl, Nat.le_of_ble_eq_true rfl⟩ dX8_tree_22 (lx_size hL) rfl hR hS ⟨Nat.le_refl _, Nat.le_refl _⟩ (cat_le [] (Nat.le_of_ble_eq_true rfl)) (fun H locs hR hS => ?_)
      refine W_st (st2 := [.int v10]) rfl ?_
      refine lv_if_ne (tgt := 30) hx hb dX8_tree_25 (by decide) (fun c11 => ?_) (fun c11 => ?_)
      · rw [if_neg c11] at hd
        refine x_aload_n C dX8_tree_30 hL 0 rfl ?_
        refine r_getr (ci := 8) (k := 0) C fl_X8_33 rfl dX8_tree_31 hR g1 ?_
        obtain ⟨g12, hd⟩ := gd_ex hd
        refine r_getr (ci := 2) (k := 1) C fl_X8_87 rfl dX8_tree_34 hR g12 ?_
        refine x_aload_n C dX8_tree_37 hL 0 rfl ?_
        refine r_getr (ci := 8) (k := 0) C fl_X8_33 rfl dX8_tree_38 hR g1 ?_
        refine r_getr (ci := 2) (k := 0) C fl_X8_67 rfl dX8_tree_41 hR g12 ?_
        obtain ⟨g13, hd⟩ := gd_ex hd
        obtain ⟨G15, h14, hd⟩ := bo_ex hd
        refine r_callV (a := (hr G (hr G x0 0) 1)) (ci := 6) (As := [rv (hr G (hr G x0 0) 0)]) C (ct_X6_refresh h14) mf_X6_refresh ml_X8_140 mv_X6_refresh rfl ⟨Nat.le_of_ble_eq_true rfl, Nat.le_of_ble_eq_true rfl⟩ dX8_tree_44 (lx_size hL) rfl hR hS g13 ⟨Nat.le_refl _, Nat.le_refl _⟩ (cat_le [] (Nat.le_of_ble_eq_true rfl)) (fun H locs hR hS => ?_)
        refine W_st (st2 := []) rfl ?_
        refine x_aload_n C dX8_tree_47 hL 0 rfl ?_
        obtain ⟨g16, hd⟩ := gd_ex hd
        refine r_getr (ci := 8) (k := 1) C fl_X8_39 rfl dX8_tree_48 hR g16 ?_
        refine x_iload_n C dX8_tree_51 hL 1 rfl ?_
        obtain ⟨g17, hd⟩ := gd_ex hd
        refine r_aald (ci := 4) C (by decide) dX8_tree_52 hR g17 ?_
        obtain ⟨g18, hd⟩ := gd_ex hd
        refine r_getr (ci := 4) (k := 3) C fl_X8_233 rfl dX8_tree_53 hR g18 ?_
        refine x_iload_n C dX8_tree_56 hL 2 rfl ?_
        obtain ⟨g19, hd⟩ := gd_ex hd
        refine r_aald (ci := 5) C (by decide) dX8_tree_57 hR g19 ?_
        obtain ⟨v20, ev20, hd⟩ := bd_ex hd
        rw [← ev20]
        refine x_astore (lv' := [(5, .inr v20), (0, .inr x0), (1, .inl x1), (2, .inl x2), (3, .inl x3), (4, .inl x4)]) C dX8_tree_58 hL (by decide) rfl (fun ls hL => ?_)
        refine x_iload_n C dX8_tree_60 hL 4 rfl ?_
        refine lv_iconst (v := (-1)) hx hb dX8_tree_61 (by decide) ?_
        refine lv_icmp_ne (tgt := 75) hx hb dX8_tree_62 (by decide) (fun c21 => ?_) (fun c21 => ?_)
        · rw [if_neg c21] at hd
          refine x_aload C dX8_tree_75 hL 0 rfl ?_
          refine x_iload_n C dX8_tree_77 hL 4 rfl ?_
          refine x_iload C dX8_tree_78 hL 5 rfl ?_
          obtain ⟨g22, hd⟩ := gd_ex hd
          obtain ⟨v24, G25, h23, hd⟩ := b2_ex hd
          refine r_callV (a := v20) (ci := 5) (As := [.int x3, .int x4]) C (ct_X5_tellSource h23) mf_X5_tellSource ml_X8_246 mv_X5_tellSource rfl ⟨Nat.le_of_ble_eq_true rfl, Nat.le_of_ble_eq_true rfl⟩ dX8_tree_80 (lx_size hL) rfl hR hS g22 ⟨Nat.le_refl _, Nat.le_refl _⟩ (cat_le [] (Nat.le_of_ble_eq_true rfl)) (fun H locs hR hS => ?_)
          refine W_st (st2 := [.int v24]) rfl ?_
          cases hd
          exact r_iret C dX8_tree_83 hR hS
        · rw [if_pos c21] at hd
          refine x_aload C dX8_tree_65 hL 0 rfl ?_
          refine x_iload C dX8_tree_67 hL 5 rfl ?_
          obtain ⟨g26, hd⟩ := gd_ex hd
          obtain ⟨v28, G29, h27, hd⟩ := b2_ex hd
          refine r_callV (a := v20) (ci := 5) (As := [.int x4]) C (ct_X5_tellStar h27) mf_X5_tellStar ml_X8_243 mv_X5_tellStar rfl ⟨Nat.le_of_ble_eq_true rfl, Nat.le_of_ble_eq_true rfl⟩ dX8_tree_69 (lx_size hL) rfl hR hS g26 ⟨Nat.le_refl _, Nat.le_refl _⟩ (cat_le [] (Nat.le_of_ble_eq_true rfl)) (fun H locs hR hS => ?_)
          refine W_st (st2 := [.int v28]) rfl ?_
          refine lv_goto (tgt := 83) hx hb dX8_tree_72 (by decide) ?_
          cases hd
          exact r_iret C dX8_tree_83 hR hS
      · rw [if_pos c11] at hd
        refine lv_iconst (v := (-1)) hx hb dX8_tree_28 (by decide) ?_
        cases hd
        exact r_iret C dX8_tree_29 hR hS
end
set_option maxHeartbeats 4000000 in
set_option maxRecDepth 100000 in
theorem ct_X8_tree {l : Launch} {b0 : Nat} {D : va_G} {E : Nat → ClassId} {G : Hp} {a0 : Nat} {a1 : Int32} {a2 : Int32} {a3 : Int32} {a4 : Int32} {rr : Int32} {GG : Hp} (hd : d_X8_tree a0 a1 a2 a3 a4 G = some (rr, GG)) : CT l yX8_tree cX8_tree 6 (some .int) 6 0 0 b0 D E [rv a0, .int a1, .int a2, .int a3, .int a4] G (some (.int rr)) GG := by
  refine CT_of (by decide +kernel) ?_
  intro p e s m below meth c C hnm hR
  refine r_entry [.inr a0, .inl a1, .inl a2, .inl a3, .inl a4] (n := 6) (Nat.le_of_ble_eq_true rfl) (lv := [(0, .inr a0), (1, .inl a1), (2, .inl a2), (3, .inl a3), (4, .inl a4)]) rfl (fun ls hL => ?_)
  exact k_X8_tree C (lx_sub hL [0, 1, 2, 3, 4] rfl) hR ⟨fun _ _ => rfl, fun _ h => by cases h⟩ hd

/-! GroveWorks.countOnWires(I)I pure -/
theorem dX8_countOnWires_0 : decode cX8_countOnWires 0 = .ok (.iconst 0, 1) := by decide +kernel
theorem dX8_countOnWires_1 : decode cX8_countOnWires 1 = .ok (.istore_n 2, 1) := by decide +kernel
theorem dX8_countOnWires_2 : decode cX8_countOnWires 2 = .ok (.iconst 0, 1) := by decide +kernel
theorem dX8_countOnWires_3 : decode cX8_countOnWires 3 = .ok (.istore_n 3, 1) := by decide +kernel
theorem dX8_countOnWires_4 : decode cX8_countOnWires 4 = .ok (.iload_n 3, 1) := by decide +kernel
theorem dX8_countOnWires_5 : decode cX8_countOnWires 5 = .ok (.bipush 16, 2) := by decide +kernel
theorem dX8_countOnWires_7 : decode cX8_countOnWires 7 = .ok (.if_icmp .ge 101, 3) := by decide +kernel
theorem dX8_countOnWires_10 : decode cX8_countOnWires 10 = .ok (.aload_n 0, 1) := by decide +kernel
theorem dX8_countOnWires_11 : decode cX8_countOnWires 11 = .ok (.getfield 33, 3) := by decide +kernel
theorem dX8_countOnWires_14 : decode cX8_countOnWires 14 = .ok (.getfield 67, 3) := by decide +kernel
theorem dX8_countOnWires_17 : decode cX8_countOnWires 17 = .ok (.iload_n 3, 1) := by decide +kernel
theorem dX8_countOnWires_18 : decode cX8_countOnWires 18 = .ok (.aaload, 1) := by decide +kernel
theorem dX8_countOnWires_19 : decode cX8_countOnWires 19 = .ok (.astore 4, 2) := by decide +kernel
theorem dX8_countOnWires_21 : decode cX8_countOnWires 21 = .ok (.iload_n 1, 1) := by decide +kernel
theorem dX8_countOnWires_22 : decode cX8_countOnWires 22 = .ok (.tableswitch 78 2 6 #[34, 45, 56, 78, 67], 34) := by decide +kernel
theorem dX8_countOnWires_56 : decode cX8_countOnWires 56 = .ok (.iload_n 2, 1) := by decide +kernel
theorem dX8_countOnWires_57 : decode cX8_countOnWires 57 = .ok (.aload 4, 2) := by decide +kernel
theorem dX8_countOnWires_59 : decode cX8_countOnWires 59 = .ok (.getfield 255, 3) := by decide +kernel
theorem dX8_countOnWires_62 : decode cX8_countOnWires 62 = .ok (.iadd, 1) := by decide +kernel
theorem dX8_countOnWires_63 : decode cX8_countOnWires 63 = .ok (.istore_n 2, 1) := by decide +kernel
theorem dX8_countOnWires_64 : decode cX8_countOnWires 64 = .ok (.goto 38, 3) := by decide +kernel
theorem dX8_countOnWires_67 : decode cX8_countOnWires 67 = .ok (.iload_n 2, 1) := by decide +kernel
theorem dX8_countOnWires_68 : decode cX8_countOnWires 68 = .ok (.aload 4, 2) := by decide +kernel
theorem dX8_countOnWires_70 : decode cX8_countOnWires 70 = .ok (.getfield 258, 3) := by decide +kernel
theorem dX8_countOnWires_73 : decode cX8_countOnWires 73 = .ok (.iadd, 1) := by decide +kernel
theorem dX8_countOnWires_74 : decode cX8_countOnWires 74 = .ok (.istore_n 2, 1) := by decide +kernel
theorem dX8_countOnWires_75 : decode cX8_countOnWires 75 = .ok (.goto 27, 3) := by decide +kernel
theorem dX8_countOnWires_78 : decode cX8_countOnWires 78 = .ok (.iload_n 2, 1) := by decide +kernel
theorem dX8_countOnWires_79 : decode cX8_countOnWires 79 = .ok (.aload 4, 2) := by decide +kernel
theorem dX8_countOnWires_81 : decode cX8_countOnWires 81 = .ok (.getfield 261, 3) := by decide +kernel
theorem dX8_countOnWires_84 : decode cX8_countOnWires 84 = .ok (.iadd, 1) := by decide +kernel
theorem dX8_countOnWires_85 : decode cX8_countOnWires 85 = .ok (.istore_n 2, 1) := by decide +kernel
theorem dX8_countOnWires_86 : decode cX8_countOnWires 86 = .ok (.goto 16, 3) := by decide +kernel
theorem dX8_countOnWires_89 : decode cX8_countOnWires 89 = .ok (.iload_n 2, 1) := by decide +kernel
theorem dX8_countOnWires_90 : decode cX8_countOnWires 90 = .ok (.aload 4, 2) := by decide +kernel
theorem dX8_countOnWires_92 : decode cX8_countOnWires 92 = .ok (.getfield 264, 3) := by decide +kernel
theorem dX8_countOnWires_95 : decode cX8_countOnWires 95 = .ok (.iadd, 1) := by decide +kernel
theorem dX8_countOnWires_96 : decode cX8_countOnWires 96 = .ok (.istore_n 2, 1) := by decide +kernel
theorem dX8_countOnWires_97 : decode cX8_countOnWires 97 = .ok (.goto 5, 3) := by decide +kernel
theorem dX8_countOnWires_100 : decode cX8_countOnWires 100 = .ok (.iconst (-1), 1) := by decide +kernel
theorem dX8_countOnWires_101 : decode cX8_countOnWires 101 = .ok (.ireturn, 1) := by decide +kernel
theorem dX8_countOnWires_102 : decode cX8_countOnWires 102 = .ok (.iinc 3 1, 3) := by decide +kernel
theorem dX8_countOnWires_105 : decode cX8_countOnWires 105 = .ok (.goto (-101), 3) := by decide +kernel
theorem dX8_countOnWires_108 : decode cX8_countOnWires 108 = .ok (.iload_n 2, 1) := by decide +kernel
theorem dX8_countOnWires_109 : decode cX8_countOnWires 109 = .ok (.ireturn, 1) := by decide +kernel
def d_X8_countOnWires_4 : Nat → Nat → Int32 → Int32 → Int32 → Hp → Option (Int32)
  | 0, _, _, _, _, _ => none
  | n_ + 1, x0, x1, x2, x3, G =>
    if 16 ≤ x3 then
      some x2
    else
      gd (hc G x0 = 9) <|
      gd (hc G (hr G x0 0) = 3) <|
      gd (hc G (hr G (hr G x0 0) 0) = 20 ∧ ix x3 (hl G (hr G (hr G x0 0) 0))) <|
      bd ((hr G (hr G (hr G x0 0) 0) x3.toNatClampNeg)) fun v5 =>
      if x1 = 2 then
        gd (hc G v5 = 8) <|
        d_X8_countOnWires_4 n_ x0 x1 (x2 + (hi G v5 8)) (x3 + 1) G
      else
      if x1 = 3 then
        gd (hc G v5 = 8) <|
        d_X8_countOnWires_4 n_ x0 x1 (x2 + (hi G v5 9)) (x3 + 1) G
      else
      if x1 = 4 then
        gd (hc G v5 = 8) <|
        d_X8_countOnWires_4 n_ x0 x1 (x2 + (hi G v5 10)) (x3 + 1) G
      else
      if x1 = 5 then
        some (-1)
      else
      if x1 = 6 then
        gd (hc G v5 = 8) <|
        d_X8_countOnWires_4 n_ x0 x1 (x2 + (hi G v5 11)) (x3 + 1) G
      else
      some (-1)
def d_X8_countOnWires (x0 : Nat) (x1 : Int32) (G : Hp) : Option (Int32) :=
  d_X8_countOnWires_4 FU x0 x1 0 0 G
section
variable {p : Program} {l : Launch} {e : Env} {s : State} {m : MethodId} {args : Array Value} {below : List Frame} {meth : Method} {c : Code} {b0 : Nat} {D : va_G} {E : Nat → ClassId}
set_option maxHeartbeats 4000000 in
set_option maxRecDepth 100000 in
theorem k_X8_countOnWires_4 (C : Cx p s m args meth c RX8 cX8_countOnWires 5 (some .int) b0 D E) {rr : Int32} {G : Hp} : ∀ (n_ : Nat) {x0 : Nat} {x1 : Int32} {x2 : Int32} {x3 : Int32} {ls : Array Slot} {H : Heap} {locs : List Loc}, lx ls 5 [(0, .inr x0), (1, .inl x1), (2, .inl x2), (3, .inl x3)] → Rp b0 D E G H → SS b0 s H locs → d_X8_countOnWires_4 n_ x0 x1 x2 x3 G = some rr → W p l e (rmd 0 (0) (0)) s m args below meth c H locs (0) (0) (MQ below (CQ b0 D E (some (.int rr)) G) args s (0) (0) (fun q => b0 ≤ q)) (F0 m 4 ls []) := by
  intro n_
  induction n_ with
  | zero =>
    intro x0 x1 x2 x3 ls H locs hL hR hS hd
    cases (show (none : Option _) = some _ from hd)
  | succ n_ ih =>
    intro x0 x1 x2 x3 ls H locs hL hR hS hd
    rw [d_X8_countOnWires_4.eq_2] at hd
    have hx := C.1
    have hb := C.2.1
    refine x_iload_n C dX8_countOnWires_4 hL 3 rfl ?_
    refine lv_bipush (v := 16) hx hb dX8_countOnWires_5 (by decide) ?_
    refine lv_icmp_ge (tgt := 108) hx hb dX8_countOnWires_7 (by decide) (fun c1 => ?_) (fun c1 => ?_)
    · rw [if_pos c1] at hd
      refine x_iload_n C dX8_countOnWires_108 hL 2 rfl ?_
      cases hd
      exact r_iret C dX8_countOnWires_109 hR hS
    · rw [if_neg c1] at hd
      refine x_aload_n C dX8_countOnWires_10 hL 0 rfl ?_
      obtain ⟨g2, hd⟩ := gd_ex hd
      refine r_getr (ci := 8) (k := 0) C fl_X8_33 rfl dX8_countOnWires_11 hR g2 ?_
      obtain ⟨g3, hd⟩ := gd_ex hd
      refine r_getr (ci := 2) (k := 0) C fl_X8_67 rfl dX8_countOnWires_14 hR g3 ?_
      refine x_iload_n C dX8_countOnWires_17 hL 3 rfl ?_
      obtain ⟨g4, hd⟩ := gd_ex hd
      refine r_aald (ci := 7) C (by decide) dX8_countOnWires_18 hR g4 ?_
      obtain ⟨v5, ev5, hd⟩ := bd_ex hd
      rw [← ev5]
      refine x_astore (lv' := [(4, .inr v5), (0, .inr x0), (1, .inl x1), (2, .inl x2), (3, .inl x3)]) C dX8_countOnWires_19 hL (by decide) rfl (fun ls hL => ?_)
      refine x_iload_n C dX8_countOnWires_21 hL 2 rfl ?_
      by_cases c6_0 : x1 = 2
      · rw [if_pos c6_0] at hd
        rw [c6_0]
        refine lv_tableIn (tgt := 56) hx hb dX8_countOnWires_22 (by decide) (by decide) rfl (by decide) ?_
        refine x_iload_n C dX8_countOnWires_56 hL 3 rfl ?_
        refine x_aload C dX8_countOnWires_57 hL 0 rfl ?_
        obtain ⟨g7, hd⟩ := gd_ex hd
        refine r_geti (ci := 7) (k := 8) C fl_X8_255 rfl dX8_countOnWires_59 hR g7 ?_
        refine lv_iadd hx hb dX8_countOnWires_62 ?_
        refine x_istore_n (lv' := [(2, .inl (x2 + (hi G v5 8))), (4, .inr v5), (0, .inr x0), (1, .inl x1), (3, .inl x3)]) C dX8_countOnWires_63 hL (by decide) rfl (fun ls hL => ?_)
        refine lv_goto (tgt := 102) hx hb dX8_countOnWires_64 (by decide) ?_
        refine x_iinc (lv' := [(3, .inl (x3 + 1)), (2, .inl (x2 + (hi G v5 8))), (4, .inr v5), (0, .inr x0), (1, .inl x1)]) C dX8_countOnWires_102 hL 4 rfl rfl (by decide) rfl (fun ls hL => ?_)
        refine lv_goto (tgt := 4) hx hb dX8_countOnWires_105 (by decide) ?_
        exact ih (lx_sub hL [3, 4, 1, 0] rfl) hR hS hd
      rw [if_neg c6_0] at hd
      by_cases c6_1 : x1 = 3
      · rw [if_pos c6_1] at hd
        rw [c6_1]
        refine lv_tableIn (tgt := 67) hx hb dX8_countOnWires_22 (by decide) (by decide) rfl (by decide) ?_
        refine x_iload_n C dX8_countOnWires_67 hL 3 rfl ?_
        refine x_aload C dX8_countOnWires_68 hL 0 rfl ?_
        obtain ⟨g8, hd⟩ := gd_ex hd
        refine r_geti (ci := 7) (k := 9) C fl_X8_258 rfl dX8_countOnWires_70 hR g8 ?_
        refine lv_iadd hx hb dX8_countOnWires_73 ?_
        refine x_istore_n (lv' := [(2, .inl (x2 + (hi G v5 9))), (4, .inr v5), (0, .inr x0), (1, .inl x1), (3, .inl x3)]) C dX8_countOnWires_74 hL (by decide) rfl (fun ls hL => ?_)
        refine lv_goto (tgt := 102) hx hb dX8_countOnWires_75 (by decide) ?_
        refine x_iinc (lv' := [(3, .inl (x3 + 1)), (2, .inl (x2 + (hi G v5 9))), (4, .inr v5), (0, .inr x0), (1, .inl x1)]) C dX8_countOnWires_102 hL 4 rfl rfl (by decide) rfl (fun ls hL => ?_)
        refine lv_goto (tgt := 4) hx hb dX8_countOnWires_105 (by decide) ?_
        exact ih (lx_sub hL [3, 4, 1, 0] rfl) hR hS hd
      rw [if_neg c6_1] at hd
      by_cases c6_2 : x1 = 4
      · rw [if_pos c6_2] at hd
        rw [c6_2]
        refine lv_tableIn (tgt := 78) hx hb dX8_countOnWires_22 (by decide) (by decide) rfl (by decide) ?_
        refine x_iload_n C dX8_countOnWires_78 hL 3 rfl ?_
        refine x_aload C dX8_countOnWires_79 hL 0 rfl ?_
        obtain ⟨g9, hd⟩ := gd_ex hd
        refine r_geti (ci := 7) (k := 10) C fl_X8_261 rfl dX8_countOnWires_81 hR g9 ?_
        refine lv_iadd hx hb dX8_countOnWires_84 ?_
        refine x_istore_n (lv' := [(2, .inl (x2 + (hi G v5 10))), (4, .inr v5), (0, .inr x0), (1, .inl x1), (3, .inl x3)]) C dX8_countOnWires_85 hL (by decide) rfl (fun ls hL => ?_)
        refine lv_goto (tgt := 102) hx hb dX8_countOnWires_86 (by decide) ?_
        refine x_iinc (lv' := [(3, .inl (x3 + 1)), (2, .inl (x2 + (hi G v5 10))), (4, .inr v5), (0, .inr x0), (1, .inl x1)]) C dX8_countOnWires_102 hL 4 rfl rfl (by decide) rfl (fun ls hL => ?_)
        refine lv_goto (tgt := 4) hx hb dX8_countOnWires_105 (by decide) ?_
        exact ih (lx_sub hL [3, 4, 1, 0] rfl) hR hS hd
      rw [if_neg c6_2] at hd
      by_cases c6_3 : x1 = 5
      · rw [if_pos c6_3] at hd
        rw [c6_3]
        refine lv_tableIn (tgt := 100) hx hb dX8_countOnWires_22 (by decide) (by decide) rfl (by decide) ?_
        refine lv_iconst (v := (-1)) hx hb dX8_countOnWires_100 (by decide) ?_
        cases hd
        exact r_iret C dX8_countOnWires_101 hR hS
      rw [if_neg c6_3] at hd
      by_cases c6_4 : x1 = 6
      · rw [if_pos c6_4] at hd
        rw [c6_4]
        refine lv_tableIn (tgt := 89) hx hb dX8_countOnWires_22 (by decide) (by decide) rfl (by decide) ?_
        refine x_iload_n C dX8_countOnWires_89 hL 3 rfl ?_
        refine x_aload C dX8_countOnWires_90 hL 0 rfl ?_
        obtain ⟨g10, hd⟩ := gd_ex hd
        refine r_geti (ci := 7) (k := 11) C fl_X8_264 rfl dX8_countOnWires_92 hR g10 ?_
        refine lv_iadd hx hb dX8_countOnWires_95 ?_
        refine x_istore_n (lv' := [(2, .inl (x2 + (hi G v5 11))), (4, .inr v5), (0, .inr x0), (1, .inl x1), (3, .inl x3)]) C dX8_countOnWires_96 hL (by decide) rfl (fun ls hL => ?_)
        refine lv_goto (tgt := 102) hx hb dX8_countOnWires_97 (by decide) ?_
        refine x_iinc (lv' := [(3, .inl (x3 + 1)), (2, .inl (x2 + (hi G v5 11))), (4, .inr v5), (0, .inr x0), (1, .inl x1)]) C dX8_countOnWires_102 hL 4 rfl rfl (by decide) rfl (fun ls hL => ?_)
        refine lv_goto (tgt := 4) hx hb dX8_countOnWires_105 (by decide) ?_
        exact ih (lx_sub hL [3, 4, 1, 0] rfl) hR hS hd
      rw [if_neg c6_4] at hd
      have z_0 := i32_ne c6_0
      have z_1 := i32_ne c6_1
      have z_2 := i32_ne c6_2
      have z_3 := i32_ne c6_3
      have z_4 := i32_ne c6_4
      refine lv_tableOut (tgt := 100) hx hb dX8_countOnWires_22 (by simp only [show ((2 : Int32)).toInt = 2 from rfl, show ((3 : Int32)).toInt = 3 from rfl, show ((4 : Int32)).toInt = 4 from rfl, show ((5 : Int32)).toInt = 5 from rfl, show ((6 : Int32)).toInt = 6 from rfl] at z_0 z_1 z_2 z_3 z_4; omega) (by decide) ?_
      refine lv_iconst (v := (-1)) hx hb dX8_countOnWires_100 (by decide) ?_
      cases hd
      exact r_iret C dX8_countOnWires_101 hR hS
set_option maxHeartbeats 4000000 in
set_option maxRecDepth 100000 in
theorem k_X8_countOnWires (C : Cx p s m args meth c RX8 cX8_countOnWires 5 (some .int) b0 D E) {rr : Int32} {G : Hp} {x0 : Nat} {x1 : Int32} {ls : Array Slot} {H : Heap} {locs : List Loc} : lx ls 5 [(0, .inr x0), (1, .inl x1)] → Rp b0 D E G H → SS b0 s H locs → d_X8_countOnWires x0 x1 G = some rr → W p l e (rmd 0 (0) (0)) s m args below meth c H locs (0) (0) (MQ below (CQ b0 D E (some (.int rr)) G) args s (0) (0) (fun q => b0 ≤ q)) (F0 m 0 ls []) := by
  intro hL hR hS hd
  unfold d_X8_countOnWires at hd
  have hx := C.1
  have hb := C.2.1
  refine lv_iconst (v := 0) hx hb dX8_countOnWires_0 (by decide) ?_
  refine x_istore_n (lv' := [(2, .inl 0), (0, .inr x0), (1, .inl x1)]) C dX8_countOnWires_1 hL (by decide) rfl (fun ls hL => ?_)
  refine lv_iconst (v := 0) hx hb dX8_countOnWires_2 (by decide) ?_
  refine x_istore_n (lv' := [(3, .inl 0), (2, .inl 0), (0, .inr x0), (1, .inl x1)]) C dX8_countOnWires_3 hL (by decide) rfl (fun ls hL => ?_)
  exact k_X8_countOnWires_4 C FU (lx_sub hL [2, 3, 1, 0] rfl) hR hS hd
end
set_option maxHeartbeats 4000000 in
set_option maxRecDepth 100000 in
theorem ct_X8_countOnWires {l : Launch} {b0 : Nat} {D : va_G} {E : Nat → ClassId} {G : Hp} {a0 : Nat} {a1 : Int32} {rr : Int32} (hd : d_X8_countOnWires a0 a1 G = some rr) : CT l yX8_countOnWires cX8_countOnWires 5 (some .int) 0 0 0 b0 D E [rv a0, .int a1] G (some (.int rr)) G := by
  refine CT_of (by decide +kernel) ?_
  intro p e s m below meth c C hnm hR
  refine r_entry [.inr a0, .inl a1] (n := 5) (Nat.le_of_ble_eq_true rfl) (lv := [(0, .inr a0), (1, .inl a1)]) rfl (fun ls hL => ?_)
  exact k_X8_countOnWires C (lx_sub hL [0, 1] rfl) hR ⟨fun _ _ => rfl, fun _ h => by cases h⟩ hd

/-! GroveWorks.count(I)I pure -/
theorem dX8_count_0 : decode cX8_count 0 = .ok (.iload_n 1, 1) := by decide +kernel
theorem dX8_count_1 : decode cX8_count 1 = .ok (.tableswitch 74 0 7 #[47, 55, 74, 74, 74, 60, 74, 68], 47) := by decide +kernel
theorem dX8_count_48 : decode cX8_count 48 = .ok (.aload_n 0, 1) := by decide +kernel
theorem dX8_count_49 : decode cX8_count 49 = .ok (.getfield 33, 3) := by decide +kernel
theorem dX8_count_52 : decode cX8_count 52 = .ok (.getfield 64, 3) := by decide +kernel
theorem dX8_count_55 : decode cX8_count 55 = .ok (.ireturn, 1) := by decide +kernel
theorem dX8_count_56 : decode cX8_count 56 = .ok (.aload_n 0, 1) := by decide +kernel
theorem dX8_count_57 : decode cX8_count 57 = .ok (.getfield 15, 3) := by decide +kernel
theorem dX8_count_60 : decode cX8_count 60 = .ok (.ireturn, 1) := by decide +kernel
theorem dX8_count_61 : decode cX8_count 61 = .ok (.aload_n 0, 1) := by decide +kernel
theorem dX8_count_62 : decode cX8_count 62 = .ok (.getfield 33, 3) := by decide +kernel
theorem dX8_count_65 : decode cX8_count 65 = .ok (.getfield 249, 3) := by decide +kernel
theorem dX8_count_68 : decode cX8_count 68 = .ok (.ireturn, 1) := by decide +kernel
theorem dX8_count_69 : decode cX8_count 69 = .ok (.aload_n 0, 1) := by decide +kernel
theorem dX8_count_70 : decode cX8_count 70 = .ok (.getfield 39, 3) := by decide +kernel
theorem dX8_count_73 : decode cX8_count 73 = .ok (.arraylength, 1) := by decide +kernel
theorem dX8_count_74 : decode cX8_count 74 = .ok (.ireturn, 1) := by decide +kernel
theorem dX8_count_75 : decode cX8_count 75 = .ok (.aload_n 0, 1) := by decide +kernel
theorem dX8_count_76 : decode cX8_count 76 = .ok (.iload_n 1, 1) := by decide +kernel
theorem dX8_count_77 : decode cX8_count 77 = .ok (.invokevirtual 252, 3) := by decide +kernel
theorem dX8_count_80 : decode cX8_count 80 = .ok (.ireturn, 1) := by decide +kernel
def d_X8_count (x0 : Nat) (x1 : Int32) (G : Hp) : Option (Int32) :=
  if x1 = 0 then
    gd (hc G x0 = 9) <|
    gd (hc G (hr G x0 0) = 3) <|
    some (hi G (hr G x0 0) 4)
  else
  if x1 = 1 then
    gd (hc G x0 = 9) <|
    some (hi G x0 3)
  else
  if x1 = 2 then
    gd (hc G x0 = 9) <|
    bo (d_X8_countOnWires x0 x1 G) fun v7 =>
    some v7
  else
  if x1 = 3 then
    gd (hc G x0 = 9) <|
    bo (d_X8_countOnWires x0 x1 G) fun v10 =>
    some v10
  else
  if x1 = 4 then
    gd (hc G x0 = 9) <|
    bo (d_X8_countOnWires x0 x1 G) fun v13 =>
    some v13
  else
  if x1 = 5 then
    gd (hc G x0 = 9) <|
    gd (hc G (hr G x0 0) = 3) <|
    some (hi G (hr G x0 0) 5)
  else
  if x1 = 6 then
    gd (hc G x0 = 9) <|
    bo (d_X8_countOnWires x0 x1 G) fun v18 =>
    some v18
  else
  if x1 = 7 then
    gd (hc G x0 = 9) <|
    gd (hc G (hr G x0 1) = 17) <|
    some (nI (hl G (hr G x0 1)))
  else
  gd (hc G x0 = 9) <|
  bo (d_X8_countOnWires x0 x1 G) fun v23 =>
  some v23
section
variable {p : Program} {l : Launch} {e : Env} {s : State} {m : MethodId} {args : Array Value} {below : List Frame} {meth : Method} {c : Code} {b0 : Nat} {D : va_G} {E : Nat → ClassId}
set_option maxHeartbeats 4000000 in
set_option maxRecDepth 100000 in
theorem k_X8_count (C : Cx p s m args meth c RX8 cX8_count 2 (some .int) b0 D E) {rr : Int32} {G : Hp} {x0 : Nat} {x1 : Int32} {ls : Array Slot} {H : Heap} {locs : List Loc} : lx ls 2 [(0, .inr x0), (1, .inl x1)] → Rp b0 D E G H → SS b0 s H locs → d_X8_count x0 x1 G = some rr → W p l e (rmd 1 (0) (0)) s m args below meth c H locs (0) (0) (MQ below (CQ b0 D E (some (.int rr)) G) args s (0) (0) (fun q => b0 ≤ q)) (F0 m 0 ls []) := by
  intro hL hR hS hd
  unfold d_X8_count at hd
  have hx := C.1
  have hb := C.2.1
  refine x_iload_n C dX8_count_0 hL 1 rfl ?_
  by_cases c1_0 : x1 = 0
  · rw [if_pos c1_0] at hd
    rw [c1_0]
    refine lv_tableIn (tgt := 48) hx hb dX8_count_1 (by decide) (by decide) rfl (by decide) ?_
    refine x_aload_n C dX8_count_48 hL 0 rfl ?_
    obtain ⟨g2, hd⟩ := gd_ex hd
    refine r_getr (ci := 8) (k := 0) C fl_X8_33 rfl dX8_count_49 hR g2 ?_
    obtain ⟨g3, hd⟩ := gd_ex hd
    refine r_geti (ci := 2) (k := 4) C fl_X8_64 rfl dX8_count_52 hR g3 ?_
    cases hd
    exact r_iret C dX8_count_55 hR hS
  rw [if_neg c1_0] at hd
  by_cases c1_1 : x1 = 1
  · rw [if_pos c1_1] at hd
    rw [c1_1]
    refine lv_tableIn (tgt := 56) hx hb dX8_count_1 (by decide) (by decide) rfl (by decide) ?_
    refine x_aload_n C dX8_count_56 hL 0 rfl ?_
    obtain ⟨g4, hd⟩ := gd_ex hd
    refine r_geti (ci := 8) (k := 3) C fl_X8_15 rfl dX8_count_57 hR g4 ?_
    cases hd
    exact r_iret C dX8_count_60 hR hS
  rw [if_neg c1_1] at hd
  by_cases c1_2 : x1 = 2
  · rw [if_pos c1_2] at hd
    rw [c1_2]
    refine lv_tableIn (tgt := 75) hx hb dX8_count_1 (by decide) (by decide) rfl (by decide) ?_
    refine x_aload_n C dX8_count_75 hL 0 rfl ?_
    refine x_iload_n C dX8_count_76 hL 1 rfl ?_
    obtain ⟨g5, hd⟩ := gd_ex hd
    obtain ⟨v7, h6, hd⟩ := bo_ex hd
    refine r_callV (a := x0) (ci := 8) (As := [.int x1]) C (ct_X8_countOnWires h6) mf_X8_countOnWires ml_X8_252 mv_X8_countOnWires rfl ⟨Nat.le_of_ble_eq_true rfl, Nat.le_of_ble_eq_true rfl⟩ dX8_count_77 (lx_size hL) rfl hR hS g5 ⟨Nat.le_refl _, Nat.le_refl _⟩ (cat_le [] (Nat.le_of_ble_eq_true rfl)) (fun H locs hR hS => ?_)
    refine W_st (st2 := [.int v7]) rfl ?_
    cases hd
    exact r_iret C dX8_count_80 hR hS
  rw [if_neg c1_2] at hd
  by_cases c1_3 : x1 = 3
  · rw [if_pos c1_3] at hd
    rw [c1_3]
    refine lv_tableIn (tgt := 75) hx hb dX8_count_1 (by decide) (by decide) rfl (by decide) ?_
    refine x_aload_n C dX8_count_75 hL 0 rfl ?_
    refine x_iload_n C dX8_count_76 hL 1 rfl ?_
    obtain ⟨g8, hd⟩ := gd_ex hd
    obtain ⟨v10, h9, hd⟩ := bo_ex hd
    refine r_callV (a := x0) (ci := 8) (As := [.int x1]) C (ct_X8_countOnWires h9) mf_X8_countOnWires ml_X8_252 mv_X8_countOnWires rfl ⟨Nat.le_of_ble_eq_true rfl, Nat.le_of_ble_eq_true rfl⟩ dX8_count_77 (lx_size hL) rfl hR hS g8 ⟨Nat.le_refl _, Nat.le_refl _⟩ (cat_le [] (Nat.le_of_ble_eq_true rfl)) (fun H locs hR hS => ?_)
    refine W_st (st2 := [.int v10]) rfl ?_
    cases hd
    exact r_iret C dX8_count_80 hR hS
  rw [if_neg c1_3] at hd
  by_cases c1_4 : x1 = 4
  · rw [if_pos c1_4] at hd
    rw [c1_4]
    refine lv_tableIn (tgt := 75) hx hb dX8_count_1 (by decide) (by decide) rfl (by decide) ?_
    refine x_aload_n C dX8_count_75 hL 0 rfl ?_
    refine x_iload_n C dX8_count_76 hL 1 rfl ?_
    obtain ⟨g11, hd⟩ := gd_ex hd
    obtain ⟨v13, h12, hd⟩ := bo_ex hd
    refine r_callV (a := x0) (ci := 8) (As := [.int x1]) C (ct_X8_countOnWires h12) mf_X8_countOnWires ml_X8_252 mv_X8_countOnWires rfl ⟨Nat.le_of_ble_eq_true rfl, Nat.le_of_ble_eq_true rfl⟩ dX8_count_77 (lx_size hL) rfl hR hS g11 ⟨Nat.le_refl _, Nat.le_refl _⟩ (cat_le [] (Nat.le_of_ble_eq_true rfl)) (fun H locs hR hS => ?_)
    refine W_st (st2 := [.int v13]) rfl ?_
    cases hd
    exact r_iret C dX8_count_80 hR hS
  rw [if_neg c1_4] at hd
  by_cases c1_5 : x1 = 5
  · rw [if_pos c1_5] at hd
    rw [c1_5]
    refine lv_tableIn (tgt := 61) hx hb dX8_count_1 (by decide) (by decide) rfl (by decide) ?_
    refine x_aload_n C dX8_count_61 hL 0 rfl ?_
    obtain ⟨g14, hd⟩ := gd_ex hd
    refine r_getr (ci := 8) (k := 0) C fl_X8_33 rfl dX8_count_62 hR g14 ?_
    obtain ⟨g15, hd⟩ := gd_ex hd
    refine r_geti (ci := 2) (k := 5) C fl_X8_249 rfl dX8_count_65 hR g15 ?_
    cases hd
    exact r_iret C dX8_count_68 hR hS
  rw [if_neg c1_5] at hd
  by_cases c1_6 : x1 = 6
  · rw [if_pos c1_6] at hd
    rw [c1_6]
    refine lv_tableIn (tgt := 75) hx hb dX8_count_1 (by decide) (by decide) rfl (by decide) ?_
    refine x_aload_n C dX8_count_75 hL 0 rfl ?_
    refine x_iload_n C dX8_count_76 hL 1 rfl ?_
    obtain ⟨g16, hd⟩ := gd_ex hd
    obtain ⟨v18, h17, hd⟩ := bo_ex hd
    refine r_callV (a := x0) (ci := 8) (As := [.int x1]) C (ct_X8_countOnWires h17) mf_X8_countOnWires ml_X8_252 mv_X8_countOnWires rfl ⟨Nat.le_of_ble_eq_true rfl, Nat.le_of_ble_eq_true rfl⟩ dX8_count_77 (lx_size hL) rfl hR hS g16 ⟨Nat.le_refl _, Nat.le_refl _⟩ (cat_le [] (Nat.le_of_ble_eq_true rfl)) (fun H locs hR hS => ?_)
    refine W_st (st2 := [.int v18]) rfl ?_
    cases hd
    exact r_iret C dX8_count_80 hR hS
  rw [if_neg c1_6] at hd
  by_cases c1_7 : x1 = 7
  · rw [if_pos c1_7] at hd
    rw [c1_7]
    refine lv_tableIn (tgt := 69) hx hb dX8_count_1 (by decide) (by decide) rfl (by decide) ?_
    refine x_aload_n C dX8_count_69 hL 0 rfl ?_
    obtain ⟨g19, hd⟩ := gd_ex hd
    refine r_getr (ci := 8) (k := 1) C fl_X8_39 rfl dX8_count_70 hR g19 ?_
    obtain ⟨g20, hd⟩ := gd_ex hd
    refine r_alen C dX8_count_73 hR (Or.inr ⟨4, by decide, g20⟩) ?_
    cases hd
    exact r_iret C dX8_count_74 hR hS
  rw [if_neg c1_7] at hd
  have z_0 := i32_ne c1_0
  have z_1 := i32_ne c1_1
  have z_2 := i32_ne c1_2
  have z_3 := i32_ne c1_3
  have z_4 := i32_ne c1_4
  have z_5 := i32_ne c1_5
  have z_6 := i32_ne c1_6
  have z_7 := i32_ne c1_7
  refine lv_tableOut (tgt := 75) hx hb dX8_count_1 (by simp only [show ((0 : Int32)).toInt = 0 from rfl, show ((1 : Int32)).toInt = 1 from rfl, show ((2 : Int32)).toInt = 2 from rfl, show ((3 : Int32)).toInt = 3 from rfl, show ((4 : Int32)).toInt = 4 from rfl, show ((5 : Int32)).toInt = 5 from rfl, show ((6 : Int32)).toInt = 6 from rfl, show ((7 : Int32)).toInt = 7 from rfl] at z_0 z_1 z_2 z_3 z_4 z_5 z_6 z_7; omega) (by decide) ?_
  refine x_aload_n C dX8_count_75 hL 0 rfl ?_
  refine x_iload_n C dX8_count_76 hL 1 rfl ?_
  obtain ⟨g21, hd⟩ := gd_ex hd
  obtain ⟨v23, h22, hd⟩ := bo_ex hd
  refine r_callV (a := x0) (ci := 8) (As := [.int x1]) C (ct_X8_countOnWires h22) mf_X8_countOnWires ml_X8_252 mv_X8_countOnWires rfl ⟨Nat.le_of_ble_eq_true rfl, Nat.le_of_ble_eq_true rfl⟩ dX8_count_77 (lx_size hL) rfl hR hS g21 ⟨Nat.le_refl _, Nat.le_refl _⟩ (cat_le [] (Nat.le_of_ble_eq_true rfl)) (fun H locs hR hS => ?_)
  refine W_st (st2 := [.int v23]) rfl ?_
  cases hd
  exact r_iret C dX8_count_80 hR hS
end
set_option maxHeartbeats 4000000 in
set_option maxRecDepth 100000 in
theorem ct_X8_count {l : Launch} {b0 : Nat} {D : va_G} {E : Nat → ClassId} {G : Hp} {a0 : Nat} {a1 : Int32} {rr : Int32} (hd : d_X8_count a0 a1 G = some rr) : CT l yX8_count cX8_count 2 (some .int) 1 0 0 b0 D E [rv a0, .int a1] G (some (.int rr)) G := by
  refine CT_of (by decide +kernel) ?_
  intro p e s m below meth c C hnm hR
  refine r_entry [.inr a0, .inl a1] (n := 2) (Nat.le_of_ble_eq_true rfl) (lv := [(0, .inr a0), (1, .inl a1)]) rfl (fun ls hL => ?_)
  exact k_X8_count C (lx_sub hL [0, 1] rfl) hR ⟨fun _ _ => rfl, fun _ h => by cases h⟩ hd
