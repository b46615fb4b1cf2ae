/-! GroveWorks$Port.isJoined(II)Z pure -/
theorem dX3_isJoined_0 : decode cX3_isJoined 0 = .ok (.aload_n 0, 1) := by decide +kernel
theorem dX3_isJoined_1 : decode cX3_isJoined 1 = .ok (.getfield 28, 3) := by decide +kernel
theorem dX3_isJoined_4 : decode cX3_isJoined 4 = .ok (.iload_n 1, 1) := by decide +kernel
theorem dX3_isJoined_5 : decode cX3_isJoined 5 = .ok (.bipush 17, 2) := by decide +kernel
theorem dX3_isJoined_7 : decode cX3_isJoined 7 = .ok (.imul, 1) := by decide +kernel
theorem dX3_isJoined_8 : decode cX3_isJoined 8 = .ok (.iload_n 2, 1) := by decide +kernel
theorem dX3_isJoined_9 : decode cX3_isJoined 9 = .ok (.iadd, 1) := by decide +kernel
theorem dX3_isJoined_10 : decode cX3_isJoined 10 = .ok (.iaload, 1) := by decide +kernel
theorem dX3_isJoined_11 : decode cX3_isJoined 11 = .ok (.aload_n 0, 1) := by decide +kernel
theorem dX3_isJoined_12 : decode cX3_isJoined 12 = .ok (.getfield 40, 3) := by decide +kernel
theorem dX3_isJoined_15 : decode cX3_isJoined 15 = .ok (.getfield 60, 3) := by decide +kernel
theorem dX3_isJoined_18 : decode cX3_isJoined 18 = .ok (.if_icmp .le 7, 3) := by decide +kernel
theorem dX3_isJoined_21 : decode cX3_isJoined 21 = .ok (.iconst 1, 1) := by decide +kernel
theorem dX3_isJoined_22 : decode cX3_isJoined 22 = .ok (.goto 4, 3) := by decide +kernel
theorem dX3_isJoined_25 : decode cX3_isJoined 25 = .ok (.iconst 0, 1) := by decide +kernel
theorem dX3_isJoined_26 : decode cX3_isJoined 26 = .ok (.ireturn, 1) := by decide +kernel
def d_X3_isJoined (x0 : Nat) (x1 : Int32) (x2 : Int32) (G : Hp) : Option (Int32) :=
  gd (hc G x0 = 4) <|
  gd (hc G (hr G x0 9) = 11 ∧ ix ((x1 * 17) + x2) (hl G (hr G x0 9))) <|
  gd (hc G (hr G x0 0) = 3) <|
  if (hi G (hr G x0 9) ((x1 * 17) + x2).toNatClampNeg) ≤ (hi G (hr G x0 0) 4) then
    some 0
  else
    some 1
section
variable {p : Program} {l : Launch} {e : Env} {s : State} {m : MethodId} {args : Array Value} {below : List Frame} {meth : Method} {c : Code} {b0 : Nat} {D : va_G} {E : Nat → ClassId}
set_option maxHeartbeats 4000000 in
set_option maxRecDepth 100000 in
theorem k_X3_isJoined (C : Cx p s m args meth c RX3 cX3_isJoined 3 (some .boolean) b0 D E) {rr : Int32} {G : Hp} {x0 : Nat} {x1 : Int32} {x2 : Int32} {ls : Array Slot} {H : Heap} {locs : List Loc} : lx ls 3 [(0, .inr x0), (1, .inl x1), (2, .inl x2)] → Rp b0 D E G H → SS b0 s H locs → d_X3_isJoined x0 x1 x2 G = some rr → W p l e (rmd 0 (0) (0)) s m args below meth c H locs (0) (0) (MQ below (CQ b0 D E (some (.int rr)) G) args s (0) (0) (fun q => b0 ≤ q)) (F0 m 0 ls []) := by
  intro hL hR hS hd
  unfold d_X3_isJoined at hd
  have hx := C.1
  have hb := C.2.1
  refine x_aload_n C dX3_isJoined_0 hL 0 rfl ?_
  obtain ⟨g1, hd⟩ := gd_ex hd
  refine r_getr (ci := 3) (k := 9) C fl_X3_28 rfl dX3_isJoined_1 hR g1 ?_
  refine x_iload_n C dX3_isJoined_4 hL 1 rfl ?_
  refine lv_bipush (v := 17) hx hb dX3_isJoined_5 (by decide) ?_
  refine lv_imul hx hb dX3_isJoined_7 ?_
  refine x_iload_n C dX3_isJoined_8 hL 2 rfl ?_
  refine lv_iadd hx hb dX3_isJoined_9 ?_
  obtain ⟨g2, hd⟩ := gd_ex hd
  refine r_iald C dX3_isJoined_10 hR g2 ?_
  refine x_aload_n C dX3_isJoined_11 hL 0 rfl ?_
  refine r_getr (ci := 3) (k := 0) C fl_X3_40 rfl dX3_isJoined_12 hR g1 ?_
  obtain ⟨g3, hd⟩ := gd_ex hd
  refine r_geti (ci := 2) (k := 4) C fl_X3_60 rfl dX3_isJoined_15 hR g3 ?_
  refine lv_icmp_le (tgt := 25) hx hb dX3_isJoined_18 (by decide) (fun c4 => ?_) (fun c4 => ?_)
  · rw [if_pos c4] at hd
    refine lv_iconst (v := 0) hx hb dX3_isJoined_25 (by decide) ?_
    cases hd
    exact r_zret C (by decide) dX3_isJoined_26 hR hS
  · rw [if_neg c4] at hd
    refine lv_iconst (v := 1) hx hb dX3_isJoined_21 (by decide) ?_
    refine lv_goto (tgt := 26) hx hb dX3_isJoined_22 (by decide) ?_
    cases hd
    exact r_zret C (by decide) dX3_isJoined_26 hR hS
end
set_option maxHeartbeats 4000000 in
set_option maxRecDepth 100000 in
theorem ct_X3_isJoined {l : Launch} {b0 : Nat} {D : va_G} {E : Nat → ClassId} {G : Hp} {a0 : Nat} {a1 : Int32} {a2 : Int32} {rr : Int32} (hd : d_X3_isJoined a0 a1 a2 G = some rr) : CT l yX3_isJoined cX3_isJoined 3 (some .boolean) 0 0 0 b0 D E [rv a0, .int a1, .int a2] G (some (.int rr)) G := by
  refine CT_of (by decide +kernel) ?_
  intro p e s m below meth c C hnm hR
  refine r_entry [.inr a0, .inl a1, .inl a2] (n := 3) (Nat.le_of_ble_eq_true rfl) (lv := [(0, .inr a0), (1, .inl a1), (2, .inl a2)]) rfl (fun ls hL => ?_)
  exact k_X3_isJoined C (lx_sub hL [0, 1, 2] rfl) hR ⟨fun _ _ => rfl, fun _ h => by cases h⟩ hd

/-! GroveWorks$Port.whenJoinEnds(II)I pure -/
theorem dX3_whenJoinEnds_0 : decode cX3_whenJoinEnds 0 = .ok (.aload_n 0, 1) := by decide +kernel
theorem dX3_whenJoinEnds_1 : decode cX3_whenJoinEnds 1 = .ok (.iload_n 1, 1) := by decide +kernel
theorem dX3_whenJoinEnds_2 : decode cX3_whenJoinEnds 2 = .ok (.iload_n 2, 1) := by decide +kernel
theorem dX3_whenJoinEnds_3 : decode cX3_whenJoinEnds 3 = .ok (.invokevirtual 83, 3) := by decide +kernel
theorem dX3_whenJoinEnds_6 : decode cX3_whenJoinEnds 6 = .ok (.ifCond .eq 17, 3) := by decide +kernel
theorem dX3_whenJoinEnds_9 : decode cX3_whenJoinEnds 9 = .ok (.aload_n 0, 1) := by decide +kernel
theorem dX3_whenJoinEnds_10 : decode cX3_whenJoinEnds 10 = .ok (.getfield 28, 3) := by decide +kernel
theorem dX3_whenJoinEnds_13 : decode cX3_whenJoinEnds 13 = .ok (.iload_n 1, 1) := by decide +kernel
theorem dX3_whenJoinEnds_14 : decode cX3_whenJoinEnds 14 = .ok (.bipush 17, 2) := by decide +kernel
theorem dX3_whenJoinEnds_16 : decode cX3_whenJoinEnds 16 = .ok (.imul, 1) := by decide +kernel
theorem dX3_whenJoinEnds_17 : decode cX3_whenJoinEnds 17 = .ok (.iload_n 2, 1) := by decide +kernel
theorem dX3_whenJoinEnds_18 : decode cX3_whenJoinEnds 18 = .ok (.iadd, 1) := by decide +kernel
theorem dX3_whenJoinEnds_19 : decode cX3_whenJoinEnds 19 = .ok (.iaload, 1) := by decide +kernel
theorem dX3_whenJoinEnds_20 : decode cX3_whenJoinEnds 20 = .ok (.goto 4, 3) := by decide +kernel
theorem dX3_whenJoinEnds_23 : decode cX3_whenJoinEnds 23 = .ok (.iconst 0, 1) := by decide +kernel
theorem dX3_whenJoinEnds_24 : decode cX3_whenJoinEnds 24 = .ok (.ireturn, 1) := by decide +kernel
def d_X3_whenJoinEnds (x0 : Nat) (x1 : Int32) (x2 : Int32) (G : Hp) : Option (Int32) :=
  gd (hc G x0 = 4) <|
  bo (d_X3_isJoined x0 x1 x2 G) fun v3 =>
  if v3 = 0 then
    some 0
  else
    gd (hc G (hr G x0 9) = 11 ∧ ix ((x1 * 17) + x2) (hl G (hr G x0 9))) <|
    some (hi G (hr G x0 9) ((x1 * 17) + x2).toNatClampNeg)
section
variable {p : Program} {l : Launch} {e : Env} {s : State} {m : MethodId} {args : Array Value} {below : List Frame} {meth : Method} {c : Code} {b0 : Nat} {D : va_G} {E : Nat → ClassId}
set_option maxHeartbeats 4000000 in
set_option maxRecDepth 100000 in
theorem k_X3_whenJoinEnds (C : Cx p s m args meth c RX3 cX3_whenJoinEnds 3 (some .int) b0 D E) {rr : Int32} {G : Hp} {x0 : Nat} {x1 : Int32} {x2 : Int32} {ls : Array Slot} {H : Heap} {locs : List Loc} : lx ls 3 [(0, .inr x0), (1, .inl x1), (2, .inl x2)] → Rp b0 D E G H → SS b0 s H locs → d_X3_whenJoinEnds x0 x1 x2 G = some rr → W p l e (rmd 1 (0) (0)) s m args below meth c H locs (0) (0) (MQ below (CQ b0 D E (some (.int rr)) G) args s (0) (0) (fun q => b0 ≤ q)) (F0 m 0 ls []) := by
  intro hL hR hS hd
  unfold d_X3_whenJoinEnds at hd
  have hx := C.1
  have hb := C.2.1
  refine x_aload_n C dX3_whenJoinEnds_0 hL 0 rfl ?_
  refine x_iload_n C dX3_whenJoinEnds_1 hL 1 rfl ?_
  refine x_iload_n C dX3_whenJoinEnds_2 hL 2 rfl ?_
  obtain ⟨g1, hd⟩ := gd_ex hd
  obtain ⟨v3, h2, hd⟩ := bo_ex hd
  refine r_callV (a := x0) (ci := 3) (As := [.int x1, .int x2]) C (ct_X3_isJoined h2) mf_X3_isJoined ml_X3_83 mv_X3_isJoined rfl ⟨Nat.le_of_ble_eq_true rfl, Nat.le_of_ble_eq_true rfl⟩ dX3_whenJoinEnds_3 (lx_size hL) rfl hR hS g1 ⟨Nat.le_refl _, Nat.le_refl _⟩ (cat_le [] (Nat.le_of_ble_eq_true rfl)) (fun H locs hR hS => ?_)
  refine W_st (st2 := [.int v3]) rfl ?_
  refine lv_if_eq (tgt := 23) hx hb dX3_whenJoinEnds_6 (by decide) (fun c4 => ?_) (fun c4 => ?_)
  · rw [if_pos c4] at hd
    refine lv_iconst (v := 0) hx hb dX3_whenJoinEnds_23 (by decide) ?_
    cases hd
    exact r_iret C dX3_whenJoinEnds_24 hR hS
  · rw [if_neg c4] at hd
    refine x_aload_n C dX3_whenJoinEnds_9 hL 0 rfl ?_
    refine r_getr (ci := 3) (k := 9) C fl_X3_28 rfl dX3_whenJoinEnds_10 hR g1 ?_
    refine x_iload_n C dX3_whenJoinEnds_13 hL 1 rfl ?_
    refine lv_bipush (v := 17) hx hb dX3_whenJoinEnds_14 (by decide) ?_
    refine lv_imul hx hb dX3_whenJoinEnds_16 ?_
    refine x_iload_n C dX3_whenJoinEnds_17 hL 2 rfl ?_
    refine lv_iadd hx hb dX3_whenJoinEnds_18 ?_
    obtain ⟨g5, hd⟩ := gd_ex hd
    refine r_iald C dX3_whenJoinEnds_19 hR g5 ?_
    refine lv_goto (tgt := 24) hx hb dX3_whenJoinEnds_20 (by decide) ?_
    cases hd
    exact r_iret C dX3_whenJoinEnds_24 hR hS
end
set_option maxHeartbeats 4000000 in
set_option maxRecDepth 100000 in
theorem ct_X3_whenJoinEnds {l : Launch} {b0 : Nat} {D : va_G} {E : Nat → ClassId} {G : Hp} {a0 : Nat} {a1 : Int32} {a2 : Int32} {rr : Int32} (hd : d_X3_whenJoinEnds a0 a1 a2 G = some rr) : CT l yX3_whenJoinEnds cX3_whenJoinEnds 3 (some .int) 1 0 0 b0 D E [rv a0, .int a1, .int a2] G (some (.int rr)) G := by
  refine CT_of (by decide +kernel) ?_
  intro p e s m below meth c C hnm hR
  refine r_entry [.inr a0, .inl a1, .inl a2] (n := 3) (Nat.le_of_ble_eq_true rfl) (lv := [(0, .inr a0), (1, .inl a1), (2, .inl a2)]) rfl (fun ls hL => ?_)
  exact k_X3_whenJoinEnds C (lx_sub hL [0, 1, 2] rfl) hR ⟨fun _ _ => rfl, fun _ h => by cases h⟩ hd

/-! GroveWorks$Port.isCutOff(II)Z pure -/
theorem dX3_isCutOff_0 : decode cX3_isCutOff 0 = .ok (.aload_n 0, 1) := by decide +kernel
theorem dX3_isCutOff_1 : decode cX3_isCutOff 1 = .ok (.getfield 31, 3) := by decide +kernel
theorem dX3_isCutOff_4 : decode cX3_isCutOff 4 = .ok (.iload_n 1, 1) := by decide +kernel
theorem dX3_isCutOff_5 : decode cX3_isCutOff 5 = .ok (.bipush 16, 2) := by decide +kernel
theorem dX3_isCutOff_7 : decode cX3_isCutOff 7 = .ok (.imul, 1) := by decide +kernel
theorem dX3_isCutOff_8 : decode cX3_isCutOff 8 = .ok (.iload_n 2, 1) := by decide +kernel
theorem dX3_isCutOff_9 : decode cX3_isCutOff 9 = .ok (.iadd, 1) := by decide +kernel
theorem dX3_isCutOff_10 : decode cX3_isCutOff 10 = .ok (.iaload, 1) := by decide +kernel
theorem dX3_isCutOff_11 : decode cX3_isCutOff 11 = .ok (.istore_n 3, 1) := by decide +kernel
theorem dX3_isCutOff_12 : decode cX3_isCutOff 12 = .ok (.iload_n 3, 1) := by decide +kernel
theorem dX3_isCutOff_13 : decode cX3_isCutOff 13 = .ok (.ifCond .eq 28, 3) := by decide +kernel
theorem dX3_isCutOff_16 : decode cX3_isCutOff 16 = .ok (.iload_n 3, 1) := by decide +kernel
theorem dX3_isCutOff_17 : decode cX3_isCutOff 17 = .ok (.aload_n 0, 1) := by decide +kernel
theorem dX3_isCutOff_18 : decode cX3_isCutOff 18 = .ok (.getfield 40, 3) := by decide +kernel
theorem dX3_isCutOff_21 : decode cX3_isCutOff 21 = .ok (.getfield 60, 3) := by decide +kernel
theorem dX3_isCutOff_24 : decode cX3_isCutOff 24 = .ok (.if_icmp .gt 17, 3) := by decide +kernel
theorem dX3_isCutOff_27 : decode cX3_isCutOff 27 = .ok (.aload_n 0, 1) := by decide +kernel
theorem dX3_isCutOff_28 : decode cX3_isCutOff 28 = .ok (.iload_n 1, 1) := by decide +kernel
theorem dX3_isCutOff_29 : decode cX3_isCutOff 29 = .ok (.bipush 16, 2) := by decide +kernel
theorem dX3_isCutOff_31 : decode cX3_isCutOff 31 = .ok (.invokevirtual 83, 3) := by decide +kernel
theorem dX3_isCutOff_34 : decode cX3_isCutOff 34 = .ok (.ifCond .eq 7, 3) := by decide +kernel
theorem dX3_isCutOff_37 : decode cX3_isCutOff 37 = .ok (.iconst 1, 1) := by decide +kernel
theorem dX3_isCutOff_38 : decode cX3_isCutOff 38 = .ok (.goto 4, 3) := by decide +kernel
theorem dX3_isCutOff_41 : decode cX3_isCutOff 41 = .ok (.iconst 0, 1) := by decide +kernel
theorem dX3_isCutOff_42 : decode cX3_isCutOff 42 = .ok (.ireturn, 1) := by decide +kernel
def d_X3_isCutOff (x0 : Nat) (x1 : Int32) (x2 : Int32) (G : Hp) : Option (Int32) :=
  gd (hc G x0 = 4) <|
  gd (hc G (hr G x0 10) = 11 ∧ ix ((x1 * 16) + x2) (hl G (hr G x0 10))) <|
  bd ((hi G (hr G x0 10) ((x1 * 16) + x2).toNatClampNeg)) fun v3 =>
  if v3 = 0 then
    some 0
  else
    gd (hc G (hr G x0 0) = 3) <|
    if (hi G (hr G x0 0) 4) < v3 then
      some 0
    else
      bo (d_X3_isJoined x0 x1 16 G) fun v8 =>
      if v8 = 0 then
        some 0
      else
        some 1
section
variable {p : Program} {l : Launch} {e : Env} {s : State} {m : MethodId} {args : Array Value} {below : List Frame} {meth : Method} {c : Code} {b0 : Nat} {D : va_G} {E : Nat → ClassId}
set_option maxHeartbeats 4000000 in
set_option maxRecDepth 100000 in
theorem k_X3_isCutOff (C : Cx p s m args meth c RX3 cX3_isCutOff 4 (some .boolean) b0 D E) {rr : Int32} {G : Hp} {x0 : Nat} {x1 : Int32} {x2 : Int32} {ls : Array Slot} {H : Heap} {locs : List Loc} : lx ls 4 [(0, .inr x0), (1, .inl x1), (2, .inl x2)] → Rp b0 D E G H → SS b0 s H locs → d_X3_isCutOff x0 x1 x2 G = some rr → W p l e (rmd 1 (0) (0)) s m args below meth c H locs (0) (0) (MQ below (CQ b0 D E (some (.int rr)) G) args s (0) (0) (fun q => b0 ≤ q)) (F0 m 0 ls []) := by
  intro hL hR hS hd
  unfold d_X3_isCutOff at hd
  have hx := C.1
  have hb := C.2.1
  refine x_aload_n C dX3_isCutOff_0 hL 0 rfl ?_
  obtain ⟨g1, hd⟩ := gd_ex hd
  refine r_getr (ci := 3) (k := 10) C fl_X3_31 rfl dX3_isCutOff_1 hR g1 ?_
  refine x_iload_n C dX3_isCutOff_4 hL 1 rfl ?_
  refine lv_bipush (v := 16) hx hb dX3_isCutOff_5 (by decide) ?_
  refine lv_imul hx hb dX3_isCutOff_7 ?_
  refine x_iload_n C dX3_isCutOff_8 hL 2 rfl ?_
  refine lv_iadd hx hb dX3_isCutOff_9 ?_
  obtain ⟨g2, hd⟩ := gd_ex hd
  refine r_iald C dX3_isCutOff_10 hR g2 ?_
  obtain ⟨v3, ev3, hd⟩ := bd_ex hd
  rw [← ev3]
  refine x_istore_n (lv' := [(3, .inl v3), (0, .inr x0), (1, .inl x1), (2, .inl x2)]) C dX3_isCutOff_11 hL (by decide) rfl (fun ls hL => ?_)
  refine x_iload_n C dX3_isCutOff_12 hL 0 rfl ?_
  refine lv_if_eq (tgt := 41) hx hb dX3_isCutOff_13 (by decide) (fun c4 => ?_) (fun c4 => ?_)
  · rw [if_pos c4] at hd
    refine lv_iconst (v := 0) hx hb dX3_isCutOff_41 (by decide) ?_
    cases hd
    exact r_zret C (by decide) dX3_isCutOff_42 hR hS
  · rw [if_neg c4] at hd
    refine x_iload_n C dX3_isCutOff_16 hL 0 rfl ?_
    refine x_aload_n C dX3_isCutOff_17 hL 1 rfl ?_
    refine r_getr (ci := 3) (k := 0) C fl_X3_40 rfl dX3_isCutOff_18 hR g1 ?_
    obtain ⟨g5, hd⟩ := gd_ex hd
    refine r_geti (ci := 2) (k := 4) C fl_X3_60 rfl dX3_isCutOff_21 hR g5 ?_
    refine lv_icmp_gt (tgt := 41) hx hb dX3_isCutOff_24 (by decide) (fun c6 => ?_) (fun c6 => ?_)
    · rw [if_pos c6] at hd
      refine lv_iconst (v := 0) hx hb dX3_isCutOff_41 (by decide) ?_
      cases hd
      exact r_zret C (by decide) dX3_isCutOff_42 hR hS
    · rw [if_neg c6] at hd
      refine x_aload_n C dX3_isCutOff_27 hL 1 rfl ?_
      refine x_iload_n C dX3_isCutOff_28 hL 2 rfl ?_
      refine lv_bipush (v := 16) hx hb dX3_isCutOff_29 (by decide) ?_
      obtain ⟨v8, h7, hd⟩ := bo_ex hd
      refine r_callV (a := x0) (ci := 3) (As := [.int x1, .int 16]) C (ct_X3_isJoined h7) mf_X3_isJoined ml_X3_83 mv_X3_isJoined rfl ⟨Nat.le_of_ble_eq_true rfl, Nat.le_of_ble_eq_true rfl⟩ dX3_isCutOff_31 (lx_size hL) rfl hR hS g1 ⟨Nat.le_refl _, Nat.le_refl _⟩ (cat_le [] (Nat.le_of_ble_eq_true rfl)) (fun H locs hR hS => ?_)
      refine W_st (st2 := [.int v8]) rfl ?_
      refine lv_if_eq (tgt := 41) hx hb dX3_isCutOff_34 (by decide) (fun c9 => ?_) (fun c9 => ?_)
      · rw [if_pos c9] at hd
        refine lv_iconst (v := 0) hx hb dX3_isCutOff_41 (by decide) ?_
        cases hd
        exact r_zret C (by decide) dX3_isCutOff_42 hR hS
      · rw [if_neg c9] at hd
        refine lv_iconst (v := 1) hx hb dX3_isCutOff_37 (by decide) ?_
        refine lv_goto (tgt := 42) hx hb dX3_isCutOff_38 (by decide) ?_
        cases hd
        exact r_zret C (by decide) dX3_isCutOff_42 hR hS
end
set_option maxHeartbeats 4000000 in
set_option maxRecDepth 100000 in
theorem ct_X3_isCutOff {l : Launch} {b0 : Nat} {D : va_G} {E : Nat → ClassId} {G : Hp} {a0 : Nat} {a1 : Int32} {a2 : Int32} {rr : Int32} (hd : d_X3_isCutOff a0 a1 a2 G = some rr) : CT l yX3_isCutOff cX3_isCutOff 4 (some .boolean) 1 0 0 b0 D E [rv a0, .int a1, .int a2] G (some (.int rr)) G := by
  refine CT_of (by decide +kernel) ?_
  intro p e s m below meth c C hnm hR
  refine r_entry [.inr a0, .inl a1, .inl a2] (n := 4) (Nat.le_of_ble_eq_true rfl) (lv := [(0, .inr a0), (1, .inl a1), (2, .inl a2)]) rfl (fun ls hL => ?_)
  exact k_X3_isCutOff C (lx_sub hL [0, 1, 2] rfl) hR ⟨fun _ _ => rfl, fun _ h => by cases h⟩ hd

/-! GroveWorks$Port.isShared(II)Z pure -/
theorem dX3_isShared_0 : decode cX3_isShared 0 = .ok (.aload_n 0, 1) := by decide +kernel
theorem dX3_isShared_1 : decode cX3_isShared 1 = .ok (.iload_n 1, 1) := by decide +kernel
theorem dX3_isShared_2 : decode cX3_isShared 2 = .ok (.bipush 16, 2) := by decide +kernel
theorem dX3_isShared_4 : decode cX3_isShared 4 = .ok (.invokevirtual 83, 3) := by decide +kernel
theorem dX3_isShared_7 : decode cX3_isShared 7 = .ok (.ifCond .eq 16, 3) := by decide +kernel
theorem dX3_isShared_10 : decode cX3_isShared 10 = .ok (.aload_n 0, 1) := by decide +kernel
theorem dX3_isShared_11 : decode cX3_isShared 11 = .ok (.iload_n 1, 1) := by decide +kernel
theorem dX3_isShared_12 : decode cX3_isShared 12 = .ok (.iload_n 2, 1) := by decide +kernel
theorem dX3_isShared_13 : decode cX3_isShared 13 = .ok (.invokevirtual 86, 3) := by decide +kernel
theorem dX3_isShared_16 : decode cX3_isShared 16 = .ok (.ifCond .ne 7, 3) := by decide +kernel
theorem dX3_isShared_19 : decode cX3_isShared 19 = .ok (.iconst 1, 1) := by decide +kernel
theorem dX3_isShared_20 : decode cX3_isShared 20 = .ok (.goto 4, 3) := by decide +kernel
theorem dX3_isShared_23 : decode cX3_isShared 23 = .ok (.iconst 0, 1) := by decide +kernel
theorem dX3_isShared_24 : decode cX3_isShared 24 = .ok (.ireturn, 1) := by decide +kernel
def d_X3_isShared (x0 : Nat) (x1 : Int32) (x2 : Int32) (G : Hp) : Option (Int32) :=
  gd (hc G x0 = 4) <|
  bo (d_X3_isJoined x0 x1 16 G) fun v3 =>
  if v3 = 0 then
    some 0
  else
    bo (d_X3_isCutOff x0 x1 x2 G) fun v6 =>
    if v6 = 0 then
      some 1
    else
      some 0
section
variable {p : Program} {l : Launch} {e : Env} {s : State} {m : MethodId} {args : Array Value} {below : List Frame} {meth : Method} {c : Code} {b0 : Nat} {D : va_G} {E : Nat → ClassId}
set_option maxHeartbeats 4000000 in
set_option maxRecDepth 100000 in
theorem k_X3_isShared (C : Cx p s m args meth c RX3 cX3_isShared 3 (some .boolean) b0 D E) {rr : Int32} {G : Hp} {x0 : Nat} {x1 : Int32} {x2 : Int32} {ls : Array Slot} {H : Heap} {locs : List Loc} : lx ls 3 [(0, .inr x0), (1, .inl x1), (2, .inl x2)] → Rp b0 D E G H → SS b0 s H locs → d_X3_isShared x0 x1 x2 G = some rr → W p l e (rmd 2 (0) (0)) s m args below meth c H locs (0) (0) (MQ below (CQ b0 D E (some (.int rr)) G) args s (0) (0) (fun q => b0 ≤ q)) (F0 m 0 ls []) := by
  intro hL hR hS hd
  unfold d_X3_isShared at hd
  have hx := C.1
  have hb := C.2.1
  refine x_aload_n C dX3_isShared_0 hL 0 rfl ?_
  refine x_iload_n C dX3_isShared_1 hL 1 rfl ?_
  refine lv_bipush (v := 16) hx hb dX3_isShared_2 (by decide) ?_
  obtain ⟨g1, hd⟩ := gd_ex hd
  obtain ⟨v3, h2, hd⟩ := bo_ex hd
  refine r_callV (a := x0) (ci := 3) (As := [.int x1, .int 16]) C (ct_X3_isJoined h2) mf_X3_isJoined ml_X3_83 mv_X3_isJoined rfl ⟨Nat.le_of_ble_eq_true rfl, Nat.le_of_ble_eq_true rfl⟩ dX3_isShared_4 (lx_size hL) rfl hR hS g1 ⟨Nat.le_refl _, Nat.le_refl _⟩ (cat_le [] (Nat.le_of_ble_eq_true rfl)) (fun H locs hR hS => ?_)
  refine W_st (st2 := [.int v3]) rfl ?_
  refine lv_if_eq (tgt := 23) hx hb dX3_isShared_7 (by decide) (fun c4 => ?_) (fun c4 => ?_)
  · rw [if_pos c4] at hd
    refine lv_iconst (v := 0) hx hb dX3_isShared_23 (by decide) ?_
    cases hd
    exact r_zret C (by decide) dX3_isShared_24 hR hS
  · rw [if_neg c4] at hd
    refine x_aload_n C dX3_isShared_10 hL 0 rfl ?_
    refine x_iload_n C dX3_isShared_11 hL 1 rfl ?_
    refine x_iload_n C dX3_isShared_12 hL 2 rfl ?_
    obtain ⟨v6, h5, hd⟩ := bo_ex hd
    refine r_callV (a := x0) (ci := 3) (As := [.int x1, .int x2]) C (ct_X3_isCutOff h5) mf_X3_isCutOff ml_X3_86 mv_X3_isCutOff rfl ⟨Nat.le_of_ble_eq_true rfl, Nat.le_of_ble_eq_true rfl⟩ dX3_isShared_13 (lx_size hL) rfl hR hS g1 ⟨Nat.le_refl _, Nat.le_refl _⟩ (cat_le [] (Nat.le_of_ble_eq_true rfl)) (fun H locs hR hS => ?_)
    refine W_st (st2 := [.int v6]) rfl ?_
    refine lv_if_ne (tgt := 23) hx hb dX3_isShared_16 (by decide) (fun c7 => ?_) (fun c7 => ?_)
    · rw [if_neg c7] at hd
      refine lv_iconst (v := 0) hx hb dX3_isShared_23 (by decide) ?_
      cases hd
      exact r_zret C (by decide) dX3_isShared_24 hR hS
    · rw [if_pos c7] at hd
      refine lv_iconst (v := 1) hx hb dX3_isShared_19 (by decide) ?_
      refine lv_goto (tgt := 24) hx hb dX3_isShared_20 (by decide) ?_
      cases hd
      exact r_zret C (by decide) dX3_isShared_24 hR hS
end
set_option maxHeartbeats 4000000 in
set_option maxRecDepth 100000 in
theorem ct_X3_isShared {l : Launch} {b0 : Nat} {D : va_G} {E : Nat → ClassId} {G : Hp} {a0 : Nat} {a1 : Int32} {a2 : Int32} {rr : Int32} (hd : d_X3_isShared a0 a1 a2 G = some rr) : CT l yX3_isShared cX3_isShared 3 (some .boolean) 2 0 0 b0 D E [rv a0, .int a1, .int a2] G (some (.int rr)) G := by
  refine CT_of (by decide +kernel) ?_
  intro p e s m below meth c C hnm hR
  refine r_entry [.inr a0, .inl a1, .inl a2] (n := 3) (Nat.le_of_ble_eq_true rfl) (lv := [(0, .inr a0), (1, .inl a1), (2, .inl a2)]) rfl (fun ls hL => ?_)
  exact k_X3_isShared C (lx_sub hL [0, 1, 2] rfl) hR ⟨fun _ _ => rfl, fun _ h => by cases h⟩ hd

/-! GroveWorks$Port.keptClaim(II)I pure -/
theorem dX3_keptClaim_0 : decode cX3_keptClaim 0 = .ok (.iload_n 1, 1) := by decide +kernel
theorem dX3_keptClaim_1 : decode cX3_keptClaim 1 = .ok (.bipush 16, 2) := by decide +kernel
theorem dX3_keptClaim_3 : decode cX3_keptClaim 3 = .ok (.imul, 1) := by decide +kernel
theorem dX3_keptClaim_4 : decode cX3_keptClaim 4 = .ok (.iload_n 2, 1) := by decide +kernel
theorem dX3_keptClaim_5 : decode cX3_keptClaim 5 = .ok (.iadd, 1) := by decide +kernel
theorem dX3_keptClaim_6 : decode cX3_keptClaim 6 = .ok (.istore_n 3, 1) := by decide +kernel
theorem dX3_keptClaim_7 : decode cX3_keptClaim 7 = .ok (.aload_n 0, 1) := by decide +kernel
theorem dX3_keptClaim_8 : decode cX3_keptClaim 8 = .ok (.getfield 37, 3) := by decide +kernel
theorem dX3_keptClaim_11 : decode cX3_keptClaim 11 = .ok (.iload_n 3, 1) := by decide +kernel
theorem dX3_keptClaim_12 : decode cX3_keptClaim 12 = .ok (.iaload, 1) := by decide +kernel
theorem dX3_keptClaim_13 : decode cX3_keptClaim 13 = .ok (.aload_n 0, 1) := by decide +kernel
theorem dX3_keptClaim_14 : decode cX3_keptClaim 14 = .ok (.getfield 40, 3) := by decide +kernel
theorem dX3_keptClaim_17 : decode cX3_keptClaim 17 = .ok (.getfield 60, 3) := by decide +kernel
theorem dX3_keptClaim_20 : decode cX3_keptClaim 20 = .ok (.if_icmp .le 22, 3) := by decide +kernel
theorem dX3_keptClaim_23 : decode cX3_keptClaim 23 = .ok (.aload_n 0, 1) := by decide +kernel
theorem dX3_keptClaim_24 : decode cX3_keptClaim 24 = .ok (.getfield 9, 3) := by decide +kernel
theorem dX3_keptClaim_27 : decode cX3_keptClaim 27 = .ok (.aload_n 0, 1) := by decide +kernel
theorem dX3_keptClaim_28 : decode cX3_keptClaim 28 = .ok (.getfield 34, 3) := by decide +kernel
theorem dX3_keptClaim_31 : decode cX3_keptClaim 31 = .ok (.iload_n 3, 1) := by decide +kernel
theorem dX3_keptClaim_32 : decode cX3_keptClaim 32 = .ok (.iaload, 1) := by decide +kernel
theorem dX3_keptClaim_33 : decode cX3_keptClaim 33 = .ok (.bipush 100, 2) := by decide +kernel
theorem dX3_keptClaim_35 : decode cX3_keptClaim 35 = .ok (.irem, 1) := by decide +kernel
theorem dX3_keptClaim_36 : decode cX3_keptClaim 36 = .ok (.invokestatic 104, 3) := by decide +kernel
theorem dX3_keptClaim_39 : decode cX3_keptClaim 39 = .ok (.ifCond .ne 5, 3) := by decide +kernel
theorem dX3_keptClaim_42 : decode cX3_keptClaim 42 = .ok (.iconst (-1), 1) := by decide +kernel
theorem dX3_keptClaim_43 : decode cX3_keptClaim 43 = .ok (.ireturn, 1) := by decide +kernel
theorem dX3_keptClaim_44 : decode cX3_keptClaim 44 = .ok (.aload_n 0, 1) := by decide +kernel
theorem dX3_keptClaim_45 : decode cX3_keptClaim 45 = .ok (.getfield 34, 3) := by decide +kernel
theorem dX3_keptClaim_48 : decode cX3_keptClaim 48 = .ok (.iload_n 3, 1) := by decide +kernel
theorem dX3_keptClaim_49 : decode cX3_keptClaim 49 = .ok (.iaload, 1) := by decide +kernel
theorem dX3_keptClaim_50 : decode cX3_keptClaim 50 = .ok (.ireturn, 1) := by decide +kernel
def d_X3_keptClaim (x0 : Nat) (x1 : Int32) (x2 : Int32) (G : Hp) : Option (Int32) :=
  gd (hc G x0 = 4) <|
  gd (hc G (hr G x0 12) = 11 ∧ ix ((x1 * 16) + x2) (hl G (hr G x0 12))) <|
  gd (hc G (hr G x0 0) = 3) <|
  if (hi G (hr G x0 12) ((x1 * 16) + x2).toNatClampNeg) ≤ (hi G (hr G x0 0) 4) then
    some (-1)
  else
    gd (hc G (hr G x0 11) = 11 ∧ ix ((x1 * 16) + x2) (hl G (hr G x0 11))) <|
    bo (d_X8_has (hi G x0 4) ((hi G (hr G x0 11) ((x1 * 16) + x2).toNatClampNeg) - (hi G (hr G x0 11) ((x1 * 16) + x2).toNatClampNeg) / 100 * 100) G) fun v7 =>
    if v7 = 0 then
      some (-1)
    else
      gd (hc G (hr G x0 11) = 11 ∧ ix ((x1 * 16) + x2) (hl G (hr G x0 11))) <|
      some (hi G (hr G x0 11) ((x1 * 16) + x2).toNatClampNeg)
section
variable {p : Program} {l : Launch} {e : Env} {s : State} {m : MethodId} {args : Array Value} {below : List Frame} {meth : Method} {c : Code} {b0 : Nat} {D : va_G} {E : Nat → ClassId}
set_option maxHeartbeats 4000000 in
set_option maxRecDepth 100000 in
theorem k_X3_keptClaim (C : Cx p s m args meth c RX3 cX3_keptClaim 4 (some .int) b0 D E) {rr : Int32} {G : Hp} {x0 : Nat} {x1 : Int32} {x2 : Int32} {ls : Array Slot} {H : Heap} {locs : List Loc} : lx ls 4 [(0, .inr x0), (1, .inl x1), (2, .inl x2)] → Rp b0 D E G H → SS b0 s H locs → d_X3_keptClaim x0 x1 x2 G = some rr → W p l e (rmd 1 (0) (0)) s m args below meth c H locs (0) (0) (MQ below (CQ b0 D E (some (.int rr)) G) args s (0) (0) (fun q => b0 ≤ q)) (F0 m 0 ls []) := by
  intro hL hR hS hd
  unfold d_X3_keptClaim at hd
  have hx := C.1
  have hb := C.2.1
  refine x_iload_n C dX3_keptClaim_0 hL 1 rfl ?_
  refine lv_bipush (v := 16) hx hb dX3_keptClaim_1 (by decide) ?_
  refine lv_imul hx hb dX3_keptClaim_3 ?_
  refine x_iload_n C dX3_keptClaim_4 hL 2 rfl ?_
  refine lv_iadd hx hb dX3_keptClaim_5 ?_
  refine x_istore_n (lv' := [(3, .inl ((x1 * 16) + x2)), (0, .inr x0), (1, .inl x1), (2, .inl x2)]) C dX3_keptClaim_6 hL (by decide) rfl (fun ls hL => ?_)
  refine x_aload_n C dX3_keptClaim_7 hL 1 rfl ?_
  obtain ⟨g1, hd⟩ := gd_ex hd
  refine r_getr (ci := 3) (k := 12) C fl_X3_37 rfl dX3_keptClaim_8 hR g1 ?_
  refine x_iload_n C dX3_keptClaim_11 hL 0 rfl ?_
  obtain ⟨g2, hd⟩ := gd_ex hd
  refine r_iald C dX3_keptClaim_12 hR g2 ?_
  refine x_aload_n C dX3_keptClaim_13 hL 1 rfl ?_
  refine r_getr (ci := 3) (k := 0) C fl_X3_40 rfl dX3_keptClaim_14 hR g1 ?_
  obtain ⟨g3, hd⟩ := gd_ex hd
  refine r_geti (ci := 2) (k := 4) C fl_X3_60 rfl dX3_keptClaim_17 hR g3 ?_
  refine lv_icmp_le (tgt := 42) hx hb dX3_keptClaim_20 (by decide) (fun c4 => ?_) (fun c4 => ?_)
  · rw [if_pos c4] at hd
    refine lv_iconst (v := (-1)) hx hb dX3_keptClaim_42 (by decide) ?_
    cases hd
    exact r_iret C dX3_keptClaim_43 hR hS
  · rw [if_neg c4] at hd
    refine x_aload_n C dX3_keptClaim_23 hL 1 rfl ?_
    refine r_geti (ci := 3) (k := 4) C fl_X3_9 rfl dX3_keptClaim_24 hR g1 ?_
    refine x_aload_n C dX3_keptClaim_27 hL 1 rfl ?_
    refine r_getr (ci := 3) (k := 11) C fl_X3_34 rfl dX3_keptClaim_28 hR g1 ?_
    refine x_iload_n C dX3_keptClaim_31 hL 0 rfl ?_
    obtain ⟨g5, hd⟩ := gd_ex hd
    refine r_iald C dX3_keptClaim_32 hR g5 ?_
    refine lv_bipush (v := 100) hx hb dX3_keptClaim_33 (by decide) ?_
    refine lv_irem hx hb dX3_keptClaim_35 (by decide) ?_
    obtain ⟨v7, h6, hd⟩ := bo_ex hd
    refine r_callSN (As := [.int (hi G x0 4), .int ((hi G (hr G x0 11) ((x1 * 16) + x2).toNatClampNeg) - (hi G (hr G x0 11) ((x1 * 16) + x2).toNatClampNeg) / 100 * 100)]) C (ct_X8_has h6) mf_X8_has (by decide +kernel) ms_X8_has rfl ⟨Nat.le_of_ble_eq_true rfl, Nat.le_of_ble_eq_true rfl⟩ dX3_keptClaim_36 (lx_size hL) rfl hR hS ⟨Nat.le_refl _, Nat.le_refl _⟩ (cat_le [] (Nat.le_of_ble_eq_true rfl)) (fun H locs hR hS => ?_)
    refine W_st (st2 := [.int v7]) rfl ?_
    refine lv_if_ne (tgt := 44) hx hb dX3_keptClaim_39 (by decide) (fun c8 => ?_) (fun c8 => ?_)
    · rw [if_neg c8] at hd
      refine x_aload_n C dX3_keptClaim_44 hL 1 rfl ?_
      refine r_getr (ci := 3) (k := 11) C fl_X3_34 rfl dX3_keptClaim_45 hR g1 ?_
      refine x_iload_n C dX3_keptClaim_48 hL 0 rfl ?_
      obtain ⟨g9, hd⟩ := gd_ex hd
      refine r_iald C dX3_keptClaim_49 hR g9 ?_
      cases hd
      exact r_iret C dX3_keptClaim_50 hR hS
    · rw [if_pos c8] at hd
      refine lv_iconst (v := (-1)) hx hb dX3_keptClaim_42 (by decide) ?_
      cases hd
      exact r_iret C dX3_keptClaim_43 hR hS
end
set_option maxHeartbeats 4000000 in
set_option maxRecDepth 100000 in
theorem ct_X3_keptClaim {l : Launch} {b0 : Nat} {D : va_G} {E : Nat → ClassId} {G : Hp} {a0 : Nat} {a1 : Int32} {a2 : Int32} {rr : Int32} (hd : d_X3_keptClaim a0 a1 a2 G = some rr) : CT l yX3_keptClaim cX3_keptClaim 4 (some .int) 1 0 0 b0 D E [rv a0, .int a1, .int a2] G (some (.int rr)) G := by
  refine CT_of (by decide +kernel) ?_
  intro p e s m below meth c C hnm hR
  refine r_entry [.inr a0, .inl a1, .inl a2] (n := 4) (Nat.le_of_ble_eq_true rfl) (lv := [(0, .inr a0), (1, .inl a1), (2, .inl a2)]) rfl (fun ls hL => ?_)
  exact k_X3_keptClaim C (lx_sub hL [0, 1, 2] rfl) hR ⟨fun _ _ => rfl, fun _ h => by cases h⟩ hd

/-! GroveWorks.isBetter(II)Z pure -/
theorem dX8_isBetter_0 : decode cX8_isBetter 0 = .ok (.iload_n 0, 1) := by decide +kernel
theorem dX8_isBetter_1 : decode cX8_isBetter 1 = .ok (.bipush 100, 2) := by decide +kernel
theorem dX8_isBetter_3 : decode cX8_isBetter 3 = .ok (.idiv, 1) := by decide +kernel
theorem dX8_isBetter_4 : decode cX8_isBetter 4 = .ok (.istore_n 2, 1) := by decide +kernel
theorem dX8_isBetter_5 : decode cX8_isBetter 5 = .ok (.iload_n 1, 1) := by decide +kernel
theorem dX8_isBetter_6 : decode cX8_isBetter 6 = .ok (.bipush 100, 2) := by decide +kernel
theorem dX8_isBetter_8 : decode cX8_isBetter 8 = .ok (.idiv, 1) := by decide +kernel
theorem dX8_isBetter_9 : decode cX8_isBetter 9 = .ok (.istore_n 3, 1) := by decide +kernel
theorem dX8_isBetter_10 : decode cX8_isBetter 10 = .ok (.iload_n 2, 1) := by decide +kernel
theorem dX8_isBetter_11 : decode cX8_isBetter 11 = .ok (.iload_n 3, 1) := by decide +kernel
theorem dX8_isBetter_12 : decode cX8_isBetter 12 = .ok (.if_icmp .eq 16, 3) := by decide +kernel
theorem dX8_isBetter_15 : decode cX8_isBetter 15 = .ok (.iload_n 2, 1) := by decide +kernel
theorem dX8_isBetter_16 : decode cX8_isBetter 16 = .ok (.iload_n 3, 1) := by decide +kernel
theorem dX8_isBetter_17 : decode cX8_isBetter 17 = .ok (.if_icmp .ge 7, 3) := by decide +kernel
theorem dX8_isBetter_20 : decode cX8_isBetter 20 = .ok (.iconst 1, 1) := by decide +kernel
theorem dX8_isBetter_21 : decode cX8_isBetter 21 = .ok (.goto 23, 3) := by decide +kernel
theorem dX8_isBetter_24 : decode cX8_isBetter 24 = .ok (.iconst 0, 1) := by decide +kernel
theorem dX8_isBetter_25 : decode cX8_isBetter 25 = .ok (.goto 19, 3) := by decide +kernel
theorem dX8_isBetter_28 : decode cX8_isBetter 28 = .ok (.iload_n 0, 1) := by decide +kernel
theorem dX8_isBetter_29 : decode cX8_isBetter 29 = .ok (.bipush 100, 2) := by decide +kernel
theorem dX8_isBetter_31 : decode cX8_isBetter 31 = .ok (.irem, 1) := by decide +kernel
theorem dX8_isBetter_32 : decode cX8_isBetter 32 = .ok (.iload_n 1, 1) := by decide +kernel
theorem dX8_isBetter_33 : decode cX8_isBetter 33 = .ok (.bipush 100, 2) := by decide +kernel
theorem dX8_isBetter_35 : decode cX8_isBetter 35 = .ok (.irem, 1) := by decide +kernel
theorem dX8_isBetter_36 : decode cX8_isBetter 36 = .ok (.if_icmp .le 7, 3) := by decide +kernel
theorem dX8_isBetter_39 : decode cX8_isBetter 39 = .ok (.iconst 1, 1) := by decide +kernel
theorem dX8_isBetter_40 : decode cX8_isBetter 40 = .ok (.goto 4, 3) := by decide +kernel
theorem dX8_isBetter_43 : decode cX8_isBetter 43 = .ok (.iconst 0, 1) := by decide +kernel
theorem dX8_isBetter_44 : decode cX8_isBetter 44 = .ok (.ireturn, 1) := by decide +kernel
def d_X8_isBetter (x0 : Int32) (x1 : Int32) (G : Hp) : Option (Int32) :=
  if (x0 / 100) = (x1 / 100) then
    if (x0 - x0 / 100 * 100) ≤ (x1 - x1 / 100 * 100) then
      some 0
    else
      some 1
  else
    if (x1 / 100) ≤ (x0 / 100) then
      some 0
    else
      some 1
section
variable {p : Program} {l : Launch} {e : Env} {s : State} {m : MethodId} {args : Array Value} {below : List Frame} {meth : Method} {c : Code} {b0 : Nat} {D : va_G} {E : Nat → ClassId}
set_option maxHeartbeats 4000000 in
set_option maxRecDepth 100000 in
theorem k_X8_isBetter (C : Cx p s m args meth c RX8 cX8_isBetter 4 (some .boolean) b0 D E) {rr : Int32} {G : Hp} {x0 : Int32} {x1 : Int32} {ls : Array Slot} {H : Heap} {locs : List Loc} : lx ls 4 [(0, .inl x0), (1, .inl x1)] → Rp b0 D E G H → SS b0 s H locs → d_X8_isBetter x0 x1 G = some rr → W p l e (rmd 0 (0) (0)) s m args below meth c H locs (0) (0) (MQ below (CQ b0 D E (some (.int rr)) G) args s (0) (0) (fun q => b0 ≤ q)) (F0 m 0 ls []) := by
  intro hL hR hS hd
  unfold d_X8_isBetter at hd
  have hx := C.1
  have hb := C.2.1
  refine x_iload_n C dX8_isBetter_0 hL 0 rfl ?_
  refine lv_bipush (v := 100) hx hb dX8_isBetter_1 (by decide) ?_
  refine lv_idiv hx hb dX8_isBetter_3 (by decide) ?_
  refine x_istore_n (lv' := [(2, .inl (x0 / 100)), (0, .inl x0), (1, .inl x1)]) C dX8_isBetter_4 hL (by decide) rfl (fun ls hL => ?_)
  refine x_iload_n C dX8_isBetter_5 hL 2 rfl ?_
  refine lv_bipush (v := 100) hx hb dX8_isBetter_6 (by decide) ?_
  refine lv_idiv hx hb dX8_isBetter_8 (by decide) ?_
  refine x_istore_n (lv' := [(3, .inl (x1 / 100)), (2, .inl (x0 / 100)), (0, .inl x0), (1, .inl x1)]) C dX8_isBetter_9 hL (by decide) rfl (fun ls hL => ?_)
  refine x_iload_n C dX8_isBetter_10 hL 1 rfl ?_
  refine x_iload_n C dX8_isBetter_11 hL 0 rfl ?_
  refine lv_icmp_eq (tgt := 28) hx hb dX8_isBetter_12 (by decide) (fun c1 => ?_) (fun c1 => ?_)
  · rw [if_pos c1] at hd
    refine x_iload_n C dX8_isBetter_28 hL 2 rfl ?_
    refine lv_bipush (v := 100) hx hb dX8_isBetter_29 (by decide) ?_
    refine lv_irem hx hb dX8_isBetter_31 (by decide) ?_
    refine x_iload_n C dX8_isBetter_32 hL 3 rfl ?_
    refine lv_bipush (v := 100) hx hb dX8_isBetter_33 (by decide) ?_
    refine lv_irem hx hb dX8_isBetter_35 (by decide) ?_
    refine lv_icmp_le (tgt := 43) hx hb dX8_isBetter_36 (by decide) (fun c2 => ?_) (fun c2 => ?_)
    · rw [if_pos c2] at hd
      refine lv_iconst (v := 0) hx hb dX8_isBetter_43 (by decide) ?_
      cases hd
      exact r_zret C (by decide) dX8_isBetter_44 hR hS
    · rw [if_neg c2] at hd
      refine lv_iconst (v := 1) hx hb dX8_isBetter_39 (by decide) ?_
      refine lv_goto (tgt := 44) hx hb dX8_isBetter_40 (by decide) ?_
      cases hd
      exact r_zret C (by decide) dX8_isBetter_44 hR hS
  · rw [if_neg c1] at hd
    refine x_iload_n C dX8_isBetter_15 hL 1 rfl ?_
    refine x_iload_n C dX8_isBetter_16 hL 0 rfl ?_
    refine lv_icmp_ge (tgt := 24) hx hb dX8_isBetter_17 (by decide) (fun c3 => ?_) (fun c3 => ?_)
    · rw [if_pos c3] at hd
      refine lv_iconst (v := 0) hx hb dX8_isBetter_24 (by decide) ?_
      refine lv_goto (tgt := 44) hx hb dX8_isBetter_25 (by decide) ?_
      cases hd
      exact r_zret C (by decide) dX8_isBetter_44 hR hS
    · rw [if_neg c3] at hd
      refine lv_iconst (v := 1) hx hb dX8_isBetter_20 (by decide) ?_
      refine lv_goto (tgt := 44) hx hb dX8_isBetter_21 (by decide) ?_
      cases hd
      exact r_zret C (by decide) dX8_isBetter_44 hR hS
end
set_option maxHeartbeats 4000000 in
set_option maxRecDepth 100000 in
theorem ct_X8_isBetter {l : Launch} {b0 : Nat} {D : va_G} {E : Nat → ClassId} {G : Hp} {a0 : Int32} {a1 : Int32} {rr : Int32} (hd : d_X8_isBetter a0 a1 G = some rr) : CT l yX8_isBetter cX8_isBetter 4 (some .boolean) 0 0 0 b0 D E [.int a0, .int a1] G (some (.int rr)) G := by
  refine CT_of (by decide +kernel) ?_
  intro p e s m below meth c C hnm hR
  refine r_entry [.inl a0, .inl a1] (n := 4) (Nat.le_of_ble_eq_true rfl) (lv := [(0, .inl a0), (1, .inl a1)]) rfl (fun ls hL => ?_)
  exact k_X8_isBetter C (lx_sub hL [0, 1] rfl) hR ⟨fun _ _ => rfl, fun _ h => by cases h⟩ hd

/-! GroveWorks$Port.isLost(III)Z pure -/
theorem dX3_isLost_0 : decode cX3_isLost 0 = .ok (.aload_n 0, 1) := by decide +kernel
theorem dX3_isLost_1 : decode cX3_isLost 1 = .ok (.iload_n 1, 1) := by decide +kernel
theorem dX3_isLost_2 : decode cX3_isLost 2 = .ok (.iload_n 2, 1) := by decide +kernel
theorem dX3_isLost_3 : decode cX3_isLost 3 = .ok (.invokevirtual 89, 3) := by decide +kernel
theorem dX3_isLost_6 : decode cX3_isLost 6 = .ok (.istore 4, 2) := by decide +kernel
theorem dX3_isLost_8 : decode cX3_isLost 8 = .ok (.iload 4, 2) := by decide +kernel
theorem dX3_isLost_10 : decode cX3_isLost 10 = .ok (.iconst (-1), 1) := by decide +kernel
theorem dX3_isLost_11 : decode cX3_isLost 11 = .ok (.if_icmp .eq 16, 3) := by decide +kernel
theorem dX3_isLost_14 : decode cX3_isLost 14 = .ok (.iload 4, 2) := by decide +kernel
theorem dX3_isLost_16 : decode cX3_isLost 16 = .ok (.iload_n 3, 1) := by decide +kernel
theorem dX3_isLost_17 : decode cX3_isLost 17 = .ok (.invokestatic 93, 3) := by decide +kernel
theorem dX3_isLost_20 : decode cX3_isLost 20 = .ok (.ifCond .eq 7, 3) := by decide +kernel
theorem dX3_isLost_23 : decode cX3_isLost 23 = .ok (.iconst 1, 1) := by decide +kernel
theorem dX3_isLost_24 : decode cX3_isLost 24 = .ok (.goto 4, 3) := by decide +kernel
theorem dX3_isLost_27 : decode cX3_isLost 27 = .ok (.iconst 0, 1) := by decide +kernel
theorem dX3_isLost_28 : decode cX3_isLost 28 = .ok (.ireturn, 1) := by decide +kernel
def d_X3_isLost (x0 : Nat) (x1 : Int32) (x2 : Int32) (x3 : Int32) (G : Hp) : Option (Int32) :=
  gd (hc G x0 = 4) <|
  bo (d_X3_keptClaim x0 x1 x2 G) fun v3 =>
  if v3 = (-1) then
    some 0
  else
    bo (d_X8_isBetter v3 x3 G) fun v6 =>
    if v6 = 0 then
      some 0
    else
      some 1
section
variable {p : Program} {l : Launch} {e : Env} {s : State} {m : MethodId} {args : Array Value} {below : List Frame} {meth : Method} {c : Code} {b0 : Nat} {D : va_G} {E : Nat → ClassId}
set_option maxHeartbeats 4000000 in
set_option maxRecDepth 100000 in
theorem k_X3_isLost (C : Cx p s m args meth c RX3 cX3_isLost 5 (some .boolean) b0 D E) {rr : Int32} {G : Hp} {x0 : Nat} {x1 : Int32} {x2 : Int32} {x3 : Int32} {ls : Array Slot} {H : Heap} {locs : List Loc} : lx ls 5 [(0, .inr x0), (1, .inl x1), (2, .inl x2), (3, .inl x3)] → Rp b0 D E G H → SS b0 s H locs → d_X3_isLost x0 x1 x2 x3 G = some rr → W p l e (rmd 2 (0) (0)) s m args below meth c H locs (0) (0) (MQ below (CQ b0 D E (some (.int rr)) G) args s (0) (0) (fun q => b0 ≤ q)) (F0 m 0 ls []) := by
  intro hL hR hS hd
  unfold d_X3_isLost at hd
  have hx := C.1
  have hb := C.2.1
  refine x_aload_n C dX3_isLost_0 hL 0 rfl ?_
  refine x_iload_n C dX3_isLost_1 hL 1 rfl ?_
  refine x_iload_n C dX3_isLost_2 hL 2 rfl ?_
  obtain ⟨g1, hd⟩ := gd_ex hd
  obtain ⟨v3, h2, hd⟩ := bo_ex hd
  refine r_callV (a := x0) (ci := 3) (As := [.int x1, .int x2]) C (ct_X3_keptClaim h2) mf_X3_keptClaim ml_X3_89 mv_X3_keptClaim rfl ⟨Nat.le_of_ble_eq_true rfl, Nat.le_of_ble_eq_true rfl⟩ dX3_isLost_3 (lx_size hL) rfl hR hS g1 ⟨Nat.le_refl _, Nat.le_refl _⟩ (cat_le [] (Nat.le_of_ble_eq_true rfl)) (fun H locs hR hS => ?_)
  refine W_st (st2 := [.int v3]) rfl ?_
  refine x_istore (lv' := [(4, .inl v3), (0, .inr x0), (1, .inl x1), (2, .inl x2), (3, .inl x3)]) C dX3_isLost_6 hL (by decide) rfl (fun ls hL => ?_)
  refine x_iload C dX3_isLost_8 hL 0 rfl ?_
  refine lv_iconst (v := (-1)) hx hb dX3_isLost_10 (by decide) ?_
  refine lv_icmp_eq (tgt := 27) hx hb dX3_isLost_11 (by decide) (fun c4 => ?_) (fun c4 => ?_)
  · rw [if_pos c4] at hd
    refine lv_iconst (v := 0) hx hb dX3_isLost_27 (by decide) ?_
    cases hd
    exact r_zret C (by decide) dX3_isLost_28 hR hS
  · rw [if_neg c4] at hd
    refine x_iload C dX3_isLost_14 hL 0 rfl ?_
    refine x_iload_n C dX3_isLost_16 hL 4 rfl ?_
    obtain ⟨v6, h5, hd⟩ := bo_ex hd
    refine r_callSN (As := [.int v3, .int x3]) C (ct_X8_isBetter h5) mf_X8_isBetter (by decide +kernel) ms_X8_isBetter rfl ⟨Nat.le_of_ble_eq_true rfl, Nat.le_of_ble_eq_true rfl⟩ dX3_isLost_17 (lx_size hL) rfl hR hS ⟨Nat.le_refl _, Nat.le_refl _⟩ (cat_le [] (Nat.le_of_ble_eq_true rfl)) (fun H locs hR hS => ?_)
    refine W_st (st2 := [.int v6]) rfl ?_
    refine lv_if_eq (tgt := 27) hx hb dX3_isLost_20 (by decide) (fun c7 => ?_) (fun c7 => ?_)
    · rw [if_pos c7] at hd
      refine lv_iconst (v := 0) hx hb dX3_isLost_27 (by decide) ?_
      cases hd
      exact r_zret C (by decide) dX3_isLost_28 hR hS
    · rw [if_neg c7] at hd
      refine lv_iconst (v := 1) hx hb dX3_isLost_23 (by decide) ?_
      refine lv_goto (tgt := 28) hx hb dX3_isLost_24 (by decide) ?_
      cases hd
      exact r_zret C (by decide) dX3_isLost_28 hR hS
end
set_option maxHeartbeats 4000000 in
set_option maxRecDepth 100000 in
theorem ct_X3_isLost {l : Launch} {b0 : Nat} {D : va_G} {E : Nat → ClassId} {G : Hp} {a0 : Nat} {a1 : Int32} {a2 : Int32} {a3 : Int32} {rr : Int32} (hd : d_X3_isLost a0 a1 a2 a3 G = some rr) : CT l yX3_isLost cX3_isLost 5 (some .boolean) 2 0 0 b0 D E [rv a0, .int a1, .int a2, .int a3] G (some (.int rr)) G := by
  refine CT_of (by decide +kernel) ?_
  intro p e s m below meth c C hnm hR
  refine r_entry [.inr a0, .inl a1, .inl a2, .inl a3] (n := 5) (Nat.le_of_ble_eq_true rfl) (lv := [(0, .inr a0), (1, .inl a1), (2, .inl a2), (3, .inl a3)]) rfl (fun ls hL => ?_)
  exact k_X3_isLost C (lx_sub hL [0, 1, 2, 3] rfl) hR ⟨fun _ _ => rfl, fun _ h => by cases h⟩ hd

/-! GroveWorks$Port.holds(II)Z pure -/
theorem dX3_holds_0 : decode cX3_holds 0 = .ok (.aload_n 0, 1) := by decide +kernel
theorem dX3_holds_1 : decode cX3_holds 1 = .ok (.iload_n 1, 1) := by decide +kernel
theorem dX3_holds_2 : decode cX3_holds 2 = .ok (.iload_n 2, 1) := by decide +kernel
theorem dX3_holds_3 : decode cX3_holds 3 = .ok (.invokevirtual 83, 3) := by decide +kernel
theorem dX3_holds_6 : decode cX3_holds 6 = .ok (.ifCond .eq 5, 3) := by decide +kernel
theorem dX3_holds_9 : decode cX3_holds 9 = .ok (.iconst 1, 1) := by decide +kernel
theorem dX3_holds_10 : decode cX3_holds 10 = .ok (.ireturn, 1) := by decide +kernel
theorem dX3_holds_11 : decode cX3_holds 11 = .ok (.iload_n 2, 1) := by decide +kernel
theorem dX3_holds_12 : decode cX3_holds 12 = .ok (.bipush 16, 2) := by decide +kernel
theorem dX3_holds_14 : decode cX3_holds 14 = .ok (.if_icmp .ne 9, 3) := by decide +kernel
theorem dX3_holds_17 : decode cX3_holds 17 = .ok (.aload_n 0, 1) := by decide +kernel
theorem dX3_holds_18 : decode cX3_holds 18 = .ok (.iload_n 1, 1) := by decide +kernel
theorem dX3_holds_19 : decode cX3_holds 19 = .ok (.invokevirtual 75, 3) := by decide +kernel
theorem dX3_holds_22 : decode cX3_holds 22 = .ok (.ireturn, 1) := by decide +kernel
theorem dX3_holds_23 : decode cX3_holds 23 = .ok (.iload_n 1, 1) := by decide +kernel
theorem dX3_holds_24 : decode cX3_holds 24 = .ok (.bipush 16, 2) := by decide +kernel
theorem dX3_holds_26 : decode cX3_holds 26 = .ok (.imul, 1) := by decide +kernel
theorem dX3_holds_27 : decode cX3_holds 27 = .ok (.iload_n 2, 1) := by decide +kernel
theorem dX3_holds_28 : decode cX3_holds 28 = .ok (.iadd, 1) := by decide +kernel
theorem dX3_holds_29 : decode cX3_holds 29 = .ok (.istore_n 3, 1) := by decide +kernel
theorem dX3_holds_30 : decode cX3_holds 30 = .ok (.aload_n 0, 1) := by decide +kernel
theorem dX3_holds_31 : decode cX3_holds 31 = .ok (.getfield 37, 3) := by decide +kernel
theorem dX3_holds_34 : decode cX3_holds 34 = .ok (.iload_n 3, 1) := by decide +kernel
theorem dX3_holds_35 : decode cX3_holds 35 = .ok (.iaload, 1) := by decide +kernel
theorem dX3_holds_36 : decode cX3_holds 36 = .ok (.aload_n 0, 1) := by decide +kernel
theorem dX3_holds_37 : decode cX3_holds 37 = .ok (.getfield 40, 3) := by decide +kernel
theorem dX3_holds_40 : decode cX3_holds 40 = .ok (.getfield 60, 3) := by decide +kernel
theorem dX3_holds_43 : decode cX3_holds 43 = .ok (.if_icmp .gt 22, 3) := by decide +kernel
theorem dX3_holds_46 : decode cX3_holds 46 = .ok (.aload_n 0, 1) := by decide +kernel
theorem dX3_holds_47 : decode cX3_holds 47 = .ok (.getfield 31, 3) := by decide +kernel
theorem dX3_holds_50 : decode cX3_holds 50 = .ok (.iload_n 3, 1) := by decide +kernel
theorem dX3_holds_51 : decode cX3_holds 51 = .ok (.iaload, 1) := by decide +kernel
theorem dX3_holds_52 : decode cX3_holds 52 = .ok (.ifCond .eq 17, 3) := by decide +kernel
theorem dX3_holds_55 : decode cX3_holds 55 = .ok (.aload_n 0, 1) := by decide +kernel
theorem dX3_holds_56 : decode cX3_holds 56 = .ok (.iload_n 1, 1) := by decide +kernel
theorem dX3_holds_57 : decode cX3_holds 57 = .ok (.bipush 16, 2) := by decide +kernel
theorem dX3_holds_59 : decode cX3_holds 59 = .ok (.invokevirtual 83, 3) := by decide +kernel
theorem dX3_holds_62 : decode cX3_holds 62 = .ok (.ifCond .eq 7, 3) := by decide +kernel
theorem dX3_holds_65 : decode cX3_holds 65 = .ok (.iconst 1, 1) := by decide +kernel
theorem dX3_holds_66 : decode cX3_holds 66 = .ok (.goto 4, 3) := by decide +kernel
theorem dX3_holds_69 : decode cX3_holds 69 = .ok (.iconst 0, 1) := by decide +kernel
theorem dX3_holds_70 : decode cX3_holds 70 = .ok (.ireturn, 1) := by decide +kernel
def d_X3_holds (x0 : Nat) (x1 : Int32) (x2 : Int32) (G : Hp) : Option (Int32) :=
  gd (hc G x0 = 4) <|
  bo (d_X3_isJoined x0 x1 x2 G) fun v3 =>
  if v3 = 0 then
    if x2 = 16 then
      bo (d_X3_hasMembers x0 x1 G) fun v15 =>
      gd (v15 &&& 1 = v15) <|
      some v15
    else
      gd (hc G (hr G x0 12) = 11 ∧ ix ((x1 * 16) + x2) (hl G (hr G x0 12))) <|
      gd (hc G (hr G x0 0) = 3) <|
      if (hi G (hr G x0 0) 4) < (hi G (hr G x0 12) ((x1 * 16) + x2).toNatClampNeg) then
        some 1
      else
        gd (hc G (hr G x0 10) = 11 ∧ ix ((x1 * 16) + x2) (hl G (hr G x0 10))) <|
        if (hi G (hr G x0 10) ((x1 * 16) + x2).toNatClampNeg) = 0 then
          some 0
        else
          bo (d_X3_isJoined x0 x1 16 G) fun v12 =>
          if v12 = 0 then
            some 0
          else
            some 1
  else
    some 1
section
variable {p : Program} {l : Launch} {e : Env} {s : State} {m : MethodId} {args : Array Value} {below : List Frame} {meth : Method} {c : Code} {b0 : Nat} {D : va_G} {E : Nat → ClassId}
set_option maxHeartbeats 4000000 in
set_option maxRecDepth 100000 in
theorem k_X3_holds (C : Cx p s m args meth c RX3 cX3_holds 4 (some .boolean) b0 D E) {rr : Int32} {G : Hp} {x0 : Nat} {x1 : Int32} {x2 : Int32} {ls : Array Slot} {H : Heap} {locs : List Loc} : lx ls 4 [(0, .inr x0), (1, .inl x1), (2, .inl x2)] → Rp b0 D E G H → SS b0 s H locs → d_X3_holds x0 x1 x2 G = some rr → W p l e (rmd 1 (0) (0)) s m args below meth c H locs (0) (0) (MQ below (CQ b0 D E (some (.int rr)) G) args s (0) (0) (fun q => b0 ≤ q)) (F0 m 0 ls []) := by
  intro hL hR hS hd
  unfold d_X3_holds at hd
  have hx := C.1
  have hb := C.2.1
  refine x_aload_n C dX3_holds_0 hL 0 rfl ?_
  refine x_iload_n C dX3_holds_1 hL 1 rfl ?_
  refine x_iload_n C dX3_holds_2 hL 2 rfl ?_
  obtain ⟨g1, hd⟩ := gd_ex hd
  obtain ⟨v3, h2, hd⟩ := bo_ex hd
  refine r_callV (a := x0) (ci := 3) (As := [.int x1, .int x2]) C (ct_X3_isJoined h2) mf_X3_isJoined ml_X3_83 mv_X3_isJoined rfl ⟨Nat.le_of_ble_eq_true rfl, Nat.le_of_ble_eq_true rfl⟩ dX3_holds_3 (lx_size hL) rfl hR hS g1 ⟨Nat.le_refl _, Nat.le_refl _⟩ (cat_le [] (Nat.le_of_ble_eq_true rfl)) (fun H locs hR hS => ?_)
  refine W_st (st2 := [.int v3]) rfl ?_
  refine lv_if_eq (tgt := 11) hx hb dX3_holds_6 (by decide) (fun c4 => ?_) (fun c4 => ?_)
  · rw [if_pos c4] at hd
    refine x_iload_n C dX3_holds_11 hL 2 rfl ?_
    refine lv_bipush (v := 16) hx hb dX3_holds_12 (by decide) ?_
    refine lv_icmp_ne (tgt := 23) hx hb dX3_holds_14 (by decide) (fun c5 => ?_) (fun c5 => ?_)
    · rw [if_neg c5] at hd
      refine x_iload_n C dX3_holds_23 hL 1 rfl ?_
      refine lv_bipush (v := 16) hx hb dX3_holds_24 (by decide) ?_
      refine lv_imul hx hb dX3_holds_26 ?_
      refine x_iload_n C dX3_holds_27 hL 2 rfl ?_
      refine lv_iadd hx hb dX3_holds_28 ?_
      refine x_istore_n (lv' := [(3, .inl ((x1 * 16) + x2)), (0, .inr x0), (1, .inl x1), (2, .inl x2)]) C dX3_holds_29 hL (by decide) rfl (fun ls hL => ?_)
      refine x_aload_n C dX3_holds_30 hL 1 rfl ?_
      refine r_getr (ci := 3) (k := 12) C fl_X3_37 rfl dX3_holds_31 hR g1 ?_
      refine x_iload_n C dX3_holds_34 hL 0 rfl ?_
      obtain ⟨g6, hd⟩ := gd_ex hd
      refine r_iald C dX3_holds_35 hR g6 ?_
      refine x_aload_n C dX3_holds_36 hL 1 rfl ?_
      refine r_getr (ci := 3) (k := 0) C fl_X3_40 rfl dX3_holds_37 hR g1 ?_
      obtain ⟨g7, hd⟩ := gd_ex hd
      refine r_geti (ci := 2) (k := 4) C fl_X3_60 rfl dX3_holds_40 hR g7 ?_
      refine lv_icmp_gt (tgt := 65) hx hb dX3_holds_43 (by decide) (fun c8 => ?_) (fun c8 => ?_)
      · rw [if_pos c8] at hd
        refine lv_iconst (v := 1) hx hb dX3_holds_65 (by decide) ?_
        refine lv_goto (tgt := 70) hx hb dX3_holds_66 (by decide) ?_
        cases hd
        exact r_zret C (by decide) dX3_holds_70 hR hS
      · rw [if_neg c8] at hd
        refine x_aload_n C dX3_holds_46 hL 1 rfl ?_
        refine r_getr (ci := 3) (k := 10) C fl_X3_31 rfl dX3_holds_47 hR g1 ?_
        refine x_iload_n C dX3_holds_50 hL 0 rfl ?_
        obtain ⟨g9, hd⟩ := gd_ex hd
        refine r_iald C dX3_holds_51 hR g9 ?_
        refine lv_if_eq (tgt := 69) hx hb dX3_holds_52 (by decide) (fun c10 => ?_) (fun c10 => ?_)
        · rw [if_pos c10] at hd
          refine lv_iconst (v := 0) hx hb dX3_holds_69 (by decide) ?_
          cases hd
          exact r_zret C (by decide) dX3_holds_70 hR hS
        · rw [if_neg c10] at hd
          refine x_aload_n C dX3_holds_55 hL 1 rfl ?_
          refine x_iload_n C dX3_holds_56 hL 2 rfl ?_
          refine lv_bipush (v := 16) hx hb dX3_holds_57 (by decide) ?_
          obtain ⟨v12, h11, hd⟩ := bo_ex hd
          refine r_callV (a := x0) (ci := 3) (As := [.int x1, .int 16]) C (ct_X3_isJoined h11) mf_X3_isJoined ml_X3_83 mv_X3_isJoined rfl ⟨Nat.le_of_ble_eq_true rfl, Nat.le_of_ble_eq_true rfl⟩ dX3_holds_59 (lx_size hL) rfl hR hS g1 ⟨Nat.le_refl _, Nat.le_refl _⟩ (cat_le [] (Nat.le_of_ble_eq_true rfl)) (fun H locs hR hS => ?_)
          refine W_st (st2 := [.int v12]) rfl ?_
          refine lv_if_eq (tgt := 69) hx hb dX3_holds_62 (by decide) (fun c13 => ?_) (fun c13 => ?_)
          · rw [if_pos c13] at hd
            refine lv_iconst (v := 0) hx hb dX3_holds_69 (by decide) ?_
            cases hd
            exact r_zret C (by decide) dX3_holds_70 hR hS
          · rw [if_neg c13] at hd
            refine lv_iconst (v := 1) hx hb dX3_holds_65 (by decide) ?_
            refine lv_goto (tgt := 70) hx hb dX3_holds_66 (by decide) ?_
            cases hd
            exact r_zret C (by decide) dX3_holds_70 hR hS
    · rw [if_pos c5] at hd
      refine x_aload_n C dX3_holds_17 hL 0 rfl ?_
      refine x_iload_n C dX3_holds_18 hL 1 rfl ?_
      obtain ⟨v15, h14, hd⟩ := bo_ex hd
      refine r_callV (a := x0) (ci := 3) (As := [.int x1]) C (ct_X3_hasMembers h14) mf_X3_hasMembers ml_X3_75 mv_X3_hasMembers rfl ⟨Nat.le_of_ble_eq_true rfl, Nat.le_of_ble_eq_true rfl⟩ dX3_holds_19 (lx_size hL) rfl hR hS g1 ⟨Nat.le_refl _, Nat.le_refl _⟩ (cat_le [] (Nat.le_of_ble_eq_true rfl)) (fun H locs hR hS => ?_)
      refine W_st (st2 := [.int v15]) rfl ?_
      obtain ⟨g16, hd⟩ := gd_ex hd
      cases hd
      exact r_zret C g16 dX3_holds_22 hR hS
  · rw [if_neg c4] at hd
    refine lv_iconst (v := 1) hx hb dX3_holds_9 (by decide) ?_
    cases hd
    exact r_zret C (by decide) dX3_holds_10 hR hS
end
set_option maxHeartbeats 4000000 in
set_option maxRecDepth 100000 in
theorem ct_X3_holds {l : Launch} {b0 : Nat} {D : va_G} {E : Nat → ClassId} {G : Hp} {a0 : Nat} {a1 : Int32} {a2 : Int32} {rr : Int32} (hd : d_X3_holds a0 a1 a2 G = some rr) : CT l yX3_holds cX3_holds 4 (some .boolean) 1 0 0 b0 D E [rv a0, .int a1, .int a2] G (some (.int rr)) G := by
  refine CT_of (by decide +kernel) ?_
  intro p e s m below meth c C hnm hR
  refine r_entry [.inr a0, .inl a1, .inl a2] (n := 4) (Nat.le_of_ble_eq_true rfl) (lv := [(0, .inr a0), (1, .inl a1), (2, .inl a2)]) rfl (fun ls hL => ?_)
  exact k_X3_holds C (lx_sub hL [0, 1, 2] rfl) hR ⟨fun _ _ => rfl, fun _ h => by cases h⟩ hd

/-! GroveWorks$Port.takeCuts(II)V -/
theorem dX3_takeCuts_0 : decode cX3_takeCuts 0 = .ok (.aload_n 0, 1) := by decide +kernel
theorem dX3_takeCuts_1 : decode cX3_takeCuts 1 = .ok (.getfield 40, 3) := by decide +kernel
theorem dX3_takeCuts_4 : decode cX3_takeCuts 4 = .ok (.getfield 60, 3) := by decide +kernel
theorem dX3_takeCuts_7 : decode cX3_takeCuts 7 = .ok (.aload_n 0, 1) := by decide +kernel
theorem dX3_takeCuts_8 : decode cX3_takeCuts 8 = .ok (.invokevirtual 100, 3) := by decide +kernel
theorem dX3_takeCuts_11 : decode cX3_takeCuts 11 = .ok (.iadd, 1) := by decide +kernel
theorem dX3_takeCuts_12 : decode cX3_takeCuts 12 = .ok (.istore_n 3, 1) := by decide +kernel
theorem dX3_takeCuts_13 : decode cX3_takeCuts 13 = .ok (.iconst 0, 1) := by decide +kernel
theorem dX3_takeCuts_14 : decode cX3_takeCuts 14 = .ok (.istore 4, 2) := by decide +kernel
theorem dX3_takeCuts_16 : decode cX3_takeCuts 16 = .ok (.iload 4, 2) := by decide +kernel
theorem dX3_takeCuts_18 : decode cX3_takeCuts 18 = .ok (.bipush 16, 2) := by decide +kernel
theorem dX3_takeCuts_20 : decode cX3_takeCuts 20 = .ok (.if_icmp .ge 56, 3) := by decide +kernel
theorem dX3_takeCuts_23 : decode cX3_takeCuts 23 = .ok (.iload_n 1, 1) := by decide +kernel
theorem dX3_takeCuts_24 : decode cX3_takeCuts 24 = .ok (.bipush 16, 2) := by decide +kernel
theorem dX3_takeCuts_26 : decode cX3_takeCuts 26 = .ok (.imul, 1) := by decide +kernel
theorem dX3_takeCuts_27 : decode cX3_takeCuts 27 = .ok (.iload 4, 2) := by decide +kernel
theorem dX3_takeCuts_29 : decode cX3_takeCuts 29 = .ok (.iadd, 1) := by decide +kernel
theorem dX3_takeCuts_30 : decode cX3_takeCuts 30 = .ok (.istore 5, 2) := by decide +kernel
theorem dX3_takeCuts_32 : decode cX3_takeCuts 32 = .ok (.iload_n 2, 1) := by decide +kernel
theorem dX3_takeCuts_33 : decode cX3_takeCuts 33 = .ok (.iload 4, 2) := by decide +kernel
theorem dX3_takeCuts_35 : decode cX3_takeCuts 35 = .ok (.invokestatic 104, 3) := by decide +kernel
theorem dX3_takeCuts_38 : decode cX3_takeCuts 38 = .ok (.ifCond .ne 14, 3) := by decide +kernel
theorem dX3_takeCuts_41 : decode cX3_takeCuts 41 = .ok (.aload_n 0, 1) := by decide +kernel
theorem dX3_takeCuts_42 : decode cX3_takeCuts 42 = .ok (.getfield 31, 3) := by decide +kernel
theorem dX3_takeCuts_45 : decode cX3_takeCuts 45 = .ok (.iload 5, 2) := by decide +kernel
theorem dX3_takeCuts_47 : decode cX3_takeCuts 47 = .ok (.iconst 0, 1) := by decide +kernel
theorem dX3_takeCuts_48 : decode cX3_takeCuts 48 = .ok (.iastore, 1) := by decide +kernel
theorem dX3_takeCuts_49 : decode cX3_takeCuts 49 = .ok (.goto 21, 3) := by decide +kernel
theorem dX3_takeCuts_52 : decode cX3_takeCuts 52 = .ok (.aload_n 0, 1) := by decide +kernel
theorem dX3_takeCuts_53 : decode cX3_takeCuts 53 = .ok (.getfield 31, 3) := by decide +kernel
theorem dX3_takeCuts_56 : decode cX3_takeCuts 56 = .ok (.iload 5, 2) := by decide +kernel
theorem dX3_takeCuts_58 : decode cX3_takeCuts 58 = .ok (.iaload, 1) := by decide +kernel
theorem dX3_takeCuts_59 : decode cX3_takeCuts 59 = .ok (.ifCond .ne 11, 3) := by decide +kernel
theorem dX3_takeCuts_62 : decode cX3_takeCuts 62 = .ok (.aload_n 0, 1) := by decide +kernel
theorem dX3_takeCuts_63 : decode cX3_takeCuts 63 = .ok (.getfield 31, 3) := by decide +kernel
theorem dX3_takeCuts_66 : decode cX3_takeCuts 66 = .ok (.iload 5, 2) := by decide +kernel
theorem dX3_takeCuts_68 : decode cX3_takeCuts 68 = .ok (.iload_n 3, 1) := by decide +kernel
theorem dX3_takeCuts_69 : decode cX3_takeCuts 69 = .ok (.iastore, 1) := by decide +kernel
theorem dX3_takeCuts_70 : decode cX3_takeCuts 70 = .ok (.iinc 4 1, 3) := by decide +kernel
theorem dX3_takeCuts_73 : decode cX3_takeCuts 73 = .ok (.goto (-57), 3) := by decide +kernel
theorem dX3_takeCuts_76 : decode cX3_takeCuts 76 = .ok (.return_, 1) := by decide +kernel
def d_X3_takeCuts_16 : Nat → Nat → Int32 → Int32 → Int32 → Int32 → Hp → Option (Hp)
  | 0, _, _, _, _, _, _ => none
  | n_ + 1, x0, x1, x2, x3, x4, G =>
    if 16 ≤ x4 then
      some G
    else
      bo (d_X8_has x2 x4 G) fun v3 =>
      if v3 = 0 then
        gd (hc G x0 = 4) <|
        gd (hc G (hr G x0 10) = 11 ∧ ix ((x1 * 16) + x4) (hl G (hr G x0 10))) <|
        bd (sI G (hr G x0 10) ((x1 * 16) + x4).toNatClampNeg 0) fun G12 =>
        d_X3_takeCuts_16 n_ x0 x1 x2 x3 (x4 + 1) G12
      else
        gd (hc G x0 = 4) <|
        gd (hc G (hr G x0 10) = 11 ∧ ix ((x1 * 16) + x4) (hl G (hr G x0 10))) <|
        if (hi G (hr G x0 10) ((x1 * 16) + x4).toNatClampNeg) = 0 then
          gd (hc G (hr G x0 10) = 11 ∧ ix ((x1 * 16) + x4) (hl G (hr G x0 10))) <|
          bd (sI G (hr G x0 10) ((x1 * 16) + x4).toNatClampNeg x3) fun G9 =>
          d_X3_takeCuts_16 n_ x0 x1 x2 x3 (x4 + 1) G9
        else
          d_X3_takeCuts_16 n_ x0 x1 x2 x3 (x4 + 1) G
def d_X3_takeCuts (x0 : Nat) (x1 : Int32) (x2 : Int32) (G : Hp) : Option (Hp) :=
  gd (hc G x0 = 4) <|
  gd (hc G (hr G x0 0) = 3) <|
  bo (d_X3_timeToObject x0 G) fun v4 =>
  bd (((hi G (hr G x0 0) 4) + v4)) fun v5 =>
  d_X3_takeCuts_16 FU x0 x1 x2 v5 0 G
section
variable {p : Program} {l : Launch} {e : Env} {s : State} {m : MethodId} {args : Array Value} {below : List Frame} {meth : Method} {c : Code} {b0 : Nat} {D : va_G} {E : Nat → ClassId}
set_option maxHeartbeats 4000000 in
set_option maxRecDepth 100000 in
theorem k_X3_takeCuts_16 (C : Cx p s m args meth c RX3 cX3_takeCuts 6 none b0 D E) {GG : Hp} : ∀ (n_ : Nat) {x0 : Nat} {x1 : Int32} {x2 : Int32} {x3 : Int32} {x4 : Int32} {G : Hp} {ls : Array Slot} {H : Heap} {locs : List Loc}, lx ls 6 [(0, .inr x0), (1, .inl x1), (2, .inl x2), (3, .inl x3), (4, .inl x4)] → Rp b0 D E G H → SS b0 s H locs → d_X3_takeCuts_16 n_ x0 x1 x2 x3 x4 G = some GG → W p l e (rmd 2 (0) (0)) s m args below meth c H locs (0) (0) (MQ below (CQ b0 D E none GG) args s (0) (0) (fun q => b0 ≤ q)) (F0 m 16 ls []) := by
  intro n_
  induction n_ with
  | zero =>
    intro x0 x1 x2 x3 x4 G ls H locs hL hR hS hd
    cases (show (none : Option _) = some _ from hd)
  | succ n_ ih =>
    intro x0 x1 x2 x3 x4 G ls H locs hL hR hS hd
    rw [d_X3_takeCuts_16.eq_2] at hd
    have hx := C.1
    have hb := C.2.1
    refine x_iload C dX3_takeCuts_16 hL 4 rfl ?_
    refine lv_bipush (v := 16) hx hb dX3_takeCuts_18 (by decide) ?_
    refine lv_icmp_ge (tgt := 76) hx hb dX3_takeCuts_20 (by decide) (fun c1 => ?_) (fun c1 => ?_)
    · rw [if_pos c1] at hd
      cases hd
      exact r_vret C dX3_takeCuts_76 hR hS
    · rw [if_neg c1] at hd
      refine x_iload_n C dX3_takeCuts_23 hL 1 rfl ?_
      refine lv_bipush (v := 16) hx hb dX3_takeCuts_24 (by decide) ?_
      refine lv_imul hx hb dX3_takeCuts_26 ?_
      refine x_iload C dX3_takeCuts_27 hL 4 rfl ?_
      refine lv_iadd hx hb dX3_takeCuts_29 ?_
      refine x_istore (lv' := [(5, .inl ((x1 * 16) + x4)), (0, .inr x0), (1, .inl x1), (2, .inl x2), (3, .inl x3), (4, .inl x4)]) C dX3_takeCuts_30 hL (by decide) rfl (fun ls hL => ?_)
      refine x_iload_n C dX3_takeCuts_32 hL 3 rfl ?_
      refine x_iload C dX3_takeCuts_33 hL 5 rfl ?_
      obtain ⟨v3, h2, hd⟩ := bo_ex hd
      refine r_callSN (As := [.int x2, .int x4]) C (ct_X8_has h2) mf_X8_has (by decide +kernel) ms_X8_has rfl ⟨Nat.le_of_ble_eq_true rfl, Nat.le_of_ble_eq_true rfl⟩ dX3_takeCuts_35 (lx_size hL) rfl hR hS ⟨Nat.le_refl _, Nat.le_refl _⟩ (cat_le [] (Nat.le_of_ble_eq_true rfl)) (fun H locs hR hS => ?_)
      refine W_st (st2 := [.int v3]) rfl ?_
      refine lv_if_ne (tgt := 52) hx hb dX3_takeCuts_38 (by decide) (fun c4 => ?_) (fun c4 => ?_)
      · rw [if_neg c4] at hd
        refine x_aload_n C dX3_takeCuts_52 hL 1 rfl ?_
        obtain ⟨g5, hd⟩ := gd_ex hd
        refine r_getr (ci := 3) (k := 10) C fl_X3_31 rfl dX3_takeCuts_53 hR g5 ?_
        refine x_iload C dX3_takeCuts_56 hL 0 rfl ?_
        obtain ⟨g6, hd⟩ := gd_ex hd
        refine r_iald C dX3_takeCuts_58 hR g6 ?_
        refine lv_if_ne (tgt := 70) hx hb dX3_takeCuts_59 (by decide) (fun c7 => ?_) (fun c7 => ?_)
        · rw [if_neg c7] at hd
          refine x_iinc (lv' := [(4, .inl (x4 + 1)), (5, .inl ((x1 * 16) + x4)), (0, .inr x0), (1, .inl x1), (2, .inl x2), (3, .inl x3)]) C dX3_takeCuts_70 hL 5 rfl rfl (by decide) rfl (fun ls hL => ?_)
          refine lv_goto (tgt := 16) hx hb dX3_takeCuts_73 (by decide) ?_
          exact ih (lx_sub hL [2, 3, 4, 5, 0] rfl) hR hS hd
        · rw [if_pos c7] at hd
          refine x_aload_n C dX3_takeCuts_62 hL 1 rfl ?_
          refine r_getr (ci := 3) (k := 10) C fl_X3_31 rfl dX3_takeCuts_63 hR g5 ?_
          refine x_iload C dX3_takeCuts_66 hL 0 rfl ?_
          refine x_iload_n C dX3_takeCuts_68 hL 4 rfl ?_
          obtain ⟨g8, hd⟩ := gd_ex hd
          obtain ⟨G9, eG9, hd⟩ := bd_ex hd
          refine r_iast C dX3_takeCuts_69 hR hS g8 (fun H locs hR hS => ?_)
          replace hR : Rp b0 D E G9 H := by rw [eG9]; exact hR
          refine x_iinc (lv' := [(4, .inl (x4 + 1)), (5, .inl ((x1 * 16) + x4)), (0, .inr x0), (1, .inl x1), (2, .inl x2), (3, .inl x3)]) C dX3_takeCuts_70 hL 5 rfl rfl (by decide) rfl (fun ls hL => ?_)
          refine lv_goto (tgt := 16) hx hb dX3_takeCuts_73 (by decide) ?_
          exact ih (lx_sub hL [2, 3, 4, 5, 0] rfl) hR hS hd
      · rw [if_pos c4] at hd
        refine x_aload_n C dX3_takeCuts_41 hL 1 rfl ?_
        obtain ⟨g10, hd⟩ := gd_ex hd
        refine r_getr (ci := 3) (k := 10) C fl_X3_31 rfl dX3_takeCuts_42 hR g10 ?_
        refine x_iload C dX3_takeCuts_45 hL 0 rfl ?_
        refine lv_iconst (v := 0) hx hb dX3_takeCuts_47 (by decide) ?_
        obtain ⟨g11, hd⟩ := gd_ex hd
        obtain ⟨G12, eG12, hd⟩ := bd_ex hd
        refine r_iast C dX3_takeCuts_48 hR hS g11 (fun H locs hR hS => ?_)
        replace hR : Rp b0 D E G12 H := by rw [eG12]; exact hR
        refine lv_goto (tgt := 70) hx hb dX3_takeCuts_49 (by decide) ?_
        refine x_iinc (lv' := [(4, .inl (x4 + 1)), (5, .inl ((x1 * 16) + x4)), (0, .inr x0), (1, .inl x1), (2, .inl x2), (3, .inl x3)]) C dX3_takeCuts_70 hL 5 rfl rfl (by decide) rfl (fun ls hL => ?_)
        refine lv_goto (tgt := 16) hx hb dX3_takeCuts_73 (by decide) ?_
        exact ih (lx_sub hL [2, 3, 4, 5, 0] rfl) hR hS hd
set_option maxHeartbeats 4000000 in
set_option maxRecDepth 100000 in
theorem k_X3_takeCuts (C : Cx p s m args meth c RX3 cX3_takeCuts 6 none b0 D E) {GG : Hp} {x0 : Nat} {x1 : Int32} {x2 : Int32} {G : Hp} {ls : Array Slot} {H : Heap} {locs : List Loc} : lx ls 6 [(0, .inr x0), (1, .inl x1), (2, .inl x2)] → Rp b0 D E G H → SS b0 s H locs → d_X3_takeCuts x0 x1 x2 G = some GG → W p l e (rmd 2 (0) (0)) s m args below meth c H locs (0) (0) (MQ below (CQ b0 D E none GG) args s (0) (0) (fun q => b0 ≤ q)) (F0 m 0 ls []) := by
  intro hL hR hS hd
  unfold d_X3_takeCuts at hd
  have hx := C.1
  have hb := C.2.1
  refine x_aload_n C dX3_takeCuts_0 hL 0 rfl ?_
  obtain ⟨g1, hd⟩ := gd_ex hd
  refine r_getr (ci := 3) (k := 0) C fl_X3_40 rfl dX3_takeCuts_1 hR g1 ?_
  obtain ⟨g2, hd⟩ := gd_ex hd
  refine r_geti (ci := 2) (k := 4) C fl_X3_60 rfl dX3_takeCuts_4 hR g2 ?_
  refine x_aload_n C dX3_takeCuts_7 hL 0 rfl ?_
  obtain ⟨v4, h3, hd⟩ := bo_ex hd
  refine r_callV (a := x0) (ci := 3) (As := []) C (ct_X3_timeToObject h3) mf_X3_timeToObject ml_X3_100 mv_X3_timeToObject rfl ⟨Nat.le_of_ble_eq_true rfl, Nat.le_of_ble_eq_true rfl⟩ dX3_takeCuts_8 (lx_size hL) rfl hR hS g1 ⟨Nat.le_refl _, Nat.le_refl _⟩ (cat_le [.inl (hi G (hr G x0 0) 4)] (Nat.le_of_ble_eq_true rfl)) (fun H locs hR hS => ?_)
  refine W_st (st2 := [.int v4, .int (hi G (hr G x0 0) 4)]) rfl ?_
  refine lv_iadd hx hb dX3_takeCuts_11 ?_
  obtain ⟨v5, ev5, hd⟩ := bd_ex hd
  rw [← ev5]
  refine x_istore_n (lv' := [(3, .inl v5), (0, .inr x0), (1, .inl x1), (2, .inl x2)]) C dX3_takeCuts_12 hL (by decide) rfl (fun ls hL => ?_)
  refine lv_iconst (v := 0) hx hb dX3_takeCuts_13 (by decide) ?_
  refine x_istore (lv' := [(4, .inl 0), (3, .inl v5), (0, .inr x0), (1, .inl x1), (2, .inl x2)]) C dX3_takeCuts_14 hL (by decide) rfl (fun ls hL => ?_)
  exact k_X3_takeCuts_16 C FU (lx_sub hL [2, 3, 4, 1, 0] rfl) hR hS hd
end
set_option maxHeartbeats 4000000 in
set_option maxRecDepth 100000 in
theorem ct_X3_takeCuts {l : Launch} {b0 : Nat} {D : va_G} {E : Nat → ClassId} {G : Hp} {a0 : Nat} {a1 : Int32} {a2 : Int32} {GG : Hp} (hd : d_X3_takeCuts a0 a1 a2 G = some GG) : CT l yX3_takeCuts cX3_takeCuts 6 none 2 0 0 b0 D E [rv a0, .int a1, .int a2] G none GG := by
  refine CT_of (by decide +kernel) ?_
  intro p e s m below meth c C hnm hR
  refine r_entry [.inr a0, .inl a1, .inl a2] (n := 6) (Nat.le_of_ble_eq_true rfl) (lv := [(0, .inr a0), (1, .inl a1), (2, .inl a2)]) rfl (fun ls hL => ?_)
  exact k_X3_takeCuts C (lx_sub hL [0, 1, 2] rfl) hR ⟨fun _ _ => rfl, fun _ h => by cases h⟩ hd

/-! GroveWorks$Port.takeJoin(II)V -/
theorem dX3_takeJoin_0 : decode cX3_takeJoin 0 = .ok (.iload_n 2, 1) := by decide +kernel
theorem dX3_takeJoin_1 : decode cX3_takeJoin 1 = .ok (.bipush 16, 2) := by decide +kernel
theorem dX3_takeJoin_3 : decode cX3_takeJoin 3 = .ok (.if_icmp .ne 18, 3) := by decide +kernel
theorem dX3_takeJoin_6 : decode cX3_takeJoin 6 = .ok (.aload_n 0, 1) := by decide +kernel
theorem dX3_takeJoin_7 : decode cX3_takeJoin 7 = .ok (.iload_n 1, 1) := by decide +kernel
theorem dX3_takeJoin_8 : decode cX3_takeJoin 8 = .ok (.iload_n 2, 1) := by decide +kernel
theorem dX3_takeJoin_9 : decode cX3_takeJoin 9 = .ok (.invokevirtual 83, 3) := by decide +kernel
theorem dX3_takeJoin_12 : decode cX3_takeJoin 12 = .ok (.ifCond .ne 9, 3) := by decide +kernel
theorem dX3_takeJoin_15 : decode cX3_takeJoin 15 = .ok (.aload_n 0, 1) := by decide +kernel
theorem dX3_takeJoin_16 : decode cX3_takeJoin 16 = .ok (.iload_n 1, 1) := by decide +kernel
theorem dX3_takeJoin_17 : decode cX3_takeJoin 17 = .ok (.iconst 0, 1) := by decide +kernel
theorem dX3_takeJoin_18 : decode cX3_takeJoin 18 = .ok (.invokevirtual 96, 3) := by decide +kernel
theorem dX3_takeJoin_21 : decode cX3_takeJoin 21 = .ok (.aload_n 0, 1) := by decide +kernel
theorem dX3_takeJoin_22 : decode cX3_takeJoin 22 = .ok (.getfield 28, 3) := by decide +kernel
theorem dX3_takeJoin_25 : decode cX3_takeJoin 25 = .ok (.iload_n 1, 1) := by decide +kernel
theorem dX3_takeJoin_26 : decode cX3_takeJoin 26 = .ok (.bipush 17, 2) := by decide +kernel
theorem dX3_takeJoin_28 : decode cX3_takeJoin 28 = .ok (.imul, 1) := by decide +kernel
theorem dX3_takeJoin_29 : decode cX3_takeJoin 29 = .ok (.iload_n 2, 1) := by decide +kernel
theorem dX3_takeJoin_30 : decode cX3_takeJoin 30 = .ok (.iadd, 1) := by decide +kernel
theorem dX3_takeJoin_31 : decode cX3_takeJoin 31 = .ok (.aload_n 0, 1) := by decide +kernel
theorem dX3_takeJoin_32 : decode cX3_takeJoin 32 = .ok (.getfield 40, 3) := by decide +kernel
theorem dX3_takeJoin_35 : decode cX3_takeJoin 35 = .ok (.getfield 60, 3) := by decide +kernel
theorem dX3_takeJoin_38 : decode cX3_takeJoin 38 = .ok (.bipush 70, 2) := by decide +kernel
theorem dX3_takeJoin_40 : decode cX3_takeJoin 40 = .ok (.iadd, 1) := by decide +kernel
theorem dX3_takeJoin_41 : decode cX3_takeJoin 41 = .ok (.iastore, 1) := by decide +kernel
theorem dX3_takeJoin_42 : decode cX3_takeJoin 42 = .ok (.return_, 1) := by decide +kernel
def d_X3_takeJoin_21 (x0 : Nat) (x1 : Int32) (x2 : Int32) (G : Hp) : Option (Hp) :=
  gd (hc G x0 = 4) <|
  gd (hc G (hr G x0 0) = 3) <|
  gd (hc G (hr G x0 9) = 11 ∧ ix ((x1 * 17) + x2) (hl G (hr G x0 9))) <|
  bd (sI G (hr G x0 9) ((x1 * 17) + x2).toNatClampNeg ((hi G (hr G x0 0) 4) + 70)) fun G4 =>
  some G4
def d_X3_takeJoin (x0 : Nat) (x1 : Int32) (x2 : Int32) (G : Hp) : Option (Hp) :=
  if x2 = 16 then
    gd (hc G x0 = 4) <|
    bo (d_X3_isJoined x0 x1 x2 G) fun v4 =>
    if v4 = 0 then
      bo (d_X3_takeCuts x0 x1 0 G) fun G7 =>
      d_X3_takeJoin_21 x0 x1 x2 G7
    else
      d_X3_takeJoin_21 x0 x1 x2 G
  else
    d_X3_takeJoin_21 x0 x1 x2 G
section
variable {p : Program} {l : Launch} {e : Env} {s : State} {m : MethodId} {args : Array Value} {below : List Frame} {meth : Method} {c : Code} {b0 : Nat} {D : va_G} {E : Nat → ClassId}
set_option maxHeartbeats 4000000 in
set_option maxRecDepth 100000 in
theorem k_X3_takeJoin_21 (C : Cx p s m args meth c RX3 cX3_takeJoin 3 none b0 D E) {GG : Hp} {x0 : Nat} {x1 : Int32} {x2 : Int32} {G : Hp} {ls : Array Slot} {H : Heap} {locs : List Loc} : lx ls 3 [(0, .inr x0), (1, .inl x1), (2, .inl x2)] → Rp b0 D E G H → SS b0 s H locs → d_X3_takeJoin_21 x0 x1 x2 G = some GG → W p l e (rmd 3 (0) (0)) s m args below meth c H locs (0) (0) (MQ below (CQ b0 D E none GG) args s (0) (0) (fun q => b0 ≤ q)) (F0 m 21 ls []) := by
  intro hL hR hS hd
  unfold d_X3_takeJoin_21 at hd
  have hx := C.1
  have hb := C.2.1
  refine x_aload_n C dX3_takeJoin_21 hL 0 rfl ?_
  obtain ⟨g1, hd⟩ := gd_ex hd
  refine r_getr (ci := 3) (k := 9) C fl_X3_28 rfl dX3_takeJoin_22 hR g1 ?_
  refine x_iload_n C dX3_takeJoin_25 hL 1 rfl ?_
  refine lv_bipush (v := 17) hx hb dX3_takeJoin_26 (by decide) ?_
  refine lv_imul hx hb dX3_takeJoin_28 ?_
  refine x_iload_n C dX3_takeJoin_29 hL 2 rfl ?_
  refine lv_iadd hx hb dX3_takeJoin_30 ?_
  refine x_aload_n C dX3_takeJoin_31 hL 0 rfl ?_
  refine r_getr (ci := 3) (k := 0) C fl_X3_40 rfl dX3_takeJoin_32 hR g1 ?_
  obtain ⟨g2, hd⟩ := gd_ex hd
  refine r_geti (ci := 2) (k := 4) C fl_X3_60 rfl dX3_takeJoin_35 hR g2 ?_
  refine lv_bipush (v := 70) hx hb dX3_takeJoin_38 (by decide) ?_
  refine lv_iadd hx hb dX3_takeJoin_40 ?_
  obtain ⟨g3, hd⟩ := gd_ex hd
  obtain ⟨G4, eG4, hd⟩ := bd_ex hd
  refine r_iast C dX3_takeJoin_41 hR hS g3 (fun H locs hR hS => ?_)
  replace hR : Rp b0 D E G4 H := by rw [eG4]; exact hR
  cases hd
  exact r_vret C dX3_takeJoin_42 hR hS
set_option maxHeartbeats 4000000 in
set_option maxRecDepth 100000 in
theorem k_X3_takeJoin (C : Cx p s m args meth c RX3 cX3_takeJoin 3 none b0 D E) {GG : Hp} {x0 : Nat} {x1 : Int32} {x2 : Int32} {G : Hp} {ls : Array Slot} {H : Heap} {locs : List Loc} : lx ls 3 [(0, .inr x0), (1, .inl x1), (2, .inl x2)] → Rp b0 D E G H → SS b0 s H locs → d_X3_takeJoin x0 x1 x2 G = some GG → W p l e (rmd 3 (0) (0)) s m args below meth c H locs (0) (0) (MQ below (CQ b0 D E none GG) args s (0) (0) (fun q => b0 ≤ q)) (F0 m 0 ls []) := by
  intro hL hR hS hd
  unfold d_X3_takeJoin at hd
  have hx := C.1
  have hb := C.2.1
  refine x_iload_n C dX3_takeJoin_0 hL 2 rfl ?_
  refine lv_bipush (v := 16) hx hb dX3_takeJoin_1 (by decide) ?_
  refine lv_icmp_ne (tgt := 21) hx hb dX3_takeJoin_3 (by decide) (fun c1 => ?_) (fun c1 => ?_)
  · rw [if_neg c1] at hd
    exact k_X3_takeJoin_21 C hL hR hS hd
  · rw [if_pos c1] at hd
    refine x_aload_n C dX3_takeJoin_6 hL 0 rfl ?_
    refine x_iload_n C dX3_takeJoin_7 hL 1 rfl ?_
    refine x_iload_n C dX3_takeJoin_8 hL 2 rfl ?_
    obtain ⟨g2, hd⟩ := gd_ex hd
    obtain ⟨v4, h3, hd⟩ := bo_ex hd
    refine r_callV (a := x0) (ci := 3) (As := [.int x1, .int x2]) C (ct_X3_isJoined h3) mf_X3_isJoined ml_X3_83 mv_X3_isJoined rfl ⟨Nat.le_of_ble_eq_true rfl, Nat.le_of_ble_eq_true rfl⟩ dX3_takeJoin_9 (lx_size hL) rfl hR hS g2 ⟨Nat.le_refl _, Nat.le_refl _⟩ (cat_le [] (Nat.le_of_ble_eq_true rfl)) (fun H locs hR hS => ?_)
    refine W_st (st2 := [.int v4]) rfl ?_
    refine lv_if_ne (tgt := 21) hx hb dX3_takeJoin_12 (by decide) (fun c5 => ?_) (fun c5 => ?_)
    · rw [if_neg c5] at hd
      exact k_X3_takeJoin_21 C hL hR hS hd
    · rw [if_pos c5] at hd
      refine x_aload_n C dX3_takeJoin_15 hL 0 rfl ?_
      refine x_iload_n C dX3_takeJoin_16 hL 1 rfl ?_
      refine lv_iconst (v := 0) hx hb dX3_takeJoin_17 (by decide) ?_
      obtain ⟨G7, h6, hd⟩ := bo_ex hd
      refine r_callV (a := x0) (ci := 3) (As := [.int x1, .int 0]) C (ct_X3_takeCuts h6) mf_X3_takeCuts ml_X3_96 mv_X3_takeCuts rfl ⟨Nat.le_of_ble_eq_true rfl, Nat.le_of_ble_eq_true rfl⟩ dX3_takeJoin_18 (lx_size hL) rfl hR hS g2 ⟨Nat.le_refl _, Nat.le_refl _⟩ (cat_le [] (Nat.le_of_ble_eq_true rfl)) (fun H locs hR hS => ?_)
      refine W_st (st2 := []) rfl ?_
      exact k_X3_takeJoin_21 C hL hR hS hd
end
set_option maxHeartbeats 4000000 in
set_option maxRecDepth 100000 in
theorem ct_X3_takeJoin {l : Launch} {b0 : Nat} {D : va_G} {E : Nat → ClassId} {G : Hp} {a0 : Nat} {a1 : Int32} {a2 : Int32} {GG : Hp} (hd : d_X3_takeJoin a0 a1 a2 G = some GG) : CT l yX3_takeJoin cX3_takeJoin 3 none 3 0 0 b0 D E [rv a0, .int a1, .int a2] G none GG := by
  refine CT_of (by decide +kernel) ?_
  intro p e s m below meth c C hnm hR
  refine r_entry [.inr a0, .inl a1, .inl a2] (n := 3) (Nat.le_of_ble_eq_true rfl) (lv := [(0, .inr a0), (1, .inl a1), (2, .inl a2)]) rfl (fun ls hL => ?_)
  exact k_X3_takeJoin C (lx_sub hL [0, 1, 2] rfl) hR ⟨fun _ _ => rfl, fun _ h => by cases h⟩ hd

/-! GroveWorks$Port.takePrune(II)V -/
theorem dX3_takePrune_0 : decode cX3_takePrune 0 = .ok (.iload_n 1, 1) := by decide +kernel
theorem dX3_takePrune_1 : decode cX3_takePrune 1 = .ok (.bipush 17, 2) := by decide +kernel
theorem dX3_takePrune_3 : decode cX3_takePrune 3 = .ok (.imul, 1) := by decide +kernel
theorem dX3_takePrune_4 : decode cX3_takePrune 4 = .ok (.iload_n 2, 1) := by decide +kernel
theorem dX3_takePrune_5 : decode cX3_takePrune 5 = .ok (.iadd, 1) := by decide +kernel
theorem dX3_takePrune_6 : decode cX3_takePrune 6 = .ok (.istore_n 3, 1) := by decide +kernel
theorem dX3_takePrune_7 : decode cX3_takePrune 7 = .ok (.aload_n 0, 1) := by decide +kernel
theorem dX3_takePrune_8 : decode cX3_takePrune 8 = .ok (.getfield 28, 3) := by decide +kernel
theorem dX3_takePrune_11 : decode cX3_takePrune 11 = .ok (.iload_n 3, 1) := by decide +kernel
theorem dX3_takePrune_12 : decode cX3_takePrune 12 = .ok (.aload_n 0, 1) := by decide +kernel
theorem dX3_takePrune_13 : decode cX3_takePrune 13 = .ok (.getfield 28, 3) := by decide +kernel
theorem dX3_takePrune_16 : decode cX3_takePrune 16 = .ok (.iload_n 3, 1) := by decide +kernel
theorem dX3_takePrune_17 : decode cX3_takePrune 17 = .ok (.iaload, 1) := by decide +kernel
theorem dX3_takePrune_18 : decode cX3_takePrune 18 = .ok (.aload_n 0, 1) := by decide +kernel
theorem dX3_takePrune_19 : decode cX3_takePrune 19 = .ok (.getfield 40, 3) := by decide +kernel
theorem dX3_takePrune_22 : decode cX3_takePrune 22 = .ok (.getfield 60, 3) := by decide +kernel
theorem dX3_takePrune_25 : decode cX3_takePrune 25 = .ok (.aload_n 0, 1) := by decide +kernel
theorem dX3_takePrune_26 : decode cX3_takePrune 26 = .ok (.invokevirtual 100, 3) := by decide +kernel
theorem dX3_takePrune_29 : decode cX3_takePrune 29 = .ok (.iadd, 1) := by decide +kernel
theorem dX3_takePrune_30 : decode cX3_takePrune 30 = .ok (.invokestatic 107, 3) := by decide +kernel
theorem dX3_takePrune_33 : decode cX3_takePrune 33 = .ok (.iastore, 1) := by decide +kernel
theorem dX3_takePrune_34 : decode cX3_takePrune 34 = .ok (.return_, 1) := by decide +kernel
def d_X3_takePrune (x0 : Nat) (x1 : Int32) (x2 : Int32) (G : Hp) : Option (Hp) :=
  gd (hc G x0 = 4) <|
  gd (hc G (hr G x0 9) = 11 ∧ ix ((x1 * 17) + x2) (hl G (hr G x0 9))) <|
  gd (hc G (hr G x0 0) = 3) <|
  bo (d_X3_timeToObject x0 G) fun v5 =>
  gd (hc G (hr G x0 9) = 11 ∧ ix ((x1 * 17) + x2) (hl G (hr G x0 9))) <|
  bd (sI G (hr G x0 9) ((x1 * 17) + x2).toNatClampNeg (imin (hi G (hr G x0 9) ((x1 * 17) + x2).toNatClampNeg) ((hi G (hr G x0 0) 4) + v5))) fun G7 =>
  some G7
section
variable {p : Program} {l : Launch} {e : Env} {s : State} {m : MethodId} {args : Array Value} {below : List Frame} {meth : Method} {c : Code} {b0 : Nat} {D : va_G} {E : Nat → ClassId}
set_option maxHeartbeats 4000000 in
set_option maxRecDepth 100000 in
theorem k_X3_takePrune (C : Cx p s m args meth c RX3 cX3_takePrune 4 none b0 D E) {GG : Hp} {x0 : Nat} {x1 : Int32} {x2 : Int32} {G : Hp} {ls : Array Slot} {H : Heap} {locs : List Loc} : lx ls 4 [(0, .inr x0), (1, .inl x1), (2, .inl x2)] → Rp b0 D E G H → SS b0 s H locs → d_X3_takePrune x0 x1 x2 G = some GG → W p l e (rmd 2 (0) (0)) s m args below meth c H locs (0) (0) (MQ below (CQ b0 D E none GG) args s (0) (0) (fun q => b0 ≤ q)) (F0 m 0 ls []) := by
  intro hL hR hS hd
  unfold d_X3_takePrune at hd
  have hx := C.1
  have hb := C.2.1
  refine x_iload_n C dX3_takePrune_0 hL 1 rfl ?_
  refine lv_bipush (v := 17) hx hb dX3_takePrune_1 (by decide) ?_
  refine lv_imul hx hb dX3_takePrune_3 ?_
  refine x_iload_n C dX3_takePrune_4 hL 2 rfl ?_
  refine lv_iadd hx hb dX3_takePrune_5 ?_
  refine x_istore_n (lv' := [(3, .inl ((x1 * 17) + x2)), (0, .inr x0), (1, .inl x1), (2, .inl x2)]) C dX3_takePrune_6 hL (by decide) rfl (fun ls hL => ?_)
  refine x_aload_n C dX3_takePrune_7 hL 1 rfl ?_
  obtain ⟨g1, hd⟩ := gd_ex hd
  refine r_getr (ci := 3) (k := 9) C fl_X3_28 rfl dX3_takePrune_8 hR g1 ?_
  refine x_iload_n C dX3_takePrune_11 hL 0 rfl ?_
  refine x_aload_n C dX3_takePrune_12 hL 1 rfl ?_
  refine r_getr (ci := 3) (k := 9) C fl_X3_28 rfl dX3_takePrune_13 hR g1 ?_
  refine x_iload_n C dX3_takePrune_16 hL 0 rfl ?_
  obtain ⟨g2, hd⟩ := gd_ex hd
  refine r_iald C dX3_takePrune_17 hR g2 ?_
  refine x_aload_n C dX3_takePrune_18 hL 1 rfl ?_
  refine r_getr (ci := 3) (k := 0) C fl_X3_40 rfl dX3_takePrune_19 hR g1 ?_
  obtain ⟨g3, hd⟩ := gd_ex hd
  refine r_geti (ci := 2) (k := 4) C fl_X3_60 rfl dX3_takePrune_22 hR g3 ?_
  refine x_aload_n C dX3_takePrune_25 hL 1 rfl ?_
  obtain ⟨v5, h4, hd⟩ := bo_ex hd
  refine r_callV (a := x0) (ci := 3) (As := []) C (ct_X3_timeToObject h4) mf_X3_timeToObject ml_X3_100 mv_X3_timeToObject rfl ⟨Nat.le_of_ble_eq_true rfl, Nat.le_of_ble_eq_true rfl⟩ dX3_takePrune_26 (lx_size hL) rfl hR hS g1 ⟨Nat.le_refl _, Nat.le_refl _⟩ (cat_le [.inl (hi G (hr G x0 0) 4), .inl (hi G (hr G x0 9) ((x1 * 17) + x2).toNatClampNeg), .inl ((x1 * 17) + x2), .inr (hr G x0 9)] (Nat.le_of_ble_eq_true rfl)) (fun H locs hR hS => ?_)
  refine W_st (st2 := [.int v5, .int (hi G (hr G x0 0) 4), .int (hi G (hr G x0 9) ((x1 * 17) + x2).toNatClampNeg), .int ((x1 * 17) + x2), rv (hr G x0 9)]) rfl ?_
  refine lv_iadd hx hb dX3_takePrune_29 ?_
  refine r_mmin C ml_X3_107 dX3_takePrune_30 (lx_size hL) ⟨Nat.le_of_ble_eq_true rfl, Nat.le_of_ble_eq_true rfl⟩ ⟨Nat.le_refl _, Nat.le_refl _⟩ (cat_le [.inl ((x1 * 17) + x2), .inr (hr G x0 9)] (Nat.le_of_ble_eq_true rfl)) ?_
  obtain ⟨g6, hd⟩ := gd_ex hd
  obtain ⟨G7, eG7, hd⟩ := bd_ex hd
  refine r_iast C dX3_takePrune_33 hR hS g6 (fun H locs hR hS => ?_)
  replace hR : Rp b0 D E G7 H := by rw [eG7]; exact hR
  cases hd
  exact r_vret C dX3_takePrune_34 hR hS
end
set_option maxHeartbeats 4000000 in
set_option maxRecDepth 100000 in
theorem ct_X3_takePrune {l : Launch} {b0 : Nat} {D : va_G} {E : Nat → ClassId} {G : Hp} {a0 : Nat} {a1 : Int32} {a2 : Int32} {GG : Hp} (hd : d_X3_takePrune a0 a1 a2 G = some GG) : CT l yX3_takePrune cX3_takePrune 4 none 2 0 0 b0 D E [rv a0, .int a1, .int a2] G none GG := by
  refine CT_of (by decide +kernel) ?_
  intro p e s m below meth c C hnm hR
  refine r_entry [.inr a0, .inl a1, .inl a2] (n := 4) (Nat.le_of_ble_eq_true rfl) (lv := [(0, .inr a0), (1, .inl a1), (2, .inl a2)]) rfl (fun ls hL => ?_)
  exact k_X3_takePrune C (lx_sub hL [0, 1, 2] rfl) hR ⟨fun _ _ => rfl, fun _ h => by cases h⟩ hd

/-! GroveWorks$Port.claimant(II)I pure -/
theorem dX3_claimant_0 : decode cX3_claimant 0 = .ok (.aload_n 0, 1) := by decide +kernel
theorem dX3_claimant_1 : decode cX3_claimant 1 = .ok (.iload_n 1, 1) := by decide +kernel
theorem dX3_claimant_2 : decode cX3_claimant 2 = .ok (.iload_n 2, 1) := by decide +kernel
theorem dX3_claimant_3 : decode cX3_claimant 3 = .ok (.invokevirtual 89, 3) := by decide +kernel
theorem dX3_claimant_6 : decode cX3_claimant 6 = .ok (.istore_n 3, 1) := by decide +kernel
theorem dX3_claimant_7 : decode cX3_claimant 7 = .ok (.iload_n 3, 1) := by decide +kernel
theorem dX3_claimant_8 : decode cX3_claimant 8 = .ok (.iconst (-1), 1) := by decide +kernel
theorem dX3_claimant_9 : decode cX3_claimant 9 = .ok (.if_icmp .ne 7, 3) := by decide +kernel
theorem dX3_claimant_12 : decode cX3_claimant 12 = .ok (.iconst (-1), 1) := by decide +kernel
theorem dX3_claimant_13 : decode cX3_claimant 13 = .ok (.goto 7, 3) := by decide +kernel
theorem dX3_claimant_16 : decode cX3_claimant 16 = .ok (.iload_n 3, 1) := by decide +kernel
theorem dX3_claimant_17 : decode cX3_claimant 17 = .ok (.bipush 100, 2) := by decide +kernel
theorem dX3_claimant_19 : decode cX3_claimant 19 = .ok (.irem, 1) := by decide +kernel
theorem dX3_claimant_20 : decode cX3_claimant 20 = .ok (.ireturn, 1) := by decide +kernel
def d_X3_claimant (x0 : Nat) (x1 : Int32) (x2 : Int32) (G : Hp) : Option (Int32) :=
  gd (hc G x0 = 4) <|
  bo (d_X3_keptClaim x0 x1 x2 G) fun v3 =>
  if v3 = (-1) then
    some (-1)
  else
    some (v3 - v3 / 100 * 100)
section
variable {p : Program} {l : Launch} {e : Env} {s : State} {m : MethodId} {args : Array Value} {below : List Frame} {meth : Method} {c : Code} {b0 : Nat} {D : va_G} {E : Nat → ClassId}
set_option maxHeartbeats 4000000 in
set_option maxRecDepth 100000 in
theorem k_X3_claimant (C : Cx p s m args meth c RX3 cX3_claimant 4 (some .int) b0 D E) {rr : Int32} {G : Hp} {x0 : Nat} {x1 : Int32} {x2 : Int32} {ls : Array Slot} {H : Heap} {locs : List Loc} : lx ls 4 [(0, .inr x0), (1, .inl x1), (2, .inl x2)] → Rp b0 D E G H → SS b0 s H locs → d_X3_claimant x0 x1 x2 G = some rr → W p l e (rmd 2 (0) (0)) s m args below meth c H locs (0) (0) (MQ below (CQ b0 D E (some (.int rr)) G) args s (0) (0) (fun q => b0 ≤ q)) (F0 m 0 ls []) := by
  intro hL hR hS hd
  unfold d_X3_claimant at hd
  have hx := C.1
  have hb := C.2.1
  refine x_aload_n C dX3_claimant_0 hL 0 rfl ?_
  refine x_iload_n C dX3_claimant_1 hL 1 rfl ?_
  refine x_iload_n C dX3_claimant_2 hL 2 rfl ?_
  obtain ⟨g1, hd⟩ := gd_ex hd
  obtain ⟨v3, h2, hd⟩ := bo_ex hd
  refine r_callV (a := x0) (ci := 3) (As := [.int x1, .int x2]) C (ct_X3_keptClaim h2) mf_X3_keptClaim ml_X3_89 mv_X3_keptClaim rfl ⟨Nat.le_of_ble_eq_true rfl, Nat.le_of_ble_eq_true rfl⟩ dX3_claimant_3 (lx_size hL) rfl hR hS g1 ⟨Nat.le_refl _, Nat.le_refl _⟩ (cat_le [] (Nat.le_of_ble_eq_true rfl)) (fun H locs hR hS => ?_)
  refine W_st (st2 := [.int v3]) rfl ?_
  refine x_istore_n (lv' := [(3, .inl v3), (0, .inr x0), (1, .inl x1), (2, .inl x2)]) C dX3_claimant_6 hL (by decide) rfl (fun ls hL => ?_)
  refine x_iload_n C dX3_claimant_7 hL 0 rfl ?_
  refine lv_iconst (v := (-1)) hx hb dX3_claimant_8 (by decide) ?_
  refine lv_icmp_ne (tgt := 16) hx hb dX3_claimant_9 (by decide) (fun c4 => ?_) (fun c4 => ?_)
  · rw [if_neg c4] at hd
    refine x_iload_n C dX3_claimant_16 hL 0 rfl ?_
    refine lv_bipush (v := 100) hx hb dX3_claimant_17 (by decide) ?_
    refine lv_irem hx hb dX3_claimant_19 (by decide) ?_
    cases hd
    exact r_iret C dX3_claimant_20 hR hS
  · rw [if_pos c4] at hd
    refine lv_iconst (v := (-1)) hx hb dX3_claimant_12 (by decide) ?_
    refine lv_goto (tgt := 20) hx hb dX3_claimant_13 (by decide) ?_
    cases hd
    exact r_iret C dX3_claimant_20 hR hS
end
set_option maxHeartbeats 4000000 in
set_option maxRecDepth 100000 in
theorem ct_X3_claimant {l : Launch} {b0 : Nat} {D : va_G} {E : Nat → ClassId} {G : Hp} {a0 : Nat} {a1 : Int32} {a2 : Int32} {rr : Int32} (hd : d_X3_claimant a0 a1 a2 G = some rr) : CT l yX3_claimant cX3_claimant 4 (some .int) 2 0 0 b0 D E [rv a0, .int a1, .int a2] G (some (.int rr)) G := by
  refine CT_of (by decide +kernel) ?_
  intro p e s m below meth c C hnm hR
  refine r_entry [.inr a0, .inl a1, .inl a2] (n := 4) (Nat.le_of_ble_eq_true rfl) (lv := [(0, .inr a0), (1, .inl a1), (2, .inl a2)]) rfl (fun ls hL => ?_)
  exact k_X3_claimant C (lx_sub hL [0, 1, 2] rfl) hR ⟨fun _ _ => rfl, fun _ h => by cases h⟩ hd

/-! GroveWorks$Port.takeClaim(III)V -/
theorem dX3_takeClaim_0 : decode cX3_takeClaim 0 = .ok (.aload_n 0, 1) := by decide +kernel
theorem dX3_takeClaim_1 : decode cX3_takeClaim 1 = .ok (.iload_n 1, 1) := by decide +kernel
theorem dX3_takeClaim_2 : decode cX3_takeClaim 2 = .ok (.iload_n 2, 1) := by decide +kernel
theorem dX3_takeClaim_3 : decode cX3_takeClaim 3 = .ok (.invokevirtual 89, 3) := by decide +kernel
theorem dX3_takeClaim_6 : decode cX3_takeClaim 6 = .ok (.istore 4, 2) := by decide +kernel
theorem dX3_takeClaim_8 : decode cX3_takeClaim 8 = .ok (.iload 4, 2) := by decide +kernel
theorem dX3_takeClaim_10 : decode cX3_takeClaim 10 = .ok (.iconst (-1), 1) := by decide +kernel
theorem dX3_takeClaim_11 : decode cX3_takeClaim 11 = .ok (.if_icmp .eq 24, 3) := by decide +kernel
theorem dX3_takeClaim_14 : decode cX3_takeClaim 14 = .ok (.iload_n 3, 1) := by decide +kernel
theorem dX3_takeClaim_15 : decode cX3_takeClaim 15 = .ok (.iload 4, 2) := by decide +kernel
theorem dX3_takeClaim_17 : decode cX3_takeClaim 17 = .ok (.invokestatic 93, 3) := by decide +kernel
theorem dX3_takeClaim_20 : decode cX3_takeClaim 20 = .ok (.ifCond .ne 15, 3) := by decide +kernel
theorem dX3_takeClaim_23 : decode cX3_takeClaim 23 = .ok (.iload 4, 2) := by decide +kernel
theorem dX3_takeClaim_25 : decode cX3_takeClaim 25 = .ok (.bipush 100, 2) := by decide +kernel
theorem dX3_takeClaim_27 : decode cX3_takeClaim 27 = .ok (.irem, 1) := by decide +kernel
theorem dX3_takeClaim_28 : decode cX3_takeClaim 28 = .ok (.iload_n 3, 1) := by decide +kernel
theorem dX3_takeClaim_29 : decode cX3_takeClaim 29 = .ok (.bipush 100, 2) := by decide +kernel
theorem dX3_takeClaim_31 : decode cX3_takeClaim 31 = .ok (.irem, 1) := by decide +kernel
theorem dX3_takeClaim_32 : decode cX3_takeClaim 32 = .ok (.if_icmp .ne 36, 3) := by decide +kernel
theorem dX3_takeClaim_35 : decode cX3_takeClaim 35 = .ok (.aload_n 0, 1) := by decide +kernel
theorem dX3_takeClaim_36 : decode cX3_takeClaim 36 = .ok (.getfield 34, 3) := by decide +kernel
theorem dX3_takeClaim_39 : decode cX3_takeClaim 39 = .ok (.iload_n 1, 1) := by decide +kernel
theorem dX3_takeClaim_40 : decode cX3_takeClaim 40 = .ok (.bipush 16, 2) := by decide +kernel
theorem dX3_takeClaim_42 : decode cX3_takeClaim 42 = .ok (.imul, 1) := by decide +kernel
theorem dX3_takeClaim_43 : decode cX3_takeClaim 43 = .ok (.iload_n 2, 1) := by decide +kernel
theorem dX3_takeClaim_44 : decode cX3_takeClaim 44 = .ok (.iadd, 1) := by decide +kernel
theorem dX3_takeClaim_45 : decode cX3_takeClaim 45 = .ok (.iload_n 3, 1) := by decide +kernel
theorem dX3_takeClaim_46 : decode cX3_takeClaim 46 = .ok (.iastore, 1) := by decide +kernel
theorem dX3_takeClaim_47 : decode cX3_takeClaim 47 = .ok (.aload_n 0, 1) := by decide +kernel
theorem dX3_takeClaim_48 : decode cX3_takeClaim 48 = .ok (.getfield 37, 3) := by decide +kernel
theorem dX3_takeClaim_51 : decode cX3_takeClaim 51 = .ok (.iload_n 1, 1) := by decide +kernel
theorem dX3_takeClaim_52 : decode cX3_takeClaim 52 = .ok (.bipush 16, 2) := by decide +kernel
theorem dX3_takeClaim_54 : decode cX3_takeClaim 54 = .ok (.imul, 1) := by decide +kernel
theorem dX3_takeClaim_55 : decode cX3_takeClaim 55 = .ok (.iload_n 2, 1) := by decide +kernel
theorem dX3_takeClaim_56 : decode cX3_takeClaim 56 = .ok (.iadd, 1) := by decide +kernel
theorem dX3_takeClaim_57 : decode cX3_takeClaim 57 = .ok (.aload_n 0, 1) := by decide +kernel
theorem dX3_takeClaim_58 : decode cX3_takeClaim 58 = .ok (.getfield 40, 3) := by decide +kernel
theorem dX3_takeClaim_61 : decode cX3_takeClaim 61 = .ok (.getfield 60, 3) := by decide +kernel
theorem dX3_takeClaim_64 : decode cX3_takeClaim 64 = .ok (.bipush 60, 2) := by decide +kernel
theorem dX3_takeClaim_66 : decode cX3_takeClaim 66 = .ok (.iadd, 1) := by decide +kernel
theorem dX3_takeClaim_67 : decode cX3_takeClaim 67 = .ok (.iastore, 1) := by decide +kernel
theorem dX3_takeClaim_68 : decode cX3_takeClaim 68 = .ok (.return_, 1) := by decide +kernel
def d_X3_takeClaim_35 (x0 : Nat) (x1 : Int32) (x2 : Int32) (x3 : Int32) (G : Hp) : Option (Hp) :=
  gd (hc G x0 = 4) <|
  gd (hc G (hr G x0 11) = 11 ∧ ix ((x1 * 16) + x2) (hl G (hr G x0 11))) <|
  bd (sI G (hr G x0 11) ((x1 * 16) + x2).toNatClampNeg x3) fun G3 =>
  gd (hc G3 x0 = 4) <|
  gd (hc G3 (hr G3 x0 0) = 3) <|
  gd (hc G3 (hr G3 x0 12) = 11 ∧ ix ((x1 * 16) + x2) (hl G3 (hr G3 x0 12))) <|
  bd (sI G3 (hr G3 x0 12) ((x1 * 16) + x2).toNatClampNeg ((hi G3 (hr G3 x0 0) 4) + 60)) fun G7 =>
  some G7
def d_X3_takeClaim (x0 : Nat) (x1 : Int32) (x2 : Int32) (x3 : Int32) (G : Hp) : Option (Hp) :=
  gd (hc G x0 = 4) <|
  bo (d_X3_keptClaim x0 x1 x2 G) fun v3 =>
  if v3 = (-1) then
    d_X3_takeClaim_35 x0 x1 x2 x3 G
  else
    bo (d_X8_isBetter x3 v3 G) fun v6 =>
    if v6 = 0 then
      if (v3 - v3 / 100 * 100) = (x3 - x3 / 100 * 100) then
        d_X3_takeClaim_35 x0 x1 x2 x3 G
      else
        some G
    else
      d_X3_takeClaim_35 x0 x1 x2 x3 G
section
variable {p : Program} {l : Launch} {e : Env} {s : State} {m : MethodId} {args : Array Value} {below : List Frame} {meth : Method} {c : Code} {b0 : Nat} {D : va_G} {E : Nat → ClassId}
set_option maxHeartbeats 4000000 in
set_option maxRecDepth 100000 in
theorem k_X3_takeClaim_35 (C : Cx p s m args meth c RX3 cX3_takeClaim 5 none b0 D E) {GG : Hp} {x0 : Nat} {x1 : Int32} {x2 : Int32} {x3 : Int32} {G : Hp} {ls : Array Slot} {H : Heap} {locs : List Loc} : lx ls 5 [(0, .inr x0), (1, .inl x1), (2, .inl x2), (3, .inl x3)] → Rp b0 D E G H → SS b0 s H locs → d_X3_takeClaim_35 x0 x1 x2 x3 G = some GG → W p l e (rmd 2 (0) (0)) s m args below meth c H locs (0) (0) (MQ below (CQ b0 D E none GG) args s (0) (0) (fun q => b0 ≤ q)) (F0 m 35 ls []) := by
  intro hL hR hS hd
  unfold d_X3_takeClaim_35 at hd
  have hx := C.1
  have hb := C.2.1
  refine x_aload_n C dX3_takeClaim_35 hL 0 rfl ?_
  obtain ⟨g1, hd⟩ := gd_ex hd
  refine r_getr (ci := 3) (k := 11) C fl_X3_34 rfl dX3_takeClaim_36 hR g1 ?_
  refine x_iload_n C dX3_takeClaim_39 hL 1 rfl ?_
  refine lv_bipush (v := 16) hx hb dX3_takeClaim_40 (by decide) ?_
  refine lv_imul hx hb dX3_takeClaim_42 ?_
  refine x_iload_n C dX3_takeClaim_43 hL 2 rfl ?_
  refine lv_iadd hx hb dX3_takeClaim_44 ?_
  refine x_iload_n C dX3_takeClaim_45 hL 3 rfl ?_
  obtain ⟨g2, hd⟩ := gd_ex hd
  obtain ⟨G3, eG3, hd⟩ := bd_ex hd
  refine r_iast C dX3_takeClaim_46 hR hS g2 (fun H locs hR hS => ?_)
  replace hR : Rp b0 D E G3 H := by rw [eG3]; exact hR
  refine x_aload_n C dX3_takeClaim_47 hL 0 rfl ?_
  obtain ⟨g4, hd⟩ := gd_ex hd
  refine r_getr (ci := 3) (k := 12) C fl_X3_37 rfl dX3_takeClaim_48 hR g4 ?_
  refine x_iload_n C dX3_takeClaim_51 hL 1 rfl ?_
  refine lv_bipush (v := 16) hx hb dX3_takeClaim_52 (by decide) ?_
  refine lv_imul hx hb dX3_takeClaim_54 ?_
  refine x_iload_n C dX3_takeClaim_55 hL 2 rfl ?_
  refine lv_iadd hx hb dX3_takeClaim_56 ?_
  refine x_aload_n C dX3_takeClaim_57 hL 0 rfl ?_
  refine r_getr (ci := 3) (k := 0) C fl_X3_40 rfl dX3_takeClaim_58 hR g4 ?_
  obtain ⟨g5, hd⟩ := gd_ex hd
  refine r_geti (ci := 2) (k := 4) C fl_X3_60 rfl dX3_takeClaim_61 hR g5 ?_
  refine lv_bipush (v := 60) hx hb dX3_takeClaim_64 (by decide) ?_
  refine lv_iadd hx hb dX3_takeClaim_66 ?_
  obtain ⟨g6, hd⟩ := gd_ex hd
  obtain ⟨G7, eG7, hd⟩ := bd_ex hd
  refine r_iast C dX3_takeClaim_67 hR hS g6 (fun H locs hR hS => ?_)
  replace hR : Rp b0 D E G7 H := by rw [eG7]; exact hR
  cases hd
  exact r_vret C dX3_takeClaim_68 hR hS
set_option maxHeartbeats 4000000 in
set_option maxRecDepth 100000 in
theorem k_X3_takeClaim (C : Cx p s m args meth c RX3 cX3_takeClaim 5 none b0 D E) {GG : Hp} {x0 : Nat} {x1 : Int32} {x2 : Int32} {x3 : Int32} {G : Hp} {ls : Array Slot} {H : Heap} {locs : List Loc} : lx ls 5 [(0, .inr x0), (1, .inl x1), (2, .inl x2), (3, .inl x3)] → Rp b0 D E G H → SS b0 s H locs → d_X3_takeClaim x0 x1 x2 x3 G = some GG → W p l e (rmd 2 (0) (0)) s m args below meth c H locs (0) (0) (MQ below (CQ b0 D E none GG) args s (0) (0) (fun q => b0 ≤ q)) (F0 m 0 ls []) := by
  intro hL hR hS hd
  unfold d_X3_takeClaim at hd
  have hx := C.1
  have hb := C.2.1
  refine x_aload_n C dX3_takeClaim_0 hL 0 rfl ?_
  refine x_iload_n C dX3_takeClaim_1 hL 1 rfl ?_
  refine x_iload_n C dX3_takeClaim_2 hL 2 rfl ?_
  obtain ⟨g1, hd⟩ := gd_ex hd
  obtain ⟨v3, h2, hd⟩ := bo_ex hd
  refine r_callV (a := x0) (ci := 3) (As := [.int x1, .int x2]) C (ct_X3_keptClaim h2) mf_X3_keptClaim ml_X3_89 mv_X3_keptClaim rfl ⟨Nat.le_of_ble_eq_true rfl, Nat.le_of_ble_eq_true rfl⟩ dX3_takeClaim_3 (lx_size hL) rfl hR hS g1 ⟨Nat.le_refl _, Nat.le_refl _⟩ (cat_le [] (Nat.le_of_ble_eq_true rfl)) (fun H locs hR hS => ?_)
  refine W_st (st2 := [.int v3]) rfl ?_
  refine x_istore (lv' := [(4, .inl v3), (0, .inr x0), (1, .inl x1), (2, .inl x2), (3, .inl x3)]) C dX3_takeClaim_6 hL (by decide) rfl (fun ls hL => ?_)
  refine x_iload C dX3_takeClaim_8 hL 0 rfl ?_
  refine lv_iconst (v := (-1)) hx hb dX3_takeClaim_10 (by decide) ?_
  refine lv_icmp_eq (tgt := 35) hx hb dX3_takeClaim_11 (by decide) (fun c4 => ?_) (fun c4 => ?_)
  · rw [if_pos c4] at hd
    exact k_X3_takeClaim_35 C (lx_sub hL [1, 2, 3, 4] rfl) hR hS hd
  · rw [if_neg c4] at hd
    refine x_iload_n C dX3_takeClaim_14 hL 4 rfl ?_
    refine x_iload C dX3_takeClaim_15 hL 0 rfl ?_
    obtain ⟨v6, h5, hd⟩ := bo_ex hd
    refine r_callSN (As := [.int x3, .int v3]) C (ct_X8_isBetter h5) mf_X8_isBetter (by decide +kernel) ms_X8_isBetter rfl ⟨Nat.le_of_ble_eq_true rfl, Nat.le_of_ble_eq_true rfl⟩ dX3_takeClaim_17 (lx_size hL) rfl hR hS ⟨Nat.le_refl _, Nat.le_refl _⟩ (cat_le [] (Nat.le_of_ble_eq_true rfl)) (fun H locs hR hS => ?_)
    refine W_st (st2 := [.int v6]) rfl ?_
    refine lv_if_ne (tgt := 35) hx hb dX3_takeClaim_20 (by decide) (fun c7 => ?_) (fun c7 => ?_)
    · rw [if_neg c7] at hd
      exact k_X3_takeClaim_35 C (lx_sub hL [1, 2, 3, 4] rfl) hR hS hd
    · rw [if_pos c7] at hd
      refine x_iload C dX3_takeClaim_23 hL 0 rfl ?_
      refine lv_bipush (v := 100) hx hb dX3_takeClaim_25 (by decide) ?_
      refine lv_irem hx hb dX3_takeClaim_27 (by decide) ?_
      refine x_iload_n C dX3_takeClaim_28 hL 4 rfl ?_
      refine lv_bipush (v := 100) hx hb dX3_takeClaim_29 (by decide) ?_
      refine lv_irem hx hb dX3_takeClaim_31 (by decide) ?_
      refine lv_icmp_ne (tgt := 68) hx hb dX3_takeClaim_32 (by decide) (fun c8 => ?_) (fun c8 => ?_)
      · rw [if_neg c8] at hd
        cases hd
        exact r_vret C dX3_takeClaim_68 hR hS
      · rw [if_pos c8] at hd
        exact k_X3_takeClaim_35 C (lx_sub hL [1, 2, 3, 4] rfl) hR hS hd
end
set_option maxHeartbeats 4000000 in
set_option maxRecDepth 100000 in
theorem ct_X3_takeClaim {l : Launch} {b0 : Nat} {D : va_G} {E : Nat → ClassId} {G : Hp} {a0 : Nat} {a1 : Int32} {a2 : Int32} {a3 : Int32} {GG : Hp} (hd : d_X3_takeClaim a0 a1 a2 a3 G = some GG) : CT l yX3_takeClaim cX3_takeClaim 5 none 2 0 0 b0 D E [rv a0, .int a1, .int a2, .int a3] G none GG := by
  refine CT_of (by decide +kernel) ?_
  intro p e s m below meth c C hnm hR
  refine r_entry [.inr a0, .inl a1, .inl a2, .inl a3] (n := 5) (Nat.le_of_ble_eq_true rfl) (lv := [(0, .inr a0), (1, .inl a1), (2, .inl a2), (3, .inl a3)]) rfl (fun ls hL => ?_)
  exact k_X3_takeClaim C (lx_sub hL [0, 1, 2, 3] rfl) hR ⟨fun _ _ => rfl, fun _ h => by cases h⟩ hd

/-! GroveWorks$Router.<init>(LGroveWorks$Net;I[LGroveWorks$Port;[LGroveWorks$Tree;)V -/
theorem dX4_init_0 : decode cX4_init 0 = .ok (.aload_n 0, 1) := by decide +kernel
theorem dX4_init_1 : decode cX4_init 1 = .ok (.invokespecial 3, 3) := by decide +kernel
theorem dX4_init_4 : decode cX4_init 4 = .ok (.aload_n 0, 1) := by decide +kernel
theorem dX4_init_5 : decode cX4_init 5 = .ok (.aload_n 1, 1) := by decide +kernel
theorem dX4_init_6 : decode cX4_init 6 = .ok (.putfield 9, 3) := by decide +kernel
theorem dX4_init_9 : decode cX4_init 9 = .ok (.aload_n 0, 1) := by decide +kernel
theorem dX4_init_10 : decode cX4_init 10 = .ok (.iload_n 2, 1) := by decide +kernel
theorem dX4_init_11 : decode cX4_init 11 = .ok (.putfield 15, 3) := by decide +kernel
theorem dX4_init_14 : decode cX4_init 14 = .ok (.aload_n 0, 1) := by decide +kernel
theorem dX4_init_15 : decode cX4_init 15 = .ok (.aload_n 3, 1) := by decide +kernel
theorem dX4_init_16 : decode cX4_init 16 = .ok (.putfield 19, 3) := by decide +kernel
theorem dX4_init_19 : decode cX4_init 19 = .ok (.aload_n 0, 1) := by decide +kernel
theorem dX4_init_20 : decode cX4_init 20 = .ok (.aload 4, 2) := by decide +kernel
theorem dX4_init_22 : decode cX4_init 22 = .ok (.putfield 23, 3) := by decide +kernel
theorem dX4_init_25 : decode cX4_init 25 = .ok (.return_, 1) := by decide +kernel
def d_X4_init (x0 : Nat) (x1 : Nat) (x2 : Int32) (x3 : Nat) (x4 : Nat) (G : Hp) : Option (Hp) :=
  gd (hc G x0 = 5) <|
  bd (sR G x0 0 x1) fun G2 =>
  gd (hc G2 x0 = 5) <|
  bd (sI G2 x0 1 x2) fun G4 =>
  gd (hc G4 x0 = 5) <|
  bd (sR G4 x0 2 x3) fun G6 =>
  gd (hc G6 x0 = 5) <|
  bd (sR G6 x0 3 x4) fun G8 =>
  some G8
section
variable {p : Program} {l : Launch} {e : Env} {s : State} {m : MethodId} {args : Array Value} {below : List Frame} {meth : Method} {c : Code} {b0 : Nat} {D : va_G} {E : Nat → ClassId}
set_option maxHeartbeats 4000000 in
set_option maxRecDepth 100000 in
theorem k_X4_init (C : Cx p s m args meth c RX4 cX4_init 5 none b0 D E) (hnm : meth.name = "<init>") {GG : Hp} {x0 : Nat} {x1 : Nat} {x2 : Int32} {x3 : Nat} {x4 : Nat} {G : Hp} {ls : Array Slot} {H : Heap} {locs : List Loc} : lx ls 5 [(0, .inr x0), (1, .inr x1), (2, .inl x2), (3, .inr x3), (4, .inr x4)] → Rp b0 D E G H → SS b0 s H locs → d_X4_init x0 x1 x2 x3 x4 G = some GG → W p l e (rmd 1 (0) (0)) s m args below meth c H locs (0) (0) (MQ below (CQ b0 D E none GG) args s (0) (0) (fun q => b0 ≤ q)) (F0 m 0 ls []) := by
  intro hL hR hS hd
  unfold d_X4_init at hd
  have hx := C.1
  have hb := C.2.1
  refine x_aload_n C dX4_init_0 hL 0 rfl ?_
  obtain ⟨g1, hd⟩ := gd_ex hd
  refine r_objI (a := x0) C ml_X4_3 dX4_init_1 (lx_size hL) hR (by rw [g1]; decide) ⟨Nat.le_of_ble_eq_true rfl, Nat.le_of_ble_eq_true rfl⟩ (cat_le [] (Nat.le_of_ble_eq_true rfl)) ?_
  refine x_aload_n C dX4_init_4 hL 0 rfl ?_
  refine x_aload_n C dX4_init_5 hL 1 rfl ?_
  obtain ⟨G2, eG2, hd⟩ := bd_ex hd
  refine r_putr (ci := 4) (k := 0) C fl_X4_9 (Or.inl ⟨_, rfl⟩) (Or.inr ⟨rfl, hnm, rfl⟩) dX4_init_6 hR hS g1 (fun H locs hR hS => ?_)
  replace hR : Rp b0 D E G2 H := by rw [eG2]; exact hR
  refine x_aload_n C dX4_init_9 hL 0 rfl ?_
  refine x_iload_n C dX4_init_10 hL 2 rfl ?_
  obtain ⟨g3, hd⟩ := gd_ex hd
  obtain ⟨G4, eG4, hd⟩ := bd_ex hd
  refine r_puti (ci := 4) (k := 1) C fl_X4_15 rfl (Or.inr ⟨rfl, hnm, rfl⟩) dX4_init_11 hR hS g3 (fun H locs hR hS => ?_)
  replace hR : Rp b0 D E G4 H := by rw [eG4]; exact hR
  refine x_aload_n C dX4_init_14 hL 0 rfl ?_
  refine x_aload_n C dX4_init_15 hL 3 rfl ?_
  obtain ⟨g5, hd⟩ := gd_ex hd
  obtain ⟨G6, eG6, hd⟩ := bd_ex hd
  refine r_putr (ci := 4) (k := 2) C fl_X4_19 (Or.inr ⟨_, rfl⟩) (Or.inr ⟨rfl, hnm, rfl⟩) dX4_init_16 hR hS g5 (fun H locs hR hS => ?_)
  replace hR : Rp b0 D E G6 H := by rw [eG6]; exact hR
  refine x_aload_n C dX4_init_19 hL 0 rfl ?_
  refine x_aload C dX4_init_20 hL 4 rfl ?_
  obtain ⟨g7, hd⟩ := gd_ex hd
  obtain ⟨G8, eG8, hd⟩ := bd_ex hd
  refine r_putr (ci := 4) (k := 3) C fl_X4_23 (Or.inr ⟨_, rfl⟩) (Or.inr ⟨rfl, hnm, rfl⟩) dX4_init_22 hR hS g7 (fun H locs hR hS => ?_)
  replace hR : Rp b0 D E G8 H := by rw [eG8]; exact hR
  cases hd
  exact r_vret C dX4_init_25 hR hS
end
set_option maxHeartbeats 4000000 in
set_option maxRecDepth 100000 in
theorem ct_X4_init {l : Launch} {b0 : Nat} {D : va_G} {E : Nat → ClassId} {G : Hp} {a0 : Nat} {a1 : Nat} {a2 : Int32} {a3 : Nat} {a4 : Nat} {GG : Hp} (hd : d_X4_init a0 a1 a2 a3 a4 G = some GG) : CT l yX4_init cX4_init 5 none 1 0 0 b0 D E [rv a0, rv a1, .int a2, rv a3, rv a4] G none GG := by
  refine CT_of (by decide +kernel) ?_
  intro p e s m below meth c C hnm hR
  refine r_entry [.inr a0, .inr a1, .inl a2, .inr a3, .inr a4] (n := 5) (Nat.le_of_ble_eq_true rfl) (lv := [(0, .inr a0), (1, .inr a1), (2, .inl a2), (3, .inr a3), (4, .inr a4)]) rfl (fun ls hL => ?_)
  exact k_X4_init C hnm (lx_sub hL [0, 1, 2, 3, 4] rfl) hR ⟨fun _ _ => rfl, fun _ h => by cases h⟩ hd

/-! GroveWorks$Tree.joinNone(I)V -/
theorem dX5_joinNone_0 : decode cX5_joinNone 0 = .ok (.aload_n 0, 1) := by decide +kernel
theorem dX5_joinNone_1 : decode cX5_joinNone 1 = .ok (.getfield 15, 3) := by decide +kernel
theorem dX5_joinNone_4 : decode cX5_joinNone 4 = .ok (.iload_n 1, 1) := by decide +kernel
theorem dX5_joinNone_5 : decode cX5_joinNone 5 = .ok (.iconst (-1), 1) := by decide +kernel
theorem dX5_joinNone_6 : decode cX5_joinNone 6 = .ok (.iastore, 1) := by decide +kernel
theorem dX5_joinNone_7 : decode cX5_joinNone 7 = .ok (.iload_n 1, 1) := by decide +kernel
theorem dX5_joinNone_8 : decode cX5_joinNone 8 = .ok (.bipush 16, 2) := by decide +kernel
theorem dX5_joinNone_10 : decode cX5_joinNone 10 = .ok (.if_icmp .ne 8, 3) := by decide +kernel
theorem dX5_joinNone_13 : decode cX5_joinNone 13 = .ok (.aload_n 0, 1) := by decide +kernel
theorem dX5_joinNone_14 : decode cX5_joinNone 14 = .ok (.iconst 0, 1) := by decide +kernel
theorem dX5_joinNone_15 : decode cX5_joinNone 15 = .ok (.putfield 22, 3) := by decide +kernel
theorem dX5_joinNone_18 : decode cX5_joinNone 18 = .ok (.return_, 1) := by decide +kernel
def d_X5_joinNone (x0 : Nat) (x1 : Int32) (G : Hp) : Option (Hp) :=
  gd (hc G x0 = 6) <|
  gd (hc G (hr G x0 5) = 11 ∧ ix x1 (hl G (hr G x0 5))) <|
  bd (sI G (hr G x0 5) x1.toNatClampNeg (-1)) fun G3 =>
  if x1 = 16 then
    gd (hc G3 x0 = 6) <|
    bd (sI G3 x0 7 0) fun G6 =>
    some G6
  else
    some G3
section
variable {p : Program} {l : Launch} {e : Env} {s : State} {m : MethodId} {args : Array Value} {below : List Frame} {meth : Method} {c : Code} {b0 : Nat} {D : va_G} {E : Nat → ClassId}
set_option maxHeartbeats 4000000 in
set_option maxRecDepth 100000 in
theorem k_X5_joinNone (C : Cx p s m args meth c RX5 cX5_joinNone 2 none b0 D E) {GG : Hp} {x0 : Nat} {x1 : Int32} {G : Hp} {ls : Array Slot} {H : Heap} {locs : List Loc} : lx ls 2 [(0, .inr x0), (1, .inl x1)] → Rp b0 D E G H → SS b0 s H locs → d_X5_joinNone x0 x1 G = some GG → W p l e (rmd 0 (0) (0)) s m args below meth c H locs (0) (0) (MQ below (CQ b0 D E none GG) args s (0) (0) (fun q => b0 ≤ q)) (F0 m 0 ls []) := by
  intro hL hR hS hd
  unfold d_X5_joinNone at hd
  have hx := C.1
  have hb := C.2.1
  refine x_aload_n C dX5_joinNone_0 hL 0 rfl ?_
  obtain ⟨g1, hd⟩ := gd_ex hd
  refine r_getr (ci := 5) (k := 5) C fl_X5_15 rfl dX5_joinNone_1 hR g1 ?_
  refine x_iload_n C dX5_joinNone_4 hL 1 rfl ?_
  refine lv_iconst (v := (-1)) hx hb dX5_joinNone_5 (by decide) ?_
  obtain ⟨g2, hd⟩ := gd_ex hd
  obtain ⟨G3, eG3, hd⟩ := bd_ex hd
  refine r_iast C dX5_joinNone_6 hR hS g2 (fun H locs hR hS => ?_)
  replace hR : Rp b0 D E G3 H := by rw [eG3]; exact hR
  refine x_iload_n C dX5_joinNone_7 hL 1 rfl ?_
  refine lv_bipush (v := 16) hx hb dX5_joinNone_8 (by decide) ?_
  refine lv_icmp_ne (tgt := 18) hx hb dX5_joinNone_10 (by decide) (fun c4 => ?_) (fun c4 => ?_)
  · rw [if_neg c4] at hd
    cases hd
    exact r_vret C dX5_joinNone_18 hR hS
  · rw [if_pos c4] at hd
    refine x_aload_n C dX5_joinNone_13 hL 0 rfl ?_
    refine lv_iconst (v := 0) hx hb dX5_joinNone_14 (by decide) ?_
    obtain ⟨g5, hd⟩ := gd_ex hd
    obtain ⟨G6, eG6, hd⟩ := bd_ex hd
    refine r_puti (ci := 5) (k := 7) C fl_X5_22 rfl (Or.inl rfl) dX5_joinNone_15 hR hS g5 (fun H locs hR hS => ?_)
    replace hR : Rp b0 D E G6 H := by rw [eG6]; exact hR
    cases hd
    exact r_vret C dX5_joinNone_18 hR hS
end
set_option maxHeartbeats 4000000 in
set_option maxRecDepth 100000 in
theorem ct_X5_joinNone {l : Launch} {b0 : Nat} {D : va_G} {E : Nat → ClassId} {G : Hp} {a0 : Nat} {a1 : Int32} {GG : Hp} (hd : d_X5_joinNone a0 a1 G = some GG) : CT l yX5_joinNone cX5_joinNone 2 none 0 0 0 b0 D E [rv a0, .int a1] G none GG := by
  refine CT_of (by decide +kernel) ?_
  intro p e s m below meth c C hnm hR
  refine r_entry [.inr a0, .inl a1] (n := 2) (Nat.le_of_ble_eq_true rfl) (lv := [(0, .inr a0), (1, .inl a1)]) rfl (fun ls hL => ?_)
  exact k_X5_joinNone C (lx_sub hL [0, 1] rfl) hR ⟨fun _ _ => rfl, fun _ h => by cases h⟩ hd

/-! GroveWorks$Tree.forgetPort(I)V -/
theorem dX5_forgetPort_0 : decode cX5_forgetPort 0 = .ok (.iconst 0, 1) := by decide +kernel
theorem dX5_forgetPort_1 : decode cX5_forgetPort 1 = .ok (.istore_n 2, 1) := by decide +kernel
theorem dX5_forgetPort_2 : decode cX5_forgetPort 2 = .ok (.iload_n 2, 1) := by decide +kernel
theorem dX5_forgetPort_3 : decode cX5_forgetPort 3 = .ok (.bipush 17, 2) := by decide +kernel
theorem dX5_forgetPort_5 : decode cX5_forgetPort 5 = .ok (.if_icmp .ge 37, 3) := by decide +kernel
theorem dX5_forgetPort_8 : decode cX5_forgetPort 8 = .ok (.aload_n 0, 1) := by decide +kernel
theorem dX5_forgetPort_9 : decode cX5_forgetPort 9 = .ok (.getfield 15, 3) := by decide +kernel
theorem dX5_forgetPort_12 : decode cX5_forgetPort 12 = .ok (.iload_n 2, 1) := by decide +kernel
theorem dX5_forgetPort_13 : decode cX5_forgetPort 13 = .ok (.iaload, 1) := by decide +kernel
theorem dX5_forgetPort_14 : decode cX5_forgetPort 14 = .ok (.iconst (-1), 1) := by decide +kernel
theorem dX5_forgetPort_15 : decode cX5_forgetPort 15 = .ok (.if_icmp .eq 21, 3) := by decide +kernel
theorem dX5_forgetPort_18 : decode cX5_forgetPort 18 = .ok (.aload_n 0, 1) := by decide +kernel
theorem dX5_forgetPort_19 : decode cX5_forgetPort 19 = .ok (.getfield 15, 3) := by decide +kernel
theorem dX5_forgetPort_22 : decode cX5_forgetPort 22 = .ok (.iload_n 2, 1) := by decide +kernel
theorem dX5_forgetPort_23 : decode cX5_forgetPort 23 = .ok (.iaload, 1) := by decide +kernel
theorem dX5_forgetPort_24 : decode cX5_forgetPort 24 = .ok (.bipush 16, 2) := by decide +kernel
theorem dX5_forgetPort_26 : decode cX5_forgetPort 26 = .ok (.idiv, 1) := by decide +kernel
theorem dX5_forgetPort_27 : decode cX5_forgetPort 27 = .ok (.iload_n 1, 1) := by decide +kernel
theorem dX5_forgetPort_28 : decode cX5_forgetPort 28 = .ok (.if_icmp .ne 8, 3) := by decide +kernel
theorem dX5_forgetPort_31 : decode cX5_forgetPort 31 = .ok (.aload_n 0, 1) := by decide +kernel
theorem dX5_forgetPort_32 : decode cX5_forgetPort 32 = .ok (.iload_n 2, 1) := by decide +kernel
theorem dX5_forgetPort_33 : decode cX5_forgetPort 33 = .ok (.invokevirtual 151, 3) := by decide +kernel
theorem dX5_forgetPort_36 : decode cX5_forgetPort 36 = .ok (.iinc 2 1, 3) := by decide +kernel
theorem dX5_forgetPort_39 : decode cX5_forgetPort 39 = .ok (.goto (-37), 3) := by decide +kernel
theorem dX5_forgetPort_42 : decode cX5_forgetPort 42 = .ok (.return_, 1) := by decide +kernel
def d_X5_forgetPort_2 : Nat → Nat → Int32 → Int32 → Hp → Option (Hp)
  | 0, _, _, _, _ => none
  | n_ + 1, x0, x1, x2, G =>
    if 17 ≤ x2 then
      some G
    else
      gd (hc G x0 = 6) <|
      gd (hc G (hr G x0 5) = 11 ∧ ix x2 (hl G (hr G x0 5))) <|
      if (hi G (hr G x0 5) x2.toNatClampNeg) = (-1) then
        d_X5_forgetPort_2 n_ x0 x1 (x2 + 1) G
      else
        gd (hc G (hr G x0 5) = 11 ∧ ix x2 (hl G (hr G x0 5))) <|
        if ((hi G (hr G x0 5) x2.toNatClampNeg) / 16) = x1 then
          bo (d_X5_joinNone x0 x2 G) fun G8 =>
          d_X5_forgetPort_2 n_ x0 x1 (x2 + 1) G8
        else
          d_X5_forgetPort_2 n_ x0 x1 (x2 + 1) G
def d_X5_forgetPort (x0 : Nat) (x1 : Int32) (G : Hp) : Option (Hp) :=
  d_X5_forgetPort_2 FU x0 x1 0 G
section
variable {p : Program} {l : Launch} {e : Env} {s : State} {m : MethodId} {args : Array Value} {below : List Frame} {meth : Method} {c : Code} {b0 : Nat} {D : va_G} {E : Nat → ClassId}
set_option maxHeartbeats 4000000 in
set_option maxRecDepth 100000 in
theorem k_X5_forgetPort_2 (C : Cx p s m args meth c RX5 cX5_forgetPort 3 none b0 D E) {GG : Hp} : ∀ (n_ : Nat) {x0 : Nat} {x1 : Int32} {x2 : Int32} {G : Hp} {ls : Array Slot} {H : Heap} {locs : List Loc}, lx ls 3 [(0, .inr x0), (1, .inl x1), (2, .inl x2)] → Rp b0 D E G H → SS b0 s H locs → d_X5_forgetPort_2 n_ x0 x1 x2 G = some GG → W p l e (rmd 1 (0) (0)) s m args below meth c H locs (0) (0) (MQ below (CQ b0 D E none GG) args s (0) (0) (fun q => b0 ≤ q)) (F0 m 2 ls []) := by
  intro n_
  induction n_ with
  | zero =>
    intro x0 x1 x2 G ls H locs hL hR hS hd
    cases (show (none : Option _) = some _ from hd)
  | succ n_ ih =>
    intro x0 x1 x2 G ls H locs hL hR hS hd
    rw [d_X5_forgetPort_2.eq_2] at hd
    have hx := C.1
    have hb := C.2.1
    refine x_iload_n C dX5_forgetPort_2 hL 2 rfl ?_
    refine lv_bipush (v := 17) hx hb dX5_forgetPort_3 (by decide) ?_
    refine lv_icmp_ge (tgt := 42) hx hb dX5_forgetPort_5 (by decide) (fun c1 => ?_) (fun c1 => ?_)
    · rw [if_pos c1] at hd
      cases hd
      exact r_vret C dX5_forgetPort_42 hR hS
    · rw [if_neg c1] at hd
      refine x_aload_n C dX5_forgetPort_8 hL 0 rfl ?_
      obtain ⟨g2, hd⟩ := gd_ex hd
      refine r_getr (ci := 5) (k := 5) C fl_X5_15 rfl dX5_forgetPort_9 hR g2 ?_
      refine x_iload_n C dX5_forgetPort_12 hL 2 rfl ?_
      obtain ⟨g3, hd⟩ := gd_ex hd
      refine r_iald C dX5_forgetPort_13 hR g3 ?_
      refine lv_iconst (v := (-1)) hx hb dX5_forgetPort_14 (by decide) ?_
      refine lv_icmp_eq (tgt := 36) hx hb dX5_forgetPort_15 (by decide) (fun c4 => ?_) (fun c4 => ?_)
      · rw [if_pos c4] at hd
        refine x_iinc (lv' := [(2, .inl (x2 + 1)), (0, .inr x0), (1, .inl x1)]) C dX5_forgetPort_36 hL 2 rfl rfl (by decide) rfl (fun ls hL => ?_)
        refine lv_goto (tgt := 2) hx hb dX5_forgetPort_39 (by decide) ?_
        exact ih (lx_sub hL [1, 2, 0] rfl) hR hS hd
      · rw [if_neg c4] at hd
        refine x_aload_n C dX5_forgetPort_18 hL 0 rfl ?_
        refine r_getr (ci := 5) (k := 5) C fl_X5_15 rfl dX5_forgetPort_19 hR g2 ?_
        refine x_iload_n C dX5_forgetPort_22 hL 2 rfl ?_
        obtain ⟨g5, hd⟩ := gd_ex hd
        refine r_iald C dX5_forgetPort_23 hR g5 ?_
        refine lv_bipush (v := 16) hx hb dX5_forgetPort_24 (by decide) ?_
        refine lv_idiv hx hb dX5_forgetPort_26 (by decide) ?_
        refine x_iload_n C dX5_forgetPort_27 hL 1 rfl ?_
        refine lv_icmp_ne (tgt := 36) hx hb dX5_forgetPort_28 (by decide) (fun c6 => ?_) (fun c6 => ?_)
        · rw [if_neg c6] at hd
          refine x_iinc (lv' := [(2, .inl (x2 + 1)), (0, .inr x0), (1, .inl x1)]) C dX5_forgetPort_36 hL 2 rfl rfl (by decide) rfl (fun ls hL => ?_)
          refine lv_goto (tgt := 2) hx hb dX5_forgetPort_39 (by decide) ?_
          exact ih (lx_sub hL [1, 2, 0] rfl) hR hS hd
        · rw [if_pos c6] at hd
          refine x_aload_n C dX5_forgetPort_31 hL 0 rfl ?_
          refine x_iload_n C dX5_forgetPort_32 hL 2 rfl ?_
          obtain ⟨G8, h7, hd⟩ := bo_ex hd
          refine r_callV (a := x0) (ci := 5) (As := [.int x2]) C (ct_X5_joinNone h7) mf_X5_joinNone ml_X5_151 mv_X5_joinNone rfl ⟨Nat.le_of_ble_eq_true rfl, Nat.le_of_ble_eq_true rfl⟩ dX5_forgetPort_33 (lx_size hL) rfl hR hS g2 ⟨Nat.le_refl _, Nat.le_refl _⟩ (cat_le [] (Nat.le_of_ble_eq_true rfl)) (fun H locs hR hS => ?_)
          refine W_st (st2 := []) rfl ?_
          refine x_iinc (lv' := [(2, .inl (x2 + 1)), (0, .inr x0), (1, .inl x1)]) C dX5_forgetPort_36 hL 2 rfl rfl (by decide) rfl (fun ls hL => ?_)
          refine lv_goto (tgt := 2) hx hb dX5_forgetPort_39 (by decide) ?_
          exact ih (lx_sub hL [1, 2, 0] rfl) hR hS hd
set_option maxHeartbeats 4000000 in
set_option maxRecDepth 100000 in
theorem k_X5_forgetPort (C : Cx p s m args meth c RX5 cX5_forgetPort 3 none b0 D E) {GG : Hp} {x0 : Nat} {x1 : Int32} {G : Hp} {ls : Array Slot} {H : Heap} {locs : List Loc} : lx ls 3 [(0, .inr x0), (1, .inl x1)] → Rp b0 D E G H → SS b0 s H locs → d_X5_forgetPort x0 x1 G = some GG → W p l e (rmd 1 (0) (0)) s m args below meth c H locs (0) (0) (MQ below (CQ b0 D E none GG) args s (0) (0) (fun q => b0 ≤ q)) (F0 m 0 ls []) := by
  intro hL hR hS hd
  unfold d_X5_forgetPort at hd
  have hx := C.1
  have hb := C.2.1
  refine lv_iconst (v := 0) hx hb dX5_forgetPort_0 (by decide) ?_
  refine x_istore_n (lv' := [(2, .inl 0), (0, .inr x0), (1, .inl x1)]) C dX5_forgetPort_1 hL (by decide) rfl (fun ls hL => ?_)
  exact k_X5_forgetPort_2 C FU (lx_sub hL [1, 2, 0] rfl) hR hS hd
end
set_option maxHeartbeats 4000000 in
set_option maxRecDepth 100000 in
theorem ct_X5_forgetPort {l : Launch} {b0 : Nat} {D : va_G} {E : Nat → ClassId} {G : Hp} {a0 : Nat} {a1 : Int32} {GG : Hp} (hd : d_X5_forgetPort a0 a1 G = some GG) : CT l yX5_forgetPort cX5_forgetPort 3 none 1 0 0 b0 D E [rv a0, .int a1] G none GG := by
  refine CT_of (by decide +kernel) ?_
  intro p e s m below meth c C hnm hR
  refine r_entry [.inr a0, .inl a1] (n := 3) (Nat.le_of_ble_eq_true rfl) (lv := [(0, .inr a0), (1, .inl a1)]) rfl (fun ls hL => ?_)
  exact k_X5_forgetPort C (lx_sub hL [0, 1] rfl) hR ⟨fun _ _ => rfl, fun _ h => by cases h⟩ hd

/-! GroveWorks$Router.forgetPort(I)V -/
theorem dX4_forgetPort_0 : decode cX4_forgetPort 0 = .ok (.iload_n 1, 1) := by decide +kernel
theorem dX4_forgetPort_1 : decode cX4_forgetPort 1 = .ok (.iconst 4, 1) := by decide +kernel
theorem dX4_forgetPort_2 : decode cX4_forgetPort 2 = .ok (.invokestatic 27, 3) := by decide +kernel
theorem dX4_forgetPort_5 : decode cX4_forgetPort 5 = .ok (.ifCond .eq 12, 3) := by decide +kernel
theorem dX4_forgetPort_8 : decode cX4_forgetPort 8 = .ok (.aload_n 0, 1) := by decide +kernel
theorem dX4_forgetPort_9 : decode cX4_forgetPort 9 = .ok (.getfield 19, 3) := by decide +kernel
theorem dX4_forgetPort_12 : decode cX4_forgetPort 12 = .ok (.iload_n 1, 1) := by decide +kernel
theorem dX4_forgetPort_13 : decode cX4_forgetPort 13 = .ok (.aaload, 1) := by decide +kernel
theorem dX4_forgetPort_14 : decode cX4_forgetPort 14 = .ok (.ifnonnull 4, 3) := by decide +kernel
theorem dX4_forgetPort_17 : decode cX4_forgetPort 17 = .ok (.return_, 1) := by decide +kernel
theorem dX4_forgetPort_18 : decode cX4_forgetPort 18 = .ok (.aload_n 0, 1) := by decide +kernel
theorem dX4_forgetPort_19 : decode cX4_forgetPort 19 = .ok (.getfield 19, 3) := by decide +kernel
theorem dX4_forgetPort_22 : decode cX4_forgetPort 22 = .ok (.iload_n 1, 1) := by decide +kernel
theorem dX4_forgetPort_23 : decode cX4_forgetPort 23 = .ok (.aaload, 1) := by decide +kernel
theorem dX4_forgetPort_24 : decode cX4_forgetPort 24 = .ok (.invokevirtual 31, 3) := by decide +kernel
theorem dX4_forgetPort_27 : decode cX4_forgetPort 27 = .ok (.iconst 0, 1) := by decide +kernel
theorem dX4_forgetPort_28 : decode cX4_forgetPort 28 = .ok (.istore_n 2, 1) := by decide +kernel
theorem dX4_forgetPort_29 : decode cX4_forgetPort 29 = .ok (.iload_n 2, 1) := by decide +kernel
theorem dX4_forgetPort_30 : decode cX4_forgetPort 30 = .ok (.bipush 8, 2) := by decide +kernel
theorem dX4_forgetPort_32 : decode cX4_forgetPort 32 = .ok (.if_icmp .ge 19, 3) := by decide +kernel
theorem dX4_forgetPort_35 : decode cX4_forgetPort 35 = .ok (.aload_n 0, 1) := by decide +kernel
theorem dX4_forgetPort_36 : decode cX4_forgetPort 36 = .ok (.getfield 23, 3) := by decide +kernel
theorem dX4_forgetPort_39 : decode cX4_forgetPort 39 = .ok (.iload_n 2, 1) := by decide +kernel
theorem dX4_forgetPort_40 : decode cX4_forgetPort 40 = .ok (.aaload, 1) := by decide +kernel
theorem dX4_forgetPort_41 : decode cX4_forgetPort 41 = .ok (.iload_n 1, 1) := by decide +kernel
theorem dX4_forgetPort_42 : decode cX4_forgetPort 42 = .ok (.invokevirtual 36, 3) := by decide +kernel
theorem dX4_forgetPort_45 : decode cX4_forgetPort 45 = .ok (.iinc 2 1, 3) := by decide +kernel
theorem dX4_forgetPort_48 : decode cX4_forgetPort 48 = .ok (.goto (-19), 3) := by decide +kernel
theorem dX4_forgetPort_51 : decode cX4_forgetPort 51 = .ok (.return_, 1) := by decide +kernel
def d_X4_forgetPort_29 : Nat → Nat → Int32 → Int32 → Hp → Option (Hp)
  | 0, _, _, _, _ => none
  | n_ + 1, x0, x1, x2, G =>
    if 8 ≤ x2 then
      some G
    else
      gd (hc G x0 = 5) <|
      gd (hc G (hr G x0 3) = 18 ∧ ix x2 (hl G (hr G x0 3))) <|
      gd (hc G (hr G (hr G x0 3) x2.toNatClampNeg) = 6) <|
      bo (d_X5_forgetPort (hr G (hr G x0 3) x2.toNatClampNeg) x1 G) fun G6 =>
      d_X4_forgetPort_29 n_ x0 x1 (x2 + 1) G6
def d_X4_forgetPort (x0 : Nat) (x1 : Int32) (G : Hp) : Option (Hp) :=
  bo (d_X8_isIn x1 4 G) fun v2 =>
  if v2 = 0 then
    some G
  else
    gd (hc G x0 = 5) <|
    gd (hc G (hr G x0 2) = 16 ∧ ix x1 (hl G (hr G x0 2))) <|
    if (hr G (hr G x0 2) x1.toNatClampNeg) = 0 then
      some G
    else
      gd (hc G (hr G x0 2) = 16 ∧ ix x1 (hl G (hr G x0 2))) <|
      gd (hc G (hr G (hr G x0 2) x1.toNatClampNeg) = 4) <|
      bo (d_X3_forget (hr G (hr G x0 2) x1.toNatClampNeg) G) fun G10 =>
      d_X4_forgetPort_29 FU x0 x1 0 G10
section
variable {p : Program} {l : Launch} {e : Env} {s : State} {m : MethodId} {args : Array Value} {below : List Frame} {meth : Method} {c : Code} {b0 : Nat} {D : va_G} {E : Nat → ClassId}
set_option maxHeartbeats 4000000 in
set_option maxRecDepth 100000 in
theorem k_X4_forgetPort_29 (C : Cx p s m args meth c RX4 cX4_forgetPort 3 none b0 D E) {GG : Hp} : ∀ (n_ : Nat) {x0 : Nat} {x1 : Int32} {x2 : Int32} {G : Hp} {ls : Array Slot} {H : Heap} {locs : List Loc}, lx ls 3 [(0, .inr x0), (1, .inl x1), (2, .inl x2)] → Rp b0 D E G H → SS b0 s H locs → d_X4_forgetPort_29 n_ x0 x1 x2 G = some GG → W p l e (rmd 2 (0) (0)) s m args below meth c H locs (0) (0) (MQ below (CQ b0 D E none GG) args s (0) (0) (fun q => b0 ≤ q)) (F0 m 29 ls []) := by
  intro n_
  induction n_ with
  | zero =>
    intro x0 x1 x2 G ls H locs hL hR hS hd
    cases (show (none : Option _) = some _ from hd)
  | succ n_ ih =>
    intro x0 x1 x2 G ls H locs hL hR hS hd
    rw [d_X4_forgetPort_29.eq_2] at hd
    have hx := C.1
    have hb := C.2.1
    refine x_iload_n C dX4_forgetPort_29 hL 2 rfl ?_
    refine lv_bipush (v := 8) hx hb dX4_forgetPort_30 (by decide) ?_
    refine lv_icmp_ge (tgt := 51) hx hb dX4_forgetPort_32 (by decide) (fun c1 => ?_) (fun c1 => ?_)
    · rw [if_pos c1] at hd
      cases hd
      exact r_vret C dX4_forgetPort_51 hR hS
    · rw [if_neg c1] at hd
      refine x_aload_n C dX4_forgetPort_35 hL 0 rfl ?_
      obtain ⟨g2, hd⟩ := gd_ex hd
      refine r_getr (ci := 4) (k := 3) C fl_X4_23 rfl dX4_forgetPort_36 hR g2 ?_
      refine x_iload_n C dX4_forgetPort_39 hL 2 rfl ?_
      obtain ⟨g3, hd⟩ := gd_ex hd
      refine r_aald (ci := 5) C (by decide) dX4_forgetPort_40 hR g3 ?_
      refine x_iload_n C dX4_forgetPort_41 hL 1 rfl ?_
      obtain ⟨g4, hd⟩ := gd_ex hd
      obtain ⟨G6, h5, hd⟩ := bo_ex hd
      refine r_callV (a := (hr G (hr G x0 3) x2.toNatClampNeg)) (ci := 5) (As := [.int x1]) C (ct_X5_forgetPort h5) mf_X5_forgetPort ml_X4_36 mv_X5_forgetPort rfl ⟨Nat.le_of_ble_eq_true rfl, Nat.le_of_ble_eq_true rfl⟩ dX4_forgetPort_42 (lx_size hL) rfl hR hS g4 ⟨Nat.le_refl _, Nat.le_refl _⟩ (cat_le [] (Nat.le_of_ble_eq_true rfl)) (fun H locs hR hS => ?_)
      refine W_st (st2 := []) rfl ?_
      refine x_iinc (lv' := [(2, .inl (x2 + 1)), (0, .inr x0), (1, .inl x1)]) C dX4_forgetPort_45 hL 2 rfl rfl (by decide) rfl (fun ls hL => ?_)
      refine lv_goto (tgt := 29) hx hb dX4_forgetPort_48 (by decide) ?_
      exact ih (lx_sub hL [1, 2, 0] rfl) hR hS hd
set_option maxHeartbeats 4000000 in
set_option maxRecDepth 100000 in
theorem k_X4_forgetPort (C : Cx p s m args meth c RX4 cX4_forgetPort 3 none b0 D E) {GG : Hp} {x0 : Nat} {x1 : Int32} {G : Hp} {ls : Array Slot} {H : Heap} {locs : List Loc} : lx ls 3 [(0, .inr x0), (1, .inl x1)] → Rp b0 D E G H → SS b0 s H locs → d_X4_forgetPort x0 x1 G = some GG → W p l e (rmd 2 (0) (0)) s m args below meth c H locs (0) (0) (MQ below (CQ b0 D E none GG) args s (0) (0) (fun q => b0 ≤ q)) (F0 m 0 ls []) := by
  intro hL hR hS hd
  unfold d_X4_forgetPort at hd
  have hx := C.1
  have hb := C.2.1
  refine x_iload_n C dX4_forgetPort_0 hL 1 rfl ?_
  refine lv_iconst (v := 4) hx hb dX4_forgetPort_1 (by decide) ?_
  obtain ⟨v2, h1, hd⟩ := bo_ex hd
  refine r_callSN (As := [.int x1, .int 4]) C (ct_X8_isIn h1) mf_X8_isIn (by decide +kernel) ms_X8_isIn rfl ⟨Nat.le_of_ble_eq_true rfl, Nat.le_of_ble_eq_true rfl⟩ dX4_forgetPort_2 (lx_size hL) rfl hR hS ⟨Nat.le_refl _, Nat.le_refl _⟩ (cat_le [] (Nat.le_of_ble_eq_true rfl)) (fun H locs hR hS => ?_)
  refine W_st (st2 := [.int v2]) rfl ?_
  refine lv_if_eq (tgt := 17) hx hb dX4_forgetPort_5 (by decide) (fun c3 => ?_) (fun c3 => ?_)
  · rw [if_pos c3] at hd
    cases hd
    exact r_vret C dX4_forgetPort_17 hR hS
  · rw [if_neg c3] at hd
    refine x_aload_n C dX4_forgetPort_8 hL 0 rfl ?_
    obtain ⟨g4, hd⟩ := gd_ex hd
    refine r_getr (ci := 4) (k := 2) C fl_X4_19 rfl dX4_forgetPort_9 hR g4 ?_
    refine x_iload_n C dX4_forgetPort_12 hL 1 rfl ?_
    obtain ⟨g5, hd⟩ := gd_ex hd
    refine r_aald (ci := 3) C (by decide) dX4_forgetPort_13 hR g5 ?_
    refine r_ifnonnull (tgt := 18) C dX4_forgetPort_14 (by decide) (fun c6 => ?_) (fun c6 => ?_)
    · rw [if_neg c6] at hd
      refine x_aload_n C dX4_forgetPort_18 hL 0 rfl ?_
      refine r_getr (ci := 4) (k := 2) C fl_X4_19 rfl dX4_forgetPort_19 hR g4 ?_
      refine x_iload_n C dX4_forgetPort_22 hL 1 rfl ?_
      obtain ⟨g7, hd⟩ := gd_ex hd
      refine r_aald (ci := 3) C (by decide) dX4_forgetPort_23 hR g7 ?_
      obtain ⟨g8, hd⟩ := gd_ex hd
      obtain ⟨G10, h9, hd⟩ := bo_ex hd
      refine r_callV (a := (hr G (hr G x0 2) x1.toNatClampNeg)) (ci := 3) (As := []) C (ct_X3_forget h9) mf_X3_forget ml_X4_31 mv_X3_forget rfl ⟨Nat.le_of_ble_eq_true rfl, Nat.le_of_ble_eq_true rfl⟩ dX4_forgetPort_24 (lx_size hL) rfl hR hS g8 ⟨Nat.le_refl _, Nat.le_refl _⟩ (cat_le [] (Nat.le_of_ble_eq_true rfl)) (fun H locs hR hS => ?_)
      refine W_st (st2 := []) rfl ?_
      refine lv_iconst (v := 0) hx hb dX4_forgetPort_27 (by decide) ?_
      refine x_istore_n (lv' := [(2, .inl 0), (0, .inr x0), (1, .inl x1)]) C dX4_forgetPort_28 hL (by decide) rfl (fun ls hL => ?_)
      exact k_X4_forgetPort_29 C FU (lx_sub hL [1, 2, 0] rfl) hR hS hd
    · rw [if_pos c6] at hd
      cases hd
      exact r_vret C dX4_forgetPort_17 hR hS
end
set_option maxHeartbeats 4000000 in
set_option maxRecDepth 100000 in
theorem ct_X4_forgetPort {l : Launch} {b0 : Nat} {D : va_G} {E : Nat → ClassId} {G : Hp} {a0 : Nat} {a1 : Int32} {GG : Hp} (hd : d_X4_forgetPort a0 a1 G = some GG) : CT l yX4_forgetPort cX4_forgetPort 3 none 2 0 0 b0 D E [rv a0, .int a1] G none GG := by
  refine CT_of (by decide +kernel) ?_
  intro p e s m below meth c C hnm hR
  refine r_entry [.inr a0, .inl a1] (n := 3) (Nat.le_of_ble_eq_true rfl) (lv := [(0, .inr a0), (1, .inl a1)]) rfl (fun ls hL => ?_)
  exact k_X4_forgetPort C (lx_sub hL [0, 1] rfl) hR ⟨fun _ _ => rfl, fun _ h => by cases h⟩ hd

/-! GroveWorks$Router.dropNeighbours()V -/
theorem dX4_dropNeighbours_0 : decode cX4_dropNeighbours 0 = .ok (.iconst 0, 1) := by decide +kernel
theorem dX4_dropNeighbours_1 : decode cX4_dropNeighbours 1 = .ok (.istore_n 1, 1) := by decide +kernel
theorem dX4_dropNeighbours_2 : decode cX4_dropNeighbours 2 = .ok (.iload_n 1, 1) := by decide +kernel
theorem dX4_dropNeighbours_3 : decode cX4_dropNeighbours 3 = .ok (.iconst 4, 1) := by decide +kernel
theorem dX4_dropNeighbours_4 : decode cX4_dropNeighbours 4 = .ok (.if_icmp .ge 27, 3) := by decide +kernel
theorem dX4_dropNeighbours_7 : decode cX4_dropNeighbours 7 = .ok (.aload_n 0, 1) := by decide +kernel
theorem dX4_dropNeighbours_8 : decode cX4_dropNeighbours 8 = .ok (.getfield 19, 3) := by decide +kernel
theorem dX4_dropNeighbours_11 : decode cX4_dropNeighbours 11 = .ok (.iload_n 1, 1) := by decide +kernel
theorem dX4_dropNeighbours_12 : decode cX4_dropNeighbours 12 = .ok (.aaload, 1) := by decide +kernel
theorem dX4_dropNeighbours_13 : decode cX4_dropNeighbours 13 = .ok (.ifnull 12, 3) := by decide +kernel
theorem dX4_dropNeighbours_16 : decode cX4_dropNeighbours 16 = .ok (.aload_n 0, 1) := by decide +kernel
theorem dX4_dropNeighbours_17 : decode cX4_dropNeighbours 17 = .ok (.getfield 19, 3) := by decide +kernel
theorem dX4_dropNeighbours_20 : decode cX4_dropNeighbours 20 = .ok (.iload_n 1, 1) := by decide +kernel
theorem dX4_dropNeighbours_21 : decode cX4_dropNeighbours 21 = .ok (.aaload, 1) := by decide +kernel
theorem dX4_dropNeighbours_22 : decode cX4_dropNeighbours 22 = .ok (.invokevirtual 42, 3) := by decide +kernel
theorem dX4_dropNeighbours_25 : decode cX4_dropNeighbours 25 = .ok (.iinc 1 1, 3) := by decide +kernel
theorem dX4_dropNeighbours_28 : decode cX4_dropNeighbours 28 = .ok (.goto (-26), 3) := by decide +kernel
theorem dX4_dropNeighbours_31 : decode cX4_dropNeighbours 31 = .ok (.return_, 1) := by decide +kernel
def d_X4_dropNeighbours_2 : Nat → Nat → Int32 → Hp → Option (Hp)
  | 0, _, _, _ => none
  | n_ + 1, x0, x1, G =>
    if 4 ≤ x1 then
      some G
    else
      gd (hc G x0 = 5) <|
      gd (hc G (hr G x0 2) = 16 ∧ ix x1 (hl G (hr G x0 2))) <|
      if (hr G (hr G x0 2) x1.toNatClampNeg) = 0 then
        d_X4_dropNeighbours_2 n_ x0 (x1 + 1) G
      else
        gd (hc G (hr G x0 2) = 16 ∧ ix x1 (hl G (hr G x0 2))) <|
        gd (hc G (hr G (hr G x0 2) x1.toNatClampNeg) = 4) <|
        bo (d_X3_dropNeighbours (hr G (hr G x0 2) x1.toNatClampNeg) G) fun G8 =>
        d_X4_dropNeighbours_2 n_ x0 (x1 + 1) G8
def d_X4_dropNeighbours (x0 : Nat) (G : Hp) : Option (Hp) :=
  d_X4_dropNeighbours_2 FU x0 0 G
section
variable {p : Program} {l : Launch} {e : Env} {s : State} {m : MethodId} {args : Array Value} {below : List Frame} {meth : Method} {c : Code} {b0 : Nat} {D : va_G} {E : Nat → ClassId}
set_option maxHeartbeats 4000000 in
set_option maxRecDepth 100000 in
theorem k_X4_dropNeighbours_2 (C : Cx p s m args meth c RX4 cX4_dropNeighbours 2 none b0 D E) {GG : Hp} : ∀ (n_ : Nat) {x0 : Nat} {x1 : Int32} {G : Hp} {ls : Array Slot} {H : Heap} {locs : List Loc}, lx ls 2 [(0, .inr x0), (1, .inl x1)] → Rp b0 D E G H → SS b0 s H locs → d_X4_dropNeighbours_2 n_ x0 x1 G = some GG → W p l e (rmd 1 (0) (0)) s m args below meth c H locs (0) (0) (MQ below (CQ b0 D E none GG) args s (0) (0) (fun q => b0 ≤ q)) (F0 m 2 ls []) := by
  intro n_
  induction n_ with
  | zero =>
    intro x0 x1 G ls H locs hL hR hS hd
    cases (show (none : Option _) = some _ from hd)
  | succ n_ ih =>
    intro x0 x1 G ls H locs hL hR hS hd
    rw [d_X4_dropNeighbours_2.eq_2] at hd
    have hx := C.1
    have hb := C.2.1
    refine x_iload_n C dX4_dropNeighbours_2 hL 1 rfl ?_
    refine lv_iconst (v := 4) hx hb dX4_dropNeighbours_3 (by decide) ?_
    refine lv_icmp_ge (tgt := 31) hx hb dX4_dropNeighbours_4 (by decide) (fun c1 => ?_) (fun c1 => ?_)
    · rw [if_pos c1] at hd
      cases hd
      exact r_vret C dX4_dropNeighbours_31 hR hS
    · rw [if_neg c1] at hd
      refine x_aload_n C dX4_dropNeighbours_7 hL 0 rfl ?_
      obtain ⟨g2, hd⟩ := gd_ex hd
      refine r_getr (ci := 4) (k := 2) C fl_X4_19 rfl dX4_dropNeighbours_8 hR g2 ?_
      refine x_iload_n C dX4_dropNeighbours_11 hL 1 rfl ?_
      obtain ⟨g3, hd⟩ := gd_ex hd
      refine r_aald (ci := 3) C (by decide) dX4_dropNeighbours_12 hR g3 ?_
      refine r_ifnull (tgt := 25) C dX4_dropNeighbours_13 (by decide) (fun c4 => ?_) (fun c4 => ?_)
      · rw [if_pos c4] at hd
        refine x_iinc (lv' := [(1, .inl (x1 + 1)), (0, .inr x0)]) C dX4_dropNeighbours_25 hL 1 rfl rfl (by decide) rfl (fun ls hL => ?_)
        refine lv_goto (tgt := 2) hx hb dX4_dropNeighbours_28 (by decide) ?_
        exact ih (lx_sub hL [1, 0] rfl) hR hS hd
      · rw [if_neg c4] at hd
        refine x_aload_n C dX4_dropNeighbours_16 hL 0 rfl ?_
        refine r_getr (ci := 4) (k := 2) C fl_X4_19 rfl dX4_dropNeighbours_17 hR g2 ?_
        refine x_iload_n C dX4_dropNeighbours_20 hL 1 rfl ?_
        obtain ⟨g5, hd⟩ := gd_ex hd
        refine r_aald (ci := 3) C (by decide) dX4_dropNeighbours_21 hR g5 ?_
        obtain ⟨g6, hd⟩ := gd_ex hd
        obtain ⟨G8, h7, hd⟩ := bo_ex hd
        refine r_callV (a := (hr G (hr G x0 2) x1.toNatClampNeg)) (ci := 3) (As := []) C (ct_X3_dropNeighbours h7) mf_X3_dropNeighbours ml_X4_42 mv_X3_dropNeighbours rfl ⟨Nat.le_of_ble_eq_true rfl, Nat.le_of_ble_eq_true rfl⟩ dX4_dropNeighbours_22 (lx_size hL) rfl hR hS g6 ⟨Nat.le_refl _, Nat.le_refl _⟩ (cat_le [] (Nat.le_of_ble_eq_true rfl)) (fun H locs hR hS => ?_)
        refine W_st (st2 := []) rfl ?_
        refine x_iinc (lv' := [(1, .inl (x1 + 1)), (0, .inr x0)]) C dX4_dropNeighbours_25 hL 1 rfl rfl (by decide) rfl (fun ls hL => ?_)
        refine lv_goto (tgt := 2) hx hb dX4_dropNeighbours_28 (by decide) ?_
        exact ih (lx_sub hL [1, 0] rfl) hR hS hd
set_option maxHeartbeats 4000000 in
set_option maxRecDepth 100000 in
theorem k_X4_dropNeighbours (C : Cx p s m args meth c RX4 cX4_dropNeighbours 2 none b0 D E) {GG : Hp} {x0 : Nat} {G : Hp} {ls : Array Slot} {H : Heap} {locs : List Loc} : lx ls 2 [(0, .inr x0)] → Rp b0 D E G H → SS b0 s H locs → d_X4_dropNeighbours x0 G = some GG → W p l e (rmd 1 (0) (0)) s m args below meth c H locs (0) (0) (MQ below (CQ b0 D E none GG) args s (0) (0) (fun q => b0 ≤ q)) (F0 m 0 ls []) := by
  intro hL hR hS hd
  unfold d_X4_dropNeighbours at hd
  have hx := C.1
  have hb := C.2.1
  refine lv_iconst (v := 0) hx hb dX4_dropNeighbours_0 (by decide) ?_
  refine x_istore_n (lv' := [(1, .inl 0), (0, .inr x0)]) C dX4_dropNeighbours_1 hL (by decide) rfl (fun ls hL => ?_)
  exact k_X4_dropNeighbours_2 C FU (lx_sub hL [1, 0] rfl) hR hS hd
end
set_option maxHeartbeats 4000000 in
set_option maxRecDepth 100000 in
theorem ct_X4_dropNeighbours {l : Launch} {b0 : Nat} {D : va_G} {E : Nat → ClassId} {G : Hp} {a0 : Nat} {GG : Hp} (hd : d_X4_dropNeighbours a0 G = some GG) : CT l yX4_dropNeighbours cX4_dropNeighbours 2 none 1 0 0 b0 D E [rv a0] G none GG := by
  refine CT_of (by decide +kernel) ?_
  intro p e s m below meth c C hnm hR
  refine r_entry [.inr a0] (n := 2) (Nat.le_of_ble_eq_true rfl) (lv := [(0, .inr a0)]) rfl (fun ls hL => ?_)
  exact k_X4_dropNeighbours C (lx_sub hL [0] rfl) hR ⟨fun _ _ => rfl, fun _ h => by cases h⟩ hd

/-! GroveWorks.isSource(I)Z pure -/
theorem dX8_isSource_0 : decode cX8_isSource 0 = .ok (.iload_n 0, 1) := by decide +kernel
theorem dX8_isSource_1 : decode cX8_isSource 1 = .ok (.iconst (-1), 1) := by decide +kernel
theorem dX8_isSource_2 : decode cX8_isSource 2 = .ok (.if_icmp .eq 12, 3) := by decide +kernel
theorem dX8_isSource_5 : decode cX8_isSource 5 = .ok (.iload_n 0, 1) := by decide +kernel
theorem dX8_isSource_6 : decode cX8_isSource 6 = .ok (.bipush 16, 2) := by decide +kernel
theorem dX8_isSource_8 : decode cX8_isSource 8 = .ok (.invokestatic 61, 3) := by decide +kernel
theorem dX8_isSource_11 : decode cX8_isSource 11 = .ok (.ifCond .eq 7, 3) := by decide +kernel
theorem dX8_isSource_14 : decode cX8_isSource 14 = .ok (.iconst 1, 1) := by decide +kernel
theorem dX8_isSource_15 : decode cX8_isSource 15 = .ok (.goto 4, 3) := by decide +kernel
theorem dX8_isSource_18 : decode cX8_isSource 18 = .ok (.iconst 0, 1) := by decide +kernel
theorem dX8_isSource_19 : decode cX8_isSource 19 = .ok (.ireturn, 1) := by decide +kernel
def d_X8_isSource (x0 : Int32) (G : Hp) : Option (Int32) :=
  if x0 = (-1) then
    some 1
  else
    bo (d_X8_isIn x0 16 G) fun v3 =>
    if v3 = 0 then
      some 0
    else
      some 1
section
variable {p : Program} {l : Launch} {e : Env} {s : State} {m : MethodId} {args : Array Value} {below : List Frame} {meth : Method} {c : Code} {b0 : Nat} {D : va_G} {E : Nat → ClassId}
set_option maxHeartbeats 4000000 in
set_option maxRecDepth 100000 in
theorem k_X8_isSource (C : Cx p s m args meth c RX8 cX8_isSource 1 (some .boolean) b0 D E) {rr : Int32} {G : Hp} {x0 : Int32} {ls : Array Slot} {H : Heap} {locs : List Loc} : lx ls 1 [(0, .inl x0)] → Rp b0 D E G H → SS b0 s H locs → d_X8_isSource x0 G = some rr → W p l e (rmd 1 (0) (0)) s m args below meth c H locs (0) (0) (MQ below (CQ b0 D E (some (.int rr)) G) args s (0) (0) (fun q => b0 ≤ q)) (F0 m 0 ls []) := by
  intro hL hR hS hd
  unfold d_X8_isSource at hd
  have hx := C.1
  have hb := C.2.1
  refine x_iload_n C dX8_isSource_0 hL 0 rfl ?_
  refine lv_iconst (v := (-1)) hx hb dX8_isSource_1 (by decide) ?_
  refine lv_icmp_eq (tgt := 14) hx hb dX8_isSource_2 (by decide) (fun c1 => ?_) (fun c1 => ?_)
  · rw [if_pos c1] at hd
    refine lv_iconst (v := 1) hx hb dX8_isSource_14 (by decide) ?_
    refine lv_goto (tgt := 19) hx hb dX8_isSource_15 (by decide) ?_
    cases hd
    exact r_zret C (by decide) dX8_isSource_19 hR hS
  · rw [if_neg c1] at hd
    refine x_iload_n C dX8_isSource_5 hL 0 rfl ?_
    refine lv_bipush (v := 16) hx hb dX8_isSource_6 (by decide) ?_
    obtain ⟨v3, h2, hd⟩ := bo_ex hd
    refine r_callS (As := [.int x0, .int 16]) C (ct_X8_isIn h2) mf_X8_isIn ml_X8_61 ms_X8_isIn rfl ⟨Nat.le_of_ble_eq_true rfl, Nat.le_of_ble_eq_true rfl⟩ dX8_isSource_8 (lx_size hL) rfl hR hS ⟨Nat.le_refl _, Nat.le_refl _⟩ (cat_le [] (Nat.le_of_ble_eq_true rfl)) (fun H locs hR hS => ?_)
    refine W_st (st2 := [.int v3]) rfl ?_
    refine lv_if_eq (tgt := 18) hx hb dX8_isSource_11 (by decide) (fun c4 => ?_) (fun c4 => ?_)
    · rw [if_pos c4] at hd
      refine lv_iconst (v := 0) hx hb dX8_isSource_18 (by decide) ?_
      cases hd
      exact r_zret C (by decide) dX8_isSource_19 hR hS
    · rw [if_neg c4] at hd
      refine lv_iconst (v := 1) hx hb dX8_isSource_14 (by decide) ?_
      refine lv_goto (tgt := 19) hx hb dX8_isSource_15 (by decide) ?_
      cases hd
      exact r_zret C (by decide) dX8_isSource_19 hR hS
end
set_option maxHeartbeats 4000000 in
set_option maxRecDepth 100000 in
theorem ct_X8_isSource {l : Launch} {b0 : Nat} {D : va_G} {E : Nat → ClassId} {G : Hp} {a0 : Int32} {rr : Int32} (hd : d_X8_isSource a0 G = some rr) : CT l yX8_isSource cX8_isSource 1 (some .boolean) 1 0 0 b0 D E [.int a0] G (some (.int rr)) G := by
  refine CT_of (by decide +kernel) ?_
  intro p e s m below meth c C hnm hR
  refine r_entry [.inl a0] (n := 1) (Nat.le_of_ble_eq_true rfl) (lv := [(0, .inl a0)]) rfl (fun ls hL => ?_)
  exact k_X8_isSource C (lx_sub hL [0] rfl) hR ⟨fun _ _ => rfl, fun _ h => by cases h⟩ hd

/-! GroveWorks$Tree.takeReport(LGroveWorks$Port;)V -/
theorem dX5_takeReport_0 : decode cX5_takeReport 0 = .ok (.aload_n 0, 1) := by decide +kernel
theorem dX5_takeReport_1 : decode cX5_takeReport 1 = .ok (.dup, 1) := by decide +kernel
theorem dX5_takeReport_2 : decode cX5_takeReport 2 = .ok (.getfield 9, 3) := by decide +kernel
theorem dX5_takeReport_5 : decode cX5_takeReport 5 = .ok (.ldc 205, 2) := by decide +kernel
theorem dX5_takeReport_7 : decode cX5_takeReport 7 = .ok (.ior, 1) := by decide +kernel
theorem dX5_takeReport_8 : decode cX5_takeReport 8 = .ok (.putfield 9, 3) := by decide +kernel
theorem dX5_takeReport_11 : decode cX5_takeReport 11 = .ok (.aload_n 1, 1) := by decide +kernel
theorem dX5_takeReport_12 : decode cX5_takeReport 12 = .ok (.getfield 206, 3) := by decide +kernel
theorem dX5_takeReport_15 : decode cX5_takeReport 15 = .ok (.aload_n 0, 1) := by decide +kernel
theorem dX5_takeReport_16 : decode cX5_takeReport 16 = .ok (.getfield 57, 3) := by decide +kernel
theorem dX5_takeReport_19 : decode cX5_takeReport 19 = .ok (.aload_n 0, 1) := by decide +kernel
theorem dX5_takeReport_20 : decode cX5_takeReport 20 = .ok (.getfield 50, 3) := by decide +kernel
theorem dX5_takeReport_23 : decode cX5_takeReport 23 = .ok (.getfield 118, 3) := by decide +kernel
theorem dX5_takeReport_26 : decode cX5_takeReport 26 = .ok (.bipush 60, 2) := by decide +kernel
theorem dX5_takeReport_28 : decode cX5_takeReport 28 = .ok (.iadd, 1) := by decide +kernel
theorem dX5_takeReport_29 : decode cX5_takeReport 29 = .ok (.iastore, 1) := by decide +kernel
theorem dX5_takeReport_30 : decode cX5_takeReport 30 = .ok (.return_, 1) := by decide +kernel
def d_X5_takeReport (x0 : Nat) (x1 : Nat) (G : Hp) : Option (Hp) :=
  gd (hc G x0 = 6) <|
  bd (sI G x0 4 ((hi G x0 4) ||| 65536)) fun G2 =>
  gd (hc G2 x1 = 4) <|
  gd (hc G2 x0 = 6) <|
  gd (hc G2 (hr G2 x0 0) = 3) <|
  gd (hc G2 (hr G2 x1 8) = 11 ∧ ix (hi G2 x0 2) (hl G2 (hr G2 x1 8))) <|
  bd (sI G2 (hr G2 x1 8) (hi G2 x0 2).toNatClampNeg ((hi G2 (hr G2 x0 0) 4) + 60)) fun G7 =>
  some G7
section
variable {p : Program} {l : Launch} {e : Env} {s : State} {m : MethodId} {args : Array Value} {below : List Frame} {meth : Method} {c : Code} {b0 : Nat} {D : va_G} {E : Nat → ClassId}
set_option maxHeartbeats 4000000 in
set_option maxRecDepth 100000 in
theorem k_X5_takeReport (C : Cx p s m args meth c RX5 cX5_takeReport 2 none b0 D E) {GG : Hp} {x0 : Nat} {x1 : Nat} {G : Hp} {ls : Array Slot} {H : Heap} {locs : List Loc} : lx ls 2 [(0, .inr x0), (1, .inr x1)] → Rp b0 D E G H → SS b0 s H locs → d_X5_takeReport x0 x1 G = some GG → W p l e (rmd 0 (0) (0)) s m args below meth c H locs (0) (0) (MQ below (CQ b0 D E none GG) args s (0) (0) (fun q => b0 ≤ q)) (F0 m 0 ls []) := by
  intro hL hR hS hd
  unfold d_X5_takeReport at hd
  have hx := C.1
  have hb := C.2.1
  refine x_aload_n C dX5_takeReport_0 hL 0 rfl ?_
  refine lv_dup hx hb dX5_takeReport_1 (rv_cat _) ?_
  obtain ⟨g1, hd⟩ := gd_ex hd
  refine r_geti (ci := 5) (k := 4) C fl_X5_9 rfl dX5_takeReport_2 hR g1 ?_
  refine lv_ldc (v := 65536) hx hb C.2.2.2.2.1 (C.2.2.2.2.2.1 _ co_X5_205) dX5_takeReport_5 ?_
  refine lv_ior hx hb dX5_takeReport_7 ?_
  obtain ⟨G2, eG2, hd⟩ := bd_ex hd
  refine r_puti (ci := 5) (k := 4) C fl_X5_9 rfl (Or.inl rfl) dX5_takeReport_8 hR hS g1 (fun H locs hR hS => ?_)
  replace hR : Rp b0 D E G2 H := by rw [eG2]; exact hR
  refine x_aload_n C dX5_takeReport_11 hL 1 rfl ?_
  obtain ⟨g3, hd⟩ := gd_ex hd
  refine r_getr (ci := 3) (k := 8) C fl_X5_206 rfl dX5_takeReport_12 hR g3 ?_
  refine x_aload_n C dX5_takeReport_15 hL 0 rfl ?_
  obtain ⟨g4, hd⟩ := gd_ex hd
  refine r_geti (ci := 5) (k := 2) C fl_X5_57 rfl dX5_takeReport_16 hR g4 ?_
  refine x_aload_n C dX5_takeReport_19 hL 0 rfl ?_
  refine r_getr (ci := 5) (k := 0) C fl_X5_50 rfl dX5_takeReport_20 hR g4 ?_
  obtain ⟨g5, hd⟩ := gd_ex hd
  refine r_geti (ci := 2) (k := 4) C fl_X5_118 rfl dX5_takeReport_23 hR g5 ?_
  refine lv_bipush (v := 60) hx hb dX5_takeReport_26 (by decide) ?_
  refine lv_iadd hx hb dX5_takeReport_28 ?_
  obtain ⟨g6, hd⟩ := gd_ex hd
  obtain ⟨G7, eG7, hd⟩ := bd_ex hd
  refine r_iast C dX5_takeReport_29 hR hS g6 (fun H locs hR hS => ?_)
  replace hR : Rp b0 D E G7 H := by rw [eG7]; exact hR
  cases hd
  exact r_vret C dX5_takeReport_30 hR hS
end
set_option maxHeartbeats 4000000 in
set_option maxRecDepth 100000 in
theorem ct_X5_takeReport {l : Launch} {b0 : Nat} {D : va_G} {E : Nat → ClassId} {G : Hp} {a0 : Nat} {a1 : Nat} {GG : Hp} (hd : d_X5_takeReport a0 a1 G = some GG) : CT l yX5_takeReport cX5_takeReport 2 none 0 0 0 b0 D E [rv a0, rv a1] G none GG := by
  refine CT_of (by decide +kernel) ?_
  intro p e s m below meth c C hnm hR
  refine r_entry [.inr a0, .inr a1] (n := 2) (Nat.le_of_ble_eq_true rfl) (lv := [(0, .inr a0), (1, .inr a1)]) rfl (fun ls hL => ?_)
  exact k_X5_takeReport C (lx_sub hL [0, 1] rfl) hR ⟨fun _ _ => rfl, fun _ h => by cases h⟩ hd

/-! GroveWorks$Tree.takeLeave(LGroveWorks$Port;)V -/
theorem dX5_takeLeave_0 : decode cX5_takeLeave 0 = .ok (.aload_n 1, 1) := by decide +kernel
theorem dX5_takeLeave_1 : decode cX5_takeLeave 1 = .ok (.aload_n 0, 1) := by decide +kernel
theorem dX5_takeLeave_2 : decode cX5_takeLeave 2 = .ok (.getfield 57, 3) := by decide +kernel
theorem dX5_takeLeave_5 : decode cX5_takeLeave 5 = .ok (.invokevirtual 209, 3) := by decide +kernel
theorem dX5_takeLeave_8 : decode cX5_takeLeave 8 = .ok (.ifCond .eq 10, 3) := by decide +kernel
theorem dX5_takeLeave_11 : decode cX5_takeLeave 11 = .ok (.aload_n 1, 1) := by decide +kernel
theorem dX5_takeLeave_12 : decode cX5_takeLeave 12 = .ok (.invokevirtual 212, 3) := by decide +kernel
theorem dX5_takeLeave_15 : decode cX5_takeLeave 15 = .ok (.ifCond .ne 4, 3) := by decide +kernel
theorem dX5_takeLeave_18 : decode cX5_takeLeave 18 = .ok (.return_, 1) := by decide +kernel
theorem dX5_takeLeave_19 : decode cX5_takeLeave 19 = .ok (.aload_n 0, 1) := by decide +kernel
theorem dX5_takeLeave_20 : decode cX5_takeLeave 20 = .ok (.getfield 50, 3) := by decide +kernel
theorem dX5_takeLeave_23 : decode cX5_takeLeave 23 = .ok (.getfield 118, 3) := by decide +kernel
theorem dX5_takeLeave_26 : decode cX5_takeLeave 26 = .ok (.iconst 4, 1) := by decide +kernel
theorem dX5_takeLeave_27 : decode cX5_takeLeave 27 = .ok (.iadd, 1) := by decide +kernel
theorem dX5_takeLeave_28 : decode cX5_takeLeave 28 = .ok (.istore_n 2, 1) := by decide +kernel
theorem dX5_takeLeave_29 : decode cX5_takeLeave 29 = .ok (.aload_n 1, 1) := by decide +kernel
theorem dX5_takeLeave_30 : decode cX5_takeLeave 30 = .ok (.getfield 206, 3) := by decide +kernel
theorem dX5_takeLeave_33 : decode cX5_takeLeave 33 = .ok (.aload_n 0, 1) := by decide +kernel
theorem dX5_takeLeave_34 : decode cX5_takeLeave 34 = .ok (.getfield 57, 3) := by decide +kernel
theorem dX5_takeLeave_37 : decode cX5_takeLeave 37 = .ok (.aload_n 1, 1) := by decide +kernel
theorem dX5_takeLeave_38 : decode cX5_takeLeave 38 = .ok (.getfield 206, 3) := by decide +kernel
theorem dX5_takeLeave_41 : decode cX5_takeLeave 41 = .ok (.aload_n 0, 1) := by decide +kernel
theorem dX5_takeLeave_42 : decode cX5_takeLeave 42 = .ok (.getfield 57, 3) := by decide +kernel
theorem dX5_takeLeave_45 : decode cX5_takeLeave 45 = .ok (.iaload, 1) := by decide +kernel
theorem dX5_takeLeave_46 : decode cX5_takeLeave 46 = .ok (.iload_n 2, 1) := by decide +kernel
theorem dX5_takeLeave_47 : decode cX5_takeLeave 47 = .ok (.invokestatic 215, 3) := by decide +kernel
theorem dX5_takeLeave_50 : decode cX5_takeLeave 50 = .ok (.iastore, 1) := by decide +kernel
theorem dX5_takeLeave_51 : decode cX5_takeLeave 51 = .ok (.aload_n 1, 1) := by decide +kernel
theorem dX5_takeLeave_52 : decode cX5_takeLeave 52 = .ok (.getfield 181, 3) := by decide +kernel
theorem dX5_takeLeave_55 : decode cX5_takeLeave 55 = .ok (.iconst 2, 1) := by decide +kernel
theorem dX5_takeLeave_56 : decode cX5_takeLeave 56 = .ok (.aload_n 0, 1) := by decide +kernel
theorem dX5_takeLeave_57 : decode cX5_takeLeave 57 = .ok (.getfield 54, 3) := by decide +kernel
theorem dX5_takeLeave_60 : decode cX5_takeLeave 60 = .ok (.invokevirtual 185, 3) := by decide +kernel
theorem dX5_takeLeave_63 : decode cX5_takeLeave 63 = .ok (.astore_n 3, 1) := by decide +kernel
theorem dX5_takeLeave_64 : decode cX5_takeLeave 64 = .ok (.aload_n 3, 1) := by decide +kernel
theorem dX5_takeLeave_65 : decode cX5_takeLeave 65 = .ok (.ifnull 11, 3) := by decide +kernel
theorem dX5_takeLeave_68 : decode cX5_takeLeave 68 = .ok (.aload_n 3, 1) := by decide +kernel
theorem dX5_takeLeave_69 : decode cX5_takeLeave 69 = .ok (.aload_n 0, 1) := by decide +kernel
theorem dX5_takeLeave_70 : decode cX5_takeLeave 70 = .ok (.getfield 57, 3) := by decide +kernel
theorem dX5_takeLeave_73 : decode cX5_takeLeave 73 = .ok (.putfield 220, 3) := by decide +kernel
theorem dX5_takeLeave_76 : decode cX5_takeLeave 76 = .ok (.return_, 1) := by decide +kernel
def d_X5_takeLeave (x0 : Nat) (x1 : Nat) (G : Hp) : Option (Hp) :=
  gd (hc G x0 = 6) <|
  gd (hc G x1 = 4) <|
  bo (d_X3_hasMembers x1 (hi G x0 2) G) fun v4 =>
  if v4 = 0 then
    some G
  else
    bo (d_X3_isAsking x1 G) fun v7 =>
    if v7 = 0 then
      some G
    else
      gd (hc G (hr G x0 0) = 3) <|
      bd (((hi G (hr G x0 0) 4) + 4)) fun v10 =>
      gd (hc G (hr G x1 8) = 11 ∧ ix (hi G x0 2) (hl G (hr G x1 8))) <|
      gd (hc G (hr G x1 8) = 11 ∧ ix (hi G x0 2) (hl G (hr G x1 8))) <|
      bd (sI G (hr G x1 8) (hi G x0 2).toNatClampNeg (imin (hi G (hr G x1 8) (hi G x0 2).toNatClampNeg) v10)) fun G13 =>
      gd (hc G13 x1 = 4) <|
      gd (hc G13 x0 = 6) <|
      gd (hc G13 (hr G13 x1 2) = 8) <|
      b2 (d_X7_open (hr G13 x1 2) 2 (hi G13 x0 1) G13) fun v18 G19 =>
      if v18 = 0 then
        some G19
      else
        gd (hc G19 x0 = 6) <|
        gd (hc G19 v18 = 1) <|
        bd (sI G19 v18 3 (hi G19 x0 2)) fun G23 =>
        some G23
section
variable {p : Program} {l : Launch} {e : Env} {s : State} {m : MethodId} {args : Array Value} {below : List Frame} {meth : Method} {c : Code} {b0 : Nat} {D : va_G} {E : Nat → ClassId}
set_option maxHeartbeats 4000000 in
set_option maxRecDepth 100000 in
theorem k_X5_takeLeave (C : Cx p s m args meth c RX5 cX5_takeLeave 4 none b0 D E) {GG : Hp} {x0 : Nat} {x1 : Nat} {G : Hp} {ls : Array Slot} {H : Heap} {locs : List Loc} : lx ls 4 [(0, .inr x0), (1, .inr x1)] → Rp b0 D E G H → SS b0 s H locs → d_X5_takeLeave x0 x1 G = some GG → W p l e (rmd 2 (0) (0)) s m args below meth c H locs (0) (0) (MQ below (CQ b0 D E none GG) args s (0) (0) (fun q => b0 ≤ q)) (F0 m 0 ls []) := by
  intro hL hR hS hd
  unfold d_X5_takeLeave at hd
  have hx := C.1
  have hb := C.2.1
  refine x_aload_n C dX5_takeLeave_0 hL 1 rfl ?_
  refine x_aload_n C dX5_takeLeave_1 hL 0 rfl ?_
  obtain ⟨g1, hd⟩ := gd_ex hd
  refine r_geti (ci := 5) (k := 2) C fl_X5_57 rfl dX5_takeLeave_2 hR g1 ?_
  obtain ⟨g2, hd⟩ := gd_ex hd
  obtain ⟨v4, h3, hd⟩ := bo_ex hd
  refine r_callV (a := x1) (ci := 3) (As := [.int (hi G x0 2)]) C (ct_X3_hasMembers h3) mf_X3_hasMembers ml_X5_209 mv_X3_hasMembers rfl ⟨Nat.le_of_ble_eq_true rfl, Nat.le_of_ble_eq_true rfl⟩ dX5_takeLeave_5 (lx_size hL) rfl hR hS g2 ⟨Nat.le_refl _, Nat.le_refl _⟩ (cat_le [] (Nat.le_of_ble_eq_true rfl)) (fun H locs hR hS => ?_)
  refine W_st (st2 := [.int v4]) rfl ?_
  refine lv_if_eq (tgt := 18) hx hb dX5_takeLeave_8 (by decide) (fun c5 => ?_) (fun c5 => ?_)
  · rw [if_pos c5] at hd
    cases hd
    exact r_vret C dX5_takeLeave_18 hR hS
  · rw [if_neg c5] at hd
    refine x_aload_n C dX5_takeLeave_11 hL 1 rfl ?_
    obtain ⟨v7, h6, hd⟩ := bo_ex hd
    refine r_callV (a := x1) (ci := 3) (As := []) C (ct_X3_isAsking h6) mf_X3_isAsking ml_X5_212 mv_X3_isAsking rfl ⟨Nat.le_of_ble_eq_true rfl, Nat.le_of_ble_eq_true rfl⟩ dX5_takeLeave_12 (lx_size hL) rfl hR hS g2 ⟨Nat.le_refl _, Nat.le_refl _⟩ (cat_le [] (Nat.le_of_ble_eq_true rfl)) (fun H locs hR hS => ?_)
    refine W_st (st2 := [.int v7]) rfl ?_
    refine lv_if_ne (tgt := 19) hx hb dX5_takeLeave_15 (by decide) (fun c8 => ?_) (fun c8 => ?_)
    · rw [if_neg c8] at hd
      refine x_aload_n C dX5_takeLeave_19 hL 0 rfl ?_
      refine r_getr (ci := 5) (k := 0) C fl_X5_50 rfl dX5_takeLeave_20 hR g1 ?_
      obtain ⟨g9, hd⟩ := gd_ex hd
      refine r_geti (ci := 2) (k := 4) C fl_X5_118 rfl dX5_takeLeave_23 hR g9 ?_
      refine lv_iconst (v := 4) hx hb dX5_takeLeave_26 (by decide) ?_
      refine lv_iadd hx hb dX5_takeLeave_27 ?_
      obtain ⟨v10, ev10, hd⟩ := bd_ex hd
      rw [← ev10]
      refine x_istore_n (lv' := [(2, .inl v10), (0, .inr x0), (1, .inr x1)]) C dX5_takeLeave_28 hL (by decide) rfl (fun ls hL => ?_)
      refine x_aload_n C dX5_takeLeave_29 hL 2 rfl ?_
      refine r_getr (ci := 3) (k := 8) C fl_X5_206 rfl dX5_takeLeave_30 hR g2 ?_
      refine x_aload_n C dX5_takeLeave_33 hL 1 rfl ?_
      refine r_geti (ci := 5) (k := 2) C fl_X5_57 rfl dX5_takeLeave_34 hR g1 ?_
      refine x_aload_n C dX5_takeLeave_37 hL 2 rfl ?_
      refine r_getr (ci := 3) (k := 8) C fl_X5_206 rfl dX5_takeLeave_38 hR g2 ?_
      refine x_aload_n C dX5_takeLeave_41 hL 1 rfl ?_
      refine r_geti (ci := 5) (k := 2) C fl_X5_57 rfl dX5_takeLeave_42 hR g1 ?_
      obtain ⟨g11, hd⟩ := gd_ex hd
      refine r_iald C dX5_takeLeave_45 hR g11 ?_
      refine x_iload_n C dX5_takeLeave_46 hL 0 rfl ?_
      refine r_mmin C ml_X5_215 dX5_takeLeave_47 (lx_size hL) ⟨Nat.le_of_ble_eq_true rfl, Nat.le_of_ble_eq_true rfl⟩ ⟨Nat.le_refl _, Nat.le_refl _⟩ (cat_le [.inl (hi G x0 2), .inr (hr G x1 8)] (Nat.le_of_ble_eq_true rfl)) ?_
      obtain ⟨g12, hd⟩ := gd_ex hd
      obtain ⟨G13, eG13, hd⟩ := bd_ex hd
      refine r_iast C dX5_takeLeave_50 hR hS g12 (fun H locs hR hS => ?_)
      replace hR : Rp b0 D E G13 H := by rw [eG13]; exact hR
      refine x_aload_n C dX5_takeLeave_51 hL 2 rfl ?_
      obtain ⟨g14, hd⟩ := gd_ex hd
      refine r_getr (ci := 3) (k := 2) C fl_X5_181 rfl dX5_takeLeave_52 hR g14 ?_
      refine lv_iconst (v := 2) hx hb dX5_takeLeave_55 (by decide) ?_
      refine x_aload_n C dX5_takeLeave_56 hL 1 rfl ?_
      obtain ⟨g15, hd⟩ := gd_ex hd
      refine r_geti (ci := 5) (k := 1) C fl_X5_54 rfl dX5_takeLeave_57 hR g15 ?_
      obtain ⟨g16, hd⟩ := gd_ex hd
      obtain ⟨v18, G19, h17, hd⟩ := b2_ex hd
      refine r_callV (a := (hr G13 x1 2)) (ci := 7) (As := [.int 2, .int (hi G13 x0 1)]) C (ct_X7_open h17) mf_X7_open ml_X5_185 mv_X7_open rfl ⟨Nat.le_of_ble_eq_true rfl, Nat.le_of_ble_eq_true rfl⟩ dX5_takeLeave_60 (lx_size hL) rfl hR hS g16 ⟨Nat.le_refl _, Nat.le_refl _⟩ (cat_le [] (Nat.le_of_ble_eq_true rfl)) (fun H locs hR hS => ?_)
      refine W_st (st2 := [rv v18]) rfl ?_
      refine x_astore_n (lv' := [(3, .inr v18), (2, .inl v10), (0, .inr x0), (1, .inr x1)]) C dX5_takeLeave_63 hL (by decide) rfl (fun ls hL => ?_)
      refine x_aload_n C dX5_takeLeave_64 hL 0 rfl ?_
      refine r_ifnull (tgt := 76) C dX5_takeLeave_65 (by decide) (fun c20 => ?_) (fun c20 => ?_)
      · rw [if_pos c20] at hd
        cases hd
        exact r_vret C dX5_takeLeave_76 hR hS
      · rw [if_neg c20] at hd
        refine x_aload_n C dX5_takeLeave_68 hL 0 rfl ?_
        refine x_aload_n C dX5_takeLeave_69 hL 2 rfl ?_
        obtain ⟨g21, hd⟩ := gd_ex hd
        refine r_geti (ci := 5) (k := 2) C fl_X5_57 rfl dX5_takeLeave_70 hR g21 ?_
        obtain ⟨g22, hd⟩ := gd_ex hd
        obtain ⟨G23, eG23, hd⟩ := bd_ex hd
        refine r_puti (ci := 0) (k := 3) C fl_X5_220 rfl (Or.inl rfl) dX5_takeLeave_73 hR hS g22 (fun H locs hR hS => ?_)
        replace hR : Rp b0 D E G23 H := by rw [eG23]; exact hR
        cases hd
        exact r_vret C dX5_takeLeave_76 hR hS
    · rw [if_pos c8] at hd
      cases hd
      exact r_vret C dX5_takeLeave_18 hR hS
end
set_option maxHeartbeats 4000000 in
set_option maxRecDepth 100000 in
theorem ct_X5_takeLeave {l : Launch} {b0 : Nat} {D : va_G} {E : Nat → ClassId} {G : Hp} {a0 : Nat} {a1 : Nat} {GG : Hp} (hd : d_X5_takeLeave a0 a1 G = some GG) : CT l yX5_takeLeave cX5_takeLeave 4 none 2 0 0 b0 D E [rv a0, rv a1] G none GG := by
  refine CT_of (by decide +kernel) ?_
  intro p e s m below meth c C hnm hR
  refine r_entry [.inr a0, .inr a1] (n := 4) (Nat.le_of_ble_eq_true rfl) (lv := [(0, .inr a0), (1, .inr a1)]) rfl (fun ls hL => ?_)
  exact k_X5_takeLeave C (lx_sub hL [0, 1] rfl) hR ⟨fun _ _ => rfl, fun _ h => by cases h⟩ hd

/-! GroveWorks$Tree.takeJoinOrPrune(LGroveWorks$Frame;LGroveWorks$Port;)V -/
theorem dX5_takeJoinOrPrune_0 : decode cX5_takeJoinOrPrune 0 = .ok (.aload_n 1, 1) := by decide +kernel
theorem dX5_takeJoinOrPrune_1 : decode cX5_takeJoinOrPrune 1 = .ok (.getfield 221, 3) := by decide +kernel
theorem dX5_takeJoinOrPrune_4 : decode cX5_takeJoinOrPrune 4 = .ok (.iconst (-1), 1) := by decide +kernel
theorem dX5_takeJoinOrPrune_5 : decode cX5_takeJoinOrPrune 5 = .ok (.if_icmp .ne 8, 3) := by decide +kernel
theorem dX5_takeJoinOrPrune_8 : decode cX5_takeJoinOrPrune 8 = .ok (.bipush 16, 2) := by decide +kernel
theorem dX5_takeJoinOrPrune_10 : decode cX5_takeJoinOrPrune 10 = .ok (.goto 7, 3) := by decide +kernel
theorem dX5_takeJoinOrPrune_13 : decode cX5_takeJoinOrPrune 13 = .ok (.aload_n 1, 1) := by decide +kernel
theorem dX5_takeJoinOrPrune_14 : decode cX5_takeJoinOrPrune 14 = .ok (.getfield 221, 3) := by decide +kernel
theorem dX5_takeJoinOrPrune_17 : decode cX5_takeJoinOrPrune 17 = .ok (.istore_n 3, 1) := by decide +kernel
theorem dX5_takeJoinOrPrune_18 : decode cX5_takeJoinOrPrune 18 = .ok (.aload_n 1, 1) := by decide +kernel
theorem dX5_takeJoinOrPrune_19 : decode cX5_takeJoinOrPrune 19 = .ok (.getfield 224, 3) := by decide +kernel
theorem dX5_takeJoinOrPrune_22 : decode cX5_takeJoinOrPrune 22 = .ok (.bipush 6, 2) := by decide +kernel
theorem dX5_takeJoinOrPrune_24 : decode cX5_takeJoinOrPrune 24 = .ok (.if_icmp .ne 13, 3) := by decide +kernel
theorem dX5_takeJoinOrPrune_27 : decode cX5_takeJoinOrPrune 27 = .ok (.aload_n 2, 1) := by decide +kernel
theorem dX5_takeJoinOrPrune_28 : decode cX5_takeJoinOrPrune 28 = .ok (.aload_n 0, 1) := by decide +kernel
theorem dX5_takeJoinOrPrune_29 : decode cX5_takeJoinOrPrune 29 = .ok (.getfield 57, 3) := by decide +kernel
theorem dX5_takeJoinOrPrune_32 : decode cX5_takeJoinOrPrune 32 = .ok (.iload_n 3, 1) := by decide +kernel
theorem dX5_takeJoinOrPrune_33 : decode cX5_takeJoinOrPrune 33 = .ok (.invokevirtual 227, 3) := by decide +kernel
theorem dX5_takeJoinOrPrune_36 : decode cX5_takeJoinOrPrune 36 = .ok (.return_, 1) := by decide +kernel
theorem dX5_takeJoinOrPrune_37 : decode cX5_takeJoinOrPrune 37 = .ok (.aload_n 0, 1) := by decide +kernel
theorem dX5_takeJoinOrPrune_38 : decode cX5_takeJoinOrPrune 38 = .ok (.dup, 1) := by decide +kernel
theorem dX5_takeJoinOrPrune_39 : decode cX5_takeJoinOrPrune 39 = .ok (.getfield 9, 3) := by decide +kernel
theorem dX5_takeJoinOrPrune_42 : decode cX5_takeJoinOrPrune 42 = .ok (.iconst 1, 1) := by decide +kernel
theorem dX5_takeJoinOrPrune_43 : decode cX5_takeJoinOrPrune 43 = .ok (.iload_n 3, 1) := by decide +kernel
theorem dX5_takeJoinOrPrune_44 : decode cX5_takeJoinOrPrune 44 = .ok (.ishl, 1) := by decide +kernel
theorem dX5_takeJoinOrPrune_45 : decode cX5_takeJoinOrPrune 45 = .ok (.aload_n 1, 1) := by decide +kernel
theorem dX5_takeJoinOrPrune_46 : decode cX5_takeJoinOrPrune 46 = .ok (.getfield 176, 3) := by decide +kernel
theorem dX5_takeJoinOrPrune_49 : decode cX5_takeJoinOrPrune 49 = .ok (.ior, 1) := by decide +kernel
theorem dX5_takeJoinOrPrune_50 : decode cX5_takeJoinOrPrune 50 = .ok (.ior, 1) := by decide +kernel
theorem dX5_takeJoinOrPrune_51 : decode cX5_takeJoinOrPrune 51 = .ok (.putfield 9, 3) := by decide +kernel
theorem dX5_takeJoinOrPrune_54 : decode cX5_takeJoinOrPrune 54 = .ok (.aload_n 2, 1) := by decide +kernel
theorem dX5_takeJoinOrPrune_55 : decode cX5_takeJoinOrPrune 55 = .ok (.aload_n 0, 1) := by decide +kernel
theorem dX5_takeJoinOrPrune_56 : decode cX5_takeJoinOrPrune 56 = .ok (.getfield 57, 3) := by decide +kernel
theorem dX5_takeJoinOrPrune_59 : decode cX5_takeJoinOrPrune 59 = .ok (.iload_n 3, 1) := by decide +kernel
theorem dX5_takeJoinOrPrune_60 : decode cX5_takeJoinOrPrune 60 = .ok (.invokevirtual 230, 3) := by decide +kernel
theorem dX5_takeJoinOrPrune_63 : decode cX5_takeJoinOrPrune 63 = .ok (.iload_n 3, 1) := by decide +kernel
theorem dX5_takeJoinOrPrune_64 : decode cX5_takeJoinOrPrune 64 = .ok (.bipush 16, 2) := by decide +kernel
theorem dX5_takeJoinOrPrune_66 : decode cX5_takeJoinOrPrune 66 = .ok (.if_icmp .ne 15, 3) := by decide +kernel
theorem dX5_takeJoinOrPrune_69 : decode cX5_takeJoinOrPrune 69 = .ok (.aload_n 2, 1) := by decide +kernel
theorem dX5_takeJoinOrPrune_70 : decode cX5_takeJoinOrPrune 70 = .ok (.aload_n 0, 1) := by decide +kernel
theorem dX5_takeJoinOrPrune_71 : decode cX5_takeJoinOrPrune 71 = .ok (.getfield 57, 3) := by decide +kernel
theorem dX5_takeJoinOrPrune_74 : decode cX5_takeJoinOrPrune 74 = .ok (.aload_n 1, 1) := by decide +kernel
theorem dX5_takeJoinOrPrune_75 : decode cX5_takeJoinOrPrune 75 = .ok (.getfield 176, 3) := by decide +kernel
theorem dX5_takeJoinOrPrune_78 : decode cX5_takeJoinOrPrune 78 = .ok (.invokevirtual 233, 3) := by decide +kernel
theorem dX5_takeJoinOrPrune_81 : decode cX5_takeJoinOrPrune 81 = .ok (.return_, 1) := by decide +kernel
def d_X5_takeJoinOrPrune_17 (x0 : Nat) (x1 : Nat) (x2 : Nat) (s0 : Int32) (G : Hp) : Option (Hp) :=
  gd (hc G x1 = 1) <|
  if (hi G x1 0) = 6 then
    gd (hc G x0 = 6) <|
    gd (hc G x2 = 4) <|
    bo (d_X3_takePrune x2 (hi G x0 2) s0 G) fun G18 =>
    some G18
  else
    gd (hc G x0 = 6) <|
    bd (sI G x0 4 ((hi G x0 4) ||| ((1 <<< (s0 &&& 31)) ||| (hi G x1 6)))) fun G4 =>
    gd (hc G4 x0 = 6) <|
    gd (hc G4 x2 = 4) <|
    bo (d_X3_takeJoin x2 (hi G4 x0 2) s0 G4) fun G8 =>
    if s0 = 16 then
      gd (hc G8 x0 = 6) <|
      gd (hc G8 x1 = 1) <|
      gd (hc G8 x2 = 4) <|
      bo (d_X3_takeCuts x2 (hi G8 x0 2) (hi G8 x1 6) G8) fun G14 =>
      some G14
    else
      some G8
def d_X5_takeJoinOrPrune (x0 : Nat) (x1 : Nat) (x2 : Nat) (G : Hp) : Option (Hp) :=
  gd (hc G x1 = 1) <|
  if (hi G x1 4) = (-1) then
    d_X5_takeJoinOrPrune_17 x0 x1 x2 16 G
  else
    d_X5_takeJoinOrPrune_17 x0 x1 x2 (hi G x1 4) G
section
variable {p : Program} {l : Launch} {e : Env} {s : State} {m : MethodId} {args : Array Value} {below : List Frame} {meth : Method} {c : Code} {b0 : Nat} {D : va_G} {E : Nat → ClassId}
set_option maxHeartbeats 4000000 in
set_option maxRecDepth 100000 in
theorem k_X5_takeJoinOrPrune_17 (C : Cx p s m args meth c RX5 cX5_takeJoinOrPrune 4 none b0 D E) {GG : Hp} {x0 : Nat} {x1 : Nat} {x2 : Nat} {s0 : Int32} {G : Hp} {ls : Array Slot} {H : Heap} {locs : List Loc} : lx ls 4 [(0, .inr x0), (1, .inr x1), (2, .inr x2)] → Rp b0 D E G H → SS b0 s H locs → d_X5_takeJoinOrPrune_17 x0 x1 x2 s0 G = some GG → W p l e (rmd 4 (0) (0)) s m args below meth c H locs (0) (0) (MQ below (CQ b0 D E none GG) args s (0) (0) (fun q => b0 ≤ q)) (F0 m 17 ls [.int s0]) := by
  intro hL hR hS hd
  unfold d_X5_takeJoinOrPrune_17 at hd
  have hx := C.1
  have hb := C.2.1
  refine x_istore_n (lv' := [(3, .inl s0), (0, .inr x0), (1, .inr x1), (2, .inr x2)]) C dX5_takeJoinOrPrune_17 hL (by decide) rfl (fun ls hL => ?_)
  refine x_aload_n C dX5_takeJoinOrPrune_18 hL 2 rfl ?_
  obtain ⟨g1, hd⟩ := gd_ex hd
  refine r_geti (ci := 0) (k := 0) C fl_X5_224 rfl dX5_takeJoinOrPrune_19 hR g1 ?_
  refine lv_bipush (v := 6) hx hb dX5_takeJoinOrPrune_22 (by decide) ?_
  refine lv_icmp_ne (tgt := 37) hx hb dX5_takeJoinOrPrune_24 (by decide) (fun c2 => ?_) (fun c2 => ?_)
  · rw [if_neg c2] at hd
    refine x_aload_n C dX5_takeJoinOrPrune_37 hL 1 rfl ?_
    refine lv_dup hx hb dX5_takeJoinOrPrune_38 (rv_cat _) ?_
    obtain ⟨g3, hd⟩ := gd_ex hd
    refine r_geti (ci := 5) (k := 4) C fl_X5_9 rfl dX5_takeJoinOrPrune_39 hR g3 ?_
    refine lv_iconst (v := 1) hx hb dX5_takeJoinOrPrune_42 (by decide) ?_
    refine x_iload_n C dX5_takeJoinOrPrune_43 hL 0 rfl ?_
    refine lv_ishl hx hb dX5_takeJoinOrPrune_44 ?_
    refine x_aload_n C dX5_takeJoinOrPrune_45 hL 2 rfl ?_
    refine r_geti (ci := 0) (k := 6) C fl_X5_176 rfl dX5_takeJoinOrPrune_46 hR g1 ?_
    refine lv_ior hx hb dX5_takeJoinOrPrune_49 ?_
    refine lv_ior hx hb dX5_takeJoinOrPrune_50 ?_
    obtain ⟨G4, eG4, hd⟩ := bd_ex hd
    refine r_puti (ci := 5) (k := 4) C fl_X5_9 rfl (Or.inl rfl) dX5_takeJoinOrPrune_51 hR hS g3 (fun H locs hR hS => ?_)
    replace hR : Rp b0 D E G4 H := by rw [eG4]; exact hR
    refine x_aload_n C dX5_takeJoinOrPrune_54 hL 3 rfl ?_
    refine x_aload_n C dX5_takeJoinOrPrune_55 hL 1 rfl ?_
    obtain ⟨g5, hd⟩ := gd_ex hd
    refine r_geti (ci := 5) (k := 2) C fl_X5_57 rfl dX5_takeJoinOrPrune_56 hR g5 ?_
    refine x_iload_n C dX5_takeJoinOrPrune_59 hL 0 rfl ?_
    obtain ⟨g6, hd⟩ := gd_ex hd
    obtain ⟨G8, h7, hd⟩ := bo_ex hd
    refine r_callV (a := x2) (ci := 3) (As := [.int (hi G4 x0 2), .int s0]) C (ct_X3_takeJoin h7) mf_X3_takeJoin ml_X5_230 mv_X3_takeJoin rfl ⟨Nat.le_of_ble_eq_true rfl, Nat.le_of_ble_eq_true rfl⟩ dX5_takeJoinOrPrune_60 (lx_size hL) rfl hR hS g6 ⟨Nat.le_refl _, Nat.le_refl _⟩ (cat_le [] (Nat.le_of_ble_eq_true rfl)) (fun H locs hR hS => ?_)
    refine W_st (st2 := []) rfl ?_
    refine x_iload_n C dX5_takeJoinOrPrune_63 hL 0 rfl ?_
    refine lv_bipush (v := 16) hx hb dX5_takeJoinOrPrune_64 (by decide) ?_
    refine lv_icmp_ne (tgt := 81) hx hb dX5_takeJoinOrPrune_66 (by decide) (fun c9 => ?_) (fun c9 => ?_)
    · rw [if_neg c9] at hd
      cases hd
      exact r_vret C dX5_takeJoinOrPrune_81 hR hS
    · rw [if_pos c9] at hd
      refine x_aload_n C dX5_takeJoinOrPrune_69 hL 3 rfl ?_
      refine x_aload_n C dX5_takeJoinOrPrune_70 hL 1 rfl ?_
      obtain ⟨g10, hd⟩ := gd_ex hd
      refine r_geti (ci := 5) (k := 2) C fl_X5_57 rfl dX5_takeJoinOrPrune_71 hR g10 ?_
      refine x_aload_n C dX5_takeJoinOrPrune_74 hL 2 rfl ?_
      obtain ⟨g11, hd⟩ := gd_ex hd
      refine r_geti (ci := 0) (k := 6) C fl_X5_176 rfl dX5_takeJoinOrPrune_75 hR g11 ?_
      obtain ⟨g12, hd⟩ := gd_ex hd
      obtain ⟨G14, h13, hd⟩ := bo_ex hd
      refine r_callV (a := x2) (ci := 3) (As := [.int (hi G8 x0 2), .int (hi G8 x1 6)]) C (ct_X3_takeCuts h13) mf_X3_takeCuts ml_X5_233 mv_X3_takeCuts rfl ⟨Nat.le_of_ble_eq_true rfl, Nat.le_of_ble_eq_true rfl⟩ dX5_takeJoinOrPrune_78 (lx_size hL) rfl hR hS g12 ⟨Nat.le_refl _, Nat.le_refl _⟩ (cat_le [] (Nat.le_of_ble_eq_true rfl)) (fun H locs hR hS => ?_)
      refine W_st (st2 := []) rfl ?_
      cases hd
      exact r_vret C dX5_takeJoinOrPrune_81 hR hS
  · rw [if_pos c2] at hd
    refine x_aload_n C dX5_takeJoinOrPrune_27 hL 3 rfl ?_
    refine x_aload_n C dX5_takeJoinOrPrune_28 hL 1 rfl ?_
    obtain ⟨g15, hd⟩ := gd_ex hd
    refine r_geti (ci := 5) (k := 2) C fl_X5_57 rfl dX5_takeJoinOrPrune_29 hR g15 ?_
    refine x_iload_n C dX5_takeJoinOrPrune_32 hL 0 rfl ?_
    obtain ⟨g16, hd⟩ := gd_ex hd
    obtain ⟨G18, h17, hd⟩ := bo_ex hd
    refine r_callV (a := x2) (ci := 3) (As := [.int (hi G x0 2), .int s0]) C (ct_X3_takePrune h17) mf_X3_takePrune ml_X5_227 mv_X3_takePrune rfl ⟨Nat.le_of_ble_eq_true rfl, Nat.le_of_ble_eq_true rfl⟩ dX5_takeJoinOrPrune_33 (lx_size hL) rfl hR hS g16 ⟨Nat.le_refl _, Nat.le_refl _⟩ (cat_le [] (Nat.le_of_ble_eq_true rfl)) (fun H locs hR hS => ?_)
    refine W_st (st2 := []) rfl ?_
    cases hd
    exact r_vret C dX5_takeJoinOrPrune_36 hR hS
set_option maxHeartbeats 4000000 in
set_option maxRecDepth 100000 in
theorem k_X5_takeJoinOrPrune (C : Cx p s m args meth c RX5 cX5_takeJoinOrPrune 4 none b0 D E) {GG : Hp} {x0 : Nat} {x1 : Nat} {x2 : Nat} {G : Hp} {ls : Array Slot} {H : Heap} {locs : List Loc} : lx ls 4 [(0, .inr x0), (1, .inr x1), (2, .inr x2)] → Rp b0 D E G H → SS b0 s H locs → d_X5_takeJoinOrPrune x0 x1 x2 G = some GG → W p l e (rmd 4 (0) (0)) s m args below meth c H locs (0) (0) (MQ below (CQ b0 D E none GG) args s (0) (0) (fun q => b0 ≤ q)) (F0 m 0 ls []) := by
  intro hL hR hS hd
  unfold d_X5_takeJoinOrPrune at hd
  have hx := C.1
  have hb := C.2.1
  refine x_aload_n C dX5_takeJoinOrPrune_0 hL 1 rfl ?_
  obtain ⟨g1, hd⟩ := gd_ex hd
  refine r_geti (ci := 0) (k := 4) C fl_X5_221 rfl dX5_takeJoinOrPrune_1 hR g1 ?_
  refine lv_iconst (v := (-1)) hx hb dX5_takeJoinOrPrune_4 (by decide) ?_
  refine lv_icmp_ne (tgt := 13) hx hb dX5_takeJoinOrPrune_5 (by decide) (fun c2 => ?_) (fun c2 => ?_)
  · rw [if_neg c2] at hd
    refine x_aload_n C dX5_takeJoinOrPrune_13 hL 1 rfl ?_
    refine r_geti (ci := 0) (k := 4) C fl_X5_221 rfl dX5_takeJoinOrPrune_14 hR g1 ?_
    exact k_X5_takeJoinOrPrune_17 C hL hR hS hd
  · rw [if_pos c2] at hd
    refine lv_bipush (v := 16) hx hb dX5_takeJoinOrPrune_8 (by decide) ?_
    refine lv_goto (tgt := 17) hx hb dX5_takeJoinOrPrune_10 (by decide) ?_
    exact k_X5_takeJoinOrPrune_17 C hL hR hS hd
end
set_option maxHeartbeats 4000000 in
set_option maxRecDepth 100000 in
theorem ct_X5_takeJoinOrPrune {l : Launch} {b0 : Nat} {D : va_G} {E : Nat → ClassId} {G : Hp} {a0 : Nat} {a1 : Nat} {a2 : Nat} {GG : Hp} (hd : d_X5_takeJoinOrPrune a0 a1 a2 G = some GG) : CT l yX5_takeJoinOrPrune cX5_takeJoinOrPrune 4 none 4 0 0 b0 D E [rv a0, rv a1, rv a2] G none GG := by
  refine CT_of (by decide +kernel) ?_
  intro p e s m below meth c C hnm hR
  refine r_entry [.inr a0, .inr a1, .inr a2] (n := 4) (Nat.le_of_ble_eq_true rfl) (lv := [(0, .inr a0), (1, .inr a1), (2, .inr a2)]) rfl (fun ls hL => ?_)
  exact k_X5_takeJoinOrPrune C (lx_sub hL [0, 1, 2] rfl) hR ⟨fun _ _ => rfl, fun _ h => by cases h⟩ hd

/-! GroveWorks$Tree.openUp(II)LGroveWorks$Frame; -/
theorem dX5_openUp_0 : decode cX5_openUp 0 = .ok (.aload_n 0, 1) := by decide +kernel
theorem dX5_openUp_1 : decode cX5_openUp 1 = .ok (.getfield 15, 3) := by decide +kernel
theorem dX5_openUp_4 : decode cX5_openUp 4 = .ok (.iload_n 2, 1) := by decide +kernel
theorem dX5_openUp_5 : decode cX5_openUp 5 = .ok (.iaload, 1) := by decide +kernel
theorem dX5_openUp_6 : decode cX5_openUp 6 = .ok (.bipush 16, 2) := by decide +kernel
theorem dX5_openUp_8 : decode cX5_openUp 8 = .ok (.idiv, 1) := by decide +kernel
theorem dX5_openUp_9 : decode cX5_openUp 9 = .ok (.istore_n 3, 1) := by decide +kernel
theorem dX5_openUp_10 : decode cX5_openUp 10 = .ok (.aload_n 0, 1) := by decide +kernel
theorem dX5_openUp_11 : decode cX5_openUp 11 = .ok (.getfield 15, 3) := by decide +kernel
theorem dX5_openUp_14 : decode cX5_openUp 14 = .ok (.iload_n 2, 1) := by decide +kernel
theorem dX5_openUp_15 : decode cX5_openUp 15 = .ok (.iaload, 1) := by decide +kernel
theorem dX5_openUp_16 : decode cX5_openUp 16 = .ok (.iconst (-1), 1) := by decide +kernel
theorem dX5_openUp_17 : decode cX5_openUp 17 = .ok (.if_icmp .eq 20, 3) := by decide +kernel
theorem dX5_openUp_20 : decode cX5_openUp 20 = .ok (.iload_n 3, 1) := by decide +kernel
theorem dX5_openUp_21 : decode cX5_openUp 21 = .ok (.iconst 4, 1) := by decide +kernel
theorem dX5_openUp_22 : decode cX5_openUp 22 = .ok (.invokestatic 136, 3) := by decide +kernel
theorem dX5_openUp_25 : decode cX5_openUp 25 = .ok (.ifCond .eq 12, 3) := by decide +kernel
theorem dX5_openUp_28 : decode cX5_openUp 28 = .ok (.aload_n 0, 1) := by decide +kernel
theorem dX5_openUp_29 : decode cX5_openUp 29 = .ok (.getfield 60, 3) := by decide +kernel
theorem dX5_openUp_32 : decode cX5_openUp 32 = .ok (.iload_n 3, 1) := by decide +kernel
theorem dX5_openUp_33 : decode cX5_openUp 33 = .ok (.aaload, 1) := by decide +kernel
theorem dX5_openUp_34 : decode cX5_openUp 34 = .ok (.ifnonnull 5, 3) := by decide +kernel
theorem dX5_openUp_37 : decode cX5_openUp 37 = .ok (.aconst_null, 1) := by decide +kernel
theorem dX5_openUp_38 : decode cX5_openUp 38 = .ok (.areturn, 1) := by decide +kernel
theorem dX5_openUp_39 : decode cX5_openUp 39 = .ok (.aload_n 0, 1) := by decide +kernel
theorem dX5_openUp_40 : decode cX5_openUp 40 = .ok (.getfield 60, 3) := by decide +kernel
theorem dX5_openUp_43 : decode cX5_openUp 43 = .ok (.iload_n 3, 1) := by decide +kernel
theorem dX5_openUp_44 : decode cX5_openUp 44 = .ok (.aaload, 1) := by decide +kernel
theorem dX5_openUp_45 : decode cX5_openUp 45 = .ok (.getfield 181, 3) := by decide +kernel
theorem dX5_openUp_48 : decode cX5_openUp 48 = .ok (.iload_n 1, 1) := by decide +kernel
theorem dX5_openUp_49 : decode cX5_openUp 49 = .ok (.aload_n 0, 1) := by decide +kernel
theorem dX5_openUp_50 : decode cX5_openUp 50 = .ok (.getfield 54, 3) := by decide +kernel
theorem dX5_openUp_53 : decode cX5_openUp 53 = .ok (.invokevirtual 185, 3) := by decide +kernel
theorem dX5_openUp_56 : decode cX5_openUp 56 = .ok (.astore 4, 2) := by decide +kernel
theorem dX5_openUp_58 : decode cX5_openUp 58 = .ok (.aload 4, 2) := by decide +kernel
theorem dX5_openUp_60 : decode cX5_openUp 60 = .ok (.ifnull 32, 3) := by decide +kernel
theorem dX5_openUp_63 : decode cX5_openUp 63 = .ok (.aload 4, 2) := by decide +kernel
theorem dX5_openUp_65 : decode cX5_openUp 65 = .ok (.aload_n 0, 1) := by decide +kernel
theorem dX5_openUp_66 : decode cX5_openUp 66 = .ok (.getfield 15, 3) := by decide +kernel
theorem dX5_openUp_69 : decode cX5_openUp 69 = .ok (.iload_n 2, 1) := by decide +kernel
theorem dX5_openUp_70 : decode cX5_openUp 70 = .ok (.iaload, 1) := by decide +kernel
theorem dX5_openUp_71 : decode cX5_openUp 71 = .ok (.bipush 16, 2) := by decide +kernel
theorem dX5_openUp_73 : decode cX5_openUp 73 = .ok (.irem, 1) := by decide +kernel
theorem dX5_openUp_74 : decode cX5_openUp 74 = .ok (.aload_n 0, 1) := by decide +kernel
theorem dX5_openUp_75 : decode cX5_openUp 75 = .ok (.getfield 57, 3) := by decide +kernel
theorem dX5_openUp_78 : decode cX5_openUp 78 = .ok (.iload_n 2, 1) := by decide +kernel
theorem dX5_openUp_79 : decode cX5_openUp 79 = .ok (.bipush 16, 2) := by decide +kernel
theorem dX5_openUp_81 : decode cX5_openUp 81 = .ok (.if_icmp .ne 7, 3) := by decide +kernel
theorem dX5_openUp_84 : decode cX5_openUp 84 = .ok (.iconst (-1), 1) := by decide +kernel
theorem dX5_openUp_85 : decode cX5_openUp 85 = .ok (.goto 4, 3) := by decide +kernel
theorem dX5_openUp_88 : decode cX5_openUp 88 = .ok (.iload_n 2, 1) := by decide +kernel
theorem dX5_openUp_89 : decode cX5_openUp 89 = .ok (.invokevirtual 190, 3) := by decide +kernel
theorem dX5_openUp_92 : decode cX5_openUp 92 = .ok (.aload 4, 2) := by decide +kernel
theorem dX5_openUp_94 : decode cX5_openUp 94 = .ok (.areturn, 1) := by decide +kernel
def d_X5_openUp (x0 : Nat) (x1 : Int32) (x2 : Int32) (G : Hp) : Option (Nat × Hp) :=
  gd (hc G x0 = 6) <|
  gd (hc G (hr G x0 5) = 11 ∧ ix x2 (hl G (hr G x0 5))) <|
  bd (((hi G (hr G x0 5) x2.toNatClampNeg) / 16)) fun v3 =>
  gd (hc G (hr G x0 5) = 11 ∧ ix x2 (hl G (hr G x0 5))) <|
  if (hi G (hr G x0 5) x2.toNatClampNeg) = (-1) then
    some (0, G)
  else
    bo (d_X8_isIn v3 4 G) fun v7 =>
    if v7 = 0 then
      some (0, G)
    else
      gd (hc G (hr G x0 3) = 16 ∧ ix v3 (hl G (hr G x0 3))) <|
      if (hr G (hr G x0 3) v3.toNatClampNeg) = 0 then
        some (0, G)
      else
        gd (hc G (hr G x0 3) = 16 ∧ ix v3 (hl G (hr G x0 3))) <|
        gd (hc G (hr G (hr G x0 3) v3.toNatClampNeg) = 4) <|
        gd (hc G (hr G (hr G (hr G x0 3) v3.toNatClampNeg) 2) = 8) <|
        b2 (d_X7_open (hr G (hr G (hr G x0 3) v3.toNatClampNeg) 2) x1 (hi G x0 1) G) fun v15 G16 =>
        if v15 = 0 then
          some (v15, G16)
        else
          gd (hc G16 x0 = 6) <|
          gd (hc G16 (hr G16 x0 5) = 11 ∧ ix x2 (hl G16 (hr G16 x0 5))) <|
          if x2 = 16 then
            gd (hc G16 v15 = 1) <|
            bo (d_X0_aim v15 ((hi G16 (hr G16 x0 5) x2.toNatClampNeg) - (hi G16 (hr G16 x0 5) x2.toNatClampNeg) / 16 * 16) (hi G16 x0 2) (-1) G16) fun G26 =>
            some (v15, G26)
          else
            gd (hc G16 v15 = 1) <|
            bo (d_X0_aim v15 ((hi G16 (hr G16 x0 5) x2.toNatClampNeg) - (hi G16 (hr G16 x0 5) x2.toNatClampNeg) / 16 * 16) (hi G16 x0 2) x2 G16) fun G23 =>
            some (v15, G23)
section
variable {p : Program} {l : Launch} {e : Env} {s : State} {m : MethodId} {args : Array Value} {below : List Frame} {meth : Method} {c : Code} {b0 : Nat} {D : va_G} {E : Nat → ClassId}
set_option maxHeartbeats 4000000 in
set_option maxRecDepth 100000 in
theorem k_X5_openUp (C : Cx p s m args meth c RX5 cX5_openUp 5 (some (.object "GroveWorks$Frame")) b0 D E) {rr : Nat} {GG : Hp} {x0 : Nat} {x1 : Int32} {x2 : Int32} {G : Hp} {ls : Array Slot} {H : Heap} {locs : List Loc} : lx ls 5 [(0, .inr x0), (1, .inl x1), (2, .inl x2)] → Rp b0 D E G H → SS b0 s H locs → d_X5_openUp x0 x1 x2 G = some (rr, GG) → W p l e (rmd 2 (0) (0)) s m args below meth c H locs (0) (0) (MQ below (CQ b0 D E (some (rv rr)) GG) args s (0) (0) (fun q => b0 ≤ q)) (F0 m 0 ls []) := by
  intro hL hR hS hd
  unfold d_X5_openUp at hd
  have hx := C.1
  have hb := C.2.1
  refine x_aload_n C dX5_openUp_0 hL 0 rfl ?_
  obtain ⟨g1, hd⟩ := gd_ex hd
  refine r_getr (ci := 5) (k := 5) C fl_X5_15 rfl dX5_openUp_1 hR g1 ?_
  refine x_iload_n C dX5_openUp_4 hL 2 rfl ?_
  obtain ⟨g2, hd⟩ := gd_ex hd
  refine r_iald C dX5_openUp_5 hR g2 ?_
  refine lv_bipush (v := 16) hx hb dX5_openUp_6 (by decide) ?_
  refine lv_idiv hx hb dX5_openUp_8 (by decide) ?_
  obtain ⟨v3, ev3, hd⟩ := bd_ex hd
  rw [← ev3]
  refine x_istore_n (lv' := [(3, .inl v3), (0, .inr x0), (1, .inl x1), (2, .inl x2)]) C dX5_openUp_9 hL (by decide) rfl (fun ls hL => ?_)
  refine x_aload_n C dX5_openUp_10 hL 1 rfl ?_
  refine r_getr (ci := 5) (k := 5) C fl_X5_15 rfl dX5_openUp_11 hR g1 ?_
  refine x_iload_n C dX5_openUp_14 hL 3 rfl ?_
  obtain ⟨g4, hd⟩ := gd_ex hd
  refine r_iald C dX5_openUp_15 hR g4 ?_
  refine lv_iconst (v := (-1)) hx hb dX5_openUp_16 (by decide) ?_
  refine lv_icmp_eq (tgt := 37) hx hb dX5_openUp_17 (by decide) (fun c5 => ?_) (fun c5 => ?_)
  · rw [if_pos c5] at hd
    refine r_null C dX5_openUp_37 ?_
    cases hd
    exact r_aret C dX5_openUp_38 hR hS
  · rw [if_neg c5] at hd
    refine x_iload_n C dX5_openUp_20 hL 0 rfl ?_
    refine lv_iconst (v := 4) hx hb dX5_openUp_21 (by decide) ?_
    obtain ⟨v7, h6, hd⟩ := bo_ex hd
    refine r_callSN (As := [.int v3, .int 4]) C (ct_X8_isIn h6) mf_X8_isIn (by decide +kernel) ms_X8_isIn rfl ⟨Nat.le_of_ble_eq_true rfl, Nat.le_of_ble_eq_true rfl⟩ dX5_openUp_22 (lx_size hL) rfl hR hS ⟨Nat.le_refl _, Nat.le_refl _⟩ (cat_le [] (Nat.le_of_ble_eq_true rfl)) (fun H locs hR hS => ?_)
    refine W_st (st2 := [.int v7]) rfl ?_
    refine lv_if_eq (tgt := 37) hx hb dX5_openUp_25 (by decide) (fun c8 => ?_) (fun c8 => ?_)
    · rw [if_pos c8] at hd
      refine r_null C dX5_openUp_37 ?_
      cases hd
      exact r_aret C dX5_openUp_38 hR hS
    · rw [if_neg c8] at hd
      refine x_aload_n C dX5_openUp_28 hL 1 rfl ?_
      refine r_getr (ci := 5) (k := 3) C fl_X5_60 rfl dX5_openUp_29 hR g1 ?_
      refine x_iload_n C dX5_openUp_32 hL 0 rfl ?_
      obtain ⟨g9, hd⟩ := gd_ex hd
      refine r_aald (ci := 3) C (by decide) dX5_openUp_33 hR g9 ?_
      refine r_ifnonnull (tgt := 39) C dX5_openUp_34 (by decide) (fun c10 => ?_) (fun c10 => ?_)
      · rw [if_neg c10] at hd
        refine x_aload_n C dX5_openUp_39 hL 1 rfl ?_
        refine r_getr (ci := 5) (k := 3) C fl_X5_60 rfl dX5_openUp_40 hR g1 ?_
        refine x_iload_n C dX5_openUp_43 hL 0 rfl ?_
        obtain ⟨g11, hd⟩ := gd_ex hd
        refine r_aald (ci := 3) C (by decide) dX5_openUp_44 hR g11 ?_
        obtain ⟨g12, hd⟩ := gd_ex hd
        refine r_getr (ci := 3) (k := 2) C fl_X5_181 rfl dX5_openUp_45 hR g12 ?_
        refine x_iload_n C dX5_openUp_48 hL 2 rfl ?_
        refine x_aload_n C dX5_openUp_49 hL 1 rfl ?_
        refine r_geti (ci := 5) (k := 1) C fl_X5_54 rfl dX5_openUp_50 hR g1 ?_
        obtain ⟨g13, hd⟩ := gd_ex hd
        obtain ⟨v15, G16, h14, hd⟩ := b2_ex hd
        refine r_callV (a := (hr G (hr G (hr G x0 3) v3.toNatClampNeg) 2)) (ci := 7) (As := [.int x1, .int (hi G x0 1)]) C (ct_X7_open h14) mf_X7_open ml_X5_185 mv_X7_open rfl ⟨Nat.le_of_ble_eq_true rfl, Nat.le_of_ble_eq_true rfl⟩ dX5_openUp_53 (lx_size hL) rfl hR hS g13 ⟨Nat.le_refl _, Nat.le_refl _⟩ (cat_le [] (Nat.le_of_ble_eq_true rfl)) (fun H locs hR hS => ?_)
        refine W_st (st2 := [rv v15]) rfl ?_
        refine x_astore (lv' := [(4, .inr v15), (3, .inl v3), (0, .inr x0), (1, .inl x1), (2, .inl x2)]) C dX5_openUp_56 hL (by decide) rfl (fun ls hL => ?_)
        refine x_aload C dX5_openUp_58 hL 0 rfl ?_
        refine r_ifnull (tgt := 92) C dX5_openUp_60 (by decide) (fun c17 => ?_) (fun c17 => ?_)
        · rw [if_pos c17] at hd
          refine x_aload C dX5_openUp_92 hL 0 rfl ?_
          cases hd
          exact r_aret C dX5_openUp_94 hR hS
        · rw [if_neg c17] at hd
          refine x_aload C dX5_openUp_63 hL 0 rfl ?_
          refine x_aload_n C dX5_openUp_65 hL 2 rfl ?_
          obtain ⟨g18, hd⟩ := gd_ex hd
          refine r_getr (ci := 5) (k := 5) C fl_X5_15 rfl dX5_openUp_66 hR g18 ?_
          refine x_iload_n C dX5_openUp_69 hL 4 rfl ?_
          obtain ⟨g19, hd⟩ := gd_ex hd
          refine r_iald C dX5_openUp_70 hR g19 ?_
          refine lv_bipush (v := 16) hx hb dX5_openUp_71 (by decide) ?_
          refine lv_irem hx hb dX5_openUp_73 (by decide) ?_
          refine x_aload_n C dX5_openUp_74 hL 2 rfl ?_
          refine r_geti (ci := 5) (k := 2) C fl_X5_57 rfl dX5_openUp_75 hR g18 ?_
          refine x_iload_n C dX5_openUp_78 hL 4 rfl ?_
          refine lv_bipush (v := 16) hx hb dX5_openUp_79 (by decide) ?_
          refine lv_icmp_ne (tgt := 88) hx hb dX5_openUp_81 (by decide) (fun c20 => ?_) (fun c20 => ?_)
          · rw [if_neg c20] at hd
            refine x_iload_n C dX5_openUp_88 hL 4 rfl ?_
            obtain ⟨g21, hd⟩ := gd_ex hd
            obtain ⟨G23, h22, hd⟩ := bo_ex hd
            refine r_callV (a := v15) (ci := 0) (As := [.int ((hi G16 (hr G16 x0 5) x2.toNatClampNeg) - (hi G16 (hr G16 x0 5) x2.toNatClampNeg) / 16 * 16), .int (hi G16 x0 2), .int x2]) C (ct_X0_aim h22) mf_X0_aim ml_X5_190 mv_X0_aim rfl ⟨Nat.le_of_ble_eq_true rfl, Nat.le_of_ble_eq_true rfl⟩ dX5_openUp_89 (lx_size hL) rfl hR hS g21 ⟨Nat.le_refl _, Nat.le_refl _⟩ (cat_le [] (Nat.le_of_ble_eq_true rfl)) (fun H locs hR hS => ?_)
            refine W_st (st2 := []) rfl ?_
            refine x_aload C dX5_openUp_92 hL 0 rfl ?_
            cases hd
            exact r_aret C dX5_openUp_94 hR hS
          · rw [if_pos c20] at hd
            refine lv_iconst (v := (-1)) hx hb dX5_openUp_84 (by decide) ?_
            refine lv_goto (tgt := 89) hx hb dX5_openUp_85 (by decide) ?_
            obtain ⟨g24, hd⟩ := gd_ex hd
            obtain ⟨G26, h25, hd⟩ := bo_ex hd
            refine r_callV (a := v15) (ci := 0) (As := [.int ((hi G16 (hr G16 x0 5) x2.toNatClampNeg) - (hi G16 (hr G16 x0 5) x2.toNatClampNeg) / 16 * 16), .int (hi G16 x0 2), .int (-1)]) C (ct_X0_aim h25) mf_X0_aim ml_X5_190 mv_X0_aim rfl ⟨Nat.le_of_ble_eq_true rfl, Nat.le_of_ble_eq_true rfl⟩ dX5_openUp_89 (lx_size hL) rfl hR hS g24 ⟨Nat.le_refl _, Nat.le_refl _⟩ (cat_le [] (Nat.le_of_ble_eq_true rfl)) (fun H locs hR hS => ?_)
            refine W_st (st2 := []) rfl ?_
            refine x_aload C dX5_openUp_92 hL 0 rfl ?_
            cases hd
            exact r_aret C dX5_openUp_94 hR hS
      · rw [if_pos c10] at hd
        refine r_null C dX5_openUp_37 ?_
        cases hd
        exact r_aret C dX5_openUp_38 hR hS
end
set_option maxHeartbeats 4000000 in
set_option maxRecDepth 100000 in
theorem ct_X5_openUp {l : Launch} {b0 : Nat} {D : va_G} {E : Nat → ClassId} {G : Hp} {a0 : Nat} {a1 : Int32} {a2 : Int32} {rr : Nat} {GG : Hp} (hd : d_X5_openUp a0 a1 a2 G = some (rr, GG)) : CT l yX5_openUp cX5_openUp 5 (some (.object "GroveWorks$Frame")) 2 0 0 b0 D E [rv a0, .int a1, .int a2] G (some (rv rr)) GG := by
  refine CT_of (by decide +kernel) ?_
  intro p e s m below meth c C hnm hR
  refine r_entry [.inr a0, .inl a1, .inl a2] (n := 5) (Nat.le_of_ble_eq_true rfl) (lv := [(0, .inr a0), (1, .inl a1), (2, .inl a2)]) rfl (fun ls hL => ?_)
  exact k_X5_openUp C (lx_sub hL [0, 1, 2] rfl) hR ⟨fun _ _ => rfl, fun _ h => by cases h⟩ hd

/-! GroveWorks$Tree.sendJoin(II)V -/
theorem dX5_sendJoin_0 : decode cX5_sendJoin 0 = .ok (.aload_n 0, 1) := by decide +kernel
theorem dX5_sendJoin_1 : decode cX5_sendJoin 1 = .ok (.getfield 19, 3) := by decide +kernel
theorem dX5_sendJoin_4 : decode cX5_sendJoin 4 = .ok (.iload_n 1, 1) := by decide +kernel
theorem dX5_sendJoin_5 : decode cX5_sendJoin 5 = .ok (.aload_n 0, 1) := by decide +kernel
theorem dX5_sendJoin_6 : decode cX5_sendJoin 6 = .ok (.getfield 50, 3) := by decide +kernel
theorem dX5_sendJoin_9 : decode cX5_sendJoin 9 = .ok (.getfield 118, 3) := by decide +kernel
theorem dX5_sendJoin_12 : decode cX5_sendJoin 12 = .ok (.iastore, 1) := by decide +kernel
theorem dX5_sendJoin_13 : decode cX5_sendJoin 13 = .ok (.iload_n 1, 1) := by decide +kernel
theorem dX5_sendJoin_14 : decode cX5_sendJoin 14 = .ok (.bipush 16, 2) := by decide +kernel
theorem dX5_sendJoin_16 : decode cX5_sendJoin 16 = .ok (.if_icmp .ne 8, 3) := by decide +kernel
theorem dX5_sendJoin_19 : decode cX5_sendJoin 19 = .ok (.aload_n 0, 1) := by decide +kernel
theorem dX5_sendJoin_20 : decode cX5_sendJoin 20 = .ok (.iload_n 2, 1) := by decide +kernel
theorem dX5_sendJoin_21 : decode cX5_sendJoin 21 = .ok (.putfield 22, 3) := by decide +kernel
theorem dX5_sendJoin_24 : decode cX5_sendJoin 24 = .ok (.aload_n 0, 1) := by decide +kernel
theorem dX5_sendJoin_25 : decode cX5_sendJoin 25 = .ok (.iconst 5, 1) := by decide +kernel
theorem dX5_sendJoin_26 : decode cX5_sendJoin 26 = .ok (.iload_n 1, 1) := by decide +kernel
theorem dX5_sendJoin_27 : decode cX5_sendJoin 27 = .ok (.invokevirtual 160, 3) := by decide +kernel
theorem dX5_sendJoin_30 : decode cX5_sendJoin 30 = .ok (.astore_n 3, 1) := by decide +kernel
theorem dX5_sendJoin_31 : decode cX5_sendJoin 31 = .ok (.aload_n 3, 1) := by decide +kernel
theorem dX5_sendJoin_32 : decode cX5_sendJoin 32 = .ok (.ifnull 8, 3) := by decide +kernel
theorem dX5_sendJoin_35 : decode cX5_sendJoin 35 = .ok (.aload_n 3, 1) := by decide +kernel
theorem dX5_sendJoin_36 : decode cX5_sendJoin 36 = .ok (.iload_n 2, 1) := by decide +kernel
theorem dX5_sendJoin_37 : decode cX5_sendJoin 37 = .ok (.putfield 176, 3) := by decide +kernel
theorem dX5_sendJoin_40 : decode cX5_sendJoin 40 = .ok (.return_, 1) := by decide +kernel
def d_X5_sendJoin_24 (x0 : Nat) (x1 : Int32) (x2 : Int32) (G : Hp) : Option (Hp) :=
  gd (hc G x0 = 6) <|
  b2 (d_X5_openUp x0 5 x1 G) fun v3 G4 =>
  if v3 = 0 then
    some G4
  else
    gd (hc G4 v3 = 1) <|
    bd (sI G4 v3 6 x2) fun G7 =>
    some G7
def d_X5_sendJoin (x0 : Nat) (x1 : Int32) (x2 : Int32) (G : Hp) : Option (Hp) :=
  gd (hc G x0 = 6) <|
  gd (hc G (hr G x0 0) = 3) <|
  gd (hc G (hr G x0 6) = 11 ∧ ix x1 (hl G (hr G x0 6))) <|
  bd (sI G (hr G x0 6) x1.toNatClampNeg (hi G (hr G x0 0) 4)) fun G4 =>
  if x1 = 16 then
    gd (hc G4 x0 = 6) <|
    bd (sI G4 x0 7 x2) fun G7 =>
    d_X5_sendJoin_24 x0 x1 x2 G7
  else
    d_X5_sendJoin_24 x0 x1 x2 G4
section
variable {p : Program} {l : Launch} {e : Env} {s : State} {m : MethodId} {args : Array Value} {below : List Frame} {meth : Method} {c : Code} {b0 : Nat} {D : va_G} {E : Nat → ClassId}
set_option maxHeartbeats 4000000 in
set_option maxRecDepth 100000 in
theorem k_X5_sendJoin_24 (C : Cx p s m args meth c RX5 cX5_sendJoin 4 none b0 D E) {GG : Hp} {x0 : Nat} {x1 : Int32} {x2 : Int32} {G : Hp} {ls : Array Slot} {H : Heap} {locs : List Loc} : lx ls 4 [(0, .inr x0), (1, .inl x1), (2, .inl x2)] → Rp b0 D E G H → SS b0 s H locs → d_X5_sendJoin_24 x0 x1 x2 G = some GG → W p l e (rmd 3 (0) (0)) s m args below meth c H locs (0) (0) (MQ below (CQ b0 D E none GG) args s (0) (0) (fun q => b0 ≤ q)) (F0 m 24 ls []) := by
  intro hL hR hS hd
  unfold d_X5_sendJoin_24 at hd
  have hx := C.1
  have hb := C.2.1
  refine x_aload_n C dX5_sendJoin_24 hL 0 rfl ?_
  refine lv_iconst (v := 5) hx hb dX5_sendJoin_25 (by decide) ?_
  refine x_iload_n C dX5_sendJoin_26 hL 1 rfl ?_
  obtain ⟨g1, hd⟩ := gd_ex hd
  obtain ⟨v3, G4, h2, hd⟩ := b2_ex hd
  refine r_callV (a := x0) (ci := 5) (As := [.int 5, .int x1]) C (ct_X5_openUp h2) mf_X5_openUp ml_X5_160 mv_X5_openUp rfl ⟨Nat.le_of_ble_eq_true rfl, Nat.le_of_ble_eq_true rfl⟩ dX5_sendJoin_27 (lx_size hL) rfl hR hS g1 ⟨Nat.le_refl _, Nat.le_refl _⟩ (cat_le [] (Nat.le_of_ble_eq_true rfl)) (fun H locs hR hS => ?_)
  refine W_st (st2 := [rv v3]) rfl ?_
  refine x_astore_n (lv' := [(3, .inr v3), (0, .inr x0), (1, .inl x1), (2, .inl x2)]) C dX5_sendJoin_30 hL (by decide) rfl (fun ls hL => ?_)
  refine x_aload_n C dX5_sendJoin_31 hL 0 rfl ?_
  refine r_ifnull (tgt := 40) C dX5_sendJoin_32 (by decide) (fun c5 => ?_) (fun c5 => ?_)
  · rw [if_pos c5] at hd
    cases hd
    exact r_vret C dX5_sendJoin_40 hR hS
  · rw [if_neg c5] at hd
    refine x_aload_n C dX5_sendJoin_35 hL 0 rfl ?_
    refine x_iload_n C dX5_sendJoin_36 hL 3 rfl ?_
    obtain ⟨g6, hd⟩ := gd_ex hd
    obtain ⟨G7, eG7, hd⟩ := bd_ex hd
    refine r_puti (ci := 0) (k := 6) C fl_X5_176 rfl (Or.inl rfl) dX5_sendJoin_37 hR hS g6 (fun H locs hR hS => ?_)
    replace hR : Rp b0 D E G7 H := by rw [eG7]; exact hR
    cases hd
    exact r_vret C dX5_sendJoin_40 hR hS
set_option maxHeartbeats 4000000 in
set_option maxRecDepth 100000 in
theorem k_X5_sendJoin (C : Cx p s m args meth c RX5 cX5_sendJoin 4 none b0 D E) {GG : Hp} {x0 : Nat} {x1 : Int32} {x2 : Int32} {G : Hp} {ls : Array Slot} {H : Heap} {locs : List Loc} : lx ls 4 [(0, .inr x0), (1, .inl x1), (2, .inl x2)] → Rp b0 D E G H → SS b0 s H locs → d_X5_sendJoin x0 x1 x2 G = some GG → W p l e (rmd 3 (0) (0)) s m args below meth c H locs (0) (0) (MQ below (CQ b0 D E none GG) args s (0) (0) (fun q => b0 ≤ q)) (F0 m 0 ls []) := by
  intro hL hR hS hd
  unfold d_X5_sendJoin at hd
  have hx := C.1
  have hb := C.2.1
  refine x_aload_n C dX5_sendJoin_0 hL 0 rfl ?_
  obtain ⟨g1, hd⟩ := gd_ex hd
  refine r_getr (ci := 5) (k := 6) C fl_X5_19 rfl dX5_sendJoin_1 hR g1 ?_
  refine x_iload_n C dX5_sendJoin_4 hL 1 rfl ?_
  refine x_aload_n C dX5_sendJoin_5 hL 0 rfl ?_
  refine r_getr (ci := 5) (k := 0) C fl_X5_50 rfl dX5_sendJoin_6 hR g1 ?_
  obtain ⟨g2, hd⟩ := gd_ex hd
  refine r_geti (ci := 2) (k := 4) C fl_X5_118 rfl dX5_sendJoin_9 hR g2 ?_
  obtain ⟨g3, hd⟩ := gd_ex hd
  obtain ⟨G4, eG4, hd⟩ := bd_ex hd
  refine r_iast C dX5_sendJoin_12 hR hS g3 (fun H locs hR hS => ?_)
  replace hR : Rp b0 D E G4 H := by rw [eG4]; exact hR
  refine x_iload_n C dX5_sendJoin_13 hL 1 rfl ?_
  refine lv_bipush (v := 16) hx hb dX5_sendJoin_14 (by decide) ?_
  refine lv_icmp_ne (tgt := 24) hx hb dX5_sendJoin_16 (by decide) (fun c5 => ?_) (fun c5 => ?_)
  · rw [if_neg c5] at hd
    exact k_X5_sendJoin_24 C hL hR hS hd
  · rw [if_pos c5] at hd
    refine x_aload_n C dX5_sendJoin_19 hL 0 rfl ?_
    refine x_iload_n C dX5_sendJoin_20 hL 2 rfl ?_
    obtain ⟨g6, hd⟩ := gd_ex hd
    obtain ⟨G7, eG7, hd⟩ := bd_ex hd
    refine r_puti (ci := 5) (k := 7) C fl_X5_22 rfl (Or.inl rfl) dX5_sendJoin_21 hR hS g6 (fun H locs hR hS => ?_)
    replace hR : Rp b0 D E G7 H := by rw [eG7]; exact hR
    exact k_X5_sendJoin_24 C hL hR hS hd
end
set_option maxHeartbeats 4000000 in
set_option maxRecDepth 100000 in
theorem ct_X5_sendJoin {l : Launch} {b0 : Nat} {D : va_G} {E : Nat → ClassId} {G : Hp} {a0 : Nat} {a1 : Int32} {a2 : Int32} {GG : Hp} (hd : d_X5_sendJoin a0 a1 a2 G = some GG) : CT l yX5_sendJoin cX5_sendJoin 4 none 3 0 0 b0 D E [rv a0, .int a1, .int a2] G none GG := by
  refine CT_of (by decide +kernel) ?_
  intro p e s m below meth c C hnm hR
  refine r_entry [.inr a0, .inl a1, .inl a2] (n := 4) (Nat.le_of_ble_eq_true rfl) (lv := [(0, .inr a0), (1, .inl a1), (2, .inl a2)]) rfl (fun ls hL => ?_)
  exact k_X5_sendJoin C (lx_sub hL [0, 1, 2] rfl) hR ⟨fun _ _ => rfl, fun _ h => by cases h⟩ hd

/-! GroveWorks$Tree.overhear(LGroveWorks$Frame;I)V -/
theorem dX5_overhear_0 : decode cX5_overhear 0 = .ok (.aload_n 1, 1) := by decide +kernel
theorem dX5_overhear_1 : decode cX5_overhear 1 = .ok (.getfield 221, 3) := by decide +kernel
theorem dX5_overhear_4 : decode cX5_overhear 4 = .ok (.iconst (-1), 1) := by decide +kernel
theorem dX5_overhear_5 : decode cX5_overhear 5 = .ok (.if_icmp .ne 8, 3) := by decide +kernel
theorem dX5_overhear_8 : decode cX5_overhear 8 = .ok (.bipush 16, 2) := by decide +kernel
theorem dX5_overhear_10 : decode cX5_overhear 10 = .ok (.goto 7, 3) := by decide +kernel
theorem dX5_overhear_13 : decode cX5_overhear 13 = .ok (.aload_n 1, 1) := by decide +kernel
theorem dX5_overhear_14 : decode cX5_overhear 14 = .ok (.getfield 221, 3) := by decide +kernel
theorem dX5_overhear_17 : decode cX5_overhear 17 = .ok (.istore_n 3, 1) := by decide +kernel
theorem dX5_overhear_18 : decode cX5_overhear 18 = .ok (.aload_n 0, 1) := by decide +kernel
theorem dX5_overhear_19 : decode cX5_overhear 19 = .ok (.getfield 15, 3) := by decide +kernel
theorem dX5_overhear_22 : decode cX5_overhear 22 = .ok (.iload_n 3, 1) := by decide +kernel
theorem dX5_overhear_23 : decode cX5_overhear 23 = .ok (.iaload, 1) := by decide +kernel
theorem dX5_overhear_24 : decode cX5_overhear 24 = .ok (.iload_n 2, 1) := by decide +kernel
theorem dX5_overhear_25 : decode cX5_overhear 25 = .ok (.bipush 16, 2) := by decide +kernel
theorem dX5_overhear_27 : decode cX5_overhear 27 = .ok (.imul, 1) := by decide +kernel
theorem dX5_overhear_28 : decode cX5_overhear 28 = .ok (.aload_n 1, 1) := by decide +kernel
theorem dX5_overhear_29 : decode cX5_overhear 29 = .ok (.getfield 236, 3) := by decide +kernel
theorem dX5_overhear_32 : decode cX5_overhear 32 = .ok (.iadd, 1) := by decide +kernel
theorem dX5_overhear_33 : decode cX5_overhear 33 = .ok (.if_icmp .eq 4, 3) := by decide +kernel
theorem dX5_overhear_36 : decode cX5_overhear 36 = .ok (.return_, 1) := by decide +kernel
theorem dX5_overhear_37 : decode cX5_overhear 37 = .ok (.iload_n 3, 1) := by decide +kernel
theorem dX5_overhear_38 : decode cX5_overhear 38 = .ok (.bipush 16, 2) := by decide +kernel
theorem dX5_overhear_40 : decode cX5_overhear 40 = .ok (.if_icmp .ne 10, 3) := by decide +kernel
theorem dX5_overhear_43 : decode cX5_overhear 43 = .ok (.aload_n 0, 1) := by decide +kernel
theorem dX5_overhear_44 : decode cX5_overhear 44 = .ok (.getfield 22, 3) := by decide +kernel
theorem dX5_overhear_47 : decode cX5_overhear 47 = .ok (.goto 4, 3) := by decide +kernel
theorem dX5_overhear_50 : decode cX5_overhear 50 = .ok (.iconst 0, 1) := by decide +kernel
theorem dX5_overhear_51 : decode cX5_overhear 51 = .ok (.istore 4, 2) := by decide +kernel
theorem dX5_overhear_53 : decode cX5_overhear 53 = .ok (.aload_n 1, 1) := by decide +kernel
theorem dX5_overhear_54 : decode cX5_overhear 54 = .ok (.getfield 224, 3) := by decide +kernel
theorem dX5_overhear_57 : decode cX5_overhear 57 = .ok (.bipush 6, 2) := by decide +kernel
theorem dX5_overhear_59 : decode cX5_overhear 59 = .ok (.if_icmp .eq 15, 3) := by decide +kernel
theorem dX5_overhear_62 : decode cX5_overhear 62 = .ok (.aload_n 1, 1) := by decide +kernel
theorem dX5_overhear_63 : decode cX5_overhear 63 = .ok (.getfield 176, 3) := by decide +kernel
theorem dX5_overhear_66 : decode cX5_overhear 66 = .ok (.iload 4, 2) := by decide +kernel
theorem dX5_overhear_68 : decode cX5_overhear 68 = .ok (.iconst (-1), 1) := by decide +kernel
theorem dX5_overhear_69 : decode cX5_overhear 69 = .ok (.ixor, 1) := by decide +kernel
theorem dX5_overhear_70 : decode cX5_overhear 70 = .ok (.iand, 1) := by decide +kernel
theorem dX5_overhear_71 : decode cX5_overhear 71 = .ok (.ifCond .eq 13, 3) := by decide +kernel
theorem dX5_overhear_74 : decode cX5_overhear 74 = .ok (.aload_n 0, 1) := by decide +kernel
theorem dX5_overhear_75 : decode cX5_overhear 75 = .ok (.iload_n 3, 1) := by decide +kernel
theorem dX5_overhear_76 : decode cX5_overhear 76 = .ok (.iload 4, 2) := by decide +kernel
theorem dX5_overhear_78 : decode cX5_overhear 78 = .ok (.invokevirtual 167, 3) := by decide +kernel
theorem dX5_overhear_81 : decode cX5_overhear 81 = .ok (.goto 25, 3) := by decide +kernel
theorem dX5_overhear_84 : decode cX5_overhear 84 = .ok (.aload_n 1, 1) := by decide +kernel
theorem dX5_overhear_85 : decode cX5_overhear 85 = .ok (.getfield 176, 3) := by decide +kernel
theorem dX5_overhear_88 : decode cX5_overhear 88 = .ok (.iload 4, 2) := by decide +kernel
theorem dX5_overhear_90 : decode cX5_overhear 90 = .ok (.if_icmp .ne 16, 3) := by decide +kernel
theorem dX5_overhear_93 : decode cX5_overhear 93 = .ok (.aload_n 0, 1) := by decide +kernel
theorem dX5_overhear_94 : decode cX5_overhear 94 = .ok (.getfield 19, 3) := by decide +kernel
theorem dX5_overhear_97 : decode cX5_overhear 97 = .ok (.iload_n 3, 1) := by decide +kernel
theorem dX5_overhear_98 : decode cX5_overhear 98 = .ok (.aload_n 0, 1) := by decide +kernel
theorem dX5_overhear_99 : decode cX5_overhear 99 = .ok (.getfield 50, 3) := by decide +kernel
theorem dX5_overhear_102 : decode cX5_overhear 102 = .ok (.getfield 118, 3) := by decide +kernel
theorem dX5_overhear_105 : decode cX5_overhear 105 = .ok (.iastore, 1) := by decide +kernel
theorem dX5_overhear_106 : decode cX5_overhear 106 = .ok (.return_, 1) := by decide +kernel
def d_X5_overhear_74 (x0 : Nat) (x3 : Int32) (x4 : Int32) (G : Hp) : Option (Hp) :=
  gd (hc G x0 = 6) <|
  bo (d_X5_sendJoin x0 x3 x4 G) fun G3 =>
  some G3
def d_X5_overhear_51 (x0 : Nat) (x1 : Nat) (x3 : Int32) (s0 : Int32) (G : Hp) : Option (Hp) :=
  gd (hc G x1 = 1) <|
  if (hi G x1 0) = 6 then
    d_X5_overhear_74 x0 x3 s0 G
  else
    if ((hi G x1 6) &&& (s0 ^^^ (-1))) = 0 then
      if (hi G x1 6) = s0 then
        gd (hc G x0 = 6) <|
        gd (hc G (hr G x0 0) = 3) <|
        gd (hc G (hr G x0 6) = 11 ∧ ix x3 (hl G (hr G x0 6))) <|
        bd (sI G (hr G x0 6) x3.toNatClampNeg (hi G (hr G x0 0) 4)) fun G8 =>
        some G8
      else
        some G
    else
      d_X5_overhear_74 x0 x3 s0 G
def d_X5_overhear_17 (x0 : Nat) (x1 : Nat) (x2 : Int32) (s0 : Int32) (G : Hp) : Option (Hp) :=
  gd (hc G x0 = 6) <|
  gd (hc G (hr G x0 5) = 11 ∧ ix s0 (hl G (hr G x0 5))) <|
  gd (hc G x1 = 1) <|
  if (hi G (hr G x0 5) s0.toNatClampNeg) = ((x2 * 16) + (hi G x1 2)) then
    if s0 = 16 then
      d_X5_overhear_51 x0 x1 s0 (hi G x0 7) G
    else
      d_X5_overhear_51 x0 x1 s0 0 G
  else
    some G
def d_X5_overhear (x0 : Nat) (x1 : Nat) (x2 : Int32) (G : Hp) : Option (Hp) :=
  gd (hc G x1 = 1) <|
  if (hi G x1 4) = (-1) then
    d_X5_overhear_17 x0 x1 x2 16 G
  else
    d_X5_overhear_17 x0 x1 x2 (hi G x1 4) G
section
variable {p : Program} {l : Launch} {e : Env} {s : State} {m : MethodId} {args : Array Value} {below : List Frame} {meth : Method} {c : Code} {b0 : Nat} {D : va_G} {E : Nat → ClassId}
set_option maxHeartbeats 4000000 in
set_option maxRecDepth 100000 in
theorem k_X5_overhear_74 (C : Cx p s m args meth c RX5 cX5_overhear 5 none b0 D E) {GG : Hp} {x0 : Nat} {x3 : Int32} {x4 : Int32} {G : Hp} {ls : Array Slot} {H : Heap} {locs : List Loc} : lx ls 5 [(0, .inr x0), (3, .inl x3), (4, .inl x4)] → Rp b0 D E G H → SS b0 s H locs → d_X5_overhear_74 x0 x3 x4 G = some GG → W p l e (rmd 4 (0) (0)) s m args below meth c H locs (0) (0) (MQ below (CQ b0 D E none GG) args s (0) (0) (fun q => b0 ≤ q)) (F0 m 74 ls []) := by
  intro hL hR hS hd
  unfold d_X5_overhear_74 at hd
  have hx := C.1
  have hb := C.2.1
  refine x_aload_n C dX5_overhear_74 hL 0 rfl ?_
  refine x_iload_n C dX5_overhear_75 hL 1 rfl ?_
  refine x_iload C dX5_overhear_76 hL 2 rfl ?_
  obtain ⟨g1, hd⟩ := gd_ex hd
  obtain ⟨G3, h2, hd⟩ := bo_ex hd
  refine r_callV (a := x0) (ci := 5) (As := [.int x3, .int x4]) C (ct_X5_sendJoin h2) mf_X5_sendJoin ml_X5_167 mv_X5_sendJoin rfl ⟨Nat.le_of_ble_eq_true rfl, Nat.le_of_ble_eq_true rfl⟩ dX5_overhear_78 (lx_size hL) rfl hR hS g1 ⟨Nat.le_refl _, Nat.le_refl _⟩ (cat_le [] (Nat.le_of_ble_eq_true rfl)) (fun H locs hR hS => ?_)
  refine W_st (st2 := []) rfl ?_
  refine lv_goto (tgt := 106) hx hb dX5_overhear_81 (by decide) ?_
  cases hd
  exact r_vret C dX5_overhear_106 hR hS
set_option maxHeartbeats 4000000 in
set_option maxRecDepth 100000 in
theorem k_X5_overhear_51 (C : Cx p s m args meth c RX5 cX5_overhear 5 none b0 D E) {GG : Hp} {x0 : Nat} {x1 : Nat} {x3 : Int32} {s0 : Int32} {G : Hp} {ls : Array Slot} {H : Heap} {locs : List Loc} : lx ls 5 [(0, .inr x0), (1, .inr x1), (3, .inl x3)] → Rp b0 D E G H → SS b0 s H locs → d_X5_overhear_51 x0 x1 x3 s0 G = some GG → W p l e (rmd 4 (0) (0)) s m args below meth c H locs (0) (0) (MQ below (CQ b0 D E none GG) args s (0) (0) (fun q => b0 ≤ q)) (F0 m 51 ls [.int s0]) := by
  intro hL hR hS hd
  unfold d_X5_overhear_51 at hd
  have hx := C.1
  have hb := C.2.1
  refine x_istore (lv' := [(4, .inl s0), (0, .inr x0), (1, .inr x1), (3, .inl x3)]) C dX5_overhear_51 hL (by decide) rfl (fun ls hL => ?_)
  refine x_aload_n C dX5_overhear_53 hL 2 rfl ?_
  obtain ⟨g1, hd⟩ := gd_ex hd
  refine r_geti (ci := 0) (k := 0) C fl_X5_224 rfl dX5_overhear_54 hR g1 ?_
  refine lv_bipush (v := 6) hx hb dX5_overhear_57 (by decide) ?_
  refine lv_icmp_eq (tgt := 74) hx hb dX5_overhear_59 (by decide) (fun c2 => ?_) (fun c2 => ?_)
  · rw [if_pos c2] at hd
    exact k_X5_overhear_74 C (lx_sub hL [1, 3, 0] rfl) hR hS hd
  · rw [if_neg c2] at hd
    refine x_aload_n C dX5_overhear_62 hL 2 rfl ?_
    refine r_geti (ci := 0) (k := 6) C fl_X5_176 rfl dX5_overhear_63 hR g1 ?_
    refine x_iload C dX5_overhear_66 hL 0 rfl ?_
    refine lv_iconst (v := (-1)) hx hb dX5_overhear_68 (by decide) ?_
    refine lv_ixor hx hb dX5_overhear_69 ?_
    refine lv_iand hx hb dX5_overhear_70 ?_
    refine lv_if_eq (tgt := 84) hx hb dX5_overhear_71 (by decide) (fun c3 => ?_) (fun c3 => ?_)
    · rw [if_pos c3] at hd
      refine x_aload_n C dX5_overhear_84 hL 2 rfl ?_
      refine r_geti (ci := 0) (k := 6) C fl_X5_176 rfl dX5_overhear_85 hR g1 ?_
      refine x_iload C dX5_overhear_88 hL 0 rfl ?_
      refine lv_icmp_ne (tgt := 106) hx hb dX5_overhear_90 (by decide) (fun c4 => ?_) (fun c4 => ?_)
      · rw [if_neg c4] at hd
        cases hd
        exact r_vret C dX5_overhear_106 hR hS
      · rw [if_pos c4] at hd
        refine x_aload_n C dX5_overhear_93 hL 1 rfl ?_
        obtain ⟨g5, hd⟩ := gd_ex hd
        refine r_getr (ci := 5) (k := 6) C fl_X5_19 rfl dX5_overhear_94 hR g5 ?_
        refine x_iload_n C dX5_overhear_97 hL 3 rfl ?_
        refine x_aload_n C dX5_overhear_98 hL 1 rfl ?_
        refine r_getr (ci := 5) (k := 0) C fl_X5_50 rfl dX5_overhear_99 hR g5 ?_
        obtain ⟨g6, hd⟩ := gd_ex hd
        refine r_geti (ci := 2) (k := 4) C fl_X5_118 rfl dX5_overhear_102 hR g6 ?_
        obtain ⟨g7, hd⟩ := gd_ex hd
        obtain ⟨G8, eG8, hd⟩ := bd_ex hd
        refine r_iast C dX5_overhear_105 hR hS g7 (fun H locs hR hS => ?_)
        replace hR : Rp b0 D E G8 H := by rw [eG8]; exact hR
        cases hd
        exact r_vret C dX5_overhear_106 hR hS
    · rw [if_neg c3] at hd
      exact k_X5_overhear_74 C (lx_sub hL [1, 3, 0] rfl) hR hS hd
set_option maxHeartbeats 4000000 in
set_option maxRecDepth 100000 in
theorem k_X5_overhear_17 (C : Cx p s m args meth c RX5 cX5_overhear 5 none b0 D E) {GG : Hp} {x0 : Nat} {x1 : Nat} {x2 : Int32} {s0 : Int32} {G : Hp} {ls : Array Slot} {H : Heap} {locs : List Loc} : lx ls 5 [(0, .inr x0), (1, .inr x1), (2, .inl x2)] → Rp b0 D E G H → SS b0 s H locs → d_X5_overhear_17 x0 x1 x2 s0 G = some GG → W p l e (rmd 4 (0) (0)) s m args below meth c H locs (0) (0) (MQ below (CQ b0 D E none GG) args s (0) (0) (fun q => b0 ≤ q)) (F0 m 17 ls [.int s0]) := by
  intro hL hR hS hd
  unfold d_X5_overhear_17 at hd
  have hx := C.1
  have hb := C.2.1
  refine x_istore_n (lv' := [(3, .inl s0), (0, .inr x0), (1, .inr x1), (2, .inl x2)]) C dX5_overhear_17 hL (by decide) rfl (fun ls hL => ?_)
  refine x_aload_n C dX5_overhear_18 hL 1 rfl ?_
  obtain ⟨g1, hd⟩ := gd_ex hd
  refine r_getr (ci := 5) (k := 5) C fl_X5_15 rfl dX5_overhear_19 hR g1 ?_
  refine x_iload_n C dX5_overhear_22 hL 0 rfl ?_
  obtain ⟨g2, hd⟩ := gd_ex hd
  refine r_iald C dX5_overhear_23 hR g2 ?_
  refine x_iload_n C dX5_overhear_24 hL 3 rfl ?_
  refine lv_bipush (v := 16) hx hb dX5_overhear_25 (by decide) ?_
  refine lv_imul hx hb dX5_overhear_27 ?_
  refine x_aload_n C dX5_overhear_28 hL 2 rfl ?_
  obtain ⟨g3, hd⟩ := gd_ex hd
  refine r_geti (ci := 0) (k := 2) C fl_X5_236 rfl dX5_overhear_29 hR g3 ?_
  refine lv_iadd hx hb dX5_overhear_32 ?_
  refine lv_icmp_eq (tgt := 37) hx hb dX5_overhear_33 (by decide) (fun c4 => ?_) (fun c4 => ?_)
  · rw [if_pos c4] at hd
    refine x_iload_n C dX5_overhear_37 hL 0 rfl ?_
    refine lv_bipush (v := 16) hx hb dX5_overhear_38 (by decide) ?_
    refine lv_icmp_ne (tgt := 50) hx hb dX5_overhear_40 (by decide) (fun c5 => ?_) (fun c5 => ?_)
    · rw [if_neg c5] at hd
      refine lv_iconst (v := 0) hx hb dX5_overhear_50 (by decide) ?_
      exact k_X5_overhear_51 C (lx_sub hL [1, 2, 0] rfl) hR hS hd
    · rw [if_pos c5] at hd
      refine x_aload_n C dX5_overhear_43 hL 1 rfl ?_
      refine r_geti (ci := 5) (k := 7) C fl_X5_22 rfl dX5_overhear_44 hR g1 ?_
      refine lv_goto (tgt := 51) hx hb dX5_overhear_47 (by decide) ?_
      exact k_X5_overhear_51 C (lx_sub hL [1, 2, 0] rfl) hR hS hd
  · rw [if_neg c4] at hd
    cases hd
    exact r_vret C dX5_overhear_36 hR hS
set_option maxHeartbeats 4000000 in
set_option maxRecDepth 100000 in
theorem k_X5_overhear (C : Cx p s m args meth c RX5 cX5_overhear 5 none b0 D E) {GG : Hp} {x0 : Nat} {x1 : Nat} {x2 : Int32} {G : Hp} {ls : Array Slot} {H : Heap} {locs : List Loc} : lx ls 5 [(0, .inr x0), (1, .inr x1), (2, .inl x2)] → Rp b0 D E G H → SS b0 s H locs → d_X5_overhear x0 x1 x2 G = some GG → W p l e (rmd 4 (0) (0)) s m args below meth c H locs (0) (0) (MQ below (CQ b0 D E none GG) args s (0) (0) (fun q => b0 ≤ q)) (F0 m 0 ls []) := by
  intro hL hR hS hd
  unfold d_X5_overhear at hd
  have hx := C.1
  have hb := C.2.1
  refine x_aload_n C dX5_overhear_0 hL 1 rfl ?_
  obtain ⟨g1, hd⟩ := gd_ex hd
  refine r_geti (ci := 0) (k := 4) C fl_X5_221 rfl dX5_overhear_1 hR g1 ?_
  refine lv_iconst (v := (-1)) hx hb dX5_overhear_4 (by decide) ?_
  refine lv_icmp_ne (tgt := 13) hx hb dX5_overhear_5 (by decide) (fun c2 => ?_) (fun c2 => ?_)
  · rw [if_neg c2] at hd
    refine x_aload_n C dX5_overhear_13 hL 1 rfl ?_
    refine r_geti (ci := 0) (k := 4) C fl_X5_221 rfl dX5_overhear_14 hR g1 ?_
    exact k_X5_overhear_17 C hL hR hS hd
  · rw [if_pos c2] at hd
    refine lv_bipush (v := 16) hx hb dX5_overhear_8 (by decide) ?_
    refine lv_goto (tgt := 17) hx hb dX5_overhear_10 (by decide) ?_
    exact k_X5_overhear_17 C hL hR hS hd
end
set_option maxHeartbeats 4000000 in
set_option maxRecDepth 100000 in
theorem ct_X5_overhear {l : Launch} {b0 : Nat} {D : va_G} {E : Nat → ClassId} {G : Hp} {a0 : Nat} {a1 : Nat} {a2 : Int32} {GG : Hp} (hd : d_X5_overhear a0 a1 a2 G = some GG) : CT l yX5_overhear cX5_overhear 5 none 4 0 0 b0 D E [rv a0, rv a1, .int a2] G none GG := by
  refine CT_of (by decide +kernel) ?_
  intro p e s m below meth c C hnm hR
  refine r_entry [.inr a0, .inr a1, .inl a2] (n := 5) (Nat.le_of_ble_eq_true rfl) (lv := [(0, .inr a0), (1, .inr a1), (2, .inl a2)]) rfl (fun ls hL => ?_)
  exact k_X5_overhear C (lx_sub hL [0, 1, 2] rfl) hR ⟨fun _ _ => rfl, fun _ h => by cases h⟩ hd

/-! GroveWorks$Ways.portTo(II)I pure -/
theorem dX6_portTo_0 : decode cX6_portTo 0 = .ok (.iload_n 2, 1) := by decide +kernel
theorem dX6_portTo_1 : decode cX6_portTo 1 = .ok (.bipush 26, 2) := by decide +kernel
theorem dX6_portTo_3 : decode cX6_portTo 3 = .ok (.invokestatic 41, 3) := by decide +kernel
theorem dX6_portTo_6 : decode cX6_portTo 6 = .ok (.ifCond .eq 17, 3) := by decide +kernel
theorem dX6_portTo_9 : decode cX6_portTo 9 = .ok (.aload_n 0, 1) := by decide +kernel
theorem dX6_portTo_10 : decode cX6_portTo 10 = .ok (.getfield 35, 3) := by decide +kernel
theorem dX6_portTo_13 : decode cX6_portTo 13 = .ok (.iload_n 1, 1) := by decide +kernel
theorem dX6_portTo_14 : decode cX6_portTo 14 = .ok (.bipush 26, 2) := by decide +kernel
theorem dX6_portTo_16 : decode cX6_portTo 16 = .ok (.imul, 1) := by decide +kernel
theorem dX6_portTo_17 : decode cX6_portTo 17 = .ok (.iload_n 2, 1) := by decide +kernel
theorem dX6_portTo_18 : decode cX6_portTo 18 = .ok (.iadd, 1) := by decide +kernel
theorem dX6_portTo_19 : decode cX6_portTo 19 = .ok (.iaload, 1) := by decide +kernel
theorem dX6_portTo_20 : decode cX6_portTo 20 = .ok (.goto 4, 3) := by decide +kernel
theorem dX6_portTo_23 : decode cX6_portTo 23 = .ok (.iconst (-1), 1) := by decide +kernel
theorem dX6_portTo_24 : decode cX6_portTo 24 = .ok (.ireturn, 1) := by decide +kernel
def d_X6_portTo (x0 : Nat) (x1 : Int32) (x2 : Int32) (G : Hp) : Option (Int32) :=
  bo (d_X8_isIn x2 26 G) fun v2 =>
  if v2 = 0 then
    some (-1)
  else
    gd (hc G x0 = 7) <|
    gd (hc G (hr G x0 4) = 11 ∧ ix ((x1 * 26) + x2) (hl G (hr G x0 4))) <|
    some (hi G (hr G x0 4) ((x1 * 26) + x2).toNatClampNeg)
section
variable {p : Program} {l : Launch} {e : Env} {s : State} {m : MethodId} {args : Array Value} {below : List Frame} {meth : Method} {c : Code} {b0 : Nat} {D : va_G} {E : Nat → ClassId}
set_option maxHeartbeats 4000000 in
set_option maxRecDepth 100000 in
theorem k_X6_portTo (C : Cx p s m args meth c RX6 cX6_portTo 3 (some .int) b0 D E) {rr : Int32} {G : Hp} {x0 : Nat} {x1 : Int32} {x2 : Int32} {ls : Array Slot} {H : Heap} {locs : List Loc} : lx ls 3 [(0, .inr x0), (1, .inl x1), (2, .inl x2)] → Rp b0 D E G H → SS b0 s H locs → d_X6_portTo x0 x1 x2 G = some rr → W p l e (rmd 1 (0) (0)) s m args below meth c H locs (0) (0) (MQ below (CQ b0 D E (some (.int rr)) G) args s (0) (0) (fun q => b0 ≤ q)) (F0 m 0 ls []) := by
  intro hL hR hS hd
  unfold d_X6_portTo at hd
  have hx := C.1
  have hb := C.2.1
  refine x_iload_n C dX6_portTo_0 hL 2 rfl ?_
  refine lv_bipush (v := 26) hx hb dX6_portTo_1 (by decide) ?_
  obtain ⟨v2, h1, hd⟩ := bo_ex hd
  refine r_callSN (As := [.int x2, .int 26]) C (ct_X8_isIn h1) mf_X8_isIn (by decide +kernel) ms_X8_isIn rfl ⟨Nat.le_of_ble_eq_true rfl, Nat.le_of_ble_eq_true rfl⟩ dX6_portTo_3 (lx_size hL) rfl hR hS ⟨Nat.le_refl _, Nat.le_refl _⟩ (cat_le [] (Nat.le_of_ble_eq_true rfl)) (fun H locs hR hS => ?_)
  refine W_st (st2 := [.int v2]) rfl ?_
  refine lv_if_eq (tgt := 23) hx hb dX6_portTo_6 (by decide) (fun c3 => ?_) (fun c3 => ?_)
  · rw [if_pos c3] at hd
    refine lv_iconst (v := (-1)) hx hb dX6_portTo_23 (by decide) ?_
    cases hd
    exact r_iret C dX6_portTo_24 hR hS
  · rw [if_neg c3] at hd
    refine x_aload_n C dX6_portTo_9 hL 0 rfl ?_
    obtain ⟨g4, hd⟩ := gd_ex hd
    refine r_getr (ci := 6) (k := 4) C fl_X6_35 rfl dX6_portTo_10 hR g4 ?_
    refine x_iload_n C dX6_portTo_13 hL 1 rfl ?_
    refine lv_bipush (v := 26) hx hb dX6_portTo_14 (by decide) ?_
    refine lv_imul hx hb dX6_portTo_16 ?_
    refine x_iload_n C dX6_portTo_17 hL 2 rfl ?_
    refine lv_iadd hx hb dX6_portTo_18 ?_
    obtain ⟨g5, hd⟩ := gd_ex hd
    refine r_iald C dX6_portTo_19 hR g5 ?_
    refine lv_goto (tgt := 24) hx hb dX6_portTo_20 (by decide) ?_
    cases hd
    exact r_iret C dX6_portTo_24 hR hS
end
set_option maxHeartbeats 4000000 in
set_option maxRecDepth 100000 in
theorem ct_X6_portTo {l : Launch} {b0 : Nat} {D : va_G} {E : Nat → ClassId} {G : Hp} {a0 : Nat} {a1 : Int32} {a2 : Int32} {rr : Int32} (hd : d_X6_portTo a0 a1 a2 G = some rr) : CT l yX6_portTo cX6_portTo 3 (some .int) 1 0 0 b0 D E [rv a0, .int a1, .int a2] G (some (.int rr)) G := by
  refine CT_of (by decide +kernel) ?_
  intro p e s m below meth c C hnm hR
  refine r_entry [.inr a0, .inl a1, .inl a2] (n := 3) (Nat.le_of_ble_eq_true rfl) (lv := [(0, .inr a0), (1, .inl a1), (2, .inl a2)]) rfl (fun ls hL => ?_)
  exact k_X6_portTo C (lx_sub hL [0, 1, 2] rfl) hR ⟨fun _ _ => rfl, fun _ h => by cases h⟩ hd
