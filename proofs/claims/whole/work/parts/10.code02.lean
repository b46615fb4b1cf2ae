/-! GroveWorks$Tree.portToSource(I)I pure -/
theorem dX5_portToSource_0 : decode cX5_portToSource 0 = .ok (.aload_n 0, 1) := by decide +kernel
theorem dX5_portToSource_1 : decode cX5_portToSource 1 = .ok (.getfield 50, 3) := by decide +kernel
theorem dX5_portToSource_4 : decode cX5_portToSource 4 = .ok (.getfield 75, 3) := by decide +kernel
theorem dX5_portToSource_7 : decode cX5_portToSource 7 = .ok (.aload_n 0, 1) := by decide +kernel
theorem dX5_portToSource_8 : decode cX5_portToSource 8 = .ok (.getfield 54, 3) := by decide +kernel
theorem dX5_portToSource_11 : decode cX5_portToSource 11 = .ok (.aload_n 0, 1) := by decide +kernel
theorem dX5_portToSource_12 : decode cX5_portToSource 12 = .ok (.getfield 50, 3) := by decide +kernel
theorem dX5_portToSource_15 : decode cX5_portToSource 15 = .ok (.iload_n 1, 1) := by decide +kernel
theorem dX5_portToSource_16 : decode cX5_portToSource 16 = .ok (.invokevirtual 79, 3) := by decide +kernel
theorem dX5_portToSource_19 : decode cX5_portToSource 19 = .ok (.invokevirtual 83, 3) := by decide +kernel
theorem dX5_portToSource_22 : decode cX5_portToSource 22 = .ok (.ireturn, 1) := by decide +kernel
def d_X5_portToSource (x0 : Nat) (x1 : Int32) (G : Hp) : Option (Int32) :=
  gd (hc G x0 = 6) <|
  gd (hc G (hr G x0 0) = 3) <|
  bo (d_X2_targetOf (hr G x0 0) x1 G) fun v4 =>
  gd (hc G (hr G (hr G x0 0) 1) = 7) <|
  bo (d_X6_portTo (hr G (hr G x0 0) 1) (hi G x0 1) v4 G) fun v7 =>
  some v7
section
variable {p : Program} {l : Launch} {e : Env} {s : State} {m : MethodId} {args : Array Value} {below : List Frame} {meth : Method} {c : Code} {b0 : Nat} {D : va_G} {E : Nat → ClassId}
set_option maxHeartbeats 4000000 in
set_option maxRecDepth 100000 in
theorem k_X5_portToSource (C : Cx p s m args meth c RX5 cX5_portToSource 2 (some .int) b0 D E) {rr : Int32} {G : Hp} {x0 : Nat} {x1 : Int32} {ls : Array Slot} {H : Heap} {locs : List Loc} : lx ls 2 [(0, .inr x0), (1, .inl x1)] → Rp b0 D E G H → SS b0 s H locs → d_X5_portToSource x0 x1 G = some rr → W p l e (rmd 2 (0) (0)) s m args below meth c H locs (0) (0) (MQ below (CQ b0 D E (some (.int rr)) G) args s (0) (0) (fun q => b0 ≤ q)) (F0 m 0 ls []) := by
  intro hL hR hS hd
  unfold d_X5_portToSource at hd
  have hx := C.1
  have hb := C.2.1
  refine x_aload_n C dX5_portToSource_0 hL 0 rfl ?_
  obtain ⟨g1, hd⟩ := gd_ex hd
  refine r_getr (ci := 5) (k := 0) C fl_X5_50 rfl dX5_portToSource_1 hR g1 ?_
  obtain ⟨g2, hd⟩ := gd_ex hd
  refine r_getr (ci := 2) (k := 1) C fl_X5_75 rfl dX5_portToSource_4 hR g2 ?_
  refine x_aload_n C dX5_portToSource_7 hL 0 rfl ?_
  refine r_geti (ci := 5) (k := 1) C fl_X5_54 rfl dX5_portToSource_8 hR g1 ?_
  refine x_aload_n C dX5_portToSource_11 hL 0 rfl ?_
  refine r_getr (ci := 5) (k := 0) C fl_X5_50 rfl dX5_portToSource_12 hR g1 ?_
  refine x_iload_n C dX5_portToSource_15 hL 1 rfl ?_
  obtain ⟨v4, h3, hd⟩ := bo_ex hd
  refine r_callV (a := (hr G x0 0)) (ci := 2) (As := [.int x1]) C (ct_X2_targetOf h3) mf_X2_targetOf ml_X5_79 mv_X2_targetOf rfl ⟨Nat.le_of_ble_eq_true rfl, Nat.le_of_ble_eq_true rfl⟩ dX5_portToSource_16 (lx_size hL) rfl hR hS g2 ⟨Nat.le_refl _, Nat.le_refl _⟩ (cat_le [.inl (hi G x0 1), .inr (hr G (hr G x0 0) 1)] (Nat.le_of_ble_eq_true rfl)) (fun H locs hR hS => ?_)
  refine W_st (st2 := [.int v4, .int (hi G x0 1), rv (hr G (hr G x0 0) 1)]) rfl ?_
  obtain ⟨g5, hd⟩ := gd_ex hd
  obtain ⟨v7, h6, hd⟩ := bo_ex hd
  refine r_callV (a := (hr G (hr G x0 0) 1)) (ci := 6) (As := [.int (hi G x0 1), .int v4]) C (ct_X6_portTo h6) mf_X6_portTo ml_X5_83 mv_X6_portTo rfl ⟨Nat.le_of_ble_eq_true rfl, Nat.le_of_ble_eq_true rfl⟩ dX5_portToSource_19 (lx_size hL) rfl hR hS g5 ⟨Nat.le_refl _, Nat.le_refl _⟩ (cat_le [] (Nat.le_of_ble_eq_true rfl)) (fun H locs hR hS => ?_)
  refine W_st (st2 := [.int v7]) rfl ?_
  cases hd
  exact r_iret C dX5_portToSource_22 hR hS
end
set_option maxHeartbeats 4000000 in
set_option maxRecDepth 100000 in
theorem ct_X5_portToSource {l : Launch} {b0 : Nat} {D : va_G} {E : Nat → ClassId} {G : Hp} {a0 : Nat} {a1 : Int32} {rr : Int32} (hd : d_X5_portToSource a0 a1 G = some rr) : CT l yX5_portToSource cX5_portToSource 2 (some .int) 2 0 0 b0 D E [rv a0, .int a1] G (some (.int rr)) G := by
  refine CT_of (by decide +kernel) ?_
  intro p e s m below meth c C hnm hR
  refine r_entry [.inr a0, .inl a1] (n := 2) (Nat.le_of_ble_eq_true rfl) (lv := [(0, .inr a0), (1, .inl a1)]) rfl (fun ls hL => ?_)
  exact k_X5_portToSource C (lx_sub hL [0, 1] rfl) hR ⟨fun _ _ => rfl, fun _ h => by cases h⟩ hd

/-! GroveWorks$Ways.isDirect(II)Z pure -/
theorem dX6_isDirect_0 : decode cX6_isDirect 0 = .ok (.iload_n 2, 1) := by decide +kernel
theorem dX6_isDirect_1 : decode cX6_isDirect 1 = .ok (.bipush 26, 2) := by decide +kernel
theorem dX6_isDirect_3 : decode cX6_isDirect 3 = .ok (.invokestatic 41, 3) := by decide +kernel
theorem dX6_isDirect_6 : decode cX6_isDirect 6 = .ok (.ifCond .eq 37, 3) := by decide +kernel
theorem dX6_isDirect_9 : decode cX6_isDirect 9 = .ok (.aload_n 0, 1) := by decide +kernel
theorem dX6_isDirect_10 : decode cX6_isDirect 10 = .ok (.getfield 35, 3) := by decide +kernel
theorem dX6_isDirect_13 : decode cX6_isDirect 13 = .ok (.iload_n 1, 1) := by decide +kernel
theorem dX6_isDirect_14 : decode cX6_isDirect 14 = .ok (.bipush 26, 2) := by decide +kernel
theorem dX6_isDirect_16 : decode cX6_isDirect 16 = .ok (.imul, 1) := by decide +kernel
theorem dX6_isDirect_17 : decode cX6_isDirect 17 = .ok (.iload_n 2, 1) := by decide +kernel
theorem dX6_isDirect_18 : decode cX6_isDirect 18 = .ok (.iadd, 1) := by decide +kernel
theorem dX6_isDirect_19 : decode cX6_isDirect 19 = .ok (.iaload, 1) := by decide +kernel
theorem dX6_isDirect_20 : decode cX6_isDirect 20 = .ok (.iconst (-1), 1) := by decide +kernel
theorem dX6_isDirect_21 : decode cX6_isDirect 21 = .ok (.if_icmp .eq 22, 3) := by decide +kernel
theorem dX6_isDirect_24 : decode cX6_isDirect 24 = .ok (.aload_n 0, 1) := by decide +kernel
theorem dX6_isDirect_25 : decode cX6_isDirect 25 = .ok (.getfield 38, 3) := by decide +kernel
theorem dX6_isDirect_28 : decode cX6_isDirect 28 = .ok (.iload_n 1, 1) := by decide +kernel
theorem dX6_isDirect_29 : decode cX6_isDirect 29 = .ok (.bipush 26, 2) := by decide +kernel
theorem dX6_isDirect_31 : decode cX6_isDirect 31 = .ok (.imul, 1) := by decide +kernel
theorem dX6_isDirect_32 : decode cX6_isDirect 32 = .ok (.iload_n 2, 1) := by decide +kernel
theorem dX6_isDirect_33 : decode cX6_isDirect 33 = .ok (.iadd, 1) := by decide +kernel
theorem dX6_isDirect_34 : decode cX6_isDirect 34 = .ok (.iaload, 1) := by decide +kernel
theorem dX6_isDirect_35 : decode cX6_isDirect 35 = .ok (.iconst (-1), 1) := by decide +kernel
theorem dX6_isDirect_36 : decode cX6_isDirect 36 = .ok (.if_icmp .ne 7, 3) := by decide +kernel
theorem dX6_isDirect_39 : decode cX6_isDirect 39 = .ok (.iconst 1, 1) := by decide +kernel
theorem dX6_isDirect_40 : decode cX6_isDirect 40 = .ok (.goto 4, 3) := by decide +kernel
theorem dX6_isDirect_43 : decode cX6_isDirect 43 = .ok (.iconst 0, 1) := by decide +kernel
theorem dX6_isDirect_44 : decode cX6_isDirect 44 = .ok (.ireturn, 1) := by decide +kernel
def d_X6_isDirect (x0 : Nat) (x1 : Int32) (x2 : Int32) (G : Hp) : Option (Int32) :=
  bo (d_X8_isIn x2 26 G) fun v2 =>
  if v2 = 0 then
    some 0
  else
    gd (hc G x0 = 7) <|
    gd (hc G (hr G x0 4) = 11 ∧ ix ((x1 * 26) + x2) (hl G (hr G x0 4))) <|
    if (hi G (hr G x0 4) ((x1 * 26) + x2).toNatClampNeg) = (-1) then
      some 0
    else
      gd (hc G (hr G x0 5) = 11 ∧ ix ((x1 * 26) + x2) (hl G (hr G x0 5))) <|
      if (hi G (hr G x0 5) ((x1 * 26) + x2).toNatClampNeg) = (-1) then
        some 1
      else
        some 0
section
variable {p : Program} {l : Launch} {e : Env} {s : State} {m : MethodId} {args : Array Value} {below : List Frame} {meth : Method} {c : Code} {b0 : Nat} {D : va_G} {E : Nat → ClassId}
set_option maxHeartbeats 4000000 in
set_option maxRecDepth 100000 in
theorem k_X6_isDirect (C : Cx p s m args meth c RX6 cX6_isDirect 3 (some .boolean) b0 D E) {rr : Int32} {G : Hp} {x0 : Nat} {x1 : Int32} {x2 : Int32} {ls : Array Slot} {H : Heap} {locs : List Loc} : lx ls 3 [(0, .inr x0), (1, .inl x1), (2, .inl x2)] → Rp b0 D E G H → SS b0 s H locs → d_X6_isDirect x0 x1 x2 G = some rr → W p l e (rmd 1 (0) (0)) s m args below meth c H locs (0) (0) (MQ below (CQ b0 D E (some (.int rr)) G) args s (0) (0) (fun q => b0 ≤ q)) (F0 m 0 ls []) := by
  intro hL hR hS hd
  unfold d_X6_isDirect at hd
  have hx := C.1
  have hb := C.2.1
  refine x_iload_n C dX6_isDirect_0 hL 2 rfl ?_
  refine lv_bipush (v := 26) hx hb dX6_isDirect_1 (by decide) ?_
  obtain ⟨v2, h1, hd⟩ := bo_ex hd
  refine r_callSN (As := [.int x2, .int 26]) C (ct_X8_isIn h1) mf_X8_isIn (by decide +kernel) ms_X8_isIn rfl ⟨Nat.le_of_ble_eq_true rfl, Nat.le_of_ble_eq_true rfl⟩ dX6_isDirect_3 (lx_size hL) rfl hR hS ⟨Nat.le_refl _, Nat.le_refl _⟩ (cat_le [] (Nat.le_of_ble_eq_true rfl)) (fun H locs hR hS => ?_)
  refine W_st (st2 := [.int v2]) rfl ?_
  refine lv_if_eq (tgt := 43) hx hb dX6_isDirect_6 (by decide) (fun c3 => ?_) (fun c3 => ?_)
  · rw [if_pos c3] at hd
    refine lv_iconst (v := 0) hx hb dX6_isDirect_43 (by decide) ?_
    cases hd
    exact r_zret C (by decide) dX6_isDirect_44 hR hS
  · rw [if_neg c3] at hd
    refine x_aload_n C dX6_isDirect_9 hL 0 rfl ?_
    obtain ⟨g4, hd⟩ := gd_ex hd
    refine r_getr (ci := 6) (k := 4) C fl_X6_35 rfl dX6_isDirect_10 hR g4 ?_
    refine x_iload_n C dX6_isDirect_13 hL 1 rfl ?_
    refine lv_bipush (v := 26) hx hb dX6_isDirect_14 (by decide) ?_
    refine lv_imul hx hb dX6_isDirect_16 ?_
    refine x_iload_n C dX6_isDirect_17 hL 2 rfl ?_
    refine lv_iadd hx hb dX6_isDirect_18 ?_
    obtain ⟨g5, hd⟩ := gd_ex hd
    refine r_iald C dX6_isDirect_19 hR g5 ?_
    refine lv_iconst (v := (-1)) hx hb dX6_isDirect_20 (by decide) ?_
    refine lv_icmp_eq (tgt := 43) hx hb dX6_isDirect_21 (by decide) (fun c6 => ?_) (fun c6 => ?_)
    · rw [if_pos c6] at hd
      refine lv_iconst (v := 0) hx hb dX6_isDirect_43 (by decide) ?_
      cases hd
      exact r_zret C (by decide) dX6_isDirect_44 hR hS
    · rw [if_neg c6] at hd
      refine x_aload_n C dX6_isDirect_24 hL 0 rfl ?_
      refine r_getr (ci := 6) (k := 5) C fl_X6_38 rfl dX6_isDirect_25 hR g4 ?_
      refine x_iload_n C dX6_isDirect_28 hL 1 rfl ?_
      refine lv_bipush (v := 26) hx hb dX6_isDirect_29 (by decide) ?_
      refine lv_imul hx hb dX6_isDirect_31 ?_
      refine x_iload_n C dX6_isDirect_32 hL 2 rfl ?_
      refine lv_iadd hx hb dX6_isDirect_33 ?_
      obtain ⟨g7, hd⟩ := gd_ex hd
      refine r_iald C dX6_isDirect_34 hR g7 ?_
      refine lv_iconst (v := (-1)) hx hb dX6_isDirect_35 (by decide) ?_
      refine lv_icmp_ne (tgt := 43) hx hb dX6_isDirect_36 (by decide) (fun c8 => ?_) (fun c8 => ?_)
      · rw [if_neg c8] at hd
        refine lv_iconst (v := 0) hx hb dX6_isDirect_43 (by decide) ?_
        cases hd
        exact r_zret C (by decide) dX6_isDirect_44 hR hS
      · rw [if_pos c8] at hd
        refine lv_iconst (v := 1) hx hb dX6_isDirect_39 (by decide) ?_
        refine lv_goto (tgt := 44) hx hb dX6_isDirect_40 (by decide) ?_
        cases hd
        exact r_zret C (by decide) dX6_isDirect_44 hR hS
end
set_option maxHeartbeats 4000000 in
set_option maxRecDepth 100000 in
theorem ct_X6_isDirect {l : Launch} {b0 : Nat} {D : va_G} {E : Nat → ClassId} {G : Hp} {a0 : Nat} {a1 : Int32} {a2 : Int32} {rr : Int32} (hd : d_X6_isDirect a0 a1 a2 G = some rr) : CT l yX6_isDirect cX6_isDirect 3 (some .boolean) 1 0 0 b0 D E [rv a0, .int a1, .int a2] G (some (.int rr)) G := by
  refine CT_of (by decide +kernel) ?_
  intro p e s m below meth c C hnm hR
  refine r_entry [.inr a0, .inl a1, .inl a2] (n := 3) (Nat.le_of_ble_eq_true rfl) (lv := [(0, .inr a0), (1, .inl a1), (2, .inl a2)]) rfl (fun ls hL => ?_)
  exact k_X6_isDirect C (lx_sub hL [0, 1, 2] rfl) hR ⟨fun _ _ => rfl, fun _ h => by cases h⟩ hd

/-! GroveWorks$Tree.isDirect(I)Z pure -/
theorem dX5_isDirect_0 : decode cX5_isDirect 0 = .ok (.aload_n 0, 1) := by decide +kernel
theorem dX5_isDirect_1 : decode cX5_isDirect 1 = .ok (.getfield 50, 3) := by decide +kernel
theorem dX5_isDirect_4 : decode cX5_isDirect 4 = .ok (.getfield 75, 3) := by decide +kernel
theorem dX5_isDirect_7 : decode cX5_isDirect 7 = .ok (.aload_n 0, 1) := by decide +kernel
theorem dX5_isDirect_8 : decode cX5_isDirect 8 = .ok (.getfield 54, 3) := by decide +kernel
theorem dX5_isDirect_11 : decode cX5_isDirect 11 = .ok (.aload_n 0, 1) := by decide +kernel
theorem dX5_isDirect_12 : decode cX5_isDirect 12 = .ok (.getfield 50, 3) := by decide +kernel
theorem dX5_isDirect_15 : decode cX5_isDirect 15 = .ok (.iload_n 1, 1) := by decide +kernel
theorem dX5_isDirect_16 : decode cX5_isDirect 16 = .ok (.invokevirtual 79, 3) := by decide +kernel
theorem dX5_isDirect_19 : decode cX5_isDirect 19 = .ok (.invokevirtual 89, 3) := by decide +kernel
theorem dX5_isDirect_22 : decode cX5_isDirect 22 = .ok (.ireturn, 1) := by decide +kernel
def d_X5_isDirect (x0 : Nat) (x1 : Int32) (G : Hp) : Option (Int32) :=
  gd (hc G x0 = 6) <|
  gd (hc G (hr G x0 0) = 3) <|
  bo (d_X2_targetOf (hr G x0 0) x1 G) fun v4 =>
  gd (hc G (hr G (hr G x0 0) 1) = 7) <|
  bo (d_X6_isDirect (hr G (hr G x0 0) 1) (hi G x0 1) v4 G) fun v7 =>
  gd (v7 &&& 1 = v7) <|
  some v7
section
variable {p : Program} {l : Launch} {e : Env} {s : State} {m : MethodId} {args : Array Value} {below : List Frame} {meth : Method} {c : Code} {b0 : Nat} {D : va_G} {E : Nat → ClassId}
set_option maxHeartbeats 4000000 in
set_option maxRecDepth 100000 in
theorem k_X5_isDirect (C : Cx p s m args meth c RX5 cX5_isDirect 2 (some .boolean) b0 D E) {rr : Int32} {G : Hp} {x0 : Nat} {x1 : Int32} {ls : Array Slot} {H : Heap} {locs : List Loc} : lx ls 2 [(0, .inr x0), (1, .inl x1)] → Rp b0 D E G H → SS b0 s H locs → d_X5_isDirect x0 x1 G = some rr → W p l e (rmd 2 (0) (0)) s m args below meth c H locs (0) (0) (MQ below (CQ b0 D E (some (.int rr)) G) args s (0) (0) (fun q => b0 ≤ q)) (F0 m 0 ls []) := by
  intro hL hR hS hd
  unfold d_X5_isDirect at hd
  have hx := C.1
  have hb := C.2.1
  refine x_aload_n C dX5_isDirect_0 hL 0 rfl ?_
  obtain ⟨g1, hd⟩ := gd_ex hd
  refine r_getr (ci := 5) (k := 0) C fl_X5_50 rfl dX5_isDirect_1 hR g1 ?_
  obtain ⟨g2, hd⟩ := gd_ex hd
  refine r_getr (ci := 2) (k := 1) C fl_X5_75 rfl dX5_isDirect_4 hR g2 ?_
  refine x_aload_n C dX5_isDirect_7 hL 0 rfl ?_
  refine r_geti (ci := 5) (k := 1) C fl_X5_54 rfl dX5_isDirect_8 hR g1 ?_
  refine x_aload_n C dX5_isDirect_11 hL 0 rfl ?_
  refine r_getr (ci := 5) (k := 0) C fl_X5_50 rfl dX5_isDirect_12 hR g1 ?_
  refine x_iload_n C dX5_isDirect_15 hL 1 rfl ?_
  obtain ⟨v4, h3, hd⟩ := bo_ex hd
  refine r_callV (a := (hr G x0 0)) (ci := 2) (As := [.int x1]) C (ct_X2_targetOf h3) mf_X2_targetOf ml_X5_79 mv_X2_targetOf rfl ⟨Nat.le_of_ble_eq_true rfl, Nat.le_of_ble_eq_true rfl⟩ dX5_isDirect_16 (lx_size hL) rfl hR hS g2 ⟨Nat.le_refl _, Nat.le_refl _⟩ (cat_le [.inl (hi G x0 1), .inr (hr G (hr G x0 0) 1)] (Nat.le_of_ble_eq_true rfl)) (fun H locs hR hS => ?_)
  refine W_st (st2 := [.int v4, .int (hi G x0 1), rv (hr G (hr G x0 0) 1)]) rfl ?_
  obtain ⟨g5, hd⟩ := gd_ex hd
  obtain ⟨v7, h6, hd⟩ := bo_ex hd
  refine r_callV (a := (hr G (hr G x0 0) 1)) (ci := 6) (As := [.int (hi G x0 1), .int v4]) C (ct_X6_isDirect h6) mf_X6_isDirect ml_X5_89 mv_X6_isDirect rfl ⟨Nat.le_of_ble_eq_true rfl, Nat.le_of_ble_eq_true rfl⟩ dX5_isDirect_19 (lx_size hL) rfl hR hS g5 ⟨Nat.le_refl _, Nat.le_refl _⟩ (cat_le [] (Nat.le_of_ble_eq_true rfl)) (fun H locs hR hS => ?_)
  refine W_st (st2 := [.int v7]) rfl ?_
  obtain ⟨g8, hd⟩ := gd_ex hd
  cases hd
  exact r_zret C g8 dX5_isDirect_22 hR hS
end
set_option maxHeartbeats 4000000 in
set_option maxRecDepth 100000 in
theorem ct_X5_isDirect {l : Launch} {b0 : Nat} {D : va_G} {E : Nat → ClassId} {G : Hp} {a0 : Nat} {a1 : Int32} {rr : Int32} (hd : d_X5_isDirect a0 a1 G = some rr) : CT l yX5_isDirect cX5_isDirect 2 (some .boolean) 2 0 0 b0 D E [rv a0, .int a1] G (some (.int rr)) G := by
  refine CT_of (by decide +kernel) ?_
  intro p e s m below meth c C hnm hR
  refine r_entry [.inr a0, .inl a1] (n := 2) (Nat.le_of_ble_eq_true rfl) (lv := [(0, .inr a0), (1, .inl a1)]) rfl (fun ls hL => ?_)
  exact k_X5_isDirect C (lx_sub hL [0, 1] rfl) hR ⟨fun _ _ => rfl, fun _ h => by cases h⟩ hd

/-! GroveWorks$Tree.isStraight(I)Z pure -/
theorem dX5_isStraight_0 : decode cX5_isStraight 0 = .ok (.aload_n 0, 1) := by decide +kernel
theorem dX5_isStraight_1 : decode cX5_isStraight 1 = .ok (.getfield 31, 3) := by decide +kernel
theorem dX5_isStraight_4 : decode cX5_isStraight 4 = .ok (.iload_n 1, 1) := by decide +kernel
theorem dX5_isStraight_5 : decode cX5_isStraight 5 = .ok (.iaload, 1) := by decide +kernel
theorem dX5_isStraight_6 : decode cX5_isStraight 6 = .ok (.iconst (-1), 1) := by decide +kernel
theorem dX5_isStraight_7 : decode cX5_isStraight 7 = .ok (.if_icmp .eq 7, 3) := by decide +kernel
theorem dX5_isStraight_10 : decode cX5_isStraight 10 = .ok (.iconst 1, 1) := by decide +kernel
theorem dX5_isStraight_11 : decode cX5_isStraight 11 = .ok (.goto 4, 3) := by decide +kernel
theorem dX5_isStraight_14 : decode cX5_isStraight 14 = .ok (.iconst 0, 1) := by decide +kernel
theorem dX5_isStraight_15 : decode cX5_isStraight 15 = .ok (.ireturn, 1) := by decide +kernel
def d_X5_isStraight (x0 : Nat) (x1 : Int32) (G : Hp) : Option (Int32) :=
  gd (hc G x0 = 6) <|
  gd (hc G (hr G x0 10) = 11 ∧ ix x1 (hl G (hr G x0 10))) <|
  if (hi G (hr G x0 10) x1.toNatClampNeg) = (-1) then
    some 0
  else
    some 1
section
variable {p : Program} {l : Launch} {e : Env} {s : State} {m : MethodId} {args : Array Value} {below : List Frame} {meth : Method} {c : Code} {b0 : Nat} {D : va_G} {E : Nat → ClassId}
set_option maxHeartbeats 4000000 in
set_option maxRecDepth 100000 in
theorem k_X5_isStraight (C : Cx p s m args meth c RX5 cX5_isStraight 2 (some .boolean) b0 D E) {rr : Int32} {G : Hp} {x0 : Nat} {x1 : Int32} {ls : Array Slot} {H : Heap} {locs : List Loc} : lx ls 2 [(0, .inr x0), (1, .inl x1)] → Rp b0 D E G H → SS b0 s H locs → d_X5_isStraight x0 x1 G = some rr → W p l e (rmd 0 (0) (0)) s m args below meth c H locs (0) (0) (MQ below (CQ b0 D E (some (.int rr)) G) args s (0) (0) (fun q => b0 ≤ q)) (F0 m 0 ls []) := by
  intro hL hR hS hd
  unfold d_X5_isStraight at hd
  have hx := C.1
  have hb := C.2.1
  refine x_aload_n C dX5_isStraight_0 hL 0 rfl ?_
  obtain ⟨g1, hd⟩ := gd_ex hd
  refine r_getr (ci := 5) (k := 10) C fl_X5_31 rfl dX5_isStraight_1 hR g1 ?_
  refine x_iload_n C dX5_isStraight_4 hL 1 rfl ?_
  obtain ⟨g2, hd⟩ := gd_ex hd
  refine r_iald C dX5_isStraight_5 hR g2 ?_
  refine lv_iconst (v := (-1)) hx hb dX5_isStraight_6 (by decide) ?_
  refine lv_icmp_eq (tgt := 14) hx hb dX5_isStraight_7 (by decide) (fun c3 => ?_) (fun c3 => ?_)
  · rw [if_pos c3] at hd
    refine lv_iconst (v := 0) hx hb dX5_isStraight_14 (by decide) ?_
    cases hd
    exact r_zret C (by decide) dX5_isStraight_15 hR hS
  · rw [if_neg c3] at hd
    refine lv_iconst (v := 1) hx hb dX5_isStraight_10 (by decide) ?_
    refine lv_goto (tgt := 15) hx hb dX5_isStraight_11 (by decide) ?_
    cases hd
    exact r_zret C (by decide) dX5_isStraight_15 hR hS
end
set_option maxHeartbeats 4000000 in
set_option maxRecDepth 100000 in
theorem ct_X5_isStraight {l : Launch} {b0 : Nat} {D : va_G} {E : Nat → ClassId} {G : Hp} {a0 : Nat} {a1 : Int32} {rr : Int32} (hd : d_X5_isStraight a0 a1 G = some rr) : CT l yX5_isStraight cX5_isStraight 2 (some .boolean) 0 0 0 b0 D E [rv a0, .int a1] G (some (.int rr)) G := by
  refine CT_of (by decide +kernel) ?_
  intro p e s m below meth c C hnm hR
  refine r_entry [.inr a0, .inl a1] (n := 2) (Nat.le_of_ble_eq_true rfl) (lv := [(0, .inr a0), (1, .inl a1)]) rfl (fun ls hL => ?_)
  exact k_X5_isStraight C (lx_sub hL [0, 1] rfl) hR ⟨fun _ _ => rfl, fun _ h => by cases h⟩ hd

/-! GroveWorks$Ways.distanceTo(II)I pure -/
theorem dX6_distanceTo_0 : decode cX6_distanceTo 0 = .ok (.iload_n 2, 1) := by decide +kernel
theorem dX6_distanceTo_1 : decode cX6_distanceTo 1 = .ok (.bipush 26, 2) := by decide +kernel
theorem dX6_distanceTo_3 : decode cX6_distanceTo 3 = .ok (.invokestatic 41, 3) := by decide +kernel
theorem dX6_distanceTo_6 : decode cX6_distanceTo 6 = .ok (.ifCond .eq 17, 3) := by decide +kernel
theorem dX6_distanceTo_9 : decode cX6_distanceTo 9 = .ok (.aload_n 0, 1) := by decide +kernel
theorem dX6_distanceTo_10 : decode cX6_distanceTo 10 = .ok (.getfield 32, 3) := by decide +kernel
theorem dX6_distanceTo_13 : decode cX6_distanceTo 13 = .ok (.iload_n 1, 1) := by decide +kernel
theorem dX6_distanceTo_14 : decode cX6_distanceTo 14 = .ok (.bipush 26, 2) := by decide +kernel
theorem dX6_distanceTo_16 : decode cX6_distanceTo 16 = .ok (.imul, 1) := by decide +kernel
theorem dX6_distanceTo_17 : decode cX6_distanceTo 17 = .ok (.iload_n 2, 1) := by decide +kernel
theorem dX6_distanceTo_18 : decode cX6_distanceTo 18 = .ok (.iadd, 1) := by decide +kernel
theorem dX6_distanceTo_19 : decode cX6_distanceTo 19 = .ok (.iaload, 1) := by decide +kernel
theorem dX6_distanceTo_20 : decode cX6_distanceTo 20 = .ok (.goto 6, 3) := by decide +kernel
theorem dX6_distanceTo_23 : decode cX6_distanceTo 23 = .ok (.sipush 9999, 3) := by decide +kernel
theorem dX6_distanceTo_26 : decode cX6_distanceTo 26 = .ok (.ireturn, 1) := by decide +kernel
def d_X6_distanceTo (x0 : Nat) (x1 : Int32) (x2 : Int32) (G : Hp) : Option (Int32) :=
  bo (d_X8_isIn x2 26 G) fun v2 =>
  if v2 = 0 then
    some 9999
  else
    gd (hc G x0 = 7) <|
    gd (hc G (hr G x0 3) = 11 ∧ ix ((x1 * 26) + x2) (hl G (hr G x0 3))) <|
    some (hi G (hr G x0 3) ((x1 * 26) + x2).toNatClampNeg)
section
variable {p : Program} {l : Launch} {e : Env} {s : State} {m : MethodId} {args : Array Value} {below : List Frame} {meth : Method} {c : Code} {b0 : Nat} {D : va_G} {E : Nat → ClassId}
set_option maxHeartbeats 4000000 in
set_option maxRecDepth 100000 in
theorem k_X6_distanceTo (C : Cx p s m args meth c RX6 cX6_distanceTo 3 (some .int) b0 D E) {rr : Int32} {G : Hp} {x0 : Nat} {x1 : Int32} {x2 : Int32} {ls : Array Slot} {H : Heap} {locs : List Loc} : lx ls 3 [(0, .inr x0), (1, .inl x1), (2, .inl x2)] → Rp b0 D E G H → SS b0 s H locs → d_X6_distanceTo x0 x1 x2 G = some rr → W p l e (rmd 1 (0) (0)) s m args below meth c H locs (0) (0) (MQ below (CQ b0 D E (some (.int rr)) G) args s (0) (0) (fun q => b0 ≤ q)) (F0 m 0 ls []) := by
  intro hL hR hS hd
  unfold d_X6_distanceTo at hd
  have hx := C.1
  have hb := C.2.1
  refine x_iload_n C dX6_distanceTo_0 hL 2 rfl ?_
  refine lv_bipush (v := 26) hx hb dX6_distanceTo_1 (by decide) ?_
  obtain ⟨v2, h1, hd⟩ := bo_ex hd
  refine r_callSN (As := [.int x2, .int 26]) C (ct_X8_isIn h1) mf_X8_isIn (by decide +kernel) ms_X8_isIn rfl ⟨Nat.le_of_ble_eq_true rfl, Nat.le_of_ble_eq_true rfl⟩ dX6_distanceTo_3 (lx_size hL) rfl hR hS ⟨Nat.le_refl _, Nat.le_refl _⟩ (cat_le [] (Nat.le_of_ble_eq_true rfl)) (fun H locs hR hS => ?_)
  refine W_st (st2 := [.int v2]) rfl ?_
  refine lv_if_eq (tgt := 23) hx hb dX6_distanceTo_6 (by decide) (fun c3 => ?_) (fun c3 => ?_)
  · rw [if_pos c3] at hd
    refine lv_sipush (v := 9999) hx hb dX6_distanceTo_23 (by decide) ?_
    cases hd
    exact r_iret C dX6_distanceTo_26 hR hS
  · rw [if_neg c3] at hd
    refine x_aload_n C dX6_distanceTo_9 hL 0 rfl ?_
    obtain ⟨g4, hd⟩ := gd_ex hd
    refine r_getr (ci := 6) (k := 3) C fl_X6_32 rfl dX6_distanceTo_10 hR g4 ?_
    refine x_iload_n C dX6_distanceTo_13 hL 1 rfl ?_
    refine lv_bipush (v := 26) hx hb dX6_distanceTo_14 (by decide) ?_
    refine lv_imul hx hb dX6_distanceTo_16 ?_
    refine x_iload_n C dX6_distanceTo_17 hL 2 rfl ?_
    refine lv_iadd hx hb dX6_distanceTo_18 ?_
    obtain ⟨g5, hd⟩ := gd_ex hd
    refine r_iald C dX6_distanceTo_19 hR g5 ?_
    refine lv_goto (tgt := 26) hx hb dX6_distanceTo_20 (by decide) ?_
    cases hd
    exact r_iret C dX6_distanceTo_26 hR hS
end
set_option maxHeartbeats 4000000 in
set_option maxRecDepth 100000 in
theorem ct_X6_distanceTo {l : Launch} {b0 : Nat} {D : va_G} {E : Nat → ClassId} {G : Hp} {a0 : Nat} {a1 : Int32} {a2 : Int32} {rr : Int32} (hd : d_X6_distanceTo a0 a1 a2 G = some rr) : CT l yX6_distanceTo cX6_distanceTo 3 (some .int) 1 0 0 b0 D E [rv a0, .int a1, .int a2] G (some (.int rr)) G := by
  refine CT_of (by decide +kernel) ?_
  intro p e s m below meth c C hnm hR
  refine r_entry [.inr a0, .inl a1, .inl a2] (n := 3) (Nat.le_of_ble_eq_true rfl) (lv := [(0, .inr a0), (1, .inl a1), (2, .inl a2)]) rfl (fun ls hL => ?_)
  exact k_X6_distanceTo C (lx_sub hL [0, 1, 2] rfl) hR ⟨fun _ _ => rfl, fun _ h => by cases h⟩ hd

/-! GroveWorks$Tree.ownClaim(I)I pure -/
theorem dX5_ownClaim_0 : decode cX5_ownClaim 0 = .ok (.aload_n 0, 1) := by decide +kernel
theorem dX5_ownClaim_1 : decode cX5_ownClaim 1 = .ok (.iload_n 1, 1) := by decide +kernel
theorem dX5_ownClaim_2 : decode cX5_ownClaim 2 = .ok (.invokevirtual 102, 3) := by decide +kernel
theorem dX5_ownClaim_5 : decode cX5_ownClaim 5 = .ok (.ifCond .eq 28, 3) := by decide +kernel
theorem dX5_ownClaim_8 : decode cX5_ownClaim 8 = .ok (.aload_n 0, 1) := by decide +kernel
theorem dX5_ownClaim_9 : decode cX5_ownClaim 9 = .ok (.getfield 50, 3) := by decide +kernel
theorem dX5_ownClaim_12 : decode cX5_ownClaim 12 = .ok (.getfield 75, 3) := by decide +kernel
theorem dX5_ownClaim_15 : decode cX5_ownClaim 15 = .ok (.aload_n 0, 1) := by decide +kernel
theorem dX5_ownClaim_16 : decode cX5_ownClaim 16 = .ok (.getfield 54, 3) := by decide +kernel
theorem dX5_ownClaim_19 : decode cX5_ownClaim 19 = .ok (.aload_n 0, 1) := by decide +kernel
theorem dX5_ownClaim_20 : decode cX5_ownClaim 20 = .ok (.getfield 50, 3) := by decide +kernel
theorem dX5_ownClaim_23 : decode cX5_ownClaim 23 = .ok (.iload_n 1, 1) := by decide +kernel
theorem dX5_ownClaim_24 : decode cX5_ownClaim 24 = .ok (.invokevirtual 79, 3) := by decide +kernel
theorem dX5_ownClaim_27 : decode cX5_ownClaim 27 = .ok (.invokevirtual 105, 3) := by decide +kernel
theorem dX5_ownClaim_30 : decode cX5_ownClaim 30 = .ok (.goto 33, 3) := by decide +kernel
theorem dX5_ownClaim_33 : decode cX5_ownClaim 33 = .ok (.sipush 10000, 3) := by decide +kernel
theorem dX5_ownClaim_36 : decode cX5_ownClaim 36 = .ok (.aload_n 0, 1) := by decide +kernel
theorem dX5_ownClaim_37 : decode cX5_ownClaim 37 = .ok (.getfield 50, 3) := by decide +kernel
theorem dX5_ownClaim_40 : decode cX5_ownClaim 40 = .ok (.getfield 75, 3) := by decide +kernel
theorem dX5_ownClaim_43 : decode cX5_ownClaim 43 = .ok (.aload_n 0, 1) := by decide +kernel
theorem dX5_ownClaim_44 : decode cX5_ownClaim 44 = .ok (.getfield 54, 3) := by decide +kernel
theorem dX5_ownClaim_47 : decode cX5_ownClaim 47 = .ok (.aload_n 0, 1) := by decide +kernel
theorem dX5_ownClaim_48 : decode cX5_ownClaim 48 = .ok (.getfield 50, 3) := by decide +kernel
theorem dX5_ownClaim_51 : decode cX5_ownClaim 51 = .ok (.getfield 70, 3) := by decide +kernel
theorem dX5_ownClaim_54 : decode cX5_ownClaim 54 = .ok (.aload_n 0, 1) := by decide +kernel
theorem dX5_ownClaim_55 : decode cX5_ownClaim 55 = .ok (.getfield 57, 3) := by decide +kernel
theorem dX5_ownClaim_58 : decode cX5_ownClaim 58 = .ok (.iaload, 1) := by decide +kernel
theorem dX5_ownClaim_59 : decode cX5_ownClaim 59 = .ok (.invokevirtual 105, 3) := by decide +kernel
theorem dX5_ownClaim_62 : decode cX5_ownClaim 62 = .ok (.iadd, 1) := by decide +kernel
theorem dX5_ownClaim_63 : decode cX5_ownClaim 63 = .ok (.istore_n 2, 1) := by decide +kernel
theorem dX5_ownClaim_64 : decode cX5_ownClaim 64 = .ok (.iload_n 2, 1) := by decide +kernel
theorem dX5_ownClaim_65 : decode cX5_ownClaim 65 = .ok (.bipush 100, 2) := by decide +kernel
theorem dX5_ownClaim_67 : decode cX5_ownClaim 67 = .ok (.imul, 1) := by decide +kernel
theorem dX5_ownClaim_68 : decode cX5_ownClaim 68 = .ok (.aload_n 0, 1) := by decide +kernel
theorem dX5_ownClaim_69 : decode cX5_ownClaim 69 = .ok (.getfield 54, 3) := by decide +kernel
theorem dX5_ownClaim_72 : decode cX5_ownClaim 72 = .ok (.iadd, 1) := by decide +kernel
theorem dX5_ownClaim_73 : decode cX5_ownClaim 73 = .ok (.ireturn, 1) := by decide +kernel
def d_X5_ownClaim_63 (x0 : Nat) (s0 : Int32) (G : Hp) : Option (Int32) :=
  gd (hc G x0 = 6) <|
  some ((s0 * 100) + (hi G x0 1))
def d_X5_ownClaim (x0 : Nat) (x1 : Int32) (G : Hp) : Option (Int32) :=
  gd (hc G x0 = 6) <|
  bo (d_X5_isStraight x0 x1 G) fun v3 =>
  if v3 = 0 then
    gd (hc G (hr G x0 0) = 3) <|
    gd (hc G (hr G (hr G x0 0) 2) = 11 ∧ ix (hi G x0 2) (hl G (hr G (hr G x0 0) 2))) <|
    gd (hc G (hr G (hr G x0 0) 1) = 7) <|
    bo (d_X6_distanceTo (hr G (hr G x0 0) 1) (hi G x0 1) (hi G (hr G (hr G x0 0) 2) (hi G x0 2).toNatClampNeg) G) fun v9 =>
    d_X5_ownClaim_63 x0 (10000 + v9) G
  else
    gd (hc G (hr G x0 0) = 3) <|
    bo (d_X2_targetOf (hr G x0 0) x1 G) fun v12 =>
    gd (hc G (hr G (hr G x0 0) 1) = 7) <|
    bo (d_X6_distanceTo (hr G (hr G x0 0) 1) (hi G x0 1) v12 G) fun v15 =>
    d_X5_ownClaim_63 x0 v15 G
section
variable {p : Program} {l : Launch} {e : Env} {s : State} {m : MethodId} {args : Array Value} {below : List Frame} {meth : Method} {c : Code} {b0 : Nat} {D : va_G} {E : Nat → ClassId}
set_option maxHeartbeats 4000000 in
set_option maxRecDepth 100000 in
theorem k_X5_ownClaim_63 (C : Cx p s m args meth c RX5 cX5_ownClaim 3 (some .int) b0 D E) {rr : Int32} {G : Hp} {x0 : Nat} {s0 : Int32} {ls : Array Slot} {H : Heap} {locs : List Loc} : lx ls 3 [(0, .inr x0)] → Rp b0 D E G H → SS b0 s H locs → d_X5_ownClaim_63 x0 s0 G = some rr → W p l e (rmd 2 (0) (0)) s m args below meth c H locs (0) (0) (MQ below (CQ b0 D E (some (.int rr)) G) args s (0) (0) (fun q => b0 ≤ q)) (F0 m 63 ls [.int s0]) := by
  intro hL hR hS hd
  unfold d_X5_ownClaim_63 at hd
  have hx := C.1
  have hb := C.2.1
  refine x_istore_n (lv' := [(2, .inl s0), (0, .inr x0)]) C dX5_ownClaim_63 hL (by decide) rfl (fun ls hL => ?_)
  refine x_iload_n C dX5_ownClaim_64 hL 0 rfl ?_
  refine lv_bipush (v := 100) hx hb dX5_ownClaim_65 (by decide) ?_
  refine lv_imul hx hb dX5_ownClaim_67 ?_
  refine x_aload_n C dX5_ownClaim_68 hL 1 rfl ?_
  obtain ⟨g1, hd⟩ := gd_ex hd
  refine r_geti (ci := 5) (k := 1) C fl_X5_54 rfl dX5_ownClaim_69 hR g1 ?_
  refine lv_iadd hx hb dX5_ownClaim_72 ?_
  cases hd
  exact r_iret C dX5_ownClaim_73 hR hS
set_option maxHeartbeats 4000000 in
set_option maxRecDepth 100000 in
theorem k_X5_ownClaim (C : Cx p s m args meth c RX5 cX5_ownClaim 3 (some .int) b0 D E) {rr : Int32} {G : Hp} {x0 : Nat} {x1 : Int32} {ls : Array Slot} {H : Heap} {locs : List Loc} : lx ls 3 [(0, .inr x0), (1, .inl x1)] → Rp b0 D E G H → SS b0 s H locs → d_X5_ownClaim x0 x1 G = some rr → W p l e (rmd 2 (0) (0)) s m args below meth c H locs (0) (0) (MQ below (CQ b0 D E (some (.int rr)) G) args s (0) (0) (fun q => b0 ≤ q)) (F0 m 0 ls []) := by
  intro hL hR hS hd
  unfold d_X5_ownClaim at hd
  have hx := C.1
  have hb := C.2.1
  refine x_aload_n C dX5_ownClaim_0 hL 0 rfl ?_
  refine x_iload_n C dX5_ownClaim_1 hL 1 rfl ?_
  obtain ⟨g1, hd⟩ := gd_ex hd
  obtain ⟨v3, h2, hd⟩ := bo_ex hd
  refine r_callV (a := x0) (ci := 5) (As := [.int x1]) C (ct_X5_isStraight h2) mf_X5_isStraight ml_X5_102 mv_X5_isStraight rfl ⟨Nat.le_of_ble_eq_true rfl, Nat.le_of_ble_eq_true rfl⟩ dX5_ownClaim_2 (lx_size hL) rfl hR hS g1 ⟨Nat.le_refl _, Nat.le_refl _⟩ (cat_le [] (Nat.le_of_ble_eq_true rfl)) (fun H locs hR hS => ?_)
  refine W_st (st2 := [.int v3]) rfl ?_
  refine lv_if_eq (tgt := 33) hx hb dX5_ownClaim_5 (by decide) (fun c4 => ?_) (fun c4 => ?_)
  · rw [if_pos c4] at hd
    refine lv_sipush (v := 10000) hx hb dX5_ownClaim_33 (by decide) ?_
    refine x_aload_n C dX5_ownClaim_36 hL 0 rfl ?_
    refine r_getr (ci := 5) (k := 0) C fl_X5_50 rfl dX5_ownClaim_37 hR g1 ?_
    obtain ⟨g5, hd⟩ := gd_ex hd
    refine r_getr (ci := 2) (k := 1) C fl_X5_75 rfl dX5_ownClaim_40 hR g5 ?_
    refine x_aload_n C dX5_ownClaim_43 hL 0 rfl ?_
    refine r_geti (ci := 5) (k := 1) C fl_X5_54 rfl dX5_ownClaim_44 hR g1 ?_
    refine x_aload_n C dX5_ownClaim_47 hL 0 rfl ?_
    refine r_getr (ci := 5) (k := 0) C fl_X5_50 rfl dX5_ownClaim_48 hR g1 ?_
    refine r_getr (ci := 2) (k := 2) C fl_X5_70 rfl dX5_ownClaim_51 hR g5 ?_
    refine x_aload_n C dX5_ownClaim_54 hL 0 rfl ?_
    refine r_geti (ci := 5) (k := 2) C fl_X5_57 rfl dX5_ownClaim_55 hR g1 ?_
    obtain ⟨g6, hd⟩ := gd_ex hd
    refine r_iald C dX5_ownClaim_58 hR g6 ?_
    obtain ⟨g7, hd⟩ := gd_ex hd
    obtain ⟨v9, h8, hd⟩ := bo_ex hd
    refine r_callV (a := (hr G (hr G x0 0) 1)) (ci := 6) (As := [.int (hi G x0 1), .int (hi G (hr G (hr G x0 0) 2) (hi G x0 2).toNatClampNeg)]) C (ct_X6_distanceTo h8) mf_X6_distanceTo ml_X5_105 mv_X6_distanceTo rfl ⟨Nat.le_of_ble_eq_true rfl, Nat.le_of_ble_eq_true rfl⟩ dX5_ownClaim_59 (lx_size hL) rfl hR hS g7 ⟨Nat.le_refl _, Nat.le_refl _⟩ (cat_le [.inl 10000] (Nat.le_of_ble_eq_true rfl)) (fun H locs hR hS => ?_)
    refine W_st (st2 := [.int v9, .int 10000]) rfl ?_
    refine lv_iadd hx hb dX5_ownClaim_62 ?_
    exact k_X5_ownClaim_63 C (lx_sub hL [0] rfl) hR hS hd
  · rw [if_neg c4] at hd
    refine x_aload_n C dX5_ownClaim_8 hL 0 rfl ?_
    refine r_getr (ci := 5) (k := 0) C fl_X5_50 rfl dX5_ownClaim_9 hR g1 ?_
    obtain ⟨g10, hd⟩ := gd_ex hd
    refine r_getr (ci := 2) (k := 1) C fl_X5_75 rfl dX5_ownClaim_12 hR g10 ?_
    refine x_aload_n C dX5_ownClaim_15 hL 0 rfl ?_
    refine r_geti (ci := 5) (k := 1) C fl_X5_54 rfl dX5_ownClaim_16 hR g1 ?_
    refine x_aload_n C dX5_ownClaim_19 hL 0 rfl ?_
    refine r_getr (ci := 5) (k := 0) C fl_X5_50 rfl dX5_ownClaim_20 hR g1 ?_
    refine x_iload_n C dX5_ownClaim_23 hL 1 rfl ?_
    obtain ⟨v12, h11, hd⟩ := bo_ex hd
    refine r_callV (a := (hr G x0 0)) (ci := 2) (As := [.int x1]) C (ct_X2_targetOf h11) mf_X2_targetOf ml_X5_79 mv_X2_targetOf rfl ⟨Nat.le_of_ble_eq_true rfl, Nat.le_of_ble_eq_true rfl⟩ dX5_ownClaim_24 (lx_size hL) rfl hR hS g10 ⟨Nat.le_refl _, Nat.le_refl _⟩ (cat_le [.inl (hi G x0 1), .inr (hr G (hr G x0 0) 1)] (Nat.le_of_ble_eq_true rfl)) (fun H locs hR hS => ?_)
    refine W_st (st2 := [.int v12, .int (hi G x0 1), rv (hr G (hr G x0 0) 1)]) rfl ?_
    obtain ⟨g13, hd⟩ := gd_ex hd
    obtain ⟨v15, h14, hd⟩ := bo_ex hd
    refine r_callV (a := (hr G (hr G x0 0) 1)) (ci := 6) (As := [.int (hi G x0 1), .int v12]) C (ct_X6_distanceTo h14) mf_X6_distanceTo ml_X5_105 mv_X6_distanceTo rfl ⟨Nat.le_of_ble_eq_true rfl, Nat.le_of_ble_eq_true rfl⟩ dX5_ownClaim_27 (lx_size hL) rfl hR hS g13 ⟨Nat.le_refl _, Nat.le_refl _⟩ (cat_le [] (Nat.le_of_ble_eq_true rfl)) (fun H locs hR hS => ?_)
    refine W_st (st2 := [.int v15]) rfl ?_
    refine lv_goto (tgt := 63) hx hb dX5_ownClaim_30 (by decide) ?_
    exact k_X5_ownClaim_63 C (lx_sub hL [0] rfl) hR hS hd
end
set_option maxHeartbeats 4000000 in
set_option maxRecDepth 100000 in
theorem ct_X5_ownClaim {l : Launch} {b0 : Nat} {D : va_G} {E : Nat → ClassId} {G : Hp} {a0 : Nat} {a1 : Int32} {rr : Int32} (hd : d_X5_ownClaim a0 a1 G = some rr) : CT l yX5_ownClaim cX5_ownClaim 3 (some .int) 2 0 0 b0 D E [rv a0, .int a1] G (some (.int rr)) G := by
  refine CT_of (by decide +kernel) ?_
  intro p e s m below meth c C hnm hR
  refine r_entry [.inr a0, .inl a1] (n := 3) (Nat.le_of_ble_eq_true rfl) (lv := [(0, .inr a0), (1, .inl a1)]) rfl (fun ls hL => ?_)
  exact k_X5_ownClaim C (lx_sub hL [0, 1] rfl) hR ⟨fun _ _ => rfl, fun _ h => by cases h⟩ hd

/-! GroveWorks$Tree.look(I)V -/
theorem dX5_look_0 : decode cX5_look 0 = .ok (.aload_n 0, 1) := by decide +kernel
theorem dX5_look_1 : decode cX5_look 1 = .ok (.aload_n 0, 1) := by decide +kernel
theorem dX5_look_2 : decode cX5_look 2 = .ok (.iload_n 1, 1) := by decide +kernel
theorem dX5_look_3 : decode cX5_look 3 = .ok (.invokevirtual 108, 3) := by decide +kernel
theorem dX5_look_6 : decode cX5_look 6 = .ok (.putfield 34, 3) := by decide +kernel
theorem dX5_look_9 : decode cX5_look 9 = .ok (.aload_n 0, 1) := by decide +kernel
theorem dX5_look_10 : decode cX5_look 10 = .ok (.iconst 0, 1) := by decide +kernel
theorem dX5_look_11 : decode cX5_look 11 = .ok (.putfield 37, 3) := by decide +kernel
theorem dX5_look_14 : decode cX5_look 14 = .ok (.aload_n 0, 1) := by decide +kernel
theorem dX5_look_15 : decode cX5_look 15 = .ok (.iconst 0, 1) := by decide +kernel
theorem dX5_look_16 : decode cX5_look 16 = .ok (.putfield 40, 3) := by decide +kernel
theorem dX5_look_19 : decode cX5_look 19 = .ok (.iconst 0, 1) := by decide +kernel
theorem dX5_look_20 : decode cX5_look 20 = .ok (.istore_n 2, 1) := by decide +kernel
theorem dX5_look_21 : decode cX5_look 21 = .ok (.iconst 0, 1) := by decide +kernel
theorem dX5_look_22 : decode cX5_look 22 = .ok (.istore_n 3, 1) := by decide +kernel
theorem dX5_look_23 : decode cX5_look 23 = .ok (.iload_n 3, 1) := by decide +kernel
theorem dX5_look_24 : decode cX5_look 24 = .ok (.iconst 4, 1) := by decide +kernel
theorem dX5_look_25 : decode cX5_look 25 = .ok (.if_icmp .ge 113, 3) := by decide +kernel
theorem dX5_look_28 : decode cX5_look 28 = .ok (.aload_n 0, 1) := by decide +kernel
theorem dX5_look_29 : decode cX5_look 29 = .ok (.getfield 60, 3) := by decide +kernel
theorem dX5_look_32 : decode cX5_look 32 = .ok (.iload_n 3, 1) := by decide +kernel
theorem dX5_look_33 : decode cX5_look 33 = .ok (.aaload, 1) := by decide +kernel
theorem dX5_look_34 : decode cX5_look 34 = .ok (.astore 4, 2) := by decide +kernel
theorem dX5_look_36 : decode cX5_look 36 = .ok (.aload 4, 2) := by decide +kernel
theorem dX5_look_38 : decode cX5_look 38 = .ok (.ifnonnull 6, 3) := by decide +kernel
theorem dX5_look_41 : decode cX5_look 41 = .ok (.goto 91, 3) := by decide +kernel
theorem dX5_look_44 : decode cX5_look 44 = .ok (.aload 4, 2) := by decide +kernel
theorem dX5_look_46 : decode cX5_look 46 = .ok (.aload_n 0, 1) := by decide +kernel
theorem dX5_look_47 : decode cX5_look 47 = .ok (.getfield 57, 3) := by decide +kernel
theorem dX5_look_50 : decode cX5_look 50 = .ok (.iload_n 1, 1) := by decide +kernel
theorem dX5_look_51 : decode cX5_look 51 = .ok (.aload_n 0, 1) := by decide +kernel
theorem dX5_look_52 : decode cX5_look 52 = .ok (.getfield 34, 3) := by decide +kernel
theorem dX5_look_55 : decode cX5_look 55 = .ok (.invokevirtual 111, 3) := by decide +kernel
theorem dX5_look_58 : decode cX5_look 58 = .ok (.ifCond .eq 18, 3) := by decide +kernel
theorem dX5_look_61 : decode cX5_look 61 = .ok (.aload_n 0, 1) := by decide +kernel
theorem dX5_look_62 : decode cX5_look 62 = .ok (.dup, 1) := by decide +kernel
theorem dX5_look_63 : decode cX5_look 63 = .ok (.getfield 37, 3) := by decide +kernel
theorem dX5_look_66 : decode cX5_look 66 = .ok (.iconst 1, 1) := by decide +kernel
theorem dX5_look_67 : decode cX5_look 67 = .ok (.iload_n 3, 1) := by decide +kernel
theorem dX5_look_68 : decode cX5_look 68 = .ok (.ishl, 1) := by decide +kernel
theorem dX5_look_69 : decode cX5_look 69 = .ok (.ior, 1) := by decide +kernel
theorem dX5_look_70 : decode cX5_look 70 = .ok (.putfield 37, 3) := by decide +kernel
theorem dX5_look_73 : decode cX5_look 73 = .ok (.goto 59, 3) := by decide +kernel
theorem dX5_look_76 : decode cX5_look 76 = .ok (.aload 4, 2) := by decide +kernel
theorem dX5_look_78 : decode cX5_look 78 = .ok (.aload_n 0, 1) := by decide +kernel
theorem dX5_look_79 : decode cX5_look 79 = .ok (.getfield 57, 3) := by decide +kernel
theorem dX5_look_82 : decode cX5_look 82 = .ok (.iload_n 1, 1) := by decide +kernel
theorem dX5_look_83 : decode cX5_look 83 = .ok (.invokevirtual 99, 3) := by decide +kernel
theorem dX5_look_86 : decode cX5_look 86 = .ok (.ifCond .eq 9, 3) := by decide +kernel
theorem dX5_look_89 : decode cX5_look 89 = .ok (.iload_n 2, 1) := by decide +kernel
theorem dX5_look_90 : decode cX5_look 90 = .ok (.iconst 1, 1) := by decide +kernel
theorem dX5_look_91 : decode cX5_look 91 = .ok (.iload_n 3, 1) := by decide +kernel
theorem dX5_look_92 : decode cX5_look 92 = .ok (.ishl, 1) := by decide +kernel
theorem dX5_look_93 : decode cX5_look 93 = .ok (.ior, 1) := by decide +kernel
theorem dX5_look_94 : decode cX5_look 94 = .ok (.istore_n 2, 1) := by decide +kernel
theorem dX5_look_95 : decode cX5_look 95 = .ok (.aload 4, 2) := by decide +kernel
theorem dX5_look_97 : decode cX5_look 97 = .ok (.aload_n 0, 1) := by decide +kernel
theorem dX5_look_98 : decode cX5_look 98 = .ok (.getfield 57, 3) := by decide +kernel
theorem dX5_look_101 : decode cX5_look 101 = .ok (.invokevirtual 93, 3) := by decide +kernel
theorem dX5_look_104 : decode cX5_look 104 = .ok (.ifCond .ne 16, 3) := by decide +kernel
theorem dX5_look_107 : decode cX5_look 107 = .ok (.aload 4, 2) := by decide +kernel
theorem dX5_look_109 : decode cX5_look 109 = .ok (.aload_n 0, 1) := by decide +kernel
theorem dX5_look_110 : decode cX5_look 110 = .ok (.getfield 57, 3) := by decide +kernel
theorem dX5_look_113 : decode cX5_look 113 = .ok (.iload_n 1, 1) := by decide +kernel
theorem dX5_look_114 : decode cX5_look 114 = .ok (.invokevirtual 115, 3) := by decide +kernel
theorem dX5_look_117 : decode cX5_look 117 = .ok (.ifCond .eq 15, 3) := by decide +kernel
theorem dX5_look_120 : decode cX5_look 120 = .ok (.aload_n 0, 1) := by decide +kernel
theorem dX5_look_121 : decode cX5_look 121 = .ok (.dup, 1) := by decide +kernel
theorem dX5_look_122 : decode cX5_look 122 = .ok (.getfield 40, 3) := by decide +kernel
theorem dX5_look_125 : decode cX5_look 125 = .ok (.iconst 1, 1) := by decide +kernel
theorem dX5_look_126 : decode cX5_look 126 = .ok (.iload_n 3, 1) := by decide +kernel
theorem dX5_look_127 : decode cX5_look 127 = .ok (.ishl, 1) := by decide +kernel
theorem dX5_look_128 : decode cX5_look 128 = .ok (.ior, 1) := by decide +kernel
theorem dX5_look_129 : decode cX5_look 129 = .ok (.putfield 40, 3) := by decide +kernel
theorem dX5_look_132 : decode cX5_look 132 = .ok (.iinc 3 1, 3) := by decide +kernel
theorem dX5_look_135 : decode cX5_look 135 = .ok (.goto (-112), 3) := by decide +kernel
theorem dX5_look_138 : decode cX5_look 138 = .ok (.aload_n 0, 1) := by decide +kernel
theorem dX5_look_139 : decode cX5_look 139 = .ok (.aload_n 0, 1) := by decide +kernel
theorem dX5_look_140 : decode cX5_look 140 = .ok (.getfield 40, 3) := by decide +kernel
theorem dX5_look_143 : decode cX5_look 143 = .ok (.iload_n 2, 1) := by decide +kernel
theorem dX5_look_144 : decode cX5_look 144 = .ok (.ior, 1) := by decide +kernel
theorem dX5_look_145 : decode cX5_look 145 = .ok (.putfield 43, 3) := by decide +kernel
theorem dX5_look_148 : decode cX5_look 148 = .ok (.aload_n 0, 1) := by decide +kernel
theorem dX5_look_149 : decode cX5_look 149 = .ok (.iload_n 2, 1) := by decide +kernel
theorem dX5_look_150 : decode cX5_look 150 = .ok (.ifCond .ne 26, 3) := by decide +kernel
theorem dX5_look_153 : decode cX5_look 153 = .ok (.aload_n 0, 1) := by decide +kernel
theorem dX5_look_154 : decode cX5_look 154 = .ok (.getfield 25, 3) := by decide +kernel
theorem dX5_look_157 : decode cX5_look 157 = .ok (.iload_n 1, 1) := by decide +kernel
theorem dX5_look_158 : decode cX5_look 158 = .ok (.iaload, 1) := by decide +kernel
theorem dX5_look_159 : decode cX5_look 159 = .ok (.aload_n 0, 1) := by decide +kernel
theorem dX5_look_160 : decode cX5_look 160 = .ok (.getfield 50, 3) := by decide +kernel
theorem dX5_look_163 : decode cX5_look 163 = .ok (.getfield 118, 3) := by decide +kernel
theorem dX5_look_166 : decode cX5_look 166 = .ok (.if_icmp .le 14, 3) := by decide +kernel
theorem dX5_look_169 : decode cX5_look 169 = .ok (.aload_n 0, 1) := by decide +kernel
theorem dX5_look_170 : decode cX5_look 170 = .ok (.getfield 43, 3) := by decide +kernel
theorem dX5_look_173 : decode cX5_look 173 = .ok (.ifCond .eq 7, 3) := by decide +kernel
theorem dX5_look_176 : decode cX5_look 176 = .ok (.iconst 1, 1) := by decide +kernel
theorem dX5_look_177 : decode cX5_look 177 = .ok (.goto 4, 3) := by decide +kernel
theorem dX5_look_180 : decode cX5_look 180 = .ok (.iconst 0, 1) := by decide +kernel
theorem dX5_look_181 : decode cX5_look 181 = .ok (.putfield 46, 3) := by decide +kernel
theorem dX5_look_184 : decode cX5_look 184 = .ok (.return_, 1) := by decide +kernel
def d_X5_look_120 (x0 : Nat) (x1 : Int32) (x2 : Int32) (x3 : Int32) (G : Hp) (k23 : Nat → Int32 → Int32 → Int32 → Hp → Option (Hp)) : Option (Hp) :=
  gd (hc G x0 = 6) <|
  bd (sI G x0 13 ((hi G x0 13) ||| (1 <<< (x3 &&& 31)))) fun G2 =>
  k23 x0 x1 x2 (x3 + 1) G2
def d_X5_look_95 (x0 : Nat) (x1 : Int32) (x2 : Int32) (x3 : Int32) (x4 : Nat) (G : Hp) (k23 : Nat → Int32 → Int32 → Int32 → Hp → Option (Hp)) : Option (Hp) :=
  gd (hc G x0 = 6) <|
  gd (hc G x4 = 4) <|
  bo (d_X3_isOwn x4 (hi G x0 2) G) fun v4 =>
  if v4 = 0 then
    bo (d_X3_isShared x4 (hi G x0 2) x1 G) fun v7 =>
    if v7 = 0 then
      k23 x0 x1 x2 (x3 + 1) G
    else
      d_X5_look_120 x0 x1 x2 x3 G k23
  else
    d_X5_look_120 x0 x1 x2 x3 G k23
def d_X5_look_23 : Nat → Nat → Int32 → Int32 → Int32 → Hp → Option (Hp)
  | 0, _, _, _, _, _ => none
  | n_ + 1, x0, x1, x2, x3, G =>
    if 4 ≤ x3 then
      gd (hc G x0 = 6) <|
      bd (sI G x0 14 ((hi G x0 13) ||| x2)) fun G3 =>
      if x2 = 0 then
        gd (hc G3 x0 = 6) <|
        gd (hc G3 (hr G3 x0 8) = 11 ∧ ix x1 (hl G3 (hr G3 x0 8))) <|
        gd (hc G3 (hr G3 x0 0) = 3) <|
        if (hi G3 (hr G3 x0 8) x1.toNatClampNeg) ≤ (hi G3 (hr G3 x0 0) 4) then
          bd (sI G3 x0 15 0) fun G11 =>
          some G11
        else
          if (hi G3 x0 14) = 0 then
            bd (sI G3 x0 15 0) fun G13 =>
            some G13
          else
            bd (sI G3 x0 15 1) fun G14 =>
            some G14
      else
        gd (hc G3 x0 = 6) <|
        bd (sI G3 x0 15 1) fun G6 =>
        some G6
    else
      gd (hc G x0 = 6) <|
      gd (hc G (hr G x0 3) = 16 ∧ ix x3 (hl G (hr G x0 3))) <|
      bd ((hr G (hr G x0 3) x3.toNatClampNeg)) fun v17 =>
      if v17 = 0 then
        d_X5_look_23 n_ x0 x1 x2 (x3 + 1) G
      else
        gd (hc G v17 = 4) <|
        bo (d_X3_isLost v17 (hi G x0 2) x1 (hi G x0 11) G) fun v21 =>
        if v21 = 0 then
          bo (d_X3_isJoined v17 (hi G x0 2) x1 G) fun v24 =>
          if v24 = 0 then
            d_X5_look_95 x0 x1 x2 x3 v17 G (fun y0 y1 y2 y3 Gy => d_X5_look_23 n_ y0 y1 y2 y3 Gy)
          else
            bd ((x2 ||| (1 <<< (x3 &&& 31)))) fun v26 =>
            d_X5_look_95 x0 x1 v26 x3 v17 G (fun y0 y1 y2 y3 Gy => d_X5_look_23 n_ y0 y1 y2 y3 Gy)
        else
          bd (sI G x0 12 ((hi G x0 12) ||| (1 <<< (x3 &&& 31)))) fun G27 =>
          d_X5_look_23 n_ x0 x1 x2 (x3 + 1) G27
def d_X5_look (x0 : Nat) (x1 : Int32) (G : Hp) : Option (Hp) :=
  gd (hc G x0 = 6) <|
  bo (d_X5_ownClaim x0 x1 G) fun v3 =>
  bd (sI G x0 11 v3) fun G4 =>
  gd (hc G4 x0 = 6) <|
  bd (sI G4 x0 12 0) fun G6 =>
  gd (hc G6 x0 = 6) <|
  bd (sI G6 x0 13 0) fun G8 =>
  d_X5_look_23 FU x0 x1 0 0 G8
section
variable {p : Program} {l : Launch} {e : Env} {s : State} {m : MethodId} {args : Array Value} {below : List Frame} {meth : Method} {c : Code} {b0 : Nat} {D : va_G} {E : Nat → ClassId}
set_option maxHeartbeats 4000000 in
set_option maxRecDepth 100000 in
theorem k_X5_look_120 (C : Cx p s m args meth c RX5 cX5_look 5 none b0 D E) {GG : Hp} {k23 : Nat → Int32 → Int32 → Int32 → Hp → Option (Hp)} (hk23 : ∀ (y0 : Nat) (y1 : Int32) (y2 : Int32) (y3 : Int32) (Gy : Hp) (H1 : Heap) (locs1 : List Loc) (ls1 : Array Slot), lx ls1 5 [(0, .inr y0), (1, .inl y1), (2, .inl y2), (3, .inl y3)] → Rp b0 D E Gy H1 → SS b0 s H1 locs1 → k23 y0 y1 y2 y3 Gy = some GG → W p l e (rmd 3 (0) (0)) s m args below meth c H1 locs1 (0) (0) (MQ below (CQ b0 D E none GG) args s (0) (0) (fun q => b0 ≤ q)) (F0 m 23 ls1 [])) {x0 : Nat} {x1 : Int32} {x2 : Int32} {x3 : Int32} {G : Hp} {ls : Array Slot} {H : Heap} {locs : List Loc} : lx ls 5 [(0, .inr x0), (1, .inl x1), (2, .inl x2), (3, .inl x3)] → Rp b0 D E G H → SS b0 s H locs → d_X5_look_120 x0 x1 x2 x3 G k23 = some GG → W p l e (rmd 3 (0) (0)) s m args below meth c H locs (0) (0) (MQ below (CQ b0 D E none GG) args s (0) (0) (fun q => b0 ≤ q)) (F0 m 120 ls []) := by
  intro hL hR hS hd
  unfold d_X5_look_120 at hd
  have hx := C.1
  have hb := C.2.1
  refine x_aload_n C dX5_look_120 hL 0 rfl ?_
  refine lv_dup hx hb dX5_look_121 (rv_cat _) ?_
  obtain ⟨g1, hd⟩ := gd_ex hd
  refine r_geti (ci := 5) (k := 13) C fl_X5_40 rfl dX5_look_122 hR g1 ?_
  refine lv_iconst (v := 1) hx hb dX5_look_125 (by decide) ?_
  refine x_iload_n C dX5_look_126 hL 3 rfl ?_
  refine lv_ishl hx hb dX5_look_127 ?_
  refine lv_ior hx hb dX5_look_128 ?_
  obtain ⟨G2, eG2, hd⟩ := bd_ex hd
  refine r_puti (ci := 5) (k := 13) C fl_X5_40 rfl (Or.inl rfl) dX5_look_129 hR hS g1 (fun H locs hR hS => ?_)
  replace hR : Rp b0 D E G2 H := by rw [eG2]; exact hR
  refine x_iinc (lv' := [(3, .inl (x3 + 1)), (0, .inr x0), (1, .inl x1), (2, .inl x2)]) C dX5_look_132 hL 3 rfl rfl (by decide) rfl (fun ls hL => ?_)
  refine lv_goto (tgt := 23) hx hb dX5_look_135 (by decide) ?_
  exact hk23 _ _ _ _ _ _ _ _ (lx_sub hL [1, 2, 3, 0] rfl) hR hS hd
set_option maxHeartbeats 4000000 in
set_option maxRecDepth 100000 in
theorem k_X5_look_95 (C : Cx p s m args meth c RX5 cX5_look 5 none b0 D E) {GG : Hp} {k23 : Nat → Int32 → Int32 → Int32 → Hp → Option (Hp)} (hk23 : ∀ (y0 : Nat) (y1 : Int32) (y2 : Int32) (y3 : Int32) (Gy : Hp) (H1 : Heap) (locs1 : List Loc) (ls1 : Array Slot), lx ls1 5 [(0, .inr y0), (1, .inl y1), (2, .inl y2), (3, .inl y3)] → Rp b0 D E Gy H1 → SS b0 s H1 locs1 → k23 y0 y1 y2 y3 Gy = some GG → W p l e (rmd 3 (0) (0)) s m args below meth c H1 locs1 (0) (0) (MQ below (CQ b0 D E none GG) args s (0) (0) (fun q => b0 ≤ q)) (F0 m 23 ls1 [])) {x0 : Nat} {x1 : Int32} {x2 : Int32} {x3 : Int32} {x4 : Nat} {G : Hp} {ls : Array Slot} {H : Heap} {locs : List Loc} : lx ls 5 [(0, .inr x0), (1, .inl x1), (2, .inl x2), (3, .inl x3), (4, .inr x4)] → Rp b0 D E G H → SS b0 s H locs → d_X5_look_95 x0 x1 x2 x3 x4 G k23 = some GG → W p l e (rmd 3 (0) (0)) s m args below meth c H locs (0) (0) (MQ below (CQ b0 D E none GG) args s (0) (0) (fun q => b0 ≤ q)) (F0 m 95 ls []) := by
  intro hL hR hS hd
  unfold d_X5_look_95 at hd
  have hx := C.1
  have hb := C.2.1
  refine x_aload C dX5_look_95 hL 4 rfl ?_
  refine x_aload_n C dX5_look_97 hL 0 rfl ?_
  obtain ⟨g1, hd⟩ := gd_ex hd
  refine r_geti (ci := 5) (k := 2) C fl_X5_57 rfl dX5_look_98 hR g1 ?_
  obtain ⟨g2, hd⟩ := gd_ex hd
  obtain ⟨v4, h3, hd⟩ := bo_ex hd
  refine r_callV (a := x4) (ci := 3) (As := [.int (hi G x0 2)]) C (ct_X3_isOwn h3) mf_X3_isOwn ml_X5_93 mv_X3_isOwn rfl ⟨Nat.le_of_ble_eq_true rfl, Nat.le_of_ble_eq_true rfl⟩ dX5_look_101 (lx_size hL) rfl hR hS g2 ⟨Nat.le_refl _, Nat.le_refl _⟩ (cat_le [] (Nat.le_of_ble_eq_true rfl)) (fun H locs hR hS => ?_)
  refine W_st (st2 := [.int v4]) rfl ?_
  refine lv_if_ne (tgt := 120) hx hb dX5_look_104 (by decide) (fun c5 => ?_) (fun c5 => ?_)
  · rw [if_neg c5] at hd
    exact k_X5_look_120 C hk23 (lx_sub hL [0, 1, 2, 3] rfl) hR hS hd
  · rw [if_pos c5] at hd
    refine x_aload C dX5_look_107 hL 4 rfl ?_
    refine x_aload_n C dX5_look_109 hL 0 rfl ?_
    refine r_geti (ci := 5) (k := 2) C fl_X5_57 rfl dX5_look_110 hR g1 ?_
    refine x_iload_n C dX5_look_113 hL 1 rfl ?_
    obtain ⟨v7, h6, hd⟩ := bo_ex hd
    refine r_callV (a := x4) (ci := 3) (As := [.int (hi G x0 2), .int x1]) C (ct_X3_isShared h6) mf_X3_isShared ml_X5_115 mv_X3_isShared rfl ⟨Nat.le_of_ble_eq_true rfl, Nat.le_of_ble_eq_true rfl⟩ dX5_look_114 (lx_size hL) rfl hR hS g2 ⟨Nat.le_refl _, Nat.le_refl _⟩ (cat_le [] (Nat.le_of_ble_eq_true rfl)) (fun H locs hR hS => ?_)
    refine W_st (st2 := [.int v7]) rfl ?_
    refine lv_if_eq (tgt := 132) hx hb dX5_look_117 (by decide) (fun c8 => ?_) (fun c8 => ?_)
    · rw [if_pos c8] at hd
      refine x_iinc (lv' := [(3, .inl (x3 + 1)), (0, .inr x0), (1, .inl x1), (2, .inl x2), (4, .inr x4)]) C dX5_look_132 hL 3 rfl rfl (by decide) rfl (fun ls hL => ?_)
      refine lv_goto (tgt := 23) hx hb dX5_look_135 (by decide) ?_
      exact hk23 _ _ _ _ _ _ _ _ (lx_sub hL [1, 2, 3, 0] rfl) hR hS hd
    · rw [if_neg c8] at hd
      exact k_X5_look_120 C hk23 (lx_sub hL [0, 1, 2, 3] rfl) hR hS hd
set_option maxHeartbeats 4000000 in
set_option maxRecDepth 100000 in
theorem k_X5_look_23 (C : Cx p s m args meth c RX5 cX5_look 5 none b0 D E) {GG : Hp} : ∀ (n_ : Nat) {x0 : Nat} {x1 : Int32} {x2 : Int32} {x3 : Int32} {G : Hp} {ls : Array Slot} {H : Heap} {locs : List Loc}, lx ls 5 [(0, .inr x0), (1, .inl x1), (2, .inl x2), (3, .inl x3)] → Rp b0 D E G H → SS b0 s H locs → d_X5_look_23 n_ x0 x1 x2 x3 G = some GG → W p l e (rmd 3 (0) (0)) s m args below meth c H locs (0) (0) (MQ below (CQ b0 D E none GG) args s (0) (0) (fun q => b0 ≤ q)) (F0 m 23 ls []) := by
  intro n_
  induction n_ with
  | zero =>
    intro x0 x1 x2 x3 G ls H locs hL hR hS hd
    cases (show (none : Option _) = some _ from hd)
  | succ n_ ih =>
    intro x0 x1 x2 x3 G ls H locs hL hR hS hd
    rw [d_X5_look_23.eq_2] at hd
    have hx := C.1
    have hb := C.2.1
    refine x_iload_n C dX5_look_23 hL 3 rfl ?_
    refine lv_iconst (v := 4) hx hb dX5_look_24 (by decide) ?_
    refine lv_icmp_ge (tgt := 138) hx hb dX5_look_25 (by decide) (fun c1 => ?_) (fun c1 => ?_)
    · rw [if_pos c1] at hd
      refine x_aload_n C dX5_look_138 hL 0 rfl ?_
      refine x_aload_n C dX5_look_139 hL 0 rfl ?_
      obtain ⟨g2, hd⟩ := gd_ex hd
      refine r_geti (ci := 5) (k := 13) C fl_X5_40 rfl dX5_look_140 hR g2 ?_
      refine x_iload_n C dX5_look_143 hL 2 rfl ?_
      refine lv_ior hx hb dX5_look_144 ?_
      obtain ⟨G3, eG3, hd⟩ := bd_ex hd
      refine r_puti (ci := 5) (k := 14) C fl_X5_43 rfl (Or.inl rfl) dX5_look_145 hR hS g2 (fun H locs hR hS => ?_)
      replace hR : Rp b0 D E G3 H := by rw [eG3]; exact hR
      refine x_aload_n C dX5_look_148 hL 0 rfl ?_
      refine x_iload_n C dX5_look_149 hL 2 rfl ?_
      refine lv_if_ne (tgt := 176) hx hb dX5_look_150 (by decide) (fun c4 => ?_) (fun c4 => ?_)
      · rw [if_neg c4] at hd
        refine lv_iconst (v := 1) hx hb dX5_look_176 (by decide) ?_
        refine lv_goto (tgt := 181) hx hb dX5_look_177 (by decide) ?_
        obtain ⟨g5, hd⟩ := gd_ex hd
        obtain ⟨G6, eG6, hd⟩ := bd_ex hd
        refine r_putz (ci := 5) (k := 15) C fl_X5_46 rfl (Or.inl rfl) (by decide) dX5_look_181 hR hS g5 (fun H locs hR hS => ?_)
        replace hR : Rp b0 D E G6 H := by rw [eG6]; exact hR
        cases hd
        exact r_vret C dX5_look_184 hR hS
      · rw [if_pos c4] at hd
        refine x_aload_n C dX5_look_153 hL 0 rfl ?_
        obtain ⟨g7, hd⟩ := gd_ex hd
        refine r_getr (ci := 5) (k := 8) C fl_X5_25 rfl dX5_look_154 hR g7 ?_
        refine x_iload_n C dX5_look_157 hL 1 rfl ?_
        obtain ⟨g8, hd⟩ := gd_ex hd
        refine r_iald C dX5_look_158 hR g8 ?_
        refine x_aload_n C dX5_look_159 hL 0 rfl ?_
        refine r_getr (ci := 5) (k := 0) C fl_X5_50 rfl dX5_look_160 hR g7 ?_
        obtain ⟨g9, hd⟩ := gd_ex hd
        refine r_geti (ci := 2) (k := 4) C fl_X5_118 rfl dX5_look_163 hR g9 ?_
        refine lv_icmp_le (tgt := 180) hx hb dX5_look_166 (by decide) (fun c10 => ?_) (fun c10 => ?_)
        · rw [if_pos c10] at hd
          refine lv_iconst (v := 0) hx hb dX5_look_180 (by decide) ?_
          obtain ⟨G11, eG11, hd⟩ := bd_ex hd
          refine r_putz (ci := 5) (k := 15) C fl_X5_46 rfl (Or.inl rfl) (by decide) dX5_look_181 hR hS g7 (fun H locs hR hS => ?_)
          replace hR : Rp b0 D E G11 H := by rw [eG11]; exact hR
          cases hd
          exact r_vret C dX5_look_184 hR hS
        · rw [if_neg c10] at hd
          refine x_aload_n C dX5_look_169 hL 0 rfl ?_
          refine r_geti (ci := 5) (k := 14) C fl_X5_43 rfl dX5_look_170 hR g7 ?_
          refine lv_if_eq (tgt := 180) hx hb dX5_look_173 (by decide) (fun c12 => ?_) (fun c12 => ?_)
          · rw [if_pos c12] at hd
            refine lv_iconst (v := 0) hx hb dX5_look_180 (by decide) ?_
            obtain ⟨G13, eG13, hd⟩ := bd_ex hd
            refine r_putz (ci := 5) (k := 15) C fl_X5_46 rfl (Or.inl rfl) (by decide) dX5_look_181 hR hS g7 (fun H locs hR hS => ?_)
            replace hR : Rp b0 D E G13 H := by rw [eG13]; exact hR
            cases hd
            exact r_vret C dX5_look_184 hR hS
          · rw [if_neg c12] at hd
            refine lv_iconst (v := 1) hx hb dX5_look_176 (by decide) ?_
            refine lv_goto (tgt := 181) hx hb dX5_look_177 (by decide) ?_
            obtain ⟨G14, eG14, hd⟩ := bd_ex hd
            refine r_putz (ci := 5) (k := 15) C fl_X5_46 rfl (Or.inl rfl) (by decide) dX5_look_181 hR hS g7 (fun H locs hR hS => ?_)
            replace hR : Rp b0 D E G14 H := by rw [eG14]; exact hR
            cases hd
            exact r_vret C dX5_look_184 hR hS
    · rw [if_neg c1] at hd
      refine x_aload_n C dX5_look_28 hL 0 rfl ?_
      obtain ⟨g15, hd⟩ := gd_ex hd
      refine r_getr (ci := 5) (k := 3) C fl_X5_60 rfl dX5_look_29 hR g15 ?_
      refine x_iload_n C dX5_look_32 hL 3 rfl ?_
      obtain ⟨g16, hd⟩ := gd_ex hd
      refine r_aald (ci := 3) C (by decide) dX5_look_33 hR g16 ?_
      obtain ⟨v17, ev17, hd⟩ := bd_ex hd
      rw [← ev17]
      refine x_astore (lv' := [(4, .inr v17), (0, .inr x0), (1, .inl x1), (2, .inl x2), (3, .inl x3)]) C dX5_look_34 hL (by decide) rfl (fun ls hL => ?_)
      refine x_aload C dX5_look_36 hL 0 rfl ?_
      refine r_ifnonnull (tgt := 44) C dX5_look_38 (by decide) (fun c18 => ?_) (fun c18 => ?_)
      · rw [if_neg c18] at hd
        refine x_aload C dX5_look_44 hL 0 rfl ?_
        refine x_aload_n C dX5_look_46 hL 1 rfl ?_
        refine r_geti (ci := 5) (k := 2) C fl_X5_57 rfl dX5_look_47 hR g15 ?_
        refine x_iload_n C dX5_look_50 hL 2 rfl ?_
        refine x_aload_n C dX5_look_51 hL 1 rfl ?_
        refine r_geti (ci := 5) (k := 11) C fl_X5_34 rfl dX5_look_52 hR g15 ?_
        obtain ⟨g19, hd⟩ := gd_ex hd
        obtain ⟨v21, h20, hd⟩ := bo_ex hd
        refine r_callV (a := v17) (ci := 3) (As := [.int (hi G x0 2), .int x1, .int (hi G x0 11)]) C (ct_X3_isLost h20) mf_X3_isLost ml_X5_111 mv_X3_isLost rfl ⟨Nat.le_of_ble_eq_true rfl, Nat.le_of_ble_eq_true rfl⟩ dX5_look_55 (lx_size hL) rfl hR hS g19 ⟨Nat.le_refl _, Nat.le_refl _⟩ (cat_le [] (Nat.le_of_ble_eq_true rfl)) (fun H locs hR hS => ?_)
        refine W_st (st2 := [.int v21]) rfl ?_
        refine lv_if_eq (tgt := 76) hx hb dX5_look_58 (by decide) (fun c22 => ?_) (fun c22 => ?_)
        · rw [if_pos c22] at hd
          refine x_aload C dX5_look_76 hL 0 rfl ?_
          refine x_aload_n C dX5_look_78 hL 1 rfl ?_
          refine r_geti (ci := 5) (k := 2) C fl_X5_57 rfl dX5_look_79 hR g15 ?_
          refine x_iload_n C dX5_look_82 hL 2 rfl ?_
          obtain ⟨v24, h23, hd⟩ := bo_ex hd
          refine r_callV (a := v17) (ci := 3) (As := [.int (hi G x0 2), .int x1]) C (ct_X3_isJoined h23) mf_X3_isJoined ml_X5_99 mv_X3_isJoined rfl ⟨Nat.le_of_ble_eq_true rfl, Nat.le_of_ble_eq_true rfl⟩ dX5_look_83 (lx_size hL) rfl hR hS g19 ⟨Nat.le_refl _, Nat.le_refl _⟩ (cat_le [] (Nat.le_of_ble_eq_true rfl)) (fun H locs hR hS => ?_)
          refine W_st (st2 := [.int v24]) rfl ?_
          refine lv_if_eq (tgt := 95) hx hb dX5_look_86 (by decide) (fun c25 => ?_) (fun c25 => ?_)
          · rw [if_pos c25] at hd
            exact k_X5_look_95 C (fun y0 y1 y2 y3 Gy H1 locs1 ls1 hL1 hR1 hS1 hd1 => ih hL1 hR1 hS1 hd1) (lx_sub hL [1, 2, 3, 4, 0] rfl) hR hS hd
          · rw [if_neg c25] at hd
            refine x_iload_n C dX5_look_89 hL 3 rfl ?_
            refine lv_iconst (v := 1) hx hb dX5_look_90 (by decide) ?_
            refine x_iload_n C dX5_look_91 hL 4 rfl ?_
            refine lv_ishl hx hb dX5_look_92 ?_
            refine lv_ior hx hb dX5_look_93 ?_
            obtain ⟨v26, ev26, hd⟩ := bd_ex hd
            rw [← ev26]
            refine x_istore_n (lv' := [(2, .inl v26), (4, .inr v17), (0, .inr x0), (1, .inl x1), (3, .inl x3)]) C dX5_look_94 hL (by decide) rfl (fun ls hL => ?_)
            exact k_X5_look_95 C (fun y0 y1 y2 y3 Gy H1 locs1 ls1 hL1 hR1 hS1 hd1 => ih hL1 hR1 hS1 hd1) (lx_sub hL [2, 3, 0, 4, 1] rfl) hR hS hd
        · rw [if_neg c22] at hd
          refine x_aload_n C dX5_look_61 hL 1 rfl ?_
          refine lv_dup hx hb dX5_look_62 (rv_cat _) ?_
          refine r_geti (ci := 5) (k := 12) C fl_X5_37 rfl dX5_look_63 hR g15 ?_
          refine lv_iconst (v := 1) hx hb dX5_look_66 (by decide) ?_
          refine x_iload_n C dX5_look_67 hL 4 rfl ?_
          refine lv_ishl hx hb dX5_look_68 ?_
          refine lv_ior hx hb dX5_look_69 ?_
          obtain ⟨G27, eG27, hd⟩ := bd_ex hd
          refine r_puti (ci := 5) (k := 12) C fl_X5_37 rfl (Or.inl rfl) dX5_look_70 hR hS g15 (fun H locs hR hS => ?_)
          replace hR : Rp b0 D E G27 H := by rw [eG27]; exact hR
          refine lv_goto (tgt := 132) hx hb dX5_look_73 (by decide) ?_
          refine x_iinc (lv' := [(3, .inl (x3 + 1)), (4, .inr v17), (0, .inr x0), (1, .inl x1), (2, .inl x2)]) C dX5_look_132 hL 4 rfl rfl (by decide) rfl (fun ls hL => ?_)
          refine lv_goto (tgt := 23) hx hb dX5_look_135 (by decide) ?_
          exact ih (lx_sub hL [2, 3, 4, 0] rfl) hR hS hd
      · rw [if_pos c18] at hd
        refine lv_goto (tgt := 132) hx hb dX5_look_41 (by decide) ?_
        refine x_iinc (lv' := [(3, .inl (x3 + 1)), (4, .inr v17), (0, .inr x0), (1, .inl x1), (2, .inl x2)]) C dX5_look_132 hL 4 rfl rfl (by decide) rfl (fun ls hL => ?_)
        refine lv_goto (tgt := 23) hx hb dX5_look_135 (by decide) ?_
        exact ih (lx_sub hL [2, 3, 4, 0] rfl) hR hS hd
set_option maxHeartbeats 4000000 in
set_option maxRecDepth 100000 in
theorem k_X5_look (C : Cx p s m args meth c RX5 cX5_look 5 none b0 D E) {GG : Hp} {x0 : Nat} {x1 : Int32} {G : Hp} {ls : Array Slot} {H : Heap} {locs : List Loc} : lx ls 5 [(0, .inr x0), (1, .inl x1)] → Rp b0 D E G H → SS b0 s H locs → d_X5_look x0 x1 G = some GG → W p l e (rmd 3 (0) (0)) s m args below meth c H locs (0) (0) (MQ below (CQ b0 D E none GG) args s (0) (0) (fun q => b0 ≤ q)) (F0 m 0 ls []) := by
  intro hL hR hS hd
  unfold d_X5_look at hd
  have hx := C.1
  have hb := C.2.1
  refine x_aload_n C dX5_look_0 hL 0 rfl ?_
  refine x_aload_n C dX5_look_1 hL 0 rfl ?_
  refine x_iload_n C dX5_look_2 hL 1 rfl ?_
  obtain ⟨g1, hd⟩ := gd_ex hd
  obtain ⟨v3, h2, hd⟩ := bo_ex hd
  refine r_callV (a := x0) (ci := 5) (As := [.int x1]) C (ct_X5_ownClaim h2) mf_X5_ownClaim ml_X5_108 mv_X5_ownClaim rfl ⟨Nat.le_of_ble_eq_true rfl, Nat.le_of_ble_eq_true rfl⟩ dX5_look_3 (lx_size hL) rfl hR hS g1 ⟨Nat.le_refl _, Nat.le_refl _⟩ (cat_le [.inr x0] (Nat.le_of_ble_eq_true rfl)) (fun H locs hR hS => ?_)
  refine W_st (st2 := [.int v3, rv x0]) rfl ?_
  obtain ⟨G4, eG4, hd⟩ := bd_ex hd
  refine r_puti (ci := 5) (k := 11) C fl_X5_34 rfl (Or.inl rfl) dX5_look_6 hR hS g1 (fun H locs hR hS => ?_)
  replace hR : Rp b0 D E G4 H := by rw [eG4]; exact hR
  refine x_aload_n C dX5_look_9 hL 0 rfl ?_
  refine lv_iconst (v := 0) hx hb dX5_look_10 (by decide) ?_
  obtain ⟨g5, hd⟩ := gd_ex hd
  obtain ⟨G6, eG6, hd⟩ := bd_ex hd
  refine r_puti (ci := 5) (k := 12) C fl_X5_37 rfl (Or.inl rfl) dX5_look_11 hR hS g5 (fun H locs hR hS => ?_)
  replace hR : Rp b0 D E G6 H := by rw [eG6]; exact hR
  refine x_aload_n C dX5_look_14 hL 0 rfl ?_
  refine lv_iconst (v := 0) hx hb dX5_look_15 (by decide) ?_
  obtain ⟨g7, hd⟩ := gd_ex hd
  obtain ⟨G8, eG8, hd⟩ := bd_ex hd
  refine r_puti (ci := 5) (k := 13) C fl_X5_40 rfl (Or.inl rfl) dX5_look_16 hR hS g7 (fun H locs hR hS => ?_)
  replace hR : Rp b0 D E G8 H := by rw [eG8]; exact hR
  refine lv_iconst (v := 0) hx hb dX5_look_19 (by decide) ?_
  refine x_istore_n (lv' := [(2, .inl 0), (0, .inr x0), (1, .inl x1)]) C dX5_look_20 hL (by decide) rfl (fun ls hL => ?_)
  refine lv_iconst (v := 0) hx hb dX5_look_21 (by decide) ?_
  refine x_istore_n (lv' := [(3, .inl 0), (2, .inl 0), (0, .inr x0), (1, .inl x1)]) C dX5_look_22 hL (by decide) rfl (fun ls hL => ?_)
  exact k_X5_look_23 C FU (lx_sub hL [2, 3, 1, 0] rfl) hR hS hd
end
set_option maxHeartbeats 4000000 in
set_option maxRecDepth 100000 in
theorem ct_X5_look {l : Launch} {b0 : Nat} {D : va_G} {E : Nat → ClassId} {G : Hp} {a0 : Nat} {a1 : Int32} {GG : Hp} (hd : d_X5_look a0 a1 G = some GG) : CT l yX5_look cX5_look 5 none 3 0 0 b0 D E [rv a0, .int a1] G none GG := by
  refine CT_of (by decide +kernel) ?_
  intro p e s m below meth c C hnm hR
  refine r_entry [.inr a0, .inl a1] (n := 5) (Nat.le_of_ble_eq_true rfl) (lv := [(0, .inr a0), (1, .inl a1)]) rfl (fun ls hL => ?_)
  exact k_X5_look C (lx_sub hL [0, 1] rfl) hR ⟨fun _ _ => rfl, fun _ h => by cases h⟩ hd

/-! GroveWorks$Tree.portToMeeting()I pure -/
theorem dX5_portToMeeting_0 : decode cX5_portToMeeting 0 = .ok (.aload_n 0, 1) := by decide +kernel
theorem dX5_portToMeeting_1 : decode cX5_portToMeeting 1 = .ok (.getfield 50, 3) := by decide +kernel
theorem dX5_portToMeeting_4 : decode cX5_portToMeeting 4 = .ok (.getfield 75, 3) := by decide +kernel
theorem dX5_portToMeeting_7 : decode cX5_portToMeeting 7 = .ok (.aload_n 0, 1) := by decide +kernel
theorem dX5_portToMeeting_8 : decode cX5_portToMeeting 8 = .ok (.getfield 54, 3) := by decide +kernel
theorem dX5_portToMeeting_11 : decode cX5_portToMeeting 11 = .ok (.aload_n 0, 1) := by decide +kernel
theorem dX5_portToMeeting_12 : decode cX5_portToMeeting 12 = .ok (.getfield 50, 3) := by decide +kernel
theorem dX5_portToMeeting_15 : decode cX5_portToMeeting 15 = .ok (.getfield 70, 3) := by decide +kernel
theorem dX5_portToMeeting_18 : decode cX5_portToMeeting 18 = .ok (.aload_n 0, 1) := by decide +kernel
theorem dX5_portToMeeting_19 : decode cX5_portToMeeting 19 = .ok (.getfield 57, 3) := by decide +kernel
theorem dX5_portToMeeting_22 : decode cX5_portToMeeting 22 = .ok (.iaload, 1) := by decide +kernel
theorem dX5_portToMeeting_23 : decode cX5_portToMeeting 23 = .ok (.invokevirtual 83, 3) := by decide +kernel
theorem dX5_portToMeeting_26 : decode cX5_portToMeeting 26 = .ok (.ireturn, 1) := by decide +kernel
def d_X5_portToMeeting (x0 : Nat) (G : Hp) : Option (Int32) :=
  gd (hc G x0 = 6) <|
  gd (hc G (hr G x0 0) = 3) <|
  gd (hc G (hr G (hr G x0 0) 2) = 11 ∧ ix (hi G x0 2) (hl G (hr G (hr G x0 0) 2))) <|
  gd (hc G (hr G (hr G x0 0) 1) = 7) <|
  bo (d_X6_portTo (hr G (hr G x0 0) 1) (hi G x0 1) (hi G (hr G (hr G x0 0) 2) (hi G x0 2).toNatClampNeg) G) fun v6 =>
  some v6
section
variable {p : Program} {l : Launch} {e : Env} {s : State} {m : MethodId} {args : Array Value} {below : List Frame} {meth : Method} {c : Code} {b0 : Nat} {D : va_G} {E : Nat → ClassId}
set_option maxHeartbeats 4000000 in
set_option maxRecDepth 100000 in
theorem k_X5_portToMeeting (C : Cx p s m args meth c RX5 cX5_portToMeeting 1 (some .int) b0 D E) {rr : Int32} {G : Hp} {x0 : Nat} {ls : Array Slot} {H : Heap} {locs : List Loc} : lx ls 1 [(0, .inr x0)] → Rp b0 D E G H → SS b0 s H locs → d_X5_portToMeeting x0 G = some rr → W p l e (rmd 2 (0) (0)) s m args below meth c H locs (0) (0) (MQ below (CQ b0 D E (some (.int rr)) G) args s (0) (0) (fun q => b0 ≤ q)) (F0 m 0 ls []) := by
  intro hL hR hS hd
  unfold d_X5_portToMeeting at hd
  have hx := C.1
  have hb := C.2.1
  refine x_aload_n C dX5_portToMeeting_0 hL 0 rfl ?_
  obtain ⟨g1, hd⟩ := gd_ex hd
  refine r_getr (ci := 5) (k := 0) C fl_X5_50 rfl dX5_portToMeeting_1 hR g1 ?_
  obtain ⟨g2, hd⟩ := gd_ex hd
  refine r_getr (ci := 2) (k := 1) C fl_X5_75 rfl dX5_portToMeeting_4 hR g2 ?_
  refine x_aload_n C dX5_portToMeeting_7 hL 0 rfl ?_
  refine r_geti (ci := 5) (k := 1) C fl_X5_54 rfl dX5_portToMeeting_8 hR g1 ?_
  refine x_aload_n C dX5_portToMeeting_11 hL 0 rfl ?_
  refine r_getr (ci := 5) (k := 0) C fl_X5_50 rfl dX5_portToMeeting_12 hR g1 ?_
  refine r_getr (ci := 2) (k := 2) C fl_X5_70 rfl dX5_portToMeeting_15 hR g2 ?_
  refine x_aload_n C dX5_portToMeeting_18 hL 0 rfl ?_
  refine r_geti (ci := 5) (k := 2) C fl_X5_57 rfl dX5_portToMeeting_19 hR g1 ?_
  obtain ⟨g3, hd⟩ := gd_ex hd
  refine r_iald C dX5_portToMeeting_22 hR g3 ?_
  obtain ⟨g4, hd⟩ := gd_ex hd
  obtain ⟨v6, h5, hd⟩ := bo_ex hd
  refine r_callV (a := (hr G (hr G x0 0) 1)) (ci := 6) (As := [.int (hi G x0 1), .int (hi G (hr G (hr G x0 0) 2) (hi G x0 2).toNatClampNeg)]) C (ct_X6_portTo h5) mf_X6_portTo ml_X5_83 mv_X6_portTo rfl ⟨Nat.le_of_ble_eq_true rfl, Nat.le_of_ble_eq_true rfl⟩ dX5_portToMeeting_23 (lx_size hL) rfl hR hS g4 ⟨Nat.le_refl _, Nat.le_refl _⟩ (cat_le [] (Nat.le_of_ble_eq_true rfl)) (fun H locs hR hS => ?_)
  refine W_st (st2 := [.int v6]) rfl ?_
  cases hd
  exact r_iret C dX5_portToMeeting_26 hR hS
end
set_option maxHeartbeats 4000000 in
set_option maxRecDepth 100000 in
theorem ct_X5_portToMeeting {l : Launch} {b0 : Nat} {D : va_G} {E : Nat → ClassId} {G : Hp} {a0 : Nat} {rr : Int32} (hd : d_X5_portToMeeting a0 G = some rr) : CT l yX5_portToMeeting cX5_portToMeeting 1 (some .int) 2 0 0 b0 D E [rv a0] G (some (.int rr)) G := by
  refine CT_of (by decide +kernel) ?_
  intro p e s m below meth c C hnm hR
  refine r_entry [.inr a0] (n := 1) (Nat.le_of_ble_eq_true rfl) (lv := [(0, .inr a0)]) rfl (fun ls hL => ?_)
  exact k_X5_portToMeeting C (lx_sub hL [0] rfl) hR ⟨fun _ _ => rfl, fun _ h => by cases h⟩ hd

/-! GroveWorks$Ways.routerTo(II)I pure -/
theorem dX6_routerTo_0 : decode cX6_routerTo 0 = .ok (.iload_n 2, 1) := by decide +kernel
theorem dX6_routerTo_1 : decode cX6_routerTo 1 = .ok (.bipush 26, 2) := by decide +kernel
theorem dX6_routerTo_3 : decode cX6_routerTo 3 = .ok (.invokestatic 41, 3) := by decide +kernel
theorem dX6_routerTo_6 : decode cX6_routerTo 6 = .ok (.ifCond .eq 17, 3) := by decide +kernel
theorem dX6_routerTo_9 : decode cX6_routerTo 9 = .ok (.aload_n 0, 1) := by decide +kernel
theorem dX6_routerTo_10 : decode cX6_routerTo 10 = .ok (.getfield 38, 3) := by decide +kernel
theorem dX6_routerTo_13 : decode cX6_routerTo 13 = .ok (.iload_n 1, 1) := by decide +kernel
theorem dX6_routerTo_14 : decode cX6_routerTo 14 = .ok (.bipush 26, 2) := by decide +kernel
theorem dX6_routerTo_16 : decode cX6_routerTo 16 = .ok (.imul, 1) := by decide +kernel
theorem dX6_routerTo_17 : decode cX6_routerTo 17 = .ok (.iload_n 2, 1) := by decide +kernel
theorem dX6_routerTo_18 : decode cX6_routerTo 18 = .ok (.iadd, 1) := by decide +kernel
theorem dX6_routerTo_19 : decode cX6_routerTo 19 = .ok (.iaload, 1) := by decide +kernel
theorem dX6_routerTo_20 : decode cX6_routerTo 20 = .ok (.goto 4, 3) := by decide +kernel
theorem dX6_routerTo_23 : decode cX6_routerTo 23 = .ok (.iconst (-1), 1) := by decide +kernel
theorem dX6_routerTo_24 : decode cX6_routerTo 24 = .ok (.ireturn, 1) := by decide +kernel
def d_X6_routerTo (x0 : Nat) (x1 : Int32) (x2 : Int32) (G : Hp) : Option (Int32) :=
  bo (d_X8_isIn x2 26 G) fun v2 =>
  if v2 = 0 then
    some (-1)
  else
    gd (hc G x0 = 7) <|
    gd (hc G (hr G x0 5) = 11 ∧ ix ((x1 * 26) + x2) (hl G (hr G x0 5))) <|
    some (hi G (hr G x0 5) ((x1 * 26) + x2).toNatClampNeg)
section
variable {p : Program} {l : Launch} {e : Env} {s : State} {m : MethodId} {args : Array Value} {below : List Frame} {meth : Method} {c : Code} {b0 : Nat} {D : va_G} {E : Nat → ClassId}
set_option maxHeartbeats 4000000 in
set_option maxRecDepth 100000 in
theorem k_X6_routerTo (C : Cx p s m args meth c RX6 cX6_routerTo 3 (some .int) b0 D E) {rr : Int32} {G : Hp} {x0 : Nat} {x1 : Int32} {x2 : Int32} {ls : Array Slot} {H : Heap} {locs : List Loc} : lx ls 3 [(0, .inr x0), (1, .inl x1), (2, .inl x2)] → Rp b0 D E G H → SS b0 s H locs → d_X6_routerTo x0 x1 x2 G = some rr → W p l e (rmd 1 (0) (0)) s m args below meth c H locs (0) (0) (MQ below (CQ b0 D E (some (.int rr)) G) args s (0) (0) (fun q => b0 ≤ q)) (F0 m 0 ls []) := by
  intro hL hR hS hd
  unfold d_X6_routerTo at hd
  have hx := C.1
  have hb := C.2.1
  refine x_iload_n C dX6_routerTo_0 hL 2 rfl ?_
  refine lv_bipush (v := 26) hx hb dX6_routerTo_1 (by decide) ?_
  obtain ⟨v2, h1, hd⟩ := bo_ex hd
  refine r_callSN (As := [.int x2, .int 26]) C (ct_X8_isIn h1) mf_X8_isIn (by decide +kernel) ms_X8_isIn rfl ⟨Nat.le_of_ble_eq_true rfl, Nat.le_of_ble_eq_true rfl⟩ dX6_routerTo_3 (lx_size hL) rfl hR hS ⟨Nat.le_refl _, Nat.le_refl _⟩ (cat_le [] (Nat.le_of_ble_eq_true rfl)) (fun H locs hR hS => ?_)
  refine W_st (st2 := [.int v2]) rfl ?_
  refine lv_if_eq (tgt := 23) hx hb dX6_routerTo_6 (by decide) (fun c3 => ?_) (fun c3 => ?_)
  · rw [if_pos c3] at hd
    refine lv_iconst (v := (-1)) hx hb dX6_routerTo_23 (by decide) ?_
    cases hd
    exact r_iret C dX6_routerTo_24 hR hS
  · rw [if_neg c3] at hd
    refine x_aload_n C dX6_routerTo_9 hL 0 rfl ?_
    obtain ⟨g4, hd⟩ := gd_ex hd
    refine r_getr (ci := 6) (k := 5) C fl_X6_38 rfl dX6_routerTo_10 hR g4 ?_
    refine x_iload_n C dX6_routerTo_13 hL 1 rfl ?_
    refine lv_bipush (v := 26) hx hb dX6_routerTo_14 (by decide) ?_
    refine lv_imul hx hb dX6_routerTo_16 ?_
    refine x_iload_n C dX6_routerTo_17 hL 2 rfl ?_
    refine lv_iadd hx hb dX6_routerTo_18 ?_
    obtain ⟨g5, hd⟩ := gd_ex hd
    refine r_iald C dX6_routerTo_19 hR g5 ?_
    refine lv_goto (tgt := 24) hx hb dX6_routerTo_20 (by decide) ?_
    cases hd
    exact r_iret C dX6_routerTo_24 hR hS
end
set_option maxHeartbeats 4000000 in
set_option maxRecDepth 100000 in
theorem ct_X6_routerTo {l : Launch} {b0 : Nat} {D : va_G} {E : Nat → ClassId} {G : Hp} {a0 : Nat} {a1 : Int32} {a2 : Int32} {rr : Int32} (hd : d_X6_routerTo a0 a1 a2 G = some rr) : CT l yX6_routerTo cX6_routerTo 3 (some .int) 1 0 0 b0 D E [rv a0, .int a1, .int a2] G (some (.int rr)) G := by
  refine CT_of (by decide +kernel) ?_
  intro p e s m below meth c C hnm hR
  refine r_entry [.inr a0, .inl a1, .inl a2] (n := 3) (Nat.le_of_ble_eq_true rfl) (lv := [(0, .inr a0), (1, .inl a1), (2, .inl a2)]) rfl (fun ls hL => ?_)
  exact k_X6_routerTo C (lx_sub hL [0, 1, 2] rfl) hR ⟨fun _ _ => rfl, fun _ h => by cases h⟩ hd

/-! GroveWorks$Tree.up(I)I pure -/
theorem dX5_up_0 : decode cX5_up 0 = .ok (.iload_n 1, 1) := by decide +kernel
theorem dX5_up_1 : decode cX5_up 1 = .ok (.bipush 16, 2) := by decide +kernel
theorem dX5_up_3 : decode cX5_up 3 = .ok (.if_icmp .ne 18, 3) := by decide +kernel
theorem dX5_up_6 : decode cX5_up 6 = .ok (.aload_n 0, 1) := by decide +kernel
theorem dX5_up_7 : decode cX5_up 7 = .ok (.getfield 50, 3) := by decide +kernel
theorem dX5_up_10 : decode cX5_up 10 = .ok (.getfield 70, 3) := by decide +kernel
theorem dX5_up_13 : decode cX5_up 13 = .ok (.aload_n 0, 1) := by decide +kernel
theorem dX5_up_14 : decode cX5_up 14 = .ok (.getfield 57, 3) := by decide +kernel
theorem dX5_up_17 : decode cX5_up 17 = .ok (.iaload, 1) := by decide +kernel
theorem dX5_up_18 : decode cX5_up 18 = .ok (.goto 11, 3) := by decide +kernel
theorem dX5_up_21 : decode cX5_up 21 = .ok (.aload_n 0, 1) := by decide +kernel
theorem dX5_up_22 : decode cX5_up 22 = .ok (.getfield 50, 3) := by decide +kernel
theorem dX5_up_25 : decode cX5_up 25 = .ok (.iload_n 1, 1) := by decide +kernel
theorem dX5_up_26 : decode cX5_up 26 = .ok (.invokevirtual 79, 3) := by decide +kernel
theorem dX5_up_29 : decode cX5_up 29 = .ok (.istore_n 2, 1) := by decide +kernel
theorem dX5_up_30 : decode cX5_up 30 = .ok (.aload_n 0, 1) := by decide +kernel
theorem dX5_up_31 : decode cX5_up 31 = .ok (.getfield 50, 3) := by decide +kernel
theorem dX5_up_34 : decode cX5_up 34 = .ok (.getfield 75, 3) := by decide +kernel
theorem dX5_up_37 : decode cX5_up 37 = .ok (.aload_n 0, 1) := by decide +kernel
theorem dX5_up_38 : decode cX5_up 38 = .ok (.getfield 54, 3) := by decide +kernel
theorem dX5_up_41 : decode cX5_up 41 = .ok (.iload_n 2, 1) := by decide +kernel
theorem dX5_up_42 : decode cX5_up 42 = .ok (.invokevirtual 83, 3) := by decide +kernel
theorem dX5_up_45 : decode cX5_up 45 = .ok (.istore_n 3, 1) := by decide +kernel
theorem dX5_up_46 : decode cX5_up 46 = .ok (.aload_n 0, 1) := by decide +kernel
theorem dX5_up_47 : decode cX5_up 47 = .ok (.getfield 50, 3) := by decide +kernel
theorem dX5_up_50 : decode cX5_up 50 = .ok (.getfield 75, 3) := by decide +kernel
theorem dX5_up_53 : decode cX5_up 53 = .ok (.aload_n 0, 1) := by decide +kernel
theorem dX5_up_54 : decode cX5_up 54 = .ok (.getfield 54, 3) := by decide +kernel
theorem dX5_up_57 : decode cX5_up 57 = .ok (.iload_n 2, 1) := by decide +kernel
theorem dX5_up_58 : decode cX5_up 58 = .ok (.invokevirtual 133, 3) := by decide +kernel
theorem dX5_up_61 : decode cX5_up 61 = .ok (.istore 4, 2) := by decide +kernel
theorem dX5_up_63 : decode cX5_up 63 = .ok (.iload 4, 2) := by decide +kernel
theorem dX5_up_65 : decode cX5_up 65 = .ok (.iconst (-1), 1) := by decide +kernel
theorem dX5_up_66 : decode cX5_up 66 = .ok (.if_icmp .eq 20, 3) := by decide +kernel
theorem dX5_up_69 : decode cX5_up 69 = .ok (.iload_n 3, 1) := by decide +kernel
theorem dX5_up_70 : decode cX5_up 70 = .ok (.iconst 4, 1) := by decide +kernel
theorem dX5_up_71 : decode cX5_up 71 = .ok (.invokestatic 136, 3) := by decide +kernel
theorem dX5_up_74 : decode cX5_up 74 = .ok (.ifCond .eq 12, 3) := by decide +kernel
theorem dX5_up_77 : decode cX5_up 77 = .ok (.aload_n 0, 1) := by decide +kernel
theorem dX5_up_78 : decode cX5_up 78 = .ok (.getfield 60, 3) := by decide +kernel
theorem dX5_up_81 : decode cX5_up 81 = .ok (.iload_n 3, 1) := by decide +kernel
theorem dX5_up_82 : decode cX5_up 82 = .ok (.aaload, 1) := by decide +kernel
theorem dX5_up_83 : decode cX5_up 83 = .ok (.ifnonnull 5, 3) := by decide +kernel
theorem dX5_up_86 : decode cX5_up 86 = .ok (.iconst (-1), 1) := by decide +kernel
theorem dX5_up_87 : decode cX5_up 87 = .ok (.ireturn, 1) := by decide +kernel
theorem dX5_up_88 : decode cX5_up 88 = .ok (.iload_n 1, 1) := by decide +kernel
theorem dX5_up_89 : decode cX5_up 89 = .ok (.bipush 16, 2) := by decide +kernel
theorem dX5_up_91 : decode cX5_up 91 = .ok (.if_icmp .ne 7, 3) := by decide +kernel
theorem dX5_up_94 : decode cX5_up 94 = .ok (.iconst (-1), 1) := by decide +kernel
theorem dX5_up_95 : decode cX5_up 95 = .ok (.goto 17, 3) := by decide +kernel
theorem dX5_up_98 : decode cX5_up 98 = .ok (.aload_n 0, 1) := by decide +kernel
theorem dX5_up_99 : decode cX5_up 99 = .ok (.getfield 60, 3) := by decide +kernel
theorem dX5_up_102 : decode cX5_up 102 = .ok (.iload_n 3, 1) := by decide +kernel
theorem dX5_up_103 : decode cX5_up 103 = .ok (.aaload, 1) := by decide +kernel
theorem dX5_up_104 : decode cX5_up 104 = .ok (.aload_n 0, 1) := by decide +kernel
theorem dX5_up_105 : decode cX5_up 105 = .ok (.getfield 57, 3) := by decide +kernel
theorem dX5_up_108 : decode cX5_up 108 = .ok (.iload_n 1, 1) := by decide +kernel
theorem dX5_up_109 : decode cX5_up 109 = .ok (.invokevirtual 139, 3) := by decide +kernel
theorem dX5_up_112 : decode cX5_up 112 = .ok (.istore 5, 2) := by decide +kernel
theorem dX5_up_114 : decode cX5_up 114 = .ok (.iload 5, 2) := by decide +kernel
theorem dX5_up_116 : decode cX5_up 116 = .ok (.iconst (-1), 1) := by decide +kernel
theorem dX5_up_117 : decode cX5_up 117 = .ok (.if_icmp .eq 10, 3) := by decide +kernel
theorem dX5_up_120 : decode cX5_up 120 = .ok (.iload 5, 2) := by decide +kernel
theorem dX5_up_122 : decode cX5_up 122 = .ok (.bipush 100, 2) := by decide +kernel
theorem dX5_up_124 : decode cX5_up 124 = .ok (.irem, 1) := by decide +kernel
theorem dX5_up_125 : decode cX5_up 125 = .ok (.istore 4, 2) := by decide +kernel
theorem dX5_up_127 : decode cX5_up 127 = .ok (.aload_n 0, 1) := by decide +kernel
theorem dX5_up_128 : decode cX5_up 128 = .ok (.getfield 60, 3) := by decide +kernel
theorem dX5_up_131 : decode cX5_up 131 = .ok (.iload_n 3, 1) := by decide +kernel
theorem dX5_up_132 : decode cX5_up 132 = .ok (.aaload, 1) := by decide +kernel
theorem dX5_up_133 : decode cX5_up 133 = .ok (.getfield 142, 3) := by decide +kernel
theorem dX5_up_136 : decode cX5_up 136 = .ok (.iload 4, 2) := by decide +kernel
theorem dX5_up_138 : decode cX5_up 138 = .ok (.invokestatic 145, 3) := by decide +kernel
theorem dX5_up_141 : decode cX5_up 141 = .ok (.ifCond .eq 13, 3) := by decide +kernel
theorem dX5_up_144 : decode cX5_up 144 = .ok (.iload_n 3, 1) := by decide +kernel
theorem dX5_up_145 : decode cX5_up 145 = .ok (.bipush 16, 2) := by decide +kernel
theorem dX5_up_147 : decode cX5_up 147 = .ok (.imul, 1) := by decide +kernel
theorem dX5_up_148 : decode cX5_up 148 = .ok (.iload 4, 2) := by decide +kernel
theorem dX5_up_150 : decode cX5_up 150 = .ok (.iadd, 1) := by decide +kernel
theorem dX5_up_151 : decode cX5_up 151 = .ok (.goto 4, 3) := by decide +kernel
theorem dX5_up_154 : decode cX5_up 154 = .ok (.iconst (-1), 1) := by decide +kernel
theorem dX5_up_155 : decode cX5_up 155 = .ok (.ireturn, 1) := by decide +kernel
def d_X5_up_127 (x0 : Nat) (x3 : Int32) (x4 : Int32) (G : Hp) : Option (Int32) :=
  gd (hc G x0 = 6) <|
  gd (hc G (hr G x0 3) = 16 ∧ ix x3 (hl G (hr G x0 3))) <|
  gd (hc G (hr G (hr G x0 3) x3.toNatClampNeg) = 4) <|
  bo (d_X8_has (hi G (hr G (hr G x0 3) x3.toNatClampNeg) 4) x4 G) fun v5 =>
  if v5 = 0 then
    some (-1)
  else
    some ((x3 * 16) + x4)
def d_X5_up_112 (x0 : Nat) (x3 : Int32) (x4 : Int32) (s0 : Int32) (G : Hp) : Option (Int32) :=
  if s0 = (-1) then
    d_X5_up_127 x0 x3 x4 G
  else
    d_X5_up_127 x0 x3 (s0 - s0 / 100 * 100) G
def d_X5_up_29 (x0 : Nat) (x1 : Int32) (s0 : Int32) (G : Hp) : Option (Int32) :=
  gd (hc G x0 = 6) <|
  gd (hc G (hr G x0 0) = 3) <|
  gd (hc G (hr G (hr G x0 0) 1) = 7) <|
  bo (d_X6_portTo (hr G (hr G x0 0) 1) (hi G x0 1) s0 G) fun v5 =>
  bo (d_X6_routerTo (hr G (hr G x0 0) 1) (hi G x0 1) s0 G) fun v7 =>
  if v7 = (-1) then
    some (-1)
  else
    bo (d_X8_isIn v5 4 G) fun v10 =>
    if v10 = 0 then
      some (-1)
    else
      gd (hc G (hr G x0 3) = 16 ∧ ix v5 (hl G (hr G x0 3))) <|
      if (hr G (hr G x0 3) v5.toNatClampNeg) = 0 then
        some (-1)
      else
        if x1 = 16 then
          d_X5_up_112 x0 v5 v7 (-1) G
        else
          gd (hc G (hr G x0 3) = 16 ∧ ix v5 (hl G (hr G x0 3))) <|
          gd (hc G (hr G (hr G x0 3) v5.toNatClampNeg) = 4) <|
          bo (d_X3_keptClaim (hr G (hr G x0 3) v5.toNatClampNeg) (hi G x0 2) x1 G) fun v18 =>
          d_X5_up_112 x0 v5 v7 v18 G
def d_X5_up (x0 : Nat) (x1 : Int32) (G : Hp) : Option (Int32) :=
  if x1 = 16 then
    gd (hc G x0 = 6) <|
    gd (hc G (hr G x0 0) = 3) <|
    gd (hc G (hr G (hr G x0 0) 2) = 11 ∧ ix (hi G x0 2) (hl G (hr G (hr G x0 0) 2))) <|
    d_X5_up_29 x0 x1 (hi G (hr G (hr G x0 0) 2) (hi G x0 2).toNatClampNeg) G
  else
    gd (hc G x0 = 6) <|
    gd (hc G (hr G x0 0) = 3) <|
    bo (d_X2_targetOf (hr G x0 0) x1 G) fun v5 =>
    d_X5_up_29 x0 x1 v5 G
section
variable {p : Program} {l : Launch} {e : Env} {s : State} {m : MethodId} {args : Array Value} {below : List Frame} {meth : Method} {c : Code} {b0 : Nat} {D : va_G} {E : Nat → ClassId}
set_option maxHeartbeats 4000000 in
set_option maxRecDepth 100000 in
theorem k_X5_up_127 (C : Cx p s m args meth c RX5 cX5_up 6 (some .int) b0 D E) {rr : Int32} {G : Hp} {x0 : Nat} {x3 : Int32} {x4 : Int32} {ls : Array Slot} {H : Heap} {locs : List Loc} : lx ls 6 [(0, .inr x0), (3, .inl x3), (4, .inl x4)] → Rp b0 D E G H → SS b0 s H locs → d_X5_up_127 x0 x3 x4 G = some rr → W p l e (rmd 2 (0) (0)) s m args below meth c H locs (0) (0) (MQ below (CQ b0 D E (some (.int rr)) G) args s (0) (0) (fun q => b0 ≤ q)) (F0 m 127 ls []) := by
  intro hL hR hS hd
  unfold d_X5_up_127 at hd
  have hx := C.1
  have hb := C.2.1
  refine x_aload_n C dX5_up_127 hL 0 rfl ?_
  obtain ⟨g1, hd⟩ := gd_ex hd
  refine r_getr (ci := 5) (k := 3) C fl_X5_60 rfl dX5_up_128 hR g1 ?_
  refine x_iload_n C dX5_up_131 hL 1 rfl ?_
  obtain ⟨g2, hd⟩ := gd_ex hd
  refine r_aald (ci := 3) C (by decide) dX5_up_132 hR g2 ?_
  obtain ⟨g3, hd⟩ := gd_ex hd
  refine r_geti (ci := 3) (k := 4) C fl_X5_142 rfl dX5_up_133 hR g3 ?_
  refine x_iload C dX5_up_136 hL 2 rfl ?_
  obtain ⟨v5, h4, hd⟩ := bo_ex hd
  refine r_callSN (As := [.int (hi G (hr G (hr G x0 3) x3.toNatClampNeg) 4), .int x4]) C (ct_X8_has h4) mf_X8_has (by decide +kernel) ms_X8_has rfl ⟨Nat.le_of_ble_eq_true rfl, Nat.le_of_ble_eq_true rfl⟩ dX5_up_138 (lx_size hL) rfl hR hS ⟨Nat.le_refl _, Nat.le_refl _⟩ (cat_le [] (Nat.le_of_ble_eq_true rfl)) (fun H locs hR hS => ?_)
  refine W_st (st2 := [.int v5]) rfl ?_
  refine lv_if_eq (tgt := 154) hx hb dX5_up_141 (by decide) (fun c6 => ?_) (fun c6 => ?_)
  · rw [if_pos c6] at hd
    refine lv_iconst (v := (-1)) hx hb dX5_up_154 (by decide) ?_
    cases hd
    exact r_iret C dX5_up_155 hR hS
  · rw [if_neg c6] at hd
    refine x_iload_n C dX5_up_144 hL 1 rfl ?_
    refine lv_bipush (v := 16) hx hb dX5_up_145 (by decide) ?_
    refine lv_imul hx hb dX5_up_147 ?_
    refine x_iload C dX5_up_148 hL 2 rfl ?_
    refine lv_iadd hx hb dX5_up_150 ?_
    refine lv_goto (tgt := 155) hx hb dX5_up_151 (by decide) ?_
    cases hd
    exact r_iret C dX5_up_155 hR hS
set_option maxHeartbeats 4000000 in
set_option maxRecDepth 100000 in
theorem k_X5_up_112 (C : Cx p s m args meth c RX5 cX5_up 6 (some .int) b0 D E) {rr : Int32} {G : Hp} {x0 : Nat} {x3 : Int32} {x4 : Int32} {s0 : Int32} {ls : Array Slot} {H : Heap} {locs : List Loc} : lx ls 6 [(0, .inr x0), (3, .inl x3), (4, .inl x4)] → Rp b0 D E G H → SS b0 s H locs → d_X5_up_112 x0 x3 x4 s0 G = some rr → W p l e (rmd 2 (0) (0)) s m args below meth c H locs (0) (0) (MQ below (CQ b0 D E (some (.int rr)) G) args s (0) (0) (fun q => b0 ≤ q)) (F0 m 112 ls [.int s0]) := by
  intro hL hR hS hd
  unfold d_X5_up_112 at hd
  have hx := C.1
  have hb := C.2.1
  refine x_istore (lv' := [(5, .inl s0), (0, .inr x0), (3, .inl x3), (4, .inl x4)]) C dX5_up_112 hL (by decide) rfl (fun ls hL => ?_)
  refine x_iload C dX5_up_114 hL 0 rfl ?_
  refine lv_iconst (v := (-1)) hx hb dX5_up_116 (by decide) ?_
  refine lv_icmp_eq (tgt := 127) hx hb dX5_up_117 (by decide) (fun c1 => ?_) (fun c1 => ?_)
  · rw [if_pos c1] at hd
    exact k_X5_up_127 C (lx_sub hL [1, 2, 3] rfl) hR hS hd
  · rw [if_neg c1] at hd
    refine x_iload C dX5_up_120 hL 0 rfl ?_
    refine lv_bipush (v := 100) hx hb dX5_up_122 (by decide) ?_
    refine lv_irem hx hb dX5_up_124 (by decide) ?_
    refine x_istore (lv' := [(4, .inl (s0 - s0 / 100 * 100)), (5, .inl s0), (0, .inr x0), (3, .inl x3)]) C dX5_up_125 hL (by decide) rfl (fun ls hL => ?_)
    exact k_X5_up_127 C (lx_sub hL [2, 3, 0] rfl) hR hS hd
set_option maxHeartbeats 4000000 in
set_option maxRecDepth 100000 in
theorem k_X5_up_29 (C : Cx p s m args meth c RX5 cX5_up 6 (some .int) b0 D E) {rr : Int32} {G : Hp} {x0 : Nat} {x1 : Int32} {s0 : Int32} {ls : Array Slot} {H : Heap} {locs : List Loc} : lx ls 6 [(0, .inr x0), (1, .inl x1)] → Rp b0 D E G H → SS b0 s H locs → d_X5_up_29 x0 x1 s0 G = some rr → W p l e (rmd 2 (0) (0)) s m args below meth c H locs (0) (0) (MQ below (CQ b0 D E (some (.int rr)) G) args s (0) (0) (fun q => b0 ≤ q)) (F0 m 29 ls [.int s0]) := by
  intro hL hR hS hd
  unfold d_X5_up_29 at hd
  have hx := C.1
  have hb := C.2.1
  refine x_istore_n (lv' := [(2, .inl s0), (0, .inr x0), (1, .inl x1)]) C dX5_up_29 hL (by decide) rfl (fun ls hL => ?_)
  refine x_aload_n C dX5_up_30 hL 1 rfl ?_
  obtain ⟨g1, hd⟩ := gd_ex hd
  refine r_getr (ci := 5) (k := 0) C fl_X5_50 rfl dX5_up_31 hR g1 ?_
  obtain ⟨g2, hd⟩ := gd_ex hd
  refine r_getr (ci := 2) (k := 1) C fl_X5_75 rfl dX5_up_34 hR g2 ?_
  refine x_aload_n C dX5_up_37 hL 1 rfl ?_
  refine r_geti (ci := 5) (k := 1) C fl_X5_54 rfl dX5_up_38 hR g1 ?_
  refine x_iload_n C dX5_up_41 hL 0 rfl ?_
  obtain ⟨g3, hd⟩ := gd_ex hd
  obtain ⟨v5, h4, hd⟩ := bo_ex hd
  refine r_callV (a := (hr G (hr G x0 0) 1)) (ci := 6) (As := [.int (hi G x0 1), .int s0]) C (ct_X6_portTo h4) mf_X6_portTo ml_X5_83 mv_X6_portTo rfl ⟨Nat.le_of_ble_eq_true rfl, Nat.le_of_ble_eq_true rfl⟩ dX5_up_42 (lx_size hL) rfl hR hS g3 ⟨Nat.le_refl _, Nat.le_refl _⟩ (cat_le [] (Nat.le_of_ble_eq_true rfl)) (fun H locs hR hS => ?_)
  refine W_st (st2 := [.int v5]) rfl ?_
  refine x_istore_n (lv' := [(3, .inl v5), (2, .inl s0), (0, .inr x0), (1, .inl x1)]) C dX5_up_45 hL (by decide) rfl (fun ls hL => ?_)
  refine x_aload_n C dX5_up_46 hL 2 rfl ?_
  refine r_getr (ci := 5) (k := 0) C fl_X5_50 rfl dX5_up_47 hR g1 ?_
  refine r_getr (ci := 2) (k := 1) C fl_X5_75 rfl dX5_up_50 hR g2 ?_
  refine x_aload_n C dX5_up_53 hL 2 rfl ?_
  refine r_geti (ci := 5) (k := 1) C fl_X5_54 rfl dX5_up_54 hR g1 ?_
  refine x_iload_n C dX5_up_57 hL 1 rfl ?_
  obtain ⟨v7, h6, hd⟩ := bo_ex hd
  refine r_callV (a := (hr G (hr G x0 0) 1)) (ci := 6) (As := [.int (hi G x0 1), .int s0]) C (ct_X6_routerTo h6) mf_X6_routerTo ml_X5_133 mv_X6_routerTo rfl ⟨Nat.le_of_ble_eq_true rfl, Nat.le_of_ble_eq_true rfl⟩ dX5_up_58 (lx_size hL) rfl hR hS g3 ⟨Nat.le_refl _, Nat.le_refl _⟩ (cat_le [] (Nat.le_of_ble_eq_true rfl)) (fun H locs hR hS => ?_)
  refine W_st (st2 := [.int v7]) rfl ?_
  refine x_istore (lv' := [(4, .inl v7), (3, .inl v5), (2, .inl s0), (0, .inr x0), (1, .inl x1)]) C dX5_up_61 hL (by decide) rfl (fun ls hL => ?_)
  refine x_iload C dX5_up_63 hL 0 rfl ?_
  refine lv_iconst (v := (-1)) hx hb dX5_up_65 (by decide) ?_
  refine lv_icmp_eq (tgt := 86) hx hb dX5_up_66 (by decide) (fun c8 => ?_) (fun c8 => ?_)
  · rw [if_pos c8] at hd
    refine lv_iconst (v := (-1)) hx hb dX5_up_86 (by decide) ?_
    cases hd
    exact r_iret C dX5_up_87 hR hS
  · rw [if_neg c8] at hd
    refine x_iload_n C dX5_up_69 hL 1 rfl ?_
    refine lv_iconst (v := 4) hx hb dX5_up_70 (by decide) ?_
    obtain ⟨v10, h9, hd⟩ := bo_ex hd
    refine r_callSN (As := [.int v5, .int 4]) C (ct_X8_isIn h9) mf_X8_isIn (by decide +kernel) ms_X8_isIn rfl ⟨Nat.le_of_ble_eq_true rfl, Nat.le_of_ble_eq_true rfl⟩ dX5_up_71 (lx_size hL) rfl hR hS ⟨Nat.le_refl _, Nat.le_refl _⟩ (cat_le [] (Nat.le_of_ble_eq_true rfl)) (fun H locs hR hS => ?_)
    refine W_st (st2 := [.int v10]) rfl ?_
    refine lv_if_eq (tgt := 86) hx hb dX5_up_74 (by decide) (fun c11 => ?_) (fun c11 => ?_)
    · rw [if_pos c11] at hd
      refine lv_iconst (v := (-1)) hx hb dX5_up_86 (by decide) ?_
      cases hd
      exact r_iret C dX5_up_87 hR hS
    · rw [if_neg c11] at hd
      refine x_aload_n C dX5_up_77 hL 3 rfl ?_
      refine r_getr (ci := 5) (k := 3) C fl_X5_60 rfl dX5_up_78 hR g1 ?_
      refine x_iload_n C dX5_up_81 hL 1 rfl ?_
      obtain ⟨g12, hd⟩ := gd_ex hd
      refine r_aald (ci := 3) C (by decide) dX5_up_82 hR g12 ?_
      refine r_ifnonnull (tgt := 88) C dX5_up_83 (by decide) (fun c13 => ?_) (fun c13 => ?_)
      · rw [if_neg c13] at hd
        refine x_iload_n C dX5_up_88 hL 4 rfl ?_
        refine lv_bipush (v := 16) hx hb dX5_up_89 (by decide) ?_
        refine lv_icmp_ne (tgt := 98) hx hb dX5_up_91 (by decide) (fun c14 => ?_) (fun c14 => ?_)
        · rw [if_neg c14] at hd
          refine x_aload_n C dX5_up_98 hL 3 rfl ?_
          refine r_getr (ci := 5) (k := 3) C fl_X5_60 rfl dX5_up_99 hR g1 ?_
          refine x_iload_n C dX5_up_102 hL 1 rfl ?_
          obtain ⟨g15, hd⟩ := gd_ex hd
          refine r_aald (ci := 3) C (by decide) dX5_up_103 hR g15 ?_
          refine x_aload_n C dX5_up_104 hL 3 rfl ?_
          refine r_geti (ci := 5) (k := 2) C fl_X5_57 rfl dX5_up_105 hR g1 ?_
          refine x_iload_n C dX5_up_108 hL 4 rfl ?_
          obtain ⟨g16, hd⟩ := gd_ex hd
          obtain ⟨v18, h17, hd⟩ := bo_ex hd
          refine r_callV (a := (hr G (hr G x0 3) v5.toNatClampNeg)) (ci := 3) (As := [.int (hi G x0 2), .int x1]) C (ct_X3_keptClaim h17) mf_X3_keptClaim ml_X5_139 mv_X3_keptClaim rfl ⟨Nat.le_of_ble_eq_true rfl, Nat.le_of_ble_eq_true rfl⟩ dX5_up_109 (lx_size hL) rfl hR hS g16 ⟨Nat.le_refl _, Nat.le_refl _⟩ (cat_le [] (Nat.le_of_ble_eq_true rfl)) (fun H locs hR hS => ?_)
          refine W_st (st2 := [.int v18]) rfl ?_
          exact k_X5_up_112 C (lx_sub hL [3, 1, 0] rfl) hR hS hd
        · rw [if_pos c14] at hd
          refine lv_iconst (v := (-1)) hx hb dX5_up_94 (by decide) ?_
          refine lv_goto (tgt := 112) hx hb dX5_up_95 (by decide) ?_
          exact k_X5_up_112 C (lx_sub hL [3, 1, 0] rfl) hR hS hd
      · rw [if_pos c13] at hd
        refine lv_iconst (v := (-1)) hx hb dX5_up_86 (by decide) ?_
        cases hd
        exact r_iret C dX5_up_87 hR hS
set_option maxHeartbeats 4000000 in
set_option maxRecDepth 100000 in
theorem k_X5_up (C : Cx p s m args meth c RX5 cX5_up 6 (some .int) b0 D E) {rr : Int32} {G : Hp} {x0 : Nat} {x1 : Int32} {ls : Array Slot} {H : Heap} {locs : List Loc} : lx ls 6 [(0, .inr x0), (1, .inl x1)] → Rp b0 D E G H → SS b0 s H locs → d_X5_up x0 x1 G = some rr → W p l e (rmd 2 (0) (0)) s m args below meth c H locs (0) (0) (MQ below (CQ b0 D E (some (.int rr)) G) args s (0) (0) (fun q => b0 ≤ q)) (F0 m 0 ls []) := by
  intro hL hR hS hd
  unfold d_X5_up at hd
  have hx := C.1
  have hb := C.2.1
  refine x_iload_n C dX5_up_0 hL 1 rfl ?_
  refine lv_bipush (v := 16) hx hb dX5_up_1 (by decide) ?_
  refine lv_icmp_ne (tgt := 21) hx hb dX5_up_3 (by decide) (fun c1 => ?_) (fun c1 => ?_)
  · rw [if_neg c1] at hd
    refine x_aload_n C dX5_up_21 hL 0 rfl ?_
    obtain ⟨g2, hd⟩ := gd_ex hd
    refine r_getr (ci := 5) (k := 0) C fl_X5_50 rfl dX5_up_22 hR g2 ?_
    refine x_iload_n C dX5_up_25 hL 1 rfl ?_
    obtain ⟨g3, hd⟩ := gd_ex hd
    obtain ⟨v5, h4, hd⟩ := bo_ex hd
    refine r_callV (a := (hr G x0 0)) (ci := 2) (As := [.int x1]) C (ct_X2_targetOf h4) mf_X2_targetOf ml_X5_79 mv_X2_targetOf rfl ⟨Nat.le_of_ble_eq_true rfl, Nat.le_of_ble_eq_true rfl⟩ dX5_up_26 (lx_size hL) rfl hR hS g3 ⟨Nat.le_refl _, Nat.le_refl _⟩ (cat_le [] (Nat.le_of_ble_eq_true rfl)) (fun H locs hR hS => ?_)
    refine W_st (st2 := [.int v5]) rfl ?_
    exact k_X5_up_29 C hL hR hS hd
  · rw [if_pos c1] at hd
    refine x_aload_n C dX5_up_6 hL 0 rfl ?_
    obtain ⟨g6, hd⟩ := gd_ex hd
    refine r_getr (ci := 5) (k := 0) C fl_X5_50 rfl dX5_up_7 hR g6 ?_
    obtain ⟨g7, hd⟩ := gd_ex hd
    refine r_getr (ci := 2) (k := 2) C fl_X5_70 rfl dX5_up_10 hR g7 ?_
    refine x_aload_n C dX5_up_13 hL 0 rfl ?_
    refine r_geti (ci := 5) (k := 2) C fl_X5_57 rfl dX5_up_14 hR g6 ?_
    obtain ⟨g8, hd⟩ := gd_ex hd
    refine r_iald C dX5_up_17 hR g8 ?_
    refine lv_goto (tgt := 29) hx hb dX5_up_18 (by decide) ?_
    exact k_X5_up_29 C hL hR hS hd
end
set_option maxHeartbeats 4000000 in
set_option maxRecDepth 100000 in
theorem ct_X5_up {l : Launch} {b0 : Nat} {D : va_G} {E : Nat → ClassId} {G : Hp} {a0 : Nat} {a1 : Int32} {rr : Int32} (hd : d_X5_up a0 a1 G = some rr) : CT l yX5_up cX5_up 6 (some .int) 2 0 0 b0 D E [rv a0, .int a1] G (some (.int rr)) G := by
  refine CT_of (by decide +kernel) ?_
  intro p e s m below meth c C hnm hR
  refine r_entry [.inr a0, .inl a1] (n := 6) (Nat.le_of_ble_eq_true rfl) (lv := [(0, .inr a0), (1, .inl a1)]) rfl (fun ls hL => ?_)
  exact k_X5_up C (lx_sub hL [0, 1] rfl) hR ⟨fun _ _ => rfl, fun _ h => by cases h⟩ hd

/-! GroveWorks$Tree.goesStraight(II)Z pure -/
theorem dX5_goesStraight_0 : decode cX5_goesStraight 0 = .ok (.aload_n 0, 1) := by decide +kernel
theorem dX5_goesStraight_1 : decode cX5_goesStraight 1 = .ok (.iload_n 1, 1) := by decide +kernel
theorem dX5_goesStraight_2 : decode cX5_goesStraight 2 = .ok (.invokevirtual 203, 3) := by decide +kernel
theorem dX5_goesStraight_5 : decode cX5_goesStraight 5 = .ok (.ifCond .ne 29, 3) := by decide +kernel
theorem dX5_goesStraight_8 : decode cX5_goesStraight 8 = .ok (.aload_n 0, 1) := by decide +kernel
theorem dX5_goesStraight_9 : decode cX5_goesStraight 9 = .ok (.invokevirtual 256, 3) := by decide +kernel
theorem dX5_goesStraight_12 : decode cX5_goesStraight 12 = .ok (.iload_n 2, 1) := by decide +kernel
theorem dX5_goesStraight_13 : decode cX5_goesStraight 13 = .ok (.if_icmp .ne 21, 3) := by decide +kernel
theorem dX5_goesStraight_16 : decode cX5_goesStraight 16 = .ok (.aload_n 0, 1) := by decide +kernel
theorem dX5_goesStraight_17 : decode cX5_goesStraight 17 = .ok (.getfield 40, 3) := by decide +kernel
theorem dX5_goesStraight_20 : decode cX5_goesStraight 20 = .ok (.ifCond .eq 14, 3) := by decide +kernel
theorem dX5_goesStraight_23 : decode cX5_goesStraight 23 = .ok (.aload_n 0, 1) := by decide +kernel
theorem dX5_goesStraight_24 : decode cX5_goesStraight 24 = .ok (.getfield 37, 3) := by decide +kernel
theorem dX5_goesStraight_27 : decode cX5_goesStraight 27 = .ok (.iload_n 2, 1) := by decide +kernel
theorem dX5_goesStraight_28 : decode cX5_goesStraight 28 = .ok (.invokestatic 145, 3) := by decide +kernel
theorem dX5_goesStraight_31 : decode cX5_goesStraight 31 = .ok (.ifCond .eq 5, 3) := by decide +kernel
theorem dX5_goesStraight_34 : decode cX5_goesStraight 34 = .ok (.iconst 1, 1) := by decide +kernel
theorem dX5_goesStraight_35 : decode cX5_goesStraight 35 = .ok (.ireturn, 1) := by decide +kernel
theorem dX5_goesStraight_36 : decode cX5_goesStraight 36 = .ok (.aload_n 0, 1) := by decide +kernel
theorem dX5_goesStraight_37 : decode cX5_goesStraight 37 = .ok (.iload_n 1, 1) := by decide +kernel
theorem dX5_goesStraight_38 : decode cX5_goesStraight 38 = .ok (.invokevirtual 148, 3) := by decide +kernel
theorem dX5_goesStraight_41 : decode cX5_goesStraight 41 = .ok (.istore_n 3, 1) := by decide +kernel
theorem dX5_goesStraight_42 : decode cX5_goesStraight 42 = .ok (.iload_n 3, 1) := by decide +kernel
theorem dX5_goesStraight_43 : decode cX5_goesStraight 43 = .ok (.iconst (-1), 1) := by decide +kernel
theorem dX5_goesStraight_44 : decode cX5_goesStraight 44 = .ok (.if_icmp .eq 17, 3) := by decide +kernel
theorem dX5_goesStraight_47 : decode cX5_goesStraight 47 = .ok (.iload_n 3, 1) := by decide +kernel
theorem dX5_goesStraight_48 : decode cX5_goesStraight 48 = .ok (.aload_n 0, 1) := by decide +kernel
theorem dX5_goesStraight_49 : decode cX5_goesStraight 49 = .ok (.bipush 16, 2) := by decide +kernel
theorem dX5_goesStraight_51 : decode cX5_goesStraight 51 = .ok (.invokevirtual 148, 3) := by decide +kernel
theorem dX5_goesStraight_54 : decode cX5_goesStraight 54 = .ok (.if_icmp .ne 7, 3) := by decide +kernel
theorem dX5_goesStraight_57 : decode cX5_goesStraight 57 = .ok (.iconst 1, 1) := by decide +kernel
theorem dX5_goesStraight_58 : decode cX5_goesStraight 58 = .ok (.goto 4, 3) := by decide +kernel
theorem dX5_goesStraight_61 : decode cX5_goesStraight 61 = .ok (.iconst 0, 1) := by decide +kernel
theorem dX5_goesStraight_62 : decode cX5_goesStraight 62 = .ok (.ireturn, 1) := by decide +kernel
def d_X5_goesStraight (x0 : Nat) (x1 : Int32) (x2 : Int32) (G : Hp) : Option (Int32) :=
  gd (hc G x0 = 6) <|
  bo (d_X5_isDirect x0 x1 G) fun v3 =>
  if v3 = 0 then
    bo (d_X5_portToMeeting x0 G) fun v6 =>
    if v6 = x2 then
      if (hi G x0 13) = 0 then
        some 1
      else
        bo (d_X8_has (hi G x0 12) x2 G) fun v10 =>
        if v10 = 0 then
          bo (d_X5_up x0 x1 G) fun v13 =>
          if v13 = (-1) then
            some 0
          else
            bo (d_X5_up x0 16 G) fun v16 =>
            if v13 = v16 then
              some 1
            else
              some 0
        else
          some 1
    else
      some 1
  else
    some 1
section
variable {p : Program} {l : Launch} {e : Env} {s : State} {m : MethodId} {args : Array Value} {below : List Frame} {meth : Method} {c : Code} {b0 : Nat} {D : va_G} {E : Nat → ClassId}
set_option maxHeartbeats 4000000 in
set_option maxRecDepth 100000 in
theorem k_X5_goesStraight (C : Cx p s m args meth c RX5 cX5_goesStraight 4 (some .boolean) b0 D E) {rr : Int32} {G : Hp} {x0 : Nat} {x1 : Int32} {x2 : Int32} {ls : Array Slot} {H : Heap} {locs : List Loc} : lx ls 4 [(0, .inr x0), (1, .inl x1), (2, .inl x2)] → Rp b0 D E G H → SS b0 s H locs → d_X5_goesStraight x0 x1 x2 G = some rr → W p l e (rmd 3 (0) (0)) s m args below meth c H locs (0) (0) (MQ below (CQ b0 D E (some (.int rr)) G) args s (0) (0) (fun q => b0 ≤ q)) (F0 m 0 ls []) := by
  intro hL hR hS hd
  unfold d_X5_goesStraight at hd
  have hx := C.1
  have hb := C.2.1
  refine x_aload_n C dX5_goesStraight_0 hL 0 rfl ?_
  refine x_iload_n C dX5_goesStraight_1 hL 1 rfl ?_
  obtain ⟨g1, hd⟩ := gd_ex hd
  obtain ⟨v3, h2, hd⟩ := bo_ex hd
  refine r_callV (a := x0) (ci := 5) (As := [.int x1]) C (ct_X5_isDirect h2) mf_X5_isDirect ml_X5_203 mv_X5_isDirect rfl ⟨Nat.le_of_ble_eq_true rfl, Nat.le_of_ble_eq_true rfl⟩ dX5_goesStraight_2 (lx_size hL) rfl hR hS g1 ⟨Nat.le_refl _, Nat.le_refl _⟩ (cat_le [] (Nat.le_of_ble_eq_true rfl)) (fun H locs hR hS => ?_)
  refine W_st (st2 := [.int v3]) rfl ?_
  refine lv_if_ne (tgt := 34) hx hb dX5_goesStraight_5 (by decide) (fun c4 => ?_) (fun c4 => ?_)
  · rw [if_neg c4] at hd
    refine lv_iconst (v := 1) hx hb dX5_goesStraight_34 (by decide) ?_
    cases hd
    exact r_zret C (by decide) dX5_goesStraight_35 hR hS
  · rw [if_pos c4] at hd
    refine x_aload_n C dX5_goesStraight_8 hL 0 rfl ?_
    obtain ⟨v6, h5, hd⟩ := bo_ex hd
    refine r_callV (a := x0) (ci := 5) (As := []) C (ct_X5_portToMeeting h5) mf_X5_portToMeeting ml_X5_256 mv_X5_portToMeeting rfl ⟨Nat.le_of_ble_eq_true rfl, Nat.le_of_ble_eq_true rfl⟩ dX5_goesStraight_9 (lx_size hL) rfl hR hS g1 ⟨Nat.le_refl _, Nat.le_refl _⟩ (cat_le [] (Nat.le_of_ble_eq_true rfl)) (fun H locs hR hS => ?_)
    refine W_st (st2 := [.int v6]) rfl ?_
    refine x_iload_n C dX5_goesStraight_12 hL 2 rfl ?_
    refine lv_icmp_ne (tgt := 34) hx hb dX5_goesStraight_13 (by decide) (fun c7 => ?_) (fun c7 => ?_)
    · rw [if_neg c7] at hd
      refine lv_iconst (v := 1) hx hb dX5_goesStraight_34 (by decide) ?_
      cases hd
      exact r_zret C (by decide) dX5_goesStraight_35 hR hS
    · rw [if_pos c7] at hd
      refine x_aload_n C dX5_goesStraight_16 hL 0 rfl ?_
      refine r_geti (ci := 5) (k := 13) C fl_X5_40 rfl dX5_goesStraight_17 hR g1 ?_
      refine lv_if_eq (tgt := 34) hx hb dX5_goesStraight_20 (by decide) (fun c8 => ?_) (fun c8 => ?_)
      · rw [if_pos c8] at hd
        refine lv_iconst (v := 1) hx hb dX5_goesStraight_34 (by decide) ?_
        cases hd
        exact r_zret C (by decide) dX5_goesStraight_35 hR hS
      · rw [if_neg c8] at hd
        refine x_aload_n C dX5_goesStraight_23 hL 0 rfl ?_
        refine r_geti (ci := 5) (k := 12) C fl_X5_37 rfl dX5_goesStraight_24 hR g1 ?_
        refine x_iload_n C dX5_goesStraight_27 hL 2 rfl ?_
        obtain ⟨v10, h9, hd⟩ := bo_ex hd
        refine r_callSN (As := [.int (hi G x0 12), .int x2]) C (ct_X8_has h9) mf_X8_has (by decide +kernel) ms_X8_has rfl ⟨Nat.le_of_ble_eq_true rfl, Nat.le_of_ble_eq_true rfl⟩ dX5_goesStraight_28 (lx_size hL) rfl hR hS ⟨Nat.le_refl _, Nat.le_refl _⟩ (cat_le [] (Nat.le_of_ble_eq_true rfl)) (fun H locs hR hS => ?_)
        refine W_st (st2 := [.int v10]) rfl ?_
        refine lv_if_eq (tgt := 36) hx hb dX5_goesStraight_31 (by decide) (fun c11 => ?_) (fun c11 => ?_)
        · rw [if_pos c11] at hd
          refine x_aload_n C dX5_goesStraight_36 hL 0 rfl ?_
          refine x_iload_n C dX5_goesStraight_37 hL 1 rfl ?_
          obtain ⟨v13, h12, hd⟩ := bo_ex hd
          refine r_callV (a := x0) (ci := 5) (As := [.int x1]) C (ct_X5_up h12) mf_X5_up ml_X5_148 mv_X5_up rfl ⟨Nat.le_of_ble_eq_true rfl, Nat.le_of_ble_eq_true rfl⟩ dX5_goesStraight_38 (lx_size hL) rfl hR hS g1 ⟨Nat.le_refl _, Nat.le_refl _⟩ (cat_le [] (Nat.le_of_ble_eq_true rfl)) (fun H locs hR hS => ?_)
          refine W_st (st2 := [.int v13]) rfl ?_
          refine x_istore_n (lv' := [(3, .inl v13), (0, .inr x0), (1, .inl x1), (2, .inl x2)]) C dX5_goesStraight_41 hL (by decide) rfl (fun ls hL => ?_)
          refine x_iload_n C dX5_goesStraight_42 hL 0 rfl ?_
          refine lv_iconst (v := (-1)) hx hb dX5_goesStraight_43 (by decide) ?_
          refine lv_icmp_eq (tgt := 61) hx hb dX5_goesStraight_44 (by decide) (fun c14 => ?_) (fun c14 => ?_)
          · rw [if_pos c14] at hd
            refine lv_iconst (v := 0) hx hb dX5_goesStraight_61 (by decide) ?_
            cases hd
            exact r_zret C (by decide) dX5_goesStraight_62 hR hS
          · rw [if_neg c14] at hd
            refine x_iload_n C dX5_goesStraight_47 hL 0 rfl ?_
            refine x_aload_n C dX5_goesStraight_48 hL 1 rfl ?_
            refine lv_bipush (v := 16) hx hb dX5_goesStraight_49 (by decide) ?_
            obtain ⟨v16, h15, hd⟩ := bo_ex hd
            refine r_callV (a := x0) (ci := 5) (As := [.int 16]) C (ct_X5_up h15) mf_X5_up ml_X5_148 mv_X5_up rfl ⟨Nat.le_of_ble_eq_true rfl, Nat.le_of_ble_eq_true rfl⟩ dX5_goesStraight_51 (lx_size hL) rfl hR hS g1 ⟨Nat.le_refl _, Nat.le_refl _⟩ (cat_le [.inl v13] (Nat.le_of_ble_eq_true rfl)) (fun H locs hR hS => ?_)
            refine W_st (st2 := [.int v16, .int v13]) rfl ?_
            refine lv_icmp_ne (tgt := 61) hx hb dX5_goesStraight_54 (by decide) (fun c17 => ?_) (fun c17 => ?_)
            · rw [if_neg c17] at hd
              refine lv_iconst (v := 0) hx hb dX5_goesStraight_61 (by decide) ?_
              cases hd
              exact r_zret C (by decide) dX5_goesStraight_62 hR hS
            · rw [if_pos c17] at hd
              refine lv_iconst (v := 1) hx hb dX5_goesStraight_57 (by decide) ?_
              refine lv_goto (tgt := 62) hx hb dX5_goesStraight_58 (by decide) ?_
              cases hd
              exact r_zret C (by decide) dX5_goesStraight_62 hR hS
        · rw [if_neg c11] at hd
          refine lv_iconst (v := 1) hx hb dX5_goesStraight_34 (by decide) ?_
          cases hd
          exact r_zret C (by decide) dX5_goesStraight_35 hR hS
end
set_option maxHeartbeats 4000000 in
set_option maxRecDepth 100000 in
theorem ct_X5_goesStraight {l : Launch} {b0 : Nat} {D : va_G} {E : Nat → ClassId} {G : Hp} {a0 : Nat} {a1 : Int32} {a2 : Int32} {rr : Int32} (hd : d_X5_goesStraight a0 a1 a2 G = some rr) : CT l yX5_goesStraight cX5_goesStraight 4 (some .boolean) 3 0 0 b0 D E [rv a0, .int a1, .int a2] G (some (.int rr)) G := by
  refine CT_of (by decide +kernel) ?_
  intro p e s m below meth c C hnm hR
  refine r_entry [.inr a0, .inl a1, .inl a2] (n := 4) (Nat.le_of_ble_eq_true rfl) (lv := [(0, .inr a0), (1, .inl a1), (2, .inl a2)]) rfl (fun ls hL => ?_)
  exact k_X5_goesStraight C (lx_sub hL [0, 1, 2] rfl) hR ⟨fun _ _ => rfl, fun _ h => by cases h⟩ hd

/-! GroveWorks$Tree.hasOwnPort()Z pure -/
theorem dX5_hasOwnPort_0 : decode cX5_hasOwnPort 0 = .ok (.iconst 0, 1) := by decide +kernel
theorem dX5_hasOwnPort_1 : decode cX5_hasOwnPort 1 = .ok (.istore_n 1, 1) := by decide +kernel
theorem dX5_hasOwnPort_2 : decode cX5_hasOwnPort 2 = .ok (.iload_n 1, 1) := by decide +kernel
theorem dX5_hasOwnPort_3 : decode cX5_hasOwnPort 3 = .ok (.iconst 4, 1) := by decide +kernel
theorem dX5_hasOwnPort_4 : decode cX5_hasOwnPort 4 = .ok (.if_icmp .ge 36, 3) := by decide +kernel
theorem dX5_hasOwnPort_7 : decode cX5_hasOwnPort 7 = .ok (.aload_n 0, 1) := by decide +kernel
theorem dX5_hasOwnPort_8 : decode cX5_hasOwnPort 8 = .ok (.getfield 60, 3) := by decide +kernel
theorem dX5_hasOwnPort_11 : decode cX5_hasOwnPort 11 = .ok (.iload_n 1, 1) := by decide +kernel
theorem dX5_hasOwnPort_12 : decode cX5_hasOwnPort 12 = .ok (.aaload, 1) := by decide +kernel
theorem dX5_hasOwnPort_13 : decode cX5_hasOwnPort 13 = .ok (.ifnull 21, 3) := by decide +kernel
theorem dX5_hasOwnPort_16 : decode cX5_hasOwnPort 16 = .ok (.aload_n 0, 1) := by decide +kernel
theorem dX5_hasOwnPort_17 : decode cX5_hasOwnPort 17 = .ok (.getfield 60, 3) := by decide +kernel
theorem dX5_hasOwnPort_20 : decode cX5_hasOwnPort 20 = .ok (.iload_n 1, 1) := by decide +kernel
theorem dX5_hasOwnPort_21 : decode cX5_hasOwnPort 21 = .ok (.aaload, 1) := by decide +kernel
theorem dX5_hasOwnPort_22 : decode cX5_hasOwnPort 22 = .ok (.aload_n 0, 1) := by decide +kernel
theorem dX5_hasOwnPort_23 : decode cX5_hasOwnPort 23 = .ok (.getfield 57, 3) := by decide +kernel
theorem dX5_hasOwnPort_26 : decode cX5_hasOwnPort 26 = .ok (.invokevirtual 93, 3) := by decide +kernel
theorem dX5_hasOwnPort_29 : decode cX5_hasOwnPort 29 = .ok (.ifCond .eq 5, 3) := by decide +kernel
theorem dX5_hasOwnPort_32 : decode cX5_hasOwnPort 32 = .ok (.iconst 1, 1) := by decide +kernel
theorem dX5_hasOwnPort_33 : decode cX5_hasOwnPort 33 = .ok (.ireturn, 1) := by decide +kernel
theorem dX5_hasOwnPort_34 : decode cX5_hasOwnPort 34 = .ok (.iinc 1 1, 3) := by decide +kernel
theorem dX5_hasOwnPort_37 : decode cX5_hasOwnPort 37 = .ok (.goto (-35), 3) := by decide +kernel
theorem dX5_hasOwnPort_40 : decode cX5_hasOwnPort 40 = .ok (.iconst 0, 1) := by decide +kernel
theorem dX5_hasOwnPort_41 : decode cX5_hasOwnPort 41 = .ok (.ireturn, 1) := by decide +kernel
def d_X5_hasOwnPort_2 : Nat → Nat → Int32 → Hp → Option (Int32)
  | 0, _, _, _ => none
  | n_ + 1, x0, x1, G =>
    if 4 ≤ x1 then
      some 0
    else
      gd (hc G x0 = 6) <|
      gd (hc G (hr G x0 3) = 16 ∧ ix x1 (hl G (hr G x0 3))) <|
      if (hr G (hr G x0 3) x1.toNatClampNeg) = 0 then
        d_X5_hasOwnPort_2 n_ x0 (x1 + 1) G
      else
        gd (hc G (hr G x0 3) = 16 ∧ ix x1 (hl G (hr G x0 3))) <|
        gd (hc G (hr G (hr G x0 3) x1.toNatClampNeg) = 4) <|
        bo (d_X3_isOwn (hr G (hr G x0 3) x1.toNatClampNeg) (hi G x0 2) G) fun v8 =>
        if v8 = 0 then
          d_X5_hasOwnPort_2 n_ x0 (x1 + 1) G
        else
          some 1
def d_X5_hasOwnPort (x0 : Nat) (G : Hp) : Option (Int32) :=
  d_X5_hasOwnPort_2 FU x0 0 G
section
variable {p : Program} {l : Launch} {e : Env} {s : State} {m : MethodId} {args : Array Value} {below : List Frame} {meth : Method} {c : Code} {b0 : Nat} {D : va_G} {E : Nat → ClassId}
set_option maxHeartbeats 4000000 in
set_option maxRecDepth 100000 in
theorem k_X5_hasOwnPort_2 (C : Cx p s m args meth c RX5 cX5_hasOwnPort 2 (some .boolean) b0 D E) {rr : Int32} {G : Hp} : ∀ (n_ : Nat) {x0 : Nat} {x1 : Int32} {ls : Array Slot} {H : Heap} {locs : List Loc}, lx ls 2 [(0, .inr x0), (1, .inl x1)] → Rp b0 D E G H → SS b0 s H locs → d_X5_hasOwnPort_2 n_ x0 x1 G = some rr → W p l e (rmd 2 (0) (0)) s m args below meth c H locs (0) (0) (MQ below (CQ b0 D E (some (.int rr)) G) args s (0) (0) (fun q => b0 ≤ q)) (F0 m 2 ls []) := by
  intro n_
  induction n_ with
  | zero =>
    intro x0 x1 ls H locs hL hR hS hd
    cases (show (none : Option _) = some _ from hd)
  | succ n_ ih =>
    intro x0 x1 ls H locs hL hR hS hd
    rw [d_X5_hasOwnPort_2.eq_2] at hd
    have hx := C.1
    have hb := C.2.1
    refine x_iload_n C dX5_hasOwnPort_2 hL 1 rfl ?_
    refine lv_iconst (v := 4) hx hb dX5_hasOwnPort_3 (by decide) ?_
    refine lv_icmp_ge (tgt := 40) hx hb dX5_hasOwnPort_4 (by decide) (fun c1 => ?_) (fun c1 => ?_)
    · rw [if_pos c1] at hd
      refine lv_iconst (v := 0) hx hb dX5_hasOwnPort_40 (by decide) ?_
      cases hd
      exact r_zret C (by decide) dX5_hasOwnPort_41 hR hS
    · rw [if_neg c1] at hd
      refine x_aload_n C dX5_hasOwnPort_7 hL 0 rfl ?_
      obtain ⟨g2, hd⟩ := gd_ex hd
      refine r_getr (ci := 5) (k := 3) C fl_X5_60 rfl dX5_hasOwnPort_8 hR g2 ?_
      refine x_iload_n C dX5_hasOwnPort_11 hL 1 rfl ?_
      obtain ⟨g3, hd⟩ := gd_ex hd
      refine r_aald (ci := 3) C (by decide) dX5_hasOwnPort_12 hR g3 ?_
      refine r_ifnull (tgt := 34) C dX5_hasOwnPort_13 (by decide) (fun c4 => ?_) (fun c4 => ?_)
      · rw [if_pos c4] at hd
        refine x_iinc (lv' := [(1, .inl (x1 + 1)), (0, .inr x0)]) C dX5_hasOwnPort_34 hL 1 rfl rfl (by decide) rfl (fun ls hL => ?_)
        refine lv_goto (tgt := 2) hx hb dX5_hasOwnPort_37 (by decide) ?_
        exact ih (lx_sub hL [1, 0] rfl) hR hS hd
      · rw [if_neg c4] at hd
        refine x_aload_n C dX5_hasOwnPort_16 hL 0 rfl ?_
        refine r_getr (ci := 5) (k := 3) C fl_X5_60 rfl dX5_hasOwnPort_17 hR g2 ?_
        refine x_iload_n C dX5_hasOwnPort_20 hL 1 rfl ?_
        obtain ⟨g5, hd⟩ := gd_ex hd
        refine r_aald (ci := 3) C (by decide) dX5_hasOwnPort_21 hR g5 ?_
        refine x_aload_n C dX5_hasOwnPort_22 hL 0 rfl ?_
        refine r_geti (ci := 5) (k := 2) C fl_X5_57 rfl dX5_hasOwnPort_23 hR g2 ?_
        obtain ⟨g6, hd⟩ := gd_ex hd
        obtain ⟨v8, h7, hd⟩ := bo_ex hd
        refine r_callV (a := (hr G (hr G x0 3) x1.toNatClampNeg)) (ci := 3) (As := [.int (hi G x0 2)]) C (ct_X3_isOwn h7) mf_X3_isOwn ml_X5_93 mv_X3_isOwn rfl ⟨Nat.le_of_ble_eq_true rfl, Nat.le_of_ble_eq_true rfl⟩ dX5_hasOwnPort_26 (lx_size hL) rfl hR hS g6 ⟨Nat.le_refl _, Nat.le_refl _⟩ (cat_le [] (Nat.le_of_ble_eq_true rfl)) (fun H locs hR hS => ?_)
        refine W_st (st2 := [.int v8]) rfl ?_
        refine lv_if_eq (tgt := 34) hx hb dX5_hasOwnPort_29 (by decide) (fun c9 => ?_) (fun c9 => ?_)
        · rw [if_pos c9] at hd
          refine x_iinc (lv' := [(1, .inl (x1 + 1)), (0, .inr x0)]) C dX5_hasOwnPort_34 hL 1 rfl rfl (by decide) rfl (fun ls hL => ?_)
          refine lv_goto (tgt := 2) hx hb dX5_hasOwnPort_37 (by decide) ?_
          exact ih (lx_sub hL [1, 0] rfl) hR hS hd
        · rw [if_neg c9] at hd
          refine lv_iconst (v := 1) hx hb dX5_hasOwnPort_32 (by decide) ?_
          cases hd
          exact r_zret C (by decide) dX5_hasOwnPort_33 hR hS
set_option maxHeartbeats 4000000 in
set_option maxRecDepth 100000 in
theorem k_X5_hasOwnPort (C : Cx p s m args meth c RX5 cX5_hasOwnPort 2 (some .boolean) b0 D E) {rr : Int32} {G : Hp} {x0 : Nat} {ls : Array Slot} {H : Heap} {locs : List Loc} : lx ls 2 [(0, .inr x0)] → Rp b0 D E G H → SS b0 s H locs → d_X5_hasOwnPort x0 G = some rr → W p l e (rmd 2 (0) (0)) s m args below meth c H locs (0) (0) (MQ below (CQ b0 D E (some (.int rr)) G) args s (0) (0) (fun q => b0 ≤ q)) (F0 m 0 ls []) := by
  intro hL hR hS hd
  unfold d_X5_hasOwnPort at hd
  have hx := C.1
  have hb := C.2.1
  refine lv_iconst (v := 0) hx hb dX5_hasOwnPort_0 (by decide) ?_
  refine x_istore_n (lv' := [(1, .inl 0), (0, .inr x0)]) C dX5_hasOwnPort_1 hL (by decide) rfl (fun ls hL => ?_)
  exact k_X5_hasOwnPort_2 C FU (lx_sub hL [1, 0] rfl) hR hS hd
end
set_option maxHeartbeats 4000000 in
set_option maxRecDepth 100000 in
theorem ct_X5_hasOwnPort {l : Launch} {b0 : Nat} {D : va_G} {E : Nat → ClassId} {G : Hp} {a0 : Nat} {rr : Int32} (hd : d_X5_hasOwnPort a0 G = some rr) : CT l yX5_hasOwnPort cX5_hasOwnPort 2 (some .boolean) 2 0 0 b0 D E [rv a0] G (some (.int rr)) G := by
  refine CT_of (by decide +kernel) ?_
  intro p e s m below meth c C hnm hR
  refine r_entry [.inr a0] (n := 2) (Nat.le_of_ble_eq_true rfl) (lv := [(0, .inr a0)]) rfl (fun ls hL => ?_)
  exact k_X5_hasOwnPort C (lx_sub hL [0] rfl) hR ⟨fun _ _ => rfl, fun _ h => by cases h⟩ hd

/-! GroveWorks$Tree.isBranch(II)Z pure -/
theorem dX5_isBranch_0 : decode cX5_isBranch 0 = .ok (.aload_n 0, 1) := by decide +kernel
theorem dX5_isBranch_1 : decode cX5_isBranch 1 = .ok (.iload_n 1, 1) := by decide +kernel
theorem dX5_isBranch_2 : decode cX5_isBranch 2 = .ok (.invokevirtual 102, 3) := by decide +kernel
theorem dX5_isBranch_5 : decode cX5_isBranch 5 = .ok (.ifCond .eq 10, 3) := by decide +kernel
theorem dX5_isBranch_8 : decode cX5_isBranch 8 = .ok (.aload_n 0, 1) := by decide +kernel
theorem dX5_isBranch_9 : decode cX5_isBranch 9 = .ok (.getfield 43, 3) := by decide +kernel
theorem dX5_isBranch_12 : decode cX5_isBranch 12 = .ok (.goto 7, 3) := by decide +kernel
theorem dX5_isBranch_15 : decode cX5_isBranch 15 = .ok (.aload_n 0, 1) := by decide +kernel
theorem dX5_isBranch_16 : decode cX5_isBranch 16 = .ok (.getfield 40, 3) := by decide +kernel
theorem dX5_isBranch_19 : decode cX5_isBranch 19 = .ok (.iload_n 2, 1) := by decide +kernel
theorem dX5_isBranch_20 : decode cX5_isBranch 20 = .ok (.invokestatic 145, 3) := by decide +kernel
theorem dX5_isBranch_23 : decode cX5_isBranch 23 = .ok (.ireturn, 1) := by decide +kernel
def d_X5_isBranch (x0 : Nat) (x1 : Int32) (x2 : Int32) (G : Hp) : Option (Int32) :=
  gd (hc G x0 = 6) <|
  bo (d_X5_isStraight x0 x1 G) fun v3 =>
  if v3 = 0 then
    bo (d_X8_has (hi G x0 13) x2 G) fun v6 =>
    gd (v6 &&& 1 = v6) <|
    some v6
  else
    bo (d_X8_has (hi G x0 14) x2 G) fun v9 =>
    gd (v9 &&& 1 = v9) <|
    some v9
section
variable {p : Program} {l : Launch} {e : Env} {s : State} {m : MethodId} {args : Array Value} {below : List Frame} {meth : Method} {c : Code} {b0 : Nat} {D : va_G} {E : Nat → ClassId}
set_option maxHeartbeats 4000000 in
set_option maxRecDepth 100000 in
theorem k_X5_isBranch (C : Cx p s m args meth c RX5 cX5_isBranch 3 (some .boolean) b0 D E) {rr : Int32} {G : Hp} {x0 : Nat} {x1 : Int32} {x2 : Int32} {ls : Array Slot} {H : Heap} {locs : List Loc} : lx ls 3 [(0, .inr x0), (1, .inl x1), (2, .inl x2)] → Rp b0 D E G H → SS b0 s H locs → d_X5_isBranch x0 x1 x2 G = some rr → W p l e (rmd 1 (0) (0)) s m args below meth c H locs (0) (0) (MQ below (CQ b0 D E (some (.int rr)) G) args s (0) (0) (fun q => b0 ≤ q)) (F0 m 0 ls []) := by
  intro hL hR hS hd
  unfold d_X5_isBranch at hd
  have hx := C.1
  have hb := C.2.1
  refine x_aload_n C dX5_isBranch_0 hL 0 rfl ?_
  refine x_iload_n C dX5_isBranch_1 hL 1 rfl ?_
  obtain ⟨g1, hd⟩ := gd_ex hd
  obtain ⟨v3, h2, hd⟩ := bo_ex hd
  refine r_callV (a := x0) (ci := 5) (As := [.int x1]) C (ct_X5_isStraight h2) mf_X5_isStraight ml_X5_102 mv_X5_isStraight rfl ⟨Nat.le_of_ble_eq_true rfl, Nat.le_of_ble_eq_true rfl⟩ dX5_isBranch_2 (lx_size hL) rfl hR hS g1 ⟨Nat.le_refl _, Nat.le_refl _⟩ (cat_le [] (Nat.le_of_ble_eq_true rfl)) (fun H locs hR hS => ?_)
  refine W_st (st2 := [.int v3]) rfl ?_
  refine lv_if_eq (tgt := 15) hx hb dX5_isBranch_5 (by decide) (fun c4 => ?_) (fun c4 => ?_)
  · rw [if_pos c4] at hd
    refine x_aload_n C dX5_isBranch_15 hL 0 rfl ?_
    refine r_geti (ci := 5) (k := 13) C fl_X5_40 rfl dX5_isBranch_16 hR g1 ?_
    refine x_iload_n C dX5_isBranch_19 hL 2 rfl ?_
    obtain ⟨v6, h5, hd⟩ := bo_ex hd
    refine r_callSN (As := [.int (hi G x0 13), .int x2]) C (ct_X8_has h5) mf_X8_has (by decide +kernel) ms_X8_has rfl ⟨Nat.le_of_ble_eq_true rfl, Nat.le_of_ble_eq_true rfl⟩ dX5_isBranch_20 (lx_size hL) rfl hR hS ⟨Nat.le_refl _, Nat.le_refl _⟩ (cat_le [] (Nat.le_of_ble_eq_true rfl)) (fun H locs hR hS => ?_)
    refine W_st (st2 := [.int v6]) rfl ?_
    obtain ⟨g7, hd⟩ := gd_ex hd
    cases hd
    exact r_zret C g7 dX5_isBranch_23 hR hS
  · rw [if_neg c4] at hd
    refine x_aload_n C dX5_isBranch_8 hL 0 rfl ?_
    refine r_geti (ci := 5) (k := 14) C fl_X5_43 rfl dX5_isBranch_9 hR g1 ?_
    refine lv_goto (tgt := 19) hx hb dX5_isBranch_12 (by decide) ?_
    refine x_iload_n C dX5_isBranch_19 hL 2 rfl ?_
    obtain ⟨v9, h8, hd⟩ := bo_ex hd
    refine r_callSN (As := [.int (hi G x0 14), .int x2]) C (ct_X8_has h8) mf_X8_has (by decide +kernel) ms_X8_has rfl ⟨Nat.le_of_ble_eq_true rfl, Nat.le_of_ble_eq_true rfl⟩ dX5_isBranch_20 (lx_size hL) rfl hR hS ⟨Nat.le_refl _, Nat.le_refl _⟩ (cat_le [] (Nat.le_of_ble_eq_true rfl)) (fun H locs hR hS => ?_)
    refine W_st (st2 := [.int v9]) rfl ?_
    obtain ⟨g10, hd⟩ := gd_ex hd
    cases hd
    exact r_zret C g10 dX5_isBranch_23 hR hS
end
set_option maxHeartbeats 4000000 in
set_option maxRecDepth 100000 in
theorem ct_X5_isBranch {l : Launch} {b0 : Nat} {D : va_G} {E : Nat → ClassId} {G : Hp} {a0 : Nat} {a1 : Int32} {a2 : Int32} {rr : Int32} (hd : d_X5_isBranch a0 a1 a2 G = some rr) : CT l yX5_isBranch cX5_isBranch 3 (some .boolean) 1 0 0 b0 D E [rv a0, .int a1, .int a2] G (some (.int rr)) G := by
  refine CT_of (by decide +kernel) ?_
  intro p e s m below meth c C hnm hR
  refine r_entry [.inr a0, .inl a1, .inl a2] (n := 3) (Nat.le_of_ble_eq_true rfl) (lv := [(0, .inr a0), (1, .inl a1), (2, .inl a2)]) rfl (fun ls hL => ?_)
  exact k_X5_isBranch C (lx_sub hL [0, 1, 2] rfl) hR ⟨fun _ _ => rfl, fun _ h => by cases h⟩ hd

/-! GroveWorks$Tree.sendClaim(II)V -/
theorem dX5_sendClaim_0 : decode cX5_sendClaim 0 = .ok (.aload_n 0, 1) := by decide +kernel
theorem dX5_sendClaim_1 : decode cX5_sendClaim 1 = .ok (.getfield 60, 3) := by decide +kernel
theorem dX5_sendClaim_4 : decode cX5_sendClaim 4 = .ok (.iload_n 2, 1) := by decide +kernel
theorem dX5_sendClaim_5 : decode cX5_sendClaim 5 = .ok (.aaload, 1) := by decide +kernel
theorem dX5_sendClaim_6 : decode cX5_sendClaim 6 = .ok (.getfield 181, 3) := by decide +kernel
theorem dX5_sendClaim_9 : decode cX5_sendClaim 9 = .ok (.bipush 8, 2) := by decide +kernel
theorem dX5_sendClaim_11 : decode cX5_sendClaim 11 = .ok (.aload_n 0, 1) := by decide +kernel
theorem dX5_sendClaim_12 : decode cX5_sendClaim 12 = .ok (.getfield 54, 3) := by decide +kernel
theorem dX5_sendClaim_15 : decode cX5_sendClaim 15 = .ok (.invokevirtual 185, 3) := by decide +kernel
theorem dX5_sendClaim_18 : decode cX5_sendClaim 18 = .ok (.astore_n 3, 1) := by decide +kernel
theorem dX5_sendClaim_19 : decode cX5_sendClaim 19 = .ok (.aload_n 3, 1) := by decide +kernel
theorem dX5_sendClaim_20 : decode cX5_sendClaim 20 = .ok (.ifnull 21, 3) := by decide +kernel
theorem dX5_sendClaim_23 : decode cX5_sendClaim 23 = .ok (.aload_n 3, 1) := by decide +kernel
theorem dX5_sendClaim_24 : decode cX5_sendClaim 24 = .ok (.iconst (-1), 1) := by decide +kernel
theorem dX5_sendClaim_25 : decode cX5_sendClaim 25 = .ok (.aload_n 0, 1) := by decide +kernel
theorem dX5_sendClaim_26 : decode cX5_sendClaim 26 = .ok (.getfield 57, 3) := by decide +kernel
theorem dX5_sendClaim_29 : decode cX5_sendClaim 29 = .ok (.iload_n 1, 1) := by decide +kernel
theorem dX5_sendClaim_30 : decode cX5_sendClaim 30 = .ok (.invokevirtual 190, 3) := by decide +kernel
theorem dX5_sendClaim_33 : decode cX5_sendClaim 33 = .ok (.aload_n 3, 1) := by decide +kernel
theorem dX5_sendClaim_34 : decode cX5_sendClaim 34 = .ok (.aload_n 0, 1) := by decide +kernel
theorem dX5_sendClaim_35 : decode cX5_sendClaim 35 = .ok (.getfield 34, 3) := by decide +kernel
theorem dX5_sendClaim_38 : decode cX5_sendClaim 38 = .ok (.putfield 246, 3) := by decide +kernel
theorem dX5_sendClaim_41 : decode cX5_sendClaim 41 = .ok (.return_, 1) := by decide +kernel
def d_X5_sendClaim (x0 : Nat) (x1 : Int32) (x2 : Int32) (G : Hp) : Option (Hp) :=
  gd (hc G x0 = 6) <|
  gd (hc G (hr G x0 3) = 16 ∧ ix x2 (hl G (hr G x0 3))) <|
  gd (hc G (hr G (hr G x0 3) x2.toNatClampNeg) = 4) <|
  gd (hc G (hr G (hr G (hr G x0 3) x2.toNatClampNeg) 2) = 8) <|
  b2 (d_X7_open (hr G (hr G (hr G x0 3) x2.toNatClampNeg) 2) 8 (hi G x0 1) G) fun v6 G7 =>
  if v6 = 0 then
    some G7
  else
    gd (hc G7 x0 = 6) <|
    gd (hc G7 v6 = 1) <|
    bo (d_X0_aim v6 (-1) (hi G7 x0 2) x1 G7) fun G12 =>
    gd (hc G12 x0 = 6) <|
    gd (hc G12 v6 = 1) <|
    bd (sI G12 v6 5 (hi G12 x0 11)) fun G15 =>
    some G15
section
variable {p : Program} {l : Launch} {e : Env} {s : State} {m : MethodId} {args : Array Value} {below : List Frame} {meth : Method} {c : Code} {b0 : Nat} {D : va_G} {E : Nat → ClassId}
set_option maxHeartbeats 4000000 in
set_option maxRecDepth 100000 in
theorem k_X5_sendClaim (C : Cx p s m args meth c RX5 cX5_sendClaim 4 none b0 D E) {GG : Hp} {x0 : Nat} {x1 : Int32} {x2 : Int32} {G : Hp} {ls : Array Slot} {H : Heap} {locs : List Loc} : lx ls 4 [(0, .inr x0), (1, .inl x1), (2, .inl x2)] → Rp b0 D E G H → SS b0 s H locs → d_X5_sendClaim x0 x1 x2 G = some GG → W p l e (rmd 2 (0) (0)) s m args below meth c H locs (0) (0) (MQ below (CQ b0 D E none GG) args s (0) (0) (fun q => b0 ≤ q)) (F0 m 0 ls []) := by
  intro hL hR hS hd
  unfold d_X5_sendClaim at hd
  have hx := C.1
  have hb := C.2.1
  refine x_aload_n C dX5_sendClaim_0 hL 0 rfl ?_
  obtain ⟨g1, hd⟩ := gd_ex hd
  refine r_getr (ci := 5) (k := 3) C fl_X5_60 rfl dX5_sendClaim_1 hR g1 ?_
  refine x_iload_n C dX5_sendClaim_4 hL 2 rfl ?_
  obtain ⟨g2, hd⟩ := gd_ex hd
  refine r_aald (ci := 3) C (by decide) dX5_sendClaim_5 hR g2 ?_
  obtain ⟨g3, hd⟩ := gd_ex hd
  refine r_getr (ci := 3) (k := 2) C fl_X5_181 rfl dX5_sendClaim_6 hR g3 ?_
  refine lv_bipush (v := 8) hx hb dX5_sendClaim_9 (by decide) ?_
  refine x_aload_n C dX5_sendClaim_11 hL 0 rfl ?_
  refine r_geti (ci := 5) (k := 1) C fl_X5_54 rfl dX5_sendClaim_12 hR g1 ?_
  obtain ⟨g4, hd⟩ := gd_ex hd
  obtain ⟨v6, G7, h5, hd⟩ := b2_ex hd
  refine r_callV (a := (hr G (hr G (hr G x0 3) x2.toNatClampNeg) 2)) (ci := 7) (As := [.int 8, .int (hi G x0 1)]) C (ct_X7_open h5) mf_X7_open ml_X5_185 mv_X7_open rfl ⟨Nat.le_of_ble_eq_true rfl, Nat.le_of_ble_eq_true rfl⟩ dX5_sendClaim_15 (lx_size hL) rfl hR hS g4 ⟨Nat.le_refl _, Nat.le_refl _⟩ (cat_le [] (Nat.le_of_ble_eq_true rfl)) (fun H locs hR hS => ?_)
  refine W_st (st2 := [rv v6]) rfl ?_
  refine x_astore_n (lv' := [(3, .inr v6), (0, .inr x0), (1, .inl x1), (2, .inl x2)]) C dX5_sendClaim_18 hL (by decide) rfl (fun ls hL => ?_)
  refine x_aload_n C dX5_sendClaim_19 hL 0 rfl ?_
  refine r_ifnull (tgt := 41) C dX5_sendClaim_20 (by decide) (fun c8 => ?_) (fun c8 => ?_)
  · rw [if_pos c8] at hd
    cases hd
    exact r_vret C dX5_sendClaim_41 hR hS
  · rw [if_neg c8] at hd
    refine x_aload_n C dX5_sendClaim_23 hL 0 rfl ?_
    refine lv_iconst (v := (-1)) hx hb dX5_sendClaim_24 (by decide) ?_
    refine x_aload_n C dX5_sendClaim_25 hL 1 rfl ?_
    obtain ⟨g9, hd⟩ := gd_ex hd
    refine r_geti (ci := 5) (k := 2) C fl_X5_57 rfl dX5_sendClaim_26 hR g9 ?_
    refine x_iload_n C dX5_sendClaim_29 hL 2 rfl ?_
    obtain ⟨g10, hd⟩ := gd_ex hd
    obtain ⟨G12, h11, hd⟩ := bo_ex hd
    refine r_callV (a := v6) (ci := 0) (As := [.int (-1), .int (hi G7 x0 2), .int x1]) C (ct_X0_aim h11) mf_X0_aim ml_X5_190 mv_X0_aim rfl ⟨Nat.le_of_ble_eq_true rfl, Nat.le_of_ble_eq_true rfl⟩ dX5_sendClaim_30 (lx_size hL) rfl hR hS g10 ⟨Nat.le_refl _, Nat.le_refl _⟩ (cat_le [] (Nat.le_of_ble_eq_true rfl)) (fun H locs hR hS => ?_)
    refine W_st (st2 := []) rfl ?_
    refine x_aload_n C dX5_sendClaim_33 hL 0 rfl ?_
    refine x_aload_n C dX5_sendClaim_34 hL 1 rfl ?_
    obtain ⟨g13, hd⟩ := gd_ex hd
    refine r_geti (ci := 5) (k := 11) C fl_X5_34 rfl dX5_sendClaim_35 hR g13 ?_
    obtain ⟨g14, hd⟩ := gd_ex hd
    obtain ⟨G15, eG15, hd⟩ := bd_ex hd
    refine r_puti (ci := 0) (k := 5) C fl_X5_246 rfl (Or.inl rfl) dX5_sendClaim_38 hR hS g14 (fun H locs hR hS => ?_)
    replace hR : Rp b0 D E G15 H := by rw [eG15]; exact hR
    cases hd
    exact r_vret C dX5_sendClaim_41 hR hS
end
set_option maxHeartbeats 4000000 in
set_option maxRecDepth 100000 in
theorem ct_X5_sendClaim {l : Launch} {b0 : Nat} {D : va_G} {E : Nat → ClassId} {G : Hp} {a0 : Nat} {a1 : Int32} {a2 : Int32} {GG : Hp} (hd : d_X5_sendClaim a0 a1 a2 G = some GG) : CT l yX5_sendClaim cX5_sendClaim 4 none 2 0 0 b0 D E [rv a0, .int a1, .int a2] G none GG := by
  refine CT_of (by decide +kernel) ?_
  intro p e s m below meth c C hnm hR
  refine r_entry [.inr a0, .inl a1, .inl a2] (n := 4) (Nat.le_of_ble_eq_true rfl) (lv := [(0, .inr a0), (1, .inl a1), (2, .inl a2)]) rfl (fun ls hL => ?_)
  exact k_X5_sendClaim C (lx_sub hL [0, 1, 2] rfl) hR ⟨fun _ _ => rfl, fun _ h => by cases h⟩ hd

/-! GroveWorks$Tree.findOut(IIZ)I -/
theorem dX5_findOut_0 : decode cX5_findOut 0 = .ok (.iload_n 3, 1) := by decide +kernel
theorem dX5_findOut_1 : decode cX5_findOut 1 = .ok (.ifCond .eq 16, 3) := by decide +kernel
theorem dX5_findOut_4 : decode cX5_findOut 4 = .ok (.aload_n 0, 1) := by decide +kernel
theorem dX5_findOut_5 : decode cX5_findOut 5 = .ok (.iload_n 1, 1) := by decide +kernel
theorem dX5_findOut_6 : decode cX5_findOut 6 = .ok (.invokevirtual 102, 3) := by decide +kernel
theorem dX5_findOut_9 : decode cX5_findOut 9 = .ok (.ifCond .eq 8, 3) := by decide +kernel
theorem dX5_findOut_12 : decode cX5_findOut 12 = .ok (.aload_n 0, 1) := by decide +kernel
theorem dX5_findOut_13 : decode cX5_findOut 13 = .ok (.getfield 43, 3) := by decide +kernel
theorem dX5_findOut_16 : decode cX5_findOut 16 = .ok (.ireturn, 1) := by decide +kernel
theorem dX5_findOut_17 : decode cX5_findOut 17 = .ok (.aload_n 0, 1) := by decide +kernel
theorem dX5_findOut_18 : decode cX5_findOut 18 = .ok (.iload_n 1, 1) := by decide +kernel
theorem dX5_findOut_19 : decode cX5_findOut 19 = .ok (.invokevirtual 102, 3) := by decide +kernel
theorem dX5_findOut_22 : decode cX5_findOut 22 = .ok (.ifCond .ne 39, 3) := by decide +kernel
theorem dX5_findOut_25 : decode cX5_findOut 25 = .ok (.aload_n 0, 1) := by decide +kernel
theorem dX5_findOut_26 : decode cX5_findOut 26 = .ok (.invokevirtual 256, 3) := by decide +kernel
theorem dX5_findOut_29 : decode cX5_findOut 29 = .ok (.iload_n 2, 1) := by decide +kernel
theorem dX5_findOut_30 : decode cX5_findOut 30 = .ok (.if_icmp .ne 31, 3) := by decide +kernel
theorem dX5_findOut_33 : decode cX5_findOut 33 = .ok (.aload_n 0, 1) := by decide +kernel
theorem dX5_findOut_34 : decode cX5_findOut 34 = .ok (.invokevirtual 259, 3) := by decide +kernel
theorem dX5_findOut_37 : decode cX5_findOut 37 = .ok (.ifCond .eq 19, 3) := by decide +kernel
theorem dX5_findOut_40 : decode cX5_findOut 40 = .ok (.aload_n 0, 1) := by decide +kernel
theorem dX5_findOut_41 : decode cX5_findOut 41 = .ok (.getfield 25, 3) := by decide +kernel
theorem dX5_findOut_44 : decode cX5_findOut 44 = .ok (.iload_n 1, 1) := by decide +kernel
theorem dX5_findOut_45 : decode cX5_findOut 45 = .ok (.aload_n 0, 1) := by decide +kernel
theorem dX5_findOut_46 : decode cX5_findOut 46 = .ok (.getfield 50, 3) := by decide +kernel
theorem dX5_findOut_49 : decode cX5_findOut 49 = .ok (.getfield 118, 3) := by decide +kernel
theorem dX5_findOut_52 : decode cX5_findOut 52 = .ok (.bipush 70, 2) := by decide +kernel
theorem dX5_findOut_54 : decode cX5_findOut 54 = .ok (.iadd, 1) := by decide +kernel
theorem dX5_findOut_55 : decode cX5_findOut 55 = .ok (.iastore, 1) := by decide +kernel
theorem dX5_findOut_56 : decode cX5_findOut 56 = .ok (.aload_n 0, 1) := by decide +kernel
theorem dX5_findOut_57 : decode cX5_findOut 57 = .ok (.getfield 40, 3) := by decide +kernel
theorem dX5_findOut_60 : decode cX5_findOut 60 = .ok (.ireturn, 1) := by decide +kernel
theorem dX5_findOut_61 : decode cX5_findOut 61 = .ok (.aload_n 0, 1) := by decide +kernel
theorem dX5_findOut_62 : decode cX5_findOut 62 = .ok (.iload_n 1, 1) := by decide +kernel
theorem dX5_findOut_63 : decode cX5_findOut 63 = .ok (.iload_n 2, 1) := by decide +kernel
theorem dX5_findOut_64 : decode cX5_findOut 64 = .ok (.invokevirtual 262, 3) := by decide +kernel
theorem dX5_findOut_67 : decode cX5_findOut 67 = .ok (.ifCond .eq 9, 3) := by decide +kernel
theorem dX5_findOut_70 : decode cX5_findOut 70 = .ok (.aload_n 0, 1) := by decide +kernel
theorem dX5_findOut_71 : decode cX5_findOut 71 = .ok (.iload_n 1, 1) := by decide +kernel
theorem dX5_findOut_72 : decode cX5_findOut 72 = .ok (.iload_n 2, 1) := by decide +kernel
theorem dX5_findOut_73 : decode cX5_findOut 73 = .ok (.invokevirtual 265, 3) := by decide +kernel
theorem dX5_findOut_76 : decode cX5_findOut 76 = .ok (.iconst 0, 1) := by decide +kernel
theorem dX5_findOut_77 : decode cX5_findOut 77 = .ok (.ireturn, 1) := by decide +kernel
def d_X5_findOut_61 (x0 : Nat) (x1 : Int32) (x2 : Int32) (G : Hp) : Option (Int32 × Hp) :=
  gd (hc G x0 = 6) <|
  bo (d_X5_isBranch x0 x1 x2 G) fun v3 =>
  if v3 = 0 then
    some (0, G)
  else
    bo (d_X5_sendClaim x0 x1 x2 G) fun G6 =>
    some (0, G6)
def d_X5_findOut_17 (x0 : Nat) (x1 : Int32) (x2 : Int32) (G : Hp) : Option (Int32 × Hp) :=
  gd (hc G x0 = 6) <|
  bo (d_X5_isStraight x0 x1 G) fun v3 =>
  if v3 = 0 then
    bo (d_X5_portToMeeting x0 G) fun v6 =>
    if v6 = x2 then
      bo (d_X5_hasOwnPort x0 G) fun v9 =>
      if v9 = 0 then
        some ((hi G x0 13), G)
      else
        gd (hc G (hr G x0 0) = 3) <|
        gd (hc G (hr G x0 8) = 11 ∧ ix x1 (hl G (hr G x0 8))) <|
        bd (sI G (hr G x0 8) x1.toNatClampNeg ((hi G (hr G x0 0) 4) + 70)) fun G13 =>
        gd (hc G13 x0 = 6) <|
        some ((hi G13 x0 13), G13)
    else
      d_X5_findOut_61 x0 x1 x2 G
  else
    d_X5_findOut_61 x0 x1 x2 G
def d_X5_findOut (x0 : Nat) (x1 : Int32) (x2 : Int32) (x3 : Int32) (G : Hp) : Option (Int32 × Hp) :=
  if x3 = 0 then
    d_X5_findOut_17 x0 x1 x2 G
  else
    gd (hc G x0 = 6) <|
    bo (d_X5_isStraight x0 x1 G) fun v4 =>
    if v4 = 0 then
      d_X5_findOut_17 x0 x1 x2 G
    else
      some ((hi G x0 14), G)
section
variable {p : Program} {l : Launch} {e : Env} {s : State} {m : MethodId} {args : Array Value} {below : List Frame} {meth : Method} {c : Code} {b0 : Nat} {D : va_G} {E : Nat → ClassId}
set_option maxHeartbeats 4000000 in
set_option maxRecDepth 100000 in
theorem k_X5_findOut_61 (C : Cx p s m args meth c RX5 cX5_findOut 4 (some .int) b0 D E) {rr : Int32} {GG : Hp} {x0 : Nat} {x1 : Int32} {x2 : Int32} {G : Hp} {ls : Array Slot} {H : Heap} {locs : List Loc} : lx ls 4 [(0, .inr x0), (1, .inl x1), (2, .inl x2)] → Rp b0 D E G H → SS b0 s H locs → d_X5_findOut_61 x0 x1 x2 G = some (rr, GG) → W p l e (rmd 3 (0) (0)) s m args below meth c H locs (0) (0) (MQ below (CQ b0 D E (some (.int rr)) GG) args s (0) (0) (fun q => b0 ≤ q)) (F0 m 61 ls []) := by
  intro hL hR hS hd
  unfold d_X5_findOut_61 at hd
  have hx := C.1
  have hb := C.2.1
  refine x_aload_n C dX5_findOut_61 hL 0 rfl ?_
  refine x_iload_n C dX5_findOut_62 hL 1 rfl ?_
  refine x_iload_n C dX5_findOut_63 hL 2 rfl ?_
  obtain ⟨g1, hd⟩ := gd_ex hd
  obtain ⟨v3, h2, hd⟩ := bo_ex hd
  refine r_callV (a := x0) (ci := 5) (As := [.int x1, .int x2]) C (ct_X5_isBranch h2) mf_X5_isBranch ml_X5_262 mv_X5_isBranch rfl ⟨Nat.le_of_ble_eq_true rfl, Nat.le_of_ble_eq_true rfl⟩ dX5_findOut_64 (lx_size hL) rfl hR hS g1 ⟨Nat.le_refl _, Nat.le_refl _⟩ (cat_le [] (Nat.le_of_ble_eq_true rfl)) (fun H locs hR hS => ?_)
  refine W_st (st2 := [.int v3]) rfl ?_
  refine lv_if_eq (tgt := 76) hx hb dX5_findOut_67 (by decide) (fun c4 => ?_) (fun c4 => ?_)
  · rw [if_pos c4] at hd
    refine lv_iconst (v := 0) hx hb dX5_findOut_76 (by decide) ?_
    cases hd
    exact r_iret C dX5_findOut_77 hR hS
  · rw [if_neg c4] at hd
    refine x_aload_n C dX5_findOut_70 hL 0 rfl ?_
    refine x_iload_n C dX5_findOut_71 hL 1 rfl ?_
    refine x_iload_n C dX5_findOut_72 hL 2 rfl ?_
    obtain ⟨G6, h5, hd⟩ := bo_ex hd
    refine r_callV (a := x0) (ci := 5) (As := [.int x1, .int x2]) C (ct_X5_sendClaim h5) mf_X5_sendClaim ml_X5_265 mv_X5_sendClaim rfl ⟨Nat.le_of_ble_eq_true rfl, Nat.le_of_ble_eq_true rfl⟩ dX5_findOut_73 (lx_size hL) rfl hR hS g1 ⟨Nat.le_refl _, Nat.le_refl _⟩ (cat_le [] (Nat.le_of_ble_eq_true rfl)) (fun H locs hR hS => ?_)
    refine W_st (st2 := []) rfl ?_
    refine lv_iconst (v := 0) hx hb dX5_findOut_76 (by decide) ?_
    cases hd
    exact r_iret C dX5_findOut_77 hR hS
set_option maxHeartbeats 4000000 in
set_option maxRecDepth 100000 in
theorem k_X5_findOut_17 (C : Cx p s m args meth c RX5 cX5_findOut 4 (some .int) b0 D E) {rr : Int32} {GG : Hp} {x0 : Nat} {x1 : Int32} {x2 : Int32} {G : Hp} {ls : Array Slot} {H : Heap} {locs : List Loc} : lx ls 4 [(0, .inr x0), (1, .inl x1), (2, .inl x2)] → Rp b0 D E G H → SS b0 s H locs → d_X5_findOut_17 x0 x1 x2 G = some (rr, GG) → W p l e (rmd 3 (0) (0)) s m args below meth c H locs (0) (0) (MQ below (CQ b0 D E (some (.int rr)) GG) args s (0) (0) (fun q => b0 ≤ q)) (F0 m 17 ls []) := by
  intro hL hR hS hd
  unfold d_X5_findOut_17 at hd
  have hx := C.1
  have hb := C.2.1
  refine x_aload_n C dX5_findOut_17 hL 0 rfl ?_
  refine x_iload_n C dX5_findOut_18 hL 1 rfl ?_
  obtain ⟨g1, hd⟩ := gd_ex hd
  obtain ⟨v3, h2, hd⟩ := bo_ex hd
  refine r_callV (a := x0) (ci := 5) (As := [.int x1]) C (ct_X5_isStraight h2) mf_X5_isStraight ml_X5_102 mv_X5_isStraight rfl ⟨Nat.le_of_ble_eq_true rfl, Nat.le_of_ble_eq_true rfl⟩ dX5_findOut_19 (lx_size hL) rfl hR hS g1 ⟨Nat.le_refl _, Nat.le_refl _⟩ (cat_le [] (Nat.le_of_ble_eq_true rfl)) (fun H locs hR hS => ?_)
  refine W_st (st2 := [.int v3]) rfl ?_
  refine lv_if_ne (tgt := 61) hx hb dX5_findOut_22 (by decide) (fun c4 => ?_) (fun c4 => ?_)
  · rw [if_neg c4] at hd
    exact k_X5_findOut_61 C hL hR hS hd
  · rw [if_pos c4] at hd
    refine x_aload_n C dX5_findOut_25 hL 0 rfl ?_
    obtain ⟨v6, h5, hd⟩ := bo_ex hd
    refine r_callV (a := x0) (ci := 5) (As := []) C (ct_X5_portToMeeting h5) mf_X5_portToMeeting ml_X5_256 mv_X5_portToMeeting rfl ⟨Nat.le_of_ble_eq_true rfl, Nat.le_of_ble_eq_true rfl⟩ dX5_findOut_26 (lx_size hL) rfl hR hS g1 ⟨Nat.le_refl _, Nat.le_refl _⟩ (cat_le [] (Nat.le_of_ble_eq_true rfl)) (fun H locs hR hS => ?_)
    refine W_st (st2 := [.int v6]) rfl ?_
    refine x_iload_n C dX5_findOut_29 hL 2 rfl ?_
    refine lv_icmp_ne (tgt := 61) hx hb dX5_findOut_30 (by decide) (fun c7 => ?_) (fun c7 => ?_)
    · rw [if_neg c7] at hd
      exact k_X5_findOut_61 C hL hR hS hd
    · rw [if_pos c7] at hd
      refine x_aload_n C dX5_findOut_33 hL 0 rfl ?_
      obtain ⟨v9, h8, hd⟩ := bo_ex hd
      refine r_callV (a := x0) (ci := 5) (As := []) C (ct_X5_hasOwnPort h8) mf_X5_hasOwnPort ml_X5_259 mv_X5_hasOwnPort rfl ⟨Nat.le_of_ble_eq_true rfl, Nat.le_of_ble_eq_true rfl⟩ dX5_findOut_34 (lx_size hL) rfl hR hS g1 ⟨Nat.le_refl _, Nat.le_refl _⟩ (cat_le [] (Nat.le_of_ble_eq_true rfl)) (fun H locs hR hS => ?_)
      refine W_st (st2 := [.int v9]) rfl ?_
      refine lv_if_eq (tgt := 56) hx hb dX5_findOut_37 (by decide) (fun c10 => ?_) (fun c10 => ?_)
      · rw [if_pos c10] at hd
        refine x_aload_n C dX5_findOut_56 hL 0 rfl ?_
        refine r_geti (ci := 5) (k := 13) C fl_X5_40 rfl dX5_findOut_57 hR g1 ?_
        cases hd
        exact r_iret C dX5_findOut_60 hR hS
      · rw [if_neg c10] at hd
        refine x_aload_n C dX5_findOut_40 hL 0 rfl ?_
        refine r_getr (ci := 5) (k := 8) C fl_X5_25 rfl dX5_findOut_41 hR g1 ?_
        refine x_iload_n C dX5_findOut_44 hL 1 rfl ?_
        refine x_aload_n C dX5_findOut_45 hL 0 rfl ?_
        refine r_getr (ci := 5) (k := 0) C fl_X5_50 rfl dX5_findOut_46 hR g1 ?_
        obtain ⟨g11, hd⟩ := gd_ex hd
        refine r_geti (ci := 2) (k := 4) C fl_X5_118 rfl dX5_findOut_49 hR g11 ?_
        refine lv_bipush (v := 70) hx hb dX5_findOut_52 (by decide) ?_
        refine lv_iadd hx hb dX5_findOut_54 ?_
        obtain ⟨g12, hd⟩ := gd_ex hd
        obtain ⟨G13, eG13, hd⟩ := bd_ex hd
        refine r_iast C dX5_findOut_55 hR hS g12 (fun H locs hR hS => ?_)
        replace hR : Rp b0 D E G13 H := by rw [eG13]; exact hR
        refine x_aload_n C dX5_findOut_56 hL 0 rfl ?_
        obtain ⟨g14, hd⟩ := gd_ex hd
        refine r_geti (ci := 5) (k := 13) C fl_X5_40 rfl dX5_findOut_57 hR g14 ?_
        cases hd
        exact r_iret C dX5_findOut_60 hR hS
set_option maxHeartbeats 4000000 in
set_option maxRecDepth 100000 in
theorem k_X5_findOut (C : Cx p s m args meth c RX5 cX5_findOut 4 (some .int) b0 D E) {rr : Int32} {GG : Hp} {x0 : Nat} {x1 : Int32} {x2 : Int32} {x3 : Int32} {G : Hp} {ls : Array Slot} {H : Heap} {locs : List Loc} : lx ls 4 [(0, .inr x0), (1, .inl x1), (2, .inl x2), (3, .inl x3)] → Rp b0 D E G H → SS b0 s H locs → d_X5_findOut x0 x1 x2 x3 G = some (rr, GG) → W p l e (rmd 3 (0) (0)) s m args below meth c H locs (0) (0) (MQ below (CQ b0 D E (some (.int rr)) GG) args s (0) (0) (fun q => b0 ≤ q)) (F0 m 0 ls []) := by
  intro hL hR hS hd
  unfold d_X5_findOut at hd
  have hx := C.1
  have hb := C.2.1
  refine x_iload_n C dX5_findOut_0 hL 3 rfl ?_
  refine lv_if_eq (tgt := 17) hx hb dX5_findOut_1 (by decide) (fun c1 => ?_) (fun c1 => ?_)
  · rw [if_pos c1] at hd
    exact k_X5_findOut_17 C (lx_sub hL [0, 1, 2] rfl) hR hS hd
  · rw [if_neg c1] at hd
    refine x_aload_n C dX5_findOut_4 hL 0 rfl ?_
    refine x_iload_n C dX5_findOut_5 hL 1 rfl ?_
    obtain ⟨g2, hd⟩ := gd_ex hd
    obtain ⟨v4, h3, hd⟩ := bo_ex hd
    refine r_callV (a := x0) (ci := 5) (As := [.int x1]) C (ct_X5_isStraight h3) mf_X5_isStraight ml_X5_102 mv_X5_isStraight rfl ⟨Nat.le_of_ble_eq_true rfl, Nat.le_of_ble_eq_true rfl⟩ dX5_findOut_6 (lx_size hL) rfl hR hS g2 ⟨Nat.le_refl _, Nat.le_refl _⟩ (cat_le [] (Nat.le_of_ble_eq_true rfl)) (fun H locs hR hS => ?_)
    refine W_st (st2 := [.int v4]) rfl ?_
    refine lv_if_eq (tgt := 17) hx hb dX5_findOut_9 (by decide) (fun c5 => ?_) (fun c5 => ?_)
    · rw [if_pos c5] at hd
      exact k_X5_findOut_17 C (lx_sub hL [0, 1, 2] rfl) hR hS hd
    · rw [if_neg c5] at hd
      refine x_aload_n C dX5_findOut_12 hL 0 rfl ?_
      refine r_geti (ci := 5) (k := 14) C fl_X5_43 rfl dX5_findOut_13 hR g2 ?_
      cases hd
      exact r_iret C dX5_findOut_16 hR hS
end
set_option maxHeartbeats 4000000 in
set_option maxRecDepth 100000 in
theorem ct_X5_findOut {l : Launch} {b0 : Nat} {D : va_G} {E : Nat → ClassId} {G : Hp} {a0 : Nat} {a1 : Int32} {a2 : Int32} {a3 : Int32} {rr : Int32} {GG : Hp} (hd : d_X5_findOut a0 a1 a2 a3 G = some (rr, GG)) : CT l yX5_findOut cX5_findOut 4 (some .int) 3 0 0 b0 D E [rv a0, .int a1, .int a2, .int a3] G (some (.int rr)) GG := by
  refine CT_of (by decide +kernel) ?_
  intro p e s m below meth c C hnm hR
  refine r_entry [.inr a0, .inl a1, .inl a2, .inl a3] (n := 4) (Nat.le_of_ble_eq_true rfl) (lv := [(0, .inr a0), (1, .inl a1), (2, .inl a2), (3, .inl a3)]) rfl (fun ls hL => ?_)
  exact k_X5_findOut C (lx_sub hL [0, 1, 2, 3] rfl) hR ⟨fun _ _ => rfl, fun _ h => by cases h⟩ hd

/-! GroveWorks$Tree.sendData(IIII)V -/
theorem dX5_sendData_0 : decode cX5_sendData 0 = .ok (.iconst 0, 1) := by decide +kernel
theorem dX5_sendData_1 : decode cX5_sendData 1 = .ok (.istore 5, 2) := by decide +kernel
theorem dX5_sendData_3 : decode cX5_sendData 3 = .ok (.iload 5, 2) := by decide +kernel
theorem dX5_sendData_5 : decode cX5_sendData 5 = .ok (.iconst 4, 1) := by decide +kernel
theorem dX5_sendData_6 : decode cX5_sendData 6 = .ok (.if_icmp .ge 86, 3) := by decide +kernel
theorem dX5_sendData_9 : decode cX5_sendData 9 = .ok (.iload 4, 2) := by decide +kernel
theorem dX5_sendData_11 : decode cX5_sendData 11 = .ok (.ifCond .le 81, 3) := by decide +kernel
theorem dX5_sendData_14 : decode cX5_sendData 14 = .ok (.iload_n 1, 1) := by decide +kernel
theorem dX5_sendData_15 : decode cX5_sendData 15 = .ok (.iload 5, 2) := by decide +kernel
theorem dX5_sendData_17 : decode cX5_sendData 17 = .ok (.invokestatic 145, 3) := by decide +kernel
theorem dX5_sendData_20 : decode cX5_sendData 20 = .ok (.ifCond .eq 66, 3) := by decide +kernel
theorem dX5_sendData_23 : decode cX5_sendData 23 = .ok (.aload_n 0, 1) := by decide +kernel
theorem dX5_sendData_24 : decode cX5_sendData 24 = .ok (.getfield 60, 3) := by decide +kernel
theorem dX5_sendData_27 : decode cX5_sendData 27 = .ok (.iload 5, 2) := by decide +kernel
theorem dX5_sendData_29 : decode cX5_sendData 29 = .ok (.aaload, 1) := by decide +kernel
theorem dX5_sendData_30 : decode cX5_sendData 30 = .ok (.ifnonnull 6, 3) := by decide +kernel
theorem dX5_sendData_33 : decode cX5_sendData 33 = .ok (.goto 53, 3) := by decide +kernel
theorem dX5_sendData_36 : decode cX5_sendData 36 = .ok (.aload_n 0, 1) := by decide +kernel
theorem dX5_sendData_37 : decode cX5_sendData 37 = .ok (.getfield 60, 3) := by decide +kernel
theorem dX5_sendData_40 : decode cX5_sendData 40 = .ok (.iload 5, 2) := by decide +kernel
theorem dX5_sendData_42 : decode cX5_sendData 42 = .ok (.aaload, 1) := by decide +kernel
theorem dX5_sendData_43 : decode cX5_sendData 43 = .ok (.getfield 181, 3) := by decide +kernel
theorem dX5_sendData_46 : decode cX5_sendData 46 = .ok (.bipush 7, 2) := by decide +kernel
theorem dX5_sendData_48 : decode cX5_sendData 48 = .ok (.aload_n 0, 1) := by decide +kernel
theorem dX5_sendData_49 : decode cX5_sendData 49 = .ok (.getfield 54, 3) := by decide +kernel
theorem dX5_sendData_52 : decode cX5_sendData 52 = .ok (.invokevirtual 185, 3) := by decide +kernel
theorem dX5_sendData_55 : decode cX5_sendData 55 = .ok (.astore 6, 2) := by decide +kernel
theorem dX5_sendData_57 : decode cX5_sendData 57 = .ok (.aload 6, 2) := by decide +kernel
theorem dX5_sendData_59 : decode cX5_sendData 59 = .ok (.ifnull 27, 3) := by decide +kernel
theorem dX5_sendData_62 : decode cX5_sendData 62 = .ok (.aload 6, 2) := by decide +kernel
theorem dX5_sendData_64 : decode cX5_sendData 64 = .ok (.iconst (-1), 1) := by decide +kernel
theorem dX5_sendData_65 : decode cX5_sendData 65 = .ok (.aload_n 0, 1) := by decide +kernel
theorem dX5_sendData_66 : decode cX5_sendData 66 = .ok (.getfield 57, 3) := by decide +kernel
theorem dX5_sendData_69 : decode cX5_sendData 69 = .ok (.iload_n 2, 1) := by decide +kernel
theorem dX5_sendData_70 : decode cX5_sendData 70 = .ok (.invokevirtual 190, 3) := by decide +kernel
theorem dX5_sendData_73 : decode cX5_sendData 73 = .ok (.aload 6, 2) := by decide +kernel
theorem dX5_sendData_75 : decode cX5_sendData 75 = .ok (.iload_n 3, 1) := by decide +kernel
theorem dX5_sendData_76 : decode cX5_sendData 76 = .ok (.putfield 246, 3) := by decide +kernel
theorem dX5_sendData_79 : decode cX5_sendData 79 = .ok (.aload 6, 2) := by decide +kernel
theorem dX5_sendData_81 : decode cX5_sendData 81 = .ok (.iload 4, 2) := by decide +kernel
theorem dX5_sendData_83 : decode cX5_sendData 83 = .ok (.putfield 249, 3) := by decide +kernel
theorem dX5_sendData_86 : decode cX5_sendData 86 = .ok (.iinc 5 1, 3) := by decide +kernel
theorem dX5_sendData_89 : decode cX5_sendData 89 = .ok (.goto (-86), 3) := by decide +kernel
theorem dX5_sendData_92 : decode cX5_sendData 92 = .ok (.return_, 1) := by decide +kernel
def d_X5_sendData_3 : Nat → Nat → Int32 → Int32 → Int32 → Int32 → Int32 → Hp → Option (Hp)
  | 0, _, _, _, _, _, _, _ => none
  | n_ + 1, x0, x1, x2, x3, x4, x5, G =>
    if 4 ≤ x5 then
      some G
    else
      if x4 ≤ 0 then
        some G
      else
        bo (d_X8_has x1 x5 G) fun v4 =>
        if v4 = 0 then
          d_X5_sendData_3 n_ x0 x1 x2 x3 x4 (x5 + 1) G
        else
          gd (hc G x0 = 6) <|
          gd (hc G (hr G x0 3) = 16 ∧ ix x5 (hl G (hr G x0 3))) <|
          if (hr G (hr G x0 3) x5.toNatClampNeg) = 0 then
            d_X5_sendData_3 n_ x0 x1 x2 x3 x4 (x5 + 1) G
          else
            gd (hc G (hr G x0 3) = 16 ∧ ix x5 (hl G (hr G x0 3))) <|
            gd (hc G (hr G (hr G x0 3) x5.toNatClampNeg) = 4) <|
            gd (hc G (hr G (hr G (hr G x0 3) x5.toNatClampNeg) 2) = 8) <|
            b2 (d_X7_open (hr G (hr G (hr G x0 3) x5.toNatClampNeg) 2) 7 (hi G x0 1) G) fun v13 G14 =>
            if v13 = 0 then
              d_X5_sendData_3 n_ x0 x1 x2 x3 x4 (x5 + 1) G14
            else
              gd (hc G14 x0 = 6) <|
              gd (hc G14 v13 = 1) <|
              bo (d_X0_aim v13 (-1) (hi G14 x0 2) x2 G14) fun G19 =>
              gd (hc G19 v13 = 1) <|
              bd (sI G19 v13 5 x3) fun G21 =>
              gd (hc G21 v13 = 1) <|
              bd (sI G21 v13 7 x4) fun G23 =>
              d_X5_sendData_3 n_ x0 x1 x2 x3 x4 (x5 + 1) G23
def d_X5_sendData (x0 : Nat) (x1 : Int32) (x2 : Int32) (x3 : Int32) (x4 : Int32) (G : Hp) : Option (Hp) :=
  d_X5_sendData_3 FU x0 x1 x2 x3 x4 0 G
section
variable {p : Program} {l : Launch} {e : Env} {s : State} {m : MethodId} {args : Array Value} {below : List Frame} {meth : Method} {c : Code} {b0 : Nat} {D : va_G} {E : Nat → ClassId}
set_option maxHeartbeats 4000000 in
set_option maxRecDepth 100000 in
theorem k_X5_sendData_3 (C : Cx p s m args meth c RX5 cX5_sendData 7 none b0 D E) {GG : Hp} : ∀ (n_ : Nat) {x0 : Nat} {x1 : Int32} {x2 : Int32} {x3 : Int32} {x4 : Int32} {x5 : Int32} {G : Hp} {ls : Array Slot} {H : Heap} {locs : List Loc}, lx ls 7 [(0, .inr x0), (1, .inl x1), (2, .inl x2), (3, .inl x3), (4, .inl x4), (5, .inl x5)] → Rp b0 D E G H → SS b0 s H locs → d_X5_sendData_3 n_ x0 x1 x2 x3 x4 x5 G = some GG → W p l e (rmd 2 (0) (0)) s m args below meth c H locs (0) (0) (MQ below (CQ b0 D E none GG) args s (0) (0) (fun q => b0 ≤ q)) (F0 m 3 ls []) := by
  intro n_
  induction n_ with
  | zero =>
    intro x0 x1 x2 x3 x4 x5 G ls H locs hL hR hS hd
    cases (show (none : Option _) = some _ from hd)
  | succ n_ ih =>
    intro x0 x1 x2 x3 x4 x5 G ls H locs hL hR hS hd
    rw [d_X5_sendData_3.eq_2] at hd
    have hx := C.1
    have hb := C.2.1
    refine x_iload C dX5_sendData_3 hL 5 rfl ?_
    refine lv_iconst (v := 4) hx hb dX5_sendData_5 (by decide) ?_
    refine lv_icmp_ge (tgt := 92) hx hb dX5_sendData_6 (by decide) (fun c1 => ?_) (fun c1 => ?_)
    · rw [if_pos c1] at hd
      cases hd
      exact r_vret C dX5_sendData_92 hR hS
    · rw [if_neg c1] at hd
      refine x_iload C dX5_sendData_9 hL 4 rfl ?_
      refine lv_if_le (tgt := 92) hx hb dX5_sendData_11 (by decide) (fun c2 => ?_) (fun c2 => ?_)
      · rw [if_pos c2] at hd
        cases hd
        exact r_vret C dX5_sendData_92 hR hS
      · rw [if_neg c2] at hd
        refine x_iload_n C dX5_sendData_14 hL 1 rfl ?_
        refine x_iload C dX5_sendData_15 hL 5 rfl ?_
        obtain ⟨v4, h3, hd⟩ := bo_ex hd
        refine r_callSN (As := [.int x1, .int x5]) C (ct_X8_has h3) mf_X8_has (by decide +kernel) ms_X8_has rfl ⟨Nat.le_of_ble_eq_true rfl, Nat.le_of_ble_eq_true rfl⟩ dX5_sendData_17 (lx_size hL) rfl hR hS ⟨Nat.le_refl _, Nat.le_refl _⟩ (cat_le [] (Nat.le_of_ble_eq_true rfl)) (fun H locs hR hS => ?_)
        refine W_st (st2 := [.int v4]) rfl ?_
        refine lv_if_eq (tgt := 86) hx hb dX5_sendData_20 (by decide) (fun c5 => ?_) (fun c5 => ?_)
        · rw [if_pos c5] at hd
          refine x_iinc (lv' := [(5, .inl (x5 + 1)), (0, .inr x0), (1, .inl x1), (2, .inl x2), (3, .inl x3), (4, .inl x4)]) C dX5_sendData_86 hL 5 rfl rfl (by decide) rfl (fun ls hL => ?_)
          refine lv_goto (tgt := 3) hx hb dX5_sendData_89 (by decide) ?_
          exact ih (lx_sub hL [1, 2, 3, 4, 5, 0] rfl) hR hS hd
        · rw [if_neg c5] at hd
          refine x_aload_n C dX5_sendData_23 hL 0 rfl ?_
          obtain ⟨g6, hd⟩ := gd_ex hd
          refine r_getr (ci := 5) (k := 3) C fl_X5_60 rfl dX5_sendData_24 hR g6 ?_
          refine x_iload C dX5_sendData_27 hL 5 rfl ?_
          obtain ⟨g7, hd⟩ := gd_ex hd
          refine r_aald (ci := 3) C (by decide) dX5_sendData_29 hR g7 ?_
          refine r_ifnonnull (tgt := 36) C dX5_sendData_30 (by decide) (fun c8 => ?_) (fun c8 => ?_)
          · rw [if_neg c8] at hd
            refine x_aload_n C dX5_sendData_36 hL 0 rfl ?_
            refine r_getr (ci := 5) (k := 3) C fl_X5_60 rfl dX5_sendData_37 hR g6 ?_
            refine x_iload C dX5_sendData_40 hL 5 rfl ?_
            obtain ⟨g9, hd⟩ := gd_ex hd
            refine r_aald (ci := 3) C (by decide) dX5_sendData_42 hR g9 ?_
            obtain ⟨g10, hd⟩ := gd_ex hd
            refine r_getr (ci := 3) (k := 2) C fl_X5_181 rfl dX5_sendData_43 hR g10 ?_
            refine lv_bipush (v := 7) hx hb dX5_sendData_46 (by decide) ?_
            refine x_aload_n C dX5_sendData_48 hL 0 rfl ?_
            refine r_geti (ci := 5) (k := 1) C fl_X5_54 rfl dX5_sendData_49 hR g6 ?_
            obtain ⟨g11, hd⟩ := gd_ex hd
            obtain ⟨v13, G14, h12, hd⟩ := b2_ex hd
            refine r_callV (a := (hr G (hr G (hr G x0 3) x5.toNatClampNeg) 2)) (ci := 7) (As := [.int 7, .int (hi G x0 1)]) C (ct_X7_open h12) mf_X7_open ml_X5_185 mv_X7_open rfl ⟨Nat.le_of_ble_eq_true rfl, Nat.le_of_ble_eq_true rfl⟩ dX5_sendData_52 (lx_size hL) rfl hR hS g11 ⟨Nat.le_refl _, Nat.le_refl _⟩ (cat_le [] (Nat.le_of_ble_eq_true rfl)) (fun H locs hR hS => ?_)
            refine W_st (st2 := [rv v13]) rfl ?_
            refine x_astore (lv' := [(6, .inr v13), (0, .inr x0), (1, .inl x1), (2, .inl x2), (3, .inl x3), (4, .inl x4), (5, .inl x5)]) C dX5_sendData_55 hL (by decide) rfl (fun ls hL => ?_)
            refine x_aload C dX5_sendData_57 hL 0 rfl ?_
            refine r_ifnull (tgt := 86) C dX5_sendData_59 (by decide) (fun c15 => ?_) (fun c15 => ?_)
            · rw [if_pos c15] at hd
              refine x_iinc (lv' := [(5, .inl (x5 + 1)), (6, .inr v13), (0, .inr x0), (1, .inl x1), (2, .inl x2), (3, .inl x3), (4, .inl x4)]) C dX5_sendData_86 hL 6 rfl rfl (by decide) rfl (fun ls hL => ?_)
              refine lv_goto (tgt := 3) hx hb dX5_sendData_89 (by decide) ?_
              exact ih (lx_sub hL [2, 3, 4, 5, 6, 0] rfl) hR hS hd
            · rw [if_neg c15] at hd
              refine x_aload C dX5_sendData_62 hL 0 rfl ?_
              refine lv_iconst (v := (-1)) hx hb dX5_sendData_64 (by decide) ?_
              refine x_aload_n C dX5_sendData_65 hL 1 rfl ?_
              obtain ⟨g16, hd⟩ := gd_ex hd
              refine r_geti (ci := 5) (k := 2) C fl_X5_57 rfl dX5_sendData_66 hR g16 ?_
              refine x_iload_n C dX5_sendData_69 hL 3 rfl ?_
              obtain ⟨g17, hd⟩ := gd_ex hd
              obtain ⟨G19, h18, hd⟩ := bo_ex hd
              refine r_callV (a := v13) (ci := 0) (As := [.int (-1), .int (hi G14 x0 2), .int x2]) C (ct_X0_aim h18) mf_X0_aim ml_X5_190 mv_X0_aim rfl ⟨Nat.le_of_ble_eq_true rfl, Nat.le_of_ble_eq_true rfl⟩ dX5_sendData_70 (lx_size hL) rfl hR hS g17 ⟨Nat.le_refl _, Nat.le_refl _⟩ (cat_le [] (Nat.le_of_ble_eq_true rfl)) (fun H locs hR hS => ?_)
              refine W_st (st2 := []) rfl ?_
              refine x_aload C dX5_sendData_73 hL 0 rfl ?_
              refine x_iload_n C dX5_sendData_75 hL 4 rfl ?_
              obtain ⟨g20, hd⟩ := gd_ex hd
              obtain ⟨G21, eG21, hd⟩ := bd_ex hd
              refine r_puti (ci := 0) (k := 5) C fl_X5_246 rfl (Or.inl rfl) dX5_sendData_76 hR hS g20 (fun H locs hR hS => ?_)
              replace hR : Rp b0 D E G21 H := by rw [eG21]; exact hR
              refine x_aload C dX5_sendData_79 hL 0 rfl ?_
              refine x_iload C dX5_sendData_81 hL 5 rfl ?_
              obtain ⟨g22, hd⟩ := gd_ex hd
              obtain ⟨G23, eG23, hd⟩ := bd_ex hd
              refine r_puti (ci := 0) (k := 7) C fl_X5_249 rfl (Or.inl rfl) dX5_sendData_83 hR hS g22 (fun H locs hR hS => ?_)
              replace hR : Rp b0 D E G23 H := by rw [eG23]; exact hR
              refine x_iinc (lv' := [(5, .inl (x5 + 1)), (6, .inr v13), (0, .inr x0), (1, .inl x1), (2, .inl x2), (3, .inl x3), (4, .inl x4)]) C dX5_sendData_86 hL 6 rfl rfl (by decide) rfl (fun ls hL => ?_)
              refine lv_goto (tgt := 3) hx hb dX5_sendData_89 (by decide) ?_
              exact ih (lx_sub hL [2, 3, 4, 5, 6, 0] rfl) hR hS hd
          · rw [if_pos c8] at hd
            refine lv_goto (tgt := 86) hx hb dX5_sendData_33 (by decide) ?_
            refine x_iinc (lv' := [(5, .inl (x5 + 1)), (0, .inr x0), (1, .inl x1), (2, .inl x2), (3, .inl x3), (4, .inl x4)]) C dX5_sendData_86 hL 5 rfl rfl (by decide) rfl (fun ls hL => ?_)
            refine lv_goto (tgt := 3) hx hb dX5_sendData_89 (by decide) ?_
            exact ih (lx_sub hL [1, 2, 3, 4, 5, 0] rfl) hR hS hd
set_option maxHeartbeats 4000000 in
set_option maxRecDepth 100000 in
theorem k_X5_sendData (C : Cx p s m args meth c RX5 cX5_sendData 7 none b0 D E) {GG : Hp} {x0 : Nat} {x1 : Int32} {x2 : Int32} {x3 : Int32} {x4 : Int32} {G : Hp} {ls : Array Slot} {H : Heap} {locs : List Loc} : lx ls 7 [(0, .inr x0), (1, .inl x1), (2, .inl x2), (3, .inl x3), (4, .inl x4)] → Rp b0 D E G H → SS b0 s H locs → d_X5_sendData x0 x1 x2 x3 x4 G = some GG → W p l e (rmd 2 (0) (0)) s m args below meth c H locs (0) (0) (MQ below (CQ b0 D E none GG) args s (0) (0) (fun q => b0 ≤ q)) (F0 m 0 ls []) := by
  intro hL hR hS hd
  unfold d_X5_sendData at hd
  have hx := C.1
  have hb := C.2.1
  refine lv_iconst (v := 0) hx hb dX5_sendData_0 (by decide) ?_
  refine x_istore (lv' := [(5, .inl 0), (0, .inr x0), (1, .inl x1), (2, .inl x2), (3, .inl x3), (4, .inl x4)]) C dX5_sendData_1 hL (by decide) rfl (fun ls hL => ?_)
  exact k_X5_sendData_3 C FU (lx_sub hL [1, 2, 3, 4, 5, 0] rfl) hR hS hd
end
set_option maxHeartbeats 4000000 in
set_option maxRecDepth 100000 in
theorem ct_X5_sendData {l : Launch} {b0 : Nat} {D : va_G} {E : Nat → ClassId} {G : Hp} {a0 : Nat} {a1 : Int32} {a2 : Int32} {a3 : Int32} {a4 : Int32} {GG : Hp} (hd : d_X5_sendData a0 a1 a2 a3 a4 G = some GG) : CT l yX5_sendData cX5_sendData 7 none 2 0 0 b0 D E [rv a0, .int a1, .int a2, .int a3, .int a4] G none GG := by
  refine CT_of (by decide +kernel) ?_
  intro p e s m below meth c C hnm hR
  refine r_entry [.inr a0, .inl a1, .inl a2, .inl a3, .inl a4] (n := 7) (Nat.le_of_ble_eq_true rfl) (lv := [(0, .inr a0), (1, .inl a1), (2, .inl a2), (3, .inl a3), (4, .inl a4)]) rfl (fun ls hL => ?_)
  exact k_X5_sendData C (lx_sub hL [0, 1, 2, 3, 4] rfl) hR ⟨fun _ _ => rfl, fun _ h => by cases h⟩ hd

/-! GroveWorks$Tree.isMeeting()Z pure -/
theorem dX5_isMeeting_0 : decode cX5_isMeeting 0 = .ok (.aload_n 0, 1) := by decide +kernel
theorem dX5_isMeeting_1 : decode cX5_isMeeting 1 = .ok (.getfield 50, 3) := by decide +kernel
theorem dX5_isMeeting_4 : decode cX5_isMeeting 4 = .ok (.getfield 70, 3) := by decide +kernel
theorem dX5_isMeeting_7 : decode cX5_isMeeting 7 = .ok (.aload_n 0, 1) := by decide +kernel
theorem dX5_isMeeting_8 : decode cX5_isMeeting 8 = .ok (.getfield 57, 3) := by decide +kernel
theorem dX5_isMeeting_11 : decode cX5_isMeeting 11 = .ok (.iaload, 1) := by decide +kernel
theorem dX5_isMeeting_12 : decode cX5_isMeeting 12 = .ok (.aload_n 0, 1) := by decide +kernel
theorem dX5_isMeeting_13 : decode cX5_isMeeting 13 = .ok (.getfield 54, 3) := by decide +kernel
theorem dX5_isMeeting_16 : decode cX5_isMeeting 16 = .ok (.if_icmp .ne 7, 3) := by decide +kernel
theorem dX5_isMeeting_19 : decode cX5_isMeeting 19 = .ok (.iconst 1, 1) := by decide +kernel
theorem dX5_isMeeting_20 : decode cX5_isMeeting 20 = .ok (.goto 4, 3) := by decide +kernel
theorem dX5_isMeeting_23 : decode cX5_isMeeting 23 = .ok (.iconst 0, 1) := by decide +kernel
theorem dX5_isMeeting_24 : decode cX5_isMeeting 24 = .ok (.ireturn, 1) := by decide +kernel
def d_X5_isMeeting (x0 : Nat) (G : Hp) : Option (Int32) :=
  gd (hc G x0 = 6) <|
  gd (hc G (hr G x0 0) = 3) <|
  gd (hc G (hr G (hr G x0 0) 2) = 11 ∧ ix (hi G x0 2) (hl G (hr G (hr G x0 0) 2))) <|
  if (hi G (hr G (hr G x0 0) 2) (hi G x0 2).toNatClampNeg) = (hi G x0 1) then
    some 1
  else
    some 0
section
variable {p : Program} {l : Launch} {e : Env} {s : State} {m : MethodId} {args : Array Value} {below : List Frame} {meth : Method} {c : Code} {b0 : Nat} {D : va_G} {E : Nat → ClassId}
set_option maxHeartbeats 4000000 in
set_option maxRecDepth 100000 in
theorem k_X5_isMeeting (C : Cx p s m args meth c RX5 cX5_isMeeting 1 (some .boolean) b0 D E) {rr : Int32} {G : Hp} {x0 : Nat} {ls : Array Slot} {H : Heap} {locs : List Loc} : lx ls 1 [(0, .inr x0)] → Rp b0 D E G H → SS b0 s H locs → d_X5_isMeeting x0 G = some rr → W p l e (rmd 0 (0) (0)) s m args below meth c H locs (0) (0) (MQ below (CQ b0 D E (some (.int rr)) G) args s (0) (0) (fun q => b0 ≤ q)) (F0 m 0 ls []) := by
  intro hL hR hS hd
  unfold d_X5_isMeeting at hd
  have hx := C.1
  have hb := C.2.1
  refine x_aload_n C dX5_isMeeting_0 hL 0 rfl ?_
  obtain ⟨g1, hd⟩ := gd_ex hd
  refine r_getr (ci := 5) (k := 0) C fl_X5_50 rfl dX5_isMeeting_1 hR g1 ?_
  obtain ⟨g2, hd⟩ := gd_ex hd
  refine r_getr (ci := 2) (k := 2) C fl_X5_70 rfl dX5_isMeeting_4 hR g2 ?_
  refine x_aload_n C dX5_isMeeting_7 hL 0 rfl ?_
  refine r_geti (ci := 5) (k := 2) C fl_X5_57 rfl dX5_isMeeting_8 hR g1 ?_
  obtain ⟨g3, hd⟩ := gd_ex hd
  refine r_iald C dX5_isMeeting_11 hR g3 ?_
  refine x_aload_n C dX5_isMeeting_12 hL 0 rfl ?_
  refine r_geti (ci := 5) (k := 1) C fl_X5_54 rfl dX5_isMeeting_13 hR g1 ?_
  refine lv_icmp_ne (tgt := 23) hx hb dX5_isMeeting_16 (by decide) (fun c4 => ?_) (fun c4 => ?_)
  · rw [if_neg c4] at hd
    refine lv_iconst (v := 0) hx hb dX5_isMeeting_23 (by decide) ?_
    cases hd
    exact r_zret C (by decide) dX5_isMeeting_24 hR hS
  · rw [if_pos c4] at hd
    refine lv_iconst (v := 1) hx hb dX5_isMeeting_19 (by decide) ?_
    refine lv_goto (tgt := 24) hx hb dX5_isMeeting_20 (by decide) ?_
    cases hd
    exact r_zret C (by decide) dX5_isMeeting_24 hR hS
end
set_option maxHeartbeats 4000000 in
set_option maxRecDepth 100000 in
theorem ct_X5_isMeeting {l : Launch} {b0 : Nat} {D : va_G} {E : Nat → ClassId} {G : Hp} {a0 : Nat} {rr : Int32} (hd : d_X5_isMeeting a0 G = some rr) : CT l yX5_isMeeting cX5_isMeeting 1 (some .boolean) 0 0 0 b0 D E [rv a0] G (some (.int rr)) G := by
  refine CT_of (by decide +kernel) ?_
  intro p e s m below meth c C hnm hR
  refine r_entry [.inr a0] (n := 1) (Nat.le_of_ble_eq_true rfl) (lv := [(0, .inr a0)]) rfl (fun ls hL => ?_)
  exact k_X5_isMeeting C (lx_sub hL [0] rfl) hR ⟨fun _ _ => rfl, fun _ h => by cases h⟩ hd

/-! GroveWorks$Tree.mayTunnel(I)Z pure -/
theorem dX5_mayTunnel_0 : decode cX5_mayTunnel 0 = .ok (.aload_n 0, 1) := by decide +kernel
theorem dX5_mayTunnel_1 : decode cX5_mayTunnel 1 = .ok (.iload_n 1, 1) := by decide +kernel
theorem dX5_mayTunnel_2 : decode cX5_mayTunnel 2 = .ok (.invokevirtual 154, 3) := by decide +kernel
theorem dX5_mayTunnel_5 : decode cX5_mayTunnel 5 = .ok (.istore_n 2, 1) := by decide +kernel
theorem dX5_mayTunnel_6 : decode cX5_mayTunnel 6 = .ok (.iload_n 2, 1) := by decide +kernel
theorem dX5_mayTunnel_7 : decode cX5_mayTunnel 7 = .ok (.iconst 4, 1) := by decide +kernel
theorem dX5_mayTunnel_8 : decode cX5_mayTunnel 8 = .ok (.invokestatic 136, 3) := by decide +kernel
theorem dX5_mayTunnel_11 : decode cX5_mayTunnel 11 = .ok (.ifCond .eq 43, 3) := by decide +kernel
theorem dX5_mayTunnel_14 : decode cX5_mayTunnel 14 = .ok (.aload_n 0, 1) := by decide +kernel
theorem dX5_mayTunnel_15 : decode cX5_mayTunnel 15 = .ok (.getfield 60, 3) := by decide +kernel
theorem dX5_mayTunnel_18 : decode cX5_mayTunnel 18 = .ok (.iload_n 2, 1) := by decide +kernel
theorem dX5_mayTunnel_19 : decode cX5_mayTunnel 19 = .ok (.aaload, 1) := by decide +kernel
theorem dX5_mayTunnel_20 : decode cX5_mayTunnel 20 = .ok (.ifnull 34, 3) := by decide +kernel
theorem dX5_mayTunnel_23 : decode cX5_mayTunnel 23 = .ok (.aload_n 0, 1) := by decide +kernel
theorem dX5_mayTunnel_24 : decode cX5_mayTunnel 24 = .ok (.getfield 60, 3) := by decide +kernel
theorem dX5_mayTunnel_27 : decode cX5_mayTunnel 27 = .ok (.iload_n 2, 1) := by decide +kernel
theorem dX5_mayTunnel_28 : decode cX5_mayTunnel 28 = .ok (.aaload, 1) := by decide +kernel
theorem dX5_mayTunnel_29 : decode cX5_mayTunnel 29 = .ok (.invokevirtual 200, 3) := by decide +kernel
theorem dX5_mayTunnel_32 : decode cX5_mayTunnel 32 = .ok (.ifCond .eq 22, 3) := by decide +kernel
theorem dX5_mayTunnel_35 : decode cX5_mayTunnel 35 = .ok (.aload_n 0, 1) := by decide +kernel
theorem dX5_mayTunnel_36 : decode cX5_mayTunnel 36 = .ok (.iload_n 1, 1) := by decide +kernel
theorem dX5_mayTunnel_37 : decode cX5_mayTunnel 37 = .ok (.invokevirtual 203, 3) := by decide +kernel
theorem dX5_mayTunnel_40 : decode cX5_mayTunnel 40 = .ok (.ifCond .eq 14, 3) := by decide +kernel
theorem dX5_mayTunnel_43 : decode cX5_mayTunnel 43 = .ok (.aload_n 0, 1) := by decide +kernel
theorem dX5_mayTunnel_44 : decode cX5_mayTunnel 44 = .ok (.invokevirtual 121, 3) := by decide +kernel
theorem dX5_mayTunnel_47 : decode cX5_mayTunnel 47 = .ok (.ifCond .ne 7, 3) := by decide +kernel
theorem dX5_mayTunnel_50 : decode cX5_mayTunnel 50 = .ok (.iconst 1, 1) := by decide +kernel
theorem dX5_mayTunnel_51 : decode cX5_mayTunnel 51 = .ok (.goto 4, 3) := by decide +kernel
theorem dX5_mayTunnel_54 : decode cX5_mayTunnel 54 = .ok (.iconst 0, 1) := by decide +kernel
theorem dX5_mayTunnel_55 : decode cX5_mayTunnel 55 = .ok (.ireturn, 1) := by decide +kernel
def d_X5_mayTunnel (x0 : Nat) (x1 : Int32) (G : Hp) : Option (Int32) :=
  gd (hc G x0 = 6) <|
  bo (d_X5_portToSource x0 x1 G) fun v3 =>
  bo (d_X8_isIn v3 4 G) fun v5 =>
  if v5 = 0 then
    some 0
  else
    gd (hc G (hr G x0 3) = 16 ∧ ix v3 (hl G (hr G x0 3))) <|
    if (hr G (hr G x0 3) v3.toNatClampNeg) = 0 then
      some 0
    else
      gd (hc G (hr G x0 3) = 16 ∧ ix v3 (hl G (hr G x0 3))) <|
      gd (hc G (hr G (hr G x0 3) v3.toNatClampNeg) = 4) <|
      bo (d_X3_isFirst (hr G (hr G x0 3) v3.toNatClampNeg) G) fun v12 =>
      if v12 = 0 then
        some 0
      else
        bo (d_X5_isDirect x0 x1 G) fun v15 =>
        if v15 = 0 then
          some 0
        else
          bo (d_X5_isMeeting x0 G) fun v18 =>
          if v18 = 0 then
            some 1
          else
            some 0
section
variable {p : Program} {l : Launch} {e : Env} {s : State} {m : MethodId} {args : Array Value} {below : List Frame} {meth : Method} {c : Code} {b0 : Nat} {D : va_G} {E : Nat → ClassId}
set_option maxHeartbeats 4000000 in
set_option maxRecDepth 100000 in
theorem k_X5_mayTunnel (C : Cx p s m args meth c RX5 cX5_mayTunnel 3 (some .boolean) b0 D E) {rr : Int32} {G : Hp} {x0 : Nat} {x1 : Int32} {ls : Array Slot} {H : Heap} {locs : List Loc} : lx ls 3 [(0, .inr x0), (1, .inl x1)] → Rp b0 D E G H → SS b0 s H locs → d_X5_mayTunnel x0 x1 G = some rr → W p l e (rmd 3 (0) (0)) s m args below meth c H locs (0) (0) (MQ below (CQ b0 D E (some (.int rr)) G) args s (0) (0) (fun q => b0 ≤ q)) (F0 m 0 ls []) := by
  intro hL hR hS hd
  unfold d_X5_mayTunnel at hd
  have hx := C.1
  have hb := C.2.1
  refine x_aload_n C dX5_mayTunnel_0 hL 0 rfl ?_
  refine x_iload_n C dX5_mayTunnel_1 hL 1 rfl ?_
  obtain ⟨g1, hd⟩ := gd_ex hd
  obtain ⟨v3, h2, hd⟩ := bo_ex hd
  refine r_callV (a := x0) (ci := 5) (As := [.int x1]) C (ct_X5_portToSource h2) mf_X5_portToSource ml_X5_154 mv_X5_portToSource rfl ⟨Nat.le_of_ble_eq_true rfl, Nat.le_of_ble_eq_true rfl⟩ dX5_mayTunnel_2 (lx_size hL) rfl hR hS g1 ⟨Nat.le_refl _, Nat.le_refl _⟩ (cat_le [] (Nat.le_of_ble_eq_true rfl)) (fun H locs hR hS => ?_)
  refine W_st (st2 := [.int v3]) rfl ?_
  refine x_istore_n (lv' := [(2, .inl v3), (0, .inr x0), (1, .inl x1)]) C dX5_mayTunnel_5 hL (by decide) rfl (fun ls hL => ?_)
  refine x_iload_n C dX5_mayTunnel_6 hL 0 rfl ?_
  refine lv_iconst (v := 4) hx hb dX5_mayTunnel_7 (by decide) ?_
  obtain ⟨v5, h4, hd⟩ := bo_ex hd
  refine r_callSN (As := [.int v3, .int 4]) C (ct_X8_isIn h4) mf_X8_isIn (by decide +kernel) ms_X8_isIn rfl ⟨Nat.le_of_ble_eq_true rfl, Nat.le_of_ble_eq_true rfl⟩ dX5_mayTunnel_8 (lx_size hL) rfl hR hS ⟨Nat.le_refl _, Nat.le_refl _⟩ (cat_le [] (Nat.le_of_ble_eq_true rfl)) (fun H locs hR hS => ?_)
  refine W_st (st2 := [.int v5]) rfl ?_
  refine lv_if_eq (tgt := 54) hx hb dX5_mayTunnel_11 (by decide) (fun c6 => ?_) (fun c6 => ?_)
  · rw [if_pos c6] at hd
    refine lv_iconst (v := 0) hx hb dX5_mayTunnel_54 (by decide) ?_
    cases hd
    exact r_zret C (by decide) dX5_mayTunnel_55 hR hS
  · rw [if_neg c6] at hd
    refine x_aload_n C dX5_mayTunnel_14 hL 1 rfl ?_
    refine r_getr (ci := 5) (k := 3) C fl_X5_60 rfl dX5_mayTunnel_15 hR g1 ?_
    refine x_iload_n C dX5_mayTunnel_18 hL 0 rfl ?_
    obtain ⟨g7, hd⟩ := gd_ex hd
    refine r_aald (ci := 3) C (by decide) dX5_mayTunnel_19 hR g7 ?_
    refine r_ifnull (tgt := 54) C dX5_mayTunnel_20 (by decide) (fun c8 => ?_) (fun c8 => ?_)
    · rw [if_pos c8] at hd
      refine lv_iconst (v := 0) hx hb dX5_mayTunnel_54 (by decide) ?_
      cases hd
      exact r_zret C (by decide) dX5_mayTunnel_55 hR hS
    · rw [if_neg c8] at hd
      refine x_aload_n C dX5_mayTunnel_23 hL 1 rfl ?_
      refine r_getr (ci := 5) (k := 3) C fl_X5_60 rfl dX5_mayTunnel_24 hR g1 ?_
      refine x_iload_n C dX5_mayTunnel_27 hL 0 rfl ?_
      obtain ⟨g9, hd⟩ := gd_ex hd
      refine r_aald (ci := 3) C (by decide) dX5_mayTunnel_28 hR g9 ?_
      obtain ⟨g10, hd⟩ := gd_ex hd
      obtain ⟨v12, h11, hd⟩ := bo_ex hd
      refine r_callV (a := (hr G (hr G x0 3) v3.toNatClampNeg)) (ci := 3) (As := []) C (ct_X3_isFirst h11) mf_X3_isFirst ml_X5_200 mv_X3_isFirst rfl ⟨Nat.le_of_ble_eq_true rfl, Nat.le_of_ble_eq_true rfl⟩ dX5_mayTunnel_29 (lx_size hL) rfl hR hS g10 ⟨Nat.le_refl _, Nat.le_refl _⟩ (cat_le [] (Nat.le_of_ble_eq_true rfl)) (fun H locs hR hS => ?_)
      refine W_st (st2 := [.int v12]) rfl ?_
      refine lv_if_eq (tgt := 54) hx hb dX5_mayTunnel_32 (by decide) (fun c13 => ?_) (fun c13 => ?_)
      · rw [if_pos c13] at hd
        refine lv_iconst (v := 0) hx hb dX5_mayTunnel_54 (by decide) ?_
        cases hd
        exact r_zret C (by decide) dX5_mayTunnel_55 hR hS
      · rw [if_neg c13] at hd
        refine x_aload_n C dX5_mayTunnel_35 hL 1 rfl ?_
        refine x_iload_n C dX5_mayTunnel_36 hL 2 rfl ?_
        obtain ⟨v15, h14, hd⟩ := bo_ex hd
        refine r_callV (a := x0) (ci := 5) (As := [.int x1]) C (ct_X5_isDirect h14) mf_X5_isDirect ml_X5_203 mv_X5_isDirect rfl ⟨Nat.le_of_ble_eq_true rfl, Nat.le_of_ble_eq_true rfl⟩ dX5_mayTunnel_37 (lx_size hL) rfl hR hS g1 ⟨Nat.le_refl _, Nat.le_refl _⟩ (cat_le [] (Nat.le_of_ble_eq_true rfl)) (fun H locs hR hS => ?_)
        refine W_st (st2 := [.int v15]) rfl ?_
        refine lv_if_eq (tgt := 54) hx hb dX5_mayTunnel_40 (by decide) (fun c16 => ?_) (fun c16 => ?_)
        · rw [if_pos c16] at hd
          refine lv_iconst (v := 0) hx hb dX5_mayTunnel_54 (by decide) ?_
          cases hd
          exact r_zret C (by decide) dX5_mayTunnel_55 hR hS
        · rw [if_neg c16] at hd
          refine x_aload_n C dX5_mayTunnel_43 hL 1 rfl ?_
          obtain ⟨v18, h17, hd⟩ := bo_ex hd
          refine r_callV (a := x0) (ci := 5) (As := []) C (ct_X5_isMeeting h17) mf_X5_isMeeting ml_X5_121 mv_X5_isMeeting rfl ⟨Nat.le_of_ble_eq_true rfl, Nat.le_of_ble_eq_true rfl⟩ dX5_mayTunnel_44 (lx_size hL) rfl hR hS g1 ⟨Nat.le_refl _, Nat.le_refl _⟩ (cat_le [] (Nat.le_of_ble_eq_true rfl)) (fun H locs hR hS => ?_)
          refine W_st (st2 := [.int v18]) rfl ?_
          refine lv_if_ne (tgt := 54) hx hb dX5_mayTunnel_47 (by decide) (fun c19 => ?_) (fun c19 => ?_)
          · rw [if_neg c19] at hd
            refine lv_iconst (v := 0) hx hb dX5_mayTunnel_54 (by decide) ?_
            cases hd
            exact r_zret C (by decide) dX5_mayTunnel_55 hR hS
          · rw [if_pos c19] at hd
            refine lv_iconst (v := 1) hx hb dX5_mayTunnel_50 (by decide) ?_
            refine lv_goto (tgt := 55) hx hb dX5_mayTunnel_51 (by decide) ?_
            cases hd
            exact r_zret C (by decide) dX5_mayTunnel_55 hR hS
end
set_option maxHeartbeats 4000000 in
set_option maxRecDepth 100000 in
theorem ct_X5_mayTunnel {l : Launch} {b0 : Nat} {D : va_G} {E : Nat → ClassId} {G : Hp} {a0 : Nat} {a1 : Int32} {rr : Int32} (hd : d_X5_mayTunnel a0 a1 G = some rr) : CT l yX5_mayTunnel cX5_mayTunnel 3 (some .boolean) 3 0 0 b0 D E [rv a0, .int a1] G (some (.int rr)) G := by
  refine CT_of (by decide +kernel) ?_
  intro p e s m below meth c C hnm hR
  refine r_entry [.inr a0, .inl a1] (n := 3) (Nat.le_of_ble_eq_true rfl) (lv := [(0, .inr a0), (1, .inl a1)]) rfl (fun ls hL => ?_)
  exact k_X5_mayTunnel C (lx_sub hL [0, 1] rfl) hR ⟨fun _ _ => rfl, fun _ h => by cases h⟩ hd

/-! GroveWorks$Tree.openTo(III)LGroveWorks$Frame; -/
theorem dX5_openTo_0 : decode cX5_openTo 0 = .ok (.aload_n 0, 1) := by decide +kernel
theorem dX5_openTo_1 : decode cX5_openTo 1 = .ok (.getfield 50, 3) := by decide +kernel
theorem dX5_openTo_4 : decode cX5_openTo 4 = .ok (.getfield 75, 3) := by decide +kernel
theorem dX5_openTo_7 : decode cX5_openTo 7 = .ok (.aload_n 0, 1) := by decide +kernel
theorem dX5_openTo_8 : decode cX5_openTo 8 = .ok (.getfield 54, 3) := by decide +kernel
theorem dX5_openTo_11 : decode cX5_openTo 11 = .ok (.iload_n 1, 1) := by decide +kernel
theorem dX5_openTo_12 : decode cX5_openTo 12 = .ok (.invokevirtual 83, 3) := by decide +kernel
theorem dX5_openTo_15 : decode cX5_openTo 15 = .ok (.istore 4, 2) := by decide +kernel
theorem dX5_openTo_17 : decode cX5_openTo 17 = .ok (.aload_n 0, 1) := by decide +kernel
theorem dX5_openTo_18 : decode cX5_openTo 18 = .ok (.getfield 50, 3) := by decide +kernel
theorem dX5_openTo_21 : decode cX5_openTo 21 = .ok (.getfield 75, 3) := by decide +kernel
theorem dX5_openTo_24 : decode cX5_openTo 24 = .ok (.aload_n 0, 1) := by decide +kernel
theorem dX5_openTo_25 : decode cX5_openTo 25 = .ok (.getfield 54, 3) := by decide +kernel
theorem dX5_openTo_28 : decode cX5_openTo 28 = .ok (.iload_n 1, 1) := by decide +kernel
theorem dX5_openTo_29 : decode cX5_openTo 29 = .ok (.invokevirtual 133, 3) := by decide +kernel
theorem dX5_openTo_32 : decode cX5_openTo 32 = .ok (.istore 5, 2) := by decide +kernel
theorem dX5_openTo_34 : decode cX5_openTo 34 = .ok (.iload 5, 2) := by decide +kernel
theorem dX5_openTo_36 : decode cX5_openTo 36 = .ok (.iconst (-1), 1) := by decide +kernel
theorem dX5_openTo_37 : decode cX5_openTo 37 = .ok (.if_icmp .eq 22, 3) := by decide +kernel
theorem dX5_openTo_40 : decode cX5_openTo 40 = .ok (.iload 4, 2) := by decide +kernel
theorem dX5_openTo_42 : decode cX5_openTo 42 = .ok (.iconst 4, 1) := by decide +kernel
theorem dX5_openTo_43 : decode cX5_openTo 43 = .ok (.invokestatic 136, 3) := by decide +kernel
theorem dX5_openTo_46 : decode cX5_openTo 46 = .ok (.ifCond .eq 13, 3) := by decide +kernel
theorem dX5_openTo_49 : decode cX5_openTo 49 = .ok (.aload_n 0, 1) := by decide +kernel
theorem dX5_openTo_50 : decode cX5_openTo 50 = .ok (.getfield 60, 3) := by decide +kernel
theorem dX5_openTo_53 : decode cX5_openTo 53 = .ok (.iload 4, 2) := by decide +kernel
theorem dX5_openTo_55 : decode cX5_openTo 55 = .ok (.aaload, 1) := by decide +kernel
theorem dX5_openTo_56 : decode cX5_openTo 56 = .ok (.ifnonnull 5, 3) := by decide +kernel
theorem dX5_openTo_59 : decode cX5_openTo 59 = .ok (.aconst_null, 1) := by decide +kernel
theorem dX5_openTo_60 : decode cX5_openTo 60 = .ok (.areturn, 1) := by decide +kernel
theorem dX5_openTo_61 : decode cX5_openTo 61 = .ok (.aload_n 0, 1) := by decide +kernel
theorem dX5_openTo_62 : decode cX5_openTo 62 = .ok (.getfield 60, 3) := by decide +kernel
theorem dX5_openTo_65 : decode cX5_openTo 65 = .ok (.iload 4, 2) := by decide +kernel
theorem dX5_openTo_67 : decode cX5_openTo 67 = .ok (.aaload, 1) := by decide +kernel
theorem dX5_openTo_68 : decode cX5_openTo 68 = .ok (.getfield 181, 3) := by decide +kernel
theorem dX5_openTo_71 : decode cX5_openTo 71 = .ok (.iload_n 2, 1) := by decide +kernel
theorem dX5_openTo_72 : decode cX5_openTo 72 = .ok (.aload_n 0, 1) := by decide +kernel
theorem dX5_openTo_73 : decode cX5_openTo 73 = .ok (.getfield 54, 3) := by decide +kernel
theorem dX5_openTo_76 : decode cX5_openTo 76 = .ok (.invokevirtual 185, 3) := by decide +kernel
theorem dX5_openTo_79 : decode cX5_openTo 79 = .ok (.astore 6, 2) := by decide +kernel
theorem dX5_openTo_81 : decode cX5_openTo 81 = .ok (.aload 6, 2) := by decide +kernel
theorem dX5_openTo_83 : decode cX5_openTo 83 = .ok (.ifnull 15, 3) := by decide +kernel
theorem dX5_openTo_86 : decode cX5_openTo 86 = .ok (.aload 6, 2) := by decide +kernel
theorem dX5_openTo_88 : decode cX5_openTo 88 = .ok (.iload 5, 2) := by decide +kernel
theorem dX5_openTo_90 : decode cX5_openTo 90 = .ok (.aload_n 0, 1) := by decide +kernel
theorem dX5_openTo_91 : decode cX5_openTo 91 = .ok (.getfield 57, 3) := by decide +kernel
theorem dX5_openTo_94 : decode cX5_openTo 94 = .ok (.iload_n 3, 1) := by decide +kernel
theorem dX5_openTo_95 : decode cX5_openTo 95 = .ok (.invokevirtual 190, 3) := by decide +kernel
theorem dX5_openTo_98 : decode cX5_openTo 98 = .ok (.aload 6, 2) := by decide +kernel
theorem dX5_openTo_100 : decode cX5_openTo 100 = .ok (.areturn, 1) := by decide +kernel
def d_X5_openTo (x0 : Nat) (x1 : Int32) (x2 : Int32) (x3 : Int32) (G : Hp) : Option (Nat × Hp) :=
  gd (hc G x0 = 6) <|
  gd (hc G (hr G x0 0) = 3) <|
  gd (hc G (hr G (hr G x0 0) 1) = 7) <|
  bo (d_X6_portTo (hr G (hr G x0 0) 1) (hi G x0 1) x1 G) fun v5 =>
  bo (d_X6_routerTo (hr G (hr G x0 0) 1) (hi G x0 1) x1 G) fun v7 =>
  if v7 = (-1) then
    some (0, G)
  else
    bo (d_X8_isIn v5 4 G) fun v10 =>
    if v10 = 0 then
      some (0, G)
    else
      gd (hc G (hr G x0 3) = 16 ∧ ix v5 (hl G (hr G x0 3))) <|
      if (hr G (hr G x0 3) v5.toNatClampNeg) = 0 then
        some (0, G)
      else
        gd (hc G (hr G x0 3) = 16 ∧ ix v5 (hl G (hr G x0 3))) <|
        gd (hc G (hr G (hr G x0 3) v5.toNatClampNeg) = 4) <|
        gd (hc G (hr G (hr G (hr G x0 3) v5.toNatClampNeg) 2) = 8) <|
        b2 (d_X7_open (hr G (hr G (hr G x0 3) v5.toNatClampNeg) 2) x2 (hi G x0 1) G) fun v18 G19 =>
        if v18 = 0 then
          some (v18, G19)
        else
          gd (hc G19 x0 = 6) <|
          gd (hc G19 v18 = 1) <|
          bo (d_X0_aim v18 v7 (hi G19 x0 2) x3 G19) fun G24 =>
          some (v18, G24)
section
variable {p : Program} {l : Launch} {e : Env} {s : State} {m : MethodId} {args : Array Value} {below : List Frame} {meth : Method} {c : Code} {b0 : Nat} {D : va_G} {E : Nat → ClassId}
set_option maxHeartbeats 4000000 in
set_option maxRecDepth 100000 in
theorem k_X5_openTo (C : Cx p s m args meth c RX5 cX5_openTo 7 (some (.object "GroveWorks$Frame")) b0 D E) {rr : Nat} {GG : Hp} {x0 : Nat} {x1 : Int32} {x2 : Int32} {x3 : Int32} {G : Hp} {ls : Array Slot} {H : Heap} {locs : List Loc} : lx ls 7 [(0, .inr x0), (1, .inl x1), (2, .inl x2), (3, .inl x3)] → Rp b0 D E G H → SS b0 s H locs → d_X5_openTo x0 x1 x2 x3 G = some (rr, GG) → W p l e (rmd 2 (0) (0)) s m args below meth c H locs (0) (0) (MQ below (CQ b0 D E (some (rv rr)) GG) args s (0) (0) (fun q => b0 ≤ q)) (F0 m 0 ls []) := by
  intro hL hR hS hd
  unfold d_X5_openTo at hd
  have hx := C.1
  have hb := C.2.1
  refine x_aload_n C dX5_openTo_0 hL 0 rfl ?_
  obtain ⟨g1, hd⟩ := gd_ex hd
  refine r_getr (ci := 5) (k := 0) C fl_X5_50 rfl dX5_openTo_1 hR g1 ?_
  obtain ⟨g2, hd⟩ := gd_ex hd
  refine r_getr (ci := 2) (k := 1) C fl_X5_75 rfl dX5_openTo_4 hR g2 ?_
  refine x_aload_n C dX5_openTo_7 hL 0 rfl ?_
  refine r_geti (ci := 5) (k := 1) C fl_X5_54 rfl dX5_openTo_8 hR g1 ?_
  refine x_iload_n C dX5_openTo_11 hL 1 rfl ?_
  obtain ⟨g3, hd⟩ := gd_ex hd
  obtain ⟨v5, h4, hd⟩ := bo_ex hd
  refine r_callV (a := (hr G (hr G x0 0) 1)) (ci := 6) (As := [.int (hi G x0 1), .int x1]) C (ct_X6_portTo h4) mf_X6_portTo ml_X5_83 mv_X6_portTo rfl ⟨Nat.le_of_ble_eq_true rfl, Nat.le_of_ble_eq_true rfl⟩ dX5_openTo_12 (lx_size hL) rfl hR hS g3 ⟨Nat.le_refl _, Nat.le_refl _⟩ (cat_le [] (Nat.le_of_ble_eq_true rfl)) (fun H locs hR hS => ?_)
  refine W_st (st2 := [.int v5]) rfl ?_
  refine x_istore (lv' := [(4, .inl v5), (0, .inr x0), (1, .inl x1), (2, .inl x2), (3, .inl x3)]) C dX5_openTo_15 hL (by decide) rfl (fun ls hL => ?_)
  refine x_aload_n C dX5_openTo_17 hL 1 rfl ?_
  refine r_getr (ci := 5) (k := 0) C fl_X5_50 rfl dX5_openTo_18 hR g1 ?_
  refine r_getr (ci := 2) (k := 1) C fl_X5_75 rfl dX5_openTo_21 hR g2 ?_
  refine x_aload_n C dX5_openTo_24 hL 1 rfl ?_
  refine r_geti (ci := 5) (k := 1) C fl_X5_54 rfl dX5_openTo_25 hR g1 ?_
  refine x_iload_n C dX5_openTo_28 hL 2 rfl ?_
  obtain ⟨v7, h6, hd⟩ := bo_ex hd
  refine r_callV (a := (hr G (hr G x0 0) 1)) (ci := 6) (As := [.int (hi G x0 1), .int x1]) C (ct_X6_routerTo h6) mf_X6_routerTo ml_X5_133 mv_X6_routerTo rfl ⟨Nat.le_of_ble_eq_true rfl, Nat.le_of_ble_eq_true rfl⟩ dX5_openTo_29 (lx_size hL) rfl hR hS g3 ⟨Nat.le_refl _, Nat.le_refl _⟩ (cat_le [] (Nat.le_of_ble_eq_true rfl)) (fun H locs hR hS => ?_)
  refine W_st (st2 := [.int v7]) rfl ?_
  refine x_istore (lv' := [(5, .inl v7), (4, .inl v5), (0, .inr x0), (1, .inl x1), (2, .inl x2), (3, .inl x3)]) C dX5_openTo_32 hL (by decide) rfl (fun ls hL => ?_)
  refine x_iload C dX5_openTo_34 hL 0 rfl ?_
  refine lv_iconst (v := (-1)) hx hb dX5_openTo_36 (by decide) ?_
  refine lv_icmp_eq (tgt := 59) hx hb dX5_openTo_37 (by decide) (fun c8 => ?_) (fun c8 => ?_)
  · rw [if_pos c8] at hd
    refine r_null C dX5_openTo_59 ?_
    cases hd
    exact r_aret C dX5_openTo_60 hR hS
  · rw [if_neg c8] at hd
    refine x_iload C dX5_openTo_40 hL 1 rfl ?_
    refine lv_iconst (v := 4) hx hb dX5_openTo_42 (by decide) ?_
    obtain ⟨v10, h9, hd⟩ := bo_ex hd
    refine r_callSN (As := [.int v5, .int 4]) C (ct_X8_isIn h9) mf_X8_isIn (by decide +kernel) ms_X8_isIn rfl ⟨Nat.le_of_ble_eq_true rfl, Nat.le_of_ble_eq_true rfl⟩ dX5_openTo_43 (lx_size hL) rfl hR hS ⟨Nat.le_refl _, Nat.le_refl _⟩ (cat_le [] (Nat.le_of_ble_eq_true rfl)) (fun H locs hR hS => ?_)
    refine W_st (st2 := [.int v10]) rfl ?_
    refine lv_if_eq (tgt := 59) hx hb dX5_openTo_46 (by decide) (fun c11 => ?_) (fun c11 => ?_)
    · rw [if_pos c11] at hd
      refine r_null C dX5_openTo_59 ?_
      cases hd
      exact r_aret C dX5_openTo_60 hR hS
    · rw [if_neg c11] at hd
      refine x_aload_n C dX5_openTo_49 hL 2 rfl ?_
      refine r_getr (ci := 5) (k := 3) C fl_X5_60 rfl dX5_openTo_50 hR g1 ?_
      refine x_iload C dX5_openTo_53 hL 1 rfl ?_
      obtain ⟨g12, hd⟩ := gd_ex hd
      refine r_aald (ci := 3) C (by decide) dX5_openTo_55 hR g12 ?_
      refine r_ifnonnull (tgt := 61) C dX5_openTo_56 (by decide) (fun c13 => ?_) (fun c13 => ?_)
      · rw [if_neg c13] at hd
        refine x_aload_n C dX5_openTo_61 hL 2 rfl ?_
        refine r_getr (ci := 5) (k := 3) C fl_X5_60 rfl dX5_openTo_62 hR g1 ?_
        refine x_iload C dX5_openTo_65 hL 1 rfl ?_
        obtain ⟨g14, hd⟩ := gd_ex hd
        refine r_aald (ci := 3) C (by decide) dX5_openTo_67 hR g14 ?_
        obtain ⟨g15, hd⟩ := gd_ex hd
        refine r_getr (ci := 3) (k := 2) C fl_X5_181 rfl dX5_openTo_68 hR g15 ?_
        refine x_iload_n C dX5_openTo_71 hL 4 rfl ?_
        refine x_aload_n C dX5_openTo_72 hL 2 rfl ?_
        refine r_geti (ci := 5) (k := 1) C fl_X5_54 rfl dX5_openTo_73 hR g1 ?_
        obtain ⟨g16, hd⟩ := gd_ex hd
        obtain ⟨v18, G19, h17, hd⟩ := b2_ex hd
        refine r_callV (a := (hr G (hr G (hr G x0 3) v5.toNatClampNeg) 2)) (ci := 7) (As := [.int x2, .int (hi G x0 1)]) C (ct_X7_open h17) mf_X7_open ml_X5_185 mv_X7_open rfl ⟨Nat.le_of_ble_eq_true rfl, Nat.le_of_ble_eq_true rfl⟩ dX5_openTo_76 (lx_size hL) rfl hR hS g16 ⟨Nat.le_refl _, Nat.le_refl _⟩ (cat_le [] (Nat.le_of_ble_eq_true rfl)) (fun H locs hR hS => ?_)
        refine W_st (st2 := [rv v18]) rfl ?_
        refine x_astore (lv' := [(6, .inr v18), (5, .inl v7), (4, .inl v5), (0, .inr x0), (1, .inl x1), (2, .inl x2), (3, .inl x3)]) C dX5_openTo_79 hL (by decide) rfl (fun ls hL => ?_)
        refine x_aload C dX5_openTo_81 hL 0 rfl ?_
        refine r_ifnull (tgt := 98) C dX5_openTo_83 (by decide) (fun c20 => ?_) (fun c20 => ?_)
        · rw [if_pos c20] at hd
          refine x_aload C dX5_openTo_98 hL 0 rfl ?_
          cases hd
          exact r_aret C dX5_openTo_100 hR hS
        · rw [if_neg c20] at hd
          refine x_aload C dX5_openTo_86 hL 0 rfl ?_
          refine x_iload C dX5_openTo_88 hL 1 rfl ?_
          refine x_aload_n C dX5_openTo_90 hL 3 rfl ?_
          obtain ⟨g21, hd⟩ := gd_ex hd
          refine r_geti (ci := 5) (k := 2) C fl_X5_57 rfl dX5_openTo_91 hR g21 ?_
          refine x_iload_n C dX5_openTo_94 hL 6 rfl ?_
          obtain ⟨g22, hd⟩ := gd_ex hd
          obtain ⟨G24, h23, hd⟩ := bo_ex hd
          refine r_callV (a := v18) (ci := 0) (As := [.int v7, .int (hi G19 x0 2), .int x3]) C (ct_X0_aim h23) mf_X0_aim ml_X5_190 mv_X0_aim rfl ⟨Nat.le_of_ble_eq_true rfl, Nat.le_of_ble_eq_true rfl⟩ dX5_openTo_95 (lx_size hL) rfl hR hS g22 ⟨Nat.le_refl _, Nat.le_refl _⟩ (cat_le [] (Nat.le_of_ble_eq_true rfl)) (fun H locs hR hS => ?_)
          refine W_st (st2 := []) rfl ?_
          refine x_aload C dX5_openTo_98 hL 0 rfl ?_
          cases hd
          exact r_aret C dX5_openTo_100 hR hS
      · rw [if_pos c13] at hd
        refine r_null C dX5_openTo_59 ?_
        cases hd
        exact r_aret C dX5_openTo_60 hR hS
end
set_option maxHeartbeats 4000000 in
set_option maxRecDepth 100000 in
theorem ct_X5_openTo {l : Launch} {b0 : Nat} {D : va_G} {E : Nat → ClassId} {G : Hp} {a0 : Nat} {a1 : Int32} {a2 : Int32} {a3 : Int32} {rr : Nat} {GG : Hp} (hd : d_X5_openTo a0 a1 a2 a3 G = some (rr, GG)) : CT l yX5_openTo cX5_openTo 7 (some (.object "GroveWorks$Frame")) 2 0 0 b0 D E [rv a0, .int a1, .int a2, .int a3] G (some (rv rr)) GG := by
  refine CT_of (by decide +kernel) ?_
  intro p e s m below meth c C hnm hR
  refine r_entry [.inr a0, .inl a1, .inl a2, .inl a3] (n := 7) (Nat.le_of_ble_eq_true rfl) (lv := [(0, .inr a0), (1, .inl a1), (2, .inl a2), (3, .inl a3)]) rfl (fun ls hL => ?_)
  exact k_X5_openTo C (lx_sub hL [0, 1, 2, 3] rfl) hR ⟨fun _ _ => rfl, fun _ h => by cases h⟩ hd

/-! GroveWorks$Tree.startTunnel(III)V -/
theorem dX5_startTunnel_0 : decode cX5_startTunnel 0 = .ok (.aload_n 0, 1) := by decide +kernel
theorem dX5_startTunnel_1 : decode cX5_startTunnel 1 = .ok (.aload_n 0, 1) := by decide +kernel
theorem dX5_startTunnel_2 : decode cX5_startTunnel 2 = .ok (.getfield 50, 3) := by decide +kernel
theorem dX5_startTunnel_5 : decode cX5_startTunnel 5 = .ok (.getfield 70, 3) := by decide +kernel
theorem dX5_startTunnel_8 : decode cX5_startTunnel 8 = .ok (.aload_n 0, 1) := by decide +kernel
theorem dX5_startTunnel_9 : decode cX5_startTunnel 9 = .ok (.getfield 57, 3) := by decide +kernel
theorem dX5_startTunnel_12 : decode cX5_startTunnel 12 = .ok (.iaload, 1) := by decide +kernel
theorem dX5_startTunnel_13 : decode cX5_startTunnel 13 = .ok (.bipush 9, 2) := by decide +kernel
theorem dX5_startTunnel_15 : decode cX5_startTunnel 15 = .ok (.iload_n 1, 1) := by decide +kernel
theorem dX5_startTunnel_16 : decode cX5_startTunnel 16 = .ok (.invokevirtual 274, 3) := by decide +kernel
theorem dX5_startTunnel_19 : decode cX5_startTunnel 19 = .ok (.astore 4, 2) := by decide +kernel
theorem dX5_startTunnel_21 : decode cX5_startTunnel 21 = .ok (.aload 4, 2) := by decide +kernel
theorem dX5_startTunnel_23 : decode cX5_startTunnel 23 = .ok (.ifnull 43, 3) := by decide +kernel
theorem dX5_startTunnel_26 : decode cX5_startTunnel 26 = .ok (.aload 4, 2) := by decide +kernel
theorem dX5_startTunnel_28 : decode cX5_startTunnel 28 = .ok (.iload_n 2, 1) := by decide +kernel
theorem dX5_startTunnel_29 : decode cX5_startTunnel 29 = .ok (.putfield 246, 3) := by decide +kernel
theorem dX5_startTunnel_32 : decode cX5_startTunnel 32 = .ok (.aload 4, 2) := by decide +kernel
theorem dX5_startTunnel_34 : decode cX5_startTunnel 34 = .ok (.aload_n 0, 1) := by decide +kernel
theorem dX5_startTunnel_35 : decode cX5_startTunnel 35 = .ok (.getfield 54, 3) := by decide +kernel
theorem dX5_startTunnel_38 : decode cX5_startTunnel 38 = .ok (.bipush 16, 2) := by decide +kernel
theorem dX5_startTunnel_40 : decode cX5_startTunnel 40 = .ok (.iload_n 3, 1) := by decide +kernel
theorem dX5_startTunnel_41 : decode cX5_startTunnel 41 = .ok (.imul, 1) := by decide +kernel
theorem dX5_startTunnel_42 : decode cX5_startTunnel 42 = .ok (.iadd, 1) := by decide +kernel
theorem dX5_startTunnel_43 : decode cX5_startTunnel 43 = .ok (.putfield 176, 3) := by decide +kernel
theorem dX5_startTunnel_46 : decode cX5_startTunnel 46 = .ok (.aload 4, 2) := by decide +kernel
theorem dX5_startTunnel_48 : decode cX5_startTunnel 48 = .ok (.bipush 16, 2) := by decide +kernel
theorem dX5_startTunnel_50 : decode cX5_startTunnel 50 = .ok (.putfield 249, 3) := by decide +kernel
theorem dX5_startTunnel_53 : decode cX5_startTunnel 53 = .ok (.aload_n 0, 1) := by decide +kernel
theorem dX5_startTunnel_54 : decode cX5_startTunnel 54 = .ok (.getfield 50, 3) := by decide +kernel
theorem dX5_startTunnel_57 : decode cX5_startTunnel 57 = .ok (.dup, 1) := by decide +kernel
theorem dX5_startTunnel_58 : decode cX5_startTunnel 58 = .ok (.getfield 278, 3) := by decide +kernel
theorem dX5_startTunnel_61 : decode cX5_startTunnel 61 = .ok (.iconst 1, 1) := by decide +kernel
theorem dX5_startTunnel_62 : decode cX5_startTunnel 62 = .ok (.iadd, 1) := by decide +kernel
theorem dX5_startTunnel_63 : decode cX5_startTunnel 63 = .ok (.putfield 278, 3) := by decide +kernel
theorem dX5_startTunnel_66 : decode cX5_startTunnel 66 = .ok (.return_, 1) := by decide +kernel
def d_X5_startTunnel (x0 : Nat) (x1 : Int32) (x2 : Int32) (x3 : Int32) (G : Hp) : Option (Hp) :=
  gd (hc G x0 = 6) <|
  gd (hc G (hr G x0 0) = 3) <|
  gd (hc G (hr G (hr G x0 0) 2) = 11 ∧ ix (hi G x0 2) (hl G (hr G (hr G x0 0) 2))) <|
  b2 (d_X5_openTo x0 (hi G (hr G (hr G x0 0) 2) (hi G x0 2).toNatClampNeg) 9 x1 G) fun v5 G6 =>
  if v5 = 0 then
    some G6
  else
    gd (hc G6 v5 = 1) <|
    bd (sI G6 v5 5 x2) fun G9 =>
    gd (hc G9 x0 = 6) <|
    gd (hc G9 v5 = 1) <|
    bd (sI G9 v5 6 ((hi G9 x0 1) + (16 * x3))) fun G12 =>
    gd (hc G12 v5 = 1) <|
    bd (sI G12 v5 7 16) fun G14 =>
    gd (hc G14 x0 = 6) <|
    gd (hc G14 (hr G14 x0 0) = 3) <|
    bd (sI G14 (hr G14 x0 0) 5 ((hi G14 (hr G14 x0 0) 5) + 1)) fun G17 =>
    some G17
section
variable {p : Program} {l : Launch} {e : Env} {s : State} {m : MethodId} {args : Array Value} {below : List Frame} {meth : Method} {c : Code} {b0 : Nat} {D : va_G} {E : Nat → ClassId}
set_option maxHeartbeats 4000000 in
set_option maxRecDepth 100000 in
theorem k_X5_startTunnel (C : Cx p s m args meth c RX5 cX5_startTunnel 5 none b0 D E) {GG : Hp} {x0 : Nat} {x1 : Int32} {x2 : Int32} {x3 : Int32} {G : Hp} {ls : Array Slot} {H : Heap} {locs : List Loc} : lx ls 5 [(0, .inr x0), (1, .inl x1), (2, .inl x2), (3, .inl x3)] → Rp b0 D E G H → SS b0 s H locs → d_X5_startTunnel x0 x1 x2 x3 G = some GG → W p l e (rmd 3 (0) (0)) s m args below meth c H locs (0) (0) (MQ below (CQ b0 D E none GG) args s (0) (0) (fun q => b0 ≤ q)) (F0 m 0 ls []) := by
  intro hL hR hS hd
  unfold d_X5_startTunnel at hd
  have hx := C.1
  have hb := C.2.1
  refine x_aload_n C dX5_startTunnel_0 hL 0 rfl ?_
  refine x_aload_n C dX5_startTunnel_1 hL 0 rfl ?_
  obtain ⟨g1, hd⟩ := gd_ex hd
  refine r_getr (ci := 5) (k := 0) C fl_X5_50 rfl dX5_startTunnel_2 hR g1 ?_
  obtain ⟨g2, hd⟩ := gd_ex hd
  refine r_getr (ci := 2) (k := 2) C fl_X5_70 rfl dX5_startTunnel_5 hR g2 ?_
  refine x_aload_n C dX5_startTunnel_8 hL 0 rfl ?_
  refine r_geti (ci := 5) (k := 2) C fl_X5_57 rfl dX5_startTunnel_9 hR g1 ?_
  obtain ⟨g3, hd⟩ := gd_ex hd
  refine r_iald C dX5_startTunnel_12 hR g3 ?_
  refine lv_bipush (v := 9) hx hb dX5_startTunnel_13 (by decide) ?_
  refine x_iload_n C dX5_startTunnel_15 hL 1 rfl ?_
  obtain ⟨v5, G6, h4, hd⟩ := b2_ex hd
  refine r_callV (a := x0) (ci := 5) (As := [.int (hi G (hr G (hr G x0 0) 2) (hi G x0 2).toNatClampNeg), .int 9, .int x1]) C (ct_X5_openTo h4) mf_X5_openTo ml_X5_274 mv_X5_openTo rfl ⟨Nat.le_of_ble_eq_true rfl, Nat.le_of_ble_eq_true rfl⟩ dX5_startTunnel_16 (lx_size hL) rfl hR hS g1 ⟨Nat.le_refl _, Nat.le_refl _⟩ (cat_le [] (Nat.le_of_ble_eq_true rfl)) (fun H locs hR hS => ?_)
  refine W_st (st2 := [rv v5]) rfl ?_
  refine x_astore (lv' := [(4, .inr v5), (0, .inr x0), (1, .inl x1), (2, .inl x2), (3, .inl x3)]) C dX5_startTunnel_19 hL (by decide) rfl (fun ls hL => ?_)
  refine x_aload C dX5_startTunnel_21 hL 0 rfl ?_
  refine r_ifnull (tgt := 66) C dX5_startTunnel_23 (by decide) (fun c7 => ?_) (fun c7 => ?_)
  · rw [if_pos c7] at hd
    cases hd
    exact r_vret C dX5_startTunnel_66 hR hS
  · rw [if_neg c7] at hd
    refine x_aload C dX5_startTunnel_26 hL 0 rfl ?_
    refine x_iload_n C dX5_startTunnel_28 hL 3 rfl ?_
    obtain ⟨g8, hd⟩ := gd_ex hd
    obtain ⟨G9, eG9, hd⟩ := bd_ex hd
    refine r_puti (ci := 0) (k := 5) C fl_X5_246 rfl (Or.inl rfl) dX5_startTunnel_29 hR hS g8 (fun H locs hR hS => ?_)
    replace hR : Rp b0 D E G9 H := by rw [eG9]; exact hR
    refine x_aload C dX5_startTunnel_32 hL 0 rfl ?_
    refine x_aload_n C dX5_startTunnel_34 hL 1 rfl ?_
    obtain ⟨g10, hd⟩ := gd_ex hd
    refine r_geti (ci := 5) (k := 1) C fl_X5_54 rfl dX5_startTunnel_35 hR g10 ?_
    refine lv_bipush (v := 16) hx hb dX5_startTunnel_38 (by decide) ?_
    refine x_iload_n C dX5_startTunnel_40 hL 4 rfl ?_
    refine lv_imul hx hb dX5_startTunnel_41 ?_
    refine lv_iadd hx hb dX5_startTunnel_42 ?_
    obtain ⟨g11, hd⟩ := gd_ex hd
    obtain ⟨G12, eG12, hd⟩ := bd_ex hd
    refine r_puti (ci := 0) (k := 6) C fl_X5_176 rfl (Or.inl rfl) dX5_startTunnel_43 hR hS g11 (fun H locs hR hS => ?_)
    replace hR : Rp b0 D E G12 H := by rw [eG12]; exact hR
    refine x_aload C dX5_startTunnel_46 hL 0 rfl ?_
    refine lv_bipush (v := 16) hx hb dX5_startTunnel_48 (by decide) ?_
    obtain ⟨g13, hd⟩ := gd_ex hd
    obtain ⟨G14, eG14, hd⟩ := bd_ex hd
    refine r_puti (ci := 0) (k := 7) C fl_X5_249 rfl (Or.inl rfl) dX5_startTunnel_50 hR hS g13 (fun H locs hR hS => ?_)
    replace hR : Rp b0 D E G14 H := by rw [eG14]; exact hR
    refine x_aload_n C dX5_startTunnel_53 hL 1 rfl ?_
    obtain ⟨g15, hd⟩ := gd_ex hd
    refine r_getr (ci := 5) (k := 0) C fl_X5_50 rfl dX5_startTunnel_54 hR g15 ?_
    refine lv_dup hx hb dX5_startTunnel_57 (rv_cat _) ?_
    obtain ⟨g16, hd⟩ := gd_ex hd
    refine r_geti (ci := 2) (k := 5) C fl_X5_278 rfl dX5_startTunnel_58 hR g16 ?_
    refine lv_iconst (v := 1) hx hb dX5_startTunnel_61 (by decide) ?_
    refine lv_iadd hx hb dX5_startTunnel_62 ?_
    obtain ⟨G17, eG17, hd⟩ := bd_ex hd
    refine r_puti (ci := 2) (k := 5) C fl_X5_278 rfl (Or.inl rfl) dX5_startTunnel_63 hR hS g16 (fun H locs hR hS => ?_)
    replace hR : Rp b0 D E G17 H := by rw [eG17]; exact hR
    cases hd
    exact r_vret C dX5_startTunnel_66 hR hS
end
set_option maxHeartbeats 4000000 in
set_option maxRecDepth 100000 in
theorem ct_X5_startTunnel {l : Launch} {b0 : Nat} {D : va_G} {E : Nat → ClassId} {G : Hp} {a0 : Nat} {a1 : Int32} {a2 : Int32} {a3 : Int32} {GG : Hp} (hd : d_X5_startTunnel a0 a1 a2 a3 G = some GG) : CT l yX5_startTunnel cX5_startTunnel 5 none 3 0 0 b0 D E [rv a0, .int a1, .int a2, .int a3] G none GG := by
  refine CT_of (by decide +kernel) ?_
  intro p e s m below meth c C hnm hR
  refine r_entry [.inr a0, .inl a1, .inl a2, .inl a3] (n := 5) (Nat.le_of_ble_eq_true rfl) (lv := [(0, .inr a0), (1, .inl a1), (2, .inl a2), (3, .inl a3)]) rfl (fun ls hL => ?_)
  exact k_X5_startTunnel C (lx_sub hL [0, 1, 2, 3] rfl) hR ⟨fun _ _ => rfl, fun _ h => by cases h⟩ hd
