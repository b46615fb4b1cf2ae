/-! GroveWorksModel.sendBy(IIIIIIII)Z -/
theorem dX9_sendBy_0 : decode cX9_sendBy 0 = .ok (.iload_n 2, 1) := by decide +kernel
theorem dX9_sendBy_1 : decode cX9_sendBy 1 = .ok (.iconst (-1), 1) := by decide +kernel
theorem dX9_sendBy_2 : decode cX9_sendBy 2 = .ok (.if_icmp .eq 23, 3) := by decide +kernel
theorem dX9_sendBy_5 : decode cX9_sendBy 5 = .ok (.aload_n 0, 1) := by decide +kernel
theorem dX9_sendBy_6 : decode cX9_sendBy 6 = .ok (.getfield 57, 3) := by decide +kernel
theorem dX9_sendBy_9 : decode cX9_sendBy 9 = .ok (.iload_n 2, 1) := by decide +kernel
theorem dX9_sendBy_10 : decode cX9_sendBy 10 = .ok (.iaload, 1) := by decide +kernel
theorem dX9_sendBy_11 : decode cX9_sendBy 11 = .ok (.iconst (-1), 1) := by decide +kernel
theorem dX9_sendBy_12 : decode cX9_sendBy 12 = .ok (.if_icmp .eq 13, 3) := by decide +kernel
theorem dX9_sendBy_15 : decode cX9_sendBy 15 = .ok (.aload_n 0, 1) := by decide +kernel
theorem dX9_sendBy_16 : decode cX9_sendBy 16 = .ok (.getfield 60, 3) := by decide +kernel
theorem dX9_sendBy_19 : decode cX9_sendBy 19 = .ok (.iload_n 2, 1) := by decide +kernel
theorem dX9_sendBy_20 : decode cX9_sendBy 20 = .ok (.iaload, 1) := by decide +kernel
theorem dX9_sendBy_21 : decode cX9_sendBy 21 = .ok (.iconst (-1), 1) := by decide +kernel
theorem dX9_sendBy_22 : decode cX9_sendBy 22 = .ok (.if_icmp .ne 5, 3) := by decide +kernel
theorem dX9_sendBy_25 : decode cX9_sendBy 25 = .ok (.iconst 0, 1) := by decide +kernel
theorem dX9_sendBy_26 : decode cX9_sendBy 26 = .ok (.ireturn, 1) := by decide +kernel
theorem dX9_sendBy_27 : decode cX9_sendBy 27 = .ok (.aload_n 0, 1) := by decide +kernel
theorem dX9_sendBy_28 : decode cX9_sendBy 28 = .ok (.aload_n 0, 1) := by decide +kernel
theorem dX9_sendBy_29 : decode cX9_sendBy 29 = .ok (.getfield 7, 3) := by decide +kernel
theorem dX9_sendBy_32 : decode cX9_sendBy 32 = .ok (.iconst 4, 1) := by decide +kernel
theorem dX9_sendBy_33 : decode cX9_sendBy 33 = .ok (.iload_n 1, 1) := by decide +kernel
theorem dX9_sendBy_34 : decode cX9_sendBy 34 = .ok (.imul, 1) := by decide +kernel
theorem dX9_sendBy_35 : decode cX9_sendBy 35 = .ok (.aload_n 0, 1) := by decide +kernel
theorem dX9_sendBy_36 : decode cX9_sendBy 36 = .ok (.getfield 57, 3) := by decide +kernel
theorem dX9_sendBy_39 : decode cX9_sendBy 39 = .ok (.iload_n 2, 1) := by decide +kernel
theorem dX9_sendBy_40 : decode cX9_sendBy 40 = .ok (.iaload, 1) := by decide +kernel
theorem dX9_sendBy_41 : decode cX9_sendBy 41 = .ok (.iadd, 1) := by decide +kernel
theorem dX9_sendBy_42 : decode cX9_sendBy 42 = .ok (.iaload, 1) := by decide +kernel
theorem dX9_sendBy_43 : decode cX9_sendBy 43 = .ok (.iload_n 3, 1) := by decide +kernel
theorem dX9_sendBy_44 : decode cX9_sendBy 44 = .ok (.iload_n 1, 1) := by decide +kernel
theorem dX9_sendBy_45 : decode cX9_sendBy 45 = .ok (.aload_n 0, 1) := by decide +kernel
theorem dX9_sendBy_46 : decode cX9_sendBy 46 = .ok (.getfield 60, 3) := by decide +kernel
theorem dX9_sendBy_49 : decode cX9_sendBy 49 = .ok (.iload_n 2, 1) := by decide +kernel
theorem dX9_sendBy_50 : decode cX9_sendBy 50 = .ok (.iaload, 1) := by decide +kernel
theorem dX9_sendBy_51 : decode cX9_sendBy 51 = .ok (.iload 4, 2) := by decide +kernel
theorem dX9_sendBy_53 : decode cX9_sendBy 53 = .ok (.iload 5, 2) := by decide +kernel
theorem dX9_sendBy_55 : decode cX9_sendBy 55 = .ok (.iload 6, 2) := by decide +kernel
theorem dX9_sendBy_57 : decode cX9_sendBy 57 = .ok (.iload 7, 2) := by decide +kernel
theorem dX9_sendBy_59 : decode cX9_sendBy 59 = .ok (.iload 8, 2) := by decide +kernel
theorem dX9_sendBy_61 : decode cX9_sendBy 61 = .ok (.invokevirtual 238, 3) := by decide +kernel
theorem dX9_sendBy_64 : decode cX9_sendBy 64 = .ok (.ireturn, 1) := by decide +kernel
def d_X9_sendBy (x0 : Nat) (x1 : Int32) (x2 : Int32) (x3 : Int32) (x4 : Int32) (x5 : Int32) (x6 : Int32) (x7 : Int32) (x8 : Int32) (G : Hp) : Option (Int32 × Hp) :=
  if x2 = (-1) then
    some (0, G)
  else
    gd (hc G x0 = 10) <|
    gd (hc G ((hr G x0 23)) = 11 ∧ ix x2 (hl G ((hr G x0 23)))) <|
    if ((hi G ((hr G x0 23)) x2.toNatClampNeg)) = (-1) then
      some (0, G)
    else
      gd (hc G ((hr G x0 24)) = 11 ∧ ix x2 (hl G ((hr G x0 24)))) <|
      if ((hi G ((hr G x0 24)) x2.toNatClampNeg)) = (-1) then
        some (0, G)
      else
        gd (hc G ((hr G x0 23)) = 11 ∧ ix x2 (hl G ((hr G x0 23)))) <|
        gd (hc G ((hr G x0 8)) = 11 ∧ ix ((((4 * x1)) + ((hi G ((hr G x0 23)) x2.toNatClampNeg)))) (hl G ((hr G x0 8)))) <|
        gd (hc G ((hr G x0 24)) = 11 ∧ ix x2 (hl G ((hr G x0 24)))) <|
        b2 (d_X9_put x0 ((hi G ((hr G x0 8)) ((((4 * x1)) + ((hi G ((hr G x0 23)) x2.toNatClampNeg)))).toNatClampNeg)) x3 x1 ((hi G ((hr G x0 24)) x2.toNatClampNeg)) x4 x5 x6 x7 x8 G) fun v11 G12 =>
        gd (v11 &&& 1 = v11) <|
        some (v11, G12)
section
variable {p : Program} {l : Launch} {e : Env} {s : State} {m : MethodId} {args : Array Value} {below : List Frame} {meth : Method} {c : Code} {b0 : Nat} {D : va_G} {E : Nat → ClassId}
set_option maxHeartbeats 4000000 in
set_option maxRecDepth 100000 in
theorem k_X9_sendBy (C : Cx p s m args meth c RX9 cX9_sendBy 9 (some .boolean) b0 D E) {rr : Int32} {GG : Hp} {x0 : Nat} {x1 : Int32} {x2 : Int32} {x3 : Int32} {x4 : Int32} {x5 : Int32} {x6 : Int32} {x7 : Int32} {x8 : Int32} {G : Hp} {ls : Array Slot} {H : Heap} {locs : List Loc} : lx ls 9 [(0, .inr x0), (1, .inl x1), (2, .inl x2), (3, .inl x3), (4, .inl x4), (5, .inl x5), (6, .inl x6), (7, .inl x7), (8, .inl x8)] → Rp b0 D E G H → SS b0 s H locs → d_X9_sendBy x0 x1 x2 x3 x4 x5 x6 x7 x8 G = some (rr, GG) → W p l e (rmd 1 (0) (0)) s m args below meth c H locs (0) (0) (MQ below (CQ b0 D E (some (.int rr)) GG) args s (0) (0) (fun q => b0 ≤ q)) (F0 m 0 ls []) := by
  intro hL hR hS hd
  unfold d_X9_sendBy at hd
  have hx := C.1
  have hb := C.2.1
  refine x_iload_n C dX9_sendBy_0 hL 2 rfl ?_
  refine lv_iconst (v := (-1)) hx hb dX9_sendBy_1 (by decide) ?_
  refine lv_icmp_eq (tgt := 25) hx hb dX9_sendBy_2 (by decide) (fun c1 => ?_) (fun c1 => ?_)
  · rw [if_pos c1] at hd
    refine lv_iconst (v := 0) hx hb dX9_sendBy_25 (by decide) ?_
    cases hd
    exact r_zret C (by decide) dX9_sendBy_26 hR hS
  · rw [if_neg c1] at hd
    refine x_aload_n C dX9_sendBy_5 hL 0 rfl ?_
    obtain ⟨g2, hd⟩ := gd_ex hd
    refine r_getr (ci := 9) (k := 23) C fl_X9_57 rfl dX9_sendBy_6 hR g2 ?_
    refine x_iload_n C dX9_sendBy_9 hL 2 rfl ?_
    obtain ⟨g3, hd⟩ := gd_ex hd
    refine r_iald C dX9_sendBy_10 hR g3 ?_
    refine lv_iconst (v := (-1)) hx hb dX9_sendBy_11 (by decide) ?_
    refine lv_icmp_eq (tgt := 25) hx hb dX9_sendBy_12 (by decide) (fun c4 => ?_) (fun c4 => ?_)
    · rw [if_pos c4] at hd
      refine lv_iconst (v := 0) hx hb dX9_sendBy_25 (by decide) ?_
      cases hd
      exact r_zret C (by decide) dX9_sendBy_26 hR hS
    · rw [if_neg c4] at hd
      refine x_aload_n C dX9_sendBy_15 hL 0 rfl ?_
      refine r_getr (ci := 9) (k := 24) C fl_X9_60 rfl dX9_sendBy_16 hR g2 ?_
      refine x_iload_n C dX9_sendBy_19 hL 2 rfl ?_
      obtain ⟨g5, hd⟩ := gd_ex hd
      refine r_iald C dX9_sendBy_20 hR g5 ?_
      refine lv_iconst (v := (-1)) hx hb dX9_sendBy_21 (by decide) ?_
      refine lv_icmp_ne (tgt := 27) hx hb dX9_sendBy_22 (by decide) (fun c6 => ?_) (fun c6 => ?_)
      · rw [if_neg c6] at hd
        refine x_aload_n C dX9_sendBy_27 hL 0 rfl ?_
        refine x_aload_n C dX9_sendBy_28 hL 0 rfl ?_
        refine r_getr (ci := 9) (k := 8) C fl_X9_7 rfl dX9_sendBy_29 hR g2 ?_
        refine lv_iconst (v := 4) hx hb dX9_sendBy_32 (by decide) ?_
        refine x_iload_n C dX9_sendBy_33 hL 1 rfl ?_
        refine lv_imul hx hb dX9_sendBy_34 ?_
        refine x_aload_n C dX9_sendBy_35 hL 0 rfl ?_
        refine r_getr (ci := 9) (k := 23) C fl_X9_57 rfl dX9_sendBy_36 hR g2 ?_
        refine x_iload_n C dX9_sendBy_39 hL 2 rfl ?_
        obtain ⟨g7, hd⟩ := gd_ex hd
        refine r_iald C dX9_sendBy_40 hR g7 ?_
        refine lv_iadd hx hb dX9_sendBy_41 ?_
        obtain ⟨g8, hd⟩ := gd_ex hd
        refine r_iald C dX9_sendBy_42 hR g8 ?_
        refine x_iload_n C dX9_sendBy_43 hL 3 rfl ?_
        refine x_iload_n C dX9_sendBy_44 hL 1 rfl ?_
        refine x_aload_n C dX9_sendBy_45 hL 0 rfl ?_
        refine r_getr (ci := 9) (k := 24) C fl_X9_60 rfl dX9_sendBy_46 hR g2 ?_
        refine x_iload_n C dX9_sendBy_49 hL 2 rfl ?_
        obtain ⟨g9, hd⟩ := gd_ex hd
        refine r_iald C dX9_sendBy_50 hR g9 ?_
        refine x_iload C dX9_sendBy_51 hL 4 rfl ?_
        refine x_iload C dX9_sendBy_53 hL 5 rfl ?_
        refine x_iload C dX9_sendBy_55 hL 6 rfl ?_
        refine x_iload C dX9_sendBy_57 hL 7 rfl ?_
        refine x_iload C dX9_sendBy_59 hL 8 rfl ?_
        obtain ⟨v11, G12, h10, hd⟩ := b2_ex hd
        refine r_callV (a := x0) (ci := 9) (As := [.int ((hi G ((hr G x0 8)) ((((4 * x1)) + ((hi G ((hr G x0 23)) x2.toNatClampNeg)))).toNatClampNeg)), .int x3, .int x1, .int ((hi G ((hr G x0 24)) x2.toNatClampNeg)), .int x4, .int x5, .int x6, .int x7, .int x8]) C (ct_X9_put h10) mf_X9_put ml_X9_238 mv_X9_put rfl ⟨Nat.le_of_ble_eq_true rfl, Nat.le_of_ble_eq_true rfl⟩ dX9_sendBy_61 (lx_size hL) rfl hR hS g2 ⟨Nat.le_refl _, Nat.le_refl _⟩ (cat_le [] (Nat.le_of_ble_eq_true rfl)) (fun H locs hR hS => ?_)
        refine W_st (st2 := [.int v11]) rfl ?_
        obtain ⟨g13, hd⟩ := gd_ex hd
        cases hd
        exact r_zret C g13 dX9_sendBy_64 hR hS
      · rw [if_pos c6] at hd
        refine lv_iconst (v := 0) hx hb dX9_sendBy_25 (by decide) ?_
        cases hd
        exact r_zret C (by decide) dX9_sendBy_26 hR hS
end
set_option maxHeartbeats 4000000 in
set_option maxRecDepth 100000 in
theorem ct_X9_sendBy {l : Launch} {b0 : Nat} {D : va_G} {E : Nat → ClassId} {G : Hp} {a0 : Nat} {a1 : Int32} {a2 : Int32} {a3 : Int32} {a4 : Int32} {a5 : Int32} {a6 : Int32} {a7 : Int32} {a8 : Int32} {rr : Int32} {GG : Hp} (hd : d_X9_sendBy a0 a1 a2 a3 a4 a5 a6 a7 a8 G = some (rr, GG)) : CT l yX9_sendBy cX9_sendBy 9 (some .boolean) 1 0 0 b0 D E [rv a0, .int a1, .int a2, .int a3, .int a4, .int a5, .int a6, .int a7, .int a8] G (some (.int rr)) GG := by
  refine CT_of (by decide +kernel) ?_
  intro p e s m below meth c C hnm hR
  refine r_entry [.inr a0, .inl a1, .inl a2, .inl a3, .inl a4, .inl a5, .inl a6, .inl a7, .inl a8] (n := 9) (Nat.le_of_ble_eq_true rfl) (lv := [(0, .inr a0), (1, .inl a1), (2, .inl a2), (3, .inl a3), (4, .inl a4), (5, .inl a5), (6, .inl a6), (7, .inl a7), (8, .inl a8)]) rfl (fun ls hL => ?_)
  exact k_X9_sendBy C (lx_sub hL [0, 1, 2, 3, 4, 5, 6, 7, 8] rfl) hR ⟨fun _ _ => rfl, fun _ h => by cases h⟩ hd

/-! GroveWorksModel.sendTunnel(IIIII)V -/
theorem dX9_sendTunnel_0 : decode cX9_sendTunnel 0 = .ok (.aload_n 0, 1) := by decide +kernel
theorem dX9_sendTunnel_1 : decode cX9_sendTunnel 1 = .ok (.iload_n 1, 1) := by decide +kernel
theorem dX9_sendTunnel_2 : decode cX9_sendTunnel 2 = .ok (.aload_n 0, 1) := by decide +kernel
theorem dX9_sendTunnel_3 : decode cX9_sendTunnel 3 = .ok (.iload_n 1, 1) := by decide +kernel
theorem dX9_sendTunnel_4 : decode cX9_sendTunnel 4 = .ok (.iload_n 2, 1) := by decide +kernel
theorem dX9_sendTunnel_5 : decode cX9_sendTunnel 5 = .ok (.invokevirtual 194, 3) := by decide +kernel
theorem dX9_sendTunnel_8 : decode cX9_sendTunnel 8 = .ok (.bipush 9, 2) := by decide +kernel
theorem dX9_sendTunnel_10 : decode cX9_sendTunnel 10 = .ok (.iload_n 2, 1) := by decide +kernel
theorem dX9_sendTunnel_11 : decode cX9_sendTunnel 11 = .ok (.iload_n 3, 1) := by decide +kernel
theorem dX9_sendTunnel_12 : decode cX9_sendTunnel 12 = .ok (.iload 4, 2) := by decide +kernel
theorem dX9_sendTunnel_14 : decode cX9_sendTunnel 14 = .ok (.iload_n 1, 1) := by decide +kernel
theorem dX9_sendTunnel_15 : decode cX9_sendTunnel 15 = .ok (.bipush 16, 2) := by decide +kernel
theorem dX9_sendTunnel_17 : decode cX9_sendTunnel 17 = .ok (.iload 5, 2) := by decide +kernel
theorem dX9_sendTunnel_19 : decode cX9_sendTunnel 19 = .ok (.imul, 1) := by decide +kernel
theorem dX9_sendTunnel_20 : decode cX9_sendTunnel 20 = .ok (.iadd, 1) := by decide +kernel
theorem dX9_sendTunnel_21 : decode cX9_sendTunnel 21 = .ok (.bipush 16, 2) := by decide +kernel
theorem dX9_sendTunnel_23 : decode cX9_sendTunnel 23 = .ok (.invokevirtual 248, 3) := by decide +kernel
theorem dX9_sendTunnel_26 : decode cX9_sendTunnel 26 = .ok (.ifCond .eq 13, 3) := by decide +kernel
theorem dX9_sendTunnel_29 : decode cX9_sendTunnel 29 = .ok (.aload_n 0, 1) := by decide +kernel
theorem dX9_sendTunnel_30 : decode cX9_sendTunnel 30 = .ok (.dup, 1) := by decide +kernel
theorem dX9_sendTunnel_31 : decode cX9_sendTunnel 31 = .ok (.getfield 252, 3) := by decide +kernel
theorem dX9_sendTunnel_34 : decode cX9_sendTunnel 34 = .ok (.iconst 1, 1) := by decide +kernel
theorem dX9_sendTunnel_35 : decode cX9_sendTunnel 35 = .ok (.iadd, 1) := by decide +kernel
theorem dX9_sendTunnel_36 : decode cX9_sendTunnel 36 = .ok (.putfield 252, 3) := by decide +kernel
theorem dX9_sendTunnel_39 : decode cX9_sendTunnel 39 = .ok (.return_, 1) := by decide +kernel
def d_X9_sendTunnel (x0 : Nat) (x1 : Int32) (x2 : Int32) (x3 : Int32) (x4 : Int32) (x5 : Int32) (G : Hp) : Option (Hp) :=
  gd (hc G x0 = 10) <|
  b2 (d_X9_toMeeting x0 x1 x2 G) fun v3 G4 =>
  gd (hc G4 x0 = 10) <|
  b2 (d_X9_sendBy x0 x1 v3 9 x2 x3 x4 ((x1 + ((16 * x5)))) 16 G4) fun v7 G8 =>
  if v7 = 0 then
    some G8
  else
    gd (hc G8 x0 = 10) <|
    bd (sI G8 x0 6 ((((hi G8 x0 6)) + 1))) fun G11 =>
    some G11
section
variable {p : Program} {l : Launch} {e : Env} {s : State} {m : MethodId} {args : Array Value} {below : List Frame} {meth : Method} {c : Code} {b0 : Nat} {D : va_G} {E : Nat → ClassId}
set_option maxHeartbeats 4000000 in
set_option maxRecDepth 100000 in
theorem k_X9_sendTunnel (C : Cx p s m args meth c RX9 cX9_sendTunnel 6 none b0 D E) {GG : Hp} {x0 : Nat} {x1 : Int32} {x2 : Int32} {x3 : Int32} {x4 : Int32} {x5 : Int32} {G : Hp} {ls : Array Slot} {H : Heap} {locs : List Loc} : lx ls 6 [(0, .inr x0), (1, .inl x1), (2, .inl x2), (3, .inl x3), (4, .inl x4), (5, .inl x5)] → Rp b0 D E G H → SS b0 s H locs → d_X9_sendTunnel x0 x1 x2 x3 x4 x5 G = some GG → W p l e (rmd 5 (0) (0)) s m args below meth c H locs (0) (0) (MQ below (CQ b0 D E none GG) args s (0) (0) (fun q => b0 ≤ q)) (F0 m 0 ls []) := by
  intro hL hR hS hd
  unfold d_X9_sendTunnel at hd
  have hx := C.1
  have hb := C.2.1
  refine x_aload_n C dX9_sendTunnel_0 hL 0 rfl ?_
  refine x_iload_n C dX9_sendTunnel_1 hL 1 rfl ?_
  refine x_aload_n C dX9_sendTunnel_2 hL 0 rfl ?_
  refine x_iload_n C dX9_sendTunnel_3 hL 1 rfl ?_
  refine x_iload_n C dX9_sendTunnel_4 hL 2 rfl ?_
  obtain ⟨g1, hd⟩ := gd_ex hd
  obtain ⟨v3, G4, h2, hd⟩ := b2_ex hd
  refine r_callV (a := x0) (ci := 9) (As := [.int x1, .int x2]) C (ct_X9_toMeeting h2) mf_X9_toMeeting ml_X9_194 mv_X9_toMeeting rfl ⟨Nat.le_of_ble_eq_true rfl, Nat.le_of_ble_eq_true rfl⟩ dX9_sendTunnel_5 (lx_size hL) rfl hR hS g1 ⟨Nat.le_refl _, Nat.le_refl _⟩ (cat_le [.inl x1, .inr x0] (Nat.le_of_ble_eq_true rfl)) (fun H locs hR hS => ?_)
  refine W_st (st2 := [.int v3, .int x1, rv x0]) rfl ?_
  refine lv_bipush (v := 9) hx hb dX9_sendTunnel_8 (by decide) ?_
  refine x_iload_n C dX9_sendTunnel_10 hL 2 rfl ?_
  refine x_iload_n C dX9_sendTunnel_11 hL 3 rfl ?_
  refine x_iload C dX9_sendTunnel_12 hL 4 rfl ?_
  refine x_iload_n C dX9_sendTunnel_14 hL 1 rfl ?_
  refine lv_bipush (v := 16) hx hb dX9_sendTunnel_15 (by decide) ?_
  refine x_iload C dX9_sendTunnel_17 hL 5 rfl ?_
  refine lv_imul hx hb dX9_sendTunnel_19 ?_
  refine lv_iadd hx hb dX9_sendTunnel_20 ?_
  refine lv_bipush (v := 16) hx hb dX9_sendTunnel_21 (by decide) ?_
  obtain ⟨g5, hd⟩ := gd_ex hd
  obtain ⟨v7, G8, h6, hd⟩ := b2_ex hd
  refine r_callV (a := x0) (ci := 9) (As := [.int x1, .int v3, .int 9, .int x2, .int x3, .int x4, .int ((x1 + ((16 * x5)))), .int 16]) C (ct_X9_sendBy h6) mf_X9_sendBy ml_X9_248 mv_X9_sendBy rfl ⟨Nat.le_of_ble_eq_true rfl, Nat.le_of_ble_eq_true rfl⟩ dX9_sendTunnel_23 (lx_size hL) rfl hR hS g5 ⟨Nat.le_refl _, Nat.le_refl _⟩ (cat_le [] (Nat.le_of_ble_eq_true rfl)) (fun H locs hR hS => ?_)
  refine W_st (st2 := [.int v7]) rfl ?_
  refine lv_if_eq (tgt := 39) hx hb dX9_sendTunnel_26 (by decide) (fun c9 => ?_) (fun c9 => ?_)
  · rw [if_pos c9] at hd
    cases hd
    exact r_vret C dX9_sendTunnel_39 hR hS
  · rw [if_neg c9] at hd
    refine x_aload_n C dX9_sendTunnel_29 hL 0 rfl ?_
    refine lv_dup hx hb dX9_sendTunnel_30 (rv_cat _) ?_
    obtain ⟨g10, hd⟩ := gd_ex hd
    refine r_geti (ci := 9) (k := 6) C fl_X9_252 rfl dX9_sendTunnel_31 hR g10 ?_
    refine lv_iconst (v := 1) hx hb dX9_sendTunnel_34 (by decide) ?_
    refine lv_iadd hx hb dX9_sendTunnel_35 ?_
    obtain ⟨G11, eG11, hd⟩ := bd_ex hd
    refine r_puti (ci := 9) (k := 6) C fl_X9_252 rfl (Or.inl rfl) dX9_sendTunnel_36 hR hS g10 (fun H locs hR hS => ?_)
    replace hR : Rp b0 D E G11 H := by rw [eG11]; exact hR
    cases hd
    exact r_vret C dX9_sendTunnel_39 hR hS
end
set_option maxHeartbeats 4000000 in
set_option maxRecDepth 100000 in
theorem ct_X9_sendTunnel {l : Launch} {b0 : Nat} {D : va_G} {E : Nat → ClassId} {G : Hp} {a0 : Nat} {a1 : Int32} {a2 : Int32} {a3 : Int32} {a4 : Int32} {a5 : Int32} {GG : Hp} (hd : d_X9_sendTunnel a0 a1 a2 a3 a4 a5 G = some GG) : CT l yX9_sendTunnel cX9_sendTunnel 6 none 5 0 0 b0 D E [rv a0, .int a1, .int a2, .int a3, .int a4, .int a5] G none GG := by
  refine CT_of (by decide +kernel) ?_
  intro p e s m below meth c C hnm hR
  refine r_entry [.inr a0, .inl a1, .inl a2, .inl a3, .inl a4, .inl a5] (n := 6) (Nat.le_of_ble_eq_true rfl) (lv := [(0, .inr a0), (1, .inl a1), (2, .inl a2), (3, .inl a3), (4, .inl a4), (5, .inl a5)]) rfl (fun ls hL => ?_)
  exact k_X9_sendTunnel C (lx_sub hL [0, 1, 2, 3, 4, 5] rfl) hR ⟨fun _ _ => rfl, fun _ h => by cases h⟩ hd

/-! GroveWorksModel.sendStop(IIIII)V -/
theorem dX9_sendStop_0 : decode cX9_sendStop 0 = .ok (.aload_n 0, 1) := by decide +kernel
theorem dX9_sendStop_1 : decode cX9_sendStop 1 = .ok (.invokevirtual 157, 3) := by decide +kernel
theorem dX9_sendStop_4 : decode cX9_sendStop 4 = .ok (.aload_n 0, 1) := by decide +kernel
theorem dX9_sendStop_5 : decode cX9_sendStop 5 = .ok (.iload_n 1, 1) := by decide +kernel
theorem dX9_sendStop_6 : decode cX9_sendStop 6 = .ok (.bipush 26, 2) := by decide +kernel
theorem dX9_sendStop_8 : decode cX9_sendStop 8 = .ok (.iload_n 1, 1) := by decide +kernel
theorem dX9_sendStop_9 : decode cX9_sendStop 9 = .ok (.imul, 1) := by decide +kernel
theorem dX9_sendStop_10 : decode cX9_sendStop 10 = .ok (.iload_n 2, 1) := by decide +kernel
theorem dX9_sendStop_11 : decode cX9_sendStop 11 = .ok (.iadd, 1) := by decide +kernel
theorem dX9_sendStop_12 : decode cX9_sendStop 12 = .ok (.bipush 10, 2) := by decide +kernel
theorem dX9_sendStop_14 : decode cX9_sendStop 14 = .ok (.iload_n 3, 1) := by decide +kernel
theorem dX9_sendStop_15 : decode cX9_sendStop 15 = .ok (.iload 4, 2) := by decide +kernel
theorem dX9_sendStop_17 : decode cX9_sendStop 17 = .ok (.iconst 0, 1) := by decide +kernel
theorem dX9_sendStop_18 : decode cX9_sendStop 18 = .ok (.iload_n 2, 1) := by decide +kernel
theorem dX9_sendStop_19 : decode cX9_sendStop 19 = .ok (.iload 5, 2) := by decide +kernel
theorem dX9_sendStop_21 : decode cX9_sendStop 21 = .ok (.invokevirtual 248, 3) := by decide +kernel
theorem dX9_sendStop_24 : decode cX9_sendStop 24 = .ok (.pop, 1) := by decide +kernel
theorem dX9_sendStop_25 : decode cX9_sendStop 25 = .ok (.return_, 1) := by decide +kernel
def d_X9_sendStop (x0 : Nat) (x1 : Int32) (x2 : Int32) (x3 : Int32) (x4 : Int32) (x5 : Int32) (G : Hp) : Option (Hp) :=
  gd (hc G x0 = 10) <|
  bo (d_X9_reckon x0 G) fun G3 =>
  gd (hc G3 x0 = 10) <|
  b2 (d_X9_sendBy x0 x1 ((((26 * x1)) + x2)) 10 x3 x4 0 x2 x5 G3) fun v6 G7 =>
  some G7
section
variable {p : Program} {l : Launch} {e : Env} {s : State} {m : MethodId} {args : Array Value} {below : List Frame} {meth : Method} {c : Code} {b0 : Nat} {D : va_G} {E : Nat → ClassId}
set_option maxHeartbeats 4000000 in
set_option maxRecDepth 100000 in
theorem k_X9_sendStop (C : Cx p s m args meth c RX9 cX9_sendStop 6 none b0 D E) {GG : Hp} {x0 : Nat} {x1 : Int32} {x2 : Int32} {x3 : Int32} {x4 : Int32} {x5 : Int32} {G : Hp} {ls : Array Slot} {H : Heap} {locs : List Loc} : lx ls 6 [(0, .inr x0), (1, .inl x1), (2, .inl x2), (3, .inl x3), (4, .inl x4), (5, .inl x5)] → Rp b0 D E G H → SS b0 s H locs → d_X9_sendStop x0 x1 x2 x3 x4 x5 G = some GG → W p l e (rmd 4 (0) (0)) s m args below meth c H locs (0) (0) (MQ below (CQ b0 D E none GG) args s (0) (0) (fun q => b0 ≤ q)) (F0 m 0 ls []) := by
  intro hL hR hS hd
  unfold d_X9_sendStop at hd
  have hx := C.1
  have hb := C.2.1
  refine x_aload_n C dX9_sendStop_0 hL 0 rfl ?_
  obtain ⟨g1, hd⟩ := gd_ex hd
  obtain ⟨G3, h2, hd⟩ := bo_ex hd
  refine r_callV (a := x0) (ci := 9) (As := []) C (ct_X9_reckon h2) mf_X9_reckon ml_X9_157 mv_X9_reckon rfl ⟨Nat.le_of_ble_eq_true rfl, Nat.le_of_ble_eq_true rfl⟩ dX9_sendStop_1 (lx_size hL) rfl hR hS g1 ⟨Nat.le_refl _, Nat.le_refl _⟩ (cat_le [] (Nat.le_of_ble_eq_true rfl)) (fun H locs hR hS => ?_)
  refine W_st (st2 := []) rfl ?_
  refine x_aload_n C dX9_sendStop_4 hL 0 rfl ?_
  refine x_iload_n C dX9_sendStop_5 hL 1 rfl ?_
  refine lv_bipush (v := 26) hx hb dX9_sendStop_6 (by decide) ?_
  refine x_iload_n C dX9_sendStop_8 hL 1 rfl ?_
  refine lv_imul hx hb dX9_sendStop_9 ?_
  refine x_iload_n C dX9_sendStop_10 hL 2 rfl ?_
  refine lv_iadd hx hb dX9_sendStop_11 ?_
  refine lv_bipush (v := 10) hx hb dX9_sendStop_12 (by decide) ?_
  refine x_iload_n C dX9_sendStop_14 hL 3 rfl ?_
  refine x_iload C dX9_sendStop_15 hL 4 rfl ?_
  refine lv_iconst (v := 0) hx hb dX9_sendStop_17 (by decide) ?_
  refine x_iload_n C dX9_sendStop_18 hL 2 rfl ?_
  refine x_iload C dX9_sendStop_19 hL 5 rfl ?_
  obtain ⟨g4, hd⟩ := gd_ex hd
  obtain ⟨v6, G7, h5, hd⟩ := b2_ex hd
  refine r_callV (a := x0) (ci := 9) (As := [.int x1, .int ((((26 * x1)) + x2)), .int 10, .int x3, .int x4, .int 0, .int x2, .int x5]) C (ct_X9_sendBy h5) mf_X9_sendBy ml_X9_248 mv_X9_sendBy rfl ⟨Nat.le_of_ble_eq_true rfl, Nat.le_of_ble_eq_true rfl⟩ dX9_sendStop_21 (lx_size hL) rfl hR hS g4 ⟨Nat.le_refl _, Nat.le_refl _⟩ (cat_le [] (Nat.le_of_ble_eq_true rfl)) (fun H locs hR hS => ?_)
  refine W_st (st2 := [.int v6]) rfl ?_
  refine lv_pop hx hb dX9_sendStop_24 rfl ?_
  cases hd
  exact r_vret C dX9_sendStop_25 hR hS
end
set_option maxHeartbeats 4000000 in
set_option maxRecDepth 100000 in
theorem ct_X9_sendStop {l : Launch} {b0 : Nat} {D : va_G} {E : Nat → ClassId} {G : Hp} {a0 : Nat} {a1 : Int32} {a2 : Int32} {a3 : Int32} {a4 : Int32} {a5 : Int32} {GG : Hp} (hd : d_X9_sendStop a0 a1 a2 a3 a4 a5 G = some GG) : CT l yX9_sendStop cX9_sendStop 6 none 4 0 0 b0 D E [rv a0, .int a1, .int a2, .int a3, .int a4, .int a5] G none GG := by
  refine CT_of (by decide +kernel) ?_
  intro p e s m below meth c C hnm hR
  refine r_entry [.inr a0, .inl a1, .inl a2, .inl a3, .inl a4, .inl a5] (n := 6) (Nat.le_of_ble_eq_true rfl) (lv := [(0, .inr a0), (1, .inl a1), (2, .inl a2), (3, .inl a3), (4, .inl a4), (5, .inl a5)]) rfl (fun ls hL => ?_)
  exact k_X9_sendStop C (lx_sub hL [0, 1, 2, 3, 4, 5] rfl) hR ⟨fun _ _ => rfl, fun _ h => by cases h⟩ hd

/-! GroveWorksModel.left(III)V -/
theorem dX9_left_0 : decode cX9_left 0 = .ok (.aload_n 0, 1) := by decide +kernel
theorem dX9_left_1 : decode cX9_left 1 = .ok (.iload_n 1, 1) := by decide +kernel
theorem dX9_left_2 : decode cX9_left 2 = .ok (.iload_n 2, 1) := by decide +kernel
theorem dX9_left_3 : decode cX9_left 3 = .ok (.iload_n 3, 1) := by decide +kernel
theorem dX9_left_4 : decode cX9_left 4 = .ok (.invokevirtual 182, 3) := by decide +kernel
theorem dX9_left_7 : decode cX9_left 7 = .ok (.ifCond .eq 12, 3) := by decide +kernel
theorem dX9_left_10 : decode cX9_left 10 = .ok (.aload_n 0, 1) := by decide +kernel
theorem dX9_left_11 : decode cX9_left 11 = .ok (.iload_n 1, 1) := by decide +kernel
theorem dX9_left_12 : decode cX9_left 12 = .ok (.iload_n 2, 1) := by decide +kernel
theorem dX9_left_13 : decode cX9_left 13 = .ok (.invokevirtual 284, 3) := by decide +kernel
theorem dX9_left_16 : decode cX9_left 16 = .ok (.ifCond .ne 4, 3) := by decide +kernel
theorem dX9_left_19 : decode cX9_left 19 = .ok (.return_, 1) := by decide +kernel
theorem dX9_left_20 : decode cX9_left 20 = .ok (.bipush 8, 2) := by decide +kernel
theorem dX9_left_22 : decode cX9_left 22 = .ok (.iconst 4, 1) := by decide +kernel
theorem dX9_left_23 : decode cX9_left 23 = .ok (.iload_n 1, 1) := by decide +kernel
theorem dX9_left_24 : decode cX9_left 24 = .ok (.imul, 1) := by decide +kernel
theorem dX9_left_25 : decode cX9_left 25 = .ok (.iload_n 2, 1) := by decide +kernel
theorem dX9_left_26 : decode cX9_left 26 = .ok (.iadd, 1) := by decide +kernel
theorem dX9_left_27 : decode cX9_left 27 = .ok (.imul, 1) := by decide +kernel
theorem dX9_left_28 : decode cX9_left 28 = .ok (.iload_n 3, 1) := by decide +kernel
theorem dX9_left_29 : decode cX9_left 29 = .ok (.iadd, 1) := by decide +kernel
theorem dX9_left_30 : decode cX9_left 30 = .ok (.istore 4, 2) := by decide +kernel
theorem dX9_left_32 : decode cX9_left 32 = .ok (.aload_n 0, 1) := by decide +kernel
theorem dX9_left_33 : decode cX9_left 33 = .ok (.getfield 122, 3) := by decide +kernel
theorem dX9_left_36 : decode cX9_left 36 = .ok (.iconst 4, 1) := by decide +kernel
theorem dX9_left_37 : decode cX9_left 37 = .ok (.iadd, 1) := by decide +kernel
theorem dX9_left_38 : decode cX9_left 38 = .ok (.aload_n 0, 1) := by decide +kernel
theorem dX9_left_39 : decode cX9_left 39 = .ok (.getfield 72, 3) := by decide +kernel
theorem dX9_left_42 : decode cX9_left 42 = .ok (.iload 4, 2) := by decide +kernel
theorem dX9_left_44 : decode cX9_left 44 = .ok (.iaload, 1) := by decide +kernel
theorem dX9_left_45 : decode cX9_left 45 = .ok (.if_icmp .ge 16, 3) := by decide +kernel
theorem dX9_left_48 : decode cX9_left 48 = .ok (.aload_n 0, 1) := by decide +kernel
theorem dX9_left_49 : decode cX9_left 49 = .ok (.getfield 72, 3) := by decide +kernel
theorem dX9_left_52 : decode cX9_left 52 = .ok (.iload 4, 2) := by decide +kernel
theorem dX9_left_54 : decode cX9_left 54 = .ok (.aload_n 0, 1) := by decide +kernel
theorem dX9_left_55 : decode cX9_left 55 = .ok (.getfield 122, 3) := by decide +kernel
theorem dX9_left_58 : decode cX9_left 58 = .ok (.iconst 4, 1) := by decide +kernel
theorem dX9_left_59 : decode cX9_left 59 = .ok (.iadd, 1) := by decide +kernel
theorem dX9_left_60 : decode cX9_left 60 = .ok (.iastore, 1) := by decide +kernel
theorem dX9_left_61 : decode cX9_left 61 = .ok (.aload_n 0, 1) := by decide +kernel
theorem dX9_left_62 : decode cX9_left 62 = .ok (.aload_n 0, 1) := by decide +kernel
theorem dX9_left_63 : decode cX9_left 63 = .ok (.getfield 7, 3) := by decide +kernel
theorem dX9_left_66 : decode cX9_left 66 = .ok (.iconst 4, 1) := by decide +kernel
theorem dX9_left_67 : decode cX9_left 67 = .ok (.iload_n 1, 1) := by decide +kernel
theorem dX9_left_68 : decode cX9_left 68 = .ok (.imul, 1) := by decide +kernel
theorem dX9_left_69 : decode cX9_left 69 = .ok (.iload_n 2, 1) := by decide +kernel
theorem dX9_left_70 : decode cX9_left 70 = .ok (.iadd, 1) := by decide +kernel
theorem dX9_left_71 : decode cX9_left 71 = .ok (.iaload, 1) := by decide +kernel
theorem dX9_left_72 : decode cX9_left 72 = .ok (.iconst 2, 1) := by decide +kernel
theorem dX9_left_73 : decode cX9_left 73 = .ok (.iload_n 1, 1) := by decide +kernel
theorem dX9_left_74 : decode cX9_left 74 = .ok (.iconst (-1), 1) := by decide +kernel
theorem dX9_left_75 : decode cX9_left 75 = .ok (.iload_n 3, 1) := by decide +kernel
theorem dX9_left_76 : decode cX9_left 76 = .ok (.iconst (-1), 1) := by decide +kernel
theorem dX9_left_77 : decode cX9_left 77 = .ok (.iconst 0, 1) := by decide +kernel
theorem dX9_left_78 : decode cX9_left 78 = .ok (.iconst 0, 1) := by decide +kernel
theorem dX9_left_79 : decode cX9_left 79 = .ok (.iconst 0, 1) := by decide +kernel
theorem dX9_left_80 : decode cX9_left 80 = .ok (.invokevirtual 238, 3) := by decide +kernel
theorem dX9_left_83 : decode cX9_left 83 = .ok (.pop, 1) := by decide +kernel
theorem dX9_left_84 : decode cX9_left 84 = .ok (.return_, 1) := by decide +kernel
def d_X9_left_61 (x0 : Nat) (x1 : Int32) (x2 : Int32) (x3 : Int32) (G : Hp) : Option (Hp) :=
  gd (hc G x0 = 10) <|
  gd (hc G ((hr G x0 8)) = 11 ∧ ix ((((4 * x1)) + x2)) (hl G ((hr G x0 8)))) <|
  b2 (d_X9_put x0 ((hi G ((hr G x0 8)) ((((4 * x1)) + x2)).toNatClampNeg)) 2 x1 (-1) x3 (-1) 0 0 0 G) fun v4 G5 =>
  some G5
def d_X9_left (x0 : Nat) (x1 : Int32) (x2 : Int32) (x3 : Int32) (G : Hp) : Option (Hp) :=
  gd (hc G x0 = 10) <|
  bo (d_X9_hasMembers x0 x1 x2 x3 G) fun v3 =>
  if v3 = 0 then
    some G
  else
    bo (d_X9_isAsking x0 x1 x2 G) fun v6 =>
    if v6 = 0 then
      some G
    else
      bd ((((8 * ((((4 * x1)) + x2)))) + x3)) fun v8 =>
      gd (hc G ((hr G x0 28)) = 11 ∧ ix v8 (hl G ((hr G x0 28)))) <|
      if ((hi G ((hr G x0 28)) v8.toNatClampNeg)) ≤ ((((hi G x0 0)) + 4)) then
        d_X9_left_61 x0 x1 x2 x3 G
      else
        gd (hc G ((hr G x0 28)) = 11 ∧ ix v8 (hl G ((hr G x0 28)))) <|
        bd (sI G ((hr G x0 28)) v8.toNatClampNeg ((((hi G x0 0)) + 4))) fun G12 =>
        d_X9_left_61 x0 x1 x2 x3 G12
section
variable {p : Program} {l : Launch} {e : Env} {s : State} {m : MethodId} {args : Array Value} {below : List Frame} {meth : Method} {c : Code} {b0 : Nat} {D : va_G} {E : Nat → ClassId}
set_option maxHeartbeats 4000000 in
set_option maxRecDepth 100000 in
theorem k_X9_left_61 (C : Cx p s m args meth c RX9 cX9_left 5 none b0 D E) {GG : Hp} {x0 : Nat} {x1 : Int32} {x2 : Int32} {x3 : Int32} {G : Hp} {ls : Array Slot} {H : Heap} {locs : List Loc} : lx ls 5 [(0, .inr x0), (1, .inl x1), (2, .inl x2), (3, .inl x3)] → Rp b0 D E G H → SS b0 s H locs → d_X9_left_61 x0 x1 x2 x3 G = some GG → W p l e (rmd 3 (0) (0)) s m args below meth c H locs (0) (0) (MQ below (CQ b0 D E none GG) args s (0) (0) (fun q => b0 ≤ q)) (F0 m 61 ls []) := by
  intro hL hR hS hd
  unfold d_X9_left_61 at hd
  have hx := C.1
  have hb := C.2.1
  refine x_aload_n C dX9_left_61 hL 0 rfl ?_
  refine x_aload_n C dX9_left_62 hL 0 rfl ?_
  obtain ⟨g1, hd⟩ := gd_ex hd
  refine r_getr (ci := 9) (k := 8) C fl_X9_7 rfl dX9_left_63 hR g1 ?_
  refine lv_iconst (v := 4) hx hb dX9_left_66 (by decide) ?_
  refine x_iload_n C dX9_left_67 hL 1 rfl ?_
  refine lv_imul hx hb dX9_left_68 ?_
  refine x_iload_n C dX9_left_69 hL 2 rfl ?_
  refine lv_iadd hx hb dX9_left_70 ?_
  obtain ⟨g2, hd⟩ := gd_ex hd
  refine r_iald C dX9_left_71 hR g2 ?_
  refine lv_iconst (v := 2) hx hb dX9_left_72 (by decide) ?_
  refine x_iload_n C dX9_left_73 hL 1 rfl ?_
  refine lv_iconst (v := (-1)) hx hb dX9_left_74 (by decide) ?_
  refine x_iload_n C dX9_left_75 hL 3 rfl ?_
  refine lv_iconst (v := (-1)) hx hb dX9_left_76 (by decide) ?_
  refine lv_iconst (v := 0) hx hb dX9_left_77 (by decide) ?_
  refine lv_iconst (v := 0) hx hb dX9_left_78 (by decide) ?_
  refine lv_iconst (v := 0) hx hb dX9_left_79 (by decide) ?_
  obtain ⟨v4, G5, h3, hd⟩ := b2_ex hd
  refine r_callV (a := x0) (ci := 9) (As := [.int ((hi G ((hr G x0 8)) ((((4 * x1)) + x2)).toNatClampNeg)), .int 2, .int x1, .int (-1), .int x3, .int (-1), .int 0, .int 0, .int 0]) C (ct_X9_put h3) mf_X9_put ml_X9_238 mv_X9_put rfl ⟨Nat.le_of_ble_eq_true rfl, Nat.le_of_ble_eq_true rfl⟩ dX9_left_80 (lx_size hL) rfl hR hS g1 ⟨Nat.le_refl _, Nat.le_refl _⟩ (cat_le [] (Nat.le_of_ble_eq_true rfl)) (fun H locs hR hS => ?_)
  refine W_st (st2 := [.int v4]) rfl ?_
  refine lv_pop hx hb dX9_left_83 rfl ?_
  cases hd
  exact r_vret C dX9_left_84 hR hS
set_option maxHeartbeats 4000000 in
set_option maxRecDepth 100000 in
theorem k_X9_left (C : Cx p s m args meth c RX9 cX9_left 5 none b0 D E) {GG : Hp} {x0 : Nat} {x1 : Int32} {x2 : Int32} {x3 : Int32} {G : Hp} {ls : Array Slot} {H : Heap} {locs : List Loc} : lx ls 5 [(0, .inr x0), (1, .inl x1), (2, .inl x2), (3, .inl x3)] → Rp b0 D E G H → SS b0 s H locs → d_X9_left x0 x1 x2 x3 G = some GG → W p l e (rmd 3 (0) (0)) s m args below meth c H locs (0) (0) (MQ below (CQ b0 D E none GG) args s (0) (0) (fun q => b0 ≤ q)) (F0 m 0 ls []) := by
  intro hL hR hS hd
  unfold d_X9_left at hd
  have hx := C.1
  have hb := C.2.1
  refine x_aload_n C dX9_left_0 hL 0 rfl ?_
  refine x_iload_n C dX9_left_1 hL 1 rfl ?_
  refine x_iload_n C dX9_left_2 hL 2 rfl ?_
  refine x_iload_n C dX9_left_3 hL 3 rfl ?_
  obtain ⟨g1, hd⟩ := gd_ex hd
  obtain ⟨v3, h2, hd⟩ := bo_ex hd
  refine r_callV (a := x0) (ci := 9) (As := [.int x1, .int x2, .int x3]) C (ct_X9_hasMembers h2) mf_X9_hasMembers ml_X9_182 mv_X9_hasMembers rfl ⟨Nat.le_of_ble_eq_true rfl, Nat.le_of_ble_eq_true rfl⟩ dX9_left_4 (lx_size hL) rfl hR hS g1 ⟨Nat.le_refl _, Nat.le_refl _⟩ (cat_le [] (Nat.le_of_ble_eq_true rfl)) (fun H locs hR hS => ?_)
  refine W_st (st2 := [.int v3]) rfl ?_
  refine lv_if_eq (tgt := 19) hx hb dX9_left_7 (by decide) (fun c4 => ?_) (fun c4 => ?_)
  · rw [if_pos c4] at hd
    cases hd
    exact r_vret C dX9_left_19 hR hS
  · rw [if_neg c4] at hd
    refine x_aload_n C dX9_left_10 hL 0 rfl ?_
    refine x_iload_n C dX9_left_11 hL 1 rfl ?_
    refine x_iload_n C dX9_left_12 hL 2 rfl ?_
    obtain ⟨v6, h5, hd⟩ := bo_ex hd
    refine r_callV (a := x0) (ci := 9) (As := [.int x1, .int x2]) C (ct_X9_isAsking h5) mf_X9_isAsking ml_X9_284 mv_X9_isAsking rfl ⟨Nat.le_of_ble_eq_true rfl, Nat.le_of_ble_eq_true rfl⟩ dX9_left_13 (lx_size hL) rfl hR hS g1 ⟨Nat.le_refl _, Nat.le_refl _⟩ (cat_le [] (Nat.le_of_ble_eq_true rfl)) (fun H locs hR hS => ?_)
    refine W_st (st2 := [.int v6]) rfl ?_
    refine lv_if_ne (tgt := 20) hx hb dX9_left_16 (by decide) (fun c7 => ?_) (fun c7 => ?_)
    · rw [if_neg c7] at hd
      refine lv_bipush (v := 8) hx hb dX9_left_20 (by decide) ?_
      refine lv_iconst (v := 4) hx hb dX9_left_22 (by decide) ?_
      refine x_iload_n C dX9_left_23 hL 1 rfl ?_
      refine lv_imul hx hb dX9_left_24 ?_
      refine x_iload_n C dX9_left_25 hL 2 rfl ?_
      refine lv_iadd hx hb dX9_left_26 ?_
      refine lv_imul hx hb dX9_left_27 ?_
      refine x_iload_n C dX9_left_28 hL 3 rfl ?_
      refine lv_iadd hx hb dX9_left_29 ?_
      obtain ⟨v8, ev8, hd⟩ := bd_ex hd
      rw [← ev8]
      refine x_istore (lv' := [(4, .inl v8), (0, .inr x0), (1, .inl x1), (2, .inl x2), (3, .inl x3)]) C dX9_left_30 hL (by decide) rfl (fun ls hL => ?_)
      refine x_aload_n C dX9_left_32 hL 1 rfl ?_
      refine r_geti (ci := 9) (k := 0) C fl_X9_122 rfl dX9_left_33 hR g1 ?_
      refine lv_iconst (v := 4) hx hb dX9_left_36 (by decide) ?_
      refine lv_iadd hx hb dX9_left_37 ?_
      refine x_aload_n C dX9_left_38 hL 1 rfl ?_
      refine r_getr (ci := 9) (k := 28) C fl_X9_72 rfl dX9_left_39 hR g1 ?_
      refine x_iload C dX9_left_42 hL 0 rfl ?_
      obtain ⟨g9, hd⟩ := gd_ex hd
      refine r_iald C dX9_left_44 hR g9 ?_
      refine lv_icmp_ge (tgt := 61) hx hb dX9_left_45 (by decide) (fun c10 => ?_) (fun c10 => ?_)
      · rw [if_pos c10] at hd
        exact k_X9_left_61 C (lx_sub hL [1, 2, 3, 4] rfl) hR hS hd
      · rw [if_neg c10] at hd
        refine x_aload_n C dX9_left_48 hL 1 rfl ?_
        refine r_getr (ci := 9) (k := 28) C fl_X9_72 rfl dX9_left_49 hR g1 ?_
        refine x_iload C dX9_left_52 hL 0 rfl ?_
        refine x_aload_n C dX9_left_54 hL 1 rfl ?_
        refine r_geti (ci := 9) (k := 0) C fl_X9_122 rfl dX9_left_55 hR g1 ?_
        refine lv_iconst (v := 4) hx hb dX9_left_58 (by decide) ?_
        refine lv_iadd hx hb dX9_left_59 ?_
        obtain ⟨g11, hd⟩ := gd_ex hd
        obtain ⟨G12, eG12, hd⟩ := bd_ex hd
        refine r_iast C dX9_left_60 hR hS g11 (fun H locs hR hS => ?_)
        replace hR : Rp b0 D E G12 H := by rw [eG12]; exact hR
        exact k_X9_left_61 C (lx_sub hL [1, 2, 3, 4] rfl) hR hS hd
    · rw [if_pos c7] at hd
      cases hd
      exact r_vret C dX9_left_19 hR hS
end
set_option maxHeartbeats 4000000 in
set_option maxRecDepth 100000 in
theorem ct_X9_left {l : Launch} {b0 : Nat} {D : va_G} {E : Nat → ClassId} {G : Hp} {a0 : Nat} {a1 : Int32} {a2 : Int32} {a3 : Int32} {GG : Hp} (hd : d_X9_left a0 a1 a2 a3 G = some GG) : CT l yX9_left cX9_left 5 none 3 0 0 b0 D E [rv a0, .int a1, .int a2, .int a3] G none GG := by
  refine CT_of (by decide +kernel) ?_
  intro p e s m below meth c C hnm hR
  refine r_entry [.inr a0, .inl a1, .inl a2, .inl a3] (n := 5) (Nat.le_of_ble_eq_true rfl) (lv := [(0, .inr a0), (1, .inl a1), (2, .inl a2), (3, .inl a3)]) rfl (fun ls hL => ?_)
  exact k_X9_left C (lx_sub hL [0, 1, 2, 3] rfl) hR ⟨fun _ _ => rfl, fun _ h => by cases h⟩ hd

/-! GroveWorksModel.joins(IIIII)V -/
theorem dX9_joins_0 : decode cX9_joins 0 = .ok (.aload_n 0, 1) := by decide +kernel
theorem dX9_joins_1 : decode cX9_joins 1 = .ok (.iload_n 1, 1) := by decide +kernel
theorem dX9_joins_2 : decode cX9_joins 2 = .ok (.iload_n 2, 1) := by decide +kernel
theorem dX9_joins_3 : decode cX9_joins 3 = .ok (.iload_n 3, 1) := by decide +kernel
theorem dX9_joins_4 : decode cX9_joins 4 = .ok (.iload 4, 2) := by decide +kernel
theorem dX9_joins_6 : decode cX9_joins 6 = .ok (.invokevirtual 179, 3) := by decide +kernel
theorem dX9_joins_9 : decode cX9_joins 9 = .ok (.ifCond .le 7, 3) := by decide +kernel
theorem dX9_joins_12 : decode cX9_joins 12 = .ok (.iconst 1, 1) := by decide +kernel
theorem dX9_joins_13 : decode cX9_joins 13 = .ok (.goto 4, 3) := by decide +kernel
theorem dX9_joins_16 : decode cX9_joins 16 = .ok (.iconst 0, 1) := by decide +kernel
theorem dX9_joins_17 : decode cX9_joins 17 = .ok (.istore 6, 2) := by decide +kernel
theorem dX9_joins_19 : decode cX9_joins 19 = .ok (.aload_n 0, 1) := by decide +kernel
theorem dX9_joins_20 : decode cX9_joins 20 = .ok (.getfield 75, 3) := by decide +kernel
theorem dX9_joins_23 : decode cX9_joins 23 = .ok (.bipush 17, 2) := by decide +kernel
theorem dX9_joins_25 : decode cX9_joins 25 = .ok (.bipush 8, 2) := by decide +kernel
theorem dX9_joins_27 : decode cX9_joins 27 = .ok (.iconst 4, 1) := by decide +kernel
theorem dX9_joins_28 : decode cX9_joins 28 = .ok (.iload_n 1, 1) := by decide +kernel
theorem dX9_joins_29 : decode cX9_joins 29 = .ok (.imul, 1) := by decide +kernel
theorem dX9_joins_30 : decode cX9_joins 30 = .ok (.iload_n 2, 1) := by decide +kernel
theorem dX9_joins_31 : decode cX9_joins 31 = .ok (.iadd, 1) := by decide +kernel
theorem dX9_joins_32 : decode cX9_joins 32 = .ok (.imul, 1) := by decide +kernel
theorem dX9_joins_33 : decode cX9_joins 33 = .ok (.iload_n 3, 1) := by decide +kernel
theorem dX9_joins_34 : decode cX9_joins 34 = .ok (.iadd, 1) := by decide +kernel
theorem dX9_joins_35 : decode cX9_joins 35 = .ok (.imul, 1) := by decide +kernel
theorem dX9_joins_36 : decode cX9_joins 36 = .ok (.iload 4, 2) := by decide +kernel
theorem dX9_joins_38 : decode cX9_joins 38 = .ok (.iadd, 1) := by decide +kernel
theorem dX9_joins_39 : decode cX9_joins 39 = .ok (.aload_n 0, 1) := by decide +kernel
theorem dX9_joins_40 : decode cX9_joins 40 = .ok (.getfield 122, 3) := by decide +kernel
theorem dX9_joins_43 : decode cX9_joins 43 = .ok (.bipush 70, 2) := by decide +kernel
theorem dX9_joins_45 : decode cX9_joins 45 = .ok (.iadd, 1) := by decide +kernel
theorem dX9_joins_46 : decode cX9_joins 46 = .ok (.iastore, 1) := by decide +kernel
theorem dX9_joins_47 : decode cX9_joins 47 = .ok (.iload 4, 2) := by decide +kernel
theorem dX9_joins_49 : decode cX9_joins 49 = .ok (.ifCond .le 4, 3) := by decide +kernel
theorem dX9_joins_52 : decode cX9_joins 52 = .ok (.return_, 1) := by decide +kernel
theorem dX9_joins_53 : decode cX9_joins 53 = .ok (.aload_n 0, 1) := by decide +kernel
theorem dX9_joins_54 : decode cX9_joins 54 = .ok (.iload_n 1, 1) := by decide +kernel
theorem dX9_joins_55 : decode cX9_joins 55 = .ok (.iload_n 2, 1) := by decide +kernel
theorem dX9_joins_56 : decode cX9_joins 56 = .ok (.invokevirtual 287, 3) := by decide +kernel
theorem dX9_joins_59 : decode cX9_joins 59 = .ok (.ifCond .eq 12, 3) := by decide +kernel
theorem dX9_joins_62 : decode cX9_joins 62 = .ok (.aload_n 0, 1) := by decide +kernel
theorem dX9_joins_63 : decode cX9_joins 63 = .ok (.getfield 122, 3) := by decide +kernel
theorem dX9_joins_66 : decode cX9_joins 66 = .ok (.iconst 3, 1) := by decide +kernel
theorem dX9_joins_67 : decode cX9_joins 67 = .ok (.iadd, 1) := by decide +kernel
theorem dX9_joins_68 : decode cX9_joins 68 = .ok (.goto 7, 3) := by decide +kernel
theorem dX9_joins_71 : decode cX9_joins 71 = .ok (.aload_n 0, 1) := by decide +kernel
theorem dX9_joins_72 : decode cX9_joins 72 = .ok (.getfield 122, 3) := by decide +kernel
theorem dX9_joins_75 : decode cX9_joins 75 = .ok (.istore 7, 2) := by decide +kernel
theorem dX9_joins_77 : decode cX9_joins 77 = .ok (.iconst 0, 1) := by decide +kernel
theorem dX9_joins_78 : decode cX9_joins 78 = .ok (.istore 8, 2) := by decide +kernel
theorem dX9_joins_80 : decode cX9_joins 80 = .ok (.iload 8, 2) := by decide +kernel
theorem dX9_joins_82 : decode cX9_joins 82 = .ok (.bipush 16, 2) := by decide +kernel
theorem dX9_joins_84 : decode cX9_joins 84 = .ok (.if_icmp .ge 66, 3) := by decide +kernel
theorem dX9_joins_87 : decode cX9_joins 87 = .ok (.aload_n 0, 1) := by decide +kernel
theorem dX9_joins_88 : decode cX9_joins 88 = .ok (.iload_n 1, 1) := by decide +kernel
theorem dX9_joins_89 : decode cX9_joins 89 = .ok (.iload_n 2, 1) := by decide +kernel
theorem dX9_joins_90 : decode cX9_joins 90 = .ok (.iload_n 3, 1) := by decide +kernel
theorem dX9_joins_91 : decode cX9_joins 91 = .ok (.iload 8, 2) := by decide +kernel
theorem dX9_joins_93 : decode cX9_joins 93 = .ok (.invokevirtual 176, 3) := by decide +kernel
theorem dX9_joins_96 : decode cX9_joins 96 = .ok (.istore 9, 2) := by decide +kernel
theorem dX9_joins_98 : decode cX9_joins 98 = .ok (.iload 5, 2) := by decide +kernel
theorem dX9_joins_100 : decode cX9_joins 100 = .ok (.iload 8, 2) := by decide +kernel
theorem dX9_joins_102 : decode cX9_joins 102 = .ok (.ishr, 1) := by decide +kernel
theorem dX9_joins_103 : decode cX9_joins 103 = .ok (.iconst 1, 1) := by decide +kernel
theorem dX9_joins_104 : decode cX9_joins 104 = .ok (.iand, 1) := by decide +kernel
theorem dX9_joins_105 : decode cX9_joins 105 = .ok (.ifCond .ne 14, 3) := by decide +kernel
theorem dX9_joins_108 : decode cX9_joins 108 = .ok (.aload_n 0, 1) := by decide +kernel
theorem dX9_joins_109 : decode cX9_joins 109 = .ok (.getfield 78, 3) := by decide +kernel
theorem dX9_joins_112 : decode cX9_joins 112 = .ok (.iload 9, 2) := by decide +kernel
theorem dX9_joins_114 : decode cX9_joins 114 = .ok (.iconst (-1), 1) := by decide +kernel
theorem dX9_joins_115 : decode cX9_joins 115 = .ok (.iastore, 1) := by decide +kernel
theorem dX9_joins_116 : decode cX9_joins 116 = .ok (.goto 28, 3) := by decide +kernel
theorem dX9_joins_119 : decode cX9_joins 119 = .ok (.iload 6, 2) := by decide +kernel
theorem dX9_joins_121 : decode cX9_joins 121 = .ok (.ifCond .eq 14, 3) := by decide +kernel
theorem dX9_joins_124 : decode cX9_joins 124 = .ok (.aload_n 0, 1) := by decide +kernel
theorem dX9_joins_125 : decode cX9_joins 125 = .ok (.getfield 78, 3) := by decide +kernel
theorem dX9_joins_128 : decode cX9_joins 128 = .ok (.iload 9, 2) := by decide +kernel
theorem dX9_joins_130 : decode cX9_joins 130 = .ok (.iaload, 1) := by decide +kernel
theorem dX9_joins_131 : decode cX9_joins 131 = .ok (.iconst (-1), 1) := by decide +kernel
theorem dX9_joins_132 : decode cX9_joins 132 = .ok (.if_icmp .ne 12, 3) := by decide +kernel
theorem dX9_joins_135 : decode cX9_joins 135 = .ok (.aload_n 0, 1) := by decide +kernel
theorem dX9_joins_136 : decode cX9_joins 136 = .ok (.getfield 78, 3) := by decide +kernel
theorem dX9_joins_139 : decode cX9_joins 139 = .ok (.iload 9, 2) := by decide +kernel
theorem dX9_joins_141 : decode cX9_joins 141 = .ok (.iload 7, 2) := by decide +kernel
theorem dX9_joins_143 : decode cX9_joins 143 = .ok (.iastore, 1) := by decide +kernel
theorem dX9_joins_144 : decode cX9_joins 144 = .ok (.iinc 8 1, 3) := by decide +kernel
theorem dX9_joins_147 : decode cX9_joins 147 = .ok (.goto (-67), 3) := by decide +kernel
theorem dX9_joins_150 : decode cX9_joins 150 = .ok (.return_, 1) := by decide +kernel
def d_X9_joins_135 (x0 : Nat) (x1 : Int32) (x2 : Int32) (x3 : Int32) (x5 : Int32) (x6 : Int32) (x7 : Int32) (x8 : Int32) (x9 : Int32) (G : Hp) (k80 : Nat → Int32 → Int32 → Int32 → Int32 → Int32 → Int32 → Int32 → Hp → Option (Hp)) : Option (Hp) :=
  gd (hc G x0 = 10) <|
  gd (hc G ((hr G x0 30)) = 11 ∧ ix x9 (hl G ((hr G x0 30)))) <|
  bd (sI G ((hr G x0 30)) x9.toNatClampNeg x7) fun G3 =>
  k80 x0 x1 x2 x3 x5 x6 x7 ((x8 + 1)) G3
def d_X9_joins_80 : Nat → Nat → Int32 → Int32 → Int32 → Int32 → Int32 → Int32 → Int32 → Hp → Option (Hp)
  | 0, _, _, _, _, _, _, _, _, _ => none
  | n_ + 1, x0, x1, x2, x3, x5, x6, x7, x8, G =>
    if 16 ≤ x8 then
      some G
    else
      gd (hc G x0 = 10) <|
      bo (d_X9_heardAt x1 x2 x3 x8 G) fun v4 =>
      if ((((x5 >>> (x8 &&& 31))) &&& 1)) = 0 then
        gd (hc G ((hr G x0 30)) = 11 ∧ ix v4 (hl G ((hr G x0 30)))) <|
        bd (sI G ((hr G x0 30)) v4.toNatClampNeg (-1)) fun G10 =>
        d_X9_joins_80 n_ x0 x1 x2 x3 x5 x6 x7 ((x8 + 1)) G10
      else
        if x6 = 0 then
          d_X9_joins_135 x0 x1 x2 x3 x5 x6 x7 x8 v4 G (fun y0 y1 y2 y3 y4 y5 y6 y7 Gy => d_X9_joins_80 n_ y0 y1 y2 y3 y4 y5 y6 y7 Gy)
        else
          gd (hc G ((hr G x0 30)) = 11 ∧ ix v4 (hl G ((hr G x0 30)))) <|
          if ((hi G ((hr G x0 30)) v4.toNatClampNeg)) = (-1) then
            d_X9_joins_135 x0 x1 x2 x3 x5 x6 x7 x8 v4 G (fun y0 y1 y2 y3 y4 y5 y6 y7 Gy => d_X9_joins_80 n_ y0 y1 y2 y3 y4 y5 y6 y7 Gy)
          else
            d_X9_joins_80 n_ x0 x1 x2 x3 x5 x6 x7 ((x8 + 1)) G
def d_X9_joins_17 (x0 : Nat) (x1 : Int32) (x2 : Int32) (x3 : Int32) (x4 : Int32) (x5 : Int32) (s0 : Int32) (G : Hp) : Option (Hp) :=
  gd (hc G x0 = 10) <|
  gd (hc G ((hr G x0 29)) = 11 ∧ ix ((((17 * ((((8 * ((((4 * x1)) + x2)))) + x3)))) + x4)) (hl G ((hr G x0 29)))) <|
  bd (sI G ((hr G x0 29)) ((((17 * ((((8 * ((((4 * x1)) + x2)))) + x3)))) + x4)).toNatClampNeg ((((hi G x0 0)) + 70))) fun G3 =>
  if x4 ≤ 0 then
    gd (hc G3 x0 = 10) <|
    bo (d_X9_hasTwo x0 x1 x2 G3) fun v7 =>
    if v7 = 0 then
      d_X9_joins_80 FU x0 x1 x2 x3 x5 s0 ((hi G3 x0 0)) 0 G3
    else
      d_X9_joins_80 FU x0 x1 x2 x3 x5 s0 ((((hi G3 x0 0)) + 3)) 0 G3
  else
    some G3
def d_X9_joins (x0 : Nat) (x1 : Int32) (x2 : Int32) (x3 : Int32) (x4 : Int32) (x5 : Int32) (G : Hp) : Option (Hp) :=
  gd (hc G x0 = 10) <|
  bo (d_X9_joined x0 x1 x2 x3 x4 G) fun v3 =>
  if v3 ≤ 0 then
    d_X9_joins_17 x0 x1 x2 x3 x4 x5 0 G
  else
    d_X9_joins_17 x0 x1 x2 x3 x4 x5 1 G
section
variable {p : Program} {l : Launch} {e : Env} {s : State} {m : MethodId} {args : Array Value} {below : List Frame} {meth : Method} {c : Code} {b0 : Nat} {D : va_G} {E : Nat → ClassId}
set_option maxHeartbeats 4000000 in
set_option maxRecDepth 100000 in
theorem k_X9_joins_135 (C : Cx p s m args meth c RX9 cX9_joins 10 none b0 D E) {GG : Hp} {k80 : Nat → Int32 → Int32 → Int32 → Int32 → Int32 → Int32 → Int32 → Hp → Option (Hp)} (hk80 : ∀ (y0 : Nat) (y1 : Int32) (y2 : Int32) (y3 : Int32) (y4 : Int32) (y5 : Int32) (y6 : Int32) (y7 : Int32) (Gy : Hp) (H1 : Heap) (locs1 : List Loc) (ls1 : Array Slot), lx ls1 10 [(0, .inr y0), (1, .inl y1), (2, .inl y2), (3, .inl y3), (5, .inl y4), (6, .inl y5), (7, .inl y6), (8, .inl y7)] → Rp b0 D E Gy H1 → SS b0 s H1 locs1 → k80 y0 y1 y2 y3 y4 y5 y6 y7 Gy = some GG → W p l e (rmd 3 (0) (0)) s m args below meth c H1 locs1 (0) (0) (MQ below (CQ b0 D E none GG) args s (0) (0) (fun q => b0 ≤ q)) (F0 m 80 ls1 [])) {x0 : Nat} {x1 : Int32} {x2 : Int32} {x3 : Int32} {x5 : Int32} {x6 : Int32} {x7 : Int32} {x8 : Int32} {x9 : Int32} {G : Hp} {ls : Array Slot} {H : Heap} {locs : List Loc} : lx ls 10 [(0, .inr x0), (1, .inl x1), (2, .inl x2), (3, .inl x3), (5, .inl x5), (6, .inl x6), (7, .inl x7), (8, .inl x8), (9, .inl x9)] → Rp b0 D E G H → SS b0 s H locs → d_X9_joins_135 x0 x1 x2 x3 x5 x6 x7 x8 x9 G k80 = some GG → W p l e (rmd 3 (0) (0)) s m args below meth c H locs (0) (0) (MQ below (CQ b0 D E none GG) args s (0) (0) (fun q => b0 ≤ q)) (F0 m 135 ls []) := by
  intro hL hR hS hd
  unfold d_X9_joins_135 at hd
  have hx := C.1
  have hb := C.2.1
  refine x_aload_n C dX9_joins_135 hL 0 rfl ?_
  obtain ⟨g1, hd⟩ := gd_ex hd
  refine r_getr (ci := 9) (k := 30) C fl_X9_78 rfl dX9_joins_136 hR g1 ?_
  refine x_iload C dX9_joins_139 hL 8 rfl ?_
  refine x_iload C dX9_joins_141 hL 6 rfl ?_
  obtain ⟨g2, hd⟩ := gd_ex hd
  obtain ⟨G3, eG3, hd⟩ := bd_ex hd
  refine r_iast C dX9_joins_143 hR hS g2 (fun H locs hR hS => ?_)
  replace hR : Rp b0 D E G3 H := by rw [eG3]; exact hR
  refine x_iinc (lv' := [(8, .inl ((x8 + 1))), (0, .inr x0), (1, .inl x1), (2, .inl x2), (3, .inl x3), (5, .inl x5), (6, .inl x6), (7, .inl x7), (9, .inl x9)]) C dX9_joins_144 hL 7 rfl rfl (by decide) rfl (fun ls hL => ?_)
  refine lv_goto (tgt := 80) hx hb dX9_joins_147 (by decide) ?_
  exact hk80 _ _ _ _ _ _ _ _ _ _ _ _ (lx_sub hL [1, 2, 3, 4, 5, 6, 7, 0] rfl) hR hS hd
set_option maxHeartbeats 4000000 in
set_option maxRecDepth 100000 in
theorem k_X9_joins_80 (C : Cx p s m args meth c RX9 cX9_joins 10 none b0 D E) {GG : Hp} : ∀ (n_ : Nat) {x0 : Nat} {x1 : Int32} {x2 : Int32} {x3 : Int32} {x5 : Int32} {x6 : Int32} {x7 : Int32} {x8 : Int32} {G : Hp} {ls : Array Slot} {H : Heap} {locs : List Loc}, lx ls 10 [(0, .inr x0), (1, .inl x1), (2, .inl x2), (3, .inl x3), (5, .inl x5), (6, .inl x6), (7, .inl x7), (8, .inl x8)] → Rp b0 D E G H → SS b0 s H locs → d_X9_joins_80 n_ x0 x1 x2 x3 x5 x6 x7 x8 G = some GG → W p l e (rmd 3 (0) (0)) s m args below meth c H locs (0) (0) (MQ below (CQ b0 D E none GG) args s (0) (0) (fun q => b0 ≤ q)) (F0 m 80 ls []) := by
  intro n_
  induction n_ with
  | zero =>
    intro x0 x1 x2 x3 x5 x6 x7 x8 G ls H locs hL hR hS hd
    cases (show (none : Option _) = some _ from hd)
  | succ n_ ih =>
    intro x0 x1 x2 x3 x5 x6 x7 x8 G ls H locs hL hR hS hd
    rw [d_X9_joins_80.eq_2] at hd
    have hx := C.1
    have hb := C.2.1
    refine x_iload C dX9_joins_80 hL 7 rfl ?_
    refine lv_bipush (v := 16) hx hb dX9_joins_82 (by decide) ?_
    refine lv_icmp_ge (tgt := 150) hx hb dX9_joins_84 (by decide) (fun c1 => ?_) (fun c1 => ?_)
    · rw [if_pos c1] at hd
      cases hd
      exact r_vret C dX9_joins_150 hR hS
    · rw [if_neg c1] at hd
      refine x_aload_n C dX9_joins_87 hL 0 rfl ?_
      refine x_iload_n C dX9_joins_88 hL 1 rfl ?_
      refine x_iload_n C dX9_joins_89 hL 2 rfl ?_
      refine x_iload_n C dX9_joins_90 hL 3 rfl ?_
      refine x_iload C dX9_joins_91 hL 7 rfl ?_
      obtain ⟨g2, hd⟩ := gd_ex hd
      obtain ⟨v4, h3, hd⟩ := bo_ex hd
      refine r_callV (a := x0) (ci := 9) (As := [.int x1, .int x2, .int x3, .int x8]) C (ct_X9_heardAt h3) mf_X9_heardAt ml_X9_176 mv_X9_heardAt rfl ⟨Nat.le_of_ble_eq_true rfl, Nat.le_of_ble_eq_true rfl⟩ dX9_joins_93 (lx_size hL) rfl hR hS g2 ⟨Nat.le_refl _, Nat.le_refl _⟩ (cat_le [] (Nat.le_of_ble_eq_true rfl)) (fun H locs hR hS => ?_)
      refine W_st (st2 := [.int v4]) rfl ?_
      refine x_istore (lv' := [(9, .inl v4), (0, .inr x0), (1, .inl x1), (2, .inl x2), (3, .inl x3), (5, .inl x5), (6, .inl x6), (7, .inl x7), (8, .inl x8)]) C dX9_joins_96 hL (by decide) rfl (fun ls hL => ?_)
      refine x_iload C dX9_joins_98 hL 5 rfl ?_
      refine x_iload C dX9_joins_100 hL 8 rfl ?_
      refine lv_ishr hx hb dX9_joins_102 ?_
      refine lv_iconst (v := 1) hx hb dX9_joins_103 (by decide) ?_
      refine lv_iand hx hb dX9_joins_104 ?_
      refine lv_if_ne (tgt := 119) hx hb dX9_joins_105 (by decide) (fun c5 => ?_) (fun c5 => ?_)
      · rw [if_neg c5] at hd
        refine x_iload C dX9_joins_119 hL 6 rfl ?_
        refine lv_if_eq (tgt := 135) hx hb dX9_joins_121 (by decide) (fun c6 => ?_) (fun c6 => ?_)
        · rw [if_pos c6] at hd
          exact k_X9_joins_135 C (fun y0 y1 y2 y3 y4 y5 y6 y7 Gy H1 locs1 ls1 hL1 hR1 hS1 hd1 => ih hL1 hR1 hS1 hd1) (lx_sub hL [1, 2, 3, 4, 5, 6, 7, 8, 0] rfl) hR hS hd
        · rw [if_neg c6] at hd
          refine x_aload_n C dX9_joins_124 hL 1 rfl ?_
          refine r_getr (ci := 9) (k := 30) C fl_X9_78 rfl dX9_joins_125 hR g2 ?_
          refine x_iload C dX9_joins_128 hL 0 rfl ?_
          obtain ⟨g7, hd⟩ := gd_ex hd
          refine r_iald C dX9_joins_130 hR g7 ?_
          refine lv_iconst (v := (-1)) hx hb dX9_joins_131 (by decide) ?_
          refine lv_icmp_ne (tgt := 144) hx hb dX9_joins_132 (by decide) (fun c8 => ?_) (fun c8 => ?_)
          · rw [if_neg c8] at hd
            refine x_iinc (lv' := [(8, .inl ((x8 + 1))), (9, .inl v4), (0, .inr x0), (1, .inl x1), (2, .inl x2), (3, .inl x3), (5, .inl x5), (6, .inl x6), (7, .inl x7)]) C dX9_joins_144 hL 8 rfl rfl (by decide) rfl (fun ls hL => ?_)
            refine lv_goto (tgt := 80) hx hb dX9_joins_147 (by decide) ?_
            exact ih (lx_sub hL [2, 3, 4, 5, 6, 7, 8, 0] rfl) hR hS hd
          · rw [if_pos c8] at hd
            exact k_X9_joins_135 C (fun y0 y1 y2 y3 y4 y5 y6 y7 Gy H1 locs1 ls1 hL1 hR1 hS1 hd1 => ih hL1 hR1 hS1 hd1) (lx_sub hL [1, 2, 3, 4, 5, 6, 7, 8, 0] rfl) hR hS hd
      · rw [if_pos c5] at hd
        refine x_aload_n C dX9_joins_108 hL 1 rfl ?_
        refine r_getr (ci := 9) (k := 30) C fl_X9_78 rfl dX9_joins_109 hR g2 ?_
        refine x_iload C dX9_joins_112 hL 0 rfl ?_
        refine lv_iconst (v := (-1)) hx hb dX9_joins_114 (by decide) ?_
        obtain ⟨g9, hd⟩ := gd_ex hd
        obtain ⟨G10, eG10, hd⟩ := bd_ex hd
        refine r_iast C dX9_joins_115 hR hS g9 (fun H locs hR hS => ?_)
        replace hR : Rp b0 D E G10 H := by rw [eG10]; exact hR
        refine lv_goto (tgt := 144) hx hb dX9_joins_116 (by decide) ?_
        refine x_iinc (lv' := [(8, .inl ((x8 + 1))), (9, .inl v4), (0, .inr x0), (1, .inl x1), (2, .inl x2), (3, .inl x3), (5, .inl x5), (6, .inl x6), (7, .inl x7)]) C dX9_joins_144 hL 8 rfl rfl (by decide) rfl (fun ls hL => ?_)
        refine lv_goto (tgt := 80) hx hb dX9_joins_147 (by decide) ?_
        exact ih (lx_sub hL [2, 3, 4, 5, 6, 7, 8, 0] rfl) hR hS hd
set_option maxHeartbeats 4000000 in
set_option maxRecDepth 100000 in
theorem k_X9_joins_17 (C : Cx p s m args meth c RX9 cX9_joins 10 none b0 D E) {GG : Hp} {x0 : Nat} {x1 : Int32} {x2 : Int32} {x3 : Int32} {x4 : Int32} {x5 : Int32} {s0 : Int32} {G : Hp} {ls : Array Slot} {H : Heap} {locs : List Loc} : lx ls 10 [(0, .inr x0), (1, .inl x1), (2, .inl x2), (3, .inl x3), (4, .inl x4), (5, .inl x5)] → Rp b0 D E G H → SS b0 s H locs → d_X9_joins_17 x0 x1 x2 x3 x4 x5 s0 G = some GG → W p l e (rmd 3 (0) (0)) s m args below meth c H locs (0) (0) (MQ below (CQ b0 D E none GG) args s (0) (0) (fun q => b0 ≤ q)) (F0 m 17 ls [.int s0]) := by
  intro hL hR hS hd
  unfold d_X9_joins_17 at hd
  have hx := C.1
  have hb := C.2.1
  refine x_istore (lv' := [(6, .inl s0), (0, .inr x0), (1, .inl x1), (2, .inl x2), (3, .inl x3), (4, .inl x4), (5, .inl x5)]) C dX9_joins_17 hL (by decide) rfl (fun ls hL => ?_)
  refine x_aload_n C dX9_joins_19 hL 1 rfl ?_
  obtain ⟨g1, hd⟩ := gd_ex hd
  refine r_getr (ci := 9) (k := 29) C fl_X9_75 rfl dX9_joins_20 hR g1 ?_
  refine lv_bipush (v := 17) hx hb dX9_joins_23 (by decide) ?_
  refine lv_bipush (v := 8) hx hb dX9_joins_25 (by decide) ?_
  refine lv_iconst (v := 4) hx hb dX9_joins_27 (by decide) ?_
  refine x_iload_n C dX9_joins_28 hL 2 rfl ?_
  refine lv_imul hx hb dX9_joins_29 ?_
  refine x_iload_n C dX9_joins_30 hL 3 rfl ?_
  refine lv_iadd hx hb dX9_joins_31 ?_
  refine lv_imul hx hb dX9_joins_32 ?_
  refine x_iload_n C dX9_joins_33 hL 4 rfl ?_
  refine lv_iadd hx hb dX9_joins_34 ?_
  refine lv_imul hx hb dX9_joins_35 ?_
  refine x_iload C dX9_joins_36 hL 5 rfl ?_
  refine lv_iadd hx hb dX9_joins_38 ?_
  refine x_aload_n C dX9_joins_39 hL 1 rfl ?_
  refine r_geti (ci := 9) (k := 0) C fl_X9_122 rfl dX9_joins_40 hR g1 ?_
  refine lv_bipush (v := 70) hx hb dX9_joins_43 (by decide) ?_
  refine lv_iadd hx hb dX9_joins_45 ?_
  obtain ⟨g2, hd⟩ := gd_ex hd
  obtain ⟨G3, eG3, hd⟩ := bd_ex hd
  refine r_iast C dX9_joins_46 hR hS g2 (fun H locs hR hS => ?_)
  replace hR : Rp b0 D E G3 H := by rw [eG3]; exact hR
  refine x_iload C dX9_joins_47 hL 5 rfl ?_
  refine lv_if_le (tgt := 53) hx hb dX9_joins_49 (by decide) (fun c4 => ?_) (fun c4 => ?_)
  · rw [if_pos c4] at hd
    refine x_aload_n C dX9_joins_53 hL 1 rfl ?_
    refine x_iload_n C dX9_joins_54 hL 2 rfl ?_
    refine x_iload_n C dX9_joins_55 hL 3 rfl ?_
    obtain ⟨g5, hd⟩ := gd_ex hd
    obtain ⟨v7, h6, hd⟩ := bo_ex hd
    refine r_callV (a := x0) (ci := 9) (As := [.int x1, .int x2]) C (ct_X9_hasTwo h6) mf_X9_hasTwo ml_X9_287 mv_X9_hasTwo rfl ⟨Nat.le_of_ble_eq_true rfl, Nat.le_of_ble_eq_true rfl⟩ dX9_joins_56 (lx_size hL) rfl hR hS g5 ⟨Nat.le_refl _, Nat.le_refl _⟩ (cat_le [] (Nat.le_of_ble_eq_true rfl)) (fun H locs hR hS => ?_)
    refine W_st (st2 := [.int v7]) rfl ?_
    refine lv_if_eq (tgt := 71) hx hb dX9_joins_59 (by decide) (fun c8 => ?_) (fun c8 => ?_)
    · rw [if_pos c8] at hd
      refine x_aload_n C dX9_joins_71 hL 1 rfl ?_
      refine r_geti (ci := 9) (k := 0) C fl_X9_122 rfl dX9_joins_72 hR g5 ?_
      refine x_istore (lv' := [(7, .inl ((hi G3 x0 0))), (6, .inl s0), (0, .inr x0), (1, .inl x1), (2, .inl x2), (3, .inl x3), (4, .inl x4), (5, .inl x5)]) C dX9_joins_75 hL (by decide) rfl (fun ls hL => ?_)
      refine lv_iconst (v := 0) hx hb dX9_joins_77 (by decide) ?_
      refine x_istore (lv' := [(8, .inl 0), (7, .inl ((hi G3 x0 0))), (6, .inl s0), (0, .inr x0), (1, .inl x1), (2, .inl x2), (3, .inl x3), (4, .inl x4), (5, .inl x5)]) C dX9_joins_78 hL (by decide) rfl (fun ls hL => ?_)
      exact k_X9_joins_80 C FU (lx_sub hL [3, 4, 5, 6, 8, 2, 1, 0] rfl) hR hS hd
    · rw [if_neg c8] at hd
      refine x_aload_n C dX9_joins_62 hL 1 rfl ?_
      refine r_geti (ci := 9) (k := 0) C fl_X9_122 rfl dX9_joins_63 hR g5 ?_
      refine lv_iconst (v := 3) hx hb dX9_joins_66 (by decide) ?_
      refine lv_iadd hx hb dX9_joins_67 ?_
      refine lv_goto (tgt := 75) hx hb dX9_joins_68 (by decide) ?_
      refine x_istore (lv' := [(7, .inl ((((hi G3 x0 0)) + 3))), (6, .inl s0), (0, .inr x0), (1, .inl x1), (2, .inl x2), (3, .inl x3), (4, .inl x4), (5, .inl x5)]) C dX9_joins_75 hL (by decide) rfl (fun ls hL => ?_)
      refine lv_iconst (v := 0) hx hb dX9_joins_77 (by decide) ?_
      refine x_istore (lv' := [(8, .inl 0), (7, .inl ((((hi G3 x0 0)) + 3))), (6, .inl s0), (0, .inr x0), (1, .inl x1), (2, .inl x2), (3, .inl x3), (4, .inl x4), (5, .inl x5)]) C dX9_joins_78 hL (by decide) rfl (fun ls hL => ?_)
      exact k_X9_joins_80 C FU (lx_sub hL [3, 4, 5, 6, 8, 2, 1, 0] rfl) hR hS hd
  · rw [if_neg c4] at hd
    cases hd
    exact r_vret C dX9_joins_52 hR hS
set_option maxHeartbeats 4000000 in
set_option maxRecDepth 100000 in
theorem k_X9_joins (C : Cx p s m args meth c RX9 cX9_joins 10 none b0 D E) {GG : Hp} {x0 : Nat} {x1 : Int32} {x2 : Int32} {x3 : Int32} {x4 : Int32} {x5 : Int32} {G : Hp} {ls : Array Slot} {H : Heap} {locs : List Loc} : lx ls 10 [(0, .inr x0), (1, .inl x1), (2, .inl x2), (3, .inl x3), (4, .inl x4), (5, .inl x5)] → Rp b0 D E G H → SS b0 s H locs → d_X9_joins x0 x1 x2 x3 x4 x5 G = some GG → W p l e (rmd 3 (0) (0)) s m args below meth c H locs (0) (0) (MQ below (CQ b0 D E none GG) args s (0) (0) (fun q => b0 ≤ q)) (F0 m 0 ls []) := by
  intro hL hR hS hd
  unfold d_X9_joins at hd
  have hx := C.1
  have hb := C.2.1
  refine x_aload_n C dX9_joins_0 hL 0 rfl ?_
  refine x_iload_n C dX9_joins_1 hL 1 rfl ?_
  refine x_iload_n C dX9_joins_2 hL 2 rfl ?_
  refine x_iload_n C dX9_joins_3 hL 3 rfl ?_
  refine x_iload C dX9_joins_4 hL 4 rfl ?_
  obtain ⟨g1, hd⟩ := gd_ex hd
  obtain ⟨v3, h2, hd⟩ := bo_ex hd
  refine r_callV (a := x0) (ci := 9) (As := [.int x1, .int x2, .int x3, .int x4]) C (ct_X9_joined h2) mf_X9_joined ml_X9_179 mv_X9_joined rfl ⟨Nat.le_of_ble_eq_true rfl, Nat.le_of_ble_eq_true rfl⟩ dX9_joins_6 (lx_size hL) rfl hR hS g1 ⟨Nat.le_refl _, Nat.le_refl _⟩ (cat_le [] (Nat.le_of_ble_eq_true rfl)) (fun H locs hR hS => ?_)
  refine W_st (st2 := [.int v3]) rfl ?_
  refine lv_if_le (tgt := 16) hx hb dX9_joins_9 (by decide) (fun c4 => ?_) (fun c4 => ?_)
  · rw [if_pos c4] at hd
    refine lv_iconst (v := 0) hx hb dX9_joins_16 (by decide) ?_
    exact k_X9_joins_17 C hL hR hS hd
  · rw [if_neg c4] at hd
    refine lv_iconst (v := 1) hx hb dX9_joins_12 (by decide) ?_
    refine lv_goto (tgt := 17) hx hb dX9_joins_13 (by decide) ?_
    exact k_X9_joins_17 C hL hR hS hd
end
set_option maxHeartbeats 4000000 in
set_option maxRecDepth 100000 in
theorem ct_X9_joins {l : Launch} {b0 : Nat} {D : va_G} {E : Nat → ClassId} {G : Hp} {a0 : Nat} {a1 : Int32} {a2 : Int32} {a3 : Int32} {a4 : Int32} {a5 : Int32} {GG : Hp} (hd : d_X9_joins a0 a1 a2 a3 a4 a5 G = some GG) : CT l yX9_joins cX9_joins 10 none 3 0 0 b0 D E [rv a0, .int a1, .int a2, .int a3, .int a4, .int a5] G none GG := by
  refine CT_of (by decide +kernel) ?_
  intro p e s m below meth c C hnm hR
  refine r_entry [.inr a0, .inl a1, .inl a2, .inl a3, .inl a4, .inl a5] (n := 10) (Nat.le_of_ble_eq_true rfl) (lv := [(0, .inr a0), (1, .inl a1), (2, .inl a2), (3, .inl a3), (4, .inl a4), (5, .inl a5)]) rfl (fun ls hL => ?_)
  exact k_X9_joins C (lx_sub hL [0, 1, 2, 3, 4, 5] rfl) hR ⟨fun _ _ => rfl, fun _ h => by cases h⟩ hd

/-! GroveWorksModel.prunes(IIII)V -/
theorem dX9_prunes_0 : decode cX9_prunes 0 = .ok (.aload_n 0, 1) := by decide +kernel
theorem dX9_prunes_1 : decode cX9_prunes 1 = .ok (.iload_n 1, 1) := by decide +kernel
theorem dX9_prunes_2 : decode cX9_prunes 2 = .ok (.iload_n 2, 1) := by decide +kernel
theorem dX9_prunes_3 : decode cX9_prunes 3 = .ok (.iload_n 3, 1) := by decide +kernel
theorem dX9_prunes_4 : decode cX9_prunes 4 = .ok (.iload 4, 2) := by decide +kernel
theorem dX9_prunes_6 : decode cX9_prunes 6 = .ok (.invokevirtual 179, 3) := by decide +kernel
theorem dX9_prunes_9 : decode cX9_prunes 9 = .ok (.istore 5, 2) := by decide +kernel
theorem dX9_prunes_11 : decode cX9_prunes 11 = .ok (.iload 5, 2) := by decide +kernel
theorem dX9_prunes_13 : decode cX9_prunes 13 = .ok (.ifCond .ne 4, 3) := by decide +kernel
theorem dX9_prunes_16 : decode cX9_prunes 16 = .ok (.return_, 1) := by decide +kernel
theorem dX9_prunes_17 : decode cX9_prunes 17 = .ok (.aload_n 0, 1) := by decide +kernel
theorem dX9_prunes_18 : decode cX9_prunes 18 = .ok (.iload_n 1, 1) := by decide +kernel
theorem dX9_prunes_19 : decode cX9_prunes 19 = .ok (.iload_n 2, 1) := by decide +kernel
theorem dX9_prunes_20 : decode cX9_prunes 20 = .ok (.invokevirtual 287, 3) := by decide +kernel
theorem dX9_prunes_23 : decode cX9_prunes 23 = .ok (.ifCond .eq 12, 3) := by decide +kernel
theorem dX9_prunes_26 : decode cX9_prunes 26 = .ok (.aload_n 0, 1) := by decide +kernel
theorem dX9_prunes_27 : decode cX9_prunes 27 = .ok (.getfield 122, 3) := by decide +kernel
theorem dX9_prunes_30 : decode cX9_prunes 30 = .ok (.iconst 3, 1) := by decide +kernel
theorem dX9_prunes_31 : decode cX9_prunes 31 = .ok (.iadd, 1) := by decide +kernel
theorem dX9_prunes_32 : decode cX9_prunes 32 = .ok (.goto 7, 3) := by decide +kernel
theorem dX9_prunes_35 : decode cX9_prunes 35 = .ok (.aload_n 0, 1) := by decide +kernel
theorem dX9_prunes_36 : decode cX9_prunes 36 = .ok (.getfield 122, 3) := by decide +kernel
theorem dX9_prunes_39 : decode cX9_prunes 39 = .ok (.istore 6, 2) := by decide +kernel
theorem dX9_prunes_41 : decode cX9_prunes 41 = .ok (.iload 6, 2) := by decide +kernel
theorem dX9_prunes_43 : decode cX9_prunes 43 = .ok (.iload 5, 2) := by decide +kernel
theorem dX9_prunes_45 : decode cX9_prunes 45 = .ok (.if_icmp .ge 26, 3) := by decide +kernel
theorem dX9_prunes_48 : decode cX9_prunes 48 = .ok (.aload_n 0, 1) := by decide +kernel
theorem dX9_prunes_49 : decode cX9_prunes 49 = .ok (.getfield 75, 3) := by decide +kernel
theorem dX9_prunes_52 : decode cX9_prunes 52 = .ok (.bipush 17, 2) := by decide +kernel
theorem dX9_prunes_54 : decode cX9_prunes 54 = .ok (.bipush 8, 2) := by decide +kernel
theorem dX9_prunes_56 : decode cX9_prunes 56 = .ok (.iconst 4, 1) := by decide +kernel
theorem dX9_prunes_57 : decode cX9_prunes 57 = .ok (.iload_n 1, 1) := by decide +kernel
theorem dX9_prunes_58 : decode cX9_prunes 58 = .ok (.imul, 1) := by decide +kernel
theorem dX9_prunes_59 : decode cX9_prunes 59 = .ok (.iload_n 2, 1) := by decide +kernel
theorem dX9_prunes_60 : decode cX9_prunes 60 = .ok (.iadd, 1) := by decide +kernel
theorem dX9_prunes_61 : decode cX9_prunes 61 = .ok (.imul, 1) := by decide +kernel
theorem dX9_prunes_62 : decode cX9_prunes 62 = .ok (.iload_n 3, 1) := by decide +kernel
theorem dX9_prunes_63 : decode cX9_prunes 63 = .ok (.iadd, 1) := by decide +kernel
theorem dX9_prunes_64 : decode cX9_prunes 64 = .ok (.imul, 1) := by decide +kernel
theorem dX9_prunes_65 : decode cX9_prunes 65 = .ok (.iload 4, 2) := by decide +kernel
theorem dX9_prunes_67 : decode cX9_prunes 67 = .ok (.iadd, 1) := by decide +kernel
theorem dX9_prunes_68 : decode cX9_prunes 68 = .ok (.iload 6, 2) := by decide +kernel
theorem dX9_prunes_70 : decode cX9_prunes 70 = .ok (.iastore, 1) := by decide +kernel
theorem dX9_prunes_71 : decode cX9_prunes 71 = .ok (.return_, 1) := by decide +kernel
def d_X9_prunes_39 (x0 : Nat) (x1 : Int32) (x2 : Int32) (x3 : Int32) (x4 : Int32) (x5 : Int32) (s0 : Int32) (G : Hp) : Option (Hp) :=
  if x5 ≤ s0 then
    some G
  else
    gd (hc G x0 = 10) <|
    gd (hc G ((hr G x0 29)) = 11 ∧ ix ((((17 * ((((8 * ((((4 * x1)) + x2)))) + x3)))) + x4)) (hl G ((hr G x0 29)))) <|
    bd (sI G ((hr G x0 29)) ((((17 * ((((8 * ((((4 * x1)) + x2)))) + x3)))) + x4)).toNatClampNeg s0) fun G4 =>
    some G4
def d_X9_prunes (x0 : Nat) (x1 : Int32) (x2 : Int32) (x3 : Int32) (x4 : Int32) (G : Hp) : Option (Hp) :=
  gd (hc G x0 = 10) <|
  bo (d_X9_joined x0 x1 x2 x3 x4 G) fun v3 =>
  if v3 = 0 then
    some G
  else
    bo (d_X9_hasTwo x0 x1 x2 G) fun v6 =>
    if v6 = 0 then
      d_X9_prunes_39 x0 x1 x2 x3 x4 v3 ((hi G x0 0)) G
    else
      d_X9_prunes_39 x0 x1 x2 x3 x4 v3 ((((hi G x0 0)) + 3)) G
section
variable {p : Program} {l : Launch} {e : Env} {s : State} {m : MethodId} {args : Array Value} {below : List Frame} {meth : Method} {c : Code} {b0 : Nat} {D : va_G} {E : Nat → ClassId}
set_option maxHeartbeats 4000000 in
set_option maxRecDepth 100000 in
theorem k_X9_prunes_39 (C : Cx p s m args meth c RX9 cX9_prunes 7 none b0 D E) {GG : Hp} {x0 : Nat} {x1 : Int32} {x2 : Int32} {x3 : Int32} {x4 : Int32} {x5 : Int32} {s0 : Int32} {G : Hp} {ls : Array Slot} {H : Heap} {locs : List Loc} : lx ls 7 [(0, .inr x0), (1, .inl x1), (2, .inl x2), (3, .inl x3), (4, .inl x4), (5, .inl x5)] → Rp b0 D E G H → SS b0 s H locs → d_X9_prunes_39 x0 x1 x2 x3 x4 x5 s0 G = some GG → W p l e (rmd 3 (0) (0)) s m args below meth c H locs (0) (0) (MQ below (CQ b0 D E none GG) args s (0) (0) (fun q => b0 ≤ q)) (F0 m 39 ls [.int s0]) := by
  intro hL hR hS hd
  unfold d_X9_prunes_39 at hd
  have hx := C.1
  have hb := C.2.1
  refine x_istore (lv' := [(6, .inl s0), (0, .inr x0), (1, .inl x1), (2, .inl x2), (3, .inl x3), (4, .inl x4), (5, .inl x5)]) C dX9_prunes_39 hL (by decide) rfl (fun ls hL => ?_)
  refine x_iload C dX9_prunes_41 hL 0 rfl ?_
  refine x_iload C dX9_prunes_43 hL 6 rfl ?_
  refine lv_icmp_ge (tgt := 71) hx hb dX9_prunes_45 (by decide) (fun c1 => ?_) (fun c1 => ?_)
  · rw [if_pos c1] at hd
    cases hd
    exact r_vret C dX9_prunes_71 hR hS
  · rw [if_neg c1] at hd
    refine x_aload_n C dX9_prunes_48 hL 1 rfl ?_
    obtain ⟨g2, hd⟩ := gd_ex hd
    refine r_getr (ci := 9) (k := 29) C fl_X9_75 rfl dX9_prunes_49 hR g2 ?_
    refine lv_bipush (v := 17) hx hb dX9_prunes_52 (by decide) ?_
    refine lv_bipush (v := 8) hx hb dX9_prunes_54 (by decide) ?_
    refine lv_iconst (v := 4) hx hb dX9_prunes_56 (by decide) ?_
    refine x_iload_n C dX9_prunes_57 hL 2 rfl ?_
    refine lv_imul hx hb dX9_prunes_58 ?_
    refine x_iload_n C dX9_prunes_59 hL 3 rfl ?_
    refine lv_iadd hx hb dX9_prunes_60 ?_
    refine lv_imul hx hb dX9_prunes_61 ?_
    refine x_iload_n C dX9_prunes_62 hL 4 rfl ?_
    refine lv_iadd hx hb dX9_prunes_63 ?_
    refine lv_imul hx hb dX9_prunes_64 ?_
    refine x_iload C dX9_prunes_65 hL 5 rfl ?_
    refine lv_iadd hx hb dX9_prunes_67 ?_
    refine x_iload C dX9_prunes_68 hL 0 rfl ?_
    obtain ⟨g3, hd⟩ := gd_ex hd
    obtain ⟨G4, eG4, hd⟩ := bd_ex hd
    refine r_iast C dX9_prunes_70 hR hS g3 (fun H locs hR hS => ?_)
    replace hR : Rp b0 D E G4 H := by rw [eG4]; exact hR
    cases hd
    exact r_vret C dX9_prunes_71 hR hS
set_option maxHeartbeats 4000000 in
set_option maxRecDepth 100000 in
theorem k_X9_prunes (C : Cx p s m args meth c RX9 cX9_prunes 7 none b0 D E) {GG : Hp} {x0 : Nat} {x1 : Int32} {x2 : Int32} {x3 : Int32} {x4 : Int32} {G : Hp} {ls : Array Slot} {H : Heap} {locs : List Loc} : lx ls 7 [(0, .inr x0), (1, .inl x1), (2, .inl x2), (3, .inl x3), (4, .inl x4)] → Rp b0 D E G H → SS b0 s H locs → d_X9_prunes x0 x1 x2 x3 x4 G = some GG → W p l e (rmd 3 (0) (0)) s m args below meth c H locs (0) (0) (MQ below (CQ b0 D E none GG) args s (0) (0) (fun q => b0 ≤ q)) (F0 m 0 ls []) := by
  intro hL hR hS hd
  unfold d_X9_prunes at hd
  have hx := C.1
  have hb := C.2.1
  refine x_aload_n C dX9_prunes_0 hL 0 rfl ?_
  refine x_iload_n C dX9_prunes_1 hL 1 rfl ?_
  refine x_iload_n C dX9_prunes_2 hL 2 rfl ?_
  refine x_iload_n C dX9_prunes_3 hL 3 rfl ?_
  refine x_iload C dX9_prunes_4 hL 4 rfl ?_
  obtain ⟨g1, hd⟩ := gd_ex hd
  obtain ⟨v3, h2, hd⟩ := bo_ex hd
  refine r_callV (a := x0) (ci := 9) (As := [.int x1, .int x2, .int x3, .int x4]) C (ct_X9_joined h2) mf_X9_joined ml_X9_179 mv_X9_joined rfl ⟨Nat.le_of_ble_eq_true rfl, Nat.le_of_ble_eq_true rfl⟩ dX9_prunes_6 (lx_size hL) rfl hR hS g1 ⟨Nat.le_refl _, Nat.le_refl _⟩ (cat_le [] (Nat.le_of_ble_eq_true rfl)) (fun H locs hR hS => ?_)
  refine W_st (st2 := [.int v3]) rfl ?_
  refine x_istore (lv' := [(5, .inl v3), (0, .inr x0), (1, .inl x1), (2, .inl x2), (3, .inl x3), (4, .inl x4)]) C dX9_prunes_9 hL (by decide) rfl (fun ls hL => ?_)
  refine x_iload C dX9_prunes_11 hL 0 rfl ?_
  refine lv_if_ne (tgt := 17) hx hb dX9_prunes_13 (by decide) (fun c4 => ?_) (fun c4 => ?_)
  · rw [if_neg c4] at hd
    refine x_aload_n C dX9_prunes_17 hL 1 rfl ?_
    refine x_iload_n C dX9_prunes_18 hL 2 rfl ?_
    refine x_iload_n C dX9_prunes_19 hL 3 rfl ?_
    obtain ⟨v6, h5, hd⟩ := bo_ex hd
    refine r_callV (a := x0) (ci := 9) (As := [.int x1, .int x2]) C (ct_X9_hasTwo h5) mf_X9_hasTwo ml_X9_287 mv_X9_hasTwo rfl ⟨Nat.le_of_ble_eq_true rfl, Nat.le_of_ble_eq_true rfl⟩ dX9_prunes_20 (lx_size hL) rfl hR hS g1 ⟨Nat.le_refl _, Nat.le_refl _⟩ (cat_le [] (Nat.le_of_ble_eq_true rfl)) (fun H locs hR hS => ?_)
    refine W_st (st2 := [.int v6]) rfl ?_
    refine lv_if_eq (tgt := 35) hx hb dX9_prunes_23 (by decide) (fun c7 => ?_) (fun c7 => ?_)
    · rw [if_pos c7] at hd
      refine x_aload_n C dX9_prunes_35 hL 1 rfl ?_
      refine r_geti (ci := 9) (k := 0) C fl_X9_122 rfl dX9_prunes_36 hR g1 ?_
      exact k_X9_prunes_39 C (lx_sub hL [1, 2, 3, 4, 5, 0] rfl) hR hS hd
    · rw [if_neg c7] at hd
      refine x_aload_n C dX9_prunes_26 hL 1 rfl ?_
      refine r_geti (ci := 9) (k := 0) C fl_X9_122 rfl dX9_prunes_27 hR g1 ?_
      refine lv_iconst (v := 3) hx hb dX9_prunes_30 (by decide) ?_
      refine lv_iadd hx hb dX9_prunes_31 ?_
      refine lv_goto (tgt := 39) hx hb dX9_prunes_32 (by decide) ?_
      exact k_X9_prunes_39 C (lx_sub hL [1, 2, 3, 4, 5, 0] rfl) hR hS hd
  · rw [if_pos c4] at hd
    cases hd
    exact r_vret C dX9_prunes_16 hR hS
end
set_option maxHeartbeats 4000000 in
set_option maxRecDepth 100000 in
theorem ct_X9_prunes {l : Launch} {b0 : Nat} {D : va_G} {E : Nat → ClassId} {G : Hp} {a0 : Nat} {a1 : Int32} {a2 : Int32} {a3 : Int32} {a4 : Int32} {GG : Hp} (hd : d_X9_prunes a0 a1 a2 a3 a4 G = some GG) : CT l yX9_prunes cX9_prunes 7 none 3 0 0 b0 D E [rv a0, .int a1, .int a2, .int a3, .int a4] G none GG := by
  refine CT_of (by decide +kernel) ?_
  intro p e s m below meth c C hnm hR
  refine r_entry [.inr a0, .inl a1, .inl a2, .inl a3, .inl a4] (n := 7) (Nat.le_of_ble_eq_true rfl) (lv := [(0, .inr a0), (1, .inl a1), (2, .inl a2), (3, .inl a3), (4, .inl a4)]) rfl (fun ls hL => ?_)
  exact k_X9_prunes C (lx_sub hL [0, 1, 2, 3, 4] rfl) hR ⟨fun _ _ => rfl, fun _ h => by cases h⟩ hd

/-! GroveWorksModel.overhears(IIIIIII)V -/
theorem dX9_overhears_0 : decode cX9_overhears 0 = .ok (.bipush 17, 2) := by decide +kernel
theorem dX9_overhears_2 : decode cX9_overhears 2 = .ok (.bipush 8, 2) := by decide +kernel
theorem dX9_overhears_4 : decode cX9_overhears 4 = .ok (.iload_n 1, 1) := by decide +kernel
theorem dX9_overhears_5 : decode cX9_overhears 5 = .ok (.imul, 1) := by decide +kernel
theorem dX9_overhears_6 : decode cX9_overhears 6 = .ok (.iload 5, 2) := by decide +kernel
theorem dX9_overhears_8 : decode cX9_overhears 8 = .ok (.iadd, 1) := by decide +kernel
theorem dX9_overhears_9 : decode cX9_overhears 9 = .ok (.imul, 1) := by decide +kernel
theorem dX9_overhears_10 : decode cX9_overhears 10 = .ok (.iload 6, 2) := by decide +kernel
theorem dX9_overhears_12 : decode cX9_overhears 12 = .ok (.iadd, 1) := by decide +kernel
theorem dX9_overhears_13 : decode cX9_overhears 13 = .ok (.istore 8, 2) := by decide +kernel
theorem dX9_overhears_15 : decode cX9_overhears 15 = .ok (.aload_n 0, 1) := by decide +kernel
theorem dX9_overhears_16 : decode cX9_overhears 16 = .ok (.getfield 87, 3) := by decide +kernel
theorem dX9_overhears_19 : decode cX9_overhears 19 = .ok (.iload 8, 2) := by decide +kernel
theorem dX9_overhears_21 : decode cX9_overhears 21 = .ok (.iaload, 1) := by decide +kernel
theorem dX9_overhears_22 : decode cX9_overhears 22 = .ok (.iload_n 2, 1) := by decide +kernel
theorem dX9_overhears_23 : decode cX9_overhears 23 = .ok (.if_icmp .ne 26, 3) := by decide +kernel
theorem dX9_overhears_26 : decode cX9_overhears 26 = .ok (.aload_n 0, 1) := by decide +kernel
theorem dX9_overhears_27 : decode cX9_overhears 27 = .ok (.getfield 90, 3) := by decide +kernel
theorem dX9_overhears_30 : decode cX9_overhears 30 = .ok (.iload 8, 2) := by decide +kernel
theorem dX9_overhears_32 : decode cX9_overhears 32 = .ok (.iaload, 1) := by decide +kernel
theorem dX9_overhears_33 : decode cX9_overhears 33 = .ok (.iload 4, 2) := by decide +kernel
theorem dX9_overhears_35 : decode cX9_overhears 35 = .ok (.if_icmp .ne 14, 3) := by decide +kernel
theorem dX9_overhears_38 : decode cX9_overhears 38 = .ok (.aload_n 0, 1) := by decide +kernel
theorem dX9_overhears_39 : decode cX9_overhears 39 = .ok (.getfield 87, 3) := by decide +kernel
theorem dX9_overhears_42 : decode cX9_overhears 42 = .ok (.iload 8, 2) := by decide +kernel
theorem dX9_overhears_44 : decode cX9_overhears 44 = .ok (.iaload, 1) := by decide +kernel
theorem dX9_overhears_45 : decode cX9_overhears 45 = .ok (.iconst (-1), 1) := by decide +kernel
theorem dX9_overhears_46 : decode cX9_overhears 46 = .ok (.if_icmp .ne 4, 3) := by decide +kernel
theorem dX9_overhears_49 : decode cX9_overhears 49 = .ok (.return_, 1) := by decide +kernel
theorem dX9_overhears_50 : decode cX9_overhears 50 = .ok (.iload_n 3, 1) := by decide +kernel
theorem dX9_overhears_51 : decode cX9_overhears 51 = .ok (.bipush 6, 2) := by decide +kernel
theorem dX9_overhears_53 : decode cX9_overhears 53 = .ok (.if_icmp .ne 13, 3) := by decide +kernel
theorem dX9_overhears_56 : decode cX9_overhears 56 = .ok (.aload_n 0, 1) := by decide +kernel
theorem dX9_overhears_57 : decode cX9_overhears 57 = .ok (.iload_n 1, 1) := by decide +kernel
theorem dX9_overhears_58 : decode cX9_overhears 58 = .ok (.iload 5, 2) := by decide +kernel
theorem dX9_overhears_60 : decode cX9_overhears 60 = .ok (.iload 6, 2) := by decide +kernel
theorem dX9_overhears_62 : decode cX9_overhears 62 = .ok (.invokevirtual 290, 3) := by decide +kernel
theorem dX9_overhears_65 : decode cX9_overhears 65 = .ok (.return_, 1) := by decide +kernel
theorem dX9_overhears_66 : decode cX9_overhears 66 = .ok (.iload 6, 2) := by decide +kernel
theorem dX9_overhears_68 : decode cX9_overhears 68 = .ok (.ifCond .ne 18, 3) := by decide +kernel
theorem dX9_overhears_71 : decode cX9_overhears 71 = .ok (.aload_n 0, 1) := by decide +kernel
theorem dX9_overhears_72 : decode cX9_overhears 72 = .ok (.getfield 96, 3) := by decide +kernel
theorem dX9_overhears_75 : decode cX9_overhears 75 = .ok (.bipush 8, 2) := by decide +kernel
theorem dX9_overhears_77 : decode cX9_overhears 77 = .ok (.iload_n 1, 1) := by decide +kernel
theorem dX9_overhears_78 : decode cX9_overhears 78 = .ok (.imul, 1) := by decide +kernel
theorem dX9_overhears_79 : decode cX9_overhears 79 = .ok (.iload 5, 2) := by decide +kernel
theorem dX9_overhears_81 : decode cX9_overhears 81 = .ok (.iadd, 1) := by decide +kernel
theorem dX9_overhears_82 : decode cX9_overhears 82 = .ok (.iaload, 1) := by decide +kernel
theorem dX9_overhears_83 : decode cX9_overhears 83 = .ok (.goto 5, 3) := by decide +kernel
theorem dX9_overhears_86 : decode cX9_overhears 86 = .ok (.iload 7, 2) := by decide +kernel
theorem dX9_overhears_88 : decode cX9_overhears 88 = .ok (.istore 9, 2) := by decide +kernel
theorem dX9_overhears_90 : decode cX9_overhears 90 = .ok (.iload 7, 2) := by decide +kernel
theorem dX9_overhears_92 : decode cX9_overhears 92 = .ok (.iload 9, 2) := by decide +kernel
theorem dX9_overhears_94 : decode cX9_overhears 94 = .ok (.iconst (-1), 1) := by decide +kernel
theorem dX9_overhears_95 : decode cX9_overhears 95 = .ok (.ixor, 1) := by decide +kernel
theorem dX9_overhears_96 : decode cX9_overhears 96 = .ok (.iand, 1) := by decide +kernel
theorem dX9_overhears_97 : decode cX9_overhears 97 = .ok (.ifCond .eq 15, 3) := by decide +kernel
theorem dX9_overhears_100 : decode cX9_overhears 100 = .ok (.aload_n 0, 1) := by decide +kernel
theorem dX9_overhears_101 : decode cX9_overhears 101 = .ok (.iload_n 1, 1) := by decide +kernel
theorem dX9_overhears_102 : decode cX9_overhears 102 = .ok (.iload 5, 2) := by decide +kernel
theorem dX9_overhears_104 : decode cX9_overhears 104 = .ok (.iload 6, 2) := by decide +kernel
theorem dX9_overhears_106 : decode cX9_overhears 106 = .ok (.invokevirtual 290, 3) := by decide +kernel
theorem dX9_overhears_109 : decode cX9_overhears 109 = .ok (.goto 21, 3) := by decide +kernel
theorem dX9_overhears_112 : decode cX9_overhears 112 = .ok (.iload 7, 2) := by decide +kernel
theorem dX9_overhears_114 : decode cX9_overhears 114 = .ok (.iload 9, 2) := by decide +kernel
theorem dX9_overhears_116 : decode cX9_overhears 116 = .ok (.if_icmp .ne 14, 3) := by decide +kernel
theorem dX9_overhears_119 : decode cX9_overhears 119 = .ok (.aload_n 0, 1) := by decide +kernel
theorem dX9_overhears_120 : decode cX9_overhears 120 = .ok (.getfield 93, 3) := by decide +kernel
theorem dX9_overhears_123 : decode cX9_overhears 123 = .ok (.iload 8, 2) := by decide +kernel
theorem dX9_overhears_125 : decode cX9_overhears 125 = .ok (.aload_n 0, 1) := by decide +kernel
theorem dX9_overhears_126 : decode cX9_overhears 126 = .ok (.getfield 122, 3) := by decide +kernel
theorem dX9_overhears_129 : decode cX9_overhears 129 = .ok (.iastore, 1) := by decide +kernel
theorem dX9_overhears_130 : decode cX9_overhears 130 = .ok (.return_, 1) := by decide +kernel
def d_X9_overhears_88 (x0 : Nat) (x1 : Int32) (x5 : Int32) (x6 : Int32) (x7 : Int32) (x8 : Int32) (s0 : Int32) (G : Hp) : Option (Hp) :=
  if ((x7 &&& ((s0 ^^^ (-1))))) = 0 then
    if x7 = s0 then
      gd (hc G x0 = 10) <|
      gd (hc G ((hr G x0 35)) = 11 ∧ ix x8 (hl G ((hr G x0 35)))) <|
      bd (sI G ((hr G x0 35)) x8.toNatClampNeg ((hi G x0 0))) fun G5 =>
      some G5
    else
      some G
  else
    gd (hc G x0 = 10) <|
    bo (d_X9_sendJoin x0 x1 x5 x6 G) fun G8 =>
    some G8
def d_X9_overhears (x0 : Nat) (x1 : Int32) (x2 : Int32) (x3 : Int32) (x4 : Int32) (x5 : Int32) (x6 : Int32) (x7 : Int32) (G : Hp) : Option (Hp) :=
  bd ((((17 * ((((8 * x1)) + x5)))) + x6)) fun v1 =>
  gd (hc G x0 = 10) <|
  gd (hc G ((hr G x0 33)) = 11 ∧ ix v1 (hl G ((hr G x0 33)))) <|
  if ((hi G ((hr G x0 33)) v1.toNatClampNeg)) = x2 then
    gd (hc G ((hr G x0 34)) = 11 ∧ ix v1 (hl G ((hr G x0 34)))) <|
    if ((hi G ((hr G x0 34)) v1.toNatClampNeg)) = x4 then
      gd (hc G ((hr G x0 33)) = 11 ∧ ix v1 (hl G ((hr G x0 33)))) <|
      if ((hi G ((hr G x0 33)) v1.toNatClampNeg)) = (-1) then
        some G
      else
        if x3 = 6 then
          bo (d_X9_sendJoin x0 x1 x5 x6 G) fun G13 =>
          some G13
        else
          if x6 = 0 then
            gd (hc G ((hr G x0 36)) = 11 ∧ ix ((((8 * x1)) + x5)) (hl G ((hr G x0 36)))) <|
            d_X9_overhears_88 x0 x1 x5 x6 x7 v1 ((hi G ((hr G x0 36)) ((((8 * x1)) + x5)).toNatClampNeg)) G
          else
            d_X9_overhears_88 x0 x1 x5 x6 x7 v1 x7 G
    else
      some G
  else
    some G
section
variable {p : Program} {l : Launch} {e : Env} {s : State} {m : MethodId} {args : Array Value} {below : List Frame} {meth : Method} {c : Code} {b0 : Nat} {D : va_G} {E : Nat → ClassId}
set_option maxHeartbeats 4000000 in
set_option maxRecDepth 100000 in
theorem k_X9_overhears_88 (C : Cx p s m args meth c RX9 cX9_overhears 10 none b0 D E) {GG : Hp} {x0 : Nat} {x1 : Int32} {x5 : Int32} {x6 : Int32} {x7 : Int32} {x8 : Int32} {s0 : Int32} {G : Hp} {ls : Array Slot} {H : Heap} {locs : List Loc} : lx ls 10 [(0, .inr x0), (1, .inl x1), (5, .inl x5), (6, .inl x6), (7, .inl x7), (8, .inl x8)] → Rp b0 D E G H → SS b0 s H locs → d_X9_overhears_88 x0 x1 x5 x6 x7 x8 s0 G = some GG → W p l e (rmd 2 (0) (0)) s m args below meth c H locs (0) (0) (MQ below (CQ b0 D E none GG) args s (0) (0) (fun q => b0 ≤ q)) (F0 m 88 ls [.int s0]) := by
  intro hL hR hS hd
  unfold d_X9_overhears_88 at hd
  have hx := C.1
  have hb := C.2.1
  refine x_istore (lv' := [(9, .inl s0), (0, .inr x0), (1, .inl x1), (5, .inl x5), (6, .inl x6), (7, .inl x7), (8, .inl x8)]) C dX9_overhears_88 hL (by decide) rfl (fun ls hL => ?_)
  refine x_iload C dX9_overhears_90 hL 5 rfl ?_
  refine x_iload C dX9_overhears_92 hL 0 rfl ?_
  refine lv_iconst (v := (-1)) hx hb dX9_overhears_94 (by decide) ?_
  refine lv_ixor hx hb dX9_overhears_95 ?_
  refine lv_iand hx hb dX9_overhears_96 ?_
  refine lv_if_eq (tgt := 112) hx hb dX9_overhears_97 (by decide) (fun c1 => ?_) (fun c1 => ?_)
  · rw [if_pos c1] at hd
    refine x_iload C dX9_overhears_112 hL 5 rfl ?_
    refine x_iload C dX9_overhears_114 hL 0 rfl ?_
    refine lv_icmp_ne (tgt := 130) hx hb dX9_overhears_116 (by decide) (fun c2 => ?_) (fun c2 => ?_)
    · rw [if_neg c2] at hd
      cases hd
      exact r_vret C dX9_overhears_130 hR hS
    · rw [if_pos c2] at hd
      refine x_aload_n C dX9_overhears_119 hL 1 rfl ?_
      obtain ⟨g3, hd⟩ := gd_ex hd
      refine r_getr (ci := 9) (k := 35) C fl_X9_93 rfl dX9_overhears_120 hR g3 ?_
      refine x_iload C dX9_overhears_123 hL 6 rfl ?_
      refine x_aload_n C dX9_overhears_125 hL 1 rfl ?_
      refine r_geti (ci := 9) (k := 0) C fl_X9_122 rfl dX9_overhears_126 hR g3 ?_
      obtain ⟨g4, hd⟩ := gd_ex hd
      obtain ⟨G5, eG5, hd⟩ := bd_ex hd
      refine r_iast C dX9_overhears_129 hR hS g4 (fun H locs hR hS => ?_)
      replace hR : Rp b0 D E G5 H := by rw [eG5]; exact hR
      cases hd
      exact r_vret C dX9_overhears_130 hR hS
  · rw [if_neg c1] at hd
    refine x_aload_n C dX9_overhears_100 hL 1 rfl ?_
    refine x_iload_n C dX9_overhears_101 hL 2 rfl ?_
    refine x_iload C dX9_overhears_102 hL 3 rfl ?_
    refine x_iload C dX9_overhears_104 hL 4 rfl ?_
    obtain ⟨g6, hd⟩ := gd_ex hd
    obtain ⟨G8, h7, hd⟩ := bo_ex hd
    refine r_callV (a := x0) (ci := 9) (As := [.int x1, .int x5, .int x6]) C (ct_X9_sendJoin h7) mf_X9_sendJoin ml_X9_290 mv_X9_sendJoin rfl ⟨Nat.le_of_ble_eq_true rfl, Nat.le_of_ble_eq_true rfl⟩ dX9_overhears_106 (lx_size hL) rfl hR hS g6 ⟨Nat.le_refl _, Nat.le_refl _⟩ (cat_le [] (Nat.le_of_ble_eq_true rfl)) (fun H locs hR hS => ?_)
    refine W_st (st2 := []) rfl ?_
    refine lv_goto (tgt := 130) hx hb dX9_overhears_109 (by decide) ?_
    cases hd
    exact r_vret C dX9_overhears_130 hR hS
set_option maxHeartbeats 4000000 in
set_option maxRecDepth 100000 in
theorem k_X9_overhears (C : Cx p s m args meth c RX9 cX9_overhears 10 none b0 D E) {GG : Hp} {x0 : Nat} {x1 : Int32} {x2 : Int32} {x3 : Int32} {x4 : Int32} {x5 : Int32} {x6 : Int32} {x7 : Int32} {G : Hp} {ls : Array Slot} {H : Heap} {locs : List Loc} : lx ls 10 [(0, .inr x0), (1, .inl x1), (2, .inl x2), (3, .inl x3), (4, .inl x4), (5, .inl x5), (6, .inl x6), (7, .inl x7)] → Rp b0 D E G H → SS b0 s H locs → d_X9_overhears x0 x1 x2 x3 x4 x5 x6 x7 G = some GG → W p l e (rmd 2 (0) (0)) s m args below meth c H locs (0) (0) (MQ below (CQ b0 D E none GG) args s (0) (0) (fun q => b0 ≤ q)) (F0 m 0 ls []) := by
  intro hL hR hS hd
  unfold d_X9_overhears at hd
  have hx := C.1
  have hb := C.2.1
  refine lv_bipush (v := 17) hx hb dX9_overhears_0 (by decide) ?_
  refine lv_bipush (v := 8) hx hb dX9_overhears_2 (by decide) ?_
  refine x_iload_n C dX9_overhears_4 hL 1 rfl ?_
  refine lv_imul hx hb dX9_overhears_5 ?_
  refine x_iload C dX9_overhears_6 hL 5 rfl ?_
  refine lv_iadd hx hb dX9_overhears_8 ?_
  refine lv_imul hx hb dX9_overhears_9 ?_
  refine x_iload C dX9_overhears_10 hL 6 rfl ?_
  refine lv_iadd hx hb dX9_overhears_12 ?_
  obtain ⟨v1, ev1, hd⟩ := bd_ex hd
  rw [← ev1]
  refine x_istore (lv' := [(8, .inl v1), (0, .inr x0), (1, .inl x1), (2, .inl x2), (3, .inl x3), (4, .inl x4), (5, .inl x5), (6, .inl x6), (7, .inl x7)]) C dX9_overhears_13 hL (by decide) rfl (fun ls hL => ?_)
  refine x_aload_n C dX9_overhears_15 hL 1 rfl ?_
  obtain ⟨g2, hd⟩ := gd_ex hd
  refine r_getr (ci := 9) (k := 33) C fl_X9_87 rfl dX9_overhears_16 hR g2 ?_
  refine x_iload C dX9_overhears_19 hL 0 rfl ?_
  obtain ⟨g3, hd⟩ := gd_ex hd
  refine r_iald C dX9_overhears_21 hR g3 ?_
  refine x_iload_n C dX9_overhears_22 hL 3 rfl ?_
  refine lv_icmp_ne (tgt := 49) hx hb dX9_overhears_23 (by decide) (fun c4 => ?_) (fun c4 => ?_)
  · rw [if_neg c4] at hd
    cases hd
    exact r_vret C dX9_overhears_49 hR hS
  · rw [if_pos c4] at hd
    refine x_aload_n C dX9_overhears_26 hL 1 rfl ?_
    refine r_getr (ci := 9) (k := 34) C fl_X9_90 rfl dX9_overhears_27 hR g2 ?_
    refine x_iload C dX9_overhears_30 hL 0 rfl ?_
    obtain ⟨g5, hd⟩ := gd_ex hd
    refine r_iald C dX9_overhears_32 hR g5 ?_
    refine x_iload C dX9_overhears_33 hL 5 rfl ?_
    refine lv_icmp_ne (tgt := 49) hx hb dX9_overhears_35 (by decide) (fun c6 => ?_) (fun c6 => ?_)
    · rw [if_neg c6] at hd
      cases hd
      exact r_vret C dX9_overhears_49 hR hS
    · rw [if_pos c6] at hd
      refine x_aload_n C dX9_overhears_38 hL 1 rfl ?_
      refine r_getr (ci := 9) (k := 33) C fl_X9_87 rfl dX9_overhears_39 hR g2 ?_
      refine x_iload C dX9_overhears_42 hL 0 rfl ?_
      obtain ⟨g7, hd⟩ := gd_ex hd
      refine r_iald C dX9_overhears_44 hR g7 ?_
      refine lv_iconst (v := (-1)) hx hb dX9_overhears_45 (by decide) ?_
      refine lv_icmp_ne (tgt := 50) hx hb dX9_overhears_46 (by decide) (fun c8 => ?_) (fun c8 => ?_)
      · rw [if_neg c8] at hd
        refine x_iload_n C dX9_overhears_50 hL 4 rfl ?_
        refine lv_bipush (v := 6) hx hb dX9_overhears_51 (by decide) ?_
        refine lv_icmp_ne (tgt := 66) hx hb dX9_overhears_53 (by decide) (fun c9 => ?_) (fun c9 => ?_)
        · rw [if_neg c9] at hd
          refine x_iload C dX9_overhears_66 hL 7 rfl ?_
          refine lv_if_ne (tgt := 86) hx hb dX9_overhears_68 (by decide) (fun c10 => ?_) (fun c10 => ?_)
          · rw [if_neg c10] at hd
            refine x_iload C dX9_overhears_86 hL 8 rfl ?_
            exact k_X9_overhears_88 C (lx_sub hL [1, 2, 6, 7, 8, 0] rfl) hR hS hd
          · rw [if_pos c10] at hd
            refine x_aload_n C dX9_overhears_71 hL 1 rfl ?_
            refine r_getr (ci := 9) (k := 36) C fl_X9_96 rfl dX9_overhears_72 hR g2 ?_
            refine lv_bipush (v := 8) hx hb dX9_overhears_75 (by decide) ?_
            refine x_iload_n C dX9_overhears_77 hL 2 rfl ?_
            refine lv_imul hx hb dX9_overhears_78 ?_
            refine x_iload C dX9_overhears_79 hL 6 rfl ?_
            refine lv_iadd hx hb dX9_overhears_81 ?_
            obtain ⟨g11, hd⟩ := gd_ex hd
            refine r_iald C dX9_overhears_82 hR g11 ?_
            refine lv_goto (tgt := 88) hx hb dX9_overhears_83 (by decide) ?_
            exact k_X9_overhears_88 C (lx_sub hL [1, 2, 6, 7, 8, 0] rfl) hR hS hd
        · rw [if_pos c9] at hd
          refine x_aload_n C dX9_overhears_56 hL 1 rfl ?_
          refine x_iload_n C dX9_overhears_57 hL 2 rfl ?_
          refine x_iload C dX9_overhears_58 hL 6 rfl ?_
          refine x_iload C dX9_overhears_60 hL 7 rfl ?_
          obtain ⟨G13, h12, hd⟩ := bo_ex hd
          refine r_callV (a := x0) (ci := 9) (As := [.int x1, .int x5, .int x6]) C (ct_X9_sendJoin h12) mf_X9_sendJoin ml_X9_290 mv_X9_sendJoin rfl ⟨Nat.le_of_ble_eq_true rfl, Nat.le_of_ble_eq_true rfl⟩ dX9_overhears_62 (lx_size hL) rfl hR hS g2 ⟨Nat.le_refl _, Nat.le_refl _⟩ (cat_le [] (Nat.le_of_ble_eq_true rfl)) (fun H locs hR hS => ?_)
          refine W_st (st2 := []) rfl ?_
          cases hd
          exact r_vret C dX9_overhears_65 hR hS
      · rw [if_pos c8] at hd
        cases hd
        exact r_vret C dX9_overhears_49 hR hS
end
set_option maxHeartbeats 4000000 in
set_option maxRecDepth 100000 in
theorem ct_X9_overhears {l : Launch} {b0 : Nat} {D : va_G} {E : Nat → ClassId} {G : Hp} {a0 : Nat} {a1 : Int32} {a2 : Int32} {a3 : Int32} {a4 : Int32} {a5 : Int32} {a6 : Int32} {a7 : Int32} {GG : Hp} (hd : d_X9_overhears a0 a1 a2 a3 a4 a5 a6 a7 G = some GG) : CT l yX9_overhears cX9_overhears 10 none 2 0 0 b0 D E [rv a0, .int a1, .int a2, .int a3, .int a4, .int a5, .int a6, .int a7] G none GG := by
  refine CT_of (by decide +kernel) ?_
  intro p e s m below meth c C hnm hR
  refine r_entry [.inr a0, .inl a1, .inl a2, .inl a3, .inl a4, .inl a5, .inl a6, .inl a7] (n := 10) (Nat.le_of_ble_eq_true rfl) (lv := [(0, .inr a0), (1, .inl a1), (2, .inl a2), (3, .inl a3), (4, .inl a4), (5, .inl a5), (6, .inl a6), (7, .inl a7)]) rfl (fun ls hL => ?_)
  exact k_X9_overhears C (lx_sub hL [0, 1, 2, 3, 4, 5, 6, 7] rfl) hR ⟨fun _ _ => rfl, fun _ h => by cases h⟩ hd

/-! GroveWorksModel.mayStraight(IIIIZ)Z -/
theorem dX9_mayStraight_0 : decode cX9_mayStraight 0 = .ok (.iload 5, 2) := by decide +kernel
theorem dX9_mayStraight_2 : decode cX9_mayStraight 2 = .ok (.ifCond .ne 40, 3) := by decide +kernel
theorem dX9_mayStraight_5 : decode cX9_mayStraight 5 = .ok (.aload_n 0, 1) := by decide +kernel
theorem dX9_mayStraight_6 : decode cX9_mayStraight 6 = .ok (.aload_n 0, 1) := by decide +kernel
theorem dX9_mayStraight_7 : decode cX9_mayStraight 7 = .ok (.iload_n 1, 1) := by decide +kernel
theorem dX9_mayStraight_8 : decode cX9_mayStraight 8 = .ok (.iload_n 3, 1) := by decide +kernel
theorem dX9_mayStraight_9 : decode cX9_mayStraight 9 = .ok (.invokevirtual 194, 3) := by decide +kernel
theorem dX9_mayStraight_12 : decode cX9_mayStraight 12 = .ok (.invokevirtual 293, 3) := by decide +kernel
theorem dX9_mayStraight_15 : decode cX9_mayStraight 15 = .ok (.iload_n 2, 1) := by decide +kernel
theorem dX9_mayStraight_16 : decode cX9_mayStraight 16 = .ok (.if_icmp .ne 26, 3) := by decide +kernel
theorem dX9_mayStraight_19 : decode cX9_mayStraight 19 = .ok (.aload_n 0, 1) := by decide +kernel
theorem dX9_mayStraight_20 : decode cX9_mayStraight 20 = .ok (.iload_n 1, 1) := by decide +kernel
theorem dX9_mayStraight_21 : decode cX9_mayStraight 21 = .ok (.iload_n 3, 1) := by decide +kernel
theorem dX9_mayStraight_22 : decode cX9_mayStraight 22 = .ok (.iload 4, 2) := by decide +kernel
theorem dX9_mayStraight_24 : decode cX9_mayStraight 24 = .ok (.invokevirtual 235, 3) := by decide +kernel
theorem dX9_mayStraight_27 : decode cX9_mayStraight 27 = .ok (.ifCond .eq 15, 3) := by decide +kernel
theorem dX9_mayStraight_30 : decode cX9_mayStraight 30 = .ok (.aload_n 0, 1) := by decide +kernel
theorem dX9_mayStraight_31 : decode cX9_mayStraight 31 = .ok (.iload_n 1, 1) := by decide +kernel
theorem dX9_mayStraight_32 : decode cX9_mayStraight 32 = .ok (.iload_n 2, 1) := by decide +kernel
theorem dX9_mayStraight_33 : decode cX9_mayStraight 33 = .ok (.iload_n 3, 1) := by decide +kernel
theorem dX9_mayStraight_34 : decode cX9_mayStraight 34 = .ok (.iload 4, 2) := by decide +kernel
theorem dX9_mayStraight_36 : decode cX9_mayStraight 36 = .ok (.invokevirtual 211, 3) := by decide +kernel
theorem dX9_mayStraight_39 : decode cX9_mayStraight 39 = .ok (.ifCond .eq 5, 3) := by decide +kernel
theorem dX9_mayStraight_42 : decode cX9_mayStraight 42 = .ok (.iconst 1, 1) := by decide +kernel
theorem dX9_mayStraight_43 : decode cX9_mayStraight 43 = .ok (.ireturn, 1) := by decide +kernel
theorem dX9_mayStraight_44 : decode cX9_mayStraight 44 = .ok (.aload_n 0, 1) := by decide +kernel
theorem dX9_mayStraight_45 : decode cX9_mayStraight 45 = .ok (.iload_n 1, 1) := by decide +kernel
theorem dX9_mayStraight_46 : decode cX9_mayStraight 46 = .ok (.iload_n 3, 1) := by decide +kernel
theorem dX9_mayStraight_47 : decode cX9_mayStraight 47 = .ok (.iconst 1, 1) := by decide +kernel
theorem dX9_mayStraight_48 : decode cX9_mayStraight 48 = .ok (.iload 4, 2) := by decide +kernel
theorem dX9_mayStraight_50 : decode cX9_mayStraight 50 = .ok (.iadd, 1) := by decide +kernel
theorem dX9_mayStraight_51 : decode cX9_mayStraight 51 = .ok (.invokevirtual 232, 3) := by decide +kernel
theorem dX9_mayStraight_54 : decode cX9_mayStraight 54 = .ok (.istore 6, 2) := by decide +kernel
theorem dX9_mayStraight_56 : decode cX9_mayStraight 56 = .ok (.iload 6, 2) := by decide +kernel
theorem dX9_mayStraight_58 : decode cX9_mayStraight 58 = .ok (.iconst (-1), 1) := by decide +kernel
theorem dX9_mayStraight_59 : decode cX9_mayStraight 59 = .ok (.if_icmp .eq 19, 3) := by decide +kernel
theorem dX9_mayStraight_62 : decode cX9_mayStraight 62 = .ok (.iload 6, 2) := by decide +kernel
theorem dX9_mayStraight_64 : decode cX9_mayStraight 64 = .ok (.aload_n 0, 1) := by decide +kernel
theorem dX9_mayStraight_65 : decode cX9_mayStraight 65 = .ok (.iload_n 1, 1) := by decide +kernel
theorem dX9_mayStraight_66 : decode cX9_mayStraight 66 = .ok (.iload_n 3, 1) := by decide +kernel
theorem dX9_mayStraight_67 : decode cX9_mayStraight 67 = .ok (.iconst 0, 1) := by decide +kernel
theorem dX9_mayStraight_68 : decode cX9_mayStraight 68 = .ok (.invokevirtual 232, 3) := by decide +kernel
theorem dX9_mayStraight_71 : decode cX9_mayStraight 71 = .ok (.if_icmp .ne 7, 3) := by decide +kernel
theorem dX9_mayStraight_74 : decode cX9_mayStraight 74 = .ok (.iconst 1, 1) := by decide +kernel
theorem dX9_mayStraight_75 : decode cX9_mayStraight 75 = .ok (.goto 4, 3) := by decide +kernel
theorem dX9_mayStraight_78 : decode cX9_mayStraight 78 = .ok (.iconst 0, 1) := by decide +kernel
theorem dX9_mayStraight_79 : decode cX9_mayStraight 79 = .ok (.ireturn, 1) := by decide +kernel
def d_X9_mayStraight (x0 : Nat) (x1 : Int32) (x2 : Int32) (x3 : Int32) (x4 : Int32) (x5 : Int32) (G : Hp) : Option (Int32 × Hp) :=
  if x5 = 0 then
    gd (hc G x0 = 10) <|
    b2 (d_X9_toMeeting x0 x1 x3 G) fun v4 G5 =>
    gd (hc G5 x0 = 10) <|
    bo (d_X9_portTo x0 v4 G5) fun v8 =>
    if v8 = x2 then
      b2 (d_X9_shared x0 x1 x3 x4 G5) fun v11 G12 =>
      if v11 = 0 then
        some (1, G12)
      else
        gd (hc G12 x0 = 10) <|
        b2 (d_X9_isLost x0 x1 x2 x3 x4 G12) fun v16 G17 =>
        if v16 = 0 then
          gd (hc G17 x0 = 10) <|
          b2 (d_X9_up x0 x1 x3 ((1 + x4)) G17) fun v21 G22 =>
          if v21 = (-1) then
            some (0, G22)
          else
            gd (hc G22 x0 = 10) <|
            b2 (d_X9_up x0 x1 x3 0 G22) fun v26 G27 =>
            if v21 = v26 then
              some (1, G27)
            else
              some (0, G27)
        else
          some (1, G17)
    else
      some (1, G5)
  else
    some (1, G)
section
variable {p : Program} {l : Launch} {e : Env} {s : State} {m : MethodId} {args : Array Value} {below : List Frame} {meth : Method} {c : Code} {b0 : Nat} {D : va_G} {E : Nat → ClassId}
set_option maxHeartbeats 4000000 in
set_option maxRecDepth 100000 in
theorem k_X9_mayStraight (C : Cx p s m args meth c RX9 cX9_mayStraight 7 (some .boolean) b0 D E) {rr : Int32} {GG : Hp} {x0 : Nat} {x1 : Int32} {x2 : Int32} {x3 : Int32} {x4 : Int32} {x5 : Int32} {G : Hp} {ls : Array Slot} {H : Heap} {locs : List Loc} : lx ls 7 [(0, .inr x0), (1, .inl x1), (2, .inl x2), (3, .inl x3), (4, .inl x4), (5, .inl x5)] → Rp b0 D E G H → SS b0 s H locs → d_X9_mayStraight x0 x1 x2 x3 x4 x5 G = some (rr, GG) → W p l e (rmd 9 (0) (0)) s m args below meth c H locs (0) (0) (MQ below (CQ b0 D E (some (.int rr)) GG) args s (0) (0) (fun q => b0 ≤ q)) (F0 m 0 ls []) := by
  intro hL hR hS hd
  unfold d_X9_mayStraight at hd
  have hx := C.1
  have hb := C.2.1
  refine x_iload C dX9_mayStraight_0 hL 5 rfl ?_
  refine lv_if_ne (tgt := 42) hx hb dX9_mayStraight_2 (by decide) (fun c1 => ?_) (fun c1 => ?_)
  · rw [if_neg c1] at hd
    refine lv_iconst (v := 1) hx hb dX9_mayStraight_42 (by decide) ?_
    cases hd
    exact r_zret C (by decide) dX9_mayStraight_43 hR hS
  · rw [if_pos c1] at hd
    refine x_aload_n C dX9_mayStraight_5 hL 0 rfl ?_
    refine x_aload_n C dX9_mayStraight_6 hL 0 rfl ?_
    refine x_iload_n C dX9_mayStraight_7 hL 1 rfl ?_
    refine x_iload_n C dX9_mayStraight_8 hL 3 rfl ?_
    obtain ⟨g2, hd⟩ := gd_ex hd
    obtain ⟨v4, G5, h3, hd⟩ := b2_ex hd
    refine r_callV (a := x0) (ci := 9) (As := [.int x1, .int x3]) C (ct_X9_toMeeting h3) mf_X9_toMeeting ml_X9_194 mv_X9_toMeeting rfl ⟨Nat.le_of_ble_eq_true rfl, Nat.le_of_ble_eq_true rfl⟩ dX9_mayStraight_9 (lx_size hL) rfl hR hS g2 ⟨Nat.le_refl _, Nat.le_refl _⟩ (cat_le [.inr x0] (Nat.le_of_ble_eq_true rfl)) (fun H locs hR hS => ?_)
    refine W_st (st2 := [.int v4, rv x0]) rfl ?_
    obtain ⟨g6, hd⟩ := gd_ex hd
    obtain ⟨v8, h7, hd⟩ := bo_ex hd
    refine r_callV (a := x0) (ci := 9) (As := [.int v4]) C (ct_X9_portTo h7) mf_X9_portTo ml_X9_293 mv_X9_portTo rfl ⟨Nat.le_of_ble_eq_true rfl, Nat.le_of_ble_eq_true rfl⟩ dX9_mayStraight_12 (lx_size hL) rfl hR hS g6 ⟨Nat.le_refl _, Nat.le_refl _⟩ (cat_le [] (Nat.le_of_ble_eq_true rfl)) (fun H locs hR hS => ?_)
    refine W_st (st2 := [.int v8]) rfl ?_
    refine x_iload_n C dX9_mayStraight_15 hL 2 rfl ?_
    refine lv_icmp_ne (tgt := 42) hx hb dX9_mayStraight_16 (by decide) (fun c9 => ?_) (fun c9 => ?_)
    · rw [if_neg c9] at hd
      refine lv_iconst (v := 1) hx hb dX9_mayStraight_42 (by decide) ?_
      cases hd
      exact r_zret C (by decide) dX9_mayStraight_43 hR hS
    · rw [if_pos c9] at hd
      refine x_aload_n C dX9_mayStraight_19 hL 0 rfl ?_
      refine x_iload_n C dX9_mayStraight_20 hL 1 rfl ?_
      refine x_iload_n C dX9_mayStraight_21 hL 3 rfl ?_
      refine x_iload C dX9_mayStraight_22 hL 4 rfl ?_
      obtain ⟨v11, G12, h10, hd⟩ := b2_ex hd
      refine r_callV (a := x0) (ci := 9) (As := [.int x1, .int x3, .int x4]) C (ct_X9_shared h10) mf_X9_shared ml_X9_235 mv_X9_shared rfl ⟨Nat.le_of_ble_eq_true rfl, Nat.le_of_ble_eq_true rfl⟩ dX9_mayStraight_24 (lx_size hL) rfl hR hS g6 ⟨Nat.le_refl _, Nat.le_refl _⟩ (cat_le [] (Nat.le_of_ble_eq_true rfl)) (fun H locs hR hS => ?_)
      refine W_st (st2 := [.int v11]) rfl ?_
      refine lv_if_eq (tgt := 42) hx hb dX9_mayStraight_27 (by decide) (fun c13 => ?_) (fun c13 => ?_)
      · rw [if_pos c13] at hd
        refine lv_iconst (v := 1) hx hb dX9_mayStraight_42 (by decide) ?_
        cases hd
        exact r_zret C (by decide) dX9_mayStraight_43 hR hS
      · rw [if_neg c13] at hd
        refine x_aload_n C dX9_mayStraight_30 hL 0 rfl ?_
        refine x_iload_n C dX9_mayStraight_31 hL 1 rfl ?_
        refine x_iload_n C dX9_mayStraight_32 hL 2 rfl ?_
        refine x_iload_n C dX9_mayStraight_33 hL 3 rfl ?_
        refine x_iload C dX9_mayStraight_34 hL 4 rfl ?_
        obtain ⟨g14, hd⟩ := gd_ex hd
        obtain ⟨v16, G17, h15, hd⟩ := b2_ex hd
        refine r_callV (a := x0) (ci := 9) (As := [.int x1, .int x2, .int x3, .int x4]) C (ct_X9_isLost h15) mf_X9_isLost ml_X9_211 mv_X9_isLost rfl ⟨Nat.le_of_ble_eq_true rfl, Nat.le_of_ble_eq_true rfl⟩ dX9_mayStraight_36 (lx_size hL) rfl hR hS g14 ⟨Nat.le_refl _, Nat.le_refl _⟩ (cat_le [] (Nat.le_of_ble_eq_true rfl)) (fun H locs hR hS => ?_)
        refine W_st (st2 := [.int v16]) rfl ?_
        refine lv_if_eq (tgt := 44) hx hb dX9_mayStraight_39 (by decide) (fun c18 => ?_) (fun c18 => ?_)
        · rw [if_pos c18] at hd
          refine x_aload_n C dX9_mayStraight_44 hL 0 rfl ?_
          refine x_iload_n C dX9_mayStraight_45 hL 1 rfl ?_
          refine x_iload_n C dX9_mayStraight_46 hL 3 rfl ?_
          refine lv_iconst (v := 1) hx hb dX9_mayStraight_47 (by decide) ?_
          refine x_iload C dX9_mayStraight_48 hL 4 rfl ?_
          refine lv_iadd hx hb dX9_mayStraight_50 ?_
          obtain ⟨g19, hd⟩ := gd_ex hd
          obtain ⟨v21, G22, h20, hd⟩ := b2_ex hd
          refine r_callV (a := x0) (ci := 9) (As := [.int x1, .int x3, .int ((1 + x4))]) C (ct_X9_up h20) mf_X9_up ml_X9_232 mv_X9_up rfl ⟨Nat.le_of_ble_eq_true rfl, Nat.le_of_ble_eq_true rfl⟩ dX9_mayStraight_51 (lx_size hL) rfl hR hS g19 ⟨Nat.le_refl _, Nat.le_refl _⟩ (cat_le [] (Nat.le_of_ble_eq_true rfl)) (fun H locs hR hS => ?_)
          refine W_st (st2 := [.int v21]) rfl ?_
          refine x_istore (lv' := [(6, .inl v21), (0, .inr x0), (1, .inl x1), (2, .inl x2), (3, .inl x3), (4, .inl x4), (5, .inl x5)]) C dX9_mayStraight_54 hL (by decide) rfl (fun ls hL => ?_)
          refine x_iload C dX9_mayStraight_56 hL 0 rfl ?_
          refine lv_iconst (v := (-1)) hx hb dX9_mayStraight_58 (by decide) ?_
          refine lv_icmp_eq (tgt := 78) hx hb dX9_mayStraight_59 (by decide) (fun c23 => ?_) (fun c23 => ?_)
          · rw [if_pos c23] at hd
            refine lv_iconst (v := 0) hx hb dX9_mayStraight_78 (by decide) ?_
            cases hd
            exact r_zret C (by decide) dX9_mayStraight_79 hR hS
          · rw [if_neg c23] at hd
            refine x_iload C dX9_mayStraight_62 hL 0 rfl ?_
            refine x_aload_n C dX9_mayStraight_64 hL 1 rfl ?_
            refine x_iload_n C dX9_mayStraight_65 hL 2 rfl ?_
            refine x_iload_n C dX9_mayStraight_66 hL 4 rfl ?_
            refine lv_iconst (v := 0) hx hb dX9_mayStraight_67 (by decide) ?_
            obtain ⟨g24, hd⟩ := gd_ex hd
            obtain ⟨v26, G27, h25, hd⟩ := b2_ex hd
            refine r_callV (a := x0) (ci := 9) (As := [.int x1, .int x3, .int 0]) C (ct_X9_up h25) mf_X9_up ml_X9_232 mv_X9_up rfl ⟨Nat.le_of_ble_eq_true rfl, Nat.le_of_ble_eq_true rfl⟩ dX9_mayStraight_68 (lx_size hL) rfl hR hS g24 ⟨Nat.le_refl _, Nat.le_refl _⟩ (cat_le [.inl v21] (Nat.le_of_ble_eq_true rfl)) (fun H locs hR hS => ?_)
            refine W_st (st2 := [.int v26, .int v21]) rfl ?_
            refine lv_icmp_ne (tgt := 78) hx hb dX9_mayStraight_71 (by decide) (fun c28 => ?_) (fun c28 => ?_)
            · rw [if_neg c28] at hd
              refine lv_iconst (v := 0) hx hb dX9_mayStraight_78 (by decide) ?_
              cases hd
              exact r_zret C (by decide) dX9_mayStraight_79 hR hS
            · rw [if_pos c28] at hd
              refine lv_iconst (v := 1) hx hb dX9_mayStraight_74 (by decide) ?_
              refine lv_goto (tgt := 79) hx hb dX9_mayStraight_75 (by decide) ?_
              cases hd
              exact r_zret C (by decide) dX9_mayStraight_79 hR hS
        · rw [if_neg c18] at hd
          refine lv_iconst (v := 1) hx hb dX9_mayStraight_42 (by decide) ?_
          cases hd
          exact r_zret C (by decide) dX9_mayStraight_43 hR hS
end
set_option maxHeartbeats 4000000 in
set_option maxRecDepth 100000 in
theorem ct_X9_mayStraight {l : Launch} {b0 : Nat} {D : va_G} {E : Nat → ClassId} {G : Hp} {a0 : Nat} {a1 : Int32} {a2 : Int32} {a3 : Int32} {a4 : Int32} {a5 : Int32} {rr : Int32} {GG : Hp} (hd : d_X9_mayStraight a0 a1 a2 a3 a4 a5 G = some (rr, GG)) : CT l yX9_mayStraight cX9_mayStraight 7 (some .boolean) 9 0 0 b0 D E [rv a0, .int a1, .int a2, .int a3, .int a4, .int a5] G (some (.int rr)) GG := by
  refine CT_of (by decide +kernel) ?_
  intro p e s m below meth c C hnm hR
  refine r_entry [.inr a0, .inl a1, .inl a2, .inl a3, .inl a4, .inl a5] (n := 7) (Nat.le_of_ble_eq_true rfl) (lv := [(0, .inr a0), (1, .inl a1), (2, .inl a2), (3, .inl a3), (4, .inl a4), (5, .inl a5)]) rfl (fun ls hL => ?_)
  exact k_X9_mayStraight C (lx_sub hL [0, 1, 2, 3, 4, 5] rfl) hR ⟨fun _ _ => rfl, fun _ h => by cases h⟩ hd

/-! GroveWorksModel.hasOwn(II)Z pure -/
theorem dX9_hasOwn_0 : decode cX9_hasOwn 0 = .ok (.iconst 0, 1) := by decide +kernel
theorem dX9_hasOwn_1 : decode cX9_hasOwn 1 = .ok (.istore_n 3, 1) := by decide +kernel
theorem dX9_hasOwn_2 : decode cX9_hasOwn 2 = .ok (.iload_n 3, 1) := by decide +kernel
theorem dX9_hasOwn_3 : decode cX9_hasOwn 3 = .ok (.iconst 4, 1) := by decide +kernel
theorem dX9_hasOwn_4 : decode cX9_hasOwn 4 = .ok (.if_icmp .ge 21, 3) := by decide +kernel
theorem dX9_hasOwn_7 : decode cX9_hasOwn 7 = .ok (.aload_n 0, 1) := by decide +kernel
theorem dX9_hasOwn_8 : decode cX9_hasOwn 8 = .ok (.iload_n 1, 1) := by decide +kernel
theorem dX9_hasOwn_9 : decode cX9_hasOwn 9 = .ok (.iload_n 3, 1) := by decide +kernel
theorem dX9_hasOwn_10 : decode cX9_hasOwn 10 = .ok (.iload_n 2, 1) := by decide +kernel
theorem dX9_hasOwn_11 : decode cX9_hasOwn 11 = .ok (.invokevirtual 188, 3) := by decide +kernel
theorem dX9_hasOwn_14 : decode cX9_hasOwn 14 = .ok (.ifCond .eq 5, 3) := by decide +kernel
theorem dX9_hasOwn_17 : decode cX9_hasOwn 17 = .ok (.iconst 1, 1) := by decide +kernel
theorem dX9_hasOwn_18 : decode cX9_hasOwn 18 = .ok (.ireturn, 1) := by decide +kernel
theorem dX9_hasOwn_19 : decode cX9_hasOwn 19 = .ok (.iinc 3 1, 3) := by decide +kernel
theorem dX9_hasOwn_22 : decode cX9_hasOwn 22 = .ok (.goto (-20), 3) := by decide +kernel
theorem dX9_hasOwn_25 : decode cX9_hasOwn 25 = .ok (.iconst 0, 1) := by decide +kernel
theorem dX9_hasOwn_26 : decode cX9_hasOwn 26 = .ok (.ireturn, 1) := by decide +kernel
def d_X9_hasOwn_2 : Nat → Nat → Int32 → Int32 → Int32 → Hp → Option (Int32)
  | 0, _, _, _, _, _ => none
  | n_ + 1, x0, x1, x2, x3, G =>
    if 4 ≤ x3 then
      some 0
    else
      gd (hc G x0 = 10) <|
      bo (d_X9_isOwn x0 x1 x3 x2 G) fun v4 =>
      if v4 = 0 then
        d_X9_hasOwn_2 n_ x0 x1 x2 ((x3 + 1)) G
      else
        some 1
def d_X9_hasOwn (x0 : Nat) (x1 : Int32) (x2 : Int32) (G : Hp) : Option (Int32) :=
  d_X9_hasOwn_2 FU x0 x1 x2 0 G
section
variable {p : Program} {l : Launch} {e : Env} {s : State} {m : MethodId} {args : Array Value} {below : List Frame} {meth : Method} {c : Code} {b0 : Nat} {D : va_G} {E : Nat → ClassId}
set_option maxHeartbeats 4000000 in
set_option maxRecDepth 100000 in
theorem k_X9_hasOwn_2 (C : Cx p s m args meth c RX9 cX9_hasOwn 4 (some .boolean) b0 D E) {rr : Int32} {G : Hp} : ∀ (n_ : Nat) {x0 : Nat} {x1 : Int32} {x2 : Int32} {x3 : Int32} {ls : Array Slot} {H : Heap} {locs : List Loc}, lx ls 4 [(0, .inr x0), (1, .inl x1), (2, .inl x2), (3, .inl x3)] → Rp b0 D E G H → SS b0 s H locs → d_X9_hasOwn_2 n_ x0 x1 x2 x3 G = some rr → W p l e (rmd 4 (0) (0)) s m args below meth c H locs (0) (0) (MQ below (CQ b0 D E (some (.int rr)) G) args s (0) (0) (fun q => b0 ≤ q)) (F0 m 2 ls []) := by
  intro n_
  induction n_ with
  | zero =>
    intro x0 x1 x2 x3 ls H locs hL hR hS hd
    cases (show (none : Option _) = some _ from hd)
  | succ n_ ih =>
    intro x0 x1 x2 x3 ls H locs hL hR hS hd
    rw [d_X9_hasOwn_2.eq_2] at hd
    have hx := C.1
    have hb := C.2.1
    refine x_iload_n C dX9_hasOwn_2 hL 3 rfl ?_
    refine lv_iconst (v := 4) hx hb dX9_hasOwn_3 (by decide) ?_
    refine lv_icmp_ge (tgt := 25) hx hb dX9_hasOwn_4 (by decide) (fun c1 => ?_) (fun c1 => ?_)
    · rw [if_pos c1] at hd
      refine lv_iconst (v := 0) hx hb dX9_hasOwn_25 (by decide) ?_
      cases hd
      exact r_zret C (by decide) dX9_hasOwn_26 hR hS
    · rw [if_neg c1] at hd
      refine x_aload_n C dX9_hasOwn_7 hL 0 rfl ?_
      refine x_iload_n C dX9_hasOwn_8 hL 1 rfl ?_
      refine x_iload_n C dX9_hasOwn_9 hL 3 rfl ?_
      refine x_iload_n C dX9_hasOwn_10 hL 2 rfl ?_
      obtain ⟨g2, hd⟩ := gd_ex hd
      obtain ⟨v4, h3, hd⟩ := bo_ex hd
      refine r_callV (a := x0) (ci := 9) (As := [.int x1, .int x3, .int x2]) C (ct_X9_isOwn h3) mf_X9_isOwn ml_X9_188 mv_X9_isOwn rfl ⟨Nat.le_of_ble_eq_true rfl, Nat.le_of_ble_eq_true rfl⟩ dX9_hasOwn_11 (lx_size hL) rfl hR hS g2 ⟨Nat.le_refl _, Nat.le_refl _⟩ (cat_le [] (Nat.le_of_ble_eq_true rfl)) (fun H locs hR hS => ?_)
      refine W_st (st2 := [.int v4]) rfl ?_
      refine lv_if_eq (tgt := 19) hx hb dX9_hasOwn_14 (by decide) (fun c5 => ?_) (fun c5 => ?_)
      · rw [if_pos c5] at hd
        refine x_iinc (lv' := [(3, .inl ((x3 + 1))), (0, .inr x0), (1, .inl x1), (2, .inl x2)]) C dX9_hasOwn_19 hL 3 rfl rfl (by decide) rfl (fun ls hL => ?_)
        refine lv_goto (tgt := 2) hx hb dX9_hasOwn_22 (by decide) ?_
        exact ih (lx_sub hL [1, 2, 3, 0] rfl) hR hS hd
      · rw [if_neg c5] at hd
        refine lv_iconst (v := 1) hx hb dX9_hasOwn_17 (by decide) ?_
        cases hd
        exact r_zret C (by decide) dX9_hasOwn_18 hR hS
set_option maxHeartbeats 4000000 in
set_option maxRecDepth 100000 in
theorem k_X9_hasOwn (C : Cx p s m args meth c RX9 cX9_hasOwn 4 (some .boolean) b0 D E) {rr : Int32} {G : Hp} {x0 : Nat} {x1 : Int32} {x2 : Int32} {ls : Array Slot} {H : Heap} {locs : List Loc} : lx ls 4 [(0, .inr x0), (1, .inl x1), (2, .inl x2)] → Rp b0 D E G H → SS b0 s H locs → d_X9_hasOwn x0 x1 x2 G = some rr → W p l e (rmd 4 (0) (0)) s m args below meth c H locs (0) (0) (MQ below (CQ b0 D E (some (.int rr)) G) args s (0) (0) (fun q => b0 ≤ q)) (F0 m 0 ls []) := by
  intro hL hR hS hd
  unfold d_X9_hasOwn at hd
  have hx := C.1
  have hb := C.2.1
  refine lv_iconst (v := 0) hx hb dX9_hasOwn_0 (by decide) ?_
  refine x_istore_n (lv' := [(3, .inl 0), (0, .inr x0), (1, .inl x1), (2, .inl x2)]) C dX9_hasOwn_1 hL (by decide) rfl (fun ls hL => ?_)
  exact k_X9_hasOwn_2 C FU (lx_sub hL [1, 2, 3, 0] rfl) hR hS hd
end
set_option maxHeartbeats 4000000 in
set_option maxRecDepth 100000 in
theorem ct_X9_hasOwn {l : Launch} {b0 : Nat} {D : va_G} {E : Nat → ClassId} {G : Hp} {a0 : Nat} {a1 : Int32} {a2 : Int32} {rr : Int32} (hd : d_X9_hasOwn a0 a1 a2 G = some rr) : CT l yX9_hasOwn cX9_hasOwn 4 (some .boolean) 4 0 0 b0 D E [rv a0, .int a1, .int a2] G (some (.int rr)) G := by
  refine CT_of (by decide +kernel) ?_
  intro p e s m below meth c C hnm hR
  refine r_entry [.inr a0, .inl a1, .inl a2] (n := 4) (Nat.le_of_ble_eq_true rfl) (lv := [(0, .inr a0), (1, .inl a1), (2, .inl a2)]) rfl (fun ls hL => ?_)
  exact k_X9_hasOwn C (lx_sub hL [0, 1, 2] rfl) hR ⟨fun _ _ => rfl, fun _ h => by cases h⟩ hd

/-! GroveWorksModel.data(IIIIII)V -/
theorem dX9_data_0 : decode cX9_data 0 = .ok (.aload_n 0, 1) := by decide +kernel
theorem dX9_data_1 : decode cX9_data 1 = .ok (.iload_n 1, 1) := by decide +kernel
theorem dX9_data_2 : decode cX9_data 2 = .ok (.iload 4, 2) := by decide +kernel
theorem dX9_data_4 : decode cX9_data 4 = .ok (.invokevirtual 160, 3) := by decide +kernel
theorem dX9_data_7 : decode cX9_data 7 = .ok (.istore 7, 2) := by decide +kernel
theorem dX9_data_9 : decode cX9_data 9 = .ok (.aload_n 0, 1) := by decide +kernel
theorem dX9_data_10 : decode cX9_data 10 = .ok (.iload 7, 2) := by decide +kernel
theorem dX9_data_12 : decode cX9_data 12 = .ok (.invokevirtual 293, 3) := by decide +kernel
theorem dX9_data_15 : decode cX9_data 15 = .ok (.iload_n 2, 1) := by decide +kernel
theorem dX9_data_16 : decode cX9_data 16 = .ok (.if_icmp .ne 7, 3) := by decide +kernel
theorem dX9_data_19 : decode cX9_data 19 = .ok (.iconst 1, 1) := by decide +kernel
theorem dX9_data_20 : decode cX9_data 20 = .ok (.goto 4, 3) := by decide +kernel
theorem dX9_data_23 : decode cX9_data 23 = .ok (.iconst 0, 1) := by decide +kernel
theorem dX9_data_24 : decode cX9_data 24 = .ok (.istore 8, 2) := by decide +kernel
theorem dX9_data_26 : decode cX9_data 26 = .ok (.aload_n 0, 1) := by decide +kernel
theorem dX9_data_27 : decode cX9_data 27 = .ok (.iload_n 1, 1) := by decide +kernel
theorem dX9_data_28 : decode cX9_data 28 = .ok (.iload 4, 2) := by decide +kernel
theorem dX9_data_30 : decode cX9_data 30 = .ok (.invokevirtual 297, 3) := by decide +kernel
theorem dX9_data_33 : decode cX9_data 33 = .ok (.ifCond .eq 12, 3) := by decide +kernel
theorem dX9_data_36 : decode cX9_data 36 = .ok (.iload 8, 2) := by decide +kernel
theorem dX9_data_38 : decode cX9_data 38 = .ok (.ifCond .eq 7, 3) := by decide +kernel
theorem dX9_data_41 : decode cX9_data 41 = .ok (.iconst 1, 1) := by decide +kernel
theorem dX9_data_42 : decode cX9_data 42 = .ok (.goto 4, 3) := by decide +kernel
theorem dX9_data_45 : decode cX9_data 45 = .ok (.iconst 0, 1) := by decide +kernel
theorem dX9_data_46 : decode cX9_data 46 = .ok (.istore 9, 2) := by decide +kernel
theorem dX9_data_48 : decode cX9_data 48 = .ok (.bipush 16, 2) := by decide +kernel
theorem dX9_data_50 : decode cX9_data 50 = .ok (.bipush 8, 2) := by decide +kernel
theorem dX9_data_52 : decode cX9_data 52 = .ok (.iload_n 1, 1) := by decide +kernel
theorem dX9_data_53 : decode cX9_data 53 = .ok (.imul, 1) := by decide +kernel
theorem dX9_data_54 : decode cX9_data 54 = .ok (.iload_n 3, 1) := by decide +kernel
theorem dX9_data_55 : decode cX9_data 55 = .ok (.iadd, 1) := by decide +kernel
theorem dX9_data_56 : decode cX9_data 56 = .ok (.imul, 1) := by decide +kernel
theorem dX9_data_57 : decode cX9_data 57 = .ok (.iload 4, 2) := by decide +kernel
theorem dX9_data_59 : decode cX9_data 59 = .ok (.iadd, 1) := by decide +kernel
theorem dX9_data_60 : decode cX9_data 60 = .ok (.istore 10, 2) := by decide +kernel
theorem dX9_data_62 : decode cX9_data 62 = .ok (.aload_n 0, 1) := by decide +kernel
theorem dX9_data_63 : decode cX9_data 63 = .ok (.getfield 87, 3) := by decide +kernel
theorem dX9_data_66 : decode cX9_data 66 = .ok (.bipush 17, 2) := by decide +kernel
theorem dX9_data_68 : decode cX9_data 68 = .ok (.bipush 8, 2) := by decide +kernel
theorem dX9_data_70 : decode cX9_data 70 = .ok (.iload_n 1, 1) := by decide +kernel
theorem dX9_data_71 : decode cX9_data 71 = .ok (.imul, 1) := by decide +kernel
theorem dX9_data_72 : decode cX9_data 72 = .ok (.iload_n 3, 1) := by decide +kernel
theorem dX9_data_73 : decode cX9_data 73 = .ok (.iadd, 1) := by decide +kernel
theorem dX9_data_74 : decode cX9_data 74 = .ok (.imul, 1) := by decide +kernel
theorem dX9_data_75 : decode cX9_data 75 = .ok (.iconst 1, 1) := by decide +kernel
theorem dX9_data_76 : decode cX9_data 76 = .ok (.iadd, 1) := by decide +kernel
theorem dX9_data_77 : decode cX9_data 77 = .ok (.iload 4, 2) := by decide +kernel
theorem dX9_data_79 : decode cX9_data 79 = .ok (.iadd, 1) := by decide +kernel
theorem dX9_data_80 : decode cX9_data 80 = .ok (.iaload, 1) := by decide +kernel
theorem dX9_data_81 : decode cX9_data 81 = .ok (.iconst (-1), 1) := by decide +kernel
theorem dX9_data_82 : decode cX9_data 82 = .ok (.if_icmp .eq 7, 3) := by decide +kernel
theorem dX9_data_85 : decode cX9_data 85 = .ok (.iconst 1, 1) := by decide +kernel
theorem dX9_data_86 : decode cX9_data 86 = .ok (.goto 4, 3) := by decide +kernel
theorem dX9_data_89 : decode cX9_data 89 = .ok (.iconst 0, 1) := by decide +kernel
theorem dX9_data_90 : decode cX9_data 90 = .ok (.istore 11, 2) := by decide +kernel
theorem dX9_data_92 : decode cX9_data 92 = .ok (.iload 9, 2) := by decide +kernel
theorem dX9_data_94 : decode cX9_data 94 = .ok (.ifCond .ne 24, 3) := by decide +kernel
theorem dX9_data_97 : decode cX9_data 97 = .ok (.iload 8, 2) := by decide +kernel
theorem dX9_data_99 : decode cX9_data 99 = .ok (.ifCond .eq 27, 3) := by decide +kernel
theorem dX9_data_102 : decode cX9_data 102 = .ok (.iload 11, 2) := by decide +kernel
theorem dX9_data_104 : decode cX9_data 104 = .ok (.ifCond .eq 22, 3) := by decide +kernel
theorem dX9_data_107 : decode cX9_data 107 = .ok (.aload_n 0, 1) := by decide +kernel
theorem dX9_data_108 : decode cX9_data 108 = .ok (.iload_n 1, 1) := by decide +kernel
theorem dX9_data_109 : decode cX9_data 109 = .ok (.iload_n 3, 1) := by decide +kernel
theorem dX9_data_110 : decode cX9_data 110 = .ok (.iload 4, 2) := by decide +kernel
theorem dX9_data_112 : decode cX9_data 112 = .ok (.invokevirtual 223, 3) := by decide +kernel
theorem dX9_data_115 : decode cX9_data 115 = .ok (.ifCond .eq 11, 3) := by decide +kernel
theorem dX9_data_118 : decode cX9_data 118 = .ok (.aload_n 0, 1) := by decide +kernel
theorem dX9_data_119 : decode cX9_data 119 = .ok (.iload_n 1, 1) := by decide +kernel
theorem dX9_data_120 : decode cX9_data 120 = .ok (.iload_n 3, 1) := by decide +kernel
theorem dX9_data_121 : decode cX9_data 121 = .ok (.iload 4, 2) := by decide +kernel
theorem dX9_data_123 : decode cX9_data 123 = .ok (.invokevirtual 300, 3) := by decide +kernel
theorem dX9_data_126 : decode cX9_data 126 = .ok (.iload 8, 2) := by decide +kernel
theorem dX9_data_128 : decode cX9_data 128 = .ok (.ifCond .eq 36, 3) := by decide +kernel
theorem dX9_data_131 : decode cX9_data 131 = .ok (.aload_n 0, 1) := by decide +kernel
theorem dX9_data_132 : decode cX9_data 132 = .ok (.iload_n 1, 1) := by decide +kernel
theorem dX9_data_133 : decode cX9_data 133 = .ok (.iload_n 3, 1) := by decide +kernel
theorem dX9_data_134 : decode cX9_data 134 = .ok (.iload 4, 2) := by decide +kernel
theorem dX9_data_136 : decode cX9_data 136 = .ok (.invokevirtual 226, 3) := by decide +kernel
theorem dX9_data_139 : decode cX9_data 139 = .ok (.ifCond .eq 25, 3) := by decide +kernel
theorem dX9_data_142 : decode cX9_data 142 = .ok (.aload_n 0, 1) := by decide +kernel
theorem dX9_data_143 : decode cX9_data 143 = .ok (.iload_n 1, 1) := by decide +kernel
theorem dX9_data_144 : decode cX9_data 144 = .ok (.iload_n 2, 1) := by decide +kernel
theorem dX9_data_145 : decode cX9_data 145 = .ok (.iload_n 3, 1) := by decide +kernel
theorem dX9_data_146 : decode cX9_data 146 = .ok (.iload 4, 2) := by decide +kernel
theorem dX9_data_148 : decode cX9_data 148 = .ok (.iload 9, 2) := by decide +kernel
theorem dX9_data_150 : decode cX9_data 150 = .ok (.invokevirtual 303, 3) := by decide +kernel
theorem dX9_data_153 : decode cX9_data 153 = .ok (.ifCond .eq 11, 3) := by decide +kernel
theorem dX9_data_156 : decode cX9_data 156 = .ok (.aload_n 0, 1) := by decide +kernel
theorem dX9_data_157 : decode cX9_data 157 = .ok (.getfield 105, 3) := by decide +kernel
theorem dX9_data_160 : decode cX9_data 160 = .ok (.iload 10, 2) := by decide +kernel
theorem dX9_data_162 : decode cX9_data 162 = .ok (.iload_n 2, 1) := by decide +kernel
theorem dX9_data_163 : decode cX9_data 163 = .ok (.iastore, 1) := by decide +kernel
theorem dX9_data_164 : decode cX9_data 164 = .ok (.aload_n 0, 1) := by decide +kernel
theorem dX9_data_165 : decode cX9_data 165 = .ok (.iload_n 1, 1) := by decide +kernel
theorem dX9_data_166 : decode cX9_data 166 = .ok (.iload_n 3, 1) := by decide +kernel
theorem dX9_data_167 : decode cX9_data 167 = .ok (.iload 4, 2) := by decide +kernel
theorem dX9_data_169 : decode cX9_data 169 = .ok (.invokevirtual 191, 3) := by decide +kernel
theorem dX9_data_172 : decode cX9_data 172 = .ok (.istore 12, 2) := by decide +kernel
theorem dX9_data_174 : decode cX9_data 174 = .ok (.iload 8, 2) := by decide +kernel
theorem dX9_data_176 : decode cX9_data 176 = .ok (.ifCond .eq 34, 3) := by decide +kernel
theorem dX9_data_179 : decode cX9_data 179 = .ok (.iload 12, 2) := by decide +kernel
theorem dX9_data_181 : decode cX9_data 181 = .ok (.ifCond .eq 29, 3) := by decide +kernel
theorem dX9_data_184 : decode cX9_data 184 = .ok (.aload_n 0, 1) := by decide +kernel
theorem dX9_data_185 : decode cX9_data 185 = .ok (.iload_n 1, 1) := by decide +kernel
theorem dX9_data_186 : decode cX9_data 186 = .ok (.aload_n 0, 1) := by decide +kernel
theorem dX9_data_187 : decode cX9_data 187 = .ok (.iload_n 1, 1) := by decide +kernel
theorem dX9_data_188 : decode cX9_data 188 = .ok (.iload_n 3, 1) := by decide +kernel
theorem dX9_data_189 : decode cX9_data 189 = .ok (.iload 4, 2) := by decide +kernel
theorem dX9_data_191 : decode cX9_data 191 = .ok (.invokevirtual 223, 3) := by decide +kernel
theorem dX9_data_194 : decode cX9_data 194 = .ok (.iload_n 2, 1) := by decide +kernel
theorem dX9_data_195 : decode cX9_data 195 = .ok (.iload_n 3, 1) := by decide +kernel
theorem dX9_data_196 : decode cX9_data 196 = .ok (.iload 4, 2) := by decide +kernel
theorem dX9_data_198 : decode cX9_data 198 = .ok (.iload 5, 2) := by decide +kernel
theorem dX9_data_200 : decode cX9_data 200 = .ok (.iload 6, 2) := by decide +kernel
theorem dX9_data_202 : decode cX9_data 202 = .ok (.iconst 1, 1) := by decide +kernel
theorem dX9_data_203 : decode cX9_data 203 = .ok (.isub, 1) := by decide +kernel
theorem dX9_data_204 : decode cX9_data 204 = .ok (.invokevirtual 307, 3) := by decide +kernel
theorem dX9_data_207 : decode cX9_data 207 = .ok (.goto 110, 3) := by decide +kernel
theorem dX9_data_210 : decode cX9_data 210 = .ok (.iload 12, 2) := by decide +kernel
theorem dX9_data_212 : decode cX9_data 212 = .ok (.ifCond .ne 64, 3) := by decide +kernel
theorem dX9_data_215 : decode cX9_data 215 = .ok (.aload_n 0, 1) := by decide +kernel
theorem dX9_data_216 : decode cX9_data 216 = .ok (.aload_n 0, 1) := by decide +kernel
theorem dX9_data_217 : decode cX9_data 217 = .ok (.iload_n 1, 1) := by decide +kernel
theorem dX9_data_218 : decode cX9_data 218 = .ok (.iload_n 3, 1) := by decide +kernel
theorem dX9_data_219 : decode cX9_data 219 = .ok (.invokevirtual 194, 3) := by decide +kernel
theorem dX9_data_222 : decode cX9_data 222 = .ok (.invokevirtual 293, 3) := by decide +kernel
theorem dX9_data_225 : decode cX9_data 225 = .ok (.iload_n 2, 1) := by decide +kernel
theorem dX9_data_226 : decode cX9_data 226 = .ok (.if_icmp .ne 50, 3) := by decide +kernel
theorem dX9_data_229 : decode cX9_data 229 = .ok (.aload_n 0, 1) := by decide +kernel
theorem dX9_data_230 : decode cX9_data 230 = .ok (.iload_n 1, 1) := by decide +kernel
theorem dX9_data_231 : decode cX9_data 231 = .ok (.iload_n 3, 1) := by decide +kernel
theorem dX9_data_232 : decode cX9_data 232 = .ok (.iload 4, 2) := by decide +kernel
theorem dX9_data_234 : decode cX9_data 234 = .ok (.invokevirtual 235, 3) := by decide +kernel
theorem dX9_data_237 : decode cX9_data 237 = .ok (.istore 13, 2) := by decide +kernel
theorem dX9_data_239 : decode cX9_data 239 = .ok (.aload_n 0, 1) := by decide +kernel
theorem dX9_data_240 : decode cX9_data 240 = .ok (.iload_n 1, 1) := by decide +kernel
theorem dX9_data_241 : decode cX9_data 241 = .ok (.iload_n 3, 1) := by decide +kernel
theorem dX9_data_242 : decode cX9_data 242 = .ok (.invokevirtual 310, 3) := by decide +kernel
theorem dX9_data_245 : decode cX9_data 245 = .ok (.ifCond .eq 11, 3) := by decide +kernel
theorem dX9_data_248 : decode cX9_data 248 = .ok (.aload_n 0, 1) := by decide +kernel
theorem dX9_data_249 : decode cX9_data 249 = .ok (.iload_n 1, 1) := by decide +kernel
theorem dX9_data_250 : decode cX9_data 250 = .ok (.iload_n 3, 1) := by decide +kernel
theorem dX9_data_251 : decode cX9_data 251 = .ok (.iload 4, 2) := by decide +kernel
theorem dX9_data_253 : decode cX9_data 253 = .ok (.invokevirtual 300, 3) := by decide +kernel
theorem dX9_data_256 : decode cX9_data 256 = .ok (.aload_n 0, 1) := by decide +kernel
theorem dX9_data_257 : decode cX9_data 257 = .ok (.iload_n 1, 1) := by decide +kernel
theorem dX9_data_258 : decode cX9_data 258 = .ok (.iload 13, 2) := by decide +kernel
theorem dX9_data_260 : decode cX9_data 260 = .ok (.iload_n 2, 1) := by decide +kernel
theorem dX9_data_261 : decode cX9_data 261 = .ok (.iload_n 3, 1) := by decide +kernel
theorem dX9_data_262 : decode cX9_data 262 = .ok (.iload 4, 2) := by decide +kernel
theorem dX9_data_264 : decode cX9_data 264 = .ok (.iload 5, 2) := by decide +kernel
theorem dX9_data_266 : decode cX9_data 266 = .ok (.iload 6, 2) := by decide +kernel
theorem dX9_data_268 : decode cX9_data 268 = .ok (.iconst 1, 1) := by decide +kernel
theorem dX9_data_269 : decode cX9_data 269 = .ok (.isub, 1) := by decide +kernel
theorem dX9_data_270 : decode cX9_data 270 = .ok (.invokevirtual 307, 3) := by decide +kernel
theorem dX9_data_273 : decode cX9_data 273 = .ok (.goto 44, 3) := by decide +kernel
theorem dX9_data_276 : decode cX9_data 276 = .ok (.iload 12, 2) := by decide +kernel
theorem dX9_data_278 : decode cX9_data 278 = .ok (.ifCond .eq 18, 3) := by decide +kernel
theorem dX9_data_281 : decode cX9_data 281 = .ok (.aload_n 0, 1) := by decide +kernel
theorem dX9_data_282 : decode cX9_data 282 = .ok (.iload_n 1, 1) := by decide +kernel
theorem dX9_data_283 : decode cX9_data 283 = .ok (.iload_n 2, 1) := by decide +kernel
theorem dX9_data_284 : decode cX9_data 284 = .ok (.iload_n 3, 1) := by decide +kernel
theorem dX9_data_285 : decode cX9_data 285 = .ok (.iload 4, 2) := by decide +kernel
theorem dX9_data_287 : decode cX9_data 287 = .ok (.invokevirtual 217, 3) := by decide +kernel
theorem dX9_data_290 : decode cX9_data 290 = .ok (.ifCond .eq 27, 3) := by decide +kernel
theorem dX9_data_293 : decode cX9_data 293 = .ok (.goto 15, 3) := by decide +kernel
theorem dX9_data_296 : decode cX9_data 296 = .ok (.aload_n 0, 1) := by decide +kernel
theorem dX9_data_297 : decode cX9_data 297 = .ok (.iload_n 1, 1) := by decide +kernel
theorem dX9_data_298 : decode cX9_data 298 = .ok (.iload_n 2, 1) := by decide +kernel
theorem dX9_data_299 : decode cX9_data 299 = .ok (.iload_n 3, 1) := by decide +kernel
theorem dX9_data_300 : decode cX9_data 300 = .ok (.iload 4, 2) := by decide +kernel
theorem dX9_data_302 : decode cX9_data 302 = .ok (.invokevirtual 214, 3) := by decide +kernel
theorem dX9_data_305 : decode cX9_data 305 = .ok (.ifCond .eq 12, 3) := by decide +kernel
theorem dX9_data_308 : decode cX9_data 308 = .ok (.aload_n 0, 1) := by decide +kernel
theorem dX9_data_309 : decode cX9_data 309 = .ok (.iload_n 1, 1) := by decide +kernel
theorem dX9_data_310 : decode cX9_data 310 = .ok (.iload_n 2, 1) := by decide +kernel
theorem dX9_data_311 : decode cX9_data 311 = .ok (.iload_n 3, 1) := by decide +kernel
theorem dX9_data_312 : decode cX9_data 312 = .ok (.iload 4, 2) := by decide +kernel
theorem dX9_data_314 : decode cX9_data 314 = .ok (.invokevirtual 313, 3) := by decide +kernel
theorem dX9_data_317 : decode cX9_data 317 = .ok (.aload_n 0, 1) := by decide +kernel
theorem dX9_data_318 : decode cX9_data 318 = .ok (.getfield 122, 3) := by decide +kernel
theorem dX9_data_321 : decode cX9_data 321 = .ok (.aload_n 0, 1) := by decide +kernel
theorem dX9_data_322 : decode cX9_data 322 = .ok (.getfield 102, 3) := by decide +kernel
theorem dX9_data_325 : decode cX9_data 325 = .ok (.iload 10, 2) := by decide +kernel
theorem dX9_data_327 : decode cX9_data 327 = .ok (.iaload, 1) := by decide +kernel
theorem dX9_data_328 : decode cX9_data 328 = .ok (.if_icmp .ge 7, 3) := by decide +kernel
theorem dX9_data_331 : decode cX9_data 331 = .ok (.iconst 1, 1) := by decide +kernel
theorem dX9_data_332 : decode cX9_data 332 = .ok (.goto 4, 3) := by decide +kernel
theorem dX9_data_335 : decode cX9_data 335 = .ok (.iconst 0, 1) := by decide +kernel
theorem dX9_data_336 : decode cX9_data 336 = .ok (.istore 13, 2) := by decide +kernel
theorem dX9_data_338 : decode cX9_data 338 = .ok (.iload 9, 2) := by decide +kernel
theorem dX9_data_340 : decode cX9_data 340 = .ok (.ifCond .eq 39, 3) := by decide +kernel
theorem dX9_data_343 : decode cX9_data 343 = .ok (.aload_n 0, 1) := by decide +kernel
theorem dX9_data_344 : decode cX9_data 344 = .ok (.iload_n 1, 1) := by decide +kernel
theorem dX9_data_345 : decode cX9_data 345 = .ok (.iload_n 2, 1) := by decide +kernel
theorem dX9_data_346 : decode cX9_data 346 = .ok (.invokevirtual 185, 3) := by decide +kernel
theorem dX9_data_349 : decode cX9_data 349 = .ok (.ifCond .eq 30, 3) := by decide +kernel
theorem dX9_data_352 : decode cX9_data 352 = .ok (.iload_n 1, 1) := by decide +kernel
theorem dX9_data_353 : decode cX9_data 353 = .ok (.aload_n 0, 1) := by decide +kernel
theorem dX9_data_354 : decode cX9_data 354 = .ok (.getfield 23, 3) := by decide +kernel
theorem dX9_data_357 : decode cX9_data 357 = .ok (.iload_n 3, 1) := by decide +kernel
theorem dX9_data_358 : decode cX9_data 358 = .ok (.iaload, 1) := by decide +kernel
theorem dX9_data_359 : decode cX9_data 359 = .ok (.if_icmp .eq 20, 3) := by decide +kernel
theorem dX9_data_362 : decode cX9_data 362 = .ok (.iload 13, 2) := by decide +kernel
theorem dX9_data_364 : decode cX9_data 364 = .ok (.ifCond .ne 15, 3) := by decide +kernel
theorem dX9_data_367 : decode cX9_data 367 = .ok (.aload_n 0, 1) := by decide +kernel
theorem dX9_data_368 : decode cX9_data 368 = .ok (.iload_n 1, 1) := by decide +kernel
theorem dX9_data_369 : decode cX9_data 369 = .ok (.iload_n 3, 1) := by decide +kernel
theorem dX9_data_370 : decode cX9_data 370 = .ok (.iload 4, 2) := by decide +kernel
theorem dX9_data_372 : decode cX9_data 372 = .ok (.iload 5, 2) := by decide +kernel
theorem dX9_data_374 : decode cX9_data 374 = .ok (.iload 6, 2) := by decide +kernel
theorem dX9_data_376 : decode cX9_data 376 = .ok (.invokevirtual 316, 3) := by decide +kernel
theorem dX9_data_379 : decode cX9_data 379 = .ok (.return_, 1) := by decide +kernel
def d_X9_data_336 (x0 : Nat) (x1 : Int32) (x2 : Int32) (x3 : Int32) (x4 : Int32) (x5 : Int32) (x6 : Int32) (x9 : Int32) (s0 : Int32) (G : Hp) : Option (Hp) :=
  if x9 = 0 then
    some G
  else
    gd (hc G x0 = 10) <|
    bo (d_X9_isFirst x0 x1 x2 G) fun v4 =>
    if v4 = 0 then
      some G
    else
      gd (hc G ((hr G x0 12)) = 11 ∧ ix x3 (hl G ((hr G x0 12)))) <|
      if x1 = ((hi G ((hr G x0 12)) x3.toNatClampNeg)) then
        some G
      else
        if s0 = 0 then
          bo (d_X9_sendTunnel x0 x1 x3 x4 x5 x6 G) fun G10 =>
          some G10
        else
          some G
def d_X9_data_317 (x0 : Nat) (x1 : Int32) (x2 : Int32) (x3 : Int32) (x4 : Int32) (x5 : Int32) (x6 : Int32) (x9 : Int32) (x10 : Int32) (G : Hp) : Option (Hp) :=
  gd (hc G x0 = 10) <|
  gd (hc G ((hr G x0 38)) = 11 ∧ ix x10 (hl G ((hr G x0 38)))) <|
  if ((hi G ((hr G x0 38)) x10.toNatClampNeg)) ≤ ((hi G x0 0)) then
    d_X9_data_336 x0 x1 x2 x3 x4 x5 x6 x9 0 G
  else
    d_X9_data_336 x0 x1 x2 x3 x4 x5 x6 x9 1 G
def d_X9_data_256 (x0 : Nat) (x1 : Int32) (x2 : Int32) (x3 : Int32) (x4 : Int32) (x5 : Int32) (x6 : Int32) (x9 : Int32) (x10 : Int32) (x13 : Int32) (G : Hp) : Option (Hp) :=
  gd (hc G x0 = 10) <|
  bo (d_X9_sendData x0 x1 x13 x2 x3 x4 x5 ((x6 - 1)) G) fun G3 =>
  d_X9_data_317 x0 x1 x2 x3 x4 x5 x6 x9 x10 G3
def d_X9_data_308 (x0 : Nat) (x1 : Int32) (x2 : Int32) (x3 : Int32) (x4 : Int32) (x5 : Int32) (x6 : Int32) (x9 : Int32) (x10 : Int32) (G : Hp) : Option (Hp) :=
  gd (hc G x0 = 10) <|
  bo (d_X9_sendClaim x0 x1 x2 x3 x4 G) fun G3 =>
  d_X9_data_317 x0 x1 x2 x3 x4 x5 x6 x9 x10 G3
def d_X9_data_276 (x0 : Nat) (x1 : Int32) (x2 : Int32) (x3 : Int32) (x4 : Int32) (x5 : Int32) (x6 : Int32) (x9 : Int32) (x10 : Int32) (x12 : Int32) (G : Hp) : Option (Hp) :=
  if x12 = 0 then
    gd (hc G x0 = 10) <|
    b2 (d_X9_isInShared x0 x1 x2 x3 x4 G) fun v4 G5 =>
    if v4 = 0 then
      d_X9_data_317 x0 x1 x2 x3 x4 x5 x6 x9 x10 G5
    else
      d_X9_data_308 x0 x1 x2 x3 x4 x5 x6 x9 x10 G5
  else
    gd (hc G x0 = 10) <|
    b2 (d_X9_isInAll x0 x1 x2 x3 x4 G) fun v9 G10 =>
    if v9 = 0 then
      d_X9_data_317 x0 x1 x2 x3 x4 x5 x6 x9 x10 G10
    else
      d_X9_data_308 x0 x1 x2 x3 x4 x5 x6 x9 x10 G10
def d_X9_data_210 (x0 : Nat) (x1 : Int32) (x2 : Int32) (x3 : Int32) (x4 : Int32) (x5 : Int32) (x6 : Int32) (x9 : Int32) (x10 : Int32) (x12 : Int32) (G : Hp) : Option (Hp) :=
  if x12 = 0 then
    gd (hc G x0 = 10) <|
    b2 (d_X9_toMeeting x0 x1 x3 G) fun v4 G5 =>
    gd (hc G5 x0 = 10) <|
    bo (d_X9_portTo x0 v4 G5) fun v8 =>
    if v8 = x2 then
      b2 (d_X9_shared x0 x1 x3 x4 G5) fun v11 G12 =>
      gd (hc G12 x0 = 10) <|
      bo (d_X9_hasOwn x0 x1 x3 G12) fun v15 =>
      if v15 = 0 then
        d_X9_data_256 x0 x1 x2 x3 x4 x5 x6 x9 x10 v11 G12
      else
        bo (d_X9_keep x0 x1 x3 x4 G12) fun G18 =>
        d_X9_data_256 x0 x1 x2 x3 x4 x5 x6 x9 x10 v11 G18
    else
      d_X9_data_276 x0 x1 x2 x3 x4 x5 x6 x9 x10 x12 G5
  else
    d_X9_data_276 x0 x1 x2 x3 x4 x5 x6 x9 x10 x12 G
def d_X9_data_164 (x0 : Nat) (x1 : Int32) (x2 : Int32) (x3 : Int32) (x4 : Int32) (x5 : Int32) (x6 : Int32) (x8 : Int32) (x9 : Int32) (x10 : Int32) (G : Hp) : Option (Hp) :=
  gd (hc G x0 = 10) <|
  bo (d_X9_isStraight x0 x1 x3 x4 G) fun v3 =>
  if x8 = 0 then
    d_X9_data_210 x0 x1 x2 x3 x4 x5 x6 x9 x10 v3 G
  else
    if v3 = 0 then
      d_X9_data_210 x0 x1 x2 x3 x4 x5 x6 x9 x10 v3 G
    else
      b2 (d_X9_all x0 x1 x3 x4 G) fun v7 G8 =>
      gd (hc G8 x0 = 10) <|
      bo (d_X9_sendData x0 x1 v7 x2 x3 x4 x5 ((x6 - 1)) G8) fun G11 =>
      d_X9_data_317 x0 x1 x2 x3 x4 x5 x6 x9 x10 G11
def d_X9_data_126 (x0 : Nat) (x1 : Int32) (x2 : Int32) (x3 : Int32) (x4 : Int32) (x5 : Int32) (x6 : Int32) (x8 : Int32) (x9 : Int32) (x10 : Int32) (G : Hp) : Option (Hp) :=
  if x8 = 0 then
    d_X9_data_164 x0 x1 x2 x3 x4 x5 x6 x8 x9 x10 G
  else
    gd (hc G x0 = 10) <|
    b2 (d_X9_wantsSource x0 x1 x3 x4 G) fun v4 G5 =>
    if v4 = 0 then
      d_X9_data_164 x0 x1 x2 x3 x4 x5 x6 x8 x9 x10 G5
    else
      gd (hc G5 x0 = 10) <|
      b2 (d_X9_mayStraight x0 x1 x2 x3 x4 x9 G5) fun v9 G10 =>
      if v9 = 0 then
        d_X9_data_164 x0 x1 x2 x3 x4 x5 x6 x8 x9 x10 G10
      else
        gd (hc G10 x0 = 10) <|
        gd (hc G10 ((hr G10 x0 39)) = 11 ∧ ix x10 (hl G10 ((hr G10 x0 39)))) <|
        bd (sI G10 ((hr G10 x0 39)) x10.toNatClampNeg x2) fun G14 =>
        d_X9_data_164 x0 x1 x2 x3 x4 x5 x6 x8 x9 x10 G14
def d_X9_data_118 (x0 : Nat) (x1 : Int32) (x2 : Int32) (x3 : Int32) (x4 : Int32) (x5 : Int32) (x6 : Int32) (x8 : Int32) (x9 : Int32) (x10 : Int32) (G : Hp) : Option (Hp) :=
  gd (hc G x0 = 10) <|
  bo (d_X9_keep x0 x1 x3 x4 G) fun G3 =>
  d_X9_data_126 x0 x1 x2 x3 x4 x5 x6 x8 x9 x10 G3
def d_X9_data_90 (x0 : Nat) (x1 : Int32) (x2 : Int32) (x3 : Int32) (x4 : Int32) (x5 : Int32) (x6 : Int32) (x8 : Int32) (x9 : Int32) (x10 : Int32) (s0 : Int32) (G : Hp) : Option (Hp) :=
  if x9 = 0 then
    if x8 = 0 then
      d_X9_data_126 x0 x1 x2 x3 x4 x5 x6 x8 x9 x10 G
    else
      if s0 = 0 then
        d_X9_data_126 x0 x1 x2 x3 x4 x5 x6 x8 x9 x10 G
      else
        gd (hc G x0 = 10) <|
        b2 (d_X9_all x0 x1 x3 x4 G) fun v6 G7 =>
        if v6 = 0 then
          d_X9_data_126 x0 x1 x2 x3 x4 x5 x6 x8 x9 x10 G7
        else
          d_X9_data_118 x0 x1 x2 x3 x4 x5 x6 x8 x9 x10 G7
  else
    d_X9_data_118 x0 x1 x2 x3 x4 x5 x6 x8 x9 x10 G
def d_X9_data_46 (x0 : Nat) (x1 : Int32) (x2 : Int32) (x3 : Int32) (x4 : Int32) (x5 : Int32) (x6 : Int32) (x8 : Int32) (s0 : Int32) (G : Hp) : Option (Hp) :=
  bd ((((16 * ((((8 * x1)) + x3)))) + x4)) fun v1 =>
  gd (hc G x0 = 10) <|
  gd (hc G ((hr G x0 33)) = 11 ∧ ix ((((((17 * ((((8 * x1)) + x3)))) + 1)) + x4)) (hl G ((hr G x0 33)))) <|
  if ((hi G ((hr G x0 33)) ((((((17 * ((((8 * x1)) + x3)))) + 1)) + x4)).toNatClampNeg)) = (-1) then
    d_X9_data_90 x0 x1 x2 x3 x4 x5 x6 x8 s0 v1 0 G
  else
    d_X9_data_90 x0 x1 x2 x3 x4 x5 x6 x8 s0 v1 1 G
def d_X9_data_45 (x0 : Nat) (x1 : Int32) (x2 : Int32) (x3 : Int32) (x4 : Int32) (x5 : Int32) (x6 : Int32) (x8 : Int32) (G : Hp) : Option (Hp) :=
  d_X9_data_46 x0 x1 x2 x3 x4 x5 x6 x8 0 G
def d_X9_data_24 (x0 : Nat) (x1 : Int32) (x2 : Int32) (x3 : Int32) (x4 : Int32) (x5 : Int32) (x6 : Int32) (s0 : Int32) (G : Hp) : Option (Hp) :=
  gd (hc G x0 = 10) <|
  b2 (d_X9_isDirect x0 x1 x4 G) fun v3 G4 =>
  if v3 = 0 then
    d_X9_data_45 x0 x1 x2 x3 x4 x5 x6 s0 G4
  else
    if s0 = 0 then
      d_X9_data_45 x0 x1 x2 x3 x4 x5 x6 s0 G4
    else
      d_X9_data_46 x0 x1 x2 x3 x4 x5 x6 s0 1 G4
def d_X9_data (x0 : Nat) (x1 : Int32) (x2 : Int32) (x3 : Int32) (x4 : Int32) (x5 : Int32) (x6 : Int32) (G : Hp) : Option (Hp) :=
  gd (hc G x0 = 10) <|
  b2 (d_X9_toSource x0 x1 x4 G) fun v3 G4 =>
  gd (hc G4 x0 = 10) <|
  bo (d_X9_portTo x0 v3 G4) fun v7 =>
  if v7 = x2 then
    d_X9_data_24 x0 x1 x2 x3 x4 x5 x6 1 G4
  else
    d_X9_data_24 x0 x1 x2 x3 x4 x5 x6 0 G4
section
variable {p : Program} {l : Launch} {e : Env} {s : State} {m : MethodId} {args : Array Value} {below : List Frame} {meth : Method} {c : Code} {b0 : Nat} {D : va_G} {E : Nat → ClassId}
set_option maxHeartbeats 4000000 in
set_option maxRecDepth 100000 in
theorem k_X9_data_336 (C : Cx p s m args meth c RX9 cX9_data 14 none b0 D E) {GG : Hp} {x0 : Nat} {x1 : Int32} {x2 : Int32} {x3 : Int32} {x4 : Int32} {x5 : Int32} {x6 : Int32} {x9 : Int32} {s0 : Int32} {G : Hp} {ls : Array Slot} {H : Heap} {locs : List Loc} : lx ls 14 [(0, .inr x0), (1, .inl x1), (2, .inl x2), (3, .inl x3), (4, .inl x4), (5, .inl x5), (6, .inl x6), (9, .inl x9)] → Rp b0 D E G H → SS b0 s H locs → d_X9_data_336 x0 x1 x2 x3 x4 x5 x6 x9 s0 G = some GG → W p l e (rmd 11 (0) (0)) s m args below meth c H locs (0) (0) (MQ below (CQ b0 D E none GG) args s (0) (0) (fun q => b0 ≤ q)) (F0 m 336 ls [.int s0]) := by
  intro hL hR hS hd
  unfold d_X9_data_336 at hd
  have hx := C.1
  have hb := C.2.1
  refine x_istore (lv' := [(13, .inl s0), (0, .inr x0), (1, .inl x1), (2, .inl x2), (3, .inl x3), (4, .inl x4), (5, .inl x5), (6, .inl x6), (9, .inl x9)]) C dX9_data_336 hL (by decide) rfl (fun ls hL => ?_)
  refine x_iload C dX9_data_338 hL 8 rfl ?_
  refine lv_if_eq (tgt := 379) hx hb dX9_data_340 (by decide) (fun c1 => ?_) (fun c1 => ?_)
  · rw [if_pos c1] at hd
    cases hd
    exact r_vret C dX9_data_379 hR hS
  · rw [if_neg c1] at hd
    refine x_aload_n C dX9_data_343 hL 1 rfl ?_
    refine x_iload_n C dX9_data_344 hL 2 rfl ?_
    refine x_iload_n C dX9_data_345 hL 3 rfl ?_
    obtain ⟨g2, hd⟩ := gd_ex hd
    obtain ⟨v4, h3, hd⟩ := bo_ex hd
    refine r_callV (a := x0) (ci := 9) (As := [.int x1, .int x2]) C (ct_X9_isFirst h3) mf_X9_isFirst ml_X9_185 mv_X9_isFirst rfl ⟨Nat.le_of_ble_eq_true rfl, Nat.le_of_ble_eq_true rfl⟩ dX9_data_346 (lx_size hL) rfl hR hS g2 ⟨Nat.le_refl _, Nat.le_refl _⟩ (cat_le [] (Nat.le_of_ble_eq_true rfl)) (fun H locs hR hS => ?_)
    refine W_st (st2 := [.int v4]) rfl ?_
    refine lv_if_eq (tgt := 379) hx hb dX9_data_349 (by decide) (fun c5 => ?_) (fun c5 => ?_)
    · rw [if_pos c5] at hd
      cases hd
      exact r_vret C dX9_data_379 hR hS
    · rw [if_neg c5] at hd
      refine x_iload_n C dX9_data_352 hL 2 rfl ?_
      refine x_aload_n C dX9_data_353 hL 1 rfl ?_
      refine r_getr (ci := 9) (k := 12) C fl_X9_23 rfl dX9_data_354 hR g2 ?_
      refine x_iload_n C dX9_data_357 hL 4 rfl ?_
      obtain ⟨g6, hd⟩ := gd_ex hd
      refine r_iald C dX9_data_358 hR g6 ?_
      refine lv_icmp_eq (tgt := 379) hx hb dX9_data_359 (by decide) (fun c7 => ?_) (fun c7 => ?_)
      · rw [if_pos c7] at hd
        cases hd
        exact r_vret C dX9_data_379 hR hS
      · rw [if_neg c7] at hd
        refine x_iload C dX9_data_362 hL 0 rfl ?_
        refine lv_if_ne (tgt := 379) hx hb dX9_data_364 (by decide) (fun c8 => ?_) (fun c8 => ?_)
        · rw [if_neg c8] at hd
          cases hd
          exact r_vret C dX9_data_379 hR hS
        · rw [if_pos c8] at hd
          refine x_aload_n C dX9_data_367 hL 1 rfl ?_
          refine x_iload_n C dX9_data_368 hL 2 rfl ?_
          refine x_iload_n C dX9_data_369 hL 4 rfl ?_
          refine x_iload C dX9_data_370 hL 5 rfl ?_
          refine x_iload C dX9_data_372 hL 6 rfl ?_
          refine x_iload C dX9_data_374 hL 7 rfl ?_
          obtain ⟨G10, h9, hd⟩ := bo_ex hd
          refine r_callV (a := x0) (ci := 9) (As := [.int x1, .int x3, .int x4, .int x5, .int x6]) C (ct_X9_sendTunnel h9) mf_X9_sendTunnel ml_X9_316 mv_X9_sendTunnel rfl ⟨Nat.le_of_ble_eq_true rfl, Nat.le_of_ble_eq_true rfl⟩ dX9_data_376 (lx_size hL) rfl hR hS g2 ⟨Nat.le_refl _, Nat.le_refl _⟩ (cat_le [] (Nat.le_of_ble_eq_true rfl)) (fun H locs hR hS => ?_)
          refine W_st (st2 := []) rfl ?_
          cases hd
          exact r_vret C dX9_data_379 hR hS
set_option maxHeartbeats 4000000 in
set_option maxRecDepth 100000 in
theorem k_X9_data_317 (C : Cx p s m args meth c RX9 cX9_data 14 none b0 D E) {GG : Hp} {x0 : Nat} {x1 : Int32} {x2 : Int32} {x3 : Int32} {x4 : Int32} {x5 : Int32} {x6 : Int32} {x9 : Int32} {x10 : Int32} {G : Hp} {ls : Array Slot} {H : Heap} {locs : List Loc} : lx ls 14 [(0, .inr x0), (1, .inl x1), (2, .inl x2), (3, .inl x3), (4, .inl x4), (5, .inl x5), (6, .inl x6), (9, .inl x9), (10, .inl x10)] → Rp b0 D E G H → SS b0 s H locs → d_X9_data_317 x0 x1 x2 x3 x4 x5 x6 x9 x10 G = some GG → W p l e (rmd 11 (0) (0)) s m args below meth c H locs (0) (0) (MQ below (CQ b0 D E none GG) args s (0) (0) (fun q => b0 ≤ q)) (F0 m 317 ls []) := by
  intro hL hR hS hd
  unfold d_X9_data_317 at hd
  have hx := C.1
  have hb := C.2.1
  refine x_aload_n C dX9_data_317 hL 0 rfl ?_
  obtain ⟨g1, hd⟩ := gd_ex hd
  refine r_geti (ci := 9) (k := 0) C fl_X9_122 rfl dX9_data_318 hR g1 ?_
  refine x_aload_n C dX9_data_321 hL 0 rfl ?_
  refine r_getr (ci := 9) (k := 38) C fl_X9_102 rfl dX9_data_322 hR g1 ?_
  refine x_iload C dX9_data_325 hL 8 rfl ?_
  obtain ⟨g2, hd⟩ := gd_ex hd
  refine r_iald C dX9_data_327 hR g2 ?_
  refine lv_icmp_ge (tgt := 335) hx hb dX9_data_328 (by decide) (fun c3 => ?_) (fun c3 => ?_)
  · rw [if_pos c3] at hd
    refine lv_iconst (v := 0) hx hb dX9_data_335 (by decide) ?_
    exact k_X9_data_336 C (lx_sub hL [0, 1, 2, 3, 4, 5, 6, 7] rfl) hR hS hd
  · rw [if_neg c3] at hd
    refine lv_iconst (v := 1) hx hb dX9_data_331 (by decide) ?_
    refine lv_goto (tgt := 336) hx hb dX9_data_332 (by decide) ?_
    exact k_X9_data_336 C (lx_sub hL [0, 1, 2, 3, 4, 5, 6, 7] rfl) hR hS hd
set_option maxHeartbeats 4000000 in
set_option maxRecDepth 100000 in
theorem k_X9_data_256 (C : Cx p s m args meth c RX9 cX9_data 14 none b0 D E) {GG : Hp} {x0 : Nat} {x1 : Int32} {x2 : Int32} {x3 : Int32} {x4 : Int32} {x5 : Int32} {x6 : Int32} {x9 : Int32} {x10 : Int32} {x13 : Int32} {G : Hp} {ls : Array Slot} {H : Heap} {locs : List Loc} : lx ls 14 [(0, .inr x0), (1, .inl x1), (2, .inl x2), (3, .inl x3), (4, .inl x4), (5, .inl x5), (6, .inl x6), (9, .inl x9), (10, .inl x10), (13, .inl x13)] → Rp b0 D E G H → SS b0 s H locs → d_X9_data_256 x0 x1 x2 x3 x4 x5 x6 x9 x10 x13 G = some GG → W p l e (rmd 11 (0) (0)) s m args below meth c H locs (0) (0) (MQ below (CQ b0 D E none GG) args s (0) (0) (fun q => b0 ≤ q)) (F0 m 256 ls []) := by
  intro hL hR hS hd
  unfold d_X9_data_256 at hd
  have hx := C.1
  have hb := C.2.1
  refine x_aload_n C dX9_data_256 hL 0 rfl ?_
  refine x_iload_n C dX9_data_257 hL 1 rfl ?_
  refine x_iload C dX9_data_258 hL 9 rfl ?_
  refine x_iload_n C dX9_data_260 hL 2 rfl ?_
  refine x_iload_n C dX9_data_261 hL 3 rfl ?_
  refine x_iload C dX9_data_262 hL 4 rfl ?_
  refine x_iload C dX9_data_264 hL 5 rfl ?_
  refine x_iload C dX9_data_266 hL 6 rfl ?_
  refine lv_iconst (v := 1) hx hb dX9_data_268 (by decide) ?_
  refine lv_isub hx hb dX9_data_269 ?_
  obtain ⟨g1, hd⟩ := gd_ex hd
  obtain ⟨G3, h2, hd⟩ := bo_ex hd
  refine r_callV (a := x0) (ci := 9) (As := [.int x1, .int x13, .int x2, .int x3, .int x4, .int x5, .int ((x6 - 1))]) C (ct_X9_sendData h2) mf_X9_sendData ml_X9_307 mv_X9_sendData rfl ⟨Nat.le_of_ble_eq_true rfl, Nat.le_of_ble_eq_true rfl⟩ dX9_data_270 (lx_size hL) rfl hR hS g1 ⟨Nat.le_refl _, Nat.le_refl _⟩ (cat_le [] (Nat.le_of_ble_eq_true rfl)) (fun H locs hR hS => ?_)
  refine W_st (st2 := []) rfl ?_
  refine lv_goto (tgt := 317) hx hb dX9_data_273 (by decide) ?_
  exact k_X9_data_317 C (lx_sub hL [0, 1, 2, 3, 4, 5, 6, 7, 8] rfl) hR hS hd
set_option maxHeartbeats 4000000 in
set_option maxRecDepth 100000 in
theorem k_X9_data_308 (C : Cx p s m args meth c RX9 cX9_data 14 none b0 D E) {GG : Hp} {x0 : Nat} {x1 : Int32} {x2 : Int32} {x3 : Int32} {x4 : Int32} {x5 : Int32} {x6 : Int32} {x9 : Int32} {x10 : Int32} {G : Hp} {ls : Array Slot} {H : Heap} {locs : List Loc} : lx ls 14 [(0, .inr x0), (1, .inl x1), (2, .inl x2), (3, .inl x3), (4, .inl x4), (5, .inl x5), (6, .inl x6), (9, .inl x9), (10, .inl x10)] → Rp b0 D E G H → SS b0 s H locs → d_X9_data_308 x0 x1 x2 x3 x4 x5 x6 x9 x10 G = some GG → W p l e (rmd 11 (0) (0)) s m args below meth c H locs (0) (0) (MQ below (CQ b0 D E none GG) args s (0) (0) (fun q => b0 ≤ q)) (F0 m 308 ls []) := by
  intro hL hR hS hd
  unfold d_X9_data_308 at hd
  have hx := C.1
  have hb := C.2.1
  refine x_aload_n C dX9_data_308 hL 0 rfl ?_
  refine x_iload_n C dX9_data_309 hL 1 rfl ?_
  refine x_iload_n C dX9_data_310 hL 2 rfl ?_
  refine x_iload_n C dX9_data_311 hL 3 rfl ?_
  refine x_iload C dX9_data_312 hL 4 rfl ?_
  obtain ⟨g1, hd⟩ := gd_ex hd
  obtain ⟨G3, h2, hd⟩ := bo_ex hd
  refine r_callV (a := x0) (ci := 9) (As := [.int x1, .int x2, .int x3, .int x4]) C (ct_X9_sendClaim h2) mf_X9_sendClaim ml_X9_313 mv_X9_sendClaim rfl ⟨Nat.le_of_ble_eq_true rfl, Nat.le_of_ble_eq_true rfl⟩ dX9_data_314 (lx_size hL) rfl hR hS g1 ⟨Nat.le_refl _, Nat.le_refl _⟩ (cat_le [] (Nat.le_of_ble_eq_true rfl)) (fun H locs hR hS => ?_)
  refine W_st (st2 := []) rfl ?_
  exact k_X9_data_317 C hL hR hS hd
set_option maxHeartbeats 4000000 in
set_option maxRecDepth 100000 in
theorem k_X9_data_276 (C : Cx p s m args meth c RX9 cX9_data 14 none b0 D E) {GG : Hp} {x0 : Nat} {x1 : Int32} {x2 : Int32} {x3 : Int32} {x4 : Int32} {x5 : Int32} {x6 : Int32} {x9 : Int32} {x10 : Int32} {x12 : Int32} {G : Hp} {ls : Array Slot} {H : Heap} {locs : List Loc} : lx ls 14 [(0, .inr x0), (1, .inl x1), (2, .inl x2), (3, .inl x3), (4, .inl x4), (5, .inl x5), (6, .inl x6), (9, .inl x9), (10, .inl x10), (12, .inl x12)] → Rp b0 D E G H → SS b0 s H locs → d_X9_data_276 x0 x1 x2 x3 x4 x5 x6 x9 x10 x12 G = some GG → W p l e (rmd 11 (0) (0)) s m args below meth c H locs (0) (0) (MQ below (CQ b0 D E none GG) args s (0) (0) (fun q => b0 ≤ q)) (F0 m 276 ls []) := by
  intro hL hR hS hd
  unfold d_X9_data_276 at hd
  have hx := C.1
  have hb := C.2.1
  refine x_iload C dX9_data_276 hL 9 rfl ?_
  refine lv_if_eq (tgt := 296) hx hb dX9_data_278 (by decide) (fun c1 => ?_) (fun c1 => ?_)
  · rw [if_pos c1] at hd
    refine x_aload_n C dX9_data_296 hL 0 rfl ?_
    refine x_iload_n C dX9_data_297 hL 1 rfl ?_
    refine x_iload_n C dX9_data_298 hL 2 rfl ?_
    refine x_iload_n C dX9_data_299 hL 3 rfl ?_
    refine x_iload C dX9_data_300 hL 4 rfl ?_
    obtain ⟨g2, hd⟩ := gd_ex hd
    obtain ⟨v4, G5, h3, hd⟩ := b2_ex hd
    refine r_callV (a := x0) (ci := 9) (As := [.int x1, .int x2, .int x3, .int x4]) C (ct_X9_isInShared h3) mf_X9_isInShared ml_X9_214 mv_X9_isInShared rfl ⟨Nat.le_of_ble_eq_true rfl, Nat.le_of_ble_eq_true rfl⟩ dX9_data_302 (lx_size hL) rfl hR hS g2 ⟨Nat.le_refl _, Nat.le_refl _⟩ (cat_le [] (Nat.le_of_ble_eq_true rfl)) (fun H locs hR hS => ?_)
    refine W_st (st2 := [.int v4]) rfl ?_
    refine lv_if_eq (tgt := 317) hx hb dX9_data_305 (by decide) (fun c6 => ?_) (fun c6 => ?_)
    · rw [if_pos c6] at hd
      exact k_X9_data_317 C (lx_sub hL [0, 1, 2, 3, 4, 5, 6, 7, 8] rfl) hR hS hd
    · rw [if_neg c6] at hd
      exact k_X9_data_308 C (lx_sub hL [0, 1, 2, 3, 4, 5, 6, 7, 8] rfl) hR hS hd
  · rw [if_neg c1] at hd
    refine x_aload_n C dX9_data_281 hL 0 rfl ?_
    refine x_iload_n C dX9_data_282 hL 1 rfl ?_
    refine x_iload_n C dX9_data_283 hL 2 rfl ?_
    refine x_iload_n C dX9_data_284 hL 3 rfl ?_
    refine x_iload C dX9_data_285 hL 4 rfl ?_
    obtain ⟨g7, hd⟩ := gd_ex hd
    obtain ⟨v9, G10, h8, hd⟩ := b2_ex hd
    refine r_callV (a := x0) (ci := 9) (As := [.int x1, .int x2, .int x3, .int x4]) C (ct_X9_isInAll h8) mf_X9_isInAll ml_X9_217 mv_X9_isInAll rfl ⟨Nat.le_of_ble_eq_true rfl, Nat.le_of_ble_eq_true rfl⟩ dX9_data_287 (lx_size hL) rfl hR hS g7 ⟨Nat.le_refl _, Nat.le_refl _⟩ (cat_le [] (Nat.le_of_ble_eq_true rfl)) (fun H locs hR hS => ?_)
    refine W_st (st2 := [.int v9]) rfl ?_
    refine lv_if_eq (tgt := 317) hx hb dX9_data_290 (by decide) (fun c11 => ?_) (fun c11 => ?_)
    · rw [if_pos c11] at hd
      exact k_X9_data_317 C (lx_sub hL [0, 1, 2, 3, 4, 5, 6, 7, 8] rfl) hR hS hd
    · rw [if_neg c11] at hd
      refine lv_goto (tgt := 308) hx hb dX9_data_293 (by decide) ?_
      exact k_X9_data_308 C (lx_sub hL [0, 1, 2, 3, 4, 5, 6, 7, 8] rfl) hR hS hd
set_option maxHeartbeats 4000000 in
set_option maxRecDepth 100000 in
theorem k_X9_data_210 (C : Cx p s m args meth c RX9 cX9_data 14 none b0 D E) {GG : Hp} {x0 : Nat} {x1 : Int32} {x2 : Int32} {x3 : Int32} {x4 : Int32} {x5 : Int32} {x6 : Int32} {x9 : Int32} {x10 : Int32} {x12 : Int32} {G : Hp} {ls : Array Slot} {H : Heap} {locs : List Loc} : lx ls 14 [(0, .inr x0), (1, .inl x1), (2, .inl x2), (3, .inl x3), (4, .inl x4), (5, .inl x5), (6, .inl x6), (9, .inl x9), (10, .inl x10), (12, .inl x12)] → Rp b0 D E G H → SS b0 s H locs → d_X9_data_210 x0 x1 x2 x3 x4 x5 x6 x9 x10 x12 G = some GG → W p l e (rmd 11 (0) (0)) s m args below meth c H locs (0) (0) (MQ below (CQ b0 D E none GG) args s (0) (0) (fun q => b0 ≤ q)) (F0 m 210 ls []) := by
  intro hL hR hS hd
  unfold d_X9_data_210 at hd
  have hx := C.1
  have hb := C.2.1
  refine x_iload C dX9_data_210 hL 9 rfl ?_
  refine lv_if_ne (tgt := 276) hx hb dX9_data_212 (by decide) (fun c1 => ?_) (fun c1 => ?_)
  · rw [if_neg c1] at hd
    exact k_X9_data_276 C hL hR hS hd
  · rw [if_pos c1] at hd
    refine x_aload_n C dX9_data_215 hL 0 rfl ?_
    refine x_aload_n C dX9_data_216 hL 0 rfl ?_
    refine x_iload_n C dX9_data_217 hL 1 rfl ?_
    refine x_iload_n C dX9_data_218 hL 3 rfl ?_
    obtain ⟨g2, hd⟩ := gd_ex hd
    obtain ⟨v4, G5, h3, hd⟩ := b2_ex hd
    refine r_callV (a := x0) (ci := 9) (As := [.int x1, .int x3]) C (ct_X9_toMeeting h3) mf_X9_toMeeting ml_X9_194 mv_X9_toMeeting rfl ⟨Nat.le_of_ble_eq_true rfl, Nat.le_of_ble_eq_true rfl⟩ dX9_data_219 (lx_size hL) rfl hR hS g2 ⟨Nat.le_refl _, Nat.le_refl _⟩ (cat_le [.inr x0] (Nat.le_of_ble_eq_true rfl)) (fun H locs hR hS => ?_)
    refine W_st (st2 := [.int v4, rv x0]) rfl ?_
    obtain ⟨g6, hd⟩ := gd_ex hd
    obtain ⟨v8, h7, hd⟩ := bo_ex hd
    refine r_callV (a := x0) (ci := 9) (As := [.int v4]) C (ct_X9_portTo h7) mf_X9_portTo ml_X9_293 mv_X9_portTo rfl ⟨Nat.le_of_ble_eq_true rfl, Nat.le_of_ble_eq_true rfl⟩ dX9_data_222 (lx_size hL) rfl hR hS g6 ⟨Nat.le_refl _, Nat.le_refl _⟩ (cat_le [] (Nat.le_of_ble_eq_true rfl)) (fun H locs hR hS => ?_)
    refine W_st (st2 := [.int v8]) rfl ?_
    refine x_iload_n C dX9_data_225 hL 2 rfl ?_
    refine lv_icmp_ne (tgt := 276) hx hb dX9_data_226 (by decide) (fun c9 => ?_) (fun c9 => ?_)
    · rw [if_neg c9] at hd
      exact k_X9_data_276 C hL hR hS hd
    · rw [if_pos c9] at hd
      refine x_aload_n C dX9_data_229 hL 0 rfl ?_
      refine x_iload_n C dX9_data_230 hL 1 rfl ?_
      refine x_iload_n C dX9_data_231 hL 3 rfl ?_
      refine x_iload C dX9_data_232 hL 4 rfl ?_
      obtain ⟨v11, G12, h10, hd⟩ := b2_ex hd
      refine r_callV (a := x0) (ci := 9) (As := [.int x1, .int x3, .int x4]) C (ct_X9_shared h10) mf_X9_shared ml_X9_235 mv_X9_shared rfl ⟨Nat.le_of_ble_eq_true rfl, Nat.le_of_ble_eq_true rfl⟩ dX9_data_234 (lx_size hL) rfl hR hS g6 ⟨Nat.le_refl _, Nat.le_refl _⟩ (cat_le [] (Nat.le_of_ble_eq_true rfl)) (fun H locs hR hS => ?_)
      refine W_st (st2 := [.int v11]) rfl ?_
      refine x_istore (lv' := [(13, .inl v11), (0, .inr x0), (1, .inl x1), (2, .inl x2), (3, .inl x3), (4, .inl x4), (5, .inl x5), (6, .inl x6), (9, .inl x9), (10, .inl x10), (12, .inl x12)]) C dX9_data_237 hL (by decide) rfl (fun ls hL => ?_)
      refine x_aload_n C dX9_data_239 hL 1 rfl ?_
      refine x_iload_n C dX9_data_240 hL 2 rfl ?_
      refine x_iload_n C dX9_data_241 hL 4 rfl ?_
      obtain ⟨g13, hd⟩ := gd_ex hd
      obtain ⟨v15, h14, hd⟩ := bo_ex hd
      refine r_callV (a := x0) (ci := 9) (As := [.int x1, .int x3]) C (ct_X9_hasOwn h14) mf_X9_hasOwn ml_X9_310 mv_X9_hasOwn rfl ⟨Nat.le_of_ble_eq_true rfl, Nat.le_of_ble_eq_true rfl⟩ dX9_data_242 (lx_size hL) rfl hR hS g13 ⟨Nat.le_refl _, Nat.le_refl _⟩ (cat_le [] (Nat.le_of_ble_eq_true rfl)) (fun H locs hR hS => ?_)
      refine W_st (st2 := [.int v15]) rfl ?_
      refine lv_if_eq (tgt := 256) hx hb dX9_data_245 (by decide) (fun c16 => ?_) (fun c16 => ?_)
      · rw [if_pos c16] at hd
        exact k_X9_data_256 C (lx_sub hL [1, 2, 3, 4, 5, 6, 7, 8, 9, 0] rfl) hR hS hd
      · rw [if_neg c16] at hd
        refine x_aload_n C dX9_data_248 hL 1 rfl ?_
        refine x_iload_n C dX9_data_249 hL 2 rfl ?_
        refine x_iload_n C dX9_data_250 hL 4 rfl ?_
        refine x_iload C dX9_data_251 hL 5 rfl ?_
        obtain ⟨G18, h17, hd⟩ := bo_ex hd
        refine r_callV (a := x0) (ci := 9) (As := [.int x1, .int x3, .int x4]) C (ct_X9_keep h17) mf_X9_keep ml_X9_300 mv_X9_keep rfl ⟨Nat.le_of_ble_eq_true rfl, Nat.le_of_ble_eq_true rfl⟩ dX9_data_253 (lx_size hL) rfl hR hS g13 ⟨Nat.le_refl _, Nat.le_refl _⟩ (cat_le [] (Nat.le_of_ble_eq_true rfl)) (fun H locs hR hS => ?_)
        refine W_st (st2 := []) rfl ?_
        exact k_X9_data_256 C (lx_sub hL [1, 2, 3, 4, 5, 6, 7, 8, 9, 0] rfl) hR hS hd
set_option maxHeartbeats 4000000 in
set_option maxRecDepth 100000 in
theorem k_X9_data_164 (C : Cx p s m args meth c RX9 cX9_data 14 none b0 D E) {GG : Hp} {x0 : Nat} {x1 : Int32} {x2 : Int32} {x3 : Int32} {x4 : Int32} {x5 : Int32} {x6 : Int32} {x8 : Int32} {x9 : Int32} {x10 : Int32} {G : Hp} {ls : Array Slot} {H : Heap} {locs : List Loc} : lx ls 14 [(0, .inr x0), (1, .inl x1), (2, .inl x2), (3, .inl x3), (4, .inl x4), (5, .inl x5), (6, .inl x6), (8, .inl x8), (9, .inl x9), (10, .inl x10)] → Rp b0 D E G H → SS b0 s H locs → d_X9_data_164 x0 x1 x2 x3 x4 x5 x6 x8 x9 x10 G = some GG → W p l e (rmd 11 (0) (0)) s m args below meth c H locs (0) (0) (MQ below (CQ b0 D E none GG) args s (0) (0) (fun q => b0 ≤ q)) (F0 m 164 ls []) := by
  intro hL hR hS hd
  unfold d_X9_data_164 at hd
  have hx := C.1
  have hb := C.2.1
  refine x_aload_n C dX9_data_164 hL 0 rfl ?_
  refine x_iload_n C dX9_data_165 hL 1 rfl ?_
  refine x_iload_n C dX9_data_166 hL 3 rfl ?_
  refine x_iload C dX9_data_167 hL 4 rfl ?_
  obtain ⟨g1, hd⟩ := gd_ex hd
  obtain ⟨v3, h2, hd⟩ := bo_ex hd
  refine r_callV (a := x0) (ci := 9) (As := [.int x1, .int x3, .int x4]) C (ct_X9_isStraight h2) mf_X9_isStraight ml_X9_191 mv_X9_isStraight rfl ⟨Nat.le_of_ble_eq_true rfl, Nat.le_of_ble_eq_true rfl⟩ dX9_data_169 (lx_size hL) rfl hR hS g1 ⟨Nat.le_refl _, Nat.le_refl _⟩ (cat_le [] (Nat.le_of_ble_eq_true rfl)) (fun H locs hR hS => ?_)
  refine W_st (st2 := [.int v3]) rfl ?_
  refine x_istore (lv' := [(12, .inl v3), (0, .inr x0), (1, .inl x1), (2, .inl x2), (3, .inl x3), (4, .inl x4), (5, .inl x5), (6, .inl x6), (8, .inl x8), (9, .inl x9), (10, .inl x10)]) C dX9_data_172 hL (by decide) rfl (fun ls hL => ?_)
  refine x_iload C dX9_data_174 hL 8 rfl ?_
  refine lv_if_eq (tgt := 210) hx hb dX9_data_176 (by decide) (fun c4 => ?_) (fun c4 => ?_)
  · rw [if_pos c4] at hd
    exact k_X9_data_210 C (lx_sub hL [1, 2, 3, 4, 5, 6, 7, 9, 10, 0] rfl) hR hS hd
  · rw [if_neg c4] at hd
    refine x_iload C dX9_data_179 hL 0 rfl ?_
    refine lv_if_eq (tgt := 210) hx hb dX9_data_181 (by decide) (fun c5 => ?_) (fun c5 => ?_)
    · rw [if_pos c5] at hd
      exact k_X9_data_210 C (lx_sub hL [1, 2, 3, 4, 5, 6, 7, 9, 10, 0] rfl) hR hS hd
    · rw [if_neg c5] at hd
      refine x_aload_n C dX9_data_184 hL 1 rfl ?_
      refine x_iload_n C dX9_data_185 hL 2 rfl ?_
      refine x_aload_n C dX9_data_186 hL 1 rfl ?_
      refine x_iload_n C dX9_data_187 hL 2 rfl ?_
      refine x_iload_n C dX9_data_188 hL 4 rfl ?_
      refine x_iload C dX9_data_189 hL 5 rfl ?_
      obtain ⟨v7, G8, h6, hd⟩ := b2_ex hd
      refine r_callV (a := x0) (ci := 9) (As := [.int x1, .int x3, .int x4]) C (ct_X9_all h6) mf_X9_all ml_X9_223 mv_X9_all rfl ⟨Nat.le_of_ble_eq_true rfl, Nat.le_of_ble_eq_true rfl⟩ dX9_data_191 (lx_size hL) rfl hR hS g1 ⟨Nat.le_refl _, Nat.le_refl _⟩ (cat_le [.inl x1, .inr x0] (Nat.le_of_ble_eq_true rfl)) (fun H locs hR hS => ?_)
      refine W_st (st2 := [.int v7, .int x1, rv x0]) rfl ?_
      refine x_iload_n C dX9_data_194 hL 3 rfl ?_
      refine x_iload_n C dX9_data_195 hL 4 rfl ?_
      refine x_iload C dX9_data_196 hL 5 rfl ?_
      refine x_iload C dX9_data_198 hL 6 rfl ?_
      refine x_iload C dX9_data_200 hL 7 rfl ?_
      refine lv_iconst (v := 1) hx hb dX9_data_202 (by decide) ?_
      refine lv_isub hx hb dX9_data_203 ?_
      obtain ⟨g9, hd⟩ := gd_ex hd
      obtain ⟨G11, h10, hd⟩ := bo_ex hd
      refine r_callV (a := x0) (ci := 9) (As := [.int x1, .int v7, .int x2, .int x3, .int x4, .int x5, .int ((x6 - 1))]) C (ct_X9_sendData h10) mf_X9_sendData ml_X9_307 mv_X9_sendData rfl ⟨Nat.le_of_ble_eq_true rfl, Nat.le_of_ble_eq_true rfl⟩ dX9_data_204 (lx_size hL) rfl hR hS g9 ⟨Nat.le_refl _, Nat.le_refl _⟩ (cat_le [] (Nat.le_of_ble_eq_true rfl)) (fun H locs hR hS => ?_)
      refine W_st (st2 := []) rfl ?_
      refine lv_goto (tgt := 317) hx hb dX9_data_207 (by decide) ?_
      exact k_X9_data_317 C (lx_sub hL [1, 2, 3, 4, 5, 6, 7, 9, 10] rfl) hR hS hd
set_option maxHeartbeats 4000000 in
set_option maxRecDepth 100000 in
theorem k_X9_data_126 (C : Cx p s m args meth c RX9 cX9_data 14 none b0 D E) {GG : Hp} {x0 : Nat} {x1 : Int32} {x2 : Int32} {x3 : Int32} {x4 : Int32} {x5 : Int32} {x6 : Int32} {x8 : Int32} {x9 : Int32} {x10 : Int32} {G : Hp} {ls : Array Slot} {H : Heap} {locs : List Loc} : lx ls 14 [(0, .inr x0), (1, .inl x1), (2, .inl x2), (3, .inl x3), (4, .inl x4), (5, .inl x5), (6, .inl x6), (8, .inl x8), (9, .inl x9), (10, .inl x10)] → Rp b0 D E G H → SS b0 s H locs → d_X9_data_126 x0 x1 x2 x3 x4 x5 x6 x8 x9 x10 G = some GG → W p l e (rmd 11 (0) (0)) s m args below meth c H locs (0) (0) (MQ below (CQ b0 D E none GG) args s (0) (0) (fun q => b0 ≤ q)) (F0 m 126 ls []) := by
  intro hL hR hS hd
  unfold d_X9_data_126 at hd
  have hx := C.1
  have hb := C.2.1
  refine x_iload C dX9_data_126 hL 7 rfl ?_
  refine lv_if_eq (tgt := 164) hx hb dX9_data_128 (by decide) (fun c1 => ?_) (fun c1 => ?_)
  · rw [if_pos c1] at hd
    exact k_X9_data_164 C hL hR hS hd
  · rw [if_neg c1] at hd
    refine x_aload_n C dX9_data_131 hL 0 rfl ?_
    refine x_iload_n C dX9_data_132 hL 1 rfl ?_
    refine x_iload_n C dX9_data_133 hL 3 rfl ?_
    refine x_iload C dX9_data_134 hL 4 rfl ?_
    obtain ⟨g2, hd⟩ := gd_ex hd
    obtain ⟨v4, G5, h3, hd⟩ := b2_ex hd
    refine r_callV (a := x0) (ci := 9) (As := [.int x1, .int x3, .int x4]) C (ct_X9_wantsSource h3) mf_X9_wantsSource ml_X9_226 mv_X9_wantsSource rfl ⟨Nat.le_of_ble_eq_true rfl, Nat.le_of_ble_eq_true rfl⟩ dX9_data_136 (lx_size hL) rfl hR hS g2 ⟨Nat.le_refl _, Nat.le_refl _⟩ (cat_le [] (Nat.le_of_ble_eq_true rfl)) (fun H locs hR hS => ?_)
    refine W_st (st2 := [.int v4]) rfl ?_
    refine lv_if_eq (tgt := 164) hx hb dX9_data_139 (by decide) (fun c6 => ?_) (fun c6 => ?_)
    · rw [if_pos c6] at hd
      exact k_X9_data_164 C hL hR hS hd
    · rw [if_neg c6] at hd
      refine x_aload_n C dX9_data_142 hL 0 rfl ?_
      refine x_iload_n C dX9_data_143 hL 1 rfl ?_
      refine x_iload_n C dX9_data_144 hL 2 rfl ?_
      refine x_iload_n C dX9_data_145 hL 3 rfl ?_
      refine x_iload C dX9_data_146 hL 4 rfl ?_
      refine x_iload C dX9_data_148 hL 8 rfl ?_
      obtain ⟨g7, hd⟩ := gd_ex hd
      obtain ⟨v9, G10, h8, hd⟩ := b2_ex hd
      refine r_callV (a := x0) (ci := 9) (As := [.int x1, .int x2, .int x3, .int x4, .int x9]) C (ct_X9_mayStraight h8) mf_X9_mayStraight ml_X9_303 mv_X9_mayStraight rfl ⟨Nat.le_of_ble_eq_true rfl, Nat.le_of_ble_eq_true rfl⟩ dX9_data_150 (lx_size hL) rfl hR hS g7 ⟨Nat.le_refl _, Nat.le_refl _⟩ (cat_le [] (Nat.le_of_ble_eq_true rfl)) (fun H locs hR hS => ?_)
      refine W_st (st2 := [.int v9]) rfl ?_
      refine lv_if_eq (tgt := 164) hx hb dX9_data_153 (by decide) (fun c11 => ?_) (fun c11 => ?_)
      · rw [if_pos c11] at hd
        exact k_X9_data_164 C hL hR hS hd
      · rw [if_neg c11] at hd
        refine x_aload_n C dX9_data_156 hL 0 rfl ?_
        obtain ⟨g12, hd⟩ := gd_ex hd
        refine r_getr (ci := 9) (k := 39) C fl_X9_105 rfl dX9_data_157 hR g12 ?_
        refine x_iload C dX9_data_160 hL 9 rfl ?_
        refine x_iload_n C dX9_data_162 hL 2 rfl ?_
        obtain ⟨g13, hd⟩ := gd_ex hd
        obtain ⟨G14, eG14, hd⟩ := bd_ex hd
        refine r_iast C dX9_data_163 hR hS g13 (fun H locs hR hS => ?_)
        replace hR : Rp b0 D E G14 H := by rw [eG14]; exact hR
        exact k_X9_data_164 C hL hR hS hd
set_option maxHeartbeats 4000000 in
set_option maxRecDepth 100000 in
theorem k_X9_data_118 (C : Cx p s m args meth c RX9 cX9_data 14 none b0 D E) {GG : Hp} {x0 : Nat} {x1 : Int32} {x2 : Int32} {x3 : Int32} {x4 : Int32} {x5 : Int32} {x6 : Int32} {x8 : Int32} {x9 : Int32} {x10 : Int32} {G : Hp} {ls : Array Slot} {H : Heap} {locs : List Loc} : lx ls 14 [(0, .inr x0), (1, .inl x1), (2, .inl x2), (3, .inl x3), (4, .inl x4), (5, .inl x5), (6, .inl x6), (8, .inl x8), (9, .inl x9), (10, .inl x10)] → Rp b0 D E G H → SS b0 s H locs → d_X9_data_118 x0 x1 x2 x3 x4 x5 x6 x8 x9 x10 G = some GG → W p l e (rmd 11 (0) (0)) s m args below meth c H locs (0) (0) (MQ below (CQ b0 D E none GG) args s (0) (0) (fun q => b0 ≤ q)) (F0 m 118 ls []) := by
  intro hL hR hS hd
  unfold d_X9_data_118 at hd
  have hx := C.1
  have hb := C.2.1
  refine x_aload_n C dX9_data_118 hL 0 rfl ?_
  refine x_iload_n C dX9_data_119 hL 1 rfl ?_
  refine x_iload_n C dX9_data_120 hL 3 rfl ?_
  refine x_iload C dX9_data_121 hL 4 rfl ?_
  obtain ⟨g1, hd⟩ := gd_ex hd
  obtain ⟨G3, h2, hd⟩ := bo_ex hd
  refine r_callV (a := x0) (ci := 9) (As := [.int x1, .int x3, .int x4]) C (ct_X9_keep h2) mf_X9_keep ml_X9_300 mv_X9_keep rfl ⟨Nat.le_of_ble_eq_true rfl, Nat.le_of_ble_eq_true rfl⟩ dX9_data_123 (lx_size hL) rfl hR hS g1 ⟨Nat.le_refl _, Nat.le_refl _⟩ (cat_le [] (Nat.le_of_ble_eq_true rfl)) (fun H locs hR hS => ?_)
  refine W_st (st2 := []) rfl ?_
  exact k_X9_data_126 C hL hR hS hd
set_option maxHeartbeats 4000000 in
set_option maxRecDepth 100000 in
theorem k_X9_data_90 (C : Cx p s m args meth c RX9 cX9_data 14 none b0 D E) {GG : Hp} {x0 : Nat} {x1 : Int32} {x2 : Int32} {x3 : Int32} {x4 : Int32} {x5 : Int32} {x6 : Int32} {x8 : Int32} {x9 : Int32} {x10 : Int32} {s0 : Int32} {G : Hp} {ls : Array Slot} {H : Heap} {locs : List Loc} : lx ls 14 [(0, .inr x0), (1, .inl x1), (2, .inl x2), (3, .inl x3), (4, .inl x4), (5, .inl x5), (6, .inl x6), (8, .inl x8), (9, .inl x9), (10, .inl x10)] → Rp b0 D E G H → SS b0 s H locs → d_X9_data_90 x0 x1 x2 x3 x4 x5 x6 x8 x9 x10 s0 G = some GG → W p l e (rmd 11 (0) (0)) s m args below meth c H locs (0) (0) (MQ below (CQ b0 D E none GG) args s (0) (0) (fun q => b0 ≤ q)) (F0 m 90 ls [.int s0]) := by
  intro hL hR hS hd
  unfold d_X9_data_90 at hd
  have hx := C.1
  have hb := C.2.1
  refine x_istore (lv' := [(11, .inl s0), (0, .inr x0), (1, .inl x1), (2, .inl x2), (3, .inl x3), (4, .inl x4), (5, .inl x5), (6, .inl x6), (8, .inl x8), (9, .inl x9), (10, .inl x10)]) C dX9_data_90 hL (by decide) rfl (fun ls hL => ?_)
  refine x_iload C dX9_data_92 hL 9 rfl ?_
  refine lv_if_ne (tgt := 118) hx hb dX9_data_94 (by decide) (fun c1 => ?_) (fun c1 => ?_)
  · rw [if_neg c1] at hd
    exact k_X9_data_118 C (lx_sub hL [1, 2, 3, 4, 5, 6, 7, 8, 9, 10] rfl) hR hS hd
  · rw [if_pos c1] at hd
    refine x_iload C dX9_data_97 hL 8 rfl ?_
    refine lv_if_eq (tgt := 126) hx hb dX9_data_99 (by decide) (fun c2 => ?_) (fun c2 => ?_)
    · rw [if_pos c2] at hd
      exact k_X9_data_126 C (lx_sub hL [1, 2, 3, 4, 5, 6, 7, 8, 9, 10] rfl) hR hS hd
    · rw [if_neg c2] at hd
      refine x_iload C dX9_data_102 hL 0 rfl ?_
      refine lv_if_eq (tgt := 126) hx hb dX9_data_104 (by decide) (fun c3 => ?_) (fun c3 => ?_)
      · rw [if_pos c3] at hd
        exact k_X9_data_126 C (lx_sub hL [1, 2, 3, 4, 5, 6, 7, 8, 9, 10] rfl) hR hS hd
      · rw [if_neg c3] at hd
        refine x_aload_n C dX9_data_107 hL 1 rfl ?_
        refine x_iload_n C dX9_data_108 hL 2 rfl ?_
        refine x_iload_n C dX9_data_109 hL 4 rfl ?_
        refine x_iload C dX9_data_110 hL 5 rfl ?_
        obtain ⟨g4, hd⟩ := gd_ex hd
        obtain ⟨v6, G7, h5, hd⟩ := b2_ex hd
        refine r_callV (a := x0) (ci := 9) (As := [.int x1, .int x3, .int x4]) C (ct_X9_all h5) mf_X9_all ml_X9_223 mv_X9_all rfl ⟨Nat.le_of_ble_eq_true rfl, Nat.le_of_ble_eq_true rfl⟩ dX9_data_112 (lx_size hL) rfl hR hS g4 ⟨Nat.le_refl _, Nat.le_refl _⟩ (cat_le [] (Nat.le_of_ble_eq_true rfl)) (fun H locs hR hS => ?_)
        refine W_st (st2 := [.int v6]) rfl ?_
        refine lv_if_eq (tgt := 126) hx hb dX9_data_115 (by decide) (fun c8 => ?_) (fun c8 => ?_)
        · rw [if_pos c8] at hd
          exact k_X9_data_126 C (lx_sub hL [1, 2, 3, 4, 5, 6, 7, 8, 9, 10] rfl) hR hS hd
        · rw [if_neg c8] at hd
          exact k_X9_data_118 C (lx_sub hL [1, 2, 3, 4, 5, 6, 7, 8, 9, 10] rfl) hR hS hd
set_option maxHeartbeats 4000000 in
set_option maxRecDepth 100000 in
theorem k_X9_data_46 (C : Cx p s m args meth c RX9 cX9_data 14 none b0 D E) {GG : Hp} {x0 : Nat} {x1 : Int32} {x2 : Int32} {x3 : Int32} {x4 : Int32} {x5 : Int32} {x6 : Int32} {x8 : Int32} {s0 : Int32} {G : Hp} {ls : Array Slot} {H : Heap} {locs : List Loc} : lx ls 14 [(0, .inr x0), (1, .inl x1), (2, .inl x2), (3, .inl x3), (4, .inl x4), (5, .inl x5), (6, .inl x6), (8, .inl x8)] → Rp b0 D E G H → SS b0 s H locs → d_X9_data_46 x0 x1 x2 x3 x4 x5 x6 x8 s0 G = some GG → W p l e (rmd 11 (0) (0)) s m args below meth c H locs (0) (0) (MQ below (CQ b0 D E none GG) args s (0) (0) (fun q => b0 ≤ q)) (F0 m 46 ls [.int s0]) := by
  intro hL hR hS hd
  unfold d_X9_data_46 at hd
  have hx := C.1
  have hb := C.2.1
  refine x_istore (lv' := [(9, .inl s0), (0, .inr x0), (1, .inl x1), (2, .inl x2), (3, .inl x3), (4, .inl x4), (5, .inl x5), (6, .inl x6), (8, .inl x8)]) C dX9_data_46 hL (by decide) rfl (fun ls hL => ?_)
  refine lv_bipush (v := 16) hx hb dX9_data_48 (by decide) ?_
  refine lv_bipush (v := 8) hx hb dX9_data_50 (by decide) ?_
  refine x_iload_n C dX9_data_52 hL 2 rfl ?_
  refine lv_imul hx hb dX9_data_53 ?_
  refine x_iload_n C dX9_data_54 hL 4 rfl ?_
  refine lv_iadd hx hb dX9_data_55 ?_
  refine lv_imul hx hb dX9_data_56 ?_
  refine x_iload C dX9_data_57 hL 5 rfl ?_
  refine lv_iadd hx hb dX9_data_59 ?_
  obtain ⟨v1, ev1, hd⟩ := bd_ex hd
  rw [← ev1]
  refine x_istore (lv' := [(10, .inl v1), (9, .inl s0), (0, .inr x0), (1, .inl x1), (2, .inl x2), (3, .inl x3), (4, .inl x4), (5, .inl x5), (6, .inl x6), (8, .inl x8)]) C dX9_data_60 hL (by decide) rfl (fun ls hL => ?_)
  refine x_aload_n C dX9_data_62 hL 2 rfl ?_
  obtain ⟨g2, hd⟩ := gd_ex hd
  refine r_getr (ci := 9) (k := 33) C fl_X9_87 rfl dX9_data_63 hR g2 ?_
  refine lv_bipush (v := 17) hx hb dX9_data_66 (by decide) ?_
  refine lv_bipush (v := 8) hx hb dX9_data_68 (by decide) ?_
  refine x_iload_n C dX9_data_70 hL 3 rfl ?_
  refine lv_imul hx hb dX9_data_71 ?_
  refine x_iload_n C dX9_data_72 hL 5 rfl ?_
  refine lv_iadd hx hb dX9_data_73 ?_
  refine lv_imul hx hb dX9_data_74 ?_
  refine lv_iconst (v := 1) hx hb dX9_data_75 (by decide) ?_
  refine lv_iadd hx hb dX9_data_76 ?_
  refine x_iload C dX9_data_77 hL 6 rfl ?_
  refine lv_iadd hx hb dX9_data_79 ?_
  obtain ⟨g3, hd⟩ := gd_ex hd
  refine r_iald C dX9_data_80 hR g3 ?_
  refine lv_iconst (v := (-1)) hx hb dX9_data_81 (by decide) ?_
  refine lv_icmp_eq (tgt := 89) hx hb dX9_data_82 (by decide) (fun c4 => ?_) (fun c4 => ?_)
  · rw [if_pos c4] at hd
    refine lv_iconst (v := 0) hx hb dX9_data_89 (by decide) ?_
    exact k_X9_data_90 C (lx_sub hL [2, 3, 4, 5, 6, 7, 8, 9, 1, 0] rfl) hR hS hd
  · rw [if_neg c4] at hd
    refine lv_iconst (v := 1) hx hb dX9_data_85 (by decide) ?_
    refine lv_goto (tgt := 90) hx hb dX9_data_86 (by decide) ?_
    exact k_X9_data_90 C (lx_sub hL [2, 3, 4, 5, 6, 7, 8, 9, 1, 0] rfl) hR hS hd
set_option maxHeartbeats 4000000 in
set_option maxRecDepth 100000 in
theorem k_X9_data_45 (C : Cx p s m args meth c RX9 cX9_data 14 none b0 D E) {GG : Hp} {x0 : Nat} {x1 : Int32} {x2 : Int32} {x3 : Int32} {x4 : Int32} {x5 : Int32} {x6 : Int32} {x8 : Int32} {G : Hp} {ls : Array Slot} {H : Heap} {locs : List Loc} : lx ls 14 [(0, .inr x0), (1, .inl x1), (2, .inl x2), (3, .inl x3), (4, .inl x4), (5, .inl x5), (6, .inl x6), (8, .inl x8)] → Rp b0 D E G H → SS b0 s H locs → d_X9_data_45 x0 x1 x2 x3 x4 x5 x6 x8 G = some GG → W p l e (rmd 11 (0) (0)) s m args below meth c H locs (0) (0) (MQ below (CQ b0 D E none GG) args s (0) (0) (fun q => b0 ≤ q)) (F0 m 45 ls []) := by
  intro hL hR hS hd
  unfold d_X9_data_45 at hd
  have hx := C.1
  have hb := C.2.1
  refine lv_iconst (v := 0) hx hb dX9_data_45 (by decide) ?_
  exact k_X9_data_46 C hL hR hS hd
set_option maxHeartbeats 4000000 in
set_option maxRecDepth 100000 in
theorem k_X9_data_24 (C : Cx p s m args meth c RX9 cX9_data 14 none b0 D E) {GG : Hp} {x0 : Nat} {x1 : Int32} {x2 : Int32} {x3 : Int32} {x4 : Int32} {x5 : Int32} {x6 : Int32} {s0 : Int32} {G : Hp} {ls : Array Slot} {H : Heap} {locs : List Loc} : lx ls 14 [(0, .inr x0), (1, .inl x1), (2, .inl x2), (3, .inl x3), (4, .inl x4), (5, .inl x5), (6, .inl x6)] → Rp b0 D E G H → SS b0 s H locs → d_X9_data_24 x0 x1 x2 x3 x4 x5 x6 s0 G = some GG → W p l e (rmd 11 (0) (0)) s m args below meth c H locs (0) (0) (MQ below (CQ b0 D E none GG) args s (0) (0) (fun q => b0 ≤ q)) (F0 m 24 ls [.int s0]) := by
  intro hL hR hS hd
  unfold d_X9_data_24 at hd
  have hx := C.1
  have hb := C.2.1
  refine x_istore (lv' := [(8, .inl s0), (0, .inr x0), (1, .inl x1), (2, .inl x2), (3, .inl x3), (4, .inl x4), (5, .inl x5), (6, .inl x6)]) C dX9_data_24 hL (by decide) rfl (fun ls hL => ?_)
  refine x_aload_n C dX9_data_26 hL 1 rfl ?_
  refine x_iload_n C dX9_data_27 hL 2 rfl ?_
  refine x_iload C dX9_data_28 hL 5 rfl ?_
  obtain ⟨g1, hd⟩ := gd_ex hd
  obtain ⟨v3, G4, h2, hd⟩ := b2_ex hd
  refine r_callV (a := x0) (ci := 9) (As := [.int x1, .int x4]) C (ct_X9_isDirect h2) mf_X9_isDirect ml_X9_297 mv_X9_isDirect rfl ⟨Nat.le_of_ble_eq_true rfl, Nat.le_of_ble_eq_true rfl⟩ dX9_data_30 (lx_size hL) rfl hR hS g1 ⟨Nat.le_refl _, Nat.le_refl _⟩ (cat_le [] (Nat.le_of_ble_eq_true rfl)) (fun H locs hR hS => ?_)
  refine W_st (st2 := [.int v3]) rfl ?_
  refine lv_if_eq (tgt := 45) hx hb dX9_data_33 (by decide) (fun c5 => ?_) (fun c5 => ?_)
  · rw [if_pos c5] at hd
    exact k_X9_data_45 C (lx_sub hL [1, 2, 3, 4, 5, 6, 7, 0] rfl) hR hS hd
  · rw [if_neg c5] at hd
    refine x_iload C dX9_data_36 hL 0 rfl ?_
    refine lv_if_eq (tgt := 45) hx hb dX9_data_38 (by decide) (fun c6 => ?_) (fun c6 => ?_)
    · rw [if_pos c6] at hd
      exact k_X9_data_45 C (lx_sub hL [1, 2, 3, 4, 5, 6, 7, 0] rfl) hR hS hd
    · rw [if_neg c6] at hd
      refine lv_iconst (v := 1) hx hb dX9_data_41 (by decide) ?_
      refine lv_goto (tgt := 46) hx hb dX9_data_42 (by decide) ?_
      exact k_X9_data_46 C (lx_sub hL [1, 2, 3, 4, 5, 6, 7, 0] rfl) hR hS hd
set_option maxHeartbeats 4000000 in
set_option maxRecDepth 100000 in
theorem k_X9_data (C : Cx p s m args meth c RX9 cX9_data 14 none b0 D E) {GG : Hp} {x0 : Nat} {x1 : Int32} {x2 : Int32} {x3 : Int32} {x4 : Int32} {x5 : Int32} {x6 : Int32} {G : Hp} {ls : Array Slot} {H : Heap} {locs : List Loc} : lx ls 14 [(0, .inr x0), (1, .inl x1), (2, .inl x2), (3, .inl x3), (4, .inl x4), (5, .inl x5), (6, .inl x6)] → Rp b0 D E G H → SS b0 s H locs → d_X9_data x0 x1 x2 x3 x4 x5 x6 G = some GG → W p l e (rmd 11 (0) (0)) s m args below meth c H locs (0) (0) (MQ below (CQ b0 D E none GG) args s (0) (0) (fun q => b0 ≤ q)) (F0 m 0 ls []) := by
  intro hL hR hS hd
  unfold d_X9_data at hd
  have hx := C.1
  have hb := C.2.1
  refine x_aload_n C dX9_data_0 hL 0 rfl ?_
  refine x_iload_n C dX9_data_1 hL 1 rfl ?_
  refine x_iload C dX9_data_2 hL 4 rfl ?_
  obtain ⟨g1, hd⟩ := gd_ex hd
  obtain ⟨v3, G4, h2, hd⟩ := b2_ex hd
  refine r_callV (a := x0) (ci := 9) (As := [.int x1, .int x4]) C (ct_X9_toSource h2) mf_X9_toSource ml_X9_160 mv_X9_toSource rfl ⟨Nat.le_of_ble_eq_true rfl, Nat.le_of_ble_eq_true rfl⟩ dX9_data_4 (lx_size hL) rfl hR hS g1 ⟨Nat.le_refl _, Nat.le_refl _⟩ (cat_le [] (Nat.le_of_ble_eq_true rfl)) (fun H locs hR hS => ?_)
  refine W_st (st2 := [.int v3]) rfl ?_
  refine x_istore (lv' := [(7, .inl v3), (0, .inr x0), (1, .inl x1), (2, .inl x2), (3, .inl x3), (4, .inl x4), (5, .inl x5), (6, .inl x6)]) C dX9_data_7 hL (by decide) rfl (fun ls hL => ?_)
  refine x_aload_n C dX9_data_9 hL 1 rfl ?_
  refine x_iload C dX9_data_10 hL 0 rfl ?_
  obtain ⟨g5, hd⟩ := gd_ex hd
  obtain ⟨v7, h6, hd⟩ := bo_ex hd
  refine r_callV (a := x0) (ci := 9) (As := [.int v3]) C (ct_X9_portTo h6) mf_X9_portTo ml_X9_293 mv_X9_portTo rfl ⟨Nat.le_of_ble_eq_true rfl, Nat.le_of_ble_eq_true rfl⟩ dX9_data_12 (lx_size hL) rfl hR hS g5 ⟨Nat.le_refl _, Nat.le_refl _⟩ (cat_le [] (Nat.le_of_ble_eq_true rfl)) (fun H locs hR hS => ?_)
  refine W_st (st2 := [.int v7]) rfl ?_
  refine x_iload_n C dX9_data_15 hL 3 rfl ?_
  refine lv_icmp_ne (tgt := 23) hx hb dX9_data_16 (by decide) (fun c8 => ?_) (fun c8 => ?_)
  · rw [if_neg c8] at hd
    refine lv_iconst (v := 0) hx hb dX9_data_23 (by decide) ?_
    exact k_X9_data_24 C (lx_sub hL [1, 2, 3, 4, 5, 6, 7] rfl) hR hS hd
  · rw [if_pos c8] at hd
    refine lv_iconst (v := 1) hx hb dX9_data_19 (by decide) ?_
    refine lv_goto (tgt := 24) hx hb dX9_data_20 (by decide) ?_
    exact k_X9_data_24 C (lx_sub hL [1, 2, 3, 4, 5, 6, 7] rfl) hR hS hd
end
set_option maxHeartbeats 4000000 in
set_option maxRecDepth 100000 in
theorem ct_X9_data {l : Launch} {b0 : Nat} {D : va_G} {E : Nat → ClassId} {G : Hp} {a0 : Nat} {a1 : Int32} {a2 : Int32} {a3 : Int32} {a4 : Int32} {a5 : Int32} {a6 : Int32} {GG : Hp} (hd : d_X9_data a0 a1 a2 a3 a4 a5 a6 G = some GG) : CT l yX9_data cX9_data 14 none 11 0 0 b0 D E [rv a0, .int a1, .int a2, .int a3, .int a4, .int a5, .int a6] G none GG := by
  refine CT_of (by decide +kernel) ?_
  intro p e s m below meth c C hnm hR
  refine r_entry [.inr a0, .inl a1, .inl a2, .inl a3, .inl a4, .inl a5, .inl a6] (n := 14) (Nat.le_of_ble_eq_true rfl) (lv := [(0, .inr a0), (1, .inl a1), (2, .inl a2), (3, .inl a3), (4, .inl a4), (5, .inl a5), (6, .inl a6)]) rfl (fun ls hL => ?_)
  exact k_X9_data C (lx_sub hL [0, 1, 2, 3, 4, 5, 6] rfl) hR ⟨fun _ _ => rfl, fun _ h => by cases h⟩ hd
