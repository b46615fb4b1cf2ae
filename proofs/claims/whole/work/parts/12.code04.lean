/-! GroveWorks$Tree.holds(I)Z pure -/
theorem dX5_holds_0 : decode cX5_holds 0 = .ok (.aload_n 0, 1) := by decide +kernel
theorem dX5_holds_1 : decode cX5_holds 1 = .ok (.getfield 15, 3) := by decide +kernel
theorem dX5_holds_4 : decode cX5_holds 4 = .ok (.iload_n 1, 1) := by decide +kernel
theorem dX5_holds_5 : decode cX5_holds 5 = .ok (.iaload, 1) := by decide +kernel
theorem dX5_holds_6 : decode cX5_holds 6 = .ok (.iconst (-1), 1) := by decide +kernel
theorem dX5_holds_7 : decode cX5_holds 7 = .ok (.if_icmp .ne 33, 3) := by decide +kernel
theorem dX5_holds_10 : decode cX5_holds 10 = .ok (.iload_n 1, 1) := by decide +kernel
theorem dX5_holds_11 : decode cX5_holds 11 = .ok (.bipush 16, 2) := by decide +kernel
theorem dX5_holds_13 : decode cX5_holds 13 = .ok (.if_icmp .eq 29, 3) := by decide +kernel
theorem dX5_holds_16 : decode cX5_holds 16 = .ok (.aload_n 0, 1) := by decide +kernel
theorem dX5_holds_17 : decode cX5_holds 17 = .ok (.iload_n 1, 1) := by decide +kernel
theorem dX5_holds_18 : decode cX5_holds 18 = .ok (.invokevirtual 102, 3) := by decide +kernel
theorem dX5_holds_21 : decode cX5_holds 21 = .ok (.ifCond .ne 19, 3) := by decide +kernel
theorem dX5_holds_24 : decode cX5_holds 24 = .ok (.aload_n 0, 1) := by decide +kernel
theorem dX5_holds_25 : decode cX5_holds 25 = .ok (.getfield 25, 3) := by decide +kernel
theorem dX5_holds_28 : decode cX5_holds 28 = .ok (.iload_n 1, 1) := by decide +kernel
theorem dX5_holds_29 : decode cX5_holds 29 = .ok (.iaload, 1) := by decide +kernel
theorem dX5_holds_30 : decode cX5_holds 30 = .ok (.aload_n 0, 1) := by decide +kernel
theorem dX5_holds_31 : decode cX5_holds 31 = .ok (.getfield 50, 3) := by decide +kernel
theorem dX5_holds_34 : decode cX5_holds 34 = .ok (.getfield 118, 3) := by decide +kernel
theorem dX5_holds_37 : decode cX5_holds 37 = .ok (.if_icmp .le 5, 3) := by decide +kernel
theorem dX5_holds_40 : decode cX5_holds 40 = .ok (.iconst 1, 1) := by decide +kernel
theorem dX5_holds_41 : decode cX5_holds 41 = .ok (.ireturn, 1) := by decide +kernel
theorem dX5_holds_42 : decode cX5_holds 42 = .ok (.iconst 0, 1) := by decide +kernel
theorem dX5_holds_43 : decode cX5_holds 43 = .ok (.istore_n 2, 1) := by decide +kernel
theorem dX5_holds_44 : decode cX5_holds 44 = .ok (.iload_n 2, 1) := by decide +kernel
theorem dX5_holds_45 : decode cX5_holds 45 = .ok (.iconst 4, 1) := by decide +kernel
theorem dX5_holds_46 : decode cX5_holds 46 = .ok (.if_icmp .ge 37, 3) := by decide +kernel
theorem dX5_holds_49 : decode cX5_holds 49 = .ok (.aload_n 0, 1) := by decide +kernel
theorem dX5_holds_50 : decode cX5_holds 50 = .ok (.getfield 60, 3) := by decide +kernel
theorem dX5_holds_53 : decode cX5_holds 53 = .ok (.iload_n 2, 1) := by decide +kernel
theorem dX5_holds_54 : decode cX5_holds 54 = .ok (.aaload, 1) := by decide +kernel
theorem dX5_holds_55 : decode cX5_holds 55 = .ok (.ifnull 22, 3) := by decide +kernel
theorem dX5_holds_58 : decode cX5_holds 58 = .ok (.aload_n 0, 1) := by decide +kernel
theorem dX5_holds_59 : decode cX5_holds 59 = .ok (.getfield 60, 3) := by decide +kernel
theorem dX5_holds_62 : decode cX5_holds 62 = .ok (.iload_n 2, 1) := by decide +kernel
theorem dX5_holds_63 : decode cX5_holds 63 = .ok (.aaload, 1) := by decide +kernel
theorem dX5_holds_64 : decode cX5_holds 64 = .ok (.aload_n 0, 1) := by decide +kernel
theorem dX5_holds_65 : decode cX5_holds 65 = .ok (.getfield 57, 3) := by decide +kernel
theorem dX5_holds_68 : decode cX5_holds 68 = .ok (.iload_n 1, 1) := by decide +kernel
theorem dX5_holds_69 : decode cX5_holds 69 = .ok (.invokevirtual 174, 3) := by decide +kernel
theorem dX5_holds_72 : decode cX5_holds 72 = .ok (.ifCond .eq 5, 3) := by decide +kernel
theorem dX5_holds_75 : decode cX5_holds 75 = .ok (.iconst 1, 1) := by decide +kernel
theorem dX5_holds_76 : decode cX5_holds 76 = .ok (.ireturn, 1) := by decide +kernel
theorem dX5_holds_77 : decode cX5_holds 77 = .ok (.iinc 2 1, 3) := by decide +kernel
theorem dX5_holds_80 : decode cX5_holds 80 = .ok (.goto (-36), 3) := by decide +kernel
theorem dX5_holds_83 : decode cX5_holds 83 = .ok (.iconst 0, 1) := by decide +kernel
theorem dX5_holds_84 : decode cX5_holds 84 = .ok (.ireturn, 1) := by decide +kernel
def d_X5_holds_44 : Nat → Nat → Int32 → Int32 → Hp → Option (Int32)
  | 0, _, _, _, _ => none
  | n_ + 1, x0, x1, x2, G =>
    if 4 ≤ x2 then
      some 0
    else
      gd (hc G x0 = 6) <|
      gd (hc G (hr G x0 3) = 16 ∧ ix x2 (hl G (hr G x0 3))) <|
      if (hr G (hr G x0 3) x2.toNatClampNeg) = 0 then
        d_X5_holds_44 n_ x0 x1 (x2 + 1) G
      else
        gd (hc G (hr G x0 3) = 16 ∧ ix x2 (hl G (hr G x0 3))) <|
        gd (hc G (hr G (hr G x0 3) x2.toNatClampNeg) = 4) <|
        bo (d_X3_holds (hr G (hr G x0 3) x2.toNatClampNeg) (hi G x0 2) x1 G) fun v8 =>
        if v8 = 0 then
          d_X5_holds_44 n_ x0 x1 (x2 + 1) G
        else
          some 1
def d_X5_holds (x0 : Nat) (x1 : Int32) (G : Hp) : Option (Int32) :=
  gd (hc G x0 = 6) <|
  gd (hc G (hr G x0 5) = 11 ∧ ix x1 (hl G (hr G x0 5))) <|
  if (hi G (hr G x0 5) x1.toNatClampNeg) = (-1) then
    if x1 = 16 then
      d_X5_holds_44 FU x0 x1 0 G
    else
      bo (d_X5_isStraight x0 x1 G) fun v6 =>
      if v6 = 0 then
        gd (hc G (hr G x0 8) = 11 ∧ ix x1 (hl G (hr G x0 8))) <|
        gd (hc G (hr G x0 0) = 3) <|
        if (hi G (hr G x0 8) x1.toNatClampNeg) ≤ (hi G (hr G x0 0) 4) then
          d_X5_holds_44 FU x0 x1 0 G
        else
          some 1
      else
        some 1
  else
    some 1
section
variable {p : Program} {l : Launch} {e : Env} {s : State} {m : MethodId} {args : Array Value} {below : List Frame} {meth : Method} {c : Code} {b0 : Nat} {D : va_G} {E : Nat → ClassId}
set_option maxHeartbeats 4000000 in
set_option maxRecDepth 100000 in
theorem k_X5_holds_44 (C : Cx p s m args meth c RX5 cX5_holds 3 (some .boolean) b0 D E) {rr : Int32} {G : Hp} : ∀ (n_ : Nat) {x0 : Nat} {x1 : Int32} {x2 : Int32} {ls : Array Slot} {H : Heap} {locs : List Loc}, lx ls 3 [(0, .inr x0), (1, .inl x1), (2, .inl x2)] → Rp b0 D E G H → SS b0 s H locs → d_X5_holds_44 n_ x0 x1 x2 G = some rr → W p l e (rmd 2 (0) (0)) s m args below meth c H locs (0) (0) (MQ below (CQ b0 D E (some (.int rr)) G) args s (0) (0) (fun q => b0 ≤ q)) (F0 m 44 ls []) := by
  intro n_
  induction n_ with
  | zero =>
    intro x0 x1 x2 ls H locs hL hR hS hd
    cases (show (none : Option _) = some _ from hd)
  | succ n_ ih =>
    intro x0 x1 x2 ls H locs hL hR hS hd
    rw [d_X5_holds_44.eq_2] at hd
    have hx := C.1
    have hb := C.2.1
    refine x_iload_n C dX5_holds_44 hL 2 rfl ?_
    refine lv_iconst (v := 4) hx hb dX5_holds_45 (by decide) ?_
    refine lv_icmp_ge (tgt := 83) hx hb dX5_holds_46 (by decide) (fun c1 => ?_) (fun c1 => ?_)
    · rw [if_pos c1] at hd
      refine lv_iconst (v := 0) hx hb dX5_holds_83 (by decide) ?_
      cases hd
      exact r_zret C (by decide) dX5_holds_84 hR hS
    · rw [if_neg c1] at hd
      refine x_aload_n C dX5_holds_49 hL 0 rfl ?_
      obtain ⟨g2, hd⟩ := gd_ex hd
      refine r_getr (ci := 5) (k := 3) C fl_X5_60 rfl dX5_holds_50 hR g2 ?_
      refine x_iload_n C dX5_holds_53 hL 2 rfl ?_
      obtain ⟨g3, hd⟩ := gd_ex hd
      refine r_aald (ci := 3) C (by decide) dX5_holds_54 hR g3 ?_
      refine r_ifnull (tgt := 77) C dX5_holds_55 (by decide) (fun c4 => ?_) (fun c4 => ?_)
      · rw [if_pos c4] at hd
        refine x_iinc (lv' := [(2, .inl (x2 + 1)), (0, .inr x0), (1, .inl x1)]) C dX5_holds_77 hL 2 rfl rfl (by decide) rfl (fun ls hL => ?_)
        refine lv_goto (tgt := 44) hx hb dX5_holds_80 (by decide) ?_
        exact ih (lx_sub hL [1, 2, 0] rfl) hR hS hd
      · rw [if_neg c4] at hd
        refine x_aload_n C dX5_holds_58 hL 0 rfl ?_
        refine r_getr (ci := 5) (k := 3) C fl_X5_60 rfl dX5_holds_59 hR g2 ?_
        refine x_iload_n C dX5_holds_62 hL 2 rfl ?_
        obtain ⟨g5, hd⟩ := gd_ex hd
        refine r_aald (ci := 3) C (by decide) dX5_holds_63 hR g5 ?_
        refine x_aload_n C dX5_holds_64 hL 0 rfl ?_
        refine r_geti (ci := 5) (k := 2) C fl_X5_57 rfl dX5_holds_65 hR g2 ?_
        refine x_iload_n C dX5_holds_68 hL 1 rfl ?_
        obtain ⟨g6, hd⟩ := gd_ex hd
        obtain ⟨v8, h7, hd⟩ := bo_ex hd
        refine r_callV (a := (hr G (hr G x0 3) x2.toNatClampNeg)) (ci := 3) (As := [.int (hi G x0 2), .int x1]) C (ct_X3_holds h7) mf_X3_holds ml_X5_174 mv_X3_holds rfl ⟨Nat.le_of_ble_eq_true rfl, Nat.le_of_ble_eq_true rfl⟩ dX5_holds_69 (lx_size hL) rfl hR hS g6 ⟨Nat.le_refl _, Nat.le_refl _⟩ (cat_le [] (Nat.le_of_ble_eq_true rfl)) (fun H locs hR hS => ?_)
        refine W_st (st2 := [.int v8]) rfl ?_
        refine lv_if_eq (tgt := 77) hx hb dX5_holds_72 (by decide) (fun c9 => ?_) (fun c9 => ?_)
        · rw [if_pos c9] at hd
          refine x_iinc (lv' := [(2, .inl (x2 + 1)), (0, .inr x0), (1, .inl x1)]) C dX5_holds_77 hL 2 rfl rfl (by decide) rfl (fun ls hL => ?_)
          refine lv_goto (tgt := 44) hx hb dX5_holds_80 (by decide) ?_
          exact ih (lx_sub hL [1, 2, 0] rfl) hR hS hd
        · rw [if_neg c9] at hd
          refine lv_iconst (v := 1) hx hb dX5_holds_75 (by decide) ?_
          cases hd
          exact r_zret C (by decide) dX5_holds_76 hR hS
set_option maxHeartbeats 4000000 in
set_option maxRecDepth 100000 in
theorem k_X5_holds (C : Cx p s m args meth c RX5 cX5_holds 3 (some .boolean) b0 D E) {rr : Int32} {G : Hp} {x0 : Nat} {x1 : Int32} {ls : Array Slot} {H : Heap} {locs : List Loc} : lx ls 3 [(0, .inr x0), (1, .inl x1)] → Rp b0 D E G H → SS b0 s H locs → d_X5_holds x0 x1 G = some rr → W p l e (rmd 2 (0) (0)) s m args below meth c H locs (0) (0) (MQ below (CQ b0 D E (some (.int rr)) G) args s (0) (0) (fun q => b0 ≤ q)) (F0 m 0 ls []) := by
  intro hL hR hS hd
  unfold d_X5_holds at hd
  have hx := C.1
  have hb := C.2.1
  refine x_aload_n C dX5_holds_0 hL 0 rfl ?_
  obtain ⟨g1, hd⟩ := gd_ex hd
  refine r_getr (ci := 5) (k := 5) C fl_X5_15 rfl dX5_holds_1 hR g1 ?_
  refine x_iload_n C dX5_holds_4 hL 1 rfl ?_
  obtain ⟨g2, hd⟩ := gd_ex hd
  refine r_iald C dX5_holds_5 hR g2 ?_
  refine lv_iconst (v := (-1)) hx hb dX5_holds_6 (by decide) ?_
  refine lv_icmp_ne (tgt := 40) hx hb dX5_holds_7 (by decide) (fun c3 => ?_) (fun c3 => ?_)
  · rw [if_neg c3] at hd
    refine lv_iconst (v := 1) hx hb dX5_holds_40 (by decide) ?_
    cases hd
    exact r_zret C (by decide) dX5_holds_41 hR hS
  · rw [if_pos c3] at hd
    refine x_iload_n C dX5_holds_10 hL 1 rfl ?_
    refine lv_bipush (v := 16) hx hb dX5_holds_11 (by decide) ?_
    refine lv_icmp_eq (tgt := 42) hx hb dX5_holds_13 (by decide) (fun c4 => ?_) (fun c4 => ?_)
    · rw [if_pos c4] at hd
      refine lv_iconst (v := 0) hx hb dX5_holds_42 (by decide) ?_
      refine x_istore_n (lv' := [(2, .inl 0), (0, .inr x0), (1, .inl x1)]) C dX5_holds_43 hL (by decide) rfl (fun ls hL => ?_)
      exact k_X5_holds_44 C FU (lx_sub hL [1, 2, 0] rfl) hR hS hd
    · rw [if_neg c4] at hd
      refine x_aload_n C dX5_holds_16 hL 0 rfl ?_
      refine x_iload_n C dX5_holds_17 hL 1 rfl ?_
      obtain ⟨v6, h5, hd⟩ := bo_ex hd
      refine r_callV (a := x0) (ci := 5) (As := [.int x1]) C (ct_X5_isStraight h5) mf_X5_isStraight ml_X5_102 mv_X5_isStraight rfl ⟨Nat.le_of_ble_eq_true rfl, Nat.le_of_ble_eq_true rfl⟩ dX5_holds_18 (lx_size hL) rfl hR hS g1 ⟨Nat.le_refl _, Nat.le_refl _⟩ (cat_le [] (Nat.le_of_ble_eq_true rfl)) (fun H locs hR hS => ?_)
      refine W_st (st2 := [.int v6]) rfl ?_
      refine lv_if_ne (tgt := 40) hx hb dX5_holds_21 (by decide) (fun c7 => ?_) (fun c7 => ?_)
      · rw [if_neg c7] at hd
        refine lv_iconst (v := 1) hx hb dX5_holds_40 (by decide) ?_
        cases hd
        exact r_zret C (by decide) dX5_holds_41 hR hS
      · rw [if_pos c7] at hd
        refine x_aload_n C dX5_holds_24 hL 0 rfl ?_
        refine r_getr (ci := 5) (k := 8) C fl_X5_25 rfl dX5_holds_25 hR g1 ?_
        refine x_iload_n C dX5_holds_28 hL 1 rfl ?_
        obtain ⟨g8, hd⟩ := gd_ex hd
        refine r_iald C dX5_holds_29 hR g8 ?_
        refine x_aload_n C dX5_holds_30 hL 0 rfl ?_
        refine r_getr (ci := 5) (k := 0) C fl_X5_50 rfl dX5_holds_31 hR g1 ?_
        obtain ⟨g9, hd⟩ := gd_ex hd
        refine r_geti (ci := 2) (k := 4) C fl_X5_118 rfl dX5_holds_34 hR g9 ?_
        refine lv_icmp_le (tgt := 42) hx hb dX5_holds_37 (by decide) (fun c10 => ?_) (fun c10 => ?_)
        · rw [if_pos c10] at hd
          refine lv_iconst (v := 0) hx hb dX5_holds_42 (by decide) ?_
          refine x_istore_n (lv' := [(2, .inl 0), (0, .inr x0), (1, .inl x1)]) C dX5_holds_43 hL (by decide) rfl (fun ls hL => ?_)
          exact k_X5_holds_44 C FU (lx_sub hL [1, 2, 0] rfl) hR hS hd
        · rw [if_neg c10] at hd
          refine lv_iconst (v := 1) hx hb dX5_holds_40 (by decide) ?_
          cases hd
          exact r_zret C (by decide) dX5_holds_41 hR hS
end
set_option maxHeartbeats 4000000 in
set_option maxRecDepth 100000 in
theorem ct_X5_holds {l : Launch} {b0 : Nat} {D : va_G} {E : Nat → ClassId} {G : Hp} {a0 : Nat} {a1 : Int32} {rr : Int32} (hd : d_X5_holds a0 a1 G = some rr) : CT l yX5_holds cX5_holds 3 (some .boolean) 2 0 0 b0 D E [rv a0, .int a1] G (some (.int rr)) G := by
  refine CT_of (by decide +kernel) ?_
  intro p e s m below meth c C hnm hR
  refine r_entry [.inr a0, .inl a1] (n := 3) (Nat.le_of_ble_eq_true rfl) (lv := [(0, .inr a0), (1, .inl a1)]) rfl (fun ls hL => ?_)
  exact k_X5_holds C (lx_sub hL [0, 1] rfl) hR ⟨fun _ _ => rfl, fun _ h => by cases h⟩ hd

/-! GroveWorks$Tree.dropKnown()V -/
theorem dX5_dropKnown_0 : decode cX5_dropKnown 0 = .ok (.iconst 0, 1) := by decide +kernel
theorem dX5_dropKnown_1 : decode cX5_dropKnown 1 = .ok (.istore_n 1, 1) := by decide +kernel
theorem dX5_dropKnown_2 : decode cX5_dropKnown 2 = .ok (.iload_n 1, 1) := by decide +kernel
theorem dX5_dropKnown_3 : decode cX5_dropKnown 3 = .ok (.bipush 17, 2) := by decide +kernel
theorem dX5_dropKnown_5 : decode cX5_dropKnown 5 = .ok (.if_icmp .ge 49, 3) := by decide +kernel
theorem dX5_dropKnown_8 : decode cX5_dropKnown 8 = .ok (.aload_n 0, 1) := by decide +kernel
theorem dX5_dropKnown_9 : decode cX5_dropKnown 9 = .ok (.getfield 9, 3) := by decide +kernel
theorem dX5_dropKnown_12 : decode cX5_dropKnown 12 = .ok (.ifCond .eq 42, 3) := by decide +kernel
theorem dX5_dropKnown_15 : decode cX5_dropKnown 15 = .ok (.aload_n 0, 1) := by decide +kernel
theorem dX5_dropKnown_16 : decode cX5_dropKnown 16 = .ok (.getfield 9, 3) := by decide +kernel
theorem dX5_dropKnown_19 : decode cX5_dropKnown 19 = .ok (.iload_n 1, 1) := by decide +kernel
theorem dX5_dropKnown_20 : decode cX5_dropKnown 20 = .ok (.invokestatic 145, 3) := by decide +kernel
theorem dX5_dropKnown_23 : decode cX5_dropKnown 23 = .ok (.ifCond .eq 25, 3) := by decide +kernel
theorem dX5_dropKnown_26 : decode cX5_dropKnown 26 = .ok (.aload_n 0, 1) := by decide +kernel
theorem dX5_dropKnown_27 : decode cX5_dropKnown 27 = .ok (.iload_n 1, 1) := by decide +kernel
theorem dX5_dropKnown_28 : decode cX5_dropKnown 28 = .ok (.invokevirtual 171, 3) := by decide +kernel
theorem dX5_dropKnown_31 : decode cX5_dropKnown 31 = .ok (.ifCond .ne 17, 3) := by decide +kernel
theorem dX5_dropKnown_34 : decode cX5_dropKnown 34 = .ok (.aload_n 0, 1) := by decide +kernel
theorem dX5_dropKnown_35 : decode cX5_dropKnown 35 = .ok (.dup, 1) := by decide +kernel
theorem dX5_dropKnown_36 : decode cX5_dropKnown 36 = .ok (.getfield 9, 3) := by decide +kernel
theorem dX5_dropKnown_39 : decode cX5_dropKnown 39 = .ok (.iconst 1, 1) := by decide +kernel
theorem dX5_dropKnown_40 : decode cX5_dropKnown 40 = .ok (.iload_n 1, 1) := by decide +kernel
theorem dX5_dropKnown_41 : decode cX5_dropKnown 41 = .ok (.ishl, 1) := by decide +kernel
theorem dX5_dropKnown_42 : decode cX5_dropKnown 42 = .ok (.iconst (-1), 1) := by decide +kernel
theorem dX5_dropKnown_43 : decode cX5_dropKnown 43 = .ok (.ixor, 1) := by decide +kernel
theorem dX5_dropKnown_44 : decode cX5_dropKnown 44 = .ok (.iand, 1) := by decide +kernel
theorem dX5_dropKnown_45 : decode cX5_dropKnown 45 = .ok (.putfield 9, 3) := by decide +kernel
theorem dX5_dropKnown_48 : decode cX5_dropKnown 48 = .ok (.iinc 1 1, 3) := by decide +kernel
theorem dX5_dropKnown_51 : decode cX5_dropKnown 51 = .ok (.goto (-49), 3) := by decide +kernel
theorem dX5_dropKnown_54 : decode cX5_dropKnown 54 = .ok (.return_, 1) := by decide +kernel
def d_X5_dropKnown_2 : Nat → Nat → Int32 → Hp → Option (Hp)
  | 0, _, _, _ => none
  | n_ + 1, x0, x1, G =>
    if 17 ≤ x1 then
      some G
    else
      gd (hc G x0 = 6) <|
      if (hi G x0 4) = 0 then
        some G
      else
        bo (d_X8_has (hi G x0 4) x1 G) fun v5 =>
        if v5 = 0 then
          d_X5_dropKnown_2 n_ x0 (x1 + 1) G
        else
          bo (d_X5_holds x0 x1 G) fun v8 =>
          if v8 = 0 then
            bd (sI G x0 4 ((hi G x0 4) &&& ((1 <<< (x1 &&& 31)) ^^^ (-1)))) fun G10 =>
            d_X5_dropKnown_2 n_ x0 (x1 + 1) G10
          else
            d_X5_dropKnown_2 n_ x0 (x1 + 1) G
def d_X5_dropKnown (x0 : Nat) (G : Hp) : Option (Hp) :=
  d_X5_dropKnown_2 FU x0 0 G
section
variable {p : Program} {l : Launch} {e : Env} {s : State} {m : MethodId} {args : Array Value} {below : List Frame} {meth : Method} {c : Code} {b0 : Nat} {D : va_G} {E : Nat → ClassId}
set_option maxHeartbeats 4000000 in
set_option maxRecDepth 100000 in
theorem k_X5_dropKnown_2 (C : Cx p s m args meth c RX5 cX5_dropKnown 2 none b0 D E) {GG : Hp} : ∀ (n_ : Nat) {x0 : Nat} {x1 : Int32} {G : Hp} {ls : Array Slot} {H : Heap} {locs : List Loc}, lx ls 2 [(0, .inr x0), (1, .inl x1)] → Rp b0 D E G H → SS b0 s H locs → d_X5_dropKnown_2 n_ x0 x1 G = some GG → W p l e (rmd 3 (0) (0)) s m args below meth c H locs (0) (0) (MQ below (CQ b0 D E none GG) args s (0) (0) (fun q => b0 ≤ q)) (F0 m 2 ls []) := by
  intro n_
  induction n_ with
  | zero =>
    intro x0 x1 G ls H locs hL hR hS hd
    cases (show (none : Option _) = some _ from hd)
  | succ n_ ih =>
    intro x0 x1 G ls H locs hL hR hS hd
    rw [d_X5_dropKnown_2.eq_2] at hd
    have hx := C.1
    have hb := C.2.1
    refine x_iload_n C dX5_dropKnown_2 hL 1 rfl ?_
    refine lv_bipush (v := 17) hx hb dX5_dropKnown_3 (by decide) ?_
    refine lv_icmp_ge (tgt := 54) hx hb dX5_dropKnown_5 (by decide) (fun c1 => ?_) (fun c1 => ?_)
    · rw [if_pos c1] at hd
      cases hd
      exact r_vret C dX5_dropKnown_54 hR hS
    · rw [if_neg c1] at hd
      refine x_aload_n C dX5_dropKnown_8 hL 0 rfl ?_
      obtain ⟨g2, hd⟩ := gd_ex hd
      refine r_geti (ci := 5) (k := 4) C fl_X5_9 rfl dX5_dropKnown_9 hR g2 ?_
      refine lv_if_eq (tgt := 54) hx hb dX5_dropKnown_12 (by decide) (fun c3 => ?_) (fun c3 => ?_)
      · rw [if_pos c3] at hd
        cases hd
        exact r_vret C dX5_dropKnown_54 hR hS
      · rw [if_neg c3] at hd
        refine x_aload_n C dX5_dropKnown_15 hL 0 rfl ?_
        refine r_geti (ci := 5) (k := 4) C fl_X5_9 rfl dX5_dropKnown_16 hR g2 ?_
        refine x_iload_n C dX5_dropKnown_19 hL 1 rfl ?_
        obtain ⟨v5, h4, hd⟩ := bo_ex hd
        refine r_callSN (As := [.int (hi G x0 4), .int x1]) C (ct_X8_has h4) mf_X8_has (by decide +kernel) ms_X8_has rfl ⟨Nat.le_of_ble_eq_true rfl, Nat.le_of_ble_eq_true rfl⟩ dX5_dropKnown_20 (lx_size hL) rfl hR hS ⟨Nat.le_refl _, Nat.le_refl _⟩ (cat_le [] (Nat.le_of_ble_eq_true rfl)) (fun H locs hR hS => ?_)
        refine W_st (st2 := [.int v5]) rfl ?_
        refine lv_if_eq (tgt := 48) hx hb dX5_dropKnown_23 (by decide) (fun c6 => ?_) (fun c6 => ?_)
        · rw [if_pos c6] at hd
          refine x_iinc (lv' := [(1, .inl (x1 + 1)), (0, .inr x0)]) C dX5_dropKnown_48 hL 1 rfl rfl (by decide) rfl (fun ls hL => ?_)
          refine lv_goto (tgt := 2) hx hb dX5_dropKnown_51 (by decide) ?_
          exact ih (lx_sub hL [1, 0] rfl) hR hS hd
        · rw [if_neg c6] at hd
          refine x_aload_n C dX5_dropKnown_26 hL 0 rfl ?_
          refine x_iload_n C dX5_dropKnown_27 hL 1 rfl ?_
          obtain ⟨v8, h7, hd⟩ := bo_ex hd
          refine r_callV (a := x0) (ci := 5) (As := [.int x1]) C (ct_X5_holds h7) mf_X5_holds ml_X5_171 mv_X5_holds rfl ⟨Nat.le_of_ble_eq_true rfl, Nat.le_of_ble_eq_true rfl⟩ dX5_dropKnown_28 (lx_size hL) rfl hR hS g2 ⟨Nat.le_refl _, Nat.le_refl _⟩ (cat_le [] (Nat.le_of_ble_eq_true rfl)) (fun H locs hR hS => ?_)
          refine W_st (st2 := [.int v8]) rfl ?_
          refine lv_if_ne (tgt := 48) hx hb dX5_dropKnown_31 (by decide) (fun c9 => ?_) (fun c9 => ?_)
          · rw [if_neg c9] at hd
            refine x_iinc (lv' := [(1, .inl (x1 + 1)), (0, .inr x0)]) C dX5_dropKnown_48 hL 1 rfl rfl (by decide) rfl (fun ls hL => ?_)
            refine lv_goto (tgt := 2) hx hb dX5_dropKnown_51 (by decide) ?_
            exact ih (lx_sub hL [1, 0] rfl) hR hS hd
          · rw [if_pos c9] at hd
            refine x_aload_n C dX5_dropKnown_34 hL 0 rfl ?_
            refine lv_dup hx hb dX5_dropKnown_35 (rv_cat _) ?_
            refine r_geti (ci := 5) (k := 4) C fl_X5_9 rfl dX5_dropKnown_36 hR g2 ?_
            refine lv_iconst (v := 1) hx hb dX5_dropKnown_39 (by decide) ?_
            refine x_iload_n C dX5_dropKnown_40 hL 1 rfl ?_
            refine lv_ishl hx hb dX5_dropKnown_41 ?_
            refine lv_iconst (v := (-1)) hx hb dX5_dropKnown_42 (by decide) ?_
            refine lv_ixor hx hb dX5_dropKnown_43 ?_
            refine lv_iand hx hb dX5_dropKnown_44 ?_
            obtain ⟨G10, eG10, hd⟩ := bd_ex hd
            refine r_puti (ci := 5) (k := 4) C fl_X5_9 rfl (Or.inl rfl) dX5_dropKnown_45 hR hS g2 (fun H locs hR hS => ?_)
            replace hR : Rp b0 D E G10 H := by rw [eG10]; exact hR
            refine x_iinc (lv' := [(1, .inl (x1 + 1)), (0, .inr x0)]) C dX5_dropKnown_48 hL 1 rfl rfl (by decide) rfl (fun ls hL => ?_)
            refine lv_goto (tgt := 2) hx hb dX5_dropKnown_51 (by decide) ?_
            exact ih (lx_sub hL [1, 0] rfl) hR hS hd
set_option maxHeartbeats 4000000 in
set_option maxRecDepth 100000 in
theorem k_X5_dropKnown (C : Cx p s m args meth c RX5 cX5_dropKnown 2 none b0 D E) {GG : Hp} {x0 : Nat} {G : Hp} {ls : Array Slot} {H : Heap} {locs : List Loc} : lx ls 2 [(0, .inr x0)] → Rp b0 D E G H → SS b0 s H locs → d_X5_dropKnown x0 G = some GG → W p l e (rmd 3 (0) (0)) s m args below meth c H locs (0) (0) (MQ below (CQ b0 D E none GG) args s (0) (0) (fun q => b0 ≤ q)) (F0 m 0 ls []) := by
  intro hL hR hS hd
  unfold d_X5_dropKnown at hd
  have hx := C.1
  have hb := C.2.1
  refine lv_iconst (v := 0) hx hb dX5_dropKnown_0 (by decide) ?_
  refine x_istore_n (lv' := [(1, .inl 0), (0, .inr x0)]) C dX5_dropKnown_1 hL (by decide) rfl (fun ls hL => ?_)
  exact k_X5_dropKnown_2 C FU (lx_sub hL [1, 0] rfl) hR hS hd
end
set_option maxHeartbeats 4000000 in
set_option maxRecDepth 100000 in
theorem ct_X5_dropKnown {l : Launch} {b0 : Nat} {D : va_G} {E : Nat → ClassId} {G : Hp} {a0 : Nat} {GG : Hp} (hd : d_X5_dropKnown a0 G = some GG) : CT l yX5_dropKnown cX5_dropKnown 2 none 3 0 0 b0 D E [rv a0] G none GG := by
  refine CT_of (by decide +kernel) ?_
  intro p e s m below meth c C hnm hR
  refine r_entry [.inr a0] (n := 2) (Nat.le_of_ble_eq_true rfl) (lv := [(0, .inr a0)]) rfl (fun ls hL => ?_)
  exact k_X5_dropKnown C (lx_sub hL [0] rfl) hR ⟨fun _ _ => rfl, fun _ h => by cases h⟩ hd

/-! GroveWorks$Tree.probe()V -/
theorem dX5_probe_0 : decode cX5_probe 0 = .ok (.iconst 0, 1) := by decide +kernel
theorem dX5_probe_1 : decode cX5_probe 1 = .ok (.istore_n 1, 1) := by decide +kernel
theorem dX5_probe_2 : decode cX5_probe 2 = .ok (.iload_n 1, 1) := by decide +kernel
theorem dX5_probe_3 : decode cX5_probe 3 = .ok (.bipush 16, 2) := by decide +kernel
theorem dX5_probe_5 : decode cX5_probe 5 = .ok (.if_icmp .ge 75, 3) := by decide +kernel
theorem dX5_probe_8 : decode cX5_probe 8 = .ok (.aload_n 0, 1) := by decide +kernel
theorem dX5_probe_9 : decode cX5_probe 9 = .ok (.getfield 9, 3) := by decide +kernel
theorem dX5_probe_12 : decode cX5_probe 12 = .ok (.ifCond .eq 68, 3) := by decide +kernel
theorem dX5_probe_15 : decode cX5_probe 15 = .ok (.aload_n 0, 1) := by decide +kernel
theorem dX5_probe_16 : decode cX5_probe 16 = .ok (.getfield 28, 3) := by decide +kernel
theorem dX5_probe_19 : decode cX5_probe 19 = .ok (.iload_n 1, 1) := by decide +kernel
theorem dX5_probe_20 : decode cX5_probe 20 = .ok (.iaload, 1) := by decide +kernel
theorem dX5_probe_21 : decode cX5_probe 21 = .ok (.aload_n 0, 1) := by decide +kernel
theorem dX5_probe_22 : decode cX5_probe 22 = .ok (.getfield 50, 3) := by decide +kernel
theorem dX5_probe_25 : decode cX5_probe 25 = .ok (.getfield 118, 3) := by decide +kernel
theorem dX5_probe_28 : decode cX5_probe 28 = .ok (.iconst 5, 1) := by decide +kernel
theorem dX5_probe_29 : decode cX5_probe 29 = .ok (.iadd, 1) := by decide +kernel
theorem dX5_probe_30 : decode cX5_probe 30 = .ok (.if_icmp .ne 23, 3) := by decide +kernel
theorem dX5_probe_33 : decode cX5_probe 33 = .ok (.aload_n 0, 1) := by decide +kernel
theorem dX5_probe_34 : decode cX5_probe 34 = .ok (.getfield 25, 3) := by decide +kernel
theorem dX5_probe_37 : decode cX5_probe 37 = .ok (.iload_n 1, 1) := by decide +kernel
theorem dX5_probe_38 : decode cX5_probe 38 = .ok (.iaload, 1) := by decide +kernel
theorem dX5_probe_39 : decode cX5_probe 39 = .ok (.aload_n 0, 1) := by decide +kernel
theorem dX5_probe_40 : decode cX5_probe 40 = .ok (.getfield 50, 3) := by decide +kernel
theorem dX5_probe_43 : decode cX5_probe 43 = .ok (.getfield 118, 3) := by decide +kernel
theorem dX5_probe_46 : decode cX5_probe 46 = .ok (.if_icmp .le 7, 3) := by decide +kernel
theorem dX5_probe_49 : decode cX5_probe 49 = .ok (.iconst 1, 1) := by decide +kernel
theorem dX5_probe_50 : decode cX5_probe 50 = .ok (.goto 4, 3) := by decide +kernel
theorem dX5_probe_53 : decode cX5_probe 53 = .ok (.iconst 0, 1) := by decide +kernel
theorem dX5_probe_54 : decode cX5_probe 54 = .ok (.istore_n 2, 1) := by decide +kernel
theorem dX5_probe_55 : decode cX5_probe 55 = .ok (.iload_n 2, 1) := by decide +kernel
theorem dX5_probe_56 : decode cX5_probe 56 = .ok (.ifCond .eq 18, 3) := by decide +kernel
theorem dX5_probe_59 : decode cX5_probe 59 = .ok (.aload_n 0, 1) := by decide +kernel
theorem dX5_probe_60 : decode cX5_probe 60 = .ok (.iload_n 1, 1) := by decide +kernel
theorem dX5_probe_61 : decode cX5_probe 61 = .ok (.invokevirtual 194, 3) := by decide +kernel
theorem dX5_probe_64 : decode cX5_probe 64 = .ok (.ifCond .eq 10, 3) := by decide +kernel
theorem dX5_probe_67 : decode cX5_probe 67 = .ok (.aload_n 0, 1) := by decide +kernel
theorem dX5_probe_68 : decode cX5_probe 68 = .ok (.iload_n 1, 1) := by decide +kernel
theorem dX5_probe_69 : decode cX5_probe 69 = .ok (.iconst 0, 1) := by decide +kernel
theorem dX5_probe_70 : decode cX5_probe 70 = .ok (.iconst 0, 1) := by decide +kernel
theorem dX5_probe_71 : decode cX5_probe 71 = .ok (.invokevirtual 197, 3) := by decide +kernel
theorem dX5_probe_74 : decode cX5_probe 74 = .ok (.iinc 1 1, 3) := by decide +kernel
theorem dX5_probe_77 : decode cX5_probe 77 = .ok (.goto (-75), 3) := by decide +kernel
theorem dX5_probe_80 : decode cX5_probe 80 = .ok (.return_, 1) := by decide +kernel
def d_X5_probe_54 (x0 : Nat) (x1 : Int32) (s0 : Int32) (G : Hp) (k2 : Nat → Int32 → Hp → Option (Hp)) : Option (Hp) :=
  if s0 = 0 then
    k2 x0 (x1 + 1) G
  else
    gd (hc G x0 = 6) <|
    bo (d_X5_mayTunnel x0 x1 G) fun v4 =>
    if v4 = 0 then
      k2 x0 (x1 + 1) G
    else
      bo (d_X5_startTunnel x0 x1 0 0 G) fun G7 =>
      k2 x0 (x1 + 1) G7
def d_X5_probe_53 (x0 : Nat) (x1 : Int32) (G : Hp) (k2 : Nat → Int32 → Hp → Option (Hp)) : Option (Hp) :=
  d_X5_probe_54 x0 x1 0 G k2
def d_X5_probe_2 : Nat → Nat → Int32 → Hp → Option (Hp)
  | 0, _, _, _ => none
  | n_ + 1, x0, x1, G =>
    if 16 ≤ x1 then
      some G
    else
      gd (hc G x0 = 6) <|
      if (hi G x0 4) = 0 then
        some G
      else
        gd (hc G (hr G x0 9) = 11 ∧ ix x1 (hl G (hr G x0 9))) <|
        gd (hc G (hr G x0 0) = 3) <|
        if (hi G (hr G x0 9) x1.toNatClampNeg) = ((hi G (hr G x0 0) 4) + 5) then
          gd (hc G (hr G x0 8) = 11 ∧ ix x1 (hl G (hr G x0 8))) <|
          if (hi G (hr G x0 8) x1.toNatClampNeg) ≤ (hi G (hr G x0 0) 4) then
            d_X5_probe_53 x0 x1 G (fun y0 y1 Gy => d_X5_probe_2 n_ y0 y1 Gy)
          else
            d_X5_probe_54 x0 x1 1 G (fun y0 y1 Gy => d_X5_probe_2 n_ y0 y1 Gy)
        else
          d_X5_probe_53 x0 x1 G (fun y0 y1 Gy => d_X5_probe_2 n_ y0 y1 Gy)
def d_X5_probe (x0 : Nat) (G : Hp) : Option (Hp) :=
  d_X5_probe_2 FU x0 0 G
section
variable {p : Program} {l : Launch} {e : Env} {s : State} {m : MethodId} {args : Array Value} {below : List Frame} {meth : Method} {c : Code} {b0 : Nat} {D : va_G} {E : Nat → ClassId}
set_option maxHeartbeats 4000000 in
set_option maxRecDepth 100000 in
theorem k_X5_probe_54 (C : Cx p s m args meth c RX5 cX5_probe 3 none b0 D E) {GG : Hp} {k2 : Nat → Int32 → Hp → Option (Hp)} (hk2 : ∀ (y0 : Nat) (y1 : Int32) (Gy : Hp) (H1 : Heap) (locs1 : List Loc) (ls1 : Array Slot), lx ls1 3 [(0, .inr y0), (1, .inl y1)] → Rp b0 D E Gy H1 → SS b0 s H1 locs1 → k2 y0 y1 Gy = some GG → W p l e (rmd 4 (0) (0)) s m args below meth c H1 locs1 (0) (0) (MQ below (CQ b0 D E none GG) args s (0) (0) (fun q => b0 ≤ q)) (F0 m 2 ls1 [])) {x0 : Nat} {x1 : Int32} {s0 : Int32} {G : Hp} {ls : Array Slot} {H : Heap} {locs : List Loc} : lx ls 3 [(0, .inr x0), (1, .inl x1)] → Rp b0 D E G H → SS b0 s H locs → d_X5_probe_54 x0 x1 s0 G k2 = some GG → W p l e (rmd 4 (0) (0)) s m args below meth c H locs (0) (0) (MQ below (CQ b0 D E none GG) args s (0) (0) (fun q => b0 ≤ q)) (F0 m 54 ls [.int s0]) := by
  intro hL hR hS hd
  unfold d_X5_probe_54 at hd
  have hx := C.1
  have hb := C.2.1
  refine x_istore_n (lv' := [(2, .inl s0), (0, .inr x0), (1, .inl x1)]) C dX5_probe_54 hL (by decide) rfl (fun ls hL => ?_)
  refine x_iload_n C dX5_probe_55 hL 0 rfl ?_
  refine lv_if_eq (tgt := 74) hx hb dX5_probe_56 (by decide) (fun c1 => ?_) (fun c1 => ?_)
  · rw [if_pos c1] at hd
    refine x_iinc (lv' := [(1, .inl (x1 + 1)), (2, .inl s0), (0, .inr x0)]) C dX5_probe_74 hL 2 rfl rfl (by decide) rfl (fun ls hL => ?_)
    refine lv_goto (tgt := 2) hx hb dX5_probe_77 (by decide) ?_
    exact hk2 _ _ _ _ _ _ (lx_sub hL [2, 0] rfl) hR hS hd
  · rw [if_neg c1] at hd
    refine x_aload_n C dX5_probe_59 hL 1 rfl ?_
    refine x_iload_n C dX5_probe_60 hL 2 rfl ?_
    obtain ⟨g2, hd⟩ := gd_ex hd
    obtain ⟨v4, h3, hd⟩ := bo_ex hd
    refine r_callV (a := x0) (ci := 5) (As := [.int x1]) C (ct_X5_mayTunnel h3) mf_X5_mayTunnel ml_X5_194 mv_X5_mayTunnel rfl ⟨Nat.le_of_ble_eq_true rfl, Nat.le_of_ble_eq_true rfl⟩ dX5_probe_61 (lx_size hL) rfl hR hS g2 ⟨Nat.le_refl _, Nat.le_refl _⟩ (cat_le [] (Nat.le_of_ble_eq_true rfl)) (fun H locs hR hS => ?_)
    refine W_st (st2 := [.int v4]) rfl ?_
    refine lv_if_eq (tgt := 74) hx hb dX5_probe_64 (by decide) (fun c5 => ?_) (fun c5 => ?_)
    · rw [if_pos c5] at hd
      refine x_iinc (lv' := [(1, .inl (x1 + 1)), (2, .inl s0), (0, .inr x0)]) C dX5_probe_74 hL 2 rfl rfl (by decide) rfl (fun ls hL => ?_)
      refine lv_goto (tgt := 2) hx hb dX5_probe_77 (by decide) ?_
      exact hk2 _ _ _ _ _ _ (lx_sub hL [2, 0] rfl) hR hS hd
    · rw [if_neg c5] at hd
      refine x_aload_n C dX5_probe_67 hL 1 rfl ?_
      refine x_iload_n C dX5_probe_68 hL 2 rfl ?_
      refine lv_iconst (v := 0) hx hb dX5_probe_69 (by decide) ?_
      refine lv_iconst (v := 0) hx hb dX5_probe_70 (by decide) ?_
      obtain ⟨G7, h6, hd⟩ := bo_ex hd
      refine r_callV (a := x0) (ci := 5) (As := [.int x1, .int 0, .int 0]) C (ct_X5_startTunnel h6) mf_X5_startTunnel ml_X5_197 mv_X5_startTunnel rfl ⟨Nat.le_of_ble_eq_true rfl, Nat.le_of_ble_eq_true rfl⟩ dX5_probe_71 (lx_size hL) rfl hR hS g2 ⟨Nat.le_refl _, Nat.le_refl _⟩ (cat_le [] (Nat.le_of_ble_eq_true rfl)) (fun H locs hR hS => ?_)
      refine W_st (st2 := []) rfl ?_
      refine x_iinc (lv' := [(1, .inl (x1 + 1)), (2, .inl s0), (0, .inr x0)]) C dX5_probe_74 hL 2 rfl rfl (by decide) rfl (fun ls hL => ?_)
      refine lv_goto (tgt := 2) hx hb dX5_probe_77 (by decide) ?_
      exact hk2 _ _ _ _ _ _ (lx_sub hL [2, 0] rfl) hR hS hd
set_option maxHeartbeats 4000000 in
set_option maxRecDepth 100000 in
theorem k_X5_probe_53 (C : Cx p s m args meth c RX5 cX5_probe 3 none b0 D E) {GG : Hp} {k2 : Nat → Int32 → Hp → Option (Hp)} (hk2 : ∀ (y0 : Nat) (y1 : Int32) (Gy : Hp) (H1 : Heap) (locs1 : List Loc) (ls1 : Array Slot), lx ls1 3 [(0, .inr y0), (1, .inl y1)] → Rp b0 D E Gy H1 → SS b0 s H1 locs1 → k2 y0 y1 Gy = some GG → W p l e (rmd 4 (0) (0)) s m args below meth c H1 locs1 (0) (0) (MQ below (CQ b0 D E none GG) args s (0) (0) (fun q => b0 ≤ q)) (F0 m 2 ls1 [])) {x0 : Nat} {x1 : Int32} {G : Hp} {ls : Array Slot} {H : Heap} {locs : List Loc} : lx ls 3 [(0, .inr x0), (1, .inl x1)] → Rp b0 D E G H → SS b0 s H locs → d_X5_probe_53 x0 x1 G k2 = some GG → W p l e (rmd 4 (0) (0)) s m args below meth c H locs (0) (0) (MQ below (CQ b0 D E none GG) args s (0) (0) (fun q => b0 ≤ q)) (F0 m 53 ls []) := by
  intro hL hR hS hd
  unfold d_X5_probe_53 at hd
  have hx := C.1
  have hb := C.2.1
  refine lv_iconst (v := 0) hx hb dX5_probe_53 (by decide) ?_
  exact k_X5_probe_54 C hk2 hL hR hS hd
set_option maxHeartbeats 4000000 in
set_option maxRecDepth 100000 in
theorem k_X5_probe_2 (C : Cx p s m args meth c RX5 cX5_probe 3 none b0 D E) {GG : Hp} : ∀ (n_ : Nat) {x0 : Nat} {x1 : Int32} {G : Hp} {ls : Array Slot} {H : Heap} {locs : List Loc}, lx ls 3 [(0, .inr x0), (1, .inl x1)] → Rp b0 D E G H → SS b0 s H locs → d_X5_probe_2 n_ x0 x1 G = some GG → W p l e (rmd 4 (0) (0)) s m args below meth c H locs (0) (0) (MQ below (CQ b0 D E none GG) args s (0) (0) (fun q => b0 ≤ q)) (F0 m 2 ls []) := by
  intro n_
  induction n_ with
  | zero =>
    intro x0 x1 G ls H locs hL hR hS hd
    cases (show (none : Option _) = some _ from hd)
  | succ n_ ih =>
    intro x0 x1 G ls H locs hL hR hS hd
    rw [d_X5_probe_2.eq_2] at hd
    have hx := C.1
    have hb := C.2.1
    refine x_iload_n C dX5_probe_2 hL 1 rfl ?_
    refine lv_bipush (v := 16) hx hb dX5_probe_3 (by decide) ?_
    refine lv_icmp_ge (tgt := 80) hx hb dX5_probe_5 (by decide) (fun c1 => ?_) (fun c1 => ?_)
    · rw [if_pos c1] at hd
      cases hd
      exact r_vret C dX5_probe_80 hR hS
    · rw [if_neg c1] at hd
      refine x_aload_n C dX5_probe_8 hL 0 rfl ?_
      obtain ⟨g2, hd⟩ := gd_ex hd
      refine r_geti (ci := 5) (k := 4) C fl_X5_9 rfl dX5_probe_9 hR g2 ?_
      refine lv_if_eq (tgt := 80) hx hb dX5_probe_12 (by decide) (fun c3 => ?_) (fun c3 => ?_)
      · rw [if_pos c3] at hd
        cases hd
        exact r_vret C dX5_probe_80 hR hS
      · rw [if_neg c3] at hd
        refine x_aload_n C dX5_probe_15 hL 0 rfl ?_
        refine r_getr (ci := 5) (k := 9) C fl_X5_28 rfl dX5_probe_16 hR g2 ?_
        refine x_iload_n C dX5_probe_19 hL 1 rfl ?_
        obtain ⟨g4, hd⟩ := gd_ex hd
        refine r_iald C dX5_probe_20 hR g4 ?_
        refine x_aload_n C dX5_probe_21 hL 0 rfl ?_
        refine r_getr (ci := 5) (k := 0) C fl_X5_50 rfl dX5_probe_22 hR g2 ?_
        obtain ⟨g5, hd⟩ := gd_ex hd
        refine r_geti (ci := 2) (k := 4) C fl_X5_118 rfl dX5_probe_25 hR g5 ?_
        refine lv_iconst (v := 5) hx hb dX5_probe_28 (by decide) ?_
        refine lv_iadd hx hb dX5_probe_29 ?_
        refine lv_icmp_ne (tgt := 53) hx hb dX5_probe_30 (by decide) (fun c6 => ?_) (fun c6 => ?_)
        · rw [if_neg c6] at hd
          exact k_X5_probe_53 C (fun y0 y1 Gy H1 locs1 ls1 hL1 hR1 hS1 hd1 => ih hL1 hR1 hS1 hd1) hL hR hS hd
        · rw [if_pos c6] at hd
          refine x_aload_n C dX5_probe_33 hL 0 rfl ?_
          refine r_getr (ci := 5) (k := 8) C fl_X5_25 rfl dX5_probe_34 hR g2 ?_
          refine x_iload_n C dX5_probe_37 hL 1 rfl ?_
          obtain ⟨g7, hd⟩ := gd_ex hd
          refine r_iald C dX5_probe_38 hR g7 ?_
          refine x_aload_n C dX5_probe_39 hL 0 rfl ?_
          refine r_getr (ci := 5) (k := 0) C fl_X5_50 rfl dX5_probe_40 hR g2 ?_
          refine r_geti (ci := 2) (k := 4) C fl_X5_118 rfl dX5_probe_43 hR g5 ?_
          refine lv_icmp_le (tgt := 53) hx hb dX5_probe_46 (by decide) (fun c8 => ?_) (fun c8 => ?_)
          · rw [if_pos c8] at hd
            exact k_X5_probe_53 C (fun y0 y1 Gy H1 locs1 ls1 hL1 hR1 hS1 hd1 => ih hL1 hR1 hS1 hd1) hL hR hS hd
          · rw [if_neg c8] at hd
            refine lv_iconst (v := 1) hx hb dX5_probe_49 (by decide) ?_
            refine lv_goto (tgt := 54) hx hb dX5_probe_50 (by decide) ?_
            exact k_X5_probe_54 C (fun y0 y1 Gy H1 locs1 ls1 hL1 hR1 hS1 hd1 => ih hL1 hR1 hS1 hd1) hL hR hS hd
set_option maxHeartbeats 4000000 in
set_option maxRecDepth 100000 in
theorem k_X5_probe (C : Cx p s m args meth c RX5 cX5_probe 3 none b0 D E) {GG : Hp} {x0 : Nat} {G : Hp} {ls : Array Slot} {H : Heap} {locs : List Loc} : lx ls 3 [(0, .inr x0)] → Rp b0 D E G H → SS b0 s H locs → d_X5_probe x0 G = some GG → W p l e (rmd 4 (0) (0)) s m args below meth c H locs (0) (0) (MQ below (CQ b0 D E none GG) args s (0) (0) (fun q => b0 ≤ q)) (F0 m 0 ls []) := by
  intro hL hR hS hd
  unfold d_X5_probe at hd
  have hx := C.1
  have hb := C.2.1
  refine lv_iconst (v := 0) hx hb dX5_probe_0 (by decide) ?_
  refine x_istore_n (lv' := [(1, .inl 0), (0, .inr x0)]) C dX5_probe_1 hL (by decide) rfl (fun ls hL => ?_)
  exact k_X5_probe_2 C FU (lx_sub hL [1, 0] rfl) hR hS hd
end
set_option maxHeartbeats 4000000 in
set_option maxRecDepth 100000 in
theorem ct_X5_probe {l : Launch} {b0 : Nat} {D : va_G} {E : Nat → ClassId} {G : Hp} {a0 : Nat} {GG : Hp} (hd : d_X5_probe a0 G = some GG) : CT l yX5_probe cX5_probe 3 none 4 0 0 b0 D E [rv a0] G none GG := by
  refine CT_of (by decide +kernel) ?_
  intro p e s m below meth c C hnm hR
  refine r_entry [.inr a0] (n := 3) (Nat.le_of_ble_eq_true rfl) (lv := [(0, .inr a0)]) rfl (fun ls hL => ?_)
  exact k_X5_probe C (lx_sub hL [0] rfl) hR ⟨fun _ _ => rfl, fun _ h => by cases h⟩ hd

/-! GroveWorks$Router.doTimers()V -/
theorem dX4_doTimers_0 : decode cX4_doTimers 0 = .ok (.iconst 0, 1) := by decide +kernel
theorem dX4_doTimers_1 : decode cX4_doTimers 1 = .ok (.istore_n 1, 1) := by decide +kernel
theorem dX4_doTimers_2 : decode cX4_doTimers 2 = .ok (.iload_n 1, 1) := by decide +kernel
theorem dX4_doTimers_3 : decode cX4_doTimers 3 = .ok (.iconst 4, 1) := by decide +kernel
theorem dX4_doTimers_4 : decode cX4_doTimers 4 = .ok (.if_icmp .ge 19, 3) := by decide +kernel
theorem dX4_doTimers_7 : decode cX4_doTimers 7 = .ok (.aload_n 0, 1) := by decide +kernel
theorem dX4_doTimers_8 : decode cX4_doTimers 8 = .ok (.aload_n 0, 1) := by decide +kernel
theorem dX4_doTimers_9 : decode cX4_doTimers 9 = .ok (.getfield 19, 3) := by decide +kernel
theorem dX4_doTimers_12 : decode cX4_doTimers 12 = .ok (.iload_n 1, 1) := by decide +kernel
theorem dX4_doTimers_13 : decode cX4_doTimers 13 = .ok (.aaload, 1) := by decide +kernel
theorem dX4_doTimers_14 : decode cX4_doTimers 14 = .ok (.invokevirtual 97, 3) := by decide +kernel
theorem dX4_doTimers_17 : decode cX4_doTimers 17 = .ok (.iinc 1 1, 3) := by decide +kernel
theorem dX4_doTimers_20 : decode cX4_doTimers 20 = .ok (.goto (-18), 3) := by decide +kernel
theorem dX4_doTimers_23 : decode cX4_doTimers 23 = .ok (.iconst 0, 1) := by decide +kernel
theorem dX4_doTimers_24 : decode cX4_doTimers 24 = .ok (.istore_n 1, 1) := by decide +kernel
theorem dX4_doTimers_25 : decode cX4_doTimers 25 = .ok (.iload_n 1, 1) := by decide +kernel
theorem dX4_doTimers_26 : decode cX4_doTimers 26 = .ok (.iconst 4, 1) := by decide +kernel
theorem dX4_doTimers_27 : decode cX4_doTimers 27 = .ok (.if_icmp .ge 19, 3) := by decide +kernel
theorem dX4_doTimers_30 : decode cX4_doTimers 30 = .ok (.aload_n 0, 1) := by decide +kernel
theorem dX4_doTimers_31 : decode cX4_doTimers 31 = .ok (.aload_n 0, 1) := by decide +kernel
theorem dX4_doTimers_32 : decode cX4_doTimers 32 = .ok (.getfield 19, 3) := by decide +kernel
theorem dX4_doTimers_35 : decode cX4_doTimers 35 = .ok (.iload_n 1, 1) := by decide +kernel
theorem dX4_doTimers_36 : decode cX4_doTimers 36 = .ok (.aaload, 1) := by decide +kernel
theorem dX4_doTimers_37 : decode cX4_doTimers 37 = .ok (.invokevirtual 100, 3) := by decide +kernel
theorem dX4_doTimers_40 : decode cX4_doTimers 40 = .ok (.iinc 1 1, 3) := by decide +kernel
theorem dX4_doTimers_43 : decode cX4_doTimers 43 = .ok (.goto (-18), 3) := by decide +kernel
theorem dX4_doTimers_46 : decode cX4_doTimers 46 = .ok (.iconst 0, 1) := by decide +kernel
theorem dX4_doTimers_47 : decode cX4_doTimers 47 = .ok (.istore_n 1, 1) := by decide +kernel
theorem dX4_doTimers_48 : decode cX4_doTimers 48 = .ok (.iload_n 1, 1) := by decide +kernel
theorem dX4_doTimers_49 : decode cX4_doTimers 49 = .ok (.bipush 8, 2) := by decide +kernel
theorem dX4_doTimers_51 : decode cX4_doTimers 51 = .ok (.if_icmp .ge 18, 3) := by decide +kernel
theorem dX4_doTimers_54 : decode cX4_doTimers 54 = .ok (.aload_n 0, 1) := by decide +kernel
theorem dX4_doTimers_55 : decode cX4_doTimers 55 = .ok (.getfield 23, 3) := by decide +kernel
theorem dX4_doTimers_58 : decode cX4_doTimers 58 = .ok (.iload_n 1, 1) := by decide +kernel
theorem dX4_doTimers_59 : decode cX4_doTimers 59 = .ok (.aaload, 1) := by decide +kernel
theorem dX4_doTimers_60 : decode cX4_doTimers 60 = .ok (.invokevirtual 103, 3) := by decide +kernel
theorem dX4_doTimers_63 : decode cX4_doTimers 63 = .ok (.iinc 1 1, 3) := by decide +kernel
theorem dX4_doTimers_66 : decode cX4_doTimers 66 = .ok (.goto (-18), 3) := by decide +kernel
theorem dX4_doTimers_69 : decode cX4_doTimers 69 = .ok (.iconst 0, 1) := by decide +kernel
theorem dX4_doTimers_70 : decode cX4_doTimers 70 = .ok (.istore_n 1, 1) := by decide +kernel
theorem dX4_doTimers_71 : decode cX4_doTimers 71 = .ok (.iload_n 1, 1) := by decide +kernel
theorem dX4_doTimers_72 : decode cX4_doTimers 72 = .ok (.bipush 8, 2) := by decide +kernel
theorem dX4_doTimers_74 : decode cX4_doTimers 74 = .ok (.if_icmp .ge 65, 3) := by decide +kernel
theorem dX4_doTimers_77 : decode cX4_doTimers 77 = .ok (.aload_n 0, 1) := by decide +kernel
theorem dX4_doTimers_78 : decode cX4_doTimers 78 = .ok (.getfield 23, 3) := by decide +kernel
theorem dX4_doTimers_81 : decode cX4_doTimers 81 = .ok (.iload_n 1, 1) := by decide +kernel
theorem dX4_doTimers_82 : decode cX4_doTimers 82 = .ok (.aaload, 1) := by decide +kernel
theorem dX4_doTimers_83 : decode cX4_doTimers 83 = .ok (.bipush 16, 2) := by decide +kernel
theorem dX4_doTimers_85 : decode cX4_doTimers 85 = .ok (.invokevirtual 106, 3) := by decide +kernel
theorem dX4_doTimers_88 : decode cX4_doTimers 88 = .ok (.iconst 0, 1) := by decide +kernel
theorem dX4_doTimers_89 : decode cX4_doTimers 89 = .ok (.istore_n 2, 1) := by decide +kernel
theorem dX4_doTimers_90 : decode cX4_doTimers 90 = .ok (.iload_n 2, 1) := by decide +kernel
theorem dX4_doTimers_91 : decode cX4_doTimers 91 = .ok (.bipush 16, 2) := by decide +kernel
theorem dX4_doTimers_93 : decode cX4_doTimers 93 = .ok (.if_icmp .ge 31, 3) := by decide +kernel
theorem dX4_doTimers_96 : decode cX4_doTimers 96 = .ok (.aload_n 0, 1) := by decide +kernel
theorem dX4_doTimers_97 : decode cX4_doTimers 97 = .ok (.getfield 23, 3) := by decide +kernel
theorem dX4_doTimers_100 : decode cX4_doTimers 100 = .ok (.iload_n 1, 1) := by decide +kernel
theorem dX4_doTimers_101 : decode cX4_doTimers 101 = .ok (.aaload, 1) := by decide +kernel
theorem dX4_doTimers_102 : decode cX4_doTimers 102 = .ok (.getfield 109, 3) := by decide +kernel
theorem dX4_doTimers_105 : decode cX4_doTimers 105 = .ok (.ifCond .eq 19, 3) := by decide +kernel
theorem dX4_doTimers_108 : decode cX4_doTimers 108 = .ok (.aload_n 0, 1) := by decide +kernel
theorem dX4_doTimers_109 : decode cX4_doTimers 109 = .ok (.getfield 23, 3) := by decide +kernel
theorem dX4_doTimers_112 : decode cX4_doTimers 112 = .ok (.iload_n 1, 1) := by decide +kernel
theorem dX4_doTimers_113 : decode cX4_doTimers 113 = .ok (.aaload, 1) := by decide +kernel
theorem dX4_doTimers_114 : decode cX4_doTimers 114 = .ok (.iload_n 2, 1) := by decide +kernel
theorem dX4_doTimers_115 : decode cX4_doTimers 115 = .ok (.invokevirtual 106, 3) := by decide +kernel
theorem dX4_doTimers_118 : decode cX4_doTimers 118 = .ok (.iinc 2 1, 3) := by decide +kernel
theorem dX4_doTimers_121 : decode cX4_doTimers 121 = .ok (.goto (-31), 3) := by decide +kernel
theorem dX4_doTimers_124 : decode cX4_doTimers 124 = .ok (.aload_n 0, 1) := by decide +kernel
theorem dX4_doTimers_125 : decode cX4_doTimers 125 = .ok (.getfield 23, 3) := by decide +kernel
theorem dX4_doTimers_128 : decode cX4_doTimers 128 = .ok (.iload_n 1, 1) := by decide +kernel
theorem dX4_doTimers_129 : decode cX4_doTimers 129 = .ok (.aaload, 1) := by decide +kernel
theorem dX4_doTimers_130 : decode cX4_doTimers 130 = .ok (.invokevirtual 112, 3) := by decide +kernel
theorem dX4_doTimers_133 : decode cX4_doTimers 133 = .ok (.iinc 1 1, 3) := by decide +kernel
theorem dX4_doTimers_136 : decode cX4_doTimers 136 = .ok (.goto (-65), 3) := by decide +kernel
theorem dX4_doTimers_139 : decode cX4_doTimers 139 = .ok (.iconst 0, 1) := by decide +kernel
theorem dX4_doTimers_140 : decode cX4_doTimers 140 = .ok (.istore_n 1, 1) := by decide +kernel
theorem dX4_doTimers_141 : decode cX4_doTimers 141 = .ok (.iload_n 1, 1) := by decide +kernel
theorem dX4_doTimers_142 : decode cX4_doTimers 142 = .ok (.bipush 8, 2) := by decide +kernel
theorem dX4_doTimers_144 : decode cX4_doTimers 144 = .ok (.if_icmp .ge 18, 3) := by decide +kernel
theorem dX4_doTimers_147 : decode cX4_doTimers 147 = .ok (.aload_n 0, 1) := by decide +kernel
theorem dX4_doTimers_148 : decode cX4_doTimers 148 = .ok (.getfield 23, 3) := by decide +kernel
theorem dX4_doTimers_151 : decode cX4_doTimers 151 = .ok (.iload_n 1, 1) := by decide +kernel
theorem dX4_doTimers_152 : decode cX4_doTimers 152 = .ok (.aaload, 1) := by decide +kernel
theorem dX4_doTimers_153 : decode cX4_doTimers 153 = .ok (.invokevirtual 115, 3) := by decide +kernel
theorem dX4_doTimers_156 : decode cX4_doTimers 156 = .ok (.iinc 1 1, 3) := by decide +kernel
theorem dX4_doTimers_159 : decode cX4_doTimers 159 = .ok (.goto (-18), 3) := by decide +kernel
theorem dX4_doTimers_162 : decode cX4_doTimers 162 = .ok (.return_, 1) := by decide +kernel
def d_X4_doTimers_124 (x0 : Nat) (x1 : Int32) (G : Hp) (k71 : Nat → Int32 → Hp → Option (Hp)) : Option (Hp) :=
  gd (hc G x0 = 5) <|
  gd (hc G (hr G x0 3) = 18 ∧ ix x1 (hl G (hr G x0 3))) <|
  gd (hc G (hr G (hr G x0 3) x1.toNatClampNeg) = 6) <|
  bo (d_X5_dropKnown (hr G (hr G x0 3) x1.toNatClampNeg) G) fun G5 =>
  k71 x0 (x1 + 1) G5
def d_X4_doTimers_90 : Nat → Nat → Int32 → Int32 → Hp → (Nat → Int32 → Hp → Option (Hp)) → Option (Hp)
  | 0, _, _, _, _, _ => none
  | n_ + 1, x0, x1, x2, G, k71 =>
    if 16 ≤ x2 then
      d_X4_doTimers_124 x0 x1 G k71
    else
      gd (hc G x0 = 5) <|
      gd (hc G (hr G x0 3) = 18 ∧ ix x1 (hl G (hr G x0 3))) <|
      gd (hc G (hr G (hr G x0 3) x1.toNatClampNeg) = 6) <|
      if (hi G (hr G (hr G x0 3) x1.toNatClampNeg) 4) = 0 then
        d_X4_doTimers_124 x0 x1 G k71
      else
        gd (hc G (hr G x0 3) = 18 ∧ ix x1 (hl G (hr G x0 3))) <|
        bo (d_X5_renewJoin (hr G (hr G x0 3) x1.toNatClampNeg) x2 G) fun G8 =>
        d_X4_doTimers_90 n_ x0 x1 (x2 + 1) G8 k71
def d_X4_doTimers_141 : Nat → Nat → Int32 → Hp → Option (Hp)
  | 0, _, _, _ => none
  | n_ + 1, x0, x1, G =>
    if 8 ≤ x1 then
      some G
    else
      gd (hc G x0 = 5) <|
      gd (hc G (hr G x0 3) = 18 ∧ ix x1 (hl G (hr G x0 3))) <|
      gd (hc G (hr G (hr G x0 3) x1.toNatClampNeg) = 6) <|
      bo (d_X5_probe (hr G (hr G x0 3) x1.toNatClampNeg) G) fun G6 =>
      d_X4_doTimers_141 n_ x0 (x1 + 1) G6
def d_X4_doTimers_71 : Nat → Nat → Int32 → Hp → Option (Hp)
  | 0, _, _, _ => none
  | n_ + 1, x0, x1, G =>
    if 8 ≤ x1 then
      d_X4_doTimers_141 FU x0 0 G
    else
      gd (hc G x0 = 5) <|
      gd (hc G (hr G x0 3) = 18 ∧ ix x1 (hl G (hr G x0 3))) <|
      gd (hc G (hr G (hr G x0 3) x1.toNatClampNeg) = 6) <|
      bo (d_X5_renewJoin (hr G (hr G x0 3) x1.toNatClampNeg) 16 G) fun G6 =>
      d_X4_doTimers_90 FU x0 x1 0 G6 (fun y0 y1 Gy => d_X4_doTimers_71 n_ y0 y1 Gy)
def d_X4_doTimers_48 : Nat → Nat → Int32 → Hp → Option (Hp)
  | 0, _, _, _ => none
  | n_ + 1, x0, x1, G =>
    if 8 ≤ x1 then
      d_X4_doTimers_71 FU x0 0 G
    else
      gd (hc G x0 = 5) <|
      gd (hc G (hr G x0 3) = 18 ∧ ix x1 (hl G (hr G x0 3))) <|
      gd (hc G (hr G (hr G x0 3) x1.toNatClampNeg) = 6) <|
      bo (d_X5_checkStraight (hr G (hr G x0 3) x1.toNatClampNeg) G) fun G6 =>
      d_X4_doTimers_48 n_ x0 (x1 + 1) G6
def d_X4_doTimers_25 : Nat → Nat → Int32 → Hp → Option (Hp)
  | 0, _, _, _ => none
  | n_ + 1, x0, x1, G =>
    if 4 ≤ x1 then
      d_X4_doTimers_48 FU x0 0 G
    else
      gd (hc G x0 = 5) <|
      gd (hc G (hr G x0 2) = 16 ∧ ix x1 (hl G (hr G x0 2))) <|
      bo (d_X4_askAll x0 (hr G (hr G x0 2) x1.toNatClampNeg) G) fun G5 =>
      d_X4_doTimers_25 n_ x0 (x1 + 1) G5
def d_X4_doTimers_2 : Nat → Nat → Int32 → Hp → Option (Hp)
  | 0, _, _, _ => none
  | n_ + 1, x0, x1, G =>
    if 4 ≤ x1 then
      d_X4_doTimers_25 FU x0 0 G
    else
      gd (hc G x0 = 5) <|
      gd (hc G (hr G x0 2) = 16 ∧ ix x1 (hl G (hr G x0 2))) <|
      bo (d_X4_sayHello x0 (hr G (hr G x0 2) x1.toNatClampNeg) G) fun G5 =>
      d_X4_doTimers_2 n_ x0 (x1 + 1) G5
def d_X4_doTimers (x0 : Nat) (G : Hp) : Option (Hp) :=
  d_X4_doTimers_2 FU x0 0 G
section
variable {p : Program} {l : Launch} {e : Env} {s : State} {m : MethodId} {args : Array Value} {below : List Frame} {meth : Method} {c : Code} {b0 : Nat} {D : va_G} {E : Nat → ClassId}
set_option maxHeartbeats 4000000 in
set_option maxRecDepth 100000 in
theorem k_X4_doTimers_124 (C : Cx p s m args meth c RX4 cX4_doTimers 3 none b0 D E) {GG : Hp} {k71 : Nat → Int32 → Hp → Option (Hp)} (hk71 : ∀ (y0 : Nat) (y1 : Int32) (Gy : Hp) (H1 : Heap) (locs1 : List Loc) (ls1 : Array Slot), lx ls1 3 [(0, .inr y0), (1, .inl y1)] → Rp b0 D E Gy H1 → SS b0 s H1 locs1 → k71 y0 y1 Gy = some GG → W p l e (rmd 6 (0) (0)) s m args below meth c H1 locs1 (0) (0) (MQ below (CQ b0 D E none GG) args s (0) (0) (fun q => b0 ≤ q)) (F0 m 71 ls1 [])) {x0 : Nat} {x1 : Int32} {G : Hp} {ls : Array Slot} {H : Heap} {locs : List Loc} : lx ls 3 [(0, .inr x0), (1, .inl x1)] → Rp b0 D E G H → SS b0 s H locs → d_X4_doTimers_124 x0 x1 G k71 = some GG → W p l e (rmd 6 (0) (0)) s m args below meth c H locs (0) (0) (MQ below (CQ b0 D E none GG) args s (0) (0) (fun q => b0 ≤ q)) (F0 m 124 ls []) := by
  intro hL hR hS hd
  unfold d_X4_doTimers_124 at hd
  have hx := C.1
  have hb := C.2.1
  refine x_aload_n C dX4_doTimers_124 hL 0 rfl ?_
  obtain ⟨g1, hd⟩ := gd_ex hd
  refine r_getr (ci := 4) (k := 3) C fl_X4_23 rfl dX4_doTimers_125 hR g1 ?_
  refine x_iload_n C dX4_doTimers_128 hL 1 rfl ?_
  obtain ⟨g2, hd⟩ := gd_ex hd
  refine r_aald (ci := 5) C (by decide) dX4_doTimers_129 hR g2 ?_
  obtain ⟨g3, hd⟩ := gd_ex hd
  obtain ⟨G5, h4, hd⟩ := bo_ex hd
  refine r_callV (a := (hr G (hr G x0 3) x1.toNatClampNeg)) (ci := 5) (As := []) C (ct_X5_dropKnown h4) mf_X5_dropKnown ml_X4_112 mv_X5_dropKnown rfl ⟨Nat.le_of_ble_eq_true rfl, Nat.le_of_ble_eq_true rfl⟩ dX4_doTimers_130 (lx_size hL) rfl hR hS g3 ⟨Nat.le_refl _, Nat.le_refl _⟩ (cat_le [] (Nat.le_of_ble_eq_true rfl)) (fun H locs hR hS => ?_)
  refine W_st (st2 := []) rfl ?_
  refine x_iinc (lv' := [(1, .inl (x1 + 1)), (0, .inr x0)]) C dX4_doTimers_133 hL 1 rfl rfl (by decide) rfl (fun ls hL => ?_)
  refine lv_goto (tgt := 71) hx hb dX4_doTimers_136 (by decide) ?_
  exact hk71 _ _ _ _ _ _ (lx_sub hL [1, 0] rfl) hR hS hd
set_option maxHeartbeats 4000000 in
set_option maxRecDepth 100000 in
theorem k_X4_doTimers_90 (C : Cx p s m args meth c RX4 cX4_doTimers 3 none b0 D E) {GG : Hp} {k71 : Nat → Int32 → Hp → Option (Hp)} (hk71 : ∀ (y0 : Nat) (y1 : Int32) (Gy : Hp) (H1 : Heap) (locs1 : List Loc) (ls1 : Array Slot), lx ls1 3 [(0, .inr y0), (1, .inl y1)] → Rp b0 D E Gy H1 → SS b0 s H1 locs1 → k71 y0 y1 Gy = some GG → W p l e (rmd 6 (0) (0)) s m args below meth c H1 locs1 (0) (0) (MQ below (CQ b0 D E none GG) args s (0) (0) (fun q => b0 ≤ q)) (F0 m 71 ls1 [])) : ∀ (n_ : Nat) {x0 : Nat} {x1 : Int32} {x2 : Int32} {G : Hp} {ls : Array Slot} {H : Heap} {locs : List Loc}, lx ls 3 [(0, .inr x0), (1, .inl x1), (2, .inl x2)] → Rp b0 D E G H → SS b0 s H locs → d_X4_doTimers_90 n_ x0 x1 x2 G k71 = some GG → W p l e (rmd 6 (0) (0)) s m args below meth c H locs (0) (0) (MQ below (CQ b0 D E none GG) args s (0) (0) (fun q => b0 ≤ q)) (F0 m 90 ls []) := by
  intro n_
  induction n_ with
  | zero =>
    intro x0 x1 x2 G ls H locs hL hR hS hd
    cases (show (none : Option _) = some _ from hd)
  | succ n_ ih =>
    intro x0 x1 x2 G ls H locs hL hR hS hd
    rw [d_X4_doTimers_90.eq_2] at hd
    have hx := C.1
    have hb := C.2.1
    refine x_iload_n C dX4_doTimers_90 hL 2 rfl ?_
    refine lv_bipush (v := 16) hx hb dX4_doTimers_91 (by decide) ?_
    refine lv_icmp_ge (tgt := 124) hx hb dX4_doTimers_93 (by decide) (fun c1 => ?_) (fun c1 => ?_)
    · rw [if_pos c1] at hd
      exact k_X4_doTimers_124 C hk71 (lx_sub hL [0, 1] rfl) hR hS hd
    · rw [if_neg c1] at hd
      refine x_aload_n C dX4_doTimers_96 hL 0 rfl ?_
      obtain ⟨g2, hd⟩ := gd_ex hd
      refine r_getr (ci := 4) (k := 3) C fl_X4_23 rfl dX4_doTimers_97 hR g2 ?_
      refine x_iload_n C dX4_doTimers_100 hL 1 rfl ?_
      obtain ⟨g3, hd⟩ := gd_ex hd
      refine r_aald (ci := 5) C (by decide) dX4_doTimers_101 hR g3 ?_
      obtain ⟨g4, hd⟩ := gd_ex hd
      refine r_geti (ci := 5) (k := 4) C fl_X4_109 rfl dX4_doTimers_102 hR g4 ?_
      refine lv_if_eq (tgt := 124) hx hb dX4_doTimers_105 (by decide) (fun c5 => ?_) (fun c5 => ?_)
      · rw [if_pos c5] at hd
        exact k_X4_doTimers_124 C hk71 (lx_sub hL [0, 1] rfl) hR hS hd
      · rw [if_neg c5] at hd
        refine x_aload_n C dX4_doTimers_108 hL 0 rfl ?_
        refine r_getr (ci := 4) (k := 3) C fl_X4_23 rfl dX4_doTimers_109 hR g2 ?_
        refine x_iload_n C dX4_doTimers_112 hL 1 rfl ?_
        obtain ⟨g6, hd⟩ := gd_ex hd
        refine r_aald (ci := 5) C (by decide) dX4_doTimers_113 hR g6 ?_
        refine x_iload_n C dX4_doTimers_114 hL 2 rfl ?_
        obtain ⟨G8, h7, hd⟩ := bo_ex hd
        refine r_callV (a := (hr G (hr G x0 3) x1.toNatClampNeg)) (ci := 5) (As := [.int x2]) C (ct_X5_renewJoin h7) mf_X5_renewJoin ml_X4_106 mv_X5_renewJoin rfl ⟨Nat.le_of_ble_eq_true rfl, Nat.le_of_ble_eq_true rfl⟩ dX4_doTimers_115 (lx_size hL) rfl hR hS g4 ⟨Nat.le_refl _, Nat.le_refl _⟩ (cat_le [] (Nat.le_of_ble_eq_true rfl)) (fun H locs hR hS => ?_)
        refine W_st (st2 := []) rfl ?_
        refine x_iinc (lv' := [(2, .inl (x2 + 1)), (0, .inr x0), (1, .inl x1)]) C dX4_doTimers_118 hL 2 rfl rfl (by decide) rfl (fun ls hL => ?_)
        refine lv_goto (tgt := 90) hx hb dX4_doTimers_121 (by decide) ?_
        exact ih (lx_sub hL [1, 2, 0] rfl) hR hS hd
set_option maxHeartbeats 4000000 in
set_option maxRecDepth 100000 in
theorem k_X4_doTimers_141 (C : Cx p s m args meth c RX4 cX4_doTimers 3 none b0 D E) {GG : Hp} : ∀ (n_ : Nat) {x0 : Nat} {x1 : Int32} {G : Hp} {ls : Array Slot} {H : Heap} {locs : List Loc}, lx ls 3 [(0, .inr x0), (1, .inl x1)] → Rp b0 D E G H → SS b0 s H locs → d_X4_doTimers_141 n_ x0 x1 G = some GG → W p l e (rmd 6 (0) (0)) s m args below meth c H locs (0) (0) (MQ below (CQ b0 D E none GG) args s (0) (0) (fun q => b0 ≤ q)) (F0 m 141 ls []) := by
  intro n_
  induction n_ with
  | zero =>
    intro x0 x1 G ls H locs hL hR hS hd
    cases (show (none : Option _) = some _ from hd)
  | succ n_ ih =>
    intro x0 x1 G ls H locs hL hR hS hd
    rw [d_X4_doTimers_141.eq_2] at hd
    have hx := C.1
    have hb := C.2.1
    refine x_iload_n C dX4_doTimers_141 hL 1 rfl ?_
    refine lv_bipush (v := 8) hx hb dX4_doTimers_142 (by decide) ?_
    refine lv_icmp_ge (tgt := 162) hx hb dX4_doTimers_144 (by decide) (fun c1 => ?_) (fun c1 => ?_)
    · rw [if_pos c1] at hd
      cases hd
      exact r_vret C dX4_doTimers_162 hR hS
    · rw [if_neg c1] at hd
      refine x_aload_n C dX4_doTimers_147 hL 0 rfl ?_
      obtain ⟨g2, hd⟩ := gd_ex hd
      refine r_getr (ci := 4) (k := 3) C fl_X4_23 rfl dX4_doTimers_148 hR g2 ?_
      refine x_iload_n C dX4_doTimers_151 hL 1 rfl ?_
      obtain ⟨g3, hd⟩ := gd_ex hd
      refine r_aald (ci := 5) C (by decide) dX4_doTimers_152 hR g3 ?_
      obtain ⟨g4, hd⟩ := gd_ex hd
      obtain ⟨G6, h5, hd⟩ := bo_ex hd
      refine r_callV (a := (hr G (hr G x0 3) x1.toNatClampNeg)) (ci := 5) (As := []) C (ct_X5_probe h5) mf_X5_probe ml_X4_115 mv_X5_probe rfl ⟨Nat.le_of_ble_eq_true rfl, Nat.le_of_ble_eq_true rfl⟩ dX4_doTimers_153 (lx_size hL) rfl hR hS g4 ⟨Nat.le_refl _, Nat.le_refl _⟩ (cat_le [] (Nat.le_of_ble_eq_true rfl)) (fun H locs hR hS => ?_)
      refine W_st (st2 := []) rfl ?_
      refine x_iinc (lv' := [(1, .inl (x1 + 1)), (0, .inr x0)]) C dX4_doTimers_156 hL 1 rfl rfl (by decide) rfl (fun ls hL => ?_)
      refine lv_goto (tgt := 141) hx hb dX4_doTimers_159 (by decide) ?_
      exact ih (lx_sub hL [1, 0] rfl) hR hS hd
set_option maxHeartbeats 4000000 in
set_option maxRecDepth 100000 in
theorem k_X4_doTimers_71 (C : Cx p s m args meth c RX4 cX4_doTimers 3 none b0 D E) {GG : Hp} : ∀ (n_ : Nat) {x0 : Nat} {x1 : Int32} {G : Hp} {ls : Array Slot} {H : Heap} {locs : List Loc}, lx ls 3 [(0, .inr x0), (1, .inl x1)] → Rp b0 D E G H → SS b0 s H locs → d_X4_doTimers_71 n_ x0 x1 G = some GG → W p l e (rmd 6 (0) (0)) s m args below meth c H locs (0) (0) (MQ below (CQ b0 D E none GG) args s (0) (0) (fun q => b0 ≤ q)) (F0 m 71 ls []) := by
  intro n_
  induction n_ with
  | zero =>
    intro x0 x1 G ls H locs hL hR hS hd
    cases (show (none : Option _) = some _ from hd)
  | succ n_ ih =>
    intro x0 x1 G ls H locs hL hR hS hd
    rw [d_X4_doTimers_71.eq_2] at hd
    have hx := C.1
    have hb := C.2.1
    refine x_iload_n C dX4_doTimers_71 hL 1 rfl ?_
    refine lv_bipush (v := 8) hx hb dX4_doTimers_72 (by decide) ?_
    refine lv_icmp_ge (tgt := 139) hx hb dX4_doTimers_74 (by decide) (fun c1 => ?_) (fun c1 => ?_)
    · rw [if_pos c1] at hd
      refine lv_iconst (v := 0) hx hb dX4_doTimers_139 (by decide) ?_
      refine x_istore_n (lv' := [(1, .inl 0), (0, .inr x0)]) C dX4_doTimers_140 hL (by decide) rfl (fun ls hL => ?_)
      exact k_X4_doTimers_141 C FU (lx_sub hL [1, 0] rfl) hR hS hd
    · rw [if_neg c1] at hd
      refine x_aload_n C dX4_doTimers_77 hL 0 rfl ?_
      obtain ⟨g2, hd⟩ := gd_ex hd
      refine r_getr (ci := 4) (k := 3) C fl_X4_23 rfl dX4_doTimers_78 hR g2 ?_
      refine x_iload_n C dX4_doTimers_81 hL 1 rfl ?_
      obtain ⟨g3, hd⟩ := gd_ex hd
      refine r_aald (ci := 5) C (by decide) dX4_doTimers_82 hR g3 ?_
      refine lv_bipush (v := 16) hx hb dX4_doTimers_83 (by decide) ?_
      obtain ⟨g4, hd⟩ := gd_ex hd
      obtain ⟨G6, h5, hd⟩ := bo_ex hd
      refine r_callV (a := (hr G (hr G x0 3) x1.toNatClampNeg)) (ci := 5) (As := [.int 16]) C (ct_X5_renewJoin h5) mf_X5_renewJoin ml_X4_106 mv_X5_renewJoin rfl ⟨Nat.le_of_ble_eq_true rfl, Nat.le_of_ble_eq_true rfl⟩ dX4_doTimers_85 (lx_size hL) rfl hR hS g4 ⟨Nat.le_refl _, Nat.le_refl _⟩ (cat_le [] (Nat.le_of_ble_eq_true rfl)) (fun H locs hR hS => ?_)
      refine W_st (st2 := []) rfl ?_
      refine lv_iconst (v := 0) hx hb dX4_doTimers_88 (by decide) ?_
      refine x_istore_n (lv' := [(2, .inl 0), (0, .inr x0), (1, .inl x1)]) C dX4_doTimers_89 hL (by decide) rfl (fun ls hL => ?_)
      exact k_X4_doTimers_90 C (fun y0 y1 Gy H1 locs1 ls1 hL1 hR1 hS1 hd1 => ih hL1 hR1 hS1 hd1) FU (lx_sub hL [1, 2, 0] rfl) hR hS hd
set_option maxHeartbeats 4000000 in
set_option maxRecDepth 100000 in
theorem k_X4_doTimers_48 (C : Cx p s m args meth c RX4 cX4_doTimers 3 none b0 D E) {GG : Hp} : ∀ (n_ : Nat) {x0 : Nat} {x1 : Int32} {G : Hp} {ls : Array Slot} {H : Heap} {locs : List Loc}, lx ls 3 [(0, .inr x0), (1, .inl x1)] → Rp b0 D E G H → SS b0 s H locs → d_X4_doTimers_48 n_ x0 x1 G = some GG → W p l e (rmd 6 (0) (0)) s m args below meth c H locs (0) (0) (MQ below (CQ b0 D E none GG) args s (0) (0) (fun q => b0 ≤ q)) (F0 m 48 ls []) := by
  intro n_
  induction n_ with
  | zero =>
    intro x0 x1 G ls H locs hL hR hS hd
    cases (show (none : Option _) = some _ from hd)
  | succ n_ ih =>
    intro x0 x1 G ls H locs hL hR hS hd
    rw [d_X4_doTimers_48.eq_2] at hd
    have hx := C.1
    have hb := C.2.1
    refine x_iload_n C dX4_doTimers_48 hL 1 rfl ?_
    refine lv_bipush (v := 8) hx hb dX4_doTimers_49 (by decide) ?_
    refine lv_icmp_ge (tgt := 69) hx hb dX4_doTimers_51 (by decide) (fun c1 => ?_) (fun c1 => ?_)
    · rw [if_pos c1] at hd
      refine lv_iconst (v := 0) hx hb dX4_doTimers_69 (by decide) ?_
      refine x_istore_n (lv' := [(1, .inl 0), (0, .inr x0)]) C dX4_doTimers_70 hL (by decide) rfl (fun ls hL => ?_)
      exact k_X4_doTimers_71 C FU (lx_sub hL [1, 0] rfl) hR hS hd
    · rw [if_neg c1] at hd
      refine x_aload_n C dX4_doTimers_54 hL 0 rfl ?_
      obtain ⟨g2, hd⟩ := gd_ex hd
      refine r_getr (ci := 4) (k := 3) C fl_X4_23 rfl dX4_doTimers_55 hR g2 ?_
      refine x_iload_n C dX4_doTimers_58 hL 1 rfl ?_
      obtain ⟨g3, hd⟩ := gd_ex hd
      refine r_aald (ci := 5) C (by decide) dX4_doTimers_59 hR g3 ?_
      obtain ⟨g4, hd⟩ := gd_ex hd
      obtain ⟨G6, h5, hd⟩ := bo_ex hd
      refine r_callV (a := (hr G (hr G x0 3) x1.toNatClampNeg)) (ci := 5) (As := []) C (ct_X5_checkStraight h5) mf_X5_checkStraight ml_X4_103 mv_X5_checkStraight rfl ⟨Nat.le_of_ble_eq_true rfl, Nat.le_of_ble_eq_true rfl⟩ dX4_doTimers_60 (lx_size hL) rfl hR hS g4 ⟨Nat.le_refl _, Nat.le_refl _⟩ (cat_le [] (Nat.le_of_ble_eq_true rfl)) (fun H locs hR hS => ?_)
      refine W_st (st2 := []) rfl ?_
      refine x_iinc (lv' := [(1, .inl (x1 + 1)), (0, .inr x0)]) C dX4_doTimers_63 hL 1 rfl rfl (by decide) rfl (fun ls hL => ?_)
      refine lv_goto (tgt := 48) hx hb dX4_doTimers_66 (by decide) ?_
      exact ih (lx_sub hL [1, 0] rfl) hR hS hd
set_option maxHeartbeats 4000000 in
set_option maxRecDepth 100000 in
theorem k_X4_doTimers_25 (C : Cx p s m args meth c RX4 cX4_doTimers 3 none b0 D E) {GG : Hp} : ∀ (n_ : Nat) {x0 : Nat} {x1 : Int32} {G : Hp} {ls : Array Slot} {H : Heap} {locs : List Loc}, lx ls 3 [(0, .inr x0), (1, .inl x1)] → Rp b0 D E G H → SS b0 s H locs → d_X4_doTimers_25 n_ x0 x1 G = some GG → W p l e (rmd 6 (0) (0)) s m args below meth c H locs (0) (0) (MQ below (CQ b0 D E none GG) args s (0) (0) (fun q => b0 ≤ q)) (F0 m 25 ls []) := by
  intro n_
  induction n_ with
  | zero =>
    intro x0 x1 G ls H locs hL hR hS hd
    cases (show (none : Option _) = some _ from hd)
  | succ n_ ih =>
    intro x0 x1 G ls H locs hL hR hS hd
    rw [d_X4_doTimers_25.eq_2] at hd
    have hx := C.1
    have hb := C.2.1
    refine x_iload_n C dX4_doTimers_25 hL 1 rfl ?_
    refine lv_iconst (v := 4) hx hb dX4_doTimers_26 (by decide) ?_
    refine lv_icmp_ge (tgt := 46) hx hb dX4_doTimers_27 (by decide) (fun c1 => ?_) (fun c1 => ?_)
    · rw [if_pos c1] at hd
      refine lv_iconst (v := 0) hx hb dX4_doTimers_46 (by decide) ?_
      refine x_istore_n (lv' := [(1, .inl 0), (0, .inr x0)]) C dX4_doTimers_47 hL (by decide) rfl (fun ls hL => ?_)
      exact k_X4_doTimers_48 C FU (lx_sub hL [1, 0] rfl) hR hS hd
    · rw [if_neg c1] at hd
      refine x_aload_n C dX4_doTimers_30 hL 0 rfl ?_
      refine x_aload_n C dX4_doTimers_31 hL 0 rfl ?_
      obtain ⟨g2, hd⟩ := gd_ex hd
      refine r_getr (ci := 4) (k := 2) C fl_X4_19 rfl dX4_doTimers_32 hR g2 ?_
      refine x_iload_n C dX4_doTimers_35 hL 1 rfl ?_
      obtain ⟨g3, hd⟩ := gd_ex hd
      refine r_aald (ci := 3) C (by decide) dX4_doTimers_36 hR g3 ?_
      obtain ⟨G5, h4, hd⟩ := bo_ex hd
      refine r_callV (a := x0) (ci := 4) (As := [rv (hr G (hr G x0 2) x1.toNatClampNeg)]) C (ct_X4_askAll h4) mf_X4_askAll ml_X4_100 mv_X4_askAll rfl ⟨Nat.le_of_ble_eq_true rfl, Nat.le_of_ble_eq_true rfl⟩ dX4_doTimers_37 (lx_size hL) rfl hR hS g2 ⟨Nat.le_refl _, Nat.le_refl _⟩ (cat_le [] (Nat.le_of_ble_eq_true rfl)) (fun H locs hR hS => ?_)
      refine W_st (st2 := []) rfl ?_
      refine x_iinc (lv' := [(1, .inl (x1 + 1)), (0, .inr x0)]) C dX4_doTimers_40 hL 1 rfl rfl (by decide) rfl (fun ls hL => ?_)
      refine lv_goto (tgt := 25) hx hb dX4_doTimers_43 (by decide) ?_
      exact ih (lx_sub hL [1, 0] rfl) hR hS hd
set_option maxHeartbeats 4000000 in
set_option maxRecDepth 100000 in
theorem k_X4_doTimers_2 (C : Cx p s m args meth c RX4 cX4_doTimers 3 none b0 D E) {GG : Hp} : ∀ (n_ : Nat) {x0 : Nat} {x1 : Int32} {G : Hp} {ls : Array Slot} {H : Heap} {locs : List Loc}, lx ls 3 [(0, .inr x0), (1, .inl x1)] → Rp b0 D E G H → SS b0 s H locs → d_X4_doTimers_2 n_ x0 x1 G = some GG → W p l e (rmd 6 (0) (0)) s m args below meth c H locs (0) (0) (MQ below (CQ b0 D E none GG) args s (0) (0) (fun q => b0 ≤ q)) (F0 m 2 ls []) := by
  intro n_
  induction n_ with
  | zero =>
    intro x0 x1 G ls H locs hL hR hS hd
    cases (show (none : Option _) = some _ from hd)
  | succ n_ ih =>
    intro x0 x1 G ls H locs hL hR hS hd
    rw [d_X4_doTimers_2.eq_2] at hd
    have hx := C.1
    have hb := C.2.1
    refine x_iload_n C dX4_doTimers_2 hL 1 rfl ?_
    refine lv_iconst (v := 4) hx hb dX4_doTimers_3 (by decide) ?_
    refine lv_icmp_ge (tgt := 23) hx hb dX4_doTimers_4 (by decide) (fun c1 => ?_) (fun c1 => ?_)
    · rw [if_pos c1] at hd
      refine lv_iconst (v := 0) hx hb dX4_doTimers_23 (by decide) ?_
      refine x_istore_n (lv' := [(1, .inl 0), (0, .inr x0)]) C dX4_doTimers_24 hL (by decide) rfl (fun ls hL => ?_)
      exact k_X4_doTimers_25 C FU (lx_sub hL [1, 0] rfl) hR hS hd
    · rw [if_neg c1] at hd
      refine x_aload_n C dX4_doTimers_7 hL 0 rfl ?_
      refine x_aload_n C dX4_doTimers_8 hL 0 rfl ?_
      obtain ⟨g2, hd⟩ := gd_ex hd
      refine r_getr (ci := 4) (k := 2) C fl_X4_19 rfl dX4_doTimers_9 hR g2 ?_
      refine x_iload_n C dX4_doTimers_12 hL 1 rfl ?_
      obtain ⟨g3, hd⟩ := gd_ex hd
      refine r_aald (ci := 3) C (by decide) dX4_doTimers_13 hR g3 ?_
      obtain ⟨G5, h4, hd⟩ := bo_ex hd
      refine r_callV (a := x0) (ci := 4) (As := [rv (hr G (hr G x0 2) x1.toNatClampNeg)]) C (ct_X4_sayHello h4) mf_X4_sayHello ml_X4_97 mv_X4_sayHello rfl ⟨Nat.le_of_ble_eq_true rfl, Nat.le_of_ble_eq_true rfl⟩ dX4_doTimers_14 (lx_size hL) rfl hR hS g2 ⟨Nat.le_refl _, Nat.le_refl _⟩ (cat_le [] (Nat.le_of_ble_eq_true rfl)) (fun H locs hR hS => ?_)
      refine W_st (st2 := []) rfl ?_
      refine x_iinc (lv' := [(1, .inl (x1 + 1)), (0, .inr x0)]) C dX4_doTimers_17 hL 1 rfl rfl (by decide) rfl (fun ls hL => ?_)
      refine lv_goto (tgt := 2) hx hb dX4_doTimers_20 (by decide) ?_
      exact ih (lx_sub hL [1, 0] rfl) hR hS hd
set_option maxHeartbeats 4000000 in
set_option maxRecDepth 100000 in
theorem k_X4_doTimers (C : Cx p s m args meth c RX4 cX4_doTimers 3 none b0 D E) {GG : Hp} {x0 : Nat} {G : Hp} {ls : Array Slot} {H : Heap} {locs : List Loc} : lx ls 3 [(0, .inr x0)] → Rp b0 D E G H → SS b0 s H locs → d_X4_doTimers x0 G = some GG → W p l e (rmd 6 (0) (0)) s m args below meth c H locs (0) (0) (MQ below (CQ b0 D E none GG) args s (0) (0) (fun q => b0 ≤ q)) (F0 m 0 ls []) := by
  intro hL hR hS hd
  unfold d_X4_doTimers at hd
  have hx := C.1
  have hb := C.2.1
  refine lv_iconst (v := 0) hx hb dX4_doTimers_0 (by decide) ?_
  refine x_istore_n (lv' := [(1, .inl 0), (0, .inr x0)]) C dX4_doTimers_1 hL (by decide) rfl (fun ls hL => ?_)
  exact k_X4_doTimers_2 C FU (lx_sub hL [1, 0] rfl) hR hS hd
end
set_option maxHeartbeats 4000000 in
set_option maxRecDepth 100000 in
theorem ct_X4_doTimers {l : Launch} {b0 : Nat} {D : va_G} {E : Nat → ClassId} {G : Hp} {a0 : Nat} {GG : Hp} (hd : d_X4_doTimers a0 G = some GG) : CT l yX4_doTimers cX4_doTimers 3 none 6 0 0 b0 D E [rv a0] G none GG := by
  refine CT_of (by decide +kernel) ?_
  intro p e s m below meth c C hnm hR
  refine r_entry [.inr a0] (n := 3) (Nat.le_of_ble_eq_true rfl) (lv := [(0, .inr a0)]) rfl (fun ls hL => ?_)
  exact k_X4_doTimers C (lx_sub hL [0] rfl) hR ⟨fun _ _ => rfl, fun _ h => by cases h⟩ hd

/-! GroveWorks$Tree.<init>(LGroveWorks$Net;II[LGroveWorks$Port;)V makes -/
theorem dX5_init_0 : decode cX5_init 0 = .ok (.aload_n 0, 1) := by decide +kernel
theorem dX5_init_1 : decode cX5_init 1 = .ok (.invokespecial 3, 3) := by decide +kernel
theorem dX5_init_4 : decode cX5_init 4 = .ok (.aload_n 0, 1) := by decide +kernel
theorem dX5_init_5 : decode cX5_init 5 = .ok (.iconst 0, 1) := by decide +kernel
theorem dX5_init_6 : decode cX5_init 6 = .ok (.putfield 9, 3) := by decide +kernel
theorem dX5_init_9 : decode cX5_init 9 = .ok (.aload_n 0, 1) := by decide +kernel
theorem dX5_init_10 : decode cX5_init 10 = .ok (.bipush 17, 2) := by decide +kernel
theorem dX5_init_12 : decode cX5_init 12 = .ok (.newarray .int, 2) := by decide +kernel
theorem dX5_init_14 : decode cX5_init 14 = .ok (.putfield 15, 3) := by decide +kernel
theorem dX5_init_17 : decode cX5_init 17 = .ok (.aload_n 0, 1) := by decide +kernel
theorem dX5_init_18 : decode cX5_init 18 = .ok (.bipush 17, 2) := by decide +kernel
theorem dX5_init_20 : decode cX5_init 20 = .ok (.newarray .int, 2) := by decide +kernel
theorem dX5_init_22 : decode cX5_init 22 = .ok (.putfield 19, 3) := by decide +kernel
theorem dX5_init_25 : decode cX5_init 25 = .ok (.aload_n 0, 1) := by decide +kernel
theorem dX5_init_26 : decode cX5_init 26 = .ok (.iconst 0, 1) := by decide +kernel
theorem dX5_init_27 : decode cX5_init 27 = .ok (.putfield 22, 3) := by decide +kernel
theorem dX5_init_30 : decode cX5_init 30 = .ok (.aload_n 0, 1) := by decide +kernel
theorem dX5_init_31 : decode cX5_init 31 = .ok (.bipush 16, 2) := by decide +kernel
theorem dX5_init_33 : decode cX5_init 33 = .ok (.newarray .int, 2) := by decide +kernel
theorem dX5_init_35 : decode cX5_init 35 = .ok (.putfield 25, 3) := by decide +kernel
theorem dX5_init_38 : decode cX5_init 38 = .ok (.aload_n 0, 1) := by decide +kernel
theorem dX5_init_39 : decode cX5_init 39 = .ok (.bipush 16, 2) := by decide +kernel
theorem dX5_init_41 : decode cX5_init 41 = .ok (.newarray .int, 2) := by decide +kernel
theorem dX5_init_43 : decode cX5_init 43 = .ok (.putfield 28, 3) := by decide +kernel
theorem dX5_init_46 : decode cX5_init 46 = .ok (.aload_n 0, 1) := by decide +kernel
theorem dX5_init_47 : decode cX5_init 47 = .ok (.bipush 16, 2) := by decide +kernel
theorem dX5_init_49 : decode cX5_init 49 = .ok (.newarray .int, 2) := by decide +kernel
theorem dX5_init_51 : decode cX5_init 51 = .ok (.putfield 31, 3) := by decide +kernel
theorem dX5_init_54 : decode cX5_init 54 = .ok (.aload_n 0, 1) := by decide +kernel
theorem dX5_init_55 : decode cX5_init 55 = .ok (.iconst 0, 1) := by decide +kernel
theorem dX5_init_56 : decode cX5_init 56 = .ok (.putfield 34, 3) := by decide +kernel
theorem dX5_init_59 : decode cX5_init 59 = .ok (.aload_n 0, 1) := by decide +kernel
theorem dX5_init_60 : decode cX5_init 60 = .ok (.iconst 0, 1) := by decide +kernel
theorem dX5_init_61 : decode cX5_init 61 = .ok (.putfield 37, 3) := by decide +kernel
theorem dX5_init_64 : decode cX5_init 64 = .ok (.aload_n 0, 1) := by decide +kernel
theorem dX5_init_65 : decode cX5_init 65 = .ok (.iconst 0, 1) := by decide +kernel
theorem dX5_init_66 : decode cX5_init 66 = .ok (.putfield 40, 3) := by decide +kernel
theorem dX5_init_69 : decode cX5_init 69 = .ok (.aload_n 0, 1) := by decide +kernel
theorem dX5_init_70 : decode cX5_init 70 = .ok (.iconst 0, 1) := by decide +kernel
theorem dX5_init_71 : decode cX5_init 71 = .ok (.putfield 43, 3) := by decide +kernel
theorem dX5_init_74 : decode cX5_init 74 = .ok (.aload_n 0, 1) := by decide +kernel
theorem dX5_init_75 : decode cX5_init 75 = .ok (.iconst 0, 1) := by decide +kernel
theorem dX5_init_76 : decode cX5_init 76 = .ok (.putfield 46, 3) := by decide +kernel
theorem dX5_init_79 : decode cX5_init 79 = .ok (.aload_n 0, 1) := by decide +kernel
theorem dX5_init_80 : decode cX5_init 80 = .ok (.aload_n 1, 1) := by decide +kernel
theorem dX5_init_81 : decode cX5_init 81 = .ok (.putfield 50, 3) := by decide +kernel
theorem dX5_init_84 : decode cX5_init 84 = .ok (.aload_n 0, 1) := by decide +kernel
theorem dX5_init_85 : decode cX5_init 85 = .ok (.iload_n 2, 1) := by decide +kernel
theorem dX5_init_86 : decode cX5_init 86 = .ok (.putfield 54, 3) := by decide +kernel
theorem dX5_init_89 : decode cX5_init 89 = .ok (.aload_n 0, 1) := by decide +kernel
theorem dX5_init_90 : decode cX5_init 90 = .ok (.iload_n 3, 1) := by decide +kernel
theorem dX5_init_91 : decode cX5_init 91 = .ok (.putfield 57, 3) := by decide +kernel
theorem dX5_init_94 : decode cX5_init 94 = .ok (.aload_n 0, 1) := by decide +kernel
theorem dX5_init_95 : decode cX5_init 95 = .ok (.aload 4, 2) := by decide +kernel
theorem dX5_init_97 : decode cX5_init 97 = .ok (.putfield 60, 3) := by decide +kernel
theorem dX5_init_100 : decode cX5_init 100 = .ok (.aload_n 0, 1) := by decide +kernel
theorem dX5_init_101 : decode cX5_init 101 = .ok (.getfield 15, 3) := by decide +kernel
theorem dX5_init_104 : decode cX5_init 104 = .ok (.iconst (-1), 1) := by decide +kernel
theorem dX5_init_105 : decode cX5_init 105 = .ok (.invokestatic 64, 3) := by decide +kernel
theorem dX5_init_108 : decode cX5_init 108 = .ok (.aload_n 0, 1) := by decide +kernel
theorem dX5_init_109 : decode cX5_init 109 = .ok (.getfield 31, 3) := by decide +kernel
theorem dX5_init_112 : decode cX5_init 112 = .ok (.iconst (-1), 1) := by decide +kernel
theorem dX5_init_113 : decode cX5_init 113 = .ok (.invokestatic 64, 3) := by decide +kernel
theorem dX5_init_116 : decode cX5_init 116 = .ok (.return_, 1) := by decide +kernel
def d_X5_init (x0 : Nat) (x1 : Nat) (x2 : Int32) (x3 : Int32) (x4 : Nat) (G : Hp) : Option (Hp) :=
  mV G <|
  gd (hc G x0 = 6) <|
  bd (sI G x0 4 0) fun G2 =>
  bd (hn G2) fun q3 =>
  bd (nC G2 11 (17 : Int32).toNatClampNeg (17 : Int32).toNatClampNeg) fun G4 =>
  mV G4 <|
  gd (hc G4 x0 = 6) <|
  bd (sR G4 x0 5 q3) fun G6 =>
  bd (hn G6) fun q7 =>
  bd (nC G6 11 (17 : Int32).toNatClampNeg (17 : Int32).toNatClampNeg) fun G8 =>
  mV G8 <|
  gd (hc G8 x0 = 6) <|
  bd (sR G8 x0 6 q7) fun G10 =>
  gd (hc G10 x0 = 6) <|
  bd (sI G10 x0 7 0) fun G12 =>
  bd (hn G12) fun q13 =>
  bd (nC G12 11 (16 : Int32).toNatClampNeg (16 : Int32).toNatClampNeg) fun G14 =>
  mV G14 <|
  gd (hc G14 x0 = 6) <|
  bd (sR G14 x0 8 q13) fun G16 =>
  bd (hn G16) fun q17 =>
  bd (nC G16 11 (16 : Int32).toNatClampNeg (16 : Int32).toNatClampNeg) fun G18 =>
  mV G18 <|
  gd (hc G18 x0 = 6) <|
  bd (sR G18 x0 9 q17) fun G20 =>
  bd (hn G20) fun q21 =>
  bd (nC G20 11 (16 : Int32).toNatClampNeg (16 : Int32).toNatClampNeg) fun G22 =>
  mV G22 <|
  gd (hc G22 x0 = 6) <|
  bd (sR G22 x0 10 q21) fun G24 =>
  gd (hc G24 x0 = 6) <|
  bd (sI G24 x0 11 0) fun G26 =>
  gd (hc G26 x0 = 6) <|
  bd (sI G26 x0 12 0) fun G28 =>
  gd (hc G28 x0 = 6) <|
  bd (sI G28 x0 13 0) fun G30 =>
  gd (hc G30 x0 = 6) <|
  bd (sI G30 x0 14 0) fun G32 =>
  gd (hc G32 x0 = 6) <|
  bd (sI G32 x0 15 0) fun G34 =>
  gd (hc G34 x0 = 6) <|
  bd (sR G34 x0 0 x1) fun G36 =>
  gd (hc G36 x0 = 6) <|
  bd (sI G36 x0 1 x2) fun G38 =>
  gd (hc G38 x0 = 6) <|
  bd (sI G38 x0 2 x3) fun G40 =>
  gd (hc G40 x0 = 6) <|
  bd (sR G40 x0 3 x4) fun G42 =>
  gd (hc G42 x0 = 6) <|
  bo (d_J7_fill_53178 (hr G42 x0 5) (-1) G42) fun G45 =>
  gd (hn G45 = hn G42 ∧ hs G45 = hs G42) <|
  gd (hc G45 x0 = 6) <|
  bo (d_J7_fill_53178 (hr G45 x0 10) (-1) G45) fun G49 =>
  gd (hn G49 = hn G45 ∧ hs G49 = hs G45) <|
  some G49
section
variable {p : Program} {l : Launch} {e : Env} {s : State} {m : MethodId} {args : Array Value} {below : List Frame} {meth : Method} {c : Code} {b0 : Nat} {D : va_G} {E : Nat → ClassId}
set_option maxHeartbeats 4000000 in
set_option maxRecDepth 100000 in
theorem k_X5_init (C : Cx p s m args meth c RX5 cX5_init 5 none b0 D E) (hnm : meth.name = "<init>") {GG : Hp} {n0 s0 : Nat} {x0 : Nat} {x1 : Nat} {x2 : Int32} {x3 : Int32} {x4 : Nat} {G : Hp} {ls : Array Slot} {H : Heap} {locs : List Loc} : lx ls 5 [(0, .inr x0), (1, .inr x1), (2, .inl x2), (3, .inl x3), (4, .inr x4)] → Rp b0 D E G H → SS b0 s H locs → b0 ≤ hn G → (n0 ≤ hn G ∧ s0 ≤ hs G) → d_X5_init x0 x1 x2 x3 x4 G = some GG → W p l e (rmd 1 (hn GG - n0) (hs GG - s0)) s m args below meth c H locs (hn G - n0) (hs G - s0) (MQ below (CQ b0 D E none GG) args s (hn GG - n0) (hs GG - s0) (fun q => b0 ≤ q)) (F0 m 0 ls []) := by
  intro hL hR hS hB hZ hd
  unfold d_X5_init at hd
  obtain ⟨hM, hd⟩ := mV_ex hd
  have hx := C.1
  have hb := C.2.1
  refine x_aload_n C dX5_init_0 hL 0 rfl ?_
  obtain ⟨g1, hd⟩ := gd_ex hd
  refine r_objI (a := x0) C ml_X5_3 dX5_init_1 (lx_size hL) hR (by rw [g1]; decide) ⟨Nat.le_of_ble_eq_true rfl, Nat.le_of_ble_eq_true rfl⟩ (cat_le [] (Nat.le_of_ble_eq_true rfl)) ?_
  refine x_aload_n C dX5_init_4 hL 0 rfl ?_
  refine lv_iconst (v := 0) hx hb dX5_init_5 (by decide) ?_
  obtain ⟨G2, eG2, hd⟩ := bd_ex hd
  refine r_puti (ci := 5) (k := 4) C fl_X5_9 rfl (Or.inl rfl) dX5_init_6 hR hS g1 (fun H locs hR hS => ?_)
  replace hR : Rp b0 D E G2 H := by rw [eG2]; exact hR
  refine W_cs (c2 := hn G2 - n0) (s2 := hs G2 - s0) (by rw [eG2] <;> rfl) (by rw [eG2] <;> rfl) ?_
  replace hB : b0 ≤ hn G2 := by rw [eG2]; exact hB
  replace hZ : n0 ≤ hn G2 ∧ s0 ≤ hs G2 := by rw [eG2]; exact hZ
  replace hM : hn G2 ≤ hn GG ∧ hs G2 ≤ hs GG := by rw [eG2]; exact hM
  refine x_aload_n C dX5_init_9 hL 0 rfl ?_
  refine lv_bipush (v := 17) hx hb dX5_init_10 (by decide) ?_
  obtain ⟨q3, eq3, hd⟩ := bd_ex hd
  obtain ⟨G4, eG4, hd⟩ := bd_ex hd
  obtain ⟨hM, hd⟩ := mV_ex hd
  have hm1 : hn G4 = hn G2 + 1 ∧ hs G4 = hs G2 + (17 : Int32).toNatClampNeg := by rw [eG4]; exact ⟨rfl, rfl⟩
  refine r_newa (t := 11) C (Or.inl ⟨rfl, rfl⟩) dX5_init_12 hR hS hB hZ (by decide) ⟨by show hn G2 + 1 - n0 ≤ hn GG - n0; omega, by show hs G2 + (17 : Int32).toNatClampNeg - s0 ≤ hs GG - s0; omega⟩ (fun H locs hR hS => ?_)
  rw [← eq3]
  refine W_cs (c2 := hn G4 - n0) (s2 := hs G4 - s0) (by rw [eG4] <;> rfl) (by rw [eG4] <;> rfl) ?_
  replace hR : Rp b0 D E G4 H := by rw [eG4]; exact hR
  replace hB : b0 ≤ hn G4 := by omega
  replace hZ : n0 ≤ hn G4 ∧ s0 ≤ hs G4 := by omega
  obtain ⟨g5, hd⟩ := gd_ex hd
  obtain ⟨G6, eG6, hd⟩ := bd_ex hd
  refine r_putr (ci := 5) (k := 5) C fl_X5_15 (Or.inr ⟨_, rfl⟩) (Or.inr ⟨rfl, hnm, rfl⟩) dX5_init_14 hR hS g5 (fun H locs hR hS => ?_)
  replace hR : Rp b0 D E G6 H := by rw [eG6]; exact hR
  refine W_cs (c2 := hn G6 - n0) (s2 := hs G6 - s0) (by rw [eG6] <;> rfl) (by rw [eG6] <;> rfl) ?_
  replace hB : b0 ≤ hn G6 := by rw [eG6]; exact hB
  replace hZ : n0 ≤ hn G6 ∧ s0 ≤ hs G6 := by rw [eG6]; exact hZ
  replace hM : hn G6 ≤ hn GG ∧ hs G6 ≤ hs GG := by rw [eG6]; exact hM
  refine x_aload_n C dX5_init_17 hL 0 rfl ?_
  refine lv_bipush (v := 17) hx hb dX5_init_18 (by decide) ?_
  obtain ⟨q7, eq7, hd⟩ := bd_ex hd
  obtain ⟨G8, eG8, hd⟩ := bd_ex hd
  obtain ⟨hM, hd⟩ := mV_ex hd
  have hm1 : hn G8 = hn G6 + 1 ∧ hs G8 = hs G6 + (17 : Int32).toNatClampNeg := by rw [eG8]; exact ⟨rfl, rfl⟩
  refine r_newa (t := 11) C (Or.inl ⟨rfl, rfl⟩) dX5_init_20 hR hS hB hZ (by decide) ⟨by show hn G6 + 1 - n0 ≤ hn GG - n0; omega, by show hs G6 + (17 : Int32).toNatClampNeg - s0 ≤ hs GG - s0; omega⟩ (fun H locs hR hS => ?_)
  rw [← eq7]
  refine W_cs (c2 := hn G8 - n0) (s2 := hs G8 - s0) (by rw [eG8] <;> rfl) (by rw [eG8] <;> rfl) ?_
  replace hR : Rp b0 D E G8 H := by rw [eG8]; exact hR
  replace hB : b0 ≤ hn G8 := by omega
  replace hZ : n0 ≤ hn G8 ∧ s0 ≤ hs G8 := by omega
  obtain ⟨g9, hd⟩ := gd_ex hd
  obtain ⟨G10, eG10, hd⟩ := bd_ex hd
  refine r_putr (ci := 5) (k := 6) C fl_X5_19 (Or.inr ⟨_, rfl⟩) (Or.inr ⟨rfl, hnm, rfl⟩) dX5_init_22 hR hS g9 (fun H locs hR hS => ?_)
  replace hR : Rp b0 D E G10 H := by rw [eG10]; exact hR
  refine W_cs (c2 := hn G10 - n0) (s2 := hs G10 - s0) (by rw [eG10] <;> rfl) (by rw [eG10] <;> rfl) ?_
  replace hB : b0 ≤ hn G10 := by rw [eG10]; exact hB
  replace hZ : n0 ≤ hn G10 ∧ s0 ≤ hs G10 := by rw [eG10]; exact hZ
  replace hM : hn G10 ≤ hn GG ∧ hs G10 ≤ hs GG := by rw [eG10]; exact hM
  refine x_aload_n C dX5_init_25 hL 0 rfl ?_
  refine lv_iconst (v := 0) hx hb dX5_init_26 (by decide) ?_
  obtain ⟨g11, hd⟩ := gd_ex hd
  obtain ⟨G12, eG12, hd⟩ := bd_ex hd
  refine r_puti (ci := 5) (k := 7) C fl_X5_22 rfl (Or.inl rfl) dX5_init_27 hR hS g11 (fun H locs hR hS => ?_)
  replace hR : Rp b0 D E G12 H := by rw [eG12]; exact hR
  refine W_cs (c2 := hn G12 - n0) (s2 := hs G12 - s0) (by rw [eG12] <;> rfl) (by rw [eG12] <;> rfl) ?_
  replace hB : b0 ≤ hn G12 := by rw [eG12]; exact hB
  replace hZ : n0 ≤ hn G12 ∧ s0 ≤ hs G12 := by rw [eG12]; exact hZ
  replace hM : hn G12 ≤ hn GG ∧ hs G12 ≤ hs GG := by rw [eG12]; exact hM
  refine x_aload_n C dX5_init_30 hL 0 rfl ?_
  refine lv_bipush (v := 16) hx hb dX5_init_31 (by decide) ?_
  obtain ⟨q13, eq13, hd⟩ := bd_ex hd
  obtain ⟨G14, eG14, hd⟩ := bd_ex hd
  obtain ⟨hM, hd⟩ := mV_ex hd
  have hm1 : hn G14 = hn G12 + 1 ∧ hs G14 = hs G12 + (16 : Int32).toNatClampNeg := by rw [eG14]; exact ⟨rfl, rfl⟩
  refine r_newa (t := 11) C (Or.inl ⟨rfl, rfl⟩) dX5_init_33 hR hS hB hZ (by decide) ⟨by show hn G12 + 1 - n0 ≤ hn GG - n0; omega, by show hs G12 + (16 : Int32).toNatClampNeg - s0 ≤ hs GG - s0; omega⟩ (fun H locs hR hS => ?_)
  rw [← eq13]
  refine W_cs (c2 := hn G14 - n0) (s2 := hs G14 - s0) (by rw [eG14] <;> rfl) (by rw [eG14] <;> rfl) ?_
  replace hR : Rp b0 D E G14 H := by rw [eG14]; exact hR
  replace hB : b0 ≤ hn G14 := by omega
  replace hZ : n0 ≤ hn G14 ∧ s0 ≤ hs G14 := by omega
  obtain ⟨g15, hd⟩ := gd_ex hd
  obtain ⟨G16, eG16, hd⟩ := bd_ex hd
  refine r_putr (ci := 5) (k := 8) C fl_X5_25 (Or.inr ⟨_, rfl⟩) (Or.inr ⟨rfl, hnm, rfl⟩) dX5_init_35 hR hS g15 (fun H locs hR hS => ?_)
  replace hR : Rp b0 D E G16 H := by rw [eG16]; exact hR
  refine W_cs (c2 := hn G16 - n0) (s2 := hs G16 - s0) (by rw [eG16] <;> rfl) (by rw [eG16] <;> rfl) ?_
  replace hB : b0 ≤ hn G16 := by rw [eG16]; exact hB
  replace hZ : n0 ≤ hn G16 ∧ s0 ≤ hs G16 := by rw [eG16]; exact hZ
  replace hM : hn G16 ≤ hn GG ∧ hs G16 ≤ hs GG := by rw [eG16]; exact hM
  refine x_aload_n C dX5_init_38 hL 0 rfl ?_
  refine lv_bipush (v := 16) hx hb dX5_init_39 (by decide) ?_
  obtain ⟨q17, eq17, hd⟩ := bd_ex hd
  obtain ⟨G18, eG18, hd⟩ := bd_ex hd
  obtain ⟨hM, hd⟩ := mV_ex hd
  have hm1 : hn G18 = hn G16 + 1 ∧ hs G18 = hs G16 + (16 : Int32).toNatClampNeg := by rw [eG18]; exact ⟨rfl, rfl⟩
  refine r_newa (t := 11) C (Or.inl ⟨rfl, rfl⟩) dX5_init_41 hR hS hB hZ (by decide) ⟨by show hn G16 + 1 - n0 ≤ hn GG - n0; omega, by show hs G16 + (16 : Int32).toNatClampNeg - s0 ≤ hs GG - s0; omega⟩ (fun H locs hR hS => ?_)
  rw [← eq17]
  refine W_cs (c2 := hn G18 - n0) (s2 := hs G18 - s0) (by rw [eG18] <;> rfl) (by rw [eG18] <;> rfl) ?_
  replace hR : Rp b0 D E G18 H := by rw [eG18]; exact hR
  replace hB : b0 ≤ hn G18 := by omega
  replace hZ : n0 ≤ hn G18 ∧ s0 ≤ hs G18 := by omega
  obtain ⟨g19, hd⟩ := gd_ex hd
  obtain ⟨G20, eG20, hd⟩ := bd_ex hd
  refine r_putr (ci := 5) (k := 9) C fl_X5_28 (Or.inr ⟨_, rfl⟩) (Or.inr ⟨rfl, hnm, rfl⟩) dX5_init_43 hR hS g19 (fun H locs hR hS => ?_)
  replace hR : Rp b0 D E G20 H := by rw [eG20]; exact hR
  refine W_cs (c2 := hn G20 - n0) (s2 := hs G20 - s0) (by rw [eG20] <;> rfl) (by rw [eG20] <;> rfl) ?_
  replace hB : b0 ≤ hn G20 := by rw [eG20]; exact hB
  replace hZ : n0 ≤ hn G20 ∧ s0 ≤ hs G20 := by rw [eG20]; exact hZ
  replace hM : hn G20 ≤ hn GG ∧ hs G20 ≤ hs GG := by rw [eG20]; exact hM
  refine x_aload_n C dX5_init_46 hL 0 rfl ?_
  refine lv_bipush (v := 16) hx hb dX5_init_47 (by decide) ?_
  obtain ⟨q21, eq21, hd⟩ := bd_ex hd
  obtain ⟨G22, eG22, hd⟩ := bd_ex hd
  obtain ⟨hM, hd⟩ := mV_ex hd
  have hm1 : hn G22 = hn G20 + 1 ∧ hs G22 = hs G20 + (16 : Int32).toNatClampNeg := by rw [eG22]; exact ⟨rfl, rfl⟩
  refine r_newa (t := 11) C (Or.inl ⟨rfl, rfl⟩) dX5_init_49 hR hS hB hZ (by decide) ⟨by show hn G20 + 1 - n0 ≤ hn GG - n0; omega, by show hs G20 + (16 : Int32).toNatClampNeg - s0 ≤ hs GG - s0; omega⟩ (fun H locs hR hS => ?_)
  rw [← eq21]
  refine W_cs (c2 := hn G22 - n0) (s2 := hs G22 - s0) (by rw [eG22] <;> rfl) (by rw [eG22] <;> rfl) ?_
  replace hR : Rp b0 D E G22 H := by rw [eG22]; exact hR
  replace hB : b0 ≤ hn G22 := by omega
  replace hZ : n0 ≤ hn G22 ∧ s0 ≤ hs G22 := by omega
  obtain ⟨g23, hd⟩ := gd_ex hd
  obtain ⟨G24, eG24, hd⟩ := bd_ex hd
  refine r_putr (ci := 5) (k := 10) C fl_X5_31 (Or.inr ⟨_, rfl⟩) (Or.inr ⟨rfl, hnm, rfl⟩) dX5_init_51 hR hS g23 (fun H locs hR hS => ?_)
  replace hR : Rp b0 D E G24 H := by rw [eG24]; exact hR
  refine W_cs (c2 := hn G24 - n0) (s2 := hs G24 - s0) (by rw [eG24] <;> rfl) (by rw [eG24] <;> rfl) ?_
  replace hB : b0 ≤ hn G24 := by rw [eG24]; exact hB
  replace hZ : n0 ≤ hn G24 ∧ s0 ≤ hs G24 := by rw [eG24]; exact hZ
  replace hM : hn G24 ≤ hn GG ∧ hs G24 ≤ hs GG := by rw [eG24]; exact hM
  refine x_aload_n C dX5_init_54 hL 0 rfl ?_
  refine lv_iconst (v := 0) hx hb dX5_init_55 (by decide) ?_
  obtain ⟨g25, hd⟩ := gd_ex hd
  obtain ⟨G26, eG26, hd⟩ := bd_ex hd
  refine r_puti (ci := 5) (k := 11) C fl_X5_34 rfl (Or.inl rfl) dX5_init_56 hR hS g25 (fun H locs hR hS => ?_)
  replace hR : Rp b0 D E G26 H := by rw [eG26]; exact hR
  refine W_cs (c2 := hn G26 - n0) (s2 := hs G26 - s0) (by rw [eG26] <;> rfl) (by rw [eG26] <;> rfl) ?_
  replace hB : b0 ≤ hn G26 := by rw [eG26]; exact hB
  replace hZ : n0 ≤ hn G26 ∧ s0 ≤ hs G26 := by rw [eG26]; exact hZ
  replace hM : hn G26 ≤ hn GG ∧ hs G26 ≤ hs GG := by rw [eG26]; exact hM
  refine x_aload_n C dX5_init_59 hL 0 rfl ?_
  refine lv_iconst (v := 0) hx hb dX5_init_60 (by decide) ?_
  obtain ⟨g27, hd⟩ := gd_ex hd
  obtain ⟨G28, eG28, hd⟩ := bd_ex hd
  refine r_puti (ci := 5) (k := 12) C fl_X5_37 rfl (Or.inl rfl) dX5_init_61 hR hS g27 (fun H locs hR hS => ?_)
  replace hR : Rp b0 D E G28 H := by rw [eG28]; exact hR
  refine W_cs (c2 := hn G28 - n0) (s2 := hs G28 - s0) (by rw [eG28] <;> rfl) (by rw [eG28] <;> rfl) ?_
  replace hB : b0 ≤ hn G28 := by rw [eG28]; exact hB
  replace hZ : n0 ≤ hn G28 ∧ s0 ≤ hs G28 := by rw [eG28]; exact hZ
  replace hM : hn G28 ≤ hn GG ∧ hs G28 ≤ hs GG := by rw [eG28]; exact hM
  refine x_aload_n C dX5_init_64 hL 0 rfl ?_
  refine lv_iconst (v := 0) hx hb dX5_init_65 (by decide) ?_
  obtain ⟨g29, hd⟩ := gd_ex hd
  obtain ⟨G30, eG30, hd⟩ := bd_ex hd
  refine r_puti (ci := 5) (k := 13) C fl_X5_40 rfl (Or.inl rfl) dX5_init_66 hR hS g29 (fun H locs hR hS => ?_)
  replace hR : Rp b0 D E G30 H := by rw [eG30]; exact hR
  refine W_cs (c2 := hn G30 - n0) (s2 := hs G30 - s0) (by rw [eG30] <;> rfl) (by rw [eG30] <;> rfl) ?_
  replace hB : b0 ≤ hn G30 := by rw [eG30]; exact hB
  replace hZ : n0 ≤ hn G30 ∧ s0 ≤ hs G30 := by rw [eG30]; exact hZ
  replace hM : hn G30 ≤ hn GG ∧ hs G30 ≤ hs GG := by rw [eG30]; exact hM
  refine x_aload_n C dX5_init_69 hL 0 rfl ?_
  refine lv_iconst (v := 0) hx hb dX5_init_70 (by decide) ?_
  obtain ⟨g31, hd⟩ := gd_ex hd
  obtain ⟨G32, eG32, hd⟩ := bd_ex hd
  refine r_puti (ci := 5) (k := 14) C fl_X5_43 rfl (Or.inl rfl) dX5_init_71 hR hS g31 (fun H locs hR hS => ?_)
  replace hR : Rp b0 D E G32 H := by rw [eG32]; exact hR
  refine W_cs (c2 := hn G32 - n0) (s2 := hs G32 - s0) (by rw [eG32] <;> rfl) (by rw [eG32] <;> rfl) ?_
  replace hB : b0 ≤ hn G32 := by rw [eG32]; exact hB
  replace hZ : n0 ≤ hn G32 ∧ s0 ≤ hs G32 := by rw [eG32]; exact hZ
  replace hM : hn G32 ≤ hn GG ∧ hs G32 ≤ hs GG := by rw [eG32]; exact hM
  refine x_aload_n C dX5_init_74 hL 0 rfl ?_
  refine lv_iconst (v := 0) hx hb dX5_init_75 (by decide) ?_
  obtain ⟨g33, hd⟩ := gd_ex hd
  obtain ⟨G34, eG34, hd⟩ := bd_ex hd
  refine r_putz (ci := 5) (k := 15) C fl_X5_46 rfl (Or.inl rfl) (by decide) dX5_init_76 hR hS g33 (fun H locs hR hS => ?_)
  replace hR : Rp b0 D E G34 H := by rw [eG34]; exact hR
  refine W_cs (c2 := hn G34 - n0) (s2 := hs G34 - s0) (by rw [eG34] <;> rfl) (by rw [eG34] <;> rfl) ?_
  replace hB : b0 ≤ hn G34 := by rw [eG34]; exact hB
  replace hZ : n0 ≤ hn G34 ∧ s0 ≤ hs G34 := by rw [eG34]; exact hZ
  replace hM : hn G34 ≤ hn GG ∧ hs G34 ≤ hs GG := by rw [eG34]; exact hM
  refine x_aload_n C dX5_init_79 hL 0 rfl ?_
  refine x_aload_n C dX5_init_80 hL 1 rfl ?_
  obtain ⟨g35, hd⟩ := gd_ex hd
  obtain ⟨G36, eG36, hd⟩ := bd_ex hd
  refine r_putr (ci := 5) (k := 0) C fl_X5_50 (Or.inl ⟨_, rfl⟩) (Or.inr ⟨rfl, hnm, rfl⟩) dX5_init_81 hR hS g35 (fun H locs hR hS => ?_)
  replace hR : Rp b0 D E G36 H := by rw [eG36]; exact hR
  refine W_cs (c2 := hn G36 - n0) (s2 := hs G36 - s0) (by rw [eG36] <;> rfl) (by rw [eG36] <;> rfl) ?_
  replace hB : b0 ≤ hn G36 := by rw [eG36]; exact hB
  replace hZ : n0 ≤ hn G36 ∧ s0 ≤ hs G36 := by rw [eG36]; exact hZ
  replace hM : hn G36 ≤ hn GG ∧ hs G36 ≤ hs GG := by rw [eG36]; exact hM
  refine x_aload_n C dX5_init_84 hL 0 rfl ?_
  refine x_iload_n C dX5_init_85 hL 2 rfl ?_
  obtain ⟨g37, hd⟩ := gd_ex hd
  obtain ⟨G38, eG38, hd⟩ := bd_ex hd
  refine r_puti (ci := 5) (k := 1) C fl_X5_54 rfl (Or.inr ⟨rfl, hnm, rfl⟩) dX5_init_86 hR hS g37 (fun H locs hR hS => ?_)
  replace hR : Rp b0 D E G38 H := by rw [eG38]; exact hR
  refine W_cs (c2 := hn G38 - n0) (s2 := hs G38 - s0) (by rw [eG38] <;> rfl) (by rw [eG38] <;> rfl) ?_
  replace hB : b0 ≤ hn G38 := by rw [eG38]; exact hB
  replace hZ : n0 ≤ hn G38 ∧ s0 ≤ hs G38 := by rw [eG38]; exact hZ
  replace hM : hn G38 ≤ hn GG ∧ hs G38 ≤ hs GG := by rw [eG38]; exact hM
  refine x_aload_n C dX5_init_89 hL 0 rfl ?_
  refine x_iload_n C dX5_init_90 hL 3 rfl ?_
  obtain ⟨g39, hd⟩ := gd_ex hd
  obtain ⟨G40, eG40, hd⟩ := bd_ex hd
  refine r_puti (ci := 5) (k := 2) C fl_X5_57 rfl (Or.inr ⟨rfl, hnm, rfl⟩) dX5_init_91 hR hS g39 (fun H locs hR hS => ?_)
  replace hR : Rp b0 D E G40 H := by rw [eG40]; exact hR
  refine W_cs (c2 := hn G40 - n0) (s2 := hs G40 - s0) (by rw [eG40] <;> rfl) (by rw [eG40] <;> rfl) ?_
  replace hB : b0 ≤ hn G40 := by rw [eG40]; exact hB
  replace hZ : n0 ≤ hn G40 ∧ s0 ≤ hs G40 := by rw [eG40]; exact hZ
  replace hM : hn G40 ≤ hn GG ∧ hs G40 ≤ hs GG := by rw [eG40]; exact hM
  refine x_aload_n C dX5_init_94 hL 0 rfl ?_
  refine x_aload C dX5_init_95 hL 4 rfl ?_
  obtain ⟨g41, hd⟩ := gd_ex hd
  obtain ⟨G42, eG42, hd⟩ := bd_ex hd
  refine r_putr (ci := 5) (k := 3) C fl_X5_60 (Or.inr ⟨_, rfl⟩) (Or.inr ⟨rfl, hnm, rfl⟩) dX5_init_97 hR hS g41 (fun H locs hR hS => ?_)
  replace hR : Rp b0 D E G42 H := by rw [eG42]; exact hR
  refine W_cs (c2 := hn G42 - n0) (s2 := hs G42 - s0) (by rw [eG42] <;> rfl) (by rw [eG42] <;> rfl) ?_
  replace hB : b0 ≤ hn G42 := by rw [eG42]; exact hB
  replace hZ : n0 ≤ hn G42 ∧ s0 ≤ hs G42 := by rw [eG42]; exact hZ
  replace hM : hn G42 ≤ hn GG ∧ hs G42 ≤ hs GG := by rw [eG42]; exact hM
  refine x_aload_n C dX5_init_100 hL 0 rfl ?_
  obtain ⟨g43, hd⟩ := gd_ex hd
  refine r_getr (ci := 5) (k := 5) C fl_X5_15 rfl dX5_init_101 hR g43 ?_
  refine lv_iconst (v := (-1)) hx hb dX5_init_104 (by decide) ?_
  obtain ⟨G45, h44, hd⟩ := bo_ex hd
  obtain ⟨g46, hd⟩ := gd_ex hd
  refine r_callS (As := [rv (hr G42 x0 5), .int (-1)]) C (ct_J7_fill_53178 h44) mf_J7_fill_53178 ml_X5_64 ms_J7_fill_53178 rfl ⟨Nat.le_of_ble_eq_true rfl, Nat.le_of_ble_eq_true rfl⟩ dX5_init_105 (lx_size hL) rfl hR hS ⟨by show hn G42 - n0 ≤ hn GG - n0; omega, by show hs G42 - s0 ≤ hs GG - s0; omega⟩ (cat_le [] (Nat.le_of_ble_eq_true rfl)) (fun H locs hR hS => ?_)
  refine W_st (st2 := []) rfl ?_
  refine W_cs (c2 := hn G45 - n0) (s2 := hs G45 - s0) (by first | rfl | omega) (by first | rfl | omega) ?_
  replace hB : b0 ≤ hn G45 := by omega
  replace hZ : n0 ≤ hn G45 ∧ s0 ≤ hs G45 := by omega
  replace hM : hn G45 ≤ hn GG ∧ hs G45 ≤ hs GG := by omega
  refine x_aload_n C dX5_init_108 hL 0 rfl ?_
  obtain ⟨g47, hd⟩ := gd_ex hd
  refine r_getr (ci := 5) (k := 10) C fl_X5_31 rfl dX5_init_109 hR g47 ?_
  refine lv_iconst (v := (-1)) hx hb dX5_init_112 (by decide) ?_
  obtain ⟨G49, h48, hd⟩ := bo_ex hd
  obtain ⟨g50, hd⟩ := gd_ex hd
  refine r_callS (As := [rv (hr G45 x0 10), .int (-1)]) C (ct_J7_fill_53178 h48) mf_J7_fill_53178 ml_X5_64 ms_J7_fill_53178 rfl ⟨Nat.le_of_ble_eq_true rfl, Nat.le_of_ble_eq_true rfl⟩ dX5_init_113 (lx_size hL) rfl hR hS ⟨by show hn G45 - n0 ≤ hn GG - n0; omega, by show hs G45 - s0 ≤ hs GG - s0; omega⟩ (cat_le [] (Nat.le_of_ble_eq_true rfl)) (fun H locs hR hS => ?_)
  refine W_st (st2 := []) rfl ?_
  refine W_cs (c2 := hn G49 - n0) (s2 := hs G49 - s0) (by first | rfl | omega) (by first | rfl | omega) ?_
  replace hB : b0 ≤ hn G49 := by omega
  replace hZ : n0 ≤ hn G49 ∧ s0 ≤ hs G49 := by omega
  replace hM : hn G49 ≤ hn GG ∧ hs G49 ≤ hs GG := by omega
  cases hd
  exact r_vret C dX5_init_116 hR hS
end
set_option maxHeartbeats 4000000 in
set_option maxRecDepth 100000 in
theorem ct_X5_init {l : Launch} {b0 : Nat} {D : va_G} {E : Nat → ClassId} {G : Hp} {a0 : Nat} {a1 : Nat} {a2 : Int32} {a3 : Int32} {a4 : Nat} {GG : Hp} (hB : b0 ≤ hn G) (hd : d_X5_init a0 a1 a2 a3 a4 G = some GG) : CT l yX5_init cX5_init 5 none 1 (hn GG - hn G) (hs GG - hs G) b0 D E [rv a0, rv a1, .int a2, .int a3, rv a4] G none GG := by
  refine CT_of (by decide +kernel) ?_
  intro p e s m below meth c C hnm hR
  refine r_entry [.inr a0, .inr a1, .inl a2, .inl a3, .inr a4] (n := 5) (Nat.le_of_ble_eq_true rfl) (lv := [(0, .inr a0), (1, .inr a1), (2, .inl a2), (3, .inl a3), (4, .inr a4)]) rfl (fun ls hL => ?_)
  have k := k_X5_init (n0 := hn G) (s0 := hs G) (l := l) (e := e) (below := below) (H := s.heap) (locs := []) C hnm (lx_sub hL [0, 1, 2, 3, 4] rfl) hR ⟨fun _ _ => rfl, fun _ h => by cases h⟩ hB ⟨Nat.le_refl _, Nat.le_refl _⟩ hd
  rw [Nat.sub_self, Nat.sub_self] at k
  exact k

/-! GroveWorks$Tree.isLost(II)Z -/
theorem dX5_isLost_0 : decode cX5_isLost 0 = .ok (.aload_n 0, 1) := by decide +kernel
theorem dX5_isLost_1 : decode cX5_isLost 1 = .ok (.iload_n 1, 1) := by decide +kernel
theorem dX5_isLost_2 : decode cX5_isLost 2 = .ok (.invokevirtual 129, 3) := by decide +kernel
theorem dX5_isLost_5 : decode cX5_isLost 5 = .ok (.aload_n 0, 1) := by decide +kernel
theorem dX5_isLost_6 : decode cX5_isLost 6 = .ok (.getfield 37, 3) := by decide +kernel
theorem dX5_isLost_9 : decode cX5_isLost 9 = .ok (.iload_n 2, 1) := by decide +kernel
theorem dX5_isLost_10 : decode cX5_isLost 10 = .ok (.invokestatic 145, 3) := by decide +kernel
theorem dX5_isLost_13 : decode cX5_isLost 13 = .ok (.ireturn, 1) := by decide +kernel
def d_X5_isLost (x0 : Nat) (x1 : Int32) (x2 : Int32) (G : Hp) : Option (Int32 × Hp) :=
  gd (hc G x0 = 6) <|
  bo (d_X5_look x0 x1 G) fun G3 =>
  gd (hc G3 x0 = 6) <|
  bo (d_X8_has (hi G3 x0 12) x2 G3) fun v6 =>
  gd (v6 &&& 1 = v6) <|
  some (v6, G3)
section
variable {p : Program} {l : Launch} {e : Env} {s : State} {m : MethodId} {args : Array Value} {below : List Frame} {meth : Method} {c : Code} {b0 : Nat} {D : va_G} {E : Nat → ClassId}
set_option maxHeartbeats 4000000 in
set_option maxRecDepth 100000 in
theorem k_X5_isLost (C : Cx p s m args meth c RX5 cX5_isLost 3 (some .boolean) b0 D E) {rr : Int32} {GG : Hp} {x0 : Nat} {x1 : Int32} {x2 : Int32} {G : Hp} {ls : Array Slot} {H : Heap} {locs : List Loc} : lx ls 3 [(0, .inr x0), (1, .inl x1), (2, .inl x2)] → Rp b0 D E G H → SS b0 s H locs → d_X5_isLost x0 x1 x2 G = some (rr, GG) → W p l e (rmd 4 (0) (0)) s m args below meth c H locs (0) (0) (MQ below (CQ b0 D E (some (.int rr)) GG) args s (0) (0) (fun q => b0 ≤ q)) (F0 m 0 ls []) := by
  intro hL hR hS hd
  unfold d_X5_isLost at hd
  have hx := C.1
  have hb := C.2.1
  refine x_aload_n C dX5_isLost_0 hL 0 rfl ?_
  refine x_iload_n C dX5_isLost_1 hL 1 rfl ?_
  obtain ⟨g1, hd⟩ := gd_ex hd
  obtain ⟨G3, h2, hd⟩ := bo_ex hd
  refine r_callV (a := x0) (ci := 5) (As := [.int x1]) C (ct_X5_look h2) mf_X5_look ml_X5_129 mv_X5_look rfl ⟨Nat.le_of_ble_eq_true rfl, Nat.le_of_ble_eq_true rfl⟩ dX5_isLost_2 (lx_size hL) rfl hR hS g1 ⟨Nat.le_refl _, Nat.le_refl _⟩ (cat_le [] (Nat.le_of_ble_eq_true rfl)) (fun H locs hR hS => ?_)
  refine W_st (st2 := []) rfl ?_
  refine x_aload_n C dX5_isLost_5 hL 0 rfl ?_
  obtain ⟨g4, hd⟩ := gd_ex hd
  refine r_geti (ci := 5) (k := 12) C fl_X5_37 rfl dX5_isLost_6 hR g4 ?_
  refine x_iload_n C dX5_isLost_9 hL 2 rfl ?_
  obtain ⟨v6, h5, hd⟩ := bo_ex hd
  refine r_callSN (As := [.int (hi G3 x0 12), .int x2]) C (ct_X8_has h5) mf_X8_has (by decide +kernel) ms_X8_has rfl ⟨Nat.le_of_ble_eq_true rfl, Nat.le_of_ble_eq_true rfl⟩ dX5_isLost_10 (lx_size hL) rfl hR hS ⟨Nat.le_refl _, Nat.le_refl _⟩ (cat_le [] (Nat.le_of_ble_eq_true rfl)) (fun H locs hR hS => ?_)
  refine W_st (st2 := [.int v6]) rfl ?_
  obtain ⟨g7, hd⟩ := gd_ex hd
  cases hd
  exact r_zret C g7 dX5_isLost_13 hR hS
end
set_option maxHeartbeats 4000000 in
set_option maxRecDepth 100000 in
theorem ct_X5_isLost {l : Launch} {b0 : Nat} {D : va_G} {E : Nat → ClassId} {G : Hp} {a0 : Nat} {a1 : Int32} {a2 : Int32} {rr : Int32} {GG : Hp} (hd : d_X5_isLost a0 a1 a2 G = some (rr, GG)) : CT l yX5_isLost cX5_isLost 3 (some .boolean) 4 0 0 b0 D E [rv a0, .int a1, .int a2] G (some (.int rr)) GG := by
  refine CT_of (by decide +kernel) ?_
  intro p e s m below meth c C hnm hR
  refine r_entry [.inr a0, .inl a1, .inl a2] (n := 3) (Nat.le_of_ble_eq_true rfl) (lv := [(0, .inr a0), (1, .inl a1), (2, .inl a2)]) rfl (fun ls hL => ?_)
  exact k_X5_isLost C (lx_sub hL [0, 1, 2] rfl) hR ⟨fun _ _ => rfl, fun _ h => by cases h⟩ hd

/-! GroveWorks$Tree.joinedRouter(I)I pure -/
theorem dX5_joinedRouter_0 : decode cX5_joinedRouter 0 = .ok (.aload_n 0, 1) := by decide +kernel
theorem dX5_joinedRouter_1 : decode cX5_joinedRouter 1 = .ok (.getfield 15, 3) := by decide +kernel
theorem dX5_joinedRouter_4 : decode cX5_joinedRouter 4 = .ok (.iload_n 1, 1) := by decide +kernel
theorem dX5_joinedRouter_5 : decode cX5_joinedRouter 5 = .ok (.iaload, 1) := by decide +kernel
theorem dX5_joinedRouter_6 : decode cX5_joinedRouter 6 = .ok (.iconst (-1), 1) := by decide +kernel
theorem dX5_joinedRouter_7 : decode cX5_joinedRouter 7 = .ok (.if_icmp .ne 7, 3) := by decide +kernel
theorem dX5_joinedRouter_10 : decode cX5_joinedRouter 10 = .ok (.iconst (-1), 1) := by decide +kernel
theorem dX5_joinedRouter_11 : decode cX5_joinedRouter 11 = .ok (.goto 12, 3) := by decide +kernel
theorem dX5_joinedRouter_14 : decode cX5_joinedRouter 14 = .ok (.aload_n 0, 1) := by decide +kernel
theorem dX5_joinedRouter_15 : decode cX5_joinedRouter 15 = .ok (.getfield 15, 3) := by decide +kernel
theorem dX5_joinedRouter_18 : decode cX5_joinedRouter 18 = .ok (.iload_n 1, 1) := by decide +kernel
theorem dX5_joinedRouter_19 : decode cX5_joinedRouter 19 = .ok (.iaload, 1) := by decide +kernel
theorem dX5_joinedRouter_20 : decode cX5_joinedRouter 20 = .ok (.bipush 16, 2) := by decide +kernel
theorem dX5_joinedRouter_22 : decode cX5_joinedRouter 22 = .ok (.irem, 1) := by decide +kernel
theorem dX5_joinedRouter_23 : decode cX5_joinedRouter 23 = .ok (.ireturn, 1) := by decide +kernel
def d_X5_joinedRouter (x0 : Nat) (x1 : Int32) (G : Hp) : Option (Int32) :=
  gd (hc G x0 = 6) <|
  gd (hc G (hr G x0 5) = 11 ∧ ix x1 (hl G (hr G x0 5))) <|
  if (hi G (hr G x0 5) x1.toNatClampNeg) = (-1) then
    some (-1)
  else
    gd (hc G (hr G x0 5) = 11 ∧ ix x1 (hl G (hr G x0 5))) <|
    some ((hi G (hr G x0 5) x1.toNatClampNeg) - (hi G (hr G x0 5) x1.toNatClampNeg) / 16 * 16)
section
variable {p : Program} {l : Launch} {e : Env} {s : State} {m : MethodId} {args : Array Value} {below : List Frame} {meth : Method} {c : Code} {b0 : Nat} {D : va_G} {E : Nat → ClassId}
set_option maxHeartbeats 4000000 in
set_option maxRecDepth 100000 in
theorem k_X5_joinedRouter (C : Cx p s m args meth c RX5 cX5_joinedRouter 2 (some .int) b0 D E) {rr : Int32} {G : Hp} {x0 : Nat} {x1 : Int32} {ls : Array Slot} {H : Heap} {locs : List Loc} : lx ls 2 [(0, .inr x0), (1, .inl x1)] → Rp b0 D E G H → SS b0 s H locs → d_X5_joinedRouter x0 x1 G = some rr → W p l e (rmd 0 (0) (0)) s m args below meth c H locs (0) (0) (MQ below (CQ b0 D E (some (.int rr)) G) args s (0) (0) (fun q => b0 ≤ q)) (F0 m 0 ls []) := by
  intro hL hR hS hd
  unfold d_X5_joinedRouter at hd
  have hx := C.1
  have hb := C.2.1
  refine x_aload_n C dX5_joinedRouter_0 hL 0 rfl ?_
  obtain ⟨g1, hd⟩ := gd_ex hd
  refine r_getr (ci := 5) (k := 5) C fl_X5_15 rfl dX5_joinedRouter_1 hR g1 ?_
  refine x_iload_n C dX5_joinedRouter_4 hL 1 rfl ?_
  obtain ⟨g2, hd⟩ := gd_ex hd
  refine r_iald C dX5_joinedRouter_5 hR g2 ?_
  refine lv_iconst (v := (-1)) hx hb dX5_joinedRouter_6 (by decide) ?_
  refine lv_icmp_ne (tgt := 14) hx hb dX5_joinedRouter_7 (by decide) (fun c3 => ?_) (fun c3 => ?_)
  · rw [if_neg c3] at hd
    refine x_aload_n C dX5_joinedRouter_14 hL 0 rfl ?_
    refine r_getr (ci := 5) (k := 5) C fl_X5_15 rfl dX5_joinedRouter_15 hR g1 ?_
    refine x_iload_n C dX5_joinedRouter_18 hL 1 rfl ?_
    obtain ⟨g4, hd⟩ := gd_ex hd
    refine r_iald C dX5_joinedRouter_19 hR g4 ?_
    refine lv_bipush (v := 16) hx hb dX5_joinedRouter_20 (by decide) ?_
    refine lv_irem hx hb dX5_joinedRouter_22 (by decide) ?_
    cases hd
    exact r_iret C dX5_joinedRouter_23 hR hS
  · rw [if_pos c3] at hd
    refine lv_iconst (v := (-1)) hx hb dX5_joinedRouter_10 (by decide) ?_
    refine lv_goto (tgt := 23) hx hb dX5_joinedRouter_11 (by decide) ?_
    cases hd
    exact r_iret C dX5_joinedRouter_23 hR hS
end
set_option maxHeartbeats 4000000 in
set_option maxRecDepth 100000 in
theorem ct_X5_joinedRouter {l : Launch} {b0 : Nat} {D : va_G} {E : Nat → ClassId} {G : Hp} {a0 : Nat} {a1 : Int32} {rr : Int32} (hd : d_X5_joinedRouter a0 a1 G = some rr) : CT l yX5_joinedRouter cX5_joinedRouter 2 (some .int) 0 0 0 b0 D E [rv a0, .int a1] G (some (.int rr)) G := by
  refine CT_of (by decide +kernel) ?_
  intro p e s m below meth c C hnm hR
  refine r_entry [.inr a0, .inl a1] (n := 2) (Nat.le_of_ble_eq_true rfl) (lv := [(0, .inr a0), (1, .inl a1)]) rfl (fun ls hL => ?_)
  exact k_X5_joinedRouter C (lx_sub hL [0, 1] rfl) hR ⟨fun _ _ => rfl, fun _ h => by cases h⟩ hd

/-! GroveWorks$Tree.joinedPort(I)I pure -/
theorem dX5_joinedPort_0 : decode cX5_joinedPort 0 = .ok (.aload_n 0, 1) := by decide +kernel
theorem dX5_joinedPort_1 : decode cX5_joinedPort 1 = .ok (.getfield 15, 3) := by decide +kernel
theorem dX5_joinedPort_4 : decode cX5_joinedPort 4 = .ok (.iload_n 1, 1) := by decide +kernel
theorem dX5_joinedPort_5 : decode cX5_joinedPort 5 = .ok (.iaload, 1) := by decide +kernel
theorem dX5_joinedPort_6 : decode cX5_joinedPort 6 = .ok (.iconst (-1), 1) := by decide +kernel
theorem dX5_joinedPort_7 : decode cX5_joinedPort 7 = .ok (.if_icmp .ne 7, 3) := by decide +kernel
theorem dX5_joinedPort_10 : decode cX5_joinedPort 10 = .ok (.iconst (-1), 1) := by decide +kernel
theorem dX5_joinedPort_11 : decode cX5_joinedPort 11 = .ok (.goto 12, 3) := by decide +kernel
theorem dX5_joinedPort_14 : decode cX5_joinedPort 14 = .ok (.aload_n 0, 1) := by decide +kernel
theorem dX5_joinedPort_15 : decode cX5_joinedPort 15 = .ok (.getfield 15, 3) := by decide +kernel
theorem dX5_joinedPort_18 : decode cX5_joinedPort 18 = .ok (.iload_n 1, 1) := by decide +kernel
theorem dX5_joinedPort_19 : decode cX5_joinedPort 19 = .ok (.iaload, 1) := by decide +kernel
theorem dX5_joinedPort_20 : decode cX5_joinedPort 20 = .ok (.bipush 16, 2) := by decide +kernel
theorem dX5_joinedPort_22 : decode cX5_joinedPort 22 = .ok (.idiv, 1) := by decide +kernel
theorem dX5_joinedPort_23 : decode cX5_joinedPort 23 = .ok (.ireturn, 1) := by decide +kernel
def d_X5_joinedPort (x0 : Nat) (x1 : Int32) (G : Hp) : Option (Int32) :=
  gd (hc G x0 = 6) <|
  gd (hc G (hr G x0 5) = 11 ∧ ix x1 (hl G (hr G x0 5))) <|
  if (hi G (hr G x0 5) x1.toNatClampNeg) = (-1) then
    some (-1)
  else
    gd (hc G (hr G x0 5) = 11 ∧ ix x1 (hl G (hr G x0 5))) <|
    some ((hi G (hr G x0 5) x1.toNatClampNeg) / 16)
section
variable {p : Program} {l : Launch} {e : Env} {s : State} {m : MethodId} {args : Array Value} {below : List Frame} {meth : Method} {c : Code} {b0 : Nat} {D : va_G} {E : Nat → ClassId}
set_option maxHeartbeats 4000000 in
set_option maxRecDepth 100000 in
theorem k_X5_joinedPort (C : Cx p s m args meth c RX5 cX5_joinedPort 2 (some .int) b0 D E) {rr : Int32} {G : Hp} {x0 : Nat} {x1 : Int32} {ls : Array Slot} {H : Heap} {locs : List Loc} : lx ls 2 [(0, .inr x0), (1, .inl x1)] → Rp b0 D E G H → SS b0 s H locs → d_X5_joinedPort x0 x1 G = some rr → W p l e (rmd 0 (0) (0)) s m args below meth c H locs (0) (0) (MQ below (CQ b0 D E (some (.int rr)) G) args s (0) (0) (fun q => b0 ≤ q)) (F0 m 0 ls []) := by
  intro hL hR hS hd
  unfold d_X5_joinedPort at hd
  have hx := C.1
  have hb := C.2.1
  refine x_aload_n C dX5_joinedPort_0 hL 0 rfl ?_
  obtain ⟨g1, hd⟩ := gd_ex hd
  refine r_getr (ci := 5) (k := 5) C fl_X5_15 rfl dX5_joinedPort_1 hR g1 ?_
  refine x_iload_n C dX5_joinedPort_4 hL 1 rfl ?_
  obtain ⟨g2, hd⟩ := gd_ex hd
  refine r_iald C dX5_joinedPort_5 hR g2 ?_
  refine lv_iconst (v := (-1)) hx hb dX5_joinedPort_6 (by decide) ?_
  refine lv_icmp_ne (tgt := 14) hx hb dX5_joinedPort_7 (by decide) (fun c3 => ?_) (fun c3 => ?_)
  · rw [if_neg c3] at hd
    refine x_aload_n C dX5_joinedPort_14 hL 0 rfl ?_
    refine r_getr (ci := 5) (k := 5) C fl_X5_15 rfl dX5_joinedPort_15 hR g1 ?_
    refine x_iload_n C dX5_joinedPort_18 hL 1 rfl ?_
    obtain ⟨g4, hd⟩ := gd_ex hd
    refine r_iald C dX5_joinedPort_19 hR g4 ?_
    refine lv_bipush (v := 16) hx hb dX5_joinedPort_20 (by decide) ?_
    refine lv_idiv hx hb dX5_joinedPort_22 (by decide) ?_
    cases hd
    exact r_iret C dX5_joinedPort_23 hR hS
  · rw [if_pos c3] at hd
    refine lv_iconst (v := (-1)) hx hb dX5_joinedPort_10 (by decide) ?_
    refine lv_goto (tgt := 23) hx hb dX5_joinedPort_11 (by decide) ?_
    cases hd
    exact r_iret C dX5_joinedPort_23 hR hS
end
set_option maxHeartbeats 4000000 in
set_option maxRecDepth 100000 in
theorem ct_X5_joinedPort {l : Launch} {b0 : Nat} {D : va_G} {E : Nat → ClassId} {G : Hp} {a0 : Nat} {a1 : Int32} {rr : Int32} (hd : d_X5_joinedPort a0 a1 G = some rr) : CT l yX5_joinedPort cX5_joinedPort 2 (some .int) 0 0 0 b0 D E [rv a0, .int a1] G (some (.int rr)) G := by
  refine CT_of (by decide +kernel) ?_
  intro p e s m below meth c C hnm hR
  refine r_entry [.inr a0, .inl a1] (n := 2) (Nat.le_of_ble_eq_true rfl) (lv := [(0, .inr a0), (1, .inl a1)]) rfl (fun ls hL => ?_)
  exact k_X5_joinedPort C (lx_sub hL [0, 1] rfl) hR ⟨fun _ _ => rfl, fun _ h => by cases h⟩ hd

/-! GroveWorks$Tree.tellStar(I)I -/
theorem dX5_tellStar_0 : decode cX5_tellStar 0 = .ok (.iload_n 1, 1) := by decide +kernel
theorem dX5_tellStar_1 : decode cX5_tellStar 1 = .ok (.tableswitch 74 0 4 #[35, 50, 57, 64, 69], 35) := by decide +kernel
theorem dX5_tellStar_36 : decode cX5_tellStar 36 = .ok (.aload_n 0, 1) := by decide +kernel
theorem dX5_tellStar_37 : decode cX5_tellStar 37 = .ok (.bipush 16, 2) := by decide +kernel
theorem dX5_tellStar_39 : decode cX5_tellStar 39 = .ok (.invokevirtual 157, 3) := by decide +kernel
theorem dX5_tellStar_42 : decode cX5_tellStar 42 = .ok (.ifCond .eq 7, 3) := by decide +kernel
theorem dX5_tellStar_45 : decode cX5_tellStar 45 = .ok (.iconst 1, 1) := by decide +kernel
theorem dX5_tellStar_46 : decode cX5_tellStar 46 = .ok (.goto 4, 3) := by decide +kernel
theorem dX5_tellStar_49 : decode cX5_tellStar 49 = .ok (.iconst 0, 1) := by decide +kernel
theorem dX5_tellStar_50 : decode cX5_tellStar 50 = .ok (.ireturn, 1) := by decide +kernel
theorem dX5_tellStar_51 : decode cX5_tellStar 51 = .ok (.aload_n 0, 1) := by decide +kernel
theorem dX5_tellStar_52 : decode cX5_tellStar 52 = .ok (.bipush 16, 2) := by decide +kernel
theorem dX5_tellStar_54 : decode cX5_tellStar 54 = .ok (.invokevirtual 288, 3) := by decide +kernel
theorem dX5_tellStar_57 : decode cX5_tellStar 57 = .ok (.ireturn, 1) := by decide +kernel
theorem dX5_tellStar_58 : decode cX5_tellStar 58 = .ok (.aload_n 0, 1) := by decide +kernel
theorem dX5_tellStar_59 : decode cX5_tellStar 59 = .ok (.bipush 16, 2) := by decide +kernel
theorem dX5_tellStar_61 : decode cX5_tellStar 61 = .ok (.invokevirtual 291, 3) := by decide +kernel
theorem dX5_tellStar_64 : decode cX5_tellStar 64 = .ok (.ireturn, 1) := by decide +kernel
theorem dX5_tellStar_65 : decode cX5_tellStar 65 = .ok (.aload_n 0, 1) := by decide +kernel
theorem dX5_tellStar_66 : decode cX5_tellStar 66 = .ok (.invokevirtual 125, 3) := by decide +kernel
theorem dX5_tellStar_69 : decode cX5_tellStar 69 = .ok (.ireturn, 1) := by decide +kernel
theorem dX5_tellStar_70 : decode cX5_tellStar 70 = .ok (.aload_n 0, 1) := by decide +kernel
theorem dX5_tellStar_71 : decode cX5_tellStar 71 = .ok (.getfield 22, 3) := by decide +kernel
theorem dX5_tellStar_74 : decode cX5_tellStar 74 = .ok (.ireturn, 1) := by decide +kernel
theorem dX5_tellStar_75 : decode cX5_tellStar 75 = .ok (.iconst (-1), 1) := by decide +kernel
theorem dX5_tellStar_76 : decode cX5_tellStar 76 = .ok (.ireturn, 1) := by decide +kernel
def d_X5_tellStar (x0 : Nat) (x1 : Int32) (G : Hp) : Option (Int32 × Hp) :=
  if x1 = 0 then
    gd (hc G x0 = 6) <|
    b2 (d_X5_wants x0 16 G) fun v4 G5 =>
    if v4 = 0 then
      some (0, G5)
    else
      some (1, G5)
  else
  if x1 = 1 then
    gd (hc G x0 = 6) <|
    bo (d_X5_joinedRouter x0 16 G) fun v9 =>
    some (v9, G)
  else
  if x1 = 2 then
    gd (hc G x0 = 6) <|
    bo (d_X5_joinedPort x0 16 G) fun v12 =>
    some (v12, G)
  else
  if x1 = 3 then
    gd (hc G x0 = 6) <|
    bo (d_X5_base x0 G) fun v15 =>
    some (v15, G)
  else
  if x1 = 4 then
    gd (hc G x0 = 6) <|
    some ((hi G x0 7), G)
  else
  some ((-1), G)
section
variable {p : Program} {l : Launch} {e : Env} {s : State} {m : MethodId} {args : Array Value} {below : List Frame} {meth : Method} {c : Code} {b0 : Nat} {D : va_G} {E : Nat → ClassId}
set_option maxHeartbeats 4000000 in
set_option maxRecDepth 100000 in
theorem k_X5_tellStar (C : Cx p s m args meth c RX5 cX5_tellStar 2 (some .int) b0 D E) {rr : Int32} {GG : Hp} {x0 : Nat} {x1 : Int32} {G : Hp} {ls : Array Slot} {H : Heap} {locs : List Loc} : lx ls 2 [(0, .inr x0), (1, .inl x1)] → Rp b0 D E G H → SS b0 s H locs → d_X5_tellStar x0 x1 G = some (rr, GG) → W p l e (rmd 5 (0) (0)) s m args below meth c H locs (0) (0) (MQ below (CQ b0 D E (some (.int rr)) GG) args s (0) (0) (fun q => b0 ≤ q)) (F0 m 0 ls []) := by
  intro hL hR hS hd
  unfold d_X5_tellStar at hd
  have hx := C.1
  have hb := C.2.1
  refine x_iload_n C dX5_tellStar_0 hL 1 rfl ?_
  by_cases c1_0 : x1 = 0
  · rw [if_pos c1_0] at hd
    rw [c1_0]
    refine lv_tableIn (tgt := 36) hx hb dX5_tellStar_1 (by decide) (by decide) rfl (by decide) ?_
    refine x_aload_n C dX5_tellStar_36 hL 0 rfl ?_
    refine lv_bipush (v := 16) hx hb dX5_tellStar_37 (by decide) ?_
    obtain ⟨g2, hd⟩ := gd_ex hd
    obtain ⟨v4, G5, h3, hd⟩ := b2_ex hd
    refine r_callV (a := x0) (ci := 5) (As := [.int 16]) C (ct_X5_wants h3) mf_X5_wants ml_X5_157 mv_X5_wants rfl ⟨Nat.le_of_ble_eq_true rfl, Nat.le_of_ble_eq_true rfl⟩ dX5_tellStar_39 (lx_size hL) rfl hR hS g2 ⟨Nat.le_refl _, Nat.le_refl _⟩ (cat_le [] (Nat.le_of_ble_eq_true rfl)) (fun H locs hR hS => ?_)
    refine W_st (st2 := [.int v4]) rfl ?_
    refine lv_if_eq (tgt := 49) hx hb dX5_tellStar_42 (by decide) (fun c6 => ?_) (fun c6 => ?_)
    · rw [if_pos c6] at hd
      refine lv_iconst (v := 0) hx hb dX5_tellStar_49 (by decide) ?_
      cases hd
      exact r_iret C dX5_tellStar_50 hR hS
    · rw [if_neg c6] at hd
      refine lv_iconst (v := 1) hx hb dX5_tellStar_45 (by decide) ?_
      refine lv_goto (tgt := 50) hx hb dX5_tellStar_46 (by decide) ?_
      cases hd
      exact r_iret C dX5_tellStar_50 hR hS
  rw [if_neg c1_0] at hd
  by_cases c1_1 : x1 = 1
  · rw [if_pos c1_1] at hd
    rw [c1_1]
    refine lv_tableIn (tgt := 51) hx hb dX5_tellStar_1 (by decide) (by decide) rfl (by decide) ?_
    refine x_aload_n C dX5_tellStar_51 hL 0 rfl ?_
    refine lv_bipush (v := 16) hx hb dX5_tellStar_52 (by decide) ?_
    obtain ⟨g7, hd⟩ := gd_ex hd
    obtain ⟨v9, h8, hd⟩ := bo_ex hd
    refine r_callV (a := x0) (ci := 5) (As := [.int 16]) C (ct_X5_joinedRouter h8) mf_X5_joinedRouter ml_X5_288 mv_X5_joinedRouter rfl ⟨Nat.le_of_ble_eq_true rfl, Nat.le_of_ble_eq_true rfl⟩ dX5_tellStar_54 (lx_size hL) rfl hR hS g7 ⟨Nat.le_refl _, Nat.le_refl _⟩ (cat_le [] (Nat.le_of_ble_eq_true rfl)) (fun H locs hR hS => ?_)
    refine W_st (st2 := [.int v9]) rfl ?_
    cases hd
    exact r_iret C dX5_tellStar_57 hR hS
  rw [if_neg c1_1] at hd
  by_cases c1_2 : x1 = 2
  · rw [if_pos c1_2] at hd
    rw [c1_2]
    refine lv_tableIn (tgt := 58) hx hb dX5_tellStar_1 (by decide) (by decide) rfl (by decide) ?_
    refine x_aload_n C dX5_tellStar_58 hL 0 rfl ?_
    refine lv_bipush (v := 16) hx hb dX5_tellStar_59 (by decide) ?_
    obtain ⟨g10, hd⟩ := gd_ex hd
    obtain ⟨v12, h11, hd⟩ := bo_ex hd
    refine r_callV (a := x0) (ci := 5) (As := [.int 16]) C (ct_X5_joinedPort h11) mf_X5_joinedPort ml_X5_291 mv_X5_joinedPort rfl ⟨Nat.le_of_ble_eq_true rfl, Nat.le_of_ble_eq_true rfl⟩ dX5_tellStar_61 (lx_size hL) rfl hR hS g10 ⟨Nat.le_refl _, Nat.le_refl _⟩ (cat_le [] (Nat.le_of_ble_eq_true rfl)) (fun H locs hR hS => ?_)
    refine W_st (st2 := [.int v12]) rfl ?_
    cases hd
    exact r_iret C dX5_tellStar_64 hR hS
  rw [if_neg c1_2] at hd
  by_cases c1_3 : x1 = 3
  · rw [if_pos c1_3] at hd
    rw [c1_3]
    refine lv_tableIn (tgt := 65) hx hb dX5_tellStar_1 (by decide) (by decide) rfl (by decide) ?_
    refine x_aload_n C dX5_tellStar_65 hL 0 rfl ?_
    obtain ⟨g13, hd⟩ := gd_ex hd
    obtain ⟨v15, h14, hd⟩ := bo_ex hd
    refine r_callV (a := x0) (ci := 5) (As := []) C (ct_X5_base h14) mf_X5_base ml_X5_125 mv_X5_base rfl ⟨Nat.le_of_ble_eq_true rfl, Nat.le_of_ble_eq_true rfl⟩ dX5_tellStar_66 (lx_size hL) rfl hR hS g13 ⟨Nat.le_refl _, Nat.le_refl _⟩ (cat_le [] (Nat.le_of_ble_eq_true rfl)) (fun H locs hR hS => ?_)
    refine W_st (st2 := [.int v15]) rfl ?_
    cases hd
    exact r_iret C dX5_tellStar_69 hR hS
  rw [if_neg c1_3] at hd
  by_cases c1_4 : x1 = 4
  · rw [if_pos c1_4] at hd
    rw [c1_4]
    refine lv_tableIn (tgt := 70) hx hb dX5_tellStar_1 (by decide) (by decide) rfl (by decide) ?_
    refine x_aload_n C dX5_tellStar_70 hL 0 rfl ?_
    obtain ⟨g16, hd⟩ := gd_ex hd
    refine r_geti (ci := 5) (k := 7) C fl_X5_22 rfl dX5_tellStar_71 hR g16 ?_
    cases hd
    exact r_iret C dX5_tellStar_74 hR hS
  rw [if_neg c1_4] at hd
  have z_0 := i32_ne c1_0
  have z_1 := i32_ne c1_1
  have z_2 := i32_ne c1_2
  have z_3 := i32_ne c1_3
  have z_4 := i32_ne c1_4
  refine lv_tableOut (tgt := 75) hx hb dX5_tellStar_1 (by simp only [show ((0 : Int32)).toInt = 0 from rfl, show ((1 : Int32)).toInt = 1 from rfl, show ((2 : Int32)).toInt = 2 from rfl, show ((3 : Int32)).toInt = 3 from rfl, show ((4 : Int32)).toInt = 4 from rfl] at z_0 z_1 z_2 z_3 z_4; omega) (by decide) ?_
  refine lv_iconst (v := (-1)) hx hb dX5_tellStar_75 (by decide) ?_
  cases hd
  exact r_iret C dX5_tellStar_76 hR hS
end
set_option maxHeartbeats 4000000 in
set_option maxRecDepth 100000 in
theorem ct_X5_tellStar {l : Launch} {b0 : Nat} {D : va_G} {E : Nat → ClassId} {G : Hp} {a0 : Nat} {a1 : Int32} {rr : Int32} {GG : Hp} (hd : d_X5_tellStar a0 a1 G = some (rr, GG)) : CT l yX5_tellStar cX5_tellStar 2 (some .int) 5 0 0 b0 D E [rv a0, .int a1] G (some (.int rr)) GG := by
  refine CT_of (by decide +kernel) ?_
  intro p e s m below meth c C hnm hR
  refine r_entry [.inr a0, .inl a1] (n := 2) (Nat.le_of_ble_eq_true rfl) (lv := [(0, .inr a0), (1, .inl a1)]) rfl (fun ls hL => ?_)
  exact k_X5_tellStar C (lx_sub hL [0, 1] rfl) hR ⟨fun _ _ => rfl, fun _ h => by cases h⟩ hd

/-! GroveWorks$Tree.tellSource(II)I -/
theorem dX5_tellSource_0 : decode cX5_tellSource 0 = .ok (.aload_n 0, 1) := by decide +kernel
theorem dX5_tellSource_1 : decode cX5_tellSource 1 = .ok (.iload_n 1, 1) := by decide +kernel
theorem dX5_tellSource_2 : decode cX5_tellSource 2 = .ok (.invokevirtual 129, 3) := by decide +kernel
theorem dX5_tellSource_5 : decode cX5_tellSource 5 = .ok (.iload_n 2, 1) := by decide +kernel
theorem dX5_tellSource_6 : decode cX5_tellSource 6 = .ok (.tableswitch 149 0 7 #[46, 59, 65, 71, 76, 81, 95, 122], 46) := by decide +kernel
theorem dX5_tellSource_52 : decode cX5_tellSource 52 = .ok (.aload_n 0, 1) := by decide +kernel
theorem dX5_tellSource_53 : decode cX5_tellSource 53 = .ok (.getfield 46, 3) := by decide +kernel
theorem dX5_tellSource_56 : decode cX5_tellSource 56 = .ok (.ifCond .eq 7, 3) := by decide +kernel
theorem dX5_tellSource_59 : decode cX5_tellSource 59 = .ok (.iconst 1, 1) := by decide +kernel
theorem dX5_tellSource_60 : decode cX5_tellSource 60 = .ok (.goto 4, 3) := by decide +kernel
theorem dX5_tellSource_63 : decode cX5_tellSource 63 = .ok (.iconst 0, 1) := by decide +kernel
theorem dX5_tellSource_64 : decode cX5_tellSource 64 = .ok (.ireturn, 1) := by decide +kernel
theorem dX5_tellSource_65 : decode cX5_tellSource 65 = .ok (.aload_n 0, 1) := by decide +kernel
theorem dX5_tellSource_66 : decode cX5_tellSource 66 = .ok (.iload_n 1, 1) := by decide +kernel
theorem dX5_tellSource_67 : decode cX5_tellSource 67 = .ok (.invokevirtual 288, 3) := by decide +kernel
theorem dX5_tellSource_70 : decode cX5_tellSource 70 = .ok (.ireturn, 1) := by decide +kernel
theorem dX5_tellSource_71 : decode cX5_tellSource 71 = .ok (.aload_n 0, 1) := by decide +kernel
theorem dX5_tellSource_72 : decode cX5_tellSource 72 = .ok (.iload_n 1, 1) := by decide +kernel
theorem dX5_tellSource_73 : decode cX5_tellSource 73 = .ok (.invokevirtual 291, 3) := by decide +kernel
theorem dX5_tellSource_76 : decode cX5_tellSource 76 = .ok (.ireturn, 1) := by decide +kernel
theorem dX5_tellSource_77 : decode cX5_tellSource 77 = .ok (.aload_n 0, 1) := by decide +kernel
theorem dX5_tellSource_78 : decode cX5_tellSource 78 = .ok (.getfield 43, 3) := by decide +kernel
theorem dX5_tellSource_81 : decode cX5_tellSource 81 = .ok (.ireturn, 1) := by decide +kernel
theorem dX5_tellSource_82 : decode cX5_tellSource 82 = .ok (.aload_n 0, 1) := by decide +kernel
theorem dX5_tellSource_83 : decode cX5_tellSource 83 = .ok (.getfield 40, 3) := by decide +kernel
theorem dX5_tellSource_86 : decode cX5_tellSource 86 = .ok (.ireturn, 1) := by decide +kernel
theorem dX5_tellSource_87 : decode cX5_tellSource 87 = .ok (.aload_n 0, 1) := by decide +kernel
theorem dX5_tellSource_88 : decode cX5_tellSource 88 = .ok (.iload_n 1, 1) := by decide +kernel
theorem dX5_tellSource_89 : decode cX5_tellSource 89 = .ok (.invokevirtual 102, 3) := by decide +kernel
theorem dX5_tellSource_92 : decode cX5_tellSource 92 = .ok (.ifCond .eq 7, 3) := by decide +kernel
theorem dX5_tellSource_95 : decode cX5_tellSource 95 = .ok (.iconst 1, 1) := by decide +kernel
theorem dX5_tellSource_96 : decode cX5_tellSource 96 = .ok (.goto 4, 3) := by decide +kernel
theorem dX5_tellSource_99 : decode cX5_tellSource 99 = .ok (.iconst 0, 1) := by decide +kernel
theorem dX5_tellSource_100 : decode cX5_tellSource 100 = .ok (.ireturn, 1) := by decide +kernel
theorem dX5_tellSource_101 : decode cX5_tellSource 101 = .ok (.aload_n 0, 1) := by decide +kernel
theorem dX5_tellSource_102 : decode cX5_tellSource 102 = .ok (.getfield 25, 3) := by decide +kernel
theorem dX5_tellSource_105 : decode cX5_tellSource 105 = .ok (.iload_n 1, 1) := by decide +kernel
theorem dX5_tellSource_106 : decode cX5_tellSource 106 = .ok (.iaload, 1) := by decide +kernel
theorem dX5_tellSource_107 : decode cX5_tellSource 107 = .ok (.aload_n 0, 1) := by decide +kernel
theorem dX5_tellSource_108 : decode cX5_tellSource 108 = .ok (.getfield 50, 3) := by decide +kernel
theorem dX5_tellSource_111 : decode cX5_tellSource 111 = .ok (.getfield 118, 3) := by decide +kernel
theorem dX5_tellSource_114 : decode cX5_tellSource 114 = .ok (.if_icmp .le 12, 3) := by decide +kernel
theorem dX5_tellSource_117 : decode cX5_tellSource 117 = .ok (.aload_n 0, 1) := by decide +kernel
theorem dX5_tellSource_118 : decode cX5_tellSource 118 = .ok (.getfield 25, 3) := by decide +kernel
theorem dX5_tellSource_121 : decode cX5_tellSource 121 = .ok (.iload_n 1, 1) := by decide +kernel
theorem dX5_tellSource_122 : decode cX5_tellSource 122 = .ok (.iaload, 1) := by decide +kernel
theorem dX5_tellSource_123 : decode cX5_tellSource 123 = .ok (.goto 4, 3) := by decide +kernel
theorem dX5_tellSource_126 : decode cX5_tellSource 126 = .ok (.iconst 0, 1) := by decide +kernel
theorem dX5_tellSource_127 : decode cX5_tellSource 127 = .ok (.ireturn, 1) := by decide +kernel
theorem dX5_tellSource_128 : decode cX5_tellSource 128 = .ok (.aload_n 0, 1) := by decide +kernel
theorem dX5_tellSource_129 : decode cX5_tellSource 129 = .ok (.getfield 28, 3) := by decide +kernel
theorem dX5_tellSource_132 : decode cX5_tellSource 132 = .ok (.iload_n 1, 1) := by decide +kernel
theorem dX5_tellSource_133 : decode cX5_tellSource 133 = .ok (.iaload, 1) := by decide +kernel
theorem dX5_tellSource_134 : decode cX5_tellSource 134 = .ok (.aload_n 0, 1) := by decide +kernel
theorem dX5_tellSource_135 : decode cX5_tellSource 135 = .ok (.getfield 50, 3) := by decide +kernel
theorem dX5_tellSource_138 : decode cX5_tellSource 138 = .ok (.getfield 118, 3) := by decide +kernel
theorem dX5_tellSource_141 : decode cX5_tellSource 141 = .ok (.if_icmp .le 12, 3) := by decide +kernel
theorem dX5_tellSource_144 : decode cX5_tellSource 144 = .ok (.aload_n 0, 1) := by decide +kernel
theorem dX5_tellSource_145 : decode cX5_tellSource 145 = .ok (.getfield 28, 3) := by decide +kernel
theorem dX5_tellSource_148 : decode cX5_tellSource 148 = .ok (.iload_n 1, 1) := by decide +kernel
theorem dX5_tellSource_149 : decode cX5_tellSource 149 = .ok (.iaload, 1) := by decide +kernel
theorem dX5_tellSource_150 : decode cX5_tellSource 150 = .ok (.goto 4, 3) := by decide +kernel
theorem dX5_tellSource_153 : decode cX5_tellSource 153 = .ok (.iconst 0, 1) := by decide +kernel
theorem dX5_tellSource_154 : decode cX5_tellSource 154 = .ok (.ireturn, 1) := by decide +kernel
theorem dX5_tellSource_155 : decode cX5_tellSource 155 = .ok (.iconst (-1), 1) := by decide +kernel
theorem dX5_tellSource_156 : decode cX5_tellSource 156 = .ok (.ireturn, 1) := by decide +kernel
def d_X5_tellSource (x0 : Nat) (x1 : Int32) (x2 : Int32) (G : Hp) : Option (Int32 × Hp) :=
  gd (hc G x0 = 6) <|
  bo (d_X5_look x0 x1 G) fun G3 =>
  if x2 = 0 then
    gd (hc G3 x0 = 6) <|
    if (hi G3 x0 15) = 0 then
      some (0, G3)
    else
      some (1, G3)
  else
  if x2 = 1 then
    gd (hc G3 x0 = 6) <|
    bo (d_X5_joinedRouter x0 x1 G3) fun v9 =>
    some (v9, G3)
  else
  if x2 = 2 then
    gd (hc G3 x0 = 6) <|
    bo (d_X5_joinedPort x0 x1 G3) fun v12 =>
    some (v12, G3)
  else
  if x2 = 3 then
    gd (hc G3 x0 = 6) <|
    some ((hi G3 x0 14), G3)
  else
  if x2 = 4 then
    gd (hc G3 x0 = 6) <|
    some ((hi G3 x0 13), G3)
  else
  if x2 = 5 then
    gd (hc G3 x0 = 6) <|
    bo (d_X5_isStraight x0 x1 G3) fun v17 =>
    if v17 = 0 then
      some (0, G3)
    else
      some (1, G3)
  else
  if x2 = 6 then
    gd (hc G3 x0 = 6) <|
    gd (hc G3 (hr G3 x0 8) = 11 ∧ ix x1 (hl G3 (hr G3 x0 8))) <|
    gd (hc G3 (hr G3 x0 0) = 3) <|
    if (hi G3 (hr G3 x0 8) x1.toNatClampNeg) ≤ (hi G3 (hr G3 x0 0) 4) then
      some (0, G3)
    else
      gd (hc G3 (hr G3 x0 8) = 11 ∧ ix x1 (hl G3 (hr G3 x0 8))) <|
      some ((hi G3 (hr G3 x0 8) x1.toNatClampNeg), G3)
  else
  if x2 = 7 then
    gd (hc G3 x0 = 6) <|
    gd (hc G3 (hr G3 x0 9) = 11 ∧ ix x1 (hl G3 (hr G3 x0 9))) <|
    gd (hc G3 (hr G3 x0 0) = 3) <|
    if (hi G3 (hr G3 x0 9) x1.toNatClampNeg) ≤ (hi G3 (hr G3 x0 0) 4) then
      some (0, G3)
    else
      gd (hc G3 (hr G3 x0 9) = 11 ∧ ix x1 (hl G3 (hr G3 x0 9))) <|
      some ((hi G3 (hr G3 x0 9) x1.toNatClampNeg), G3)
  else
  some ((-1), G3)
section
variable {p : Program} {l : Launch} {e : Env} {s : State} {m : MethodId} {args : Array Value} {below : List Frame} {meth : Method} {c : Code} {b0 : Nat} {D : va_G} {E : Nat → ClassId}
set_option maxHeartbeats 4000000 in
set_option maxRecDepth 100000 in
theorem k_X5_tellSource (C : Cx p s m args meth c RX5 cX5_tellSource 3 (some .int) b0 D E) {rr : Int32} {GG : Hp} {x0 : Nat} {x1 : Int32} {x2 : Int32} {G : Hp} {ls : Array Slot} {H : Heap} {locs : List Loc} : lx ls 3 [(0, .inr x0), (1, .inl x1), (2, .inl x2)] → Rp b0 D E G H → SS b0 s H locs → d_X5_tellSource x0 x1 x2 G = some (rr, GG) → W p l e (rmd 4 (0) (0)) s m args below meth c H locs (0) (0) (MQ below (CQ b0 D E (some (.int rr)) GG) args s (0) (0) (fun q => b0 ≤ q)) (F0 m 0 ls []) := by
  intro hL hR hS hd
  unfold d_X5_tellSource at hd
  have hx := C.1
  have hb := C.2.1
  refine x_aload_n C dX5_tellSource_0 hL 0 rfl ?_
  refine x_iload_n C dX5_tellSource_1 hL 1 rfl ?_
  obtain ⟨g1, hd⟩ := gd_ex hd
  obtain ⟨G3, h2, hd⟩ := bo_ex hd
  refine r_callV (a := x0) (ci := 5) (As := [.int x1]) C (ct_X5_look h2) mf_X5_look ml_X5_129 mv_X5_look rfl ⟨Nat.le_of_ble_eq_true rfl, Nat.le_of_ble_eq_true rfl⟩ dX5_tellSource_2 (lx_size hL) rfl hR hS g1 ⟨Nat.le_refl _, Nat.le_refl _⟩ (cat_le [] (Nat.le_of_ble_eq_true rfl)) (fun H locs hR hS => ?_)
  refine W_st (st2 := []) rfl ?_
  refine x_iload_n C dX5_tellSource_5 hL 2 rfl ?_
  by_cases c4_0 : x2 = 0
  · rw [if_pos c4_0] at hd
    rw [c4_0]
    refine lv_tableIn (tgt := 52) hx hb dX5_tellSource_6 (by decide) (by decide) rfl (by decide) ?_
    refine x_aload_n C dX5_tellSource_52 hL 0 rfl ?_
    obtain ⟨g5, hd⟩ := gd_ex hd
    refine r_geti (ci := 5) (k := 15) C fl_X5_46 rfl dX5_tellSource_53 hR g5 ?_
    refine lv_if_eq (tgt := 63) hx hb dX5_tellSource_56 (by decide) (fun c6 => ?_) (fun c6 => ?_)
    · rw [if_pos c6] at hd
      refine lv_iconst (v := 0) hx hb dX5_tellSource_63 (by decide) ?_
      cases hd
      exact r_iret C dX5_tellSource_64 hR hS
    · rw [if_neg c6] at hd
      refine lv_iconst (v := 1) hx hb dX5_tellSource_59 (by decide) ?_
      refine lv_goto (tgt := 64) hx hb dX5_tellSource_60 (by decide) ?_
      cases hd
      exact r_iret C dX5_tellSource_64 hR hS
  rw [if_neg c4_0] at hd
  by_cases c4_1 : x2 = 1
  · rw [if_pos c4_1] at hd
    rw [c4_1]
    refine lv_tableIn (tgt := 65) hx hb dX5_tellSource_6 (by decide) (by decide) rfl (by decide) ?_
    refine x_aload_n C dX5_tellSource_65 hL 0 rfl ?_
    refine x_iload_n C dX5_tellSource_66 hL 1 rfl ?_
    obtain ⟨g7, hd⟩ := gd_ex hd
    obtain ⟨v9, h8, hd⟩ := bo_ex hd
    refine r_callV (a := x0) (ci := 5) (As := [.int x1]) C (ct_X5_joinedRouter h8) mf_X5_joinedRouter ml_X5_288 mv_X5_joinedRouter rfl ⟨Nat.le_of_ble_eq_true rfl, Nat.le_of_ble_eq_true rfl⟩ dX5_tellSource_67 (lx_size hL) rfl hR hS g7 ⟨Nat.le_refl _, Nat.le_refl _⟩ (cat_le [] (Nat.le_of_ble_eq_true rfl)) (fun H locs hR hS => ?_)
    refine W_st (st2 := [.int v9]) rfl ?_
    cases hd
    exact r_iret C dX5_tellSource_70 hR hS
  rw [if_neg c4_1] at hd
  by_cases c4_2 : x2 = 2
  · rw [if_pos c4_2] at hd
    rw [c4_2]
    refine lv_tableIn (tgt := 71) hx hb dX5_tellSource_6 (by decide) (by decide) rfl (by decide) ?_
    refine x_aload_n C dX5_tellSource_71 hL 0 rfl ?_
    refine x_iload_n C dX5_tellSource_72 hL 1 rfl ?_
    obtain ⟨g10, hd⟩ := gd_ex hd
    obtain ⟨v12, h11, hd⟩ := bo_ex hd
    refine r_callV (a := x0) (ci := 5) (As := [.int x1]) C (ct_X5_joinedPort h11) mf_X5_joinedPort ml_X5_291 mv_X5_joinedPort rfl ⟨Nat.le_of_ble_eq_true rfl, Nat.le_of_ble_eq_true rfl⟩ dX5_tellSource_73 (lx_size hL) rfl hR hS g10 ⟨Nat.le_refl _, Nat.le_refl _⟩ (cat_le [] (Nat.le_of_ble_eq_true rfl)) (fun H locs hR hS => ?_)
    refine W_st (st2 := [.int v12]) rfl ?_
    cases hd
    exact r_iret C dX5_tellSource_76 hR hS
  rw [if_neg c4_2] at hd
  by_cases c4_3 : x2 = 3
  · rw [if_pos c4_3] at hd
    rw [c4_3]
    refine lv_tableIn (tgt := 77) hx hb dX5_tellSource_6 (by decide) (by decide) rfl (by decide) ?_
    refine x_aload_n C dX5_tellSource_77 hL 0 rfl ?_
    obtain ⟨g13, hd⟩ := gd_ex hd
    refine r_geti (ci := 5) (k := 14) C fl_X5_43 rfl dX5_tellSource_78 hR g13 ?_
    cases hd
    exact r_iret C dX5_tellSource_81 hR hS
  rw [if_neg c4_3] at hd
  by_cases c4_4 : x2 = 4
  · rw [if_pos c4_4] at hd
    rw [c4_4]
    refine lv_tableIn (tgt := 82) hx hb dX5_tellSource_6 (by decide) (by decide) rfl (by decide) ?_
    refine x_aload_n C dX5_tellSource_82 hL 0 rfl ?_
    obtain ⟨g14, hd⟩ := gd_ex hd
    refine r_geti (ci := 5) (k := 13) C fl_X5_40 rfl dX5_tellSource_83 hR g14 ?_
    cases hd
    exact r_iret C dX5_tellSource_86 hR hS
  rw [if_neg c4_4] at hd
  by_cases c4_5 : x2 = 5
  · rw [if_pos c4_5] at hd
    rw [c4_5]
    refine lv_tableIn (tgt := 87) hx hb dX5_tellSource_6 (by decide) (by decide) rfl (by decide) ?_
    refine x_aload_n C dX5_tellSource_87 hL 0 rfl ?_
    refine x_iload_n C dX5_tellSource_88 hL 1 rfl ?_
    obtain ⟨g15, hd⟩ := gd_ex hd
    obtain ⟨v17, h16, hd⟩ := bo_ex hd
    refine r_callV (a := x0) (ci := 5) (As := [.int x1]) C (ct_X5_isStraight h16) mf_X5_isStraight ml_X5_102 mv_X5_isStraight rfl ⟨Nat.le_of_ble_eq_true rfl, Nat.le_of_ble_eq_true rfl⟩ dX5_tellSource_89 (lx_size hL) rfl hR hS g15 ⟨Nat.le_refl _, Nat.le_refl _⟩ (cat_le [] (Nat.le_of_ble_eq_true rfl)) (fun H locs hR hS => ?_)
    refine W_st (st2 := [.int v17]) rfl ?_
    refine lv_if_eq (tgt := 99) hx hb dX5_tellSource_92 (by decide) (fun c18 => ?_) (fun c18 => ?_)
    · rw [if_pos c18] at hd
      refine lv_iconst (v := 0) hx hb dX5_tellSource_99 (by decide) ?_
      cases hd
      exact r_iret C dX5_tellSource_100 hR hS
    · rw [if_neg c18] at hd
      refine lv_iconst (v := 1) hx hb dX5_tellSource_95 (by decide) ?_
      refine lv_goto (tgt := 100) hx hb dX5_tellSource_96 (by decide) ?_
      cases hd
      exact r_iret C dX5_tellSource_100 hR hS
  rw [if_neg c4_5] at hd
  by_cases c4_6 : x2 = 6
  · rw [if_pos c4_6] at hd
    rw [c4_6]
    refine lv_tableIn (tgt := 101) hx hb dX5_tellSource_6 (by decide) (by decide) rfl (by decide) ?_
    refine x_aload_n C dX5_tellSource_101 hL 0 rfl ?_
    obtain ⟨g19, hd⟩ := gd_ex hd
    refine r_getr (ci := 5) (k := 8) C fl_X5_25 rfl dX5_tellSource_102 hR g19 ?_
    refine x_iload_n C dX5_tellSource_105 hL 1 rfl ?_
    obtain ⟨g20, hd⟩ := gd_ex hd
    refine r_iald C dX5_tellSource_106 hR g20 ?_
    refine x_aload_n C dX5_tellSource_107 hL 0 rfl ?_
    refine r_getr (ci := 5) (k := 0) C fl_X5_50 rfl dX5_tellSource_108 hR g19 ?_
    obtain ⟨g21, hd⟩ := gd_ex hd
    refine r_geti (ci := 2) (k := 4) C fl_X5_118 rfl dX5_tellSource_111 hR g21 ?_
    refine lv_icmp_le (tgt := 126) hx hb dX5_tellSource_114 (by decide) (fun c22 => ?_) (fun c22 => ?_)
    · rw [if_pos c22] at hd
      refine lv_iconst (v := 0) hx hb dX5_tellSource_126 (by decide) ?_
      cases hd
      exact r_iret C dX5_tellSource_127 hR hS
    · rw [if_neg c22] at hd
      refine x_aload_n C dX5_tellSource_117 hL 0 rfl ?_
      refine r_getr (ci := 5) (k := 8) C fl_X5_25 rfl dX5_tellSource_118 hR g19 ?_
      refine x_iload_n C dX5_tellSource_121 hL 1 rfl ?_
      obtain ⟨g23, hd⟩ := gd_ex hd
      refine r_iald C dX5_tellSource_122 hR g23 ?_
      refine lv_goto (tgt := 127) hx hb dX5_tellSource_123 (by decide) ?_
      cases hd
      exact r_iret C dX5_tellSource_127 hR hS
  rw [if_neg c4_6] at hd
  by_cases c4_7 : x2 = 7
  · rw [if_pos c4_7] at hd
    rw [c4_7]
    refine lv_tableIn (tgt := 128) hx hb dX5_tellSource_6 (by decide) (by decide) rfl (by decide) ?_
    refine x_aload_n C dX5_tellSource_128 hL 0 rfl ?_
    obtain ⟨g24, hd⟩ := gd_ex hd
    refine r_getr (ci := 5) (k := 9) C fl_X5_28 rfl dX5_tellSource_129 hR g24 ?_
    refine x_iload_n C dX5_tellSource_132 hL 1 rfl ?_
    obtain ⟨g25, hd⟩ := gd_ex hd
    refine r_iald C dX5_tellSource_133 hR g25 ?_
    refine x_aload_n C dX5_tellSource_134 hL 0 rfl ?_
    refine r_getr (ci := 5) (k := 0) C fl_X5_50 rfl dX5_tellSource_135 hR g24 ?_
    obtain ⟨g26, hd⟩ := gd_ex hd
    refine r_geti (ci := 2) (k := 4) C fl_X5_118 rfl dX5_tellSource_138 hR g26 ?_
    refine lv_icmp_le (tgt := 153) hx hb dX5_tellSource_141 (by decide) (fun c27 => ?_) (fun c27 => ?_)
    · rw [if_pos c27] at hd
      refine lv_iconst (v := 0) hx hb dX5_tellSource_153 (by decide) ?_
      cases hd
      exact r_iret C dX5_tellSource_154 hR hS
    · rw [if_neg c27] at hd
      refine x_aload_n C dX5_tellSource_144 hL 0 rfl ?_
      refine r_getr (ci := 5) (k := 9) C fl_X5_28 rfl dX5_tellSource_145 hR g24 ?_
      refine x_iload_n C dX5_tellSource_148 hL 1 rfl ?_
      obtain ⟨g28, hd⟩ := gd_ex hd
      refine r_iald C dX5_tellSource_149 hR g28 ?_
      refine lv_goto (tgt := 154) hx hb dX5_tellSource_150 (by decide) ?_
      cases hd
      exact r_iret C dX5_tellSource_154 hR hS
  rw [if_neg c4_7] at hd
  have z_0 := i32_ne c4_0
  have z_1 := i32_ne c4_1
  have z_2 := i32_ne c4_2
  have z_3 := i32_ne c4_3
  have z_4 := i32_ne c4_4
  have z_5 := i32_ne c4_5
  have z_6 := i32_ne c4_6
  have z_7 := i32_ne c4_7
  refine lv_tableOut (tgt := 155) hx hb dX5_tellSource_6 (by simp only [show ((0 : Int32)).toInt = 0 from rfl, show ((1 : Int32)).toInt = 1 from rfl, show ((2 : Int32)).toInt = 2 from rfl, show ((3 : Int32)).toInt = 3 from rfl, show ((4 : Int32)).toInt = 4 from rfl, show ((5 : Int32)).toInt = 5 from rfl, show ((6 : Int32)).toInt = 6 from rfl, show ((7 : Int32)).toInt = 7 from rfl] at z_0 z_1 z_2 z_3 z_4 z_5 z_6 z_7; omega) (by decide) ?_
  refine lv_iconst (v := (-1)) hx hb dX5_tellSource_155 (by decide) ?_
  cases hd
  exact r_iret C dX5_tellSource_156 hR hS
end
set_option maxHeartbeats 4000000 in
set_option maxRecDepth 100000 in
theorem ct_X5_tellSource {l : Launch} {b0 : Nat} {D : va_G} {E : Nat → ClassId} {G : Hp} {a0 : Nat} {a1 : Int32} {a2 : Int32} {rr : Int32} {GG : Hp} (hd : d_X5_tellSource a0 a1 a2 G = some (rr, GG)) : CT l yX5_tellSource cX5_tellSource 3 (some .int) 4 0 0 b0 D E [rv a0, .int a1, .int a2] G (some (.int rr)) GG := by
  refine CT_of (by decide +kernel) ?_
  intro p e s m below meth c C hnm hR
  refine r_entry [.inr a0, .inl a1, .inl a2] (n := 3) (Nat.le_of_ble_eq_true rfl) (lv := [(0, .inr a0), (1, .inl a1), (2, .inl a2)]) rfl (fun ls hL => ?_)
  exact k_X5_tellSource C (lx_sub hL [0, 1, 2] rfl) hR ⟨fun _ _ => rfl, fun _ h => by cases h⟩ hd

/-! GroveWorks$Ways.put(IIII)V -/
theorem dX6_put_0 : decode cX6_put 0 = .ok (.aload_n 0, 1) := by decide +kernel
theorem dX6_put_1 : decode cX6_put 1 = .ok (.getfield 9, 3) := by decide +kernel
theorem dX6_put_4 : decode cX6_put 4 = .ok (.iload_n 1, 1) := by decide +kernel
theorem dX6_put_5 : decode cX6_put 5 = .ok (.iconst 4, 1) := by decide +kernel
theorem dX6_put_6 : decode cX6_put 6 = .ok (.imul, 1) := by decide +kernel
theorem dX6_put_7 : decode cX6_put 7 = .ok (.iload_n 2, 1) := by decide +kernel
theorem dX6_put_8 : decode cX6_put 8 = .ok (.iadd, 1) := by decide +kernel
theorem dX6_put_9 : decode cX6_put 9 = .ok (.iload_n 3, 1) := by decide +kernel
theorem dX6_put_10 : decode cX6_put 10 = .ok (.iastore, 1) := by decide +kernel
theorem dX6_put_11 : decode cX6_put 11 = .ok (.aload_n 0, 1) := by decide +kernel
theorem dX6_put_12 : decode cX6_put 12 = .ok (.getfield 15, 3) := by decide +kernel
theorem dX6_put_15 : decode cX6_put 15 = .ok (.iload_n 1, 1) := by decide +kernel
theorem dX6_put_16 : decode cX6_put 16 = .ok (.iconst 4, 1) := by decide +kernel
theorem dX6_put_17 : decode cX6_put 17 = .ok (.imul, 1) := by decide +kernel
theorem dX6_put_18 : decode cX6_put 18 = .ok (.iload_n 2, 1) := by decide +kernel
theorem dX6_put_19 : decode cX6_put 19 = .ok (.iadd, 1) := by decide +kernel
theorem dX6_put_20 : decode cX6_put 20 = .ok (.iload 4, 2) := by decide +kernel
theorem dX6_put_22 : decode cX6_put 22 = .ok (.iastore, 1) := by decide +kernel
theorem dX6_put_23 : decode cX6_put 23 = .ok (.aload_n 0, 1) := by decide +kernel
theorem dX6_put_24 : decode cX6_put 24 = .ok (.iconst 1, 1) := by decide +kernel
theorem dX6_put_25 : decode cX6_put 25 = .ok (.putfield 18, 3) := by decide +kernel
theorem dX6_put_28 : decode cX6_put 28 = .ok (.return_, 1) := by decide +kernel
def d_X6_put (x0 : Nat) (x1 : Int32) (x2 : Int32) (x3 : Int32) (x4 : Int32) (G : Hp) : Option (Hp) :=
  gd (hc G x0 = 7) <|
  gd (hc G (hr G x0 1) = 11 ∧ ix ((x1 * 4) + x2) (hl G (hr G x0 1))) <|
  bd (sI G (hr G x0 1) ((x1 * 4) + x2).toNatClampNeg x3) fun G3 =>
  gd (hc G3 x0 = 7) <|
  gd (hc G3 (hr G3 x0 2) = 11 ∧ ix ((x1 * 4) + x2) (hl G3 (hr G3 x0 2))) <|
  bd (sI G3 (hr G3 x0 2) ((x1 * 4) + x2).toNatClampNeg x4) fun G6 =>
  gd (hc G6 x0 = 7) <|
  bd (sI G6 x0 6 1) fun G8 =>
  some G8
section
variable {p : Program} {l : Launch} {e : Env} {s : State} {m : MethodId} {args : Array Value} {below : List Frame} {meth : Method} {c : Code} {b0 : Nat} {D : va_G} {E : Nat → ClassId}
set_option maxHeartbeats 4000000 in
set_option maxRecDepth 100000 in
theorem k_X6_put (C : Cx p s m args meth c RX6 cX6_put 5 none b0 D E) {GG : Hp} {x0 : Nat} {x1 : Int32} {x2 : Int32} {x3 : Int32} {x4 : Int32} {G : Hp} {ls : Array Slot} {H : Heap} {locs : List Loc} : lx ls 5 [(0, .inr x0), (1, .inl x1), (2, .inl x2), (3, .inl x3), (4, .inl x4)] → Rp b0 D E G H → SS b0 s H locs → d_X6_put x0 x1 x2 x3 x4 G = some GG → W p l e (rmd 0 (0) (0)) s m args below meth c H locs (0) (0) (MQ below (CQ b0 D E none GG) args s (0) (0) (fun q => b0 ≤ q)) (F0 m 0 ls []) := by
  intro hL hR hS hd
  unfold d_X6_put at hd
  have hx := C.1
  have hb := C.2.1
  refine x_aload_n C dX6_put_0 hL 0 rfl ?_
  obtain ⟨g1, hd⟩ := gd_ex hd
  refine r_getr (ci := 6) (k := 1) C fl_X6_9 rfl dX6_put_1 hR g1 ?_
  refine x_iload_n C dX6_put_4 hL 1 rfl ?_
  refine lv_iconst (v := 4) hx hb dX6_put_5 (by decide) ?_
  refine lv_imul hx hb dX6_put_6 ?_
  refine x_iload_n C dX6_put_7 hL 2 rfl ?_
  refine lv_iadd hx hb dX6_put_8 ?_
  refine x_iload_n C dX6_put_9 hL 3 rfl ?_
  obtain ⟨g2, hd⟩ := gd_ex hd
  obtain ⟨G3, eG3, hd⟩ := bd_ex hd
  refine r_iast C dX6_put_10 hR hS g2 (fun H locs hR hS => ?_)
  replace hR : Rp b0 D E G3 H := by rw [eG3]; exact hR
  refine x_aload_n C dX6_put_11 hL 0 rfl ?_
  obtain ⟨g4, hd⟩ := gd_ex hd
  refine r_getr (ci := 6) (k := 2) C fl_X6_15 rfl dX6_put_12 hR g4 ?_
  refine x_iload_n C dX6_put_15 hL 1 rfl ?_
  refine lv_iconst (v := 4) hx hb dX6_put_16 (by decide) ?_
  refine lv_imul hx hb dX6_put_17 ?_
  refine x_iload_n C dX6_put_18 hL 2 rfl ?_
  refine lv_iadd hx hb dX6_put_19 ?_
  refine x_iload C dX6_put_20 hL 4 rfl ?_
  obtain ⟨g5, hd⟩ := gd_ex hd
  obtain ⟨G6, eG6, hd⟩ := bd_ex hd
  refine r_iast C dX6_put_22 hR hS g5 (fun H locs hR hS => ?_)
  replace hR : Rp b0 D E G6 H := by rw [eG6]; exact hR
  refine x_aload_n C dX6_put_23 hL 0 rfl ?_
  refine lv_iconst (v := 1) hx hb dX6_put_24 (by decide) ?_
  obtain ⟨g7, hd⟩ := gd_ex hd
  obtain ⟨G8, eG8, hd⟩ := bd_ex hd
  refine r_putz (ci := 6) (k := 6) C fl_X6_18 rfl (Or.inl rfl) (by decide) dX6_put_25 hR hS g7 (fun H locs hR hS => ?_)
  replace hR : Rp b0 D E G8 H := by rw [eG8]; exact hR
  cases hd
  exact r_vret C dX6_put_28 hR hS
end
set_option maxHeartbeats 4000000 in
set_option maxRecDepth 100000 in
theorem ct_X6_put {l : Launch} {b0 : Nat} {D : va_G} {E : Nat → ClassId} {G : Hp} {a0 : Nat} {a1 : Int32} {a2 : Int32} {a3 : Int32} {a4 : Int32} {GG : Hp} (hd : d_X6_put a0 a1 a2 a3 a4 G = some GG) : CT l yX6_put cX6_put 5 none 0 0 0 b0 D E [rv a0, .int a1, .int a2, .int a3, .int a4] G none GG := by
  refine CT_of (by decide +kernel) ?_
  intro p e s m below meth c C hnm hR
  refine r_entry [.inr a0, .inl a1, .inl a2, .inl a3, .inl a4] (n := 5) (Nat.le_of_ble_eq_true rfl) (lv := [(0, .inr a0), (1, .inl a1), (2, .inl a2), (3, .inl a3), (4, .inl a4)]) rfl (fun ls hL => ?_)
  exact k_X6_put C (lx_sub hL [0, 1, 2, 3, 4] rfl) hR ⟨fun _ _ => rfl, fun _ h => by cases h⟩ hd

/-! GroveWorks$Ways.measureSteps([LGroveWorks$Wire;)V -/
theorem dX6_measureSteps_0 : decode cX6_measureSteps 0 = .ok (.iconst 0, 1) := by decide +kernel
theorem dX6_measureSteps_1 : decode cX6_measureSteps 1 = .ok (.istore_n 2, 1) := by decide +kernel
theorem dX6_measureSteps_2 : decode cX6_measureSteps 2 = .ok (.iload_n 2, 1) := by decide +kernel
theorem dX6_measureSteps_3 : decode cX6_measureSteps 3 = .ok (.aload_n 0, 1) := by decide +kernel
theorem dX6_measureSteps_4 : decode cX6_measureSteps 4 = .ok (.getfield 22, 3) := by decide +kernel
theorem dX6_measureSteps_7 : decode cX6_measureSteps 7 = .ok (.if_icmp .ge 130, 3) := by decide +kernel
theorem dX6_measureSteps_10 : decode cX6_measureSteps 10 = .ok (.iconst 0, 1) := by decide +kernel
theorem dX6_measureSteps_11 : decode cX6_measureSteps 11 = .ok (.istore_n 3, 1) := by decide +kernel
theorem dX6_measureSteps_12 : decode cX6_measureSteps 12 = .ok (.iload_n 3, 1) := by decide +kernel
theorem dX6_measureSteps_13 : decode cX6_measureSteps 13 = .ok (.iconst 4, 1) := by decide +kernel
theorem dX6_measureSteps_14 : decode cX6_measureSteps 14 = .ok (.if_icmp .ge 105, 3) := by decide +kernel
theorem dX6_measureSteps_17 : decode cX6_measureSteps 17 = .ok (.aload_n 0, 1) := by decide +kernel
theorem dX6_measureSteps_18 : decode cX6_measureSteps 18 = .ok (.getfield 9, 3) := by decide +kernel
theorem dX6_measureSteps_21 : decode cX6_measureSteps 21 = .ok (.iload_n 2, 1) := by decide +kernel
theorem dX6_measureSteps_22 : decode cX6_measureSteps 22 = .ok (.iconst 4, 1) := by decide +kernel
theorem dX6_measureSteps_23 : decode cX6_measureSteps 23 = .ok (.imul, 1) := by decide +kernel
theorem dX6_measureSteps_24 : decode cX6_measureSteps 24 = .ok (.iload_n 3, 1) := by decide +kernel
theorem dX6_measureSteps_25 : decode cX6_measureSteps 25 = .ok (.iadd, 1) := by decide +kernel
theorem dX6_measureSteps_26 : decode cX6_measureSteps 26 = .ok (.iaload, 1) := by decide +kernel
theorem dX6_measureSteps_27 : decode cX6_measureSteps 27 = .ok (.istore 4, 2) := by decide +kernel
theorem dX6_measureSteps_29 : decode cX6_measureSteps 29 = .ok (.iconst 0, 1) := by decide +kernel
theorem dX6_measureSteps_30 : decode cX6_measureSteps 30 = .ok (.istore 5, 2) := by decide +kernel
theorem dX6_measureSteps_32 : decode cX6_measureSteps 32 = .ok (.iload 5, 2) := by decide +kernel
theorem dX6_measureSteps_34 : decode cX6_measureSteps 34 = .ok (.aload_n 0, 1) := by decide +kernel
theorem dX6_measureSteps_35 : decode cX6_measureSteps 35 = .ok (.getfield 22, 3) := by decide +kernel
theorem dX6_measureSteps_38 : decode cX6_measureSteps 38 = .ok (.if_icmp .ge 75, 3) := by decide +kernel
theorem dX6_measureSteps_41 : decode cX6_measureSteps 41 = .ok (.iload 4, 2) := by decide +kernel
theorem dX6_measureSteps_43 : decode cX6_measureSteps 43 = .ok (.iconst (-1), 1) := by decide +kernel
theorem dX6_measureSteps_44 : decode cX6_measureSteps 44 = .ok (.if_icmp .eq 69, 3) := by decide +kernel
theorem dX6_measureSteps_47 : decode cX6_measureSteps 47 = .ok (.aload_n 1, 1) := by decide +kernel
theorem dX6_measureSteps_48 : decode cX6_measureSteps 48 = .ok (.iload 4, 2) := by decide +kernel
theorem dX6_measureSteps_50 : decode cX6_measureSteps 50 = .ok (.aaload, 1) := by decide +kernel
theorem dX6_measureSteps_51 : decode cX6_measureSteps 51 = .ok (.getfield 59, 3) := by decide +kernel
theorem dX6_measureSteps_54 : decode cX6_measureSteps 54 = .ok (.ifCond .eq 53, 3) := by decide +kernel
theorem dX6_measureSteps_57 : decode cX6_measureSteps 57 = .ok (.aload_n 1, 1) := by decide +kernel
theorem dX6_measureSteps_58 : decode cX6_measureSteps 58 = .ok (.iload 4, 2) := by decide +kernel
theorem dX6_measureSteps_60 : decode cX6_measureSteps 60 = .ok (.aaload, 1) := by decide +kernel
theorem dX6_measureSteps_61 : decode cX6_measureSteps 61 = .ok (.getfield 64, 3) := by decide +kernel
theorem dX6_measureSteps_64 : decode cX6_measureSteps 64 = .ok (.iload 5, 2) := by decide +kernel
theorem dX6_measureSteps_66 : decode cX6_measureSteps 66 = .ok (.iaload, 1) := by decide +kernel
theorem dX6_measureSteps_67 : decode cX6_measureSteps 67 = .ok (.iconst (-1), 1) := by decide +kernel
theorem dX6_measureSteps_68 : decode cX6_measureSteps 68 = .ok (.if_icmp .eq 39, 3) := by decide +kernel
theorem dX6_measureSteps_71 : decode cX6_measureSteps 71 = .ok (.iload_n 2, 1) := by decide +kernel
theorem dX6_measureSteps_72 : decode cX6_measureSteps 72 = .ok (.bipush 26, 2) := by decide +kernel
theorem dX6_measureSteps_74 : decode cX6_measureSteps 74 = .ok (.imul, 1) := by decide +kernel
theorem dX6_measureSteps_75 : decode cX6_measureSteps 75 = .ok (.iload 5, 2) := by decide +kernel
theorem dX6_measureSteps_77 : decode cX6_measureSteps 77 = .ok (.iadd, 1) := by decide +kernel
theorem dX6_measureSteps_78 : decode cX6_measureSteps 78 = .ok (.istore 6, 2) := by decide +kernel
theorem dX6_measureSteps_80 : decode cX6_measureSteps 80 = .ok (.aload_n 0, 1) := by decide +kernel
theorem dX6_measureSteps_81 : decode cX6_measureSteps 81 = .ok (.getfield 32, 3) := by decide +kernel
theorem dX6_measureSteps_84 : decode cX6_measureSteps 84 = .ok (.iload 6, 2) := by decide +kernel
theorem dX6_measureSteps_86 : decode cX6_measureSteps 86 = .ok (.aload_n 0, 1) := by decide +kernel
theorem dX6_measureSteps_87 : decode cX6_measureSteps 87 = .ok (.getfield 32, 3) := by decide +kernel
theorem dX6_measureSteps_90 : decode cX6_measureSteps 90 = .ok (.iload 6, 2) := by decide +kernel
theorem dX6_measureSteps_92 : decode cX6_measureSteps 92 = .ok (.iaload, 1) := by decide +kernel
theorem dX6_measureSteps_93 : decode cX6_measureSteps 93 = .ok (.aload_n 0, 1) := by decide +kernel
theorem dX6_measureSteps_94 : decode cX6_measureSteps 94 = .ok (.getfield 15, 3) := by decide +kernel
theorem dX6_measureSteps_97 : decode cX6_measureSteps 97 = .ok (.iload_n 2, 1) := by decide +kernel
theorem dX6_measureSteps_98 : decode cX6_measureSteps 98 = .ok (.iconst 4, 1) := by decide +kernel
theorem dX6_measureSteps_99 : decode cX6_measureSteps 99 = .ok (.imul, 1) := by decide +kernel
theorem dX6_measureSteps_100 : decode cX6_measureSteps 100 = .ok (.iload_n 3, 1) := by decide +kernel
theorem dX6_measureSteps_101 : decode cX6_measureSteps 101 = .ok (.iadd, 1) := by decide +kernel
theorem dX6_measureSteps_102 : decode cX6_measureSteps 102 = .ok (.iaload, 1) := by decide +kernel
theorem dX6_measureSteps_103 : decode cX6_measureSteps 103 = .ok (.invokestatic 67, 3) := by decide +kernel
theorem dX6_measureSteps_106 : decode cX6_measureSteps 106 = .ok (.iastore, 1) := by decide +kernel
theorem dX6_measureSteps_107 : decode cX6_measureSteps 107 = .ok (.iinc 5 1, 3) := by decide +kernel
theorem dX6_measureSteps_110 : decode cX6_measureSteps 110 = .ok (.goto (-78), 3) := by decide +kernel
theorem dX6_measureSteps_113 : decode cX6_measureSteps 113 = .ok (.iinc 3 1, 3) := by decide +kernel
theorem dX6_measureSteps_116 : decode cX6_measureSteps 116 = .ok (.goto (-104), 3) := by decide +kernel
theorem dX6_measureSteps_119 : decode cX6_measureSteps 119 = .ok (.aload_n 0, 1) := by decide +kernel
theorem dX6_measureSteps_120 : decode cX6_measureSteps 120 = .ok (.getfield 32, 3) := by decide +kernel
theorem dX6_measureSteps_123 : decode cX6_measureSteps 123 = .ok (.iload_n 2, 1) := by decide +kernel
theorem dX6_measureSteps_124 : decode cX6_measureSteps 124 = .ok (.bipush 26, 2) := by decide +kernel
theorem dX6_measureSteps_126 : decode cX6_measureSteps 126 = .ok (.imul, 1) := by decide +kernel
theorem dX6_measureSteps_127 : decode cX6_measureSteps 127 = .ok (.iload_n 2, 1) := by decide +kernel
theorem dX6_measureSteps_128 : decode cX6_measureSteps 128 = .ok (.iadd, 1) := by decide +kernel
theorem dX6_measureSteps_129 : decode cX6_measureSteps 129 = .ok (.iconst 0, 1) := by decide +kernel
theorem dX6_measureSteps_130 : decode cX6_measureSteps 130 = .ok (.iastore, 1) := by decide +kernel
theorem dX6_measureSteps_131 : decode cX6_measureSteps 131 = .ok (.iinc 2 1, 3) := by decide +kernel
theorem dX6_measureSteps_134 : decode cX6_measureSteps 134 = .ok (.goto (-132), 3) := by decide +kernel
theorem dX6_measureSteps_137 : decode cX6_measureSteps 137 = .ok (.return_, 1) := by decide +kernel
def d_X6_measureSteps_32 : Nat → Nat → Nat → Int32 → Int32 → Int32 → Int32 → Hp → (Nat → Nat → Int32 → Int32 → Hp → Option (Hp)) → Option (Hp)
  | 0, _, _, _, _, _, _, _, _ => none
  | n_ + 1, x0, x1, x2, x3, x4, x5, G, k12 =>
    gd (hc G x0 = 7) <|
    if (hi G x0 0) ≤ x5 then
      k12 x0 x1 x2 (x3 + 1) G
    else
      if x4 = (-1) then
        k12 x0 x1 x2 (x3 + 1) G
      else
        gd (hc G x1 = 20 ∧ ix x4 (hl G x1)) <|
        gd (hc G (hr G x1 x4.toNatClampNeg) = 8) <|
        if (hi G (hr G x1 x4.toNatClampNeg) 2) = 0 then
          d_X6_measureSteps_32 n_ x0 x1 x2 x3 x4 (x5 + 1) G k12
        else
          gd (hc G x1 = 20 ∧ ix x4 (hl G x1)) <|
          gd (hc G (hr G (hr G x1 x4.toNatClampNeg) 1) = 11 ∧ ix x5 (hl G (hr G (hr G x1 x4.toNatClampNeg) 1))) <|
          if (hi G (hr G (hr G x1 x4.toNatClampNeg) 1) x5.toNatClampNeg) = (-1) then
            d_X6_measureSteps_32 n_ x0 x1 x2 x3 x4 (x5 + 1) G k12
          else
            gd (hc G (hr G x0 3) = 11 ∧ ix ((x2 * 26) + x5) (hl G (hr G x0 3))) <|
            gd (hc G (hr G x0 2) = 11 ∧ ix ((x2 * 4) + x3) (hl G (hr G x0 2))) <|
            gd (hc G (hr G x0 3) = 11 ∧ ix ((x2 * 26) + x5) (hl G (hr G x0 3))) <|
            bd (sI G (hr G x0 3) ((x2 * 26) + x5).toNatClampNeg (imin (hi G (hr G x0 3) ((x2 * 26) + x5).toNatClampNeg) (hi G (hr G x0 2) ((x2 * 4) + x3).toNatClampNeg))) fun G13 =>
            d_X6_measureSteps_32 n_ x0 x1 x2 x3 x4 (x5 + 1) G13 k12
def d_X6_measureSteps_12 : Nat → Nat → Nat → Int32 → Int32 → Hp → (Nat → Nat → Int32 → Hp → Option (Hp)) → Option (Hp)
  | 0, _, _, _, _, _, _ => none
  | n_ + 1, x0, x1, x2, x3, G, k2 =>
    if 4 ≤ x3 then
      gd (hc G x0 = 7) <|
      gd (hc G (hr G x0 3) = 11 ∧ ix ((x2 * 26) + x2) (hl G (hr G x0 3))) <|
      bd (sI G (hr G x0 3) ((x2 * 26) + x2).toNatClampNeg 0) fun G4 =>
      k2 x0 x1 (x2 + 1) G4
    else
      gd (hc G x0 = 7) <|
      gd (hc G (hr G x0 1) = 11 ∧ ix ((x2 * 4) + x3) (hl G (hr G x0 1))) <|
      bd ((hi G (hr G x0 1) ((x2 * 4) + x3).toNatClampNeg)) fun v7 =>
      d_X6_measureSteps_32 FU x0 x1 x2 x3 v7 0 G (fun y0 y1 y2 y3 Gy => d_X6_measureSteps_12 n_ y0 y1 y2 y3 Gy k2)
def d_X6_measureSteps_2 : Nat → Nat → Nat → Int32 → Hp → Option (Hp)
  | 0, _, _, _, _ => none
  | n_ + 1, x0, x1, x2, G =>
    gd (hc G x0 = 7) <|
    if (hi G x0 0) ≤ x2 then
      some G
    else
      d_X6_measureSteps_12 FU x0 x1 x2 0 G (fun y0 y1 y2 Gy => d_X6_measureSteps_2 n_ y0 y1 y2 Gy)
def d_X6_measureSteps (x0 : Nat) (x1 : Nat) (G : Hp) : Option (Hp) :=
  d_X6_measureSteps_2 FU x0 x1 0 G
section
variable {p : Program} {l : Launch} {e : Env} {s : State} {m : MethodId} {args : Array Value} {below : List Frame} {meth : Method} {c : Code} {b0 : Nat} {D : va_G} {E : Nat → ClassId}
set_option maxHeartbeats 4000000 in
set_option maxRecDepth 100000 in
theorem k_X6_measureSteps_32 (C : Cx p s m args meth c RX6 cX6_measureSteps 7 none b0 D E) {GG : Hp} {k12 : Nat → Nat → Int32 → Int32 → Hp → Option (Hp)} (hk12 : ∀ (y0 : Nat) (y1 : Nat) (y2 : Int32) (y3 : Int32) (Gy : Hp) (H1 : Heap) (locs1 : List Loc) (ls1 : Array Slot), lx ls1 7 [(0, .inr y0), (1, .inr y1), (2, .inl y2), (3, .inl y3)] → Rp b0 D E Gy H1 → SS b0 s H1 locs1 → k12 y0 y1 y2 y3 Gy = some GG → W p l e (rmd 1 (0) (0)) s m args below meth c H1 locs1 (0) (0) (MQ below (CQ b0 D E none GG) args s (0) (0) (fun q => b0 ≤ q)) (F0 m 12 ls1 [])) : ∀ (n_ : Nat) {x0 : Nat} {x1 : Nat} {x2 : Int32} {x3 : Int32} {x4 : Int32} {x5 : Int32} {G : Hp} {ls : Array Slot} {H : Heap} {locs : List Loc}, lx ls 7 [(0, .inr x0), (1, .inr x1), (2, .inl x2), (3, .inl x3), (4, .inl x4), (5, .inl x5)] → Rp b0 D E G H → SS b0 s H locs → d_X6_measureSteps_32 n_ x0 x1 x2 x3 x4 x5 G k12 = some GG → W p l e (rmd 1 (0) (0)) s m args below meth c H locs (0) (0) (MQ below (CQ b0 D E none GG) args s (0) (0) (fun q => b0 ≤ q)) (F0 m 32 ls []) := by
  intro n_
  induction n_ with
  | zero =>
    intro x0 x1 x2 x3 x4 x5 G ls H locs hL hR hS hd
    cases (show (none : Option _) = some _ from hd)
  | succ n_ ih =>
    intro x0 x1 x2 x3 x4 x5 G ls H locs hL hR hS hd
    rw [d_X6_measureSteps_32.eq_2] at hd
    have hx := C.1
    have hb := C.2.1
    refine x_iload C dX6_measureSteps_32 hL 5 rfl ?_
    refine x_aload_n C dX6_measureSteps_34 hL 0 rfl ?_
    obtain ⟨g1, hd⟩ := gd_ex hd
    refine r_geti (ci := 6) (k := 0) C fl_X6_22 rfl dX6_measureSteps_35 hR g1 ?_
    refine lv_icmp_ge (tgt := 113) hx hb dX6_measureSteps_38 (by decide) (fun c2 => ?_) (fun c2 => ?_)
    · rw [if_pos c2] at hd
      refine x_iinc (lv' := [(3, .inl (x3 + 1)), (0, .inr x0), (1, .inr x1), (2, .inl x2), (4, .inl x4), (5, .inl x5)]) C dX6_measureSteps_113 hL 3 rfl rfl (by decide) rfl (fun ls hL => ?_)
      refine lv_goto (tgt := 12) hx hb dX6_measureSteps_116 (by decide) ?_
      exact hk12 _ _ _ _ _ _ _ _ (lx_sub hL [1, 2, 3, 0] rfl) hR hS hd
    · rw [if_neg c2] at hd
      refine x_iload C dX6_measureSteps_41 hL 4 rfl ?_
      refine lv_iconst (v := (-1)) hx hb dX6_measureSteps_43 (by decide) ?_
      refine lv_icmp_eq (tgt := 113) hx hb dX6_measureSteps_44 (by decide) (fun c3 => ?_) (fun c3 => ?_)
      · rw [if_pos c3] at hd
        refine x_iinc (lv' := [(3, .inl (x3 + 1)), (0, .inr x0), (1, .inr x1), (2, .inl x2), (4, .inl x4), (5, .inl x5)]) C dX6_measureSteps_113 hL 3 rfl rfl (by decide) rfl (fun ls hL => ?_)
        refine lv_goto (tgt := 12) hx hb dX6_measureSteps_116 (by decide) ?_
        exact hk12 _ _ _ _ _ _ _ _ (lx_sub hL [1, 2, 3, 0] rfl) hR hS hd
      · rw [if_neg c3] at hd
        refine x_aload_n C dX6_measureSteps_47 hL 1 rfl ?_
        refine x_iload C dX6_measureSteps_48 hL 4 rfl ?_
        obtain ⟨g4, hd⟩ := gd_ex hd
        refine r_aald (ci := 7) C (by decide) dX6_measureSteps_50 hR g4 ?_
        obtain ⟨g5, hd⟩ := gd_ex hd
        refine r_geti (ci := 7) (k := 2) C fl_X6_59 rfl dX6_measureSteps_51 hR g5 ?_
        refine lv_if_eq (tgt := 107) hx hb dX6_measureSteps_54 (by decide) (fun c6 => ?_) (fun c6 => ?_)
        · rw [if_pos c6] at hd
          refine x_iinc (lv' := [(5, .inl (x5 + 1)), (0, .inr x0), (1, .inr x1), (2, .inl x2), (3, .inl x3), (4, .inl x4)]) C dX6_measureSteps_107 hL 5 rfl rfl (by decide) rfl (fun ls hL => ?_)
          refine lv_goto (tgt := 32) hx hb dX6_measureSteps_110 (by decide) ?_
          exact ih (lx_sub hL [1, 2, 3, 4, 5, 0] rfl) hR hS hd
        · rw [if_neg c6] at hd
          refine x_aload_n C dX6_measureSteps_57 hL 1 rfl ?_
          refine x_iload C dX6_measureSteps_58 hL 4 rfl ?_
          obtain ⟨g7, hd⟩ := gd_ex hd
          refine r_aald (ci := 7) C (by decide) dX6_measureSteps_60 hR g7 ?_
          refine r_getr (ci := 7) (k := 1) C fl_X6_64 rfl dX6_measureSteps_61 hR g5 ?_
          refine x_iload C dX6_measureSteps_64 hL 5 rfl ?_
          obtain ⟨g8, hd⟩ := gd_ex hd
          refine r_iald C dX6_measureSteps_66 hR g8 ?_
          refine lv_iconst (v := (-1)) hx hb dX6_measureSteps_67 (by decide) ?_
          refine lv_icmp_eq (tgt := 107) hx hb dX6_measureSteps_68 (by decide) (fun c9 => ?_) (fun c9 => ?_)
          · rw [if_pos c9] at hd
            refine x_iinc (lv' := [(5, .inl (x5 + 1)), (0, .inr x0), (1, .inr x1), (2, .inl x2), (3, .inl x3), (4, .inl x4)]) C dX6_measureSteps_107 hL 5 rfl rfl (by decide) rfl (fun ls hL => ?_)
            refine lv_goto (tgt := 32) hx hb dX6_measureSteps_110 (by decide) ?_
            exact ih (lx_sub hL [1, 2, 3, 4, 5, 0] rfl) hR hS hd
          · rw [if_neg c9] at hd
            refine x_iload_n C dX6_measureSteps_71 hL 2 rfl ?_
            refine lv_bipush (v := 26) hx hb dX6_measureSteps_72 (by decide) ?_
            refine lv_imul hx hb dX6_measureSteps_74 ?_
            refine x_iload C dX6_measureSteps_75 hL 5 rfl ?_
            refine lv_iadd hx hb dX6_measureSteps_77 ?_
            refine x_istore (lv' := [(6, .inl ((x2 * 26) + x5)), (0, .inr x0), (1, .inr x1), (2, .inl x2), (3, .inl x3), (4, .inl x4), (5, .inl x5)]) C dX6_measureSteps_78 hL (by decide) rfl (fun ls hL => ?_)
            refine x_aload_n C dX6_measureSteps_80 hL 1 rfl ?_
            refine r_getr (ci := 6) (k := 3) C fl_X6_32 rfl dX6_measureSteps_81 hR g1 ?_
            refine x_iload C dX6_measureSteps_84 hL 0 rfl ?_
            refine x_aload_n C dX6_measureSteps_86 hL 1 rfl ?_
            refine r_getr (ci := 6) (k := 3) C fl_X6_32 rfl dX6_measureSteps_87 hR g1 ?_
            refine x_iload C dX6_measureSteps_90 hL 0 rfl ?_
            obtain ⟨g10, hd⟩ := gd_ex hd
            refine r_iald C dX6_measureSteps_92 hR g10 ?_
            refine x_aload_n C dX6_measureSteps_93 hL 1 rfl ?_
            refine r_getr (ci := 6) (k := 2) C fl_X6_15 rfl dX6_measureSteps_94 hR g1 ?_
            refine x_iload_n C dX6_measureSteps_97 hL 3 rfl ?_
            refine lv_iconst (v := 4) hx hb dX6_measureSteps_98 (by decide) ?_
            refine lv_imul hx hb dX6_measureSteps_99 ?_
            refine x_iload_n C dX6_measureSteps_100 hL 4 rfl ?_
            refine lv_iadd hx hb dX6_measureSteps_101 ?_
            obtain ⟨g11, hd⟩ := gd_ex hd
            refine r_iald C dX6_measureSteps_102 hR g11 ?_
            refine r_mmin C ml_X6_67 dX6_measureSteps_103 (lx_size hL) ⟨Nat.le_of_ble_eq_true rfl, Nat.le_of_ble_eq_true rfl⟩ ⟨Nat.le_refl _, Nat.le_refl _⟩ (cat_le [.inl ((x2 * 26) + x5), .inr (hr G x0 3)] (Nat.le_of_ble_eq_true rfl)) ?_
            obtain ⟨g12, hd⟩ := gd_ex hd
            obtain ⟨G13, eG13, hd⟩ := bd_ex hd
            refine r_iast C dX6_measureSteps_106 hR hS g12 (fun H locs hR hS => ?_)
            replace hR : Rp b0 D E G13 H := by rw [eG13]; exact hR
            refine x_iinc (lv' := [(5, .inl (x5 + 1)), (6, .inl ((x2 * 26) + x5)), (0, .inr x0), (1, .inr x1), (2, .inl x2), (3, .inl x3), (4, .inl x4)]) C dX6_measureSteps_107 hL 6 rfl rfl (by decide) rfl (fun ls hL => ?_)
            refine lv_goto (tgt := 32) hx hb dX6_measureSteps_110 (by decide) ?_
            exact ih (lx_sub hL [2, 3, 4, 5, 6, 0] rfl) hR hS hd
set_option maxHeartbeats 4000000 in
set_option maxRecDepth 100000 in
theorem k_X6_measureSteps_12 (C : Cx p s m args meth c RX6 cX6_measureSteps 7 none b0 D E) {GG : Hp} {k2 : Nat → Nat → Int32 → Hp → Option (Hp)} (hk2 : ∀ (y0 : Nat) (y1 : Nat) (y2 : Int32) (Gy : Hp) (H1 : Heap) (locs1 : List Loc) (ls1 : Array Slot), lx ls1 7 [(0, .inr y0), (1, .inr y1), (2, .inl y2)] → Rp b0 D E Gy H1 → SS b0 s H1 locs1 → k2 y0 y1 y2 Gy = some GG → W p l e (rmd 1 (0) (0)) s m args below meth c H1 locs1 (0) (0) (MQ below (CQ b0 D E none GG) args s (0) (0) (fun q => b0 ≤ q)) (F0 m 2 ls1 [])) : ∀ (n_ : Nat) {x0 : Nat} {x1 : Nat} {x2 : Int32} {x3 : Int32} {G : Hp} {ls : Array Slot} {H : Heap} {locs : List Loc}, lx ls 7 [(0, .inr x0), (1, .inr x1), (2, .inl x2), (3, .inl x3)] → Rp b0 D E G H → SS b0 s H locs → d_X6_measureSteps_12 n_ x0 x1 x2 x3 G k2 = some GG → W p l e (rmd 1 (0) (0)) s m args below meth c H locs (0) (0) (MQ below (CQ b0 D E none GG) args s (0) (0) (fun q => b0 ≤ q)) (F0 m 12 ls []) := by
  intro n_
  induction n_ with
  | zero =>
    intro x0 x1 x2 x3 G ls H locs hL hR hS hd
    cases (show (none : Option _) = some _ from hd)
  | succ n_ ih =>
    intro x0 x1 x2 x3 G ls H locs hL hR hS hd
    rw [d_X6_measureSteps_12.eq_2] at hd
    have hx := C.1
    have hb := C.2.1
    refine x_iload_n C dX6_measureSteps_12 hL 3 rfl ?_
    refine lv_iconst (v := 4) hx hb dX6_measureSteps_13 (by decide) ?_
    refine lv_icmp_ge (tgt := 119) hx hb dX6_measureSteps_14 (by decide) (fun c1 => ?_) (fun c1 => ?_)
    · rw [if_pos c1] at hd
      refine x_aload_n C dX6_measureSteps_119 hL 0 rfl ?_
      obtain ⟨g2, hd⟩ := gd_ex hd
      refine r_getr (ci := 6) (k := 3) C fl_X6_32 rfl dX6_measureSteps_120 hR g2 ?_
      refine x_iload_n C dX6_measureSteps_123 hL 2 rfl ?_
      refine lv_bipush (v := 26) hx hb dX6_measureSteps_124 (by decide) ?_
      refine lv_imul hx hb dX6_measureSteps_126 ?_
      refine x_iload_n C dX6_measureSteps_127 hL 2 rfl ?_
      refine lv_iadd hx hb dX6_measureSteps_128 ?_
      refine lv_iconst (v := 0) hx hb dX6_measureSteps_129 (by decide) ?_
      obtain ⟨g3, hd⟩ := gd_ex hd
      obtain ⟨G4, eG4, hd⟩ := bd_ex hd
      refine r_iast C dX6_measureSteps_130 hR hS g3 (fun H locs hR hS => ?_)
      replace hR : Rp b0 D E G4 H := by rw [eG4]; exact hR
      refine x_iinc (lv' := [(2, .inl (x2 + 1)), (0, .inr x0), (1, .inr x1), (3, .inl x3)]) C dX6_measureSteps_131 hL 2 rfl rfl (by decide) rfl (fun ls hL => ?_)
      refine lv_goto (tgt := 2) hx hb dX6_measureSteps_134 (by decide) ?_
      exact hk2 _ _ _ _ _ _ _ (lx_sub hL [1, 2, 0] rfl) hR hS hd
    · rw [if_neg c1] at hd
      refine x_aload_n C dX6_measureSteps_17 hL 0 rfl ?_
      obtain ⟨g5, hd⟩ := gd_ex hd
      refine r_getr (ci := 6) (k := 1) C fl_X6_9 rfl dX6_measureSteps_18 hR g5 ?_
      refine x_iload_n C dX6_measureSteps_21 hL 2 rfl ?_
      refine lv_iconst (v := 4) hx hb dX6_measureSteps_22 (by decide) ?_
      refine lv_imul hx hb dX6_measureSteps_23 ?_
      refine x_iload_n C dX6_measureSteps_24 hL 3 rfl ?_
      refine lv_iadd hx hb dX6_measureSteps_25 ?_
      obtain ⟨g6, hd⟩ := gd_ex hd
      refine r_iald C dX6_measureSteps_26 hR g6 ?_
      obtain ⟨v7, ev7, hd⟩ := bd_ex hd
      rw [← ev7]
      refine x_istore (lv' := [(4, .inl v7), (0, .inr x0), (1, .inr x1), (2, .inl x2), (3, .inl x3)]) C dX6_measureSteps_27 hL (by decide) rfl (fun ls hL => ?_)
      refine lv_iconst (v := 0) hx hb dX6_measureSteps_29 (by decide) ?_
      refine x_istore (lv' := [(5, .inl 0), (4, .inl v7), (0, .inr x0), (1, .inr x1), (2, .inl x2), (3, .inl x3)]) C dX6_measureSteps_30 hL (by decide) rfl (fun ls hL => ?_)
      exact k_X6_measureSteps_32 C (fun y0 y1 y2 y3 Gy H1 locs1 ls1 hL1 hR1 hS1 hd1 => ih hL1 hR1 hS1 hd1) FU (lx_sub hL [2, 3, 4, 5, 1, 0] rfl) hR hS hd
set_option maxHeartbeats 4000000 in
set_option maxRecDepth 100000 in
theorem k_X6_measureSteps_2 (C : Cx p s m args meth c RX6 cX6_measureSteps 7 none b0 D E) {GG : Hp} : ∀ (n_ : Nat) {x0 : Nat} {x1 : Nat} {x2 : Int32} {G : Hp} {ls : Array Slot} {H : Heap} {locs : List Loc}, lx ls 7 [(0, .inr x0), (1, .inr x1), (2, .inl x2)] → Rp b0 D E G H → SS b0 s H locs → d_X6_measureSteps_2 n_ x0 x1 x2 G = some GG → W p l e (rmd 1 (0) (0)) s m args below meth c H locs (0) (0) (MQ below (CQ b0 D E none GG) args s (0) (0) (fun q => b0 ≤ q)) (F0 m 2 ls []) := by
  intro n_
  induction n_ with
  | zero =>
    intro x0 x1 x2 G ls H locs hL hR hS hd
    cases (show (none : Option _) = some _ from hd)
  | succ n_ ih =>
    intro x0 x1 x2 G ls H locs hL hR hS hd
    rw [d_X6_measureSteps_2.eq_2] at hd
    have hx := C.1
    have hb := C.2.1
    refine x_iload_n C dX6_measureSteps_2 hL 2 rfl ?_
    refine x_aload_n C dX6_measureSteps_3 hL 0 rfl ?_
    obtain ⟨g1, hd⟩ := gd_ex hd
    refine r_geti (ci := 6) (k := 0) C fl_X6_22 rfl dX6_measureSteps_4 hR g1 ?_
    refine lv_icmp_ge (tgt := 137) hx hb dX6_measureSteps_7 (by decide) (fun c2 => ?_) (fun c2 => ?_)
    · rw [if_pos c2] at hd
      cases hd
      exact r_vret C dX6_measureSteps_137 hR hS
    · rw [if_neg c2] at hd
      refine lv_iconst (v := 0) hx hb dX6_measureSteps_10 (by decide) ?_
      refine x_istore_n (lv' := [(3, .inl 0), (0, .inr x0), (1, .inr x1), (2, .inl x2)]) C dX6_measureSteps_11 hL (by decide) rfl (fun ls hL => ?_)
      exact k_X6_measureSteps_12 C (fun y0 y1 y2 Gy H1 locs1 ls1 hL1 hR1 hS1 hd1 => ih hL1 hR1 hS1 hd1) FU (lx_sub hL [1, 2, 3, 0] rfl) hR hS hd
set_option maxHeartbeats 4000000 in
set_option maxRecDepth 100000 in
theorem k_X6_measureSteps (C : Cx p s m args meth c RX6 cX6_measureSteps 7 none b0 D E) {GG : Hp} {x0 : Nat} {x1 : Nat} {G : Hp} {ls : Array Slot} {H : Heap} {locs : List Loc} : lx ls 7 [(0, .inr x0), (1, .inr x1)] → Rp b0 D E G H → SS b0 s H locs → d_X6_measureSteps x0 x1 G = some GG → W p l e (rmd 1 (0) (0)) s m args below meth c H locs (0) (0) (MQ below (CQ b0 D E none GG) args s (0) (0) (fun q => b0 ≤ q)) (F0 m 0 ls []) := by
  intro hL hR hS hd
  unfold d_X6_measureSteps at hd
  have hx := C.1
  have hb := C.2.1
  refine lv_iconst (v := 0) hx hb dX6_measureSteps_0 (by decide) ?_
  refine x_istore_n (lv' := [(2, .inl 0), (0, .inr x0), (1, .inr x1)]) C dX6_measureSteps_1 hL (by decide) rfl (fun ls hL => ?_)
  exact k_X6_measureSteps_2 C FU (lx_sub hL [1, 2, 0] rfl) hR hS hd
end
set_option maxHeartbeats 4000000 in
set_option maxRecDepth 100000 in
theorem ct_X6_measureSteps {l : Launch} {b0 : Nat} {D : va_G} {E : Nat → ClassId} {G : Hp} {a0 : Nat} {a1 : Nat} {GG : Hp} (hd : d_X6_measureSteps a0 a1 G = some GG) : CT l yX6_measureSteps cX6_measureSteps 7 none 1 0 0 b0 D E [rv a0, rv a1] G none GG := by
  refine CT_of (by decide +kernel) ?_
  intro p e s m below meth c C hnm hR
  refine r_entry [.inr a0, .inr a1] (n := 7) (Nat.le_of_ble_eq_true rfl) (lv := [(0, .inr a0), (1, .inr a1)]) rfl (fun ls hL => ?_)
  exact k_X6_measureSteps C (lx_sub hL [0, 1] rfl) hR ⟨fun _ _ => rfl, fun _ h => by cases h⟩ hd

/-! GroveWorks$Ways.measureRouters()V -/
theorem dX6_measureRouters_0 : decode cX6_measureRouters 0 = .ok (.iconst 0, 1) := by decide +kernel
theorem dX6_measureRouters_1 : decode cX6_measureRouters 1 = .ok (.istore_n 1, 1) := by decide +kernel
theorem dX6_measureRouters_2 : decode cX6_measureRouters 2 = .ok (.iload_n 1, 1) := by decide +kernel
theorem dX6_measureRouters_3 : decode cX6_measureRouters 3 = .ok (.aload_n 0, 1) := by decide +kernel
theorem dX6_measureRouters_4 : decode cX6_measureRouters 4 = .ok (.getfield 22, 3) := by decide +kernel
theorem dX6_measureRouters_7 : decode cX6_measureRouters 7 = .ok (.if_icmp .ge 106, 3) := by decide +kernel
theorem dX6_measureRouters_10 : decode cX6_measureRouters 10 = .ok (.iconst 0, 1) := by decide +kernel
theorem dX6_measureRouters_11 : decode cX6_measureRouters 11 = .ok (.istore_n 2, 1) := by decide +kernel
theorem dX6_measureRouters_12 : decode cX6_measureRouters 12 = .ok (.iload_n 2, 1) := by decide +kernel
theorem dX6_measureRouters_13 : decode cX6_measureRouters 13 = .ok (.aload_n 0, 1) := by decide +kernel
theorem dX6_measureRouters_14 : decode cX6_measureRouters 14 = .ok (.getfield 22, 3) := by decide +kernel
theorem dX6_measureRouters_17 : decode cX6_measureRouters 17 = .ok (.if_icmp .ge 90, 3) := by decide +kernel
theorem dX6_measureRouters_20 : decode cX6_measureRouters 20 = .ok (.aload_n 0, 1) := by decide +kernel
theorem dX6_measureRouters_21 : decode cX6_measureRouters 21 = .ok (.getfield 32, 3) := by decide +kernel
theorem dX6_measureRouters_24 : decode cX6_measureRouters 24 = .ok (.iload_n 2, 1) := by decide +kernel
theorem dX6_measureRouters_25 : decode cX6_measureRouters 25 = .ok (.bipush 26, 2) := by decide +kernel
theorem dX6_measureRouters_27 : decode cX6_measureRouters 27 = .ok (.imul, 1) := by decide +kernel
theorem dX6_measureRouters_28 : decode cX6_measureRouters 28 = .ok (.iload_n 1, 1) := by decide +kernel
theorem dX6_measureRouters_29 : decode cX6_measureRouters 29 = .ok (.iadd, 1) := by decide +kernel
theorem dX6_measureRouters_30 : decode cX6_measureRouters 30 = .ok (.iaload, 1) := by decide +kernel
theorem dX6_measureRouters_31 : decode cX6_measureRouters 31 = .ok (.istore_n 3, 1) := by decide +kernel
theorem dX6_measureRouters_32 : decode cX6_measureRouters 32 = .ok (.iconst 0, 1) := by decide +kernel
theorem dX6_measureRouters_33 : decode cX6_measureRouters 33 = .ok (.istore 4, 2) := by decide +kernel
theorem dX6_measureRouters_35 : decode cX6_measureRouters 35 = .ok (.iload 4, 2) := by decide +kernel
theorem dX6_measureRouters_37 : decode cX6_measureRouters 37 = .ok (.aload_n 0, 1) := by decide +kernel
theorem dX6_measureRouters_38 : decode cX6_measureRouters 38 = .ok (.getfield 22, 3) := by decide +kernel
theorem dX6_measureRouters_41 : decode cX6_measureRouters 41 = .ok (.if_icmp .ge 60, 3) := by decide +kernel
theorem dX6_measureRouters_44 : decode cX6_measureRouters 44 = .ok (.iload_n 3, 1) := by decide +kernel
theorem dX6_measureRouters_45 : decode cX6_measureRouters 45 = .ok (.sipush 9999, 3) := by decide +kernel
theorem dX6_measureRouters_48 : decode cX6_measureRouters 48 = .ok (.if_icmp .ge 53, 3) := by decide +kernel
theorem dX6_measureRouters_51 : decode cX6_measureRouters 51 = .ok (.iload_n 3, 1) := by decide +kernel
theorem dX6_measureRouters_52 : decode cX6_measureRouters 52 = .ok (.aload_n 0, 1) := by decide +kernel
theorem dX6_measureRouters_53 : decode cX6_measureRouters 53 = .ok (.getfield 32, 3) := by decide +kernel
theorem dX6_measureRouters_56 : decode cX6_measureRouters 56 = .ok (.iload_n 1, 1) := by decide +kernel
theorem dX6_measureRouters_57 : decode cX6_measureRouters 57 = .ok (.bipush 26, 2) := by decide +kernel
theorem dX6_measureRouters_59 : decode cX6_measureRouters 59 = .ok (.imul, 1) := by decide +kernel
theorem dX6_measureRouters_60 : decode cX6_measureRouters 60 = .ok (.iload 4, 2) := by decide +kernel
theorem dX6_measureRouters_62 : decode cX6_measureRouters 62 = .ok (.iadd, 1) := by decide +kernel
theorem dX6_measureRouters_63 : decode cX6_measureRouters 63 = .ok (.iaload, 1) := by decide +kernel
theorem dX6_measureRouters_64 : decode cX6_measureRouters 64 = .ok (.iadd, 1) := by decide +kernel
theorem dX6_measureRouters_65 : decode cX6_measureRouters 65 = .ok (.istore 5, 2) := by decide +kernel
theorem dX6_measureRouters_67 : decode cX6_measureRouters 67 = .ok (.iload_n 2, 1) := by decide +kernel
theorem dX6_measureRouters_68 : decode cX6_measureRouters 68 = .ok (.bipush 26, 2) := by decide +kernel
theorem dX6_measureRouters_70 : decode cX6_measureRouters 70 = .ok (.imul, 1) := by decide +kernel
theorem dX6_measureRouters_71 : decode cX6_measureRouters 71 = .ok (.iload 4, 2) := by decide +kernel
theorem dX6_measureRouters_73 : decode cX6_measureRouters 73 = .ok (.iadd, 1) := by decide +kernel
theorem dX6_measureRouters_74 : decode cX6_measureRouters 74 = .ok (.istore 6, 2) := by decide +kernel
theorem dX6_measureRouters_76 : decode cX6_measureRouters 76 = .ok (.aload_n 0, 1) := by decide +kernel
theorem dX6_measureRouters_77 : decode cX6_measureRouters 77 = .ok (.getfield 32, 3) := by decide +kernel
theorem dX6_measureRouters_80 : decode cX6_measureRouters 80 = .ok (.iload 6, 2) := by decide +kernel
theorem dX6_measureRouters_82 : decode cX6_measureRouters 82 = .ok (.aload_n 0, 1) := by decide +kernel
theorem dX6_measureRouters_83 : decode cX6_measureRouters 83 = .ok (.getfield 32, 3) := by decide +kernel
theorem dX6_measureRouters_86 : decode cX6_measureRouters 86 = .ok (.iload 6, 2) := by decide +kernel
theorem dX6_measureRouters_88 : decode cX6_measureRouters 88 = .ok (.iaload, 1) := by decide +kernel
theorem dX6_measureRouters_89 : decode cX6_measureRouters 89 = .ok (.iload 5, 2) := by decide +kernel
theorem dX6_measureRouters_91 : decode cX6_measureRouters 91 = .ok (.invokestatic 67, 3) := by decide +kernel
theorem dX6_measureRouters_94 : decode cX6_measureRouters 94 = .ok (.iastore, 1) := by decide +kernel
theorem dX6_measureRouters_95 : decode cX6_measureRouters 95 = .ok (.iinc 4 1, 3) := by decide +kernel
theorem dX6_measureRouters_98 : decode cX6_measureRouters 98 = .ok (.goto (-63), 3) := by decide +kernel
theorem dX6_measureRouters_101 : decode cX6_measureRouters 101 = .ok (.iinc 2 1, 3) := by decide +kernel
theorem dX6_measureRouters_104 : decode cX6_measureRouters 104 = .ok (.goto (-92), 3) := by decide +kernel
theorem dX6_measureRouters_107 : decode cX6_measureRouters 107 = .ok (.iinc 1 1, 3) := by decide +kernel
theorem dX6_measureRouters_110 : decode cX6_measureRouters 110 = .ok (.goto (-108), 3) := by decide +kernel
theorem dX6_measureRouters_113 : decode cX6_measureRouters 113 = .ok (.return_, 1) := by decide +kernel
def d_X6_measureRouters_35 : Nat → Nat → Int32 → Int32 → Int32 → Int32 → Hp → (Nat → Int32 → Int32 → Hp → Option (Hp)) → Option (Hp)
  | 0, _, _, _, _, _, _, _ => none
  | n_ + 1, x0, x1, x2, x3, x4, G, k12 =>
    gd (hc G x0 = 7) <|
    if (hi G x0 0) ≤ x4 then
      k12 x0 x1 (x2 + 1) G
    else
      if 9999 ≤ x3 then
        k12 x0 x1 (x2 + 1) G
      else
        gd (hc G (hr G x0 3) = 11 ∧ ix ((x1 * 26) + x4) (hl G (hr G x0 3))) <|
        bd ((x3 + (hi G (hr G x0 3) ((x1 * 26) + x4).toNatClampNeg))) fun v5 =>
        gd (hc G (hr G x0 3) = 11 ∧ ix ((x2 * 26) + x4) (hl G (hr G x0 3))) <|
        gd (hc G (hr G x0 3) = 11 ∧ ix ((x2 * 26) + x4) (hl G (hr G x0 3))) <|
        bd (sI G (hr G x0 3) ((x2 * 26) + x4).toNatClampNeg (imin (hi G (hr G x0 3) ((x2 * 26) + x4).toNatClampNeg) v5)) fun G8 =>
        d_X6_measureRouters_35 n_ x0 x1 x2 x3 (x4 + 1) G8 k12
def d_X6_measureRouters_12 : Nat → Nat → Int32 → Int32 → Hp → (Nat → Int32 → Hp → Option (Hp)) → Option (Hp)
  | 0, _, _, _, _, _ => none
  | n_ + 1, x0, x1, x2, G, k2 =>
    gd (hc G x0 = 7) <|
    if (hi G x0 0) ≤ x2 then
      k2 x0 (x1 + 1) G
    else
      gd (hc G (hr G x0 3) = 11 ∧ ix ((x2 * 26) + x1) (hl G (hr G x0 3))) <|
      bd ((hi G (hr G x0 3) ((x2 * 26) + x1).toNatClampNeg)) fun v4 =>
      d_X6_measureRouters_35 FU x0 x1 x2 v4 0 G (fun y0 y1 y2 Gy => d_X6_measureRouters_12 n_ y0 y1 y2 Gy k2)
def d_X6_measureRouters_2 : Nat → Nat → Int32 → Hp → Option (Hp)
  | 0, _, _, _ => none
  | n_ + 1, x0, x1, G =>
    gd (hc G x0 = 7) <|
    if (hi G x0 0) ≤ x1 then
      some G
    else
      d_X6_measureRouters_12 FU x0 x1 0 G (fun y0 y1 Gy => d_X6_measureRouters_2 n_ y0 y1 Gy)
def d_X6_measureRouters (x0 : Nat) (G : Hp) : Option (Hp) :=
  d_X6_measureRouters_2 FU x0 0 G
section
variable {p : Program} {l : Launch} {e : Env} {s : State} {m : MethodId} {args : Array Value} {below : List Frame} {meth : Method} {c : Code} {b0 : Nat} {D : va_G} {E : Nat → ClassId}
set_option maxHeartbeats 4000000 in
set_option maxRecDepth 100000 in
theorem k_X6_measureRouters_35 (C : Cx p s m args meth c RX6 cX6_measureRouters 7 none b0 D E) {GG : Hp} {k12 : Nat → Int32 → Int32 → Hp → Option (Hp)} (hk12 : ∀ (y0 : Nat) (y1 : Int32) (y2 : Int32) (Gy : Hp) (H1 : Heap) (locs1 : List Loc) (ls1 : Array Slot), lx ls1 7 [(0, .inr y0), (1, .inl y1), (2, .inl y2)] → Rp b0 D E Gy H1 → SS b0 s H1 locs1 → k12 y0 y1 y2 Gy = some GG → W p l e (rmd 1 (0) (0)) s m args below meth c H1 locs1 (0) (0) (MQ below (CQ b0 D E none GG) args s (0) (0) (fun q => b0 ≤ q)) (F0 m 12 ls1 [])) : ∀ (n_ : Nat) {x0 : Nat} {x1 : Int32} {x2 : Int32} {x3 : Int32} {x4 : Int32} {G : Hp} {ls : Array Slot} {H : Heap} {locs : List Loc}, lx ls 7 [(0, .inr x0), (1, .inl x1), (2, .inl x2), (3, .inl x3), (4, .inl x4)] → Rp b0 D E G H → SS b0 s H locs → d_X6_measureRouters_35 n_ x0 x1 x2 x3 x4 G k12 = some GG → W p l e (rmd 1 (0) (0)) s m args below meth c H locs (0) (0) (MQ below (CQ b0 D E none GG) args s (0) (0) (fun q => b0 ≤ q)) (F0 m 35 ls []) := by
  intro n_
  induction n_ with
  | zero =>
    intro x0 x1 x2 x3 x4 G ls H locs hL hR hS hd
    cases (show (none : Option _) = some _ from hd)
  | succ n_ ih =>
    intro x0 x1 x2 x3 x4 G ls H locs hL hR hS hd
    rw [d_X6_measureRouters_35.eq_2] at hd
    have hx := C.1
    have hb := C.2.1
    refine x_iload C dX6_measureRouters_35 hL 4 rfl ?_
    refine x_aload_n C dX6_measureRouters_37 hL 0 rfl ?_
    obtain ⟨g1, hd⟩ := gd_ex hd
    refine r_geti (ci := 6) (k := 0) C fl_X6_22 rfl dX6_measureRouters_38 hR g1 ?_
    refine lv_icmp_ge (tgt := 101) hx hb dX6_measureRouters_41 (by decide) (fun c2 => ?_) (fun c2 => ?_)
    · rw [if_pos c2] at hd
      refine x_iinc (lv' := [(2, .inl (x2 + 1)), (0, .inr x0), (1, .inl x1), (3, .inl x3), (4, .inl x4)]) C dX6_measureRouters_101 hL 2 rfl rfl (by decide) rfl (fun ls hL => ?_)
      refine lv_goto (tgt := 12) hx hb dX6_measureRouters_104 (by decide) ?_
      exact hk12 _ _ _ _ _ _ _ (lx_sub hL [1, 2, 0] rfl) hR hS hd
    · rw [if_neg c2] at hd
      refine x_iload_n C dX6_measureRouters_44 hL 3 rfl ?_
      refine lv_sipush (v := 9999) hx hb dX6_measureRouters_45 (by decide) ?_
      refine lv_icmp_ge (tgt := 101) hx hb dX6_measureRouters_48 (by decide) (fun c3 => ?_) (fun c3 => ?_)
      · rw [if_pos c3] at hd
        refine x_iinc (lv' := [(2, .inl (x2 + 1)), (0, .inr x0), (1, .inl x1), (3, .inl x3), (4, .inl x4)]) C dX6_measureRouters_101 hL 2 rfl rfl (by decide) rfl (fun ls hL => ?_)
        refine lv_goto (tgt := 12) hx hb dX6_measureRouters_104 (by decide) ?_
        exact hk12 _ _ _ _ _ _ _ (lx_sub hL [1, 2, 0] rfl) hR hS hd
      · rw [if_neg c3] at hd
        refine x_iload_n C dX6_measureRouters_51 hL 3 rfl ?_
        refine x_aload_n C dX6_measureRouters_52 hL 0 rfl ?_
        refine r_getr (ci := 6) (k := 3) C fl_X6_32 rfl dX6_measureRouters_53 hR g1 ?_
        refine x_iload_n C dX6_measureRouters_56 hL 1 rfl ?_
        refine lv_bipush (v := 26) hx hb dX6_measureRouters_57 (by decide) ?_
        refine lv_imul hx hb dX6_measureRouters_59 ?_
        refine x_iload C dX6_measureRouters_60 hL 4 rfl ?_
        refine lv_iadd hx hb dX6_measureRouters_62 ?_
        obtain ⟨g4, hd⟩ := gd_ex hd
        refine r_iald C dX6_measureRouters_63 hR g4 ?_
        refine lv_iadd hx hb dX6_measureRouters_64 ?_
        obtain ⟨v5, ev5, hd⟩ := bd_ex hd
        rw [← ev5]
        refine x_istore (lv' := [(5, .inl v5), (0, .inr x0), (1, .inl x1), (2, .inl x2), (3, .inl x3), (4, .inl x4)]) C dX6_measureRouters_65 hL (by decide) rfl (fun ls hL => ?_)
        refine x_iload_n C dX6_measureRouters_67 hL 3 rfl ?_
        refine lv_bipush (v := 26) hx hb dX6_measureRouters_68 (by decide) ?_
        refine lv_imul hx hb dX6_measureRouters_70 ?_
        refine x_iload C dX6_measureRouters_71 hL 5 rfl ?_
        refine lv_iadd hx hb dX6_measureRouters_73 ?_
        refine x_istore (lv' := [(6, .inl ((x2 * 26) + x4)), (5, .inl v5), (0, .inr x0), (1, .inl x1), (2, .inl x2), (3, .inl x3), (4, .inl x4)]) C dX6_measureRouters_74 hL (by decide) rfl (fun ls hL => ?_)
        refine x_aload_n C dX6_measureRouters_76 hL 2 rfl ?_
        refine r_getr (ci := 6) (k := 3) C fl_X6_32 rfl dX6_measureRouters_77 hR g1 ?_
        refine x_iload C dX6_measureRouters_80 hL 0 rfl ?_
        refine x_aload_n C dX6_measureRouters_82 hL 2 rfl ?_
        refine r_getr (ci := 6) (k := 3) C fl_X6_32 rfl dX6_measureRouters_83 hR g1 ?_
        refine x_iload C dX6_measureRouters_86 hL 0 rfl ?_
        obtain ⟨g6, hd⟩ := gd_ex hd
        refine r_iald C dX6_measureRouters_88 hR g6 ?_
        refine x_iload C dX6_measureRouters_89 hL 1 rfl ?_
        refine r_mmin C ml_X6_67 dX6_measureRouters_91 (lx_size hL) ⟨Nat.le_of_ble_eq_true rfl, Nat.le_of_ble_eq_true rfl⟩ ⟨Nat.le_refl _, Nat.le_refl _⟩ (cat_le [.inl ((x2 * 26) + x4), .inr (hr G x0 3)] (Nat.le_of_ble_eq_true rfl)) ?_
        obtain ⟨g7, hd⟩ := gd_ex hd
        obtain ⟨G8, eG8, hd⟩ := bd_ex hd
        refine r_iast C dX6_measureRouters_94 hR hS g7 (fun H locs hR hS => ?_)
        replace hR : Rp b0 D E G8 H := by rw [eG8]; exact hR
        refine x_iinc (lv' := [(4, .inl (x4 + 1)), (6, .inl ((x2 * 26) + x4)), (5, .inl v5), (0, .inr x0), (1, .inl x1), (2, .inl x2), (3, .inl x3)]) C dX6_measureRouters_95 hL 6 rfl rfl (by decide) rfl (fun ls hL => ?_)
        refine lv_goto (tgt := 35) hx hb dX6_measureRouters_98 (by decide) ?_
        exact ih (lx_sub hL [3, 4, 5, 6, 0] rfl) hR hS hd
set_option maxHeartbeats 4000000 in
set_option maxRecDepth 100000 in
theorem k_X6_measureRouters_12 (C : Cx p s m args meth c RX6 cX6_measureRouters 7 none b0 D E) {GG : Hp} {k2 : Nat → Int32 → Hp → Option (Hp)} (hk2 : ∀ (y0 : Nat) (y1 : Int32) (Gy : Hp) (H1 : Heap) (locs1 : List Loc) (ls1 : Array Slot), lx ls1 7 [(0, .inr y0), (1, .inl y1)] → Rp b0 D E Gy H1 → SS b0 s H1 locs1 → k2 y0 y1 Gy = some GG → W p l e (rmd 1 (0) (0)) s m args below meth c H1 locs1 (0) (0) (MQ below (CQ b0 D E none GG) args s (0) (0) (fun q => b0 ≤ q)) (F0 m 2 ls1 [])) : ∀ (n_ : Nat) {x0 : Nat} {x1 : Int32} {x2 : Int32} {G : Hp} {ls : Array Slot} {H : Heap} {locs : List Loc}, lx ls 7 [(0, .inr x0), (1, .inl x1), (2, .inl x2)] → Rp b0 D E G H → SS b0 s H locs → d_X6_measureRouters_12 n_ x0 x1 x2 G k2 = some GG → W p l e (rmd 1 (0) (0)) s m args below meth c H locs (0) (0) (MQ below (CQ b0 D E none GG) args s (0) (0) (fun q => b0 ≤ q)) (F0 m 12 ls []) := by
  intro n_
  induction n_ with
  | zero =>
    intro x0 x1 x2 G ls H locs hL hR hS hd
    cases (show (none : Option _) = some _ from hd)
  | succ n_ ih =>
    intro x0 x1 x2 G ls H locs hL hR hS hd
    rw [d_X6_measureRouters_12.eq_2] at hd
    have hx := C.1
    have hb := C.2.1
    refine x_iload_n C dX6_measureRouters_12 hL 2 rfl ?_
    refine x_aload_n C dX6_measureRouters_13 hL 0 rfl ?_
    obtain ⟨g1, hd⟩ := gd_ex hd
    refine r_geti (ci := 6) (k := 0) C fl_X6_22 rfl dX6_measureRouters_14 hR g1 ?_
    refine lv_icmp_ge (tgt := 107) hx hb dX6_measureRouters_17 (by decide) (fun c2 => ?_) (fun c2 => ?_)
    · rw [if_pos c2] at hd
      refine x_iinc (lv' := [(1, .inl (x1 + 1)), (0, .inr x0), (2, .inl x2)]) C dX6_measureRouters_107 hL 1 rfl rfl (by decide) rfl (fun ls hL => ?_)
      refine lv_goto (tgt := 2) hx hb dX6_measureRouters_110 (by decide) ?_
      exact hk2 _ _ _ _ _ _ (lx_sub hL [1, 0] rfl) hR hS hd
    · rw [if_neg c2] at hd
      refine x_aload_n C dX6_measureRouters_20 hL 0 rfl ?_
      refine r_getr (ci := 6) (k := 3) C fl_X6_32 rfl dX6_measureRouters_21 hR g1 ?_
      refine x_iload_n C dX6_measureRouters_24 hL 2 rfl ?_
      refine lv_bipush (v := 26) hx hb dX6_measureRouters_25 (by decide) ?_
      refine lv_imul hx hb dX6_measureRouters_27 ?_
      refine x_iload_n C dX6_measureRouters_28 hL 1 rfl ?_
      refine lv_iadd hx hb dX6_measureRouters_29 ?_
      obtain ⟨g3, hd⟩ := gd_ex hd
      refine r_iald C dX6_measureRouters_30 hR g3 ?_
      obtain ⟨v4, ev4, hd⟩ := bd_ex hd
      rw [← ev4]
      refine x_istore_n (lv' := [(3, .inl v4), (0, .inr x0), (1, .inl x1), (2, .inl x2)]) C dX6_measureRouters_31 hL (by decide) rfl (fun ls hL => ?_)
      refine lv_iconst (v := 0) hx hb dX6_measureRouters_32 (by decide) ?_
      refine x_istore (lv' := [(4, .inl 0), (3, .inl v4), (0, .inr x0), (1, .inl x1), (2, .inl x2)]) C dX6_measureRouters_33 hL (by decide) rfl (fun ls hL => ?_)
      exact k_X6_measureRouters_35 C (fun y0 y1 y2 Gy H1 locs1 ls1 hL1 hR1 hS1 hd1 => ih hL1 hR1 hS1 hd1) FU (lx_sub hL [2, 3, 4, 1, 0] rfl) hR hS hd
set_option maxHeartbeats 4000000 in
set_option maxRecDepth 100000 in
theorem k_X6_measureRouters_2 (C : Cx p s m args meth c RX6 cX6_measureRouters 7 none b0 D E) {GG : Hp} : ∀ (n_ : Nat) {x0 : Nat} {x1 : Int32} {G : Hp} {ls : Array Slot} {H : Heap} {locs : List Loc}, lx ls 7 [(0, .inr x0), (1, .inl x1)] → Rp b0 D E G H → SS b0 s H locs → d_X6_measureRouters_2 n_ x0 x1 G = some GG → W p l e (rmd 1 (0) (0)) s m args below meth c H locs (0) (0) (MQ below (CQ b0 D E none GG) args s (0) (0) (fun q => b0 ≤ q)) (F0 m 2 ls []) := by
  intro n_
  induction n_ with
  | zero =>
    intro x0 x1 G ls H locs hL hR hS hd
    cases (show (none : Option _) = some _ from hd)
  | succ n_ ih =>
    intro x0 x1 G ls H locs hL hR hS hd
    rw [d_X6_measureRouters_2.eq_2] at hd
    have hx := C.1
    have hb := C.2.1
    refine x_iload_n C dX6_measureRouters_2 hL 1 rfl ?_
    refine x_aload_n C dX6_measureRouters_3 hL 0 rfl ?_
    obtain ⟨g1, hd⟩ := gd_ex hd
    refine r_geti (ci := 6) (k := 0) C fl_X6_22 rfl dX6_measureRouters_4 hR g1 ?_
    refine lv_icmp_ge (tgt := 113) hx hb dX6_measureRouters_7 (by decide) (fun c2 => ?_) (fun c2 => ?_)
    · rw [if_pos c2] at hd
      cases hd
      exact r_vret C dX6_measureRouters_113 hR hS
    · rw [if_neg c2] at hd
      refine lv_iconst (v := 0) hx hb dX6_measureRouters_10 (by decide) ?_
      refine x_istore_n (lv' := [(2, .inl 0), (0, .inr x0), (1, .inl x1)]) C dX6_measureRouters_11 hL (by decide) rfl (fun ls hL => ?_)
      exact k_X6_measureRouters_12 C (fun y0 y1 Gy H1 locs1 ls1 hL1 hR1 hS1 hd1 => ih hL1 hR1 hS1 hd1) FU (lx_sub hL [1, 2, 0] rfl) hR hS hd
set_option maxHeartbeats 4000000 in
set_option maxRecDepth 100000 in
theorem k_X6_measureRouters (C : Cx p s m args meth c RX6 cX6_measureRouters 7 none b0 D E) {GG : Hp} {x0 : Nat} {G : Hp} {ls : Array Slot} {H : Heap} {locs : List Loc} : lx ls 7 [(0, .inr x0)] → Rp b0 D E G H → SS b0 s H locs → d_X6_measureRouters x0 G = some GG → W p l e (rmd 1 (0) (0)) s m args below meth c H locs (0) (0) (MQ below (CQ b0 D E none GG) args s (0) (0) (fun q => b0 ≤ q)) (F0 m 0 ls []) := by
  intro hL hR hS hd
  unfold d_X6_measureRouters at hd
  have hx := C.1
  have hb := C.2.1
  refine lv_iconst (v := 0) hx hb dX6_measureRouters_0 (by decide) ?_
  refine x_istore_n (lv' := [(1, .inl 0), (0, .inr x0)]) C dX6_measureRouters_1 hL (by decide) rfl (fun ls hL => ?_)
  exact k_X6_measureRouters_2 C FU (lx_sub hL [1, 0] rfl) hR hS hd
end
set_option maxHeartbeats 4000000 in
set_option maxRecDepth 100000 in
theorem ct_X6_measureRouters {l : Launch} {b0 : Nat} {D : va_G} {E : Nat → ClassId} {G : Hp} {a0 : Nat} {GG : Hp} (hd : d_X6_measureRouters a0 G = some GG) : CT l yX6_measureRouters cX6_measureRouters 7 none 1 0 0 b0 D E [rv a0] G none GG := by
  refine CT_of (by decide +kernel) ?_
  intro p e s m below meth c C hnm hR
  refine r_entry [.inr a0] (n := 7) (Nat.le_of_ble_eq_true rfl) (lv := [(0, .inr a0)]) rfl (fun ls hL => ?_)
  exact k_X6_measureRouters C (lx_sub hL [0] rfl) hR ⟨fun _ _ => rfl, fun _ h => by cases h⟩ hd

/-! GroveWorks$Ways.measureWires([LGroveWorks$Wire;)V -/
theorem dX6_measureWires_0 : decode cX6_measureWires 0 = .ok (.iconst 0, 1) := by decide +kernel
theorem dX6_measureWires_1 : decode cX6_measureWires 1 = .ok (.istore_n 2, 1) := by decide +kernel
theorem dX6_measureWires_2 : decode cX6_measureWires 2 = .ok (.iload_n 2, 1) := by decide +kernel
theorem dX6_measureWires_3 : decode cX6_measureWires 3 = .ok (.bipush 16, 2) := by decide +kernel
theorem dX6_measureWires_5 : decode cX6_measureWires 5 = .ok (.if_icmp .ge 108, 3) := by decide +kernel
theorem dX6_measureWires_8 : decode cX6_measureWires 8 = .ok (.iconst 0, 1) := by decide +kernel
theorem dX6_measureWires_9 : decode cX6_measureWires 9 = .ok (.istore_n 3, 1) := by decide +kernel
theorem dX6_measureWires_10 : decode cX6_measureWires 10 = .ok (.iload_n 3, 1) := by decide +kernel
theorem dX6_measureWires_11 : decode cX6_measureWires 11 = .ok (.aload_n 0, 1) := by decide +kernel
theorem dX6_measureWires_12 : decode cX6_measureWires 12 = .ok (.getfield 22, 3) := by decide +kernel
theorem dX6_measureWires_15 : decode cX6_measureWires 15 = .ok (.if_icmp .ge 92, 3) := by decide +kernel
theorem dX6_measureWires_18 : decode cX6_measureWires 18 = .ok (.aload_n 1, 1) := by decide +kernel
theorem dX6_measureWires_19 : decode cX6_measureWires 19 = .ok (.iload_n 2, 1) := by decide +kernel
theorem dX6_measureWires_20 : decode cX6_measureWires 20 = .ok (.aaload, 1) := by decide +kernel
theorem dX6_measureWires_21 : decode cX6_measureWires 21 = .ok (.getfield 59, 3) := by decide +kernel
theorem dX6_measureWires_24 : decode cX6_measureWires 24 = .ok (.ifCond .eq 83, 3) := by decide +kernel
theorem dX6_measureWires_27 : decode cX6_measureWires 27 = .ok (.aload_n 1, 1) := by decide +kernel
theorem dX6_measureWires_28 : decode cX6_measureWires 28 = .ok (.iload_n 2, 1) := by decide +kernel
theorem dX6_measureWires_29 : decode cX6_measureWires 29 = .ok (.aaload, 1) := by decide +kernel
theorem dX6_measureWires_30 : decode cX6_measureWires 30 = .ok (.getfield 64, 3) := by decide +kernel
theorem dX6_measureWires_33 : decode cX6_measureWires 33 = .ok (.iload_n 3, 1) := by decide +kernel
theorem dX6_measureWires_34 : decode cX6_measureWires 34 = .ok (.iaload, 1) := by decide +kernel
theorem dX6_measureWires_35 : decode cX6_measureWires 35 = .ok (.iconst (-1), 1) := by decide +kernel
theorem dX6_measureWires_36 : decode cX6_measureWires 36 = .ok (.if_icmp .ne 6, 3) := by decide +kernel
theorem dX6_measureWires_39 : decode cX6_measureWires 39 = .ok (.goto 62, 3) := by decide +kernel
theorem dX6_measureWires_42 : decode cX6_measureWires 42 = .ok (.iconst 0, 1) := by decide +kernel
theorem dX6_measureWires_43 : decode cX6_measureWires 43 = .ok (.istore 4, 2) := by decide +kernel
theorem dX6_measureWires_45 : decode cX6_measureWires 45 = .ok (.iload 4, 2) := by decide +kernel
theorem dX6_measureWires_47 : decode cX6_measureWires 47 = .ok (.aload_n 0, 1) := by decide +kernel
theorem dX6_measureWires_48 : decode cX6_measureWires 48 = .ok (.getfield 22, 3) := by decide +kernel
theorem dX6_measureWires_51 : decode cX6_measureWires 51 = .ok (.if_icmp .ge 50, 3) := by decide +kernel
theorem dX6_measureWires_54 : decode cX6_measureWires 54 = .ok (.iload 4, 2) := by decide +kernel
theorem dX6_measureWires_56 : decode cX6_measureWires 56 = .ok (.bipush 26, 2) := by decide +kernel
theorem dX6_measureWires_58 : decode cX6_measureWires 58 = .ok (.imul, 1) := by decide +kernel
theorem dX6_measureWires_59 : decode cX6_measureWires 59 = .ok (.bipush 10, 2) := by decide +kernel
theorem dX6_measureWires_61 : decode cX6_measureWires 61 = .ok (.iadd, 1) := by decide +kernel
theorem dX6_measureWires_62 : decode cX6_measureWires 62 = .ok (.iload_n 2, 1) := by decide +kernel
theorem dX6_measureWires_63 : decode cX6_measureWires 63 = .ok (.iadd, 1) := by decide +kernel
theorem dX6_measureWires_64 : decode cX6_measureWires 64 = .ok (.istore 5, 2) := by decide +kernel
theorem dX6_measureWires_66 : decode cX6_measureWires 66 = .ok (.aload_n 0, 1) := by decide +kernel
theorem dX6_measureWires_67 : decode cX6_measureWires 67 = .ok (.getfield 32, 3) := by decide +kernel
theorem dX6_measureWires_70 : decode cX6_measureWires 70 = .ok (.iload 5, 2) := by decide +kernel
theorem dX6_measureWires_72 : decode cX6_measureWires 72 = .ok (.aload_n 0, 1) := by decide +kernel
theorem dX6_measureWires_73 : decode cX6_measureWires 73 = .ok (.getfield 32, 3) := by decide +kernel
theorem dX6_measureWires_76 : decode cX6_measureWires 76 = .ok (.iload 5, 2) := by decide +kernel
theorem dX6_measureWires_78 : decode cX6_measureWires 78 = .ok (.iaload, 1) := by decide +kernel
theorem dX6_measureWires_79 : decode cX6_measureWires 79 = .ok (.aload_n 0, 1) := by decide +kernel
theorem dX6_measureWires_80 : decode cX6_measureWires 80 = .ok (.getfield 32, 3) := by decide +kernel
theorem dX6_measureWires_83 : decode cX6_measureWires 83 = .ok (.iload 4, 2) := by decide +kernel
theorem dX6_measureWires_85 : decode cX6_measureWires 85 = .ok (.bipush 26, 2) := by decide +kernel
theorem dX6_measureWires_87 : decode cX6_measureWires 87 = .ok (.imul, 1) := by decide +kernel
theorem dX6_measureWires_88 : decode cX6_measureWires 88 = .ok (.iload_n 3, 1) := by decide +kernel
theorem dX6_measureWires_89 : decode cX6_measureWires 89 = .ok (.iadd, 1) := by decide +kernel
theorem dX6_measureWires_90 : decode cX6_measureWires 90 = .ok (.iaload, 1) := by decide +kernel
theorem dX6_measureWires_91 : decode cX6_measureWires 91 = .ok (.invokestatic 67, 3) := by decide +kernel
theorem dX6_measureWires_94 : decode cX6_measureWires 94 = .ok (.iastore, 1) := by decide +kernel
theorem dX6_measureWires_95 : decode cX6_measureWires 95 = .ok (.iinc 4 1, 3) := by decide +kernel
theorem dX6_measureWires_98 : decode cX6_measureWires 98 = .ok (.goto (-53), 3) := by decide +kernel
theorem dX6_measureWires_101 : decode cX6_measureWires 101 = .ok (.iinc 3 1, 3) := by decide +kernel
theorem dX6_measureWires_104 : decode cX6_measureWires 104 = .ok (.goto (-94), 3) := by decide +kernel
theorem dX6_measureWires_107 : decode cX6_measureWires 107 = .ok (.iinc 2 1, 3) := by decide +kernel
theorem dX6_measureWires_110 : decode cX6_measureWires 110 = .ok (.goto (-108), 3) := by decide +kernel
theorem dX6_measureWires_113 : decode cX6_measureWires 113 = .ok (.return_, 1) := by decide +kernel
def d_X6_measureWires_45 : Nat → Nat → Nat → Int32 → Int32 → Int32 → Hp → (Nat → Nat → Int32 → Int32 → Hp → Option (Hp)) → Option (Hp)
  | 0, _, _, _, _, _, _, _ => none
  | n_ + 1, x0, x1, x2, x3, x4, G, k10 =>
    gd (hc G x0 = 7) <|
    if (hi G x0 0) ≤ x4 then
      k10 x0 x1 x2 (x3 + 1) G
    else
      bd ((((x4 * 26) + 10) + x2)) fun v3 =>
      gd (hc G (hr G x0 3) = 11 ∧ ix v3 (hl G (hr G x0 3))) <|
      gd (hc G (hr G x0 3) = 11 ∧ ix ((x4 * 26) + x3) (hl G (hr G x0 3))) <|
      gd (hc G (hr G x0 3) = 11 ∧ ix v3 (hl G (hr G x0 3))) <|
      bd (sI G (hr G x0 3) v3.toNatClampNeg (imin (hi G (hr G x0 3) v3.toNatClampNeg) (hi G (hr G x0 3) ((x4 * 26) + x3).toNatClampNeg))) fun G7 =>
      d_X6_measureWires_45 n_ x0 x1 x2 x3 (x4 + 1) G7 k10
def d_X6_measureWires_10 : Nat → Nat → Nat → Int32 → Int32 → Hp → (Nat → Nat → Int32 → Hp → Option (Hp)) → Option (Hp)
  | 0, _, _, _, _, _, _ => none
  | n_ + 1, x0, x1, x2, x3, G, k2 =>
    gd (hc G x0 = 7) <|
    if (hi G x0 0) ≤ x3 then
      k2 x0 x1 (x2 + 1) G
    else
      gd (hc G x1 = 20 ∧ ix x2 (hl G x1)) <|
      gd (hc G (hr G x1 x2.toNatClampNeg) = 8) <|
      if (hi G (hr G x1 x2.toNatClampNeg) 2) = 0 then
        k2 x0 x1 (x2 + 1) G
      else
        gd (hc G x1 = 20 ∧ ix x2 (hl G x1)) <|
        gd (hc G (hr G (hr G x1 x2.toNatClampNeg) 1) = 11 ∧ ix x3 (hl G (hr G (hr G x1 x2.toNatClampNeg) 1))) <|
        if (hi G (hr G (hr G x1 x2.toNatClampNeg) 1) x3.toNatClampNeg) = (-1) then
          d_X6_measureWires_10 n_ x0 x1 x2 (x3 + 1) G k2
        else
          d_X6_measureWires_45 FU x0 x1 x2 x3 0 G (fun y0 y1 y2 y3 Gy => d_X6_measureWires_10 n_ y0 y1 y2 y3 Gy k2)
def d_X6_measureWires_2 : Nat → Nat → Nat → Int32 → Hp → Option (Hp)
  | 0, _, _, _, _ => none
  | n_ + 1, x0, x1, x2, G =>
    if 16 ≤ x2 then
      some G
    else
      d_X6_measureWires_10 FU x0 x1 x2 0 G (fun y0 y1 y2 Gy => d_X6_measureWires_2 n_ y0 y1 y2 Gy)
def d_X6_measureWires (x0 : Nat) (x1 : Nat) (G : Hp) : Option (Hp) :=
  d_X6_measureWires_2 FU x0 x1 0 G
section
variable {p : Program} {l : Launch} {e : Env} {s : State} {m : MethodId} {args : Array Value} {below : List Frame} {meth : Method} {c : Code} {b0 : Nat} {D : va_G} {E : Nat → ClassId}
set_option maxHeartbeats 4000000 in
set_option maxRecDepth 100000 in
theorem k_X6_measureWires_45 (C : Cx p s m args meth c RX6 cX6_measureWires 6 none b0 D E) {GG : Hp} {k10 : Nat → Nat → Int32 → Int32 → Hp → Option (Hp)} (hk10 : ∀ (y0 : Nat) (y1 : Nat) (y2 : Int32) (y3 : Int32) (Gy : Hp) (H1 : Heap) (locs1 : List Loc) (ls1 : Array Slot), lx ls1 6 [(0, .inr y0), (1, .inr y1), (2, .inl y2), (3, .inl y3)] → Rp b0 D E Gy H1 → SS b0 s H1 locs1 → k10 y0 y1 y2 y3 Gy = some GG → W p l e (rmd 1 (0) (0)) s m args below meth c H1 locs1 (0) (0) (MQ below (CQ b0 D E none GG) args s (0) (0) (fun q => b0 ≤ q)) (F0 m 10 ls1 [])) : ∀ (n_ : Nat) {x0 : Nat} {x1 : Nat} {x2 : Int32} {x3 : Int32} {x4 : Int32} {G : Hp} {ls : Array Slot} {H : Heap} {locs : List Loc}, lx ls 6 [(0, .inr x0), (1, .inr x1), (2, .inl x2), (3, .inl x3), (4, .inl x4)] → Rp b0 D E G H → SS b0 s H locs → d_X6_measureWires_45 n_ x0 x1 x2 x3 x4 G k10 = some GG → W p l e (rmd 1 (0) (0)) s m args below meth c H locs (0) (0) (MQ below (CQ b0 D E none GG) args s (0) (0) (fun q => b0 ≤ q)) (F0 m 45 ls []) := by
  intro n_
  induction n_ with
  | zero =>
    intro x0 x1 x2 x3 x4 G ls H locs hL hR hS hd
    cases (show (none : Option _) = some _ from hd)
  | succ n_ ih =>
    intro x0 x1 x2 x3 x4 G ls H locs hL hR hS hd
    rw [d_X6_measureWires_45.eq_2] at hd
    have hx := C.1
    have hb := C.2.1
    refine x_iload C dX6_measureWires_45 hL 4 rfl ?_
    refine x_aload_n C dX6_measureWires_47 hL 0 rfl ?_
    obtain ⟨g1, hd⟩ := gd_ex hd
    refine r_geti (ci := 6) (k := 0) C fl_X6_22 rfl dX6_measureWires_48 hR g1 ?_
    refine lv_icmp_ge (tgt := 101) hx hb dX6_measureWires_51 (by decide) (fun c2 => ?_) (fun c2 => ?_)
    · rw [if_pos c2] at hd
      refine x_iinc (lv' := [(3, .inl (x3 + 1)), (0, .inr x0), (1, .inr x1), (2, .inl x2), (4, .inl x4)]) C dX6_measureWires_101 hL 3 rfl rfl (by decide) rfl (fun ls hL => ?_)
      refine lv_goto (tgt := 10) hx hb dX6_measureWires_104 (by decide) ?_
      exact hk10 _ _ _ _ _ _ _ _ (lx_sub hL [1, 2, 3, 0] rfl) hR hS hd
    · rw [if_neg c2] at hd
      refine x_iload C dX6_measureWires_54 hL 4 rfl ?_
      refine lv_bipush (v := 26) hx hb dX6_measureWires_56 (by decide) ?_
      refine lv_imul hx hb dX6_measureWires_58 ?_
      refine lv_bipush (v := 10) hx hb dX6_measureWires_59 (by decide) ?_
      refine lv_iadd hx hb dX6_measureWires_61 ?_
      refine x_iload_n C dX6_measureWires_62 hL 2 rfl ?_
      refine lv_iadd hx hb dX6_measureWires_63 ?_
      obtain ⟨v3, ev3, hd⟩ := bd_ex hd
      rw [← ev3]
      refine x_istore (lv' := [(5, .inl v3), (0, .inr x0), (1, .inr x1), (2, .inl x2), (3, .inl x3), (4, .inl x4)]) C dX6_measureWires_64 hL (by decide) rfl (fun ls hL => ?_)
      refine x_aload_n C dX6_measureWires_66 hL 1 rfl ?_
      refine r_getr (ci := 6) (k := 3) C fl_X6_32 rfl dX6_measureWires_67 hR g1 ?_
      refine x_iload C dX6_measureWires_70 hL 0 rfl ?_
      refine x_aload_n C dX6_measureWires_72 hL 1 rfl ?_
      refine r_getr (ci := 6) (k := 3) C fl_X6_32 rfl dX6_measureWires_73 hR g1 ?_
      refine x_iload C dX6_measureWires_76 hL 0 rfl ?_
      obtain ⟨g4, hd⟩ := gd_ex hd
      refine r_iald C dX6_measureWires_78 hR g4 ?_
      refine x_aload_n C dX6_measureWires_79 hL 1 rfl ?_
      refine r_getr (ci := 6) (k := 3) C fl_X6_32 rfl dX6_measureWires_80 hR g1 ?_
      refine x_iload C dX6_measureWires_83 hL 5 rfl ?_
      refine lv_bipush (v := 26) hx hb dX6_measureWires_85 (by decide) ?_
      refine lv_imul hx hb dX6_measureWires_87 ?_
      refine x_iload_n C dX6_measureWires_88 hL 4 rfl ?_
      refine lv_iadd hx hb dX6_measureWires_89 ?_
      obtain ⟨g5, hd⟩ := gd_ex hd
      refine r_iald C dX6_measureWires_90 hR g5 ?_
      refine r_mmin C ml_X6_67 dX6_measureWires_91 (lx_size hL) ⟨Nat.le_of_ble_eq_true rfl, Nat.le_of_ble_eq_true rfl⟩ ⟨Nat.le_refl _, Nat.le_refl _⟩ (cat_le [.inl v3, .inr (hr G x0 3)] (Nat.le_of_ble_eq_true rfl)) ?_
      obtain ⟨g6, hd⟩ := gd_ex hd
      obtain ⟨G7, eG7, hd⟩ := bd_ex hd
      refine r_iast C dX6_measureWires_94 hR hS g6 (fun H locs hR hS => ?_)
      replace hR : Rp b0 D E G7 H := by rw [eG7]; exact hR
      refine x_iinc (lv' := [(4, .inl (x4 + 1)), (5, .inl v3), (0, .inr x0), (1, .inr x1), (2, .inl x2), (3, .inl x3)]) C dX6_measureWires_95 hL 5 rfl rfl (by decide) rfl (fun ls hL => ?_)
      refine lv_goto (tgt := 45) hx hb dX6_measureWires_98 (by decide) ?_
      exact ih (lx_sub hL [2, 3, 4, 5, 0] rfl) hR hS hd
set_option maxHeartbeats 4000000 in
set_option maxRecDepth 100000 in
theorem k_X6_measureWires_10 (C : Cx p s m args meth c RX6 cX6_measureWires 6 none b0 D E) {GG : Hp} {k2 : Nat → Nat → Int32 → Hp → Option (Hp)} (hk2 : ∀ (y0 : Nat) (y1 : Nat) (y2 : Int32) (Gy : Hp) (H1 : Heap) (locs1 : List Loc) (ls1 : Array Slot), lx ls1 6 [(0, .inr y0), (1, .inr y1), (2, .inl y2)] → Rp b0 D E Gy H1 → SS b0 s H1 locs1 → k2 y0 y1 y2 Gy = some GG → W p l e (rmd 1 (0) (0)) s m args below meth c H1 locs1 (0) (0) (MQ below (CQ b0 D E none GG) args s (0) (0) (fun q => b0 ≤ q)) (F0 m 2 ls1 [])) : ∀ (n_ : Nat) {x0 : Nat} {x1 : Nat} {x2 : Int32} {x3 : Int32} {G : Hp} {ls : Array Slot} {H : Heap} {locs : List Loc}, lx ls 6 [(0, .inr x0), (1, .inr x1), (2, .inl x2), (3, .inl x3)] → Rp b0 D E G H → SS b0 s H locs → d_X6_measureWires_10 n_ x0 x1 x2 x3 G k2 = some GG → W p l e (rmd 1 (0) (0)) s m args below meth c H locs (0) (0) (MQ below (CQ b0 D E none GG) args s (0) (0) (fun q => b0 ≤ q)) (F0 m 10 ls []) := by
  intro n_
  induction n_ with
  | zero =>
    intro x0 x1 x2 x3 G ls H locs hL hR hS hd
    cases (show (none : Option _) = some _ from hd)
  | succ n_ ih =>
    intro x0 x1 x2 x3 G ls H locs hL hR hS hd
    rw [d_X6_measureWires_10.eq_2] at hd
    have hx := C.1
    have hb := C.2.1
    refine x_iload_n C dX6_measureWires_10 hL 3 rfl ?_
    refine x_aload_n C dX6_measureWires_11 hL 0 rfl ?_
    obtain ⟨g1, hd⟩ := gd_ex hd
    refine r_geti (ci := 6) (k := 0) C fl_X6_22 rfl dX6_measureWires_12 hR g1 ?_
    refine lv_icmp_ge (tgt := 107) hx hb dX6_measureWires_15 (by decide) (fun c2 => ?_) (fun c2 => ?_)
    · rw [if_pos c2] at hd
      refine x_iinc (lv' := [(2, .inl (x2 + 1)), (0, .inr x0), (1, .inr x1), (3, .inl x3)]) C dX6_measureWires_107 hL 2 rfl rfl (by decide) rfl (fun ls hL => ?_)
      refine lv_goto (tgt := 2) hx hb dX6_measureWires_110 (by decide) ?_
      exact hk2 _ _ _ _ _ _ _ (lx_sub hL [1, 2, 0] rfl) hR hS hd
    · rw [if_neg c2] at hd
      refine x_aload_n C dX6_measureWires_18 hL 1 rfl ?_
      refine x_iload_n C dX6_measureWires_19 hL 2 rfl ?_
      obtain ⟨g3, hd⟩ := gd_ex hd
      refine r_aald (ci := 7) C (by decide) dX6_measureWires_20 hR g3 ?_
      obtain ⟨g4, hd⟩ := gd_ex hd
      refine r_geti (ci := 7) (k := 2) C fl_X6_59 rfl dX6_measureWires_21 hR g4 ?_
      refine lv_if_eq (tgt := 107) hx hb dX6_measureWires_24 (by decide) (fun c5 => ?_) (fun c5 => ?_)
      · rw [if_pos c5] at hd
        refine x_iinc (lv' := [(2, .inl (x2 + 1)), (0, .inr x0), (1, .inr x1), (3, .inl x3)]) C dX6_measureWires_107 hL 2 rfl rfl (by decide) rfl (fun ls hL => ?_)
        refine lv_goto (tgt := 2) hx hb dX6_measureWires_110 (by decide) ?_
        exact hk2 _ _ _ _ _ _ _ (lx_sub hL [1, 2, 0] rfl) hR hS hd
      · rw [if_neg c5] at hd
        refine x_aload_n C dX6_measureWires_27 hL 1 rfl ?_
        refine x_iload_n C dX6_measureWires_28 hL 2 rfl ?_
        obtain ⟨g6, hd⟩ := gd_ex hd
        refine r_aald (ci := 7) C (by decide) dX6_measureWires_29 hR g6 ?_
        refine r_getr (ci := 7) (k := 1) C fl_X6_64 rfl dX6_measureWires_30 hR g4 ?_
        refine x_iload_n C dX6_measureWires_33 hL 3 rfl ?_
        obtain ⟨g7, hd⟩ := gd_ex hd
        refine r_iald C dX6_measureWires_34 hR g7 ?_
        refine lv_iconst (v := (-1)) hx hb dX6_measureWires_35 (by decide) ?_
        refine lv_icmp_ne (tgt := 42) hx hb dX6_measureWires_36 (by decide) (fun c8 => ?_) (fun c8 => ?_)
        · rw [if_neg c8] at hd
          refine lv_iconst (v := 0) hx hb dX6_measureWires_42 (by decide) ?_
          refine x_istore (lv' := [(4, .inl 0), (0, .inr x0), (1, .inr x1), (2, .inl x2), (3, .inl x3)]) C dX6_measureWires_43 hL (by decide) rfl (fun ls hL => ?_)
          exact k_X6_measureWires_45 C (fun y0 y1 y2 y3 Gy H1 locs1 ls1 hL1 hR1 hS1 hd1 => ih hL1 hR1 hS1 hd1) FU (lx_sub hL [1, 2, 3, 4, 0] rfl) hR hS hd
        · rw [if_pos c8] at hd
          refine lv_goto (tgt := 101) hx hb dX6_measureWires_39 (by decide) ?_
          refine x_iinc (lv' := [(3, .inl (x3 + 1)), (0, .inr x0), (1, .inr x1), (2, .inl x2)]) C dX6_measureWires_101 hL 3 rfl rfl (by decide) rfl (fun ls hL => ?_)
          refine lv_goto (tgt := 10) hx hb dX6_measureWires_104 (by decide) ?_
          exact ih (lx_sub hL [1, 2, 3, 0] rfl) hR hS hd
set_option maxHeartbeats 4000000 in
set_option maxRecDepth 100000 in
theorem k_X6_measureWires_2 (C : Cx p s m args meth c RX6 cX6_measureWires 6 none b0 D E) {GG : Hp} : ∀ (n_ : Nat) {x0 : Nat} {x1 : Nat} {x2 : Int32} {G : Hp} {ls : Array Slot} {H : Heap} {locs : List Loc}, lx ls 6 [(0, .inr x0), (1, .inr x1), (2, .inl x2)] → Rp b0 D E G H → SS b0 s H locs → d_X6_measureWires_2 n_ x0 x1 x2 G = some GG → W p l e (rmd 1 (0) (0)) s m args below meth c H locs (0) (0) (MQ below (CQ b0 D E none GG) args s (0) (0) (fun q => b0 ≤ q)) (F0 m 2 ls []) := by
  intro n_
  induction n_ with
  | zero =>
    intro x0 x1 x2 G ls H locs hL hR hS hd
    cases (show (none : Option _) = some _ from hd)
  | succ n_ ih =>
    intro x0 x1 x2 G ls H locs hL hR hS hd
    rw [d_X6_measureWires_2.eq_2] at hd
    have hx := C.1
    have hb := C.2.1
    refine x_iload_n C dX6_measureWires_2 hL 2 rfl ?_
    refine lv_bipush (v := 16) hx hb dX6_measureWires_3 (by decide) ?_
    refine lv_icmp_ge (tgt := 113) hx hb dX6_measureWires_5 (by decide) (fun c1 => ?_) (fun c1 => ?_)
    · rw [if_pos c1] at hd
      cases hd
      exact r_vret C dX6_measureWires_113 hR hS
    · rw [if_neg c1] at hd
      refine lv_iconst (v := 0) hx hb dX6_measureWires_8 (by decide) ?_
      refine x_istore_n (lv' := [(3, .inl 0), (0, .inr x0), (1, .inr x1), (2, .inl x2)]) C dX6_measureWires_9 hL (by decide) rfl (fun ls hL => ?_)
      exact k_X6_measureWires_10 C (fun y0 y1 y2 Gy H1 locs1 ls1 hL1 hR1 hS1 hd1 => ih hL1 hR1 hS1 hd1) FU (lx_sub hL [1, 2, 3, 0] rfl) hR hS hd
set_option maxHeartbeats 4000000 in
set_option maxRecDepth 100000 in
theorem k_X6_measureWires (C : Cx p s m args meth c RX6 cX6_measureWires 6 none b0 D E) {GG : Hp} {x0 : Nat} {x1 : Nat} {G : Hp} {ls : Array Slot} {H : Heap} {locs : List Loc} : lx ls 6 [(0, .inr x0), (1, .inr x1)] → Rp b0 D E G H → SS b0 s H locs → d_X6_measureWires x0 x1 G = some GG → W p l e (rmd 1 (0) (0)) s m args below meth c H locs (0) (0) (MQ below (CQ b0 D E none GG) args s (0) (0) (fun q => b0 ≤ q)) (F0 m 0 ls []) := by
  intro hL hR hS hd
  unfold d_X6_measureWires at hd
  have hx := C.1
  have hb := C.2.1
  refine lv_iconst (v := 0) hx hb dX6_measureWires_0 (by decide) ?_
  refine x_istore_n (lv' := [(2, .inl 0), (0, .inr x0), (1, .inr x1)]) C dX6_measureWires_1 hL (by decide) rfl (fun ls hL => ?_)
  exact k_X6_measureWires_2 C FU (lx_sub hL [1, 2, 0] rfl) hR hS hd
end
set_option maxHeartbeats 4000000 in
set_option maxRecDepth 100000 in
theorem ct_X6_measureWires {l : Launch} {b0 : Nat} {D : va_G} {E : Nat → ClassId} {G : Hp} {a0 : Nat} {a1 : Nat} {GG : Hp} (hd : d_X6_measureWires a0 a1 G = some GG) : CT l yX6_measureWires cX6_measureWires 6 none 1 0 0 b0 D E [rv a0, rv a1] G none GG := by
  refine CT_of (by decide +kernel) ?_
  intro p e s m below meth c C hnm hR
  refine r_entry [.inr a0, .inr a1] (n := 6) (Nat.le_of_ble_eq_true rfl) (lv := [(0, .inr a0), (1, .inr a1)]) rfl (fun ls hL => ?_)
  exact k_X6_measureWires C (lx_sub hL [0, 1] rfl) hR ⟨fun _ _ => rfl, fun _ h => by cases h⟩ hd
