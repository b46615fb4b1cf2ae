/-! GroveWorksModel.members(III)I pure -/
theorem dX9_members_0 : decode cX9_members 0 = .ok (.aload_n 0, 1) := by decide +kernel
theorem dX9_members_1 : decode cX9_members 1 = .ok (.iload_n 1, 1) := by decide +kernel
theorem dX9_members_2 : decode cX9_members 2 = .ok (.invokevirtual 112, 3) := by decide +kernel
theorem dX9_members_5 : decode cX9_members 5 = .ok (.ifCond .eq 17, 3) := by decide +kernel
theorem dX9_members_8 : decode cX9_members 8 = .ok (.iload_n 2, 1) := by decide +kernel
theorem dX9_members_9 : decode cX9_members 9 = .ok (.invokestatic 116, 3) := by decide +kernel
theorem dX9_members_12 : decode cX9_members 12 = .ok (.ifCond .eq 10, 3) := by decide +kernel
theorem dX9_members_15 : decode cX9_members 15 = .ok (.iload_n 3, 1) := by decide +kernel
theorem dX9_members_16 : decode cX9_members 16 = .ok (.invokestatic 132, 3) := by decide +kernel
theorem dX9_members_19 : decode cX9_members 19 = .ok (.ifCond .ne 5, 3) := by decide +kernel
theorem dX9_members_22 : decode cX9_members 22 = .ok (.iconst (-1), 1) := by decide +kernel
theorem dX9_members_23 : decode cX9_members 23 = .ok (.ireturn, 1) := by decide +kernel
theorem dX9_members_24 : decode cX9_members 24 = .ok (.aload_n 0, 1) := by decide +kernel
theorem dX9_members_25 : decode cX9_members 25 = .ok (.iload_n 1, 1) := by decide +kernel
theorem dX9_members_26 : decode cX9_members 26 = .ok (.iload_n 2, 1) := by decide +kernel
theorem dX9_members_27 : decode cX9_members 27 = .ok (.iload_n 3, 1) := by decide +kernel
theorem dX9_members_28 : decode cX9_members 28 = .ok (.invokevirtual 182, 3) := by decide +kernel
theorem dX9_members_31 : decode cX9_members 31 = .ok (.ifCond .eq 21, 3) := by decide +kernel
theorem dX9_members_34 : decode cX9_members 34 = .ok (.aload_n 0, 1) := by decide +kernel
theorem dX9_members_35 : decode cX9_members 35 = .ok (.getfield 72, 3) := by decide +kernel
theorem dX9_members_38 : decode cX9_members 38 = .ok (.bipush 8, 2) := by decide +kernel
theorem dX9_members_40 : decode cX9_members 40 = .ok (.iconst 4, 1) := by decide +kernel
theorem dX9_members_41 : decode cX9_members 41 = .ok (.iload_n 1, 1) := by decide +kernel
theorem dX9_members_42 : decode cX9_members 42 = .ok (.imul, 1) := by decide +kernel
theorem dX9_members_43 : decode cX9_members 43 = .ok (.iload_n 2, 1) := by decide +kernel
theorem dX9_members_44 : decode cX9_members 44 = .ok (.iadd, 1) := by decide +kernel
theorem dX9_members_45 : decode cX9_members 45 = .ok (.imul, 1) := by decide +kernel
theorem dX9_members_46 : decode cX9_members 46 = .ok (.iload_n 3, 1) := by decide +kernel
theorem dX9_members_47 : decode cX9_members 47 = .ok (.iadd, 1) := by decide +kernel
theorem dX9_members_48 : decode cX9_members 48 = .ok (.iaload, 1) := by decide +kernel
theorem dX9_members_49 : decode cX9_members 49 = .ok (.goto 4, 3) := by decide +kernel
theorem dX9_members_52 : decode cX9_members 52 = .ok (.iconst 0, 1) := by decide +kernel
theorem dX9_members_53 : decode cX9_members 53 = .ok (.ireturn, 1) := by decide +kernel
def d_X9_members (x0 : Nat) (x1 : Int32) (x2 : Int32) (x3 : Int32) (G : Hp) : Option (Int32) :=
  gd (hc G x0 = 10) <|
  bo (d_X9_isRouter x0 x1 G) fun v3 =>
  if v3 = 0 then
    some (-1)
  else
    bo (d_X9_isPort x2 G) fun v6 =>
    if v6 = 0 then
      some (-1)
    else
      bo (d_X9_isGroup x3 G) fun v9 =>
      if v9 = 0 then
        some (-1)
      else
        bo (d_X9_hasMembers x0 x1 x2 x3 G) fun v12 =>
        if v12 = 0 then
          some 0
        else
          gd (hc G ((hr G x0 28)) = 11 ∧ ix ((((8 * ((((4 * x1)) + x2)))) + x3)) (hl G ((hr G x0 28)))) <|
          some ((hi G ((hr G x0 28)) ((((8 * ((((4 * x1)) + x2)))) + x3)).toNatClampNeg))
section
variable {p : Program} {l : Launch} {e : Env} {s : State} {m : MethodId} {args : Array Value} {below : List Frame} {meth : Method} {c : Code} {b0 : Nat} {D : va_G} {E : Nat → ClassId}
set_option maxHeartbeats 4000000 in
set_option maxRecDepth 100000 in
theorem k_X9_members (C : Cx p s m args meth c RX9 cX9_members 4 (some .int) b0 D E) {rr : Int32} {G : Hp} {x0 : Nat} {x1 : Int32} {x2 : Int32} {x3 : Int32} {ls : Array Slot} {H : Heap} {locs : List Loc} : lx ls 4 [(0, .inr x0), (1, .inl x1), (2, .inl x2), (3, .inl x3)] → Rp b0 D E G H → SS b0 s H locs → d_X9_members x0 x1 x2 x3 G = some rr → W p l e (rmd 1 (0) (0)) s m args below meth c H locs (0) (0) (MQ below (CQ b0 D E (some (.int rr)) G) args s (0) (0) (fun q => b0 ≤ q)) (F0 m 0 ls []) := by
  intro hL hR hS hd
  unfold d_X9_members at hd
  have hx := C.1
  have hb := C.2.1
  refine x_aload_n C dX9_members_0 hL 0 rfl ?_
  refine x_iload_n C dX9_members_1 hL 1 rfl ?_
  obtain ⟨g1, hd⟩ := gd_ex hd
  obtain ⟨v3, h2, hd⟩ := bo_ex hd
  refine r_callV (a := x0) (ci := 9) (As := [.int x1]) C (ct_X9_isRouter h2) mf_X9_isRouter ml_X9_112 mv_X9_isRouter rfl ⟨Nat.le_of_ble_eq_true rfl, Nat.le_of_ble_eq_true rfl⟩ dX9_members_2 (lx_size hL) rfl hR hS g1 ⟨Nat.le_refl _, Nat.le_refl _⟩ (cat_le [] (Nat.le_of_ble_eq_true rfl)) (fun H locs hR hS => ?_)
  refine W_st (st2 := [.int v3]) rfl ?_
  refine lv_if_eq (tgt := 22) hx hb dX9_members_5 (by decide) (fun c4 => ?_) (fun c4 => ?_)
  · rw [if_pos c4] at hd
    refine lv_iconst (v := (-1)) hx hb dX9_members_22 (by decide) ?_
    cases hd
    exact r_iret C dX9_members_23 hR hS
  · rw [if_neg c4] at hd
    refine x_iload_n C dX9_members_8 hL 2 rfl ?_
    obtain ⟨v6, h5, hd⟩ := bo_ex hd
    refine r_callS (As := [.int x2]) C (ct_X9_isPort h5) mf_X9_isPort ml_X9_116 ms_X9_isPort rfl ⟨Nat.le_of_ble_eq_true rfl, Nat.le_of_ble_eq_true rfl⟩ dX9_members_9 (lx_size hL) rfl hR hS ⟨Nat.le_refl _, Nat.le_refl _⟩ (cat_le [] (Nat.le_of_ble_eq_true rfl)) (fun H locs hR hS => ?_)
    refine W_st (st2 := [.int v6]) rfl ?_
    refine lv_if_eq (tgt := 22) hx hb dX9_members_12 (by decide) (fun c7 => ?_) (fun c7 => ?_)
    · rw [if_pos c7] at hd
      refine lv_iconst (v := (-1)) hx hb dX9_members_22 (by decide) ?_
      cases hd
      exact r_iret C dX9_members_23 hR hS
    · rw [if_neg c7] at hd
      refine x_iload_n C dX9_members_15 hL 3 rfl ?_
      obtain ⟨v9, h8, hd⟩ := bo_ex hd
      refine r_callS (As := [.int x3]) C (ct_X9_isGroup h8) mf_X9_isGroup ml_X9_132 ms_X9_isGroup rfl ⟨Nat.le_of_ble_eq_true rfl, Nat.le_of_ble_eq_true rfl⟩ dX9_members_16 (lx_size hL) rfl hR hS ⟨Nat.le_refl _, Nat.le_refl _⟩ (cat_le [] (Nat.le_of_ble_eq_true rfl)) (fun H locs hR hS => ?_)
      refine W_st (st2 := [.int v9]) rfl ?_
      refine lv_if_ne (tgt := 24) hx hb dX9_members_19 (by decide) (fun c10 => ?_) (fun c10 => ?_)
      · rw [if_neg c10] at hd
        refine x_aload_n C dX9_members_24 hL 0 rfl ?_
        refine x_iload_n C dX9_members_25 hL 1 rfl ?_
        refine x_iload_n C dX9_members_26 hL 2 rfl ?_
        refine x_iload_n C dX9_members_27 hL 3 rfl ?_
        obtain ⟨v12, h11, hd⟩ := bo_ex hd
        refine r_callV (a := x0) (ci := 9) (As := [.int x1, .int x2, .int x3]) C (ct_X9_hasMembers h11) mf_X9_hasMembers ml_X9_182 mv_X9_hasMembers rfl ⟨Nat.le_of_ble_eq_true rfl, Nat.le_of_ble_eq_true rfl⟩ dX9_members_28 (lx_size hL) rfl hR hS g1 ⟨Nat.le_refl _, Nat.le_refl _⟩ (cat_le [] (Nat.le_of_ble_eq_true rfl)) (fun H locs hR hS => ?_)
        refine W_st (st2 := [.int v12]) rfl ?_
        refine lv_if_eq (tgt := 52) hx hb dX9_members_31 (by decide) (fun c13 => ?_) (fun c13 => ?_)
        · rw [if_pos c13] at hd
          refine lv_iconst (v := 0) hx hb dX9_members_52 (by decide) ?_
          cases hd
          exact r_iret C dX9_members_53 hR hS
        · rw [if_neg c13] at hd
          refine x_aload_n C dX9_members_34 hL 0 rfl ?_
          refine r_getr (ci := 9) (k := 28) C fl_X9_72 rfl dX9_members_35 hR g1 ?_
          refine lv_bipush (v := 8) hx hb dX9_members_38 (by decide) ?_
          refine lv_iconst (v := 4) hx hb dX9_members_40 (by decide) ?_
          refine x_iload_n C dX9_members_41 hL 1 rfl ?_
          refine lv_imul hx hb dX9_members_42 ?_
          refine x_iload_n C dX9_members_43 hL 2 rfl ?_
          refine lv_iadd hx hb dX9_members_44 ?_
          refine lv_imul hx hb dX9_members_45 ?_
          refine x_iload_n C dX9_members_46 hL 3 rfl ?_
          refine lv_iadd hx hb dX9_members_47 ?_
          obtain ⟨g14, hd⟩ := gd_ex hd
          refine r_iald C dX9_members_48 hR g14 ?_
          refine lv_goto (tgt := 53) hx hb dX9_members_49 (by decide) ?_
          cases hd
          exact r_iret C dX9_members_53 hR hS
      · rw [if_pos c10] at hd
        refine lv_iconst (v := (-1)) hx hb dX9_members_22 (by decide) ?_
        cases hd
        exact r_iret C dX9_members_23 hR hS
end
set_option maxHeartbeats 4000000 in
set_option maxRecDepth 100000 in
theorem ct_X9_members {l : Launch} {b0 : Nat} {D : va_G} {E : Nat → ClassId} {G : Hp} {a0 : Nat} {a1 : Int32} {a2 : Int32} {a3 : Int32} {rr : Int32} (hd : d_X9_members a0 a1 a2 a3 G = some rr) : CT l yX9_members cX9_members 4 (some .int) 1 0 0 b0 D E [rv a0, .int a1, .int a2, .int a3] G (some (.int rr)) G := by
  refine CT_of (by decide +kernel) ?_
  intro p e s m below meth c C hnm hR
  refine r_entry [.inr a0, .inl a1, .inl a2, .inl a3] (n := 4) (Nat.le_of_ble_eq_true rfl) (lv := [(0, .inr a0), (1, .inl a1), (2, .inl a2), (3, .inl a3)]) rfl (fun ls hL => ?_)
  exact k_X9_members C (lx_sub hL [0, 1, 2, 3] rfl) hR ⟨fun _ _ => rfl, fun _ h => by cases h⟩ hd

/-! GroveWorksModel.branch(IIIII)I -/
theorem dX9_branch_0 : decode cX9_branch 0 = .ok (.aload_n 0, 1) := by decide +kernel
theorem dX9_branch_1 : decode cX9_branch 1 = .ok (.iload_n 1, 1) := by decide +kernel
theorem dX9_branch_2 : decode cX9_branch 2 = .ok (.invokevirtual 112, 3) := by decide +kernel
theorem dX9_branch_5 : decode cX9_branch 5 = .ok (.ifCond .eq 31, 3) := by decide +kernel
theorem dX9_branch_8 : decode cX9_branch 8 = .ok (.iload_n 2, 1) := by decide +kernel
theorem dX9_branch_9 : decode cX9_branch 9 = .ok (.invokestatic 116, 3) := by decide +kernel
theorem dX9_branch_12 : decode cX9_branch 12 = .ok (.ifCond .eq 24, 3) := by decide +kernel
theorem dX9_branch_15 : decode cX9_branch 15 = .ok (.iload_n 3, 1) := by decide +kernel
theorem dX9_branch_16 : decode cX9_branch 16 = .ok (.invokestatic 132, 3) := by decide +kernel
theorem dX9_branch_19 : decode cX9_branch 19 = .ok (.ifCond .eq 17, 3) := by decide +kernel
theorem dX9_branch_22 : decode cX9_branch 22 = .ok (.iload 4, 2) := by decide +kernel
theorem dX9_branch_24 : decode cX9_branch 24 = .ok (.iconst (-1), 1) := by decide +kernel
theorem dX9_branch_25 : decode cX9_branch 25 = .ok (.if_icmp .eq 13, 3) := by decide +kernel
theorem dX9_branch_28 : decode cX9_branch 28 = .ok (.iload 4, 2) := by decide +kernel
theorem dX9_branch_30 : decode cX9_branch 30 = .ok (.invokestatic 129, 3) := by decide +kernel
theorem dX9_branch_33 : decode cX9_branch 33 = .ok (.ifCond .ne 5, 3) := by decide +kernel
theorem dX9_branch_36 : decode cX9_branch 36 = .ok (.iconst (-1), 1) := by decide +kernel
theorem dX9_branch_37 : decode cX9_branch 37 = .ok (.ireturn, 1) := by decide +kernel
theorem dX9_branch_38 : decode cX9_branch 38 = .ok (.iload 5, 2) := by decide +kernel
theorem dX9_branch_40 : decode cX9_branch 40 = .ok (.ifCond .ne 15, 3) := by decide +kernel
theorem dX9_branch_43 : decode cX9_branch 43 = .ok (.aload_n 0, 1) := by decide +kernel
theorem dX9_branch_44 : decode cX9_branch 44 = .ok (.iload_n 1, 1) := by decide +kernel
theorem dX9_branch_45 : decode cX9_branch 45 = .ok (.iload_n 2, 1) := by decide +kernel
theorem dX9_branch_46 : decode cX9_branch 46 = .ok (.iload_n 3, 1) := by decide +kernel
theorem dX9_branch_47 : decode cX9_branch 47 = .ok (.iconst 1, 1) := by decide +kernel
theorem dX9_branch_48 : decode cX9_branch 48 = .ok (.iload 4, 2) := by decide +kernel
theorem dX9_branch_50 : decode cX9_branch 50 = .ok (.iadd, 1) := by decide +kernel
theorem dX9_branch_51 : decode cX9_branch 51 = .ok (.invokevirtual 179, 3) := by decide +kernel
theorem dX9_branch_54 : decode cX9_branch 54 = .ok (.ireturn, 1) := by decide +kernel
theorem dX9_branch_55 : decode cX9_branch 55 = .ok (.iload 4, 2) := by decide +kernel
theorem dX9_branch_57 : decode cX9_branch 57 = .ok (.iconst (-1), 1) := by decide +kernel
theorem dX9_branch_58 : decode cX9_branch 58 = .ok (.if_icmp .ne 5, 3) := by decide +kernel
theorem dX9_branch_61 : decode cX9_branch 61 = .ok (.iconst (-1), 1) := by decide +kernel
theorem dX9_branch_62 : decode cX9_branch 62 = .ok (.ireturn, 1) := by decide +kernel
theorem dX9_branch_63 : decode cX9_branch 63 = .ok (.iload 5, 2) := by decide +kernel
theorem dX9_branch_65 : decode cX9_branch 65 = .ok (.iconst 1, 1) := by decide +kernel
theorem dX9_branch_66 : decode cX9_branch 66 = .ok (.if_icmp .ne 21, 3) := by decide +kernel
theorem dX9_branch_69 : decode cX9_branch 69 = .ok (.aload_n 0, 1) := by decide +kernel
theorem dX9_branch_70 : decode cX9_branch 70 = .ok (.iload_n 1, 1) := by decide +kernel
theorem dX9_branch_71 : decode cX9_branch 71 = .ok (.iload_n 2, 1) := by decide +kernel
theorem dX9_branch_72 : decode cX9_branch 72 = .ok (.iload_n 3, 1) := by decide +kernel
theorem dX9_branch_73 : decode cX9_branch 73 = .ok (.iload 4, 2) := by decide +kernel
theorem dX9_branch_75 : decode cX9_branch 75 = .ok (.invokevirtual 207, 3) := by decide +kernel
theorem dX9_branch_78 : decode cX9_branch 78 = .ok (.ifCond .eq 7, 3) := by decide +kernel
theorem dX9_branch_81 : decode cX9_branch 81 = .ok (.iconst 1, 1) := by decide +kernel
theorem dX9_branch_82 : decode cX9_branch 82 = .ok (.goto 4, 3) := by decide +kernel
theorem dX9_branch_85 : decode cX9_branch 85 = .ok (.iconst 0, 1) := by decide +kernel
theorem dX9_branch_86 : decode cX9_branch 86 = .ok (.ireturn, 1) := by decide +kernel
theorem dX9_branch_87 : decode cX9_branch 87 = .ok (.iload 5, 2) := by decide +kernel
theorem dX9_branch_89 : decode cX9_branch 89 = .ok (.iconst 2, 1) := by decide +kernel
theorem dX9_branch_90 : decode cX9_branch 90 = .ok (.if_icmp .ne 21, 3) := by decide +kernel
theorem dX9_branch_93 : decode cX9_branch 93 = .ok (.aload_n 0, 1) := by decide +kernel
theorem dX9_branch_94 : decode cX9_branch 94 = .ok (.iload_n 1, 1) := by decide +kernel
theorem dX9_branch_95 : decode cX9_branch 95 = .ok (.iload_n 2, 1) := by decide +kernel
theorem dX9_branch_96 : decode cX9_branch 96 = .ok (.iload_n 3, 1) := by decide +kernel
theorem dX9_branch_97 : decode cX9_branch 97 = .ok (.iload 4, 2) := by decide +kernel
theorem dX9_branch_99 : decode cX9_branch 99 = .ok (.invokevirtual 211, 3) := by decide +kernel
theorem dX9_branch_102 : decode cX9_branch 102 = .ok (.ifCond .eq 7, 3) := by decide +kernel
theorem dX9_branch_105 : decode cX9_branch 105 = .ok (.iconst 1, 1) := by decide +kernel
theorem dX9_branch_106 : decode cX9_branch 106 = .ok (.goto 4, 3) := by decide +kernel
theorem dX9_branch_109 : decode cX9_branch 109 = .ok (.iconst 0, 1) := by decide +kernel
theorem dX9_branch_110 : decode cX9_branch 110 = .ok (.ireturn, 1) := by decide +kernel
theorem dX9_branch_111 : decode cX9_branch 111 = .ok (.iload 5, 2) := by decide +kernel
theorem dX9_branch_113 : decode cX9_branch 113 = .ok (.iconst 3, 1) := by decide +kernel
theorem dX9_branch_114 : decode cX9_branch 114 = .ok (.if_icmp .ne 15, 3) := by decide +kernel
theorem dX9_branch_117 : decode cX9_branch 117 = .ok (.aload_n 0, 1) := by decide +kernel
theorem dX9_branch_118 : decode cX9_branch 118 = .ok (.iload_n 1, 1) := by decide +kernel
theorem dX9_branch_119 : decode cX9_branch 119 = .ok (.iload_n 2, 1) := by decide +kernel
theorem dX9_branch_120 : decode cX9_branch 120 = .ok (.iload_n 3, 1) := by decide +kernel
theorem dX9_branch_121 : decode cX9_branch 121 = .ok (.iload 4, 2) := by decide +kernel
theorem dX9_branch_123 : decode cX9_branch 123 = .ok (.invokevirtual 197, 3) := by decide +kernel
theorem dX9_branch_126 : decode cX9_branch 126 = .ok (.goto 4, 3) := by decide +kernel
theorem dX9_branch_129 : decode cX9_branch 129 = .ok (.iconst (-1), 1) := by decide +kernel
theorem dX9_branch_130 : decode cX9_branch 130 = .ok (.istore 6, 2) := by decide +kernel
theorem dX9_branch_132 : decode cX9_branch 132 = .ok (.iload 6, 2) := by decide +kernel
theorem dX9_branch_134 : decode cX9_branch 134 = .ok (.iconst (-1), 1) := by decide +kernel
theorem dX9_branch_135 : decode cX9_branch 135 = .ok (.if_icmp .ne 7, 3) := by decide +kernel
theorem dX9_branch_138 : decode cX9_branch 138 = .ok (.iconst (-1), 1) := by decide +kernel
theorem dX9_branch_139 : decode cX9_branch 139 = .ok (.goto 8, 3) := by decide +kernel
theorem dX9_branch_142 : decode cX9_branch 142 = .ok (.iload 6, 2) := by decide +kernel
theorem dX9_branch_144 : decode cX9_branch 144 = .ok (.bipush 100, 2) := by decide +kernel
theorem dX9_branch_146 : decode cX9_branch 146 = .ok (.irem, 1) := by decide +kernel
theorem dX9_branch_147 : decode cX9_branch 147 = .ok (.ireturn, 1) := by decide +kernel
def d_X9_branch_130 (s0 : Int32) (G : Hp) : Option (Int32 × Hp) :=
  if s0 = (-1) then
    some ((-1), G)
  else
    some ((s0 - s0 / 100 * 100), G)
def d_X9_branch_38 (x0 : Nat) (x1 : Int32) (x2 : Int32) (x3 : Int32) (x4 : Int32) (x5 : Int32) (G : Hp) : Option (Int32 × Hp) :=
  if x5 = 0 then
    gd (hc G x0 = 10) <|
    bo (d_X9_joined x0 x1 x2 x3 ((1 + x4)) G) fun v20 =>
    some (v20, G)
  else
    if x4 = (-1) then
      some ((-1), G)
    else
      if x5 = 1 then
        gd (hc G x0 = 10) <|
        bo (d_X9_isCutOff x0 x1 x2 x3 x4 G) fun v16 =>
        if v16 = 0 then
          some (0, G)
        else
          some (1, G)
      else
        if x5 = 2 then
          gd (hc G x0 = 10) <|
          b2 (d_X9_isLost x0 x1 x2 x3 x4 G) fun v11 G12 =>
          if v11 = 0 then
            some (0, G12)
          else
            some (1, G12)
        else
          if x5 = 3 then
            gd (hc G x0 = 10) <|
            bo (d_X9_claimAt x0 x1 x2 x3 x4 G) fun v8 =>
            d_X9_branch_130 v8 G
          else
            d_X9_branch_130 (-1) G
def d_X9_branch (x0 : Nat) (x1 : Int32) (x2 : Int32) (x3 : Int32) (x4 : Int32) (x5 : Int32) (G : Hp) : Option (Int32 × Hp) :=
  gd (hc G x0 = 10) <|
  bo (d_X9_isRouter x0 x1 G) fun v3 =>
  if v3 = 0 then
    some ((-1), G)
  else
    bo (d_X9_isPort x2 G) fun v6 =>
    if v6 = 0 then
      some ((-1), G)
    else
      bo (d_X9_isGroup x3 G) fun v9 =>
      if v9 = 0 then
        some ((-1), G)
      else
        if x4 = (-1) then
          d_X9_branch_38 x0 x1 x2 x3 x4 x5 G
        else
          bo (d_X9_isHost x4 G) fun v13 =>
          if v13 = 0 then
            some ((-1), G)
          else
            d_X9_branch_38 x0 x1 x2 x3 x4 x5 G
section
variable {p : Program} {l : Launch} {e : Env} {s : State} {m : MethodId} {args : Array Value} {below : List Frame} {meth : Method} {c : Code} {b0 : Nat} {D : va_G} {E : Nat → ClassId}
set_option maxHeartbeats 4000000 in
set_option maxRecDepth 100000 in
theorem k_X9_branch_130 (C : Cx p s m args meth c RX9 cX9_branch 7 (some .int) b0 D E) {rr : Int32} {GG : Hp} {s0 : Int32} {G : Hp} {ls : Array Slot} {H : Heap} {locs : List Loc} : lx ls 7 [] → Rp b0 D E G H → SS b0 s H locs → d_X9_branch_130 s0 G = some (rr, GG) → W p l e (rmd 7 (0) (0)) s m args below meth c H locs (0) (0) (MQ below (CQ b0 D E (some (.int rr)) GG) args s (0) (0) (fun q => b0 ≤ q)) (F0 m 130 ls [.int s0]) := by
  intro hL hR hS hd
  unfold d_X9_branch_130 at hd
  have hx := C.1
  have hb := C.2.1
  refine x_istore (lv' := [(6, .inl s0)]) C dX9_branch_130 hL (by decide) rfl (fun ls hL => ?_)
  refine x_iload C dX9_branch_132 hL 0 rfl ?_
  refine lv_iconst (v := (-1)) hx hb dX9_branch_134 (by decide) ?_
  refine lv_icmp_ne (tgt := 142) hx hb dX9_branch_135 (by decide) (fun c1 => ?_) (fun c1 => ?_)
  · rw [if_neg c1] at hd
    refine x_iload C dX9_branch_142 hL 0 rfl ?_
    refine lv_bipush (v := 100) hx hb dX9_branch_144 (by decide) ?_
    refine lv_irem hx hb dX9_branch_146 (by decide) ?_
    cases hd
    exact r_iret C dX9_branch_147 hR hS
  · rw [if_pos c1] at hd
    refine lv_iconst (v := (-1)) hx hb dX9_branch_138 (by decide) ?_
    refine lv_goto (tgt := 147) hx hb dX9_branch_139 (by decide) ?_
    cases hd
    exact r_iret C dX9_branch_147 hR hS
set_option maxHeartbeats 4000000 in
set_option maxRecDepth 100000 in
theorem k_X9_branch_38 (C : Cx p s m args meth c RX9 cX9_branch 7 (some .int) b0 D E) {rr : Int32} {GG : Hp} {x0 : Nat} {x1 : Int32} {x2 : Int32} {x3 : Int32} {x4 : Int32} {x5 : Int32} {G : Hp} {ls : Array Slot} {H : Heap} {locs : List Loc} : lx ls 7 [(0, .inr x0), (1, .inl x1), (2, .inl x2), (3, .inl x3), (4, .inl x4), (5, .inl x5)] → Rp b0 D E G H → SS b0 s H locs → d_X9_branch_38 x0 x1 x2 x3 x4 x5 G = some (rr, GG) → W p l e (rmd 7 (0) (0)) s m args below meth c H locs (0) (0) (MQ below (CQ b0 D E (some (.int rr)) GG) args s (0) (0) (fun q => b0 ≤ q)) (F0 m 38 ls []) := by
  intro hL hR hS hd
  unfold d_X9_branch_38 at hd
  have hx := C.1
  have hb := C.2.1
  refine x_iload C dX9_branch_38 hL 5 rfl ?_
  refine lv_if_ne (tgt := 55) hx hb dX9_branch_40 (by decide) (fun c1 => ?_) (fun c1 => ?_)
  · rw [if_neg c1] at hd
    refine x_iload C dX9_branch_55 hL 4 rfl ?_
    refine lv_iconst (v := (-1)) hx hb dX9_branch_57 (by decide) ?_
    refine lv_icmp_ne (tgt := 63) hx hb dX9_branch_58 (by decide) (fun c2 => ?_) (fun c2 => ?_)
    · rw [if_neg c2] at hd
      refine x_iload C dX9_branch_63 hL 5 rfl ?_
      refine lv_iconst (v := 1) hx hb dX9_branch_65 (by decide) ?_
      refine lv_icmp_ne (tgt := 87) hx hb dX9_branch_66 (by decide) (fun c3 => ?_) (fun c3 => ?_)
      · rw [if_neg c3] at hd
        refine x_iload C dX9_branch_87 hL 5 rfl ?_
        refine lv_iconst (v := 2) hx hb dX9_branch_89 (by decide) ?_
        refine lv_icmp_ne (tgt := 111) hx hb dX9_branch_90 (by decide) (fun c4 => ?_) (fun c4 => ?_)
        · rw [if_neg c4] at hd
          refine x_iload C dX9_branch_111 hL 5 rfl ?_
          refine lv_iconst (v := 3) hx hb dX9_branch_113 (by decide) ?_
          refine lv_icmp_ne (tgt := 129) hx hb dX9_branch_114 (by decide) (fun c5 => ?_) (fun c5 => ?_)
          · rw [if_neg c5] at hd
            refine lv_iconst (v := (-1)) hx hb dX9_branch_129 (by decide) ?_
            exact k_X9_branch_130 C (lx_sub hL [] rfl) hR hS hd
          · rw [if_pos c5] at hd
            refine x_aload_n C dX9_branch_117 hL 0 rfl ?_
            refine x_iload_n C dX9_branch_118 hL 1 rfl ?_
            refine x_iload_n C dX9_branch_119 hL 2 rfl ?_
            refine x_iload_n C dX9_branch_120 hL 3 rfl ?_
            refine x_iload C dX9_branch_121 hL 4 rfl ?_
            obtain ⟨g6, hd⟩ := gd_ex hd
            obtain ⟨v8, h7, hd⟩ := bo_ex hd
            refine r_callV (a := x0) (ci := 9) (As := [.int x1, .int x2, .int x3, .int x4]) C (ct_X9_claimAt h7) mf_X9_claimAt ml_X9_197 mv_X9_claimAt rfl ⟨Nat.le_of_ble_eq_true rfl, Nat.le_of_ble_eq_true rfl⟩ dX9_branch_123 (lx_size hL) rfl hR hS g6 ⟨Nat.le_refl _, Nat.le_refl _⟩ (cat_le [] (Nat.le_of_ble_eq_true rfl)) (fun H locs hR hS => ?_)
            refine W_st (st2 := [.int v8]) rfl ?_
            refine lv_goto (tgt := 130) hx hb dX9_branch_126 (by decide) ?_
            exact k_X9_branch_130 C (lx_sub hL [] rfl) hR hS hd
        · rw [if_pos c4] at hd
          refine x_aload_n C dX9_branch_93 hL 0 rfl ?_
          refine x_iload_n C dX9_branch_94 hL 1 rfl ?_
          refine x_iload_n C dX9_branch_95 hL 2 rfl ?_
          refine x_iload_n C dX9_branch_96 hL 3 rfl ?_
          refine x_iload C dX9_branch_97 hL 4 rfl ?_
          obtain ⟨g9, hd⟩ := gd_ex hd
          obtain ⟨v11, G12, h10, hd⟩ := b2_ex hd
          refine r_callV (a := x0) (ci := 9) (As := [.int x1, .int x2, .int x3, .int x4]) C (ct_X9_isLost h10) mf_X9_isLost ml_X9_211 mv_X9_isLost rfl ⟨Nat.le_of_ble_eq_true rfl, Nat.le_of_ble_eq_true rfl⟩ dX9_branch_99 (lx_size hL) rfl hR hS g9 ⟨Nat.le_refl _, Nat.le_refl _⟩ (cat_le [] (Nat.le_of_ble_eq_true rfl)) (fun H locs hR hS => ?_)
          refine W_st (st2 := [.int v11]) rfl ?_
          refine lv_if_eq (tgt := 109) hx hb dX9_branch_102 (by decide) (fun c13 => ?_) (fun c13 => ?_)
          · rw [if_pos c13] at hd
            refine lv_iconst (v := 0) hx hb dX9_branch_109 (by decide) ?_
            cases hd
            exact r_iret C dX9_branch_110 hR hS
          · rw [if_neg c13] at hd
            refine lv_iconst (v := 1) hx hb dX9_branch_105 (by decide) ?_
            refine lv_goto (tgt := 110) hx hb dX9_branch_106 (by decide) ?_
            cases hd
            exact r_iret C dX9_branch_110 hR hS
      · rw [if_pos c3] at hd
        refine x_aload_n C dX9_branch_69 hL 0 rfl ?_
        refine x_iload_n C dX9_branch_70 hL 1 rfl ?_
        refine x_iload_n C dX9_branch_71 hL 2 rfl ?_
        refine x_iload_n C dX9_branch_72 hL 3 rfl ?_
        refine x_iload C dX9_branch_73 hL 4 rfl ?_
        obtain ⟨g14, hd⟩ := gd_ex hd
        obtain ⟨v16, h15, hd⟩ := bo_ex hd
        refine r_callV (a := x0) (ci := 9) (As := [.int x1, .int x2, .int x3, .int x4]) C (ct_X9_isCutOff h15) mf_X9_isCutOff ml_X9_207 mv_X9_isCutOff rfl ⟨Nat.le_of_ble_eq_true rfl, Nat.le_of_ble_eq_true rfl⟩ dX9_branch_75 (lx_size hL) rfl hR hS g14 ⟨Nat.le_refl _, Nat.le_refl _⟩ (cat_le [] (Nat.le_of_ble_eq_true rfl)) (fun H locs hR hS => ?_)
        refine W_st (st2 := [.int v16]) rfl ?_
        refine lv_if_eq (tgt := 85) hx hb dX9_branch_78 (by decide) (fun c17 => ?_) (fun c17 => ?_)
        · rw [if_pos c17] at hd
          refine lv_iconst (v := 0) hx hb dX9_branch_85 (by decide) ?_
          cases hd
          exact r_iret C dX9_branch_86 hR hS
        · rw [if_neg c17] at hd
          refine lv_iconst (v := 1) hx hb dX9_branch_81 (by decide) ?_
          refine lv_goto (tgt := 86) hx hb dX9_branch_82 (by decide) ?_
          cases hd
          exact r_iret C dX9_branch_86 hR hS
    · rw [if_pos c2] at hd
      refine lv_iconst (v := (-1)) hx hb dX9_branch_61 (by decide) ?_
      cases hd
      exact r_iret C dX9_branch_62 hR hS
  · rw [if_pos c1] at hd
    refine x_aload_n C dX9_branch_43 hL 0 rfl ?_
    refine x_iload_n C dX9_branch_44 hL 1 rfl ?_
    refine x_iload_n C dX9_branch_45 hL 2 rfl ?_
    refine x_iload_n C dX9_branch_46 hL 3 rfl ?_
    refine lv_iconst (v := 1) hx hb dX9_branch_47 (by decide) ?_
    refine x_iload C dX9_branch_48 hL 4 rfl ?_
    refine lv_iadd hx hb dX9_branch_50 ?_
    obtain ⟨g18, hd⟩ := gd_ex hd
    obtain ⟨v20, h19, hd⟩ := bo_ex hd
    refine r_callV (a := x0) (ci := 9) (As := [.int x1, .int x2, .int x3, .int ((1 + x4))]) C (ct_X9_joined h19) mf_X9_joined ml_X9_179 mv_X9_joined rfl ⟨Nat.le_of_ble_eq_true rfl, Nat.le_of_ble_eq_true rfl⟩ dX9_branch_51 (lx_size hL) rfl hR hS g18 ⟨Nat.le_refl _, Nat.le_refl _⟩ (cat_le [] (Nat.le_of_ble_eq_true rfl)) (fun H locs hR hS => ?_)
    refine W_st (st2 := [.int v20]) rfl ?_
    cases hd
    exact r_iret C dX9_branch_54 hR hS
set_option maxHeartbeats 4000000 in
set_option maxRecDepth 100000 in
theorem k_X9_branch (C : Cx p s m args meth c RX9 cX9_branch 7 (some .int) b0 D E) {rr : Int32} {GG : Hp} {x0 : Nat} {x1 : Int32} {x2 : Int32} {x3 : Int32} {x4 : Int32} {x5 : Int32} {G : Hp} {ls : Array Slot} {H : Heap} {locs : List Loc} : lx ls 7 [(0, .inr x0), (1, .inl x1), (2, .inl x2), (3, .inl x3), (4, .inl x4), (5, .inl x5)] → Rp b0 D E G H → SS b0 s H locs → d_X9_branch x0 x1 x2 x3 x4 x5 G = some (rr, GG) → W p l e (rmd 7 (0) (0)) s m args below meth c H locs (0) (0) (MQ below (CQ b0 D E (some (.int rr)) GG) args s (0) (0) (fun q => b0 ≤ q)) (F0 m 0 ls []) := by
  intro hL hR hS hd
  unfold d_X9_branch at hd
  have hx := C.1
  have hb := C.2.1
  refine x_aload_n C dX9_branch_0 hL 0 rfl ?_
  refine x_iload_n C dX9_branch_1 hL 1 rfl ?_
  obtain ⟨g1, hd⟩ := gd_ex hd
  obtain ⟨v3, h2, hd⟩ := bo_ex hd
  refine r_callV (a := x0) (ci := 9) (As := [.int x1]) C (ct_X9_isRouter h2) mf_X9_isRouter ml_X9_112 mv_X9_isRouter rfl ⟨Nat.le_of_ble_eq_true rfl, Nat.le_of_ble_eq_true rfl⟩ dX9_branch_2 (lx_size hL) rfl hR hS g1 ⟨Nat.le_refl _, Nat.le_refl _⟩ (cat_le [] (Nat.le_of_ble_eq_true rfl)) (fun H locs hR hS => ?_)
  refine W_st (st2 := [.int v3]) rfl ?_
  refine lv_if_eq (tgt := 36) hx hb dX9_branch_5 (by decide) (fun c4 => ?_) (fun c4 => ?_)
  · rw [if_pos c4] at hd
    refine lv_iconst (v := (-1)) hx hb dX9_branch_36 (by decide) ?_
    cases hd
    exact r_iret C dX9_branch_37 hR hS
  · rw [if_neg c4] at hd
    refine x_iload_n C dX9_branch_8 hL 2 rfl ?_
    obtain ⟨v6, h5, hd⟩ := bo_ex hd
    refine r_callS (As := [.int x2]) C (ct_X9_isPort h5) mf_X9_isPort ml_X9_116 ms_X9_isPort rfl ⟨Nat.le_of_ble_eq_true rfl, Nat.le_of_ble_eq_true rfl⟩ dX9_branch_9 (lx_size hL) rfl hR hS ⟨Nat.le_refl _, Nat.le_refl _⟩ (cat_le [] (Nat.le_of_ble_eq_true rfl)) (fun H locs hR hS => ?_)
    refine W_st (st2 := [.int v6]) rfl ?_
    refine lv_if_eq (tgt := 36) hx hb dX9_branch_12 (by decide) (fun c7 => ?_) (fun c7 => ?_)
    · rw [if_pos c7] at hd
      refine lv_iconst (v := (-1)) hx hb dX9_branch_36 (by decide) ?_
      cases hd
      exact r_iret C dX9_branch_37 hR hS
    · rw [if_neg c7] at hd
      refine x_iload_n C dX9_branch_15 hL 3 rfl ?_
      obtain ⟨v9, h8, hd⟩ := bo_ex hd
      refine r_callS (As := [.int x3]) C (ct_X9_isGroup h8) mf_X9_isGroup ml_X9_132 ms_X9_isGroup rfl ⟨Nat.le_of_ble_eq_true rfl, Nat.le_of_ble_eq_true rfl⟩ dX9_branch_16 (lx_size hL) rfl hR hS ⟨Nat.le_refl _, Nat.le_refl _⟩ (cat_le [] (Nat.le_of_ble_eq_true rfl)) (fun H locs hR hS => ?_)
      refine W_st (st2 := [.int v9]) rfl ?_
      refine lv_if_eq (tgt := 36) hx hb dX9_branch_19 (by decide) (fun c10 => ?_) (fun c10 => ?_)
      · rw [if_pos c10] at hd
        refine lv_iconst (v := (-1)) hx hb dX9_branch_36 (by decide) ?_
        cases hd
        exact r_iret C dX9_branch_37 hR hS
      · rw [if_neg c10] at hd
        refine x_iload C dX9_branch_22 hL 4 rfl ?_
        refine lv_iconst (v := (-1)) hx hb dX9_branch_24 (by decide) ?_
        refine lv_icmp_eq (tgt := 38) hx hb dX9_branch_25 (by decide) (fun c11 => ?_) (fun c11 => ?_)
        · rw [if_pos c11] at hd
          exact k_X9_branch_38 C hL hR hS hd
        · rw [if_neg c11] at hd
          refine x_iload C dX9_branch_28 hL 4 rfl ?_
          obtain ⟨v13, h12, hd⟩ := bo_ex hd
          refine r_callS (As := [.int x4]) C (ct_X9_isHost h12) mf_X9_isHost ml_X9_129 ms_X9_isHost rfl ⟨Nat.le_of_ble_eq_true rfl, Nat.le_of_ble_eq_true rfl⟩ dX9_branch_30 (lx_size hL) rfl hR hS ⟨Nat.le_refl _, Nat.le_refl _⟩ (cat_le [] (Nat.le_of_ble_eq_true rfl)) (fun H locs hR hS => ?_)
          refine W_st (st2 := [.int v13]) rfl ?_
          refine lv_if_ne (tgt := 38) hx hb dX9_branch_33 (by decide) (fun c14 => ?_) (fun c14 => ?_)
          · rw [if_neg c14] at hd
            exact k_X9_branch_38 C hL hR hS hd
          · rw [if_pos c14] at hd
            refine lv_iconst (v := (-1)) hx hb dX9_branch_36 (by decide) ?_
            cases hd
            exact r_iret C dX9_branch_37 hR hS
end
set_option maxHeartbeats 4000000 in
set_option maxRecDepth 100000 in
theorem ct_X9_branch {l : Launch} {b0 : Nat} {D : va_G} {E : Nat → ClassId} {G : Hp} {a0 : Nat} {a1 : Int32} {a2 : Int32} {a3 : Int32} {a4 : Int32} {a5 : Int32} {rr : Int32} {GG : Hp} (hd : d_X9_branch a0 a1 a2 a3 a4 a5 G = some (rr, GG)) : CT l yX9_branch cX9_branch 7 (some .int) 7 0 0 b0 D E [rv a0, .int a1, .int a2, .int a3, .int a4, .int a5] G (some (.int rr)) GG := by
  refine CT_of (by decide +kernel) ?_
  intro p e s m below meth c C hnm hR
  refine r_entry [.inr a0, .inl a1, .inl a2, .inl a3, .inl a4, .inl a5] (n := 7) (Nat.le_of_ble_eq_true rfl) (lv := [(0, .inr a0), (1, .inl a1), (2, .inl a2), (3, .inl a3), (4, .inl a4), (5, .inl a5)]) rfl (fun ls hL => ?_)
  exact k_X9_branch C (lx_sub hL [0, 1, 2, 3, 4, 5] rfl) hR ⟨fun _ _ => rfl, fun _ h => by cases h⟩ hd

/-! GroveWorksModel.ofSource(II)I pure -/
theorem dX9_ofSource_0 : decode cX9_ofSource 0 = .ok (.iload_n 2, 1) := by decide +kernel
theorem dX9_ofSource_1 : decode cX9_ofSource 1 = .ok (.iconst 5, 1) := by decide +kernel
theorem dX9_ofSource_2 : decode cX9_ofSource 2 = .ok (.if_icmp .ne 19, 3) := by decide +kernel
theorem dX9_ofSource_5 : decode cX9_ofSource 5 = .ok (.aload_n 0, 1) := by decide +kernel
theorem dX9_ofSource_6 : decode cX9_ofSource 6 = .ok (.getfield 105, 3) := by decide +kernel
theorem dX9_ofSource_9 : decode cX9_ofSource 9 = .ok (.iload_n 1, 1) := by decide +kernel
theorem dX9_ofSource_10 : decode cX9_ofSource 10 = .ok (.iaload, 1) := by decide +kernel
theorem dX9_ofSource_11 : decode cX9_ofSource 11 = .ok (.iconst (-1), 1) := by decide +kernel
theorem dX9_ofSource_12 : decode cX9_ofSource 12 = .ok (.if_icmp .eq 7, 3) := by decide +kernel
theorem dX9_ofSource_15 : decode cX9_ofSource 15 = .ok (.iconst 1, 1) := by decide +kernel
theorem dX9_ofSource_16 : decode cX9_ofSource 16 = .ok (.goto 4, 3) := by decide +kernel
theorem dX9_ofSource_19 : decode cX9_ofSource 19 = .ok (.iconst 0, 1) := by decide +kernel
theorem dX9_ofSource_20 : decode cX9_ofSource 20 = .ok (.ireturn, 1) := by decide +kernel
theorem dX9_ofSource_21 : decode cX9_ofSource 21 = .ok (.iload_n 2, 1) := by decide +kernel
theorem dX9_ofSource_22 : decode cX9_ofSource 22 = .ok (.bipush 6, 2) := by decide +kernel
theorem dX9_ofSource_24 : decode cX9_ofSource 24 = .ok (.if_icmp .ne 27, 3) := by decide +kernel
theorem dX9_ofSource_27 : decode cX9_ofSource 27 = .ok (.aload_n 0, 1) := by decide +kernel
theorem dX9_ofSource_28 : decode cX9_ofSource 28 = .ok (.getfield 122, 3) := by decide +kernel
theorem dX9_ofSource_31 : decode cX9_ofSource 31 = .ok (.aload_n 0, 1) := by decide +kernel
theorem dX9_ofSource_32 : decode cX9_ofSource 32 = .ok (.getfield 99, 3) := by decide +kernel
theorem dX9_ofSource_35 : decode cX9_ofSource 35 = .ok (.iload_n 1, 1) := by decide +kernel
theorem dX9_ofSource_36 : decode cX9_ofSource 36 = .ok (.iaload, 1) := by decide +kernel
theorem dX9_ofSource_37 : decode cX9_ofSource 37 = .ok (.if_icmp .ge 12, 3) := by decide +kernel
theorem dX9_ofSource_40 : decode cX9_ofSource 40 = .ok (.aload_n 0, 1) := by decide +kernel
theorem dX9_ofSource_41 : decode cX9_ofSource 41 = .ok (.getfield 99, 3) := by decide +kernel
theorem dX9_ofSource_44 : decode cX9_ofSource 44 = .ok (.iload_n 1, 1) := by decide +kernel
theorem dX9_ofSource_45 : decode cX9_ofSource 45 = .ok (.iaload, 1) := by decide +kernel
theorem dX9_ofSource_46 : decode cX9_ofSource 46 = .ok (.goto 4, 3) := by decide +kernel
theorem dX9_ofSource_49 : decode cX9_ofSource 49 = .ok (.iconst 0, 1) := by decide +kernel
theorem dX9_ofSource_50 : decode cX9_ofSource 50 = .ok (.ireturn, 1) := by decide +kernel
theorem dX9_ofSource_51 : decode cX9_ofSource 51 = .ok (.iload_n 2, 1) := by decide +kernel
theorem dX9_ofSource_52 : decode cX9_ofSource 52 = .ok (.bipush 7, 2) := by decide +kernel
theorem dX9_ofSource_54 : decode cX9_ofSource 54 = .ok (.if_icmp .ne 27, 3) := by decide +kernel
theorem dX9_ofSource_57 : decode cX9_ofSource 57 = .ok (.aload_n 0, 1) := by decide +kernel
theorem dX9_ofSource_58 : decode cX9_ofSource 58 = .ok (.getfield 122, 3) := by decide +kernel
theorem dX9_ofSource_61 : decode cX9_ofSource 61 = .ok (.aload_n 0, 1) := by decide +kernel
theorem dX9_ofSource_62 : decode cX9_ofSource 62 = .ok (.getfield 102, 3) := by decide +kernel
theorem dX9_ofSource_65 : decode cX9_ofSource 65 = .ok (.iload_n 1, 1) := by decide +kernel
theorem dX9_ofSource_66 : decode cX9_ofSource 66 = .ok (.iaload, 1) := by decide +kernel
theorem dX9_ofSource_67 : decode cX9_ofSource 67 = .ok (.if_icmp .ge 12, 3) := by decide +kernel
theorem dX9_ofSource_70 : decode cX9_ofSource 70 = .ok (.aload_n 0, 1) := by decide +kernel
theorem dX9_ofSource_71 : decode cX9_ofSource 71 = .ok (.getfield 102, 3) := by decide +kernel
theorem dX9_ofSource_74 : decode cX9_ofSource 74 = .ok (.iload_n 1, 1) := by decide +kernel
theorem dX9_ofSource_75 : decode cX9_ofSource 75 = .ok (.iaload, 1) := by decide +kernel
theorem dX9_ofSource_76 : decode cX9_ofSource 76 = .ok (.goto 4, 3) := by decide +kernel
theorem dX9_ofSource_79 : decode cX9_ofSource 79 = .ok (.iconst 0, 1) := by decide +kernel
theorem dX9_ofSource_80 : decode cX9_ofSource 80 = .ok (.ireturn, 1) := by decide +kernel
theorem dX9_ofSource_81 : decode cX9_ofSource 81 = .ok (.iconst (-1), 1) := by decide +kernel
theorem dX9_ofSource_82 : decode cX9_ofSource 82 = .ok (.ireturn, 1) := by decide +kernel
def d_X9_ofSource (x0 : Nat) (x1 : Int32) (x2 : Int32) (G : Hp) : Option (Int32) :=
  if x2 = 5 then
    gd (hc G x0 = 10) <|
    gd (hc G ((hr G x0 39)) = 11 ∧ ix x1 (hl G ((hr G x0 39)))) <|
    if ((hi G ((hr G x0 39)) x1.toNatClampNeg)) = (-1) then
      some 0
    else
      some 1
  else
    if x2 = 6 then
      gd (hc G x0 = 10) <|
      gd (hc G ((hr G x0 37)) = 11 ∧ ix x1 (hl G ((hr G x0 37)))) <|
      if ((hi G ((hr G x0 37)) x1.toNatClampNeg)) ≤ ((hi G x0 0)) then
        some 0
      else
        gd (hc G ((hr G x0 37)) = 11 ∧ ix x1 (hl G ((hr G x0 37)))) <|
        some ((hi G ((hr G x0 37)) x1.toNatClampNeg))
    else
      if x2 = 7 then
        gd (hc G x0 = 10) <|
        gd (hc G ((hr G x0 38)) = 11 ∧ ix x1 (hl G ((hr G x0 38)))) <|
        if ((hi G ((hr G x0 38)) x1.toNatClampNeg)) ≤ ((hi G x0 0)) then
          some 0
        else
          gd (hc G ((hr G x0 38)) = 11 ∧ ix x1 (hl G ((hr G x0 38)))) <|
          some ((hi G ((hr G x0 38)) x1.toNatClampNeg))
      else
        some (-1)
section
variable {p : Program} {l : Launch} {e : Env} {s : State} {m : MethodId} {args : Array Value} {below : List Frame} {meth : Method} {c : Code} {b0 : Nat} {D : va_G} {E : Nat → ClassId}
set_option maxHeartbeats 4000000 in
set_option maxRecDepth 100000 in
theorem k_X9_ofSource (C : Cx p s m args meth c RX9 cX9_ofSource 3 (some .int) b0 D E) {rr : Int32} {G : Hp} {x0 : Nat} {x1 : Int32} {x2 : Int32} {ls : Array Slot} {H : Heap} {locs : List Loc} : lx ls 3 [(0, .inr x0), (1, .inl x1), (2, .inl x2)] → Rp b0 D E G H → SS b0 s H locs → d_X9_ofSource x0 x1 x2 G = some rr → W p l e (rmd 0 (0) (0)) s m args below meth c H locs (0) (0) (MQ below (CQ b0 D E (some (.int rr)) G) args s (0) (0) (fun q => b0 ≤ q)) (F0 m 0 ls []) := by
  intro hL hR hS hd
  unfold d_X9_ofSource at hd
  have hx := C.1
  have hb := C.2.1
  refine x_iload_n C dX9_ofSource_0 hL 2 rfl ?_
  refine lv_iconst (v := 5) hx hb dX9_ofSource_1 (by decide) ?_
  refine lv_icmp_ne (tgt := 21) hx hb dX9_ofSource_2 (by decide) (fun c1 => ?_) (fun c1 => ?_)
  · rw [if_neg c1] at hd
    refine x_iload_n C dX9_ofSource_21 hL 2 rfl ?_
    refine lv_bipush (v := 6) hx hb dX9_ofSource_22 (by decide) ?_
    refine lv_icmp_ne (tgt := 51) hx hb dX9_ofSource_24 (by decide) (fun c2 => ?_) (fun c2 => ?_)
    · rw [if_neg c2] at hd
      refine x_iload_n C dX9_ofSource_51 hL 2 rfl ?_
      refine lv_bipush (v := 7) hx hb dX9_ofSource_52 (by decide) ?_
      refine lv_icmp_ne (tgt := 81) hx hb dX9_ofSource_54 (by decide) (fun c3 => ?_) (fun c3 => ?_)
      · rw [if_neg c3] at hd
        refine lv_iconst (v := (-1)) hx hb dX9_ofSource_81 (by decide) ?_
        cases hd
        exact r_iret C dX9_ofSource_82 hR hS
      · rw [if_pos c3] at hd
        refine x_aload_n C dX9_ofSource_57 hL 0 rfl ?_
        obtain ⟨g4, hd⟩ := gd_ex hd
        refine r_geti (ci := 9) (k := 0) C fl_X9_122 rfl dX9_ofSource_58 hR g4 ?_
        refine x_aload_n C dX9_ofSource_61 hL 0 rfl ?_
        refine r_getr (ci := 9) (k := 38) C fl_X9_102 rfl dX9_ofSource_62 hR g4 ?_
        refine x_iload_n C dX9_ofSource_65 hL 1 rfl ?_
        obtain ⟨g5, hd⟩ := gd_ex hd
        refine r_iald C dX9_ofSource_66 hR g5 ?_
        refine lv_icmp_ge (tgt := 79) hx hb dX9_ofSource_67 (by decide) (fun c6 => ?_) (fun c6 => ?_)
        · rw [if_pos c6] at hd
          refine lv_iconst (v := 0) hx hb dX9_ofSource_79 (by decide) ?_
          cases hd
          exact r_iret C dX9_ofSource_80 hR hS
        · rw [if_neg c6] at hd
          refine x_aload_n C dX9_ofSource_70 hL 0 rfl ?_
          refine r_getr (ci := 9) (k := 38) C fl_X9_102 rfl dX9_ofSource_71 hR g4 ?_
          refine x_iload_n C dX9_ofSource_74 hL 1 rfl ?_
          obtain ⟨g7, hd⟩ := gd_ex hd
          refine r_iald C dX9_ofSource_75 hR g7 ?_
          refine lv_goto (tgt := 80) hx hb dX9_ofSource_76 (by decide) ?_
          cases hd
          exact r_iret C dX9_ofSource_80 hR hS
    · rw [if_pos c2] at hd
      refine x_aload_n C dX9_ofSource_27 hL 0 rfl ?_
      obtain ⟨g8, hd⟩ := gd_ex hd
      refine r_geti (ci := 9) (k := 0) C fl_X9_122 rfl dX9_ofSource_28 hR g8 ?_
      refine x_aload_n C dX9_ofSource_31 hL 0 rfl ?_
      refine r_getr (ci := 9) (k := 37) C fl_X9_99 rfl dX9_ofSource_32 hR g8 ?_
      refine x_iload_n C dX9_ofSource_35 hL 1 rfl ?_
      obtain ⟨g9, hd⟩ := gd_ex hd
      refine r_iald C dX9_ofSource_36 hR g9 ?_
      refine lv_icmp_ge (tgt := 49) hx hb dX9_ofSource_37 (by decide) (fun c10 => ?_) (fun c10 => ?_)
      · rw [if_pos c10] at hd
        refine lv_iconst (v := 0) hx hb dX9_ofSource_49 (by decide) ?_
        cases hd
        exact r_iret C dX9_ofSource_50 hR hS
      · rw [if_neg c10] at hd
        refine x_aload_n C dX9_ofSource_40 hL 0 rfl ?_
        refine r_getr (ci := 9) (k := 37) C fl_X9_99 rfl dX9_ofSource_41 hR g8 ?_
        refine x_iload_n C dX9_ofSource_44 hL 1 rfl ?_
        obtain ⟨g11, hd⟩ := gd_ex hd
        refine r_iald C dX9_ofSource_45 hR g11 ?_
        refine lv_goto (tgt := 50) hx hb dX9_ofSource_46 (by decide) ?_
        cases hd
        exact r_iret C dX9_ofSource_50 hR hS
  · rw [if_pos c1] at hd
    refine x_aload_n C dX9_ofSource_5 hL 0 rfl ?_
    obtain ⟨g12, hd⟩ := gd_ex hd
    refine r_getr (ci := 9) (k := 39) C fl_X9_105 rfl dX9_ofSource_6 hR g12 ?_
    refine x_iload_n C dX9_ofSource_9 hL 1 rfl ?_
    obtain ⟨g13, hd⟩ := gd_ex hd
    refine r_iald C dX9_ofSource_10 hR g13 ?_
    refine lv_iconst (v := (-1)) hx hb dX9_ofSource_11 (by decide) ?_
    refine lv_icmp_eq (tgt := 19) hx hb dX9_ofSource_12 (by decide) (fun c14 => ?_) (fun c14 => ?_)
    · rw [if_pos c14] at hd
      refine lv_iconst (v := 0) hx hb dX9_ofSource_19 (by decide) ?_
      cases hd
      exact r_iret C dX9_ofSource_20 hR hS
    · rw [if_neg c14] at hd
      refine lv_iconst (v := 1) hx hb dX9_ofSource_15 (by decide) ?_
      refine lv_goto (tgt := 20) hx hb dX9_ofSource_16 (by decide) ?_
      cases hd
      exact r_iret C dX9_ofSource_20 hR hS
end
set_option maxHeartbeats 4000000 in
set_option maxRecDepth 100000 in
theorem ct_X9_ofSource {l : Launch} {b0 : Nat} {D : va_G} {E : Nat → ClassId} {G : Hp} {a0 : Nat} {a1 : Int32} {a2 : Int32} {rr : Int32} (hd : d_X9_ofSource a0 a1 a2 G = some rr) : CT l yX9_ofSource cX9_ofSource 3 (some .int) 0 0 0 b0 D E [rv a0, .int a1, .int a2] G (some (.int rr)) G := by
  refine CT_of (by decide +kernel) ?_
  intro p e s m below meth c C hnm hR
  refine r_entry [.inr a0, .inl a1, .inl a2] (n := 3) (Nat.le_of_ble_eq_true rfl) (lv := [(0, .inr a0), (1, .inl a1), (2, .inl a2)]) rfl (fun ls hL => ?_)
  exact k_X9_ofSource C (lx_sub hL [0, 1, 2] rfl) hR ⟨fun _ _ => rfl, fun _ h => by cases h⟩ hd

/-! GroveWorksModel.tree(IIII)I -/
theorem dX9_tree_0 : decode cX9_tree 0 = .ok (.aload_n 0, 1) := by decide +kernel
theorem dX9_tree_1 : decode cX9_tree 1 = .ok (.iload_n 1, 1) := by decide +kernel
theorem dX9_tree_2 : decode cX9_tree 2 = .ok (.invokevirtual 112, 3) := by decide +kernel
theorem dX9_tree_5 : decode cX9_tree 5 = .ok (.ifCond .eq 22, 3) := by decide +kernel
theorem dX9_tree_8 : decode cX9_tree 8 = .ok (.iload_n 2, 1) := by decide +kernel
theorem dX9_tree_9 : decode cX9_tree 9 = .ok (.invokestatic 132, 3) := by decide +kernel
theorem dX9_tree_12 : decode cX9_tree 12 = .ok (.ifCond .eq 15, 3) := by decide +kernel
theorem dX9_tree_15 : decode cX9_tree 15 = .ok (.iload_n 3, 1) := by decide +kernel
theorem dX9_tree_16 : decode cX9_tree 16 = .ok (.iconst (-1), 1) := by decide +kernel
theorem dX9_tree_17 : decode cX9_tree 17 = .ok (.if_icmp .eq 12, 3) := by decide +kernel
theorem dX9_tree_20 : decode cX9_tree 20 = .ok (.iload_n 3, 1) := by decide +kernel
theorem dX9_tree_21 : decode cX9_tree 21 = .ok (.invokestatic 129, 3) := by decide +kernel
theorem dX9_tree_24 : decode cX9_tree 24 = .ok (.ifCond .ne 5, 3) := by decide +kernel
theorem dX9_tree_27 : decode cX9_tree 27 = .ok (.iconst (-1), 1) := by decide +kernel
theorem dX9_tree_28 : decode cX9_tree 28 = .ok (.ireturn, 1) := by decide +kernel
theorem dX9_tree_29 : decode cX9_tree 29 = .ok (.bipush 17, 2) := by decide +kernel
theorem dX9_tree_31 : decode cX9_tree 31 = .ok (.bipush 8, 2) := by decide +kernel
theorem dX9_tree_33 : decode cX9_tree 33 = .ok (.iload_n 1, 1) := by decide +kernel
theorem dX9_tree_34 : decode cX9_tree 34 = .ok (.imul, 1) := by decide +kernel
theorem dX9_tree_35 : decode cX9_tree 35 = .ok (.iload_n 2, 1) := by decide +kernel
theorem dX9_tree_36 : decode cX9_tree 36 = .ok (.iadd, 1) := by decide +kernel
theorem dX9_tree_37 : decode cX9_tree 37 = .ok (.imul, 1) := by decide +kernel
theorem dX9_tree_38 : decode cX9_tree 38 = .ok (.iconst 1, 1) := by decide +kernel
theorem dX9_tree_39 : decode cX9_tree 39 = .ok (.iadd, 1) := by decide +kernel
theorem dX9_tree_40 : decode cX9_tree 40 = .ok (.iload_n 3, 1) := by decide +kernel
theorem dX9_tree_41 : decode cX9_tree 41 = .ok (.iadd, 1) := by decide +kernel
theorem dX9_tree_42 : decode cX9_tree 42 = .ok (.istore 5, 2) := by decide +kernel
theorem dX9_tree_44 : decode cX9_tree 44 = .ok (.iload 4, 2) := by decide +kernel
theorem dX9_tree_46 : decode cX9_tree 46 = .ok (.tableswitch 132 0 4 #[34, 52, 60, 68, 90], 34) := by decide +kernel
theorem dX9_tree_80 : decode cX9_tree 80 = .ok (.aload_n 0, 1) := by decide +kernel
theorem dX9_tree_81 : decode cX9_tree 81 = .ok (.iload_n 1, 1) := by decide +kernel
theorem dX9_tree_82 : decode cX9_tree 82 = .ok (.iload_n 2, 1) := by decide +kernel
theorem dX9_tree_83 : decode cX9_tree 83 = .ok (.iconst 1, 1) := by decide +kernel
theorem dX9_tree_84 : decode cX9_tree 84 = .ok (.iload_n 3, 1) := by decide +kernel
theorem dX9_tree_85 : decode cX9_tree 85 = .ok (.iadd, 1) := by decide +kernel
theorem dX9_tree_86 : decode cX9_tree 86 = .ok (.invokevirtual 331, 3) := by decide +kernel
theorem dX9_tree_89 : decode cX9_tree 89 = .ok (.ifCond .eq 7, 3) := by decide +kernel
theorem dX9_tree_92 : decode cX9_tree 92 = .ok (.iconst 1, 1) := by decide +kernel
theorem dX9_tree_93 : decode cX9_tree 93 = .ok (.goto 4, 3) := by decide +kernel
theorem dX9_tree_96 : decode cX9_tree 96 = .ok (.iconst 0, 1) := by decide +kernel
theorem dX9_tree_97 : decode cX9_tree 97 = .ok (.ireturn, 1) := by decide +kernel
theorem dX9_tree_98 : decode cX9_tree 98 = .ok (.aload_n 0, 1) := by decide +kernel
theorem dX9_tree_99 : decode cX9_tree 99 = .ok (.getfield 90, 3) := by decide +kernel
theorem dX9_tree_102 : decode cX9_tree 102 = .ok (.iload 5, 2) := by decide +kernel
theorem dX9_tree_104 : decode cX9_tree 104 = .ok (.iaload, 1) := by decide +kernel
theorem dX9_tree_105 : decode cX9_tree 105 = .ok (.ireturn, 1) := by decide +kernel
theorem dX9_tree_106 : decode cX9_tree 106 = .ok (.aload_n 0, 1) := by decide +kernel
theorem dX9_tree_107 : decode cX9_tree 107 = .ok (.getfield 87, 3) := by decide +kernel
theorem dX9_tree_110 : decode cX9_tree 110 = .ok (.iload 5, 2) := by decide +kernel
theorem dX9_tree_112 : decode cX9_tree 112 = .ok (.iaload, 1) := by decide +kernel
theorem dX9_tree_113 : decode cX9_tree 113 = .ok (.ireturn, 1) := by decide +kernel
theorem dX9_tree_114 : decode cX9_tree 114 = .ok (.iload_n 3, 1) := by decide +kernel
theorem dX9_tree_115 : decode cX9_tree 115 = .ok (.iconst (-1), 1) := by decide +kernel
theorem dX9_tree_116 : decode cX9_tree 116 = .ok (.if_icmp .ne 12, 3) := by decide +kernel
theorem dX9_tree_119 : decode cX9_tree 119 = .ok (.aload_n 0, 1) := by decide +kernel
theorem dX9_tree_120 : decode cX9_tree 120 = .ok (.iload_n 1, 1) := by decide +kernel
theorem dX9_tree_121 : decode cX9_tree 121 = .ok (.iload_n 2, 1) := by decide +kernel
theorem dX9_tree_122 : decode cX9_tree 122 = .ok (.invokevirtual 229, 3) := by decide +kernel
theorem dX9_tree_125 : decode cX9_tree 125 = .ok (.goto 10, 3) := by decide +kernel
theorem dX9_tree_128 : decode cX9_tree 128 = .ok (.aload_n 0, 1) := by decide +kernel
theorem dX9_tree_129 : decode cX9_tree 129 = .ok (.iload_n 1, 1) := by decide +kernel
theorem dX9_tree_130 : decode cX9_tree 130 = .ok (.iload_n 2, 1) := by decide +kernel
theorem dX9_tree_131 : decode cX9_tree 131 = .ok (.iload_n 3, 1) := by decide +kernel
theorem dX9_tree_132 : decode cX9_tree 132 = .ok (.invokevirtual 223, 3) := by decide +kernel
theorem dX9_tree_135 : decode cX9_tree 135 = .ok (.ireturn, 1) := by decide +kernel
theorem dX9_tree_136 : decode cX9_tree 136 = .ok (.iload_n 3, 1) := by decide +kernel
theorem dX9_tree_137 : decode cX9_tree 137 = .ok (.iconst (-1), 1) := by decide +kernel
theorem dX9_tree_138 : decode cX9_tree 138 = .ok (.if_icmp .ne 32, 3) := by decide +kernel
theorem dX9_tree_141 : decode cX9_tree 141 = .ok (.aload_n 0, 1) := by decide +kernel
theorem dX9_tree_142 : decode cX9_tree 142 = .ok (.getfield 87, 3) := by decide +kernel
theorem dX9_tree_145 : decode cX9_tree 145 = .ok (.iload 5, 2) := by decide +kernel
theorem dX9_tree_147 : decode cX9_tree 147 = .ok (.iaload, 1) := by decide +kernel
theorem dX9_tree_148 : decode cX9_tree 148 = .ok (.iconst (-1), 1) := by decide +kernel
theorem dX9_tree_149 : decode cX9_tree 149 = .ok (.if_icmp .ne 7, 3) := by decide +kernel
theorem dX9_tree_152 : decode cX9_tree 152 = .ok (.iconst 0, 1) := by decide +kernel
theorem dX9_tree_153 : decode cX9_tree 153 = .ok (.goto 24, 3) := by decide +kernel
theorem dX9_tree_156 : decode cX9_tree 156 = .ok (.aload_n 0, 1) := by decide +kernel
theorem dX9_tree_157 : decode cX9_tree 157 = .ok (.getfield 96, 3) := by decide +kernel
theorem dX9_tree_160 : decode cX9_tree 160 = .ok (.bipush 8, 2) := by decide +kernel
theorem dX9_tree_162 : decode cX9_tree 162 = .ok (.iload_n 1, 1) := by decide +kernel
theorem dX9_tree_163 : decode cX9_tree 163 = .ok (.imul, 1) := by decide +kernel
theorem dX9_tree_164 : decode cX9_tree 164 = .ok (.iload_n 2, 1) := by decide +kernel
theorem dX9_tree_165 : decode cX9_tree 165 = .ok (.iadd, 1) := by decide +kernel
theorem dX9_tree_166 : decode cX9_tree 166 = .ok (.iaload, 1) := by decide +kernel
theorem dX9_tree_167 : decode cX9_tree 167 = .ok (.goto 10, 3) := by decide +kernel
theorem dX9_tree_170 : decode cX9_tree 170 = .ok (.aload_n 0, 1) := by decide +kernel
theorem dX9_tree_171 : decode cX9_tree 171 = .ok (.iload_n 1, 1) := by decide +kernel
theorem dX9_tree_172 : decode cX9_tree 172 = .ok (.iload_n 2, 1) := by decide +kernel
theorem dX9_tree_173 : decode cX9_tree 173 = .ok (.iload_n 3, 1) := by decide +kernel
theorem dX9_tree_174 : decode cX9_tree 174 = .ok (.invokevirtual 235, 3) := by decide +kernel
theorem dX9_tree_177 : decode cX9_tree 177 = .ok (.ireturn, 1) := by decide +kernel
theorem dX9_tree_178 : decode cX9_tree 178 = .ok (.iload_n 3, 1) := by decide +kernel
theorem dX9_tree_179 : decode cX9_tree 179 = .ok (.iconst (-1), 1) := by decide +kernel
theorem dX9_tree_180 : decode cX9_tree 180 = .ok (.if_icmp .ne 7, 3) := by decide +kernel
theorem dX9_tree_183 : decode cX9_tree 183 = .ok (.iconst (-1), 1) := by decide +kernel
theorem dX9_tree_184 : decode cX9_tree 184 = .ok (.goto 20, 3) := by decide +kernel
theorem dX9_tree_187 : decode cX9_tree 187 = .ok (.aload_n 0, 1) := by decide +kernel
theorem dX9_tree_188 : decode cX9_tree 188 = .ok (.bipush 16, 2) := by decide +kernel
theorem dX9_tree_190 : decode cX9_tree 190 = .ok (.bipush 8, 2) := by decide +kernel
theorem dX9_tree_192 : decode cX9_tree 192 = .ok (.iload_n 1, 1) := by decide +kernel
theorem dX9_tree_193 : decode cX9_tree 193 = .ok (.imul, 1) := by decide +kernel
theorem dX9_tree_194 : decode cX9_tree 194 = .ok (.iload_n 2, 1) := by decide +kernel
theorem dX9_tree_195 : decode cX9_tree 195 = .ok (.iadd, 1) := by decide +kernel
theorem dX9_tree_196 : decode cX9_tree 196 = .ok (.imul, 1) := by decide +kernel
theorem dX9_tree_197 : decode cX9_tree 197 = .ok (.iload_n 3, 1) := by decide +kernel
theorem dX9_tree_198 : decode cX9_tree 198 = .ok (.iadd, 1) := by decide +kernel
theorem dX9_tree_199 : decode cX9_tree 199 = .ok (.iload 4, 2) := by decide +kernel
theorem dX9_tree_201 : decode cX9_tree 201 = .ok (.invokevirtual 362, 3) := by decide +kernel
theorem dX9_tree_204 : decode cX9_tree 204 = .ok (.ireturn, 1) := by decide +kernel
def d_X9_tree_29 (x0 : Nat) (x1 : Int32) (x2 : Int32) (x3 : Int32) (x4 : Int32) (G : Hp) : Option (Int32 × Hp) :=
  bd ((((((17 * ((((8 * x1)) + x2)))) + 1)) + x3)) fun v1 =>
  if x4 = 0 then
    gd (hc G x0 = 10) <|
    b2 (d_X9_wants x0 x1 x2 ((1 + x3)) G) fun v5 G6 =>
    if v5 = 0 then
      some (0, G6)
    else
      some (1, G6)
  else
  if x4 = 1 then
    gd (hc G x0 = 10) <|
    gd (hc G ((hr G x0 34)) = 11 ∧ ix v1 (hl G ((hr G x0 34)))) <|
    some ((hi G ((hr G x0 34)) v1.toNatClampNeg), G)
  else
  if x4 = 2 then
    gd (hc G x0 = 10) <|
    gd (hc G ((hr G x0 33)) = 11 ∧ ix v1 (hl G ((hr G x0 33)))) <|
    some ((hi G ((hr G x0 33)) v1.toNatClampNeg), G)
  else
  if x4 = 3 then
    if x3 = (-1) then
      gd (hc G x0 = 10) <|
      bo (d_X9_base x0 x1 x2 G) fun v19 =>
      some (v19, G)
    else
      gd (hc G x0 = 10) <|
      b2 (d_X9_all x0 x1 x2 x3 G) fun v15 G16 =>
      some (v15, G16)
  else
  if x4 = 4 then
    if x3 = (-1) then
      gd (hc G x0 = 10) <|
      gd (hc G ((hr G x0 33)) = 11 ∧ ix v1 (hl G ((hr G x0 33)))) <|
      if ((hi G ((hr G x0 33)) v1.toNatClampNeg)) = (-1) then
        some (0, G)
      else
        gd (hc G ((hr G x0 36)) = 11 ∧ ix ((((8 * x1)) + x2)) (hl G ((hr G x0 36)))) <|
        some ((hi G ((hr G x0 36)) ((((8 * x1)) + x2)).toNatClampNeg), G)
    else
      gd (hc G x0 = 10) <|
      b2 (d_X9_shared x0 x1 x2 x3 G) fun v23 G24 =>
      some (v23, G24)
  else
  if x3 = (-1) then
    some ((-1), G)
  else
    gd (hc G x0 = 10) <|
    bo (d_X9_ofSource x0 ((((16 * ((((8 * x1)) + x2)))) + x3)) x4 G) fun v32 =>
    some (v32, G)
def d_X9_tree (x0 : Nat) (x1 : Int32) (x2 : Int32) (x3 : Int32) (x4 : Int32) (G : Hp) : Option (Int32 × Hp) :=
  gd (hc G x0 = 10) <|
  bo (d_X9_isRouter x0 x1 G) fun v3 =>
  if v3 = 0 then
    some ((-1), G)
  else
    bo (d_X9_isGroup x2 G) fun v6 =>
    if v6 = 0 then
      some ((-1), G)
    else
      if x3 = (-1) then
        d_X9_tree_29 x0 x1 x2 x3 x4 G
      else
        bo (d_X9_isHost x3 G) fun v10 =>
        if v10 = 0 then
          some ((-1), G)
        else
          d_X9_tree_29 x0 x1 x2 x3 x4 G
section
variable {p : Program} {l : Launch} {e : Env} {s : State} {m : MethodId} {args : Array Value} {below : List Frame} {meth : Method} {c : Code} {b0 : Nat} {D : va_G} {E : Nat → ClassId}
set_option maxHeartbeats 4000000 in
set_option maxRecDepth 100000 in
theorem k_X9_tree_29 (C : Cx p s m args meth c RX9 cX9_tree 6 (some .int) b0 D E) {rr : Int32} {GG : Hp} {x0 : Nat} {x1 : Int32} {x2 : Int32} {x3 : Int32} {x4 : Int32} {G : Hp} {ls : Array Slot} {H : Heap} {locs : List Loc} : lx ls 6 [(0, .inr x0), (1, .inl x1), (2, .inl x2), (3, .inl x3), (4, .inl x4)] → Rp b0 D E G H → SS b0 s H locs → d_X9_tree_29 x0 x1 x2 x3 x4 G = some (rr, GG) → W p l e (rmd 12 (0) (0)) s m args below meth c H locs (0) (0) (MQ below (CQ b0 D E (some (.int rr)) GG) args s (0) (0) (fun q => b0 ≤ q)) (F0 m 29 ls []) := by
  intro hL hR hS hd
  unfold d_X9_tree_29 at hd
  have hx := C.1
  have hb := C.2.1
  refine lv_bipush (v := 17) hx hb dX9_tree_29 (by decide) ?_
  refine lv_bipush (v := 8) hx hb dX9_tree_31 (by decide) ?_
  refine x_iload_n C dX9_tree_33 hL 1 rfl ?_
  refine lv_imul hx hb dX9_tree_34 ?_
  refine x_iload_n C dX9_tree_35 hL 2 rfl ?_
  refine lv_iadd hx hb dX9_tree_36 ?_
  refine lv_imul hx hb dX9_tree_37 ?_
  refine lv_iconst (v := 1) hx hb dX9_tree_38 (by decide) ?_
  refine lv_iadd hx hb dX9_tree_39 ?_
  refine x_iload_n C dX9_tree_40 hL 3 rfl ?_
  refine lv_iadd hx hb dX9_tree_41 ?_
  obtain ⟨v1, ev1, hd⟩ := bd_ex hd
  rw [← ev1]
  refine x_istore (lv' := [(5, .inl v1), (0, .inr x0), (1, .inl x1), (2, .inl x2), (3, .inl x3), (4, .inl x4)]) C dX9_tree_42 hL (by decide) rfl (fun ls hL => ?_)
  refine x_iload C dX9_tree_44 hL 5 rfl ?_
  by_cases c2_0 : x4 = 0
  · rw [if_pos c2_0] at hd
    rw [c2_0]
    refine lv_tableIn (tgt := 80) hx hb dX9_tree_46 (by decide) (by decide) rfl (by decide) ?_
    refine x_aload_n C dX9_tree_80 hL 1 rfl ?_
    refine x_iload_n C dX9_tree_81 hL 2 rfl ?_
    refine x_iload_n C dX9_tree_82 hL 3 rfl ?_
    refine lv_iconst (v := 1) hx hb dX9_tree_83 (by decide) ?_
    refine x_iload_n C dX9_tree_84 hL 4 rfl ?_
    refine lv_iadd hx hb dX9_tree_85 ?_
    obtain ⟨g3, hd⟩ := gd_ex hd
    obtain ⟨v5, G6, h4, hd⟩ := b2_ex hd
    refine r_callV (a := x0) (ci := 9) (As := [.int x1, .int x2, .int ((1 + x3))]) C (ct_X9_wants h4) mf_X9_wants ml_X9_331 mv_X9_wants rfl ⟨Nat.le_of_ble_eq_true rfl, Nat.le_of_ble_eq_true rfl⟩ dX9_tree_86 (lx_size hL) rfl hR hS g3 ⟨Nat.le_refl _, Nat.le_refl _⟩ (cat_le [] (Nat.le_of_ble_eq_true rfl)) (fun H locs hR hS => ?_)
    refine W_st (st2 := [.int v5]) rfl ?_
    refine lv_if_eq (tgt := 96) hx hb dX9_tree_89 (by decide) (fun c7 => ?_) (fun c7 => ?_)
    · rw [if_pos c7] at hd
      refine lv_iconst (v := 0) hx hb dX9_tree_96 (by decide) ?_
      cases hd
      exact r_iret C dX9_tree_97 hR hS
    · rw [if_neg c7] at hd
      refine lv_iconst (v := 1) hx hb dX9_tree_92 (by decide) ?_
      refine lv_goto (tgt := 97) hx hb dX9_tree_93 (by decide) ?_
      cases hd
      exact r_iret C dX9_tree_97 hR hS
  rw [if_neg c2_0] at hd
  by_cases c2_1 : x4 = 1
  · rw [if_pos c2_1] at hd
    rw [c2_1]
    refine lv_tableIn (tgt := 98) hx hb dX9_tree_46 (by decide) (by decide) rfl (by decide) ?_
    refine x_aload_n C dX9_tree_98 hL 1 rfl ?_
    obtain ⟨g8, hd⟩ := gd_ex hd
    refine r_getr (ci := 9) (k := 34) C fl_X9_90 rfl dX9_tree_99 hR g8 ?_
    refine x_iload C dX9_tree_102 hL 0 rfl ?_
    obtain ⟨g9, hd⟩ := gd_ex hd
    refine r_iald C dX9_tree_104 hR g9 ?_
    cases hd
    exact r_iret C dX9_tree_105 hR hS
  rw [if_neg c2_1] at hd
  by_cases c2_2 : x4 = 2
  · rw [if_pos c2_2] at hd
    rw [c2_2]
    refine lv_tableIn (tgt := 106) hx hb dX9_tree_46 (by decide) (by decide) rfl (by decide) ?_
    refine x_aload_n C dX9_tree_106 hL 1 rfl ?_
    obtain ⟨g10, hd⟩ := gd_ex hd
    refine r_getr (ci := 9) (k := 33) C fl_X9_87 rfl dX9_tree_107 hR g10 ?_
    refine x_iload C dX9_tree_110 hL 0 rfl ?_
    obtain ⟨g11, hd⟩ := gd_ex hd
    refine r_iald C dX9_tree_112 hR g11 ?_
    cases hd
    exact r_iret C dX9_tree_113 hR hS
  rw [if_neg c2_2] at hd
  by_cases c2_3 : x4 = 3
  · rw [if_pos c2_3] at hd
    rw [c2_3]
    refine lv_tableIn (tgt := 114) hx hb dX9_tree_46 (by decide) (by decide) rfl (by decide) ?_
    refine x_iload_n C dX9_tree_114 hL 4 rfl ?_
    refine lv_iconst (v := (-1)) hx hb dX9_tree_115 (by decide) ?_
    refine lv_icmp_ne (tgt := 128) hx hb dX9_tree_116 (by decide) (fun c12 => ?_) (fun c12 => ?_)
    · rw [if_neg c12] at hd
      refine x_aload_n C dX9_tree_128 hL 1 rfl ?_
      refine x_iload_n C dX9_tree_129 hL 2 rfl ?_
      refine x_iload_n C dX9_tree_130 hL 3 rfl ?_
      refine x_iload_n C dX9_tree_131 hL 4 rfl ?_
      obtain ⟨g13, hd⟩ := gd_ex hd
      obtain ⟨v15, G16, h14, hd⟩ := b2_ex hd
      refine r_callV (a := x0) (ci := 9) (As := [.int x1, .int x2, .int x3]) C (ct_X9_all h14) mf_X9_all ml_X9_223 mv_X9_all rfl ⟨Nat.le_of_ble_eq_true rfl, Nat.le_of_ble_eq_true rfl⟩ dX9_tree_132 (lx_size hL) rfl hR hS g13 ⟨Nat.le_refl _, Nat.le_refl _⟩ (cat_le [] (Nat.le_of_ble_eq_true rfl)) (fun H locs hR hS => ?_)
      refine W_st (st2 := [.int v15]) rfl ?_
      cases hd
      exact r_iret C dX9_tree_135 hR hS
    · rw [if_pos c12] at hd
      refine x_aload_n C dX9_tree_119 hL 1 rfl ?_
      refine x_iload_n C dX9_tree_120 hL 2 rfl ?_
      refine x_iload_n C dX9_tree_121 hL 3 rfl ?_
      obtain ⟨g17, hd⟩ := gd_ex hd
      obtain ⟨v19, h18, hd⟩ := bo_ex hd
      refine r_callV (a := x0) (ci := 9) (As := [.int x1, .int x2]) C (ct_X9_base h18) mf_X9_base ml_X9_229 mv_X9_base rfl ⟨Nat.le_of_ble_eq_true rfl, Nat.le_of_ble_eq_true rfl⟩ dX9_tree_122 (lx_size hL) rfl hR hS g17 ⟨Nat.le_refl _, Nat.le_refl _⟩ (cat_le [] (Nat.le_of_ble_eq_true rfl)) (fun H locs hR hS => ?_)
      refine W_st (st2 := [.int v19]) rfl ?_
      refine lv_goto (tgt := 135) hx hb dX9_tree_125 (by decide) ?_
      cases hd
      exact r_iret C dX9_tree_135 hR hS
  rw [if_neg c2_3] at hd
  by_cases c2_4 : x4 = 4
  · rw [if_pos c2_4] at hd
    rw [c2_4]
    refine lv_tableIn (tgt := 136) hx hb dX9_tree_46 (by decide) (by decide) rfl (by decide) ?_
    refine x_iload_n C dX9_tree_136 hL 4 rfl ?_
    refine lv_iconst (v := (-1)) hx hb dX9_tree_137 (by decide) ?_
    refine lv_icmp_ne (tgt := 170) hx hb dX9_tree_138 (by decide) (fun c20 => ?_) (fun c20 => ?_)
    · rw [if_neg c20] at hd
      refine x_aload_n C dX9_tree_170 hL 1 rfl ?_
      refine x_iload_n C dX9_tree_171 hL 2 rfl ?_
      refine x_iload_n C dX9_tree_172 hL 3 rfl ?_
      refine x_iload_n C dX9_tree_173 hL 4 rfl ?_
      obtain ⟨g21, hd⟩ := gd_ex hd
      obtain ⟨v23, G24, h22, hd⟩ := b2_ex hd
      refine r_callV (a := x0) (ci := 9) (As := [.int x1, .int x2, .int x3]) C (ct_X9_shared h22) mf_X9_shared ml_X9_235 mv_X9_shared rfl ⟨Nat.le_of_ble_eq_true rfl, Nat.le_of_ble_eq_true rfl⟩ dX9_tree_174 (lx_size hL) rfl hR hS g21 ⟨Nat.le_refl _, Nat.le_refl _⟩ (cat_le [] (Nat.le_of_ble_eq_true rfl)) (fun H locs hR hS => ?_)
      refine W_st (st2 := [.int v23]) rfl ?_
      cases hd
      exact r_iret C dX9_tree_177 hR hS
    · rw [if_pos c20] at hd
      refine x_aload_n C dX9_tree_141 hL 1 rfl ?_
      obtain ⟨g25, hd⟩ := gd_ex hd
      refine r_getr (ci := 9) (k := 33) C fl_X9_87 rfl dX9_tree_142 hR g25 ?_
      refine x_iload C dX9_tree_145 hL 0 rfl ?_
      obtain ⟨g26, hd⟩ := gd_ex hd
      refine r_iald C dX9_tree_147 hR g26 ?_
      refine lv_iconst (v := (-1)) hx hb dX9_tree_148 (by decide) ?_
      refine lv_icmp_ne (tgt := 156) hx hb dX9_tree_149 (by decide) (fun c27 => ?_) (fun c27 => ?_)
      · rw [if_neg c27] at hd
        refine x_aload_n C dX9_tree_156 hL 1 rfl ?_
        refine r_getr (ci := 9) (k := 36) C fl_X9_96 rfl dX9_tree_157 hR g25 ?_
        refine lv_bipush (v := 8) hx hb dX9_tree_160 (by decide) ?_
        refine x_iload_n C dX9_tree_162 hL 2 rfl ?_
        refine lv_imul hx hb dX9_tree_163 ?_
        refine x_iload_n C dX9_tree_164 hL 3 rfl ?_
        refine lv_iadd hx hb dX9_tree_165 ?_
        obtain ⟨g28, hd⟩ := gd_ex hd
        refine r_iald C dX9_tree_166 hR g28 ?_
        refine lv_goto (tgt := 177) hx hb dX9_tree_167 (by decide) ?_
        cases hd
        exact r_iret C dX9_tree_177 hR hS
      · rw [if_pos c27] at hd
        refine lv_iconst (v := 0) hx hb dX9_tree_152 (by decide) ?_
        refine lv_goto (tgt := 177) hx hb dX9_tree_153 (by decide) ?_
        cases hd
        exact r_iret C dX9_tree_177 hR hS
  rw [if_neg c2_4] at hd
  have z_0 := i32_ne c2_0
  have z_1 := i32_ne c2_1
  have z_2 := i32_ne c2_2
  have z_3 := i32_ne c2_3
  have z_4 := i32_ne c2_4
  refine lv_tableOut (tgt := 178) hx hb dX9_tree_46 (by simp only [show ((0 : Int32)).toInt = 0 from rfl, show ((1 : Int32)).toInt = 1 from rfl, show ((2 : Int32)).toInt = 2 from rfl, show ((3 : Int32)).toInt = 3 from rfl, show ((4 : Int32)).toInt = 4 from rfl] at z_0 z_1 z_2 z_3 z_4; omega) (by decide) ?_
  refine x_iload_n C dX9_tree_178 hL 4 rfl ?_
  refine lv_iconst (v := (-1)) hx hb dX9_tree_179 (by decide) ?_
  refine lv_icmp_ne (tgt := 187) hx hb dX9_tree_180 (by decide) (fun c29 => ?_) (fun c29 => ?_)
  · rw [if_neg c29] at hd
    refine x_aload_n C dX9_tree_187 hL 1 rfl ?_
    refine lv_bipush (v := 16) hx hb dX9_tree_188 (by decide) ?_
    refine lv_bipush (v := 8) hx hb dX9_tree_190 (by decide) ?_
    refine x_iload_n C dX9_tree_192 hL 2 rfl ?_
    refine lv_imul hx hb dX9_tree_193 ?_
    refine x_iload_n C dX9_tree_194 hL 3 rfl ?_
    refine lv_iadd hx hb dX9_tree_195 ?_
    refine lv_imul hx hb dX9_tree_196 ?_
    refine x_iload_n C dX9_tree_197 hL 4 rfl ?_
    refine lv_iadd hx hb dX9_tree_198 ?_
    refine x_iload C dX9_tree_199 hL 5 rfl ?_
    obtain ⟨g30, hd⟩ := gd_ex hd
    obtain ⟨v32, h31, hd⟩ := bo_ex hd
    refine r_callV (a := x0) (ci := 9) (As := [.int ((((16 * ((((8 * x1)) + x2)))) + x3)), .int x4]) C (ct_X9_ofSource h31) mf_X9_ofSource ml_X9_362 mv_X9_ofSource rfl ⟨Nat.le_of_ble_eq_true rfl, Nat.le_of_ble_eq_true rfl⟩ dX9_tree_201 (lx_size hL) rfl hR hS g30 ⟨Nat.le_refl _, Nat.le_refl _⟩ (cat_le [] (Nat.le_of_ble_eq_true rfl)) (fun H locs hR hS => ?_)
    refine W_st (st2 := [.int v32]) rfl ?_
    cases hd
    exact r_iret C dX9_tree_204 hR hS
  · rw [if_pos c29] at hd
    refine lv_iconst (v := (-1)) hx hb dX9_tree_183 (by decide) ?_
    refine lv_goto (tgt := 204) hx hb dX9_tree_184 (by decide) ?_
    cases hd
    exact r_iret C dX9_tree_204 hR hS
set_option maxHeartbeats 4000000 in
set_option maxRecDepth 100000 in
theorem k_X9_tree (C : Cx p s m args meth c RX9 cX9_tree 6 (some .int) b0 D E) {rr : Int32} {GG : Hp} {x0 : Nat} {x1 : Int32} {x2 : Int32} {x3 : Int32} {x4 : Int32} {G : Hp} {ls : Array Slot} {H : Heap} {locs : List Loc} : lx ls 6 [(0, .inr x0), (1, .inl x1), (2, .inl x2), (3, .inl x3), (4, .inl x4)] → Rp b0 D E G H → SS b0 s H locs → d_X9_tree x0 x1 x2 x3 x4 G = some (rr, GG) → W p l e (rmd 12 (0) (0)) s m args below meth c H locs (0) (0) (MQ below (CQ b0 D E (some (.int rr)) GG) args s (0) (0) (fun q => b0 ≤ q)) (F0 m 0 ls []) := by
  intro hL hR hS hd
  unfold d_X9_tree at hd
  have hx := C.1
  have hb := C.2.1
  refine x_aload_n C dX9_tree_0 hL 0 rfl ?_
  refine x_iload_n C dX9_tree_1 hL 1 rfl ?_
  obtain ⟨g1, hd⟩ := gd_ex hd
  obtain ⟨v3, h2, hd⟩ := bo_ex hd
  refine r_callV (a := x0) (ci := 9) (As := [.int x1]) C (ct_X9_isRouter h2) mf_X9_isRouter ml_X9_112 mv_X9_isRouter rfl ⟨Nat.le_of_ble_eq_true rfl, Nat.le_of_ble_eq_true rfl⟩ dX9_tree_2 (lx_size hL) rfl hR hS g1 ⟨Nat.le_refl _, Nat.le_refl _⟩ (cat_le [] (Nat.le_of_ble_eq_true rfl)) (fun H locs hR hS => ?_)
  refine W_st (st2 := [.int v3]) rfl ?_
  refine lv_if_eq (tgt := 27) hx hb dX9_tree_5 (by decide) (fun c4 => ?_) (fun c4 => ?_)
  · rw [if_pos c4] at hd
    refine lv_iconst (v := (-1)) hx hb dX9_tree_27 (by decide) ?_
    cases hd
    exact r_iret C dX9_tree_28 hR hS
  · rw [if_neg c4] at hd
    refine x_iload_n C dX9_tree_8 hL 2 rfl ?_
    obtain ⟨v6, h5, hd⟩ := bo_ex hd
    refine r_callS (As := [.int x2]) C (ct_X9_isGroup h5) mf_X9_isGroup ml_X9_132 ms_X9_isGroup rfl ⟨Nat.le_of_ble_eq_true rfl, Nat.le_of_ble_eq_true rfl⟩ dX9_tree_9 (lx_size hL) rfl hR hS ⟨Nat.le_refl _, Nat.le_refl _⟩ (cat_le [] (Nat.le_of_ble_eq_true rfl)) (fun H locs hR hS => ?_)
    refine W_st (st2 := [.int v6]) rfl ?_
    refine lv_if_eq (tgt := 27) hx hb dX9_tree_12 (by decide) (fun c7 => ?_) (fun c7 => ?_)
    · rw [if_pos c7] at hd
      refine lv_iconst (v := (-1)) hx hb dX9_tree_27 (by decide) ?_
      cases hd
      exact r_iret C dX9_tree_28 hR hS
    · rw [if_neg c7] at hd
      refine x_iload_n C dX9_tree_15 hL 3 rfl ?_
      refine lv_iconst (v := (-1)) hx hb dX9_tree_16 (by decide) ?_
      refine lv_icmp_eq (tgt := 29) hx hb dX9_tree_17 (by decide) (fun c8 => ?_) (fun c8 => ?_)
      · rw [if_pos c8] at hd
        exact k_X9_tree_29 C hL hR hS hd
      · rw [if_neg c8] at hd
        refine x_iload_n C dX9_tree_20 hL 3 rfl ?_
        obtain ⟨v10, h9, hd⟩ := bo_ex hd
        refine r_callS (As := [.int x3]) C (ct_X9_isHost h9) mf_X9_isHost ml_X9_129 ms_X9_isHost rfl ⟨Nat.le_of_ble_eq_true rfl, Nat.le_of_ble_eq_true rfl⟩ dX9_tree_21 (lx_size hL) rfl hR hS ⟨Nat.le_refl _, Nat.le_refl _⟩ (cat_le [] (Nat.le_of_ble_eq_true rfl)) (fun H locs hR hS => ?_)
        refine W_st (st2 := [.int v10]) rfl ?_
        refine lv_if_ne (tgt := 29) hx hb dX9_tree_24 (by decide) (fun c11 => ?_) (fun c11 => ?_)
        · rw [if_neg c11] at hd
          exact k_X9_tree_29 C hL hR hS hd
        · rw [if_pos c11] at hd
          refine lv_iconst (v := (-1)) hx hb dX9_tree_27 (by decide) ?_
          cases hd
          exact r_iret C dX9_tree_28 hR hS
end
set_option maxHeartbeats 4000000 in
set_option maxRecDepth 100000 in
theorem ct_X9_tree {l : Launch} {b0 : Nat} {D : va_G} {E : Nat → ClassId} {G : Hp} {a0 : Nat} {a1 : Int32} {a2 : Int32} {a3 : Int32} {a4 : Int32} {rr : Int32} {GG : Hp} (hd : d_X9_tree a0 a1 a2 a3 a4 G = some (rr, GG)) : CT l yX9_tree cX9_tree 6 (some .int) 12 0 0 b0 D E [rv a0, .int a1, .int a2, .int a3, .int a4] G (some (.int rr)) GG := by
  refine CT_of (by decide +kernel) ?_
  intro p e s m below meth c C hnm hR
  refine r_entry [.inr a0, .inl a1, .inl a2, .inl a3, .inl a4] (n := 6) (Nat.le_of_ble_eq_true rfl) (lv := [(0, .inr a0), (1, .inl a1), (2, .inl a2), (3, .inl a3), (4, .inl a4)]) rfl (fun ls hL => ?_)
  exact k_X9_tree C (lx_sub hL [0, 1, 2, 3, 4] rfl) hR ⟨fun _ _ => rfl, fun _ h => by cases h⟩ hd

/-! GroveWorksModel.count(I)I pure -/
theorem dX9_count_0 : decode cX9_count 0 = .ok (.iload_n 1, 1) := by decide +kernel
theorem dX9_count_1 : decode cX9_count 1 = .ok (.tableswitch 87 0 7 #[47, 52, 57, 62, 67, 72, 77, 82], 47) := by decide +kernel
theorem dX9_count_48 : decode cX9_count 48 = .ok (.aload_n 0, 1) := by decide +kernel
theorem dX9_count_49 : decode cX9_count 49 = .ok (.getfield 122, 3) := by decide +kernel
theorem dX9_count_52 : decode cX9_count 52 = .ok (.ireturn, 1) := by decide +kernel
theorem dX9_count_53 : decode cX9_count 53 = .ok (.aload_n 0, 1) := by decide +kernel
theorem dX9_count_54 : decode cX9_count 54 = .ok (.getfield 340, 3) := by decide +kernel
theorem dX9_count_57 : decode cX9_count 57 = .ok (.ireturn, 1) := by decide +kernel
theorem dX9_count_58 : decode cX9_count 58 = .ok (.aload_n 0, 1) := by decide +kernel
theorem dX9_count_59 : decode cX9_count 59 = .ok (.getfield 166, 3) := by decide +kernel
theorem dX9_count_62 : decode cX9_count 62 = .ok (.ireturn, 1) := by decide +kernel
theorem dX9_count_63 : decode cX9_count 63 = .ok (.aload_n 0, 1) := by decide +kernel
theorem dX9_count_64 : decode cX9_count 64 = .ok (.getfield 163, 3) := by decide +kernel
theorem dX9_count_67 : decode cX9_count 67 = .ok (.ireturn, 1) := by decide +kernel
theorem dX9_count_68 : decode cX9_count 68 = .ok (.aload_n 0, 1) := by decide +kernel
theorem dX9_count_69 : decode cX9_count 69 = .ok (.getfield 245, 3) := by decide +kernel
theorem dX9_count_72 : decode cX9_count 72 = .ok (.ireturn, 1) := by decide +kernel
theorem dX9_count_73 : decode cX9_count 73 = .ok (.aload_n 0, 1) := by decide +kernel
theorem dX9_count_74 : decode cX9_count 74 = .ok (.getfield 252, 3) := by decide +kernel
theorem dX9_count_77 : decode cX9_count 77 = .ok (.ireturn, 1) := by decide +kernel
theorem dX9_count_78 : decode cX9_count 78 = .ok (.aload_n 0, 1) := by decide +kernel
theorem dX9_count_79 : decode cX9_count 79 = .ok (.getfield 242, 3) := by decide +kernel
theorem dX9_count_82 : decode cX9_count 82 = .ok (.ireturn, 1) := by decide +kernel
theorem dX9_count_83 : decode cX9_count 83 = .ok (.aload_n 0, 1) := by decide +kernel
theorem dX9_count_84 : decode cX9_count 84 = .ok (.getfield 108, 3) := by decide +kernel
theorem dX9_count_87 : decode cX9_count 87 = .ok (.ireturn, 1) := by decide +kernel
theorem dX9_count_88 : decode cX9_count 88 = .ok (.iconst (-1), 1) := by decide +kernel
theorem dX9_count_89 : decode cX9_count 89 = .ok (.ireturn, 1) := by decide +kernel
def d_X9_count (x0 : Nat) (x1 : Int32) (G : Hp) : Option (Int32) :=
  if x1 = 0 then
    gd (hc G x0 = 10) <|
    some ((hi G x0 0))
  else
  if x1 = 1 then
    gd (hc G x0 = 10) <|
    some ((hi G x0 2))
  else
  if x1 = 2 then
    gd (hc G x0 = 10) <|
    some ((hi G x0 3))
  else
  if x1 = 3 then
    gd (hc G x0 = 10) <|
    some ((hi G x0 4))
  else
  if x1 = 4 then
    gd (hc G x0 = 10) <|
    some ((hi G x0 5))
  else
  if x1 = 5 then
    gd (hc G x0 = 10) <|
    some ((hi G x0 6))
  else
  if x1 = 6 then
    gd (hc G x0 = 10) <|
    some ((hi G x0 7))
  else
  if x1 = 7 then
    gd (hc G x0 = 10) <|
    some ((hi G x0 1))
  else
  some (-1)
section
variable {p : Program} {l : Launch} {e : Env} {s : State} {m : MethodId} {args : Array Value} {below : List Frame} {meth : Method} {c : Code} {b0 : Nat} {D : va_G} {E : Nat → ClassId}
set_option maxHeartbeats 4000000 in
set_option maxRecDepth 100000 in
theorem k_X9_count (C : Cx p s m args meth c RX9 cX9_count 2 (some .int) b0 D E) {rr : Int32} {G : Hp} {x0 : Nat} {x1 : Int32} {ls : Array Slot} {H : Heap} {locs : List Loc} : lx ls 2 [(0, .inr x0), (1, .inl x1)] → Rp b0 D E G H → SS b0 s H locs → d_X9_count x0 x1 G = some rr → W p l e (rmd 0 (0) (0)) s m args below meth c H locs (0) (0) (MQ below (CQ b0 D E (some (.int rr)) G) args s (0) (0) (fun q => b0 ≤ q)) (F0 m 0 ls []) := by
  intro hL hR hS hd
  unfold d_X9_count at hd
  have hx := C.1
  have hb := C.2.1
  refine x_iload_n C dX9_count_0 hL 1 rfl ?_
  by_cases c1_0 : x1 = 0
  · rw [if_pos c1_0] at hd
    rw [c1_0]
    refine lv_tableIn (tgt := 48) hx hb dX9_count_1 (by decide) (by decide) rfl (by decide) ?_
    refine x_aload_n C dX9_count_48 hL 0 rfl ?_
    obtain ⟨g2, hd⟩ := gd_ex hd
    refine r_geti (ci := 9) (k := 0) C fl_X9_122 rfl dX9_count_49 hR g2 ?_
    cases hd
    exact r_iret C dX9_count_52 hR hS
  rw [if_neg c1_0] at hd
  by_cases c1_1 : x1 = 1
  · rw [if_pos c1_1] at hd
    rw [c1_1]
    refine lv_tableIn (tgt := 53) hx hb dX9_count_1 (by decide) (by decide) rfl (by decide) ?_
    refine x_aload_n C dX9_count_53 hL 0 rfl ?_
    obtain ⟨g3, hd⟩ := gd_ex hd
    refine r_geti (ci := 9) (k := 2) C fl_X9_340 rfl dX9_count_54 hR g3 ?_
    cases hd
    exact r_iret C dX9_count_57 hR hS
  rw [if_neg c1_1] at hd
  by_cases c1_2 : x1 = 2
  · rw [if_pos c1_2] at hd
    rw [c1_2]
    refine lv_tableIn (tgt := 58) hx hb dX9_count_1 (by decide) (by decide) rfl (by decide) ?_
    refine x_aload_n C dX9_count_58 hL 0 rfl ?_
    obtain ⟨g4, hd⟩ := gd_ex hd
    refine r_geti (ci := 9) (k := 3) C fl_X9_166 rfl dX9_count_59 hR g4 ?_
    cases hd
    exact r_iret C dX9_count_62 hR hS
  rw [if_neg c1_2] at hd
  by_cases c1_3 : x1 = 3
  · rw [if_pos c1_3] at hd
    rw [c1_3]
    refine lv_tableIn (tgt := 63) hx hb dX9_count_1 (by decide) (by decide) rfl (by decide) ?_
    refine x_aload_n C dX9_count_63 hL 0 rfl ?_
    obtain ⟨g5, hd⟩ := gd_ex hd
    refine r_geti (ci := 9) (k := 4) C fl_X9_163 rfl dX9_count_64 hR g5 ?_
    cases hd
    exact r_iret C dX9_count_67 hR hS
  rw [if_neg c1_3] at hd
  by_cases c1_4 : x1 = 4
  · rw [if_pos c1_4] at hd
    rw [c1_4]
    refine lv_tableIn (tgt := 68) hx hb dX9_count_1 (by decide) (by decide) rfl (by decide) ?_
    refine x_aload_n C dX9_count_68 hL 0 rfl ?_
    obtain ⟨g6, hd⟩ := gd_ex hd
    refine r_geti (ci := 9) (k := 5) C fl_X9_245 rfl dX9_count_69 hR g6 ?_
    cases hd
    exact r_iret C dX9_count_72 hR hS
  rw [if_neg c1_4] at hd
  by_cases c1_5 : x1 = 5
  · rw [if_pos c1_5] at hd
    rw [c1_5]
    refine lv_tableIn (tgt := 73) hx hb dX9_count_1 (by decide) (by decide) rfl (by decide) ?_
    refine x_aload_n C dX9_count_73 hL 0 rfl ?_
    obtain ⟨g7, hd⟩ := gd_ex hd
    refine r_geti (ci := 9) (k := 6) C fl_X9_252 rfl dX9_count_74 hR g7 ?_
    cases hd
    exact r_iret C dX9_count_77 hR hS
  rw [if_neg c1_5] at hd
  by_cases c1_6 : x1 = 6
  · rw [if_pos c1_6] at hd
    rw [c1_6]
    refine lv_tableIn (tgt := 78) hx hb dX9_count_1 (by decide) (by decide) rfl (by decide) ?_
    refine x_aload_n C dX9_count_78 hL 0 rfl ?_
    obtain ⟨g8, hd⟩ := gd_ex hd
    refine r_geti (ci := 9) (k := 7) C fl_X9_242 rfl dX9_count_79 hR g8 ?_
    cases hd
    exact r_iret C dX9_count_82 hR hS
  rw [if_neg c1_6] at hd
  by_cases c1_7 : x1 = 7
  · rw [if_pos c1_7] at hd
    rw [c1_7]
    refine lv_tableIn (tgt := 83) hx hb dX9_count_1 (by decide) (by decide) rfl (by decide) ?_
    refine x_aload_n C dX9_count_83 hL 0 rfl ?_
    obtain ⟨g9, hd⟩ := gd_ex hd
    refine r_geti (ci := 9) (k := 1) C fl_X9_108 rfl dX9_count_84 hR g9 ?_
    cases hd
    exact r_iret C dX9_count_87 hR hS
  rw [if_neg c1_7] at hd
  have z_0 := i32_ne c1_0
  have z_1 := i32_ne c1_1
  have z_2 := i32_ne c1_2
  have z_3 := i32_ne c1_3
  have z_4 := i32_ne c1_4
  have z_5 := i32_ne c1_5
  have z_6 := i32_ne c1_6
  have z_7 := i32_ne c1_7
  refine lv_tableOut (tgt := 88) hx hb dX9_count_1 (by simp only [show ((0 : Int32)).toInt = 0 from rfl, show ((1 : Int32)).toInt = 1 from rfl, show ((2 : Int32)).toInt = 2 from rfl, show ((3 : Int32)).toInt = 3 from rfl, show ((4 : Int32)).toInt = 4 from rfl, show ((5 : Int32)).toInt = 5 from rfl, show ((6 : Int32)).toInt = 6 from rfl, show ((7 : Int32)).toInt = 7 from rfl] at z_0 z_1 z_2 z_3 z_4 z_5 z_6 z_7; omega) (by decide) ?_
  refine lv_iconst (v := (-1)) hx hb dX9_count_88 (by decide) ?_
  cases hd
  exact r_iret C dX9_count_89 hR hS
end
set_option maxHeartbeats 4000000 in
set_option maxRecDepth 100000 in
theorem ct_X9_count {l : Launch} {b0 : Nat} {D : va_G} {E : Nat → ClassId} {G : Hp} {a0 : Nat} {a1 : Int32} {rr : Int32} (hd : d_X9_count a0 a1 G = some rr) : CT l yX9_count cX9_count 2 (some .int) 0 0 0 b0 D E [rv a0, .int a1] G (some (.int rr)) G := by
  refine CT_of (by decide +kernel) ?_
  intro p e s m below meth c C hnm hR
  refine r_entry [.inr a0, .inl a1] (n := 2) (Nat.le_of_ble_eq_true rfl) (lv := [(0, .inr a0), (1, .inl a1)]) rfl (fun ls hL => ?_)
  exact k_X9_count C (lx_sub hL [0, 1] rfl) hR ⟨fun _ _ => rfl, fun _ h => by cases h⟩ hd
