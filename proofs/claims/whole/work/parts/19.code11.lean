/-! GroveWorksModel.claimed(IIIII)V -/
theorem dX9_claimed_0 : decode cX9_claimed 0 = .ok (.aload_n 0, 1) := by decide +kernel
theorem dX9_claimed_1 : decode cX9_claimed 1 = .ok (.iload_n 1, 1) := by decide +kernel
theorem dX9_claimed_2 : decode cX9_claimed 2 = .ok (.iload_n 2, 1) := by decide +kernel
theorem dX9_claimed_3 : decode cX9_claimed 3 = .ok (.iload_n 3, 1) := by decide +kernel
theorem dX9_claimed_4 : decode cX9_claimed 4 = .ok (.iload 4, 2) := by decide +kernel
theorem dX9_claimed_6 : decode cX9_claimed 6 = .ok (.invokevirtual 176, 3) := by decide +kernel
theorem dX9_claimed_9 : decode cX9_claimed 9 = .ok (.istore 6, 2) := by decide +kernel
theorem dX9_claimed_11 : decode cX9_claimed 11 = .ok (.aload_n 0, 1) := by decide +kernel
theorem dX9_claimed_12 : decode cX9_claimed 12 = .ok (.iload_n 1, 1) := by decide +kernel
theorem dX9_claimed_13 : decode cX9_claimed 13 = .ok (.iload_n 2, 1) := by decide +kernel
theorem dX9_claimed_14 : decode cX9_claimed 14 = .ok (.iload_n 3, 1) := by decide +kernel
theorem dX9_claimed_15 : decode cX9_claimed 15 = .ok (.iload 4, 2) := by decide +kernel
theorem dX9_claimed_17 : decode cX9_claimed 17 = .ok (.invokevirtual 197, 3) := by decide +kernel
theorem dX9_claimed_20 : decode cX9_claimed 20 = .ok (.istore 7, 2) := by decide +kernel
theorem dX9_claimed_22 : decode cX9_claimed 22 = .ok (.iload 7, 2) := by decide +kernel
theorem dX9_claimed_24 : decode cX9_claimed 24 = .ok (.iconst (-1), 1) := by decide +kernel
theorem dX9_claimed_25 : decode cX9_claimed 25 = .ok (.if_icmp .eq 26, 3) := by decide +kernel
theorem dX9_claimed_28 : decode cX9_claimed 28 = .ok (.iload 5, 2) := by decide +kernel
theorem dX9_claimed_30 : decode cX9_claimed 30 = .ok (.iload 7, 2) := by decide +kernel
theorem dX9_claimed_32 : decode cX9_claimed 32 = .ok (.invokestatic 204, 3) := by decide +kernel
theorem dX9_claimed_35 : decode cX9_claimed 35 = .ok (.ifCond .ne 16, 3) := by decide +kernel
theorem dX9_claimed_38 : decode cX9_claimed 38 = .ok (.iload 7, 2) := by decide +kernel
theorem dX9_claimed_40 : decode cX9_claimed 40 = .ok (.bipush 100, 2) := by decide +kernel
theorem dX9_claimed_42 : decode cX9_claimed 42 = .ok (.irem, 1) := by decide +kernel
theorem dX9_claimed_43 : decode cX9_claimed 43 = .ok (.iload 5, 2) := by decide +kernel
theorem dX9_claimed_45 : decode cX9_claimed 45 = .ok (.bipush 100, 2) := by decide +kernel
theorem dX9_claimed_47 : decode cX9_claimed 47 = .ok (.irem, 1) := by decide +kernel
theorem dX9_claimed_48 : decode cX9_claimed 48 = .ok (.if_icmp .ne 26, 3) := by decide +kernel
theorem dX9_claimed_51 : decode cX9_claimed 51 = .ok (.aload_n 0, 1) := by decide +kernel
theorem dX9_claimed_52 : decode cX9_claimed 52 = .ok (.getfield 81, 3) := by decide +kernel
theorem dX9_claimed_55 : decode cX9_claimed 55 = .ok (.iload 6, 2) := by decide +kernel
theorem dX9_claimed_57 : decode cX9_claimed 57 = .ok (.iload 5, 2) := by decide +kernel
theorem dX9_claimed_59 : decode cX9_claimed 59 = .ok (.iastore, 1) := by decide +kernel
theorem dX9_claimed_60 : decode cX9_claimed 60 = .ok (.aload_n 0, 1) := by decide +kernel
theorem dX9_claimed_61 : decode cX9_claimed 61 = .ok (.getfield 84, 3) := by decide +kernel
theorem dX9_claimed_64 : decode cX9_claimed 64 = .ok (.iload 6, 2) := by decide +kernel
theorem dX9_claimed_66 : decode cX9_claimed 66 = .ok (.aload_n 0, 1) := by decide +kernel
theorem dX9_claimed_67 : decode cX9_claimed 67 = .ok (.getfield 122, 3) := by decide +kernel
theorem dX9_claimed_70 : decode cX9_claimed 70 = .ok (.bipush 60, 2) := by decide +kernel
theorem dX9_claimed_72 : decode cX9_claimed 72 = .ok (.iadd, 1) := by decide +kernel
theorem dX9_claimed_73 : decode cX9_claimed 73 = .ok (.iastore, 1) := by decide +kernel
theorem dX9_claimed_74 : decode cX9_claimed 74 = .ok (.aload_n 0, 1) := by decide +kernel
theorem dX9_claimed_75 : decode cX9_claimed 75 = .ok (.iload_n 1, 1) := by decide +kernel
theorem dX9_claimed_76 : decode cX9_claimed 76 = .ok (.iload_n 3, 1) := by decide +kernel
theorem dX9_claimed_77 : decode cX9_claimed 77 = .ok (.iload 4, 2) := by decide +kernel
theorem dX9_claimed_79 : decode cX9_claimed 79 = .ok (.invokevirtual 191, 3) := by decide +kernel
theorem dX9_claimed_82 : decode cX9_claimed 82 = .ok (.ifCond .eq 15, 3) := by decide +kernel
theorem dX9_claimed_85 : decode cX9_claimed 85 = .ok (.aload_n 0, 1) := by decide +kernel
theorem dX9_claimed_86 : decode cX9_claimed 86 = .ok (.iload_n 1, 1) := by decide +kernel
theorem dX9_claimed_87 : decode cX9_claimed 87 = .ok (.iload_n 2, 1) := by decide +kernel
theorem dX9_claimed_88 : decode cX9_claimed 88 = .ok (.iload_n 3, 1) := by decide +kernel
theorem dX9_claimed_89 : decode cX9_claimed 89 = .ok (.iload 4, 2) := by decide +kernel
theorem dX9_claimed_91 : decode cX9_claimed 91 = .ok (.invokevirtual 217, 3) := by decide +kernel
theorem dX9_claimed_94 : decode cX9_claimed 94 = .ok (.goto 12, 3) := by decide +kernel
theorem dX9_claimed_97 : decode cX9_claimed 97 = .ok (.aload_n 0, 1) := by decide +kernel
theorem dX9_claimed_98 : decode cX9_claimed 98 = .ok (.iload_n 1, 1) := by decide +kernel
theorem dX9_claimed_99 : decode cX9_claimed 99 = .ok (.iload_n 2, 1) := by decide +kernel
theorem dX9_claimed_100 : decode cX9_claimed 100 = .ok (.iload_n 3, 1) := by decide +kernel
theorem dX9_claimed_101 : decode cX9_claimed 101 = .ok (.iload 4, 2) := by decide +kernel
theorem dX9_claimed_103 : decode cX9_claimed 103 = .ok (.invokevirtual 214, 3) := by decide +kernel
theorem dX9_claimed_106 : decode cX9_claimed 106 = .ok (.istore 8, 2) := by decide +kernel
theorem dX9_claimed_108 : decode cX9_claimed 108 = .ok (.iload 8, 2) := by decide +kernel
theorem dX9_claimed_110 : decode cX9_claimed 110 = .ok (.ifCond .eq 28, 3) := by decide +kernel
theorem dX9_claimed_113 : decode cX9_claimed 113 = .ok (.aload_n 0, 1) := by decide +kernel
theorem dX9_claimed_114 : decode cX9_claimed 114 = .ok (.iload_n 1, 1) := by decide +kernel
theorem dX9_claimed_115 : decode cX9_claimed 115 = .ok (.iload_n 3, 1) := by decide +kernel
theorem dX9_claimed_116 : decode cX9_claimed 116 = .ok (.iload 4, 2) := by decide +kernel
theorem dX9_claimed_118 : decode cX9_claimed 118 = .ok (.invokevirtual 200, 3) := by decide +kernel
theorem dX9_claimed_121 : decode cX9_claimed 121 = .ok (.iload 5, 2) := by decide +kernel
theorem dX9_claimed_123 : decode cX9_claimed 123 = .ok (.invokestatic 204, 3) := by decide +kernel
theorem dX9_claimed_126 : decode cX9_claimed 126 = .ok (.ifCond .eq 12, 3) := by decide +kernel
theorem dX9_claimed_129 : decode cX9_claimed 129 = .ok (.aload_n 0, 1) := by decide +kernel
theorem dX9_claimed_130 : decode cX9_claimed 130 = .ok (.iload_n 1, 1) := by decide +kernel
theorem dX9_claimed_131 : decode cX9_claimed 131 = .ok (.iload_n 2, 1) := by decide +kernel
theorem dX9_claimed_132 : decode cX9_claimed 132 = .ok (.iload_n 3, 1) := by decide +kernel
theorem dX9_claimed_133 : decode cX9_claimed 133 = .ok (.iload 4, 2) := by decide +kernel
theorem dX9_claimed_135 : decode cX9_claimed 135 = .ok (.invokevirtual 313, 3) := by decide +kernel
theorem dX9_claimed_138 : decode cX9_claimed 138 = .ok (.return_, 1) := by decide +kernel
def d_X9_claimed_106 (x0 : Nat) (x1 : Int32) (x2 : Int32) (x3 : Int32) (x4 : Int32) (x5 : Int32) (s0 : Int32) (G : Hp) : Option (Hp) :=
  if s0 = 0 then
    some G
  else
    gd (hc G x0 = 10) <|
    b2 (d_X9_ownClaim x0 x1 x3 x4 G) fun v4 G5 =>
    bo (d_X9_isBetter v4 x5 G5) fun v7 =>
    if v7 = 0 then
      some G5
    else
      gd (hc G5 x0 = 10) <|
      bo (d_X9_sendClaim x0 x1 x2 x3 x4 G5) fun G11 =>
      some G11
def d_X9_claimed_74 (x0 : Nat) (x1 : Int32) (x2 : Int32) (x3 : Int32) (x4 : Int32) (x5 : Int32) (G : Hp) : Option (Hp) :=
  gd (hc G x0 = 10) <|
  bo (d_X9_isStraight x0 x1 x3 x4 G) fun v3 =>
  if v3 = 0 then
    b2 (d_X9_isInShared x0 x1 x2 x3 x4 G) fun v6 G7 =>
    d_X9_claimed_106 x0 x1 x2 x3 x4 x5 v6 G7
  else
    b2 (d_X9_isInAll x0 x1 x2 x3 x4 G) fun v9 G10 =>
    d_X9_claimed_106 x0 x1 x2 x3 x4 x5 v9 G10
def d_X9_claimed_51 (x0 : Nat) (x1 : Int32) (x2 : Int32) (x3 : Int32) (x4 : Int32) (x5 : Int32) (x6 : Int32) (G : Hp) : Option (Hp) :=
  gd (hc G x0 = 10) <|
  gd (hc G ((hr G x0 31)) = 11 ∧ ix x6 (hl G ((hr G x0 31)))) <|
  bd (sI G ((hr G x0 31)) x6.toNatClampNeg x5) fun G3 =>
  gd (hc G3 x0 = 10) <|
  gd (hc G3 ((hr G3 x0 32)) = 11 ∧ ix x6 (hl G3 ((hr G3 x0 32)))) <|
  bd (sI G3 ((hr G3 x0 32)) x6.toNatClampNeg ((((hi G3 x0 0)) + 60))) fun G6 =>
  d_X9_claimed_74 x0 x1 x2 x3 x4 x5 G6
def d_X9_claimed (x0 : Nat) (x1 : Int32) (x2 : Int32) (x3 : Int32) (x4 : Int32) (x5 : Int32) (G : Hp) : Option (Hp) :=
  gd (hc G x0 = 10) <|
  bo (d_X9_heardAt x1 x2 x3 x4 G) fun v3 =>
  bo (d_X9_claimAt x0 x1 x2 x3 x4 G) fun v5 =>
  if v5 = (-1) then
    d_X9_claimed_51 x0 x1 x2 x3 x4 x5 v3 G
  else
    bo (d_X9_isBetter x5 v5 G) fun v8 =>
    if v8 = 0 then
      if ((v5 - v5 / 100 * 100)) = ((x5 - x5 / 100 * 100)) then
        d_X9_claimed_51 x0 x1 x2 x3 x4 x5 v3 G
      else
        d_X9_claimed_74 x0 x1 x2 x3 x4 x5 G
    else
      d_X9_claimed_51 x0 x1 x2 x3 x4 x5 v3 G
section
variable {p : Program} {l : Launch} {e : Env} {s : State} {m : MethodId} {args : Array Value} {below : List Frame} {meth : Method} {c : Code} {b0 : Nat} {D : va_G} {E : Nat → ClassId}
set_option maxHeartbeats 4000000 in
set_option maxRecDepth 100000 in
theorem k_X9_claimed_106 (C : Cx p s m args meth c RX9 cX9_claimed 9 none b0 D E) {GG : Hp} {x0 : Nat} {x1 : Int32} {x2 : Int32} {x3 : Int32} {x4 : Int32} {x5 : Int32} {s0 : Int32} {G : Hp} {ls : Array Slot} {H : Heap} {locs : List Loc} : lx ls 9 [(0, .inr x0), (1, .inl x1), (2, .inl x2), (3, .inl x3), (4, .inl x4), (5, .inl x5)] → Rp b0 D E G H → SS b0 s H locs → d_X9_claimed_106 x0 x1 x2 x3 x4 x5 s0 G = some GG → W p l e (rmd 9 (0) (0)) s m args below meth c H locs (0) (0) (MQ below (CQ b0 D E none GG) args s (0) (0) (fun q => b0 ≤ q)) (F0 m 106 ls [.int s0]) := by
  intro hL hR hS hd
  unfold d_X9_claimed_106 at hd
  have hx := C.1
  have hb := C.2.1
  refine x_istore (lv' := [(8, .inl s0), (0, .inr x0), (1, .inl x1), (2, .inl x2), (3, .inl x3), (4, .inl x4), (5, .inl x5)]) C dX9_claimed_106 hL (by decide) rfl (fun ls hL => ?_)
  refine x_iload C dX9_claimed_108 hL 0 rfl ?_
  refine lv_if_eq (tgt := 138) hx hb dX9_claimed_110 (by decide) (fun c1 => ?_) (fun c1 => ?_)
  · rw [if_pos c1] at hd
    cases hd
    exact r_vret C dX9_claimed_138 hR hS
  · rw [if_neg c1] at hd
    refine x_aload_n C dX9_claimed_113 hL 1 rfl ?_
    refine x_iload_n C dX9_claimed_114 hL 2 rfl ?_
    refine x_iload_n C dX9_claimed_115 hL 4 rfl ?_
    refine x_iload C dX9_claimed_116 hL 5 rfl ?_
    obtain ⟨g2, hd⟩ := gd_ex hd
    obtain ⟨v4, G5, h3, hd⟩ := b2_ex hd
    refine r_callV (a := x0) (ci := 9) (As := [.int x1, .int x3, .int x4]) C (ct_X9_ownClaim h3) mf_X9_ownClaim ml_X9_200 mv_X9_ownClaim rfl ⟨Nat.le_of_ble_eq_true rfl, Nat.le_of_ble_eq_true rfl⟩ dX9_claimed_118 (lx_size hL) rfl hR hS g2 ⟨Nat.le_refl _, Nat.le_refl _⟩ (cat_le [] (Nat.le_of_ble_eq_true rfl)) (fun H locs hR hS => ?_)
    refine W_st (st2 := [.int v4]) rfl ?_
    refine x_iload C dX9_claimed_121 hL 6 rfl ?_
    obtain ⟨v7, h6, hd⟩ := bo_ex hd
    refine r_callS (As := [.int v4, .int x5]) C (ct_X9_isBetter h6) mf_X9_isBetter ml_X9_204 ms_X9_isBetter rfl ⟨Nat.le_of_ble_eq_true rfl, Nat.le_of_ble_eq_true rfl⟩ dX9_claimed_123 (lx_size hL) rfl hR hS ⟨Nat.le_refl _, Nat.le_refl _⟩ (cat_le [] (Nat.le_of_ble_eq_true rfl)) (fun H locs hR hS => ?_)
    refine W_st (st2 := [.int v7]) rfl ?_
    refine lv_if_eq (tgt := 138) hx hb dX9_claimed_126 (by decide) (fun c8 => ?_) (fun c8 => ?_)
    · rw [if_pos c8] at hd
      cases hd
      exact r_vret C dX9_claimed_138 hR hS
    · rw [if_neg c8] at hd
      refine x_aload_n C dX9_claimed_129 hL 1 rfl ?_
      refine x_iload_n C dX9_claimed_130 hL 2 rfl ?_
      refine x_iload_n C dX9_claimed_131 hL 3 rfl ?_
      refine x_iload_n C dX9_claimed_132 hL 4 rfl ?_
      refine x_iload C dX9_claimed_133 hL 5 rfl ?_
      obtain ⟨g9, hd⟩ := gd_ex hd
      obtain ⟨G11, h10, hd⟩ := bo_ex hd
      refine r_callV (a := x0) (ci := 9) (As := [.int x1, .int x2, .int x3, .int x4]) C (ct_X9_sendClaim h10) mf_X9_sendClaim ml_X9_313 mv_X9_sendClaim rfl ⟨Nat.le_of_ble_eq_true rfl, Nat.le_of_ble_eq_true rfl⟩ dX9_claimed_135 (lx_size hL) rfl hR hS g9 ⟨Nat.le_refl _, Nat.le_refl _⟩ (cat_le [] (Nat.le_of_ble_eq_true rfl)) (fun H locs hR hS => ?_)
      refine W_st (st2 := []) rfl ?_
      cases hd
      exact r_vret C dX9_claimed_138 hR hS
set_option maxHeartbeats 4000000 in
set_option maxRecDepth 100000 in
theorem k_X9_claimed_74 (C : Cx p s m args meth c RX9 cX9_claimed 9 none b0 D E) {GG : Hp} {x0 : Nat} {x1 : Int32} {x2 : Int32} {x3 : Int32} {x4 : Int32} {x5 : Int32} {G : Hp} {ls : Array Slot} {H : Heap} {locs : List Loc} : lx ls 9 [(0, .inr x0), (1, .inl x1), (2, .inl x2), (3, .inl x3), (4, .inl x4), (5, .inl x5)] → Rp b0 D E G H → SS b0 s H locs → d_X9_claimed_74 x0 x1 x2 x3 x4 x5 G = some GG → W p l e (rmd 9 (0) (0)) s m args below meth c H locs (0) (0) (MQ below (CQ b0 D E none GG) args s (0) (0) (fun q => b0 ≤ q)) (F0 m 74 ls []) := by
  intro hL hR hS hd
  unfold d_X9_claimed_74 at hd
  have hx := C.1
  have hb := C.2.1
  refine x_aload_n C dX9_claimed_74 hL 0 rfl ?_
  refine x_iload_n C dX9_claimed_75 hL 1 rfl ?_
  refine x_iload_n C dX9_claimed_76 hL 3 rfl ?_
  refine x_iload C dX9_claimed_77 hL 4 rfl ?_
  obtain ⟨g1, hd⟩ := gd_ex hd
  obtain ⟨v3, h2, hd⟩ := bo_ex hd
  refine r_callV (a := x0) (ci := 9) (As := [.int x1, .int x3, .int x4]) C (ct_X9_isStraight h2) mf_X9_isStraight ml_X9_191 mv_X9_isStraight rfl ⟨Nat.le_of_ble_eq_true rfl, Nat.le_of_ble_eq_true rfl⟩ dX9_claimed_79 (lx_size hL) rfl hR hS g1 ⟨Nat.le_refl _, Nat.le_refl _⟩ (cat_le [] (Nat.le_of_ble_eq_true rfl)) (fun H locs hR hS => ?_)
  refine W_st (st2 := [.int v3]) rfl ?_
  refine lv_if_eq (tgt := 97) hx hb dX9_claimed_82 (by decide) (fun c4 => ?_) (fun c4 => ?_)
  · rw [if_pos c4] at hd
    refine x_aload_n C dX9_claimed_97 hL 0 rfl ?_
    refine x_iload_n C dX9_claimed_98 hL 1 rfl ?_
    refine x_iload_n C dX9_claimed_99 hL 2 rfl ?_
    refine x_iload_n C dX9_claimed_100 hL 3 rfl ?_
    refine x_iload C dX9_claimed_101 hL 4 rfl ?_
    obtain ⟨v6, G7, h5, hd⟩ := b2_ex hd
    refine r_callV (a := x0) (ci := 9) (As := [.int x1, .int x2, .int x3, .int x4]) C (ct_X9_isInShared h5) mf_X9_isInShared ml_X9_214 mv_X9_isInShared rfl ⟨Nat.le_of_ble_eq_true rfl, Nat.le_of_ble_eq_true rfl⟩ dX9_claimed_103 (lx_size hL) rfl hR hS g1 ⟨Nat.le_refl _, Nat.le_refl _⟩ (cat_le [] (Nat.le_of_ble_eq_true rfl)) (fun H locs hR hS => ?_)
    refine W_st (st2 := [.int v6]) rfl ?_
    exact k_X9_claimed_106 C hL hR hS hd
  · rw [if_neg c4] at hd
    refine x_aload_n C dX9_claimed_85 hL 0 rfl ?_
    refine x_iload_n C dX9_claimed_86 hL 1 rfl ?_
    refine x_iload_n C dX9_claimed_87 hL 2 rfl ?_
    refine x_iload_n C dX9_claimed_88 hL 3 rfl ?_
    refine x_iload C dX9_claimed_89 hL 4 rfl ?_
    obtain ⟨v9, G10, h8, hd⟩ := b2_ex hd
    refine r_callV (a := x0) (ci := 9) (As := [.int x1, .int x2, .int x3, .int x4]) C (ct_X9_isInAll h8) mf_X9_isInAll ml_X9_217 mv_X9_isInAll rfl ⟨Nat.le_of_ble_eq_true rfl, Nat.le_of_ble_eq_true rfl⟩ dX9_claimed_91 (lx_size hL) rfl hR hS g1 ⟨Nat.le_refl _, Nat.le_refl _⟩ (cat_le [] (Nat.le_of_ble_eq_true rfl)) (fun H locs hR hS => ?_)
    refine W_st (st2 := [.int v9]) rfl ?_
    refine lv_goto (tgt := 106) hx hb dX9_claimed_94 (by decide) ?_
    exact k_X9_claimed_106 C hL hR hS hd
set_option maxHeartbeats 4000000 in
set_option maxRecDepth 100000 in
theorem k_X9_claimed_51 (C : Cx p s m args meth c RX9 cX9_claimed 9 none b0 D E) {GG : Hp} {x0 : Nat} {x1 : Int32} {x2 : Int32} {x3 : Int32} {x4 : Int32} {x5 : Int32} {x6 : Int32} {G : Hp} {ls : Array Slot} {H : Heap} {locs : List Loc} : lx ls 9 [(0, .inr x0), (1, .inl x1), (2, .inl x2), (3, .inl x3), (4, .inl x4), (5, .inl x5), (6, .inl x6)] → Rp b0 D E G H → SS b0 s H locs → d_X9_claimed_51 x0 x1 x2 x3 x4 x5 x6 G = some GG → W p l e (rmd 9 (0) (0)) s m args below meth c H locs (0) (0) (MQ below (CQ b0 D E none GG) args s (0) (0) (fun q => b0 ≤ q)) (F0 m 51 ls []) := by
  intro hL hR hS hd
  unfold d_X9_claimed_51 at hd
  have hx := C.1
  have hb := C.2.1
  refine x_aload_n C dX9_claimed_51 hL 0 rfl ?_
  obtain ⟨g1, hd⟩ := gd_ex hd
  refine r_getr (ci := 9) (k := 31) C fl_X9_81 rfl dX9_claimed_52 hR g1 ?_
  refine x_iload C dX9_claimed_55 hL 6 rfl ?_
  refine x_iload C dX9_claimed_57 hL 5 rfl ?_
  obtain ⟨g2, hd⟩ := gd_ex hd
  obtain ⟨G3, eG3, hd⟩ := bd_ex hd
  refine r_iast C dX9_claimed_59 hR hS g2 (fun H locs hR hS => ?_)
  replace hR : Rp b0 D E G3 H := by rw [eG3]; exact hR
  refine x_aload_n C dX9_claimed_60 hL 0 rfl ?_
  obtain ⟨g4, hd⟩ := gd_ex hd
  refine r_getr (ci := 9) (k := 32) C fl_X9_84 rfl dX9_claimed_61 hR g4 ?_
  refine x_iload C dX9_claimed_64 hL 6 rfl ?_
  refine x_aload_n C dX9_claimed_66 hL 0 rfl ?_
  refine r_geti (ci := 9) (k := 0) C fl_X9_122 rfl dX9_claimed_67 hR g4 ?_
  refine lv_bipush (v := 60) hx hb dX9_claimed_70 (by decide) ?_
  refine lv_iadd hx hb dX9_claimed_72 ?_
  obtain ⟨g5, hd⟩ := gd_ex hd
  obtain ⟨G6, eG6, hd⟩ := bd_ex hd
  refine r_iast C dX9_claimed_73 hR hS g5 (fun H locs hR hS => ?_)
  replace hR : Rp b0 D E G6 H := by rw [eG6]; exact hR
  exact k_X9_claimed_74 C (lx_sub hL [0, 1, 2, 3, 4, 5] rfl) hR hS hd
set_option maxHeartbeats 4000000 in
set_option maxRecDepth 100000 in
theorem k_X9_claimed (C : Cx p s m args meth c RX9 cX9_claimed 9 none b0 D E) {GG : Hp} {x0 : Nat} {x1 : Int32} {x2 : Int32} {x3 : Int32} {x4 : Int32} {x5 : Int32} {G : Hp} {ls : Array Slot} {H : Heap} {locs : List Loc} : lx ls 9 [(0, .inr x0), (1, .inl x1), (2, .inl x2), (3, .inl x3), (4, .inl x4), (5, .inl x5)] → Rp b0 D E G H → SS b0 s H locs → d_X9_claimed x0 x1 x2 x3 x4 x5 G = some GG → W p l e (rmd 9 (0) (0)) s m args below meth c H locs (0) (0) (MQ below (CQ b0 D E none GG) args s (0) (0) (fun q => b0 ≤ q)) (F0 m 0 ls []) := by
  intro hL hR hS hd
  unfold d_X9_claimed at hd
  have hx := C.1
  have hb := C.2.1
  refine x_aload_n C dX9_claimed_0 hL 0 rfl ?_
  refine x_iload_n C dX9_claimed_1 hL 1 rfl ?_
  refine x_iload_n C dX9_claimed_2 hL 2 rfl ?_
  refine x_iload_n C dX9_claimed_3 hL 3 rfl ?_
  refine x_iload C dX9_claimed_4 hL 4 rfl ?_
  obtain ⟨g1, hd⟩ := gd_ex hd
  obtain ⟨v3, h2, hd⟩ := bo_ex hd
  refine r_callV (a := x0) (ci := 9) (As := [.int x1, .int x2, .int x3, .int x4]) C (ct_X9_heardAt h2) mf_X9_heardAt ml_X9_176 mv_X9_heardAt rfl ⟨Nat.le_of_ble_eq_true rfl, Nat.le_of_ble_eq_true rfl⟩ dX9_claimed_6 (lx_size hL) rfl hR hS g1 ⟨Nat.le_refl _, Nat.le_refl _⟩ (cat_le [] (Nat.le_of_ble_eq_true rfl)) (fun H locs hR hS => ?_)
  refine W_st (st2 := [.int v3]) rfl ?_
  refine x_istore (lv' := [(6, .inl v3), (0, .inr x0), (1, .inl x1), (2, .inl x2), (3, .inl x3), (4, .inl x4), (5, .inl x5)]) C dX9_claimed_9 hL (by decide) rfl (fun ls hL => ?_)
  refine x_aload_n C dX9_claimed_11 hL 1 rfl ?_
  refine x_iload_n C dX9_claimed_12 hL 2 rfl ?_
  refine x_iload_n C dX9_claimed_13 hL 3 rfl ?_
  refine x_iload_n C dX9_claimed_14 hL 4 rfl ?_
  refine x_iload C dX9_claimed_15 hL 5 rfl ?_
  obtain ⟨v5, h4, hd⟩ := bo_ex hd
  refine r_callV (a := x0) (ci := 9) (As := [.int x1, .int x2, .int x3, .int x4]) C (ct_X9_claimAt h4) mf_X9_claimAt ml_X9_197 mv_X9_claimAt rfl ⟨Nat.le_of_ble_eq_true rfl, Nat.le_of_ble_eq_true rfl⟩ dX9_claimed_17 (lx_size hL) rfl hR hS g1 ⟨Nat.le_refl _, Nat.le_refl _⟩ (cat_le [] (Nat.le_of_ble_eq_true rfl)) (fun H locs hR hS => ?_)
  refine W_st (st2 := [.int v5]) rfl ?_
  refine x_istore (lv' := [(7, .inl v5), (6, .inl v3), (0, .inr x0), (1, .inl x1), (2, .inl x2), (3, .inl x3), (4, .inl x4), (5, .inl x5)]) C dX9_claimed_20 hL (by decide) rfl (fun ls hL => ?_)
  refine x_iload C dX9_claimed_22 hL 0 rfl ?_
  refine lv_iconst (v := (-1)) hx hb dX9_claimed_24 (by decide) ?_
  refine lv_icmp_eq (tgt := 51) hx hb dX9_claimed_25 (by decide) (fun c6 => ?_) (fun c6 => ?_)
  · rw [if_pos c6] at hd
    exact k_X9_claimed_51 C (lx_sub hL [2, 3, 4, 5, 6, 7, 1] rfl) hR hS hd
  · rw [if_neg c6] at hd
    refine x_iload C dX9_claimed_28 hL 7 rfl ?_
    refine x_iload C dX9_claimed_30 hL 0 rfl ?_
    obtain ⟨v8, h7, hd⟩ := bo_ex hd
    refine r_callS (As := [.int x5, .int v5]) C (ct_X9_isBetter h7) mf_X9_isBetter ml_X9_204 ms_X9_isBetter rfl ⟨Nat.le_of_ble_eq_true rfl, Nat.le_of_ble_eq_true rfl⟩ dX9_claimed_32 (lx_size hL) rfl hR hS ⟨Nat.le_refl _, Nat.le_refl _⟩ (cat_le [] (Nat.le_of_ble_eq_true rfl)) (fun H locs hR hS => ?_)
    refine W_st (st2 := [.int v8]) rfl ?_
    refine lv_if_ne (tgt := 51) hx hb dX9_claimed_35 (by decide) (fun c9 => ?_) (fun c9 => ?_)
    · rw [if_neg c9] at hd
      exact k_X9_claimed_51 C (lx_sub hL [2, 3, 4, 5, 6, 7, 1] rfl) hR hS hd
    · rw [if_pos c9] at hd
      refine x_iload C dX9_claimed_38 hL 0 rfl ?_
      refine lv_bipush (v := 100) hx hb dX9_claimed_40 (by decide) ?_
      refine lv_irem hx hb dX9_claimed_42 (by decide) ?_
      refine x_iload C dX9_claimed_43 hL 7 rfl ?_
      refine lv_bipush (v := 100) hx hb dX9_claimed_45 (by decide) ?_
      refine lv_irem hx hb dX9_claimed_47 (by decide) ?_
      refine lv_icmp_ne (tgt := 74) hx hb dX9_claimed_48 (by decide) (fun c10 => ?_) (fun c10 => ?_)
      · rw [if_neg c10] at hd
        exact k_X9_claimed_74 C (lx_sub hL [2, 3, 4, 5, 6, 7] rfl) hR hS hd
      · rw [if_pos c10] at hd
        exact k_X9_claimed_51 C (lx_sub hL [2, 3, 4, 5, 6, 7, 1] rfl) hR hS hd
end
set_option maxHeartbeats 4000000 in
set_option maxRecDepth 100000 in
theorem ct_X9_claimed {l : Launch} {b0 : Nat} {D : va_G} {E : Nat → ClassId} {G : Hp} {a0 : Nat} {a1 : Int32} {a2 : Int32} {a3 : Int32} {a4 : Int32} {a5 : Int32} {GG : Hp} (hd : d_X9_claimed a0 a1 a2 a3 a4 a5 G = some GG) : CT l yX9_claimed cX9_claimed 9 none 9 0 0 b0 D E [rv a0, .int a1, .int a2, .int a3, .int a4, .int a5] G none GG := by
  refine CT_of (by decide +kernel) ?_
  intro p e s m below meth c C hnm hR
  refine r_entry [.inr a0, .inl a1, .inl a2, .inl a3, .inl a4, .inl a5] (n := 9) (Nat.le_of_ble_eq_true rfl) (lv := [(0, .inr a0), (1, .inl a1), (2, .inl a2), (3, .inl a3), (4, .inl a4), (5, .inl a5)]) rfl (fun ls hL => ?_)
  exact k_X9_claimed C (lx_sub hL [0, 1, 2, 3, 4, 5] rfl) hR ⟨fun _ _ => rfl, fun _ h => by cases h⟩ hd

/-! GroveWorksModel.tunnel(IIIIII)V -/
theorem dX9_tunnel_0 : decode cX9_tunnel 0 = .ok (.iload_n 1, 1) := by decide +kernel
theorem dX9_tunnel_1 : decode cX9_tunnel 1 = .ok (.aload_n 0, 1) := by decide +kernel
theorem dX9_tunnel_2 : decode cX9_tunnel 2 = .ok (.getfield 23, 3) := by decide +kernel
theorem dX9_tunnel_5 : decode cX9_tunnel 5 = .ok (.iload_n 2, 1) := by decide +kernel
theorem dX9_tunnel_6 : decode cX9_tunnel 6 = .ok (.iaload, 1) := by decide +kernel
theorem dX9_tunnel_7 : decode cX9_tunnel 7 = .ok (.if_icmp .eq 34, 3) := by decide +kernel
theorem dX9_tunnel_10 : decode cX9_tunnel 10 = .ok (.iload 6, 2) := by decide +kernel
theorem dX9_tunnel_12 : decode cX9_tunnel 12 = .ok (.iconst 1, 1) := by decide +kernel
theorem dX9_tunnel_13 : decode cX9_tunnel 13 = .ok (.if_icmp .le 27, 3) := by decide +kernel
theorem dX9_tunnel_16 : decode cX9_tunnel 16 = .ok (.aload_n 0, 1) := by decide +kernel
theorem dX9_tunnel_17 : decode cX9_tunnel 17 = .ok (.iload_n 1, 1) := by decide +kernel
theorem dX9_tunnel_18 : decode cX9_tunnel 18 = .ok (.aload_n 0, 1) := by decide +kernel
theorem dX9_tunnel_19 : decode cX9_tunnel 19 = .ok (.iload_n 1, 1) := by decide +kernel
theorem dX9_tunnel_20 : decode cX9_tunnel 20 = .ok (.iload_n 2, 1) := by decide +kernel
theorem dX9_tunnel_21 : decode cX9_tunnel 21 = .ok (.invokevirtual 194, 3) := by decide +kernel
theorem dX9_tunnel_24 : decode cX9_tunnel 24 = .ok (.bipush 9, 2) := by decide +kernel
theorem dX9_tunnel_26 : decode cX9_tunnel 26 = .ok (.iload_n 2, 1) := by decide +kernel
theorem dX9_tunnel_27 : decode cX9_tunnel 27 = .ok (.iload_n 3, 1) := by decide +kernel
theorem dX9_tunnel_28 : decode cX9_tunnel 28 = .ok (.iload 4, 2) := by decide +kernel
theorem dX9_tunnel_30 : decode cX9_tunnel 30 = .ok (.iload 5, 2) := by decide +kernel
theorem dX9_tunnel_32 : decode cX9_tunnel 32 = .ok (.iload 6, 2) := by decide +kernel
theorem dX9_tunnel_34 : decode cX9_tunnel 34 = .ok (.iconst 1, 1) := by decide +kernel
theorem dX9_tunnel_35 : decode cX9_tunnel 35 = .ok (.isub, 1) := by decide +kernel
theorem dX9_tunnel_36 : decode cX9_tunnel 36 = .ok (.invokevirtual 248, 3) := by decide +kernel
theorem dX9_tunnel_39 : decode cX9_tunnel 39 = .ok (.pop, 1) := by decide +kernel
theorem dX9_tunnel_40 : decode cX9_tunnel 40 = .ok (.return_, 1) := by decide +kernel
theorem dX9_tunnel_41 : decode cX9_tunnel 41 = .ok (.aload_n 0, 1) := by decide +kernel
theorem dX9_tunnel_42 : decode cX9_tunnel 42 = .ok (.iload_n 1, 1) := by decide +kernel
theorem dX9_tunnel_43 : decode cX9_tunnel 43 = .ok (.iload_n 2, 1) := by decide +kernel
theorem dX9_tunnel_44 : decode cX9_tunnel 44 = .ok (.iload_n 3, 1) := by decide +kernel
theorem dX9_tunnel_45 : decode cX9_tunnel 45 = .ok (.invokevirtual 191, 3) := by decide +kernel
theorem dX9_tunnel_48 : decode cX9_tunnel 48 = .ok (.ifCond .ne 13, 3) := by decide +kernel
theorem dX9_tunnel_51 : decode cX9_tunnel 51 = .ok (.aload_n 0, 1) := by decide +kernel
theorem dX9_tunnel_52 : decode cX9_tunnel 52 = .ok (.iload_n 1, 1) := by decide +kernel
theorem dX9_tunnel_53 : decode cX9_tunnel 53 = .ok (.iload_n 2, 1) := by decide +kernel
theorem dX9_tunnel_54 : decode cX9_tunnel 54 = .ok (.iload_n 3, 1) := by decide +kernel
theorem dX9_tunnel_55 : decode cX9_tunnel 55 = .ok (.invokevirtual 223, 3) := by decide +kernel
theorem dX9_tunnel_58 : decode cX9_tunnel 58 = .ok (.ifCond .ne 17, 3) := by decide +kernel
theorem dX9_tunnel_61 : decode cX9_tunnel 61 = .ok (.aload_n 0, 1) := by decide +kernel
theorem dX9_tunnel_62 : decode cX9_tunnel 62 = .ok (.iload_n 1, 1) := by decide +kernel
theorem dX9_tunnel_63 : decode cX9_tunnel 63 = .ok (.iload 5, 2) := by decide +kernel
theorem dX9_tunnel_65 : decode cX9_tunnel 65 = .ok (.bipush 16, 2) := by decide +kernel
theorem dX9_tunnel_67 : decode cX9_tunnel 67 = .ok (.irem, 1) := by decide +kernel
theorem dX9_tunnel_68 : decode cX9_tunnel 68 = .ok (.iload_n 2, 1) := by decide +kernel
theorem dX9_tunnel_69 : decode cX9_tunnel 69 = .ok (.iload_n 3, 1) := by decide +kernel
theorem dX9_tunnel_70 : decode cX9_tunnel 70 = .ok (.bipush 16, 2) := by decide +kernel
theorem dX9_tunnel_72 : decode cX9_tunnel 72 = .ok (.invokevirtual 319, 3) := by decide +kernel
theorem dX9_tunnel_75 : decode cX9_tunnel 75 = .ok (.aload_n 0, 1) := by decide +kernel
theorem dX9_tunnel_76 : decode cX9_tunnel 76 = .ok (.iload_n 1, 1) := by decide +kernel
theorem dX9_tunnel_77 : decode cX9_tunnel 77 = .ok (.iload_n 2, 1) := by decide +kernel
theorem dX9_tunnel_78 : decode cX9_tunnel 78 = .ok (.iload_n 3, 1) := by decide +kernel
theorem dX9_tunnel_79 : decode cX9_tunnel 79 = .ok (.invokevirtual 300, 3) := by decide +kernel
theorem dX9_tunnel_82 : decode cX9_tunnel 82 = .ok (.aload_n 0, 1) := by decide +kernel
theorem dX9_tunnel_83 : decode cX9_tunnel 83 = .ok (.iload_n 1, 1) := by decide +kernel
theorem dX9_tunnel_84 : decode cX9_tunnel 84 = .ok (.iload_n 2, 1) := by decide +kernel
theorem dX9_tunnel_85 : decode cX9_tunnel 85 = .ok (.iload_n 3, 1) := by decide +kernel
theorem dX9_tunnel_86 : decode cX9_tunnel 86 = .ok (.invokevirtual 191, 3) := by decide +kernel
theorem dX9_tunnel_89 : decode cX9_tunnel 89 = .ok (.ifCond .ne 27, 3) := by decide +kernel
theorem dX9_tunnel_92 : decode cX9_tunnel 92 = .ok (.aload_n 0, 1) := by decide +kernel
theorem dX9_tunnel_93 : decode cX9_tunnel 93 = .ok (.iload_n 1, 1) := by decide +kernel
theorem dX9_tunnel_94 : decode cX9_tunnel 94 = .ok (.aload_n 0, 1) := by decide +kernel
theorem dX9_tunnel_95 : decode cX9_tunnel 95 = .ok (.iload_n 1, 1) := by decide +kernel
theorem dX9_tunnel_96 : decode cX9_tunnel 96 = .ok (.iload_n 2, 1) := by decide +kernel
theorem dX9_tunnel_97 : decode cX9_tunnel 97 = .ok (.iload_n 3, 1) := by decide +kernel
theorem dX9_tunnel_98 : decode cX9_tunnel 98 = .ok (.invokevirtual 235, 3) := by decide +kernel
theorem dX9_tunnel_101 : decode cX9_tunnel 101 = .ok (.iconst (-1), 1) := by decide +kernel
theorem dX9_tunnel_102 : decode cX9_tunnel 102 = .ok (.iload_n 2, 1) := by decide +kernel
theorem dX9_tunnel_103 : decode cX9_tunnel 103 = .ok (.iload_n 3, 1) := by decide +kernel
theorem dX9_tunnel_104 : decode cX9_tunnel 104 = .ok (.iload 4, 2) := by decide +kernel
theorem dX9_tunnel_106 : decode cX9_tunnel 106 = .ok (.iload 5, 2) := by decide +kernel
theorem dX9_tunnel_108 : decode cX9_tunnel 108 = .ok (.bipush 16, 2) := by decide +kernel
theorem dX9_tunnel_110 : decode cX9_tunnel 110 = .ok (.idiv, 1) := by decide +kernel
theorem dX9_tunnel_111 : decode cX9_tunnel 111 = .ok (.iconst 1, 1) := by decide +kernel
theorem dX9_tunnel_112 : decode cX9_tunnel 112 = .ok (.isub, 1) := by decide +kernel
theorem dX9_tunnel_113 : decode cX9_tunnel 113 = .ok (.invokevirtual 307, 3) := by decide +kernel
theorem dX9_tunnel_116 : decode cX9_tunnel 116 = .ok (.return_, 1) := by decide +kernel
def d_X9_tunnel_75 (x0 : Nat) (x1 : Int32) (x2 : Int32) (x3 : Int32) (x4 : Int32) (x5 : Int32) (G : Hp) : Option (Hp) :=
  gd (hc G x0 = 10) <|
  bo (d_X9_keep x0 x1 x2 x3 G) fun G3 =>
  gd (hc G3 x0 = 10) <|
  bo (d_X9_isStraight x0 x1 x2 x3 G3) fun v6 =>
  if v6 = 0 then
    b2 (d_X9_shared x0 x1 x2 x3 G3) fun v9 G10 =>
    gd (hc G10 x0 = 10) <|
    bo (d_X9_sendData x0 x1 v9 (-1) x2 x3 x4 ((((x5 / 16)) - 1)) G10) fun G13 =>
    some G13
  else
    some G3
def d_X9_tunnel_61 (x0 : Nat) (x1 : Int32) (x2 : Int32) (x3 : Int32) (x4 : Int32) (x5 : Int32) (G : Hp) : Option (Hp) :=
  gd (hc G x0 = 10) <|
  bo (d_X9_sendStop x0 x1 ((x5 - x5 / 16 * 16)) x2 x3 16 G) fun G3 =>
  d_X9_tunnel_75 x0 x1 x2 x3 x4 x5 G3
def d_X9_tunnel (x0 : Nat) (x1 : Int32) (x2 : Int32) (x3 : Int32) (x4 : Int32) (x5 : Int32) (x6 : Int32) (G : Hp) : Option (Hp) :=
  gd (hc G x0 = 10) <|
  gd (hc G ((hr G x0 12)) = 11 ∧ ix x2 (hl G ((hr G x0 12)))) <|
  if x1 = ((hi G ((hr G x0 12)) x2.toNatClampNeg)) then
    bo (d_X9_isStraight x0 x1 x2 x3 G) fun v5 =>
    if v5 = 0 then
      b2 (d_X9_all x0 x1 x2 x3 G) fun v8 G9 =>
      if v8 = 0 then
        d_X9_tunnel_61 x0 x1 x2 x3 x4 x5 G9
      else
        d_X9_tunnel_75 x0 x1 x2 x3 x4 x5 G9
    else
      d_X9_tunnel_61 x0 x1 x2 x3 x4 x5 G
  else
    if x6 ≤ 1 then
      some G
    else
      b2 (d_X9_toMeeting x0 x1 x2 G) fun v13 G14 =>
      gd (hc G14 x0 = 10) <|
      b2 (d_X9_sendBy x0 x1 v13 9 x2 x3 x4 x5 ((x6 - 1)) G14) fun v17 G18 =>
      some G18
section
variable {p : Program} {l : Launch} {e : Env} {s : State} {m : MethodId} {args : Array Value} {below : List Frame} {meth : Method} {c : Code} {b0 : Nat} {D : va_G} {E : Nat → ClassId}
set_option maxHeartbeats 4000000 in
set_option maxRecDepth 100000 in
theorem k_X9_tunnel_75 (C : Cx p s m args meth c RX9 cX9_tunnel 7 none b0 D E) {GG : Hp} {x0 : Nat} {x1 : Int32} {x2 : Int32} {x3 : Int32} {x4 : Int32} {x5 : Int32} {G : Hp} {ls : Array Slot} {H : Heap} {locs : List Loc} : lx ls 7 [(0, .inr x0), (1, .inl x1), (2, .inl x2), (3, .inl x3), (4, .inl x4), (5, .inl x5)] → Rp b0 D E G H → SS b0 s H locs → d_X9_tunnel_75 x0 x1 x2 x3 x4 x5 G = some GG → W p l e (rmd 10 (0) (0)) s m args below meth c H locs (0) (0) (MQ below (CQ b0 D E none GG) args s (0) (0) (fun q => b0 ≤ q)) (F0 m 75 ls []) := by
  intro hL hR hS hd
  unfold d_X9_tunnel_75 at hd
  have hx := C.1
  have hb := C.2.1
  refine x_aload_n C dX9_tunnel_75 hL 0 rfl ?_
  refine x_iload_n C dX9_tunnel_76 hL 1 rfl ?_
  refine x_iload_n C dX9_tunnel_77 hL 2 rfl ?_
  refine x_iload_n C dX9_tunnel_78 hL 3 rfl ?_
  obtain ⟨g1, hd⟩ := gd_ex hd
  obtain ⟨G3, h2, hd⟩ := bo_ex hd
  refine r_callV (a := x0) (ci := 9) (As := [.int x1, .int x2, .int x3]) C (ct_X9_keep h2) mf_X9_keep ml_X9_300 mv_X9_keep rfl ⟨Nat.le_of_ble_eq_true rfl, Nat.le_of_ble_eq_true rfl⟩ dX9_tunnel_79 (lx_size hL) rfl hR hS g1 ⟨Nat.le_refl _, Nat.le_refl _⟩ (cat_le [] (Nat.le_of_ble_eq_true rfl)) (fun H locs hR hS => ?_)
  refine W_st (st2 := []) rfl ?_
  refine x_aload_n C dX9_tunnel_82 hL 0 rfl ?_
  refine x_iload_n C dX9_tunnel_83 hL 1 rfl ?_
  refine x_iload_n C dX9_tunnel_84 hL 2 rfl ?_
  refine x_iload_n C dX9_tunnel_85 hL 3 rfl ?_
  obtain ⟨g4, hd⟩ := gd_ex hd
  obtain ⟨v6, h5, hd⟩ := bo_ex hd
  refine r_callV (a := x0) (ci := 9) (As := [.int x1, .int x2, .int x3]) C (ct_X9_isStraight h5) mf_X9_isStraight ml_X9_191 mv_X9_isStraight rfl ⟨Nat.le_of_ble_eq_true rfl, Nat.le_of_ble_eq_true rfl⟩ dX9_tunnel_86 (lx_size hL) rfl hR hS g4 ⟨Nat.le_refl _, Nat.le_refl _⟩ (cat_le [] (Nat.le_of_ble_eq_true rfl)) (fun H locs hR hS => ?_)
  refine W_st (st2 := [.int v6]) rfl ?_
  refine lv_if_ne (tgt := 116) hx hb dX9_tunnel_89 (by decide) (fun c7 => ?_) (fun c7 => ?_)
  · rw [if_neg c7] at hd
    cases hd
    exact r_vret C dX9_tunnel_116 hR hS
  · rw [if_pos c7] at hd
    refine x_aload_n C dX9_tunnel_92 hL 0 rfl ?_
    refine x_iload_n C dX9_tunnel_93 hL 1 rfl ?_
    refine x_aload_n C dX9_tunnel_94 hL 0 rfl ?_
    refine x_iload_n C dX9_tunnel_95 hL 1 rfl ?_
    refine x_iload_n C dX9_tunnel_96 hL 2 rfl ?_
    refine x_iload_n C dX9_tunnel_97 hL 3 rfl ?_
    obtain ⟨v9, G10, h8, hd⟩ := b2_ex hd
    refine r_callV (a := x0) (ci := 9) (As := [.int x1, .int x2, .int x3]) C (ct_X9_shared h8) mf_X9_shared ml_X9_235 mv_X9_shared rfl ⟨Nat.le_of_ble_eq_true rfl, Nat.le_of_ble_eq_true rfl⟩ dX9_tunnel_98 (lx_size hL) rfl hR hS g4 ⟨Nat.le_refl _, Nat.le_refl _⟩ (cat_le [.inl x1, .inr x0] (Nat.le_of_ble_eq_true rfl)) (fun H locs hR hS => ?_)
    refine W_st (st2 := [.int v9, .int x1, rv x0]) rfl ?_
    refine lv_iconst (v := (-1)) hx hb dX9_tunnel_101 (by decide) ?_
    refine x_iload_n C dX9_tunnel_102 hL 2 rfl ?_
    refine x_iload_n C dX9_tunnel_103 hL 3 rfl ?_
    refine x_iload C dX9_tunnel_104 hL 4 rfl ?_
    refine x_iload C dX9_tunnel_106 hL 5 rfl ?_
    refine lv_bipush (v := 16) hx hb dX9_tunnel_108 (by decide) ?_
    refine lv_idiv hx hb dX9_tunnel_110 (by decide) ?_
    refine lv_iconst (v := 1) hx hb dX9_tunnel_111 (by decide) ?_
    refine lv_isub hx hb dX9_tunnel_112 ?_
    obtain ⟨g11, hd⟩ := gd_ex hd
    obtain ⟨G13, h12, hd⟩ := bo_ex hd
    refine r_callV (a := x0) (ci := 9) (As := [.int x1, .int v9, .int (-1), .int x2, .int x3, .int x4, .int ((((x5 / 16)) - 1))]) C (ct_X9_sendData h12) mf_X9_sendData ml_X9_307 mv_X9_sendData rfl ⟨Nat.le_of_ble_eq_true rfl, Nat.le_of_ble_eq_true rfl⟩ dX9_tunnel_113 (lx_size hL) rfl hR hS g11 ⟨Nat.le_refl _, Nat.le_refl _⟩ (cat_le [] (Nat.le_of_ble_eq_true rfl)) (fun H locs hR hS => ?_)
    refine W_st (st2 := []) rfl ?_
    cases hd
    exact r_vret C dX9_tunnel_116 hR hS
set_option maxHeartbeats 4000000 in
set_option maxRecDepth 100000 in
theorem k_X9_tunnel_61 (C : Cx p s m args meth c RX9 cX9_tunnel 7 none b0 D E) {GG : Hp} {x0 : Nat} {x1 : Int32} {x2 : Int32} {x3 : Int32} {x4 : Int32} {x5 : Int32} {G : Hp} {ls : Array Slot} {H : Heap} {locs : List Loc} : lx ls 7 [(0, .inr x0), (1, .inl x1), (2, .inl x2), (3, .inl x3), (4, .inl x4), (5, .inl x5)] → Rp b0 D E G H → SS b0 s H locs → d_X9_tunnel_61 x0 x1 x2 x3 x4 x5 G = some GG → W p l e (rmd 10 (0) (0)) s m args below meth c H locs (0) (0) (MQ below (CQ b0 D E none GG) args s (0) (0) (fun q => b0 ≤ q)) (F0 m 61 ls []) := by
  intro hL hR hS hd
  unfold d_X9_tunnel_61 at hd
  have hx := C.1
  have hb := C.2.1
  refine x_aload_n C dX9_tunnel_61 hL 0 rfl ?_
  refine x_iload_n C dX9_tunnel_62 hL 1 rfl ?_
  refine x_iload C dX9_tunnel_63 hL 5 rfl ?_
  refine lv_bipush (v := 16) hx hb dX9_tunnel_65 (by decide) ?_
  refine lv_irem hx hb dX9_tunnel_67 (by decide) ?_
  refine x_iload_n C dX9_tunnel_68 hL 2 rfl ?_
  refine x_iload_n C dX9_tunnel_69 hL 3 rfl ?_
  refine lv_bipush (v := 16) hx hb dX9_tunnel_70 (by decide) ?_
  obtain ⟨g1, hd⟩ := gd_ex hd
  obtain ⟨G3, h2, hd⟩ := bo_ex hd
  refine r_callV (a := x0) (ci := 9) (As := [.int x1, .int ((x5 - x5 / 16 * 16)), .int x2, .int x3, .int 16]) C (ct_X9_sendStop h2) mf_X9_sendStop ml_X9_319 mv_X9_sendStop rfl ⟨Nat.le_of_ble_eq_true rfl, Nat.le_of_ble_eq_true rfl⟩ dX9_tunnel_72 (lx_size hL) rfl hR hS g1 ⟨Nat.le_refl _, Nat.le_refl _⟩ (cat_le [] (Nat.le_of_ble_eq_true rfl)) (fun H locs hR hS => ?_)
  refine W_st (st2 := []) rfl ?_
  exact k_X9_tunnel_75 C hL hR hS hd
set_option maxHeartbeats 4000000 in
set_option maxRecDepth 100000 in
theorem k_X9_tunnel (C : Cx p s m args meth c RX9 cX9_tunnel 7 none b0 D E) {GG : Hp} {x0 : Nat} {x1 : Int32} {x2 : Int32} {x3 : Int32} {x4 : Int32} {x5 : Int32} {x6 : Int32} {G : Hp} {ls : Array Slot} {H : Heap} {locs : List Loc} : lx ls 7 [(0, .inr x0), (1, .inl x1), (2, .inl x2), (3, .inl x3), (4, .inl x4), (5, .inl x5), (6, .inl x6)] → Rp b0 D E G H → SS b0 s H locs → d_X9_tunnel x0 x1 x2 x3 x4 x5 x6 G = some GG → W p l e (rmd 10 (0) (0)) s m args below meth c H locs (0) (0) (MQ below (CQ b0 D E none GG) args s (0) (0) (fun q => b0 ≤ q)) (F0 m 0 ls []) := by
  intro hL hR hS hd
  unfold d_X9_tunnel at hd
  have hx := C.1
  have hb := C.2.1
  refine x_iload_n C dX9_tunnel_0 hL 1 rfl ?_
  refine x_aload_n C dX9_tunnel_1 hL 0 rfl ?_
  obtain ⟨g1, hd⟩ := gd_ex hd
  refine r_getr (ci := 9) (k := 12) C fl_X9_23 rfl dX9_tunnel_2 hR g1 ?_
  refine x_iload_n C dX9_tunnel_5 hL 2 rfl ?_
  obtain ⟨g2, hd⟩ := gd_ex hd
  refine r_iald C dX9_tunnel_6 hR g2 ?_
  refine lv_icmp_eq (tgt := 41) hx hb dX9_tunnel_7 (by decide) (fun c3 => ?_) (fun c3 => ?_)
  · rw [if_pos c3] at hd
    refine x_aload_n C dX9_tunnel_41 hL 0 rfl ?_
    refine x_iload_n C dX9_tunnel_42 hL 1 rfl ?_
    refine x_iload_n C dX9_tunnel_43 hL 2 rfl ?_
    refine x_iload_n C dX9_tunnel_44 hL 3 rfl ?_
    obtain ⟨v5, h4, hd⟩ := bo_ex hd
    refine r_callV (a := x0) (ci := 9) (As := [.int x1, .int x2, .int x3]) C (ct_X9_isStraight h4) mf_X9_isStraight ml_X9_191 mv_X9_isStraight rfl ⟨Nat.le_of_ble_eq_true rfl, Nat.le_of_ble_eq_true rfl⟩ dX9_tunnel_45 (lx_size hL) rfl hR hS g1 ⟨Nat.le_refl _, Nat.le_refl _⟩ (cat_le [] (Nat.le_of_ble_eq_true rfl)) (fun H locs hR hS => ?_)
    refine W_st (st2 := [.int v5]) rfl ?_
    refine lv_if_ne (tgt := 61) hx hb dX9_tunnel_48 (by decide) (fun c6 => ?_) (fun c6 => ?_)
    · rw [if_neg c6] at hd
      exact k_X9_tunnel_61 C (lx_sub hL [0, 1, 2, 3, 4, 5] rfl) hR hS hd
    · rw [if_pos c6] at hd
      refine x_aload_n C dX9_tunnel_51 hL 0 rfl ?_
      refine x_iload_n C dX9_tunnel_52 hL 1 rfl ?_
      refine x_iload_n C dX9_tunnel_53 hL 2 rfl ?_
      refine x_iload_n C dX9_tunnel_54 hL 3 rfl ?_
      obtain ⟨v8, G9, h7, hd⟩ := b2_ex hd
      refine r_callV (a := x0) (ci := 9) (As := [.int x1, .int x2, .int x3]) C (ct_X9_all h7) mf_X9_all ml_X9_223 mv_X9_all rfl ⟨Nat.le_of_ble_eq_true rfl, Nat.le_of_ble_eq_true rfl⟩ dX9_tunnel_55 (lx_size hL) rfl hR hS g1 ⟨Nat.le_refl _, Nat.le_refl _⟩ (cat_le [] (Nat.le_of_ble_eq_true rfl)) (fun H locs hR hS => ?_)
      refine W_st (st2 := [.int v8]) rfl ?_
      refine lv_if_ne (tgt := 75) hx hb dX9_tunnel_58 (by decide) (fun c10 => ?_) (fun c10 => ?_)
      · rw [if_neg c10] at hd
        exact k_X9_tunnel_75 C (lx_sub hL [0, 1, 2, 3, 4, 5] rfl) hR hS hd
      · rw [if_pos c10] at hd
        exact k_X9_tunnel_61 C (lx_sub hL [0, 1, 2, 3, 4, 5] rfl) hR hS hd
  · rw [if_neg c3] at hd
    refine x_iload C dX9_tunnel_10 hL 6 rfl ?_
    refine lv_iconst (v := 1) hx hb dX9_tunnel_12 (by decide) ?_
    refine lv_icmp_le (tgt := 40) hx hb dX9_tunnel_13 (by decide) (fun c11 => ?_) (fun c11 => ?_)
    · rw [if_pos c11] at hd
      cases hd
      exact r_vret C dX9_tunnel_40 hR hS
    · rw [if_neg c11] at hd
      refine x_aload_n C dX9_tunnel_16 hL 0 rfl ?_
      refine x_iload_n C dX9_tunnel_17 hL 1 rfl ?_
      refine x_aload_n C dX9_tunnel_18 hL 0 rfl ?_
      refine x_iload_n C dX9_tunnel_19 hL 1 rfl ?_
      refine x_iload_n C dX9_tunnel_20 hL 2 rfl ?_
      obtain ⟨v13, G14, h12, hd⟩ := b2_ex hd
      refine r_callV (a := x0) (ci := 9) (As := [.int x1, .int x2]) C (ct_X9_toMeeting h12) mf_X9_toMeeting ml_X9_194 mv_X9_toMeeting rfl ⟨Nat.le_of_ble_eq_true rfl, Nat.le_of_ble_eq_true rfl⟩ dX9_tunnel_21 (lx_size hL) rfl hR hS g1 ⟨Nat.le_refl _, Nat.le_refl _⟩ (cat_le [.inl x1, .inr x0] (Nat.le_of_ble_eq_true rfl)) (fun H locs hR hS => ?_)
      refine W_st (st2 := [.int v13, .int x1, rv x0]) rfl ?_
      refine lv_bipush (v := 9) hx hb dX9_tunnel_24 (by decide) ?_
      refine x_iload_n C dX9_tunnel_26 hL 2 rfl ?_
      refine x_iload_n C dX9_tunnel_27 hL 3 rfl ?_
      refine x_iload C dX9_tunnel_28 hL 4 rfl ?_
      refine x_iload C dX9_tunnel_30 hL 5 rfl ?_
      refine x_iload C dX9_tunnel_32 hL 6 rfl ?_
      refine lv_iconst (v := 1) hx hb dX9_tunnel_34 (by decide) ?_
      refine lv_isub hx hb dX9_tunnel_35 ?_
      obtain ⟨g15, hd⟩ := gd_ex hd
      obtain ⟨v17, G18, h16, hd⟩ := b2_ex hd
      refine r_callV (a := x0) (ci := 9) (As := [.int x1, .int v13, .int 9, .int x2, .int x3, .int x4, .int x5, .int ((x6 - 1))]) C (ct_X9_sendBy h16) mf_X9_sendBy ml_X9_248 mv_X9_sendBy rfl ⟨Nat.le_of_ble_eq_true rfl, Nat.le_of_ble_eq_true rfl⟩ dX9_tunnel_36 (lx_size hL) rfl hR hS g15 ⟨Nat.le_refl _, Nat.le_refl _⟩ (cat_le [] (Nat.le_of_ble_eq_true rfl)) (fun H locs hR hS => ?_)
      refine W_st (st2 := [.int v17]) rfl ?_
      refine lv_pop hx hb dX9_tunnel_39 rfl ?_
      cases hd
      exact r_vret C dX9_tunnel_40 hR hS
end
set_option maxHeartbeats 4000000 in
set_option maxRecDepth 100000 in
theorem ct_X9_tunnel {l : Launch} {b0 : Nat} {D : va_G} {E : Nat → ClassId} {G : Hp} {a0 : Nat} {a1 : Int32} {a2 : Int32} {a3 : Int32} {a4 : Int32} {a5 : Int32} {a6 : Int32} {GG : Hp} (hd : d_X9_tunnel a0 a1 a2 a3 a4 a5 a6 G = some GG) : CT l yX9_tunnel cX9_tunnel 7 none 10 0 0 b0 D E [rv a0, .int a1, .int a2, .int a3, .int a4, .int a5, .int a6] G none GG := by
  refine CT_of (by decide +kernel) ?_
  intro p e s m below meth c C hnm hR
  refine r_entry [.inr a0, .inl a1, .inl a2, .inl a3, .inl a4, .inl a5, .inl a6] (n := 7) (Nat.le_of_ble_eq_true rfl) (lv := [(0, .inr a0), (1, .inl a1), (2, .inl a2), (3, .inl a3), (4, .inl a4), (5, .inl a5), (6, .inl a6)]) rfl (fun ls hL => ?_)
  exact k_X9_tunnel C (lx_sub hL [0, 1, 2, 3, 4, 5, 6] rfl) hR ⟨fun _ _ => rfl, fun _ h => by cases h⟩ hd

/-! GroveWorksModel.stop(IIIII)V -/
theorem dX9_stop_0 : decode cX9_stop 0 = .ok (.iload_n 1, 1) := by decide +kernel
theorem dX9_stop_1 : decode cX9_stop 1 = .ok (.iload 4, 2) := by decide +kernel
theorem dX9_stop_3 : decode cX9_stop 3 = .ok (.if_icmp .ne 29, 3) := by decide +kernel
theorem dX9_stop_6 : decode cX9_stop 6 = .ok (.aload_n 0, 1) := by decide +kernel
theorem dX9_stop_7 : decode cX9_stop 7 = .ok (.getfield 102, 3) := by decide +kernel
theorem dX9_stop_10 : decode cX9_stop 10 = .ok (.bipush 16, 2) := by decide +kernel
theorem dX9_stop_12 : decode cX9_stop 12 = .ok (.bipush 8, 2) := by decide +kernel
theorem dX9_stop_14 : decode cX9_stop 14 = .ok (.iload_n 1, 1) := by decide +kernel
theorem dX9_stop_15 : decode cX9_stop 15 = .ok (.imul, 1) := by decide +kernel
theorem dX9_stop_16 : decode cX9_stop 16 = .ok (.iload_n 2, 1) := by decide +kernel
theorem dX9_stop_17 : decode cX9_stop 17 = .ok (.iadd, 1) := by decide +kernel
theorem dX9_stop_18 : decode cX9_stop 18 = .ok (.imul, 1) := by decide +kernel
theorem dX9_stop_19 : decode cX9_stop 19 = .ok (.iload_n 3, 1) := by decide +kernel
theorem dX9_stop_20 : decode cX9_stop 20 = .ok (.iadd, 1) := by decide +kernel
theorem dX9_stop_21 : decode cX9_stop 21 = .ok (.aload_n 0, 1) := by decide +kernel
theorem dX9_stop_22 : decode cX9_stop 22 = .ok (.getfield 122, 3) := by decide +kernel
theorem dX9_stop_25 : decode cX9_stop 25 = .ok (.bipush 40, 2) := by decide +kernel
theorem dX9_stop_27 : decode cX9_stop 27 = .ok (.iadd, 1) := by decide +kernel
theorem dX9_stop_28 : decode cX9_stop 28 = .ok (.iastore, 1) := by decide +kernel
theorem dX9_stop_29 : decode cX9_stop 29 = .ok (.goto 22, 3) := by decide +kernel
theorem dX9_stop_32 : decode cX9_stop 32 = .ok (.iload 5, 2) := by decide +kernel
theorem dX9_stop_34 : decode cX9_stop 34 = .ok (.iconst 1, 1) := by decide +kernel
theorem dX9_stop_35 : decode cX9_stop 35 = .ok (.if_icmp .le 16, 3) := by decide +kernel
theorem dX9_stop_38 : decode cX9_stop 38 = .ok (.aload_n 0, 1) := by decide +kernel
theorem dX9_stop_39 : decode cX9_stop 39 = .ok (.iload_n 1, 1) := by decide +kernel
theorem dX9_stop_40 : decode cX9_stop 40 = .ok (.iload 4, 2) := by decide +kernel
theorem dX9_stop_42 : decode cX9_stop 42 = .ok (.iload_n 2, 1) := by decide +kernel
theorem dX9_stop_43 : decode cX9_stop 43 = .ok (.iload_n 3, 1) := by decide +kernel
theorem dX9_stop_44 : decode cX9_stop 44 = .ok (.iload 5, 2) := by decide +kernel
theorem dX9_stop_46 : decode cX9_stop 46 = .ok (.iconst 1, 1) := by decide +kernel
theorem dX9_stop_47 : decode cX9_stop 47 = .ok (.isub, 1) := by decide +kernel
theorem dX9_stop_48 : decode cX9_stop 48 = .ok (.invokevirtual 319, 3) := by decide +kernel
theorem dX9_stop_51 : decode cX9_stop 51 = .ok (.return_, 1) := by decide +kernel
def d_X9_stop (x0 : Nat) (x1 : Int32) (x2 : Int32) (x3 : Int32) (x4 : Int32) (x5 : Int32) (G : Hp) : Option (Hp) :=
  if x1 = x4 then
    gd (hc G x0 = 10) <|
    gd (hc G ((hr G x0 38)) = 11 ∧ ix ((((16 * ((((8 * x1)) + x2)))) + x3)) (hl G ((hr G x0 38)))) <|
    bd (sI G ((hr G x0 38)) ((((16 * ((((8 * x1)) + x2)))) + x3)).toNatClampNeg ((((hi G x0 0)) + 40))) fun G8 =>
    some G8
  else
    if x5 ≤ 1 then
      some G
    else
      gd (hc G x0 = 10) <|
      bo (d_X9_sendStop x0 x1 x4 x2 x3 ((x5 - 1)) G) fun G5 =>
      some G5
section
variable {p : Program} {l : Launch} {e : Env} {s : State} {m : MethodId} {args : Array Value} {below : List Frame} {meth : Method} {c : Code} {b0 : Nat} {D : va_G} {E : Nat → ClassId}
set_option maxHeartbeats 4000000 in
set_option maxRecDepth 100000 in
theorem k_X9_stop (C : Cx p s m args meth c RX9 cX9_stop 6 none b0 D E) {GG : Hp} {x0 : Nat} {x1 : Int32} {x2 : Int32} {x3 : Int32} {x4 : Int32} {x5 : Int32} {G : Hp} {ls : Array Slot} {H : Heap} {locs : List Loc} : lx ls 6 [(0, .inr x0), (1, .inl x1), (2, .inl x2), (3, .inl x3), (4, .inl x4), (5, .inl x5)] → Rp b0 D E G H → SS b0 s H locs → d_X9_stop x0 x1 x2 x3 x4 x5 G = some GG → W p l e (rmd 5 (0) (0)) s m args below meth c H locs (0) (0) (MQ below (CQ b0 D E none GG) args s (0) (0) (fun q => b0 ≤ q)) (F0 m 0 ls []) := by
  intro hL hR hS hd
  unfold d_X9_stop at hd
  have hx := C.1
  have hb := C.2.1
  refine x_iload_n C dX9_stop_0 hL 1 rfl ?_
  refine x_iload C dX9_stop_1 hL 4 rfl ?_
  refine lv_icmp_ne (tgt := 32) hx hb dX9_stop_3 (by decide) (fun c1 => ?_) (fun c1 => ?_)
  · rw [if_neg c1] at hd
    refine x_iload C dX9_stop_32 hL 5 rfl ?_
    refine lv_iconst (v := 1) hx hb dX9_stop_34 (by decide) ?_
    refine lv_icmp_le (tgt := 51) hx hb dX9_stop_35 (by decide) (fun c2 => ?_) (fun c2 => ?_)
    · rw [if_pos c2] at hd
      cases hd
      exact r_vret C dX9_stop_51 hR hS
    · rw [if_neg c2] at hd
      refine x_aload_n C dX9_stop_38 hL 0 rfl ?_
      refine x_iload_n C dX9_stop_39 hL 1 rfl ?_
      refine x_iload C dX9_stop_40 hL 4 rfl ?_
      refine x_iload_n C dX9_stop_42 hL 2 rfl ?_
      refine x_iload_n C dX9_stop_43 hL 3 rfl ?_
      refine x_iload C dX9_stop_44 hL 5 rfl ?_
      refine lv_iconst (v := 1) hx hb dX9_stop_46 (by decide) ?_
      refine lv_isub hx hb dX9_stop_47 ?_
      obtain ⟨g3, hd⟩ := gd_ex hd
      obtain ⟨G5, h4, hd⟩ := bo_ex hd
      refine r_callV (a := x0) (ci := 9) (As := [.int x1, .int x4, .int x2, .int x3, .int ((x5 - 1))]) C (ct_X9_sendStop h4) mf_X9_sendStop ml_X9_319 mv_X9_sendStop rfl ⟨Nat.le_of_ble_eq_true rfl, Nat.le_of_ble_eq_true rfl⟩ dX9_stop_48 (lx_size hL) rfl hR hS g3 ⟨Nat.le_refl _, Nat.le_refl _⟩ (cat_le [] (Nat.le_of_ble_eq_true rfl)) (fun H locs hR hS => ?_)
      refine W_st (st2 := []) rfl ?_
      cases hd
      exact r_vret C dX9_stop_51 hR hS
  · rw [if_pos c1] at hd
    refine x_aload_n C dX9_stop_6 hL 0 rfl ?_
    obtain ⟨g6, hd⟩ := gd_ex hd
    refine r_getr (ci := 9) (k := 38) C fl_X9_102 rfl dX9_stop_7 hR g6 ?_
    refine lv_bipush (v := 16) hx hb dX9_stop_10 (by decide) ?_
    refine lv_bipush (v := 8) hx hb dX9_stop_12 (by decide) ?_
    refine x_iload_n C dX9_stop_14 hL 1 rfl ?_
    refine lv_imul hx hb dX9_stop_15 ?_
    refine x_iload_n C dX9_stop_16 hL 2 rfl ?_
    refine lv_iadd hx hb dX9_stop_17 ?_
    refine lv_imul hx hb dX9_stop_18 ?_
    refine x_iload_n C dX9_stop_19 hL 3 rfl ?_
    refine lv_iadd hx hb dX9_stop_20 ?_
    refine x_aload_n C dX9_stop_21 hL 0 rfl ?_
    refine r_geti (ci := 9) (k := 0) C fl_X9_122 rfl dX9_stop_22 hR g6 ?_
    refine lv_bipush (v := 40) hx hb dX9_stop_25 (by decide) ?_
    refine lv_iadd hx hb dX9_stop_27 ?_
    obtain ⟨g7, hd⟩ := gd_ex hd
    obtain ⟨G8, eG8, hd⟩ := bd_ex hd
    refine r_iast C dX9_stop_28 hR hS g7 (fun H locs hR hS => ?_)
    replace hR : Rp b0 D E G8 H := by rw [eG8]; exact hR
    refine lv_goto (tgt := 51) hx hb dX9_stop_29 (by decide) ?_
    cases hd
    exact r_vret C dX9_stop_51 hR hS
end
set_option maxHeartbeats 4000000 in
set_option maxRecDepth 100000 in
theorem ct_X9_stop {l : Launch} {b0 : Nat} {D : va_G} {E : Nat → ClassId} {G : Hp} {a0 : Nat} {a1 : Int32} {a2 : Int32} {a3 : Int32} {a4 : Int32} {a5 : Int32} {GG : Hp} (hd : d_X9_stop a0 a1 a2 a3 a4 a5 G = some GG) : CT l yX9_stop cX9_stop 6 none 5 0 0 b0 D E [rv a0, .int a1, .int a2, .int a3, .int a4, .int a5] G none GG := by
  refine CT_of (by decide +kernel) ?_
  intro p e s m below meth c C hnm hR
  refine r_entry [.inr a0, .inl a1, .inl a2, .inl a3, .inl a4, .inl a5] (n := 6) (Nat.le_of_ble_eq_true rfl) (lv := [(0, .inr a0), (1, .inl a1), (2, .inl a2), (3, .inl a3), (4, .inl a4), (5, .inl a5)]) rfl (fun ls hL => ?_)
  exact k_X9_stop C (lx_sub hL [0, 1, 2, 3, 4, 5] rfl) hR ⟨fun _ _ => rfl, fun _ h => by cases h⟩ hd

/-! GroveWorksModel.comes(III)V -/
theorem dX9_comes_0 : decode cX9_comes 0 = .ok (.aload_n 0, 1) := by decide +kernel
theorem dX9_comes_1 : decode cX9_comes 1 = .ok (.getfield 47, 3) := by decide +kernel
theorem dX9_comes_4 : decode cX9_comes 4 = .ok (.iload_n 3, 1) := by decide +kernel
theorem dX9_comes_5 : decode cX9_comes 5 = .ok (.iaload, 1) := by decide +kernel
theorem dX9_comes_6 : decode cX9_comes 6 = .ok (.istore 4, 2) := by decide +kernel
theorem dX9_comes_8 : decode cX9_comes 8 = .ok (.aload_n 0, 1) := by decide +kernel
theorem dX9_comes_9 : decode cX9_comes 9 = .ok (.getfield 47, 3) := by decide +kernel
theorem dX9_comes_12 : decode cX9_comes 12 = .ok (.iload_n 3, 1) := by decide +kernel
theorem dX9_comes_13 : decode cX9_comes 13 = .ok (.iconst 1, 1) := by decide +kernel
theorem dX9_comes_14 : decode cX9_comes 14 = .ok (.iadd, 1) := by decide +kernel
theorem dX9_comes_15 : decode cX9_comes 15 = .ok (.iaload, 1) := by decide +kernel
theorem dX9_comes_16 : decode cX9_comes 16 = .ok (.istore 5, 2) := by decide +kernel
theorem dX9_comes_18 : decode cX9_comes 18 = .ok (.aload_n 0, 1) := by decide +kernel
theorem dX9_comes_19 : decode cX9_comes 19 = .ok (.getfield 47, 3) := by decide +kernel
theorem dX9_comes_22 : decode cX9_comes 22 = .ok (.iload_n 3, 1) := by decide +kernel
theorem dX9_comes_23 : decode cX9_comes 23 = .ok (.iconst 3, 1) := by decide +kernel
theorem dX9_comes_24 : decode cX9_comes 24 = .ok (.iadd, 1) := by decide +kernel
theorem dX9_comes_25 : decode cX9_comes 25 = .ok (.iaload, 1) := by decide +kernel
theorem dX9_comes_26 : decode cX9_comes 26 = .ok (.istore 6, 2) := by decide +kernel
theorem dX9_comes_28 : decode cX9_comes 28 = .ok (.aload_n 0, 1) := by decide +kernel
theorem dX9_comes_29 : decode cX9_comes 29 = .ok (.getfield 47, 3) := by decide +kernel
theorem dX9_comes_32 : decode cX9_comes 32 = .ok (.iload_n 3, 1) := by decide +kernel
theorem dX9_comes_33 : decode cX9_comes 33 = .ok (.iconst 4, 1) := by decide +kernel
theorem dX9_comes_34 : decode cX9_comes 34 = .ok (.iadd, 1) := by decide +kernel
theorem dX9_comes_35 : decode cX9_comes 35 = .ok (.iaload, 1) := by decide +kernel
theorem dX9_comes_36 : decode cX9_comes 36 = .ok (.istore 7, 2) := by decide +kernel
theorem dX9_comes_38 : decode cX9_comes 38 = .ok (.aload_n 0, 1) := by decide +kernel
theorem dX9_comes_39 : decode cX9_comes 39 = .ok (.getfield 47, 3) := by decide +kernel
theorem dX9_comes_42 : decode cX9_comes 42 = .ok (.iload_n 3, 1) := by decide +kernel
theorem dX9_comes_43 : decode cX9_comes 43 = .ok (.iconst 2, 1) := by decide +kernel
theorem dX9_comes_44 : decode cX9_comes 44 = .ok (.iadd, 1) := by decide +kernel
theorem dX9_comes_45 : decode cX9_comes 45 = .ok (.iaload, 1) := by decide +kernel
theorem dX9_comes_46 : decode cX9_comes 46 = .ok (.iload_n 1, 1) := by decide +kernel
theorem dX9_comes_47 : decode cX9_comes 47 = .ok (.if_icmp .ne 7, 3) := by decide +kernel
theorem dX9_comes_50 : decode cX9_comes 50 = .ok (.iconst 1, 1) := by decide +kernel
theorem dX9_comes_51 : decode cX9_comes 51 = .ok (.goto 4, 3) := by decide +kernel
theorem dX9_comes_54 : decode cX9_comes 54 = .ok (.iconst 0, 1) := by decide +kernel
theorem dX9_comes_55 : decode cX9_comes 55 = .ok (.istore 8, 2) := by decide +kernel
theorem dX9_comes_57 : decode cX9_comes 57 = .ok (.iload 4, 2) := by decide +kernel
theorem dX9_comes_59 : decode cX9_comes 59 = .ok (.iconst 1, 1) := by decide +kernel
theorem dX9_comes_60 : decode cX9_comes 60 = .ok (.if_icmp .ne 26, 3) := by decide +kernel
theorem dX9_comes_63 : decode cX9_comes 63 = .ok (.aload_n 0, 1) := by decide +kernel
theorem dX9_comes_64 : decode cX9_comes 64 = .ok (.getfield 63, 3) := by decide +kernel
theorem dX9_comes_67 : decode cX9_comes 67 = .ok (.bipush 10, 2) := by decide +kernel
theorem dX9_comes_69 : decode cX9_comes 69 = .ok (.iconst 4, 1) := by decide +kernel
theorem dX9_comes_70 : decode cX9_comes 70 = .ok (.iload_n 1, 1) := by decide +kernel
theorem dX9_comes_71 : decode cX9_comes 71 = .ok (.imul, 1) := by decide +kernel
theorem dX9_comes_72 : decode cX9_comes 72 = .ok (.iload_n 2, 1) := by decide +kernel
theorem dX9_comes_73 : decode cX9_comes 73 = .ok (.iadd, 1) := by decide +kernel
theorem dX9_comes_74 : decode cX9_comes 74 = .ok (.imul, 1) := by decide +kernel
theorem dX9_comes_75 : decode cX9_comes 75 = .ok (.iload 5, 2) := by decide +kernel
theorem dX9_comes_77 : decode cX9_comes 77 = .ok (.iadd, 1) := by decide +kernel
theorem dX9_comes_78 : decode cX9_comes 78 = .ok (.aload_n 0, 1) := by decide +kernel
theorem dX9_comes_79 : decode cX9_comes 79 = .ok (.getfield 122, 3) := by decide +kernel
theorem dX9_comes_82 : decode cX9_comes 82 = .ok (.bipush 65, 2) := by decide +kernel
theorem dX9_comes_84 : decode cX9_comes 84 = .ok (.iadd, 1) := by decide +kernel
theorem dX9_comes_85 : decode cX9_comes 85 = .ok (.iastore, 1) := by decide +kernel
theorem dX9_comes_86 : decode cX9_comes 86 = .ok (.iload 4, 2) := by decide +kernel
theorem dX9_comes_88 : decode cX9_comes 88 = .ok (.iconst 3, 1) := by decide +kernel
theorem dX9_comes_89 : decode cX9_comes 89 = .ok (.if_icmp .ne 26, 3) := by decide +kernel
theorem dX9_comes_92 : decode cX9_comes 92 = .ok (.aload_n 0, 1) := by decide +kernel
theorem dX9_comes_93 : decode cX9_comes 93 = .ok (.getfield 72, 3) := by decide +kernel
theorem dX9_comes_96 : decode cX9_comes 96 = .ok (.bipush 8, 2) := by decide +kernel
theorem dX9_comes_98 : decode cX9_comes 98 = .ok (.iconst 4, 1) := by decide +kernel
theorem dX9_comes_99 : decode cX9_comes 99 = .ok (.iload_n 1, 1) := by decide +kernel
theorem dX9_comes_100 : decode cX9_comes 100 = .ok (.imul, 1) := by decide +kernel
theorem dX9_comes_101 : decode cX9_comes 101 = .ok (.iload_n 2, 1) := by decide +kernel
theorem dX9_comes_102 : decode cX9_comes 102 = .ok (.iadd, 1) := by decide +kernel
theorem dX9_comes_103 : decode cX9_comes 103 = .ok (.imul, 1) := by decide +kernel
theorem dX9_comes_104 : decode cX9_comes 104 = .ok (.iload 6, 2) := by decide +kernel
theorem dX9_comes_106 : decode cX9_comes 106 = .ok (.iadd, 1) := by decide +kernel
theorem dX9_comes_107 : decode cX9_comes 107 = .ok (.aload_n 0, 1) := by decide +kernel
theorem dX9_comes_108 : decode cX9_comes 108 = .ok (.getfield 122, 3) := by decide +kernel
theorem dX9_comes_111 : decode cX9_comes 111 = .ok (.bipush 60, 2) := by decide +kernel
theorem dX9_comes_113 : decode cX9_comes 113 = .ok (.iadd, 1) := by decide +kernel
theorem dX9_comes_114 : decode cX9_comes 114 = .ok (.iastore, 1) := by decide +kernel
theorem dX9_comes_115 : decode cX9_comes 115 = .ok (.iload 4, 2) := by decide +kernel
theorem dX9_comes_117 : decode cX9_comes 117 = .ok (.iconst 4, 1) := by decide +kernel
theorem dX9_comes_118 : decode cX9_comes 118 = .ok (.if_icmp .ne 11, 3) := by decide +kernel
theorem dX9_comes_121 : decode cX9_comes 121 = .ok (.aload_n 0, 1) := by decide +kernel
theorem dX9_comes_122 : decode cX9_comes 122 = .ok (.iload_n 1, 1) := by decide +kernel
theorem dX9_comes_123 : decode cX9_comes 123 = .ok (.iload_n 2, 1) := by decide +kernel
theorem dX9_comes_124 : decode cX9_comes 124 = .ok (.iload 6, 2) := by decide +kernel
theorem dX9_comes_126 : decode cX9_comes 126 = .ok (.invokevirtual 255, 3) := by decide +kernel
theorem dX9_comes_129 : decode cX9_comes 129 = .ok (.iload 4, 2) := by decide +kernel
theorem dX9_comes_131 : decode cX9_comes 131 = .ok (.iconst 5, 1) := by decide +kernel
theorem dX9_comes_132 : decode cX9_comes 132 = .ok (.if_icmp .ne 29, 3) := by decide +kernel
theorem dX9_comes_135 : decode cX9_comes 135 = .ok (.iload 8, 2) := by decide +kernel
theorem dX9_comes_137 : decode cX9_comes 137 = .ok (.ifCond .eq 24, 3) := by decide +kernel
theorem dX9_comes_140 : decode cX9_comes 140 = .ok (.aload_n 0, 1) := by decide +kernel
theorem dX9_comes_141 : decode cX9_comes 141 = .ok (.iload_n 1, 1) := by decide +kernel
theorem dX9_comes_142 : decode cX9_comes 142 = .ok (.iload_n 2, 1) := by decide +kernel
theorem dX9_comes_143 : decode cX9_comes 143 = .ok (.iload 6, 2) := by decide +kernel
theorem dX9_comes_145 : decode cX9_comes 145 = .ok (.iload 7, 2) := by decide +kernel
theorem dX9_comes_147 : decode cX9_comes 147 = .ok (.iconst 1, 1) := by decide +kernel
theorem dX9_comes_148 : decode cX9_comes 148 = .ok (.iadd, 1) := by decide +kernel
theorem dX9_comes_149 : decode cX9_comes 149 = .ok (.aload_n 0, 1) := by decide +kernel
theorem dX9_comes_150 : decode cX9_comes 150 = .ok (.getfield 47, 3) := by decide +kernel
theorem dX9_comes_153 : decode cX9_comes 153 = .ok (.iload_n 3, 1) := by decide +kernel
theorem dX9_comes_154 : decode cX9_comes 154 = .ok (.bipush 6, 2) := by decide +kernel
theorem dX9_comes_156 : decode cX9_comes 156 = .ok (.iadd, 1) := by decide +kernel
theorem dX9_comes_157 : decode cX9_comes 157 = .ok (.iaload, 1) := by decide +kernel
theorem dX9_comes_158 : decode cX9_comes 158 = .ok (.invokevirtual 259, 3) := by decide +kernel
theorem dX9_comes_161 : decode cX9_comes 161 = .ok (.iload 4, 2) := by decide +kernel
theorem dX9_comes_163 : decode cX9_comes 163 = .ok (.bipush 6, 2) := by decide +kernel
theorem dX9_comes_165 : decode cX9_comes 165 = .ok (.if_icmp .ne 20, 3) := by decide +kernel
theorem dX9_comes_168 : decode cX9_comes 168 = .ok (.iload 8, 2) := by decide +kernel
theorem dX9_comes_170 : decode cX9_comes 170 = .ok (.ifCond .eq 15, 3) := by decide +kernel
theorem dX9_comes_173 : decode cX9_comes 173 = .ok (.aload_n 0, 1) := by decide +kernel
theorem dX9_comes_174 : decode cX9_comes 174 = .ok (.iload_n 1, 1) := by decide +kernel
theorem dX9_comes_175 : decode cX9_comes 175 = .ok (.iload_n 2, 1) := by decide +kernel
theorem dX9_comes_176 : decode cX9_comes 176 = .ok (.iload 6, 2) := by decide +kernel
theorem dX9_comes_178 : decode cX9_comes 178 = .ok (.iload 7, 2) := by decide +kernel
theorem dX9_comes_180 : decode cX9_comes 180 = .ok (.iconst 1, 1) := by decide +kernel
theorem dX9_comes_181 : decode cX9_comes 181 = .ok (.iadd, 1) := by decide +kernel
theorem dX9_comes_182 : decode cX9_comes 182 = .ok (.invokevirtual 263, 3) := by decide +kernel
theorem dX9_comes_185 : decode cX9_comes 185 = .ok (.iload 4, 2) := by decide +kernel
theorem dX9_comes_187 : decode cX9_comes 187 = .ok (.iconst 5, 1) := by decide +kernel
theorem dX9_comes_188 : decode cX9_comes 188 = .ok (.if_icmp .eq 10, 3) := by decide +kernel
theorem dX9_comes_191 : decode cX9_comes 191 = .ok (.iload 4, 2) := by decide +kernel
theorem dX9_comes_193 : decode cX9_comes 193 = .ok (.bipush 6, 2) := by decide +kernel
theorem dX9_comes_195 : decode cX9_comes 195 = .ok (.if_icmp .ne 39, 3) := by decide +kernel
theorem dX9_comes_198 : decode cX9_comes 198 = .ok (.iload 8, 2) := by decide +kernel
theorem dX9_comes_200 : decode cX9_comes 200 = .ok (.ifCond .ne 34, 3) := by decide +kernel
theorem dX9_comes_203 : decode cX9_comes 203 = .ok (.aload_n 0, 1) := by decide +kernel
theorem dX9_comes_204 : decode cX9_comes 204 = .ok (.iload_n 1, 1) := by decide +kernel
theorem dX9_comes_205 : decode cX9_comes 205 = .ok (.iload_n 2, 1) := by decide +kernel
theorem dX9_comes_206 : decode cX9_comes 206 = .ok (.iload 4, 2) := by decide +kernel
theorem dX9_comes_208 : decode cX9_comes 208 = .ok (.aload_n 0, 1) := by decide +kernel
theorem dX9_comes_209 : decode cX9_comes 209 = .ok (.getfield 47, 3) := by decide +kernel
theorem dX9_comes_212 : decode cX9_comes 212 = .ok (.iload_n 3, 1) := by decide +kernel
theorem dX9_comes_213 : decode cX9_comes 213 = .ok (.iconst 2, 1) := by decide +kernel
theorem dX9_comes_214 : decode cX9_comes 214 = .ok (.iadd, 1) := by decide +kernel
theorem dX9_comes_215 : decode cX9_comes 215 = .ok (.iaload, 1) := by decide +kernel
theorem dX9_comes_216 : decode cX9_comes 216 = .ok (.iload 6, 2) := by decide +kernel
theorem dX9_comes_218 : decode cX9_comes 218 = .ok (.iload 7, 2) := by decide +kernel
theorem dX9_comes_220 : decode cX9_comes 220 = .ok (.iconst 1, 1) := by decide +kernel
theorem dX9_comes_221 : decode cX9_comes 221 = .ok (.iadd, 1) := by decide +kernel
theorem dX9_comes_222 : decode cX9_comes 222 = .ok (.aload_n 0, 1) := by decide +kernel
theorem dX9_comes_223 : decode cX9_comes 223 = .ok (.getfield 47, 3) := by decide +kernel
theorem dX9_comes_226 : decode cX9_comes 226 = .ok (.iload_n 3, 1) := by decide +kernel
theorem dX9_comes_227 : decode cX9_comes 227 = .ok (.bipush 6, 2) := by decide +kernel
theorem dX9_comes_229 : decode cX9_comes 229 = .ok (.iadd, 1) := by decide +kernel
theorem dX9_comes_230 : decode cX9_comes 230 = .ok (.iaload, 1) := by decide +kernel
theorem dX9_comes_231 : decode cX9_comes 231 = .ok (.invokevirtual 267, 3) := by decide +kernel
theorem dX9_comes_234 : decode cX9_comes 234 = .ok (.iload 4, 2) := by decide +kernel
theorem dX9_comes_236 : decode cX9_comes 236 = .ok (.bipush 7, 2) := by decide +kernel
theorem dX9_comes_238 : decode cX9_comes 238 = .ok (.if_icmp .ne 30, 3) := by decide +kernel
theorem dX9_comes_241 : decode cX9_comes 241 = .ok (.aload_n 0, 1) := by decide +kernel
theorem dX9_comes_242 : decode cX9_comes 242 = .ok (.iload_n 1, 1) := by decide +kernel
theorem dX9_comes_243 : decode cX9_comes 243 = .ok (.iload_n 2, 1) := by decide +kernel
theorem dX9_comes_244 : decode cX9_comes 244 = .ok (.iload 6, 2) := by decide +kernel
theorem dX9_comes_246 : decode cX9_comes 246 = .ok (.iload 7, 2) := by decide +kernel
theorem dX9_comes_248 : decode cX9_comes 248 = .ok (.aload_n 0, 1) := by decide +kernel
theorem dX9_comes_249 : decode cX9_comes 249 = .ok (.getfield 47, 3) := by decide +kernel
theorem dX9_comes_252 : decode cX9_comes 252 = .ok (.iload_n 3, 1) := by decide +kernel
theorem dX9_comes_253 : decode cX9_comes 253 = .ok (.iconst 5, 1) := by decide +kernel
theorem dX9_comes_254 : decode cX9_comes 254 = .ok (.iadd, 1) := by decide +kernel
theorem dX9_comes_255 : decode cX9_comes 255 = .ok (.iaload, 1) := by decide +kernel
theorem dX9_comes_256 : decode cX9_comes 256 = .ok (.aload_n 0, 1) := by decide +kernel
theorem dX9_comes_257 : decode cX9_comes 257 = .ok (.getfield 47, 3) := by decide +kernel
theorem dX9_comes_260 : decode cX9_comes 260 = .ok (.iload_n 3, 1) := by decide +kernel
theorem dX9_comes_261 : decode cX9_comes 261 = .ok (.bipush 7, 2) := by decide +kernel
theorem dX9_comes_263 : decode cX9_comes 263 = .ok (.iadd, 1) := by decide +kernel
theorem dX9_comes_264 : decode cX9_comes 264 = .ok (.iaload, 1) := by decide +kernel
theorem dX9_comes_265 : decode cX9_comes 265 = .ok (.invokevirtual 271, 3) := by decide +kernel
theorem dX9_comes_268 : decode cX9_comes 268 = .ok (.iload 4, 2) := by decide +kernel
theorem dX9_comes_270 : decode cX9_comes 270 = .ok (.bipush 8, 2) := by decide +kernel
theorem dX9_comes_272 : decode cX9_comes 272 = .ok (.if_icmp .ne 21, 3) := by decide +kernel
theorem dX9_comes_275 : decode cX9_comes 275 = .ok (.aload_n 0, 1) := by decide +kernel
theorem dX9_comes_276 : decode cX9_comes 276 = .ok (.iload_n 1, 1) := by decide +kernel
theorem dX9_comes_277 : decode cX9_comes 277 = .ok (.iload_n 2, 1) := by decide +kernel
theorem dX9_comes_278 : decode cX9_comes 278 = .ok (.iload 6, 2) := by decide +kernel
theorem dX9_comes_280 : decode cX9_comes 280 = .ok (.iload 7, 2) := by decide +kernel
theorem dX9_comes_282 : decode cX9_comes 282 = .ok (.aload_n 0, 1) := by decide +kernel
theorem dX9_comes_283 : decode cX9_comes 283 = .ok (.getfield 47, 3) := by decide +kernel
theorem dX9_comes_286 : decode cX9_comes 286 = .ok (.iload_n 3, 1) := by decide +kernel
theorem dX9_comes_287 : decode cX9_comes 287 = .ok (.iconst 5, 1) := by decide +kernel
theorem dX9_comes_288 : decode cX9_comes 288 = .ok (.iadd, 1) := by decide +kernel
theorem dX9_comes_289 : decode cX9_comes 289 = .ok (.iaload, 1) := by decide +kernel
theorem dX9_comes_290 : decode cX9_comes 290 = .ok (.invokevirtual 275, 3) := by decide +kernel
theorem dX9_comes_293 : decode cX9_comes 293 = .ok (.iload 4, 2) := by decide +kernel
theorem dX9_comes_295 : decode cX9_comes 295 = .ok (.bipush 9, 2) := by decide +kernel
theorem dX9_comes_297 : decode cX9_comes 297 = .ok (.if_icmp .ne 43, 3) := by decide +kernel
theorem dX9_comes_300 : decode cX9_comes 300 = .ok (.iload 8, 2) := by decide +kernel
theorem dX9_comes_302 : decode cX9_comes 302 = .ok (.ifCond .eq 38, 3) := by decide +kernel
theorem dX9_comes_305 : decode cX9_comes 305 = .ok (.aload_n 0, 1) := by decide +kernel
theorem dX9_comes_306 : decode cX9_comes 306 = .ok (.iload_n 1, 1) := by decide +kernel
theorem dX9_comes_307 : decode cX9_comes 307 = .ok (.iload 6, 2) := by decide +kernel
theorem dX9_comes_309 : decode cX9_comes 309 = .ok (.iload 7, 2) := by decide +kernel
theorem dX9_comes_311 : decode cX9_comes 311 = .ok (.aload_n 0, 1) := by decide +kernel
theorem dX9_comes_312 : decode cX9_comes 312 = .ok (.getfield 47, 3) := by decide +kernel
theorem dX9_comes_315 : decode cX9_comes 315 = .ok (.iload_n 3, 1) := by decide +kernel
theorem dX9_comes_316 : decode cX9_comes 316 = .ok (.iconst 5, 1) := by decide +kernel
theorem dX9_comes_317 : decode cX9_comes 317 = .ok (.iadd, 1) := by decide +kernel
theorem dX9_comes_318 : decode cX9_comes 318 = .ok (.iaload, 1) := by decide +kernel
theorem dX9_comes_319 : decode cX9_comes 319 = .ok (.aload_n 0, 1) := by decide +kernel
theorem dX9_comes_320 : decode cX9_comes 320 = .ok (.getfield 47, 3) := by decide +kernel
theorem dX9_comes_323 : decode cX9_comes 323 = .ok (.iload_n 3, 1) := by decide +kernel
theorem dX9_comes_324 : decode cX9_comes 324 = .ok (.bipush 6, 2) := by decide +kernel
theorem dX9_comes_326 : decode cX9_comes 326 = .ok (.iadd, 1) := by decide +kernel
theorem dX9_comes_327 : decode cX9_comes 327 = .ok (.iaload, 1) := by decide +kernel
theorem dX9_comes_328 : decode cX9_comes 328 = .ok (.aload_n 0, 1) := by decide +kernel
theorem dX9_comes_329 : decode cX9_comes 329 = .ok (.getfield 47, 3) := by decide +kernel
theorem dX9_comes_332 : decode cX9_comes 332 = .ok (.iload_n 3, 1) := by decide +kernel
theorem dX9_comes_333 : decode cX9_comes 333 = .ok (.bipush 7, 2) := by decide +kernel
theorem dX9_comes_335 : decode cX9_comes 335 = .ok (.iadd, 1) := by decide +kernel
theorem dX9_comes_336 : decode cX9_comes 336 = .ok (.iaload, 1) := by decide +kernel
theorem dX9_comes_337 : decode cX9_comes 337 = .ok (.invokevirtual 278, 3) := by decide +kernel
theorem dX9_comes_340 : decode cX9_comes 340 = .ok (.iload 4, 2) := by decide +kernel
theorem dX9_comes_342 : decode cX9_comes 342 = .ok (.bipush 10, 2) := by decide +kernel
theorem dX9_comes_344 : decode cX9_comes 344 = .ok (.if_icmp .ne 35, 3) := by decide +kernel
theorem dX9_comes_347 : decode cX9_comes 347 = .ok (.iload 8, 2) := by decide +kernel
theorem dX9_comes_349 : decode cX9_comes 349 = .ok (.ifCond .eq 30, 3) := by decide +kernel
theorem dX9_comes_352 : decode cX9_comes 352 = .ok (.aload_n 0, 1) := by decide +kernel
theorem dX9_comes_353 : decode cX9_comes 353 = .ok (.iload_n 1, 1) := by decide +kernel
theorem dX9_comes_354 : decode cX9_comes 354 = .ok (.iload 6, 2) := by decide +kernel
theorem dX9_comes_356 : decode cX9_comes 356 = .ok (.iload 7, 2) := by decide +kernel
theorem dX9_comes_358 : decode cX9_comes 358 = .ok (.aload_n 0, 1) := by decide +kernel
theorem dX9_comes_359 : decode cX9_comes 359 = .ok (.getfield 47, 3) := by decide +kernel
theorem dX9_comes_362 : decode cX9_comes 362 = .ok (.iload_n 3, 1) := by decide +kernel
theorem dX9_comes_363 : decode cX9_comes 363 = .ok (.bipush 6, 2) := by decide +kernel
theorem dX9_comes_365 : decode cX9_comes 365 = .ok (.iadd, 1) := by decide +kernel
theorem dX9_comes_366 : decode cX9_comes 366 = .ok (.iaload, 1) := by decide +kernel
theorem dX9_comes_367 : decode cX9_comes 367 = .ok (.aload_n 0, 1) := by decide +kernel
theorem dX9_comes_368 : decode cX9_comes 368 = .ok (.getfield 47, 3) := by decide +kernel
theorem dX9_comes_371 : decode cX9_comes 371 = .ok (.iload_n 3, 1) := by decide +kernel
theorem dX9_comes_372 : decode cX9_comes 372 = .ok (.bipush 7, 2) := by decide +kernel
theorem dX9_comes_374 : decode cX9_comes 374 = .ok (.iadd, 1) := by decide +kernel
theorem dX9_comes_375 : decode cX9_comes 375 = .ok (.iaload, 1) := by decide +kernel
theorem dX9_comes_376 : decode cX9_comes 376 = .ok (.invokevirtual 281, 3) := by decide +kernel
theorem dX9_comes_379 : decode cX9_comes 379 = .ok (.return_, 1) := by decide +kernel
def d_X9_comes_340 (x0 : Nat) (x1 : Int32) (x3 : Int32) (x4 : Int32) (x6 : Int32) (x7 : Int32) (x8 : Int32) (G : Hp) : Option (Hp) :=
  if x4 = 10 then
    if x8 = 0 then
      some G
    else
      gd (hc G x0 = 10) <|
      gd (hc G ((hr G x0 20)) = 11 ∧ ix ((x3 + 6)) (hl G ((hr G x0 20)))) <|
      gd (hc G ((hr G x0 20)) = 11 ∧ ix ((x3 + 7)) (hl G ((hr G x0 20)))) <|
      bo (d_X9_stop x0 x1 x6 x7 ((hi G ((hr G x0 20)) ((x3 + 6)).toNatClampNeg)) ((hi G ((hr G x0 20)) ((x3 + 7)).toNatClampNeg)) G) fun G7 =>
      some G7
  else
    some G
def d_X9_comes_293 (x0 : Nat) (x1 : Int32) (x3 : Int32) (x4 : Int32) (x6 : Int32) (x7 : Int32) (x8 : Int32) (G : Hp) : Option (Hp) :=
  if x4 = 9 then
    if x8 = 0 then
      d_X9_comes_340 x0 x1 x3 x4 x6 x7 x8 G
    else
      gd (hc G x0 = 10) <|
      gd (hc G ((hr G x0 20)) = 11 ∧ ix ((x3 + 5)) (hl G ((hr G x0 20)))) <|
      gd (hc G ((hr G x0 20)) = 11 ∧ ix ((x3 + 6)) (hl G ((hr G x0 20)))) <|
      gd (hc G ((hr G x0 20)) = 11 ∧ ix ((x3 + 7)) (hl G ((hr G x0 20)))) <|
      bo (d_X9_tunnel x0 x1 x6 x7 ((hi G ((hr G x0 20)) ((x3 + 5)).toNatClampNeg)) ((hi G ((hr G x0 20)) ((x3 + 6)).toNatClampNeg)) ((hi G ((hr G x0 20)) ((x3 + 7)).toNatClampNeg)) G) fun G8 =>
      d_X9_comes_340 x0 x1 x3 x4 x6 x7 x8 G8
  else
    d_X9_comes_340 x0 x1 x3 x4 x6 x7 x8 G
def d_X9_comes_268 (x0 : Nat) (x1 : Int32) (x2 : Int32) (x3 : Int32) (x4 : Int32) (x6 : Int32) (x7 : Int32) (x8 : Int32) (G : Hp) : Option (Hp) :=
  if x4 = 8 then
    gd (hc G x0 = 10) <|
    gd (hc G ((hr G x0 20)) = 11 ∧ ix ((x3 + 5)) (hl G ((hr G x0 20)))) <|
    bo (d_X9_claimed x0 x1 x2 x6 x7 ((hi G ((hr G x0 20)) ((x3 + 5)).toNatClampNeg)) G) fun G5 =>
    d_X9_comes_293 x0 x1 x3 x4 x6 x7 x8 G5
  else
    d_X9_comes_293 x0 x1 x3 x4 x6 x7 x8 G
def d_X9_comes_234 (x0 : Nat) (x1 : Int32) (x2 : Int32) (x3 : Int32) (x4 : Int32) (x6 : Int32) (x7 : Int32) (x8 : Int32) (G : Hp) : Option (Hp) :=
  if x4 = 7 then
    gd (hc G x0 = 10) <|
    gd (hc G ((hr G x0 20)) = 11 ∧ ix ((x3 + 5)) (hl G ((hr G x0 20)))) <|
    gd (hc G ((hr G x0 20)) = 11 ∧ ix ((x3 + 7)) (hl G ((hr G x0 20)))) <|
    bo (d_X9_data x0 x1 x2 x6 x7 ((hi G ((hr G x0 20)) ((x3 + 5)).toNatClampNeg)) ((hi G ((hr G x0 20)) ((x3 + 7)).toNatClampNeg)) G) fun G6 =>
    d_X9_comes_268 x0 x1 x2 x3 x4 x6 x7 x8 G6
  else
    d_X9_comes_268 x0 x1 x2 x3 x4 x6 x7 x8 G
def d_X9_comes_198 (x0 : Nat) (x1 : Int32) (x2 : Int32) (x3 : Int32) (x4 : Int32) (x6 : Int32) (x7 : Int32) (x8 : Int32) (G : Hp) : Option (Hp) :=
  if x8 = 0 then
    gd (hc G x0 = 10) <|
    gd (hc G ((hr G x0 20)) = 11 ∧ ix ((x3 + 2)) (hl G ((hr G x0 20)))) <|
    gd (hc G ((hr G x0 20)) = 11 ∧ ix ((x3 + 6)) (hl G ((hr G x0 20)))) <|
    bo (d_X9_overhears x0 x1 x2 x4 ((hi G ((hr G x0 20)) ((x3 + 2)).toNatClampNeg)) x6 ((x7 + 1)) ((hi G ((hr G x0 20)) ((x3 + 6)).toNatClampNeg)) G) fun G6 =>
    d_X9_comes_234 x0 x1 x2 x3 x4 x6 x7 x8 G6
  else
    d_X9_comes_234 x0 x1 x2 x3 x4 x6 x7 x8 G
def d_X9_comes_185 (x0 : Nat) (x1 : Int32) (x2 : Int32) (x3 : Int32) (x4 : Int32) (x6 : Int32) (x7 : Int32) (x8 : Int32) (G : Hp) : Option (Hp) :=
  if x4 = 5 then
    d_X9_comes_198 x0 x1 x2 x3 x4 x6 x7 x8 G
  else
    if x4 = 6 then
      d_X9_comes_198 x0 x1 x2 x3 x4 x6 x7 x8 G
    else
      d_X9_comes_234 x0 x1 x2 x3 x4 x6 x7 x8 G
def d_X9_comes_161 (x0 : Nat) (x1 : Int32) (x2 : Int32) (x3 : Int32) (x4 : Int32) (x6 : Int32) (x7 : Int32) (x8 : Int32) (G : Hp) : Option (Hp) :=
  if x4 = 6 then
    if x8 = 0 then
      d_X9_comes_185 x0 x1 x2 x3 x4 x6 x7 x8 G
    else
      gd (hc G x0 = 10) <|
      bo (d_X9_prunes x0 x1 x2 x6 ((x7 + 1)) G) fun G5 =>
      d_X9_comes_185 x0 x1 x2 x3 x4 x6 x7 x8 G5
  else
    d_X9_comes_185 x0 x1 x2 x3 x4 x6 x7 x8 G
def d_X9_comes_129 (x0 : Nat) (x1 : Int32) (x2 : Int32) (x3 : Int32) (x4 : Int32) (x6 : Int32) (x7 : Int32) (x8 : Int32) (G : Hp) : Option (Hp) :=
  if x4 = 5 then
    if x8 = 0 then
      d_X9_comes_161 x0 x1 x2 x3 x4 x6 x7 x8 G
    else
      gd (hc G x0 = 10) <|
      gd (hc G ((hr G x0 20)) = 11 ∧ ix ((x3 + 6)) (hl G ((hr G x0 20)))) <|
      bo (d_X9_joins x0 x1 x2 x6 ((x7 + 1)) ((hi G ((hr G x0 20)) ((x3 + 6)).toNatClampNeg)) G) fun G6 =>
      d_X9_comes_161 x0 x1 x2 x3 x4 x6 x7 x8 G6
  else
    d_X9_comes_161 x0 x1 x2 x3 x4 x6 x7 x8 G
def d_X9_comes_115 (x0 : Nat) (x1 : Int32) (x2 : Int32) (x3 : Int32) (x4 : Int32) (x6 : Int32) (x7 : Int32) (x8 : Int32) (G : Hp) : Option (Hp) :=
  if x4 = 4 then
    gd (hc G x0 = 10) <|
    bo (d_X9_left x0 x1 x2 x6 G) fun G4 =>
    d_X9_comes_129 x0 x1 x2 x3 x4 x6 x7 x8 G4
  else
    d_X9_comes_129 x0 x1 x2 x3 x4 x6 x7 x8 G
def d_X9_comes_86 (x0 : Nat) (x1 : Int32) (x2 : Int32) (x3 : Int32) (x4 : Int32) (x6 : Int32) (x7 : Int32) (x8 : Int32) (G : Hp) : Option (Hp) :=
  if x4 = 3 then
    gd (hc G x0 = 10) <|
    gd (hc G ((hr G x0 28)) = 11 ∧ ix ((((8 * ((((4 * x1)) + x2)))) + x6)) (hl G ((hr G x0 28)))) <|
    bd (sI G ((hr G x0 28)) ((((8 * ((((4 * x1)) + x2)))) + x6)).toNatClampNeg ((((hi G x0 0)) + 60))) fun G4 =>
    d_X9_comes_115 x0 x1 x2 x3 x4 x6 x7 x8 G4
  else
    d_X9_comes_115 x0 x1 x2 x3 x4 x6 x7 x8 G
def d_X9_comes_55 (x0 : Nat) (x1 : Int32) (x2 : Int32) (x3 : Int32) (x4 : Int32) (x5 : Int32) (x6 : Int32) (x7 : Int32) (s0 : Int32) (G : Hp) : Option (Hp) :=
  if x4 = 1 then
    gd (hc G x0 = 10) <|
    gd (hc G ((hr G x0 25)) = 11 ∧ ix ((((10 * ((((4 * x1)) + x2)))) + x5)) (hl G ((hr G x0 25)))) <|
    bd (sI G ((hr G x0 25)) ((((10 * ((((4 * x1)) + x2)))) + x5)).toNatClampNeg ((((hi G x0 0)) + 65))) fun G4 =>
    d_X9_comes_86 x0 x1 x2 x3 x4 x6 x7 s0 G4
  else
    d_X9_comes_86 x0 x1 x2 x3 x4 x6 x7 s0 G
def d_X9_comes (x0 : Nat) (x1 : Int32) (x2 : Int32) (x3 : Int32) (G : Hp) : Option (Hp) :=
  gd (hc G x0 = 10) <|
  gd (hc G ((hr G x0 20)) = 11 ∧ ix x3 (hl G ((hr G x0 20)))) <|
  bd ((hi G ((hr G x0 20)) x3.toNatClampNeg)) fun v3 =>
  gd (hc G ((hr G x0 20)) = 11 ∧ ix ((x3 + 1)) (hl G ((hr G x0 20)))) <|
  bd ((hi G ((hr G x0 20)) ((x3 + 1)).toNatClampNeg)) fun v5 =>
  gd (hc G ((hr G x0 20)) = 11 ∧ ix ((x3 + 3)) (hl G ((hr G x0 20)))) <|
  bd ((hi G ((hr G x0 20)) ((x3 + 3)).toNatClampNeg)) fun v7 =>
  gd (hc G ((hr G x0 20)) = 11 ∧ ix ((x3 + 4)) (hl G ((hr G x0 20)))) <|
  bd ((hi G ((hr G x0 20)) ((x3 + 4)).toNatClampNeg)) fun v9 =>
  gd (hc G ((hr G x0 20)) = 11 ∧ ix ((x3 + 2)) (hl G ((hr G x0 20)))) <|
  if ((hi G ((hr G x0 20)) ((x3 + 2)).toNatClampNeg)) = x1 then
    d_X9_comes_55 x0 x1 x2 x3 v3 v5 v7 v9 1 G
  else
    d_X9_comes_55 x0 x1 x2 x3 v3 v5 v7 v9 0 G
section
variable {p : Program} {l : Launch} {e : Env} {s : State} {m : MethodId} {args : Array Value} {below : List Frame} {meth : Method} {c : Code} {b0 : Nat} {D : va_G} {E : Nat → ClassId}
set_option maxHeartbeats 4000000 in
set_option maxRecDepth 100000 in
theorem k_X9_comes_340 (C : Cx p s m args meth c RX9 cX9_comes 9 none b0 D E) {GG : Hp} {x0 : Nat} {x1 : Int32} {x3 : Int32} {x4 : Int32} {x6 : Int32} {x7 : Int32} {x8 : Int32} {G : Hp} {ls : Array Slot} {H : Heap} {locs : List Loc} : lx ls 9 [(0, .inr x0), (1, .inl x1), (3, .inl x3), (4, .inl x4), (6, .inl x6), (7, .inl x7), (8, .inl x8)] → Rp b0 D E G H → SS b0 s H locs → d_X9_comes_340 x0 x1 x3 x4 x6 x7 x8 G = some GG → W p l e (rmd 12 (0) (0)) s m args below meth c H locs (0) (0) (MQ below (CQ b0 D E none GG) args s (0) (0) (fun q => b0 ≤ q)) (F0 m 340 ls []) := by
  intro hL hR hS hd
  unfold d_X9_comes_340 at hd
  have hx := C.1
  have hb := C.2.1
  refine x_iload C dX9_comes_340 hL 3 rfl ?_
  refine lv_bipush (v := 10) hx hb dX9_comes_342 (by decide) ?_
  refine lv_icmp_ne (tgt := 379) hx hb dX9_comes_344 (by decide) (fun c1 => ?_) (fun c1 => ?_)
  · rw [if_neg c1] at hd
    cases hd
    exact r_vret C dX9_comes_379 hR hS
  · rw [if_pos c1] at hd
    refine x_iload C dX9_comes_347 hL 6 rfl ?_
    refine lv_if_eq (tgt := 379) hx hb dX9_comes_349 (by decide) (fun c2 => ?_) (fun c2 => ?_)
    · rw [if_pos c2] at hd
      cases hd
      exact r_vret C dX9_comes_379 hR hS
    · rw [if_neg c2] at hd
      refine x_aload_n C dX9_comes_352 hL 0 rfl ?_
      refine x_iload_n C dX9_comes_353 hL 1 rfl ?_
      refine x_iload C dX9_comes_354 hL 4 rfl ?_
      refine x_iload C dX9_comes_356 hL 5 rfl ?_
      refine x_aload_n C dX9_comes_358 hL 0 rfl ?_
      obtain ⟨g3, hd⟩ := gd_ex hd
      refine r_getr (ci := 9) (k := 20) C fl_X9_47 rfl dX9_comes_359 hR g3 ?_
      refine x_iload_n C dX9_comes_362 hL 2 rfl ?_
      refine lv_bipush (v := 6) hx hb dX9_comes_363 (by decide) ?_
      refine lv_iadd hx hb dX9_comes_365 ?_
      obtain ⟨g4, hd⟩ := gd_ex hd
      refine r_iald C dX9_comes_366 hR g4 ?_
      refine x_aload_n C dX9_comes_367 hL 0 rfl ?_
      refine r_getr (ci := 9) (k := 20) C fl_X9_47 rfl dX9_comes_368 hR g3 ?_
      refine x_iload_n C dX9_comes_371 hL 2 rfl ?_
      refine lv_bipush (v := 7) hx hb dX9_comes_372 (by decide) ?_
      refine lv_iadd hx hb dX9_comes_374 ?_
      obtain ⟨g5, hd⟩ := gd_ex hd
      refine r_iald C dX9_comes_375 hR g5 ?_
      obtain ⟨G7, h6, hd⟩ := bo_ex hd
      refine r_callV (a := x0) (ci := 9) (As := [.int x1, .int x6, .int x7, .int ((hi G ((hr G x0 20)) ((x3 + 6)).toNatClampNeg)), .int ((hi G ((hr G x0 20)) ((x3 + 7)).toNatClampNeg))]) C (ct_X9_stop h6) mf_X9_stop ml_X9_281 mv_X9_stop rfl ⟨Nat.le_of_ble_eq_true rfl, Nat.le_of_ble_eq_true rfl⟩ dX9_comes_376 (lx_size hL) rfl hR hS g3 ⟨Nat.le_refl _, Nat.le_refl _⟩ (cat_le [] (Nat.le_of_ble_eq_true rfl)) (fun H locs hR hS => ?_)
      refine W_st (st2 := []) rfl ?_
      cases hd
      exact r_vret C dX9_comes_379 hR hS
set_option maxHeartbeats 4000000 in
set_option maxRecDepth 100000 in
theorem k_X9_comes_293 (C : Cx p s m args meth c RX9 cX9_comes 9 none b0 D E) {GG : Hp} {x0 : Nat} {x1 : Int32} {x3 : Int32} {x4 : Int32} {x6 : Int32} {x7 : Int32} {x8 : Int32} {G : Hp} {ls : Array Slot} {H : Heap} {locs : List Loc} : lx ls 9 [(0, .inr x0), (1, .inl x1), (3, .inl x3), (4, .inl x4), (6, .inl x6), (7, .inl x7), (8, .inl x8)] → Rp b0 D E G H → SS b0 s H locs → d_X9_comes_293 x0 x1 x3 x4 x6 x7 x8 G = some GG → W p l e (rmd 12 (0) (0)) s m args below meth c H locs (0) (0) (MQ below (CQ b0 D E none GG) args s (0) (0) (fun q => b0 ≤ q)) (F0 m 293 ls []) := by
  intro hL hR hS hd
  unfold d_X9_comes_293 at hd
  have hx := C.1
  have hb := C.2.1
  refine x_iload C dX9_comes_293 hL 3 rfl ?_
  refine lv_bipush (v := 9) hx hb dX9_comes_295 (by decide) ?_
  refine lv_icmp_ne (tgt := 340) hx hb dX9_comes_297 (by decide) (fun c1 => ?_) (fun c1 => ?_)
  · rw [if_neg c1] at hd
    exact k_X9_comes_340 C hL hR hS hd
  · rw [if_pos c1] at hd
    refine x_iload C dX9_comes_300 hL 6 rfl ?_
    refine lv_if_eq (tgt := 340) hx hb dX9_comes_302 (by decide) (fun c2 => ?_) (fun c2 => ?_)
    · rw [if_pos c2] at hd
      exact k_X9_comes_340 C hL hR hS hd
    · rw [if_neg c2] at hd
      refine x_aload_n C dX9_comes_305 hL 0 rfl ?_
      refine x_iload_n C dX9_comes_306 hL 1 rfl ?_
      refine x_iload C dX9_comes_307 hL 4 rfl ?_
      refine x_iload C dX9_comes_309 hL 5 rfl ?_
      refine x_aload_n C dX9_comes_311 hL 0 rfl ?_
      obtain ⟨g3, hd⟩ := gd_ex hd
      refine r_getr (ci := 9) (k := 20) C fl_X9_47 rfl dX9_comes_312 hR g3 ?_
      refine x_iload_n C dX9_comes_315 hL 2 rfl ?_
      refine lv_iconst (v := 5) hx hb dX9_comes_316 (by decide) ?_
      refine lv_iadd hx hb dX9_comes_317 ?_
      obtain ⟨g4, hd⟩ := gd_ex hd
      refine r_iald C dX9_comes_318 hR g4 ?_
      refine x_aload_n C dX9_comes_319 hL 0 rfl ?_
      refine r_getr (ci := 9) (k := 20) C fl_X9_47 rfl dX9_comes_320 hR g3 ?_
      refine x_iload_n C dX9_comes_323 hL 2 rfl ?_
      refine lv_bipush (v := 6) hx hb dX9_comes_324 (by decide) ?_
      refine lv_iadd hx hb dX9_comes_326 ?_
      obtain ⟨g5, hd⟩ := gd_ex hd
      refine r_iald C dX9_comes_327 hR g5 ?_
      refine x_aload_n C dX9_comes_328 hL 0 rfl ?_
      refine r_getr (ci := 9) (k := 20) C fl_X9_47 rfl dX9_comes_329 hR g3 ?_
      refine x_iload_n C dX9_comes_332 hL 2 rfl ?_
      refine lv_bipush (v := 7) hx hb dX9_comes_333 (by decide) ?_
      refine lv_iadd hx hb dX9_comes_335 ?_
      obtain ⟨g6, hd⟩ := gd_ex hd
      refine r_iald C dX9_comes_336 hR g6 ?_
      obtain ⟨G8, h7, hd⟩ := bo_ex hd
      refine r_callV (a := x0) (ci := 9) (As := [.int x1, .int x6, .int x7, .int ((hi G ((hr G x0 20)) ((x3 + 5)).toNatClampNeg)), .int ((hi G ((hr G x0 20)) ((x3 + 6)).toNatClampNeg)), .int ((hi G ((hr G x0 20)) ((x3 + 7)).toNatClampNeg))]) C (ct_X9_tunnel h7) mf_X9_tunnel ml_X9_278 mv_X9_tunnel rfl ⟨Nat.le_of_ble_eq_true rfl, Nat.le_of_ble_eq_true rfl⟩ dX9_comes_337 (lx_size hL) rfl hR hS g3 ⟨Nat.le_refl _, Nat.le_refl _⟩ (cat_le [] (Nat.le_of_ble_eq_true rfl)) (fun H locs hR hS => ?_)
      refine W_st (st2 := []) rfl ?_
      exact k_X9_comes_340 C hL hR hS hd
set_option maxHeartbeats 4000000 in
set_option maxRecDepth 100000 in
theorem k_X9_comes_268 (C : Cx p s m args meth c RX9 cX9_comes 9 none b0 D E) {GG : Hp} {x0 : Nat} {x1 : Int32} {x2 : Int32} {x3 : Int32} {x4 : Int32} {x6 : Int32} {x7 : Int32} {x8 : Int32} {G : Hp} {ls : Array Slot} {H : Heap} {locs : List Loc} : lx ls 9 [(0, .inr x0), (1, .inl x1), (2, .inl x2), (3, .inl x3), (4, .inl x4), (6, .inl x6), (7, .inl x7), (8, .inl x8)] → Rp b0 D E G H → SS b0 s H locs → d_X9_comes_268 x0 x1 x2 x3 x4 x6 x7 x8 G = some GG → W p l e (rmd 12 (0) (0)) s m args below meth c H locs (0) (0) (MQ below (CQ b0 D E none GG) args s (0) (0) (fun q => b0 ≤ q)) (F0 m 268 ls []) := by
  intro hL hR hS hd
  unfold d_X9_comes_268 at hd
  have hx := C.1
  have hb := C.2.1
  refine x_iload C dX9_comes_268 hL 4 rfl ?_
  refine lv_bipush (v := 8) hx hb dX9_comes_270 (by decide) ?_
  refine lv_icmp_ne (tgt := 293) hx hb dX9_comes_272 (by decide) (fun c1 => ?_) (fun c1 => ?_)
  · rw [if_neg c1] at hd
    exact k_X9_comes_293 C (lx_sub hL [0, 1, 3, 4, 5, 6, 7] rfl) hR hS hd
  · rw [if_pos c1] at hd
    refine x_aload_n C dX9_comes_275 hL 0 rfl ?_
    refine x_iload_n C dX9_comes_276 hL 1 rfl ?_
    refine x_iload_n C dX9_comes_277 hL 2 rfl ?_
    refine x_iload C dX9_comes_278 hL 5 rfl ?_
    refine x_iload C dX9_comes_280 hL 6 rfl ?_
    refine x_aload_n C dX9_comes_282 hL 0 rfl ?_
    obtain ⟨g2, hd⟩ := gd_ex hd
    refine r_getr (ci := 9) (k := 20) C fl_X9_47 rfl dX9_comes_283 hR g2 ?_
    refine x_iload_n C dX9_comes_286 hL 3 rfl ?_
    refine lv_iconst (v := 5) hx hb dX9_comes_287 (by decide) ?_
    refine lv_iadd hx hb dX9_comes_288 ?_
    obtain ⟨g3, hd⟩ := gd_ex hd
    refine r_iald C dX9_comes_289 hR g3 ?_
    obtain ⟨G5, h4, hd⟩ := bo_ex hd
    refine r_callV (a := x0) (ci := 9) (As := [.int x1, .int x2, .int x6, .int x7, .int ((hi G ((hr G x0 20)) ((x3 + 5)).toNatClampNeg))]) C (ct_X9_claimed h4) mf_X9_claimed ml_X9_275 mv_X9_claimed rfl ⟨Nat.le_of_ble_eq_true rfl, Nat.le_of_ble_eq_true rfl⟩ dX9_comes_290 (lx_size hL) rfl hR hS g2 ⟨Nat.le_refl _, Nat.le_refl _⟩ (cat_le [] (Nat.le_of_ble_eq_true rfl)) (fun H locs hR hS => ?_)
    refine W_st (st2 := []) rfl ?_
    exact k_X9_comes_293 C (lx_sub hL [0, 1, 3, 4, 5, 6, 7] rfl) hR hS hd
set_option maxHeartbeats 4000000 in
set_option maxRecDepth 100000 in
theorem k_X9_comes_234 (C : Cx p s m args meth c RX9 cX9_comes 9 none b0 D E) {GG : Hp} {x0 : Nat} {x1 : Int32} {x2 : Int32} {x3 : Int32} {x4 : Int32} {x6 : Int32} {x7 : Int32} {x8 : Int32} {G : Hp} {ls : Array Slot} {H : Heap} {locs : List Loc} : lx ls 9 [(0, .inr x0), (1, .inl x1), (2, .inl x2), (3, .inl x3), (4, .inl x4), (6, .inl x6), (7, .inl x7), (8, .inl x8)] → Rp b0 D E G H → SS b0 s H locs → d_X9_comes_234 x0 x1 x2 x3 x4 x6 x7 x8 G = some GG → W p l e (rmd 12 (0) (0)) s m args below meth c H locs (0) (0) (MQ below (CQ b0 D E none GG) args s (0) (0) (fun q => b0 ≤ q)) (F0 m 234 ls []) := by
  intro hL hR hS hd
  unfold d_X9_comes_234 at hd
  have hx := C.1
  have hb := C.2.1
  refine x_iload C dX9_comes_234 hL 4 rfl ?_
  refine lv_bipush (v := 7) hx hb dX9_comes_236 (by decide) ?_
  refine lv_icmp_ne (tgt := 268) hx hb dX9_comes_238 (by decide) (fun c1 => ?_) (fun c1 => ?_)
  · rw [if_neg c1] at hd
    exact k_X9_comes_268 C hL hR hS hd
  · rw [if_pos c1] at hd
    refine x_aload_n C dX9_comes_241 hL 0 rfl ?_
    refine x_iload_n C dX9_comes_242 hL 1 rfl ?_
    refine x_iload_n C dX9_comes_243 hL 2 rfl ?_
    refine x_iload C dX9_comes_244 hL 5 rfl ?_
    refine x_iload C dX9_comes_246 hL 6 rfl ?_
    refine x_aload_n C dX9_comes_248 hL 0 rfl ?_
    obtain ⟨g2, hd⟩ := gd_ex hd
    refine r_getr (ci := 9) (k := 20) C fl_X9_47 rfl dX9_comes_249 hR g2 ?_
    refine x_iload_n C dX9_comes_252 hL 3 rfl ?_
    refine lv_iconst (v := 5) hx hb dX9_comes_253 (by decide) ?_
    refine lv_iadd hx hb dX9_comes_254 ?_
    obtain ⟨g3, hd⟩ := gd_ex hd
    refine r_iald C dX9_comes_255 hR g3 ?_
    refine x_aload_n C dX9_comes_256 hL 0 rfl ?_
    refine r_getr (ci := 9) (k := 20) C fl_X9_47 rfl dX9_comes_257 hR g2 ?_
    refine x_iload_n C dX9_comes_260 hL 3 rfl ?_
    refine lv_bipush (v := 7) hx hb dX9_comes_261 (by decide) ?_
    refine lv_iadd hx hb dX9_comes_263 ?_
    obtain ⟨g4, hd⟩ := gd_ex hd
    refine r_iald C dX9_comes_264 hR g4 ?_
    obtain ⟨G6, h5, hd⟩ := bo_ex hd
    refine r_callV (a := x0) (ci := 9) (As := [.int x1, .int x2, .int x6, .int x7, .int ((hi G ((hr G x0 20)) ((x3 + 5)).toNatClampNeg)), .int ((hi G ((hr G x0 20)) ((x3 + 7)).toNatClampNeg))]) C (ct_X9_data h5) mf_X9_data ml_X9_271 mv_X9_data rfl ⟨Nat.le_of_ble_eq_true rfl, Nat.le_of_ble_eq_true rfl⟩ dX9_comes_265 (lx_size hL) rfl hR hS g2 ⟨Nat.le_refl _, Nat.le_refl _⟩ (cat_le [] (Nat.le_of_ble_eq_true rfl)) (fun H locs hR hS => ?_)
    refine W_st (st2 := []) rfl ?_
    exact k_X9_comes_268 C hL hR hS hd
set_option maxHeartbeats 4000000 in
set_option maxRecDepth 100000 in
theorem k_X9_comes_198 (C : Cx p s m args meth c RX9 cX9_comes 9 none b0 D E) {GG : Hp} {x0 : Nat} {x1 : Int32} {x2 : Int32} {x3 : Int32} {x4 : Int32} {x6 : Int32} {x7 : Int32} {x8 : Int32} {G : Hp} {ls : Array Slot} {H : Heap} {locs : List Loc} : lx ls 9 [(0, .inr x0), (1, .inl x1), (2, .inl x2), (3, .inl x3), (4, .inl x4), (6, .inl x6), (7, .inl x7), (8, .inl x8)] → Rp b0 D E G H → SS b0 s H locs → d_X9_comes_198 x0 x1 x2 x3 x4 x6 x7 x8 G = some GG → W p l e (rmd 12 (0) (0)) s m args below meth c H locs (0) (0) (MQ below (CQ b0 D E none GG) args s (0) (0) (fun q => b0 ≤ q)) (F0 m 198 ls []) := by
  intro hL hR hS hd
  unfold d_X9_comes_198 at hd
  have hx := C.1
  have hb := C.2.1
  refine x_iload C dX9_comes_198 hL 7 rfl ?_
  refine lv_if_ne (tgt := 234) hx hb dX9_comes_200 (by decide) (fun c1 => ?_) (fun c1 => ?_)
  · rw [if_neg c1] at hd
    exact k_X9_comes_234 C hL hR hS hd
  · rw [if_pos c1] at hd
    refine x_aload_n C dX9_comes_203 hL 0 rfl ?_
    refine x_iload_n C dX9_comes_204 hL 1 rfl ?_
    refine x_iload_n C dX9_comes_205 hL 2 rfl ?_
    refine x_iload C dX9_comes_206 hL 4 rfl ?_
    refine x_aload_n C dX9_comes_208 hL 0 rfl ?_
    obtain ⟨g2, hd⟩ := gd_ex hd
    refine r_getr (ci := 9) (k := 20) C fl_X9_47 rfl dX9_comes_209 hR g2 ?_
    refine x_iload_n C dX9_comes_212 hL 3 rfl ?_
    refine lv_iconst (v := 2) hx hb dX9_comes_213 (by decide) ?_
    refine lv_iadd hx hb dX9_comes_214 ?_
    obtain ⟨g3, hd⟩ := gd_ex hd
    refine r_iald C dX9_comes_215 hR g3 ?_
    refine x_iload C dX9_comes_216 hL 5 rfl ?_
    refine x_iload C dX9_comes_218 hL 6 rfl ?_
    refine lv_iconst (v := 1) hx hb dX9_comes_220 (by decide) ?_
    refine lv_iadd hx hb dX9_comes_221 ?_
    refine x_aload_n C dX9_comes_222 hL 0 rfl ?_
    refine r_getr (ci := 9) (k := 20) C fl_X9_47 rfl dX9_comes_223 hR g2 ?_
    refine x_iload_n C dX9_comes_226 hL 3 rfl ?_
    refine lv_bipush (v := 6) hx hb dX9_comes_227 (by decide) ?_
    refine lv_iadd hx hb dX9_comes_229 ?_
    obtain ⟨g4, hd⟩ := gd_ex hd
    refine r_iald C dX9_comes_230 hR g4 ?_
    obtain ⟨G6, h5, hd⟩ := bo_ex hd
    refine r_callV (a := x0) (ci := 9) (As := [.int x1, .int x2, .int x4, .int ((hi G ((hr G x0 20)) ((x3 + 2)).toNatClampNeg)), .int x6, .int ((x7 + 1)), .int ((hi G ((hr G x0 20)) ((x3 + 6)).toNatClampNeg))]) C (ct_X9_overhears h5) mf_X9_overhears ml_X9_267 mv_X9_overhears rfl ⟨Nat.le_of_ble_eq_true rfl, Nat.le_of_ble_eq_true rfl⟩ dX9_comes_231 (lx_size hL) rfl hR hS g2 ⟨Nat.le_refl _, Nat.le_refl _⟩ (cat_le [] (Nat.le_of_ble_eq_true rfl)) (fun H locs hR hS => ?_)
    refine W_st (st2 := []) rfl ?_
    exact k_X9_comes_234 C hL hR hS hd
set_option maxHeartbeats 4000000 in
set_option maxRecDepth 100000 in
theorem k_X9_comes_185 (C : Cx p s m args meth c RX9 cX9_comes 9 none b0 D E) {GG : Hp} {x0 : Nat} {x1 : Int32} {x2 : Int32} {x3 : Int32} {x4 : Int32} {x6 : Int32} {x7 : Int32} {x8 : Int32} {G : Hp} {ls : Array Slot} {H : Heap} {locs : List Loc} : lx ls 9 [(0, .inr x0), (1, .inl x1), (2, .inl x2), (3, .inl x3), (4, .inl x4), (6, .inl x6), (7, .inl x7), (8, .inl x8)] → Rp b0 D E G H → SS b0 s H locs → d_X9_comes_185 x0 x1 x2 x3 x4 x6 x7 x8 G = some GG → W p l e (rmd 12 (0) (0)) s m args below meth c H locs (0) (0) (MQ below (CQ b0 D E none GG) args s (0) (0) (fun q => b0 ≤ q)) (F0 m 185 ls []) := by
  intro hL hR hS hd
  unfold d_X9_comes_185 at hd
  have hx := C.1
  have hb := C.2.1
  refine x_iload C dX9_comes_185 hL 4 rfl ?_
  refine lv_iconst (v := 5) hx hb dX9_comes_187 (by decide) ?_
  refine lv_icmp_eq (tgt := 198) hx hb dX9_comes_188 (by decide) (fun c1 => ?_) (fun c1 => ?_)
  · rw [if_pos c1] at hd
    exact k_X9_comes_198 C hL hR hS hd
  · rw [if_neg c1] at hd
    refine x_iload C dX9_comes_191 hL 4 rfl ?_
    refine lv_bipush (v := 6) hx hb dX9_comes_193 (by decide) ?_
    refine lv_icmp_ne (tgt := 234) hx hb dX9_comes_195 (by decide) (fun c2 => ?_) (fun c2 => ?_)
    · rw [if_neg c2] at hd
      exact k_X9_comes_234 C hL hR hS hd
    · rw [if_pos c2] at hd
      exact k_X9_comes_198 C hL hR hS hd
set_option maxHeartbeats 4000000 in
set_option maxRecDepth 100000 in
theorem k_X9_comes_161 (C : Cx p s m args meth c RX9 cX9_comes 9 none b0 D E) {GG : Hp} {x0 : Nat} {x1 : Int32} {x2 : Int32} {x3 : Int32} {x4 : Int32} {x6 : Int32} {x7 : Int32} {x8 : Int32} {G : Hp} {ls : Array Slot} {H : Heap} {locs : List Loc} : lx ls 9 [(0, .inr x0), (1, .inl x1), (2, .inl x2), (3, .inl x3), (4, .inl x4), (6, .inl x6), (7, .inl x7), (8, .inl x8)] → Rp b0 D E G H → SS b0 s H locs → d_X9_comes_161 x0 x1 x2 x3 x4 x6 x7 x8 G = some GG → W p l e (rmd 12 (0) (0)) s m args below meth c H locs (0) (0) (MQ below (CQ b0 D E none GG) args s (0) (0) (fun q => b0 ≤ q)) (F0 m 161 ls []) := by
  intro hL hR hS hd
  unfold d_X9_comes_161 at hd
  have hx := C.1
  have hb := C.2.1
  refine x_iload C dX9_comes_161 hL 4 rfl ?_
  refine lv_bipush (v := 6) hx hb dX9_comes_163 (by decide) ?_
  refine lv_icmp_ne (tgt := 185) hx hb dX9_comes_165 (by decide) (fun c1 => ?_) (fun c1 => ?_)
  · rw [if_neg c1] at hd
    exact k_X9_comes_185 C hL hR hS hd
  · rw [if_pos c1] at hd
    refine x_iload C dX9_comes_168 hL 7 rfl ?_
    refine lv_if_eq (tgt := 185) hx hb dX9_comes_170 (by decide) (fun c2 => ?_) (fun c2 => ?_)
    · rw [if_pos c2] at hd
      exact k_X9_comes_185 C hL hR hS hd
    · rw [if_neg c2] at hd
      refine x_aload_n C dX9_comes_173 hL 0 rfl ?_
      refine x_iload_n C dX9_comes_174 hL 1 rfl ?_
      refine x_iload_n C dX9_comes_175 hL 2 rfl ?_
      refine x_iload C dX9_comes_176 hL 5 rfl ?_
      refine x_iload C dX9_comes_178 hL 6 rfl ?_
      refine lv_iconst (v := 1) hx hb dX9_comes_180 (by decide) ?_
      refine lv_iadd hx hb dX9_comes_181 ?_
      obtain ⟨g3, hd⟩ := gd_ex hd
      obtain ⟨G5, h4, hd⟩ := bo_ex hd
      refine r_callV (a := x0) (ci := 9) (As := [.int x1, .int x2, .int x6, .int ((x7 + 1))]) C (ct_X9_prunes h4) mf_X9_prunes ml_X9_263 mv_X9_prunes rfl ⟨Nat.le_of_ble_eq_true rfl, Nat.le_of_ble_eq_true rfl⟩ dX9_comes_182 (lx_size hL) rfl hR hS g3 ⟨Nat.le_refl _, Nat.le_refl _⟩ (cat_le [] (Nat.le_of_ble_eq_true rfl)) (fun H locs hR hS => ?_)
      refine W_st (st2 := []) rfl ?_
      exact k_X9_comes_185 C hL hR hS hd
set_option maxHeartbeats 4000000 in
set_option maxRecDepth 100000 in
theorem k_X9_comes_129 (C : Cx p s m args meth c RX9 cX9_comes 9 none b0 D E) {GG : Hp} {x0 : Nat} {x1 : Int32} {x2 : Int32} {x3 : Int32} {x4 : Int32} {x6 : Int32} {x7 : Int32} {x8 : Int32} {G : Hp} {ls : Array Slot} {H : Heap} {locs : List Loc} : lx ls 9 [(0, .inr x0), (1, .inl x1), (2, .inl x2), (3, .inl x3), (4, .inl x4), (6, .inl x6), (7, .inl x7), (8, .inl x8)] → Rp b0 D E G H → SS b0 s H locs → d_X9_comes_129 x0 x1 x2 x3 x4 x6 x7 x8 G = some GG → W p l e (rmd 12 (0) (0)) s m args below meth c H locs (0) (0) (MQ below (CQ b0 D E none GG) args s (0) (0) (fun q => b0 ≤ q)) (F0 m 129 ls []) := by
  intro hL hR hS hd
  unfold d_X9_comes_129 at hd
  have hx := C.1
  have hb := C.2.1
  refine x_iload C dX9_comes_129 hL 4 rfl ?_
  refine lv_iconst (v := 5) hx hb dX9_comes_131 (by decide) ?_
  refine lv_icmp_ne (tgt := 161) hx hb dX9_comes_132 (by decide) (fun c1 => ?_) (fun c1 => ?_)
  · rw [if_neg c1] at hd
    exact k_X9_comes_161 C hL hR hS hd
  · rw [if_pos c1] at hd
    refine x_iload C dX9_comes_135 hL 7 rfl ?_
    refine lv_if_eq (tgt := 161) hx hb dX9_comes_137 (by decide) (fun c2 => ?_) (fun c2 => ?_)
    · rw [if_pos c2] at hd
      exact k_X9_comes_161 C hL hR hS hd
    · rw [if_neg c2] at hd
      refine x_aload_n C dX9_comes_140 hL 0 rfl ?_
      refine x_iload_n C dX9_comes_141 hL 1 rfl ?_
      refine x_iload_n C dX9_comes_142 hL 2 rfl ?_
      refine x_iload C dX9_comes_143 hL 5 rfl ?_
      refine x_iload C dX9_comes_145 hL 6 rfl ?_
      refine lv_iconst (v := 1) hx hb dX9_comes_147 (by decide) ?_
      refine lv_iadd hx hb dX9_comes_148 ?_
      refine x_aload_n C dX9_comes_149 hL 0 rfl ?_
      obtain ⟨g3, hd⟩ := gd_ex hd
      refine r_getr (ci := 9) (k := 20) C fl_X9_47 rfl dX9_comes_150 hR g3 ?_
      refine x_iload_n C dX9_comes_153 hL 3 rfl ?_
      refine lv_bipush (v := 6) hx hb dX9_comes_154 (by decide) ?_
      refine lv_iadd hx hb dX9_comes_156 ?_
      obtain ⟨g4, hd⟩ := gd_ex hd
      refine r_iald C dX9_comes_157 hR g4 ?_
      obtain ⟨G6, h5, hd⟩ := bo_ex hd
      refine r_callV (a := x0) (ci := 9) (As := [.int x1, .int x2, .int x6, .int ((x7 + 1)), .int ((hi G ((hr G x0 20)) ((x3 + 6)).toNatClampNeg))]) C (ct_X9_joins h5) mf_X9_joins ml_X9_259 mv_X9_joins rfl ⟨Nat.le_of_ble_eq_true rfl, Nat.le_of_ble_eq_true rfl⟩ dX9_comes_158 (lx_size hL) rfl hR hS g3 ⟨Nat.le_refl _, Nat.le_refl _⟩ (cat_le [] (Nat.le_of_ble_eq_true rfl)) (fun H locs hR hS => ?_)
      refine W_st (st2 := []) rfl ?_
      exact k_X9_comes_161 C hL hR hS hd
set_option maxHeartbeats 4000000 in
set_option maxRecDepth 100000 in
theorem k_X9_comes_115 (C : Cx p s m args meth c RX9 cX9_comes 9 none b0 D E) {GG : Hp} {x0 : Nat} {x1 : Int32} {x2 : Int32} {x3 : Int32} {x4 : Int32} {x6 : Int32} {x7 : Int32} {x8 : Int32} {G : Hp} {ls : Array Slot} {H : Heap} {locs : List Loc} : lx ls 9 [(0, .inr x0), (1, .inl x1), (2, .inl x2), (3, .inl x3), (4, .inl x4), (6, .inl x6), (7, .inl x7), (8, .inl x8)] → Rp b0 D E G H → SS b0 s H locs → d_X9_comes_115 x0 x1 x2 x3 x4 x6 x7 x8 G = some GG → W p l e (rmd 12 (0) (0)) s m args below meth c H locs (0) (0) (MQ below (CQ b0 D E none GG) args s (0) (0) (fun q => b0 ≤ q)) (F0 m 115 ls []) := by
  intro hL hR hS hd
  unfold d_X9_comes_115 at hd
  have hx := C.1
  have hb := C.2.1
  refine x_iload C dX9_comes_115 hL 4 rfl ?_
  refine lv_iconst (v := 4) hx hb dX9_comes_117 (by decide) ?_
  refine lv_icmp_ne (tgt := 129) hx hb dX9_comes_118 (by decide) (fun c1 => ?_) (fun c1 => ?_)
  · rw [if_neg c1] at hd
    exact k_X9_comes_129 C hL hR hS hd
  · rw [if_pos c1] at hd
    refine x_aload_n C dX9_comes_121 hL 0 rfl ?_
    refine x_iload_n C dX9_comes_122 hL 1 rfl ?_
    refine x_iload_n C dX9_comes_123 hL 2 rfl ?_
    refine x_iload C dX9_comes_124 hL 5 rfl ?_
    obtain ⟨g2, hd⟩ := gd_ex hd
    obtain ⟨G4, h3, hd⟩ := bo_ex hd
    refine r_callV (a := x0) (ci := 9) (As := [.int x1, .int x2, .int x6]) C (ct_X9_left h3) mf_X9_left ml_X9_255 mv_X9_left rfl ⟨Nat.le_of_ble_eq_true rfl, Nat.le_of_ble_eq_true rfl⟩ dX9_comes_126 (lx_size hL) rfl hR hS g2 ⟨Nat.le_refl _, Nat.le_refl _⟩ (cat_le [] (Nat.le_of_ble_eq_true rfl)) (fun H locs hR hS => ?_)
    refine W_st (st2 := []) rfl ?_
    exact k_X9_comes_129 C hL hR hS hd
set_option maxHeartbeats 4000000 in
set_option maxRecDepth 100000 in
theorem k_X9_comes_86 (C : Cx p s m args meth c RX9 cX9_comes 9 none b0 D E) {GG : Hp} {x0 : Nat} {x1 : Int32} {x2 : Int32} {x3 : Int32} {x4 : Int32} {x6 : Int32} {x7 : Int32} {x8 : Int32} {G : Hp} {ls : Array Slot} {H : Heap} {locs : List Loc} : lx ls 9 [(0, .inr x0), (1, .inl x1), (2, .inl x2), (3, .inl x3), (4, .inl x4), (6, .inl x6), (7, .inl x7), (8, .inl x8)] → Rp b0 D E G H → SS b0 s H locs → d_X9_comes_86 x0 x1 x2 x3 x4 x6 x7 x8 G = some GG → W p l e (rmd 12 (0) (0)) s m args below meth c H locs (0) (0) (MQ below (CQ b0 D E none GG) args s (0) (0) (fun q => b0 ≤ q)) (F0 m 86 ls []) := by
  intro hL hR hS hd
  unfold d_X9_comes_86 at hd
  have hx := C.1
  have hb := C.2.1
  refine x_iload C dX9_comes_86 hL 4 rfl ?_
  refine lv_iconst (v := 3) hx hb dX9_comes_88 (by decide) ?_
  refine lv_icmp_ne (tgt := 115) hx hb dX9_comes_89 (by decide) (fun c1 => ?_) (fun c1 => ?_)
  · rw [if_neg c1] at hd
    exact k_X9_comes_115 C hL hR hS hd
  · rw [if_pos c1] at hd
    refine x_aload_n C dX9_comes_92 hL 0 rfl ?_
    obtain ⟨g2, hd⟩ := gd_ex hd
    refine r_getr (ci := 9) (k := 28) C fl_X9_72 rfl dX9_comes_93 hR g2 ?_
    refine lv_bipush (v := 8) hx hb dX9_comes_96 (by decide) ?_
    refine lv_iconst (v := 4) hx hb dX9_comes_98 (by decide) ?_
    refine x_iload_n C dX9_comes_99 hL 1 rfl ?_
    refine lv_imul hx hb dX9_comes_100 ?_
    refine x_iload_n C dX9_comes_101 hL 2 rfl ?_
    refine lv_iadd hx hb dX9_comes_102 ?_
    refine lv_imul hx hb dX9_comes_103 ?_
    refine x_iload C dX9_comes_104 hL 5 rfl ?_
    refine lv_iadd hx hb dX9_comes_106 ?_
    refine x_aload_n C dX9_comes_107 hL 0 rfl ?_
    refine r_geti (ci := 9) (k := 0) C fl_X9_122 rfl dX9_comes_108 hR g2 ?_
    refine lv_bipush (v := 60) hx hb dX9_comes_111 (by decide) ?_
    refine lv_iadd hx hb dX9_comes_113 ?_
    obtain ⟨g3, hd⟩ := gd_ex hd
    obtain ⟨G4, eG4, hd⟩ := bd_ex hd
    refine r_iast C dX9_comes_114 hR hS g3 (fun H locs hR hS => ?_)
    replace hR : Rp b0 D E G4 H := by rw [eG4]; exact hR
    exact k_X9_comes_115 C hL hR hS hd
set_option maxHeartbeats 4000000 in
set_option maxRecDepth 100000 in
theorem k_X9_comes_55 (C : Cx p s m args meth c RX9 cX9_comes 9 none b0 D E) {GG : Hp} {x0 : Nat} {x1 : Int32} {x2 : Int32} {x3 : Int32} {x4 : Int32} {x5 : Int32} {x6 : Int32} {x7 : Int32} {s0 : Int32} {G : Hp} {ls : Array Slot} {H : Heap} {locs : List Loc} : lx ls 9 [(0, .inr x0), (1, .inl x1), (2, .inl x2), (3, .inl x3), (4, .inl x4), (5, .inl x5), (6, .inl x6), (7, .inl x7)] → Rp b0 D E G H → SS b0 s H locs → d_X9_comes_55 x0 x1 x2 x3 x4 x5 x6 x7 s0 G = some GG → W p l e (rmd 12 (0) (0)) s m args below meth c H locs (0) (0) (MQ below (CQ b0 D E none GG) args s (0) (0) (fun q => b0 ≤ q)) (F0 m 55 ls [.int s0]) := by
  intro hL hR hS hd
  unfold d_X9_comes_55 at hd
  have hx := C.1
  have hb := C.2.1
  refine x_istore (lv' := [(8, .inl s0), (0, .inr x0), (1, .inl x1), (2, .inl x2), (3, .inl x3), (4, .inl x4), (5, .inl x5), (6, .inl x6), (7, .inl x7)]) C dX9_comes_55 hL (by decide) rfl (fun ls hL => ?_)
  refine x_iload C dX9_comes_57 hL 5 rfl ?_
  refine lv_iconst (v := 1) hx hb dX9_comes_59 (by decide) ?_
  refine lv_icmp_ne (tgt := 86) hx hb dX9_comes_60 (by decide) (fun c1 => ?_) (fun c1 => ?_)
  · rw [if_neg c1] at hd
    exact k_X9_comes_86 C (lx_sub hL [1, 2, 3, 4, 5, 7, 8, 0] rfl) hR hS hd
  · rw [if_pos c1] at hd
    refine x_aload_n C dX9_comes_63 hL 1 rfl ?_
    obtain ⟨g2, hd⟩ := gd_ex hd
    refine r_getr (ci := 9) (k := 25) C fl_X9_63 rfl dX9_comes_64 hR g2 ?_
    refine lv_bipush (v := 10) hx hb dX9_comes_67 (by decide) ?_
    refine lv_iconst (v := 4) hx hb dX9_comes_69 (by decide) ?_
    refine x_iload_n C dX9_comes_70 hL 2 rfl ?_
    refine lv_imul hx hb dX9_comes_71 ?_
    refine x_iload_n C dX9_comes_72 hL 3 rfl ?_
    refine lv_iadd hx hb dX9_comes_73 ?_
    refine lv_imul hx hb dX9_comes_74 ?_
    refine x_iload C dX9_comes_75 hL 6 rfl ?_
    refine lv_iadd hx hb dX9_comes_77 ?_
    refine x_aload_n C dX9_comes_78 hL 1 rfl ?_
    refine r_geti (ci := 9) (k := 0) C fl_X9_122 rfl dX9_comes_79 hR g2 ?_
    refine lv_bipush (v := 65) hx hb dX9_comes_82 (by decide) ?_
    refine lv_iadd hx hb dX9_comes_84 ?_
    obtain ⟨g3, hd⟩ := gd_ex hd
    obtain ⟨G4, eG4, hd⟩ := bd_ex hd
    refine r_iast C dX9_comes_85 hR hS g3 (fun H locs hR hS => ?_)
    replace hR : Rp b0 D E G4 H := by rw [eG4]; exact hR
    exact k_X9_comes_86 C (lx_sub hL [1, 2, 3, 4, 5, 7, 8, 0] rfl) hR hS hd
set_option maxHeartbeats 4000000 in
set_option maxRecDepth 100000 in
theorem k_X9_comes (C : Cx p s m args meth c RX9 cX9_comes 9 none b0 D E) {GG : Hp} {x0 : Nat} {x1 : Int32} {x2 : Int32} {x3 : Int32} {G : Hp} {ls : Array Slot} {H : Heap} {locs : List Loc} : lx ls 9 [(0, .inr x0), (1, .inl x1), (2, .inl x2), (3, .inl x3)] → Rp b0 D E G H → SS b0 s H locs → d_X9_comes x0 x1 x2 x3 G = some GG → W p l e (rmd 12 (0) (0)) s m args below meth c H locs (0) (0) (MQ below (CQ b0 D E none GG) args s (0) (0) (fun q => b0 ≤ q)) (F0 m 0 ls []) := by
  intro hL hR hS hd
  unfold d_X9_comes at hd
  have hx := C.1
  have hb := C.2.1
  refine x_aload_n C dX9_comes_0 hL 0 rfl ?_
  obtain ⟨g1, hd⟩ := gd_ex hd
  refine r_getr (ci := 9) (k := 20) C fl_X9_47 rfl dX9_comes_1 hR g1 ?_
  refine x_iload_n C dX9_comes_4 hL 3 rfl ?_
  obtain ⟨g2, hd⟩ := gd_ex hd
  refine r_iald C dX9_comes_5 hR g2 ?_
  obtain ⟨v3, ev3, hd⟩ := bd_ex hd
  rw [← ev3]
  refine x_istore (lv' := [(4, .inl v3), (0, .inr x0), (1, .inl x1), (2, .inl x2), (3, .inl x3)]) C dX9_comes_6 hL (by decide) rfl (fun ls hL => ?_)
  refine x_aload_n C dX9_comes_8 hL 1 rfl ?_
  refine r_getr (ci := 9) (k := 20) C fl_X9_47 rfl dX9_comes_9 hR g1 ?_
  refine x_iload_n C dX9_comes_12 hL 4 rfl ?_
  refine lv_iconst (v := 1) hx hb dX9_comes_13 (by decide) ?_
  refine lv_iadd hx hb dX9_comes_14 ?_
  obtain ⟨g4, hd⟩ := gd_ex hd
  refine r_iald C dX9_comes_15 hR g4 ?_
  obtain ⟨v5, ev5, hd⟩ := bd_ex hd
  rw [← ev5]
  refine x_istore (lv' := [(5, .inl v5), (4, .inl v3), (0, .inr x0), (1, .inl x1), (2, .inl x2), (3, .inl x3)]) C dX9_comes_16 hL (by decide) rfl (fun ls hL => ?_)
  refine x_aload_n C dX9_comes_18 hL 2 rfl ?_
  refine r_getr (ci := 9) (k := 20) C fl_X9_47 rfl dX9_comes_19 hR g1 ?_
  refine x_iload_n C dX9_comes_22 hL 5 rfl ?_
  refine lv_iconst (v := 3) hx hb dX9_comes_23 (by decide) ?_
  refine lv_iadd hx hb dX9_comes_24 ?_
  obtain ⟨g6, hd⟩ := gd_ex hd
  refine r_iald C dX9_comes_25 hR g6 ?_
  obtain ⟨v7, ev7, hd⟩ := bd_ex hd
  rw [← ev7]
  refine x_istore (lv' := [(6, .inl v7), (5, .inl v5), (4, .inl v3), (0, .inr x0), (1, .inl x1), (2, .inl x2), (3, .inl x3)]) C dX9_comes_26 hL (by decide) rfl (fun ls hL => ?_)
  refine x_aload_n C dX9_comes_28 hL 3 rfl ?_
  refine r_getr (ci := 9) (k := 20) C fl_X9_47 rfl dX9_comes_29 hR g1 ?_
  refine x_iload_n C dX9_comes_32 hL 6 rfl ?_
  refine lv_iconst (v := 4) hx hb dX9_comes_33 (by decide) ?_
  refine lv_iadd hx hb dX9_comes_34 ?_
  obtain ⟨g8, hd⟩ := gd_ex hd
  refine r_iald C dX9_comes_35 hR g8 ?_
  obtain ⟨v9, ev9, hd⟩ := bd_ex hd
  rw [← ev9]
  refine x_istore (lv' := [(7, .inl v9), (6, .inl v7), (5, .inl v5), (4, .inl v3), (0, .inr x0), (1, .inl x1), (2, .inl x2), (3, .inl x3)]) C dX9_comes_36 hL (by decide) rfl (fun ls hL => ?_)
  refine x_aload_n C dX9_comes_38 hL 4 rfl ?_
  refine r_getr (ci := 9) (k := 20) C fl_X9_47 rfl dX9_comes_39 hR g1 ?_
  refine x_iload_n C dX9_comes_42 hL 7 rfl ?_
  refine lv_iconst (v := 2) hx hb dX9_comes_43 (by decide) ?_
  refine lv_iadd hx hb dX9_comes_44 ?_
  obtain ⟨g10, hd⟩ := gd_ex hd
  refine r_iald C dX9_comes_45 hR g10 ?_
  refine x_iload_n C dX9_comes_46 hL 5 rfl ?_
  refine lv_icmp_ne (tgt := 54) hx hb dX9_comes_47 (by decide) (fun c11 => ?_) (fun c11 => ?_)
  · rw [if_neg c11] at hd
    refine lv_iconst (v := 0) hx hb dX9_comes_54 (by decide) ?_
    exact k_X9_comes_55 C (lx_sub hL [4, 5, 6, 7, 3, 2, 1, 0] rfl) hR hS hd
  · rw [if_pos c11] at hd
    refine lv_iconst (v := 1) hx hb dX9_comes_50 (by decide) ?_
    refine lv_goto (tgt := 55) hx hb dX9_comes_51 (by decide) ?_
    exact k_X9_comes_55 C (lx_sub hL [4, 5, 6, 7, 3, 2, 1, 0] rfl) hR hS hd
end
set_option maxHeartbeats 4000000 in
set_option maxRecDepth 100000 in
theorem ct_X9_comes {l : Launch} {b0 : Nat} {D : va_G} {E : Nat → ClassId} {G : Hp} {a0 : Nat} {a1 : Int32} {a2 : Int32} {a3 : Int32} {GG : Hp} (hd : d_X9_comes a0 a1 a2 a3 G = some GG) : CT l yX9_comes cX9_comes 9 none 12 0 0 b0 D E [rv a0, .int a1, .int a2, .int a3] G none GG := by
  refine CT_of (by decide +kernel) ?_
  intro p e s m below meth c C hnm hR
  refine r_entry [.inr a0, .inl a1, .inl a2, .inl a3] (n := 9) (Nat.le_of_ble_eq_true rfl) (lv := [(0, .inr a0), (1, .inl a1), (2, .inl a2), (3, .inl a3)]) rfl (fun ls hL => ?_)
  exact k_X9_comes C (lx_sub hL [0, 1, 2, 3] rfl) hR ⟨fun _ _ => rfl, fun _ h => by cases h⟩ hd

/-! GroveWorksModel.bend(III)V -/
theorem dX9_bend_0 : decode cX9_bend 0 = .ok (.bipush 16, 2) := by decide +kernel
theorem dX9_bend_2 : decode cX9_bend 2 = .ok (.bipush 8, 2) := by decide +kernel
theorem dX9_bend_4 : decode cX9_bend 4 = .ok (.iload_n 1, 1) := by decide +kernel
theorem dX9_bend_5 : decode cX9_bend 5 = .ok (.imul, 1) := by decide +kernel
theorem dX9_bend_6 : decode cX9_bend 6 = .ok (.iload_n 2, 1) := by decide +kernel
theorem dX9_bend_7 : decode cX9_bend 7 = .ok (.iadd, 1) := by decide +kernel
theorem dX9_bend_8 : decode cX9_bend 8 = .ok (.imul, 1) := by decide +kernel
theorem dX9_bend_9 : decode cX9_bend 9 = .ok (.iload_n 3, 1) := by decide +kernel
theorem dX9_bend_10 : decode cX9_bend 10 = .ok (.iadd, 1) := by decide +kernel
theorem dX9_bend_11 : decode cX9_bend 11 = .ok (.istore 4, 2) := by decide +kernel
theorem dX9_bend_13 : decode cX9_bend 13 = .ok (.aload_n 0, 1) := by decide +kernel
theorem dX9_bend_14 : decode cX9_bend 14 = .ok (.getfield 105, 3) := by decide +kernel
theorem dX9_bend_17 : decode cX9_bend 17 = .ok (.iload 4, 2) := by decide +kernel
theorem dX9_bend_19 : decode cX9_bend 19 = .ok (.iaload, 1) := by decide +kernel
theorem dX9_bend_20 : decode cX9_bend 20 = .ok (.iconst (-1), 1) := by decide +kernel
theorem dX9_bend_21 : decode cX9_bend 21 = .ok (.if_icmp .ne 4, 3) := by decide +kernel
theorem dX9_bend_24 : decode cX9_bend 24 = .ok (.return_, 1) := by decide +kernel
theorem dX9_bend_25 : decode cX9_bend 25 = .ok (.aload_n 0, 1) := by decide +kernel
theorem dX9_bend_26 : decode cX9_bend 26 = .ok (.iload_n 1, 1) := by decide +kernel
theorem dX9_bend_27 : decode cX9_bend 27 = .ok (.iload_n 2, 1) := by decide +kernel
theorem dX9_bend_28 : decode cX9_bend 28 = .ok (.iload_n 3, 1) := by decide +kernel
theorem dX9_bend_29 : decode cX9_bend 29 = .ok (.invokevirtual 226, 3) := by decide +kernel
theorem dX9_bend_32 : decode cX9_bend 32 = .ok (.ifCond .eq 23, 3) := by decide +kernel
theorem dX9_bend_35 : decode cX9_bend 35 = .ok (.aload_n 0, 1) := by decide +kernel
theorem dX9_bend_36 : decode cX9_bend 36 = .ok (.aload_n 0, 1) := by decide +kernel
theorem dX9_bend_37 : decode cX9_bend 37 = .ok (.iload_n 1, 1) := by decide +kernel
theorem dX9_bend_38 : decode cX9_bend 38 = .ok (.iload_n 3, 1) := by decide +kernel
theorem dX9_bend_39 : decode cX9_bend 39 = .ok (.invokevirtual 160, 3) := by decide +kernel
theorem dX9_bend_42 : decode cX9_bend 42 = .ok (.invokevirtual 293, 3) := by decide +kernel
theorem dX9_bend_45 : decode cX9_bend 45 = .ok (.aload_n 0, 1) := by decide +kernel
theorem dX9_bend_46 : decode cX9_bend 46 = .ok (.getfield 105, 3) := by decide +kernel
theorem dX9_bend_49 : decode cX9_bend 49 = .ok (.iload 4, 2) := by decide +kernel
theorem dX9_bend_51 : decode cX9_bend 51 = .ok (.iaload, 1) := by decide +kernel
theorem dX9_bend_52 : decode cX9_bend 52 = .ok (.if_icmp .eq 11, 3) := by decide +kernel
theorem dX9_bend_55 : decode cX9_bend 55 = .ok (.aload_n 0, 1) := by decide +kernel
theorem dX9_bend_56 : decode cX9_bend 56 = .ok (.getfield 105, 3) := by decide +kernel
theorem dX9_bend_59 : decode cX9_bend 59 = .ok (.iload 4, 2) := by decide +kernel
theorem dX9_bend_61 : decode cX9_bend 61 = .ok (.iconst (-1), 1) := by decide +kernel
theorem dX9_bend_62 : decode cX9_bend 62 = .ok (.iastore, 1) := by decide +kernel
theorem dX9_bend_63 : decode cX9_bend 63 = .ok (.return_, 1) := by decide +kernel
def d_X9_bend_55 (x0 : Nat) (x4 : Int32) (G : Hp) : Option (Hp) :=
  gd (hc G x0 = 10) <|
  gd (hc G ((hr G x0 39)) = 11 ∧ ix x4 (hl G ((hr G x0 39)))) <|
  bd (sI G ((hr G x0 39)) x4.toNatClampNeg (-1)) fun G3 =>
  some G3
def d_X9_bend (x0 : Nat) (x1 : Int32) (x2 : Int32) (x3 : Int32) (G : Hp) : Option (Hp) :=
  bd ((((16 * ((((8 * x1)) + x2)))) + x3)) fun v1 =>
  gd (hc G x0 = 10) <|
  gd (hc G ((hr G x0 39)) = 11 ∧ ix v1 (hl G ((hr G x0 39)))) <|
  if ((hi G ((hr G x0 39)) v1.toNatClampNeg)) = (-1) then
    some G
  else
    b2 (d_X9_wantsSource x0 x1 x2 x3 G) fun v6 G7 =>
    if v6 = 0 then
      d_X9_bend_55 x0 v1 G7
    else
      gd (hc G7 x0 = 10) <|
      b2 (d_X9_toSource x0 x1 x3 G7) fun v11 G12 =>
      gd (hc G12 x0 = 10) <|
      bo (d_X9_portTo x0 v11 G12) fun v15 =>
      gd (hc G12 ((hr G12 x0 39)) = 11 ∧ ix v1 (hl G12 ((hr G12 x0 39)))) <|
      if v15 = ((hi G12 ((hr G12 x0 39)) v1.toNatClampNeg)) then
        some G12
      else
        d_X9_bend_55 x0 v1 G12
section
variable {p : Program} {l : Launch} {e : Env} {s : State} {m : MethodId} {args : Array Value} {below : List Frame} {meth : Method} {c : Code} {b0 : Nat} {D : va_G} {E : Nat → ClassId}
set_option maxHeartbeats 4000000 in
set_option maxRecDepth 100000 in
theorem k_X9_bend_55 (C : Cx p s m args meth c RX9 cX9_bend 5 none b0 D E) {GG : Hp} {x0 : Nat} {x4 : Int32} {G : Hp} {ls : Array Slot} {H : Heap} {locs : List Loc} : lx ls 5 [(0, .inr x0), (4, .inl x4)] → Rp b0 D E G H → SS b0 s H locs → d_X9_bend_55 x0 x4 G = some GG → W p l e (rmd 11 (0) (0)) s m args below meth c H locs (0) (0) (MQ below (CQ b0 D E none GG) args s (0) (0) (fun q => b0 ≤ q)) (F0 m 55 ls []) := by
  intro hL hR hS hd
  unfold d_X9_bend_55 at hd
  have hx := C.1
  have hb := C.2.1
  refine x_aload_n C dX9_bend_55 hL 0 rfl ?_
  obtain ⟨g1, hd⟩ := gd_ex hd
  refine r_getr (ci := 9) (k := 39) C fl_X9_105 rfl dX9_bend_56 hR g1 ?_
  refine x_iload C dX9_bend_59 hL 1 rfl ?_
  refine lv_iconst (v := (-1)) hx hb dX9_bend_61 (by decide) ?_
  obtain ⟨g2, hd⟩ := gd_ex hd
  obtain ⟨G3, eG3, hd⟩ := bd_ex hd
  refine r_iast C dX9_bend_62 hR hS g2 (fun H locs hR hS => ?_)
  replace hR : Rp b0 D E G3 H := by rw [eG3]; exact hR
  cases hd
  exact r_vret C dX9_bend_63 hR hS
set_option maxHeartbeats 4000000 in
set_option maxRecDepth 100000 in
theorem k_X9_bend (C : Cx p s m args meth c RX9 cX9_bend 5 none b0 D E) {GG : Hp} {x0 : Nat} {x1 : Int32} {x2 : Int32} {x3 : Int32} {G : Hp} {ls : Array Slot} {H : Heap} {locs : List Loc} : lx ls 5 [(0, .inr x0), (1, .inl x1), (2, .inl x2), (3, .inl x3)] → Rp b0 D E G H → SS b0 s H locs → d_X9_bend x0 x1 x2 x3 G = some GG → W p l e (rmd 11 (0) (0)) s m args below meth c H locs (0) (0) (MQ below (CQ b0 D E none GG) args s (0) (0) (fun q => b0 ≤ q)) (F0 m 0 ls []) := by
  intro hL hR hS hd
  unfold d_X9_bend at hd
  have hx := C.1
  have hb := C.2.1
  refine lv_bipush (v := 16) hx hb dX9_bend_0 (by decide) ?_
  refine lv_bipush (v := 8) hx hb dX9_bend_2 (by decide) ?_
  refine x_iload_n C dX9_bend_4 hL 1 rfl ?_
  refine lv_imul hx hb dX9_bend_5 ?_
  refine x_iload_n C dX9_bend_6 hL 2 rfl ?_
  refine lv_iadd hx hb dX9_bend_7 ?_
  refine lv_imul hx hb dX9_bend_8 ?_
  refine x_iload_n C dX9_bend_9 hL 3 rfl ?_
  refine lv_iadd hx hb dX9_bend_10 ?_
  obtain ⟨v1, ev1, hd⟩ := bd_ex hd
  rw [← ev1]
  refine x_istore (lv' := [(4, .inl v1), (0, .inr x0), (1, .inl x1), (2, .inl x2), (3, .inl x3)]) C dX9_bend_11 hL (by decide) rfl (fun ls hL => ?_)
  refine x_aload_n C dX9_bend_13 hL 1 rfl ?_
  obtain ⟨g2, hd⟩ := gd_ex hd
  refine r_getr (ci := 9) (k := 39) C fl_X9_105 rfl dX9_bend_14 hR g2 ?_
  refine x_iload C dX9_bend_17 hL 0 rfl ?_
  obtain ⟨g3, hd⟩ := gd_ex hd
  refine r_iald C dX9_bend_19 hR g3 ?_
  refine lv_iconst (v := (-1)) hx hb dX9_bend_20 (by decide) ?_
  refine lv_icmp_ne (tgt := 25) hx hb dX9_bend_21 (by decide) (fun c4 => ?_) (fun c4 => ?_)
  · rw [if_neg c4] at hd
    refine x_aload_n C dX9_bend_25 hL 1 rfl ?_
    refine x_iload_n C dX9_bend_26 hL 2 rfl ?_
    refine x_iload_n C dX9_bend_27 hL 3 rfl ?_
    refine x_iload_n C dX9_bend_28 hL 4 rfl ?_
    obtain ⟨v6, G7, h5, hd⟩ := b2_ex hd
    refine r_callV (a := x0) (ci := 9) (As := [.int x1, .int x2, .int x3]) C (ct_X9_wantsSource h5) mf_X9_wantsSource ml_X9_226 mv_X9_wantsSource rfl ⟨Nat.le_of_ble_eq_true rfl, Nat.le_of_ble_eq_true rfl⟩ dX9_bend_29 (lx_size hL) rfl hR hS g2 ⟨Nat.le_refl _, Nat.le_refl _⟩ (cat_le [] (Nat.le_of_ble_eq_true rfl)) (fun H locs hR hS => ?_)
    refine W_st (st2 := [.int v6]) rfl ?_
    refine lv_if_eq (tgt := 55) hx hb dX9_bend_32 (by decide) (fun c8 => ?_) (fun c8 => ?_)
    · rw [if_pos c8] at hd
      exact k_X9_bend_55 C (lx_sub hL [1, 0] rfl) hR hS hd
    · rw [if_neg c8] at hd
      refine x_aload_n C dX9_bend_35 hL 1 rfl ?_
      refine x_aload_n C dX9_bend_36 hL 1 rfl ?_
      refine x_iload_n C dX9_bend_37 hL 2 rfl ?_
      refine x_iload_n C dX9_bend_38 hL 4 rfl ?_
      obtain ⟨g9, hd⟩ := gd_ex hd
      obtain ⟨v11, G12, h10, hd⟩ := b2_ex hd
      refine r_callV (a := x0) (ci := 9) (As := [.int x1, .int x3]) C (ct_X9_toSource h10) mf_X9_toSource ml_X9_160 mv_X9_toSource rfl ⟨Nat.le_of_ble_eq_true rfl, Nat.le_of_ble_eq_true rfl⟩ dX9_bend_39 (lx_size hL) rfl hR hS g9 ⟨Nat.le_refl _, Nat.le_refl _⟩ (cat_le [.inr x0] (Nat.le_of_ble_eq_true rfl)) (fun H locs hR hS => ?_)
      refine W_st (st2 := [.int v11, rv x0]) rfl ?_
      obtain ⟨g13, hd⟩ := gd_ex hd
      obtain ⟨v15, h14, hd⟩ := bo_ex hd
      refine r_callV (a := x0) (ci := 9) (As := [.int v11]) C (ct_X9_portTo h14) mf_X9_portTo ml_X9_293 mv_X9_portTo rfl ⟨Nat.le_of_ble_eq_true rfl, Nat.le_of_ble_eq_true rfl⟩ dX9_bend_42 (lx_size hL) rfl hR hS g13 ⟨Nat.le_refl _, Nat.le_refl _⟩ (cat_le [] (Nat.le_of_ble_eq_true rfl)) (fun H locs hR hS => ?_)
      refine W_st (st2 := [.int v15]) rfl ?_
      refine x_aload_n C dX9_bend_45 hL 1 rfl ?_
      refine r_getr (ci := 9) (k := 39) C fl_X9_105 rfl dX9_bend_46 hR g13 ?_
      refine x_iload C dX9_bend_49 hL 0 rfl ?_
      obtain ⟨g16, hd⟩ := gd_ex hd
      refine r_iald C dX9_bend_51 hR g16 ?_
      refine lv_icmp_eq (tgt := 63) hx hb dX9_bend_52 (by decide) (fun c17 => ?_) (fun c17 => ?_)
      · rw [if_pos c17] at hd
        cases hd
        exact r_vret C dX9_bend_63 hR hS
      · rw [if_neg c17] at hd
        exact k_X9_bend_55 C (lx_sub hL [1, 0] rfl) hR hS hd
  · rw [if_pos c4] at hd
    cases hd
    exact r_vret C dX9_bend_24 hR hS
end
set_option maxHeartbeats 4000000 in
set_option maxRecDepth 100000 in
theorem ct_X9_bend {l : Launch} {b0 : Nat} {D : va_G} {E : Nat → ClassId} {G : Hp} {a0 : Nat} {a1 : Int32} {a2 : Int32} {a3 : Int32} {GG : Hp} (hd : d_X9_bend a0 a1 a2 a3 G = some GG) : CT l yX9_bend cX9_bend 5 none 11 0 0 b0 D E [rv a0, .int a1, .int a2, .int a3] G none GG := by
  refine CT_of (by decide +kernel) ?_
  intro p e s m below meth c C hnm hR
  refine r_entry [.inr a0, .inl a1, .inl a2, .inl a3] (n := 5) (Nat.le_of_ble_eq_true rfl) (lv := [(0, .inr a0), (1, .inl a1), (2, .inl a2), (3, .inl a3)]) rfl (fun ls hL => ?_)
  exact k_X9_bend C (lx_sub hL [0, 1, 2, 3] rfl) hR ⟨fun _ _ => rfl, fun _ h => by cases h⟩ hd

/-! GroveWorksModel.climb(III)V -/
theorem dX9_climb_0 : decode cX9_climb 0 = .ok (.bipush 17, 2) := by decide +kernel
theorem dX9_climb_2 : decode cX9_climb 2 = .ok (.bipush 8, 2) := by decide +kernel
theorem dX9_climb_4 : decode cX9_climb 4 = .ok (.iload_n 1, 1) := by decide +kernel
theorem dX9_climb_5 : decode cX9_climb 5 = .ok (.imul, 1) := by decide +kernel
theorem dX9_climb_6 : decode cX9_climb 6 = .ok (.iload_n 2, 1) := by decide +kernel
theorem dX9_climb_7 : decode cX9_climb 7 = .ok (.iadd, 1) := by decide +kernel
theorem dX9_climb_8 : decode cX9_climb 8 = .ok (.imul, 1) := by decide +kernel
theorem dX9_climb_9 : decode cX9_climb 9 = .ok (.iload_n 3, 1) := by decide +kernel
theorem dX9_climb_10 : decode cX9_climb 10 = .ok (.iadd, 1) := by decide +kernel
theorem dX9_climb_11 : decode cX9_climb 11 = .ok (.istore 4, 2) := by decide +kernel
theorem dX9_climb_13 : decode cX9_climb 13 = .ok (.aload_n 0, 1) := by decide +kernel
theorem dX9_climb_14 : decode cX9_climb 14 = .ok (.iload_n 1, 1) := by decide +kernel
theorem dX9_climb_15 : decode cX9_climb 15 = .ok (.iload_n 2, 1) := by decide +kernel
theorem dX9_climb_16 : decode cX9_climb 16 = .ok (.iload_n 3, 1) := by decide +kernel
theorem dX9_climb_17 : decode cX9_climb 17 = .ok (.invokevirtual 331, 3) := by decide +kernel
theorem dX9_climb_20 : decode cX9_climb 20 = .ok (.ifCond .eq 13, 3) := by decide +kernel
theorem dX9_climb_23 : decode cX9_climb 23 = .ok (.aload_n 0, 1) := by decide +kernel
theorem dX9_climb_24 : decode cX9_climb 24 = .ok (.iload_n 1, 1) := by decide +kernel
theorem dX9_climb_25 : decode cX9_climb 25 = .ok (.iload_n 2, 1) := by decide +kernel
theorem dX9_climb_26 : decode cX9_climb 26 = .ok (.iload_n 3, 1) := by decide +kernel
theorem dX9_climb_27 : decode cX9_climb 27 = .ok (.invokevirtual 232, 3) := by decide +kernel
theorem dX9_climb_30 : decode cX9_climb 30 = .ok (.goto 4, 3) := by decide +kernel
theorem dX9_climb_33 : decode cX9_climb 33 = .ok (.iconst (-1), 1) := by decide +kernel
theorem dX9_climb_34 : decode cX9_climb 34 = .ok (.istore 5, 2) := by decide +kernel
theorem dX9_climb_36 : decode cX9_climb 36 = .ok (.aload_n 0, 1) := by decide +kernel
theorem dX9_climb_37 : decode cX9_climb 37 = .ok (.getfield 87, 3) := by decide +kernel
theorem dX9_climb_40 : decode cX9_climb 40 = .ok (.iload 4, 2) := by decide +kernel
theorem dX9_climb_42 : decode cX9_climb 42 = .ok (.iaload, 1) := by decide +kernel
theorem dX9_climb_43 : decode cX9_climb 43 = .ok (.iconst (-1), 1) := by decide +kernel
theorem dX9_climb_44 : decode cX9_climb 44 = .ok (.if_icmp .eq 88, 3) := by decide +kernel
theorem dX9_climb_47 : decode cX9_climb 47 = .ok (.bipush 16, 2) := by decide +kernel
theorem dX9_climb_49 : decode cX9_climb 49 = .ok (.aload_n 0, 1) := by decide +kernel
theorem dX9_climb_50 : decode cX9_climb 50 = .ok (.getfield 87, 3) := by decide +kernel
theorem dX9_climb_53 : decode cX9_climb 53 = .ok (.iload 4, 2) := by decide +kernel
theorem dX9_climb_55 : decode cX9_climb 55 = .ok (.iaload, 1) := by decide +kernel
theorem dX9_climb_56 : decode cX9_climb 56 = .ok (.imul, 1) := by decide +kernel
theorem dX9_climb_57 : decode cX9_climb 57 = .ok (.aload_n 0, 1) := by decide +kernel
theorem dX9_climb_58 : decode cX9_climb 58 = .ok (.getfield 90, 3) := by decide +kernel
theorem dX9_climb_61 : decode cX9_climb 61 = .ok (.iload 4, 2) := by decide +kernel
theorem dX9_climb_63 : decode cX9_climb 63 = .ok (.iaload, 1) := by decide +kernel
theorem dX9_climb_64 : decode cX9_climb 64 = .ok (.iadd, 1) := by decide +kernel
theorem dX9_climb_65 : decode cX9_climb 65 = .ok (.iload 5, 2) := by decide +kernel
theorem dX9_climb_67 : decode cX9_climb 67 = .ok (.if_icmp .eq 65, 3) := by decide +kernel
theorem dX9_climb_70 : decode cX9_climb 70 = .ok (.aload_n 0, 1) := by decide +kernel
theorem dX9_climb_71 : decode cX9_climb 71 = .ok (.aload_n 0, 1) := by decide +kernel
theorem dX9_climb_72 : decode cX9_climb 72 = .ok (.getfield 7, 3) := by decide +kernel
theorem dX9_climb_75 : decode cX9_climb 75 = .ok (.iconst 4, 1) := by decide +kernel
theorem dX9_climb_76 : decode cX9_climb 76 = .ok (.iload_n 1, 1) := by decide +kernel
theorem dX9_climb_77 : decode cX9_climb 77 = .ok (.imul, 1) := by decide +kernel
theorem dX9_climb_78 : decode cX9_climb 78 = .ok (.aload_n 0, 1) := by decide +kernel
theorem dX9_climb_79 : decode cX9_climb 79 = .ok (.getfield 87, 3) := by decide +kernel
theorem dX9_climb_82 : decode cX9_climb 82 = .ok (.iload 4, 2) := by decide +kernel
theorem dX9_climb_84 : decode cX9_climb 84 = .ok (.iaload, 1) := by decide +kernel
theorem dX9_climb_85 : decode cX9_climb 85 = .ok (.iadd, 1) := by decide +kernel
theorem dX9_climb_86 : decode cX9_climb 86 = .ok (.iaload, 1) := by decide +kernel
theorem dX9_climb_87 : decode cX9_climb 87 = .ok (.bipush 6, 2) := by decide +kernel
theorem dX9_climb_89 : decode cX9_climb 89 = .ok (.iload_n 1, 1) := by decide +kernel
theorem dX9_climb_90 : decode cX9_climb 90 = .ok (.aload_n 0, 1) := by decide +kernel
theorem dX9_climb_91 : decode cX9_climb 91 = .ok (.getfield 90, 3) := by decide +kernel
theorem dX9_climb_94 : decode cX9_climb 94 = .ok (.iload 4, 2) := by decide +kernel
theorem dX9_climb_96 : decode cX9_climb 96 = .ok (.iaload, 1) := by decide +kernel
theorem dX9_climb_97 : decode cX9_climb 97 = .ok (.iload_n 2, 1) := by decide +kernel
theorem dX9_climb_98 : decode cX9_climb 98 = .ok (.iload_n 3, 1) := by decide +kernel
theorem dX9_climb_99 : decode cX9_climb 99 = .ok (.ifCond .ne 7, 3) := by decide +kernel
theorem dX9_climb_102 : decode cX9_climb 102 = .ok (.iconst (-1), 1) := by decide +kernel
theorem dX9_climb_103 : decode cX9_climb 103 = .ok (.goto 6, 3) := by decide +kernel
theorem dX9_climb_106 : decode cX9_climb 106 = .ok (.iload_n 3, 1) := by decide +kernel
theorem dX9_climb_107 : decode cX9_climb 107 = .ok (.iconst 1, 1) := by decide +kernel
theorem dX9_climb_108 : decode cX9_climb 108 = .ok (.isub, 1) := by decide +kernel
theorem dX9_climb_109 : decode cX9_climb 109 = .ok (.iconst 0, 1) := by decide +kernel
theorem dX9_climb_110 : decode cX9_climb 110 = .ok (.iconst 0, 1) := by decide +kernel
theorem dX9_climb_111 : decode cX9_climb 111 = .ok (.iconst 0, 1) := by decide +kernel
theorem dX9_climb_112 : decode cX9_climb 112 = .ok (.invokevirtual 238, 3) := by decide +kernel
theorem dX9_climb_115 : decode cX9_climb 115 = .ok (.pop, 1) := by decide +kernel
theorem dX9_climb_116 : decode cX9_climb 116 = .ok (.aload_n 0, 1) := by decide +kernel
theorem dX9_climb_117 : decode cX9_climb 117 = .ok (.getfield 87, 3) := by decide +kernel
theorem dX9_climb_120 : decode cX9_climb 120 = .ok (.iload 4, 2) := by decide +kernel
theorem dX9_climb_122 : decode cX9_climb 122 = .ok (.iconst (-1), 1) := by decide +kernel
theorem dX9_climb_123 : decode cX9_climb 123 = .ok (.iastore, 1) := by decide +kernel
theorem dX9_climb_124 : decode cX9_climb 124 = .ok (.aload_n 0, 1) := by decide +kernel
theorem dX9_climb_125 : decode cX9_climb 125 = .ok (.getfield 90, 3) := by decide +kernel
theorem dX9_climb_128 : decode cX9_climb 128 = .ok (.iload 4, 2) := by decide +kernel
theorem dX9_climb_130 : decode cX9_climb 130 = .ok (.iconst (-1), 1) := by decide +kernel
theorem dX9_climb_131 : decode cX9_climb 131 = .ok (.iastore, 1) := by decide +kernel
theorem dX9_climb_132 : decode cX9_climb 132 = .ok (.iload 5, 2) := by decide +kernel
theorem dX9_climb_134 : decode cX9_climb 134 = .ok (.iconst (-1), 1) := by decide +kernel
theorem dX9_climb_135 : decode cX9_climb 135 = .ok (.if_icmp .ne 4, 3) := by decide +kernel
theorem dX9_climb_138 : decode cX9_climb 138 = .ok (.return_, 1) := by decide +kernel
theorem dX9_climb_139 : decode cX9_climb 139 = .ok (.iload_n 3, 1) := by decide +kernel
theorem dX9_climb_140 : decode cX9_climb 140 = .ok (.ifCond .ne 12, 3) := by decide +kernel
theorem dX9_climb_143 : decode cX9_climb 143 = .ok (.aload_n 0, 1) := by decide +kernel
theorem dX9_climb_144 : decode cX9_climb 144 = .ok (.iload_n 1, 1) := by decide +kernel
theorem dX9_climb_145 : decode cX9_climb 145 = .ok (.iload_n 2, 1) := by decide +kernel
theorem dX9_climb_146 : decode cX9_climb 146 = .ok (.invokevirtual 334, 3) := by decide +kernel
theorem dX9_climb_149 : decode cX9_climb 149 = .ok (.goto 4, 3) := by decide +kernel
theorem dX9_climb_152 : decode cX9_climb 152 = .ok (.iconst 0, 1) := by decide +kernel
theorem dX9_climb_153 : decode cX9_climb 153 = .ok (.istore 6, 2) := by decide +kernel
theorem dX9_climb_155 : decode cX9_climb 155 = .ok (.aload_n 0, 1) := by decide +kernel
theorem dX9_climb_156 : decode cX9_climb 156 = .ok (.getfield 87, 3) := by decide +kernel
theorem dX9_climb_159 : decode cX9_climb 159 = .ok (.iload 4, 2) := by decide +kernel
theorem dX9_climb_161 : decode cX9_climb 161 = .ok (.iaload, 1) := by decide +kernel
theorem dX9_climb_162 : decode cX9_climb 162 = .ok (.iconst (-1), 1) := by decide +kernel
theorem dX9_climb_163 : decode cX9_climb 163 = .ok (.if_icmp .eq 40, 3) := by decide +kernel
theorem dX9_climb_166 : decode cX9_climb 166 = .ok (.aload_n 0, 1) := by decide +kernel
theorem dX9_climb_167 : decode cX9_climb 167 = .ok (.getfield 122, 3) := by decide +kernel
theorem dX9_climb_170 : decode cX9_climb 170 = .ok (.aload_n 0, 1) := by decide +kernel
theorem dX9_climb_171 : decode cX9_climb 171 = .ok (.getfield 93, 3) := by decide +kernel
theorem dX9_climb_174 : decode cX9_climb 174 = .ok (.iload 4, 2) := by decide +kernel
theorem dX9_climb_176 : decode cX9_climb 176 = .ok (.iaload, 1) := by decide +kernel
theorem dX9_climb_177 : decode cX9_climb 177 = .ok (.isub, 1) := by decide +kernel
theorem dX9_climb_178 : decode cX9_climb 178 = .ok (.bipush 20, 2) := by decide +kernel
theorem dX9_climb_180 : decode cX9_climb 180 = .ok (.if_icmp .ge 23, 3) := by decide +kernel
theorem dX9_climb_183 : decode cX9_climb 183 = .ok (.iload_n 3, 1) := by decide +kernel
theorem dX9_climb_184 : decode cX9_climb 184 = .ok (.ifCond .ne 23, 3) := by decide +kernel
theorem dX9_climb_187 : decode cX9_climb 187 = .ok (.iload 6, 2) := by decide +kernel
theorem dX9_climb_189 : decode cX9_climb 189 = .ok (.aload_n 0, 1) := by decide +kernel
theorem dX9_climb_190 : decode cX9_climb 190 = .ok (.getfield 96, 3) := by decide +kernel
theorem dX9_climb_193 : decode cX9_climb 193 = .ok (.bipush 8, 2) := by decide +kernel
theorem dX9_climb_195 : decode cX9_climb 195 = .ok (.iload_n 1, 1) := by decide +kernel
theorem dX9_climb_196 : decode cX9_climb 196 = .ok (.imul, 1) := by decide +kernel
theorem dX9_climb_197 : decode cX9_climb 197 = .ok (.iload_n 2, 1) := by decide +kernel
theorem dX9_climb_198 : decode cX9_climb 198 = .ok (.iadd, 1) := by decide +kernel
theorem dX9_climb_199 : decode cX9_climb 199 = .ok (.iaload, 1) := by decide +kernel
theorem dX9_climb_200 : decode cX9_climb 200 = .ok (.if_icmp .eq 7, 3) := by decide +kernel
theorem dX9_climb_203 : decode cX9_climb 203 = .ok (.iconst 1, 1) := by decide +kernel
theorem dX9_climb_204 : decode cX9_climb 204 = .ok (.goto 4, 3) := by decide +kernel
theorem dX9_climb_207 : decode cX9_climb 207 = .ok (.iconst 0, 1) := by decide +kernel
theorem dX9_climb_208 : decode cX9_climb 208 = .ok (.istore 7, 2) := by decide +kernel
theorem dX9_climb_210 : decode cX9_climb 210 = .ok (.iload 7, 2) := by decide +kernel
theorem dX9_climb_212 : decode cX9_climb 212 = .ok (.ifCond .ne 4, 3) := by decide +kernel
theorem dX9_climb_215 : decode cX9_climb 215 = .ok (.return_, 1) := by decide +kernel
theorem dX9_climb_216 : decode cX9_climb 216 = .ok (.aload_n 0, 1) := by decide +kernel
theorem dX9_climb_217 : decode cX9_climb 217 = .ok (.getfield 87, 3) := by decide +kernel
theorem dX9_climb_220 : decode cX9_climb 220 = .ok (.iload 4, 2) := by decide +kernel
theorem dX9_climb_222 : decode cX9_climb 222 = .ok (.iload 5, 2) := by decide +kernel
theorem dX9_climb_224 : decode cX9_climb 224 = .ok (.bipush 16, 2) := by decide +kernel
theorem dX9_climb_226 : decode cX9_climb 226 = .ok (.idiv, 1) := by decide +kernel
theorem dX9_climb_227 : decode cX9_climb 227 = .ok (.iastore, 1) := by decide +kernel
theorem dX9_climb_228 : decode cX9_climb 228 = .ok (.aload_n 0, 1) := by decide +kernel
theorem dX9_climb_229 : decode cX9_climb 229 = .ok (.getfield 90, 3) := by decide +kernel
theorem dX9_climb_232 : decode cX9_climb 232 = .ok (.iload 4, 2) := by decide +kernel
theorem dX9_climb_234 : decode cX9_climb 234 = .ok (.iload 5, 2) := by decide +kernel
theorem dX9_climb_236 : decode cX9_climb 236 = .ok (.bipush 16, 2) := by decide +kernel
theorem dX9_climb_238 : decode cX9_climb 238 = .ok (.irem, 1) := by decide +kernel
theorem dX9_climb_239 : decode cX9_climb 239 = .ok (.iastore, 1) := by decide +kernel
theorem dX9_climb_240 : decode cX9_climb 240 = .ok (.iload_n 3, 1) := by decide +kernel
theorem dX9_climb_241 : decode cX9_climb 241 = .ok (.ifCond .ne 16, 3) := by decide +kernel
theorem dX9_climb_244 : decode cX9_climb 244 = .ok (.aload_n 0, 1) := by decide +kernel
theorem dX9_climb_245 : decode cX9_climb 245 = .ok (.getfield 96, 3) := by decide +kernel
theorem dX9_climb_248 : decode cX9_climb 248 = .ok (.bipush 8, 2) := by decide +kernel
theorem dX9_climb_250 : decode cX9_climb 250 = .ok (.iload_n 1, 1) := by decide +kernel
theorem dX9_climb_251 : decode cX9_climb 251 = .ok (.imul, 1) := by decide +kernel
theorem dX9_climb_252 : decode cX9_climb 252 = .ok (.iload_n 2, 1) := by decide +kernel
theorem dX9_climb_253 : decode cX9_climb 253 = .ok (.iadd, 1) := by decide +kernel
theorem dX9_climb_254 : decode cX9_climb 254 = .ok (.iload 6, 2) := by decide +kernel
theorem dX9_climb_256 : decode cX9_climb 256 = .ok (.iastore, 1) := by decide +kernel
theorem dX9_climb_257 : decode cX9_climb 257 = .ok (.aload_n 0, 1) := by decide +kernel
theorem dX9_climb_258 : decode cX9_climb 258 = .ok (.iload_n 1, 1) := by decide +kernel
theorem dX9_climb_259 : decode cX9_climb 259 = .ok (.iload_n 2, 1) := by decide +kernel
theorem dX9_climb_260 : decode cX9_climb 260 = .ok (.iload_n 3, 1) := by decide +kernel
theorem dX9_climb_261 : decode cX9_climb 261 = .ok (.invokevirtual 290, 3) := by decide +kernel
theorem dX9_climb_264 : decode cX9_climb 264 = .ok (.return_, 1) := by decide +kernel
def d_X9_climb_257 (x0 : Nat) (x1 : Int32) (x2 : Int32) (x3 : Int32) (G : Hp) : Option (Hp) :=
  gd (hc G x0 = 10) <|
  bo (d_X9_sendJoin x0 x1 x2 x3 G) fun G3 =>
  some G3
def d_X9_climb_208 (x0 : Nat) (x1 : Int32) (x2 : Int32) (x3 : Int32) (x4 : Int32) (x5 : Int32) (x6 : Int32) (s0 : Int32) (G : Hp) : Option (Hp) :=
  if s0 = 0 then
    some G
  else
    gd (hc G x0 = 10) <|
    gd (hc G ((hr G x0 33)) = 11 ∧ ix x4 (hl G ((hr G x0 33)))) <|
    bd (sI G ((hr G x0 33)) x4.toNatClampNeg ((x5 / 16))) fun G4 =>
    gd (hc G4 x0 = 10) <|
    gd (hc G4 ((hr G4 x0 34)) = 11 ∧ ix x4 (hl G4 ((hr G4 x0 34)))) <|
    bd (sI G4 ((hr G4 x0 34)) x4.toNatClampNeg ((x5 - x5 / 16 * 16))) fun G7 =>
    if x3 = 0 then
      gd (hc G7 x0 = 10) <|
      gd (hc G7 ((hr G7 x0 36)) = 11 ∧ ix ((((8 * x1)) + x2)) (hl G7 ((hr G7 x0 36)))) <|
      bd (sI G7 ((hr G7 x0 36)) ((((8 * x1)) + x2)).toNatClampNeg x6) fun G11 =>
      d_X9_climb_257 x0 x1 x2 x3 G11
    else
      d_X9_climb_257 x0 x1 x2 x3 G7
def d_X9_climb_203 (x0 : Nat) (x1 : Int32) (x2 : Int32) (x3 : Int32) (x4 : Int32) (x5 : Int32) (x6 : Int32) (G : Hp) : Option (Hp) :=
  d_X9_climb_208 x0 x1 x2 x3 x4 x5 x6 1 G
def d_X9_climb_207 (x0 : Nat) (x1 : Int32) (x2 : Int32) (x3 : Int32) (x4 : Int32) (x5 : Int32) (x6 : Int32) (G : Hp) : Option (Hp) :=
  d_X9_climb_208 x0 x1 x2 x3 x4 x5 x6 0 G
def d_X9_climb_153 (x0 : Nat) (x1 : Int32) (x2 : Int32) (x3 : Int32) (x4 : Int32) (x5 : Int32) (s0 : Int32) (G : Hp) : Option (Hp) :=
  gd (hc G x0 = 10) <|
  gd (hc G ((hr G x0 33)) = 11 ∧ ix x4 (hl G ((hr G x0 33)))) <|
  if ((hi G ((hr G x0 33)) x4.toNatClampNeg)) = (-1) then
    d_X9_climb_203 x0 x1 x2 x3 x4 x5 s0 G
  else
    gd (hc G ((hr G x0 35)) = 11 ∧ ix x4 (hl G ((hr G x0 35)))) <|
    if 20 ≤ ((((hi G x0 0)) - ((hi G ((hr G x0 35)) x4.toNatClampNeg)))) then
      d_X9_climb_203 x0 x1 x2 x3 x4 x5 s0 G
    else
      if x3 = 0 then
        gd (hc G ((hr G x0 36)) = 11 ∧ ix ((((8 * x1)) + x2)) (hl G ((hr G x0 36)))) <|
        if s0 = ((hi G ((hr G x0 36)) ((((8 * x1)) + x2)).toNatClampNeg)) then
          d_X9_climb_207 x0 x1 x2 x3 x4 x5 s0 G
        else
          d_X9_climb_203 x0 x1 x2 x3 x4 x5 s0 G
      else
        d_X9_climb_207 x0 x1 x2 x3 x4 x5 s0 G
def d_X9_climb_132 (x0 : Nat) (x1 : Int32) (x2 : Int32) (x3 : Int32) (x4 : Int32) (x5 : Int32) (G : Hp) : Option (Hp) :=
  if x5 = (-1) then
    some G
  else
    if x3 = 0 then
      gd (hc G x0 = 10) <|
      b2 (d_X9_toCutOff x0 x1 x2 G) fun v5 G6 =>
      d_X9_climb_153 x0 x1 x2 x3 x4 x5 v5 G6
    else
      d_X9_climb_153 x0 x1 x2 x3 x4 x5 0 G
def d_X9_climb_109 (x0 : Nat) (x1 : Int32) (x2 : Int32) (x3 : Int32) (x4 : Int32) (x5 : Int32) (s0 : Int32) (s1 : Int32) (s2 : Int32) (s3 : Int32) (s4 : Int32) (s5 : Int32) (s6 : Nat) (G : Hp) : Option (Hp) :=
  gd (hc G s6 = 10) <|
  b2 (d_X9_put s6 s5 s4 s3 s2 s1 s0 0 0 0 G) fun v3 G4 =>
  gd (hc G4 x0 = 10) <|
  gd (hc G4 ((hr G4 x0 33)) = 11 ∧ ix x4 (hl G4 ((hr G4 x0 33)))) <|
  bd (sI G4 ((hr G4 x0 33)) x4.toNatClampNeg (-1)) fun G7 =>
  gd (hc G7 x0 = 10) <|
  gd (hc G7 ((hr G7 x0 34)) = 11 ∧ ix x4 (hl G7 ((hr G7 x0 34)))) <|
  bd (sI G7 ((hr G7 x0 34)) x4.toNatClampNeg (-1)) fun G10 =>
  d_X9_climb_132 x0 x1 x2 x3 x4 x5 G10
def d_X9_climb_34 (x0 : Nat) (x1 : Int32) (x2 : Int32) (x3 : Int32) (x4 : Int32) (s0 : Int32) (G : Hp) : Option (Hp) :=
  gd (hc G x0 = 10) <|
  gd (hc G ((hr G x0 33)) = 11 ∧ ix x4 (hl G ((hr G x0 33)))) <|
  if ((hi G ((hr G x0 33)) x4.toNatClampNeg)) = (-1) then
    d_X9_climb_132 x0 x1 x2 x3 x4 s0 G
  else
    gd (hc G ((hr G x0 33)) = 11 ∧ ix x4 (hl G ((hr G x0 33)))) <|
    gd (hc G ((hr G x0 34)) = 11 ∧ ix x4 (hl G ((hr G x0 34)))) <|
    if ((((16 * ((hi G ((hr G x0 33)) x4.toNatClampNeg)))) + ((hi G ((hr G x0 34)) x4.toNatClampNeg)))) = s0 then
      d_X9_climb_132 x0 x1 x2 x3 x4 s0 G
    else
      gd (hc G ((hr G x0 33)) = 11 ∧ ix x4 (hl G ((hr G x0 33)))) <|
      gd (hc G ((hr G x0 8)) = 11 ∧ ix ((((4 * x1)) + ((hi G ((hr G x0 33)) x4.toNatClampNeg)))) (hl G ((hr G x0 8)))) <|
      gd (hc G ((hr G x0 34)) = 11 ∧ ix x4 (hl G ((hr G x0 34)))) <|
      if x3 = 0 then
        d_X9_climb_109 x0 x1 x2 x3 x4 s0 (-1) x2 ((hi G ((hr G x0 34)) x4.toNatClampNeg)) x1 6 ((hi G ((hr G x0 8)) ((((4 * x1)) + ((hi G ((hr G x0 33)) x4.toNatClampNeg)))).toNatClampNeg)) x0 G
      else
        d_X9_climb_109 x0 x1 x2 x3 x4 s0 ((x3 - 1)) x2 ((hi G ((hr G x0 34)) x4.toNatClampNeg)) x1 6 ((hi G ((hr G x0 8)) ((((4 * x1)) + ((hi G ((hr G x0 33)) x4.toNatClampNeg)))).toNatClampNeg)) x0 G
def d_X9_climb (x0 : Nat) (x1 : Int32) (x2 : Int32) (x3 : Int32) (G : Hp) : Option (Hp) :=
  bd ((((17 * ((((8 * x1)) + x2)))) + x3)) fun v1 =>
  gd (hc G x0 = 10) <|
  b2 (d_X9_wants x0 x1 x2 x3 G) fun v4 G5 =>
  if v4 = 0 then
    d_X9_climb_34 x0 x1 x2 x3 v1 (-1) G5
  else
    gd (hc G5 x0 = 10) <|
    b2 (d_X9_up x0 x1 x2 x3 G5) fun v9 G10 =>
    d_X9_climb_34 x0 x1 x2 x3 v1 v9 G10
section
variable {p : Program} {l : Launch} {e : Env} {s : State} {m : MethodId} {args : Array Value} {below : List Frame} {meth : Method} {c : Code} {b0 : Nat} {D : va_G} {E : Nat → ClassId}
set_option maxHeartbeats 4000000 in
set_option maxRecDepth 100000 in
theorem k_X9_climb_257 (C : Cx p s m args meth c RX9 cX9_climb 8 none b0 D E) {GG : Hp} {x0 : Nat} {x1 : Int32} {x2 : Int32} {x3 : Int32} {G : Hp} {ls : Array Slot} {H : Heap} {locs : List Loc} : lx ls 8 [(0, .inr x0), (1, .inl x1), (2, .inl x2), (3, .inl x3)] → Rp b0 D E G H → SS b0 s H locs → d_X9_climb_257 x0 x1 x2 x3 G = some GG → W p l e (rmd 12 (0) (0)) s m args below meth c H locs (0) (0) (MQ below (CQ b0 D E none GG) args s (0) (0) (fun q => b0 ≤ q)) (F0 m 257 ls []) := by
  intro hL hR hS hd
  unfold d_X9_climb_257 at hd
  have hx := C.1
  have hb := C.2.1
  refine x_aload_n C dX9_climb_257 hL 0 rfl ?_
  refine x_iload_n C dX9_climb_258 hL 1 rfl ?_
  refine x_iload_n C dX9_climb_259 hL 2 rfl ?_
  refine x_iload_n C dX9_climb_260 hL 3 rfl ?_
  obtain ⟨g1, hd⟩ := gd_ex hd
  obtain ⟨G3, h2, hd⟩ := bo_ex hd
  refine r_callV (a := x0) (ci := 9) (As := [.int x1, .int x2, .int x3]) C (ct_X9_sendJoin h2) mf_X9_sendJoin ml_X9_290 mv_X9_sendJoin rfl ⟨Nat.le_of_ble_eq_true rfl, Nat.le_of_ble_eq_true rfl⟩ dX9_climb_261 (lx_size hL) rfl hR hS g1 ⟨Nat.le_refl _, Nat.le_refl _⟩ (cat_le [] (Nat.le_of_ble_eq_true rfl)) (fun H locs hR hS => ?_)
  refine W_st (st2 := []) rfl ?_
  cases hd
  exact r_vret C dX9_climb_264 hR hS
set_option maxHeartbeats 4000000 in
set_option maxRecDepth 100000 in
theorem k_X9_climb_208 (C : Cx p s m args meth c RX9 cX9_climb 8 none b0 D E) {GG : Hp} {x0 : Nat} {x1 : Int32} {x2 : Int32} {x3 : Int32} {x4 : Int32} {x5 : Int32} {x6 : Int32} {s0 : Int32} {G : Hp} {ls : Array Slot} {H : Heap} {locs : List Loc} : lx ls 8 [(0, .inr x0), (1, .inl x1), (2, .inl x2), (3, .inl x3), (4, .inl x4), (5, .inl x5), (6, .inl x6)] → Rp b0 D E G H → SS b0 s H locs → d_X9_climb_208 x0 x1 x2 x3 x4 x5 x6 s0 G = some GG → W p l e (rmd 12 (0) (0)) s m args below meth c H locs (0) (0) (MQ below (CQ b0 D E none GG) args s (0) (0) (fun q => b0 ≤ q)) (F0 m 208 ls [.int s0]) := by
  intro hL hR hS hd
  unfold d_X9_climb_208 at hd
  have hx := C.1
  have hb := C.2.1
  refine x_istore (lv' := [(7, .inl s0), (0, .inr x0), (1, .inl x1), (2, .inl x2), (3, .inl x3), (4, .inl x4), (5, .inl x5), (6, .inl x6)]) C dX9_climb_208 hL (by decide) rfl (fun ls hL => ?_)
  refine x_iload C dX9_climb_210 hL 0 rfl ?_
  refine lv_if_ne (tgt := 216) hx hb dX9_climb_212 (by decide) (fun c1 => ?_) (fun c1 => ?_)
  · rw [if_neg c1] at hd
    refine x_aload_n C dX9_climb_216 hL 1 rfl ?_
    obtain ⟨g2, hd⟩ := gd_ex hd
    refine r_getr (ci := 9) (k := 33) C fl_X9_87 rfl dX9_climb_217 hR g2 ?_
    refine x_iload C dX9_climb_220 hL 5 rfl ?_
    refine x_iload C dX9_climb_222 hL 6 rfl ?_
    refine lv_bipush (v := 16) hx hb dX9_climb_224 (by decide) ?_
    refine lv_idiv hx hb dX9_climb_226 (by decide) ?_
    obtain ⟨g3, hd⟩ := gd_ex hd
    obtain ⟨G4, eG4, hd⟩ := bd_ex hd
    refine r_iast C dX9_climb_227 hR hS g3 (fun H locs hR hS => ?_)
    replace hR : Rp b0 D E G4 H := by rw [eG4]; exact hR
    refine x_aload_n C dX9_climb_228 hL 1 rfl ?_
    obtain ⟨g5, hd⟩ := gd_ex hd
    refine r_getr (ci := 9) (k := 34) C fl_X9_90 rfl dX9_climb_229 hR g5 ?_
    refine x_iload C dX9_climb_232 hL 5 rfl ?_
    refine x_iload C dX9_climb_234 hL 6 rfl ?_
    refine lv_bipush (v := 16) hx hb dX9_climb_236 (by decide) ?_
    refine lv_irem hx hb dX9_climb_238 (by decide) ?_
    obtain ⟨g6, hd⟩ := gd_ex hd
    obtain ⟨G7, eG7, hd⟩ := bd_ex hd
    refine r_iast C dX9_climb_239 hR hS g6 (fun H locs hR hS => ?_)
    replace hR : Rp b0 D E G7 H := by rw [eG7]; exact hR
    refine x_iload_n C dX9_climb_240 hL 4 rfl ?_
    refine lv_if_ne (tgt := 257) hx hb dX9_climb_241 (by decide) (fun c8 => ?_) (fun c8 => ?_)
    · rw [if_neg c8] at hd
      exact k_X9_climb_257 C (lx_sub hL [1, 2, 3, 4] rfl) hR hS hd
    · rw [if_pos c8] at hd
      refine x_aload_n C dX9_climb_244 hL 1 rfl ?_
      obtain ⟨g9, hd⟩ := gd_ex hd
      refine r_getr (ci := 9) (k := 36) C fl_X9_96 rfl dX9_climb_245 hR g9 ?_
      refine lv_bipush (v := 8) hx hb dX9_climb_248 (by decide) ?_
      refine x_iload_n C dX9_climb_250 hL 2 rfl ?_
      refine lv_imul hx hb dX9_climb_251 ?_
      refine x_iload_n C dX9_climb_252 hL 3 rfl ?_
      refine lv_iadd hx hb dX9_climb_253 ?_
      refine x_iload C dX9_climb_254 hL 7 rfl ?_
      obtain ⟨g10, hd⟩ := gd_ex hd
      obtain ⟨G11, eG11, hd⟩ := bd_ex hd
      refine r_iast C dX9_climb_256 hR hS g10 (fun H locs hR hS => ?_)
      replace hR : Rp b0 D E G11 H := by rw [eG11]; exact hR
      exact k_X9_climb_257 C (lx_sub hL [1, 2, 3, 4] rfl) hR hS hd
  · rw [if_pos c1] at hd
    cases hd
    exact r_vret C dX9_climb_215 hR hS
set_option maxHeartbeats 4000000 in
set_option maxRecDepth 100000 in
theorem k_X9_climb_203 (C : Cx p s m args meth c RX9 cX9_climb 8 none b0 D E) {GG : Hp} {x0 : Nat} {x1 : Int32} {x2 : Int32} {x3 : Int32} {x4 : Int32} {x5 : Int32} {x6 : Int32} {G : Hp} {ls : Array Slot} {H : Heap} {locs : List Loc} : lx ls 8 [(0, .inr x0), (1, .inl x1), (2, .inl x2), (3, .inl x3), (4, .inl x4), (5, .inl x5), (6, .inl x6)] → Rp b0 D E G H → SS b0 s H locs → d_X9_climb_203 x0 x1 x2 x3 x4 x5 x6 G = some GG → W p l e (rmd 12 (0) (0)) s m args below meth c H locs (0) (0) (MQ below (CQ b0 D E none GG) args s (0) (0) (fun q => b0 ≤ q)) (F0 m 203 ls []) := by
  intro hL hR hS hd
  unfold d_X9_climb_203 at hd
  have hx := C.1
  have hb := C.2.1
  refine lv_iconst (v := 1) hx hb dX9_climb_203 (by decide) ?_
  refine lv_goto (tgt := 208) hx hb dX9_climb_204 (by decide) ?_
  exact k_X9_climb_208 C hL hR hS hd
set_option maxHeartbeats 4000000 in
set_option maxRecDepth 100000 in
theorem k_X9_climb_207 (C : Cx p s m args meth c RX9 cX9_climb 8 none b0 D E) {GG : Hp} {x0 : Nat} {x1 : Int32} {x2 : Int32} {x3 : Int32} {x4 : Int32} {x5 : Int32} {x6 : Int32} {G : Hp} {ls : Array Slot} {H : Heap} {locs : List Loc} : lx ls 8 [(0, .inr x0), (1, .inl x1), (2, .inl x2), (3, .inl x3), (4, .inl x4), (5, .inl x5), (6, .inl x6)] → Rp b0 D E G H → SS b0 s H locs → d_X9_climb_207 x0 x1 x2 x3 x4 x5 x6 G = some GG → W p l e (rmd 12 (0) (0)) s m args below meth c H locs (0) (0) (MQ below (CQ b0 D E none GG) args s (0) (0) (fun q => b0 ≤ q)) (F0 m 207 ls []) := by
  intro hL hR hS hd
  unfold d_X9_climb_207 at hd
  have hx := C.1
  have hb := C.2.1
  refine lv_iconst (v := 0) hx hb dX9_climb_207 (by decide) ?_
  exact k_X9_climb_208 C hL hR hS hd
set_option maxHeartbeats 4000000 in
set_option maxRecDepth 100000 in
theorem k_X9_climb_153 (C : Cx p s m args meth c RX9 cX9_climb 8 none b0 D E) {GG : Hp} {x0 : Nat} {x1 : Int32} {x2 : Int32} {x3 : Int32} {x4 : Int32} {x5 : Int32} {s0 : Int32} {G : Hp} {ls : Array Slot} {H : Heap} {locs : List Loc} : lx ls 8 [(0, .inr x0), (1, .inl x1), (2, .inl x2), (3, .inl x3), (4, .inl x4), (5, .inl x5)] → Rp b0 D E G H → SS b0 s H locs → d_X9_climb_153 x0 x1 x2 x3 x4 x5 s0 G = some GG → W p l e (rmd 12 (0) (0)) s m args below meth c H locs (0) (0) (MQ below (CQ b0 D E none GG) args s (0) (0) (fun q => b0 ≤ q)) (F0 m 153 ls [.int s0]) := by
  intro hL hR hS hd
  unfold d_X9_climb_153 at hd
  have hx := C.1
  have hb := C.2.1
  refine x_istore (lv' := [(6, .inl s0), (0, .inr x0), (1, .inl x1), (2, .inl x2), (3, .inl x3), (4, .inl x4), (5, .inl x5)]) C dX9_climb_153 hL (by decide) rfl (fun ls hL => ?_)
  refine x_aload_n C dX9_climb_155 hL 1 rfl ?_
  obtain ⟨g1, hd⟩ := gd_ex hd
  refine r_getr (ci := 9) (k := 33) C fl_X9_87 rfl dX9_climb_156 hR g1 ?_
  refine x_iload C dX9_climb_159 hL 5 rfl ?_
  obtain ⟨g2, hd⟩ := gd_ex hd
  refine r_iald C dX9_climb_161 hR g2 ?_
  refine lv_iconst (v := (-1)) hx hb dX9_climb_162 (by decide) ?_
  refine lv_icmp_eq (tgt := 203) hx hb dX9_climb_163 (by decide) (fun c3 => ?_) (fun c3 => ?_)
  · rw [if_pos c3] at hd
    exact k_X9_climb_203 C (lx_sub hL [1, 2, 3, 4, 5, 6, 0] rfl) hR hS hd
  · rw [if_neg c3] at hd
    refine x_aload_n C dX9_climb_166 hL 1 rfl ?_
    refine r_geti (ci := 9) (k := 0) C fl_X9_122 rfl dX9_climb_167 hR g1 ?_
    refine x_aload_n C dX9_climb_170 hL 1 rfl ?_
    refine r_getr (ci := 9) (k := 35) C fl_X9_93 rfl dX9_climb_171 hR g1 ?_
    refine x_iload C dX9_climb_174 hL 5 rfl ?_
    obtain ⟨g4, hd⟩ := gd_ex hd
    refine r_iald C dX9_climb_176 hR g4 ?_
    refine lv_isub hx hb dX9_climb_177 ?_
    refine lv_bipush (v := 20) hx hb dX9_climb_178 (by decide) ?_
    refine lv_icmp_ge (tgt := 203) hx hb dX9_climb_180 (by decide) (fun c5 => ?_) (fun c5 => ?_)
    · rw [if_pos c5] at hd
      exact k_X9_climb_203 C (lx_sub hL [1, 2, 3, 4, 5, 6, 0] rfl) hR hS hd
    · rw [if_neg c5] at hd
      refine x_iload_n C dX9_climb_183 hL 4 rfl ?_
      refine lv_if_ne (tgt := 207) hx hb dX9_climb_184 (by decide) (fun c6 => ?_) (fun c6 => ?_)
      · rw [if_neg c6] at hd
        exact k_X9_climb_207 C (lx_sub hL [1, 2, 3, 4, 5, 6, 0] rfl) hR hS hd
      · rw [if_pos c6] at hd
        refine x_iload C dX9_climb_187 hL 0 rfl ?_
        refine x_aload_n C dX9_climb_189 hL 1 rfl ?_
        refine r_getr (ci := 9) (k := 36) C fl_X9_96 rfl dX9_climb_190 hR g1 ?_
        refine lv_bipush (v := 8) hx hb dX9_climb_193 (by decide) ?_
        refine x_iload_n C dX9_climb_195 hL 2 rfl ?_
        refine lv_imul hx hb dX9_climb_196 ?_
        refine x_iload_n C dX9_climb_197 hL 3 rfl ?_
        refine lv_iadd hx hb dX9_climb_198 ?_
        obtain ⟨g7, hd⟩ := gd_ex hd
        refine r_iald C dX9_climb_199 hR g7 ?_
        refine lv_icmp_eq (tgt := 207) hx hb dX9_climb_200 (by decide) (fun c8 => ?_) (fun c8 => ?_)
        · rw [if_pos c8] at hd
          exact k_X9_climb_207 C (lx_sub hL [1, 2, 3, 4, 5, 6, 0] rfl) hR hS hd
        · rw [if_neg c8] at hd
          exact k_X9_climb_203 C (lx_sub hL [1, 2, 3, 4, 5, 6, 0] rfl) hR hS hd
set_option maxHeartbeats 4000000 in
set_option maxRecDepth 100000 in
theorem k_X9_climb_132 (C : Cx p s m args meth c RX9 cX9_climb 8 none b0 D E) {GG : Hp} {x0 : Nat} {x1 : Int32} {x2 : Int32} {x3 : Int32} {x4 : Int32} {x5 : Int32} {G : Hp} {ls : Array Slot} {H : Heap} {locs : List Loc} : lx ls 8 [(0, .inr x0), (1, .inl x1), (2, .inl x2), (3, .inl x3), (4, .inl x4), (5, .inl x5)] → Rp b0 D E G H → SS b0 s H locs → d_X9_climb_132 x0 x1 x2 x3 x4 x5 G = some GG → W p l e (rmd 12 (0) (0)) s m args below meth c H locs (0) (0) (MQ below (CQ b0 D E none GG) args s (0) (0) (fun q => b0 ≤ q)) (F0 m 132 ls []) := by
  intro hL hR hS hd
  unfold d_X9_climb_132 at hd
  have hx := C.1
  have hb := C.2.1
  refine x_iload C dX9_climb_132 hL 5 rfl ?_
  refine lv_iconst (v := (-1)) hx hb dX9_climb_134 (by decide) ?_
  refine lv_icmp_ne (tgt := 139) hx hb dX9_climb_135 (by decide) (fun c1 => ?_) (fun c1 => ?_)
  · rw [if_neg c1] at hd
    refine x_iload_n C dX9_climb_139 hL 3 rfl ?_
    refine lv_if_ne (tgt := 152) hx hb dX9_climb_140 (by decide) (fun c2 => ?_) (fun c2 => ?_)
    · rw [if_neg c2] at hd
      refine lv_iconst (v := 0) hx hb dX9_climb_152 (by decide) ?_
      exact k_X9_climb_153 C hL hR hS hd
    · rw [if_pos c2] at hd
      refine x_aload_n C dX9_climb_143 hL 0 rfl ?_
      refine x_iload_n C dX9_climb_144 hL 1 rfl ?_
      refine x_iload_n C dX9_climb_145 hL 2 rfl ?_
      obtain ⟨g3, hd⟩ := gd_ex hd
      obtain ⟨v5, G6, h4, hd⟩ := b2_ex hd
      refine r_callV (a := x0) (ci := 9) (As := [.int x1, .int x2]) C (ct_X9_toCutOff h4) mf_X9_toCutOff ml_X9_334 mv_X9_toCutOff rfl ⟨Nat.le_of_ble_eq_true rfl, Nat.le_of_ble_eq_true rfl⟩ dX9_climb_146 (lx_size hL) rfl hR hS g3 ⟨Nat.le_refl _, Nat.le_refl _⟩ (cat_le [] (Nat.le_of_ble_eq_true rfl)) (fun H locs hR hS => ?_)
      refine W_st (st2 := [.int v5]) rfl ?_
      refine lv_goto (tgt := 153) hx hb dX9_climb_149 (by decide) ?_
      exact k_X9_climb_153 C hL hR hS hd
  · rw [if_pos c1] at hd
    cases hd
    exact r_vret C dX9_climb_138 hR hS
set_option maxHeartbeats 4000000 in
set_option maxRecDepth 100000 in
theorem k_X9_climb_109 (C : Cx p s m args meth c RX9 cX9_climb 8 none b0 D E) {GG : Hp} {x0 : Nat} {x1 : Int32} {x2 : Int32} {x3 : Int32} {x4 : Int32} {x5 : Int32} {s0 : Int32} {s1 : Int32} {s2 : Int32} {s3 : Int32} {s4 : Int32} {s5 : Int32} {s6 : Nat} {G : Hp} {ls : Array Slot} {H : Heap} {locs : List Loc} : lx ls 8 [(0, .inr x0), (1, .inl x1), (2, .inl x2), (3, .inl x3), (4, .inl x4), (5, .inl x5)] → Rp b0 D E G H → SS b0 s H locs → d_X9_climb_109 x0 x1 x2 x3 x4 x5 s0 s1 s2 s3 s4 s5 s6 G = some GG → W p l e (rmd 12 (0) (0)) s m args below meth c H locs (0) (0) (MQ below (CQ b0 D E none GG) args s (0) (0) (fun q => b0 ≤ q)) (F0 m 109 ls [.int s0, .int s1, .int s2, .int s3, .int s4, .int s5, rv s6]) := by
  intro hL hR hS hd
  unfold d_X9_climb_109 at hd
  have hx := C.1
  have hb := C.2.1
  refine lv_iconst (v := 0) hx hb dX9_climb_109 (by decide) ?_
  refine lv_iconst (v := 0) hx hb dX9_climb_110 (by decide) ?_
  refine lv_iconst (v := 0) hx hb dX9_climb_111 (by decide) ?_
  obtain ⟨g1, hd⟩ := gd_ex hd
  obtain ⟨v3, G4, h2, hd⟩ := b2_ex hd
  refine r_callV (a := s6) (ci := 9) (As := [.int s5, .int s4, .int s3, .int s2, .int s1, .int s0, .int 0, .int 0, .int 0]) C (ct_X9_put h2) mf_X9_put ml_X9_238 mv_X9_put rfl ⟨Nat.le_of_ble_eq_true rfl, Nat.le_of_ble_eq_true rfl⟩ dX9_climb_112 (lx_size hL) rfl hR hS g1 ⟨Nat.le_refl _, Nat.le_refl _⟩ (cat_le [] (Nat.le_of_ble_eq_true rfl)) (fun H locs hR hS => ?_)
  refine W_st (st2 := [.int v3]) rfl ?_
  refine lv_pop hx hb dX9_climb_115 rfl ?_
  refine x_aload_n C dX9_climb_116 hL 0 rfl ?_
  obtain ⟨g5, hd⟩ := gd_ex hd
  refine r_getr (ci := 9) (k := 33) C fl_X9_87 rfl dX9_climb_117 hR g5 ?_
  refine x_iload C dX9_climb_120 hL 4 rfl ?_
  refine lv_iconst (v := (-1)) hx hb dX9_climb_122 (by decide) ?_
  obtain ⟨g6, hd⟩ := gd_ex hd
  obtain ⟨G7, eG7, hd⟩ := bd_ex hd
  refine r_iast C dX9_climb_123 hR hS g6 (fun H locs hR hS => ?_)
  replace hR : Rp b0 D E G7 H := by rw [eG7]; exact hR
  refine x_aload_n C dX9_climb_124 hL 0 rfl ?_
  obtain ⟨g8, hd⟩ := gd_ex hd
  refine r_getr (ci := 9) (k := 34) C fl_X9_90 rfl dX9_climb_125 hR g8 ?_
  refine x_iload C dX9_climb_128 hL 4 rfl ?_
  refine lv_iconst (v := (-1)) hx hb dX9_climb_130 (by decide) ?_
  obtain ⟨g9, hd⟩ := gd_ex hd
  obtain ⟨G10, eG10, hd⟩ := bd_ex hd
  refine r_iast C dX9_climb_131 hR hS g9 (fun H locs hR hS => ?_)
  replace hR : Rp b0 D E G10 H := by rw [eG10]; exact hR
  exact k_X9_climb_132 C hL hR hS hd
set_option maxHeartbeats 4000000 in
set_option maxRecDepth 100000 in
theorem k_X9_climb_34 (C : Cx p s m args meth c RX9 cX9_climb 8 none b0 D E) {GG : Hp} {x0 : Nat} {x1 : Int32} {x2 : Int32} {x3 : Int32} {x4 : Int32} {s0 : Int32} {G : Hp} {ls : Array Slot} {H : Heap} {locs : List Loc} : lx ls 8 [(0, .inr x0), (1, .inl x1), (2, .inl x2), (3, .inl x3), (4, .inl x4)] → Rp b0 D E G H → SS b0 s H locs → d_X9_climb_34 x0 x1 x2 x3 x4 s0 G = some GG → W p l e (rmd 12 (0) (0)) s m args below meth c H locs (0) (0) (MQ below (CQ b0 D E none GG) args s (0) (0) (fun q => b0 ≤ q)) (F0 m 34 ls [.int s0]) := by
  intro hL hR hS hd
  unfold d_X9_climb_34 at hd
  have hx := C.1
  have hb := C.2.1
  refine x_istore (lv' := [(5, .inl s0), (0, .inr x0), (1, .inl x1), (2, .inl x2), (3, .inl x3), (4, .inl x4)]) C dX9_climb_34 hL (by decide) rfl (fun ls hL => ?_)
  refine x_aload_n C dX9_climb_36 hL 1 rfl ?_
  obtain ⟨g1, hd⟩ := gd_ex hd
  refine r_getr (ci := 9) (k := 33) C fl_X9_87 rfl dX9_climb_37 hR g1 ?_
  refine x_iload C dX9_climb_40 hL 5 rfl ?_
  obtain ⟨g2, hd⟩ := gd_ex hd
  refine r_iald C dX9_climb_42 hR g2 ?_
  refine lv_iconst (v := (-1)) hx hb dX9_climb_43 (by decide) ?_
  refine lv_icmp_eq (tgt := 132) hx hb dX9_climb_44 (by decide) (fun c3 => ?_) (fun c3 => ?_)
  · rw [if_pos c3] at hd
    exact k_X9_climb_132 C (lx_sub hL [1, 2, 3, 4, 5, 0] rfl) hR hS hd
  · rw [if_neg c3] at hd
    refine lv_bipush (v := 16) hx hb dX9_climb_47 (by decide) ?_
    refine x_aload_n C dX9_climb_49 hL 1 rfl ?_
    refine r_getr (ci := 9) (k := 33) C fl_X9_87 rfl dX9_climb_50 hR g1 ?_
    refine x_iload C dX9_climb_53 hL 5 rfl ?_
    obtain ⟨g4, hd⟩ := gd_ex hd
    refine r_iald C dX9_climb_55 hR g4 ?_
    refine lv_imul hx hb dX9_climb_56 ?_
    refine x_aload_n C dX9_climb_57 hL 1 rfl ?_
    refine r_getr (ci := 9) (k := 34) C fl_X9_90 rfl dX9_climb_58 hR g1 ?_
    refine x_iload C dX9_climb_61 hL 5 rfl ?_
    obtain ⟨g5, hd⟩ := gd_ex hd
    refine r_iald C dX9_climb_63 hR g5 ?_
    refine lv_iadd hx hb dX9_climb_64 ?_
    refine x_iload C dX9_climb_65 hL 0 rfl ?_
    refine lv_icmp_eq (tgt := 132) hx hb dX9_climb_67 (by decide) (fun c6 => ?_) (fun c6 => ?_)
    · rw [if_pos c6] at hd
      exact k_X9_climb_132 C (lx_sub hL [1, 2, 3, 4, 5, 0] rfl) hR hS hd
    · rw [if_neg c6] at hd
      refine x_aload_n C dX9_climb_70 hL 1 rfl ?_
      refine x_aload_n C dX9_climb_71 hL 1 rfl ?_
      refine r_getr (ci := 9) (k := 8) C fl_X9_7 rfl dX9_climb_72 hR g1 ?_
      refine lv_iconst (v := 4) hx hb dX9_climb_75 (by decide) ?_
      refine x_iload_n C dX9_climb_76 hL 2 rfl ?_
      refine lv_imul hx hb dX9_climb_77 ?_
      refine x_aload_n C dX9_climb_78 hL 1 rfl ?_
      refine r_getr (ci := 9) (k := 33) C fl_X9_87 rfl dX9_climb_79 hR g1 ?_
      refine x_iload C dX9_climb_82 hL 5 rfl ?_
      obtain ⟨g7, hd⟩ := gd_ex hd
      refine r_iald C dX9_climb_84 hR g7 ?_
      refine lv_iadd hx hb dX9_climb_85 ?_
      obtain ⟨g8, hd⟩ := gd_ex hd
      refine r_iald C dX9_climb_86 hR g8 ?_
      refine lv_bipush (v := 6) hx hb dX9_climb_87 (by decide) ?_
      refine x_iload_n C dX9_climb_89 hL 2 rfl ?_
      refine x_aload_n C dX9_climb_90 hL 1 rfl ?_
      refine r_getr (ci := 9) (k := 34) C fl_X9_90 rfl dX9_climb_91 hR g1 ?_
      refine x_iload C dX9_climb_94 hL 5 rfl ?_
      obtain ⟨g9, hd⟩ := gd_ex hd
      refine r_iald C dX9_climb_96 hR g9 ?_
      refine x_iload_n C dX9_climb_97 hL 3 rfl ?_
      refine x_iload_n C dX9_climb_98 hL 4 rfl ?_
      refine lv_if_ne (tgt := 106) hx hb dX9_climb_99 (by decide) (fun c10 => ?_) (fun c10 => ?_)
      · rw [if_neg c10] at hd
        refine x_iload_n C dX9_climb_106 hL 4 rfl ?_
        refine lv_iconst (v := 1) hx hb dX9_climb_107 (by decide) ?_
        refine lv_isub hx hb dX9_climb_108 ?_
        exact k_X9_climb_109 C (lx_sub hL [1, 2, 3, 4, 5, 0] rfl) hR hS hd
      · rw [if_pos c10] at hd
        refine lv_iconst (v := (-1)) hx hb dX9_climb_102 (by decide) ?_
        refine lv_goto (tgt := 109) hx hb dX9_climb_103 (by decide) ?_
        exact k_X9_climb_109 C (lx_sub hL [1, 2, 3, 4, 5, 0] rfl) hR hS hd
set_option maxHeartbeats 4000000 in
set_option maxRecDepth 100000 in
theorem k_X9_climb (C : Cx p s m args meth c RX9 cX9_climb 8 none b0 D E) {GG : Hp} {x0 : Nat} {x1 : Int32} {x2 : Int32} {x3 : Int32} {G : Hp} {ls : Array Slot} {H : Heap} {locs : List Loc} : lx ls 8 [(0, .inr x0), (1, .inl x1), (2, .inl x2), (3, .inl x3)] → Rp b0 D E G H → SS b0 s H locs → d_X9_climb x0 x1 x2 x3 G = some GG → W p l e (rmd 12 (0) (0)) s m args below meth c H locs (0) (0) (MQ below (CQ b0 D E none GG) args s (0) (0) (fun q => b0 ≤ q)) (F0 m 0 ls []) := by
  intro hL hR hS hd
  unfold d_X9_climb at hd
  have hx := C.1
  have hb := C.2.1
  refine lv_bipush (v := 17) hx hb dX9_climb_0 (by decide) ?_
  refine lv_bipush (v := 8) hx hb dX9_climb_2 (by decide) ?_
  refine x_iload_n C dX9_climb_4 hL 1 rfl ?_
  refine lv_imul hx hb dX9_climb_5 ?_
  refine x_iload_n C dX9_climb_6 hL 2 rfl ?_
  refine lv_iadd hx hb dX9_climb_7 ?_
  refine lv_imul hx hb dX9_climb_8 ?_
  refine x_iload_n C dX9_climb_9 hL 3 rfl ?_
  refine lv_iadd hx hb dX9_climb_10 ?_
  obtain ⟨v1, ev1, hd⟩ := bd_ex hd
  rw [← ev1]
  refine x_istore (lv' := [(4, .inl v1), (0, .inr x0), (1, .inl x1), (2, .inl x2), (3, .inl x3)]) C dX9_climb_11 hL (by decide) rfl (fun ls hL => ?_)
  refine x_aload_n C dX9_climb_13 hL 1 rfl ?_
  refine x_iload_n C dX9_climb_14 hL 2 rfl ?_
  refine x_iload_n C dX9_climb_15 hL 3 rfl ?_
  refine x_iload_n C dX9_climb_16 hL 4 rfl ?_
  obtain ⟨g2, hd⟩ := gd_ex hd
  obtain ⟨v4, G5, h3, hd⟩ := b2_ex hd
  refine r_callV (a := x0) (ci := 9) (As := [.int x1, .int x2, .int x3]) C (ct_X9_wants h3) mf_X9_wants ml_X9_331 mv_X9_wants rfl ⟨Nat.le_of_ble_eq_true rfl, Nat.le_of_ble_eq_true rfl⟩ dX9_climb_17 (lx_size hL) rfl hR hS g2 ⟨Nat.le_refl _, Nat.le_refl _⟩ (cat_le [] (Nat.le_of_ble_eq_true rfl)) (fun H locs hR hS => ?_)
  refine W_st (st2 := [.int v4]) rfl ?_
  refine lv_if_eq (tgt := 33) hx hb dX9_climb_20 (by decide) (fun c6 => ?_) (fun c6 => ?_)
  · rw [if_pos c6] at hd
    refine lv_iconst (v := (-1)) hx hb dX9_climb_33 (by decide) ?_
    exact k_X9_climb_34 C (lx_sub hL [1, 2, 3, 4, 0] rfl) hR hS hd
  · rw [if_neg c6] at hd
    refine x_aload_n C dX9_climb_23 hL 1 rfl ?_
    refine x_iload_n C dX9_climb_24 hL 2 rfl ?_
    refine x_iload_n C dX9_climb_25 hL 3 rfl ?_
    refine x_iload_n C dX9_climb_26 hL 4 rfl ?_
    obtain ⟨g7, hd⟩ := gd_ex hd
    obtain ⟨v9, G10, h8, hd⟩ := b2_ex hd
    refine r_callV (a := x0) (ci := 9) (As := [.int x1, .int x2, .int x3]) C (ct_X9_up h8) mf_X9_up ml_X9_232 mv_X9_up rfl ⟨Nat.le_of_ble_eq_true rfl, Nat.le_of_ble_eq_true rfl⟩ dX9_climb_27 (lx_size hL) rfl hR hS g7 ⟨Nat.le_refl _, Nat.le_refl _⟩ (cat_le [] (Nat.le_of_ble_eq_true rfl)) (fun H locs hR hS => ?_)
    refine W_st (st2 := [.int v9]) rfl ?_
    refine lv_goto (tgt := 34) hx hb dX9_climb_30 (by decide) ?_
    exact k_X9_climb_34 C (lx_sub hL [1, 2, 3, 4, 0] rfl) hR hS hd
end
set_option maxHeartbeats 4000000 in
set_option maxRecDepth 100000 in
theorem ct_X9_climb {l : Launch} {b0 : Nat} {D : va_G} {E : Nat → ClassId} {G : Hp} {a0 : Nat} {a1 : Int32} {a2 : Int32} {a3 : Int32} {GG : Hp} (hd : d_X9_climb a0 a1 a2 a3 G = some GG) : CT l yX9_climb cX9_climb 8 none 12 0 0 b0 D E [rv a0, .int a1, .int a2, .int a3] G none GG := by
  refine CT_of (by decide +kernel) ?_
  intro p e s m below meth c C hnm hR
  refine r_entry [.inr a0, .inl a1, .inl a2, .inl a3] (n := 8) (Nat.le_of_ble_eq_true rfl) (lv := [(0, .inr a0), (1, .inl a1), (2, .inl a2), (3, .inl a3)]) rfl (fun ls hL => ?_)
  exact k_X9_climb C (lx_sub hL [0, 1, 2, 3] rfl) hR ⟨fun _ _ => rfl, fun _ h => by cases h⟩ hd

/-! GroveWorksModel.remind(III)V -/
theorem dX9_remind_0 : decode cX9_remind 0 = .ok (.bipush 16, 2) := by decide +kernel
theorem dX9_remind_2 : decode cX9_remind 2 = .ok (.bipush 8, 2) := by decide +kernel
theorem dX9_remind_4 : decode cX9_remind 4 = .ok (.iload_n 1, 1) := by decide +kernel
theorem dX9_remind_5 : decode cX9_remind 5 = .ok (.imul, 1) := by decide +kernel
theorem dX9_remind_6 : decode cX9_remind 6 = .ok (.iload_n 2, 1) := by decide +kernel
theorem dX9_remind_7 : decode cX9_remind 7 = .ok (.iadd, 1) := by decide +kernel
theorem dX9_remind_8 : decode cX9_remind 8 = .ok (.imul, 1) := by decide +kernel
theorem dX9_remind_9 : decode cX9_remind 9 = .ok (.iload_n 3, 1) := by decide +kernel
theorem dX9_remind_10 : decode cX9_remind 10 = .ok (.iadd, 1) := by decide +kernel
theorem dX9_remind_11 : decode cX9_remind 11 = .ok (.istore 4, 2) := by decide +kernel
theorem dX9_remind_13 : decode cX9_remind 13 = .ok (.aload_n 0, 1) := by decide +kernel
theorem dX9_remind_14 : decode cX9_remind 14 = .ok (.getfield 102, 3) := by decide +kernel
theorem dX9_remind_17 : decode cX9_remind 17 = .ok (.iload 4, 2) := by decide +kernel
theorem dX9_remind_19 : decode cX9_remind 19 = .ok (.iaload, 1) := by decide +kernel
theorem dX9_remind_20 : decode cX9_remind 20 = .ok (.aload_n 0, 1) := by decide +kernel
theorem dX9_remind_21 : decode cX9_remind 21 = .ok (.getfield 122, 3) := by decide +kernel
theorem dX9_remind_24 : decode cX9_remind 24 = .ok (.iconst 5, 1) := by decide +kernel
theorem dX9_remind_25 : decode cX9_remind 25 = .ok (.iadd, 1) := by decide +kernel
theorem dX9_remind_26 : decode cX9_remind 26 = .ok (.if_icmp .ne 32, 3) := by decide +kernel
theorem dX9_remind_29 : decode cX9_remind 29 = .ok (.aload_n 0, 1) := by decide +kernel
theorem dX9_remind_30 : decode cX9_remind 30 = .ok (.iload_n 1, 1) := by decide +kernel
theorem dX9_remind_31 : decode cX9_remind 31 = .ok (.iload_n 2, 1) := by decide +kernel
theorem dX9_remind_32 : decode cX9_remind 32 = .ok (.iload_n 3, 1) := by decide +kernel
theorem dX9_remind_33 : decode cX9_remind 33 = .ok (.invokevirtual 220, 3) := by decide +kernel
theorem dX9_remind_36 : decode cX9_remind 36 = .ok (.ifCond .eq 22, 3) := by decide +kernel
theorem dX9_remind_39 : decode cX9_remind 39 = .ok (.iload_n 1, 1) := by decide +kernel
theorem dX9_remind_40 : decode cX9_remind 40 = .ok (.aload_n 0, 1) := by decide +kernel
theorem dX9_remind_41 : decode cX9_remind 41 = .ok (.getfield 23, 3) := by decide +kernel
theorem dX9_remind_44 : decode cX9_remind 44 = .ok (.iload_n 2, 1) := by decide +kernel
theorem dX9_remind_45 : decode cX9_remind 45 = .ok (.iaload, 1) := by decide +kernel
theorem dX9_remind_46 : decode cX9_remind 46 = .ok (.if_icmp .eq 12, 3) := by decide +kernel
theorem dX9_remind_49 : decode cX9_remind 49 = .ok (.aload_n 0, 1) := by decide +kernel
theorem dX9_remind_50 : decode cX9_remind 50 = .ok (.iload_n 1, 1) := by decide +kernel
theorem dX9_remind_51 : decode cX9_remind 51 = .ok (.iload_n 3, 1) := by decide +kernel
theorem dX9_remind_52 : decode cX9_remind 52 = .ok (.invokevirtual 297, 3) := by decide +kernel
theorem dX9_remind_55 : decode cX9_remind 55 = .ok (.ifCond .ne 4, 3) := by decide +kernel
theorem dX9_remind_58 : decode cX9_remind 58 = .ok (.return_, 1) := by decide +kernel
theorem dX9_remind_59 : decode cX9_remind 59 = .ok (.aload_n 0, 1) := by decide +kernel
theorem dX9_remind_60 : decode cX9_remind 60 = .ok (.iload_n 1, 1) := by decide +kernel
theorem dX9_remind_61 : decode cX9_remind 61 = .ok (.aload_n 0, 1) := by decide +kernel
theorem dX9_remind_62 : decode cX9_remind 62 = .ok (.aload_n 0, 1) := by decide +kernel
theorem dX9_remind_63 : decode cX9_remind 63 = .ok (.iload_n 1, 1) := by decide +kernel
theorem dX9_remind_64 : decode cX9_remind 64 = .ok (.iload_n 3, 1) := by decide +kernel
theorem dX9_remind_65 : decode cX9_remind 65 = .ok (.invokevirtual 160, 3) := by decide +kernel
theorem dX9_remind_68 : decode cX9_remind 68 = .ok (.invokevirtual 293, 3) := by decide +kernel
theorem dX9_remind_71 : decode cX9_remind 71 = .ok (.invokevirtual 185, 3) := by decide +kernel
theorem dX9_remind_74 : decode cX9_remind 74 = .ok (.ifCond .eq 12, 3) := by decide +kernel
theorem dX9_remind_77 : decode cX9_remind 77 = .ok (.aload_n 0, 1) := by decide +kernel
theorem dX9_remind_78 : decode cX9_remind 78 = .ok (.iload_n 1, 1) := by decide +kernel
theorem dX9_remind_79 : decode cX9_remind 79 = .ok (.iload_n 2, 1) := by decide +kernel
theorem dX9_remind_80 : decode cX9_remind 80 = .ok (.iload_n 3, 1) := by decide +kernel
theorem dX9_remind_81 : decode cX9_remind 81 = .ok (.iconst 0, 1) := by decide +kernel
theorem dX9_remind_82 : decode cX9_remind 82 = .ok (.iconst 0, 1) := by decide +kernel
theorem dX9_remind_83 : decode cX9_remind 83 = .ok (.invokevirtual 316, 3) := by decide +kernel
theorem dX9_remind_86 : decode cX9_remind 86 = .ok (.return_, 1) := by decide +kernel
def d_X9_remind (x0 : Nat) (x1 : Int32) (x2 : Int32) (x3 : Int32) (G : Hp) : Option (Hp) :=
  bd ((((16 * ((((8 * x1)) + x2)))) + x3)) fun v1 =>
  gd (hc G x0 = 10) <|
  gd (hc G ((hr G x0 38)) = 11 ∧ ix v1 (hl G ((hr G x0 38)))) <|
  if ((hi G ((hr G x0 38)) v1.toNatClampNeg)) = ((((hi G x0 0)) + 5)) then
    bo (d_X9_isKept x0 x1 x2 x3 G) fun v6 =>
    if v6 = 0 then
      some G
    else
      gd (hc G ((hr G x0 12)) = 11 ∧ ix x2 (hl G ((hr G x0 12)))) <|
      if x1 = ((hi G ((hr G x0 12)) x2.toNatClampNeg)) then
        some G
      else
        b2 (d_X9_isDirect x0 x1 x3 G) fun v11 G12 =>
        if v11 = 0 then
          some G12
        else
          gd (hc G12 x0 = 10) <|
          b2 (d_X9_toSource x0 x1 x3 G12) fun v16 G17 =>
          gd (hc G17 x0 = 10) <|
          bo (d_X9_portTo x0 v16 G17) fun v20 =>
          bo (d_X9_isFirst x0 x1 v20 G17) fun v22 =>
          if v22 = 0 then
            some G17
          else
            bo (d_X9_sendTunnel x0 x1 x2 x3 0 0 G17) fun G25 =>
            some G25
  else
    some G
section
variable {p : Program} {l : Launch} {e : Env} {s : State} {m : MethodId} {args : Array Value} {below : List Frame} {meth : Method} {c : Code} {b0 : Nat} {D : va_G} {E : Nat → ClassId}
set_option maxHeartbeats 4000000 in
set_option maxRecDepth 100000 in
theorem k_X9_remind (C : Cx p s m args meth c RX9 cX9_remind 5 none b0 D E) {GG : Hp} {x0 : Nat} {x1 : Int32} {x2 : Int32} {x3 : Int32} {G : Hp} {ls : Array Slot} {H : Heap} {locs : List Loc} : lx ls 5 [(0, .inr x0), (1, .inl x1), (2, .inl x2), (3, .inl x3)] → Rp b0 D E G H → SS b0 s H locs → d_X9_remind x0 x1 x2 x3 G = some GG → W p l e (rmd 6 (0) (0)) s m args below meth c H locs (0) (0) (MQ below (CQ b0 D E none GG) args s (0) (0) (fun q => b0 ≤ q)) (F0 m 0 ls []) := by
  intro hL hR hS hd
  unfold d_X9_remind at hd
  have hx := C.1
  have hb := C.2.1
  refine lv_bipush (v := 16) hx hb dX9_remind_0 (by decide) ?_
  refine lv_bipush (v := 8) hx hb dX9_remind_2 (by decide) ?_
  refine x_iload_n C dX9_remind_4 hL 1 rfl ?_
  refine lv_imul hx hb dX9_remind_5 ?_
  refine x_iload_n C dX9_remind_6 hL 2 rfl ?_
  refine lv_iadd hx hb dX9_remind_7 ?_
  refine lv_imul hx hb dX9_remind_8 ?_
  refine x_iload_n C dX9_remind_9 hL 3 rfl ?_
  refine lv_iadd hx hb dX9_remind_10 ?_
  obtain ⟨v1, ev1, hd⟩ := bd_ex hd
  rw [← ev1]
  refine x_istore (lv' := [(4, .inl v1), (0, .inr x0), (1, .inl x1), (2, .inl x2), (3, .inl x3)]) C dX9_remind_11 hL (by decide) rfl (fun ls hL => ?_)
  refine x_aload_n C dX9_remind_13 hL 1 rfl ?_
  obtain ⟨g2, hd⟩ := gd_ex hd
  refine r_getr (ci := 9) (k := 38) C fl_X9_102 rfl dX9_remind_14 hR g2 ?_
  refine x_iload C dX9_remind_17 hL 0 rfl ?_
  obtain ⟨g3, hd⟩ := gd_ex hd
  refine r_iald C dX9_remind_19 hR g3 ?_
  refine x_aload_n C dX9_remind_20 hL 1 rfl ?_
  refine r_geti (ci := 9) (k := 0) C fl_X9_122 rfl dX9_remind_21 hR g2 ?_
  refine lv_iconst (v := 5) hx hb dX9_remind_24 (by decide) ?_
  refine lv_iadd hx hb dX9_remind_25 ?_
  refine lv_icmp_ne (tgt := 58) hx hb dX9_remind_26 (by decide) (fun c4 => ?_) (fun c4 => ?_)
  · rw [if_neg c4] at hd
    cases hd
    exact r_vret C dX9_remind_58 hR hS
  · rw [if_pos c4] at hd
    refine x_aload_n C dX9_remind_29 hL 1 rfl ?_
    refine x_iload_n C dX9_remind_30 hL 2 rfl ?_
    refine x_iload_n C dX9_remind_31 hL 3 rfl ?_
    refine x_iload_n C dX9_remind_32 hL 4 rfl ?_
    obtain ⟨v6, h5, hd⟩ := bo_ex hd
    refine r_callV (a := x0) (ci := 9) (As := [.int x1, .int x2, .int x3]) C (ct_X9_isKept h5) mf_X9_isKept ml_X9_220 mv_X9_isKept rfl ⟨Nat.le_of_ble_eq_true rfl, Nat.le_of_ble_eq_true rfl⟩ dX9_remind_33 (lx_size hL) rfl hR hS g2 ⟨Nat.le_refl _, Nat.le_refl _⟩ (cat_le [] (Nat.le_of_ble_eq_true rfl)) (fun H locs hR hS => ?_)
    refine W_st (st2 := [.int v6]) rfl ?_
    refine lv_if_eq (tgt := 58) hx hb dX9_remind_36 (by decide) (fun c7 => ?_) (fun c7 => ?_)
    · rw [if_pos c7] at hd
      cases hd
      exact r_vret C dX9_remind_58 hR hS
    · rw [if_neg c7] at hd
      refine x_iload_n C dX9_remind_39 hL 2 rfl ?_
      refine x_aload_n C dX9_remind_40 hL 1 rfl ?_
      refine r_getr (ci := 9) (k := 12) C fl_X9_23 rfl dX9_remind_41 hR g2 ?_
      refine x_iload_n C dX9_remind_44 hL 3 rfl ?_
      obtain ⟨g8, hd⟩ := gd_ex hd
      refine r_iald C dX9_remind_45 hR g8 ?_
      refine lv_icmp_eq (tgt := 58) hx hb dX9_remind_46 (by decide) (fun c9 => ?_) (fun c9 => ?_)
      · rw [if_pos c9] at hd
        cases hd
        exact r_vret C dX9_remind_58 hR hS
      · rw [if_neg c9] at hd
        refine x_aload_n C dX9_remind_49 hL 1 rfl ?_
        refine x_iload_n C dX9_remind_50 hL 2 rfl ?_
        refine x_iload_n C dX9_remind_51 hL 4 rfl ?_
        obtain ⟨v11, G12, h10, hd⟩ := b2_ex hd
        refine r_callV (a := x0) (ci := 9) (As := [.int x1, .int x3]) C (ct_X9_isDirect h10) mf_X9_isDirect ml_X9_297 mv_X9_isDirect rfl ⟨Nat.le_of_ble_eq_true rfl, Nat.le_of_ble_eq_true rfl⟩ dX9_remind_52 (lx_size hL) rfl hR hS g2 ⟨Nat.le_refl _, Nat.le_refl _⟩ (cat_le [] (Nat.le_of_ble_eq_true rfl)) (fun H locs hR hS => ?_)
        refine W_st (st2 := [.int v11]) rfl ?_
        refine lv_if_ne (tgt := 59) hx hb dX9_remind_55 (by decide) (fun c13 => ?_) (fun c13 => ?_)
        · rw [if_neg c13] at hd
          refine x_aload_n C dX9_remind_59 hL 1 rfl ?_
          refine x_iload_n C dX9_remind_60 hL 2 rfl ?_
          refine x_aload_n C dX9_remind_61 hL 1 rfl ?_
          refine x_aload_n C dX9_remind_62 hL 1 rfl ?_
          refine x_iload_n C dX9_remind_63 hL 2 rfl ?_
          refine x_iload_n C dX9_remind_64 hL 4 rfl ?_
          obtain ⟨g14, hd⟩ := gd_ex hd
          obtain ⟨v16, G17, h15, hd⟩ := b2_ex hd
          refine r_callV (a := x0) (ci := 9) (As := [.int x1, .int x3]) C (ct_X9_toSource h15) mf_X9_toSource ml_X9_160 mv_X9_toSource rfl ⟨Nat.le_of_ble_eq_true rfl, Nat.le_of_ble_eq_true rfl⟩ dX9_remind_65 (lx_size hL) rfl hR hS g14 ⟨Nat.le_refl _, Nat.le_refl _⟩ (cat_le [.inr x0, .inl x1, .inr x0] (Nat.le_of_ble_eq_true rfl)) (fun H locs hR hS => ?_)
          refine W_st (st2 := [.int v16, rv x0, .int x1, rv x0]) rfl ?_
          obtain ⟨g18, hd⟩ := gd_ex hd
          obtain ⟨v20, h19, hd⟩ := bo_ex hd
          refine r_callV (a := x0) (ci := 9) (As := [.int v16]) C (ct_X9_portTo h19) mf_X9_portTo ml_X9_293 mv_X9_portTo rfl ⟨Nat.le_of_ble_eq_true rfl, Nat.le_of_ble_eq_true rfl⟩ dX9_remind_68 (lx_size hL) rfl hR hS g18 ⟨Nat.le_refl _, Nat.le_refl _⟩ (cat_le [.inl x1, .inr x0] (Nat.le_of_ble_eq_true rfl)) (fun H locs hR hS => ?_)
          refine W_st (st2 := [.int v20, .int x1, rv x0]) rfl ?_
          obtain ⟨v22, h21, hd⟩ := bo_ex hd
          refine r_callV (a := x0) (ci := 9) (As := [.int x1, .int v20]) C (ct_X9_isFirst h21) mf_X9_isFirst ml_X9_185 mv_X9_isFirst rfl ⟨Nat.le_of_ble_eq_true rfl, Nat.le_of_ble_eq_true rfl⟩ dX9_remind_71 (lx_size hL) rfl hR hS g18 ⟨Nat.le_refl _, Nat.le_refl _⟩ (cat_le [] (Nat.le_of_ble_eq_true rfl)) (fun H locs hR hS => ?_)
          refine W_st (st2 := [.int v22]) rfl ?_
          refine lv_if_eq (tgt := 86) hx hb dX9_remind_74 (by decide) (fun c23 => ?_) (fun c23 => ?_)
          · rw [if_pos c23] at hd
            cases hd
            exact r_vret C dX9_remind_86 hR hS
          · rw [if_neg c23] at hd
            refine x_aload_n C dX9_remind_77 hL 1 rfl ?_
            refine x_iload_n C dX9_remind_78 hL 2 rfl ?_
            refine x_iload_n C dX9_remind_79 hL 3 rfl ?_
            refine x_iload_n C dX9_remind_80 hL 4 rfl ?_
            refine lv_iconst (v := 0) hx hb dX9_remind_81 (by decide) ?_
            refine lv_iconst (v := 0) hx hb dX9_remind_82 (by decide) ?_
            obtain ⟨G25, h24, hd⟩ := bo_ex hd
            refine r_callV (a := x0) (ci := 9) (As := [.int x1, .int x2, .int x3, .int 0, .int 0]) C (ct_X9_sendTunnel h24) mf_X9_sendTunnel ml_X9_316 mv_X9_sendTunnel rfl ⟨Nat.le_of_ble_eq_true rfl, Nat.le_of_ble_eq_true rfl⟩ dX9_remind_83 (lx_size hL) rfl hR hS g18 ⟨Nat.le_refl _, Nat.le_refl _⟩ (cat_le [] (Nat.le_of_ble_eq_true rfl)) (fun H locs hR hS => ?_)
            refine W_st (st2 := []) rfl ?_
            cases hd
            exact r_vret C dX9_remind_86 hR hS
        · rw [if_pos c13] at hd
          cases hd
          exact r_vret C dX9_remind_58 hR hS
end
set_option maxHeartbeats 4000000 in
set_option maxRecDepth 100000 in
theorem ct_X9_remind {l : Launch} {b0 : Nat} {D : va_G} {E : Nat → ClassId} {G : Hp} {a0 : Nat} {a1 : Int32} {a2 : Int32} {a3 : Int32} {GG : Hp} (hd : d_X9_remind a0 a1 a2 a3 G = some GG) : CT l yX9_remind cX9_remind 5 none 6 0 0 b0 D E [rv a0, .int a1, .int a2, .int a3] G none GG := by
  refine CT_of (by decide +kernel) ?_
  intro p e s m below meth c C hnm hR
  refine r_entry [.inr a0, .inl a1, .inl a2, .inl a3] (n := 5) (Nat.le_of_ble_eq_true rfl) (lv := [(0, .inr a0), (1, .inl a1), (2, .inl a2), (3, .inl a3)]) rfl (fun ls hL => ?_)
  exact k_X9_remind C (lx_sub hL [0, 1, 2, 3] rfl) hR ⟨fun _ _ => rfl, fun _ h => by cases h⟩ hd
