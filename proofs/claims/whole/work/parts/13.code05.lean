/-! GroveWorks$Ways.choosePort([LGroveWorks$Wire;II)V -/
theorem dX6_choosePort_0 : decode cX6_choosePort 0 = .ok (.aload_n 0, 1) := by decide +kernel
theorem dX6_choosePort_1 : decode cX6_choosePort 1 = .ok (.getfield 9, 3) := by decide +kernel
theorem dX6_choosePort_4 : decode cX6_choosePort 4 = .ok (.iload_n 2, 1) := by decide +kernel
theorem dX6_choosePort_5 : decode cX6_choosePort 5 = .ok (.iconst 4, 1) := by decide +kernel
theorem dX6_choosePort_6 : decode cX6_choosePort 6 = .ok (.imul, 1) := by decide +kernel
theorem dX6_choosePort_7 : decode cX6_choosePort 7 = .ok (.iload_n 3, 1) := by decide +kernel
theorem dX6_choosePort_8 : decode cX6_choosePort 8 = .ok (.iadd, 1) := by decide +kernel
theorem dX6_choosePort_9 : decode cX6_choosePort 9 = .ok (.iaload, 1) := by decide +kernel
theorem dX6_choosePort_10 : decode cX6_choosePort 10 = .ok (.istore 4, 2) := by decide +kernel
theorem dX6_choosePort_12 : decode cX6_choosePort 12 = .ok (.iload 4, 2) := by decide +kernel
theorem dX6_choosePort_14 : decode cX6_choosePort 14 = .ok (.iconst (-1), 1) := by decide +kernel
theorem dX6_choosePort_15 : decode cX6_choosePort 15 = .ok (.if_icmp .eq 13, 3) := by decide +kernel
theorem dX6_choosePort_18 : decode cX6_choosePort 18 = .ok (.aload_n 1, 1) := by decide +kernel
theorem dX6_choosePort_19 : decode cX6_choosePort 19 = .ok (.iload 4, 2) := by decide +kernel
theorem dX6_choosePort_21 : decode cX6_choosePort 21 = .ok (.aaload, 1) := by decide +kernel
theorem dX6_choosePort_22 : decode cX6_choosePort 22 = .ok (.getfield 59, 3) := by decide +kernel
theorem dX6_choosePort_25 : decode cX6_choosePort 25 = .ok (.ifCond .ne 4, 3) := by decide +kernel
theorem dX6_choosePort_28 : decode cX6_choosePort 28 = .ok (.return_, 1) := by decide +kernel
theorem dX6_choosePort_29 : decode cX6_choosePort 29 = .ok (.aload_n 0, 1) := by decide +kernel
theorem dX6_choosePort_30 : decode cX6_choosePort 30 = .ok (.getfield 35, 3) := by decide +kernel
theorem dX6_choosePort_33 : decode cX6_choosePort 33 = .ok (.iload_n 2, 1) := by decide +kernel
theorem dX6_choosePort_34 : decode cX6_choosePort 34 = .ok (.bipush 26, 2) := by decide +kernel
theorem dX6_choosePort_36 : decode cX6_choosePort 36 = .ok (.imul, 1) := by decide +kernel
theorem dX6_choosePort_37 : decode cX6_choosePort 37 = .ok (.bipush 10, 2) := by decide +kernel
theorem dX6_choosePort_39 : decode cX6_choosePort 39 = .ok (.iadd, 1) := by decide +kernel
theorem dX6_choosePort_40 : decode cX6_choosePort 40 = .ok (.iload 4, 2) := by decide +kernel
theorem dX6_choosePort_42 : decode cX6_choosePort 42 = .ok (.iadd, 1) := by decide +kernel
theorem dX6_choosePort_43 : decode cX6_choosePort 43 = .ok (.iload_n 3, 1) := by decide +kernel
theorem dX6_choosePort_44 : decode cX6_choosePort 44 = .ok (.iastore, 1) := by decide +kernel
theorem dX6_choosePort_45 : decode cX6_choosePort 45 = .ok (.iconst 0, 1) := by decide +kernel
theorem dX6_choosePort_46 : decode cX6_choosePort 46 = .ok (.istore 5, 2) := by decide +kernel
theorem dX6_choosePort_48 : decode cX6_choosePort 48 = .ok (.iload 5, 2) := by decide +kernel
theorem dX6_choosePort_50 : decode cX6_choosePort 50 = .ok (.aload_n 0, 1) := by decide +kernel
theorem dX6_choosePort_51 : decode cX6_choosePort 51 = .ok (.getfield 22, 3) := by decide +kernel
theorem dX6_choosePort_54 : decode cX6_choosePort 54 = .ok (.if_icmp .ge 123, 3) := by decide +kernel
theorem dX6_choosePort_57 : decode cX6_choosePort 57 = .ok (.iload 5, 2) := by decide +kernel
theorem dX6_choosePort_59 : decode cX6_choosePort 59 = .ok (.iload_n 2, 1) := by decide +kernel
theorem dX6_choosePort_60 : decode cX6_choosePort 60 = .ok (.if_icmp .eq 111, 3) := by decide +kernel
theorem dX6_choosePort_63 : decode cX6_choosePort 63 = .ok (.aload_n 1, 1) := by decide +kernel
theorem dX6_choosePort_64 : decode cX6_choosePort 64 = .ok (.iload 4, 2) := by decide +kernel
theorem dX6_choosePort_66 : decode cX6_choosePort 66 = .ok (.aaload, 1) := by decide +kernel
theorem dX6_choosePort_67 : decode cX6_choosePort 67 = .ok (.getfield 64, 3) := by decide +kernel
theorem dX6_choosePort_70 : decode cX6_choosePort 70 = .ok (.iload 5, 2) := by decide +kernel
theorem dX6_choosePort_72 : decode cX6_choosePort 72 = .ok (.iaload, 1) := by decide +kernel
theorem dX6_choosePort_73 : decode cX6_choosePort 73 = .ok (.iconst (-1), 1) := by decide +kernel
theorem dX6_choosePort_74 : decode cX6_choosePort 74 = .ok (.if_icmp .ne 6, 3) := by decide +kernel
theorem dX6_choosePort_77 : decode cX6_choosePort 77 = .ok (.goto 94, 3) := by decide +kernel
theorem dX6_choosePort_80 : decode cX6_choosePort 80 = .ok (.iconst 0, 1) := by decide +kernel
theorem dX6_choosePort_81 : decode cX6_choosePort 81 = .ok (.istore 6, 2) := by decide +kernel
theorem dX6_choosePort_83 : decode cX6_choosePort 83 = .ok (.iload 6, 2) := by decide +kernel
theorem dX6_choosePort_85 : decode cX6_choosePort 85 = .ok (.bipush 26, 2) := by decide +kernel
theorem dX6_choosePort_87 : decode cX6_choosePort 87 = .ok (.if_icmp .ge 84, 3) := by decide +kernel
theorem dX6_choosePort_90 : decode cX6_choosePort 90 = .ok (.iload_n 2, 1) := by decide +kernel
theorem dX6_choosePort_91 : decode cX6_choosePort 91 = .ok (.bipush 26, 2) := by decide +kernel
theorem dX6_choosePort_93 : decode cX6_choosePort 93 = .ok (.imul, 1) := by decide +kernel
theorem dX6_choosePort_94 : decode cX6_choosePort 94 = .ok (.iload 6, 2) := by decide +kernel
theorem dX6_choosePort_96 : decode cX6_choosePort 96 = .ok (.iadd, 1) := by decide +kernel
theorem dX6_choosePort_97 : decode cX6_choosePort 97 = .ok (.istore 7, 2) := by decide +kernel
theorem dX6_choosePort_99 : decode cX6_choosePort 99 = .ok (.aload_n 0, 1) := by decide +kernel
theorem dX6_choosePort_100 : decode cX6_choosePort 100 = .ok (.getfield 15, 3) := by decide +kernel
theorem dX6_choosePort_103 : decode cX6_choosePort 103 = .ok (.iload_n 2, 1) := by decide +kernel
theorem dX6_choosePort_104 : decode cX6_choosePort 104 = .ok (.iconst 4, 1) := by decide +kernel
theorem dX6_choosePort_105 : decode cX6_choosePort 105 = .ok (.imul, 1) := by decide +kernel
theorem dX6_choosePort_106 : decode cX6_choosePort 106 = .ok (.iload_n 3, 1) := by decide +kernel
theorem dX6_choosePort_107 : decode cX6_choosePort 107 = .ok (.iadd, 1) := by decide +kernel
theorem dX6_choosePort_108 : decode cX6_choosePort 108 = .ok (.iaload, 1) := by decide +kernel
theorem dX6_choosePort_109 : decode cX6_choosePort 109 = .ok (.aload_n 0, 1) := by decide +kernel
theorem dX6_choosePort_110 : decode cX6_choosePort 110 = .ok (.getfield 32, 3) := by decide +kernel
theorem dX6_choosePort_113 : decode cX6_choosePort 113 = .ok (.iload 5, 2) := by decide +kernel
theorem dX6_choosePort_115 : decode cX6_choosePort 115 = .ok (.bipush 26, 2) := by decide +kernel
theorem dX6_choosePort_117 : decode cX6_choosePort 117 = .ok (.imul, 1) := by decide +kernel
theorem dX6_choosePort_118 : decode cX6_choosePort 118 = .ok (.iload 6, 2) := by decide +kernel
theorem dX6_choosePort_120 : decode cX6_choosePort 120 = .ok (.iadd, 1) := by decide +kernel
theorem dX6_choosePort_121 : decode cX6_choosePort 121 = .ok (.iaload, 1) := by decide +kernel
theorem dX6_choosePort_122 : decode cX6_choosePort 122 = .ok (.iadd, 1) := by decide +kernel
theorem dX6_choosePort_123 : decode cX6_choosePort 123 = .ok (.istore 8, 2) := by decide +kernel
theorem dX6_choosePort_125 : decode cX6_choosePort 125 = .ok (.aload_n 0, 1) := by decide +kernel
theorem dX6_choosePort_126 : decode cX6_choosePort 126 = .ok (.getfield 35, 3) := by decide +kernel
theorem dX6_choosePort_129 : decode cX6_choosePort 129 = .ok (.iload 7, 2) := by decide +kernel
theorem dX6_choosePort_131 : decode cX6_choosePort 131 = .ok (.iaload, 1) := by decide +kernel
theorem dX6_choosePort_132 : decode cX6_choosePort 132 = .ok (.iconst (-1), 1) := by decide +kernel
theorem dX6_choosePort_133 : decode cX6_choosePort 133 = .ok (.if_icmp .ne 32, 3) := by decide +kernel
theorem dX6_choosePort_136 : decode cX6_choosePort 136 = .ok (.iload 8, 2) := by decide +kernel
theorem dX6_choosePort_138 : decode cX6_choosePort 138 = .ok (.aload_n 0, 1) := by decide +kernel
theorem dX6_choosePort_139 : decode cX6_choosePort 139 = .ok (.getfield 32, 3) := by decide +kernel
theorem dX6_choosePort_142 : decode cX6_choosePort 142 = .ok (.iload 7, 2) := by decide +kernel
theorem dX6_choosePort_144 : decode cX6_choosePort 144 = .ok (.iaload, 1) := by decide +kernel
theorem dX6_choosePort_145 : decode cX6_choosePort 145 = .ok (.if_icmp .ne 20, 3) := by decide +kernel
theorem dX6_choosePort_148 : decode cX6_choosePort 148 = .ok (.aload_n 0, 1) := by decide +kernel
theorem dX6_choosePort_149 : decode cX6_choosePort 149 = .ok (.getfield 35, 3) := by decide +kernel
theorem dX6_choosePort_152 : decode cX6_choosePort 152 = .ok (.iload 7, 2) := by decide +kernel
theorem dX6_choosePort_154 : decode cX6_choosePort 154 = .ok (.iload_n 3, 1) := by decide +kernel
theorem dX6_choosePort_155 : decode cX6_choosePort 155 = .ok (.iastore, 1) := by decide +kernel
theorem dX6_choosePort_156 : decode cX6_choosePort 156 = .ok (.aload_n 0, 1) := by decide +kernel
theorem dX6_choosePort_157 : decode cX6_choosePort 157 = .ok (.getfield 38, 3) := by decide +kernel
theorem dX6_choosePort_160 : decode cX6_choosePort 160 = .ok (.iload 7, 2) := by decide +kernel
theorem dX6_choosePort_162 : decode cX6_choosePort 162 = .ok (.iload 5, 2) := by decide +kernel
theorem dX6_choosePort_164 : decode cX6_choosePort 164 = .ok (.iastore, 1) := by decide +kernel
theorem dX6_choosePort_165 : decode cX6_choosePort 165 = .ok (.iinc 6 1, 3) := by decide +kernel
theorem dX6_choosePort_168 : decode cX6_choosePort 168 = .ok (.goto (-85), 3) := by decide +kernel
theorem dX6_choosePort_171 : decode cX6_choosePort 171 = .ok (.iinc 5 1, 3) := by decide +kernel
theorem dX6_choosePort_174 : decode cX6_choosePort 174 = .ok (.goto (-126), 3) := by decide +kernel
theorem dX6_choosePort_177 : decode cX6_choosePort 177 = .ok (.return_, 1) := by decide +kernel
def d_X6_choosePort_83 : Nat → Nat → Nat → Int32 → Int32 → Int32 → Int32 → Int32 → Hp → (Nat → Nat → Int32 → Int32 → Int32 → Int32 → Hp → Option (Hp)) → Option (Hp)
  | 0, _, _, _, _, _, _, _, _, _ => none
  | n_ + 1, x0, x1, x2, x3, x4, x5, x6, G, k48 =>
    if 26 ≤ x6 then
      k48 x0 x1 x2 x3 x4 ((x5 + 1)) G
    else
      gd (hc G x0 = 7) <|
      gd (hc G ((hr G x0 2)) = 11 ∧ ix ((((x2 * 4)) + x3)) (hl G ((hr G x0 2)))) <|
      gd (hc G ((hr G x0 3)) = 11 ∧ ix ((((x5 * 26)) + x6)) (hl G ((hr G x0 3)))) <|
      bd ((((hi G ((hr G x0 2)) ((((x2 * 4)) + x3)).toNatClampNeg)) + ((hi G ((hr G x0 3)) ((((x5 * 26)) + x6)).toNatClampNeg)))) fun v5 =>
      gd (hc G ((hr G x0 4)) = 11 ∧ ix ((((x2 * 26)) + x6)) (hl G ((hr G x0 4)))) <|
      if ((hi G ((hr G x0 4)) ((((x2 * 26)) + x6)).toNatClampNeg)) = (-1) then
        gd (hc G ((hr G x0 3)) = 11 ∧ ix ((((x2 * 26)) + x6)) (hl G ((hr G x0 3)))) <|
        if v5 = ((hi G ((hr G x0 3)) ((((x2 * 26)) + x6)).toNatClampNeg)) then
          gd (hc G ((hr G x0 4)) = 11 ∧ ix ((((x2 * 26)) + x6)) (hl G ((hr G x0 4)))) <|
          bd (sI G ((hr G x0 4)) ((((x2 * 26)) + x6)).toNatClampNeg x3) fun G11 =>
          gd (hc G11 x0 = 7) <|
          gd (hc G11 ((hr G11 x0 5)) = 11 ∧ ix ((((x2 * 26)) + x6)) (hl G11 ((hr G11 x0 5)))) <|
          bd (sI G11 ((hr G11 x0 5)) ((((x2 * 26)) + x6)).toNatClampNeg x5) fun G14 =>
          d_X6_choosePort_83 n_ x0 x1 x2 x3 x4 x5 ((x6 + 1)) G14 k48
        else
          d_X6_choosePort_83 n_ x0 x1 x2 x3 x4 x5 ((x6 + 1)) G k48
      else
        d_X6_choosePort_83 n_ x0 x1 x2 x3 x4 x5 ((x6 + 1)) G k48
def d_X6_choosePort_48 : Nat → Nat → Nat → Int32 → Int32 → Int32 → Int32 → Hp → Option (Hp)
  | 0, _, _, _, _, _, _, _ => none
  | n_ + 1, x0, x1, x2, x3, x4, x5, G =>
    gd (hc G x0 = 7) <|
    if ((hi G x0 0)) ≤ x5 then
      some G
    else
      if x5 = x2 then
        d_X6_choosePort_48 n_ x0 x1 x2 x3 x4 ((x5 + 1)) G
      else
        gd (hc G x1 = 20 ∧ ix x4 (hl G x1)) <|
        gd (hc G ((hr G x1 x4.toNatClampNeg)) = 8) <|
        gd (hc G ((hr G ((hr G x1 x4.toNatClampNeg)) 1)) = 11 ∧ ix x5 (hl G ((hr G ((hr G x1 x4.toNatClampNeg)) 1)))) <|
        if ((hi G ((hr G ((hr G x1 x4.toNatClampNeg)) 1)) x5.toNatClampNeg)) = (-1) then
          d_X6_choosePort_48 n_ x0 x1 x2 x3 x4 ((x5 + 1)) G
        else
          d_X6_choosePort_83 FU x0 x1 x2 x3 x4 x5 0 G (fun y0 y1 y2 y3 y4 y5 Gy => d_X6_choosePort_48 n_ y0 y1 y2 y3 y4 y5 Gy)
def d_X6_choosePort (x0 : Nat) (x1 : Nat) (x2 : Int32) (x3 : Int32) (G : Hp) : Option (Hp) :=
  gd (hc G x0 = 7) <|
  gd (hc G ((hr G x0 1)) = 11 ∧ ix ((((x2 * 4)) + x3)) (hl G ((hr G x0 1)))) <|
  bd ((hi G ((hr G x0 1)) ((((x2 * 4)) + x3)).toNatClampNeg)) fun v3 =>
  if v3 = (-1) then
    some G
  else
    gd (hc G x1 = 20 ∧ ix v3 (hl G x1)) <|
    gd (hc G ((hr G x1 v3.toNatClampNeg)) = 8) <|
    if ((hi G ((hr G x1 v3.toNatClampNeg)) 2)) = 0 then
      some G
    else
      gd (hc G ((hr G x0 4)) = 11 ∧ ix ((((((x2 * 26)) + 10)) + v3)) (hl G ((hr G x0 4)))) <|
      bd (sI G ((hr G x0 4)) ((((((x2 * 26)) + 10)) + v3)).toNatClampNeg x3) fun G9 =>
      d_X6_choosePort_48 FU x0 x1 x2 x3 v3 0 G9
section
variable {p : Program} {l : Launch} {e : Env} {s : State} {m : MethodId} {args : Array Value} {below : List Frame} {meth : Method} {c : Code} {b0 : Nat} {D : va_G} {E : Nat → ClassId}
set_option maxHeartbeats 4000000 in
set_option maxRecDepth 100000 in
theorem k_X6_choosePort_83 (C : Cx p s m args meth c RX6 cX6_choosePort 9 none b0 D E) {GG : Hp} {k48 : Nat → Nat → Int32 → Int32 → Int32 → Int32 → Hp → Option (Hp)} (hk48 : ∀ (y0 : Nat) (y1 : Nat) (y2 : Int32) (y3 : Int32) (y4 : Int32) (y5 : Int32) (Gy : Hp) (H1 : Heap) (locs1 : List Loc) (ls1 : Array Slot), lx ls1 9 [(0, .inr y0), (1, .inr y1), (2, .inl y2), (3, .inl y3), (4, .inl y4), (5, .inl y5)] → Rp b0 D E Gy H1 → SS b0 s H1 locs1 → k48 y0 y1 y2 y3 y4 y5 Gy = some GG → W p l e (rmd 0 (0) (0)) s m args below meth c H1 locs1 (0) (0) (MQ below (CQ b0 D E none GG) args s (0) (0) (fun q => b0 ≤ q)) (F0 m 48 ls1 [])) : ∀ (n_ : Nat) {x0 : Nat} {x1 : Nat} {x2 : Int32} {x3 : Int32} {x4 : Int32} {x5 : Int32} {x6 : Int32} {G : Hp} {ls : Array Slot} {H : Heap} {locs : List Loc}, lx ls 9 [(0, .inr x0), (1, .inr x1), (2, .inl x2), (3, .inl x3), (4, .inl x4), (5, .inl x5), (6, .inl x6)] → Rp b0 D E G H → SS b0 s H locs → d_X6_choosePort_83 n_ x0 x1 x2 x3 x4 x5 x6 G k48 = some GG → W p l e (rmd 0 (0) (0)) s m args below meth c H locs (0) (0) (MQ below (CQ b0 D E none GG) args s (0) (0) (fun q => b0 ≤ q)) (F0 m 83 ls []) := by
  intro n_
  induction n_ with
  | zero =>
    intro x0 x1 x2 x3 x4 x5 x6 G ls H locs hL hR hS hd
    cases (show (none : Option _) = some _ from hd)
  | succ n_ ih =>
    intro x0 x1 x2 x3 x4 x5 x6 G ls H locs hL hR hS hd
    rw [d_X6_choosePort_83.eq_2] at hd
    have hx := C.1
    have hb := C.2.1
    refine x_iload C dX6_choosePort_83 hL 6 rfl ?_
    refine lv_bipush (v := 26) hx hb dX6_choosePort_85 (by decide) ?_
    refine lv_icmp_ge (tgt := 171) hx hb dX6_choosePort_87 (by decide) (fun c1 => ?_) (fun c1 => ?_)
    · rw [if_pos c1] at hd
      refine x_iinc (lv' := [(5, .inl ((x5 + 1))), (0, .inr x0), (1, .inr x1), (2, .inl x2), (3, .inl x3), (4, .inl x4), (6, .inl x6)]) C dX6_choosePort_171 hL 5 rfl rfl (by decide) rfl (fun ls hL => ?_)
      refine lv_goto (tgt := 48) hx hb dX6_choosePort_174 (by decide) ?_
      exact hk48 _ _ _ _ _ _ _ _ _ _ (lx_sub hL [1, 2, 3, 4, 5, 0] rfl) hR hS hd
    · rw [if_neg c1] at hd
      refine x_iload_n C dX6_choosePort_90 hL 2 rfl ?_
      refine lv_bipush (v := 26) hx hb dX6_choosePort_91 (by decide) ?_
      refine lv_imul hx hb dX6_choosePort_93 ?_
      refine x_iload C dX6_choosePort_94 hL 6 rfl ?_
      refine lv_iadd hx hb dX6_choosePort_96 ?_
      refine x_istore (lv' := [(7, .inl ((((x2 * 26)) + x6))), (0, .inr x0), (1, .inr x1), (2, .inl x2), (3, .inl x3), (4, .inl x4), (5, .inl x5), (6, .inl x6)]) C dX6_choosePort_97 hL (by decide) rfl (fun ls hL => ?_)
      refine x_aload_n C dX6_choosePort_99 hL 1 rfl ?_
      obtain ⟨g2, hd⟩ := gd_ex hd
      refine r_getr (ci := 6) (k := 2) C fl_X6_15 rfl dX6_choosePort_100 hR g2 ?_
      refine x_iload_n C dX6_choosePort_103 hL 3 rfl ?_
      refine lv_iconst (v := 4) hx hb dX6_choosePort_104 (by decide) ?_
      refine lv_imul hx hb dX6_choosePort_105 ?_
      refine x_iload_n C dX6_choosePort_106 hL 4 rfl ?_
      refine lv_iadd hx hb dX6_choosePort_107 ?_
      obtain ⟨g3, hd⟩ := gd_ex hd
      refine r_iald C dX6_choosePort_108 hR g3 ?_
      refine x_aload_n C dX6_choosePort_109 hL 1 rfl ?_
      refine r_getr (ci := 6) (k := 3) C fl_X6_32 rfl dX6_choosePort_110 hR g2 ?_
      refine x_iload C dX6_choosePort_113 hL 6 rfl ?_
      refine lv_bipush (v := 26) hx hb dX6_choosePort_115 (by decide) ?_
      refine lv_imul hx hb dX6_choosePort_117 ?_
      refine x_iload C dX6_choosePort_118 hL 7 rfl ?_
      refine lv_iadd hx hb dX6_choosePort_120 ?_
      obtain ⟨g4, hd⟩ := gd_ex hd
      refine r_iald C dX6_choosePort_121 hR g4 ?_
      refine lv_iadd hx hb dX6_choosePort_122 ?_
      obtain ⟨v5, ev5, hd⟩ := bd_ex hd
      rw [← ev5]
      refine x_istore (lv' := [(8, .inl v5), (7, .inl ((((x2 * 26)) + x6))), (0, .inr x0), (1, .inr x1), (2, .inl x2), (3, .inl x3), (4, .inl x4), (5, .inl x5), (6, .inl x6)]) C dX6_choosePort_123 hL (by decide) rfl (fun ls hL => ?_)
      refine x_aload_n C dX6_choosePort_125 hL 2 rfl ?_
      refine r_getr (ci := 6) (k := 4) C fl_X6_35 rfl dX6_choosePort_126 hR g2 ?_
      refine x_iload C dX6_choosePort_129 hL 1 rfl ?_
      obtain ⟨g6, hd⟩ := gd_ex hd
      refine r_iald C dX6_choosePort_131 hR g6 ?_
      refine lv_iconst (v := (-1)) hx hb dX6_choosePort_132 (by decide) ?_
      refine lv_icmp_ne (tgt := 165) hx hb dX6_choosePort_133 (by decide) (fun c7 => ?_) (fun c7 => ?_)
      · rw [if_neg c7] at hd
        refine x_iinc (lv' := [(6, .inl ((x6 + 1))), (8, .inl v5), (7, .inl ((((x2 * 26)) + x6))), (0, .inr x0), (1, .inr x1), (2, .inl x2), (3, .inl x3), (4, .inl x4), (5, .inl x5)]) C dX6_choosePort_165 hL 8 rfl rfl (by decide) rfl (fun ls hL => ?_)
        refine lv_goto (tgt := 83) hx hb dX6_choosePort_168 (by decide) ?_
        exact ih (lx_sub hL [3, 4, 5, 6, 7, 8, 0] rfl) hR hS hd
      · rw [if_pos c7] at hd
        refine x_iload C dX6_choosePort_136 hL 0 rfl ?_
        refine x_aload_n C dX6_choosePort_138 hL 2 rfl ?_
        refine r_getr (ci := 6) (k := 3) C fl_X6_32 rfl dX6_choosePort_139 hR g2 ?_
        refine x_iload C dX6_choosePort_142 hL 1 rfl ?_
        obtain ⟨g8, hd⟩ := gd_ex hd
        refine r_iald C dX6_choosePort_144 hR g8 ?_
        refine lv_icmp_ne (tgt := 165) hx hb dX6_choosePort_145 (by decide) (fun c9 => ?_) (fun c9 => ?_)
        · rw [if_neg c9] at hd
          refine x_iinc (lv' := [(6, .inl ((x6 + 1))), (8, .inl v5), (7, .inl ((((x2 * 26)) + x6))), (0, .inr x0), (1, .inr x1), (2, .inl x2), (3, .inl x3), (4, .inl x4), (5, .inl x5)]) C dX6_choosePort_165 hL 8 rfl rfl (by decide) rfl (fun ls hL => ?_)
          refine lv_goto (tgt := 83) hx hb dX6_choosePort_168 (by decide) ?_
          exact ih (lx_sub hL [3, 4, 5, 6, 7, 8, 0] rfl) hR hS hd
        · rw [if_pos c9] at hd
          refine x_aload_n C dX6_choosePort_148 hL 2 rfl ?_
          refine r_getr (ci := 6) (k := 4) C fl_X6_35 rfl dX6_choosePort_149 hR g2 ?_
          refine x_iload C dX6_choosePort_152 hL 1 rfl ?_
          refine x_iload_n C dX6_choosePort_154 hL 5 rfl ?_
          obtain ⟨g10, hd⟩ := gd_ex hd
          obtain ⟨G11, eG11, hd⟩ := bd_ex hd
          refine r_iast C dX6_choosePort_155 hR hS g10 (fun H locs hR hS => ?_)
          replace hR : Rp b0 D E G11 H := by rw [eG11]; exact hR
          refine x_aload_n C dX6_choosePort_156 hL 2 rfl ?_
          obtain ⟨g12, hd⟩ := gd_ex hd
          refine r_getr (ci := 6) (k := 5) C fl_X6_38 rfl dX6_choosePort_157 hR g12 ?_
          refine x_iload C dX6_choosePort_160 hL 1 rfl ?_
          refine x_iload C dX6_choosePort_162 hL 7 rfl ?_
          obtain ⟨g13, hd⟩ := gd_ex hd
          obtain ⟨G14, eG14, hd⟩ := bd_ex hd
          refine r_iast C dX6_choosePort_164 hR hS g13 (fun H locs hR hS => ?_)
          replace hR : Rp b0 D E G14 H := by rw [eG14]; exact hR
          refine x_iinc (lv' := [(6, .inl ((x6 + 1))), (8, .inl v5), (7, .inl ((((x2 * 26)) + x6))), (0, .inr x0), (1, .inr x1), (2, .inl x2), (3, .inl x3), (4, .inl x4), (5, .inl x5)]) C dX6_choosePort_165 hL 8 rfl rfl (by decide) rfl (fun ls hL => ?_)
          refine lv_goto (tgt := 83) hx hb dX6_choosePort_168 (by decide) ?_
          exact ih (lx_sub hL [3, 4, 5, 6, 7, 8, 0] rfl) hR hS hd
set_option maxHeartbeats 4000000 in
set_option maxRecDepth 100000 in
theorem k_X6_choosePort_48 (C : Cx p s m args meth c RX6 cX6_choosePort 9 none b0 D E) {GG : Hp} : ∀ (n_ : Nat) {x0 : Nat} {x1 : Nat} {x2 : Int32} {x3 : Int32} {x4 : Int32} {x5 : Int32} {G : Hp} {ls : Array Slot} {H : Heap} {locs : List Loc}, lx ls 9 [(0, .inr x0), (1, .inr x1), (2, .inl x2), (3, .inl x3), (4, .inl x4), (5, .inl x5)] → Rp b0 D E G H → SS b0 s H locs → d_X6_choosePort_48 n_ x0 x1 x2 x3 x4 x5 G = some GG → W p l e (rmd 0 (0) (0)) s m args below meth c H locs (0) (0) (MQ below (CQ b0 D E none GG) args s (0) (0) (fun q => b0 ≤ q)) (F0 m 48 ls []) := by
  intro n_
  induction n_ with
  | zero =>
    intro x0 x1 x2 x3 x4 x5 G ls H locs hL hR hS hd
    cases (show (none : Option _) = some _ from hd)
  | succ n_ ih =>
    intro x0 x1 x2 x3 x4 x5 G ls H locs hL hR hS hd
    rw [d_X6_choosePort_48.eq_2] at hd
    have hx := C.1
    have hb := C.2.1
    refine x_iload C dX6_choosePort_48 hL 5 rfl ?_
    refine x_aload_n C dX6_choosePort_50 hL 0 rfl ?_
    obtain ⟨g1, hd⟩ := gd_ex hd
    refine r_geti (ci := 6) (k := 0) C fl_X6_22 rfl dX6_choosePort_51 hR g1 ?_
    refine lv_icmp_ge (tgt := 177) hx hb dX6_choosePort_54 (by decide) (fun c2 => ?_) (fun c2 => ?_)
    · rw [if_pos c2] at hd
      cases hd
      exact r_vret C dX6_choosePort_177 hR hS
    · rw [if_neg c2] at hd
      refine x_iload C dX6_choosePort_57 hL 5 rfl ?_
      refine x_iload_n C dX6_choosePort_59 hL 2 rfl ?_
      refine lv_icmp_eq (tgt := 171) hx hb dX6_choosePort_60 (by decide) (fun c3 => ?_) (fun c3 => ?_)
      · rw [if_pos c3] at hd
        refine x_iinc (lv' := [(5, .inl ((x5 + 1))), (0, .inr x0), (1, .inr x1), (2, .inl x2), (3, .inl x3), (4, .inl x4)]) C dX6_choosePort_171 hL 5 rfl rfl (by decide) rfl (fun ls hL => ?_)
        refine lv_goto (tgt := 48) hx hb dX6_choosePort_174 (by decide) ?_
        exact ih (lx_sub hL [1, 2, 3, 4, 5, 0] rfl) hR hS hd
      · rw [if_neg c3] at hd
        refine x_aload_n C dX6_choosePort_63 hL 1 rfl ?_
        refine x_iload C dX6_choosePort_64 hL 4 rfl ?_
        obtain ⟨g4, hd⟩ := gd_ex hd
        refine r_aald (ci := 7) C (by decide) dX6_choosePort_66 hR g4 ?_
        obtain ⟨g5, hd⟩ := gd_ex hd
        refine r_getr (ci := 7) (k := 1) C fl_X6_64 rfl dX6_choosePort_67 hR g5 ?_
        refine x_iload C dX6_choosePort_70 hL 5 rfl ?_
        obtain ⟨g6, hd⟩ := gd_ex hd
        refine r_iald C dX6_choosePort_72 hR g6 ?_
        refine lv_iconst (v := (-1)) hx hb dX6_choosePort_73 (by decide) ?_
        refine lv_icmp_ne (tgt := 80) hx hb dX6_choosePort_74 (by decide) (fun c7 => ?_) (fun c7 => ?_)
        · rw [if_neg c7] at hd
          refine lv_iconst (v := 0) hx hb dX6_choosePort_80 (by decide) ?_
          refine x_istore (lv' := [(6, .inl 0), (0, .inr x0), (1, .inr x1), (2, .inl x2), (3, .inl x3), (4, .inl x4), (5, .inl x5)]) C dX6_choosePort_81 hL (by decide) rfl (fun ls hL => ?_)
          exact k_X6_choosePort_83 C (fun y0 y1 y2 y3 y4 y5 Gy H1 locs1 ls1 hL1 hR1 hS1 hd1 => ih hL1 hR1 hS1 hd1) FU (lx_sub hL [1, 2, 3, 4, 5, 6, 0] rfl) hR hS hd
        · rw [if_pos c7] at hd
          refine lv_goto (tgt := 171) hx hb dX6_choosePort_77 (by decide) ?_
          refine x_iinc (lv' := [(5, .inl ((x5 + 1))), (0, .inr x0), (1, .inr x1), (2, .inl x2), (3, .inl x3), (4, .inl x4)]) C dX6_choosePort_171 hL 5 rfl rfl (by decide) rfl (fun ls hL => ?_)
          refine lv_goto (tgt := 48) hx hb dX6_choosePort_174 (by decide) ?_
          exact ih (lx_sub hL [1, 2, 3, 4, 5, 0] rfl) hR hS hd
set_option maxHeartbeats 4000000 in
set_option maxRecDepth 100000 in
theorem k_X6_choosePort (C : Cx p s m args meth c RX6 cX6_choosePort 9 none b0 D E) {GG : Hp} {x0 : Nat} {x1 : Nat} {x2 : Int32} {x3 : Int32} {G : Hp} {ls : Array Slot} {H : Heap} {locs : List Loc} : lx ls 9 [(0, .inr x0), (1, .inr x1), (2, .inl x2), (3, .inl x3)] → Rp b0 D E G H → SS b0 s H locs → d_X6_choosePort x0 x1 x2 x3 G = some GG → W p l e (rmd 0 (0) (0)) s m args below meth c H locs (0) (0) (MQ below (CQ b0 D E none GG) args s (0) (0) (fun q => b0 ≤ q)) (F0 m 0 ls []) := by
  intro hL hR hS hd
  unfold d_X6_choosePort at hd
  have hx := C.1
  have hb := C.2.1
  refine x_aload_n C dX6_choosePort_0 hL 0 rfl ?_
  obtain ⟨g1, hd⟩ := gd_ex hd
  refine r_getr (ci := 6) (k := 1) C fl_X6_9 rfl dX6_choosePort_1 hR g1 ?_
  refine x_iload_n C dX6_choosePort_4 hL 2 rfl ?_
  refine lv_iconst (v := 4) hx hb dX6_choosePort_5 (by decide) ?_
  refine lv_imul hx hb dX6_choosePort_6 ?_
  refine x_iload_n C dX6_choosePort_7 hL 3 rfl ?_
  refine lv_iadd hx hb dX6_choosePort_8 ?_
  obtain ⟨g2, hd⟩ := gd_ex hd
  refine r_iald C dX6_choosePort_9 hR g2 ?_
  obtain ⟨v3, ev3, hd⟩ := bd_ex hd
  rw [← ev3]
  refine x_istore (lv' := [(4, .inl v3), (0, .inr x0), (1, .inr x1), (2, .inl x2), (3, .inl x3)]) C dX6_choosePort_10 hL (by decide) rfl (fun ls hL => ?_)
  refine x_iload C dX6_choosePort_12 hL 0 rfl ?_
  refine lv_iconst (v := (-1)) hx hb dX6_choosePort_14 (by decide) ?_
  refine lv_icmp_eq (tgt := 28) hx hb dX6_choosePort_15 (by decide) (fun c4 => ?_) (fun c4 => ?_)
  · rw [if_pos c4] at hd
    cases hd
    exact r_vret C dX6_choosePort_28 hR hS
  · rw [if_neg c4] at hd
    refine x_aload_n C dX6_choosePort_18 hL 2 rfl ?_
    refine x_iload C dX6_choosePort_19 hL 0 rfl ?_
    obtain ⟨g5, hd⟩ := gd_ex hd
    refine r_aald (ci := 7) C (by decide) dX6_choosePort_21 hR g5 ?_
    obtain ⟨g6, hd⟩ := gd_ex hd
    refine r_geti (ci := 7) (k := 2) C fl_X6_59 rfl dX6_choosePort_22 hR g6 ?_
    refine lv_if_ne (tgt := 29) hx hb dX6_choosePort_25 (by decide) (fun c7 => ?_) (fun c7 => ?_)
    · rw [if_neg c7] at hd
      refine x_aload_n C dX6_choosePort_29 hL 1 rfl ?_
      refine r_getr (ci := 6) (k := 4) C fl_X6_35 rfl dX6_choosePort_30 hR g1 ?_
      refine x_iload_n C dX6_choosePort_33 hL 3 rfl ?_
      refine lv_bipush (v := 26) hx hb dX6_choosePort_34 (by decide) ?_
      refine lv_imul hx hb dX6_choosePort_36 ?_
      refine lv_bipush (v := 10) hx hb dX6_choosePort_37 (by decide) ?_
      refine lv_iadd hx hb dX6_choosePort_39 ?_
      refine x_iload C dX6_choosePort_40 hL 0 rfl ?_
      refine lv_iadd hx hb dX6_choosePort_42 ?_
      refine x_iload_n C dX6_choosePort_43 hL 4 rfl ?_
      obtain ⟨g8, hd⟩ := gd_ex hd
      obtain ⟨G9, eG9, hd⟩ := bd_ex hd
      refine r_iast C dX6_choosePort_44 hR hS g8 (fun H locs hR hS => ?_)
      replace hR : Rp b0 D E G9 H := by rw [eG9]; exact hR
      refine lv_iconst (v := 0) hx hb dX6_choosePort_45 (by decide) ?_
      refine x_istore (lv' := [(5, .inl 0), (4, .inl v3), (0, .inr x0), (1, .inr x1), (2, .inl x2), (3, .inl x3)]) C dX6_choosePort_46 hL (by decide) rfl (fun ls hL => ?_)
      exact k_X6_choosePort_48 C FU (lx_sub hL [2, 3, 4, 5, 1, 0] rfl) hR hS hd
    · rw [if_pos c7] at hd
      cases hd
      exact r_vret C dX6_choosePort_28 hR hS
end
set_option maxHeartbeats 4000000 in
set_option maxRecDepth 100000 in
theorem ct_X6_choosePort {l : Launch} {b0 : Nat} {D : va_G} {E : Nat → ClassId} {G : Hp} {a0 : Nat} {a1 : Nat} {a2 : Int32} {a3 : Int32} {GG : Hp} (hd : d_X6_choosePort a0 a1 a2 a3 G = some GG) : CT l yX6_choosePort cX6_choosePort 9 none 0 0 0 b0 D E [rv a0, rv a1, .int a2, .int a3] G none GG := by
  refine CT_of (by decide +kernel) ?_
  intro p e s m below meth c C hnm hR
  refine r_entry [.inr a0, .inr a1, .inl a2, .inl a3] (n := 9) (Nat.le_of_ble_eq_true rfl) (lv := [(0, .inr a0), (1, .inr a1), (2, .inl a2), (3, .inl a3)]) rfl (fun ls hL => ?_)
  exact k_X6_choosePort C (lx_sub hL [0, 1, 2, 3] rfl) hR ⟨fun _ _ => rfl, fun _ h => by cases h⟩ hd

/-! GroveWorks$Ways.refresh([LGroveWorks$Wire;)V -/
theorem dX6_refresh_0 : decode cX6_refresh 0 = .ok (.aload_n 0, 1) := by decide +kernel
theorem dX6_refresh_1 : decode cX6_refresh 1 = .ok (.getfield 18, 3) := by decide +kernel
theorem dX6_refresh_4 : decode cX6_refresh 4 = .ok (.ifCond .ne 4, 3) := by decide +kernel
theorem dX6_refresh_7 : decode cX6_refresh 7 = .ok (.return_, 1) := by decide +kernel
theorem dX6_refresh_8 : decode cX6_refresh 8 = .ok (.aload_n 0, 1) := by decide +kernel
theorem dX6_refresh_9 : decode cX6_refresh 9 = .ok (.iconst 0, 1) := by decide +kernel
theorem dX6_refresh_10 : decode cX6_refresh 10 = .ok (.putfield 18, 3) := by decide +kernel
theorem dX6_refresh_13 : decode cX6_refresh 13 = .ok (.aload_n 0, 1) := by decide +kernel
theorem dX6_refresh_14 : decode cX6_refresh 14 = .ok (.getfield 32, 3) := by decide +kernel
theorem dX6_refresh_17 : decode cX6_refresh 17 = .ok (.sipush 9999, 3) := by decide +kernel
theorem dX6_refresh_20 : decode cX6_refresh 20 = .ok (.invokestatic 26, 3) := by decide +kernel
theorem dX6_refresh_23 : decode cX6_refresh 23 = .ok (.aload_n 0, 1) := by decide +kernel
theorem dX6_refresh_24 : decode cX6_refresh 24 = .ok (.getfield 35, 3) := by decide +kernel
theorem dX6_refresh_27 : decode cX6_refresh 27 = .ok (.iconst (-1), 1) := by decide +kernel
theorem dX6_refresh_28 : decode cX6_refresh 28 = .ok (.invokestatic 26, 3) := by decide +kernel
theorem dX6_refresh_31 : decode cX6_refresh 31 = .ok (.aload_n 0, 1) := by decide +kernel
theorem dX6_refresh_32 : decode cX6_refresh 32 = .ok (.getfield 38, 3) := by decide +kernel
theorem dX6_refresh_35 : decode cX6_refresh 35 = .ok (.iconst (-1), 1) := by decide +kernel
theorem dX6_refresh_36 : decode cX6_refresh 36 = .ok (.invokestatic 26, 3) := by decide +kernel
theorem dX6_refresh_39 : decode cX6_refresh 39 = .ok (.aload_n 0, 1) := by decide +kernel
theorem dX6_refresh_40 : decode cX6_refresh 40 = .ok (.aload_n 1, 1) := by decide +kernel
theorem dX6_refresh_41 : decode cX6_refresh 41 = .ok (.invokevirtual 45, 3) := by decide +kernel
theorem dX6_refresh_44 : decode cX6_refresh 44 = .ok (.aload_n 0, 1) := by decide +kernel
theorem dX6_refresh_45 : decode cX6_refresh 45 = .ok (.invokevirtual 49, 3) := by decide +kernel
theorem dX6_refresh_48 : decode cX6_refresh 48 = .ok (.aload_n 0, 1) := by decide +kernel
theorem dX6_refresh_49 : decode cX6_refresh 49 = .ok (.aload_n 1, 1) := by decide +kernel
theorem dX6_refresh_50 : decode cX6_refresh 50 = .ok (.invokevirtual 52, 3) := by decide +kernel
theorem dX6_refresh_53 : decode cX6_refresh 53 = .ok (.iconst 0, 1) := by decide +kernel
theorem dX6_refresh_54 : decode cX6_refresh 54 = .ok (.istore_n 2, 1) := by decide +kernel
theorem dX6_refresh_55 : decode cX6_refresh 55 = .ok (.iload_n 2, 1) := by decide +kernel
theorem dX6_refresh_56 : decode cX6_refresh 56 = .ok (.aload_n 0, 1) := by decide +kernel
theorem dX6_refresh_57 : decode cX6_refresh 57 = .ok (.getfield 22, 3) := by decide +kernel
theorem dX6_refresh_60 : decode cX6_refresh 60 = .ok (.if_icmp .ge 29, 3) := by decide +kernel
theorem dX6_refresh_63 : decode cX6_refresh 63 = .ok (.iconst 0, 1) := by decide +kernel
theorem dX6_refresh_64 : decode cX6_refresh 64 = .ok (.istore_n 3, 1) := by decide +kernel
theorem dX6_refresh_65 : decode cX6_refresh 65 = .ok (.iload_n 3, 1) := by decide +kernel
theorem dX6_refresh_66 : decode cX6_refresh 66 = .ok (.iconst 4, 1) := by decide +kernel
theorem dX6_refresh_67 : decode cX6_refresh 67 = .ok (.if_icmp .ge 16, 3) := by decide +kernel
theorem dX6_refresh_70 : decode cX6_refresh 70 = .ok (.aload_n 0, 1) := by decide +kernel
theorem dX6_refresh_71 : decode cX6_refresh 71 = .ok (.aload_n 1, 1) := by decide +kernel
theorem dX6_refresh_72 : decode cX6_refresh 72 = .ok (.iload_n 2, 1) := by decide +kernel
theorem dX6_refresh_73 : decode cX6_refresh 73 = .ok (.iload_n 3, 1) := by decide +kernel
theorem dX6_refresh_74 : decode cX6_refresh 74 = .ok (.invokevirtual 55, 3) := by decide +kernel
theorem dX6_refresh_77 : decode cX6_refresh 77 = .ok (.iinc 3 1, 3) := by decide +kernel
theorem dX6_refresh_80 : decode cX6_refresh 80 = .ok (.goto (-15), 3) := by decide +kernel
theorem dX6_refresh_83 : decode cX6_refresh 83 = .ok (.iinc 2 1, 3) := by decide +kernel
theorem dX6_refresh_86 : decode cX6_refresh 86 = .ok (.goto (-31), 3) := by decide +kernel
theorem dX6_refresh_89 : decode cX6_refresh 89 = .ok (.return_, 1) := by decide +kernel
def d_X6_refresh_65 : Nat → Nat → Nat → Int32 → Int32 → Hp → (Nat → Nat → Int32 → Hp → Option (Hp)) → Option (Hp)
  | 0, _, _, _, _, _, _ => none
  | n_ + 1, x0, x1, x2, x3, G, k55 =>
    if 4 ≤ x3 then
      k55 x0 x1 ((x2 + 1)) G
    else
      gd (hc G x0 = 7) <|
      bo (d_X6_choosePort x0 x1 x2 x3 G) fun G4 =>
      d_X6_refresh_65 n_ x0 x1 x2 ((x3 + 1)) G4 k55
def d_X6_refresh_55 : Nat → Nat → Nat → Int32 → Hp → Option (Hp)
  | 0, _, _, _, _ => none
  | n_ + 1, x0, x1, x2, G =>
    gd (hc G x0 = 7) <|
    if ((hi G x0 0)) ≤ x2 then
      some G
    else
      d_X6_refresh_65 FU x0 x1 x2 0 G (fun y0 y1 y2 Gy => d_X6_refresh_55 n_ y0 y1 y2 Gy)
def d_X6_refresh (x0 : Nat) (x1 : Nat) (G : Hp) : Option (Hp) :=
  gd (hc G x0 = 7) <|
  if ((hi G x0 6)) = 0 then
    some G
  else
    bd (sI G x0 6 0) fun G3 =>
    gd (hc G3 x0 = 7) <|
    bo (d_J7_fill_53178 ((hr G3 x0 3)) 9999 G3) fun G6 =>
    gd (hc G6 x0 = 7) <|
    bo (d_J7_fill_53178 ((hr G6 x0 4)) (-1) G6) fun G9 =>
    gd (hc G9 x0 = 7) <|
    bo (d_J7_fill_53178 ((hr G9 x0 5)) (-1) G9) fun G12 =>
    gd (hc G12 x0 = 7) <|
    bo (d_X6_measureSteps x0 x1 G12) fun G15 =>
    gd (hc G15 x0 = 7) <|
    bo (d_X6_measureRouters x0 G15) fun G18 =>
    gd (hc G18 x0 = 7) <|
    bo (d_X6_measureWires x0 x1 G18) fun G21 =>
    d_X6_refresh_55 FU x0 x1 0 G21
section
variable {p : Program} {l : Launch} {e : Env} {s : State} {m : MethodId} {args : Array Value} {below : List Frame} {meth : Method} {c : Code} {b0 : Nat} {D : va_G} {E : Nat → ClassId}
set_option maxHeartbeats 4000000 in
set_option maxRecDepth 100000 in
theorem k_X6_refresh_65 (C : Cx p s m args meth c RX6 cX6_refresh 4 none b0 D E) {GG : Hp} {k55 : Nat → Nat → Int32 → Hp → Option (Hp)} (hk55 : ∀ (y0 : Nat) (y1 : Nat) (y2 : Int32) (Gy : Hp) (H1 : Heap) (locs1 : List Loc) (ls1 : Array Slot), lx ls1 4 [(0, .inr y0), (1, .inr y1), (2, .inl y2)] → Rp b0 D E Gy H1 → SS b0 s H1 locs1 → k55 y0 y1 y2 Gy = some GG → W p l e (rmd 2 (0) (0)) s m args below meth c H1 locs1 (0) (0) (MQ below (CQ b0 D E none GG) args s (0) (0) (fun q => b0 ≤ q)) (F0 m 55 ls1 [])) : ∀ (n_ : Nat) {x0 : Nat} {x1 : Nat} {x2 : Int32} {x3 : Int32} {G : Hp} {ls : Array Slot} {H : Heap} {locs : List Loc}, lx ls 4 [(0, .inr x0), (1, .inr x1), (2, .inl x2), (3, .inl x3)] → Rp b0 D E G H → SS b0 s H locs → d_X6_refresh_65 n_ x0 x1 x2 x3 G k55 = some GG → W p l e (rmd 2 (0) (0)) s m args below meth c H locs (0) (0) (MQ below (CQ b0 D E none GG) args s (0) (0) (fun q => b0 ≤ q)) (F0 m 65 ls []) := by
  intro n_
  induction n_ with
  | zero =>
    intro x0 x1 x2 x3 G ls H locs hL hR hS hd
    cases (show (none : Option _) = some _ from hd)
  | succ n_ ih =>
    intro x0 x1 x2 x3 G ls H locs hL hR hS hd
    rw [d_X6_refresh_65.eq_2] at hd
    have hx := C.1
    have hb := C.2.1
    refine x_iload_n C dX6_refresh_65 hL 3 rfl ?_
    refine lv_iconst (v := 4) hx hb dX6_refresh_66 (by decide) ?_
    refine lv_icmp_ge (tgt := 83) hx hb dX6_refresh_67 (by decide) (fun c1 => ?_) (fun c1 => ?_)
    · rw [if_pos c1] at hd
      refine x_iinc (lv' := [(2, .inl ((x2 + 1))), (0, .inr x0), (1, .inr x1), (3, .inl x3)]) C dX6_refresh_83 hL 2 rfl rfl (by decide) rfl (fun ls hL => ?_)
      refine lv_goto (tgt := 55) hx hb dX6_refresh_86 (by decide) ?_
      exact hk55 _ _ _ _ _ _ _ (lx_sub hL [1, 2, 0] rfl) hR hS hd
    · rw [if_neg c1] at hd
      refine x_aload_n C dX6_refresh_70 hL 0 rfl ?_
      refine x_aload_n C dX6_refresh_71 hL 1 rfl ?_
      refine x_iload_n C dX6_refresh_72 hL 2 rfl ?_
      refine x_iload_n C dX6_refresh_73 hL 3 rfl ?_
      obtain ⟨g2, hd⟩ := gd_ex hd
      obtain ⟨G4, h3, hd⟩ := bo_ex hd
      refine r_callV (a := x0) (ci := 6) (As := [rv x1, .int x2, .int x3]) C (ct_X6_choosePort h3) mf_X6_choosePort ml_X6_55 mv_X6_choosePort rfl ⟨Nat.le_of_ble_eq_true rfl, Nat.le_of_ble_eq_true rfl⟩ dX6_refresh_74 (lx_size hL) rfl hR hS g2 ⟨Nat.le_refl _, Nat.le_refl _⟩ (cat_le [] (Nat.le_of_ble_eq_true rfl)) (fun H locs hR hS => ?_)
      refine W_st (st2 := []) rfl ?_
      refine x_iinc (lv' := [(3, .inl ((x3 + 1))), (0, .inr x0), (1, .inr x1), (2, .inl x2)]) C dX6_refresh_77 hL 3 rfl rfl (by decide) rfl (fun ls hL => ?_)
      refine lv_goto (tgt := 65) hx hb dX6_refresh_80 (by decide) ?_
      exact ih (lx_sub hL [1, 2, 3, 0] rfl) hR hS hd
set_option maxHeartbeats 4000000 in
set_option maxRecDepth 100000 in
theorem k_X6_refresh_55 (C : Cx p s m args meth c RX6 cX6_refresh 4 none b0 D E) {GG : Hp} : ∀ (n_ : Nat) {x0 : Nat} {x1 : Nat} {x2 : Int32} {G : Hp} {ls : Array Slot} {H : Heap} {locs : List Loc}, lx ls 4 [(0, .inr x0), (1, .inr x1), (2, .inl x2)] → Rp b0 D E G H → SS b0 s H locs → d_X6_refresh_55 n_ x0 x1 x2 G = some GG → W p l e (rmd 2 (0) (0)) s m args below meth c H locs (0) (0) (MQ below (CQ b0 D E none GG) args s (0) (0) (fun q => b0 ≤ q)) (F0 m 55 ls []) := by
  intro n_
  induction n_ with
  | zero =>
    intro x0 x1 x2 G ls H locs hL hR hS hd
    cases (show (none : Option _) = some _ from hd)
  | succ n_ ih =>
    intro x0 x1 x2 G ls H locs hL hR hS hd
    rw [d_X6_refresh_55.eq_2] at hd
    have hx := C.1
    have hb := C.2.1
    refine x_iload_n C dX6_refresh_55 hL 2 rfl ?_
    refine x_aload_n C dX6_refresh_56 hL 0 rfl ?_
    obtain ⟨g1, hd⟩ := gd_ex hd
    refine r_geti (ci := 6) (k := 0) C fl_X6_22 rfl dX6_refresh_57 hR g1 ?_
    refine lv_icmp_ge (tgt := 89) hx hb dX6_refresh_60 (by decide) (fun c2 => ?_) (fun c2 => ?_)
    · rw [if_pos c2] at hd
      cases hd
      exact r_vret C dX6_refresh_89 hR hS
    · rw [if_neg c2] at hd
      refine lv_iconst (v := 0) hx hb dX6_refresh_63 (by decide) ?_
      refine x_istore_n (lv' := [(3, .inl 0), (0, .inr x0), (1, .inr x1), (2, .inl x2)]) C dX6_refresh_64 hL (by decide) rfl (fun ls hL => ?_)
      exact k_X6_refresh_65 C (fun y0 y1 y2 Gy H1 locs1 ls1 hL1 hR1 hS1 hd1 => ih hL1 hR1 hS1 hd1) FU (lx_sub hL [1, 2, 3, 0] rfl) hR hS hd
set_option maxHeartbeats 4000000 in
set_option maxRecDepth 100000 in
theorem k_X6_refresh (C : Cx p s m args meth c RX6 cX6_refresh 4 none b0 D E) {GG : Hp} {x0 : Nat} {x1 : Nat} {G : Hp} {ls : Array Slot} {H : Heap} {locs : List Loc} : lx ls 4 [(0, .inr x0), (1, .inr x1)] → Rp b0 D E G H → SS b0 s H locs → d_X6_refresh x0 x1 G = some GG → W p l e (rmd 2 (0) (0)) s m args below meth c H locs (0) (0) (MQ below (CQ b0 D E none GG) args s (0) (0) (fun q => b0 ≤ q)) (F0 m 0 ls []) := by
  intro hL hR hS hd
  unfold d_X6_refresh at hd
  have hx := C.1
  have hb := C.2.1
  refine x_aload_n C dX6_refresh_0 hL 0 rfl ?_
  obtain ⟨g1, hd⟩ := gd_ex hd
  refine r_geti (ci := 6) (k := 6) C fl_X6_18 rfl dX6_refresh_1 hR g1 ?_
  refine lv_if_ne (tgt := 8) hx hb dX6_refresh_4 (by decide) (fun c2 => ?_) (fun c2 => ?_)
  · rw [if_neg c2] at hd
    refine x_aload_n C dX6_refresh_8 hL 0 rfl ?_
    refine lv_iconst (v := 0) hx hb dX6_refresh_9 (by decide) ?_
    obtain ⟨G3, eG3, hd⟩ := bd_ex hd
    refine r_putz (ci := 6) (k := 6) C fl_X6_18 rfl (Or.inl rfl) (by decide) dX6_refresh_10 hR hS g1 (fun H locs hR hS => ?_)
    replace hR : Rp b0 D E G3 H := by rw [eG3]; exact hR
    refine x_aload_n C dX6_refresh_13 hL 0 rfl ?_
    obtain ⟨g4, hd⟩ := gd_ex hd
    refine r_getr (ci := 6) (k := 3) C fl_X6_32 rfl dX6_refresh_14 hR g4 ?_
    refine lv_sipush (v := 9999) hx hb dX6_refresh_17 (by decide) ?_
    obtain ⟨G6, h5, hd⟩ := bo_ex hd
    refine r_callS (As := [rv ((hr G3 x0 3)), .int 9999]) C (ct_J7_fill_53178 h5) mf_J7_fill_53178 ml_X6_26 ms_J7_fill_53178 rfl ⟨Nat.le_of_ble_eq_true rfl, Nat.le_of_ble_eq_true rfl⟩ dX6_refresh_20 (lx_size hL) rfl hR hS ⟨Nat.le_refl _, Nat.le_refl _⟩ (cat_le [] (Nat.le_of_ble_eq_true rfl)) (fun H locs hR hS => ?_)
    refine W_st (st2 := []) rfl ?_
    refine x_aload_n C dX6_refresh_23 hL 0 rfl ?_
    obtain ⟨g7, hd⟩ := gd_ex hd
    refine r_getr (ci := 6) (k := 4) C fl_X6_35 rfl dX6_refresh_24 hR g7 ?_
    refine lv_iconst (v := (-1)) hx hb dX6_refresh_27 (by decide) ?_
    obtain ⟨G9, h8, hd⟩ := bo_ex hd
    refine r_callS (As := [rv ((hr G6 x0 4)), .int (-1)]) C (ct_J7_fill_53178 h8) mf_J7_fill_53178 ml_X6_26 ms_J7_fill_53178 rfl ⟨Nat.le_of_ble_eq_true rfl, Nat.le_of_ble_eq_true rfl⟩ dX6_refresh_28 (lx_size hL) rfl hR hS ⟨Nat.le_refl _, Nat.le_refl _⟩ (cat_le [] (Nat.le_of_ble_eq_true rfl)) (fun H locs hR hS => ?_)
    refine W_st (st2 := []) rfl ?_
    refine x_aload_n C dX6_refresh_31 hL 0 rfl ?_
    obtain ⟨g10, hd⟩ := gd_ex hd
    refine r_getr (ci := 6) (k := 5) C fl_X6_38 rfl dX6_refresh_32 hR g10 ?_
    refine lv_iconst (v := (-1)) hx hb dX6_refresh_35 (by decide) ?_
    obtain ⟨G12, h11, hd⟩ := bo_ex hd
    refine r_callS (As := [rv ((hr G9 x0 5)), .int (-1)]) C (ct_J7_fill_53178 h11) mf_J7_fill_53178 ml_X6_26 ms_J7_fill_53178 rfl ⟨Nat.le_of_ble_eq_true rfl, Nat.le_of_ble_eq_true rfl⟩ dX6_refresh_36 (lx_size hL) rfl hR hS ⟨Nat.le_refl _, Nat.le_refl _⟩ (cat_le [] (Nat.le_of_ble_eq_true rfl)) (fun H locs hR hS => ?_)
    refine W_st (st2 := []) rfl ?_
    refine x_aload_n C dX6_refresh_39 hL 0 rfl ?_
    refine x_aload_n C dX6_refresh_40 hL 1 rfl ?_
    obtain ⟨g13, hd⟩ := gd_ex hd
    obtain ⟨G15, h14, hd⟩ := bo_ex hd
    refine r_callV (a := x0) (ci := 6) (As := [rv x1]) C (ct_X6_measureSteps h14) mf_X6_measureSteps ml_X6_45 mv_X6_measureSteps rfl ⟨Nat.le_of_ble_eq_true rfl, Nat.le_of_ble_eq_true rfl⟩ dX6_refresh_41 (lx_size hL) rfl hR hS g13 ⟨Nat.le_refl _, Nat.le_refl _⟩ (cat_le [] (Nat.le_of_ble_eq_true rfl)) (fun H locs hR hS => ?_)
    refine W_st (st2 := []) rfl ?_
    refine x_aload_n C dX6_refresh_44 hL 0 rfl ?_
    obtain ⟨g16, hd⟩ := gd_ex hd
    obtain ⟨G18, h17, hd⟩ := bo_ex hd
    refine r_callV (a := x0) (ci := 6) (As := []) C (ct_X6_measureRouters h17) mf_X6_measureRouters ml_X6_49 mv_X6_measureRouters rfl ⟨Nat.le_of_ble_eq_true rfl, Nat.le_of_ble_eq_true rfl⟩ dX6_refresh_45 (lx_size hL) rfl hR hS g16 ⟨Nat.le_refl _, Nat.le_refl _⟩ (cat_le [] (Nat.le_of_ble_eq_true rfl)) (fun H locs hR hS => ?_)
    refine W_st (st2 := []) rfl ?_
    refine x_aload_n C dX6_refresh_48 hL 0 rfl ?_
    refine x_aload_n C dX6_refresh_49 hL 1 rfl ?_
    obtain ⟨g19, hd⟩ := gd_ex hd
    obtain ⟨G21, h20, hd⟩ := bo_ex hd
    refine r_callV (a := x0) (ci := 6) (As := [rv x1]) C (ct_X6_measureWires h20) mf_X6_measureWires ml_X6_52 mv_X6_measureWires rfl ⟨Nat.le_of_ble_eq_true rfl, Nat.le_of_ble_eq_true rfl⟩ dX6_refresh_50 (lx_size hL) rfl hR hS g19 ⟨Nat.le_refl _, Nat.le_refl _⟩ (cat_le [] (Nat.le_of_ble_eq_true rfl)) (fun H locs hR hS => ?_)
    refine W_st (st2 := []) rfl ?_
    refine lv_iconst (v := 0) hx hb dX6_refresh_53 (by decide) ?_
    refine x_istore_n (lv' := [(2, .inl 0), (0, .inr x0), (1, .inr x1)]) C dX6_refresh_54 hL (by decide) rfl (fun ls hL => ?_)
    exact k_X6_refresh_55 C FU (lx_sub hL [1, 2, 0] rfl) hR hS hd
  · rw [if_pos c2] at hd
    cases hd
    exact r_vret C dX6_refresh_7 hR hS
end
set_option maxHeartbeats 4000000 in
set_option maxRecDepth 100000 in
theorem ct_X6_refresh {l : Launch} {b0 : Nat} {D : va_G} {E : Nat → ClassId} {G : Hp} {a0 : Nat} {a1 : Nat} {GG : Hp} (hd : d_X6_refresh a0 a1 G = some GG) : CT l yX6_refresh cX6_refresh 4 none 2 0 0 b0 D E [rv a0, rv a1] G none GG := by
  refine CT_of (by decide +kernel) ?_
  intro p e s m below meth c C hnm hR
  refine r_entry [.inr a0, .inr a1] (n := 4) (Nat.le_of_ble_eq_true rfl) (lv := [(0, .inr a0), (1, .inr a1)]) rfl (fun ls hL => ?_)
  exact k_X6_refresh C (lx_sub hL [0, 1] rfl) hR ⟨fun _ _ => rfl, fun _ h => by cases h⟩ hd

/-! GroveWorks$Wire.makeFrames()V makes -/
theorem dX7_makeFrames_0 : decode cX7_makeFrames 0 = .ok (.iconst 0, 1) := by decide +kernel
theorem dX7_makeFrames_1 : decode cX7_makeFrames 1 = .ok (.istore_n 1, 1) := by decide +kernel
theorem dX7_makeFrames_2 : decode cX7_makeFrames 2 = .ok (.iload_n 1, 1) := by decide +kernel
theorem dX7_makeFrames_3 : decode cX7_makeFrames 3 = .ok (.bipush 40, 2) := by decide +kernel
theorem dX7_makeFrames_5 : decode cX7_makeFrames 5 = .ok (.if_icmp .ge 44, 3) := by decide +kernel
theorem dX7_makeFrames_8 : decode cX7_makeFrames 8 = .ok (.aload_n 0, 1) := by decide +kernel
theorem dX7_makeFrames_9 : decode cX7_makeFrames 9 = .ok (.getfield 21, 3) := by decide +kernel
theorem dX7_makeFrames_12 : decode cX7_makeFrames 12 = .ok (.iload_n 1, 1) := by decide +kernel
theorem dX7_makeFrames_13 : decode cX7_makeFrames 13 = .ok (.aaload, 1) := by decide +kernel
theorem dX7_makeFrames_14 : decode cX7_makeFrames 14 = .ok (.ifnonnull 35, 3) := by decide +kernel
theorem dX7_makeFrames_17 : decode cX7_makeFrames 17 = .ok (.aload_n 0, 1) := by decide +kernel
theorem dX7_makeFrames_18 : decode cX7_makeFrames 18 = .ok (.getfield 21, 3) := by decide +kernel
theorem dX7_makeFrames_21 : decode cX7_makeFrames 21 = .ok (.iload_n 1, 1) := by decide +kernel
theorem dX7_makeFrames_22 : decode cX7_makeFrames 22 = .ok (.new 19, 3) := by decide +kernel
theorem dX7_makeFrames_25 : decode cX7_makeFrames 25 = .ok (.dup, 1) := by decide +kernel
theorem dX7_makeFrames_26 : decode cX7_makeFrames 26 = .ok (.invokespecial 59, 3) := by decide +kernel
theorem dX7_makeFrames_29 : decode cX7_makeFrames 29 = .ok (.aastore, 1) := by decide +kernel
theorem dX7_makeFrames_30 : decode cX7_makeFrames 30 = .ok (.aload_n 0, 1) := by decide +kernel
theorem dX7_makeFrames_31 : decode cX7_makeFrames 31 = .ok (.getfield 25, 3) := by decide +kernel
theorem dX7_makeFrames_34 : decode cX7_makeFrames 34 = .ok (.iload_n 1, 1) := by decide +kernel
theorem dX7_makeFrames_35 : decode cX7_makeFrames 35 = .ok (.new 19, 3) := by decide +kernel
theorem dX7_makeFrames_38 : decode cX7_makeFrames 38 = .ok (.dup, 1) := by decide +kernel
theorem dX7_makeFrames_39 : decode cX7_makeFrames 39 = .ok (.invokespecial 59, 3) := by decide +kernel
theorem dX7_makeFrames_42 : decode cX7_makeFrames 42 = .ok (.aastore, 1) := by decide +kernel
theorem dX7_makeFrames_43 : decode cX7_makeFrames 43 = .ok (.iinc 1 1, 3) := by decide +kernel
theorem dX7_makeFrames_46 : decode cX7_makeFrames 46 = .ok (.goto (-44), 3) := by decide +kernel
theorem dX7_makeFrames_49 : decode cX7_makeFrames 49 = .ok (.return_, 1) := by decide +kernel
def d_X7_makeFrames_2 : Nat → Nat → Int32 → Hp → Option (Hp)
  | 0, _, _, _ => none
  | n_ + 1, x0, x1, G =>
    mV G <|
    if 40 ≤ x1 then
      some G
    else
      gd (hc G x0 = 8) <|
      gd (hc G ((hr G x0 3)) = 13 ∧ ix x1 (hl G ((hr G x0 3)))) <|
      if ((hr G ((hr G x0 3)) x1.toNatClampNeg)) = 0 then
        bd (hn G) fun q5 =>
        bd (nC G 1 0 8) fun G6 =>
        mV G6 <|
        gd (hc G6 q5 = 1) <|
        bo (d_X0_init q5 G6) fun _ =>
        gd ((hc G6 ((hr G x0 3)) = 13 ∧ ix x1 (hl G6 ((hr G x0 3)))) ∧ (q5 = 0 ∨ hc G6 q5 = 1)) <|
        bd (sR G6 ((hr G x0 3)) x1.toNatClampNeg q5) fun G10 =>
        gd (hc G10 x0 = 8) <|
        bd (hn G10) fun q12 =>
        bd (nC G10 1 0 8) fun G13 =>
        mV G13 <|
        gd (hc G13 q12 = 1) <|
        bo (d_X0_init q12 G13) fun _ =>
        gd ((hc G13 ((hr G10 x0 4)) = 13 ∧ ix x1 (hl G13 ((hr G10 x0 4)))) ∧ (q12 = 0 ∨ hc G13 q12 = 1)) <|
        bd (sR G13 ((hr G10 x0 4)) x1.toNatClampNeg q12) fun G17 =>
        d_X7_makeFrames_2 n_ x0 ((x1 + 1)) G17
      else
        some G
def d_X7_makeFrames (x0 : Nat) (G : Hp) : Option (Hp) :=
  mV G <|
  d_X7_makeFrames_2 FU x0 0 G
section
variable {p : Program} {l : Launch} {e : Env} {s : State} {m : MethodId} {args : Array Value} {below : List Frame} {meth : Method} {c : Code} {b0 : Nat} {D : va_G} {E : Nat → ClassId}
set_option maxHeartbeats 4000000 in
set_option maxRecDepth 100000 in
theorem k_X7_makeFrames_2 (C : Cx p s m args meth c RX7 cX7_makeFrames 2 none b0 D E) {GG : Hp} {n0 s0 : Nat} : ∀ (n_ : Nat) {x0 : Nat} {x1 : Int32} {G : Hp} {ls : Array Slot} {H : Heap} {locs : List Loc}, lx ls 2 [(0, .inr x0), (1, .inl x1)] → Rp b0 D E G H → SS b0 s H locs → b0 ≤ hn G → (n0 ≤ hn G ∧ s0 ≤ hs G) → d_X7_makeFrames_2 n_ x0 x1 G = some GG → W p l e (rmd 2 (hn GG - n0) (hs GG - s0)) s m args below meth c H locs (hn G - n0) (hs G - s0) (MQ below (CQ b0 D E none GG) args s (hn GG - n0) (hs GG - s0) (fun q => b0 ≤ q)) (F0 m 2 ls []) := by
  intro n_
  induction n_ with
  | zero =>
    intro x0 x1 G ls H locs hL hR hS hB hZ hd
    cases (show (none : Option _) = some _ from hd)
  | succ n_ ih =>
    intro x0 x1 G ls H locs hL hR hS hB hZ hd
    rw [d_X7_makeFrames_2.eq_2] at hd
    obtain ⟨hM, hd⟩ := mV_ex hd
    have hx := C.1
    have hb := C.2.1
    refine x_iload_n C dX7_makeFrames_2 hL 1 rfl ?_
    refine lv_bipush (v := 40) hx hb dX7_makeFrames_3 (by decide) ?_
    refine lv_icmp_ge (tgt := 49) hx hb dX7_makeFrames_5 (by decide) (fun c1 => ?_) (fun c1 => ?_)
    · rw [if_pos c1] at hd
      cases hd
      exact r_vret C dX7_makeFrames_49 hR hS
    · rw [if_neg c1] at hd
      refine x_aload_n C dX7_makeFrames_8 hL 0 rfl ?_
      obtain ⟨g2, hd⟩ := gd_ex hd
      refine r_getr (ci := 7) (k := 3) C fl_X7_21 rfl dX7_makeFrames_9 hR g2 ?_
      refine x_iload_n C dX7_makeFrames_12 hL 1 rfl ?_
      obtain ⟨g3, hd⟩ := gd_ex hd
      refine r_aald (ci := 0) C (by decide) dX7_makeFrames_13 hR g3 ?_
      refine r_ifnonnull (tgt := 49) C dX7_makeFrames_14 (by decide) (fun c4 => ?_) (fun c4 => ?_)
      · rw [if_neg c4] at hd
        cases hd
        exact r_vret C dX7_makeFrames_49 hR hS
      · rw [if_pos c4] at hd
        refine x_aload_n C dX7_makeFrames_17 hL 0 rfl ?_
        refine r_getr (ci := 7) (k := 3) C fl_X7_21 rfl dX7_makeFrames_18 hR g2 ?_
        refine x_iload_n C dX7_makeFrames_21 hL 1 rfl ?_
        obtain ⟨q5, eq5, hd⟩ := bd_ex hd
        obtain ⟨G6, eG6, hd⟩ := bd_ex hd
        obtain ⟨hM, hd⟩ := mV_ex hd
        have hm1 : hn G6 = hn G + 1 ∧ hs G6 = hs G + 8 := by rw [eG6]; exact ⟨rfl, rfl⟩
        refine r_new (ci := 0) C (by decide) cl_X7_19 dX7_makeFrames_22 hR hS hB hZ ⟨by show hn G + 1 - n0 ≤ hn GG - n0; omega, by show hs G + 8 - s0 ≤ hs GG - s0; omega⟩ (fun H locs hR hS => ?_)
        rw [← eq5]
        refine W_cs (c2 := hn G6 - n0) (s2 := hs G6 - s0) (by rw [eG6] <;> rfl) (by rw [eG6] <;> rfl) ?_
        replace hR : Rp b0 D E G6 H := by rw [eG6]; exact hR
        replace hB : b0 ≤ hn G6 := by omega
        replace hZ : n0 ≤ hn G6 ∧ s0 ≤ hs G6 := by omega
        refine lv_dup hx hb dX7_makeFrames_25 (rv_cat _) ?_
        obtain ⟨g7, hd⟩ := gd_ex hd
        obtain ⟨⟨⟩, h8, hd⟩ := bo_ex hd
        refine r_callIN (a := q5) (As := []) C (ct_X0_init h8) mf_X0_init (by decide +kernel) mi_X0_init rfl ⟨Nat.le_of_ble_eq_true rfl, Nat.le_of_ble_eq_true rfl⟩ dX7_makeFrames_26 (lx_size hL) rfl hR hS (by rw [g7]; decide) ⟨by show hn G6 - n0 ≤ hn GG - n0; omega, by show hs G6 - s0 ≤ hs GG - s0; omega⟩ (cat_le [.inr q5, .inl x1, .inr ((hr G x0 3))] (Nat.le_of_ble_eq_true rfl)) (fun H locs hR hS => ?_)
        refine W_st (st2 := [rv q5, .int x1, rv ((hr G x0 3))]) rfl ?_
        refine W_cs (c2 := hn G6 - n0) (s2 := hs G6 - s0) (by first | rfl | omega) (by first | rfl | omega) ?_
        obtain ⟨g9, hd⟩ := gd_ex hd
        obtain ⟨G10, eG10, hd⟩ := bd_ex hd
        refine r_aast (ci := 0) C (by decide) (by decide) dX7_makeFrames_29 hR hS g9 (fun H locs hR hS => ?_)
        replace hR : Rp b0 D E G10 H := by rw [eG10]; exact hR
        refine W_cs (c2 := hn G10 - n0) (s2 := hs G10 - s0) (by rw [eG10] <;> rfl) (by rw [eG10] <;> rfl) ?_
        replace hB : b0 ≤ hn G10 := by rw [eG10]; exact hB
        replace hZ : n0 ≤ hn G10 ∧ s0 ≤ hs G10 := by rw [eG10]; exact hZ
        replace hM : hn G10 ≤ hn GG ∧ hs G10 ≤ hs GG := by rw [eG10]; exact hM
        refine x_aload_n C dX7_makeFrames_30 hL 0 rfl ?_
        obtain ⟨g11, hd⟩ := gd_ex hd
        refine r_getr (ci := 7) (k := 4) C fl_X7_25 rfl dX7_makeFrames_31 hR g11 ?_
        refine x_iload_n C dX7_makeFrames_34 hL 1 rfl ?_
        obtain ⟨q12, eq12, hd⟩ := bd_ex hd
        obtain ⟨G13, eG13, hd⟩ := bd_ex hd
        obtain ⟨hM, hd⟩ := mV_ex hd
        have hm1 : hn G13 = hn G10 + 1 ∧ hs G13 = hs G10 + 8 := by rw [eG13]; exact ⟨rfl, rfl⟩
        refine r_new (ci := 0) C (by decide) cl_X7_19 dX7_makeFrames_35 hR hS hB hZ ⟨by show hn G10 + 1 - n0 ≤ hn GG - n0; omega, by show hs G10 + 8 - s0 ≤ hs GG - s0; omega⟩ (fun H locs hR hS => ?_)
        rw [← eq12]
        refine W_cs (c2 := hn G13 - n0) (s2 := hs G13 - s0) (by rw [eG13] <;> rfl) (by rw [eG13] <;> rfl) ?_
        replace hR : Rp b0 D E G13 H := by rw [eG13]; exact hR
        replace hB : b0 ≤ hn G13 := by omega
        replace hZ : n0 ≤ hn G13 ∧ s0 ≤ hs G13 := by omega
        refine lv_dup hx hb dX7_makeFrames_38 (rv_cat _) ?_
        obtain ⟨g14, hd⟩ := gd_ex hd
        obtain ⟨⟨⟩, h15, hd⟩ := bo_ex hd
        refine r_callIN (a := q12) (As := []) C (ct_X0_init h15) mf_X0_init (by decide +kernel) mi_X0_init rfl ⟨Nat.le_of_ble_eq_true rfl, Nat.le_of_ble_eq_true rfl⟩ dX7_makeFrames_39 (lx_size hL) rfl hR hS (by rw [g14]; decide) ⟨by show hn G13 - n0 ≤ hn GG - n0; omega, by show hs G13 - s0 ≤ hs GG - s0; omega⟩ (cat_le [.inr q12, .inl x1, .inr ((hr G10 x0 4))] (Nat.le_of_ble_eq_true rfl)) (fun H locs hR hS => ?_)
        refine W_st (st2 := [rv q12, .int x1, rv ((hr G10 x0 4))]) rfl ?_
        refine W_cs (c2 := hn G13 - n0) (s2 := hs G13 - s0) (by first | rfl | omega) (by first | rfl | omega) ?_
        obtain ⟨g16, hd⟩ := gd_ex hd
        obtain ⟨G17, eG17, hd⟩ := bd_ex hd
        refine r_aast (ci := 0) C (by decide) (by decide) dX7_makeFrames_42 hR hS g16 (fun H locs hR hS => ?_)
        replace hR : Rp b0 D E G17 H := by rw [eG17]; exact hR
        refine W_cs (c2 := hn G17 - n0) (s2 := hs G17 - s0) (by rw [eG17] <;> rfl) (by rw [eG17] <;> rfl) ?_
        replace hB : b0 ≤ hn G17 := by rw [eG17]; exact hB
        replace hZ : n0 ≤ hn G17 ∧ s0 ≤ hs G17 := by rw [eG17]; exact hZ
        replace hM : hn G17 ≤ hn GG ∧ hs G17 ≤ hs GG := by rw [eG17]; exact hM
        refine x_iinc (lv' := [(1, .inl ((x1 + 1))), (0, .inr x0)]) C dX7_makeFrames_43 hL 1 rfl rfl (by decide) rfl (fun ls hL => ?_)
        refine lv_goto (tgt := 2) hx hb dX7_makeFrames_46 (by decide) ?_
        exact ih (lx_sub hL [1, 0] rfl) hR hS hB hZ hd
set_option maxHeartbeats 4000000 in
set_option maxRecDepth 100000 in
theorem k_X7_makeFrames (C : Cx p s m args meth c RX7 cX7_makeFrames 2 none b0 D E) {GG : Hp} {n0 s0 : Nat} {x0 : Nat} {G : Hp} {ls : Array Slot} {H : Heap} {locs : List Loc} : lx ls 2 [(0, .inr x0)] → Rp b0 D E G H → SS b0 s H locs → b0 ≤ hn G → (n0 ≤ hn G ∧ s0 ≤ hs G) → d_X7_makeFrames x0 G = some GG → W p l e (rmd 2 (hn GG - n0) (hs GG - s0)) s m args below meth c H locs (hn G - n0) (hs G - s0) (MQ below (CQ b0 D E none GG) args s (hn GG - n0) (hs GG - s0) (fun q => b0 ≤ q)) (F0 m 0 ls []) := by
  intro hL hR hS hB hZ hd
  unfold d_X7_makeFrames at hd
  obtain ⟨hM, hd⟩ := mV_ex hd
  have hx := C.1
  have hb := C.2.1
  refine lv_iconst (v := 0) hx hb dX7_makeFrames_0 (by decide) ?_
  refine x_istore_n (lv' := [(1, .inl 0), (0, .inr x0)]) C dX7_makeFrames_1 hL (by decide) rfl (fun ls hL => ?_)
  exact k_X7_makeFrames_2 C FU (lx_sub hL [1, 0] rfl) hR hS hB hZ hd
end
set_option maxHeartbeats 4000000 in
set_option maxRecDepth 100000 in
theorem ct_X7_makeFrames {l : Launch} {b0 : Nat} {D : va_G} {E : Nat → ClassId} {G : Hp} {a0 : Nat} {GG : Hp} (hB : b0 ≤ hn G) (hd : d_X7_makeFrames a0 G = some GG) : CT l yX7_makeFrames cX7_makeFrames 2 none 2 (hn GG - hn G) (hs GG - hs G) b0 D E [rv a0] G none GG := by
  refine CT_of (by decide +kernel) ?_
  intro p e s m below meth c C hnm hR
  refine r_entry [.inr a0] (n := 2) (Nat.le_of_ble_eq_true rfl) (lv := [(0, .inr a0)]) rfl (fun ls hL => ?_)
  have k := k_X7_makeFrames (n0 := hn G) (s0 := hs G) (l := l) (e := e) (below := below) (H := s.heap) (locs := []) C (lx_sub hL [0] rfl) hR ⟨fun _ _ => rfl, fun _ h => by cases h⟩ hB ⟨Nat.le_refl _, Nat.le_refl _⟩ hd
  rw [Nat.sub_self, Nat.sub_self] at k
  exact k

/-! GroveWorks$Wire.turnOver()V -/
theorem dX7_turnOver_0 : decode cX7_turnOver 0 = .ok (.aload_n 0, 1) := by decide +kernel
theorem dX7_turnOver_1 : decode cX7_turnOver 1 = .ok (.getfield 21, 3) := by decide +kernel
theorem dX7_turnOver_4 : decode cX7_turnOver 4 = .ok (.astore_n 1, 1) := by decide +kernel
theorem dX7_turnOver_5 : decode cX7_turnOver 5 = .ok (.aload_n 0, 1) := by decide +kernel
theorem dX7_turnOver_6 : decode cX7_turnOver 6 = .ok (.aload_n 0, 1) := by decide +kernel
theorem dX7_turnOver_7 : decode cX7_turnOver 7 = .ok (.getfield 25, 3) := by decide +kernel
theorem dX7_turnOver_10 : decode cX7_turnOver 10 = .ok (.putfield 21, 3) := by decide +kernel
theorem dX7_turnOver_13 : decode cX7_turnOver 13 = .ok (.aload_n 0, 1) := by decide +kernel
theorem dX7_turnOver_14 : decode cX7_turnOver 14 = .ok (.aload_n 1, 1) := by decide +kernel
theorem dX7_turnOver_15 : decode cX7_turnOver 15 = .ok (.putfield 25, 3) := by decide +kernel
theorem dX7_turnOver_18 : decode cX7_turnOver 18 = .ok (.aload_n 0, 1) := by decide +kernel
theorem dX7_turnOver_19 : decode cX7_turnOver 19 = .ok (.aload_n 0, 1) := by decide +kernel
theorem dX7_turnOver_20 : decode cX7_turnOver 20 = .ok (.getfield 32, 3) := by decide +kernel
theorem dX7_turnOver_23 : decode cX7_turnOver 23 = .ok (.putfield 28, 3) := by decide +kernel
theorem dX7_turnOver_26 : decode cX7_turnOver 26 = .ok (.aload_n 0, 1) := by decide +kernel
theorem dX7_turnOver_27 : decode cX7_turnOver 27 = .ok (.iconst 0, 1) := by decide +kernel
theorem dX7_turnOver_28 : decode cX7_turnOver 28 = .ok (.putfield 32, 3) := by decide +kernel
theorem dX7_turnOver_31 : decode cX7_turnOver 31 = .ok (.aload_n 0, 1) := by decide +kernel
theorem dX7_turnOver_32 : decode cX7_turnOver 32 = .ok (.iconst 0, 1) := by decide +kernel
theorem dX7_turnOver_33 : decode cX7_turnOver 33 = .ok (.putfield 35, 3) := by decide +kernel
theorem dX7_turnOver_36 : decode cX7_turnOver 36 = .ok (.return_, 1) := by decide +kernel
def d_X7_turnOver (x0 : Nat) (G : Hp) : Option (Hp) :=
  gd (hc G x0 = 8) <|
  bd (sR G x0 3 ((hr G x0 4))) fun G2 =>
  gd (hc G2 x0 = 8) <|
  bd (sR G2 x0 4 ((hr G x0 3))) fun G4 =>
  gd (hc G4 x0 = 8) <|
  bd (sI G4 x0 5 ((hi G4 x0 6))) fun G6 =>
  gd (hc G6 x0 = 8) <|
  bd (sI G6 x0 6 0) fun G8 =>
  gd (hc G8 x0 = 8) <|
  bd (sI G8 x0 7 0) fun G10 =>
  some G10
section
variable {p : Program} {l : Launch} {e : Env} {s : State} {m : MethodId} {args : Array Value} {below : List Frame} {meth : Method} {c : Code} {b0 : Nat} {D : va_G} {E : Nat → ClassId}
set_option maxHeartbeats 4000000 in
set_option maxRecDepth 100000 in
theorem k_X7_turnOver (C : Cx p s m args meth c RX7 cX7_turnOver 2 none b0 D E) {GG : Hp} {x0 : Nat} {G : Hp} {ls : Array Slot} {H : Heap} {locs : List Loc} : lx ls 2 [(0, .inr x0)] → Rp b0 D E G H → SS b0 s H locs → d_X7_turnOver x0 G = some GG → W p l e (rmd 0 (0) (0)) s m args below meth c H locs (0) (0) (MQ below (CQ b0 D E none GG) args s (0) (0) (fun q => b0 ≤ q)) (F0 m 0 ls []) := by
  intro hL hR hS hd
  unfold d_X7_turnOver at hd
  have hx := C.1
  have hb := C.2.1
  refine x_aload_n C dX7_turnOver_0 hL 0 rfl ?_
  obtain ⟨g1, hd⟩ := gd_ex hd
  refine r_getr (ci := 7) (k := 3) C fl_X7_21 rfl dX7_turnOver_1 hR g1 ?_
  refine x_astore_n (lv' := [(1, .inr ((hr G x0 3))), (0, .inr x0)]) C dX7_turnOver_4 hL (by decide) rfl (fun ls hL => ?_)
  refine x_aload_n C dX7_turnOver_5 hL 1 rfl ?_
  refine x_aload_n C dX7_turnOver_6 hL 1 rfl ?_
  refine r_getr (ci := 7) (k := 4) C fl_X7_25 rfl dX7_turnOver_7 hR g1 ?_
  obtain ⟨G2, eG2, hd⟩ := bd_ex hd
  refine r_putr (ci := 7) (k := 3) C fl_X7_21 (Or.inr ⟨_, rfl⟩) (Or.inl rfl) dX7_turnOver_10 hR hS g1 (fun H locs hR hS => ?_)
  replace hR : Rp b0 D E G2 H := by rw [eG2]; exact hR
  refine x_aload_n C dX7_turnOver_13 hL 1 rfl ?_
  refine x_aload_n C dX7_turnOver_14 hL 0 rfl ?_
  obtain ⟨g3, hd⟩ := gd_ex hd
  obtain ⟨G4, eG4, hd⟩ := bd_ex hd
  refine r_putr (ci := 7) (k := 4) C fl_X7_25 (Or.inr ⟨_, rfl⟩) (Or.inl rfl) dX7_turnOver_15 hR hS g3 (fun H locs hR hS => ?_)
  replace hR : Rp b0 D E G4 H := by rw [eG4]; exact hR
  refine x_aload_n C dX7_turnOver_18 hL 1 rfl ?_
  refine x_aload_n C dX7_turnOver_19 hL 1 rfl ?_
  obtain ⟨g5, hd⟩ := gd_ex hd
  refine r_geti (ci := 7) (k := 6) C fl_X7_32 rfl dX7_turnOver_20 hR g5 ?_
  obtain ⟨G6, eG6, hd⟩ := bd_ex hd
  refine r_puti (ci := 7) (k := 5) C fl_X7_28 rfl (Or.inl rfl) dX7_turnOver_23 hR hS g5 (fun H locs hR hS => ?_)
  replace hR : Rp b0 D E G6 H := by rw [eG6]; exact hR
  refine x_aload_n C dX7_turnOver_26 hL 1 rfl ?_
  refine lv_iconst (v := 0) hx hb dX7_turnOver_27 (by decide) ?_
  obtain ⟨g7, hd⟩ := gd_ex hd
  obtain ⟨G8, eG8, hd⟩ := bd_ex hd
  refine r_puti (ci := 7) (k := 6) C fl_X7_32 rfl (Or.inl rfl) dX7_turnOver_28 hR hS g7 (fun H locs hR hS => ?_)
  replace hR : Rp b0 D E G8 H := by rw [eG8]; exact hR
  refine x_aload_n C dX7_turnOver_31 hL 1 rfl ?_
  refine lv_iconst (v := 0) hx hb dX7_turnOver_32 (by decide) ?_
  obtain ⟨g9, hd⟩ := gd_ex hd
  obtain ⟨G10, eG10, hd⟩ := bd_ex hd
  refine r_puti (ci := 7) (k := 7) C fl_X7_35 rfl (Or.inl rfl) dX7_turnOver_33 hR hS g9 (fun H locs hR hS => ?_)
  replace hR : Rp b0 D E G10 H := by rw [eG10]; exact hR
  cases hd
  exact r_vret C dX7_turnOver_36 hR hS
end
set_option maxHeartbeats 4000000 in
set_option maxRecDepth 100000 in
theorem ct_X7_turnOver {l : Launch} {b0 : Nat} {D : va_G} {E : Nat → ClassId} {G : Hp} {a0 : Nat} {GG : Hp} (hd : d_X7_turnOver a0 G = some GG) : CT l yX7_turnOver cX7_turnOver 2 none 0 0 0 b0 D E [rv a0] G none GG := by
  refine CT_of (by decide +kernel) ?_
  intro p e s m below meth c C hnm hR
  refine r_entry [.inr a0] (n := 2) (Nat.le_of_ble_eq_true rfl) (lv := [(0, .inr a0)]) rfl (fun ls hL => ?_)
  exact k_X7_turnOver C (lx_sub hL [0] rfl) hR ⟨fun _ _ => rfl, fun _ h => by cases h⟩ hd

/-! GroveWorks$Wire.drop(I)Z -/
theorem dX7_drop_0 : decode cX7_drop 0 = .ok (.iload_n 1, 1) := by decide +kernel
theorem dX7_drop_1 : decode cX7_drop 1 = .ok (.aload_n 0, 1) := by decide +kernel
theorem dX7_drop_2 : decode cX7_drop 2 = .ok (.getfield 32, 3) := by decide +kernel
theorem dX7_drop_5 : decode cX7_drop 5 = .ok (.invokestatic 64, 3) := by decide +kernel
theorem dX7_drop_8 : decode cX7_drop 8 = .ok (.ifCond .ne 5, 3) := by decide +kernel
theorem dX7_drop_11 : decode cX7_drop 11 = .ok (.iconst 0, 1) := by decide +kernel
theorem dX7_drop_12 : decode cX7_drop 12 = .ok (.ireturn, 1) := by decide +kernel
theorem dX7_drop_13 : decode cX7_drop 13 = .ok (.aload_n 0, 1) := by decide +kernel
theorem dX7_drop_14 : decode cX7_drop 14 = .ok (.getfield 25, 3) := by decide +kernel
theorem dX7_drop_17 : decode cX7_drop 17 = .ok (.iload_n 1, 1) := by decide +kernel
theorem dX7_drop_18 : decode cX7_drop 18 = .ok (.aaload, 1) := by decide +kernel
theorem dX7_drop_19 : decode cX7_drop 19 = .ok (.astore_n 2, 1) := by decide +kernel
theorem dX7_drop_20 : decode cX7_drop 20 = .ok (.iload_n 1, 1) := by decide +kernel
theorem dX7_drop_21 : decode cX7_drop 21 = .ok (.iconst 1, 1) := by decide +kernel
theorem dX7_drop_22 : decode cX7_drop 22 = .ok (.iadd, 1) := by decide +kernel
theorem dX7_drop_23 : decode cX7_drop 23 = .ok (.istore_n 3, 1) := by decide +kernel
theorem dX7_drop_24 : decode cX7_drop 24 = .ok (.iload_n 3, 1) := by decide +kernel
theorem dX7_drop_25 : decode cX7_drop 25 = .ok (.aload_n 0, 1) := by decide +kernel
theorem dX7_drop_26 : decode cX7_drop 26 = .ok (.getfield 32, 3) := by decide +kernel
theorem dX7_drop_29 : decode cX7_drop 29 = .ok (.if_icmp .ge 23, 3) := by decide +kernel
theorem dX7_drop_32 : decode cX7_drop 32 = .ok (.aload_n 0, 1) := by decide +kernel
theorem dX7_drop_33 : decode cX7_drop 33 = .ok (.getfield 25, 3) := by decide +kernel
theorem dX7_drop_36 : decode cX7_drop 36 = .ok (.iload_n 3, 1) := by decide +kernel
theorem dX7_drop_37 : decode cX7_drop 37 = .ok (.iconst 1, 1) := by decide +kernel
theorem dX7_drop_38 : decode cX7_drop 38 = .ok (.isub, 1) := by decide +kernel
theorem dX7_drop_39 : decode cX7_drop 39 = .ok (.aload_n 0, 1) := by decide +kernel
theorem dX7_drop_40 : decode cX7_drop 40 = .ok (.getfield 25, 3) := by decide +kernel
theorem dX7_drop_43 : decode cX7_drop 43 = .ok (.iload_n 3, 1) := by decide +kernel
theorem dX7_drop_44 : decode cX7_drop 44 = .ok (.aaload, 1) := by decide +kernel
theorem dX7_drop_45 : decode cX7_drop 45 = .ok (.aastore, 1) := by decide +kernel
theorem dX7_drop_46 : decode cX7_drop 46 = .ok (.iinc 3 1, 3) := by decide +kernel
theorem dX7_drop_49 : decode cX7_drop 49 = .ok (.goto (-25), 3) := by decide +kernel
theorem dX7_drop_52 : decode cX7_drop 52 = .ok (.aload_n 0, 1) := by decide +kernel
theorem dX7_drop_53 : decode cX7_drop 53 = .ok (.dup, 1) := by decide +kernel
theorem dX7_drop_54 : decode cX7_drop 54 = .ok (.getfield 32, 3) := by decide +kernel
theorem dX7_drop_57 : decode cX7_drop 57 = .ok (.iconst 1, 1) := by decide +kernel
theorem dX7_drop_58 : decode cX7_drop 58 = .ok (.isub, 1) := by decide +kernel
theorem dX7_drop_59 : decode cX7_drop 59 = .ok (.putfield 32, 3) := by decide +kernel
theorem dX7_drop_62 : decode cX7_drop 62 = .ok (.aload_n 0, 1) := by decide +kernel
theorem dX7_drop_63 : decode cX7_drop 63 = .ok (.getfield 25, 3) := by decide +kernel
theorem dX7_drop_66 : decode cX7_drop 66 = .ok (.aload_n 0, 1) := by decide +kernel
theorem dX7_drop_67 : decode cX7_drop 67 = .ok (.getfield 32, 3) := by decide +kernel
theorem dX7_drop_70 : decode cX7_drop 70 = .ok (.aload_n 2, 1) := by decide +kernel
theorem dX7_drop_71 : decode cX7_drop 71 = .ok (.aastore, 1) := by decide +kernel
theorem dX7_drop_72 : decode cX7_drop 72 = .ok (.iconst 1, 1) := by decide +kernel
theorem dX7_drop_73 : decode cX7_drop 73 = .ok (.ireturn, 1) := by decide +kernel
def d_X7_drop_24 : Nat → Nat → Nat → Int32 → Hp → Option (Int32 × Hp)
  | 0, _, _, _, _ => none
  | n_ + 1, x0, x2, x3, G =>
    gd (hc G x0 = 8) <|
    if ((hi G x0 6)) ≤ x3 then
      bd (sI G x0 6 ((((hi G x0 6)) - 1))) fun G3 =>
      gd (hc G3 x0 = 8) <|
      gd ((hc G3 ((hr G3 x0 4)) = 13 ∧ ix ((hi G3 x0 6)) (hl G3 ((hr G3 x0 4)))) ∧ (x2 = 0 ∨ hc G3 x2 = 1)) <|
      bd (sR G3 ((hr G3 x0 4)) ((hi G3 x0 6)).toNatClampNeg x2) fun G6 =>
      some (1, G6)
    else
      gd (hc G ((hr G x0 4)) = 13 ∧ ix x3 (hl G ((hr G x0 4)))) <|
      gd ((hc G ((hr G x0 4)) = 13 ∧ ix ((x3 - 1)) (hl G ((hr G x0 4)))) ∧ (((hr G ((hr G x0 4)) x3.toNatClampNeg)) = 0 ∨ hc G ((hr G ((hr G x0 4)) x3.toNatClampNeg)) = 1)) <|
      bd (sR G ((hr G x0 4)) ((x3 - 1)).toNatClampNeg ((hr G ((hr G x0 4)) x3.toNatClampNeg))) fun G9 =>
      d_X7_drop_24 n_ x0 x2 ((x3 + 1)) G9
def d_X7_drop (x0 : Nat) (x1 : Int32) (G : Hp) : Option (Int32 × Hp) :=
  gd (hc G x0 = 8) <|
  bo (d_X8_isIn x1 ((hi G x0 6)) G) fun v3 =>
  if v3 = 0 then
    some (0, G)
  else
    gd (hc G ((hr G x0 4)) = 13 ∧ ix x1 (hl G ((hr G x0 4)))) <|
    bd ((hr G ((hr G x0 4)) x1.toNatClampNeg)) fun v6 =>
    d_X7_drop_24 FU x0 v6 ((x1 + 1)) G
section
variable {p : Program} {l : Launch} {e : Env} {s : State} {m : MethodId} {args : Array Value} {below : List Frame} {meth : Method} {c : Code} {b0 : Nat} {D : va_G} {E : Nat → ClassId}
set_option maxHeartbeats 4000000 in
set_option maxRecDepth 100000 in
theorem k_X7_drop_24 (C : Cx p s m args meth c RX7 cX7_drop 4 (some .boolean) b0 D E) {rr : Int32} {GG : Hp} : ∀ (n_ : Nat) {x0 : Nat} {x2 : Nat} {x3 : Int32} {G : Hp} {ls : Array Slot} {H : Heap} {locs : List Loc}, lx ls 4 [(0, .inr x0), (2, .inr x2), (3, .inl x3)] → Rp b0 D E G H → SS b0 s H locs → d_X7_drop_24 n_ x0 x2 x3 G = some (rr, GG) → W p l e (rmd 1 (0) (0)) s m args below meth c H locs (0) (0) (MQ below (CQ b0 D E (some (.int rr)) GG) args s (0) (0) (fun q => b0 ≤ q)) (F0 m 24 ls []) := by
  intro n_
  induction n_ with
  | zero =>
    intro x0 x2 x3 G ls H locs hL hR hS hd
    cases (show (none : Option _) = some _ from hd)
  | succ n_ ih =>
    intro x0 x2 x3 G ls H locs hL hR hS hd
    rw [d_X7_drop_24.eq_2] at hd
    have hx := C.1
    have hb := C.2.1
    refine x_iload_n C dX7_drop_24 hL 2 rfl ?_
    refine x_aload_n C dX7_drop_25 hL 0 rfl ?_
    obtain ⟨g1, hd⟩ := gd_ex hd
    refine r_geti (ci := 7) (k := 6) C fl_X7_32 rfl dX7_drop_26 hR g1 ?_
    refine lv_icmp_ge (tgt := 52) hx hb dX7_drop_29 (by decide) (fun c2 => ?_) (fun c2 => ?_)
    · rw [if_pos c2] at hd
      refine x_aload_n C dX7_drop_52 hL 0 rfl ?_
      refine lv_dup hx hb dX7_drop_53 (rv_cat _) ?_
      refine r_geti (ci := 7) (k := 6) C fl_X7_32 rfl dX7_drop_54 hR g1 ?_
      refine lv_iconst (v := 1) hx hb dX7_drop_57 (by decide) ?_
      refine lv_isub hx hb dX7_drop_58 ?_
      obtain ⟨G3, eG3, hd⟩ := bd_ex hd
      refine r_puti (ci := 7) (k := 6) C fl_X7_32 rfl (Or.inl rfl) dX7_drop_59 hR hS g1 (fun H locs hR hS => ?_)
      replace hR : Rp b0 D E G3 H := by rw [eG3]; exact hR
      refine x_aload_n C dX7_drop_62 hL 0 rfl ?_
      obtain ⟨g4, hd⟩ := gd_ex hd
      refine r_getr (ci := 7) (k := 4) C fl_X7_25 rfl dX7_drop_63 hR g4 ?_
      refine x_aload_n C dX7_drop_66 hL 0 rfl ?_
      refine r_geti (ci := 7) (k := 6) C fl_X7_32 rfl dX7_drop_67 hR g4 ?_
      refine x_aload_n C dX7_drop_70 hL 1 rfl ?_
      obtain ⟨g5, hd⟩ := gd_ex hd
      obtain ⟨G6, eG6, hd⟩ := bd_ex hd
      refine r_aast (ci := 0) C (by decide) (by decide) dX7_drop_71 hR hS g5 (fun H locs hR hS => ?_)
      replace hR : Rp b0 D E G6 H := by rw [eG6]; exact hR
      refine lv_iconst (v := 1) hx hb dX7_drop_72 (by decide) ?_
      cases hd
      exact r_zret C (by decide) dX7_drop_73 hR hS
    · rw [if_neg c2] at hd
      refine x_aload_n C dX7_drop_32 hL 0 rfl ?_
      refine r_getr (ci := 7) (k := 4) C fl_X7_25 rfl dX7_drop_33 hR g1 ?_
      refine x_iload_n C dX7_drop_36 hL 2 rfl ?_
      refine lv_iconst (v := 1) hx hb dX7_drop_37 (by decide) ?_
      refine lv_isub hx hb dX7_drop_38 ?_
      refine x_aload_n C dX7_drop_39 hL 0 rfl ?_
      refine r_getr (ci := 7) (k := 4) C fl_X7_25 rfl dX7_drop_40 hR g1 ?_
      refine x_iload_n C dX7_drop_43 hL 2 rfl ?_
      obtain ⟨g7, hd⟩ := gd_ex hd
      refine r_aald (ci := 0) C (by decide) dX7_drop_44 hR g7 ?_
      obtain ⟨g8, hd⟩ := gd_ex hd
      obtain ⟨G9, eG9, hd⟩ := bd_ex hd
      refine r_aast (ci := 0) C (by decide) (by decide) dX7_drop_45 hR hS g8 (fun H locs hR hS => ?_)
      replace hR : Rp b0 D E G9 H := by rw [eG9]; exact hR
      refine x_iinc (lv' := [(3, .inl ((x3 + 1))), (0, .inr x0), (2, .inr x2)]) C dX7_drop_46 hL 2 rfl rfl (by decide) rfl (fun ls hL => ?_)
      refine lv_goto (tgt := 24) hx hb dX7_drop_49 (by decide) ?_
      exact ih (lx_sub hL [1, 2, 0] rfl) hR hS hd
set_option maxHeartbeats 4000000 in
set_option maxRecDepth 100000 in
theorem k_X7_drop (C : Cx p s m args meth c RX7 cX7_drop 4 (some .boolean) b0 D E) {rr : Int32} {GG : Hp} {x0 : Nat} {x1 : Int32} {G : Hp} {ls : Array Slot} {H : Heap} {locs : List Loc} : lx ls 4 [(0, .inr x0), (1, .inl x1)] → Rp b0 D E G H → SS b0 s H locs → d_X7_drop x0 x1 G = some (rr, GG) → W p l e (rmd 1 (0) (0)) s m args below meth c H locs (0) (0) (MQ below (CQ b0 D E (some (.int rr)) GG) args s (0) (0) (fun q => b0 ≤ q)) (F0 m 0 ls []) := by
  intro hL hR hS hd
  unfold d_X7_drop at hd
  have hx := C.1
  have hb := C.2.1
  refine x_iload_n C dX7_drop_0 hL 1 rfl ?_
  refine x_aload_n C dX7_drop_1 hL 0 rfl ?_
  obtain ⟨g1, hd⟩ := gd_ex hd
  refine r_geti (ci := 7) (k := 6) C fl_X7_32 rfl dX7_drop_2 hR g1 ?_
  obtain ⟨v3, h2, hd⟩ := bo_ex hd
  refine r_callSN (As := [.int x1, .int ((hi G x0 6))]) C (ct_X8_isIn h2) mf_X8_isIn (by decide +kernel) ms_X8_isIn rfl ⟨Nat.le_of_ble_eq_true rfl, Nat.le_of_ble_eq_true rfl⟩ dX7_drop_5 (lx_size hL) rfl hR hS ⟨Nat.le_refl _, Nat.le_refl _⟩ (cat_le [] (Nat.le_of_ble_eq_true rfl)) (fun H locs hR hS => ?_)
  refine W_st (st2 := [.int v3]) rfl ?_
  refine lv_if_ne (tgt := 13) hx hb dX7_drop_8 (by decide) (fun c4 => ?_) (fun c4 => ?_)
  · rw [if_neg c4] at hd
    refine x_aload_n C dX7_drop_13 hL 0 rfl ?_
    refine r_getr (ci := 7) (k := 4) C fl_X7_25 rfl dX7_drop_14 hR g1 ?_
    refine x_iload_n C dX7_drop_17 hL 1 rfl ?_
    obtain ⟨g5, hd⟩ := gd_ex hd
    refine r_aald (ci := 0) C (by decide) dX7_drop_18 hR g5 ?_
    obtain ⟨v6, ev6, hd⟩ := bd_ex hd
    rw [← ev6]
    refine x_astore_n (lv' := [(2, .inr v6), (0, .inr x0), (1, .inl x1)]) C dX7_drop_19 hL (by decide) rfl (fun ls hL => ?_)
    refine x_iload_n C dX7_drop_20 hL 2 rfl ?_
    refine lv_iconst (v := 1) hx hb dX7_drop_21 (by decide) ?_
    refine lv_iadd hx hb dX7_drop_22 ?_
    refine x_istore_n (lv' := [(3, .inl ((x1 + 1))), (2, .inr v6), (0, .inr x0), (1, .inl x1)]) C dX7_drop_23 hL (by decide) rfl (fun ls hL => ?_)
    exact k_X7_drop_24 C FU (lx_sub hL [2, 1, 0] rfl) hR hS hd
  · rw [if_pos c4] at hd
    refine lv_iconst (v := 0) hx hb dX7_drop_11 (by decide) ?_
    cases hd
    exact r_zret C (by decide) dX7_drop_12 hR hS
end
set_option maxHeartbeats 4000000 in
set_option maxRecDepth 100000 in
theorem ct_X7_drop {l : Launch} {b0 : Nat} {D : va_G} {E : Nat → ClassId} {G : Hp} {a0 : Nat} {a1 : Int32} {rr : Int32} {GG : Hp} (hd : d_X7_drop a0 a1 G = some (rr, GG)) : CT l yX7_drop cX7_drop 4 (some .boolean) 1 0 0 b0 D E [rv a0, .int a1] G (some (.int rr)) GG := by
  refine CT_of (by decide +kernel) ?_
  intro p e s m below meth c C hnm hR
  refine r_entry [.inr a0, .inl a1] (n := 4) (Nat.le_of_ble_eq_true rfl) (lv := [(0, .inr a0), (1, .inl a1)]) rfl (fun ls hL => ?_)
  exact k_X7_drop C (lx_sub hL [0, 1] rfl) hR ⟨fun _ _ => rfl, fun _ h => by cases h⟩ hd

/-! GroveWorks.makeRouter(LGroveWorks$Net;I)LGroveWorks$Router; makes -/
theorem dX8_makeRouter_0 : decode cX8_makeRouter 0 = .ok (.iconst 4, 1) := by decide +kernel
theorem dX8_makeRouter_1 : decode cX8_makeRouter 1 = .ok (.anewarray 47, 3) := by decide +kernel
theorem dX8_makeRouter_4 : decode cX8_makeRouter 4 = .ok (.astore_n 2, 1) := by decide +kernel
theorem dX8_makeRouter_5 : decode cX8_makeRouter 5 = .ok (.bipush 8, 2) := by decide +kernel
theorem dX8_makeRouter_7 : decode cX8_makeRouter 7 = .ok (.anewarray 49, 3) := by decide +kernel
theorem dX8_makeRouter_10 : decode cX8_makeRouter 10 = .ok (.astore_n 3, 1) := by decide +kernel
theorem dX8_makeRouter_11 : decode cX8_makeRouter 11 = .ok (.iconst 0, 1) := by decide +kernel
theorem dX8_makeRouter_12 : decode cX8_makeRouter 12 = .ok (.istore 4, 2) := by decide +kernel
theorem dX8_makeRouter_14 : decode cX8_makeRouter 14 = .ok (.iload 4, 2) := by decide +kernel
theorem dX8_makeRouter_16 : decode cX8_makeRouter 16 = .ok (.bipush 8, 2) := by decide +kernel
theorem dX8_makeRouter_18 : decode cX8_makeRouter 18 = .ok (.if_icmp .ge 25, 3) := by decide +kernel
theorem dX8_makeRouter_21 : decode cX8_makeRouter 21 = .ok (.aload_n 3, 1) := by decide +kernel
theorem dX8_makeRouter_22 : decode cX8_makeRouter 22 = .ok (.iload 4, 2) := by decide +kernel
theorem dX8_makeRouter_24 : decode cX8_makeRouter 24 = .ok (.new 49, 3) := by decide +kernel
theorem dX8_makeRouter_27 : decode cX8_makeRouter 27 = .ok (.dup, 1) := by decide +kernel
theorem dX8_makeRouter_28 : decode cX8_makeRouter 28 = .ok (.aload_n 0, 1) := by decide +kernel
theorem dX8_makeRouter_29 : decode cX8_makeRouter 29 = .ok (.iload_n 1, 1) := by decide +kernel
theorem dX8_makeRouter_30 : decode cX8_makeRouter 30 = .ok (.iload 4, 2) := by decide +kernel
theorem dX8_makeRouter_32 : decode cX8_makeRouter 32 = .ok (.aload_n 2, 1) := by decide +kernel
theorem dX8_makeRouter_33 : decode cX8_makeRouter 33 = .ok (.invokespecial 51, 3) := by decide +kernel
theorem dX8_makeRouter_36 : decode cX8_makeRouter 36 = .ok (.aastore, 1) := by decide +kernel
theorem dX8_makeRouter_37 : decode cX8_makeRouter 37 = .ok (.iinc 4 1, 3) := by decide +kernel
theorem dX8_makeRouter_40 : decode cX8_makeRouter 40 = .ok (.goto (-26), 3) := by decide +kernel
theorem dX8_makeRouter_43 : decode cX8_makeRouter 43 = .ok (.new 37, 3) := by decide +kernel
theorem dX8_makeRouter_46 : decode cX8_makeRouter 46 = .ok (.dup, 1) := by decide +kernel
theorem dX8_makeRouter_47 : decode cX8_makeRouter 47 = .ok (.aload_n 0, 1) := by decide +kernel
theorem dX8_makeRouter_48 : decode cX8_makeRouter 48 = .ok (.iload_n 1, 1) := by decide +kernel
theorem dX8_makeRouter_49 : decode cX8_makeRouter 49 = .ok (.aload_n 2, 1) := by decide +kernel
theorem dX8_makeRouter_50 : decode cX8_makeRouter 50 = .ok (.aload_n 3, 1) := by decide +kernel
theorem dX8_makeRouter_51 : decode cX8_makeRouter 51 = .ok (.invokespecial 54, 3) := by decide +kernel
theorem dX8_makeRouter_54 : decode cX8_makeRouter 54 = .ok (.areturn, 1) := by decide +kernel
def d_X8_makeRouter_14 : Nat → Nat → Int32 → Nat → Nat → Int32 → Hp → Option (Nat × Hp)
  | 0, _, _, _, _, _, _ => none
  | n_ + 1, x0, x1, x2, x3, x4, G =>
    mP G <|
    if 8 ≤ x4 then
      bd (hn G) fun q2 =>
      bd (nC G 5 0 4) fun G3 =>
      mP G3 <|
      gd (hc G3 q2 = 5) <|
      bo (d_X4_init q2 x0 x1 x2 x3 G3) fun G6 =>
      gd (hn G6 = hn G3 ∧ hs G6 = hs G3) <|
      some (q2, G6)
    else
      bd (hn G) fun q8 =>
      bd (nC G 6 0 16) fun G9 =>
      mP G9 <|
      gd (hc G9 q8 = 6) <|
      bo (d_X5_init q8 x0 x1 x4 x2 G9) fun G12 =>
      gd (hn G9 ≤ hn G12 ∧ hs G9 ≤ hs G12) <|
      mP G12 <|
      gd ((hc G12 x3 = 18 ∧ ix x4 (hl G12 x3)) ∧ (q8 = 0 ∨ hc G12 q8 = 6)) <|
      bd (sR G12 x3 x4.toNatClampNeg q8) fun G15 =>
      d_X8_makeRouter_14 n_ x0 x1 x2 x3 ((x4 + 1)) G15
def d_X8_makeRouter (x0 : Nat) (x1 : Int32) (G : Hp) : Option (Nat × Hp) :=
  mP G <|
  bd (hn G) fun q1 =>
  bd (nC G 16 (4 : Int32).toNatClampNeg (4 : Int32).toNatClampNeg) fun G2 =>
  mP G2 <|
  bd (hn G2) fun q3 =>
  bd (nC G2 18 (8 : Int32).toNatClampNeg (8 : Int32).toNatClampNeg) fun G4 =>
  mP G4 <|
  d_X8_makeRouter_14 FU x0 x1 q1 q3 0 G4
section
variable {p : Program} {l : Launch} {e : Env} {s : State} {m : MethodId} {args : Array Value} {below : List Frame} {meth : Method} {c : Code} {b0 : Nat} {D : va_G} {E : Nat → ClassId}
set_option maxHeartbeats 4000000 in
set_option maxRecDepth 100000 in
theorem k_X8_makeRouter_14 (C : Cx p s m args meth c RX8 cX8_makeRouter 5 (some (.object "GroveWorks$Router")) b0 D E) {rr : Nat} {GG : Hp} {n0 s0 : Nat} : ∀ (n_ : Nat) {x0 : Nat} {x1 : Int32} {x2 : Nat} {x3 : Nat} {x4 : Int32} {G : Hp} {ls : Array Slot} {H : Heap} {locs : List Loc}, lx ls 5 [(0, .inr x0), (1, .inl x1), (2, .inr x2), (3, .inr x3), (4, .inl x4)] → Rp b0 D E G H → SS b0 s H locs → b0 ≤ hn G → (n0 ≤ hn G ∧ s0 ≤ hs G) → d_X8_makeRouter_14 n_ x0 x1 x2 x3 x4 G = some (rr, GG) → W p l e (rmd 2 (hn GG - n0) (hs GG - s0)) s m args below meth c H locs (hn G - n0) (hs G - s0) (MQ below (CQ b0 D E (some (rv rr)) GG) args s (hn GG - n0) (hs GG - s0) (fun q => b0 ≤ q)) (F0 m 14 ls []) := by
  intro n_
  induction n_ with
  | zero =>
    intro x0 x1 x2 x3 x4 G ls H locs hL hR hS hB hZ hd
    cases (show (none : Option _) = some _ from hd)
  | succ n_ ih =>
    intro x0 x1 x2 x3 x4 G ls H locs hL hR hS hB hZ hd
    rw [d_X8_makeRouter_14.eq_2] at hd
    obtain ⟨hM, hd⟩ := mP_ex hd
    have hx := C.1
    have hb := C.2.1
    refine x_iload C dX8_makeRouter_14 hL 4 rfl ?_
    refine lv_bipush (v := 8) hx hb dX8_makeRouter_16 (by decide) ?_
    refine lv_icmp_ge (tgt := 43) hx hb dX8_makeRouter_18 (by decide) (fun c1 => ?_) (fun c1 => ?_)
    · rw [if_pos c1] at hd
      obtain ⟨q2, eq2, hd⟩ := bd_ex hd
      obtain ⟨G3, eG3, hd⟩ := bd_ex hd
      obtain ⟨hM, hd⟩ := mP_ex hd
      have hm1 : hn G3 = hn G + 1 ∧ hs G3 = hs G + 4 := by rw [eG3]; exact ⟨rfl, rfl⟩
      refine r_new (ci := 4) C (by decide) cl_X8_37 dX8_makeRouter_43 hR hS hB hZ ⟨by show hn G + 1 - n0 ≤ hn GG - n0; omega, by show hs G + 4 - s0 ≤ hs GG - s0; omega⟩ (fun H locs hR hS => ?_)
      rw [← eq2]
      refine W_cs (c2 := hn G3 - n0) (s2 := hs G3 - s0) (by rw [eG3] <;> rfl) (by rw [eG3] <;> rfl) ?_
      replace hR : Rp b0 D E G3 H := by rw [eG3]; exact hR
      replace hB : b0 ≤ hn G3 := by omega
      replace hZ : n0 ≤ hn G3 ∧ s0 ≤ hs G3 := by omega
      refine lv_dup hx hb dX8_makeRouter_46 (rv_cat _) ?_
      refine x_aload_n C dX8_makeRouter_47 hL 0 rfl ?_
      refine x_iload_n C dX8_makeRouter_48 hL 1 rfl ?_
      refine x_aload_n C dX8_makeRouter_49 hL 2 rfl ?_
      refine x_aload_n C dX8_makeRouter_50 hL 3 rfl ?_
      obtain ⟨g4, hd⟩ := gd_ex hd
      obtain ⟨G6, h5, hd⟩ := bo_ex hd
      obtain ⟨g7, hd⟩ := gd_ex hd
      refine r_callI (a := q2) (As := [rv x0, .int x1, rv x2, rv x3]) C (ct_X4_init h5) mf_X4_init ml_X8_54 mi_X4_init rfl ⟨Nat.le_of_ble_eq_true rfl, Nat.le_of_ble_eq_true rfl⟩ dX8_makeRouter_51 (lx_size hL) rfl hR hS (by rw [g4]; decide) ⟨by show hn G3 - n0 ≤ hn GG - n0; omega, by show hs G3 - s0 ≤ hs GG - s0; omega⟩ (cat_le [.inr q2] (Nat.le_of_ble_eq_true rfl)) (fun H locs hR hS => ?_)
      refine W_st (st2 := [rv q2]) rfl ?_
      refine W_cs (c2 := hn G6 - n0) (s2 := hs G6 - s0) (by first | rfl | omega) (by first | rfl | omega) ?_
      replace hB : b0 ≤ hn G6 := by omega
      replace hZ : n0 ≤ hn G6 ∧ s0 ≤ hs G6 := by omega
      replace hM : hn G6 ≤ hn GG ∧ hs G6 ≤ hs GG := by omega
      cases hd
      exact r_aret C dX8_makeRouter_54 hR hS
    · rw [if_neg c1] at hd
      refine x_aload_n C dX8_makeRouter_21 hL 3 rfl ?_
      refine x_iload C dX8_makeRouter_22 hL 4 rfl ?_
      obtain ⟨q8, eq8, hd⟩ := bd_ex hd
      obtain ⟨G9, eG9, hd⟩ := bd_ex hd
      obtain ⟨hM, hd⟩ := mP_ex hd
      have hm1 : hn G9 = hn G + 1 ∧ hs G9 = hs G + 16 := by rw [eG9]; exact ⟨rfl, rfl⟩
      refine r_new (ci := 5) C (by decide) cl_X8_49 dX8_makeRouter_24 hR hS hB hZ ⟨by show hn G + 1 - n0 ≤ hn GG - n0; omega, by show hs G + 16 - s0 ≤ hs GG - s0; omega⟩ (fun H locs hR hS => ?_)
      rw [← eq8]
      refine W_cs (c2 := hn G9 - n0) (s2 := hs G9 - s0) (by rw [eG9] <;> rfl) (by rw [eG9] <;> rfl) ?_
      replace hR : Rp b0 D E G9 H := by rw [eG9]; exact hR
      replace hB : b0 ≤ hn G9 := by omega
      replace hZ : n0 ≤ hn G9 ∧ s0 ≤ hs G9 := by omega
      refine lv_dup hx hb dX8_makeRouter_27 (rv_cat _) ?_
      refine x_aload_n C dX8_makeRouter_28 hL 0 rfl ?_
      refine x_iload_n C dX8_makeRouter_29 hL 1 rfl ?_
      refine x_iload C dX8_makeRouter_30 hL 4 rfl ?_
      refine x_aload_n C dX8_makeRouter_32 hL 2 rfl ?_
      obtain ⟨g10, hd⟩ := gd_ex hd
      obtain ⟨G12, h11, hd⟩ := bo_ex hd
      obtain ⟨g13, hd⟩ := gd_ex hd
      obtain ⟨hM, hd⟩ := mP_ex hd
      refine r_callI (a := q8) (As := [rv x0, .int x1, .int x4, rv x2]) C (ct_X5_init hB h11) mf_X5_init ml_X8_51 mi_X5_init rfl ⟨Nat.le_of_ble_eq_true rfl, Nat.le_of_ble_eq_true rfl⟩ dX8_makeRouter_33 (lx_size hL) rfl hR hS (by rw [g10]; decide) ⟨by show hn G9 - n0 + (hn G12 - hn G9) ≤ hn GG - n0; omega, by show hs G9 - s0 + (hs G12 - hs G9) ≤ hs GG - s0; omega⟩ (cat_le [.inr q8, .inl x4, .inr x3] (Nat.le_of_ble_eq_true rfl)) (fun H locs hR hS => ?_)
      refine W_st (st2 := [rv q8, .int x4, rv x3]) rfl ?_
      refine W_cs (c2 := hn G12 - n0) (s2 := hs G12 - s0) (by first | rfl | omega) (by first | rfl | omega) ?_
      replace hB : b0 ≤ hn G12 := by omega
      replace hZ : n0 ≤ hn G12 ∧ s0 ≤ hs G12 := by omega
      obtain ⟨g14, hd⟩ := gd_ex hd
      obtain ⟨G15, eG15, hd⟩ := bd_ex hd
      refine r_aast (ci := 5) C (by decide) (by decide) dX8_makeRouter_36 hR hS g14 (fun H locs hR hS => ?_)
      replace hR : Rp b0 D E G15 H := by rw [eG15]; exact hR
      refine W_cs (c2 := hn G15 - n0) (s2 := hs G15 - s0) (by rw [eG15] <;> rfl) (by rw [eG15] <;> rfl) ?_
      replace hB : b0 ≤ hn G15 := by rw [eG15]; exact hB
      replace hZ : n0 ≤ hn G15 ∧ s0 ≤ hs G15 := by rw [eG15]; exact hZ
      replace hM : hn G15 ≤ hn GG ∧ hs G15 ≤ hs GG := by rw [eG15]; exact hM
      refine x_iinc (lv' := [(4, .inl ((x4 + 1))), (0, .inr x0), (1, .inl x1), (2, .inr x2), (3, .inr x3)]) C dX8_makeRouter_37 hL 4 rfl rfl (by decide) rfl (fun ls hL => ?_)
      refine lv_goto (tgt := 14) hx hb dX8_makeRouter_40 (by decide) ?_
      exact ih (lx_sub hL [1, 2, 3, 4, 0] rfl) hR hS hB hZ hd
set_option maxHeartbeats 4000000 in
set_option maxRecDepth 100000 in
theorem k_X8_makeRouter (C : Cx p s m args meth c RX8 cX8_makeRouter 5 (some (.object "GroveWorks$Router")) b0 D E) {rr : Nat} {GG : Hp} {n0 s0 : Nat} {x0 : Nat} {x1 : Int32} {G : Hp} {ls : Array Slot} {H : Heap} {locs : List Loc} : lx ls 5 [(0, .inr x0), (1, .inl x1)] → Rp b0 D E G H → SS b0 s H locs → b0 ≤ hn G → (n0 ≤ hn G ∧ s0 ≤ hs G) → d_X8_makeRouter x0 x1 G = some (rr, GG) → W p l e (rmd 2 (hn GG - n0) (hs GG - s0)) s m args below meth c H locs (hn G - n0) (hs G - s0) (MQ below (CQ b0 D E (some (rv rr)) GG) args s (hn GG - n0) (hs GG - s0) (fun q => b0 ≤ q)) (F0 m 0 ls []) := by
  intro hL hR hS hB hZ hd
  unfold d_X8_makeRouter at hd
  obtain ⟨hM, hd⟩ := mP_ex hd
  have hx := C.1
  have hb := C.2.1
  refine lv_iconst (v := 4) hx hb dX8_makeRouter_0 (by decide) ?_
  obtain ⟨q1, eq1, hd⟩ := bd_ex hd
  obtain ⟨G2, eG2, hd⟩ := bd_ex hd
  obtain ⟨hM, hd⟩ := mP_ex hd
  have hm1 : hn G2 = hn G + 1 ∧ hs G2 = hs G + (4 : Int32).toNatClampNeg := by rw [eG2]; exact ⟨rfl, rfl⟩
  refine r_anew (ci := 3) C (by decide) cl_X8_47 dX8_makeRouter_1 hR hS hB hZ (by decide) ⟨by show hn G + 1 - n0 ≤ hn GG - n0; omega, by show hs G + (4 : Int32).toNatClampNeg - s0 ≤ hs GG - s0; omega⟩ (fun H locs hR hS => ?_)
  rw [← eq1]
  refine W_cs (c2 := hn G2 - n0) (s2 := hs G2 - s0) (by rw [eG2] <;> rfl) (by rw [eG2] <;> rfl) ?_
  replace hR : Rp b0 D E G2 H := by rw [eG2]; exact hR
  replace hB : b0 ≤ hn G2 := by omega
  replace hZ : n0 ≤ hn G2 ∧ s0 ≤ hs G2 := by omega
  refine x_astore_n (lv' := [(2, .inr q1), (0, .inr x0), (1, .inl x1)]) C dX8_makeRouter_4 hL (by decide) rfl (fun ls hL => ?_)
  refine lv_bipush (v := 8) hx hb dX8_makeRouter_5 (by decide) ?_
  obtain ⟨q3, eq3, hd⟩ := bd_ex hd
  obtain ⟨G4, eG4, hd⟩ := bd_ex hd
  obtain ⟨hM, hd⟩ := mP_ex hd
  have hm1 : hn G4 = hn G2 + 1 ∧ hs G4 = hs G2 + (8 : Int32).toNatClampNeg := by rw [eG4]; exact ⟨rfl, rfl⟩
  refine r_anew (ci := 5) C (by decide) cl_X8_49 dX8_makeRouter_7 hR hS hB hZ (by decide) ⟨by show hn G2 + 1 - n0 ≤ hn GG - n0; omega, by show hs G2 + (8 : Int32).toNatClampNeg - s0 ≤ hs GG - s0; omega⟩ (fun H locs hR hS => ?_)
  rw [← eq3]
  refine W_cs (c2 := hn G4 - n0) (s2 := hs G4 - s0) (by rw [eG4] <;> rfl) (by rw [eG4] <;> rfl) ?_
  replace hR : Rp b0 D E G4 H := by rw [eG4]; exact hR
  replace hB : b0 ≤ hn G4 := by omega
  replace hZ : n0 ≤ hn G4 ∧ s0 ≤ hs G4 := by omega
  refine x_astore_n (lv' := [(3, .inr q3), (2, .inr q1), (0, .inr x0), (1, .inl x1)]) C dX8_makeRouter_10 hL (by decide) rfl (fun ls hL => ?_)
  refine lv_iconst (v := 0) hx hb dX8_makeRouter_11 (by decide) ?_
  refine x_istore (lv' := [(4, .inl 0), (3, .inr q3), (2, .inr q1), (0, .inr x0), (1, .inl x1)]) C dX8_makeRouter_12 hL (by decide) rfl (fun ls hL => ?_)
  exact k_X8_makeRouter_14 C FU (lx_sub hL [3, 4, 2, 1, 0] rfl) hR hS hB hZ hd
end
set_option maxHeartbeats 4000000 in
set_option maxRecDepth 100000 in
theorem ct_X8_makeRouter {l : Launch} {b0 : Nat} {D : va_G} {E : Nat → ClassId} {G : Hp} {a0 : Nat} {a1 : Int32} {rr : Nat} {GG : Hp} (hB : b0 ≤ hn G) (hd : d_X8_makeRouter a0 a1 G = some (rr, GG)) : CT l yX8_makeRouter cX8_makeRouter 5 (some (.object "GroveWorks$Router")) 2 (hn GG - hn G) (hs GG - hs G) b0 D E [rv a0, .int a1] G (some (rv rr)) GG := by
  refine CT_of (by decide +kernel) ?_
  intro p e s m below meth c C hnm hR
  refine r_entry [.inr a0, .inl a1] (n := 5) (Nat.le_of_ble_eq_true rfl) (lv := [(0, .inr a0), (1, .inl a1)]) rfl (fun ls hL => ?_)
  have k := k_X8_makeRouter (n0 := hn G) (s0 := hs G) (l := l) (e := e) (below := below) (H := s.heap) (locs := []) C (lx_sub hL [0, 1] rfl) hR ⟨fun _ _ => rfl, fun _ h => by cases h⟩ hB ⟨Nat.le_refl _, Nat.le_refl _⟩ hd
  rw [Nat.sub_self, Nat.sub_self] at k
  exact k

/-! GroveWorks.<init>(I)V makes -/
theorem dX8_init_0 : decode cX8_init 0 = .ok (.aload_n 0, 1) := by decide +kernel
theorem dX8_init_1 : decode cX8_init 1 = .ok (.invokespecial 3, 3) := by decide +kernel
theorem dX8_init_4 : decode cX8_init 4 = .ok (.aload_n 0, 1) := by decide +kernel
theorem dX8_init_5 : decode cX8_init 5 = .ok (.bipush 16, 2) := by decide +kernel
theorem dX8_init_7 : decode cX8_init 7 = .ok (.anewarray 9, 3) := by decide +kernel
theorem dX8_init_10 : decode cX8_init 10 = .ok (.putfield 11, 3) := by decide +kernel
theorem dX8_init_13 : decode cX8_init 13 = .ok (.aload_n 0, 1) := by decide +kernel
theorem dX8_init_14 : decode cX8_init 14 = .ok (.iconst 0, 1) := by decide +kernel
theorem dX8_init_15 : decode cX8_init 15 = .ok (.putfield 15, 3) := by decide +kernel
theorem dX8_init_18 : decode cX8_init 18 = .ok (.iconst 1, 1) := by decide +kernel
theorem dX8_init_19 : decode cX8_init 19 = .ok (.bipush 10, 2) := by decide +kernel
theorem dX8_init_21 : decode cX8_init 21 = .ok (.iload_n 1, 1) := by decide +kernel
theorem dX8_init_22 : decode cX8_init 22 = .ok (.invokestatic 19, 3) := by decide +kernel
theorem dX8_init_25 : decode cX8_init 25 = .ok (.invokestatic 25, 3) := by decide +kernel
theorem dX8_init_28 : decode cX8_init 28 = .ok (.istore_n 2, 1) := by decide +kernel
theorem dX8_init_29 : decode cX8_init 29 = .ok (.aload_n 0, 1) := by decide +kernel
theorem dX8_init_30 : decode cX8_init 30 = .ok (.new 28, 3) := by decide +kernel
theorem dX8_init_33 : decode cX8_init 33 = .ok (.dup, 1) := by decide +kernel
theorem dX8_init_34 : decode cX8_init 34 = .ok (.iload_n 2, 1) := by decide +kernel
theorem dX8_init_35 : decode cX8_init 35 = .ok (.invokespecial 30, 3) := by decide +kernel
theorem dX8_init_38 : decode cX8_init 38 = .ok (.putfield 33, 3) := by decide +kernel
theorem dX8_init_41 : decode cX8_init 41 = .ok (.aload_n 0, 1) := by decide +kernel
theorem dX8_init_42 : decode cX8_init 42 = .ok (.iload_n 2, 1) := by decide +kernel
theorem dX8_init_43 : decode cX8_init 43 = .ok (.anewarray 37, 3) := by decide +kernel
theorem dX8_init_46 : decode cX8_init 46 = .ok (.putfield 39, 3) := by decide +kernel
theorem dX8_init_49 : decode cX8_init 49 = .ok (.iconst 0, 1) := by decide +kernel
theorem dX8_init_50 : decode cX8_init 50 = .ok (.istore_n 3, 1) := by decide +kernel
theorem dX8_init_51 : decode cX8_init 51 = .ok (.iload_n 3, 1) := by decide +kernel
theorem dX8_init_52 : decode cX8_init 52 = .ok (.iload_n 2, 1) := by decide +kernel
theorem dX8_init_53 : decode cX8_init 53 = .ok (.if_icmp .ge 23, 3) := by decide +kernel
theorem dX8_init_56 : decode cX8_init 56 = .ok (.aload_n 0, 1) := by decide +kernel
theorem dX8_init_57 : decode cX8_init 57 = .ok (.getfield 39, 3) := by decide +kernel
theorem dX8_init_60 : decode cX8_init 60 = .ok (.iload_n 3, 1) := by decide +kernel
theorem dX8_init_61 : decode cX8_init 61 = .ok (.aload_n 0, 1) := by decide +kernel
theorem dX8_init_62 : decode cX8_init 62 = .ok (.getfield 33, 3) := by decide +kernel
theorem dX8_init_65 : decode cX8_init 65 = .ok (.iload_n 3, 1) := by decide +kernel
theorem dX8_init_66 : decode cX8_init 66 = .ok (.invokestatic 43, 3) := by decide +kernel
theorem dX8_init_69 : decode cX8_init 69 = .ok (.aastore, 1) := by decide +kernel
theorem dX8_init_70 : decode cX8_init 70 = .ok (.iinc 3 1, 3) := by decide +kernel
theorem dX8_init_73 : decode cX8_init 73 = .ok (.goto (-22), 3) := by decide +kernel
theorem dX8_init_76 : decode cX8_init 76 = .ok (.return_, 1) := by decide +kernel
def d_X8_init_51 : Nat → Nat → Int32 → Int32 → Hp → Option (Hp)
  | 0, _, _, _, _ => none
  | n_ + 1, x0, x2, x3, G =>
    mV G <|
    if x2 ≤ x3 then
      some G
    else
      gd (hc G x0 = 9) <|
      b2 (d_X8_makeRouter ((hr G x0 0)) x3 G) fun v4 G5 =>
      gd (hn G ≤ hn G5 ∧ hs G ≤ hs G5) <|
      mV G5 <|
      gd ((hc G5 ((hr G x0 1)) = 17 ∧ ix x3 (hl G5 ((hr G x0 1)))) ∧ (v4 = 0 ∨ hc G5 v4 = 5)) <|
      bd (sR G5 ((hr G x0 1)) x3.toNatClampNeg v4) fun G8 =>
      d_X8_init_51 n_ x0 x2 ((x3 + 1)) G8
def d_X8_init (x0 : Nat) (x1 : Int32) (G : Hp) : Option (Hp) :=
  mV G <|
  gd (hc G x0 = 9) <|
  bd (hn G) fun q2 =>
  bd (nC G 14 (16 : Int32).toNatClampNeg (16 : Int32).toNatClampNeg) fun G3 =>
  mV G3 <|
  gd (hc G3 x0 = 9) <|
  bd (sR G3 x0 2 q2) fun G5 =>
  gd (hc G5 x0 = 9) <|
  bd (sI G5 x0 3 0) fun G7 =>
  bd (hn G7) fun q8 =>
  bd (nC G7 3 0 6) fun G9 =>
  mV G9 <|
  gd (hc G9 q8 = 3) <|
  bo (d_X2_init q8 ((imax 1 ((imin 10 x1)))) G9) fun G12 =>
  gd (hn G9 ≤ hn G12 ∧ hs G9 ≤ hs G12) <|
  mV G12 <|
  gd (hc G12 x0 = 9) <|
  bd (sR G12 x0 0 q8) fun G15 =>
  bd (hn G15) fun q16 =>
  gd (0 ≤ ((imax 1 ((imin 10 x1)))).toInt ∧ ((imax 1 ((imin 10 x1)))).toInt ≤ 65536) <|
  bd (nC G15 17 ((imax 1 ((imin 10 x1)))).toNatClampNeg ((imax 1 ((imin 10 x1)))).toNatClampNeg) fun G18 =>
  mV G18 <|
  gd (hc G18 x0 = 9) <|
  bd (sR G18 x0 1 q16) fun G20 =>
  d_X8_init_51 FU x0 ((imax 1 ((imin 10 x1)))) 0 G20
section
variable {p : Program} {l : Launch} {e : Env} {s : State} {m : MethodId} {args : Array Value} {below : List Frame} {meth : Method} {c : Code} {b0 : Nat} {D : va_G} {E : Nat → ClassId}
set_option maxHeartbeats 4000000 in
set_option maxRecDepth 100000 in
theorem k_X8_init_51 (C : Cx p s m args meth c RX8 cX8_init 4 none b0 D E) (hnm : meth.name = "<init>") {GG : Hp} {n0 s0 : Nat} : ∀ (n_ : Nat) {x0 : Nat} {x2 : Int32} {x3 : Int32} {G : Hp} {ls : Array Slot} {H : Heap} {locs : List Loc}, lx ls 4 [(0, .inr x0), (2, .inl x2), (3, .inl x3)] → Rp b0 D E G H → SS b0 s H locs → b0 ≤ hn G → (n0 ≤ hn G ∧ s0 ≤ hs G) → d_X8_init_51 n_ x0 x2 x3 G = some GG → W p l e (rmd 3 (hn GG - n0) (hs GG - s0)) s m args below meth c H locs (hn G - n0) (hs G - s0) (MQ below (CQ b0 D E none GG) args s (hn GG - n0) (hs GG - s0) (fun q => b0 ≤ q)) (F0 m 51 ls []) := by
  intro n_
  induction n_ with
  | zero =>
    intro x0 x2 x3 G ls H locs hL hR hS hB hZ hd
    cases (show (none : Option _) = some _ from hd)
  | succ n_ ih =>
    intro x0 x2 x3 G ls H locs hL hR hS hB hZ hd
    rw [d_X8_init_51.eq_2] at hd
    obtain ⟨hM, hd⟩ := mV_ex hd
    have hx := C.1
    have hb := C.2.1
    refine x_iload_n C dX8_init_51 hL 2 rfl ?_
    refine x_iload_n C dX8_init_52 hL 1 rfl ?_
    refine lv_icmp_ge (tgt := 76) hx hb dX8_init_53 (by decide) (fun c1 => ?_) (fun c1 => ?_)
    · rw [if_pos c1] at hd
      cases hd
      exact r_vret C dX8_init_76 hR hS
    · rw [if_neg c1] at hd
      refine x_aload_n C dX8_init_56 hL 0 rfl ?_
      obtain ⟨g2, hd⟩ := gd_ex hd
      refine r_getr (ci := 8) (k := 1) C fl_X8_39 rfl dX8_init_57 hR g2 ?_
      refine x_iload_n C dX8_init_60 hL 2 rfl ?_
      refine x_aload_n C dX8_init_61 hL 0 rfl ?_
      refine r_getr (ci := 8) (k := 0) C fl_X8_33 rfl dX8_init_62 hR g2 ?_
      refine x_iload_n C dX8_init_65 hL 2 rfl ?_
      obtain ⟨v4, G5, h3, hd⟩ := b2_ex hd
      obtain ⟨g6, hd⟩ := gd_ex hd
      obtain ⟨hM, hd⟩ := mV_ex hd
      refine r_callS (As := [rv ((hr G x0 0)), .int x3]) C (ct_X8_makeRouter hB h3) mf_X8_makeRouter ml_X8_43 ms_X8_makeRouter rfl ⟨Nat.le_of_ble_eq_true rfl, Nat.le_of_ble_eq_true rfl⟩ dX8_init_66 (lx_size hL) rfl hR hS ⟨by show hn G - n0 + (hn G5 - hn G) ≤ hn GG - n0; omega, by show hs G - s0 + (hs G5 - hs G) ≤ hs GG - s0; omega⟩ (cat_le [.inl x3, .inr ((hr G x0 1))] (Nat.le_of_ble_eq_true rfl)) (fun H locs hR hS => ?_)
      refine W_st (st2 := [rv v4, .int x3, rv ((hr G x0 1))]) rfl ?_
      refine W_cs (c2 := hn G5 - n0) (s2 := hs G5 - s0) (by first | rfl | omega) (by first | rfl | omega) ?_
      replace hB : b0 ≤ hn G5 := by omega
      replace hZ : n0 ≤ hn G5 ∧ s0 ≤ hs G5 := by omega
      obtain ⟨g7, hd⟩ := gd_ex hd
      obtain ⟨G8, eG8, hd⟩ := bd_ex hd
      refine r_aast (ci := 4) C (by decide) (by decide) dX8_init_69 hR hS g7 (fun H locs hR hS => ?_)
      replace hR : Rp b0 D E G8 H := by rw [eG8]; exact hR
      refine W_cs (c2 := hn G8 - n0) (s2 := hs G8 - s0) (by rw [eG8] <;> rfl) (by rw [eG8] <;> rfl) ?_
      replace hB : b0 ≤ hn G8 := by rw [eG8]; exact hB
      replace hZ : n0 ≤ hn G8 ∧ s0 ≤ hs G8 := by rw [eG8]; exact hZ
      replace hM : hn G8 ≤ hn GG ∧ hs G8 ≤ hs GG := by rw [eG8]; exact hM
      refine x_iinc (lv' := [(3, .inl ((x3 + 1))), (0, .inr x0), (2, .inl x2)]) C dX8_init_70 hL 2 rfl rfl (by decide) rfl (fun ls hL => ?_)
      refine lv_goto (tgt := 51) hx hb dX8_init_73 (by decide) ?_
      exact ih (lx_sub hL [1, 2, 0] rfl) hR hS hB hZ hd
set_option maxHeartbeats 4000000 in
set_option maxRecDepth 100000 in
theorem k_X8_init (C : Cx p s m args meth c RX8 cX8_init 4 none b0 D E) (hnm : meth.name = "<init>") {GG : Hp} {n0 s0 : Nat} {x0 : Nat} {x1 : Int32} {G : Hp} {ls : Array Slot} {H : Heap} {locs : List Loc} : lx ls 4 [(0, .inr x0), (1, .inl x1)] → Rp b0 D E G H → SS b0 s H locs → b0 ≤ hn G → (n0 ≤ hn G ∧ s0 ≤ hs G) → d_X8_init x0 x1 G = some GG → W p l e (rmd 3 (hn GG - n0) (hs GG - s0)) s m args below meth c H locs (hn G - n0) (hs G - s0) (MQ below (CQ b0 D E none GG) args s (hn GG - n0) (hs GG - s0) (fun q => b0 ≤ q)) (F0 m 0 ls []) := by
  intro hL hR hS hB hZ hd
  unfold d_X8_init at hd
  obtain ⟨hM, hd⟩ := mV_ex hd
  have hx := C.1
  have hb := C.2.1
  refine x_aload_n C dX8_init_0 hL 0 rfl ?_
  obtain ⟨g1, hd⟩ := gd_ex hd
  refine r_objI (a := x0) C ml_X8_3 dX8_init_1 (lx_size hL) hR (by rw [g1]; decide) ⟨Nat.le_of_ble_eq_true rfl, Nat.le_of_ble_eq_true rfl⟩ (cat_le [] (Nat.le_of_ble_eq_true rfl)) ?_
  refine x_aload_n C dX8_init_4 hL 0 rfl ?_
  refine lv_bipush (v := 16) hx hb dX8_init_5 (by decide) ?_
  obtain ⟨q2, eq2, hd⟩ := bd_ex hd
  obtain ⟨G3, eG3, hd⟩ := bd_ex hd
  obtain ⟨hM, hd⟩ := mV_ex hd
  have hm1 : hn G3 = hn G + 1 ∧ hs G3 = hs G + (16 : Int32).toNatClampNeg := by rw [eG3]; exact ⟨rfl, rfl⟩
  refine r_anew (ci := 1) C (by decide) cl_X8_9 dX8_init_7 hR hS hB hZ (by decide) ⟨by show hn G + 1 - n0 ≤ hn GG - n0; omega, by show hs G + (16 : Int32).toNatClampNeg - s0 ≤ hs GG - s0; omega⟩ (fun H locs hR hS => ?_)
  rw [← eq2]
  refine W_cs (c2 := hn G3 - n0) (s2 := hs G3 - s0) (by rw [eG3] <;> rfl) (by rw [eG3] <;> rfl) ?_
  replace hR : Rp b0 D E G3 H := by rw [eG3]; exact hR
  replace hB : b0 ≤ hn G3 := by omega
  replace hZ : n0 ≤ hn G3 ∧ s0 ≤ hs G3 := by omega
  obtain ⟨g4, hd⟩ := gd_ex hd
  obtain ⟨G5, eG5, hd⟩ := bd_ex hd
  refine r_putr (ci := 8) (k := 2) C fl_X8_11 (Or.inr ⟨_, rfl⟩) (Or.inr ⟨rfl, hnm, rfl⟩) dX8_init_10 hR hS g4 (fun H locs hR hS => ?_)
  replace hR : Rp b0 D E G5 H := by rw [eG5]; exact hR
  refine W_cs (c2 := hn G5 - n0) (s2 := hs G5 - s0) (by rw [eG5] <;> rfl) (by rw [eG5] <;> rfl) ?_
  replace hB : b0 ≤ hn G5 := by rw [eG5]; exact hB
  replace hZ : n0 ≤ hn G5 ∧ s0 ≤ hs G5 := by rw [eG5]; exact hZ
  replace hM : hn G5 ≤ hn GG ∧ hs G5 ≤ hs GG := by rw [eG5]; exact hM
  refine x_aload_n C dX8_init_13 hL 0 rfl ?_
  refine lv_iconst (v := 0) hx hb dX8_init_14 (by decide) ?_
  obtain ⟨g6, hd⟩ := gd_ex hd
  obtain ⟨G7, eG7, hd⟩ := bd_ex hd
  refine r_puti (ci := 8) (k := 3) C fl_X8_15 rfl (Or.inl rfl) dX8_init_15 hR hS g6 (fun H locs hR hS => ?_)
  replace hR : Rp b0 D E G7 H := by rw [eG7]; exact hR
  refine W_cs (c2 := hn G7 - n0) (s2 := hs G7 - s0) (by rw [eG7] <;> rfl) (by rw [eG7] <;> rfl) ?_
  replace hB : b0 ≤ hn G7 := by rw [eG7]; exact hB
  replace hZ : n0 ≤ hn G7 ∧ s0 ≤ hs G7 := by rw [eG7]; exact hZ
  replace hM : hn G7 ≤ hn GG ∧ hs G7 ≤ hs GG := by rw [eG7]; exact hM
  refine lv_iconst (v := 1) hx hb dX8_init_18 (by decide) ?_
  refine lv_bipush (v := 10) hx hb dX8_init_19 (by decide) ?_
  refine x_iload_n C dX8_init_21 hL 1 rfl ?_
  refine r_mmin C ml_X8_19 dX8_init_22 (lx_size hL) ⟨Nat.le_of_ble_eq_true rfl, Nat.le_of_ble_eq_true rfl⟩ ⟨by show hn G7 - n0 ≤ hn GG - n0; omega, by show hs G7 - s0 ≤ hs GG - s0; omega⟩ (cat_le [.inl 1] (Nat.le_of_ble_eq_true rfl)) ?_
  refine r_mmax C ml_X8_25 dX8_init_25 (lx_size hL) ⟨Nat.le_of_ble_eq_true rfl, Nat.le_of_ble_eq_true rfl⟩ ⟨by show hn G7 - n0 ≤ hn GG - n0; omega, by show hs G7 - s0 ≤ hs GG - s0; omega⟩ (cat_le [] (Nat.le_of_ble_eq_true rfl)) ?_
  refine x_istore_n (lv' := [(2, .inl ((imax 1 ((imin 10 x1))))), (0, .inr x0), (1, .inl x1)]) C dX8_init_28 hL (by decide) rfl (fun ls hL => ?_)
  refine x_aload_n C dX8_init_29 hL 1 rfl ?_
  obtain ⟨q8, eq8, hd⟩ := bd_ex hd
  obtain ⟨G9, eG9, hd⟩ := bd_ex hd
  obtain ⟨hM, hd⟩ := mV_ex hd
  have hm1 : hn G9 = hn G7 + 1 ∧ hs G9 = hs G7 + 6 := by rw [eG9]; exact ⟨rfl, rfl⟩
  refine r_new (ci := 2) C (by decide) cl_X8_28 dX8_init_30 hR hS hB hZ ⟨by show hn G7 + 1 - n0 ≤ hn GG - n0; omega, by show hs G7 + 6 - s0 ≤ hs GG - s0; omega⟩ (fun H locs hR hS => ?_)
  rw [← eq8]
  refine W_cs (c2 := hn G9 - n0) (s2 := hs G9 - s0) (by rw [eG9] <;> rfl) (by rw [eG9] <;> rfl) ?_
  replace hR : Rp b0 D E G9 H := by rw [eG9]; exact hR
  replace hB : b0 ≤ hn G9 := by omega
  replace hZ : n0 ≤ hn G9 ∧ s0 ≤ hs G9 := by omega
  refine lv_dup hx hb dX8_init_33 (rv_cat _) ?_
  refine x_iload_n C dX8_init_34 hL 0 rfl ?_
  obtain ⟨g10, hd⟩ := gd_ex hd
  obtain ⟨G12, h11, hd⟩ := bo_ex hd
  obtain ⟨g13, hd⟩ := gd_ex hd
  obtain ⟨hM, hd⟩ := mV_ex hd
  refine r_callI (a := q8) (As := [.int ((imax 1 ((imin 10 x1))))]) C (ct_X2_init hB h11) mf_X2_init ml_X8_30 mi_X2_init rfl ⟨Nat.le_of_ble_eq_true rfl, Nat.le_of_ble_eq_true rfl⟩ dX8_init_35 (lx_size hL) rfl hR hS (by rw [g10]; decide) ⟨by show hn G9 - n0 + (hn G12 - hn G9) ≤ hn GG - n0; omega, by show hs G9 - s0 + (hs G12 - hs G9) ≤ hs GG - s0; omega⟩ (cat_le [.inr q8, .inr x0] (Nat.le_of_ble_eq_true rfl)) (fun H locs hR hS => ?_)
  refine W_st (st2 := [rv q8, rv x0]) rfl ?_
  refine W_cs (c2 := hn G12 - n0) (s2 := hs G12 - s0) (by first | rfl | omega) (by first | rfl | omega) ?_
  replace hB : b0 ≤ hn G12 := by omega
  replace hZ : n0 ≤ hn G12 ∧ s0 ≤ hs G12 := by omega
  obtain ⟨g14, hd⟩ := gd_ex hd
  obtain ⟨G15, eG15, hd⟩ := bd_ex hd
  refine r_putr (ci := 8) (k := 0) C fl_X8_33 (Or.inl ⟨_, rfl⟩) (Or.inr ⟨rfl, hnm, rfl⟩) dX8_init_38 hR hS g14 (fun H locs hR hS => ?_)
  replace hR : Rp b0 D E G15 H := by rw [eG15]; exact hR
  refine W_cs (c2 := hn G15 - n0) (s2 := hs G15 - s0) (by rw [eG15] <;> rfl) (by rw [eG15] <;> rfl) ?_
  replace hB : b0 ≤ hn G15 := by rw [eG15]; exact hB
  replace hZ : n0 ≤ hn G15 ∧ s0 ≤ hs G15 := by rw [eG15]; exact hZ
  replace hM : hn G15 ≤ hn GG ∧ hs G15 ≤ hs GG := by rw [eG15]; exact hM
  refine x_aload_n C dX8_init_41 hL 1 rfl ?_
  refine x_iload_n C dX8_init_42 hL 0 rfl ?_
  obtain ⟨q16, eq16, hd⟩ := bd_ex hd
  obtain ⟨g17, hd⟩ := gd_ex hd
  obtain ⟨G18, eG18, hd⟩ := bd_ex hd
  obtain ⟨hM, hd⟩ := mV_ex hd
  have hm1 : hn G18 = hn G15 + 1 ∧ hs G18 = hs G15 + ((imax 1 ((imin 10 x1)))).toNatClampNeg := by rw [eG18]; exact ⟨rfl, rfl⟩
  refine r_anew (ci := 4) C (by decide) cl_X8_37 dX8_init_43 hR hS hB hZ g17 ⟨by show hn G15 + 1 - n0 ≤ hn GG - n0; omega, by show hs G15 + ((imax 1 ((imin 10 x1)))).toNatClampNeg - s0 ≤ hs GG - s0; omega⟩ (fun H locs hR hS => ?_)
  rw [← eq16]
  refine W_cs (c2 := hn G18 - n0) (s2 := hs G18 - s0) (by rw [eG18] <;> rfl) (by rw [eG18] <;> rfl) ?_
  replace hR : Rp b0 D E G18 H := by rw [eG18]; exact hR
  replace hB : b0 ≤ hn G18 := by omega
  replace hZ : n0 ≤ hn G18 ∧ s0 ≤ hs G18 := by omega
  obtain ⟨g19, hd⟩ := gd_ex hd
  obtain ⟨G20, eG20, hd⟩ := bd_ex hd
  refine r_putr (ci := 8) (k := 1) C fl_X8_39 (Or.inr ⟨_, rfl⟩) (Or.inr ⟨rfl, hnm, rfl⟩) dX8_init_46 hR hS g19 (fun H locs hR hS => ?_)
  replace hR : Rp b0 D E G20 H := by rw [eG20]; exact hR
  refine W_cs (c2 := hn G20 - n0) (s2 := hs G20 - s0) (by rw [eG20] <;> rfl) (by rw [eG20] <;> rfl) ?_
  replace hB : b0 ≤ hn G20 := by rw [eG20]; exact hB
  replace hZ : n0 ≤ hn G20 ∧ s0 ≤ hs G20 := by rw [eG20]; exact hZ
  replace hM : hn G20 ≤ hn GG ∧ hs G20 ≤ hs GG := by rw [eG20]; exact hM
  refine lv_iconst (v := 0) hx hb dX8_init_49 (by decide) ?_
  refine x_istore_n (lv' := [(3, .inl 0), (2, .inl ((imax 1 ((imin 10 x1))))), (0, .inr x0), (1, .inl x1)]) C dX8_init_50 hL (by decide) rfl (fun ls hL => ?_)
  exact k_X8_init_51 C hnm FU (lx_sub hL [2, 1, 0] rfl) hR hS hB hZ hd
end
set_option maxHeartbeats 4000000 in
set_option maxRecDepth 100000 in
theorem ct_X8_init {l : Launch} {b0 : Nat} {D : va_G} {E : Nat → ClassId} {G : Hp} {a0 : Nat} {a1 : Int32} {GG : Hp} (hB : b0 ≤ hn G) (hd : d_X8_init a0 a1 G = some GG) : CT l yX8_init cX8_init 4 none 3 (hn GG - hn G) (hs GG - hs G) b0 D E [rv a0, .int a1] G none GG := by
  refine CT_of (by decide +kernel) ?_
  intro p e s m below meth c C hnm hR
  refine r_entry [.inr a0, .inl a1] (n := 4) (Nat.le_of_ble_eq_true rfl) (lv := [(0, .inr a0), (1, .inl a1)]) rfl (fun ls hL => ?_)
  have k := k_X8_init (n0 := hn G) (s0 := hs G) (l := l) (e := e) (below := below) (H := s.heap) (locs := []) C hnm (lx_sub hL [0, 1] rfl) hR ⟨fun _ _ => rfl, fun _ h => by cases h⟩ hB ⟨Nat.le_refl _, Nat.le_refl _⟩ hd
  rw [Nat.sub_self, Nat.sub_self] at k
  exact k

/-! GroveWorks.isPort(II)Z pure -/
theorem dX8_isPort_0 : decode cX8_isPort 0 = .ok (.iload_n 1, 1) := by decide +kernel
theorem dX8_isPort_1 : decode cX8_isPort 1 = .ok (.aload_n 0, 1) := by decide +kernel
theorem dX8_isPort_2 : decode cX8_isPort 2 = .ok (.getfield 39, 3) := by decide +kernel
theorem dX8_isPort_5 : decode cX8_isPort 5 = .ok (.arraylength, 1) := by decide +kernel
theorem dX8_isPort_6 : decode cX8_isPort 6 = .ok (.invokestatic 61, 3) := by decide +kernel
theorem dX8_isPort_9 : decode cX8_isPort 9 = .ok (.ifCond .eq 15, 3) := by decide +kernel
theorem dX8_isPort_12 : decode cX8_isPort 12 = .ok (.iload_n 2, 1) := by decide +kernel
theorem dX8_isPort_13 : decode cX8_isPort 13 = .ok (.iconst 4, 1) := by decide +kernel
theorem dX8_isPort_14 : decode cX8_isPort 14 = .ok (.invokestatic 61, 3) := by decide +kernel
theorem dX8_isPort_17 : decode cX8_isPort 17 = .ok (.ifCond .eq 7, 3) := by decide +kernel
theorem dX8_isPort_20 : decode cX8_isPort 20 = .ok (.iconst 1, 1) := by decide +kernel
theorem dX8_isPort_21 : decode cX8_isPort 21 = .ok (.goto 4, 3) := by decide +kernel
theorem dX8_isPort_24 : decode cX8_isPort 24 = .ok (.iconst 0, 1) := by decide +kernel
theorem dX8_isPort_25 : decode cX8_isPort 25 = .ok (.ireturn, 1) := by decide +kernel
def d_X8_isPort (x0 : Nat) (x1 : Int32) (x2 : Int32) (G : Hp) : Option (Int32) :=
  gd (hc G x0 = 9) <|
  gd (hc G ((hr G x0 1)) = 17) <|
  bo (d_X8_isIn x1 ((nI (hl G ((hr G x0 1))))) G) fun v4 =>
  if v4 = 0 then
    some 0
  else
    bo (d_X8_isIn x2 4 G) fun v7 =>
    if v7 = 0 then
      some 0
    else
      some 1
section
variable {p : Program} {l : Launch} {e : Env} {s : State} {m : MethodId} {args : Array Value} {below : List Frame} {meth : Method} {c : Code} {b0 : Nat} {D : va_G} {E : Nat → ClassId}
set_option maxHeartbeats 4000000 in
set_option maxRecDepth 100000 in
theorem k_X8_isPort (C : Cx p s m args meth c RX8 cX8_isPort 3 (some .boolean) b0 D E) {rr : Int32} {G : Hp} {x0 : Nat} {x1 : Int32} {x2 : Int32} {ls : Array Slot} {H : Heap} {locs : List Loc} : lx ls 3 [(0, .inr x0), (1, .inl x1), (2, .inl x2)] → Rp b0 D E G H → SS b0 s H locs → d_X8_isPort x0 x1 x2 G = some rr → W p l e (rmd 1 (0) (0)) s m args below meth c H locs (0) (0) (MQ below (CQ b0 D E (some (.int rr)) G) args s (0) (0) (fun q => b0 ≤ q)) (F0 m 0 ls []) := by
  intro hL hR hS hd
  unfold d_X8_isPort at hd
  have hx := C.1
  have hb := C.2.1
  refine x_iload_n C dX8_isPort_0 hL 1 rfl ?_
  refine x_aload_n C dX8_isPort_1 hL 0 rfl ?_
  obtain ⟨g1, hd⟩ := gd_ex hd
  refine r_getr (ci := 8) (k := 1) C fl_X8_39 rfl dX8_isPort_2 hR g1 ?_
  obtain ⟨g2, hd⟩ := gd_ex hd
  refine r_alen C dX8_isPort_5 hR (Or.inr ⟨4, by decide, g2⟩) ?_
  obtain ⟨v4, h3, hd⟩ := bo_ex hd
  refine r_callS (As := [.int x1, .int ((nI (hl G ((hr G x0 1)))))]) C (ct_X8_isIn h3) mf_X8_isIn ml_X8_61 ms_X8_isIn rfl ⟨Nat.le_of_ble_eq_true rfl, Nat.le_of_ble_eq_true rfl⟩ dX8_isPort_6 (lx_size hL) rfl hR hS ⟨Nat.le_refl _, Nat.le_refl _⟩ (cat_le [] (Nat.le_of_ble_eq_true rfl)) (fun H locs hR hS => ?_)
  refine W_st (st2 := [.int v4]) rfl ?_
  refine lv_if_eq (tgt := 24) hx hb dX8_isPort_9 (by decide) (fun c5 => ?_) (fun c5 => ?_)
  · rw [if_pos c5] at hd
    refine lv_iconst (v := 0) hx hb dX8_isPort_24 (by decide) ?_
    cases hd
    exact r_zret C (by decide) dX8_isPort_25 hR hS
  · rw [if_neg c5] at hd
    refine x_iload_n C dX8_isPort_12 hL 2 rfl ?_
    refine lv_iconst (v := 4) hx hb dX8_isPort_13 (by decide) ?_
    obtain ⟨v7, h6, hd⟩ := bo_ex hd
    refine r_callS (As := [.int x2, .int 4]) C (ct_X8_isIn h6) mf_X8_isIn ml_X8_61 ms_X8_isIn rfl ⟨Nat.le_of_ble_eq_true rfl, Nat.le_of_ble_eq_true rfl⟩ dX8_isPort_14 (lx_size hL) rfl hR hS ⟨Nat.le_refl _, Nat.le_refl _⟩ (cat_le [] (Nat.le_of_ble_eq_true rfl)) (fun H locs hR hS => ?_)
    refine W_st (st2 := [.int v7]) rfl ?_
    refine lv_if_eq (tgt := 24) hx hb dX8_isPort_17 (by decide) (fun c8 => ?_) (fun c8 => ?_)
    · rw [if_pos c8] at hd
      refine lv_iconst (v := 0) hx hb dX8_isPort_24 (by decide) ?_
      cases hd
      exact r_zret C (by decide) dX8_isPort_25 hR hS
    · rw [if_neg c8] at hd
      refine lv_iconst (v := 1) hx hb dX8_isPort_20 (by decide) ?_
      refine lv_goto (tgt := 25) hx hb dX8_isPort_21 (by decide) ?_
      cases hd
      exact r_zret C (by decide) dX8_isPort_25 hR hS
end
set_option maxHeartbeats 4000000 in
set_option maxRecDepth 100000 in
theorem ct_X8_isPort {l : Launch} {b0 : Nat} {D : va_G} {E : Nat → ClassId} {G : Hp} {a0 : Nat} {a1 : Int32} {a2 : Int32} {rr : Int32} (hd : d_X8_isPort a0 a1 a2 G = some rr) : CT l yX8_isPort cX8_isPort 3 (some .boolean) 1 0 0 b0 D E [rv a0, .int a1, .int a2] G (some (.int rr)) G := by
  refine CT_of (by decide +kernel) ?_
  intro p e s m below meth c C hnm hR
  refine r_entry [.inr a0, .inl a1, .inl a2] (n := 3) (Nat.le_of_ble_eq_true rfl) (lv := [(0, .inr a0), (1, .inl a1), (2, .inl a2)]) rfl (fun ls hL => ?_)
  exact k_X8_isPort C (lx_sub hL [0, 1, 2] rfl) hR ⟨fun _ _ => rfl, fun _ h => by cases h⟩ hd

/-! GroveWorks.plug(IIII)Z makes -/
theorem dX8_plug_0 : decode cX8_plug 0 = .ok (.aload_n 0, 1) := by decide +kernel
theorem dX8_plug_1 : decode cX8_plug 1 = .ok (.iload_n 1, 1) := by decide +kernel
theorem dX8_plug_2 : decode cX8_plug 2 = .ok (.iload_n 2, 1) := by decide +kernel
theorem dX8_plug_3 : decode cX8_plug 3 = .ok (.invokevirtual 57, 3) := by decide +kernel
theorem dX8_plug_6 : decode cX8_plug 6 = .ok (.ifCond .eq 35, 3) := by decide +kernel
theorem dX8_plug_9 : decode cX8_plug 9 = .ok (.iload_n 3, 1) := by decide +kernel
theorem dX8_plug_10 : decode cX8_plug 10 = .ok (.bipush 16, 2) := by decide +kernel
theorem dX8_plug_12 : decode cX8_plug 12 = .ok (.invokestatic 61, 3) := by decide +kernel
theorem dX8_plug_15 : decode cX8_plug 15 = .ok (.ifCond .eq 26, 3) := by decide +kernel
theorem dX8_plug_18 : decode cX8_plug 18 = .ok (.iload 4, 2) := by decide +kernel
theorem dX8_plug_20 : decode cX8_plug 20 = .ok (.iconst 1, 1) := by decide +kernel
theorem dX8_plug_21 : decode cX8_plug 21 = .ok (.if_icmp .lt 20, 3) := by decide +kernel
theorem dX8_plug_24 : decode cX8_plug 24 = .ok (.iload 4, 2) := by decide +kernel
theorem dX8_plug_26 : decode cX8_plug 26 = .ok (.bipush 9, 2) := by decide +kernel
theorem dX8_plug_28 : decode cX8_plug 28 = .ok (.if_icmp .gt 13, 3) := by decide +kernel
theorem dX8_plug_31 : decode cX8_plug 31 = .ok (.aload_n 0, 1) := by decide +kernel
theorem dX8_plug_32 : decode cX8_plug 32 = .ok (.getfield 33, 3) := by decide +kernel
theorem dX8_plug_35 : decode cX8_plug 35 = .ok (.getfield 64, 3) := by decide +kernel
theorem dX8_plug_38 : decode cX8_plug 38 = .ok (.ifCond .eq 5, 3) := by decide +kernel
theorem dX8_plug_41 : decode cX8_plug 41 = .ok (.iconst 0, 1) := by decide +kernel
theorem dX8_plug_42 : decode cX8_plug 42 = .ok (.ireturn, 1) := by decide +kernel
theorem dX8_plug_43 : decode cX8_plug 43 = .ok (.aload_n 0, 1) := by decide +kernel
theorem dX8_plug_44 : decode cX8_plug 44 = .ok (.getfield 33, 3) := by decide +kernel
theorem dX8_plug_47 : decode cX8_plug 47 = .ok (.getfield 67, 3) := by decide +kernel
theorem dX8_plug_50 : decode cX8_plug 50 = .ok (.iload_n 3, 1) := by decide +kernel
theorem dX8_plug_51 : decode cX8_plug 51 = .ok (.aaload, 1) := by decide +kernel
theorem dX8_plug_52 : decode cX8_plug 52 = .ok (.astore 5, 2) := by decide +kernel
theorem dX8_plug_54 : decode cX8_plug 54 = .ok (.aload_n 0, 1) := by decide +kernel
theorem dX8_plug_55 : decode cX8_plug 55 = .ok (.getfield 39, 3) := by decide +kernel
theorem dX8_plug_58 : decode cX8_plug 58 = .ok (.iload_n 1, 1) := by decide +kernel
theorem dX8_plug_59 : decode cX8_plug 59 = .ok (.aaload, 1) := by decide +kernel
theorem dX8_plug_60 : decode cX8_plug 60 = .ok (.getfield 71, 3) := by decide +kernel
theorem dX8_plug_63 : decode cX8_plug 63 = .ok (.iload_n 2, 1) := by decide +kernel
theorem dX8_plug_64 : decode cX8_plug 64 = .ok (.aaload, 1) := by decide +kernel
theorem dX8_plug_65 : decode cX8_plug 65 = .ok (.ifnonnull 14, 3) := by decide +kernel
theorem dX8_plug_68 : decode cX8_plug 68 = .ok (.aload 5, 2) := by decide +kernel
theorem dX8_plug_70 : decode cX8_plug 70 = .ok (.getfield 75, 3) := by decide +kernel
theorem dX8_plug_73 : decode cX8_plug 73 = .ok (.iload_n 1, 1) := by decide +kernel
theorem dX8_plug_74 : decode cX8_plug 74 = .ok (.iaload, 1) := by decide +kernel
theorem dX8_plug_75 : decode cX8_plug 75 = .ok (.iconst (-1), 1) := by decide +kernel
theorem dX8_plug_76 : decode cX8_plug 76 = .ok (.if_icmp .eq 5, 3) := by decide +kernel
theorem dX8_plug_79 : decode cX8_plug 79 = .ok (.iconst 0, 1) := by decide +kernel
theorem dX8_plug_80 : decode cX8_plug 80 = .ok (.ireturn, 1) := by decide +kernel
theorem dX8_plug_81 : decode cX8_plug 81 = .ok (.aload 5, 2) := by decide +kernel
theorem dX8_plug_83 : decode cX8_plug 83 = .ok (.invokevirtual 81, 3) := by decide +kernel
theorem dX8_plug_86 : decode cX8_plug 86 = .ok (.aload_n 0, 1) := by decide +kernel
theorem dX8_plug_87 : decode cX8_plug 87 = .ok (.getfield 39, 3) := by decide +kernel
theorem dX8_plug_90 : decode cX8_plug 90 = .ok (.iload_n 1, 1) := by decide +kernel
theorem dX8_plug_91 : decode cX8_plug 91 = .ok (.aaload, 1) := by decide +kernel
theorem dX8_plug_92 : decode cX8_plug 92 = .ok (.getfield 71, 3) := by decide +kernel
theorem dX8_plug_95 : decode cX8_plug 95 = .ok (.iload_n 2, 1) := by decide +kernel
theorem dX8_plug_96 : decode cX8_plug 96 = .ok (.new 47, 3) := by decide +kernel
theorem dX8_plug_99 : decode cX8_plug 99 = .ok (.dup, 1) := by decide +kernel
theorem dX8_plug_100 : decode cX8_plug 100 = .ok (.aload_n 0, 1) := by decide +kernel
theorem dX8_plug_101 : decode cX8_plug 101 = .ok (.getfield 33, 3) := by decide +kernel
theorem dX8_plug_104 : decode cX8_plug 104 = .ok (.iload_n 1, 1) := by decide +kernel
theorem dX8_plug_105 : decode cX8_plug 105 = .ok (.aload 5, 2) := by decide +kernel
theorem dX8_plug_107 : decode cX8_plug 107 = .ok (.iload 4, 2) := by decide +kernel
theorem dX8_plug_109 : decode cX8_plug 109 = .ok (.invokespecial 84, 3) := by decide +kernel
theorem dX8_plug_112 : decode cX8_plug 112 = .ok (.aastore, 1) := by decide +kernel
theorem dX8_plug_113 : decode cX8_plug 113 = .ok (.aload 5, 2) := by decide +kernel
theorem dX8_plug_115 : decode cX8_plug 115 = .ok (.getfield 75, 3) := by decide +kernel
theorem dX8_plug_118 : decode cX8_plug 118 = .ok (.iload_n 1, 1) := by decide +kernel
theorem dX8_plug_119 : decode cX8_plug 119 = .ok (.iload_n 2, 1) := by decide +kernel
theorem dX8_plug_120 : decode cX8_plug 120 = .ok (.iastore, 1) := by decide +kernel
theorem dX8_plug_121 : decode cX8_plug 121 = .ok (.aload_n 0, 1) := by decide +kernel
theorem dX8_plug_122 : decode cX8_plug 122 = .ok (.getfield 33, 3) := by decide +kernel
theorem dX8_plug_125 : decode cX8_plug 125 = .ok (.getfield 87, 3) := by decide +kernel
theorem dX8_plug_128 : decode cX8_plug 128 = .ok (.iload_n 1, 1) := by decide +kernel
theorem dX8_plug_129 : decode cX8_plug 129 = .ok (.iload_n 2, 1) := by decide +kernel
theorem dX8_plug_130 : decode cX8_plug 130 = .ok (.iload_n 3, 1) := by decide +kernel
theorem dX8_plug_131 : decode cX8_plug 131 = .ok (.iload 4, 2) := by decide +kernel
theorem dX8_plug_133 : decode cX8_plug 133 = .ok (.invokevirtual 91, 3) := by decide +kernel
theorem dX8_plug_136 : decode cX8_plug 136 = .ok (.iconst 1, 1) := by decide +kernel
theorem dX8_plug_137 : decode cX8_plug 137 = .ok (.ireturn, 1) := by decide +kernel
def d_X8_plug (x0 : Nat) (x1 : Int32) (x2 : Int32) (x3 : Int32) (x4 : Int32) (G : Hp) : Option (Int32 × Hp) :=
  mP G <|
  gd (hc G x0 = 9) <|
  bo (d_X8_isPort x0 x1 x2 G) fun v3 =>
  if v3 = 0 then
    some (0, G)
  else
    bo (d_X8_isIn x3 16 G) fun v6 =>
    if v6 = 0 then
      some (0, G)
    else
      if x4 < 1 then
        some (0, G)
      else
        if 9 < x4 then
          some (0, G)
        else
          gd (hc G ((hr G x0 0)) = 3) <|
          if ((hi G ((hr G x0 0)) 4)) = 0 then
            gd (hc G ((hr G ((hr G x0 0)) 0)) = 20 ∧ ix x3 (hl G ((hr G ((hr G x0 0)) 0)))) <|
            bd ((hr G ((hr G ((hr G x0 0)) 0)) x3.toNatClampNeg)) fun v13 =>
            gd (hc G ((hr G x0 1)) = 17 ∧ ix x1 (hl G ((hr G x0 1)))) <|
            gd (hc G ((hr G ((hr G x0 1)) x1.toNatClampNeg)) = 5) <|
            gd (hc G ((hr G ((hr G ((hr G x0 1)) x1.toNatClampNeg)) 2)) = 16 ∧ ix x2 (hl G ((hr G ((hr G ((hr G x0 1)) x1.toNatClampNeg)) 2)))) <|
            if ((hr G ((hr G ((hr G ((hr G x0 1)) x1.toNatClampNeg)) 2)) x2.toNatClampNeg)) = 0 then
              gd (hc G v13 = 8) <|
              gd (hc G ((hr G v13 1)) = 11 ∧ ix x1 (hl G ((hr G v13 1)))) <|
              if ((hi G ((hr G v13 1)) x1.toNatClampNeg)) = (-1) then
                bo (d_X7_makeFrames v13 G) fun G22 =>
                gd (hn G ≤ hn G22 ∧ hs G ≤ hs G22) <|
                mP G22 <|
                gd (hc G22 x0 = 9) <|
                gd (hc G22 ((hr G22 x0 1)) = 17 ∧ ix x1 (hl G22 ((hr G22 x0 1)))) <|
                gd (hc G22 ((hr G22 ((hr G22 x0 1)) x1.toNatClampNeg)) = 5) <|
                bd (hn G22) fun q27 =>
                bd (nC G22 4 0 13) fun G28 =>
                mP G28 <|
                gd (hc G28 x0 = 9) <|
                gd (hc G28 q27 = 4) <|
                bo (d_X3_init q27 ((hr G28 x0 0)) x1 v13 x4 G28) fun G32 =>
                gd (hn G28 ≤ hn G32 ∧ hs G28 ≤ hs G32) <|
                mP G32 <|
                gd ((hc G32 ((hr G22 ((hr G22 ((hr G22 x0 1)) x1.toNatClampNeg)) 2)) = 16 ∧ ix x2 (hl G32 ((hr G22 ((hr G22 ((hr G22 x0 1)) x1.toNatClampNeg)) 2)))) ∧ (q27 = 0 ∨ hc G32 q27 = 4)) <|
                bd (sR G32 ((hr G22 ((hr G22 ((hr G22 x0 1)) x1.toNatClampNeg)) 2)) x2.toNatClampNeg q27) fun G35 =>
                gd (hc G35 v13 = 8) <|
                gd (hc G35 ((hr G35 v13 1)) = 11 ∧ ix x1 (hl G35 ((hr G35 v13 1)))) <|
                bd (sI G35 ((hr G35 v13 1)) x1.toNatClampNeg x2) fun G38 =>
                gd (hc G38 x0 = 9) <|
                gd (hc G38 ((hr G38 x0 0)) = 3) <|
                gd (hc G38 ((hr G38 ((hr G38 x0 0)) 1)) = 7) <|
                bo (d_X6_put ((hr G38 ((hr G38 x0 0)) 1)) x1 x2 x3 x4 G38) fun G43 =>
                gd (hn G43 = hn G38 ∧ hs G43 = hs G38) <|
                some (1, G43)
              else
                some (0, G)
            else
              some (0, G)
          else
            some (0, G)
section
variable {p : Program} {l : Launch} {e : Env} {s : State} {m : MethodId} {args : Array Value} {below : List Frame} {meth : Method} {c : Code} {b0 : Nat} {D : va_G} {E : Nat → ClassId}
set_option maxHeartbeats 4000000 in
set_option maxRecDepth 100000 in
theorem k_X8_plug (C : Cx p s m args meth c RX8 cX8_plug 6 (some .boolean) b0 D E) {rr : Int32} {GG : Hp} {n0 s0 : Nat} {x0 : Nat} {x1 : Int32} {x2 : Int32} {x3 : Int32} {x4 : Int32} {G : Hp} {ls : Array Slot} {H : Heap} {locs : List Loc} : lx ls 6 [(0, .inr x0), (1, .inl x1), (2, .inl x2), (3, .inl x3), (4, .inl x4)] → Rp b0 D E G H → SS b0 s H locs → b0 ≤ hn G → (n0 ≤ hn G ∧ s0 ≤ hs G) → d_X8_plug x0 x1 x2 x3 x4 G = some (rr, GG) → W p l e (rmd 3 (hn GG - n0) (hs GG - s0)) s m args below meth c H locs (hn G - n0) (hs G - s0) (MQ below (CQ b0 D E (some (.int rr)) GG) args s (hn GG - n0) (hs GG - s0) (fun q => b0 ≤ q)) (F0 m 0 ls []) := by
  intro hL hR hS hB hZ hd
  unfold d_X8_plug at hd
  obtain ⟨hM, hd⟩ := mP_ex hd
  have hx := C.1
  have hb := C.2.1
  refine x_aload_n C dX8_plug_0 hL 0 rfl ?_
  refine x_iload_n C dX8_plug_1 hL 1 rfl ?_
  refine x_iload_n C dX8_plug_2 hL 2 rfl ?_
  obtain ⟨g1, hd⟩ := gd_ex hd
  obtain ⟨v3, h2, hd⟩ := bo_ex hd
  refine r_callV (a := x0) (ci := 8) (As := [.int x1, .int x2]) C (ct_X8_isPort h2) mf_X8_isPort ml_X8_57 mv_X8_isPort rfl ⟨Nat.le_of_ble_eq_true rfl, Nat.le_of_ble_eq_true rfl⟩ dX8_plug_3 (lx_size hL) rfl hR hS g1 ⟨by show hn G - n0 ≤ hn GG - n0; omega, by show hs G - s0 ≤ hs GG - s0; omega⟩ (cat_le [] (Nat.le_of_ble_eq_true rfl)) (fun H locs hR hS => ?_)
  refine W_st (st2 := [.int v3]) rfl ?_
  refine W_cs (c2 := hn G - n0) (s2 := hs G - s0) (by first | rfl | omega) (by first | rfl | omega) ?_
  refine lv_if_eq (tgt := 41) hx hb dX8_plug_6 (by decide) (fun c4 => ?_) (fun c4 => ?_)
  · rw [if_pos c4] at hd
    refine lv_iconst (v := 0) hx hb dX8_plug_41 (by decide) ?_
    cases hd
    exact r_zret C (by decide) dX8_plug_42 hR hS
  · rw [if_neg c4] at hd
    refine x_iload_n C dX8_plug_9 hL 3 rfl ?_
    refine lv_bipush (v := 16) hx hb dX8_plug_10 (by decide) ?_
    obtain ⟨v6, h5, hd⟩ := bo_ex hd
    refine r_callS (As := [.int x3, .int 16]) C (ct_X8_isIn h5) mf_X8_isIn ml_X8_61 ms_X8_isIn rfl ⟨Nat.le_of_ble_eq_true rfl, Nat.le_of_ble_eq_true rfl⟩ dX8_plug_12 (lx_size hL) rfl hR hS ⟨by show hn G - n0 ≤ hn GG - n0; omega, by show hs G - s0 ≤ hs GG - s0; omega⟩ (cat_le [] (Nat.le_of_ble_eq_true rfl)) (fun H locs hR hS => ?_)
    refine W_st (st2 := [.int v6]) rfl ?_
    refine W_cs (c2 := hn G - n0) (s2 := hs G - s0) (by first | rfl | omega) (by first | rfl | omega) ?_
    refine lv_if_eq (tgt := 41) hx hb dX8_plug_15 (by decide) (fun c7 => ?_) (fun c7 => ?_)
    · rw [if_pos c7] at hd
      refine lv_iconst (v := 0) hx hb dX8_plug_41 (by decide) ?_
      cases hd
      exact r_zret C (by decide) dX8_plug_42 hR hS
    · rw [if_neg c7] at hd
      refine x_iload C dX8_plug_18 hL 4 rfl ?_
      refine lv_iconst (v := 1) hx hb dX8_plug_20 (by decide) ?_
      refine lv_icmp_lt (tgt := 41) hx hb dX8_plug_21 (by decide) (fun c8 => ?_) (fun c8 => ?_)
      · rw [if_pos c8] at hd
        refine lv_iconst (v := 0) hx hb dX8_plug_41 (by decide) ?_
        cases hd
        exact r_zret C (by decide) dX8_plug_42 hR hS
      · rw [if_neg c8] at hd
        refine x_iload C dX8_plug_24 hL 4 rfl ?_
        refine lv_bipush (v := 9) hx hb dX8_plug_26 (by decide) ?_
        refine lv_icmp_gt (tgt := 41) hx hb dX8_plug_28 (by decide) (fun c9 => ?_) (fun c9 => ?_)
        · rw [if_pos c9] at hd
          refine lv_iconst (v := 0) hx hb dX8_plug_41 (by decide) ?_
          cases hd
          exact r_zret C (by decide) dX8_plug_42 hR hS
        · rw [if_neg c9] at hd
          refine x_aload_n C dX8_plug_31 hL 0 rfl ?_
          refine r_getr (ci := 8) (k := 0) C fl_X8_33 rfl dX8_plug_32 hR g1 ?_
          obtain ⟨g10, hd⟩ := gd_ex hd
          refine r_geti (ci := 2) (k := 4) C fl_X8_64 rfl dX8_plug_35 hR g10 ?_
          refine lv_if_eq (tgt := 43) hx hb dX8_plug_38 (by decide) (fun c11 => ?_) (fun c11 => ?_)
          · rw [if_pos c11] at hd
            refine x_aload_n C dX8_plug_43 hL 0 rfl ?_
            refine r_getr (ci := 8) (k := 0) C fl_X8_33 rfl dX8_plug_44 hR g1 ?_
            refine r_getr (ci := 2) (k := 0) C fl_X8_67 rfl dX8_plug_47 hR g10 ?_
            refine x_iload_n C dX8_plug_50 hL 3 rfl ?_
            obtain ⟨g12, hd⟩ := gd_ex hd
            refine r_aald (ci := 7) C (by decide) dX8_plug_51 hR g12 ?_
            obtain ⟨v13, ev13, hd⟩ := bd_ex hd
            rw [← ev13]
            refine x_astore (lv' := [(5, .inr v13), (0, .inr x0), (1, .inl x1), (2, .inl x2), (3, .inl x3), (4, .inl x4)]) C dX8_plug_52 hL (by decide) rfl (fun ls hL => ?_)
            refine x_aload_n C dX8_plug_54 hL 1 rfl ?_
            refine r_getr (ci := 8) (k := 1) C fl_X8_39 rfl dX8_plug_55 hR g1 ?_
            refine x_iload_n C dX8_plug_58 hL 2 rfl ?_
            obtain ⟨g14, hd⟩ := gd_ex hd
            refine r_aald (ci := 4) C (by decide) dX8_plug_59 hR g14 ?_
            obtain ⟨g15, hd⟩ := gd_ex hd
            refine r_getr (ci := 4) (k := 2) C fl_X8_71 rfl dX8_plug_60 hR g15 ?_
            refine x_iload_n C dX8_plug_63 hL 3 rfl ?_
            obtain ⟨g16, hd⟩ := gd_ex hd
            refine r_aald (ci := 3) C (by decide) dX8_plug_64 hR g16 ?_
            refine r_ifnonnull (tgt := 79) C dX8_plug_65 (by decide) (fun c17 => ?_) (fun c17 => ?_)
            · rw [if_neg c17] at hd
              refine lv_iconst (v := 0) hx hb dX8_plug_79 (by decide) ?_
              cases hd
              exact r_zret C (by decide) dX8_plug_80 hR hS
            · rw [if_pos c17] at hd
              refine x_aload C dX8_plug_68 hL 0 rfl ?_
              obtain ⟨g18, hd⟩ := gd_ex hd
              refine r_getr (ci := 7) (k := 1) C fl_X8_75 rfl dX8_plug_70 hR g18 ?_
              refine x_iload_n C dX8_plug_73 hL 2 rfl ?_
              obtain ⟨g19, hd⟩ := gd_ex hd
              refine r_iald C dX8_plug_74 hR g19 ?_
              refine lv_iconst (v := (-1)) hx hb dX8_plug_75 (by decide) ?_
              refine lv_icmp_eq (tgt := 81) hx hb dX8_plug_76 (by decide) (fun c20 => ?_) (fun c20 => ?_)
              · rw [if_pos c20] at hd
                refine x_aload C dX8_plug_81 hL 0 rfl ?_
                obtain ⟨G22, h21, hd⟩ := bo_ex hd
                obtain ⟨g23, hd⟩ := gd_ex hd
                obtain ⟨hM, hd⟩ := mP_ex hd
                refine r_callV (a := v13) (ci := 7) (As := []) C (ct_X7_makeFrames hB h21) mf_X7_makeFrames ml_X8_81 mv_X7_makeFrames rfl ⟨Nat.le_of_ble_eq_true rfl, Nat.le_of_ble_eq_true rfl⟩ dX8_plug_83 (lx_size hL) rfl hR hS g18 ⟨by show hn G - n0 + (hn G22 - hn G) ≤ hn GG - n0; omega, by show hs G - s0 + (hs G22 - hs G) ≤ hs GG - s0; omega⟩ (cat_le [] (Nat.le_of_ble_eq_true rfl)) (fun H locs hR hS => ?_)
                refine W_st (st2 := []) rfl ?_
                refine W_cs (c2 := hn G22 - n0) (s2 := hs G22 - s0) (by first | rfl | omega) (by first | rfl | omega) ?_
                replace hB : b0 ≤ hn G22 := by omega
                replace hZ : n0 ≤ hn G22 ∧ s0 ≤ hs G22 := by omega
                refine x_aload_n C dX8_plug_86 hL 1 rfl ?_
                obtain ⟨g24, hd⟩ := gd_ex hd
                refine r_getr (ci := 8) (k := 1) C fl_X8_39 rfl dX8_plug_87 hR g24 ?_
                refine x_iload_n C dX8_plug_90 hL 2 rfl ?_
                obtain ⟨g25, hd⟩ := gd_ex hd
                refine r_aald (ci := 4) C (by decide) dX8_plug_91 hR g25 ?_
                obtain ⟨g26, hd⟩ := gd_ex hd
                refine r_getr (ci := 4) (k := 2) C fl_X8_71 rfl dX8_plug_92 hR g26 ?_
                refine x_iload_n C dX8_plug_95 hL 3 rfl ?_
                obtain ⟨q27, eq27, hd⟩ := bd_ex hd
                obtain ⟨G28, eG28, hd⟩ := bd_ex hd
                obtain ⟨hM, hd⟩ := mP_ex hd
                have hm1 : hn G28 = hn G22 + 1 ∧ hs G28 = hs G22 + 13 := by rw [eG28]; exact ⟨rfl, rfl⟩
                refine r_new (ci := 3) C (by decide) cl_X8_47 dX8_plug_96 hR hS hB hZ ⟨by show hn G22 + 1 - n0 ≤ hn GG - n0; omega, by show hs G22 + 13 - s0 ≤ hs GG - s0; omega⟩ (fun H locs hR hS => ?_)
                rw [← eq27]
                refine W_cs (c2 := hn G28 - n0) (s2 := hs G28 - s0) (by rw [eG28] <;> rfl) (by rw [eG28] <;> rfl) ?_
                replace hR : Rp b0 D E G28 H := by rw [eG28]; exact hR
                replace hB : b0 ≤ hn G28 := by omega
                replace hZ : n0 ≤ hn G28 ∧ s0 ≤ hs G28 := by omega
                refine lv_dup hx hb dX8_plug_99 (rv_cat _) ?_
                refine x_aload_n C dX8_plug_100 hL 1 rfl ?_
                obtain ⟨g29, hd⟩ := gd_ex hd
                refine r_getr (ci := 8) (k := 0) C fl_X8_33 rfl dX8_plug_101 hR g29 ?_
                refine x_iload_n C dX8_plug_104 hL 2 rfl ?_
                refine x_aload C dX8_plug_105 hL 0 rfl ?_
                refine x_iload C dX8_plug_107 hL 5 rfl ?_
                obtain ⟨g30, hd⟩ := gd_ex hd
                obtain ⟨G32, h31, hd⟩ := bo_ex hd
                obtain ⟨g33, hd⟩ := gd_ex hd
                obtain ⟨hM, hd⟩ := mP_ex hd
                refine r_callI (a := q27) (As := [rv ((hr G28 x0 0)), .int x1, rv v13, .int x4]) C (ct_X3_init hB h31) mf_X3_init ml_X8_84 mi_X3_init rfl ⟨Nat.le_of_ble_eq_true rfl, Nat.le_of_ble_eq_true rfl⟩ dX8_plug_109 (lx_size hL) rfl hR hS (by rw [g30]; decide) ⟨by show hn G28 - n0 + (hn G32 - hn G28) ≤ hn GG - n0; omega, by show hs G28 - s0 + (hs G32 - hs G28) ≤ hs GG - s0; omega⟩ (cat_le [.inr q27, .inl x2, .inr ((hr G22 ((hr G22 ((hr G22 x0 1)) x1.toNatClampNeg)) 2))] (Nat.le_of_ble_eq_true rfl)) (fun H locs hR hS => ?_)
                refine W_st (st2 := [rv q27, .int x2, rv ((hr G22 ((hr G22 ((hr G22 x0 1)) x1.toNatClampNeg)) 2))]) rfl ?_
                refine W_cs (c2 := hn G32 - n0) (s2 := hs G32 - s0) (by first | rfl | omega) (by first | rfl | omega) ?_
                replace hB : b0 ≤ hn G32 := by omega
                replace hZ : n0 ≤ hn G32 ∧ s0 ≤ hs G32 := by omega
                obtain ⟨g34, hd⟩ := gd_ex hd
                obtain ⟨G35, eG35, hd⟩ := bd_ex hd
                refine r_aast (ci := 3) C (by decide) (by decide) dX8_plug_112 hR hS g34 (fun H locs hR hS => ?_)
                replace hR : Rp b0 D E G35 H := by rw [eG35]; exact hR
                refine W_cs (c2 := hn G35 - n0) (s2 := hs G35 - s0) (by rw [eG35] <;> rfl) (by rw [eG35] <;> rfl) ?_
                replace hB : b0 ≤ hn G35 := by rw [eG35]; exact hB
                replace hZ : n0 ≤ hn G35 ∧ s0 ≤ hs G35 := by rw [eG35]; exact hZ
                replace hM : hn G35 ≤ hn GG ∧ hs G35 ≤ hs GG := by rw [eG35]; exact hM
                refine x_aload C dX8_plug_113 hL 0 rfl ?_
                obtain ⟨g36, hd⟩ := gd_ex hd
                refine r_getr (ci := 7) (k := 1) C fl_X8_75 rfl dX8_plug_115 hR g36 ?_
                refine x_iload_n C dX8_plug_118 hL 2 rfl ?_
                refine x_iload_n C dX8_plug_119 hL 3 rfl ?_
                obtain ⟨g37, hd⟩ := gd_ex hd
                obtain ⟨G38, eG38, hd⟩ := bd_ex hd
                refine r_iast C dX8_plug_120 hR hS g37 (fun H locs hR hS => ?_)
                replace hR : Rp b0 D E G38 H := by rw [eG38]; exact hR
                refine W_cs (c2 := hn G38 - n0) (s2 := hs G38 - s0) (by rw [eG38] <;> rfl) (by rw [eG38] <;> rfl) ?_
                replace hB : b0 ≤ hn G38 := by rw [eG38]; exact hB
                replace hZ : n0 ≤ hn G38 ∧ s0 ≤ hs G38 := by rw [eG38]; exact hZ
                replace hM : hn G38 ≤ hn GG ∧ hs G38 ≤ hs GG := by rw [eG38]; exact hM
                refine x_aload_n C dX8_plug_121 hL 1 rfl ?_
                obtain ⟨g39, hd⟩ := gd_ex hd
                refine r_getr (ci := 8) (k := 0) C fl_X8_33 rfl dX8_plug_122 hR g39 ?_
                obtain ⟨g40, hd⟩ := gd_ex hd
                refine r_getr (ci := 2) (k := 1) C fl_X8_87 rfl dX8_plug_125 hR g40 ?_
                refine x_iload_n C dX8_plug_128 hL 2 rfl ?_
                refine x_iload_n C dX8_plug_129 hL 3 rfl ?_
                refine x_iload_n C dX8_plug_130 hL 4 rfl ?_
                refine x_iload C dX8_plug_131 hL 5 rfl ?_
                obtain ⟨g41, hd⟩ := gd_ex hd
                obtain ⟨G43, h42, hd⟩ := bo_ex hd
                obtain ⟨g44, hd⟩ := gd_ex hd
                refine r_callV (a := ((hr G38 ((hr G38 x0 0)) 1))) (ci := 6) (As := [.int x1, .int x2, .int x3, .int x4]) C (ct_X6_put h42) mf_X6_put ml_X8_91 mv_X6_put rfl ⟨Nat.le_of_ble_eq_true rfl, Nat.le_of_ble_eq_true rfl⟩ dX8_plug_133 (lx_size hL) rfl hR hS g41 ⟨by show hn G38 - n0 ≤ hn GG - n0; omega, by show hs G38 - s0 ≤ hs GG - s0; omega⟩ (cat_le [] (Nat.le_of_ble_eq_true rfl)) (fun H locs hR hS => ?_)
                refine W_st (st2 := []) rfl ?_
                refine W_cs (c2 := hn G43 - n0) (s2 := hs G43 - s0) (by first | rfl | omega) (by first | rfl | omega) ?_
                replace hB : b0 ≤ hn G43 := by omega
                replace hZ : n0 ≤ hn G43 ∧ s0 ≤ hs G43 := by omega
                replace hM : hn G43 ≤ hn GG ∧ hs G43 ≤ hs GG := by omega
                refine lv_iconst (v := 1) hx hb dX8_plug_136 (by decide) ?_
                cases hd
                exact r_zret C (by decide) dX8_plug_137 hR hS
              · rw [if_neg c20] at hd
                refine lv_iconst (v := 0) hx hb dX8_plug_79 (by decide) ?_
                cases hd
                exact r_zret C (by decide) dX8_plug_80 hR hS
          · rw [if_neg c11] at hd
            refine lv_iconst (v := 0) hx hb dX8_plug_41 (by decide) ?_
            cases hd
            exact r_zret C (by decide) dX8_plug_42 hR hS
end
set_option maxHeartbeats 4000000 in
set_option maxRecDepth 100000 in
theorem ct_X8_plug {l : Launch} {b0 : Nat} {D : va_G} {E : Nat → ClassId} {G : Hp} {a0 : Nat} {a1 : Int32} {a2 : Int32} {a3 : Int32} {a4 : Int32} {rr : Int32} {GG : Hp} (hB : b0 ≤ hn G) (hd : d_X8_plug a0 a1 a2 a3 a4 G = some (rr, GG)) : CT l yX8_plug cX8_plug 6 (some .boolean) 3 (hn GG - hn G) (hs GG - hs G) b0 D E [rv a0, .int a1, .int a2, .int a3, .int a4] G (some (.int rr)) GG := by
  refine CT_of (by decide +kernel) ?_
  intro p e s m below meth c C hnm hR
  refine r_entry [.inr a0, .inl a1, .inl a2, .inl a3, .inl a4] (n := 6) (Nat.le_of_ble_eq_true rfl) (lv := [(0, .inr a0), (1, .inl a1), (2, .inl a2), (3, .inl a3), (4, .inl a4)]) rfl (fun ls hL => ?_)
  have k := k_X8_plug (n0 := hn G) (s0 := hs G) (l := l) (e := e) (below := below) (H := s.heap) (locs := []) C (lx_sub hL [0, 1, 2, 3, 4] rfl) hR ⟨fun _ _ => rfl, fun _ h => by cases h⟩ hB ⟨Nat.le_refl _, Nat.le_refl _⟩ hd
  rw [Nat.sub_self, Nat.sub_self] at k
  exact k

/-! GroveWorks.host(II)Z makes -/
theorem dX8_host_0 : decode cX8_host 0 = .ok (.iload_n 1, 1) := by decide +kernel
theorem dX8_host_1 : decode cX8_host 1 = .ok (.bipush 16, 2) := by decide +kernel
theorem dX8_host_3 : decode cX8_host 3 = .ok (.invokestatic 61, 3) := by decide +kernel
theorem dX8_host_6 : decode cX8_host 6 = .ok (.ifCond .eq 31, 3) := by decide +kernel
theorem dX8_host_9 : decode cX8_host 9 = .ok (.iload_n 2, 1) := by decide +kernel
theorem dX8_host_10 : decode cX8_host 10 = .ok (.bipush 16, 2) := by decide +kernel
theorem dX8_host_12 : decode cX8_host 12 = .ok (.invokestatic 61, 3) := by decide +kernel
theorem dX8_host_15 : decode cX8_host 15 = .ok (.ifCond .eq 22, 3) := by decide +kernel
theorem dX8_host_18 : decode cX8_host 18 = .ok (.aload_n 0, 1) := by decide +kernel
theorem dX8_host_19 : decode cX8_host 19 = .ok (.getfield 33, 3) := by decide +kernel
theorem dX8_host_22 : decode cX8_host 22 = .ok (.getfield 64, 3) := by decide +kernel
theorem dX8_host_25 : decode cX8_host 25 = .ok (.ifCond .ne 12, 3) := by decide +kernel
theorem dX8_host_28 : decode cX8_host 28 = .ok (.aload_n 0, 1) := by decide +kernel
theorem dX8_host_29 : decode cX8_host 29 = .ok (.getfield 11, 3) := by decide +kernel
theorem dX8_host_32 : decode cX8_host 32 = .ok (.iload_n 1, 1) := by decide +kernel
theorem dX8_host_33 : decode cX8_host 33 = .ok (.aaload, 1) := by decide +kernel
theorem dX8_host_34 : decode cX8_host 34 = .ok (.ifnull 5, 3) := by decide +kernel
theorem dX8_host_37 : decode cX8_host 37 = .ok (.iconst 0, 1) := by decide +kernel
theorem dX8_host_38 : decode cX8_host 38 = .ok (.ireturn, 1) := by decide +kernel
theorem dX8_host_39 : decode cX8_host 39 = .ok (.aload_n 0, 1) := by decide +kernel
theorem dX8_host_40 : decode cX8_host 40 = .ok (.getfield 33, 3) := by decide +kernel
theorem dX8_host_43 : decode cX8_host 43 = .ok (.getfield 67, 3) := by decide +kernel
theorem dX8_host_46 : decode cX8_host 46 = .ok (.iload_n 2, 1) := by decide +kernel
theorem dX8_host_47 : decode cX8_host 47 = .ok (.aaload, 1) := by decide +kernel
theorem dX8_host_48 : decode cX8_host 48 = .ok (.invokevirtual 81, 3) := by decide +kernel
theorem dX8_host_51 : decode cX8_host 51 = .ok (.aload_n 0, 1) := by decide +kernel
theorem dX8_host_52 : decode cX8_host 52 = .ok (.getfield 11, 3) := by decide +kernel
theorem dX8_host_55 : decode cX8_host 55 = .ok (.iload_n 1, 1) := by decide +kernel
theorem dX8_host_56 : decode cX8_host 56 = .ok (.new 9, 3) := by decide +kernel
theorem dX8_host_59 : decode cX8_host 59 = .ok (.dup, 1) := by decide +kernel
theorem dX8_host_60 : decode cX8_host 60 = .ok (.iload_n 1, 1) := by decide +kernel
theorem dX8_host_61 : decode cX8_host 61 = .ok (.aload_n 0, 1) := by decide +kernel
theorem dX8_host_62 : decode cX8_host 62 = .ok (.getfield 33, 3) := by decide +kernel
theorem dX8_host_65 : decode cX8_host 65 = .ok (.getfield 67, 3) := by decide +kernel
theorem dX8_host_68 : decode cX8_host 68 = .ok (.iload_n 2, 1) := by decide +kernel
theorem dX8_host_69 : decode cX8_host 69 = .ok (.aaload, 1) := by decide +kernel
theorem dX8_host_70 : decode cX8_host 70 = .ok (.invokespecial 97, 3) := by decide +kernel
theorem dX8_host_73 : decode cX8_host 73 = .ok (.aastore, 1) := by decide +kernel
theorem dX8_host_74 : decode cX8_host 74 = .ok (.aload_n 0, 1) := by decide +kernel
theorem dX8_host_75 : decode cX8_host 75 = .ok (.getfield 33, 3) := by decide +kernel
theorem dX8_host_78 : decode cX8_host 78 = .ok (.getfield 100, 3) := by decide +kernel
theorem dX8_host_81 : decode cX8_host 81 = .ok (.iload_n 1, 1) := by decide +kernel
theorem dX8_host_82 : decode cX8_host 82 = .ok (.iload_n 2, 1) := by decide +kernel
theorem dX8_host_83 : decode cX8_host 83 = .ok (.iastore, 1) := by decide +kernel
theorem dX8_host_84 : decode cX8_host 84 = .ok (.iconst 1, 1) := by decide +kernel
theorem dX8_host_85 : decode cX8_host 85 = .ok (.ireturn, 1) := by decide +kernel
def d_X8_host (x0 : Nat) (x1 : Int32) (x2 : Int32) (G : Hp) : Option (Int32 × Hp) :=
  mP G <|
  bo (d_X8_isIn x1 16 G) fun v2 =>
  if v2 = 0 then
    some (0, G)
  else
    bo (d_X8_isIn x2 16 G) fun v5 =>
    if v5 = 0 then
      some (0, G)
    else
      gd (hc G x0 = 9) <|
      gd (hc G ((hr G x0 0)) = 3) <|
      if ((hi G ((hr G x0 0)) 4)) = 0 then
        gd (hc G ((hr G x0 2)) = 14 ∧ ix x1 (hl G ((hr G x0 2)))) <|
        if ((hr G ((hr G x0 2)) x1.toNatClampNeg)) = 0 then
          gd (hc G ((hr G ((hr G x0 0)) 0)) = 20 ∧ ix x2 (hl G ((hr G ((hr G x0 0)) 0)))) <|
          gd (hc G ((hr G ((hr G ((hr G x0 0)) 0)) x2.toNatClampNeg)) = 8) <|
          bo (d_X7_makeFrames ((hr G ((hr G ((hr G x0 0)) 0)) x2.toNatClampNeg)) G) fun G15 =>
          gd (hn G ≤ hn G15 ∧ hs G ≤ hs G15) <|
          mP G15 <|
          gd (hc G15 x0 = 9) <|
          bd (hn G15) fun q18 =>
          bd (nC G15 2 0 5) fun G19 =>
          mP G19 <|
          gd (hc G19 x0 = 9) <|
          gd (hc G19 ((hr G19 x0 0)) = 3) <|
          gd (hc G19 ((hr G19 ((hr G19 x0 0)) 0)) = 20 ∧ ix x2 (hl G19 ((hr G19 ((hr G19 x0 0)) 0)))) <|
          gd (hc G19 q18 = 2) <|
          bo (d_X1_init q18 x1 ((hr G19 ((hr G19 ((hr G19 x0 0)) 0)) x2.toNatClampNeg)) G19) fun G25 =>
          gd (hn G19 ≤ hn G25 ∧ hs G19 ≤ hs G25) <|
          mP G25 <|
          gd ((hc G25 ((hr G15 x0 2)) = 14 ∧ ix x1 (hl G25 ((hr G15 x0 2)))) ∧ (q18 = 0 ∨ hc G25 q18 = 2)) <|
          bd (sR G25 ((hr G15 x0 2)) x1.toNatClampNeg q18) fun G28 =>
          gd (hc G28 x0 = 9) <|
          gd (hc G28 ((hr G28 x0 0)) = 3) <|
          gd (hc G28 ((hr G28 ((hr G28 x0 0)) 3)) = 11 ∧ ix x1 (hl G28 ((hr G28 ((hr G28 x0 0)) 3)))) <|
          bd (sI G28 ((hr G28 ((hr G28 x0 0)) 3)) x1.toNatClampNeg x2) fun G32 =>
          some (1, G32)
        else
          some (0, G)
      else
        some (0, G)
section
variable {p : Program} {l : Launch} {e : Env} {s : State} {m : MethodId} {args : Array Value} {below : List Frame} {meth : Method} {c : Code} {b0 : Nat} {D : va_G} {E : Nat → ClassId}
set_option maxHeartbeats 4000000 in
set_option maxRecDepth 100000 in
theorem k_X8_host (C : Cx p s m args meth c RX8 cX8_host 3 (some .boolean) b0 D E) {rr : Int32} {GG : Hp} {n0 s0 : Nat} {x0 : Nat} {x1 : Int32} {x2 : Int32} {G : Hp} {ls : Array Slot} {H : Heap} {locs : List Loc} : lx ls 3 [(0, .inr x0), (1, .inl x1), (2, .inl x2)] → Rp b0 D E G H → SS b0 s H locs → b0 ≤ hn G → (n0 ≤ hn G ∧ s0 ≤ hs G) → d_X8_host x0 x1 x2 G = some (rr, GG) → W p l e (rmd 3 (hn GG - n0) (hs GG - s0)) s m args below meth c H locs (hn G - n0) (hs G - s0) (MQ below (CQ b0 D E (some (.int rr)) GG) args s (hn GG - n0) (hs GG - s0) (fun q => b0 ≤ q)) (F0 m 0 ls []) := by
  intro hL hR hS hB hZ hd
  unfold d_X8_host at hd
  obtain ⟨hM, hd⟩ := mP_ex hd
  have hx := C.1
  have hb := C.2.1
  refine x_iload_n C dX8_host_0 hL 1 rfl ?_
  refine lv_bipush (v := 16) hx hb dX8_host_1 (by decide) ?_
  obtain ⟨v2, h1, hd⟩ := bo_ex hd
  refine r_callS (As := [.int x1, .int 16]) C (ct_X8_isIn h1) mf_X8_isIn ml_X8_61 ms_X8_isIn rfl ⟨Nat.le_of_ble_eq_true rfl, Nat.le_of_ble_eq_true rfl⟩ dX8_host_3 (lx_size hL) rfl hR hS ⟨by show hn G - n0 ≤ hn GG - n0; omega, by show hs G - s0 ≤ hs GG - s0; omega⟩ (cat_le [] (Nat.le_of_ble_eq_true rfl)) (fun H locs hR hS => ?_)
  refine W_st (st2 := [.int v2]) rfl ?_
  refine W_cs (c2 := hn G - n0) (s2 := hs G - s0) (by first | rfl | omega) (by first | rfl | omega) ?_
  refine lv_if_eq (tgt := 37) hx hb dX8_host_6 (by decide) (fun c3 => ?_) (fun c3 => ?_)
  · rw [if_pos c3] at hd
    refine lv_iconst (v := 0) hx hb dX8_host_37 (by decide) ?_
    cases hd
    exact r_zret C (by decide) dX8_host_38 hR hS
  · rw [if_neg c3] at hd
    refine x_iload_n C dX8_host_9 hL 2 rfl ?_
    refine lv_bipush (v := 16) hx hb dX8_host_10 (by decide) ?_
    obtain ⟨v5, h4, hd⟩ := bo_ex hd
    refine r_callS (As := [.int x2, .int 16]) C (ct_X8_isIn h4) mf_X8_isIn ml_X8_61 ms_X8_isIn rfl ⟨Nat.le_of_ble_eq_true rfl, Nat.le_of_ble_eq_true rfl⟩ dX8_host_12 (lx_size hL) rfl hR hS ⟨by show hn G - n0 ≤ hn GG - n0; omega, by show hs G - s0 ≤ hs GG - s0; omega⟩ (cat_le [] (Nat.le_of_ble_eq_true rfl)) (fun H locs hR hS => ?_)
    refine W_st (st2 := [.int v5]) rfl ?_
    refine W_cs (c2 := hn G - n0) (s2 := hs G - s0) (by first | rfl | omega) (by first | rfl | omega) ?_
    refine lv_if_eq (tgt := 37) hx hb dX8_host_15 (by decide) (fun c6 => ?_) (fun c6 => ?_)
    · rw [if_pos c6] at hd
      refine lv_iconst (v := 0) hx hb dX8_host_37 (by decide) ?_
      cases hd
      exact r_zret C (by decide) dX8_host_38 hR hS
    · rw [if_neg c6] at hd
      refine x_aload_n C dX8_host_18 hL 0 rfl ?_
      obtain ⟨g7, hd⟩ := gd_ex hd
      refine r_getr (ci := 8) (k := 0) C fl_X8_33 rfl dX8_host_19 hR g7 ?_
      obtain ⟨g8, hd⟩ := gd_ex hd
      refine r_geti (ci := 2) (k := 4) C fl_X8_64 rfl dX8_host_22 hR g8 ?_
      refine lv_if_ne (tgt := 37) hx hb dX8_host_25 (by decide) (fun c9 => ?_) (fun c9 => ?_)
      · rw [if_neg c9] at hd
        refine lv_iconst (v := 0) hx hb dX8_host_37 (by decide) ?_
        cases hd
        exact r_zret C (by decide) dX8_host_38 hR hS
      · rw [if_pos c9] at hd
        refine x_aload_n C dX8_host_28 hL 0 rfl ?_
        refine r_getr (ci := 8) (k := 2) C fl_X8_11 rfl dX8_host_29 hR g7 ?_
        refine x_iload_n C dX8_host_32 hL 1 rfl ?_
        obtain ⟨g10, hd⟩ := gd_ex hd
        refine r_aald (ci := 1) C (by decide) dX8_host_33 hR g10 ?_
        refine r_ifnull (tgt := 39) C dX8_host_34 (by decide) (fun c11 => ?_) (fun c11 => ?_)
        · rw [if_pos c11] at hd
          refine x_aload_n C dX8_host_39 hL 0 rfl ?_
          refine r_getr (ci := 8) (k := 0) C fl_X8_33 rfl dX8_host_40 hR g7 ?_
          refine r_getr (ci := 2) (k := 0) C fl_X8_67 rfl dX8_host_43 hR g8 ?_
          refine x_iload_n C dX8_host_46 hL 2 rfl ?_
          obtain ⟨g12, hd⟩ := gd_ex hd
          refine r_aald (ci := 7) C (by decide) dX8_host_47 hR g12 ?_
          obtain ⟨g13, hd⟩ := gd_ex hd
          obtain ⟨G15, h14, hd⟩ := bo_ex hd
          obtain ⟨g16, hd⟩ := gd_ex hd
          obtain ⟨hM, hd⟩ := mP_ex hd
          refine r_callV (a := ((hr G ((hr G ((hr G x0 0)) 0)) x2.toNatClampNeg))) (ci := 7) (As := []) C (ct_X7_makeFrames hB h14) mf_X7_makeFrames ml_X8_81 mv_X7_makeFrames rfl ⟨Nat.le_of_ble_eq_true rfl, Nat.le_of_ble_eq_true rfl⟩ dX8_host_48 (lx_size hL) rfl hR hS g13 ⟨by show hn G - n0 + (hn G15 - hn G) ≤ hn GG - n0; omega, by show hs G - s0 + (hs G15 - hs G) ≤ hs GG - s0; omega⟩ (cat_le [] (Nat.le_of_ble_eq_true rfl)) (fun H locs hR hS => ?_)
          refine W_st (st2 := []) rfl ?_
          refine W_cs (c2 := hn G15 - n0) (s2 := hs G15 - s0) (by first | rfl | omega) (by first | rfl | omega) ?_
          replace hB : b0 ≤ hn G15 := by omega
          replace hZ : n0 ≤ hn G15 ∧ s0 ≤ hs G15 := by omega
          refine x_aload_n C dX8_host_51 hL 0 rfl ?_
          obtain ⟨g17, hd⟩ := gd_ex hd
          refine r_getr (ci := 8) (k := 2) C fl_X8_11 rfl dX8_host_52 hR g17 ?_
          refine x_iload_n C dX8_host_55 hL 1 rfl ?_
          obtain ⟨q18, eq18, hd⟩ := bd_ex hd
          obtain ⟨G19, eG19, hd⟩ := bd_ex hd
          obtain ⟨hM, hd⟩ := mP_ex hd
          have hm1 : hn G19 = hn G15 + 1 ∧ hs G19 = hs G15 + 5 := by rw [eG19]; exact ⟨rfl, rfl⟩
          refine r_new (ci := 1) C (by decide) cl_X8_9 dX8_host_56 hR hS hB hZ ⟨by show hn G15 + 1 - n0 ≤ hn GG - n0; omega, by show hs G15 + 5 - s0 ≤ hs GG - s0; omega⟩ (fun H locs hR hS => ?_)
          rw [← eq18]
          refine W_cs (c2 := hn G19 - n0) (s2 := hs G19 - s0) (by rw [eG19] <;> rfl) (by rw [eG19] <;> rfl) ?_
          replace hR : Rp b0 D E G19 H := by rw [eG19]; exact hR
          replace hB : b0 ≤ hn G19 := by omega
          replace hZ : n0 ≤ hn G19 ∧ s0 ≤ hs G19 := by omega
          refine lv_dup hx hb dX8_host_59 (rv_cat _) ?_
          refine x_iload_n C dX8_host_60 hL 1 rfl ?_
          refine x_aload_n C dX8_host_61 hL 0 rfl ?_
          obtain ⟨g20, hd⟩ := gd_ex hd
          refine r_getr (ci := 8) (k := 0) C fl_X8_33 rfl dX8_host_62 hR g20 ?_
          obtain ⟨g21, hd⟩ := gd_ex hd
          refine r_getr (ci := 2) (k := 0) C fl_X8_67 rfl dX8_host_65 hR g21 ?_
          refine x_iload_n C dX8_host_68 hL 2 rfl ?_
          obtain ⟨g22, hd⟩ := gd_ex hd
          refine r_aald (ci := 7) C (by decide) dX8_host_69 hR g22 ?_
          obtain ⟨g23, hd⟩ := gd_ex hd
          obtain ⟨G25, h24, hd⟩ := bo_ex hd
          obtain ⟨g26, hd⟩ := gd_ex hd
          obtain ⟨hM, hd⟩ := mP_ex hd
          refine r_callI (a := q18) (As := [.int x1, rv ((hr G19 ((hr G19 ((hr G19 x0 0)) 0)) x2.toNatClampNeg))]) C (ct_X1_init hB h24) mf_X1_init ml_X8_97 mi_X1_init rfl ⟨Nat.le_of_ble_eq_true rfl, Nat.le_of_ble_eq_true rfl⟩ dX8_host_70 (lx_size hL) rfl hR hS (by rw [g23]; decide) ⟨by show hn G19 - n0 + (hn G25 - hn G19) ≤ hn GG - n0; omega, by show hs G19 - s0 + (hs G25 - hs G19) ≤ hs GG - s0; omega⟩ (cat_le [.inr q18, .inl x1, .inr ((hr G15 x0 2))] (Nat.le_of_ble_eq_true rfl)) (fun H locs hR hS => ?_)
          refine W_st (st2 := [rv q18, .int x1, rv ((hr G15 x0 2))]) rfl ?_
          refine W_cs (c2 := hn G25 - n0) (s2 := hs G25 - s0) (by first | rfl | omega) (by first | rfl | omega) ?_
          replace hB : b0 ≤ hn G25 := by omega
          replace hZ : n0 ≤ hn G25 ∧ s0 ≤ hs G25 := by omega
          obtain ⟨g27, hd⟩ := gd_ex hd
          obtain ⟨G28, eG28, hd⟩ := bd_ex hd
          refine r_aast (ci := 1) C (by decide) (by decide) dX8_host_73 hR hS g27 (fun H locs hR hS => ?_)
          replace hR : Rp b0 D E G28 H := by rw [eG28]; exact hR
          refine W_cs (c2 := hn G28 - n0) (s2 := hs G28 - s0) (by rw [eG28] <;> rfl) (by rw [eG28] <;> rfl) ?_
          replace hB : b0 ≤ hn G28 := by rw [eG28]; exact hB
          replace hZ : n0 ≤ hn G28 ∧ s0 ≤ hs G28 := by rw [eG28]; exact hZ
          replace hM : hn G28 ≤ hn GG ∧ hs G28 ≤ hs GG := by rw [eG28]; exact hM
          refine x_aload_n C dX8_host_74 hL 0 rfl ?_
          obtain ⟨g29, hd⟩ := gd_ex hd
          refine r_getr (ci := 8) (k := 0) C fl_X8_33 rfl dX8_host_75 hR g29 ?_
          obtain ⟨g30, hd⟩ := gd_ex hd
          refine r_getr (ci := 2) (k := 3) C fl_X8_100 rfl dX8_host_78 hR g30 ?_
          refine x_iload_n C dX8_host_81 hL 1 rfl ?_
          refine x_iload_n C dX8_host_82 hL 2 rfl ?_
          obtain ⟨g31, hd⟩ := gd_ex hd
          obtain ⟨G32, eG32, hd⟩ := bd_ex hd
          refine r_iast C dX8_host_83 hR hS g31 (fun H locs hR hS => ?_)
          replace hR : Rp b0 D E G32 H := by rw [eG32]; exact hR
          refine W_cs (c2 := hn G32 - n0) (s2 := hs G32 - s0) (by rw [eG32] <;> rfl) (by rw [eG32] <;> rfl) ?_
          replace hB : b0 ≤ hn G32 := by rw [eG32]; exact hB
          replace hZ : n0 ≤ hn G32 ∧ s0 ≤ hs G32 := by rw [eG32]; exact hZ
          replace hM : hn G32 ≤ hn GG ∧ hs G32 ≤ hs GG := by rw [eG32]; exact hM
          refine lv_iconst (v := 1) hx hb dX8_host_84 (by decide) ?_
          cases hd
          exact r_zret C (by decide) dX8_host_85 hR hS
        · rw [if_neg c11] at hd
          refine lv_iconst (v := 0) hx hb dX8_host_37 (by decide) ?_
          cases hd
          exact r_zret C (by decide) dX8_host_38 hR hS
end
set_option maxHeartbeats 4000000 in
set_option maxRecDepth 100000 in
theorem ct_X8_host {l : Launch} {b0 : Nat} {D : va_G} {E : Nat → ClassId} {G : Hp} {a0 : Nat} {a1 : Int32} {a2 : Int32} {rr : Int32} {GG : Hp} (hB : b0 ≤ hn G) (hd : d_X8_host a0 a1 a2 G = some (rr, GG)) : CT l yX8_host cX8_host 3 (some .boolean) 3 (hn GG - hn G) (hs GG - hs G) b0 D E [rv a0, .int a1, .int a2] G (some (.int rr)) GG := by
  refine CT_of (by decide +kernel) ?_
  intro p e s m below meth c C hnm hR
  refine r_entry [.inr a0, .inl a1, .inl a2] (n := 3) (Nat.le_of_ble_eq_true rfl) (lv := [(0, .inr a0), (1, .inl a1), (2, .inl a2)]) rfl (fun ls hL => ?_)
  have k := k_X8_host (n0 := hn G) (s0 := hs G) (l := l) (e := e) (below := below) (H := s.heap) (locs := []) C (lx_sub hL [0, 1, 2] rfl) hR ⟨fun _ _ => rfl, fun _ h => by cases h⟩ hB ⟨Nat.le_refl _, Nat.le_refl _⟩ hd
  rw [Nat.sub_self, Nat.sub_self] at k
  exact k

/-! GroveWorks.meet(II)Z -/
theorem dX8_meet_0 : decode cX8_meet 0 = .ok (.iload_n 1, 1) := by decide +kernel
theorem dX8_meet_1 : decode cX8_meet 1 = .ok (.bipush 8, 2) := by decide +kernel
theorem dX8_meet_3 : decode cX8_meet 3 = .ok (.invokestatic 61, 3) := by decide +kernel
theorem dX8_meet_6 : decode cX8_meet 6 = .ok (.ifCond .eq 25, 3) := by decide +kernel
theorem dX8_meet_9 : decode cX8_meet 9 = .ok (.iload_n 2, 1) := by decide +kernel
theorem dX8_meet_10 : decode cX8_meet 10 = .ok (.aload_n 0, 1) := by decide +kernel
theorem dX8_meet_11 : decode cX8_meet 11 = .ok (.getfield 39, 3) := by decide +kernel
theorem dX8_meet_14 : decode cX8_meet 14 = .ok (.arraylength, 1) := by decide +kernel
theorem dX8_meet_15 : decode cX8_meet 15 = .ok (.invokestatic 61, 3) := by decide +kernel
theorem dX8_meet_18 : decode cX8_meet 18 = .ok (.ifCond .eq 13, 3) := by decide +kernel
theorem dX8_meet_21 : decode cX8_meet 21 = .ok (.aload_n 0, 1) := by decide +kernel
theorem dX8_meet_22 : decode cX8_meet 22 = .ok (.getfield 33, 3) := by decide +kernel
theorem dX8_meet_25 : decode cX8_meet 25 = .ok (.getfield 64, 3) := by decide +kernel
theorem dX8_meet_28 : decode cX8_meet 28 = .ok (.ifCond .eq 5, 3) := by decide +kernel
theorem dX8_meet_31 : decode cX8_meet 31 = .ok (.iconst 0, 1) := by decide +kernel
theorem dX8_meet_32 : decode cX8_meet 32 = .ok (.ireturn, 1) := by decide +kernel
theorem dX8_meet_33 : decode cX8_meet 33 = .ok (.aload_n 0, 1) := by decide +kernel
theorem dX8_meet_34 : decode cX8_meet 34 = .ok (.getfield 33, 3) := by decide +kernel
theorem dX8_meet_37 : decode cX8_meet 37 = .ok (.getfield 103, 3) := by decide +kernel
theorem dX8_meet_40 : decode cX8_meet 40 = .ok (.iload_n 1, 1) := by decide +kernel
theorem dX8_meet_41 : decode cX8_meet 41 = .ok (.iload_n 2, 1) := by decide +kernel
theorem dX8_meet_42 : decode cX8_meet 42 = .ok (.iastore, 1) := by decide +kernel
theorem dX8_meet_43 : decode cX8_meet 43 = .ok (.iconst 1, 1) := by decide +kernel
theorem dX8_meet_44 : decode cX8_meet 44 = .ok (.ireturn, 1) := by decide +kernel
def d_X8_meet (x0 : Nat) (x1 : Int32) (x2 : Int32) (G : Hp) : Option (Int32 × Hp) :=
  bo (d_X8_isIn x1 8 G) fun v2 =>
  if v2 = 0 then
    some (0, G)
  else
    gd (hc G x0 = 9) <|
    gd (hc G ((hr G x0 1)) = 17) <|
    bo (d_X8_isIn x2 ((nI (hl G ((hr G x0 1))))) G) fun v7 =>
    if v7 = 0 then
      some (0, G)
    else
      gd (hc G ((hr G x0 0)) = 3) <|
      if ((hi G ((hr G x0 0)) 4)) = 0 then
        gd (hc G ((hr G ((hr G x0 0)) 2)) = 11 ∧ ix x1 (hl G ((hr G ((hr G x0 0)) 2)))) <|
        bd (sI G ((hr G ((hr G x0 0)) 2)) x1.toNatClampNeg x2) fun G12 =>
        some (1, G12)
      else
        some (0, G)
section
variable {p : Program} {l : Launch} {e : Env} {s : State} {m : MethodId} {args : Array Value} {below : List Frame} {meth : Method} {c : Code} {b0 : Nat} {D : va_G} {E : Nat → ClassId}
set_option maxHeartbeats 4000000 in
set_option maxRecDepth 100000 in
theorem k_X8_meet (C : Cx p s m args meth c RX8 cX8_meet 3 (some .boolean) b0 D E) {rr : Int32} {GG : Hp} {x0 : Nat} {x1 : Int32} {x2 : Int32} {G : Hp} {ls : Array Slot} {H : Heap} {locs : List Loc} : lx ls 3 [(0, .inr x0), (1, .inl x1), (2, .inl x2)] → Rp b0 D E G H → SS b0 s H locs → d_X8_meet x0 x1 x2 G = some (rr, GG) → W p l e (rmd 1 (0) (0)) s m args below meth c H locs (0) (0) (MQ below (CQ b0 D E (some (.int rr)) GG) args s (0) (0) (fun q => b0 ≤ q)) (F0 m 0 ls []) := by
  intro hL hR hS hd
  unfold d_X8_meet at hd
  have hx := C.1
  have hb := C.2.1
  refine x_iload_n C dX8_meet_0 hL 1 rfl ?_
  refine lv_bipush (v := 8) hx hb dX8_meet_1 (by decide) ?_
  obtain ⟨v2, h1, hd⟩ := bo_ex hd
  refine r_callS (As := [.int x1, .int 8]) C (ct_X8_isIn h1) mf_X8_isIn ml_X8_61 ms_X8_isIn rfl ⟨Nat.le_of_ble_eq_true rfl, Nat.le_of_ble_eq_true rfl⟩ dX8_meet_3 (lx_size hL) rfl hR hS ⟨Nat.le_refl _, Nat.le_refl _⟩ (cat_le [] (Nat.le_of_ble_eq_true rfl)) (fun H locs hR hS => ?_)
  refine W_st (st2 := [.int v2]) rfl ?_
  refine lv_if_eq (tgt := 31) hx hb dX8_meet_6 (by decide) (fun c3 => ?_) (fun c3 => ?_)
  · rw [if_pos c3] at hd
    refine lv_iconst (v := 0) hx hb dX8_meet_31 (by decide) ?_
    cases hd
    exact r_zret C (by decide) dX8_meet_32 hR hS
  · rw [if_neg c3] at hd
    refine x_iload_n C dX8_meet_9 hL 2 rfl ?_
    refine x_aload_n C dX8_meet_10 hL 0 rfl ?_
    obtain ⟨g4, hd⟩ := gd_ex hd
    refine r_getr (ci := 8) (k := 1) C fl_X8_39 rfl dX8_meet_11 hR g4 ?_
    obtain ⟨g5, hd⟩ := gd_ex hd
    refine r_alen C dX8_meet_14 hR (Or.inr ⟨4, by decide, g5⟩) ?_
    obtain ⟨v7, h6, hd⟩ := bo_ex hd
    refine r_callS (As := [.int x2, .int ((nI (hl G ((hr G x0 1)))))]) C (ct_X8_isIn h6) mf_X8_isIn ml_X8_61 ms_X8_isIn rfl ⟨Nat.le_of_ble_eq_true rfl, Nat.le_of_ble_eq_true rfl⟩ dX8_meet_15 (lx_size hL) rfl hR hS ⟨Nat.le_refl _, Nat.le_refl _⟩ (cat_le [] (Nat.le_of_ble_eq_true rfl)) (fun H locs hR hS => ?_)
    refine W_st (st2 := [.int v7]) rfl ?_
    refine lv_if_eq (tgt := 31) hx hb dX8_meet_18 (by decide) (fun c8 => ?_) (fun c8 => ?_)
    · rw [if_pos c8] at hd
      refine lv_iconst (v := 0) hx hb dX8_meet_31 (by decide) ?_
      cases hd
      exact r_zret C (by decide) dX8_meet_32 hR hS
    · rw [if_neg c8] at hd
      refine x_aload_n C dX8_meet_21 hL 0 rfl ?_
      refine r_getr (ci := 8) (k := 0) C fl_X8_33 rfl dX8_meet_22 hR g4 ?_
      obtain ⟨g9, hd⟩ := gd_ex hd
      refine r_geti (ci := 2) (k := 4) C fl_X8_64 rfl dX8_meet_25 hR g9 ?_
      refine lv_if_eq (tgt := 33) hx hb dX8_meet_28 (by decide) (fun c10 => ?_) (fun c10 => ?_)
      · rw [if_pos c10] at hd
        refine x_aload_n C dX8_meet_33 hL 0 rfl ?_
        refine r_getr (ci := 8) (k := 0) C fl_X8_33 rfl dX8_meet_34 hR g4 ?_
        refine r_getr (ci := 2) (k := 2) C fl_X8_103 rfl dX8_meet_37 hR g9 ?_
        refine x_iload_n C dX8_meet_40 hL 1 rfl ?_
        refine x_iload_n C dX8_meet_41 hL 2 rfl ?_
        obtain ⟨g11, hd⟩ := gd_ex hd
        obtain ⟨G12, eG12, hd⟩ := bd_ex hd
        refine r_iast C dX8_meet_42 hR hS g11 (fun H locs hR hS => ?_)
        replace hR : Rp b0 D E G12 H := by rw [eG12]; exact hR
        refine lv_iconst (v := 1) hx hb dX8_meet_43 (by decide) ?_
        cases hd
        exact r_zret C (by decide) dX8_meet_44 hR hS
      · rw [if_neg c10] at hd
        refine lv_iconst (v := 0) hx hb dX8_meet_31 (by decide) ?_
        cases hd
        exact r_zret C (by decide) dX8_meet_32 hR hS
end
set_option maxHeartbeats 4000000 in
set_option maxRecDepth 100000 in
theorem ct_X8_meet {l : Launch} {b0 : Nat} {D : va_G} {E : Nat → ClassId} {G : Hp} {a0 : Nat} {a1 : Int32} {a2 : Int32} {rr : Int32} {GG : Hp} (hd : d_X8_meet a0 a1 a2 G = some (rr, GG)) : CT l yX8_meet cX8_meet 3 (some .boolean) 1 0 0 b0 D E [rv a0, .int a1, .int a2] G (some (.int rr)) GG := by
  refine CT_of (by decide +kernel) ?_
  intro p e s m below meth c C hnm hR
  refine r_entry [.inr a0, .inl a1, .inl a2] (n := 3) (Nat.le_of_ble_eq_true rfl) (lv := [(0, .inr a0), (1, .inl a1), (2, .inl a2)]) rfl (fun ls hL => ?_)
  exact k_X8_meet C (lx_sub hL [0, 1, 2] rfl) hR ⟨fun _ _ => rfl, fun _ h => by cases h⟩ hd

/-! GroveWorks.cut(I)Z -/
theorem dX8_cut_0 : decode cX8_cut 0 = .ok (.iload_n 1, 1) := by decide +kernel
theorem dX8_cut_1 : decode cX8_cut 1 = .ok (.bipush 16, 2) := by decide +kernel
theorem dX8_cut_3 : decode cX8_cut 3 = .ok (.invokestatic 61, 3) := by decide +kernel
theorem dX8_cut_6 : decode cX8_cut 6 = .ok (.ifCond .eq 18, 3) := by decide +kernel
theorem dX8_cut_9 : decode cX8_cut 9 = .ok (.aload_n 0, 1) := by decide +kernel
theorem dX8_cut_10 : decode cX8_cut 10 = .ok (.getfield 33, 3) := by decide +kernel
theorem dX8_cut_13 : decode cX8_cut 13 = .ok (.getfield 67, 3) := by decide +kernel
theorem dX8_cut_16 : decode cX8_cut 16 = .ok (.iload_n 1, 1) := by decide +kernel
theorem dX8_cut_17 : decode cX8_cut 17 = .ok (.aaload, 1) := by decide +kernel
theorem dX8_cut_18 : decode cX8_cut 18 = .ok (.getfield 106, 3) := by decide +kernel
theorem dX8_cut_21 : decode cX8_cut 21 = .ok (.ifCond .ne 5, 3) := by decide +kernel
theorem dX8_cut_24 : decode cX8_cut 24 = .ok (.iconst 0, 1) := by decide +kernel
theorem dX8_cut_25 : decode cX8_cut 25 = .ok (.ireturn, 1) := by decide +kernel
theorem dX8_cut_26 : decode cX8_cut 26 = .ok (.aload_n 0, 1) := by decide +kernel
theorem dX8_cut_27 : decode cX8_cut 27 = .ok (.getfield 33, 3) := by decide +kernel
theorem dX8_cut_30 : decode cX8_cut 30 = .ok (.getfield 67, 3) := by decide +kernel
theorem dX8_cut_33 : decode cX8_cut 33 = .ok (.iload_n 1, 1) := by decide +kernel
theorem dX8_cut_34 : decode cX8_cut 34 = .ok (.aaload, 1) := by decide +kernel
theorem dX8_cut_35 : decode cX8_cut 35 = .ok (.astore_n 2, 1) := by decide +kernel
theorem dX8_cut_36 : decode cX8_cut 36 = .ok (.aload_n 2, 1) := by decide +kernel
theorem dX8_cut_37 : decode cX8_cut 37 = .ok (.iconst 0, 1) := by decide +kernel
theorem dX8_cut_38 : decode cX8_cut 38 = .ok (.putfield 106, 3) := by decide +kernel
theorem dX8_cut_41 : decode cX8_cut 41 = .ok (.aload_n 2, 1) := by decide +kernel
theorem dX8_cut_42 : decode cX8_cut 42 = .ok (.iconst 0, 1) := by decide +kernel
theorem dX8_cut_43 : decode cX8_cut 43 = .ok (.putfield 110, 3) := by decide +kernel
theorem dX8_cut_46 : decode cX8_cut 46 = .ok (.aload_n 0, 1) := by decide +kernel
theorem dX8_cut_47 : decode cX8_cut 47 = .ok (.getfield 33, 3) := by decide +kernel
theorem dX8_cut_50 : decode cX8_cut 50 = .ok (.getfield 87, 3) := by decide +kernel
theorem dX8_cut_53 : decode cX8_cut 53 = .ok (.iconst 1, 1) := by decide +kernel
theorem dX8_cut_54 : decode cX8_cut 54 = .ok (.putfield 113, 3) := by decide +kernel
theorem dX8_cut_57 : decode cX8_cut 57 = .ok (.iconst 0, 1) := by decide +kernel
theorem dX8_cut_58 : decode cX8_cut 58 = .ok (.istore_n 3, 1) := by decide +kernel
theorem dX8_cut_59 : decode cX8_cut 59 = .ok (.iload_n 3, 1) := by decide +kernel
theorem dX8_cut_60 : decode cX8_cut 60 = .ok (.aload_n 0, 1) := by decide +kernel
theorem dX8_cut_61 : decode cX8_cut 61 = .ok (.getfield 39, 3) := by decide +kernel
theorem dX8_cut_64 : decode cX8_cut 64 = .ok (.arraylength, 1) := by decide +kernel
theorem dX8_cut_65 : decode cX8_cut 65 = .ok (.if_icmp .ge 24, 3) := by decide +kernel
theorem dX8_cut_68 : decode cX8_cut 68 = .ok (.aload_n 0, 1) := by decide +kernel
theorem dX8_cut_69 : decode cX8_cut 69 = .ok (.getfield 39, 3) := by decide +kernel
theorem dX8_cut_72 : decode cX8_cut 72 = .ok (.iload_n 3, 1) := by decide +kernel
theorem dX8_cut_73 : decode cX8_cut 73 = .ok (.aaload, 1) := by decide +kernel
theorem dX8_cut_74 : decode cX8_cut 74 = .ok (.aload_n 2, 1) := by decide +kernel
theorem dX8_cut_75 : decode cX8_cut 75 = .ok (.getfield 75, 3) := by decide +kernel
theorem dX8_cut_78 : decode cX8_cut 78 = .ok (.iload_n 3, 1) := by decide +kernel
theorem dX8_cut_79 : decode cX8_cut 79 = .ok (.iaload, 1) := by decide +kernel
theorem dX8_cut_80 : decode cX8_cut 80 = .ok (.invokevirtual 116, 3) := by decide +kernel
theorem dX8_cut_83 : decode cX8_cut 83 = .ok (.iinc 3 1, 3) := by decide +kernel
theorem dX8_cut_86 : decode cX8_cut 86 = .ok (.goto (-27), 3) := by decide +kernel
theorem dX8_cut_89 : decode cX8_cut 89 = .ok (.iconst 1, 1) := by decide +kernel
theorem dX8_cut_90 : decode cX8_cut 90 = .ok (.ireturn, 1) := by decide +kernel
def d_X8_cut_59 : Nat → Nat → Nat → Int32 → Hp → Option (Int32 × Hp)
  | 0, _, _, _, _ => none
  | n_ + 1, x0, x2, x3, G =>
    gd (hc G x0 = 9) <|
    gd (hc G ((hr G x0 1)) = 17) <|
    if ((nI (hl G ((hr G x0 1))))) ≤ x3 then
      some (1, G)
    else
      gd (hc G ((hr G x0 1)) = 17 ∧ ix x3 (hl G ((hr G x0 1)))) <|
      gd (hc G x2 = 8) <|
      gd (hc G ((hr G x2 1)) = 11 ∧ ix x3 (hl G ((hr G x2 1)))) <|
      gd (hc G ((hr G ((hr G x0 1)) x3.toNatClampNeg)) = 5) <|
      bo (d_X4_forgetPort ((hr G ((hr G x0 1)) x3.toNatClampNeg)) ((hi G ((hr G x2 1)) x3.toNatClampNeg)) G) fun G9 =>
      d_X8_cut_59 n_ x0 x2 ((x3 + 1)) G9
def d_X8_cut (x0 : Nat) (x1 : Int32) (G : Hp) : Option (Int32 × Hp) :=
  bo (d_X8_isIn x1 16 G) fun v2 =>
  if v2 = 0 then
    some (0, G)
  else
    gd (hc G x0 = 9) <|
    gd (hc G ((hr G x0 0)) = 3) <|
    gd (hc G ((hr G ((hr G x0 0)) 0)) = 20 ∧ ix x1 (hl G ((hr G ((hr G x0 0)) 0)))) <|
    gd (hc G ((hr G ((hr G ((hr G x0 0)) 0)) x1.toNatClampNeg)) = 8) <|
    if ((hi G ((hr G ((hr G ((hr G x0 0)) 0)) x1.toNatClampNeg)) 2)) = 0 then
      some (0, G)
    else
      gd (hc G ((hr G ((hr G x0 0)) 0)) = 20 ∧ ix x1 (hl G ((hr G ((hr G x0 0)) 0)))) <|
      bd ((hr G ((hr G ((hr G x0 0)) 0)) x1.toNatClampNeg)) fun v10 =>
      gd (hc G v10 = 8) <|
      bd (sI G v10 2 0) fun G12 =>
      gd (hc G12 v10 = 8) <|
      bd (sI G12 v10 6 0) fun G14 =>
      gd (hc G14 x0 = 9) <|
      gd (hc G14 ((hr G14 x0 0)) = 3) <|
      gd (hc G14 ((hr G14 ((hr G14 x0 0)) 1)) = 7) <|
      bd (sI G14 ((hr G14 ((hr G14 x0 0)) 1)) 6 1) fun G18 =>
      d_X8_cut_59 FU x0 v10 0 G18
section
variable {p : Program} {l : Launch} {e : Env} {s : State} {m : MethodId} {args : Array Value} {below : List Frame} {meth : Method} {c : Code} {b0 : Nat} {D : va_G} {E : Nat → ClassId}
set_option maxHeartbeats 4000000 in
set_option maxRecDepth 100000 in
theorem k_X8_cut_59 (C : Cx p s m args meth c RX8 cX8_cut 4 (some .boolean) b0 D E) {rr : Int32} {GG : Hp} : ∀ (n_ : Nat) {x0 : Nat} {x2 : Nat} {x3 : Int32} {G : Hp} {ls : Array Slot} {H : Heap} {locs : List Loc}, lx ls 4 [(0, .inr x0), (2, .inr x2), (3, .inl x3)] → Rp b0 D E G H → SS b0 s H locs → d_X8_cut_59 n_ x0 x2 x3 G = some (rr, GG) → W p l e (rmd 3 (0) (0)) s m args below meth c H locs (0) (0) (MQ below (CQ b0 D E (some (.int rr)) GG) args s (0) (0) (fun q => b0 ≤ q)) (F0 m 59 ls []) := by
  intro n_
  induction n_ with
  | zero =>
    intro x0 x2 x3 G ls H locs hL hR hS hd
    cases (show (none : Option _) = some _ from hd)
  | succ n_ ih =>
    intro x0 x2 x3 G ls H locs hL hR hS hd
    rw [d_X8_cut_59.eq_2] at hd
    have hx := C.1
    have hb := C.2.1
    refine x_iload_n C dX8_cut_59 hL 2 rfl ?_
    refine x_aload_n C dX8_cut_60 hL 0 rfl ?_
    obtain ⟨g1, hd⟩ := gd_ex hd
    refine r_getr (ci := 8) (k := 1) C fl_X8_39 rfl dX8_cut_61 hR g1 ?_
    obtain ⟨g2, hd⟩ := gd_ex hd
    refine r_alen C dX8_cut_64 hR (Or.inr ⟨4, by decide, g2⟩) ?_
    refine lv_icmp_ge (tgt := 89) hx hb dX8_cut_65 (by decide) (fun c3 => ?_) (fun c3 => ?_)
    · rw [if_pos c3] at hd
      refine lv_iconst (v := 1) hx hb dX8_cut_89 (by decide) ?_
      cases hd
      exact r_zret C (by decide) dX8_cut_90 hR hS
    · rw [if_neg c3] at hd
      refine x_aload_n C dX8_cut_68 hL 0 rfl ?_
      refine r_getr (ci := 8) (k := 1) C fl_X8_39 rfl dX8_cut_69 hR g1 ?_
      refine x_iload_n C dX8_cut_72 hL 2 rfl ?_
      obtain ⟨g4, hd⟩ := gd_ex hd
      refine r_aald (ci := 4) C (by decide) dX8_cut_73 hR g4 ?_
      refine x_aload_n C dX8_cut_74 hL 1 rfl ?_
      obtain ⟨g5, hd⟩ := gd_ex hd
      refine r_getr (ci := 7) (k := 1) C fl_X8_75 rfl dX8_cut_75 hR g5 ?_
      refine x_iload_n C dX8_cut_78 hL 2 rfl ?_
      obtain ⟨g6, hd⟩ := gd_ex hd
      refine r_iald C dX8_cut_79 hR g6 ?_
      obtain ⟨g7, hd⟩ := gd_ex hd
      obtain ⟨G9, h8, hd⟩ := bo_ex hd
      refine r_callV (a := ((hr G ((hr G x0 1)) x3.toNatClampNeg))) (ci := 4) (As := [.int ((hi G ((hr G x2 1)) x3.toNatClampNeg))]) C (ct_X4_forgetPort h8) mf_X4_forgetPort ml_X8_116 mv_X4_forgetPort rfl ⟨Nat.le_of_ble_eq_true rfl, Nat.le_of_ble_eq_true rfl⟩ dX8_cut_80 (lx_size hL) rfl hR hS g7 ⟨Nat.le_refl _, Nat.le_refl _⟩ (cat_le [] (Nat.le_of_ble_eq_true rfl)) (fun H locs hR hS => ?_)
      refine W_st (st2 := []) rfl ?_
      refine x_iinc (lv' := [(3, .inl ((x3 + 1))), (0, .inr x0), (2, .inr x2)]) C dX8_cut_83 hL 2 rfl rfl (by decide) rfl (fun ls hL => ?_)
      refine lv_goto (tgt := 59) hx hb dX8_cut_86 (by decide) ?_
      exact ih (lx_sub hL [1, 2, 0] rfl) hR hS hd
set_option maxHeartbeats 4000000 in
set_option maxRecDepth 100000 in
theorem k_X8_cut (C : Cx p s m args meth c RX8 cX8_cut 4 (some .boolean) b0 D E) {rr : Int32} {GG : Hp} {x0 : Nat} {x1 : Int32} {G : Hp} {ls : Array Slot} {H : Heap} {locs : List Loc} : lx ls 4 [(0, .inr x0), (1, .inl x1)] → Rp b0 D E G H → SS b0 s H locs → d_X8_cut x0 x1 G = some (rr, GG) → W p l e (rmd 3 (0) (0)) s m args below meth c H locs (0) (0) (MQ below (CQ b0 D E (some (.int rr)) GG) args s (0) (0) (fun q => b0 ≤ q)) (F0 m 0 ls []) := by
  intro hL hR hS hd
  unfold d_X8_cut at hd
  have hx := C.1
  have hb := C.2.1
  refine x_iload_n C dX8_cut_0 hL 1 rfl ?_
  refine lv_bipush (v := 16) hx hb dX8_cut_1 (by decide) ?_
  obtain ⟨v2, h1, hd⟩ := bo_ex hd
  refine r_callS (As := [.int x1, .int 16]) C (ct_X8_isIn h1) mf_X8_isIn ml_X8_61 ms_X8_isIn rfl ⟨Nat.le_of_ble_eq_true rfl, Nat.le_of_ble_eq_true rfl⟩ dX8_cut_3 (lx_size hL) rfl hR hS ⟨Nat.le_refl _, Nat.le_refl _⟩ (cat_le [] (Nat.le_of_ble_eq_true rfl)) (fun H locs hR hS => ?_)
  refine W_st (st2 := [.int v2]) rfl ?_
  refine lv_if_eq (tgt := 24) hx hb dX8_cut_6 (by decide) (fun c3 => ?_) (fun c3 => ?_)
  · rw [if_pos c3] at hd
    refine lv_iconst (v := 0) hx hb dX8_cut_24 (by decide) ?_
    cases hd
    exact r_zret C (by decide) dX8_cut_25 hR hS
  · rw [if_neg c3] at hd
    refine x_aload_n C dX8_cut_9 hL 0 rfl ?_
    obtain ⟨g4, hd⟩ := gd_ex hd
    refine r_getr (ci := 8) (k := 0) C fl_X8_33 rfl dX8_cut_10 hR g4 ?_
    obtain ⟨g5, hd⟩ := gd_ex hd
    refine r_getr (ci := 2) (k := 0) C fl_X8_67 rfl dX8_cut_13 hR g5 ?_
    refine x_iload_n C dX8_cut_16 hL 1 rfl ?_
    obtain ⟨g6, hd⟩ := gd_ex hd
    refine r_aald (ci := 7) C (by decide) dX8_cut_17 hR g6 ?_
    obtain ⟨g7, hd⟩ := gd_ex hd
    refine r_geti (ci := 7) (k := 2) C fl_X8_106 rfl dX8_cut_18 hR g7 ?_
    refine lv_if_ne (tgt := 26) hx hb dX8_cut_21 (by decide) (fun c8 => ?_) (fun c8 => ?_)
    · rw [if_neg c8] at hd
      refine x_aload_n C dX8_cut_26 hL 0 rfl ?_
      refine r_getr (ci := 8) (k := 0) C fl_X8_33 rfl dX8_cut_27 hR g4 ?_
      refine r_getr (ci := 2) (k := 0) C fl_X8_67 rfl dX8_cut_30 hR g5 ?_
      refine x_iload_n C dX8_cut_33 hL 1 rfl ?_
      obtain ⟨g9, hd⟩ := gd_ex hd
      refine r_aald (ci := 7) C (by decide) dX8_cut_34 hR g9 ?_
      obtain ⟨v10, ev10, hd⟩ := bd_ex hd
      rw [← ev10]
      refine x_astore_n (lv' := [(2, .inr v10), (0, .inr x0), (1, .inl x1)]) C dX8_cut_35 hL (by decide) rfl (fun ls hL => ?_)
      refine x_aload_n C dX8_cut_36 hL 0 rfl ?_
      refine lv_iconst (v := 0) hx hb dX8_cut_37 (by decide) ?_
      obtain ⟨g11, hd⟩ := gd_ex hd
      obtain ⟨G12, eG12, hd⟩ := bd_ex hd
      refine r_putz (ci := 7) (k := 2) C fl_X8_106 rfl (Or.inl rfl) (by decide) dX8_cut_38 hR hS g11 (fun H locs hR hS => ?_)
      replace hR : Rp b0 D E G12 H := by rw [eG12]; exact hR
      refine x_aload_n C dX8_cut_41 hL 0 rfl ?_
      refine lv_iconst (v := 0) hx hb dX8_cut_42 (by decide) ?_
      obtain ⟨g13, hd⟩ := gd_ex hd
      obtain ⟨G14, eG14, hd⟩ := bd_ex hd
      refine r_puti (ci := 7) (k := 6) C fl_X8_110 rfl (Or.inl rfl) dX8_cut_43 hR hS g13 (fun H locs hR hS => ?_)
      replace hR : Rp b0 D E G14 H := by rw [eG14]; exact hR
      refine x_aload_n C dX8_cut_46 hL 1 rfl ?_
      obtain ⟨g15, hd⟩ := gd_ex hd
      refine r_getr (ci := 8) (k := 0) C fl_X8_33 rfl dX8_cut_47 hR g15 ?_
      obtain ⟨g16, hd⟩ := gd_ex hd
      refine r_getr (ci := 2) (k := 1) C fl_X8_87 rfl dX8_cut_50 hR g16 ?_
      refine lv_iconst (v := 1) hx hb dX8_cut_53 (by decide) ?_
      obtain ⟨g17, hd⟩ := gd_ex hd
      obtain ⟨G18, eG18, hd⟩ := bd_ex hd
      refine r_putz (ci := 6) (k := 6) C fl_X8_113 rfl (Or.inl rfl) (by decide) dX8_cut_54 hR hS g17 (fun H locs hR hS => ?_)
      replace hR : Rp b0 D E G18 H := by rw [eG18]; exact hR
      refine lv_iconst (v := 0) hx hb dX8_cut_57 (by decide) ?_
      refine x_istore_n (lv' := [(3, .inl 0), (2, .inr v10), (0, .inr x0), (1, .inl x1)]) C dX8_cut_58 hL (by decide) rfl (fun ls hL => ?_)
      exact k_X8_cut_59 C FU (lx_sub hL [2, 1, 0] rfl) hR hS hd
    · rw [if_pos c8] at hd
      refine lv_iconst (v := 0) hx hb dX8_cut_24 (by decide) ?_
      cases hd
      exact r_zret C (by decide) dX8_cut_25 hR hS
end
set_option maxHeartbeats 4000000 in
set_option maxRecDepth 100000 in
theorem ct_X8_cut {l : Launch} {b0 : Nat} {D : va_G} {E : Nat → ClassId} {G : Hp} {a0 : Nat} {a1 : Int32} {rr : Int32} {GG : Hp} (hd : d_X8_cut a0 a1 G = some (rr, GG)) : CT l yX8_cut cX8_cut 4 (some .boolean) 3 0 0 b0 D E [rv a0, .int a1] G (some (.int rr)) GG := by
  refine CT_of (by decide +kernel) ?_
  intro p e s m below meth c C hnm hR
  refine r_entry [.inr a0, .inl a1] (n := 4) (Nat.le_of_ble_eq_true rfl) (lv := [(0, .inr a0), (1, .inl a1)]) rfl (fun ls hL => ?_)
  exact k_X8_cut C (lx_sub hL [0, 1] rfl) hR ⟨fun _ _ => rfl, fun _ h => by cases h⟩ hd

/-! GroveWorks.mend(I)Z -/
theorem dX8_mend_0 : decode cX8_mend 0 = .ok (.iload_n 1, 1) := by decide +kernel
theorem dX8_mend_1 : decode cX8_mend 1 = .ok (.bipush 16, 2) := by decide +kernel
theorem dX8_mend_3 : decode cX8_mend 3 = .ok (.invokestatic 61, 3) := by decide +kernel
theorem dX8_mend_6 : decode cX8_mend 6 = .ok (.ifCond .eq 18, 3) := by decide +kernel
theorem dX8_mend_9 : decode cX8_mend 9 = .ok (.aload_n 0, 1) := by decide +kernel
theorem dX8_mend_10 : decode cX8_mend 10 = .ok (.getfield 33, 3) := by decide +kernel
theorem dX8_mend_13 : decode cX8_mend 13 = .ok (.getfield 67, 3) := by decide +kernel
theorem dX8_mend_16 : decode cX8_mend 16 = .ok (.iload_n 1, 1) := by decide +kernel
theorem dX8_mend_17 : decode cX8_mend 17 = .ok (.aaload, 1) := by decide +kernel
theorem dX8_mend_18 : decode cX8_mend 18 = .ok (.getfield 106, 3) := by decide +kernel
theorem dX8_mend_21 : decode cX8_mend 21 = .ok (.ifCond .eq 5, 3) := by decide +kernel
theorem dX8_mend_24 : decode cX8_mend 24 = .ok (.iconst 0, 1) := by decide +kernel
theorem dX8_mend_25 : decode cX8_mend 25 = .ok (.ireturn, 1) := by decide +kernel
theorem dX8_mend_26 : decode cX8_mend 26 = .ok (.aload_n 0, 1) := by decide +kernel
theorem dX8_mend_27 : decode cX8_mend 27 = .ok (.getfield 33, 3) := by decide +kernel
theorem dX8_mend_30 : decode cX8_mend 30 = .ok (.getfield 67, 3) := by decide +kernel
theorem dX8_mend_33 : decode cX8_mend 33 = .ok (.iload_n 1, 1) := by decide +kernel
theorem dX8_mend_34 : decode cX8_mend 34 = .ok (.aaload, 1) := by decide +kernel
theorem dX8_mend_35 : decode cX8_mend 35 = .ok (.iconst 1, 1) := by decide +kernel
theorem dX8_mend_36 : decode cX8_mend 36 = .ok (.putfield 106, 3) := by decide +kernel
theorem dX8_mend_39 : decode cX8_mend 39 = .ok (.aload_n 0, 1) := by decide +kernel
theorem dX8_mend_40 : decode cX8_mend 40 = .ok (.getfield 33, 3) := by decide +kernel
theorem dX8_mend_43 : decode cX8_mend 43 = .ok (.getfield 87, 3) := by decide +kernel
theorem dX8_mend_46 : decode cX8_mend 46 = .ok (.iconst 1, 1) := by decide +kernel
theorem dX8_mend_47 : decode cX8_mend 47 = .ok (.putfield 113, 3) := by decide +kernel
theorem dX8_mend_50 : decode cX8_mend 50 = .ok (.iconst 1, 1) := by decide +kernel
theorem dX8_mend_51 : decode cX8_mend 51 = .ok (.ireturn, 1) := by decide +kernel
def d_X8_mend (x0 : Nat) (x1 : Int32) (G : Hp) : Option (Int32 × Hp) :=
  bo (d_X8_isIn x1 16 G) fun v2 =>
  if v2 = 0 then
    some (0, G)
  else
    gd (hc G x0 = 9) <|
    gd (hc G ((hr G x0 0)) = 3) <|
    gd (hc G ((hr G ((hr G x0 0)) 0)) = 20 ∧ ix x1 (hl G ((hr G ((hr G x0 0)) 0)))) <|
    gd (hc G ((hr G ((hr G ((hr G x0 0)) 0)) x1.toNatClampNeg)) = 8) <|
    if ((hi G ((hr G ((hr G ((hr G x0 0)) 0)) x1.toNatClampNeg)) 2)) = 0 then
      gd (hc G ((hr G ((hr G x0 0)) 0)) = 20 ∧ ix x1 (hl G ((hr G ((hr G x0 0)) 0)))) <|
      bd (sI G ((hr G ((hr G ((hr G x0 0)) 0)) x1.toNatClampNeg)) 2 1) fun G10 =>
      gd (hc G10 x0 = 9) <|
      gd (hc G10 ((hr G10 x0 0)) = 3) <|
      gd (hc G10 ((hr G10 ((hr G10 x0 0)) 1)) = 7) <|
      bd (sI G10 ((hr G10 ((hr G10 x0 0)) 1)) 6 1) fun G14 =>
      some (1, G14)
    else
      some (0, G)
section
variable {p : Program} {l : Launch} {e : Env} {s : State} {m : MethodId} {args : Array Value} {below : List Frame} {meth : Method} {c : Code} {b0 : Nat} {D : va_G} {E : Nat → ClassId}
set_option maxHeartbeats 4000000 in
set_option maxRecDepth 100000 in
theorem k_X8_mend (C : Cx p s m args meth c RX8 cX8_mend 2 (some .boolean) b0 D E) {rr : Int32} {GG : Hp} {x0 : Nat} {x1 : Int32} {G : Hp} {ls : Array Slot} {H : Heap} {locs : List Loc} : lx ls 2 [(0, .inr x0), (1, .inl x1)] → Rp b0 D E G H → SS b0 s H locs → d_X8_mend x0 x1 G = some (rr, GG) → W p l e (rmd 1 (0) (0)) s m args below meth c H locs (0) (0) (MQ below (CQ b0 D E (some (.int rr)) GG) args s (0) (0) (fun q => b0 ≤ q)) (F0 m 0 ls []) := by
  intro hL hR hS hd
  unfold d_X8_mend at hd
  have hx := C.1
  have hb := C.2.1
  refine x_iload_n C dX8_mend_0 hL 1 rfl ?_
  refine lv_bipush (v := 16) hx hb dX8_mend_1 (by decide) ?_
  obtain ⟨v2, h1, hd⟩ := bo_ex hd
  refine r_callS (As := [.int x1, .int 16]) C (ct_X8_isIn h1) mf_X8_isIn ml_X8_61 ms_X8_isIn rfl ⟨Nat.le_of_ble_eq_true rfl, Nat.le_of_ble_eq_true rfl⟩ dX8_mend_3 (lx_size hL) rfl hR hS ⟨Nat.le_refl _, Nat.le_refl _⟩ (cat_le [] (Nat.le_of_ble_eq_true rfl)) (fun H locs hR hS => ?_)
  refine W_st (st2 := [.int v2]) rfl ?_
  refine lv_if_eq (tgt := 24) hx hb dX8_mend_6 (by decide) (fun c3 => ?_) (fun c3 => ?_)
  · rw [if_pos c3] at hd
    refine lv_iconst (v := 0) hx hb dX8_mend_24 (by decide) ?_
    cases hd
    exact r_zret C (by decide) dX8_mend_25 hR hS
  · rw [if_neg c3] at hd
    refine x_aload_n C dX8_mend_9 hL 0 rfl ?_
    obtain ⟨g4, hd⟩ := gd_ex hd
    refine r_getr (ci := 8) (k := 0) C fl_X8_33 rfl dX8_mend_10 hR g4 ?_
    obtain ⟨g5, hd⟩ := gd_ex hd
    refine r_getr (ci := 2) (k := 0) C fl_X8_67 rfl dX8_mend_13 hR g5 ?_
    refine x_iload_n C dX8_mend_16 hL 1 rfl ?_
    obtain ⟨g6, hd⟩ := gd_ex hd
    refine r_aald (ci := 7) C (by decide) dX8_mend_17 hR g6 ?_
    obtain ⟨g7, hd⟩ := gd_ex hd
    refine r_geti (ci := 7) (k := 2) C fl_X8_106 rfl dX8_mend_18 hR g7 ?_
    refine lv_if_eq (tgt := 26) hx hb dX8_mend_21 (by decide) (fun c8 => ?_) (fun c8 => ?_)
    · rw [if_pos c8] at hd
      refine x_aload_n C dX8_mend_26 hL 0 rfl ?_
      refine r_getr (ci := 8) (k := 0) C fl_X8_33 rfl dX8_mend_27 hR g4 ?_
      refine r_getr (ci := 2) (k := 0) C fl_X8_67 rfl dX8_mend_30 hR g5 ?_
      refine x_iload_n C dX8_mend_33 hL 1 rfl ?_
      obtain ⟨g9, hd⟩ := gd_ex hd
      refine r_aald (ci := 7) C (by decide) dX8_mend_34 hR g9 ?_
      refine lv_iconst (v := 1) hx hb dX8_mend_35 (by decide) ?_
      obtain ⟨G10, eG10, hd⟩ := bd_ex hd
      refine r_putz (ci := 7) (k := 2) C fl_X8_106 rfl (Or.inl rfl) (by decide) dX8_mend_36 hR hS g7 (fun H locs hR hS => ?_)
      replace hR : Rp b0 D E G10 H := by rw [eG10]; exact hR
      refine x_aload_n C dX8_mend_39 hL 0 rfl ?_
      obtain ⟨g11, hd⟩ := gd_ex hd
      refine r_getr (ci := 8) (k := 0) C fl_X8_33 rfl dX8_mend_40 hR g11 ?_
      obtain ⟨g12, hd⟩ := gd_ex hd
      refine r_getr (ci := 2) (k := 1) C fl_X8_87 rfl dX8_mend_43 hR g12 ?_
      refine lv_iconst (v := 1) hx hb dX8_mend_46 (by decide) ?_
      obtain ⟨g13, hd⟩ := gd_ex hd
      obtain ⟨G14, eG14, hd⟩ := bd_ex hd
      refine r_putz (ci := 6) (k := 6) C fl_X8_113 rfl (Or.inl rfl) (by decide) dX8_mend_47 hR hS g13 (fun H locs hR hS => ?_)
      replace hR : Rp b0 D E G14 H := by rw [eG14]; exact hR
      refine lv_iconst (v := 1) hx hb dX8_mend_50 (by decide) ?_
      cases hd
      exact r_zret C (by decide) dX8_mend_51 hR hS
    · rw [if_neg c8] at hd
      refine lv_iconst (v := 0) hx hb dX8_mend_24 (by decide) ?_
      cases hd
      exact r_zret C (by decide) dX8_mend_25 hR hS
end
set_option maxHeartbeats 4000000 in
set_option maxRecDepth 100000 in
theorem ct_X8_mend {l : Launch} {b0 : Nat} {D : va_G} {E : Nat → ClassId} {G : Hp} {a0 : Nat} {a1 : Int32} {rr : Int32} {GG : Hp} (hd : d_X8_mend a0 a1 G = some (rr, GG)) : CT l yX8_mend cX8_mend 2 (some .boolean) 1 0 0 b0 D E [rv a0, .int a1] G (some (.int rr)) GG := by
  refine CT_of (by decide +kernel) ?_
  intro p e s m below meth c C hnm hR
  refine r_entry [.inr a0, .inl a1] (n := 2) (Nat.le_of_ble_eq_true rfl) (lv := [(0, .inr a0), (1, .inl a1)]) rfl (fun ls hL => ?_)
  exact k_X8_mend C (lx_sub hL [0, 1] rfl) hR ⟨fun _ _ => rfl, fun _ h => by cases h⟩ hd

/-! GroveWorks.join(II)Z -/
theorem dX8_join_0 : decode cX8_join 0 = .ok (.iload_n 1, 1) := by decide +kernel
theorem dX8_join_1 : decode cX8_join 1 = .ok (.bipush 16, 2) := by decide +kernel
theorem dX8_join_3 : decode cX8_join 3 = .ok (.invokestatic 61, 3) := by decide +kernel
theorem dX8_join_6 : decode cX8_join 6 = .ok (.ifCond .eq 34, 3) := by decide +kernel
theorem dX8_join_9 : decode cX8_join 9 = .ok (.iload_n 2, 1) := by decide +kernel
theorem dX8_join_10 : decode cX8_join 10 = .ok (.bipush 8, 2) := by decide +kernel
theorem dX8_join_12 : decode cX8_join 12 = .ok (.invokestatic 61, 3) := by decide +kernel
theorem dX8_join_15 : decode cX8_join 15 = .ok (.ifCond .eq 25, 3) := by decide +kernel
theorem dX8_join_18 : decode cX8_join 18 = .ok (.aload_n 0, 1) := by decide +kernel
theorem dX8_join_19 : decode cX8_join 19 = .ok (.getfield 11, 3) := by decide +kernel
theorem dX8_join_22 : decode cX8_join 22 = .ok (.iload_n 1, 1) := by decide +kernel
theorem dX8_join_23 : decode cX8_join 23 = .ok (.aaload, 1) := by decide +kernel
theorem dX8_join_24 : decode cX8_join 24 = .ok (.ifnull 16, 3) := by decide +kernel
theorem dX8_join_27 : decode cX8_join 27 = .ok (.aload_n 0, 1) := by decide +kernel
theorem dX8_join_28 : decode cX8_join 28 = .ok (.getfield 11, 3) := by decide +kernel
theorem dX8_join_31 : decode cX8_join 31 = .ok (.iload_n 1, 1) := by decide +kernel
theorem dX8_join_32 : decode cX8_join 32 = .ok (.aaload, 1) := by decide +kernel
theorem dX8_join_33 : decode cX8_join 33 = .ok (.iload_n 2, 1) := by decide +kernel
theorem dX8_join_34 : decode cX8_join 34 = .ok (.invokevirtual 119, 3) := by decide +kernel
theorem dX8_join_37 : decode cX8_join 37 = .ok (.ifCond .eq 5, 3) := by decide +kernel
theorem dX8_join_40 : decode cX8_join 40 = .ok (.iconst 0, 1) := by decide +kernel
theorem dX8_join_41 : decode cX8_join 41 = .ok (.ireturn, 1) := by decide +kernel
theorem dX8_join_42 : decode cX8_join 42 = .ok (.aload_n 0, 1) := by decide +kernel
theorem dX8_join_43 : decode cX8_join 43 = .ok (.getfield 11, 3) := by decide +kernel
theorem dX8_join_46 : decode cX8_join 46 = .ok (.iload_n 1, 1) := by decide +kernel
theorem dX8_join_47 : decode cX8_join 47 = .ok (.aaload, 1) := by decide +kernel
theorem dX8_join_48 : decode cX8_join 48 = .ok (.dup, 1) := by decide +kernel
theorem dX8_join_49 : decode cX8_join 49 = .ok (.getfield 123, 3) := by decide +kernel
theorem dX8_join_52 : decode cX8_join 52 = .ok (.iconst 1, 1) := by decide +kernel
theorem dX8_join_53 : decode cX8_join 53 = .ok (.iload_n 2, 1) := by decide +kernel
theorem dX8_join_54 : decode cX8_join 54 = .ok (.ishl, 1) := by decide +kernel
theorem dX8_join_55 : decode cX8_join 55 = .ok (.ior, 1) := by decide +kernel
theorem dX8_join_56 : decode cX8_join 56 = .ok (.putfield 123, 3) := by decide +kernel
theorem dX8_join_59 : decode cX8_join 59 = .ok (.aload_n 0, 1) := by decide +kernel
theorem dX8_join_60 : decode cX8_join 60 = .ok (.getfield 11, 3) := by decide +kernel
theorem dX8_join_63 : decode cX8_join 63 = .ok (.iload_n 1, 1) := by decide +kernel
theorem dX8_join_64 : decode cX8_join 64 = .ok (.aaload, 1) := by decide +kernel
theorem dX8_join_65 : decode cX8_join 65 = .ok (.iconst 3, 1) := by decide +kernel
theorem dX8_join_66 : decode cX8_join 66 = .ok (.iload_n 2, 1) := by decide +kernel
theorem dX8_join_67 : decode cX8_join 67 = .ok (.invokevirtual 126, 3) := by decide +kernel
theorem dX8_join_70 : decode cX8_join 70 = .ok (.iconst 1, 1) := by decide +kernel
theorem dX8_join_71 : decode cX8_join 71 = .ok (.ireturn, 1) := by decide +kernel
def d_X8_join (x0 : Nat) (x1 : Int32) (x2 : Int32) (G : Hp) : Option (Int32 × Hp) :=
  bo (d_X8_isIn x1 16 G) fun v2 =>
  if v2 = 0 then
    some (0, G)
  else
    bo (d_X8_isIn x2 8 G) fun v5 =>
    if v5 = 0 then
      some (0, G)
    else
      gd (hc G x0 = 9) <|
      gd (hc G ((hr G x0 2)) = 14 ∧ ix x1 (hl G ((hr G x0 2)))) <|
      if ((hr G ((hr G x0 2)) x1.toNatClampNeg)) = 0 then
        some (0, G)
      else
        gd (hc G ((hr G x0 2)) = 14 ∧ ix x1 (hl G ((hr G x0 2)))) <|
        gd (hc G ((hr G ((hr G x0 2)) x1.toNatClampNeg)) = 2) <|
        bo (d_X1_hasJoined ((hr G ((hr G x0 2)) x1.toNatClampNeg)) x2 G) fun v13 =>
        if v13 = 0 then
          gd (hc G ((hr G x0 2)) = 14 ∧ ix x1 (hl G ((hr G x0 2)))) <|
          bd (sI G ((hr G ((hr G x0 2)) x1.toNatClampNeg)) 3 ((((hi G ((hr G ((hr G x0 2)) x1.toNatClampNeg)) 3)) ||| ((1 <<< (x2 &&& 31)))))) fun G16 =>
          gd (hc G16 x0 = 9) <|
          gd (hc G16 ((hr G16 x0 2)) = 14 ∧ ix x1 (hl G16 ((hr G16 x0 2)))) <|
          gd (hc G16 ((hr G16 ((hr G16 x0 2)) x1.toNatClampNeg)) = 2) <|
          bo (d_X1_say ((hr G16 ((hr G16 x0 2)) x1.toNatClampNeg)) 3 x2 G16) fun G21 =>
          some (1, G21)
        else
          some (0, G)
section
variable {p : Program} {l : Launch} {e : Env} {s : State} {m : MethodId} {args : Array Value} {below : List Frame} {meth : Method} {c : Code} {b0 : Nat} {D : va_G} {E : Nat → ClassId}
set_option maxHeartbeats 4000000 in
set_option maxRecDepth 100000 in
theorem k_X8_join (C : Cx p s m args meth c RX8 cX8_join 3 (some .boolean) b0 D E) {rr : Int32} {GG : Hp} {x0 : Nat} {x1 : Int32} {x2 : Int32} {G : Hp} {ls : Array Slot} {H : Heap} {locs : List Loc} : lx ls 3 [(0, .inr x0), (1, .inl x1), (2, .inl x2)] → Rp b0 D E G H → SS b0 s H locs → d_X8_join x0 x1 x2 G = some (rr, GG) → W p l e (rmd 3 (0) (0)) s m args below meth c H locs (0) (0) (MQ below (CQ b0 D E (some (.int rr)) GG) args s (0) (0) (fun q => b0 ≤ q)) (F0 m 0 ls []) := by
  intro hL hR hS hd
  unfold d_X8_join at hd
  have hx := C.1
  have hb := C.2.1
  refine x_iload_n C dX8_join_0 hL 1 rfl ?_
  refine lv_bipush (v := 16) hx hb dX8_join_1 (by decide) ?_
  obtain ⟨v2, h1, hd⟩ := bo_ex hd
  refine r_callS (As := [.int x1, .int 16]) C (ct_X8_isIn h1) mf_X8_isIn ml_X8_61 ms_X8_isIn rfl ⟨Nat.le_of_ble_eq_true rfl, Nat.le_of_ble_eq_true rfl⟩ dX8_join_3 (lx_size hL) rfl hR hS ⟨Nat.le_refl _, Nat.le_refl _⟩ (cat_le [] (Nat.le_of_ble_eq_true rfl)) (fun H locs hR hS => ?_)
  refine W_st (st2 := [.int v2]) rfl ?_
  refine lv_if_eq (tgt := 40) hx hb dX8_join_6 (by decide) (fun c3 => ?_) (fun c3 => ?_)
  · rw [if_pos c3] at hd
    refine lv_iconst (v := 0) hx hb dX8_join_40 (by decide) ?_
    cases hd
    exact r_zret C (by decide) dX8_join_41 hR hS
  · rw [if_neg c3] at hd
    refine x_iload_n C dX8_join_9 hL 2 rfl ?_
    refine lv_bipush (v := 8) hx hb dX8_join_10 (by decide) ?_
    obtain ⟨v5, h4, hd⟩ := bo_ex hd
    refine r_callS (As := [.int x2, .int 8]) C (ct_X8_isIn h4) mf_X8_isIn ml_X8_61 ms_X8_isIn rfl ⟨Nat.le_of_ble_eq_true rfl, Nat.le_of_ble_eq_true rfl⟩ dX8_join_12 (lx_size hL) rfl hR hS ⟨Nat.le_refl _, Nat.le_refl _⟩ (cat_le [] (Nat.le_of_ble_eq_true rfl)) (fun H locs hR hS => ?_)
    refine W_st (st2 := [.int v5]) rfl ?_
    refine lv_if_eq (tgt := 40) hx hb dX8_join_15 (by decide) (fun c6 => ?_) (fun c6 => ?_)
    · rw [if_pos c6] at hd
      refine lv_iconst (v := 0) hx hb dX8_join_40 (by decide) ?_
      cases hd
      exact r_zret C (by decide) dX8_join_41 hR hS
    · rw [if_neg c6] at hd
      refine x_aload_n C dX8_join_18 hL 0 rfl ?_
      obtain ⟨g7, hd⟩ := gd_ex hd
      refine r_getr (ci := 8) (k := 2) C fl_X8_11 rfl dX8_join_19 hR g7 ?_
      refine x_iload_n C dX8_join_22 hL 1 rfl ?_
      obtain ⟨g8, hd⟩ := gd_ex hd
      refine r_aald (ci := 1) C (by decide) dX8_join_23 hR g8 ?_
      refine r_ifnull (tgt := 40) C dX8_join_24 (by decide) (fun c9 => ?_) (fun c9 => ?_)
      · rw [if_pos c9] at hd
        refine lv_iconst (v := 0) hx hb dX8_join_40 (by decide) ?_
        cases hd
        exact r_zret C (by decide) dX8_join_41 hR hS
      · rw [if_neg c9] at hd
        refine x_aload_n C dX8_join_27 hL 0 rfl ?_
        refine r_getr (ci := 8) (k := 2) C fl_X8_11 rfl dX8_join_28 hR g7 ?_
        refine x_iload_n C dX8_join_31 hL 1 rfl ?_
        obtain ⟨g10, hd⟩ := gd_ex hd
        refine r_aald (ci := 1) C (by decide) dX8_join_32 hR g10 ?_
        refine x_iload_n C dX8_join_33 hL 2 rfl ?_
        obtain ⟨g11, hd⟩ := gd_ex hd
        obtain ⟨v13, h12, hd⟩ := bo_ex hd
        refine r_callV (a := ((hr G ((hr G x0 2)) x1.toNatClampNeg))) (ci := 1) (As := [.int x2]) C (ct_X1_hasJoined h12) mf_X1_hasJoined ml_X8_119 mv_X1_hasJoined rfl ⟨Nat.le_of_ble_eq_true rfl, Nat.le_of_ble_eq_true rfl⟩ dX8_join_34 (lx_size hL) rfl hR hS g11 ⟨Nat.le_refl _, Nat.le_refl _⟩ (cat_le [] (Nat.le_of_ble_eq_true rfl)) (fun H locs hR hS => ?_)
        refine W_st (st2 := [.int v13]) rfl ?_
        refine lv_if_eq (tgt := 42) hx hb dX8_join_37 (by decide) (fun c14 => ?_) (fun c14 => ?_)
        · rw [if_pos c14] at hd
          refine x_aload_n C dX8_join_42 hL 0 rfl ?_
          refine r_getr (ci := 8) (k := 2) C fl_X8_11 rfl dX8_join_43 hR g7 ?_
          refine x_iload_n C dX8_join_46 hL 1 rfl ?_
          obtain ⟨g15, hd⟩ := gd_ex hd
          refine r_aald (ci := 1) C (by decide) dX8_join_47 hR g15 ?_
          refine lv_dup hx hb dX8_join_48 (rv_cat _) ?_
          refine r_geti (ci := 1) (k := 3) C fl_X8_123 rfl dX8_join_49 hR g11 ?_
          refine lv_iconst (v := 1) hx hb dX8_join_52 (by decide) ?_
          refine x_iload_n C dX8_join_53 hL 2 rfl ?_
          refine lv_ishl hx hb dX8_join_54 ?_
          refine lv_ior hx hb dX8_join_55 ?_
          obtain ⟨G16, eG16, hd⟩ := bd_ex hd
          refine r_puti (ci := 1) (k := 3) C fl_X8_123 rfl (Or.inl rfl) dX8_join_56 hR hS g11 (fun H locs hR hS => ?_)
          replace hR : Rp b0 D E G16 H := by rw [eG16]; exact hR
          refine x_aload_n C dX8_join_59 hL 0 rfl ?_
          obtain ⟨g17, hd⟩ := gd_ex hd
          refine r_getr (ci := 8) (k := 2) C fl_X8_11 rfl dX8_join_60 hR g17 ?_
          refine x_iload_n C dX8_join_63 hL 1 rfl ?_
          obtain ⟨g18, hd⟩ := gd_ex hd
          refine r_aald (ci := 1) C (by decide) dX8_join_64 hR g18 ?_
          refine lv_iconst (v := 3) hx hb dX8_join_65 (by decide) ?_
          refine x_iload_n C dX8_join_66 hL 2 rfl ?_
          obtain ⟨g19, hd⟩ := gd_ex hd
          obtain ⟨G21, h20, hd⟩ := bo_ex hd
          refine r_callV (a := ((hr G16 ((hr G16 x0 2)) x1.toNatClampNeg))) (ci := 1) (As := [.int 3, .int x2]) C (ct_X1_say h20) mf_X1_say ml_X8_126 mv_X1_say rfl ⟨Nat.le_of_ble_eq_true rfl, Nat.le_of_ble_eq_true rfl⟩ dX8_join_67 (lx_size hL) rfl hR hS g19 ⟨Nat.le_refl _, Nat.le_refl _⟩ (cat_le [] (Nat.le_of_ble_eq_true rfl)) (fun H locs hR hS => ?_)
          refine W_st (st2 := []) rfl ?_
          refine lv_iconst (v := 1) hx hb dX8_join_70 (by decide) ?_
          cases hd
          exact r_zret C (by decide) dX8_join_71 hR hS
        · rw [if_neg c14] at hd
          refine lv_iconst (v := 0) hx hb dX8_join_40 (by decide) ?_
          cases hd
          exact r_zret C (by decide) dX8_join_41 hR hS
end
set_option maxHeartbeats 4000000 in
set_option maxRecDepth 100000 in
theorem ct_X8_join {l : Launch} {b0 : Nat} {D : va_G} {E : Nat → ClassId} {G : Hp} {a0 : Nat} {a1 : Int32} {a2 : Int32} {rr : Int32} {GG : Hp} (hd : d_X8_join a0 a1 a2 G = some (rr, GG)) : CT l yX8_join cX8_join 3 (some .boolean) 3 0 0 b0 D E [rv a0, .int a1, .int a2] G (some (.int rr)) GG := by
  refine CT_of (by decide +kernel) ?_
  intro p e s m below meth c C hnm hR
  refine r_entry [.inr a0, .inl a1, .inl a2] (n := 3) (Nat.le_of_ble_eq_true rfl) (lv := [(0, .inr a0), (1, .inl a1), (2, .inl a2)]) rfl (fun ls hL => ?_)
  exact k_X8_join C (lx_sub hL [0, 1, 2] rfl) hR ⟨fun _ _ => rfl, fun _ h => by cases h⟩ hd

/-! GroveWorks.leave(II)Z -/
theorem dX8_leave_0 : decode cX8_leave 0 = .ok (.iload_n 1, 1) := by decide +kernel
theorem dX8_leave_1 : decode cX8_leave 1 = .ok (.bipush 16, 2) := by decide +kernel
theorem dX8_leave_3 : decode cX8_leave 3 = .ok (.invokestatic 61, 3) := by decide +kernel
theorem dX8_leave_6 : decode cX8_leave 6 = .ok (.ifCond .eq 34, 3) := by decide +kernel
theorem dX8_leave_9 : decode cX8_leave 9 = .ok (.iload_n 2, 1) := by decide +kernel
theorem dX8_leave_10 : decode cX8_leave 10 = .ok (.bipush 8, 2) := by decide +kernel
theorem dX8_leave_12 : decode cX8_leave 12 = .ok (.invokestatic 61, 3) := by decide +kernel
theorem dX8_leave_15 : decode cX8_leave 15 = .ok (.ifCond .eq 25, 3) := by decide +kernel
theorem dX8_leave_18 : decode cX8_leave 18 = .ok (.aload_n 0, 1) := by decide +kernel
theorem dX8_leave_19 : decode cX8_leave 19 = .ok (.getfield 11, 3) := by decide +kernel
theorem dX8_leave_22 : decode cX8_leave 22 = .ok (.iload_n 1, 1) := by decide +kernel
theorem dX8_leave_23 : decode cX8_leave 23 = .ok (.aaload, 1) := by decide +kernel
theorem dX8_leave_24 : decode cX8_leave 24 = .ok (.ifnull 16, 3) := by decide +kernel
theorem dX8_leave_27 : decode cX8_leave 27 = .ok (.aload_n 0, 1) := by decide +kernel
theorem dX8_leave_28 : decode cX8_leave 28 = .ok (.getfield 11, 3) := by decide +kernel
theorem dX8_leave_31 : decode cX8_leave 31 = .ok (.iload_n 1, 1) := by decide +kernel
theorem dX8_leave_32 : decode cX8_leave 32 = .ok (.aaload, 1) := by decide +kernel
theorem dX8_leave_33 : decode cX8_leave 33 = .ok (.iload_n 2, 1) := by decide +kernel
theorem dX8_leave_34 : decode cX8_leave 34 = .ok (.invokevirtual 119, 3) := by decide +kernel
theorem dX8_leave_37 : decode cX8_leave 37 = .ok (.ifCond .ne 5, 3) := by decide +kernel
theorem dX8_leave_40 : decode cX8_leave 40 = .ok (.iconst 0, 1) := by decide +kernel
theorem dX8_leave_41 : decode cX8_leave 41 = .ok (.ireturn, 1) := by decide +kernel
theorem dX8_leave_42 : decode cX8_leave 42 = .ok (.aload_n 0, 1) := by decide +kernel
theorem dX8_leave_43 : decode cX8_leave 43 = .ok (.getfield 11, 3) := by decide +kernel
theorem dX8_leave_46 : decode cX8_leave 46 = .ok (.iload_n 1, 1) := by decide +kernel
theorem dX8_leave_47 : decode cX8_leave 47 = .ok (.aaload, 1) := by decide +kernel
theorem dX8_leave_48 : decode cX8_leave 48 = .ok (.dup, 1) := by decide +kernel
theorem dX8_leave_49 : decode cX8_leave 49 = .ok (.getfield 123, 3) := by decide +kernel
theorem dX8_leave_52 : decode cX8_leave 52 = .ok (.iconst 1, 1) := by decide +kernel
theorem dX8_leave_53 : decode cX8_leave 53 = .ok (.iload_n 2, 1) := by decide +kernel
theorem dX8_leave_54 : decode cX8_leave 54 = .ok (.ishl, 1) := by decide +kernel
theorem dX8_leave_55 : decode cX8_leave 55 = .ok (.iconst (-1), 1) := by decide +kernel
theorem dX8_leave_56 : decode cX8_leave 56 = .ok (.ixor, 1) := by decide +kernel
theorem dX8_leave_57 : decode cX8_leave 57 = .ok (.iand, 1) := by decide +kernel
theorem dX8_leave_58 : decode cX8_leave 58 = .ok (.putfield 123, 3) := by decide +kernel
theorem dX8_leave_61 : decode cX8_leave 61 = .ok (.aload_n 0, 1) := by decide +kernel
theorem dX8_leave_62 : decode cX8_leave 62 = .ok (.getfield 11, 3) := by decide +kernel
theorem dX8_leave_65 : decode cX8_leave 65 = .ok (.iload_n 1, 1) := by decide +kernel
theorem dX8_leave_66 : decode cX8_leave 66 = .ok (.aaload, 1) := by decide +kernel
theorem dX8_leave_67 : decode cX8_leave 67 = .ok (.iconst 4, 1) := by decide +kernel
theorem dX8_leave_68 : decode cX8_leave 68 = .ok (.iload_n 2, 1) := by decide +kernel
theorem dX8_leave_69 : decode cX8_leave 69 = .ok (.invokevirtual 126, 3) := by decide +kernel
theorem dX8_leave_72 : decode cX8_leave 72 = .ok (.iconst 1, 1) := by decide +kernel
theorem dX8_leave_73 : decode cX8_leave 73 = .ok (.ireturn, 1) := by decide +kernel
def d_X8_leave (x0 : Nat) (x1 : Int32) (x2 : Int32) (G : Hp) : Option (Int32 × Hp) :=
  bo (d_X8_isIn x1 16 G) fun v2 =>
  if v2 = 0 then
    some (0, G)
  else
    bo (d_X8_isIn x2 8 G) fun v5 =>
    if v5 = 0 then
      some (0, G)
    else
      gd (hc G x0 = 9) <|
      gd (hc G ((hr G x0 2)) = 14 ∧ ix x1 (hl G ((hr G x0 2)))) <|
      if ((hr G ((hr G x0 2)) x1.toNatClampNeg)) = 0 then
        some (0, G)
      else
        gd (hc G ((hr G x0 2)) = 14 ∧ ix x1 (hl G ((hr G x0 2)))) <|
        gd (hc G ((hr G ((hr G x0 2)) x1.toNatClampNeg)) = 2) <|
        bo (d_X1_hasJoined ((hr G ((hr G x0 2)) x1.toNatClampNeg)) x2 G) fun v13 =>
        if v13 = 0 then
          some (0, G)
        else
          gd (hc G ((hr G x0 2)) = 14 ∧ ix x1 (hl G ((hr G x0 2)))) <|
          bd (sI G ((hr G ((hr G x0 2)) x1.toNatClampNeg)) 3 ((((hi G ((hr G ((hr G x0 2)) x1.toNatClampNeg)) 3)) &&& ((((1 <<< (x2 &&& 31))) ^^^ (-1)))))) fun G16 =>
          gd (hc G16 x0 = 9) <|
          gd (hc G16 ((hr G16 x0 2)) = 14 ∧ ix x1 (hl G16 ((hr G16 x0 2)))) <|
          gd (hc G16 ((hr G16 ((hr G16 x0 2)) x1.toNatClampNeg)) = 2) <|
          bo (d_X1_say ((hr G16 ((hr G16 x0 2)) x1.toNatClampNeg)) 4 x2 G16) fun G21 =>
          some (1, G21)
section
variable {p : Program} {l : Launch} {e : Env} {s : State} {m : MethodId} {args : Array Value} {below : List Frame} {meth : Method} {c : Code} {b0 : Nat} {D : va_G} {E : Nat → ClassId}
set_option maxHeartbeats 4000000 in
set_option maxRecDepth 100000 in
theorem k_X8_leave (C : Cx p s m args meth c RX8 cX8_leave 3 (some .boolean) b0 D E) {rr : Int32} {GG : Hp} {x0 : Nat} {x1 : Int32} {x2 : Int32} {G : Hp} {ls : Array Slot} {H : Heap} {locs : List Loc} : lx ls 3 [(0, .inr x0), (1, .inl x1), (2, .inl x2)] → Rp b0 D E G H → SS b0 s H locs → d_X8_leave x0 x1 x2 G = some (rr, GG) → W p l e (rmd 3 (0) (0)) s m args below meth c H locs (0) (0) (MQ below (CQ b0 D E (some (.int rr)) GG) args s (0) (0) (fun q => b0 ≤ q)) (F0 m 0 ls []) := by
  intro hL hR hS hd
  unfold d_X8_leave at hd
  have hx := C.1
  have hb := C.2.1
  refine x_iload_n C dX8_leave_0 hL 1 rfl ?_
  refine lv_bipush (v := 16) hx hb dX8_leave_1 (by decide) ?_
  obtain ⟨v2, h1, hd⟩ := bo_ex hd
  refine r_callS (As := [.int x1, .int 16]) C (ct_X8_isIn h1) mf_X8_isIn ml_X8_61 ms_X8_isIn rfl ⟨Nat.le_of_ble_eq_true rfl, Nat.le_of_ble_eq_true rfl⟩ dX8_leave_3 (lx_size hL) rfl hR hS ⟨Nat.le_refl _, Nat.le_refl _⟩ (cat_le [] (Nat.le_of_ble_eq_true rfl)) (fun H locs hR hS => ?_)
  refine W_st (st2 := [.int v2]) rfl ?_
  refine lv_if_eq (tgt := 40) hx hb dX8_leave_6 (by decide) (fun c3 => ?_) (fun c3 => ?_)
  · rw [if_pos c3] at hd
    refine lv_iconst (v := 0) hx hb dX8_leave_40 (by decide) ?_
    cases hd
    exact r_zret C (by decide) dX8_leave_41 hR hS
  · rw [if_neg c3] at hd
    refine x_iload_n C dX8_leave_9 hL 2 rfl ?_
    refine lv_bipush (v := 8) hx hb dX8_leave_10 (by decide) ?_
    obtain ⟨v5, h4, hd⟩ := bo_ex hd
    refine r_callS (As := [.int x2, .int 8]) C (ct_X8_isIn h4) mf_X8_isIn ml_X8_61 ms_X8_isIn rfl ⟨Nat.le_of_ble_eq_true rfl, Nat.le_of_ble_eq_true rfl⟩ dX8_leave_12 (lx_size hL) rfl hR hS ⟨Nat.le_refl _, Nat.le_refl _⟩ (cat_le [] (Nat.le_of_ble_eq_true rfl)) (fun H locs hR hS => ?_)
    refine W_st (st2 := [.int v5]) rfl ?_
    refine lv_if_eq (tgt := 40) hx hb dX8_leave_15 (by decide) (fun c6 => ?_) (fun c6 => ?_)
    · rw [if_pos c6] at hd
      refine lv_iconst (v := 0) hx hb dX8_leave_40 (by decide) ?_
      cases hd
      exact r_zret C (by decide) dX8_leave_41 hR hS
    · rw [if_neg c6] at hd
      refine x_aload_n C dX8_leave_18 hL 0 rfl ?_
      obtain ⟨g7, hd⟩ := gd_ex hd
      refine r_getr (ci := 8) (k := 2) C fl_X8_11 rfl dX8_leave_19 hR g7 ?_
      refine x_iload_n C dX8_leave_22 hL 1 rfl ?_
      obtain ⟨g8, hd⟩ := gd_ex hd
      refine r_aald (ci := 1) C (by decide) dX8_leave_23 hR g8 ?_
      refine r_ifnull (tgt := 40) C dX8_leave_24 (by decide) (fun c9 => ?_) (fun c9 => ?_)
      · rw [if_pos c9] at hd
        refine lv_iconst (v := 0) hx hb dX8_leave_40 (by decide) ?_
        cases hd
        exact r_zret C (by decide) dX8_leave_41 hR hS
      · rw [if_neg c9] at hd
        refine x_aload_n C dX8_leave_27 hL 0 rfl ?_
        refine r_getr (ci := 8) (k := 2) C fl_X8_11 rfl dX8_leave_28 hR g7 ?_
        refine x_iload_n C dX8_leave_31 hL 1 rfl ?_
        obtain ⟨g10, hd⟩ := gd_ex hd
        refine r_aald (ci := 1) C (by decide) dX8_leave_32 hR g10 ?_
        refine x_iload_n C dX8_leave_33 hL 2 rfl ?_
        obtain ⟨g11, hd⟩ := gd_ex hd
        obtain ⟨v13, h12, hd⟩ := bo_ex hd
        refine r_callV (a := ((hr G ((hr G x0 2)) x1.toNatClampNeg))) (ci := 1) (As := [.int x2]) C (ct_X1_hasJoined h12) mf_X1_hasJoined ml_X8_119 mv_X1_hasJoined rfl ⟨Nat.le_of_ble_eq_true rfl, Nat.le_of_ble_eq_true rfl⟩ dX8_leave_34 (lx_size hL) rfl hR hS g11 ⟨Nat.le_refl _, Nat.le_refl _⟩ (cat_le [] (Nat.le_of_ble_eq_true rfl)) (fun H locs hR hS => ?_)
        refine W_st (st2 := [.int v13]) rfl ?_
        refine lv_if_ne (tgt := 42) hx hb dX8_leave_37 (by decide) (fun c14 => ?_) (fun c14 => ?_)
        · rw [if_neg c14] at hd
          refine x_aload_n C dX8_leave_42 hL 0 rfl ?_
          refine r_getr (ci := 8) (k := 2) C fl_X8_11 rfl dX8_leave_43 hR g7 ?_
          refine x_iload_n C dX8_leave_46 hL 1 rfl ?_
          obtain ⟨g15, hd⟩ := gd_ex hd
          refine r_aald (ci := 1) C (by decide) dX8_leave_47 hR g15 ?_
          refine lv_dup hx hb dX8_leave_48 (rv_cat _) ?_
          refine r_geti (ci := 1) (k := 3) C fl_X8_123 rfl dX8_leave_49 hR g11 ?_
          refine lv_iconst (v := 1) hx hb dX8_leave_52 (by decide) ?_
          refine x_iload_n C dX8_leave_53 hL 2 rfl ?_
          refine lv_ishl hx hb dX8_leave_54 ?_
          refine lv_iconst (v := (-1)) hx hb dX8_leave_55 (by decide) ?_
          refine lv_ixor hx hb dX8_leave_56 ?_
          refine lv_iand hx hb dX8_leave_57 ?_
          obtain ⟨G16, eG16, hd⟩ := bd_ex hd
          refine r_puti (ci := 1) (k := 3) C fl_X8_123 rfl (Or.inl rfl) dX8_leave_58 hR hS g11 (fun H locs hR hS => ?_)
          replace hR : Rp b0 D E G16 H := by rw [eG16]; exact hR
          refine x_aload_n C dX8_leave_61 hL 0 rfl ?_
          obtain ⟨g17, hd⟩ := gd_ex hd
          refine r_getr (ci := 8) (k := 2) C fl_X8_11 rfl dX8_leave_62 hR g17 ?_
          refine x_iload_n C dX8_leave_65 hL 1 rfl ?_
          obtain ⟨g18, hd⟩ := gd_ex hd
          refine r_aald (ci := 1) C (by decide) dX8_leave_66 hR g18 ?_
          refine lv_iconst (v := 4) hx hb dX8_leave_67 (by decide) ?_
          refine x_iload_n C dX8_leave_68 hL 2 rfl ?_
          obtain ⟨g19, hd⟩ := gd_ex hd
          obtain ⟨G21, h20, hd⟩ := bo_ex hd
          refine r_callV (a := ((hr G16 ((hr G16 x0 2)) x1.toNatClampNeg))) (ci := 1) (As := [.int 4, .int x2]) C (ct_X1_say h20) mf_X1_say ml_X8_126 mv_X1_say rfl ⟨Nat.le_of_ble_eq_true rfl, Nat.le_of_ble_eq_true rfl⟩ dX8_leave_69 (lx_size hL) rfl hR hS g19 ⟨Nat.le_refl _, Nat.le_refl _⟩ (cat_le [] (Nat.le_of_ble_eq_true rfl)) (fun H locs hR hS => ?_)
          refine W_st (st2 := []) rfl ?_
          refine lv_iconst (v := 1) hx hb dX8_leave_72 (by decide) ?_
          cases hd
          exact r_zret C (by decide) dX8_leave_73 hR hS
        · rw [if_pos c14] at hd
          refine lv_iconst (v := 0) hx hb dX8_leave_40 (by decide) ?_
          cases hd
          exact r_zret C (by decide) dX8_leave_41 hR hS
end
set_option maxHeartbeats 4000000 in
set_option maxRecDepth 100000 in
theorem ct_X8_leave {l : Launch} {b0 : Nat} {D : va_G} {E : Nat → ClassId} {G : Hp} {a0 : Nat} {a1 : Int32} {a2 : Int32} {rr : Int32} {GG : Hp} (hd : d_X8_leave a0 a1 a2 G = some (rr, GG)) : CT l yX8_leave cX8_leave 3 (some .boolean) 3 0 0 b0 D E [rv a0, .int a1, .int a2] G (some (.int rr)) GG := by
  refine CT_of (by decide +kernel) ?_
  intro p e s m below meth c C hnm hR
  refine r_entry [.inr a0, .inl a1, .inl a2] (n := 3) (Nat.le_of_ble_eq_true rfl) (lv := [(0, .inr a0), (1, .inl a1), (2, .inl a2)]) rfl (fun ls hL => ?_)
  exact k_X8_leave C (lx_sub hL [0, 1, 2] rfl) hR ⟨fun _ _ => rfl, fun _ h => by cases h⟩ hd

/-! GroveWorks.send(II)I -/
theorem dX8_send_0 : decode cX8_send 0 = .ok (.iload_n 1, 1) := by decide +kernel
theorem dX8_send_1 : decode cX8_send 1 = .ok (.bipush 16, 2) := by decide +kernel
theorem dX8_send_3 : decode cX8_send 3 = .ok (.invokestatic 61, 3) := by decide +kernel
theorem dX8_send_6 : decode cX8_send 6 = .ok (.ifCond .eq 31, 3) := by decide +kernel
theorem dX8_send_9 : decode cX8_send 9 = .ok (.iload_n 2, 1) := by decide +kernel
theorem dX8_send_10 : decode cX8_send 10 = .ok (.bipush 8, 2) := by decide +kernel
theorem dX8_send_12 : decode cX8_send 12 = .ok (.invokestatic 61, 3) := by decide +kernel
theorem dX8_send_15 : decode cX8_send 15 = .ok (.ifCond .eq 22, 3) := by decide +kernel
theorem dX8_send_18 : decode cX8_send 18 = .ok (.aload_n 0, 1) := by decide +kernel
theorem dX8_send_19 : decode cX8_send 19 = .ok (.getfield 11, 3) := by decide +kernel
theorem dX8_send_22 : decode cX8_send 22 = .ok (.iload_n 1, 1) := by decide +kernel
theorem dX8_send_23 : decode cX8_send 23 = .ok (.aaload, 1) := by decide +kernel
theorem dX8_send_24 : decode cX8_send 24 = .ok (.ifnull 13, 3) := by decide +kernel
theorem dX8_send_27 : decode cX8_send 27 = .ok (.aload_n 0, 1) := by decide +kernel
theorem dX8_send_28 : decode cX8_send 28 = .ok (.getfield 15, 3) := by decide +kernel
theorem dX8_send_31 : decode cX8_send 31 = .ok (.sipush 400, 3) := by decide +kernel
theorem dX8_send_34 : decode cX8_send 34 = .ok (.if_icmp .lt 5, 3) := by decide +kernel
theorem dX8_send_37 : decode cX8_send 37 = .ok (.iconst (-1), 1) := by decide +kernel
theorem dX8_send_38 : decode cX8_send 38 = .ok (.ireturn, 1) := by decide +kernel
theorem dX8_send_39 : decode cX8_send 39 = .ok (.aload_n 0, 1) := by decide +kernel
theorem dX8_send_40 : decode cX8_send 40 = .ok (.getfield 11, 3) := by decide +kernel
theorem dX8_send_43 : decode cX8_send 43 = .ok (.iload_n 1, 1) := by decide +kernel
theorem dX8_send_44 : decode cX8_send 44 = .ok (.aaload, 1) := by decide +kernel
theorem dX8_send_45 : decode cX8_send 45 = .ok (.getfield 130, 3) := by decide +kernel
theorem dX8_send_48 : decode cX8_send 48 = .ok (.getfield 106, 3) := by decide +kernel
theorem dX8_send_51 : decode cX8_send 51 = .ok (.ifCond .ne 5, 3) := by decide +kernel
theorem dX8_send_54 : decode cX8_send 54 = .ok (.iconst (-1), 1) := by decide +kernel
theorem dX8_send_55 : decode cX8_send 55 = .ok (.ireturn, 1) := by decide +kernel
theorem dX8_send_56 : decode cX8_send 56 = .ok (.aload_n 0, 1) := by decide +kernel
theorem dX8_send_57 : decode cX8_send 57 = .ok (.getfield 11, 3) := by decide +kernel
theorem dX8_send_60 : decode cX8_send 60 = .ok (.iload_n 1, 1) := by decide +kernel
theorem dX8_send_61 : decode cX8_send 61 = .ok (.aaload, 1) := by decide +kernel
theorem dX8_send_62 : decode cX8_send 62 = .ok (.iload_n 2, 1) := by decide +kernel
theorem dX8_send_63 : decode cX8_send 63 = .ok (.aload_n 0, 1) := by decide +kernel
theorem dX8_send_64 : decode cX8_send 64 = .ok (.getfield 15, 3) := by decide +kernel
theorem dX8_send_67 : decode cX8_send 67 = .ok (.invokevirtual 134, 3) := by decide +kernel
theorem dX8_send_70 : decode cX8_send 70 = .ok (.aload_n 0, 1) := by decide +kernel
theorem dX8_send_71 : decode cX8_send 71 = .ok (.dup, 1) := by decide +kernel
theorem dX8_send_72 : decode cX8_send 72 = .ok (.getfield 15, 3) := by decide +kernel
theorem dX8_send_75 : decode cX8_send 75 = .ok (.iconst 1, 1) := by decide +kernel
theorem dX8_send_76 : decode cX8_send 76 = .ok (.iadd, 1) := by decide +kernel
theorem dX8_send_77 : decode cX8_send 77 = .ok (.putfield 15, 3) := by decide +kernel
theorem dX8_send_80 : decode cX8_send 80 = .ok (.aload_n 0, 1) := by decide +kernel
theorem dX8_send_81 : decode cX8_send 81 = .ok (.getfield 15, 3) := by decide +kernel
theorem dX8_send_84 : decode cX8_send 84 = .ok (.iconst 1, 1) := by decide +kernel
theorem dX8_send_85 : decode cX8_send 85 = .ok (.isub, 1) := by decide +kernel
theorem dX8_send_86 : decode cX8_send 86 = .ok (.ireturn, 1) := by decide +kernel
def d_X8_send (x0 : Nat) (x1 : Int32) (x2 : Int32) (G : Hp) : Option (Int32 × Hp) :=
  bo (d_X8_isIn x1 16 G) fun v2 =>
  if v2 = 0 then
    some ((-1), G)
  else
    bo (d_X8_isIn x2 8 G) fun v5 =>
    if v5 = 0 then
      some ((-1), G)
    else
      gd (hc G x0 = 9) <|
      gd (hc G ((hr G x0 2)) = 14 ∧ ix x1 (hl G ((hr G x0 2)))) <|
      if ((hr G ((hr G x0 2)) x1.toNatClampNeg)) = 0 then
        some ((-1), G)
      else
        if ((hi G x0 3)) < 400 then
          gd (hc G ((hr G x0 2)) = 14 ∧ ix x1 (hl G ((hr G x0 2)))) <|
          gd (hc G ((hr G ((hr G x0 2)) x1.toNatClampNeg)) = 2) <|
          gd (hc G ((hr G ((hr G ((hr G x0 2)) x1.toNatClampNeg)) 1)) = 8) <|
          if ((hi G ((hr G ((hr G ((hr G x0 2)) x1.toNatClampNeg)) 1)) 2)) = 0 then
            some ((-1), G)
          else
            gd (hc G ((hr G x0 2)) = 14 ∧ ix x1 (hl G ((hr G x0 2)))) <|
            bo (d_X1_sendData ((hr G ((hr G x0 2)) x1.toNatClampNeg)) x2 ((hi G x0 3)) G) fun G17 =>
            gd (hc G17 x0 = 9) <|
            bd (sI G17 x0 3 ((((hi G17 x0 3)) + 1))) fun G19 =>
            gd (hc G19 x0 = 9) <|
            some ((((hi G19 x0 3)) - 1), G19)
        else
          some ((-1), G)
section
variable {p : Program} {l : Launch} {e : Env} {s : State} {m : MethodId} {args : Array Value} {below : List Frame} {meth : Method} {c : Code} {b0 : Nat} {D : va_G} {E : Nat → ClassId}
set_option maxHeartbeats 4000000 in
set_option maxRecDepth 100000 in
theorem k_X8_send (C : Cx p s m args meth c RX8 cX8_send 3 (some .int) b0 D E) {rr : Int32} {GG : Hp} {x0 : Nat} {x1 : Int32} {x2 : Int32} {G : Hp} {ls : Array Slot} {H : Heap} {locs : List Loc} : lx ls 3 [(0, .inr x0), (1, .inl x1), (2, .inl x2)] → Rp b0 D E G H → SS b0 s H locs → d_X8_send x0 x1 x2 G = some (rr, GG) → W p l e (rmd 3 (0) (0)) s m args below meth c H locs (0) (0) (MQ below (CQ b0 D E (some (.int rr)) GG) args s (0) (0) (fun q => b0 ≤ q)) (F0 m 0 ls []) := by
  intro hL hR hS hd
  unfold d_X8_send at hd
  have hx := C.1
  have hb := C.2.1
  refine x_iload_n C dX8_send_0 hL 1 rfl ?_
  refine lv_bipush (v := 16) hx hb dX8_send_1 (by decide) ?_
  obtain ⟨v2, h1, hd⟩ := bo_ex hd
  refine r_callS (As := [.int x1, .int 16]) C (ct_X8_isIn h1) mf_X8_isIn ml_X8_61 ms_X8_isIn rfl ⟨Nat.le_of_ble_eq_true rfl, Nat.le_of_ble_eq_true rfl⟩ dX8_send_3 (lx_size hL) rfl hR hS ⟨Nat.le_refl _, Nat.le_refl _⟩ (cat_le [] (Nat.le_of_ble_eq_true rfl)) (fun H locs hR hS => ?_)
  refine W_st (st2 := [.int v2]) rfl ?_
  refine lv_if_eq (tgt := 37) hx hb dX8_send_6 (by decide) (fun c3 => ?_) (fun c3 => ?_)
  · rw [if_pos c3] at hd
    refine lv_iconst (v := (-1)) hx hb dX8_send_37 (by decide) ?_
    cases hd
    exact r_iret C dX8_send_38 hR hS
  · rw [if_neg c3] at hd
    refine x_iload_n C dX8_send_9 hL 2 rfl ?_
    refine lv_bipush (v := 8) hx hb dX8_send_10 (by decide) ?_
    obtain ⟨v5, h4, hd⟩ := bo_ex hd
    refine r_callS (As := [.int x2, .int 8]) C (ct_X8_isIn h4) mf_X8_isIn ml_X8_61 ms_X8_isIn rfl ⟨Nat.le_of_ble_eq_true rfl, Nat.le_of_ble_eq_true rfl⟩ dX8_send_12 (lx_size hL) rfl hR hS ⟨Nat.le_refl _, Nat.le_refl _⟩ (cat_le [] (Nat.le_of_ble_eq_true rfl)) (fun H locs hR hS => ?_)
    refine W_st (st2 := [.int v5]) rfl ?_
    refine lv_if_eq (tgt := 37) hx hb dX8_send_15 (by decide) (fun c6 => ?_) (fun c6 => ?_)
    · rw [if_pos c6] at hd
      refine lv_iconst (v := (-1)) hx hb dX8_send_37 (by decide) ?_
      cases hd
      exact r_iret C dX8_send_38 hR hS
    · rw [if_neg c6] at hd
      refine x_aload_n C dX8_send_18 hL 0 rfl ?_
      obtain ⟨g7, hd⟩ := gd_ex hd
      refine r_getr (ci := 8) (k := 2) C fl_X8_11 rfl dX8_send_19 hR g7 ?_
      refine x_iload_n C dX8_send_22 hL 1 rfl ?_
      obtain ⟨g8, hd⟩ := gd_ex hd
      refine r_aald (ci := 1) C (by decide) dX8_send_23 hR g8 ?_
      refine r_ifnull (tgt := 37) C dX8_send_24 (by decide) (fun c9 => ?_) (fun c9 => ?_)
      · rw [if_pos c9] at hd
        refine lv_iconst (v := (-1)) hx hb dX8_send_37 (by decide) ?_
        cases hd
        exact r_iret C dX8_send_38 hR hS
      · rw [if_neg c9] at hd
        refine x_aload_n C dX8_send_27 hL 0 rfl ?_
        refine r_geti (ci := 8) (k := 3) C fl_X8_15 rfl dX8_send_28 hR g7 ?_
        refine lv_sipush (v := 400) hx hb dX8_send_31 (by decide) ?_
        refine lv_icmp_lt (tgt := 39) hx hb dX8_send_34 (by decide) (fun c10 => ?_) (fun c10 => ?_)
        · rw [if_pos c10] at hd
          refine x_aload_n C dX8_send_39 hL 0 rfl ?_
          refine r_getr (ci := 8) (k := 2) C fl_X8_11 rfl dX8_send_40 hR g7 ?_
          refine x_iload_n C dX8_send_43 hL 1 rfl ?_
          obtain ⟨g11, hd⟩ := gd_ex hd
          refine r_aald (ci := 1) C (by decide) dX8_send_44 hR g11 ?_
          obtain ⟨g12, hd⟩ := gd_ex hd
          refine r_getr (ci := 1) (k := 1) C fl_X8_130 rfl dX8_send_45 hR g12 ?_
          obtain ⟨g13, hd⟩ := gd_ex hd
          refine r_geti (ci := 7) (k := 2) C fl_X8_106 rfl dX8_send_48 hR g13 ?_
          refine lv_if_ne (tgt := 56) hx hb dX8_send_51 (by decide) (fun c14 => ?_) (fun c14 => ?_)
          · rw [if_neg c14] at hd
            refine x_aload_n C dX8_send_56 hL 0 rfl ?_
            refine r_getr (ci := 8) (k := 2) C fl_X8_11 rfl dX8_send_57 hR g7 ?_
            refine x_iload_n C dX8_send_60 hL 1 rfl ?_
            obtain ⟨g15, hd⟩ := gd_ex hd
            refine r_aald (ci := 1) C (by decide) dX8_send_61 hR g15 ?_
            refine x_iload_n C dX8_send_62 hL 2 rfl ?_
            refine x_aload_n C dX8_send_63 hL 0 rfl ?_
            refine r_geti (ci := 8) (k := 3) C fl_X8_15 rfl dX8_send_64 hR g7 ?_
            obtain ⟨G17, h16, hd⟩ := bo_ex hd
            refine r_callV (a := ((hr G ((hr G x0 2)) x1.toNatClampNeg))) (ci := 1) (As := [.int x2, .int ((hi G x0 3))]) C (ct_X1_sendData h16) mf_X1_sendData ml_X8_134 mv_X1_sendData rfl ⟨Nat.le_of_ble_eq_true rfl, Nat.le_of_ble_eq_true rfl⟩ dX8_send_67 (lx_size hL) rfl hR hS g12 ⟨Nat.le_refl _, Nat.le_refl _⟩ (cat_le [] (Nat.le_of_ble_eq_true rfl)) (fun H locs hR hS => ?_)
            refine W_st (st2 := []) rfl ?_
            refine x_aload_n C dX8_send_70 hL 0 rfl ?_
            refine lv_dup hx hb dX8_send_71 (rv_cat _) ?_
            obtain ⟨g18, hd⟩ := gd_ex hd
            refine r_geti (ci := 8) (k := 3) C fl_X8_15 rfl dX8_send_72 hR g18 ?_
            refine lv_iconst (v := 1) hx hb dX8_send_75 (by decide) ?_
            refine lv_iadd hx hb dX8_send_76 ?_
            obtain ⟨G19, eG19, hd⟩ := bd_ex hd
            refine r_puti (ci := 8) (k := 3) C fl_X8_15 rfl (Or.inl rfl) dX8_send_77 hR hS g18 (fun H locs hR hS => ?_)
            replace hR : Rp b0 D E G19 H := by rw [eG19]; exact hR
            refine x_aload_n C dX8_send_80 hL 0 rfl ?_
            obtain ⟨g20, hd⟩ := gd_ex hd
            refine r_geti (ci := 8) (k := 3) C fl_X8_15 rfl dX8_send_81 hR g20 ?_
            refine lv_iconst (v := 1) hx hb dX8_send_84 (by decide) ?_
            refine lv_isub hx hb dX8_send_85 ?_
            cases hd
            exact r_iret C dX8_send_86 hR hS
          · rw [if_pos c14] at hd
            refine lv_iconst (v := (-1)) hx hb dX8_send_54 (by decide) ?_
            cases hd
            exact r_iret C dX8_send_55 hR hS
        · rw [if_neg c10] at hd
          refine lv_iconst (v := (-1)) hx hb dX8_send_37 (by decide) ?_
          cases hd
          exact r_iret C dX8_send_38 hR hS
end
set_option maxHeartbeats 4000000 in
set_option maxRecDepth 100000 in
theorem ct_X8_send {l : Launch} {b0 : Nat} {D : va_G} {E : Nat → ClassId} {G : Hp} {a0 : Nat} {a1 : Int32} {a2 : Int32} {rr : Int32} {GG : Hp} (hd : d_X8_send a0 a1 a2 G = some (rr, GG)) : CT l yX8_send cX8_send 3 (some .int) 3 0 0 b0 D E [rv a0, .int a1, .int a2] G (some (.int rr)) GG := by
  refine CT_of (by decide +kernel) ?_
  intro p e s m below meth c C hnm hR
  refine r_entry [.inr a0, .inl a1, .inl a2] (n := 3) (Nat.le_of_ble_eq_true rfl) (lv := [(0, .inr a0), (1, .inl a1), (2, .inl a2)]) rfl (fun ls hL => ?_)
  exact k_X8_send C (lx_sub hL [0, 1, 2] rfl) hR ⟨fun _ _ => rfl, fun _ h => by cases h⟩ hd
