/-! GroveWorks$Tree.takeData(LGroveWorks$Frame;I)V -/
theorem dX5_takeData_0 : decode cX5_takeData 0 = .ok (.aload_n 1, 1) := by decide +kernel
theorem dX5_takeData_1 : decode cX5_takeData 1 = .ok (.getfield 221, 3) := by decide +kernel
theorem dX5_takeData_4 : decode cX5_takeData 4 = .ok (.istore_n 3, 1) := by decide +kernel
theorem dX5_takeData_5 : decode cX5_takeData 5 = .ok (.aload_n 0, 1) := by decide +kernel
theorem dX5_takeData_6 : decode cX5_takeData 6 = .ok (.dup, 1) := by decide +kernel
theorem dX5_takeData_7 : decode cX5_takeData 7 = .ok (.getfield 9, 3) := by decide +kernel
theorem dX5_takeData_10 : decode cX5_takeData 10 = .ok (.iconst 1, 1) := by decide +kernel
theorem dX5_takeData_11 : decode cX5_takeData 11 = .ok (.iload_n 3, 1) := by decide +kernel
theorem dX5_takeData_12 : decode cX5_takeData 12 = .ok (.ishl, 1) := by decide +kernel
theorem dX5_takeData_13 : decode cX5_takeData 13 = .ok (.ior, 1) := by decide +kernel
theorem dX5_takeData_14 : decode cX5_takeData 14 = .ok (.putfield 9, 3) := by decide +kernel
theorem dX5_takeData_17 : decode cX5_takeData 17 = .ok (.aload_n 0, 1) := by decide +kernel
theorem dX5_takeData_18 : decode cX5_takeData 18 = .ok (.iload_n 3, 1) := by decide +kernel
theorem dX5_takeData_19 : decode cX5_takeData 19 = .ok (.invokevirtual 154, 3) := by decide +kernel
theorem dX5_takeData_22 : decode cX5_takeData 22 = .ok (.iload_n 2, 1) := by decide +kernel
theorem dX5_takeData_23 : decode cX5_takeData 23 = .ok (.if_icmp .ne 7, 3) := by decide +kernel
theorem dX5_takeData_26 : decode cX5_takeData 26 = .ok (.iconst 1, 1) := by decide +kernel
theorem dX5_takeData_27 : decode cX5_takeData 27 = .ok (.goto 4, 3) := by decide +kernel
theorem dX5_takeData_30 : decode cX5_takeData 30 = .ok (.iconst 0, 1) := by decide +kernel
theorem dX5_takeData_31 : decode cX5_takeData 31 = .ok (.istore 4, 2) := by decide +kernel
theorem dX5_takeData_33 : decode cX5_takeData 33 = .ok (.iload 4, 2) := by decide +kernel
theorem dX5_takeData_35 : decode cX5_takeData 35 = .ok (.ifCond .eq 15, 3) := by decide +kernel
theorem dX5_takeData_38 : decode cX5_takeData 38 = .ok (.aload_n 0, 1) := by decide +kernel
theorem dX5_takeData_39 : decode cX5_takeData 39 = .ok (.iload_n 3, 1) := by decide +kernel
theorem dX5_takeData_40 : decode cX5_takeData 40 = .ok (.invokevirtual 203, 3) := by decide +kernel
theorem dX5_takeData_43 : decode cX5_takeData 43 = .ok (.ifCond .eq 7, 3) := by decide +kernel
theorem dX5_takeData_46 : decode cX5_takeData 46 = .ok (.iconst 1, 1) := by decide +kernel
theorem dX5_takeData_47 : decode cX5_takeData 47 = .ok (.goto 4, 3) := by decide +kernel
theorem dX5_takeData_50 : decode cX5_takeData 50 = .ok (.iconst 0, 1) := by decide +kernel
theorem dX5_takeData_51 : decode cX5_takeData 51 = .ok (.istore 5, 2) := by decide +kernel
theorem dX5_takeData_53 : decode cX5_takeData 53 = .ok (.aload_n 0, 1) := by decide +kernel
theorem dX5_takeData_54 : decode cX5_takeData 54 = .ok (.iload_n 3, 1) := by decide +kernel
theorem dX5_takeData_55 : decode cX5_takeData 55 = .ok (.invokevirtual 129, 3) := by decide +kernel
theorem dX5_takeData_58 : decode cX5_takeData 58 = .ok (.iload 5, 2) := by decide +kernel
theorem dX5_takeData_60 : decode cX5_takeData 60 = .ok (.ifCond .ne 25, 3) := by decide +kernel
theorem dX5_takeData_63 : decode cX5_takeData 63 = .ok (.iload 4, 2) := by decide +kernel
theorem dX5_takeData_65 : decode cX5_takeData 65 = .ok (.ifCond .eq 36, 3) := by decide +kernel
theorem dX5_takeData_68 : decode cX5_takeData 68 = .ok (.aload_n 0, 1) := by decide +kernel
theorem dX5_takeData_69 : decode cX5_takeData 69 = .ok (.getfield 15, 3) := by decide +kernel
theorem dX5_takeData_72 : decode cX5_takeData 72 = .ok (.iload_n 3, 1) := by decide +kernel
theorem dX5_takeData_73 : decode cX5_takeData 73 = .ok (.iaload, 1) := by decide +kernel
theorem dX5_takeData_74 : decode cX5_takeData 74 = .ok (.iconst (-1), 1) := by decide +kernel
theorem dX5_takeData_75 : decode cX5_takeData 75 = .ok (.if_icmp .eq 26, 3) := by decide +kernel
theorem dX5_takeData_78 : decode cX5_takeData 78 = .ok (.aload_n 0, 1) := by decide +kernel
theorem dX5_takeData_79 : decode cX5_takeData 79 = .ok (.getfield 43, 3) := by decide +kernel
theorem dX5_takeData_82 : decode cX5_takeData 82 = .ok (.ifCond .eq 19, 3) := by decide +kernel
theorem dX5_takeData_85 : decode cX5_takeData 85 = .ok (.aload_n 0, 1) := by decide +kernel
theorem dX5_takeData_86 : decode cX5_takeData 86 = .ok (.getfield 25, 3) := by decide +kernel
theorem dX5_takeData_89 : decode cX5_takeData 89 = .ok (.iload_n 3, 1) := by decide +kernel
theorem dX5_takeData_90 : decode cX5_takeData 90 = .ok (.aload_n 0, 1) := by decide +kernel
theorem dX5_takeData_91 : decode cX5_takeData 91 = .ok (.getfield 50, 3) := by decide +kernel
theorem dX5_takeData_94 : decode cX5_takeData 94 = .ok (.getfield 118, 3) := by decide +kernel
theorem dX5_takeData_97 : decode cX5_takeData 97 = .ok (.bipush 70, 2) := by decide +kernel
theorem dX5_takeData_99 : decode cX5_takeData 99 = .ok (.iadd, 1) := by decide +kernel
theorem dX5_takeData_100 : decode cX5_takeData 100 = .ok (.iastore, 1) := by decide +kernel
theorem dX5_takeData_101 : decode cX5_takeData 101 = .ok (.aload_n 0, 1) := by decide +kernel
theorem dX5_takeData_102 : decode cX5_takeData 102 = .ok (.iload_n 3, 1) := by decide +kernel
theorem dX5_takeData_103 : decode cX5_takeData 103 = .ok (.invokevirtual 129, 3) := by decide +kernel
theorem dX5_takeData_106 : decode cX5_takeData 106 = .ok (.iload 4, 2) := by decide +kernel
theorem dX5_takeData_108 : decode cX5_takeData 108 = .ok (.ifCond .eq 26, 3) := by decide +kernel
theorem dX5_takeData_111 : decode cX5_takeData 111 = .ok (.aload_n 0, 1) := by decide +kernel
theorem dX5_takeData_112 : decode cX5_takeData 112 = .ok (.getfield 46, 3) := by decide +kernel
theorem dX5_takeData_115 : decode cX5_takeData 115 = .ok (.ifCond .eq 19, 3) := by decide +kernel
theorem dX5_takeData_118 : decode cX5_takeData 118 = .ok (.aload_n 0, 1) := by decide +kernel
theorem dX5_takeData_119 : decode cX5_takeData 119 = .ok (.iload_n 3, 1) := by decide +kernel
theorem dX5_takeData_120 : decode cX5_takeData 120 = .ok (.iload_n 2, 1) := by decide +kernel
theorem dX5_takeData_121 : decode cX5_takeData 121 = .ok (.invokevirtual 239, 3) := by decide +kernel
theorem dX5_takeData_124 : decode cX5_takeData 124 = .ok (.ifCond .eq 10, 3) := by decide +kernel
theorem dX5_takeData_127 : decode cX5_takeData 127 = .ok (.aload_n 0, 1) := by decide +kernel
theorem dX5_takeData_128 : decode cX5_takeData 128 = .ok (.getfield 31, 3) := by decide +kernel
theorem dX5_takeData_131 : decode cX5_takeData 131 = .ok (.iload_n 3, 1) := by decide +kernel
theorem dX5_takeData_132 : decode cX5_takeData 132 = .ok (.iload_n 2, 1) := by decide +kernel
theorem dX5_takeData_133 : decode cX5_takeData 133 = .ok (.iastore, 1) := by decide +kernel
theorem dX5_takeData_134 : decode cX5_takeData 134 = .ok (.aload_n 0, 1) := by decide +kernel
theorem dX5_takeData_135 : decode cX5_takeData 135 = .ok (.iload_n 3, 1) := by decide +kernel
theorem dX5_takeData_136 : decode cX5_takeData 136 = .ok (.invokevirtual 129, 3) := by decide +kernel
theorem dX5_takeData_139 : decode cX5_takeData 139 = .ok (.aload_n 0, 1) := by decide +kernel
theorem dX5_takeData_140 : decode cX5_takeData 140 = .ok (.iload_n 3, 1) := by decide +kernel
theorem dX5_takeData_141 : decode cX5_takeData 141 = .ok (.iload_n 2, 1) := by decide +kernel
theorem dX5_takeData_142 : decode cX5_takeData 142 = .ok (.iload 4, 2) := by decide +kernel
theorem dX5_takeData_144 : decode cX5_takeData 144 = .ok (.invokevirtual 242, 3) := by decide +kernel
theorem dX5_takeData_147 : decode cX5_takeData 147 = .ok (.istore 6, 2) := by decide +kernel
theorem dX5_takeData_149 : decode cX5_takeData 149 = .ok (.aload_n 0, 1) := by decide +kernel
theorem dX5_takeData_150 : decode cX5_takeData 150 = .ok (.iload 6, 2) := by decide +kernel
theorem dX5_takeData_152 : decode cX5_takeData 152 = .ok (.iconst 1, 1) := by decide +kernel
theorem dX5_takeData_153 : decode cX5_takeData 153 = .ok (.iload_n 2, 1) := by decide +kernel
theorem dX5_takeData_154 : decode cX5_takeData 154 = .ok (.ishl, 1) := by decide +kernel
theorem dX5_takeData_155 : decode cX5_takeData 155 = .ok (.iconst (-1), 1) := by decide +kernel
theorem dX5_takeData_156 : decode cX5_takeData 156 = .ok (.ixor, 1) := by decide +kernel
theorem dX5_takeData_157 : decode cX5_takeData 157 = .ok (.iand, 1) := by decide +kernel
theorem dX5_takeData_158 : decode cX5_takeData 158 = .ok (.iload_n 3, 1) := by decide +kernel
theorem dX5_takeData_159 : decode cX5_takeData 159 = .ok (.aload_n 1, 1) := by decide +kernel
theorem dX5_takeData_160 : decode cX5_takeData 160 = .ok (.getfield 246, 3) := by decide +kernel
theorem dX5_takeData_163 : decode cX5_takeData 163 = .ok (.aload_n 1, 1) := by decide +kernel
theorem dX5_takeData_164 : decode cX5_takeData 164 = .ok (.getfield 249, 3) := by decide +kernel
theorem dX5_takeData_167 : decode cX5_takeData 167 = .ok (.iconst 1, 1) := by decide +kernel
theorem dX5_takeData_168 : decode cX5_takeData 168 = .ok (.isub, 1) := by decide +kernel
theorem dX5_takeData_169 : decode cX5_takeData 169 = .ok (.invokevirtual 252, 3) := by decide +kernel
theorem dX5_takeData_172 : decode cX5_takeData 172 = .ok (.iload 5, 2) := by decide +kernel
theorem dX5_takeData_174 : decode cX5_takeData 174 = .ok (.ifCond .eq 40, 3) := by decide +kernel
theorem dX5_takeData_177 : decode cX5_takeData 177 = .ok (.aload_n 0, 1) := by decide +kernel
theorem dX5_takeData_178 : decode cX5_takeData 178 = .ok (.getfield 28, 3) := by decide +kernel
theorem dX5_takeData_181 : decode cX5_takeData 181 = .ok (.iload_n 3, 1) := by decide +kernel
theorem dX5_takeData_182 : decode cX5_takeData 182 = .ok (.iaload, 1) := by decide +kernel
theorem dX5_takeData_183 : decode cX5_takeData 183 = .ok (.aload_n 0, 1) := by decide +kernel
theorem dX5_takeData_184 : decode cX5_takeData 184 = .ok (.getfield 50, 3) := by decide +kernel
theorem dX5_takeData_187 : decode cX5_takeData 187 = .ok (.getfield 118, 3) := by decide +kernel
theorem dX5_takeData_190 : decode cX5_takeData 190 = .ok (.if_icmp .gt 24, 3) := by decide +kernel
theorem dX5_takeData_193 : decode cX5_takeData 193 = .ok (.aload_n 0, 1) := by decide +kernel
theorem dX5_takeData_194 : decode cX5_takeData 194 = .ok (.iload_n 3, 1) := by decide +kernel
theorem dX5_takeData_195 : decode cX5_takeData 195 = .ok (.invokevirtual 194, 3) := by decide +kernel
theorem dX5_takeData_198 : decode cX5_takeData 198 = .ok (.ifCond .eq 16, 3) := by decide +kernel
theorem dX5_takeData_201 : decode cX5_takeData 201 = .ok (.aload_n 0, 1) := by decide +kernel
theorem dX5_takeData_202 : decode cX5_takeData 202 = .ok (.iload_n 3, 1) := by decide +kernel
theorem dX5_takeData_203 : decode cX5_takeData 203 = .ok (.aload_n 1, 1) := by decide +kernel
theorem dX5_takeData_204 : decode cX5_takeData 204 = .ok (.getfield 246, 3) := by decide +kernel
theorem dX5_takeData_207 : decode cX5_takeData 207 = .ok (.aload_n 1, 1) := by decide +kernel
theorem dX5_takeData_208 : decode cX5_takeData 208 = .ok (.getfield 249, 3) := by decide +kernel
theorem dX5_takeData_211 : decode cX5_takeData 211 = .ok (.invokevirtual 197, 3) := by decide +kernel
theorem dX5_takeData_214 : decode cX5_takeData 214 = .ok (.return_, 1) := by decide +kernel
def d_X5_takeData_134 (x0 : Nat) (x1 : Nat) (x2 : Int32) (x3 : Int32) (x4 : Int32) (x5 : Int32) (G : Hp) : Option (Hp) :=
  gd (hc G x0 = 6) <|
  bo (d_X5_look x0 x3 G) fun G3 =>
  gd (hc G3 x0 = 6) <|
  b2 (d_X5_findOut x0 x3 x2 x4 G3) fun v6 G7 =>
  gd (hc G7 x1 = 1) <|
  gd (hc G7 x0 = 6) <|
  bo (d_X5_sendData x0 (v6 &&& ((1 <<< (x2 &&& 31)) ^^^ (-1))) x3 (hi G7 x1 5) ((hi G7 x1 7) - 1) G7) fun G11 =>
  if x5 = 0 then
    some G11
  else
    gd (hc G11 x0 = 6) <|
    gd (hc G11 (hr G11 x0 9) = 11 ∧ ix x3 (hl G11 (hr G11 x0 9))) <|
    gd (hc G11 (hr G11 x0 0) = 3) <|
    if (hi G11 (hr G11 x0 0) 4) < (hi G11 (hr G11 x0 9) x3.toNatClampNeg) then
      some G11
    else
      bo (d_X5_mayTunnel x0 x3 G11) fun v18 =>
      if v18 = 0 then
        some G11
      else
        gd (hc G11 x1 = 1) <|
        bo (d_X5_startTunnel x0 x3 (hi G11 x1 5) (hi G11 x1 7) G11) fun G22 =>
        some G22
def d_X5_takeData_101 (x0 : Nat) (x1 : Nat) (x2 : Int32) (x3 : Int32) (x4 : Int32) (x5 : Int32) (G : Hp) : Option (Hp) :=
  gd (hc G x0 = 6) <|
  bo (d_X5_look x0 x3 G) fun G3 =>
  if x4 = 0 then
    d_X5_takeData_134 x0 x1 x2 x3 x4 x5 G3
  else
    gd (hc G3 x0 = 6) <|
    if (hi G3 x0 15) = 0 then
      d_X5_takeData_134 x0 x1 x2 x3 x4 x5 G3
    else
      bo (d_X5_goesStraight x0 x3 x2 G3) fun v8 =>
      if v8 = 0 then
        d_X5_takeData_134 x0 x1 x2 x3 x4 x5 G3
      else
        gd (hc G3 (hr G3 x0 10) = 11 ∧ ix x3 (hl G3 (hr G3 x0 10))) <|
        bd (sI G3 (hr G3 x0 10) x3.toNatClampNeg x2) fun G11 =>
        d_X5_takeData_134 x0 x1 x2 x3 x4 x5 G11
def d_X5_takeData_85 (x0 : Nat) (x1 : Nat) (x2 : Int32) (x3 : Int32) (x4 : Int32) (x5 : Int32) (G : Hp) : Option (Hp) :=
  gd (hc G x0 = 6) <|
  gd (hc G (hr G x0 0) = 3) <|
  gd (hc G (hr G x0 8) = 11 ∧ ix x3 (hl G (hr G x0 8))) <|
  bd (sI G (hr G x0 8) x3.toNatClampNeg ((hi G (hr G x0 0) 4) + 70)) fun G4 =>
  d_X5_takeData_101 x0 x1 x2 x3 x4 x5 G4
def d_X5_takeData_51 (x0 : Nat) (x1 : Nat) (x2 : Int32) (x3 : Int32) (x4 : Int32) (s0 : Int32) (G : Hp) : Option (Hp) :=
  gd (hc G x0 = 6) <|
  bo (d_X5_look x0 x3 G) fun G3 =>
  if s0 = 0 then
    if x4 = 0 then
      d_X5_takeData_101 x0 x1 x2 x3 x4 s0 G3
    else
      gd (hc G3 x0 = 6) <|
      gd (hc G3 (hr G3 x0 5) = 11 ∧ ix x3 (hl G3 (hr G3 x0 5))) <|
      if (hi G3 (hr G3 x0 5) x3.toNatClampNeg) = (-1) then
        d_X5_takeData_101 x0 x1 x2 x3 x4 s0 G3
      else
        if (hi G3 x0 14) = 0 then
          d_X5_takeData_101 x0 x1 x2 x3 x4 s0 G3
        else
          d_X5_takeData_85 x0 x1 x2 x3 x4 s0 G3
  else
    d_X5_takeData_85 x0 x1 x2 x3 x4 s0 G3
def d_X5_takeData_50 (x0 : Nat) (x1 : Nat) (x2 : Int32) (x3 : Int32) (x4 : Int32) (G : Hp) : Option (Hp) :=
  d_X5_takeData_51 x0 x1 x2 x3 x4 0 G
def d_X5_takeData_31 (x0 : Nat) (x1 : Nat) (x2 : Int32) (x3 : Int32) (s0 : Int32) (G : Hp) : Option (Hp) :=
  if s0 = 0 then
    d_X5_takeData_50 x0 x1 x2 x3 s0 G
  else
    gd (hc G x0 = 6) <|
    bo (d_X5_isDirect x0 x3 G) fun v4 =>
    if v4 = 0 then
      d_X5_takeData_50 x0 x1 x2 x3 s0 G
    else
      d_X5_takeData_51 x0 x1 x2 x3 s0 1 G
def d_X5_takeData (x0 : Nat) (x1 : Nat) (x2 : Int32) (G : Hp) : Option (Hp) :=
  gd (hc G x1 = 1) <|
  gd (hc G x0 = 6) <|
  bd (sI G x0 4 ((hi G x0 4) ||| (1 <<< ((hi G x1 4) &&& 31)))) fun G3 =>
  gd (hc G3 x0 = 6) <|
  bo (d_X5_portToSource x0 (hi G x1 4) G3) fun v6 =>
  if v6 = x2 then
    d_X5_takeData_31 x0 x1 x2 (hi G x1 4) 1 G3
  else
    d_X5_takeData_31 x0 x1 x2 (hi G x1 4) 0 G3
section
variable {p : Program} {l : Launch} {e : Env} {s : State} {m : MethodId} {args : Array Value} {below : List Frame} {meth : Method} {c : Code} {b0 : Nat} {D : va_G} {E : Nat → ClassId}
set_option maxHeartbeats 4000000 in
set_option maxRecDepth 100000 in
theorem k_X5_takeData_134 (C : Cx p s m args meth c RX5 cX5_takeData 7 none b0 D E) {GG : Hp} {x0 : Nat} {x1 : Nat} {x2 : Int32} {x3 : Int32} {x4 : Int32} {x5 : Int32} {G : Hp} {ls : Array Slot} {H : Heap} {locs : List Loc} : lx ls 7 [(0, .inr x0), (1, .inr x1), (2, .inl x2), (3, .inl x3), (4, .inl x4), (5, .inl x5)] → Rp b0 D E G H → SS b0 s H locs → d_X5_takeData_134 x0 x1 x2 x3 x4 x5 G = some GG → W p l e (rmd 4 (0) (0)) s m args below meth c H locs (0) (0) (MQ below (CQ b0 D E none GG) args s (0) (0) (fun q => b0 ≤ q)) (F0 m 134 ls []) := by
  intro hL hR hS hd
  unfold d_X5_takeData_134 at hd
  have hx := C.1
  have hb := C.2.1
  refine x_aload_n C dX5_takeData_134 hL 0 rfl ?_
  refine x_iload_n C dX5_takeData_135 hL 3 rfl ?_
  obtain ⟨g1, hd⟩ := gd_ex hd
  obtain ⟨G3, h2, hd⟩ := bo_ex hd
  refine r_callV (a := x0) (ci := 5) (As := [.int x3]) C (ct_X5_look h2) mf_X5_look ml_X5_129 mv_X5_look rfl ⟨Nat.le_of_ble_eq_true rfl, Nat.le_of_ble_eq_true rfl⟩ dX5_takeData_136 (lx_size hL) rfl hR hS g1 ⟨Nat.le_refl _, Nat.le_refl _⟩ (cat_le [] (Nat.le_of_ble_eq_true rfl)) (fun H locs hR hS => ?_)
  refine W_st (st2 := []) rfl ?_
  refine x_aload_n C dX5_takeData_139 hL 0 rfl ?_
  refine x_iload_n C dX5_takeData_140 hL 3 rfl ?_
  refine x_iload_n C dX5_takeData_141 hL 2 rfl ?_
  refine x_iload C dX5_takeData_142 hL 4 rfl ?_
  obtain ⟨g4, hd⟩ := gd_ex hd
  obtain ⟨v6, G7, h5, hd⟩ := b2_ex hd
  refine r_callV (a := x0) (ci := 5) (As := [.int x3, .int x2, .int x4]) C (ct_X5_findOut h5) mf_X5_findOut ml_X5_242 mv_X5_findOut rfl ⟨Nat.le_of_ble_eq_true rfl, Nat.le_of_ble_eq_true rfl⟩ dX5_takeData_144 (lx_size hL) rfl hR hS g4 ⟨Nat.le_refl _, Nat.le_refl _⟩ (cat_le [] (Nat.le_of_ble_eq_true rfl)) (fun H locs hR hS => ?_)
  refine W_st (st2 := [.int v6]) rfl ?_
  refine x_istore (lv' := [(6, .inl v6), (0, .inr x0), (1, .inr x1), (2, .inl x2), (3, .inl x3), (4, .inl x4), (5, .inl x5)]) C dX5_takeData_147 hL (by decide) rfl (fun ls hL => ?_)
  refine x_aload_n C dX5_takeData_149 hL 1 rfl ?_
  refine x_iload C dX5_takeData_150 hL 0 rfl ?_
  refine lv_iconst (v := 1) hx hb dX5_takeData_152 (by decide) ?_
  refine x_iload_n C dX5_takeData_153 hL 3 rfl ?_
  refine lv_ishl hx hb dX5_takeData_154 ?_
  refine lv_iconst (v := (-1)) hx hb dX5_takeData_155 (by decide) ?_
  refine lv_ixor hx hb dX5_takeData_156 ?_
  refine lv_iand hx hb dX5_takeData_157 ?_
  refine x_iload_n C dX5_takeData_158 hL 4 rfl ?_
  refine x_aload_n C dX5_takeData_159 hL 2 rfl ?_
  obtain ⟨g8, hd⟩ := gd_ex hd
  refine r_geti (ci := 0) (k := 5) C fl_X5_246 rfl dX5_takeData_160 hR g8 ?_
  refine x_aload_n C dX5_takeData_163 hL 2 rfl ?_
  refine r_geti (ci := 0) (k := 7) C fl_X5_249 rfl dX5_takeData_164 hR g8 ?_
  refine lv_iconst (v := 1) hx hb dX5_takeData_167 (by decide) ?_
  refine lv_isub hx hb dX5_takeData_168 ?_
  obtain ⟨g9, hd⟩ := gd_ex hd
  obtain ⟨G11, h10, hd⟩ := bo_ex hd
  refine r_callV (a := x0) (ci := 5) (As := [.int (v6 &&& ((1 <<< (x2 &&& 31)) ^^^ (-1))), .int x3, .int (hi G7 x1 5), .int ((hi G7 x1 7) - 1)]) C (ct_X5_sendData h10) mf_X5_sendData ml_X5_252 mv_X5_sendData rfl ⟨Nat.le_of_ble_eq_true rfl, Nat.le_of_ble_eq_true rfl⟩ dX5_takeData_169 (lx_size hL) rfl hR hS g9 ⟨Nat.le_refl _, Nat.le_refl _⟩ (cat_le [] (Nat.le_of_ble_eq_true rfl)) (fun H locs hR hS => ?_)
  refine W_st (st2 := []) rfl ?_
  refine x_iload C dX5_takeData_172 hL 6 rfl ?_
  refine lv_if_eq (tgt := 214) hx hb dX5_takeData_174 (by decide) (fun c12 => ?_) (fun c12 => ?_)
  · rw [if_pos c12] at hd
    cases hd
    exact r_vret C dX5_takeData_214 hR hS
  · rw [if_neg c12] at hd
    refine x_aload_n C dX5_takeData_177 hL 1 rfl ?_
    obtain ⟨g13, hd⟩ := gd_ex hd
    refine r_getr (ci := 5) (k := 9) C fl_X5_28 rfl dX5_takeData_178 hR g13 ?_
    refine x_iload_n C dX5_takeData_181 hL 4 rfl ?_
    obtain ⟨g14, hd⟩ := gd_ex hd
    refine r_iald C dX5_takeData_182 hR g14 ?_
    refine x_aload_n C dX5_takeData_183 hL 1 rfl ?_
    refine r_getr (ci := 5) (k := 0) C fl_X5_50 rfl dX5_takeData_184 hR g13 ?_
    obtain ⟨g15, hd⟩ := gd_ex hd
    refine r_geti (ci := 2) (k := 4) C fl_X5_118 rfl dX5_takeData_187 hR g15 ?_
    refine lv_icmp_gt (tgt := 214) hx hb dX5_takeData_190 (by decide) (fun c16 => ?_) (fun c16 => ?_)
    · rw [if_pos c16] at hd
      cases hd
      exact r_vret C dX5_takeData_214 hR hS
    · rw [if_neg c16] at hd
      refine x_aload_n C dX5_takeData_193 hL 1 rfl ?_
      refine x_iload_n C dX5_takeData_194 hL 4 rfl ?_
      obtain ⟨v18, h17, hd⟩ := bo_ex hd
      refine r_callV (a := x0) (ci := 5) (As := [.int x3]) C (ct_X5_mayTunnel h17) mf_X5_mayTunnel ml_X5_194 mv_X5_mayTunnel rfl ⟨Nat.le_of_ble_eq_true rfl, Nat.le_of_ble_eq_true rfl⟩ dX5_takeData_195 (lx_size hL) rfl hR hS g13 ⟨Nat.le_refl _, Nat.le_refl _⟩ (cat_le [] (Nat.le_of_ble_eq_true rfl)) (fun H locs hR hS => ?_)
      refine W_st (st2 := [.int v18]) rfl ?_
      refine lv_if_eq (tgt := 214) hx hb dX5_takeData_198 (by decide) (fun c19 => ?_) (fun c19 => ?_)
      · rw [if_pos c19] at hd
        cases hd
        exact r_vret C dX5_takeData_214 hR hS
      · rw [if_neg c19] at hd
        refine x_aload_n C dX5_takeData_201 hL 1 rfl ?_
        refine x_iload_n C dX5_takeData_202 hL 4 rfl ?_
        refine x_aload_n C dX5_takeData_203 hL 2 rfl ?_
        obtain ⟨g20, hd⟩ := gd_ex hd
        refine r_geti (ci := 0) (k := 5) C fl_X5_246 rfl dX5_takeData_204 hR g20 ?_
        refine x_aload_n C dX5_takeData_207 hL 2 rfl ?_
        refine r_geti (ci := 0) (k := 7) C fl_X5_249 rfl dX5_takeData_208 hR g20 ?_
        obtain ⟨G22, h21, hd⟩ := bo_ex hd
        refine r_callV (a := x0) (ci := 5) (As := [.int x3, .int (hi G11 x1 5), .int (hi G11 x1 7)]) C (ct_X5_startTunnel h21) mf_X5_startTunnel ml_X5_197 mv_X5_startTunnel rfl ⟨Nat.le_of_ble_eq_true rfl, Nat.le_of_ble_eq_true rfl⟩ dX5_takeData_211 (lx_size hL) rfl hR hS g13 ⟨Nat.le_refl _, Nat.le_refl _⟩ (cat_le [] (Nat.le_of_ble_eq_true rfl)) (fun H locs hR hS => ?_)
        refine W_st (st2 := []) rfl ?_
        cases hd
        exact r_vret C dX5_takeData_214 hR hS
set_option maxHeartbeats 4000000 in
set_option maxRecDepth 100000 in
theorem k_X5_takeData_101 (C : Cx p s m args meth c RX5 cX5_takeData 7 none b0 D E) {GG : Hp} {x0 : Nat} {x1 : Nat} {x2 : Int32} {x3 : Int32} {x4 : Int32} {x5 : Int32} {G : Hp} {ls : Array Slot} {H : Heap} {locs : List Loc} : lx ls 7 [(0, .inr x0), (1, .inr x1), (2, .inl x2), (3, .inl x3), (4, .inl x4), (5, .inl x5)] → Rp b0 D E G H → SS b0 s H locs → d_X5_takeData_101 x0 x1 x2 x3 x4 x5 G = some GG → W p l e (rmd 4 (0) (0)) s m args below meth c H locs (0) (0) (MQ below (CQ b0 D E none GG) args s (0) (0) (fun q => b0 ≤ q)) (F0 m 101 ls []) := by
  intro hL hR hS hd
  unfold d_X5_takeData_101 at hd
  have hx := C.1
  have hb := C.2.1
  refine x_aload_n C dX5_takeData_101 hL 0 rfl ?_
  refine x_iload_n C dX5_takeData_102 hL 3 rfl ?_
  obtain ⟨g1, hd⟩ := gd_ex hd
  obtain ⟨G3, h2, hd⟩ := bo_ex hd
  refine r_callV (a := x0) (ci := 5) (As := [.int x3]) C (ct_X5_look h2) mf_X5_look ml_X5_129 mv_X5_look rfl ⟨Nat.le_of_ble_eq_true rfl, Nat.le_of_ble_eq_true rfl⟩ dX5_takeData_103 (lx_size hL) rfl hR hS g1 ⟨Nat.le_refl _, Nat.le_refl _⟩ (cat_le [] (Nat.le_of_ble_eq_true rfl)) (fun H locs hR hS => ?_)
  refine W_st (st2 := []) rfl ?_
  refine x_iload C dX5_takeData_106 hL 4 rfl ?_
  refine lv_if_eq (tgt := 134) hx hb dX5_takeData_108 (by decide) (fun c4 => ?_) (fun c4 => ?_)
  · rw [if_pos c4] at hd
    exact k_X5_takeData_134 C hL hR hS hd
  · rw [if_neg c4] at hd
    refine x_aload_n C dX5_takeData_111 hL 0 rfl ?_
    obtain ⟨g5, hd⟩ := gd_ex hd
    refine r_geti (ci := 5) (k := 15) C fl_X5_46 rfl dX5_takeData_112 hR g5 ?_
    refine lv_if_eq (tgt := 134) hx hb dX5_takeData_115 (by decide) (fun c6 => ?_) (fun c6 => ?_)
    · rw [if_pos c6] at hd
      exact k_X5_takeData_134 C hL hR hS hd
    · rw [if_neg c6] at hd
      refine x_aload_n C dX5_takeData_118 hL 0 rfl ?_
      refine x_iload_n C dX5_takeData_119 hL 3 rfl ?_
      refine x_iload_n C dX5_takeData_120 hL 2 rfl ?_
      obtain ⟨v8, h7, hd⟩ := bo_ex hd
      refine r_callV (a := x0) (ci := 5) (As := [.int x3, .int x2]) C (ct_X5_goesStraight h7) mf_X5_goesStraight ml_X5_239 mv_X5_goesStraight rfl ⟨Nat.le_of_ble_eq_true rfl, Nat.le_of_ble_eq_true rfl⟩ dX5_takeData_121 (lx_size hL) rfl hR hS g5 ⟨Nat.le_refl _, Nat.le_refl _⟩ (cat_le [] (Nat.le_of_ble_eq_true rfl)) (fun H locs hR hS => ?_)
      refine W_st (st2 := [.int v8]) rfl ?_
      refine lv_if_eq (tgt := 134) hx hb dX5_takeData_124 (by decide) (fun c9 => ?_) (fun c9 => ?_)
      · rw [if_pos c9] at hd
        exact k_X5_takeData_134 C hL hR hS hd
      · rw [if_neg c9] at hd
        refine x_aload_n C dX5_takeData_127 hL 0 rfl ?_
        refine r_getr (ci := 5) (k := 10) C fl_X5_31 rfl dX5_takeData_128 hR g5 ?_
        refine x_iload_n C dX5_takeData_131 hL 3 rfl ?_
        refine x_iload_n C dX5_takeData_132 hL 2 rfl ?_
        obtain ⟨g10, hd⟩ := gd_ex hd
        obtain ⟨G11, eG11, hd⟩ := bd_ex hd
        refine r_iast C dX5_takeData_133 hR hS g10 (fun H locs hR hS => ?_)
        replace hR : Rp b0 D E G11 H := by rw [eG11]; exact hR
        exact k_X5_takeData_134 C hL hR hS hd
set_option maxHeartbeats 4000000 in
set_option maxRecDepth 100000 in
theorem k_X5_takeData_85 (C : Cx p s m args meth c RX5 cX5_takeData 7 none b0 D E) {GG : Hp} {x0 : Nat} {x1 : Nat} {x2 : Int32} {x3 : Int32} {x4 : Int32} {x5 : Int32} {G : Hp} {ls : Array Slot} {H : Heap} {locs : List Loc} : lx ls 7 [(0, .inr x0), (1, .inr x1), (2, .inl x2), (3, .inl x3), (4, .inl x4), (5, .inl x5)] → Rp b0 D E G H → SS b0 s H locs → d_X5_takeData_85 x0 x1 x2 x3 x4 x5 G = some GG → W p l e (rmd 4 (0) (0)) s m args below meth c H locs (0) (0) (MQ below (CQ b0 D E none GG) args s (0) (0) (fun q => b0 ≤ q)) (F0 m 85 ls []) := by
  intro hL hR hS hd
  unfold d_X5_takeData_85 at hd
  have hx := C.1
  have hb := C.2.1
  refine x_aload_n C dX5_takeData_85 hL 0 rfl ?_
  obtain ⟨g1, hd⟩ := gd_ex hd
  refine r_getr (ci := 5) (k := 8) C fl_X5_25 rfl dX5_takeData_86 hR g1 ?_
  refine x_iload_n C dX5_takeData_89 hL 3 rfl ?_
  refine x_aload_n C dX5_takeData_90 hL 0 rfl ?_
  refine r_getr (ci := 5) (k := 0) C fl_X5_50 rfl dX5_takeData_91 hR g1 ?_
  obtain ⟨g2, hd⟩ := gd_ex hd
  refine r_geti (ci := 2) (k := 4) C fl_X5_118 rfl dX5_takeData_94 hR g2 ?_
  refine lv_bipush (v := 70) hx hb dX5_takeData_97 (by decide) ?_
  refine lv_iadd hx hb dX5_takeData_99 ?_
  obtain ⟨g3, hd⟩ := gd_ex hd
  obtain ⟨G4, eG4, hd⟩ := bd_ex hd
  refine r_iast C dX5_takeData_100 hR hS g3 (fun H locs hR hS => ?_)
  replace hR : Rp b0 D E G4 H := by rw [eG4]; exact hR
  exact k_X5_takeData_101 C hL hR hS hd
set_option maxHeartbeats 4000000 in
set_option maxRecDepth 100000 in
theorem k_X5_takeData_51 (C : Cx p s m args meth c RX5 cX5_takeData 7 none b0 D E) {GG : Hp} {x0 : Nat} {x1 : Nat} {x2 : Int32} {x3 : Int32} {x4 : Int32} {s0 : Int32} {G : Hp} {ls : Array Slot} {H : Heap} {locs : List Loc} : lx ls 7 [(0, .inr x0), (1, .inr x1), (2, .inl x2), (3, .inl x3), (4, .inl x4)] → Rp b0 D E G H → SS b0 s H locs → d_X5_takeData_51 x0 x1 x2 x3 x4 s0 G = some GG → W p l e (rmd 4 (0) (0)) s m args below meth c H locs (0) (0) (MQ below (CQ b0 D E none GG) args s (0) (0) (fun q => b0 ≤ q)) (F0 m 51 ls [.int s0]) := by
  intro hL hR hS hd
  unfold d_X5_takeData_51 at hd
  have hx := C.1
  have hb := C.2.1
  refine x_istore (lv' := [(5, .inl s0), (0, .inr x0), (1, .inr x1), (2, .inl x2), (3, .inl x3), (4, .inl x4)]) C dX5_takeData_51 hL (by decide) rfl (fun ls hL => ?_)
  refine x_aload_n C dX5_takeData_53 hL 1 rfl ?_
  refine x_iload_n C dX5_takeData_54 hL 4 rfl ?_
  obtain ⟨g1, hd⟩ := gd_ex hd
  obtain ⟨G3, h2, hd⟩ := bo_ex hd
  refine r_callV (a := x0) (ci := 5) (As := [.int x3]) C (ct_X5_look h2) mf_X5_look ml_X5_129 mv_X5_look rfl ⟨Nat.le_of_ble_eq_true rfl, Nat.le_of_ble_eq_true rfl⟩ dX5_takeData_55 (lx_size hL) rfl hR hS g1 ⟨Nat.le_refl _, Nat.le_refl _⟩ (cat_le [] (Nat.le_of_ble_eq_true rfl)) (fun H locs hR hS => ?_)
  refine W_st (st2 := []) rfl ?_
  refine x_iload C dX5_takeData_58 hL 0 rfl ?_
  refine lv_if_ne (tgt := 85) hx hb dX5_takeData_60 (by decide) (fun c4 => ?_) (fun c4 => ?_)
  · rw [if_neg c4] at hd
    exact k_X5_takeData_85 C (lx_sub hL [1, 2, 3, 4, 5, 0] rfl) hR hS hd
  · rw [if_pos c4] at hd
    refine x_iload C dX5_takeData_63 hL 5 rfl ?_
    refine lv_if_eq (tgt := 101) hx hb dX5_takeData_65 (by decide) (fun c5 => ?_) (fun c5 => ?_)
    · rw [if_pos c5] at hd
      exact k_X5_takeData_101 C (lx_sub hL [1, 2, 3, 4, 5, 0] rfl) hR hS hd
    · rw [if_neg c5] at hd
      refine x_aload_n C dX5_takeData_68 hL 1 rfl ?_
      obtain ⟨g6, hd⟩ := gd_ex hd
      refine r_getr (ci := 5) (k := 5) C fl_X5_15 rfl dX5_takeData_69 hR g6 ?_
      refine x_iload_n C dX5_takeData_72 hL 4 rfl ?_
      obtain ⟨g7, hd⟩ := gd_ex hd
      refine r_iald C dX5_takeData_73 hR g7 ?_
      refine lv_iconst (v := (-1)) hx hb dX5_takeData_74 (by decide) ?_
      refine lv_icmp_eq (tgt := 101) hx hb dX5_takeData_75 (by decide) (fun c8 => ?_) (fun c8 => ?_)
      · rw [if_pos c8] at hd
        exact k_X5_takeData_101 C (lx_sub hL [1, 2, 3, 4, 5, 0] rfl) hR hS hd
      · rw [if_neg c8] at hd
        refine x_aload_n C dX5_takeData_78 hL 1 rfl ?_
        refine r_geti (ci := 5) (k := 14) C fl_X5_43 rfl dX5_takeData_79 hR g6 ?_
        refine lv_if_eq (tgt := 101) hx hb dX5_takeData_82 (by decide) (fun c9 => ?_) (fun c9 => ?_)
        · rw [if_pos c9] at hd
          exact k_X5_takeData_101 C (lx_sub hL [1, 2, 3, 4, 5, 0] rfl) hR hS hd
        · rw [if_neg c9] at hd
          exact k_X5_takeData_85 C (lx_sub hL [1, 2, 3, 4, 5, 0] rfl) hR hS hd
set_option maxHeartbeats 4000000 in
set_option maxRecDepth 100000 in
theorem k_X5_takeData_50 (C : Cx p s m args meth c RX5 cX5_takeData 7 none b0 D E) {GG : Hp} {x0 : Nat} {x1 : Nat} {x2 : Int32} {x3 : Int32} {x4 : Int32} {G : Hp} {ls : Array Slot} {H : Heap} {locs : List Loc} : lx ls 7 [(0, .inr x0), (1, .inr x1), (2, .inl x2), (3, .inl x3), (4, .inl x4)] → Rp b0 D E G H → SS b0 s H locs → d_X5_takeData_50 x0 x1 x2 x3 x4 G = some GG → W p l e (rmd 4 (0) (0)) s m args below meth c H locs (0) (0) (MQ below (CQ b0 D E none GG) args s (0) (0) (fun q => b0 ≤ q)) (F0 m 50 ls []) := by
  intro hL hR hS hd
  unfold d_X5_takeData_50 at hd
  have hx := C.1
  have hb := C.2.1
  refine lv_iconst (v := 0) hx hb dX5_takeData_50 (by decide) ?_
  exact k_X5_takeData_51 C hL hR hS hd
set_option maxHeartbeats 4000000 in
set_option maxRecDepth 100000 in
theorem k_X5_takeData_31 (C : Cx p s m args meth c RX5 cX5_takeData 7 none b0 D E) {GG : Hp} {x0 : Nat} {x1 : Nat} {x2 : Int32} {x3 : Int32} {s0 : Int32} {G : Hp} {ls : Array Slot} {H : Heap} {locs : List Loc} : lx ls 7 [(0, .inr x0), (1, .inr x1), (2, .inl x2), (3, .inl x3)] → Rp b0 D E G H → SS b0 s H locs → d_X5_takeData_31 x0 x1 x2 x3 s0 G = some GG → W p l e (rmd 4 (0) (0)) s m args below meth c H locs (0) (0) (MQ below (CQ b0 D E none GG) args s (0) (0) (fun q => b0 ≤ q)) (F0 m 31 ls [.int s0]) := by
  intro hL hR hS hd
  unfold d_X5_takeData_31 at hd
  have hx := C.1
  have hb := C.2.1
  refine x_istore (lv' := [(4, .inl s0), (0, .inr x0), (1, .inr x1), (2, .inl x2), (3, .inl x3)]) C dX5_takeData_31 hL (by decide) rfl (fun ls hL => ?_)
  refine x_iload C dX5_takeData_33 hL 0 rfl ?_
  refine lv_if_eq (tgt := 50) hx hb dX5_takeData_35 (by decide) (fun c1 => ?_) (fun c1 => ?_)
  · rw [if_pos c1] at hd
    exact k_X5_takeData_50 C (lx_sub hL [1, 2, 3, 4, 0] rfl) hR hS hd
  · rw [if_neg c1] at hd
    refine x_aload_n C dX5_takeData_38 hL 1 rfl ?_
    refine x_iload_n C dX5_takeData_39 hL 4 rfl ?_
    obtain ⟨g2, hd⟩ := gd_ex hd
    obtain ⟨v4, h3, hd⟩ := bo_ex hd
    refine r_callV (a := x0) (ci := 5) (As := [.int x3]) C (ct_X5_isDirect h3) mf_X5_isDirect ml_X5_203 mv_X5_isDirect rfl ⟨Nat.le_of_ble_eq_true rfl, Nat.le_of_ble_eq_true rfl⟩ dX5_takeData_40 (lx_size hL) rfl hR hS g2 ⟨Nat.le_refl _, Nat.le_refl _⟩ (cat_le [] (Nat.le_of_ble_eq_true rfl)) (fun H locs hR hS => ?_)
    refine W_st (st2 := [.int v4]) rfl ?_
    refine lv_if_eq (tgt := 50) hx hb dX5_takeData_43 (by decide) (fun c5 => ?_) (fun c5 => ?_)
    · rw [if_pos c5] at hd
      exact k_X5_takeData_50 C (lx_sub hL [1, 2, 3, 4, 0] rfl) hR hS hd
    · rw [if_neg c5] at hd
      refine lv_iconst (v := 1) hx hb dX5_takeData_46 (by decide) ?_
      refine lv_goto (tgt := 51) hx hb dX5_takeData_47 (by decide) ?_
      exact k_X5_takeData_51 C (lx_sub hL [1, 2, 3, 4, 0] rfl) hR hS hd
set_option maxHeartbeats 4000000 in
set_option maxRecDepth 100000 in
theorem k_X5_takeData (C : Cx p s m args meth c RX5 cX5_takeData 7 none b0 D E) {GG : Hp} {x0 : Nat} {x1 : Nat} {x2 : Int32} {G : Hp} {ls : Array Slot} {H : Heap} {locs : List Loc} : lx ls 7 [(0, .inr x0), (1, .inr x1), (2, .inl x2)] → Rp b0 D E G H → SS b0 s H locs → d_X5_takeData x0 x1 x2 G = some GG → W p l e (rmd 4 (0) (0)) s m args below meth c H locs (0) (0) (MQ below (CQ b0 D E none GG) args s (0) (0) (fun q => b0 ≤ q)) (F0 m 0 ls []) := by
  intro hL hR hS hd
  unfold d_X5_takeData at hd
  have hx := C.1
  have hb := C.2.1
  refine x_aload_n C dX5_takeData_0 hL 1 rfl ?_
  obtain ⟨g1, hd⟩ := gd_ex hd
  refine r_geti (ci := 0) (k := 4) C fl_X5_221 rfl dX5_takeData_1 hR g1 ?_
  refine x_istore_n (lv' := [(3, .inl (hi G x1 4)), (0, .inr x0), (1, .inr x1), (2, .inl x2)]) C dX5_takeData_4 hL (by decide) rfl (fun ls hL => ?_)
  refine x_aload_n C dX5_takeData_5 hL 1 rfl ?_
  refine lv_dup hx hb dX5_takeData_6 (rv_cat _) ?_
  obtain ⟨g2, hd⟩ := gd_ex hd
  refine r_geti (ci := 5) (k := 4) C fl_X5_9 rfl dX5_takeData_7 hR g2 ?_
  refine lv_iconst (v := 1) hx hb dX5_takeData_10 (by decide) ?_
  refine x_iload_n C dX5_takeData_11 hL 0 rfl ?_
  refine lv_ishl hx hb dX5_takeData_12 ?_
  refine lv_ior hx hb dX5_takeData_13 ?_
  obtain ⟨G3, eG3, hd⟩ := bd_ex hd
  refine r_puti (ci := 5) (k := 4) C fl_X5_9 rfl (Or.inl rfl) dX5_takeData_14 hR hS g2 (fun H locs hR hS => ?_)
  replace hR : Rp b0 D E G3 H := by rw [eG3]; exact hR
  refine x_aload_n C dX5_takeData_17 hL 1 rfl ?_
  refine x_iload_n C dX5_takeData_18 hL 0 rfl ?_
  obtain ⟨g4, hd⟩ := gd_ex hd
  obtain ⟨v6, h5, hd⟩ := bo_ex hd
  refine r_callV (a := x0) (ci := 5) (As := [.int (hi G x1 4)]) C (ct_X5_portToSource h5) mf_X5_portToSource ml_X5_154 mv_X5_portToSource rfl ⟨Nat.le_of_ble_eq_true rfl, Nat.le_of_ble_eq_true rfl⟩ dX5_takeData_19 (lx_size hL) rfl hR hS g4 ⟨Nat.le_refl _, Nat.le_refl _⟩ (cat_le [] (Nat.le_of_ble_eq_true rfl)) (fun H locs hR hS => ?_)
  refine W_st (st2 := [.int v6]) rfl ?_
  refine x_iload_n C dX5_takeData_22 hL 3 rfl ?_
  refine lv_icmp_ne (tgt := 30) hx hb dX5_takeData_23 (by decide) (fun c7 => ?_) (fun c7 => ?_)
  · rw [if_neg c7] at hd
    refine lv_iconst (v := 0) hx hb dX5_takeData_30 (by decide) ?_
    exact k_X5_takeData_31 C (lx_sub hL [1, 2, 3, 0] rfl) hR hS hd
  · rw [if_pos c7] at hd
    refine lv_iconst (v := 1) hx hb dX5_takeData_26 (by decide) ?_
    refine lv_goto (tgt := 31) hx hb dX5_takeData_27 (by decide) ?_
    exact k_X5_takeData_31 C (lx_sub hL [1, 2, 3, 0] rfl) hR hS hd
end
set_option maxHeartbeats 4000000 in
set_option maxRecDepth 100000 in
theorem ct_X5_takeData {l : Launch} {b0 : Nat} {D : va_G} {E : Nat → ClassId} {G : Hp} {a0 : Nat} {a1 : Nat} {a2 : Int32} {GG : Hp} (hd : d_X5_takeData a0 a1 a2 G = some GG) : CT l yX5_takeData cX5_takeData 7 none 4 0 0 b0 D E [rv a0, rv a1, .int a2] G none GG := by
  refine CT_of (by decide +kernel) ?_
  intro p e s m below meth c C hnm hR
  refine r_entry [.inr a0, .inr a1, .inl a2] (n := 7) (Nat.le_of_ble_eq_true rfl) (lv := [(0, .inr a0), (1, .inr a1), (2, .inl a2)]) rfl (fun ls hL => ?_)
  exact k_X5_takeData C (lx_sub hL [0, 1, 2] rfl) hR ⟨fun _ _ => rfl, fun _ h => by cases h⟩ hd

/-! GroveWorks$Tree.takeClaim(LGroveWorks$Frame;I)V -/
theorem dX5_takeClaim_0 : decode cX5_takeClaim 0 = .ok (.aload_n 1, 1) := by decide +kernel
theorem dX5_takeClaim_1 : decode cX5_takeClaim 1 = .ok (.getfield 221, 3) := by decide +kernel
theorem dX5_takeClaim_4 : decode cX5_takeClaim 4 = .ok (.istore_n 3, 1) := by decide +kernel
theorem dX5_takeClaim_5 : decode cX5_takeClaim 5 = .ok (.aload_n 0, 1) := by decide +kernel
theorem dX5_takeClaim_6 : decode cX5_takeClaim 6 = .ok (.dup, 1) := by decide +kernel
theorem dX5_takeClaim_7 : decode cX5_takeClaim 7 = .ok (.getfield 9, 3) := by decide +kernel
theorem dX5_takeClaim_10 : decode cX5_takeClaim 10 = .ok (.iconst 1, 1) := by decide +kernel
theorem dX5_takeClaim_11 : decode cX5_takeClaim 11 = .ok (.iload_n 3, 1) := by decide +kernel
theorem dX5_takeClaim_12 : decode cX5_takeClaim 12 = .ok (.ishl, 1) := by decide +kernel
theorem dX5_takeClaim_13 : decode cX5_takeClaim 13 = .ok (.ior, 1) := by decide +kernel
theorem dX5_takeClaim_14 : decode cX5_takeClaim 14 = .ok (.putfield 9, 3) := by decide +kernel
theorem dX5_takeClaim_17 : decode cX5_takeClaim 17 = .ok (.aload_n 0, 1) := by decide +kernel
theorem dX5_takeClaim_18 : decode cX5_takeClaim 18 = .ok (.getfield 60, 3) := by decide +kernel
theorem dX5_takeClaim_21 : decode cX5_takeClaim 21 = .ok (.iload_n 2, 1) := by decide +kernel
theorem dX5_takeClaim_22 : decode cX5_takeClaim 22 = .ok (.aaload, 1) := by decide +kernel
theorem dX5_takeClaim_23 : decode cX5_takeClaim 23 = .ok (.aload_n 0, 1) := by decide +kernel
theorem dX5_takeClaim_24 : decode cX5_takeClaim 24 = .ok (.getfield 57, 3) := by decide +kernel
theorem dX5_takeClaim_27 : decode cX5_takeClaim 27 = .ok (.iload_n 3, 1) := by decide +kernel
theorem dX5_takeClaim_28 : decode cX5_takeClaim 28 = .ok (.aload_n 1, 1) := by decide +kernel
theorem dX5_takeClaim_29 : decode cX5_takeClaim 29 = .ok (.getfield 246, 3) := by decide +kernel
theorem dX5_takeClaim_32 : decode cX5_takeClaim 32 = .ok (.invokevirtual 268, 3) := by decide +kernel
theorem dX5_takeClaim_35 : decode cX5_takeClaim 35 = .ok (.aload_n 0, 1) := by decide +kernel
theorem dX5_takeClaim_36 : decode cX5_takeClaim 36 = .ok (.iload_n 3, 1) := by decide +kernel
theorem dX5_takeClaim_37 : decode cX5_takeClaim 37 = .ok (.invokevirtual 129, 3) := by decide +kernel
theorem dX5_takeClaim_40 : decode cX5_takeClaim 40 = .ok (.aload_n 0, 1) := by decide +kernel
theorem dX5_takeClaim_41 : decode cX5_takeClaim 41 = .ok (.iload_n 3, 1) := by decide +kernel
theorem dX5_takeClaim_42 : decode cX5_takeClaim 42 = .ok (.iload_n 2, 1) := by decide +kernel
theorem dX5_takeClaim_43 : decode cX5_takeClaim 43 = .ok (.invokevirtual 262, 3) := by decide +kernel
theorem dX5_takeClaim_46 : decode cX5_takeClaim 46 = .ok (.ifCond .eq 23, 3) := by decide +kernel
theorem dX5_takeClaim_49 : decode cX5_takeClaim 49 = .ok (.aload_n 0, 1) := by decide +kernel
theorem dX5_takeClaim_50 : decode cX5_takeClaim 50 = .ok (.getfield 34, 3) := by decide +kernel
theorem dX5_takeClaim_53 : decode cX5_takeClaim 53 = .ok (.aload_n 1, 1) := by decide +kernel
theorem dX5_takeClaim_54 : decode cX5_takeClaim 54 = .ok (.getfield 246, 3) := by decide +kernel
theorem dX5_takeClaim_57 : decode cX5_takeClaim 57 = .ok (.invokestatic 271, 3) := by decide +kernel
theorem dX5_takeClaim_60 : decode cX5_takeClaim 60 = .ok (.ifCond .eq 9, 3) := by decide +kernel
theorem dX5_takeClaim_63 : decode cX5_takeClaim 63 = .ok (.aload_n 0, 1) := by decide +kernel
theorem dX5_takeClaim_64 : decode cX5_takeClaim 64 = .ok (.iload_n 3, 1) := by decide +kernel
theorem dX5_takeClaim_65 : decode cX5_takeClaim 65 = .ok (.iload_n 2, 1) := by decide +kernel
theorem dX5_takeClaim_66 : decode cX5_takeClaim 66 = .ok (.invokevirtual 265, 3) := by decide +kernel
theorem dX5_takeClaim_69 : decode cX5_takeClaim 69 = .ok (.return_, 1) := by decide +kernel
def d_X5_takeClaim (x0 : Nat) (x1 : Nat) (x2 : Int32) (G : Hp) : Option (Hp) :=
  gd (hc G x1 = 1) <|
  gd (hc G x0 = 6) <|
  bd (sI G x0 4 ((hi G x0 4) ||| (1 <<< ((hi G x1 4) &&& 31)))) fun G3 =>
  gd (hc G3 x0 = 6) <|
  gd (hc G3 (hr G3 x0 3) = 16 ∧ ix x2 (hl G3 (hr G3 x0 3))) <|
  gd (hc G3 x1 = 1) <|
  gd (hc G3 (hr G3 (hr G3 x0 3) x2.toNatClampNeg) = 4) <|
  bo (d_X3_takeClaim (hr G3 (hr G3 x0 3) x2.toNatClampNeg) (hi G3 x0 2) (hi G x1 4) (hi G3 x1 5) G3) fun G9 =>
  gd (hc G9 x0 = 6) <|
  bo (d_X5_look x0 (hi G x1 4) G9) fun G12 =>
  gd (hc G12 x0 = 6) <|
  bo (d_X5_isBranch x0 (hi G x1 4) x2 G12) fun v15 =>
  if v15 = 0 then
    some G12
  else
    gd (hc G12 x1 = 1) <|
    bo (d_X8_isBetter (hi G12 x0 11) (hi G12 x1 5) G12) fun v19 =>
    if v19 = 0 then
      some G12
    else
      bo (d_X5_sendClaim x0 (hi G x1 4) x2 G12) fun G22 =>
      some G22
section
variable {p : Program} {l : Launch} {e : Env} {s : State} {m : MethodId} {args : Array Value} {below : List Frame} {meth : Method} {c : Code} {b0 : Nat} {D : va_G} {E : Nat → ClassId}
set_option maxHeartbeats 4000000 in
set_option maxRecDepth 100000 in
theorem k_X5_takeClaim (C : Cx p s m args meth c RX5 cX5_takeClaim 4 none b0 D E) {GG : Hp} {x0 : Nat} {x1 : Nat} {x2 : Int32} {G : Hp} {ls : Array Slot} {H : Heap} {locs : List Loc} : lx ls 4 [(0, .inr x0), (1, .inr x1), (2, .inl x2)] → Rp b0 D E G H → SS b0 s H locs → d_X5_takeClaim x0 x1 x2 G = some GG → W p l e (rmd 4 (0) (0)) s m args below meth c H locs (0) (0) (MQ below (CQ b0 D E none GG) args s (0) (0) (fun q => b0 ≤ q)) (F0 m 0 ls []) := by
  intro hL hR hS hd
  unfold d_X5_takeClaim at hd
  have hx := C.1
  have hb := C.2.1
  refine x_aload_n C dX5_takeClaim_0 hL 1 rfl ?_
  obtain ⟨g1, hd⟩ := gd_ex hd
  refine r_geti (ci := 0) (k := 4) C fl_X5_221 rfl dX5_takeClaim_1 hR g1 ?_
  refine x_istore_n (lv' := [(3, .inl (hi G x1 4)), (0, .inr x0), (1, .inr x1), (2, .inl x2)]) C dX5_takeClaim_4 hL (by decide) rfl (fun ls hL => ?_)
  refine x_aload_n C dX5_takeClaim_5 hL 1 rfl ?_
  refine lv_dup hx hb dX5_takeClaim_6 (rv_cat _) ?_
  obtain ⟨g2, hd⟩ := gd_ex hd
  refine r_geti (ci := 5) (k := 4) C fl_X5_9 rfl dX5_takeClaim_7 hR g2 ?_
  refine lv_iconst (v := 1) hx hb dX5_takeClaim_10 (by decide) ?_
  refine x_iload_n C dX5_takeClaim_11 hL 0 rfl ?_
  refine lv_ishl hx hb dX5_takeClaim_12 ?_
  refine lv_ior hx hb dX5_takeClaim_13 ?_
  obtain ⟨G3, eG3, hd⟩ := bd_ex hd
  refine r_puti (ci := 5) (k := 4) C fl_X5_9 rfl (Or.inl rfl) dX5_takeClaim_14 hR hS g2 (fun H locs hR hS => ?_)
  replace hR : Rp b0 D E G3 H := by rw [eG3]; exact hR
  refine x_aload_n C dX5_takeClaim_17 hL 1 rfl ?_
  obtain ⟨g4, hd⟩ := gd_ex hd
  refine r_getr (ci := 5) (k := 3) C fl_X5_60 rfl dX5_takeClaim_18 hR g4 ?_
  refine x_iload_n C dX5_takeClaim_21 hL 3 rfl ?_
  obtain ⟨g5, hd⟩ := gd_ex hd
  refine r_aald (ci := 3) C (by decide) dX5_takeClaim_22 hR g5 ?_
  refine x_aload_n C dX5_takeClaim_23 hL 1 rfl ?_
  refine r_geti (ci := 5) (k := 2) C fl_X5_57 rfl dX5_takeClaim_24 hR g4 ?_
  refine x_iload_n C dX5_takeClaim_27 hL 0 rfl ?_
  refine x_aload_n C dX5_takeClaim_28 hL 2 rfl ?_
  obtain ⟨g6, hd⟩ := gd_ex hd
  refine r_geti (ci := 0) (k := 5) C fl_X5_246 rfl dX5_takeClaim_29 hR g6 ?_
  obtain ⟨g7, hd⟩ := gd_ex hd
  obtain ⟨G9, h8, hd⟩ := bo_ex hd
  refine r_callV (a := (hr G3 (hr G3 x0 3) x2.toNatClampNeg)) (ci := 3) (As := [.int (hi G3 x0 2), .int (hi G x1 4), .int (hi G3 x1 5)]) C (ct_X3_takeClaim h8) mf_X3_takeClaim ml_X5_268 mv_X3_takeClaim rfl ⟨Nat.le_of_ble_eq_true rfl, Nat.le_of_ble_eq_true rfl⟩ dX5_takeClaim_32 (lx_size hL) rfl hR hS g7 ⟨Nat.le_refl _, Nat.le_refl _⟩ (cat_le [] (Nat.le_of_ble_eq_true rfl)) (fun H locs hR hS => ?_)
  refine W_st (st2 := []) rfl ?_
  refine x_aload_n C dX5_takeClaim_35 hL 1 rfl ?_
  refine x_iload_n C dX5_takeClaim_36 hL 0 rfl ?_
  obtain ⟨g10, hd⟩ := gd_ex hd
  obtain ⟨G12, h11, hd⟩ := bo_ex hd
  refine r_callV (a := x0) (ci := 5) (As := [.int (hi G x1 4)]) C (ct_X5_look h11) mf_X5_look ml_X5_129 mv_X5_look rfl ⟨Nat.le_of_ble_eq_true rfl, Nat.le_of_ble_eq_true rfl⟩ dX5_takeClaim_37 (lx_size hL) rfl hR hS g10 ⟨Nat.le_refl _, Nat.le_refl _⟩ (cat_le [] (Nat.le_of_ble_eq_true rfl)) (fun H locs hR hS => ?_)
  refine W_st (st2 := []) rfl ?_
  refine x_aload_n C dX5_takeClaim_40 hL 1 rfl ?_
  refine x_iload_n C dX5_takeClaim_41 hL 0 rfl ?_
  refine x_iload_n C dX5_takeClaim_42 hL 3 rfl ?_
  obtain ⟨g13, hd⟩ := gd_ex hd
  obtain ⟨v15, h14, hd⟩ := bo_ex hd
  refine r_callV (a := x0) (ci := 5) (As := [.int (hi G x1 4), .int x2]) C (ct_X5_isBranch h14) mf_X5_isBranch ml_X5_262 mv_X5_isBranch rfl ⟨Nat.le_of_ble_eq_true rfl, Nat.le_of_ble_eq_true rfl⟩ dX5_takeClaim_43 (lx_size hL) rfl hR hS g13 ⟨Nat.le_refl _, Nat.le_refl _⟩ (cat_le [] (Nat.le_of_ble_eq_true rfl)) (fun H locs hR hS => ?_)
  refine W_st (st2 := [.int v15]) rfl ?_
  refine lv_if_eq (tgt := 69) hx hb dX5_takeClaim_46 (by decide) (fun c16 => ?_) (fun c16 => ?_)
  · rw [if_pos c16] at hd
    cases hd
    exact r_vret C dX5_takeClaim_69 hR hS
  · rw [if_neg c16] at hd
    refine x_aload_n C dX5_takeClaim_49 hL 1 rfl ?_
    refine r_geti (ci := 5) (k := 11) C fl_X5_34 rfl dX5_takeClaim_50 hR g13 ?_
    refine x_aload_n C dX5_takeClaim_53 hL 2 rfl ?_
    obtain ⟨g17, hd⟩ := gd_ex hd
    refine r_geti (ci := 0) (k := 5) C fl_X5_246 rfl dX5_takeClaim_54 hR g17 ?_
    obtain ⟨v19, h18, hd⟩ := bo_ex hd
    refine r_callSN (As := [.int (hi G12 x0 11), .int (hi G12 x1 5)]) C (ct_X8_isBetter h18) mf_X8_isBetter (by decide +kernel) ms_X8_isBetter rfl ⟨Nat.le_of_ble_eq_true rfl, Nat.le_of_ble_eq_true rfl⟩ dX5_takeClaim_57 (lx_size hL) rfl hR hS ⟨Nat.le_refl _, Nat.le_refl _⟩ (cat_le [] (Nat.le_of_ble_eq_true rfl)) (fun H locs hR hS => ?_)
    refine W_st (st2 := [.int v19]) rfl ?_
    refine lv_if_eq (tgt := 69) hx hb dX5_takeClaim_60 (by decide) (fun c20 => ?_) (fun c20 => ?_)
    · rw [if_pos c20] at hd
      cases hd
      exact r_vret C dX5_takeClaim_69 hR hS
    · rw [if_neg c20] at hd
      refine x_aload_n C dX5_takeClaim_63 hL 1 rfl ?_
      refine x_iload_n C dX5_takeClaim_64 hL 0 rfl ?_
      refine x_iload_n C dX5_takeClaim_65 hL 3 rfl ?_
      obtain ⟨G22, h21, hd⟩ := bo_ex hd
      refine r_callV (a := x0) (ci := 5) (As := [.int (hi G x1 4), .int x2]) C (ct_X5_sendClaim h21) mf_X5_sendClaim ml_X5_265 mv_X5_sendClaim rfl ⟨Nat.le_of_ble_eq_true rfl, Nat.le_of_ble_eq_true rfl⟩ dX5_takeClaim_66 (lx_size hL) rfl hR hS g13 ⟨Nat.le_refl _, Nat.le_refl _⟩ (cat_le [] (Nat.le_of_ble_eq_true rfl)) (fun H locs hR hS => ?_)
      refine W_st (st2 := []) rfl ?_
      cases hd
      exact r_vret C dX5_takeClaim_69 hR hS
end
set_option maxHeartbeats 4000000 in
set_option maxRecDepth 100000 in
theorem ct_X5_takeClaim {l : Launch} {b0 : Nat} {D : va_G} {E : Nat → ClassId} {G : Hp} {a0 : Nat} {a1 : Nat} {a2 : Int32} {GG : Hp} (hd : d_X5_takeClaim a0 a1 a2 G = some GG) : CT l yX5_takeClaim cX5_takeClaim 4 none 4 0 0 b0 D E [rv a0, rv a1, .int a2] G none GG := by
  refine CT_of (by decide +kernel) ?_
  intro p e s m below meth c C hnm hR
  refine r_entry [.inr a0, .inr a1, .inl a2] (n := 4) (Nat.le_of_ble_eq_true rfl) (lv := [(0, .inr a0), (1, .inr a1), (2, .inl a2)]) rfl (fun ls hL => ?_)
  exact k_X5_takeClaim C (lx_sub hL [0, 1, 2] rfl) hR ⟨fun _ _ => rfl, fun _ h => by cases h⟩ hd

/-! GroveWorks$Tree.passOn(LGroveWorks$Frame;I)V -/
theorem dX5_passOn_0 : decode cX5_passOn 0 = .ok (.aload_n 1, 1) := by decide +kernel
theorem dX5_passOn_1 : decode cX5_passOn 1 = .ok (.getfield 249, 3) := by decide +kernel
theorem dX5_passOn_4 : decode cX5_passOn 4 = .ok (.iconst 1, 1) := by decide +kernel
theorem dX5_passOn_5 : decode cX5_passOn 5 = .ok (.if_icmp .gt 4, 3) := by decide +kernel
theorem dX5_passOn_8 : decode cX5_passOn 8 = .ok (.return_, 1) := by decide +kernel
theorem dX5_passOn_9 : decode cX5_passOn 9 = .ok (.aload_n 0, 1) := by decide +kernel
theorem dX5_passOn_10 : decode cX5_passOn 10 = .ok (.iload_n 2, 1) := by decide +kernel
theorem dX5_passOn_11 : decode cX5_passOn 11 = .ok (.aload_n 1, 1) := by decide +kernel
theorem dX5_passOn_12 : decode cX5_passOn 12 = .ok (.getfield 224, 3) := by decide +kernel
theorem dX5_passOn_15 : decode cX5_passOn 15 = .ok (.aload_n 1, 1) := by decide +kernel
theorem dX5_passOn_16 : decode cX5_passOn 16 = .ok (.getfield 221, 3) := by decide +kernel
theorem dX5_passOn_19 : decode cX5_passOn 19 = .ok (.invokevirtual 274, 3) := by decide +kernel
theorem dX5_passOn_22 : decode cX5_passOn 22 = .ok (.astore_n 3, 1) := by decide +kernel
theorem dX5_passOn_23 : decode cX5_passOn 23 = .ok (.aload_n 3, 1) := by decide +kernel
theorem dX5_passOn_24 : decode cX5_passOn 24 = .ok (.ifnull 29, 3) := by decide +kernel
theorem dX5_passOn_27 : decode cX5_passOn 27 = .ok (.aload_n 3, 1) := by decide +kernel
theorem dX5_passOn_28 : decode cX5_passOn 28 = .ok (.aload_n 1, 1) := by decide +kernel
theorem dX5_passOn_29 : decode cX5_passOn 29 = .ok (.getfield 246, 3) := by decide +kernel
theorem dX5_passOn_32 : decode cX5_passOn 32 = .ok (.putfield 246, 3) := by decide +kernel
theorem dX5_passOn_35 : decode cX5_passOn 35 = .ok (.aload_n 3, 1) := by decide +kernel
theorem dX5_passOn_36 : decode cX5_passOn 36 = .ok (.aload_n 1, 1) := by decide +kernel
theorem dX5_passOn_37 : decode cX5_passOn 37 = .ok (.getfield 176, 3) := by decide +kernel
theorem dX5_passOn_40 : decode cX5_passOn 40 = .ok (.putfield 176, 3) := by decide +kernel
theorem dX5_passOn_43 : decode cX5_passOn 43 = .ok (.aload_n 3, 1) := by decide +kernel
theorem dX5_passOn_44 : decode cX5_passOn 44 = .ok (.aload_n 1, 1) := by decide +kernel
theorem dX5_passOn_45 : decode cX5_passOn 45 = .ok (.getfield 249, 3) := by decide +kernel
theorem dX5_passOn_48 : decode cX5_passOn 48 = .ok (.iconst 1, 1) := by decide +kernel
theorem dX5_passOn_49 : decode cX5_passOn 49 = .ok (.isub, 1) := by decide +kernel
theorem dX5_passOn_50 : decode cX5_passOn 50 = .ok (.putfield 249, 3) := by decide +kernel
theorem dX5_passOn_53 : decode cX5_passOn 53 = .ok (.return_, 1) := by decide +kernel
def d_X5_passOn (x0 : Nat) (x1 : Nat) (x2 : Int32) (G : Hp) : Option (Hp) :=
  gd (hc G x1 = 1) <|
  if 1 < (hi G x1 7) then
    gd (hc G x0 = 6) <|
    b2 (d_X5_openTo x0 x2 (hi G x1 0) (hi G x1 4) G) fun v5 G6 =>
    if v5 = 0 then
      some G6
    else
      gd (hc G6 x1 = 1) <|
      gd (hc G6 v5 = 1) <|
      bd (sI G6 v5 5 (hi G6 x1 5)) fun G10 =>
      gd (hc G10 x1 = 1) <|
      gd (hc G10 v5 = 1) <|
      bd (sI G10 v5 6 (hi G10 x1 6)) fun G13 =>
      gd (hc G13 x1 = 1) <|
      gd (hc G13 v5 = 1) <|
      bd (sI G13 v5 7 ((hi G13 x1 7) - 1)) fun G16 =>
      some G16
  else
    some G
section
variable {p : Program} {l : Launch} {e : Env} {s : State} {m : MethodId} {args : Array Value} {below : List Frame} {meth : Method} {c : Code} {b0 : Nat} {D : va_G} {E : Nat → ClassId}
set_option maxHeartbeats 4000000 in
set_option maxRecDepth 100000 in
theorem k_X5_passOn (C : Cx p s m args meth c RX5 cX5_passOn 4 none b0 D E) {GG : Hp} {x0 : Nat} {x1 : Nat} {x2 : Int32} {G : Hp} {ls : Array Slot} {H : Heap} {locs : List Loc} : lx ls 4 [(0, .inr x0), (1, .inr x1), (2, .inl x2)] → Rp b0 D E G H → SS b0 s H locs → d_X5_passOn x0 x1 x2 G = some GG → W p l e (rmd 3 (0) (0)) s m args below meth c H locs (0) (0) (MQ below (CQ b0 D E none GG) args s (0) (0) (fun q => b0 ≤ q)) (F0 m 0 ls []) := by
  intro hL hR hS hd
  unfold d_X5_passOn at hd
  have hx := C.1
  have hb := C.2.1
  refine x_aload_n C dX5_passOn_0 hL 1 rfl ?_
  obtain ⟨g1, hd⟩ := gd_ex hd
  refine r_geti (ci := 0) (k := 7) C fl_X5_249 rfl dX5_passOn_1 hR g1 ?_
  refine lv_iconst (v := 1) hx hb dX5_passOn_4 (by decide) ?_
  refine lv_icmp_gt (tgt := 9) hx hb dX5_passOn_5 (by decide) (fun c2 => ?_) (fun c2 => ?_)
  · rw [if_pos c2] at hd
    refine x_aload_n C dX5_passOn_9 hL 0 rfl ?_
    refine x_iload_n C dX5_passOn_10 hL 2 rfl ?_
    refine x_aload_n C dX5_passOn_11 hL 1 rfl ?_
    refine r_geti (ci := 0) (k := 0) C fl_X5_224 rfl dX5_passOn_12 hR g1 ?_
    refine x_aload_n C dX5_passOn_15 hL 1 rfl ?_
    refine r_geti (ci := 0) (k := 4) C fl_X5_221 rfl dX5_passOn_16 hR g1 ?_
    obtain ⟨g3, hd⟩ := gd_ex hd
    obtain ⟨v5, G6, h4, hd⟩ := b2_ex hd
    refine r_callV (a := x0) (ci := 5) (As := [.int x2, .int (hi G x1 0), .int (hi G x1 4)]) C (ct_X5_openTo h4) mf_X5_openTo ml_X5_274 mv_X5_openTo rfl ⟨Nat.le_of_ble_eq_true rfl, Nat.le_of_ble_eq_true rfl⟩ dX5_passOn_19 (lx_size hL) rfl hR hS g3 ⟨Nat.le_refl _, Nat.le_refl _⟩ (cat_le [] (Nat.le_of_ble_eq_true rfl)) (fun H locs hR hS => ?_)
    refine W_st (st2 := [rv v5]) rfl ?_
    refine x_astore_n (lv' := [(3, .inr v5), (0, .inr x0), (1, .inr x1), (2, .inl x2)]) C dX5_passOn_22 hL (by decide) rfl (fun ls hL => ?_)
    refine x_aload_n C dX5_passOn_23 hL 0 rfl ?_
    refine r_ifnull (tgt := 53) C dX5_passOn_24 (by decide) (fun c7 => ?_) (fun c7 => ?_)
    · rw [if_pos c7] at hd
      cases hd
      exact r_vret C dX5_passOn_53 hR hS
    · rw [if_neg c7] at hd
      refine x_aload_n C dX5_passOn_27 hL 0 rfl ?_
      refine x_aload_n C dX5_passOn_28 hL 2 rfl ?_
      obtain ⟨g8, hd⟩ := gd_ex hd
      refine r_geti (ci := 0) (k := 5) C fl_X5_246 rfl dX5_passOn_29 hR g8 ?_
      obtain ⟨g9, hd⟩ := gd_ex hd
      obtain ⟨G10, eG10, hd⟩ := bd_ex hd
      refine r_puti (ci := 0) (k := 5) C fl_X5_246 rfl (Or.inl rfl) dX5_passOn_32 hR hS g9 (fun H locs hR hS => ?_)
      replace hR : Rp b0 D E G10 H := by rw [eG10]; exact hR
      refine x_aload_n C dX5_passOn_35 hL 0 rfl ?_
      refine x_aload_n C dX5_passOn_36 hL 2 rfl ?_
      obtain ⟨g11, hd⟩ := gd_ex hd
      refine r_geti (ci := 0) (k := 6) C fl_X5_176 rfl dX5_passOn_37 hR g11 ?_
      obtain ⟨g12, hd⟩ := gd_ex hd
      obtain ⟨G13, eG13, hd⟩ := bd_ex hd
      refine r_puti (ci := 0) (k := 6) C fl_X5_176 rfl (Or.inl rfl) dX5_passOn_40 hR hS g12 (fun H locs hR hS => ?_)
      replace hR : Rp b0 D E G13 H := by rw [eG13]; exact hR
      refine x_aload_n C dX5_passOn_43 hL 0 rfl ?_
      refine x_aload_n C dX5_passOn_44 hL 2 rfl ?_
      obtain ⟨g14, hd⟩ := gd_ex hd
      refine r_geti (ci := 0) (k := 7) C fl_X5_249 rfl dX5_passOn_45 hR g14 ?_
      refine lv_iconst (v := 1) hx hb dX5_passOn_48 (by decide) ?_
      refine lv_isub hx hb dX5_passOn_49 ?_
      obtain ⟨g15, hd⟩ := gd_ex hd
      obtain ⟨G16, eG16, hd⟩ := bd_ex hd
      refine r_puti (ci := 0) (k := 7) C fl_X5_249 rfl (Or.inl rfl) dX5_passOn_50 hR hS g15 (fun H locs hR hS => ?_)
      replace hR : Rp b0 D E G16 H := by rw [eG16]; exact hR
      cases hd
      exact r_vret C dX5_passOn_53 hR hS
  · rw [if_neg c2] at hd
    cases hd
    exact r_vret C dX5_passOn_8 hR hS
end
set_option maxHeartbeats 4000000 in
set_option maxRecDepth 100000 in
theorem ct_X5_passOn {l : Launch} {b0 : Nat} {D : va_G} {E : Nat → ClassId} {G : Hp} {a0 : Nat} {a1 : Nat} {a2 : Int32} {GG : Hp} (hd : d_X5_passOn a0 a1 a2 G = some GG) : CT l yX5_passOn cX5_passOn 4 none 3 0 0 b0 D E [rv a0, rv a1, .int a2] G none GG := by
  refine CT_of (by decide +kernel) ?_
  intro p e s m below meth c C hnm hR
  refine r_entry [.inr a0, .inr a1, .inl a2] (n := 4) (Nat.le_of_ble_eq_true rfl) (lv := [(0, .inr a0), (1, .inr a1), (2, .inl a2)]) rfl (fun ls hL => ?_)
  exact k_X5_passOn C (lx_sub hL [0, 1, 2] rfl) hR ⟨fun _ _ => rfl, fun _ h => by cases h⟩ hd

/-! GroveWorks$Tree.sendStop(II)V -/
theorem dX5_sendStop_0 : decode cX5_sendStop 0 = .ok (.aload_n 0, 1) := by decide +kernel
theorem dX5_sendStop_1 : decode cX5_sendStop 1 = .ok (.iload_n 2, 1) := by decide +kernel
theorem dX5_sendStop_2 : decode cX5_sendStop 2 = .ok (.bipush 10, 2) := by decide +kernel
theorem dX5_sendStop_4 : decode cX5_sendStop 4 = .ok (.iload_n 1, 1) := by decide +kernel
theorem dX5_sendStop_5 : decode cX5_sendStop 5 = .ok (.invokevirtual 274, 3) := by decide +kernel
theorem dX5_sendStop_8 : decode cX5_sendStop 8 = .ok (.astore_n 3, 1) := by decide +kernel
theorem dX5_sendStop_9 : decode cX5_sendStop 9 = .ok (.aload_n 3, 1) := by decide +kernel
theorem dX5_sendStop_10 : decode cX5_sendStop 10 = .ok (.ifnull 14, 3) := by decide +kernel
theorem dX5_sendStop_13 : decode cX5_sendStop 13 = .ok (.aload_n 3, 1) := by decide +kernel
theorem dX5_sendStop_14 : decode cX5_sendStop 14 = .ok (.iload_n 2, 1) := by decide +kernel
theorem dX5_sendStop_15 : decode cX5_sendStop 15 = .ok (.putfield 176, 3) := by decide +kernel
theorem dX5_sendStop_18 : decode cX5_sendStop 18 = .ok (.aload_n 3, 1) := by decide +kernel
theorem dX5_sendStop_19 : decode cX5_sendStop 19 = .ok (.bipush 16, 2) := by decide +kernel
theorem dX5_sendStop_21 : decode cX5_sendStop 21 = .ok (.putfield 249, 3) := by decide +kernel
theorem dX5_sendStop_24 : decode cX5_sendStop 24 = .ok (.return_, 1) := by decide +kernel
def d_X5_sendStop (x0 : Nat) (x1 : Int32) (x2 : Int32) (G : Hp) : Option (Hp) :=
  gd (hc G x0 = 6) <|
  b2 (d_X5_openTo x0 x2 10 x1 G) fun v3 G4 =>
  if v3 = 0 then
    some G4
  else
    gd (hc G4 v3 = 1) <|
    bd (sI G4 v3 6 x2) fun G7 =>
    gd (hc G7 v3 = 1) <|
    bd (sI G7 v3 7 16) fun G9 =>
    some G9
section
variable {p : Program} {l : Launch} {e : Env} {s : State} {m : MethodId} {args : Array Value} {below : List Frame} {meth : Method} {c : Code} {b0 : Nat} {D : va_G} {E : Nat → ClassId}
set_option maxHeartbeats 4000000 in
set_option maxRecDepth 100000 in
theorem k_X5_sendStop (C : Cx p s m args meth c RX5 cX5_sendStop 4 none b0 D E) {GG : Hp} {x0 : Nat} {x1 : Int32} {x2 : Int32} {G : Hp} {ls : Array Slot} {H : Heap} {locs : List Loc} : lx ls 4 [(0, .inr x0), (1, .inl x1), (2, .inl x2)] → Rp b0 D E G H → SS b0 s H locs → d_X5_sendStop x0 x1 x2 G = some GG → W p l e (rmd 3 (0) (0)) s m args below meth c H locs (0) (0) (MQ below (CQ b0 D E none GG) args s (0) (0) (fun q => b0 ≤ q)) (F0 m 0 ls []) := by
  intro hL hR hS hd
  unfold d_X5_sendStop at hd
  have hx := C.1
  have hb := C.2.1
  refine x_aload_n C dX5_sendStop_0 hL 0 rfl ?_
  refine x_iload_n C dX5_sendStop_1 hL 2 rfl ?_
  refine lv_bipush (v := 10) hx hb dX5_sendStop_2 (by decide) ?_
  refine x_iload_n C dX5_sendStop_4 hL 1 rfl ?_
  obtain ⟨g1, hd⟩ := gd_ex hd
  obtain ⟨v3, G4, h2, hd⟩ := b2_ex hd
  refine r_callV (a := x0) (ci := 5) (As := [.int x2, .int 10, .int x1]) C (ct_X5_openTo h2) mf_X5_openTo ml_X5_274 mv_X5_openTo rfl ⟨Nat.le_of_ble_eq_true rfl, Nat.le_of_ble_eq_true rfl⟩ dX5_sendStop_5 (lx_size hL) rfl hR hS g1 ⟨Nat.le_refl _, Nat.le_refl _⟩ (cat_le [] (Nat.le_of_ble_eq_true rfl)) (fun H locs hR hS => ?_)
  refine W_st (st2 := [rv v3]) rfl ?_
  refine x_astore_n (lv' := [(3, .inr v3), (0, .inr x0), (1, .inl x1), (2, .inl x2)]) C dX5_sendStop_8 hL (by decide) rfl (fun ls hL => ?_)
  refine x_aload_n C dX5_sendStop_9 hL 0 rfl ?_
  refine r_ifnull (tgt := 24) C dX5_sendStop_10 (by decide) (fun c5 => ?_) (fun c5 => ?_)
  · rw [if_pos c5] at hd
    cases hd
    exact r_vret C dX5_sendStop_24 hR hS
  · rw [if_neg c5] at hd
    refine x_aload_n C dX5_sendStop_13 hL 0 rfl ?_
    refine x_iload_n C dX5_sendStop_14 hL 3 rfl ?_
    obtain ⟨g6, hd⟩ := gd_ex hd
    obtain ⟨G7, eG7, hd⟩ := bd_ex hd
    refine r_puti (ci := 0) (k := 6) C fl_X5_176 rfl (Or.inl rfl) dX5_sendStop_15 hR hS g6 (fun H locs hR hS => ?_)
    replace hR : Rp b0 D E G7 H := by rw [eG7]; exact hR
    refine x_aload_n C dX5_sendStop_18 hL 0 rfl ?_
    refine lv_bipush (v := 16) hx hb dX5_sendStop_19 (by decide) ?_
    obtain ⟨g8, hd⟩ := gd_ex hd
    obtain ⟨G9, eG9, hd⟩ := bd_ex hd
    refine r_puti (ci := 0) (k := 7) C fl_X5_249 rfl (Or.inl rfl) dX5_sendStop_21 hR hS g8 (fun H locs hR hS => ?_)
    replace hR : Rp b0 D E G9 H := by rw [eG9]; exact hR
    cases hd
    exact r_vret C dX5_sendStop_24 hR hS
end
set_option maxHeartbeats 4000000 in
set_option maxRecDepth 100000 in
theorem ct_X5_sendStop {l : Launch} {b0 : Nat} {D : va_G} {E : Nat → ClassId} {G : Hp} {a0 : Nat} {a1 : Int32} {a2 : Int32} {GG : Hp} (hd : d_X5_sendStop a0 a1 a2 G = some GG) : CT l yX5_sendStop cX5_sendStop 4 none 3 0 0 b0 D E [rv a0, .int a1, .int a2] G none GG := by
  refine CT_of (by decide +kernel) ?_
  intro p e s m below meth c C hnm hR
  refine r_entry [.inr a0, .inl a1, .inl a2] (n := 4) (Nat.le_of_ble_eq_true rfl) (lv := [(0, .inr a0), (1, .inl a1), (2, .inl a2)]) rfl (fun ls hL => ?_)
  exact k_X5_sendStop C (lx_sub hL [0, 1, 2] rfl) hR ⟨fun _ _ => rfl, fun _ h => by cases h⟩ hd

/-! GroveWorks$Tree.takeTunnel(LGroveWorks$Frame;)V -/
theorem dX5_takeTunnel_0 : decode cX5_takeTunnel 0 = .ok (.aload_n 0, 1) := by decide +kernel
theorem dX5_takeTunnel_1 : decode cX5_takeTunnel 1 = .ok (.invokevirtual 121, 3) := by decide +kernel
theorem dX5_takeTunnel_4 : decode cX5_takeTunnel 4 = .ok (.ifCond .ne 21, 3) := by decide +kernel
theorem dX5_takeTunnel_7 : decode cX5_takeTunnel 7 = .ok (.aload_n 0, 1) := by decide +kernel
theorem dX5_takeTunnel_8 : decode cX5_takeTunnel 8 = .ok (.aload_n 1, 1) := by decide +kernel
theorem dX5_takeTunnel_9 : decode cX5_takeTunnel 9 = .ok (.aload_n 0, 1) := by decide +kernel
theorem dX5_takeTunnel_10 : decode cX5_takeTunnel 10 = .ok (.getfield 50, 3) := by decide +kernel
theorem dX5_takeTunnel_13 : decode cX5_takeTunnel 13 = .ok (.getfield 70, 3) := by decide +kernel
theorem dX5_takeTunnel_16 : decode cX5_takeTunnel 16 = .ok (.aload_n 0, 1) := by decide +kernel
theorem dX5_takeTunnel_17 : decode cX5_takeTunnel 17 = .ok (.getfield 57, 3) := by decide +kernel
theorem dX5_takeTunnel_20 : decode cX5_takeTunnel 20 = .ok (.iaload, 1) := by decide +kernel
theorem dX5_takeTunnel_21 : decode cX5_takeTunnel 21 = .ok (.invokevirtual 281, 3) := by decide +kernel
theorem dX5_takeTunnel_24 : decode cX5_takeTunnel 24 = .ok (.return_, 1) := by decide +kernel
theorem dX5_takeTunnel_25 : decode cX5_takeTunnel 25 = .ok (.aload_n 1, 1) := by decide +kernel
theorem dX5_takeTunnel_26 : decode cX5_takeTunnel 26 = .ok (.getfield 221, 3) := by decide +kernel
theorem dX5_takeTunnel_29 : decode cX5_takeTunnel 29 = .ok (.istore_n 2, 1) := by decide +kernel
theorem dX5_takeTunnel_30 : decode cX5_takeTunnel 30 = .ok (.aload_n 0, 1) := by decide +kernel
theorem dX5_takeTunnel_31 : decode cX5_takeTunnel 31 = .ok (.dup, 1) := by decide +kernel
theorem dX5_takeTunnel_32 : decode cX5_takeTunnel 32 = .ok (.getfield 9, 3) := by decide +kernel
theorem dX5_takeTunnel_35 : decode cX5_takeTunnel 35 = .ok (.iconst 1, 1) := by decide +kernel
theorem dX5_takeTunnel_36 : decode cX5_takeTunnel 36 = .ok (.iload_n 2, 1) := by decide +kernel
theorem dX5_takeTunnel_37 : decode cX5_takeTunnel 37 = .ok (.ishl, 1) := by decide +kernel
theorem dX5_takeTunnel_38 : decode cX5_takeTunnel 38 = .ok (.ior, 1) := by decide +kernel
theorem dX5_takeTunnel_39 : decode cX5_takeTunnel 39 = .ok (.putfield 9, 3) := by decide +kernel
theorem dX5_takeTunnel_42 : decode cX5_takeTunnel 42 = .ok (.aload_n 0, 1) := by decide +kernel
theorem dX5_takeTunnel_43 : decode cX5_takeTunnel 43 = .ok (.iload_n 2, 1) := by decide +kernel
theorem dX5_takeTunnel_44 : decode cX5_takeTunnel 44 = .ok (.invokevirtual 129, 3) := by decide +kernel
theorem dX5_takeTunnel_47 : decode cX5_takeTunnel 47 = .ok (.aload_n 0, 1) := by decide +kernel
theorem dX5_takeTunnel_48 : decode cX5_takeTunnel 48 = .ok (.iload_n 2, 1) := by decide +kernel
theorem dX5_takeTunnel_49 : decode cX5_takeTunnel 49 = .ok (.invokevirtual 102, 3) := by decide +kernel
theorem dX5_takeTunnel_52 : decode cX5_takeTunnel 52 = .ok (.ifCond .ne 10, 3) := by decide +kernel
theorem dX5_takeTunnel_55 : decode cX5_takeTunnel 55 = .ok (.aload_n 0, 1) := by decide +kernel
theorem dX5_takeTunnel_56 : decode cX5_takeTunnel 56 = .ok (.getfield 43, 3) := by decide +kernel
theorem dX5_takeTunnel_59 : decode cX5_takeTunnel 59 = .ok (.ifCond .ne 15, 3) := by decide +kernel
theorem dX5_takeTunnel_62 : decode cX5_takeTunnel 62 = .ok (.aload_n 0, 1) := by decide +kernel
theorem dX5_takeTunnel_63 : decode cX5_takeTunnel 63 = .ok (.iload_n 2, 1) := by decide +kernel
theorem dX5_takeTunnel_64 : decode cX5_takeTunnel 64 = .ok (.aload_n 1, 1) := by decide +kernel
theorem dX5_takeTunnel_65 : decode cX5_takeTunnel 65 = .ok (.getfield 176, 3) := by decide +kernel
theorem dX5_takeTunnel_68 : decode cX5_takeTunnel 68 = .ok (.bipush 16, 2) := by decide +kernel
theorem dX5_takeTunnel_70 : decode cX5_takeTunnel 70 = .ok (.irem, 1) := by decide +kernel
theorem dX5_takeTunnel_71 : decode cX5_takeTunnel 71 = .ok (.invokevirtual 285, 3) := by decide +kernel
theorem dX5_takeTunnel_74 : decode cX5_takeTunnel 74 = .ok (.aload_n 0, 1) := by decide +kernel
theorem dX5_takeTunnel_75 : decode cX5_takeTunnel 75 = .ok (.getfield 25, 3) := by decide +kernel
theorem dX5_takeTunnel_78 : decode cX5_takeTunnel 78 = .ok (.iload_n 2, 1) := by decide +kernel
theorem dX5_takeTunnel_79 : decode cX5_takeTunnel 79 = .ok (.aload_n 0, 1) := by decide +kernel
theorem dX5_takeTunnel_80 : decode cX5_takeTunnel 80 = .ok (.getfield 50, 3) := by decide +kernel
theorem dX5_takeTunnel_83 : decode cX5_takeTunnel 83 = .ok (.getfield 118, 3) := by decide +kernel
theorem dX5_takeTunnel_86 : decode cX5_takeTunnel 86 = .ok (.bipush 70, 2) := by decide +kernel
theorem dX5_takeTunnel_88 : decode cX5_takeTunnel 88 = .ok (.iadd, 1) := by decide +kernel
theorem dX5_takeTunnel_89 : decode cX5_takeTunnel 89 = .ok (.iastore, 1) := by decide +kernel
theorem dX5_takeTunnel_90 : decode cX5_takeTunnel 90 = .ok (.aload_n 0, 1) := by decide +kernel
theorem dX5_takeTunnel_91 : decode cX5_takeTunnel 91 = .ok (.iload_n 2, 1) := by decide +kernel
theorem dX5_takeTunnel_92 : decode cX5_takeTunnel 92 = .ok (.invokevirtual 102, 3) := by decide +kernel
theorem dX5_takeTunnel_95 : decode cX5_takeTunnel 95 = .ok (.ifCond .ne 25, 3) := by decide +kernel
theorem dX5_takeTunnel_98 : decode cX5_takeTunnel 98 = .ok (.aload_n 0, 1) := by decide +kernel
theorem dX5_takeTunnel_99 : decode cX5_takeTunnel 99 = .ok (.aload_n 0, 1) := by decide +kernel
theorem dX5_takeTunnel_100 : decode cX5_takeTunnel 100 = .ok (.getfield 40, 3) := by decide +kernel
theorem dX5_takeTunnel_103 : decode cX5_takeTunnel 103 = .ok (.iload_n 2, 1) := by decide +kernel
theorem dX5_takeTunnel_104 : decode cX5_takeTunnel 104 = .ok (.aload_n 1, 1) := by decide +kernel
theorem dX5_takeTunnel_105 : decode cX5_takeTunnel 105 = .ok (.getfield 246, 3) := by decide +kernel
theorem dX5_takeTunnel_108 : decode cX5_takeTunnel 108 = .ok (.aload_n 1, 1) := by decide +kernel
theorem dX5_takeTunnel_109 : decode cX5_takeTunnel 109 = .ok (.getfield 176, 3) := by decide +kernel
theorem dX5_takeTunnel_112 : decode cX5_takeTunnel 112 = .ok (.bipush 16, 2) := by decide +kernel
theorem dX5_takeTunnel_114 : decode cX5_takeTunnel 114 = .ok (.idiv, 1) := by decide +kernel
theorem dX5_takeTunnel_115 : decode cX5_takeTunnel 115 = .ok (.iconst 1, 1) := by decide +kernel
theorem dX5_takeTunnel_116 : decode cX5_takeTunnel 116 = .ok (.isub, 1) := by decide +kernel
theorem dX5_takeTunnel_117 : decode cX5_takeTunnel 117 = .ok (.invokevirtual 252, 3) := by decide +kernel
theorem dX5_takeTunnel_120 : decode cX5_takeTunnel 120 = .ok (.return_, 1) := by decide +kernel
def d_X5_takeTunnel_74 (x0 : Nat) (x1 : Nat) (x2 : Int32) (G : Hp) : Option (Hp) :=
  gd (hc G x0 = 6) <|
  gd (hc G (hr G x0 0) = 3) <|
  gd (hc G (hr G x0 8) = 11 ∧ ix x2 (hl G (hr G x0 8))) <|
  bd (sI G (hr G x0 8) x2.toNatClampNeg ((hi G (hr G x0 0) 4) + 70)) fun G4 =>
  gd (hc G4 x0 = 6) <|
  bo (d_X5_isStraight x0 x2 G4) fun v7 =>
  if v7 = 0 then
    gd (hc G4 x1 = 1) <|
    bo (d_X5_sendData x0 (hi G4 x0 13) x2 (hi G4 x1 5) (((hi G4 x1 6) / 16) - 1) G4) fun G11 =>
    some G11
  else
    some G4
def d_X5_takeTunnel_62 (x0 : Nat) (x1 : Nat) (x2 : Int32) (G : Hp) : Option (Hp) :=
  gd (hc G x1 = 1) <|
  gd (hc G x0 = 6) <|
  bo (d_X5_sendStop x0 x2 ((hi G x1 6) - (hi G x1 6) / 16 * 16) G) fun G4 =>
  d_X5_takeTunnel_74 x0 x1 x2 G4
def d_X5_takeTunnel (x0 : Nat) (x1 : Nat) (G : Hp) : Option (Hp) :=
  gd (hc G x0 = 6) <|
  bo (d_X5_isMeeting x0 G) fun v3 =>
  if v3 = 0 then
    gd (hc G (hr G x0 0) = 3) <|
    gd (hc G (hr G (hr G x0 0) 2) = 11 ∧ ix (hi G x0 2) (hl G (hr G (hr G x0 0) 2))) <|
    bo (d_X5_passOn x0 x1 (hi G (hr G (hr G x0 0) 2) (hi G x0 2).toNatClampNeg) G) fun G18 =>
    some G18
  else
    gd (hc G x1 = 1) <|
    bd (sI G x0 4 ((hi G x0 4) ||| (1 <<< ((hi G x1 4) &&& 31)))) fun G6 =>
    gd (hc G6 x0 = 6) <|
    bo (d_X5_look x0 (hi G x1 4) G6) fun G9 =>
    gd (hc G9 x0 = 6) <|
    bo (d_X5_isStraight x0 (hi G x1 4) G9) fun v12 =>
    if v12 = 0 then
      if (hi G9 x0 14) = 0 then
        d_X5_takeTunnel_62 x0 x1 (hi G x1 4) G9
      else
        d_X5_takeTunnel_74 x0 x1 (hi G x1 4) G9
    else
      d_X5_takeTunnel_62 x0 x1 (hi G x1 4) G9
section
variable {p : Program} {l : Launch} {e : Env} {s : State} {m : MethodId} {args : Array Value} {below : List Frame} {meth : Method} {c : Code} {b0 : Nat} {D : va_G} {E : Nat → ClassId}
set_option maxHeartbeats 4000000 in
set_option maxRecDepth 100000 in
theorem k_X5_takeTunnel_74 (C : Cx p s m args meth c RX5 cX5_takeTunnel 3 none b0 D E) {GG : Hp} {x0 : Nat} {x1 : Nat} {x2 : Int32} {G : Hp} {ls : Array Slot} {H : Heap} {locs : List Loc} : lx ls 3 [(0, .inr x0), (1, .inr x1), (2, .inl x2)] → Rp b0 D E G H → SS b0 s H locs → d_X5_takeTunnel_74 x0 x1 x2 G = some GG → W p l e (rmd 4 (0) (0)) s m args below meth c H locs (0) (0) (MQ below (CQ b0 D E none GG) args s (0) (0) (fun q => b0 ≤ q)) (F0 m 74 ls []) := by
  intro hL hR hS hd
  unfold d_X5_takeTunnel_74 at hd
  have hx := C.1
  have hb := C.2.1
  refine x_aload_n C dX5_takeTunnel_74 hL 0 rfl ?_
  obtain ⟨g1, hd⟩ := gd_ex hd
  refine r_getr (ci := 5) (k := 8) C fl_X5_25 rfl dX5_takeTunnel_75 hR g1 ?_
  refine x_iload_n C dX5_takeTunnel_78 hL 2 rfl ?_
  refine x_aload_n C dX5_takeTunnel_79 hL 0 rfl ?_
  refine r_getr (ci := 5) (k := 0) C fl_X5_50 rfl dX5_takeTunnel_80 hR g1 ?_
  obtain ⟨g2, hd⟩ := gd_ex hd
  refine r_geti (ci := 2) (k := 4) C fl_X5_118 rfl dX5_takeTunnel_83 hR g2 ?_
  refine lv_bipush (v := 70) hx hb dX5_takeTunnel_86 (by decide) ?_
  refine lv_iadd hx hb dX5_takeTunnel_88 ?_
  obtain ⟨g3, hd⟩ := gd_ex hd
  obtain ⟨G4, eG4, hd⟩ := bd_ex hd
  refine r_iast C dX5_takeTunnel_89 hR hS g3 (fun H locs hR hS => ?_)
  replace hR : Rp b0 D E G4 H := by rw [eG4]; exact hR
  refine x_aload_n C dX5_takeTunnel_90 hL 0 rfl ?_
  refine x_iload_n C dX5_takeTunnel_91 hL 2 rfl ?_
  obtain ⟨g5, hd⟩ := gd_ex hd
  obtain ⟨v7, h6, hd⟩ := bo_ex hd
  refine r_callV (a := x0) (ci := 5) (As := [.int x2]) C (ct_X5_isStraight h6) mf_X5_isStraight ml_X5_102 mv_X5_isStraight rfl ⟨Nat.le_of_ble_eq_true rfl, Nat.le_of_ble_eq_true rfl⟩ dX5_takeTunnel_92 (lx_size hL) rfl hR hS g5 ⟨Nat.le_refl _, Nat.le_refl _⟩ (cat_le [] (Nat.le_of_ble_eq_true rfl)) (fun H locs hR hS => ?_)
  refine W_st (st2 := [.int v7]) rfl ?_
  refine lv_if_ne (tgt := 120) hx hb dX5_takeTunnel_95 (by decide) (fun c8 => ?_) (fun c8 => ?_)
  · rw [if_neg c8] at hd
    cases hd
    exact r_vret C dX5_takeTunnel_120 hR hS
  · rw [if_pos c8] at hd
    refine x_aload_n C dX5_takeTunnel_98 hL 0 rfl ?_
    refine x_aload_n C dX5_takeTunnel_99 hL 0 rfl ?_
    refine r_geti (ci := 5) (k := 13) C fl_X5_40 rfl dX5_takeTunnel_100 hR g5 ?_
    refine x_iload_n C dX5_takeTunnel_103 hL 2 rfl ?_
    refine x_aload_n C dX5_takeTunnel_104 hL 1 rfl ?_
    obtain ⟨g9, hd⟩ := gd_ex hd
    refine r_geti (ci := 0) (k := 5) C fl_X5_246 rfl dX5_takeTunnel_105 hR g9 ?_
    refine x_aload_n C dX5_takeTunnel_108 hL 1 rfl ?_
    refine r_geti (ci := 0) (k := 6) C fl_X5_176 rfl dX5_takeTunnel_109 hR g9 ?_
    refine lv_bipush (v := 16) hx hb dX5_takeTunnel_112 (by decide) ?_
    refine lv_idiv hx hb dX5_takeTunnel_114 (by decide) ?_
    refine lv_iconst (v := 1) hx hb dX5_takeTunnel_115 (by decide) ?_
    refine lv_isub hx hb dX5_takeTunnel_116 ?_
    obtain ⟨G11, h10, hd⟩ := bo_ex hd
    refine r_callV (a := x0) (ci := 5) (As := [.int (hi G4 x0 13), .int x2, .int (hi G4 x1 5), .int (((hi G4 x1 6) / 16) - 1)]) C (ct_X5_sendData h10) mf_X5_sendData ml_X5_252 mv_X5_sendData rfl ⟨Nat.le_of_ble_eq_true rfl, Nat.le_of_ble_eq_true rfl⟩ dX5_takeTunnel_117 (lx_size hL) rfl hR hS g5 ⟨Nat.le_refl _, Nat.le_refl _⟩ (cat_le [] (Nat.le_of_ble_eq_true rfl)) (fun H locs hR hS => ?_)
    refine W_st (st2 := []) rfl ?_
    cases hd
    exact r_vret C dX5_takeTunnel_120 hR hS
set_option maxHeartbeats 4000000 in
set_option maxRecDepth 100000 in
theorem k_X5_takeTunnel_62 (C : Cx p s m args meth c RX5 cX5_takeTunnel 3 none b0 D E) {GG : Hp} {x0 : Nat} {x1 : Nat} {x2 : Int32} {G : Hp} {ls : Array Slot} {H : Heap} {locs : List Loc} : lx ls 3 [(0, .inr x0), (1, .inr x1), (2, .inl x2)] → Rp b0 D E G H → SS b0 s H locs → d_X5_takeTunnel_62 x0 x1 x2 G = some GG → W p l e (rmd 4 (0) (0)) s m args below meth c H locs (0) (0) (MQ below (CQ b0 D E none GG) args s (0) (0) (fun q => b0 ≤ q)) (F0 m 62 ls []) := by
  intro hL hR hS hd
  unfold d_X5_takeTunnel_62 at hd
  have hx := C.1
  have hb := C.2.1
  refine x_aload_n C dX5_takeTunnel_62 hL 0 rfl ?_
  refine x_iload_n C dX5_takeTunnel_63 hL 2 rfl ?_
  refine x_aload_n C dX5_takeTunnel_64 hL 1 rfl ?_
  obtain ⟨g1, hd⟩ := gd_ex hd
  refine r_geti (ci := 0) (k := 6) C fl_X5_176 rfl dX5_takeTunnel_65 hR g1 ?_
  refine lv_bipush (v := 16) hx hb dX5_takeTunnel_68 (by decide) ?_
  refine lv_irem hx hb dX5_takeTunnel_70 (by decide) ?_
  obtain ⟨g2, hd⟩ := gd_ex hd
  obtain ⟨G4, h3, hd⟩ := bo_ex hd
  refine r_callV (a := x0) (ci := 5) (As := [.int x2, .int ((hi G x1 6) - (hi G x1 6) / 16 * 16)]) C (ct_X5_sendStop h3) mf_X5_sendStop ml_X5_285 mv_X5_sendStop rfl ⟨Nat.le_of_ble_eq_true rfl, Nat.le_of_ble_eq_true rfl⟩ dX5_takeTunnel_71 (lx_size hL) rfl hR hS g2 ⟨Nat.le_refl _, Nat.le_refl _⟩ (cat_le [] (Nat.le_of_ble_eq_true rfl)) (fun H locs hR hS => ?_)
  refine W_st (st2 := []) rfl ?_
  exact k_X5_takeTunnel_74 C hL hR hS hd
set_option maxHeartbeats 4000000 in
set_option maxRecDepth 100000 in
theorem k_X5_takeTunnel (C : Cx p s m args meth c RX5 cX5_takeTunnel 3 none b0 D E) {GG : Hp} {x0 : Nat} {x1 : Nat} {G : Hp} {ls : Array Slot} {H : Heap} {locs : List Loc} : lx ls 3 [(0, .inr x0), (1, .inr x1)] → Rp b0 D E G H → SS b0 s H locs → d_X5_takeTunnel x0 x1 G = some GG → W p l e (rmd 4 (0) (0)) s m args below meth c H locs (0) (0) (MQ below (CQ b0 D E none GG) args s (0) (0) (fun q => b0 ≤ q)) (F0 m 0 ls []) := by
  intro hL hR hS hd
  unfold d_X5_takeTunnel at hd
  have hx := C.1
  have hb := C.2.1
  refine x_aload_n C dX5_takeTunnel_0 hL 0 rfl ?_
  obtain ⟨g1, hd⟩ := gd_ex hd
  obtain ⟨v3, h2, hd⟩ := bo_ex hd
  refine r_callV (a := x0) (ci := 5) (As := []) C (ct_X5_isMeeting h2) mf_X5_isMeeting ml_X5_121 mv_X5_isMeeting rfl ⟨Nat.le_of_ble_eq_true rfl, Nat.le_of_ble_eq_true rfl⟩ dX5_takeTunnel_1 (lx_size hL) rfl hR hS g1 ⟨Nat.le_refl _, Nat.le_refl _⟩ (cat_le [] (Nat.le_of_ble_eq_true rfl)) (fun H locs hR hS => ?_)
  refine W_st (st2 := [.int v3]) rfl ?_
  refine lv_if_ne (tgt := 25) hx hb dX5_takeTunnel_4 (by decide) (fun c4 => ?_) (fun c4 => ?_)
  · rw [if_neg c4] at hd
    refine x_aload_n C dX5_takeTunnel_25 hL 1 rfl ?_
    obtain ⟨g5, hd⟩ := gd_ex hd
    refine r_geti (ci := 0) (k := 4) C fl_X5_221 rfl dX5_takeTunnel_26 hR g5 ?_
    refine x_istore_n (lv' := [(2, .inl (hi G x1 4)), (0, .inr x0), (1, .inr x1)]) C dX5_takeTunnel_29 hL (by decide) rfl (fun ls hL => ?_)
    refine x_aload_n C dX5_takeTunnel_30 hL 1 rfl ?_
    refine lv_dup hx hb dX5_takeTunnel_31 (rv_cat _) ?_
    refine r_geti (ci := 5) (k := 4) C fl_X5_9 rfl dX5_takeTunnel_32 hR g1 ?_
    refine lv_iconst (v := 1) hx hb dX5_takeTunnel_35 (by decide) ?_
    refine x_iload_n C dX5_takeTunnel_36 hL 0 rfl ?_
    refine lv_ishl hx hb dX5_takeTunnel_37 ?_
    refine lv_ior hx hb dX5_takeTunnel_38 ?_
    obtain ⟨G6, eG6, hd⟩ := bd_ex hd
    refine r_puti (ci := 5) (k := 4) C fl_X5_9 rfl (Or.inl rfl) dX5_takeTunnel_39 hR hS g1 (fun H locs hR hS => ?_)
    replace hR : Rp b0 D E G6 H := by rw [eG6]; exact hR
    refine x_aload_n C dX5_takeTunnel_42 hL 1 rfl ?_
    refine x_iload_n C dX5_takeTunnel_43 hL 0 rfl ?_
    obtain ⟨g7, hd⟩ := gd_ex hd
    obtain ⟨G9, h8, hd⟩ := bo_ex hd
    refine r_callV (a := x0) (ci := 5) (As := [.int (hi G x1 4)]) C (ct_X5_look h8) mf_X5_look ml_X5_129 mv_X5_look rfl ⟨Nat.le_of_ble_eq_true rfl, Nat.le_of_ble_eq_true rfl⟩ dX5_takeTunnel_44 (lx_size hL) rfl hR hS g7 ⟨Nat.le_refl _, Nat.le_refl _⟩ (cat_le [] (Nat.le_of_ble_eq_true rfl)) (fun H locs hR hS => ?_)
    refine W_st (st2 := []) rfl ?_
    refine x_aload_n C dX5_takeTunnel_47 hL 1 rfl ?_
    refine x_iload_n C dX5_takeTunnel_48 hL 0 rfl ?_
    obtain ⟨g10, hd⟩ := gd_ex hd
    obtain ⟨v12, h11, hd⟩ := bo_ex hd
    refine r_callV (a := x0) (ci := 5) (As := [.int (hi G x1 4)]) C (ct_X5_isStraight h11) mf_X5_isStraight ml_X5_102 mv_X5_isStraight rfl ⟨Nat.le_of_ble_eq_true rfl, Nat.le_of_ble_eq_true rfl⟩ dX5_takeTunnel_49 (lx_size hL) rfl hR hS g10 ⟨Nat.le_refl _, Nat.le_refl _⟩ (cat_le [] (Nat.le_of_ble_eq_true rfl)) (fun H locs hR hS => ?_)
    refine W_st (st2 := [.int v12]) rfl ?_
    refine lv_if_ne (tgt := 62) hx hb dX5_takeTunnel_52 (by decide) (fun c13 => ?_) (fun c13 => ?_)
    · rw [if_neg c13] at hd
      exact k_X5_takeTunnel_62 C (lx_sub hL [1, 2, 0] rfl) hR hS hd
    · rw [if_pos c13] at hd
      refine x_aload_n C dX5_takeTunnel_55 hL 1 rfl ?_
      refine r_geti (ci := 5) (k := 14) C fl_X5_43 rfl dX5_takeTunnel_56 hR g10 ?_
      refine lv_if_ne (tgt := 74) hx hb dX5_takeTunnel_59 (by decide) (fun c14 => ?_) (fun c14 => ?_)
      · rw [if_neg c14] at hd
        exact k_X5_takeTunnel_74 C (lx_sub hL [1, 2, 0] rfl) hR hS hd
      · rw [if_pos c14] at hd
        exact k_X5_takeTunnel_62 C (lx_sub hL [1, 2, 0] rfl) hR hS hd
  · rw [if_pos c4] at hd
    refine x_aload_n C dX5_takeTunnel_7 hL 0 rfl ?_
    refine x_aload_n C dX5_takeTunnel_8 hL 1 rfl ?_
    refine x_aload_n C dX5_takeTunnel_9 hL 0 rfl ?_
    refine r_getr (ci := 5) (k := 0) C fl_X5_50 rfl dX5_takeTunnel_10 hR g1 ?_
    obtain ⟨g15, hd⟩ := gd_ex hd
    refine r_getr (ci := 2) (k := 2) C fl_X5_70 rfl dX5_takeTunnel_13 hR g15 ?_
    refine x_aload_n C dX5_takeTunnel_16 hL 0 rfl ?_
    refine r_geti (ci := 5) (k := 2) C fl_X5_57 rfl dX5_takeTunnel_17 hR g1 ?_
    obtain ⟨g16, hd⟩ := gd_ex hd
    refine r_iald C dX5_takeTunnel_20 hR g16 ?_
    obtain ⟨G18, h17, hd⟩ := bo_ex hd
    refine r_callV (a := x0) (ci := 5) (As := [rv x1, .int (hi G (hr G (hr G x0 0) 2) (hi G x0 2).toNatClampNeg)]) C (ct_X5_passOn h17) mf_X5_passOn ml_X5_281 mv_X5_passOn rfl ⟨Nat.le_of_ble_eq_true rfl, Nat.le_of_ble_eq_true rfl⟩ dX5_takeTunnel_21 (lx_size hL) rfl hR hS g1 ⟨Nat.le_refl _, Nat.le_refl _⟩ (cat_le [] (Nat.le_of_ble_eq_true rfl)) (fun H locs hR hS => ?_)
    refine W_st (st2 := []) rfl ?_
    cases hd
    exact r_vret C dX5_takeTunnel_24 hR hS
end
set_option maxHeartbeats 4000000 in
set_option maxRecDepth 100000 in
theorem ct_X5_takeTunnel {l : Launch} {b0 : Nat} {D : va_G} {E : Nat → ClassId} {G : Hp} {a0 : Nat} {a1 : Nat} {GG : Hp} (hd : d_X5_takeTunnel a0 a1 G = some GG) : CT l yX5_takeTunnel cX5_takeTunnel 3 none 4 0 0 b0 D E [rv a0, rv a1] G none GG := by
  refine CT_of (by decide +kernel) ?_
  intro p e s m below meth c C hnm hR
  refine r_entry [.inr a0, .inr a1] (n := 3) (Nat.le_of_ble_eq_true rfl) (lv := [(0, .inr a0), (1, .inr a1)]) rfl (fun ls hL => ?_)
  exact k_X5_takeTunnel C (lx_sub hL [0, 1] rfl) hR ⟨fun _ _ => rfl, fun _ h => by cases h⟩ hd

/-! GroveWorks$Tree.takeStop(LGroveWorks$Frame;)V -/
theorem dX5_takeStop_0 : decode cX5_takeStop 0 = .ok (.aload_n 1, 1) := by decide +kernel
theorem dX5_takeStop_1 : decode cX5_takeStop 1 = .ok (.getfield 176, 3) := by decide +kernel
theorem dX5_takeStop_4 : decode cX5_takeStop 4 = .ok (.aload_n 0, 1) := by decide +kernel
theorem dX5_takeStop_5 : decode cX5_takeStop 5 = .ok (.getfield 54, 3) := by decide +kernel
theorem dX5_takeStop_8 : decode cX5_takeStop 8 = .ok (.if_icmp .ne 25, 3) := by decide +kernel
theorem dX5_takeStop_11 : decode cX5_takeStop 11 = .ok (.aload_n 0, 1) := by decide +kernel
theorem dX5_takeStop_12 : decode cX5_takeStop 12 = .ok (.getfield 28, 3) := by decide +kernel
theorem dX5_takeStop_15 : decode cX5_takeStop 15 = .ok (.aload_n 1, 1) := by decide +kernel
theorem dX5_takeStop_16 : decode cX5_takeStop 16 = .ok (.getfield 221, 3) := by decide +kernel
theorem dX5_takeStop_19 : decode cX5_takeStop 19 = .ok (.aload_n 0, 1) := by decide +kernel
theorem dX5_takeStop_20 : decode cX5_takeStop 20 = .ok (.getfield 50, 3) := by decide +kernel
theorem dX5_takeStop_23 : decode cX5_takeStop 23 = .ok (.getfield 118, 3) := by decide +kernel
theorem dX5_takeStop_26 : decode cX5_takeStop 26 = .ok (.bipush 40, 2) := by decide +kernel
theorem dX5_takeStop_28 : decode cX5_takeStop 28 = .ok (.iadd, 1) := by decide +kernel
theorem dX5_takeStop_29 : decode cX5_takeStop 29 = .ok (.iastore, 1) := by decide +kernel
theorem dX5_takeStop_30 : decode cX5_takeStop 30 = .ok (.goto 12, 3) := by decide +kernel
theorem dX5_takeStop_33 : decode cX5_takeStop 33 = .ok (.aload_n 0, 1) := by decide +kernel
theorem dX5_takeStop_34 : decode cX5_takeStop 34 = .ok (.aload_n 1, 1) := by decide +kernel
theorem dX5_takeStop_35 : decode cX5_takeStop 35 = .ok (.aload_n 1, 1) := by decide +kernel
theorem dX5_takeStop_36 : decode cX5_takeStop 36 = .ok (.getfield 176, 3) := by decide +kernel
theorem dX5_takeStop_39 : decode cX5_takeStop 39 = .ok (.invokevirtual 281, 3) := by decide +kernel
theorem dX5_takeStop_42 : decode cX5_takeStop 42 = .ok (.return_, 1) := by decide +kernel
def d_X5_takeStop (x0 : Nat) (x1 : Nat) (G : Hp) : Option (Hp) :=
  gd (hc G x1 = 1) <|
  gd (hc G x0 = 6) <|
  if (hi G x1 6) = (hi G x0 1) then
    gd (hc G (hr G x0 0) = 3) <|
    gd (hc G (hr G x0 9) = 11 ∧ ix (hi G x1 4) (hl G (hr G x0 9))) <|
    bd (sI G (hr G x0 9) (hi G x1 4).toNatClampNeg ((hi G (hr G x0 0) 4) + 40)) fun G8 =>
    some G8
  else
    bo (d_X5_passOn x0 x1 (hi G x1 6) G) fun G5 =>
    some G5
section
variable {p : Program} {l : Launch} {e : Env} {s : State} {m : MethodId} {args : Array Value} {below : List Frame} {meth : Method} {c : Code} {b0 : Nat} {D : va_G} {E : Nat → ClassId}
set_option maxHeartbeats 4000000 in
set_option maxRecDepth 100000 in
theorem k_X5_takeStop (C : Cx p s m args meth c RX5 cX5_takeStop 2 none b0 D E) {GG : Hp} {x0 : Nat} {x1 : Nat} {G : Hp} {ls : Array Slot} {H : Heap} {locs : List Loc} : lx ls 2 [(0, .inr x0), (1, .inr x1)] → Rp b0 D E G H → SS b0 s H locs → d_X5_takeStop x0 x1 G = some GG → W p l e (rmd 4 (0) (0)) s m args below meth c H locs (0) (0) (MQ below (CQ b0 D E none GG) args s (0) (0) (fun q => b0 ≤ q)) (F0 m 0 ls []) := by
  intro hL hR hS hd
  unfold d_X5_takeStop at hd
  have hx := C.1
  have hb := C.2.1
  refine x_aload_n C dX5_takeStop_0 hL 1 rfl ?_
  obtain ⟨g1, hd⟩ := gd_ex hd
  refine r_geti (ci := 0) (k := 6) C fl_X5_176 rfl dX5_takeStop_1 hR g1 ?_
  refine x_aload_n C dX5_takeStop_4 hL 0 rfl ?_
  obtain ⟨g2, hd⟩ := gd_ex hd
  refine r_geti (ci := 5) (k := 1) C fl_X5_54 rfl dX5_takeStop_5 hR g2 ?_
  refine lv_icmp_ne (tgt := 33) hx hb dX5_takeStop_8 (by decide) (fun c3 => ?_) (fun c3 => ?_)
  · rw [if_neg c3] at hd
    refine x_aload_n C dX5_takeStop_33 hL 0 rfl ?_
    refine x_aload_n C dX5_takeStop_34 hL 1 rfl ?_
    refine x_aload_n C dX5_takeStop_35 hL 1 rfl ?_
    refine r_geti (ci := 0) (k := 6) C fl_X5_176 rfl dX5_takeStop_36 hR g1 ?_
    obtain ⟨G5, h4, hd⟩ := bo_ex hd
    refine r_callV (a := x0) (ci := 5) (As := [rv x1, .int (hi G x1 6)]) C (ct_X5_passOn h4) mf_X5_passOn ml_X5_281 mv_X5_passOn rfl ⟨Nat.le_of_ble_eq_true rfl, Nat.le_of_ble_eq_true rfl⟩ dX5_takeStop_39 (lx_size hL) rfl hR hS g2 ⟨Nat.le_refl _, Nat.le_refl _⟩ (cat_le [] (Nat.le_of_ble_eq_true rfl)) (fun H locs hR hS => ?_)
    refine W_st (st2 := []) rfl ?_
    cases hd
    exact r_vret C dX5_takeStop_42 hR hS
  · rw [if_pos c3] at hd
    refine x_aload_n C dX5_takeStop_11 hL 0 rfl ?_
    refine r_getr (ci := 5) (k := 9) C fl_X5_28 rfl dX5_takeStop_12 hR g2 ?_
    refine x_aload_n C dX5_takeStop_15 hL 1 rfl ?_
    refine r_geti (ci := 0) (k := 4) C fl_X5_221 rfl dX5_takeStop_16 hR g1 ?_
    refine x_aload_n C dX5_takeStop_19 hL 0 rfl ?_
    refine r_getr (ci := 5) (k := 0) C fl_X5_50 rfl dX5_takeStop_20 hR g2 ?_
    obtain ⟨g6, hd⟩ := gd_ex hd
    refine r_geti (ci := 2) (k := 4) C fl_X5_118 rfl dX5_takeStop_23 hR g6 ?_
    refine lv_bipush (v := 40) hx hb dX5_takeStop_26 (by decide) ?_
    refine lv_iadd hx hb dX5_takeStop_28 ?_
    obtain ⟨g7, hd⟩ := gd_ex hd
    obtain ⟨G8, eG8, hd⟩ := bd_ex hd
    refine r_iast C dX5_takeStop_29 hR hS g7 (fun H locs hR hS => ?_)
    replace hR : Rp b0 D E G8 H := by rw [eG8]; exact hR
    refine lv_goto (tgt := 42) hx hb dX5_takeStop_30 (by decide) ?_
    cases hd
    exact r_vret C dX5_takeStop_42 hR hS
end
set_option maxHeartbeats 4000000 in
set_option maxRecDepth 100000 in
theorem ct_X5_takeStop {l : Launch} {b0 : Nat} {D : va_G} {E : Nat → ClassId} {G : Hp} {a0 : Nat} {a1 : Nat} {GG : Hp} (hd : d_X5_takeStop a0 a1 G = some GG) : CT l yX5_takeStop cX5_takeStop 2 none 4 0 0 b0 D E [rv a0, rv a1] G none GG := by
  refine CT_of (by decide +kernel) ?_
  intro p e s m below meth c C hnm hR
  refine r_entry [.inr a0, .inr a1] (n := 2) (Nat.le_of_ble_eq_true rfl) (lv := [(0, .inr a0), (1, .inr a1)]) rfl (fun ls hL => ?_)
  exact k_X5_takeStop C (lx_sub hL [0, 1] rfl) hR ⟨fun _ _ => rfl, fun _ h => by cases h⟩ hd

/-! GroveWorks$Router.hear(LGroveWorks$Frame;I)V -/
theorem dX4_hear_0 : decode cX4_hear 0 = .ok (.iload_n 2, 1) := by decide +kernel
theorem dX4_hear_1 : decode cX4_hear 1 = .ok (.iconst 4, 1) := by decide +kernel
theorem dX4_hear_2 : decode cX4_hear 2 = .ok (.invokestatic 27, 3) := by decide +kernel
theorem dX4_hear_5 : decode cX4_hear 5 = .ok (.ifCond .eq 12, 3) := by decide +kernel
theorem dX4_hear_8 : decode cX4_hear 8 = .ok (.aload_n 0, 1) := by decide +kernel
theorem dX4_hear_9 : decode cX4_hear 9 = .ok (.getfield 19, 3) := by decide +kernel
theorem dX4_hear_12 : decode cX4_hear 12 = .ok (.iload_n 2, 1) := by decide +kernel
theorem dX4_hear_13 : decode cX4_hear 13 = .ok (.aaload, 1) := by decide +kernel
theorem dX4_hear_14 : decode cX4_hear 14 = .ok (.ifnonnull 4, 3) := by decide +kernel
theorem dX4_hear_17 : decode cX4_hear 17 = .ok (.return_, 1) := by decide +kernel
theorem dX4_hear_18 : decode cX4_hear 18 = .ok (.aload_n 1, 1) := by decide +kernel
theorem dX4_hear_19 : decode cX4_hear 19 = .ok (.getfield 45, 3) := by decide +kernel
theorem dX4_hear_22 : decode cX4_hear 22 = .ok (.iconst 1, 1) := by decide +kernel
theorem dX4_hear_23 : decode cX4_hear 23 = .ok (.if_icmp .ne 16, 3) := by decide +kernel
theorem dX4_hear_26 : decode cX4_hear 26 = .ok (.aload_n 0, 1) := by decide +kernel
theorem dX4_hear_27 : decode cX4_hear 27 = .ok (.getfield 19, 3) := by decide +kernel
theorem dX4_hear_30 : decode cX4_hear 30 = .ok (.iload_n 2, 1) := by decide +kernel
theorem dX4_hear_31 : decode cX4_hear 31 = .ok (.aaload, 1) := by decide +kernel
theorem dX4_hear_32 : decode cX4_hear 32 = .ok (.aload_n 1, 1) := by decide +kernel
theorem dX4_hear_33 : decode cX4_hear 33 = .ok (.getfield 50, 3) := by decide +kernel
theorem dX4_hear_36 : decode cX4_hear 36 = .ok (.invokevirtual 53, 3) := by decide +kernel
theorem dX4_hear_39 : decode cX4_hear 39 = .ok (.aload_n 1, 1) := by decide +kernel
theorem dX4_hear_40 : decode cX4_hear 40 = .ok (.getfield 56, 3) := by decide +kernel
theorem dX4_hear_43 : decode cX4_hear 43 = .ok (.bipush 8, 2) := by decide +kernel
theorem dX4_hear_45 : decode cX4_hear 45 = .ok (.invokestatic 27, 3) := by decide +kernel
theorem dX4_hear_48 : decode cX4_hear 48 = .ok (.ifCond .eq 30, 3) := by decide +kernel
theorem dX4_hear_51 : decode cX4_hear 51 = .ok (.aload_n 1, 1) := by decide +kernel
theorem dX4_hear_52 : decode cX4_hear 52 = .ok (.getfield 59, 3) := by decide +kernel
theorem dX4_hear_55 : decode cX4_hear 55 = .ok (.invokestatic 62, 3) := by decide +kernel
theorem dX4_hear_58 : decode cX4_hear 58 = .ok (.ifCond .eq 20, 3) := by decide +kernel
theorem dX4_hear_61 : decode cX4_hear 61 = .ok (.aload_n 1, 1) := by decide +kernel
theorem dX4_hear_62 : decode cX4_hear 62 = .ok (.getfield 45, 3) := by decide +kernel
theorem dX4_hear_65 : decode cX4_hear 65 = .ok (.bipush 7, 2) := by decide +kernel
theorem dX4_hear_67 : decode cX4_hear 67 = .ok (.if_icmp .lt 12, 3) := by decide +kernel
theorem dX4_hear_70 : decode cX4_hear 70 = .ok (.aload_n 1, 1) := by decide +kernel
theorem dX4_hear_71 : decode cX4_hear 71 = .ok (.getfield 59, 3) := by decide +kernel
theorem dX4_hear_74 : decode cX4_hear 74 = .ok (.iconst (-1), 1) := by decide +kernel
theorem dX4_hear_75 : decode cX4_hear 75 = .ok (.if_icmp .ne 4, 3) := by decide +kernel
theorem dX4_hear_78 : decode cX4_hear 78 = .ok (.return_, 1) := by decide +kernel
theorem dX4_hear_79 : decode cX4_hear 79 = .ok (.aload_n 0, 1) := by decide +kernel
theorem dX4_hear_80 : decode cX4_hear 80 = .ok (.getfield 23, 3) := by decide +kernel
theorem dX4_hear_83 : decode cX4_hear 83 = .ok (.aload_n 1, 1) := by decide +kernel
theorem dX4_hear_84 : decode cX4_hear 84 = .ok (.getfield 56, 3) := by decide +kernel
theorem dX4_hear_87 : decode cX4_hear 87 = .ok (.aaload, 1) := by decide +kernel
theorem dX4_hear_88 : decode cX4_hear 88 = .ok (.astore_n 3, 1) := by decide +kernel
theorem dX4_hear_89 : decode cX4_hear 89 = .ok (.aload_n 1, 1) := by decide +kernel
theorem dX4_hear_90 : decode cX4_hear 90 = .ok (.getfield 66, 3) := by decide +kernel
theorem dX4_hear_93 : decode cX4_hear 93 = .ok (.aload_n 0, 1) := by decide +kernel
theorem dX4_hear_94 : decode cX4_hear 94 = .ok (.getfield 15, 3) := by decide +kernel
theorem dX4_hear_97 : decode cX4_hear 97 = .ok (.if_icmp .ne 7, 3) := by decide +kernel
theorem dX4_hear_100 : decode cX4_hear 100 = .ok (.iconst 1, 1) := by decide +kernel
theorem dX4_hear_101 : decode cX4_hear 101 = .ok (.goto 4, 3) := by decide +kernel
theorem dX4_hear_104 : decode cX4_hear 104 = .ok (.iconst 0, 1) := by decide +kernel
theorem dX4_hear_105 : decode cX4_hear 105 = .ok (.istore 4, 2) := by decide +kernel
theorem dX4_hear_107 : decode cX4_hear 107 = .ok (.aload_n 1, 1) := by decide +kernel
theorem dX4_hear_108 : decode cX4_hear 108 = .ok (.getfield 45, 3) := by decide +kernel
theorem dX4_hear_111 : decode cX4_hear 111 = .ok (.tableswitch 143 3 10 #[45, 58, 71, 71, 99, 108, 117, 130], 45) := by decide +kernel
theorem dX4_hear_156 : decode cX4_hear 156 = .ok (.aload_n 3, 1) := by decide +kernel
theorem dX4_hear_157 : decode cX4_hear 157 = .ok (.aload_n 0, 1) := by decide +kernel
theorem dX4_hear_158 : decode cX4_hear 158 = .ok (.getfield 19, 3) := by decide +kernel
theorem dX4_hear_161 : decode cX4_hear 161 = .ok (.iload_n 2, 1) := by decide +kernel
theorem dX4_hear_162 : decode cX4_hear 162 = .ok (.aaload, 1) := by decide +kernel
theorem dX4_hear_163 : decode cX4_hear 163 = .ok (.invokevirtual 69, 3) := by decide +kernel
theorem dX4_hear_166 : decode cX4_hear 166 = .ok (.goto 88, 3) := by decide +kernel
theorem dX4_hear_169 : decode cX4_hear 169 = .ok (.aload_n 3, 1) := by decide +kernel
theorem dX4_hear_170 : decode cX4_hear 170 = .ok (.aload_n 0, 1) := by decide +kernel
theorem dX4_hear_171 : decode cX4_hear 171 = .ok (.getfield 19, 3) := by decide +kernel
theorem dX4_hear_174 : decode cX4_hear 174 = .ok (.iload_n 2, 1) := by decide +kernel
theorem dX4_hear_175 : decode cX4_hear 175 = .ok (.aaload, 1) := by decide +kernel
theorem dX4_hear_176 : decode cX4_hear 176 = .ok (.invokevirtual 73, 3) := by decide +kernel
theorem dX4_hear_179 : decode cX4_hear 179 = .ok (.goto 75, 3) := by decide +kernel
theorem dX4_hear_182 : decode cX4_hear 182 = .ok (.iload 4, 2) := by decide +kernel
theorem dX4_hear_184 : decode cX4_hear 184 = .ok (.ifCond .eq 17, 3) := by decide +kernel
theorem dX4_hear_187 : decode cX4_hear 187 = .ok (.aload_n 3, 1) := by decide +kernel
theorem dX4_hear_188 : decode cX4_hear 188 = .ok (.aload_n 1, 1) := by decide +kernel
theorem dX4_hear_189 : decode cX4_hear 189 = .ok (.aload_n 0, 1) := by decide +kernel
theorem dX4_hear_190 : decode cX4_hear 190 = .ok (.getfield 19, 3) := by decide +kernel
theorem dX4_hear_193 : decode cX4_hear 193 = .ok (.iload_n 2, 1) := by decide +kernel
theorem dX4_hear_194 : decode cX4_hear 194 = .ok (.aaload, 1) := by decide +kernel
theorem dX4_hear_195 : decode cX4_hear 195 = .ok (.invokevirtual 76, 3) := by decide +kernel
theorem dX4_hear_198 : decode cX4_hear 198 = .ok (.goto 56, 3) := by decide +kernel
theorem dX4_hear_201 : decode cX4_hear 201 = .ok (.aload_n 3, 1) := by decide +kernel
theorem dX4_hear_202 : decode cX4_hear 202 = .ok (.aload_n 1, 1) := by decide +kernel
theorem dX4_hear_203 : decode cX4_hear 203 = .ok (.iload_n 2, 1) := by decide +kernel
theorem dX4_hear_204 : decode cX4_hear 204 = .ok (.invokevirtual 80, 3) := by decide +kernel
theorem dX4_hear_207 : decode cX4_hear 207 = .ok (.goto 47, 3) := by decide +kernel
theorem dX4_hear_210 : decode cX4_hear 210 = .ok (.aload_n 3, 1) := by decide +kernel
theorem dX4_hear_211 : decode cX4_hear 211 = .ok (.aload_n 1, 1) := by decide +kernel
theorem dX4_hear_212 : decode cX4_hear 212 = .ok (.iload_n 2, 1) := by decide +kernel
theorem dX4_hear_213 : decode cX4_hear 213 = .ok (.invokevirtual 84, 3) := by decide +kernel
theorem dX4_hear_216 : decode cX4_hear 216 = .ok (.goto 38, 3) := by decide +kernel
theorem dX4_hear_219 : decode cX4_hear 219 = .ok (.aload_n 3, 1) := by decide +kernel
theorem dX4_hear_220 : decode cX4_hear 220 = .ok (.aload_n 1, 1) := by decide +kernel
theorem dX4_hear_221 : decode cX4_hear 221 = .ok (.iload_n 2, 1) := by decide +kernel
theorem dX4_hear_222 : decode cX4_hear 222 = .ok (.invokevirtual 87, 3) := by decide +kernel
theorem dX4_hear_225 : decode cX4_hear 225 = .ok (.goto 29, 3) := by decide +kernel
theorem dX4_hear_228 : decode cX4_hear 228 = .ok (.iload 4, 2) := by decide +kernel
theorem dX4_hear_230 : decode cX4_hear 230 = .ok (.ifCond .eq 24, 3) := by decide +kernel
theorem dX4_hear_233 : decode cX4_hear 233 = .ok (.aload_n 3, 1) := by decide +kernel
theorem dX4_hear_234 : decode cX4_hear 234 = .ok (.aload_n 1, 1) := by decide +kernel
theorem dX4_hear_235 : decode cX4_hear 235 = .ok (.invokevirtual 90, 3) := by decide +kernel
theorem dX4_hear_238 : decode cX4_hear 238 = .ok (.goto 16, 3) := by decide +kernel
theorem dX4_hear_241 : decode cX4_hear 241 = .ok (.iload 4, 2) := by decide +kernel
theorem dX4_hear_243 : decode cX4_hear 243 = .ok (.ifCond .eq 11, 3) := by decide +kernel
theorem dX4_hear_246 : decode cX4_hear 246 = .ok (.aload_n 3, 1) := by decide +kernel
theorem dX4_hear_247 : decode cX4_hear 247 = .ok (.aload_n 1, 1) := by decide +kernel
theorem dX4_hear_248 : decode cX4_hear 248 = .ok (.invokevirtual 94, 3) := by decide +kernel
theorem dX4_hear_251 : decode cX4_hear 251 = .ok (.goto 3, 3) := by decide +kernel
theorem dX4_hear_254 : decode cX4_hear 254 = .ok (.return_, 1) := by decide +kernel
def d_X4_hear_182 (x0 : Nat) (x1 : Nat) (x2 : Int32) (x3 : Nat) (x4 : Int32) (G : Hp) : Option (Hp) :=
  if x4 = 0 then
    gd (hc G x3 = 6) <|
    bo (d_X5_overhear x3 x1 x2 G) fun G4 =>
    some G4
  else
    gd (hc G x0 = 5) <|
    gd (hc G (hr G x0 2) = 16 ∧ ix x2 (hl G (hr G x0 2))) <|
    gd (hc G x3 = 6) <|
    bo (d_X5_takeJoinOrPrune x3 x1 (hr G (hr G x0 2) x2.toNatClampNeg) G) fun G9 =>
    some G9
def d_X4_hear_105 (x0 : Nat) (x1 : Nat) (x2 : Int32) (x3 : Nat) (s0 : Int32) (G : Hp) : Option (Hp) :=
  gd (hc G x1 = 1) <|
  if (hi G x1 0) = 3 then
    gd (hc G x0 = 5) <|
    gd (hc G (hr G x0 2) = 16 ∧ ix x2 (hl G (hr G x0 2))) <|
    gd (hc G x3 = 6) <|
    bo (d_X5_takeReport x3 (hr G (hr G x0 2) x2.toNatClampNeg) G) fun G7 =>
    some G7
  else
  if (hi G x1 0) = 4 then
    gd (hc G x0 = 5) <|
    gd (hc G (hr G x0 2) = 16 ∧ ix x2 (hl G (hr G x0 2))) <|
    gd (hc G x3 = 6) <|
    bo (d_X5_takeLeave x3 (hr G (hr G x0 2) x2.toNatClampNeg) G) fun G12 =>
    some G12
  else
  if (hi G x1 0) = 5 then
    d_X4_hear_182 x0 x1 x2 x3 s0 G
  else
  if (hi G x1 0) = 6 then
    d_X4_hear_182 x0 x1 x2 x3 s0 G
  else
  if (hi G x1 0) = 7 then
    gd (hc G x3 = 6) <|
    bo (d_X5_takeData x3 x1 x2 G) fun G15 =>
    some G15
  else
  if (hi G x1 0) = 8 then
    gd (hc G x3 = 6) <|
    bo (d_X5_takeClaim x3 x1 x2 G) fun G18 =>
    some G18
  else
  if (hi G x1 0) = 9 then
    if s0 = 0 then
      some G
    else
      gd (hc G x3 = 6) <|
      bo (d_X5_takeTunnel x3 x1 G) fun G22 =>
      some G22
  else
  if (hi G x1 0) = 10 then
    if s0 = 0 then
      some G
    else
      gd (hc G x3 = 6) <|
      bo (d_X5_takeStop x3 x1 G) fun G26 =>
      some G26
  else
  some G
def d_X4_hear_79 (x0 : Nat) (x1 : Nat) (x2 : Int32) (G : Hp) : Option (Hp) :=
  gd (hc G x0 = 5) <|
  gd (hc G x1 = 1) <|
  gd (hc G (hr G x0 3) = 18 ∧ ix (hi G x1 3) (hl G (hr G x0 3))) <|
  bd ((hr G (hr G x0 3) (hi G x1 3).toNatClampNeg)) fun v4 =>
  if (hi G x1 2) = (hi G x0 1) then
    d_X4_hear_105 x0 x1 x2 v4 1 G
  else
    d_X4_hear_105 x0 x1 x2 v4 0 G
def d_X4_hear_39 (x0 : Nat) (x1 : Nat) (x2 : Int32) (G : Hp) : Option (Hp) :=
  gd (hc G x1 = 1) <|
  bo (d_X8_isIn (hi G x1 3) 8 G) fun v3 =>
  if v3 = 0 then
    some G
  else
    bo (d_X8_isSource (hi G x1 4) G) fun v6 =>
    if v6 = 0 then
      some G
    else
      if (hi G x1 0) < 7 then
        d_X4_hear_79 x0 x1 x2 G
      else
        if (hi G x1 4) = (-1) then
          some G
        else
          d_X4_hear_79 x0 x1 x2 G
def d_X4_hear (x0 : Nat) (x1 : Nat) (x2 : Int32) (G : Hp) : Option (Hp) :=
  bo (d_X8_isIn x2 4 G) fun v2 =>
  if v2 = 0 then
    some G
  else
    gd (hc G x0 = 5) <|
    gd (hc G (hr G x0 2) = 16 ∧ ix x2 (hl G (hr G x0 2))) <|
    if (hr G (hr G x0 2) x2.toNatClampNeg) = 0 then
      some G
    else
      gd (hc G x1 = 1) <|
      if (hi G x1 0) = 1 then
        gd (hc G (hr G x0 2) = 16 ∧ ix x2 (hl G (hr G x0 2))) <|
        gd (hc G (hr G (hr G x0 2) x2.toNatClampNeg) = 4) <|
        bo (d_X3_takeHello (hr G (hr G x0 2) x2.toNatClampNeg) (hi G x1 1) G) fun G12 =>
        d_X4_hear_39 x0 x1 x2 G12
      else
        d_X4_hear_39 x0 x1 x2 G
section
variable {p : Program} {l : Launch} {e : Env} {s : State} {m : MethodId} {args : Array Value} {below : List Frame} {meth : Method} {c : Code} {b0 : Nat} {D : va_G} {E : Nat → ClassId}
set_option maxHeartbeats 4000000 in
set_option maxRecDepth 100000 in
theorem k_X4_hear_182 (C : Cx p s m args meth c RX4 cX4_hear 5 none b0 D E) {GG : Hp} {x0 : Nat} {x1 : Nat} {x2 : Int32} {x3 : Nat} {x4 : Int32} {G : Hp} {ls : Array Slot} {H : Heap} {locs : List Loc} : lx ls 5 [(0, .inr x0), (1, .inr x1), (2, .inl x2), (3, .inr x3), (4, .inl x4)] → Rp b0 D E G H → SS b0 s H locs → d_X4_hear_182 x0 x1 x2 x3 x4 G = some GG → W p l e (rmd 5 (0) (0)) s m args below meth c H locs (0) (0) (MQ below (CQ b0 D E none GG) args s (0) (0) (fun q => b0 ≤ q)) (F0 m 182 ls []) := by
  intro hL hR hS hd
  unfold d_X4_hear_182 at hd
  have hx := C.1
  have hb := C.2.1
  refine x_iload C dX4_hear_182 hL 4 rfl ?_
  refine lv_if_eq (tgt := 201) hx hb dX4_hear_184 (by decide) (fun c1 => ?_) (fun c1 => ?_)
  · rw [if_pos c1] at hd
    refine x_aload_n C dX4_hear_201 hL 3 rfl ?_
    refine x_aload_n C dX4_hear_202 hL 1 rfl ?_
    refine x_iload_n C dX4_hear_203 hL 2 rfl ?_
    obtain ⟨g2, hd⟩ := gd_ex hd
    obtain ⟨G4, h3, hd⟩ := bo_ex hd
    refine r_callV (a := x3) (ci := 5) (As := [rv x1, .int x2]) C (ct_X5_overhear h3) mf_X5_overhear ml_X4_80 mv_X5_overhear rfl ⟨Nat.le_of_ble_eq_true rfl, Nat.le_of_ble_eq_true rfl⟩ dX4_hear_204 (lx_size hL) rfl hR hS g2 ⟨Nat.le_refl _, Nat.le_refl _⟩ (cat_le [] (Nat.le_of_ble_eq_true rfl)) (fun H locs hR hS => ?_)
    refine W_st (st2 := []) rfl ?_
    refine lv_goto (tgt := 254) hx hb dX4_hear_207 (by decide) ?_
    cases hd
    exact r_vret C dX4_hear_254 hR hS
  · rw [if_neg c1] at hd
    refine x_aload_n C dX4_hear_187 hL 3 rfl ?_
    refine x_aload_n C dX4_hear_188 hL 1 rfl ?_
    refine x_aload_n C dX4_hear_189 hL 0 rfl ?_
    obtain ⟨g5, hd⟩ := gd_ex hd
    refine r_getr (ci := 4) (k := 2) C fl_X4_19 rfl dX4_hear_190 hR g5 ?_
    refine x_iload_n C dX4_hear_193 hL 2 rfl ?_
    obtain ⟨g6, hd⟩ := gd_ex hd
    refine r_aald (ci := 3) C (by decide) dX4_hear_194 hR g6 ?_
    obtain ⟨g7, hd⟩ := gd_ex hd
    obtain ⟨G9, h8, hd⟩ := bo_ex hd
    refine r_callV (a := x3) (ci := 5) (As := [rv x1, rv (hr G (hr G x0 2) x2.toNatClampNeg)]) C (ct_X5_takeJoinOrPrune h8) mf_X5_takeJoinOrPrune ml_X4_76 mv_X5_takeJoinOrPrune rfl ⟨Nat.le_of_ble_eq_true rfl, Nat.le_of_ble_eq_true rfl⟩ dX4_hear_195 (lx_size hL) rfl hR hS g7 ⟨Nat.le_refl _, Nat.le_refl _⟩ (cat_le [] (Nat.le_of_ble_eq_true rfl)) (fun H locs hR hS => ?_)
    refine W_st (st2 := []) rfl ?_
    refine lv_goto (tgt := 254) hx hb dX4_hear_198 (by decide) ?_
    cases hd
    exact r_vret C dX4_hear_254 hR hS
set_option maxHeartbeats 4000000 in
set_option maxRecDepth 100000 in
theorem k_X4_hear_105 (C : Cx p s m args meth c RX4 cX4_hear 5 none b0 D E) {GG : Hp} {x0 : Nat} {x1 : Nat} {x2 : Int32} {x3 : Nat} {s0 : Int32} {G : Hp} {ls : Array Slot} {H : Heap} {locs : List Loc} : lx ls 5 [(0, .inr x0), (1, .inr x1), (2, .inl x2), (3, .inr x3)] → Rp b0 D E G H → SS b0 s H locs → d_X4_hear_105 x0 x1 x2 x3 s0 G = some GG → W p l e (rmd 5 (0) (0)) s m args below meth c H locs (0) (0) (MQ below (CQ b0 D E none GG) args s (0) (0) (fun q => b0 ≤ q)) (F0 m 105 ls [.int s0]) := by
  intro hL hR hS hd
  unfold d_X4_hear_105 at hd
  have hx := C.1
  have hb := C.2.1
  refine x_istore (lv' := [(4, .inl s0), (0, .inr x0), (1, .inr x1), (2, .inl x2), (3, .inr x3)]) C dX4_hear_105 hL (by decide) rfl (fun ls hL => ?_)
  refine x_aload_n C dX4_hear_107 hL 2 rfl ?_
  obtain ⟨g1, hd⟩ := gd_ex hd
  refine r_geti (ci := 0) (k := 0) C fl_X4_45 rfl dX4_hear_108 hR g1 ?_
  by_cases c2_0 : (hi G x1 0) = 3
  · rw [if_pos c2_0] at hd
    rw [c2_0]
    refine lv_tableIn (tgt := 156) hx hb dX4_hear_111 (by decide) (by decide) rfl (by decide) ?_
    refine x_aload_n C dX4_hear_156 hL 4 rfl ?_
    refine x_aload_n C dX4_hear_157 hL 1 rfl ?_
    obtain ⟨g3, hd⟩ := gd_ex hd
    refine r_getr (ci := 4) (k := 2) C fl_X4_19 rfl dX4_hear_158 hR g3 ?_
    refine x_iload_n C dX4_hear_161 hL 3 rfl ?_
    obtain ⟨g4, hd⟩ := gd_ex hd
    refine r_aald (ci := 3) C (by decide) dX4_hear_162 hR g4 ?_
    obtain ⟨g5, hd⟩ := gd_ex hd
    obtain ⟨G7, h6, hd⟩ := bo_ex hd
    refine r_callV (a := x3) (ci := 5) (As := [rv (hr G (hr G x0 2) x2.toNatClampNeg)]) C (ct_X5_takeReport h6) mf_X5_takeReport ml_X4_69 mv_X5_takeReport rfl ⟨Nat.le_of_ble_eq_true rfl, Nat.le_of_ble_eq_true rfl⟩ dX4_hear_163 (lx_size hL) rfl hR hS g5 ⟨Nat.le_refl _, Nat.le_refl _⟩ (cat_le [] (Nat.le_of_ble_eq_true rfl)) (fun H locs hR hS => ?_)
    refine W_st (st2 := []) rfl ?_
    refine lv_goto (tgt := 254) hx hb dX4_hear_166 (by decide) ?_
    cases hd
    exact r_vret C dX4_hear_254 hR hS
  rw [if_neg c2_0] at hd
  by_cases c2_1 : (hi G x1 0) = 4
  · rw [if_pos c2_1] at hd
    rw [c2_1]
    refine lv_tableIn (tgt := 169) hx hb dX4_hear_111 (by decide) (by decide) rfl (by decide) ?_
    refine x_aload_n C dX4_hear_169 hL 4 rfl ?_
    refine x_aload_n C dX4_hear_170 hL 1 rfl ?_
    obtain ⟨g8, hd⟩ := gd_ex hd
    refine r_getr (ci := 4) (k := 2) C fl_X4_19 rfl dX4_hear_171 hR g8 ?_
    refine x_iload_n C dX4_hear_174 hL 3 rfl ?_
    obtain ⟨g9, hd⟩ := gd_ex hd
    refine r_aald (ci := 3) C (by decide) dX4_hear_175 hR g9 ?_
    obtain ⟨g10, hd⟩ := gd_ex hd
    obtain ⟨G12, h11, hd⟩ := bo_ex hd
    refine r_callV (a := x3) (ci := 5) (As := [rv (hr G (hr G x0 2) x2.toNatClampNeg)]) C (ct_X5_takeLeave h11) mf_X5_takeLeave ml_X4_73 mv_X5_takeLeave rfl ⟨Nat.le_of_ble_eq_true rfl, Nat.le_of_ble_eq_true rfl⟩ dX4_hear_176 (lx_size hL) rfl hR hS g10 ⟨Nat.le_refl _, Nat.le_refl _⟩ (cat_le [] (Nat.le_of_ble_eq_true rfl)) (fun H locs hR hS => ?_)
    refine W_st (st2 := []) rfl ?_
    refine lv_goto (tgt := 254) hx hb dX4_hear_179 (by decide) ?_
    cases hd
    exact r_vret C dX4_hear_254 hR hS
  rw [if_neg c2_1] at hd
  by_cases c2_2 : (hi G x1 0) = 5
  · rw [if_pos c2_2] at hd
    rw [c2_2]
    refine lv_tableIn (tgt := 182) hx hb dX4_hear_111 (by decide) (by decide) rfl (by decide) ?_
    exact k_X4_hear_182 C (lx_sub hL [1, 2, 3, 4, 0] rfl) hR hS hd
  rw [if_neg c2_2] at hd
  by_cases c2_3 : (hi G x1 0) = 6
  · rw [if_pos c2_3] at hd
    rw [c2_3]
    refine lv_tableIn (tgt := 182) hx hb dX4_hear_111 (by decide) (by decide) rfl (by decide) ?_
    exact k_X4_hear_182 C (lx_sub hL [1, 2, 3, 4, 0] rfl) hR hS hd
  rw [if_neg c2_3] at hd
  by_cases c2_4 : (hi G x1 0) = 7
  · rw [if_pos c2_4] at hd
    rw [c2_4]
    refine lv_tableIn (tgt := 210) hx hb dX4_hear_111 (by decide) (by decide) rfl (by decide) ?_
    refine x_aload_n C dX4_hear_210 hL 4 rfl ?_
    refine x_aload_n C dX4_hear_211 hL 2 rfl ?_
    refine x_iload_n C dX4_hear_212 hL 3 rfl ?_
    obtain ⟨g13, hd⟩ := gd_ex hd
    obtain ⟨G15, h14, hd⟩ := bo_ex hd
    refine r_callV (a := x3) (ci := 5) (As := [rv x1, .int x2]) C (ct_X5_takeData h14) mf_X5_takeData ml_X4_84 mv_X5_takeData rfl ⟨Nat.le_of_ble_eq_true rfl, Nat.le_of_ble_eq_true rfl⟩ dX4_hear_213 (lx_size hL) rfl hR hS g13 ⟨Nat.le_refl _, Nat.le_refl _⟩ (cat_le [] (Nat.le_of_ble_eq_true rfl)) (fun H locs hR hS => ?_)
    refine W_st (st2 := []) rfl ?_
    refine lv_goto (tgt := 254) hx hb dX4_hear_216 (by decide) ?_
    cases hd
    exact r_vret C dX4_hear_254 hR hS
  rw [if_neg c2_4] at hd
  by_cases c2_5 : (hi G x1 0) = 8
  · rw [if_pos c2_5] at hd
    rw [c2_5]
    refine lv_tableIn (tgt := 219) hx hb dX4_hear_111 (by decide) (by decide) rfl (by decide) ?_
    refine x_aload_n C dX4_hear_219 hL 4 rfl ?_
    refine x_aload_n C dX4_hear_220 hL 2 rfl ?_
    refine x_iload_n C dX4_hear_221 hL 3 rfl ?_
    obtain ⟨g16, hd⟩ := gd_ex hd
    obtain ⟨G18, h17, hd⟩ := bo_ex hd
    refine r_callV (a := x3) (ci := 5) (As := [rv x1, .int x2]) C (ct_X5_takeClaim h17) mf_X5_takeClaim ml_X4_87 mv_X5_takeClaim rfl ⟨Nat.le_of_ble_eq_true rfl, Nat.le_of_ble_eq_true rfl⟩ dX4_hear_222 (lx_size hL) rfl hR hS g16 ⟨Nat.le_refl _, Nat.le_refl _⟩ (cat_le [] (Nat.le_of_ble_eq_true rfl)) (fun H locs hR hS => ?_)
    refine W_st (st2 := []) rfl ?_
    refine lv_goto (tgt := 254) hx hb dX4_hear_225 (by decide) ?_
    cases hd
    exact r_vret C dX4_hear_254 hR hS
  rw [if_neg c2_5] at hd
  by_cases c2_6 : (hi G x1 0) = 9
  · rw [if_pos c2_6] at hd
    rw [c2_6]
    refine lv_tableIn (tgt := 228) hx hb dX4_hear_111 (by decide) (by decide) rfl (by decide) ?_
    refine x_iload C dX4_hear_228 hL 0 rfl ?_
    refine lv_if_eq (tgt := 254) hx hb dX4_hear_230 (by decide) (fun c19 => ?_) (fun c19 => ?_)
    · rw [if_pos c19] at hd
      cases hd
      exact r_vret C dX4_hear_254 hR hS
    · rw [if_neg c19] at hd
      refine x_aload_n C dX4_hear_233 hL 4 rfl ?_
      refine x_aload_n C dX4_hear_234 hL 2 rfl ?_
      obtain ⟨g20, hd⟩ := gd_ex hd
      obtain ⟨G22, h21, hd⟩ := bo_ex hd
      refine r_callV (a := x3) (ci := 5) (As := [rv x1]) C (ct_X5_takeTunnel h21) mf_X5_takeTunnel ml_X4_90 mv_X5_takeTunnel rfl ⟨Nat.le_of_ble_eq_true rfl, Nat.le_of_ble_eq_true rfl⟩ dX4_hear_235 (lx_size hL) rfl hR hS g20 ⟨Nat.le_refl _, Nat.le_refl _⟩ (cat_le [] (Nat.le_of_ble_eq_true rfl)) (fun H locs hR hS => ?_)
      refine W_st (st2 := []) rfl ?_
      refine lv_goto (tgt := 254) hx hb dX4_hear_238 (by decide) ?_
      cases hd
      exact r_vret C dX4_hear_254 hR hS
  rw [if_neg c2_6] at hd
  by_cases c2_7 : (hi G x1 0) = 10
  · rw [if_pos c2_7] at hd
    rw [c2_7]
    refine lv_tableIn (tgt := 241) hx hb dX4_hear_111 (by decide) (by decide) rfl (by decide) ?_
    refine x_iload C dX4_hear_241 hL 0 rfl ?_
    refine lv_if_eq (tgt := 254) hx hb dX4_hear_243 (by decide) (fun c23 => ?_) (fun c23 => ?_)
    · rw [if_pos c23] at hd
      cases hd
      exact r_vret C dX4_hear_254 hR hS
    · rw [if_neg c23] at hd
      refine x_aload_n C dX4_hear_246 hL 4 rfl ?_
      refine x_aload_n C dX4_hear_247 hL 2 rfl ?_
      obtain ⟨g24, hd⟩ := gd_ex hd
      obtain ⟨G26, h25, hd⟩ := bo_ex hd
      refine r_callV (a := x3) (ci := 5) (As := [rv x1]) C (ct_X5_takeStop h25) mf_X5_takeStop ml_X4_94 mv_X5_takeStop rfl ⟨Nat.le_of_ble_eq_true rfl, Nat.le_of_ble_eq_true rfl⟩ dX4_hear_248 (lx_size hL) rfl hR hS g24 ⟨Nat.le_refl _, Nat.le_refl _⟩ (cat_le [] (Nat.le_of_ble_eq_true rfl)) (fun H locs hR hS => ?_)
      refine W_st (st2 := []) rfl ?_
      refine lv_goto (tgt := 254) hx hb dX4_hear_251 (by decide) ?_
      cases hd
      exact r_vret C dX4_hear_254 hR hS
  rw [if_neg c2_7] at hd
  have z_0 := i32_ne c2_0
  have z_1 := i32_ne c2_1
  have z_2 := i32_ne c2_2
  have z_3 := i32_ne c2_3
  have z_4 := i32_ne c2_4
  have z_5 := i32_ne c2_5
  have z_6 := i32_ne c2_6
  have z_7 := i32_ne c2_7
  refine lv_tableOut (tgt := 254) hx hb dX4_hear_111 (by simp only [show ((3 : Int32)).toInt = 3 from rfl, show ((4 : Int32)).toInt = 4 from rfl, show ((5 : Int32)).toInt = 5 from rfl, show ((6 : Int32)).toInt = 6 from rfl, show ((7 : Int32)).toInt = 7 from rfl, show ((8 : Int32)).toInt = 8 from rfl, show ((9 : Int32)).toInt = 9 from rfl, show ((10 : Int32)).toInt = 10 from rfl] at z_0 z_1 z_2 z_3 z_4 z_5 z_6 z_7; omega) (by decide) ?_
  cases hd
  exact r_vret C dX4_hear_254 hR hS
set_option maxHeartbeats 4000000 in
set_option maxRecDepth 100000 in
theorem k_X4_hear_79 (C : Cx p s m args meth c RX4 cX4_hear 5 none b0 D E) {GG : Hp} {x0 : Nat} {x1 : Nat} {x2 : Int32} {G : Hp} {ls : Array Slot} {H : Heap} {locs : List Loc} : lx ls 5 [(0, .inr x0), (1, .inr x1), (2, .inl x2)] → Rp b0 D E G H → SS b0 s H locs → d_X4_hear_79 x0 x1 x2 G = some GG → W p l e (rmd 5 (0) (0)) s m args below meth c H locs (0) (0) (MQ below (CQ b0 D E none GG) args s (0) (0) (fun q => b0 ≤ q)) (F0 m 79 ls []) := by
  intro hL hR hS hd
  unfold d_X4_hear_79 at hd
  have hx := C.1
  have hb := C.2.1
  refine x_aload_n C dX4_hear_79 hL 0 rfl ?_
  obtain ⟨g1, hd⟩ := gd_ex hd
  refine r_getr (ci := 4) (k := 3) C fl_X4_23 rfl dX4_hear_80 hR g1 ?_
  refine x_aload_n C dX4_hear_83 hL 1 rfl ?_
  obtain ⟨g2, hd⟩ := gd_ex hd
  refine r_geti (ci := 0) (k := 3) C fl_X4_56 rfl dX4_hear_84 hR g2 ?_
  obtain ⟨g3, hd⟩ := gd_ex hd
  refine r_aald (ci := 5) C (by decide) dX4_hear_87 hR g3 ?_
  obtain ⟨v4, ev4, hd⟩ := bd_ex hd
  rw [← ev4]
  refine x_astore_n (lv' := [(3, .inr v4), (0, .inr x0), (1, .inr x1), (2, .inl x2)]) C dX4_hear_88 hL (by decide) rfl (fun ls hL => ?_)
  refine x_aload_n C dX4_hear_89 hL 2 rfl ?_
  refine r_geti (ci := 0) (k := 2) C fl_X4_66 rfl dX4_hear_90 hR g2 ?_
  refine x_aload_n C dX4_hear_93 hL 1 rfl ?_
  refine r_geti (ci := 4) (k := 1) C fl_X4_15 rfl dX4_hear_94 hR g1 ?_
  refine lv_icmp_ne (tgt := 104) hx hb dX4_hear_97 (by decide) (fun c5 => ?_) (fun c5 => ?_)
  · rw [if_neg c5] at hd
    refine lv_iconst (v := 0) hx hb dX4_hear_104 (by decide) ?_
    exact k_X4_hear_105 C (lx_sub hL [1, 2, 3, 0] rfl) hR hS hd
  · rw [if_pos c5] at hd
    refine lv_iconst (v := 1) hx hb dX4_hear_100 (by decide) ?_
    refine lv_goto (tgt := 105) hx hb dX4_hear_101 (by decide) ?_
    exact k_X4_hear_105 C (lx_sub hL [1, 2, 3, 0] rfl) hR hS hd
set_option maxHeartbeats 4000000 in
set_option maxRecDepth 100000 in
theorem k_X4_hear_39 (C : Cx p s m args meth c RX4 cX4_hear 5 none b0 D E) {GG : Hp} {x0 : Nat} {x1 : Nat} {x2 : Int32} {G : Hp} {ls : Array Slot} {H : Heap} {locs : List Loc} : lx ls 5 [(0, .inr x0), (1, .inr x1), (2, .inl x2)] → Rp b0 D E G H → SS b0 s H locs → d_X4_hear_39 x0 x1 x2 G = some GG → W p l e (rmd 5 (0) (0)) s m args below meth c H locs (0) (0) (MQ below (CQ b0 D E none GG) args s (0) (0) (fun q => b0 ≤ q)) (F0 m 39 ls []) := by
  intro hL hR hS hd
  unfold d_X4_hear_39 at hd
  have hx := C.1
  have hb := C.2.1
  refine x_aload_n C dX4_hear_39 hL 1 rfl ?_
  obtain ⟨g1, hd⟩ := gd_ex hd
  refine r_geti (ci := 0) (k := 3) C fl_X4_56 rfl dX4_hear_40 hR g1 ?_
  refine lv_bipush (v := 8) hx hb dX4_hear_43 (by decide) ?_
  obtain ⟨v3, h2, hd⟩ := bo_ex hd
  refine r_callSN (As := [.int (hi G x1 3), .int 8]) C (ct_X8_isIn h2) mf_X8_isIn (by decide +kernel) ms_X8_isIn rfl ⟨Nat.le_of_ble_eq_true rfl, Nat.le_of_ble_eq_true rfl⟩ dX4_hear_45 (lx_size hL) rfl hR hS ⟨Nat.le_refl _, Nat.le_refl _⟩ (cat_le [] (Nat.le_of_ble_eq_true rfl)) (fun H locs hR hS => ?_)
  refine W_st (st2 := [.int v3]) rfl ?_
  refine lv_if_eq (tgt := 78) hx hb dX4_hear_48 (by decide) (fun c4 => ?_) (fun c4 => ?_)
  · rw [if_pos c4] at hd
    cases hd
    exact r_vret C dX4_hear_78 hR hS
  · rw [if_neg c4] at hd
    refine x_aload_n C dX4_hear_51 hL 1 rfl ?_
    refine r_geti (ci := 0) (k := 4) C fl_X4_59 rfl dX4_hear_52 hR g1 ?_
    obtain ⟨v6, h5, hd⟩ := bo_ex hd
    refine r_callSN (As := [.int (hi G x1 4)]) C (ct_X8_isSource h5) mf_X8_isSource (by decide +kernel) ms_X8_isSource rfl ⟨Nat.le_of_ble_eq_true rfl, Nat.le_of_ble_eq_true rfl⟩ dX4_hear_55 (lx_size hL) rfl hR hS ⟨Nat.le_refl _, Nat.le_refl _⟩ (cat_le [] (Nat.le_of_ble_eq_true rfl)) (fun H locs hR hS => ?_)
    refine W_st (st2 := [.int v6]) rfl ?_
    refine lv_if_eq (tgt := 78) hx hb dX4_hear_58 (by decide) (fun c7 => ?_) (fun c7 => ?_)
    · rw [if_pos c7] at hd
      cases hd
      exact r_vret C dX4_hear_78 hR hS
    · rw [if_neg c7] at hd
      refine x_aload_n C dX4_hear_61 hL 1 rfl ?_
      refine r_geti (ci := 0) (k := 0) C fl_X4_45 rfl dX4_hear_62 hR g1 ?_
      refine lv_bipush (v := 7) hx hb dX4_hear_65 (by decide) ?_
      refine lv_icmp_lt (tgt := 79) hx hb dX4_hear_67 (by decide) (fun c8 => ?_) (fun c8 => ?_)
      · rw [if_pos c8] at hd
        exact k_X4_hear_79 C hL hR hS hd
      · rw [if_neg c8] at hd
        refine x_aload_n C dX4_hear_70 hL 1 rfl ?_
        refine r_geti (ci := 0) (k := 4) C fl_X4_59 rfl dX4_hear_71 hR g1 ?_
        refine lv_iconst (v := (-1)) hx hb dX4_hear_74 (by decide) ?_
        refine lv_icmp_ne (tgt := 79) hx hb dX4_hear_75 (by decide) (fun c9 => ?_) (fun c9 => ?_)
        · rw [if_neg c9] at hd
          exact k_X4_hear_79 C hL hR hS hd
        · rw [if_pos c9] at hd
          cases hd
          exact r_vret C dX4_hear_78 hR hS
set_option maxHeartbeats 4000000 in
set_option maxRecDepth 100000 in
theorem k_X4_hear (C : Cx p s m args meth c RX4 cX4_hear 5 none b0 D E) {GG : Hp} {x0 : Nat} {x1 : Nat} {x2 : Int32} {G : Hp} {ls : Array Slot} {H : Heap} {locs : List Loc} : lx ls 5 [(0, .inr x0), (1, .inr x1), (2, .inl x2)] → Rp b0 D E G H → SS b0 s H locs → d_X4_hear x0 x1 x2 G = some GG → W p l e (rmd 5 (0) (0)) s m args below meth c H locs (0) (0) (MQ below (CQ b0 D E none GG) args s (0) (0) (fun q => b0 ≤ q)) (F0 m 0 ls []) := by
  intro hL hR hS hd
  unfold d_X4_hear at hd
  have hx := C.1
  have hb := C.2.1
  refine x_iload_n C dX4_hear_0 hL 2 rfl ?_
  refine lv_iconst (v := 4) hx hb dX4_hear_1 (by decide) ?_
  obtain ⟨v2, h1, hd⟩ := bo_ex hd
  refine r_callSN (As := [.int x2, .int 4]) C (ct_X8_isIn h1) mf_X8_isIn (by decide +kernel) ms_X8_isIn rfl ⟨Nat.le_of_ble_eq_true rfl, Nat.le_of_ble_eq_true rfl⟩ dX4_hear_2 (lx_size hL) rfl hR hS ⟨Nat.le_refl _, Nat.le_refl _⟩ (cat_le [] (Nat.le_of_ble_eq_true rfl)) (fun H locs hR hS => ?_)
  refine W_st (st2 := [.int v2]) rfl ?_
  refine lv_if_eq (tgt := 17) hx hb dX4_hear_5 (by decide) (fun c3 => ?_) (fun c3 => ?_)
  · rw [if_pos c3] at hd
    cases hd
    exact r_vret C dX4_hear_17 hR hS
  · rw [if_neg c3] at hd
    refine x_aload_n C dX4_hear_8 hL 0 rfl ?_
    obtain ⟨g4, hd⟩ := gd_ex hd
    refine r_getr (ci := 4) (k := 2) C fl_X4_19 rfl dX4_hear_9 hR g4 ?_
    refine x_iload_n C dX4_hear_12 hL 2 rfl ?_
    obtain ⟨g5, hd⟩ := gd_ex hd
    refine r_aald (ci := 3) C (by decide) dX4_hear_13 hR g5 ?_
    refine r_ifnonnull (tgt := 18) C dX4_hear_14 (by decide) (fun c6 => ?_) (fun c6 => ?_)
    · rw [if_neg c6] at hd
      refine x_aload_n C dX4_hear_18 hL 1 rfl ?_
      obtain ⟨g7, hd⟩ := gd_ex hd
      refine r_geti (ci := 0) (k := 0) C fl_X4_45 rfl dX4_hear_19 hR g7 ?_
      refine lv_iconst (v := 1) hx hb dX4_hear_22 (by decide) ?_
      refine lv_icmp_ne (tgt := 39) hx hb dX4_hear_23 (by decide) (fun c8 => ?_) (fun c8 => ?_)
      · rw [if_neg c8] at hd
        exact k_X4_hear_39 C hL hR hS hd
      · rw [if_pos c8] at hd
        refine x_aload_n C dX4_hear_26 hL 0 rfl ?_
        refine r_getr (ci := 4) (k := 2) C fl_X4_19 rfl dX4_hear_27 hR g4 ?_
        refine x_iload_n C dX4_hear_30 hL 2 rfl ?_
        obtain ⟨g9, hd⟩ := gd_ex hd
        refine r_aald (ci := 3) C (by decide) dX4_hear_31 hR g9 ?_
        refine x_aload_n C dX4_hear_32 hL 1 rfl ?_
        refine r_geti (ci := 0) (k := 1) C fl_X4_50 rfl dX4_hear_33 hR g7 ?_
        obtain ⟨g10, hd⟩ := gd_ex hd
        obtain ⟨G12, h11, hd⟩ := bo_ex hd
        refine r_callV (a := (hr G (hr G x0 2) x2.toNatClampNeg)) (ci := 3) (As := [.int (hi G x1 1)]) C (ct_X3_takeHello h11) mf_X3_takeHello ml_X4_53 mv_X3_takeHello rfl ⟨Nat.le_of_ble_eq_true rfl, Nat.le_of_ble_eq_true rfl⟩ dX4_hear_36 (lx_size hL) rfl hR hS g10 ⟨Nat.le_refl _, Nat.le_refl _⟩ (cat_le [] (Nat.le_of_ble_eq_true rfl)) (fun H locs hR hS => ?_)
        refine W_st (st2 := []) rfl ?_
        exact k_X4_hear_39 C hL hR hS hd
    · rw [if_pos c6] at hd
      cases hd
      exact r_vret C dX4_hear_17 hR hS
end
set_option maxHeartbeats 4000000 in
set_option maxRecDepth 100000 in
theorem ct_X4_hear {l : Launch} {b0 : Nat} {D : va_G} {E : Nat → ClassId} {G : Hp} {a0 : Nat} {a1 : Nat} {a2 : Int32} {GG : Hp} (hd : d_X4_hear a0 a1 a2 G = some GG) : CT l yX4_hear cX4_hear 5 none 5 0 0 b0 D E [rv a0, rv a1, .int a2] G none GG := by
  refine CT_of (by decide +kernel) ?_
  intro p e s m below meth c C hnm hR
  refine r_entry [.inr a0, .inr a1, .inl a2] (n := 5) (Nat.le_of_ble_eq_true rfl) (lv := [(0, .inr a0), (1, .inr a1), (2, .inl a2)]) rfl (fun ls hL => ?_)
  exact k_X4_hear C (lx_sub hL [0, 1, 2] rfl) hR ⟨fun _ _ => rfl, fun _ h => by cases h⟩ hd

/-! GroveWorks$Router.sayHello(LGroveWorks$Port;)V -/
theorem dX4_sayHello_0 : decode cX4_sayHello 0 = .ok (.aload_n 1, 1) := by decide +kernel
theorem dX4_sayHello_1 : decode cX4_sayHello 1 = .ok (.ifnull 13, 3) := by decide +kernel
theorem dX4_sayHello_4 : decode cX4_sayHello 4 = .ok (.aload_n 1, 1) := by decide +kernel
theorem dX4_sayHello_5 : decode cX4_sayHello 5 = .ok (.getfield 118, 3) := by decide +kernel
theorem dX4_sayHello_8 : decode cX4_sayHello 8 = .ok (.getfield 122, 3) := by decide +kernel
theorem dX4_sayHello_11 : decode cX4_sayHello 11 = .ok (.ifCond .ne 4, 3) := by decide +kernel
theorem dX4_sayHello_14 : decode cX4_sayHello 14 = .ok (.return_, 1) := by decide +kernel
theorem dX4_sayHello_15 : decode cX4_sayHello 15 = .ok (.aload_n 1, 1) := by decide +kernel
theorem dX4_sayHello_16 : decode cX4_sayHello 16 = .ok (.getfield 128, 3) := by decide +kernel
theorem dX4_sayHello_19 : decode cX4_sayHello 19 = .ok (.ifCond .eq 20, 3) := by decide +kernel
theorem dX4_sayHello_22 : decode cX4_sayHello 22 = .ok (.aload_n 0, 1) := by decide +kernel
theorem dX4_sayHello_23 : decode cX4_sayHello 23 = .ok (.getfield 9, 3) := by decide +kernel
theorem dX4_sayHello_26 : decode cX4_sayHello 26 = .ok (.getfield 131, 3) := by decide +kernel
theorem dX4_sayHello_29 : decode cX4_sayHello 29 = .ok (.aload_n 1, 1) := by decide +kernel
theorem dX4_sayHello_30 : decode cX4_sayHello 30 = .ok (.getfield 128, 3) := by decide +kernel
theorem dX4_sayHello_33 : decode cX4_sayHello 33 = .ok (.isub, 1) := by decide +kernel
theorem dX4_sayHello_34 : decode cX4_sayHello 34 = .ok (.bipush 20, 2) := by decide +kernel
theorem dX4_sayHello_36 : decode cX4_sayHello 36 = .ok (.if_icmp .lt 27, 3) := by decide +kernel
theorem dX4_sayHello_39 : decode cX4_sayHello 39 = .ok (.aload_n 1, 1) := by decide +kernel
theorem dX4_sayHello_40 : decode cX4_sayHello 40 = .ok (.aload_n 0, 1) := by decide +kernel
theorem dX4_sayHello_41 : decode cX4_sayHello 41 = .ok (.getfield 9, 3) := by decide +kernel
theorem dX4_sayHello_44 : decode cX4_sayHello 44 = .ok (.getfield 131, 3) := by decide +kernel
theorem dX4_sayHello_47 : decode cX4_sayHello 47 = .ok (.putfield 128, 3) := by decide +kernel
theorem dX4_sayHello_50 : decode cX4_sayHello 50 = .ok (.aload_n 1, 1) := by decide +kernel
theorem dX4_sayHello_51 : decode cX4_sayHello 51 = .ok (.getfield 118, 3) := by decide +kernel
theorem dX4_sayHello_54 : decode cX4_sayHello 54 = .ok (.iconst 1, 1) := by decide +kernel
theorem dX4_sayHello_55 : decode cX4_sayHello 55 = .ok (.aload_n 0, 1) := by decide +kernel
theorem dX4_sayHello_56 : decode cX4_sayHello 56 = .ok (.getfield 15, 3) := by decide +kernel
theorem dX4_sayHello_59 : decode cX4_sayHello 59 = .ok (.invokevirtual 136, 3) := by decide +kernel
theorem dX4_sayHello_62 : decode cX4_sayHello 62 = .ok (.pop, 1) := by decide +kernel
theorem dX4_sayHello_63 : decode cX4_sayHello 63 = .ok (.return_, 1) := by decide +kernel
def d_X4_sayHello_39 (x0 : Nat) (x1 : Nat) (G : Hp) : Option (Hp) :=
  gd (hc G x0 = 5) <|
  gd (hc G (hr G x0 0) = 3) <|
  gd (hc G x1 = 4) <|
  bd (sI G x1 5 (hi G (hr G x0 0) 4)) fun G4 =>
  gd (hc G4 x1 = 4) <|
  gd (hc G4 x0 = 5) <|
  gd (hc G4 (hr G4 x1 2) = 8) <|
  b2 (d_X7_open (hr G4 x1 2) 1 (hi G4 x0 1) G4) fun v9 G10 =>
  some G10
def d_X4_sayHello (x0 : Nat) (x1 : Nat) (G : Hp) : Option (Hp) :=
  if x1 = 0 then
    some G
  else
    gd (hc G x1 = 4) <|
    gd (hc G (hr G x1 2) = 8) <|
    if (hi G (hr G x1 2) 2) = 0 then
      some G
    else
      if (hi G x1 5) = 0 then
        d_X4_sayHello_39 x0 x1 G
      else
        gd (hc G x0 = 5) <|
        gd (hc G (hr G x0 0) = 3) <|
        if ((hi G (hr G x0 0) 4) - (hi G x1 5)) < 20 then
          some G
        else
          d_X4_sayHello_39 x0 x1 G
section
variable {p : Program} {l : Launch} {e : Env} {s : State} {m : MethodId} {args : Array Value} {below : List Frame} {meth : Method} {c : Code} {b0 : Nat} {D : va_G} {E : Nat → ClassId}
set_option maxHeartbeats 4000000 in
set_option maxRecDepth 100000 in
theorem k_X4_sayHello_39 (C : Cx p s m args meth c RX4 cX4_sayHello 2 none b0 D E) {GG : Hp} {x0 : Nat} {x1 : Nat} {G : Hp} {ls : Array Slot} {H : Heap} {locs : List Loc} : lx ls 2 [(0, .inr x0), (1, .inr x1)] → Rp b0 D E G H → SS b0 s H locs → d_X4_sayHello_39 x0 x1 G = some GG → W p l e (rmd 2 (0) (0)) s m args below meth c H locs (0) (0) (MQ below (CQ b0 D E none GG) args s (0) (0) (fun q => b0 ≤ q)) (F0 m 39 ls []) := by
  intro hL hR hS hd
  unfold d_X4_sayHello_39 at hd
  have hx := C.1
  have hb := C.2.1
  refine x_aload_n C dX4_sayHello_39 hL 1 rfl ?_
  refine x_aload_n C dX4_sayHello_40 hL 0 rfl ?_
  obtain ⟨g1, hd⟩ := gd_ex hd
  refine r_getr (ci := 4) (k := 0) C fl_X4_9 rfl dX4_sayHello_41 hR g1 ?_
  obtain ⟨g2, hd⟩ := gd_ex hd
  refine r_geti (ci := 2) (k := 4) C fl_X4_131 rfl dX4_sayHello_44 hR g2 ?_
  obtain ⟨g3, hd⟩ := gd_ex hd
  obtain ⟨G4, eG4, hd⟩ := bd_ex hd
  refine r_puti (ci := 3) (k := 5) C fl_X4_128 rfl (Or.inl rfl) dX4_sayHello_47 hR hS g3 (fun H locs hR hS => ?_)
  replace hR : Rp b0 D E G4 H := by rw [eG4]; exact hR
  refine x_aload_n C dX4_sayHello_50 hL 1 rfl ?_
  obtain ⟨g5, hd⟩ := gd_ex hd
  refine r_getr (ci := 3) (k := 2) C fl_X4_118 rfl dX4_sayHello_51 hR g5 ?_
  refine lv_iconst (v := 1) hx hb dX4_sayHello_54 (by decide) ?_
  refine x_aload_n C dX4_sayHello_55 hL 0 rfl ?_
  obtain ⟨g6, hd⟩ := gd_ex hd
  refine r_geti (ci := 4) (k := 1) C fl_X4_15 rfl dX4_sayHello_56 hR g6 ?_
  obtain ⟨g7, hd⟩ := gd_ex hd
  obtain ⟨v9, G10, h8, hd⟩ := b2_ex hd
  refine r_callV (a := (hr G4 x1 2)) (ci := 7) (As := [.int 1, .int (hi G4 x0 1)]) C (ct_X7_open h8) mf_X7_open ml_X4_136 mv_X7_open rfl ⟨Nat.le_of_ble_eq_true rfl, Nat.le_of_ble_eq_true rfl⟩ dX4_sayHello_59 (lx_size hL) rfl hR hS g7 ⟨Nat.le_refl _, Nat.le_refl _⟩ (cat_le [] (Nat.le_of_ble_eq_true rfl)) (fun H locs hR hS => ?_)
  refine W_st (st2 := [rv v9]) rfl ?_
  refine lv_pop hx hb dX4_sayHello_62 (rv_cat _) ?_
  cases hd
  exact r_vret C dX4_sayHello_63 hR hS
set_option maxHeartbeats 4000000 in
set_option maxRecDepth 100000 in
theorem k_X4_sayHello (C : Cx p s m args meth c RX4 cX4_sayHello 2 none b0 D E) {GG : Hp} {x0 : Nat} {x1 : Nat} {G : Hp} {ls : Array Slot} {H : Heap} {locs : List Loc} : lx ls 2 [(0, .inr x0), (1, .inr x1)] → Rp b0 D E G H → SS b0 s H locs → d_X4_sayHello x0 x1 G = some GG → W p l e (rmd 2 (0) (0)) s m args below meth c H locs (0) (0) (MQ below (CQ b0 D E none GG) args s (0) (0) (fun q => b0 ≤ q)) (F0 m 0 ls []) := by
  intro hL hR hS hd
  unfold d_X4_sayHello at hd
  have hx := C.1
  have hb := C.2.1
  refine x_aload_n C dX4_sayHello_0 hL 1 rfl ?_
  refine r_ifnull (tgt := 14) C dX4_sayHello_1 (by decide) (fun c1 => ?_) (fun c1 => ?_)
  · rw [if_pos c1] at hd
    cases hd
    exact r_vret C dX4_sayHello_14 hR hS
  · rw [if_neg c1] at hd
    refine x_aload_n C dX4_sayHello_4 hL 1 rfl ?_
    obtain ⟨g2, hd⟩ := gd_ex hd
    refine r_getr (ci := 3) (k := 2) C fl_X4_118 rfl dX4_sayHello_5 hR g2 ?_
    obtain ⟨g3, hd⟩ := gd_ex hd
    refine r_geti (ci := 7) (k := 2) C fl_X4_122 rfl dX4_sayHello_8 hR g3 ?_
    refine lv_if_ne (tgt := 15) hx hb dX4_sayHello_11 (by decide) (fun c4 => ?_) (fun c4 => ?_)
    · rw [if_neg c4] at hd
      refine x_aload_n C dX4_sayHello_15 hL 1 rfl ?_
      refine r_geti (ci := 3) (k := 5) C fl_X4_128 rfl dX4_sayHello_16 hR g2 ?_
      refine lv_if_eq (tgt := 39) hx hb dX4_sayHello_19 (by decide) (fun c5 => ?_) (fun c5 => ?_)
      · rw [if_pos c5] at hd
        exact k_X4_sayHello_39 C hL hR hS hd
      · rw [if_neg c5] at hd
        refine x_aload_n C dX4_sayHello_22 hL 0 rfl ?_
        obtain ⟨g6, hd⟩ := gd_ex hd
        refine r_getr (ci := 4) (k := 0) C fl_X4_9 rfl dX4_sayHello_23 hR g6 ?_
        obtain ⟨g7, hd⟩ := gd_ex hd
        refine r_geti (ci := 2) (k := 4) C fl_X4_131 rfl dX4_sayHello_26 hR g7 ?_
        refine x_aload_n C dX4_sayHello_29 hL 1 rfl ?_
        refine r_geti (ci := 3) (k := 5) C fl_X4_128 rfl dX4_sayHello_30 hR g2 ?_
        refine lv_isub hx hb dX4_sayHello_33 ?_
        refine lv_bipush (v := 20) hx hb dX4_sayHello_34 (by decide) ?_
        refine lv_icmp_lt (tgt := 63) hx hb dX4_sayHello_36 (by decide) (fun c8 => ?_) (fun c8 => ?_)
        · rw [if_pos c8] at hd
          cases hd
          exact r_vret C dX4_sayHello_63 hR hS
        · rw [if_neg c8] at hd
          exact k_X4_sayHello_39 C hL hR hS hd
    · rw [if_pos c4] at hd
      cases hd
      exact r_vret C dX4_sayHello_14 hR hS
end
set_option maxHeartbeats 4000000 in
set_option maxRecDepth 100000 in
theorem ct_X4_sayHello {l : Launch} {b0 : Nat} {D : va_G} {E : Nat → ClassId} {G : Hp} {a0 : Nat} {a1 : Nat} {GG : Hp} (hd : d_X4_sayHello a0 a1 G = some GG) : CT l yX4_sayHello cX4_sayHello 2 none 2 0 0 b0 D E [rv a0, rv a1] G none GG := by
  refine CT_of (by decide +kernel) ?_
  intro p e s m below meth c C hnm hR
  refine r_entry [.inr a0, .inr a1] (n := 2) (Nat.le_of_ble_eq_true rfl) (lv := [(0, .inr a0), (1, .inr a1)]) rfl (fun ls hL => ?_)
  exact k_X4_sayHello C (lx_sub hL [0, 1] rfl) hR ⟨fun _ _ => rfl, fun _ h => by cases h⟩ hd

/-! GroveWorks$Router.askAll(LGroveWorks$Port;)V -/
theorem dX4_askAll_0 : decode cX4_askAll 0 = .ok (.aload_n 1, 1) := by decide +kernel
theorem dX4_askAll_1 : decode cX4_askAll 1 = .ok (.ifnull 20, 3) := by decide +kernel
theorem dX4_askAll_4 : decode cX4_askAll 4 = .ok (.aload_n 1, 1) := by decide +kernel
theorem dX4_askAll_5 : decode cX4_askAll 5 = .ok (.getfield 118, 3) := by decide +kernel
theorem dX4_askAll_8 : decode cX4_askAll 8 = .ok (.getfield 122, 3) := by decide +kernel
theorem dX4_askAll_11 : decode cX4_askAll 11 = .ok (.ifCond .eq 10, 3) := by decide +kernel
theorem dX4_askAll_14 : decode cX4_askAll 14 = .ok (.aload_n 1, 1) := by decide +kernel
theorem dX4_askAll_15 : decode cX4_askAll 15 = .ok (.invokevirtual 140, 3) := by decide +kernel
theorem dX4_askAll_18 : decode cX4_askAll 18 = .ok (.ifCond .ne 4, 3) := by decide +kernel
theorem dX4_askAll_21 : decode cX4_askAll 21 = .ok (.return_, 1) := by decide +kernel
theorem dX4_askAll_22 : decode cX4_askAll 22 = .ok (.aload_n 1, 1) := by decide +kernel
theorem dX4_askAll_23 : decode cX4_askAll 23 = .ok (.getfield 144, 3) := by decide +kernel
theorem dX4_askAll_26 : decode cX4_askAll 26 = .ok (.ifCond .eq 20, 3) := by decide +kernel
theorem dX4_askAll_29 : decode cX4_askAll 29 = .ok (.aload_n 0, 1) := by decide +kernel
theorem dX4_askAll_30 : decode cX4_askAll 30 = .ok (.getfield 9, 3) := by decide +kernel
theorem dX4_askAll_33 : decode cX4_askAll 33 = .ok (.getfield 131, 3) := by decide +kernel
theorem dX4_askAll_36 : decode cX4_askAll 36 = .ok (.aload_n 1, 1) := by decide +kernel
theorem dX4_askAll_37 : decode cX4_askAll 37 = .ok (.getfield 144, 3) := by decide +kernel
theorem dX4_askAll_40 : decode cX4_askAll 40 = .ok (.isub, 1) := by decide +kernel
theorem dX4_askAll_41 : decode cX4_askAll 41 = .ok (.bipush 25, 2) := by decide +kernel
theorem dX4_askAll_43 : decode cX4_askAll 43 = .ok (.if_icmp .lt 27, 3) := by decide +kernel
theorem dX4_askAll_46 : decode cX4_askAll 46 = .ok (.aload_n 1, 1) := by decide +kernel
theorem dX4_askAll_47 : decode cX4_askAll 47 = .ok (.aload_n 0, 1) := by decide +kernel
theorem dX4_askAll_48 : decode cX4_askAll 48 = .ok (.getfield 9, 3) := by decide +kernel
theorem dX4_askAll_51 : decode cX4_askAll 51 = .ok (.getfield 131, 3) := by decide +kernel
theorem dX4_askAll_54 : decode cX4_askAll 54 = .ok (.putfield 144, 3) := by decide +kernel
theorem dX4_askAll_57 : decode cX4_askAll 57 = .ok (.aload_n 1, 1) := by decide +kernel
theorem dX4_askAll_58 : decode cX4_askAll 58 = .ok (.getfield 118, 3) := by decide +kernel
theorem dX4_askAll_61 : decode cX4_askAll 61 = .ok (.iconst 2, 1) := by decide +kernel
theorem dX4_askAll_62 : decode cX4_askAll 62 = .ok (.aload_n 0, 1) := by decide +kernel
theorem dX4_askAll_63 : decode cX4_askAll 63 = .ok (.getfield 15, 3) := by decide +kernel
theorem dX4_askAll_66 : decode cX4_askAll 66 = .ok (.invokevirtual 136, 3) := by decide +kernel
theorem dX4_askAll_69 : decode cX4_askAll 69 = .ok (.pop, 1) := by decide +kernel
theorem dX4_askAll_70 : decode cX4_askAll 70 = .ok (.return_, 1) := by decide +kernel
def d_X4_askAll_46 (x0 : Nat) (x1 : Nat) (G : Hp) : Option (Hp) :=
  gd (hc G x0 = 5) <|
  gd (hc G (hr G x0 0) = 3) <|
  gd (hc G x1 = 4) <|
  bd (sI G x1 6 (hi G (hr G x0 0) 4)) fun G4 =>
  gd (hc G4 x1 = 4) <|
  gd (hc G4 x0 = 5) <|
  gd (hc G4 (hr G4 x1 2) = 8) <|
  b2 (d_X7_open (hr G4 x1 2) 2 (hi G4 x0 1) G4) fun v9 G10 =>
  some G10
def d_X4_askAll (x0 : Nat) (x1 : Nat) (G : Hp) : Option (Hp) :=
  if x1 = 0 then
    some G
  else
    gd (hc G x1 = 4) <|
    gd (hc G (hr G x1 2) = 8) <|
    if (hi G (hr G x1 2) 2) = 0 then
      some G
    else
      bo (d_X3_isAsking x1 G) fun v6 =>
      if v6 = 0 then
        some G
      else
        if (hi G x1 6) = 0 then
          d_X4_askAll_46 x0 x1 G
        else
          gd (hc G x0 = 5) <|
          gd (hc G (hr G x0 0) = 3) <|
          if ((hi G (hr G x0 0) 4) - (hi G x1 6)) < 25 then
            some G
          else
            d_X4_askAll_46 x0 x1 G
section
variable {p : Program} {l : Launch} {e : Env} {s : State} {m : MethodId} {args : Array Value} {below : List Frame} {meth : Method} {c : Code} {b0 : Nat} {D : va_G} {E : Nat → ClassId}
set_option maxHeartbeats 4000000 in
set_option maxRecDepth 100000 in
theorem k_X4_askAll_46 (C : Cx p s m args meth c RX4 cX4_askAll 2 none b0 D E) {GG : Hp} {x0 : Nat} {x1 : Nat} {G : Hp} {ls : Array Slot} {H : Heap} {locs : List Loc} : lx ls 2 [(0, .inr x0), (1, .inr x1)] → Rp b0 D E G H → SS b0 s H locs → d_X4_askAll_46 x0 x1 G = some GG → W p l e (rmd 2 (0) (0)) s m args below meth c H locs (0) (0) (MQ below (CQ b0 D E none GG) args s (0) (0) (fun q => b0 ≤ q)) (F0 m 46 ls []) := by
  intro hL hR hS hd
  unfold d_X4_askAll_46 at hd
  have hx := C.1
  have hb := C.2.1
  refine x_aload_n C dX4_askAll_46 hL 1 rfl ?_
  refine x_aload_n C dX4_askAll_47 hL 0 rfl ?_
  obtain ⟨g1, hd⟩ := gd_ex hd
  refine r_getr (ci := 4) (k := 0) C fl_X4_9 rfl dX4_askAll_48 hR g1 ?_
  obtain ⟨g2, hd⟩ := gd_ex hd
  refine r_geti (ci := 2) (k := 4) C fl_X4_131 rfl dX4_askAll_51 hR g2 ?_
  obtain ⟨g3, hd⟩ := gd_ex hd
  obtain ⟨G4, eG4, hd⟩ := bd_ex hd
  refine r_puti (ci := 3) (k := 6) C fl_X4_144 rfl (Or.inl rfl) dX4_askAll_54 hR hS g3 (fun H locs hR hS => ?_)
  replace hR : Rp b0 D E G4 H := by rw [eG4]; exact hR
  refine x_aload_n C dX4_askAll_57 hL 1 rfl ?_
  obtain ⟨g5, hd⟩ := gd_ex hd
  refine r_getr (ci := 3) (k := 2) C fl_X4_118 rfl dX4_askAll_58 hR g5 ?_
  refine lv_iconst (v := 2) hx hb dX4_askAll_61 (by decide) ?_
  refine x_aload_n C dX4_askAll_62 hL 0 rfl ?_
  obtain ⟨g6, hd⟩ := gd_ex hd
  refine r_geti (ci := 4) (k := 1) C fl_X4_15 rfl dX4_askAll_63 hR g6 ?_
  obtain ⟨g7, hd⟩ := gd_ex hd
  obtain ⟨v9, G10, h8, hd⟩ := b2_ex hd
  refine r_callV (a := (hr G4 x1 2)) (ci := 7) (As := [.int 2, .int (hi G4 x0 1)]) C (ct_X7_open h8) mf_X7_open ml_X4_136 mv_X7_open rfl ⟨Nat.le_of_ble_eq_true rfl, Nat.le_of_ble_eq_true rfl⟩ dX4_askAll_66 (lx_size hL) rfl hR hS g7 ⟨Nat.le_refl _, Nat.le_refl _⟩ (cat_le [] (Nat.le_of_ble_eq_true rfl)) (fun H locs hR hS => ?_)
  refine W_st (st2 := [rv v9]) rfl ?_
  refine lv_pop hx hb dX4_askAll_69 (rv_cat _) ?_
  cases hd
  exact r_vret C dX4_askAll_70 hR hS
set_option maxHeartbeats 4000000 in
set_option maxRecDepth 100000 in
theorem k_X4_askAll (C : Cx p s m args meth c RX4 cX4_askAll 2 none b0 D E) {GG : Hp} {x0 : Nat} {x1 : Nat} {G : Hp} {ls : Array Slot} {H : Heap} {locs : List Loc} : lx ls 2 [(0, .inr x0), (1, .inr x1)] → Rp b0 D E G H → SS b0 s H locs → d_X4_askAll x0 x1 G = some GG → W p l e (rmd 2 (0) (0)) s m args below meth c H locs (0) (0) (MQ below (CQ b0 D E none GG) args s (0) (0) (fun q => b0 ≤ q)) (F0 m 0 ls []) := by
  intro hL hR hS hd
  unfold d_X4_askAll at hd
  have hx := C.1
  have hb := C.2.1
  refine x_aload_n C dX4_askAll_0 hL 1 rfl ?_
  refine r_ifnull (tgt := 21) C dX4_askAll_1 (by decide) (fun c1 => ?_) (fun c1 => ?_)
  · rw [if_pos c1] at hd
    cases hd
    exact r_vret C dX4_askAll_21 hR hS
  · rw [if_neg c1] at hd
    refine x_aload_n C dX4_askAll_4 hL 1 rfl ?_
    obtain ⟨g2, hd⟩ := gd_ex hd
    refine r_getr (ci := 3) (k := 2) C fl_X4_118 rfl dX4_askAll_5 hR g2 ?_
    obtain ⟨g3, hd⟩ := gd_ex hd
    refine r_geti (ci := 7) (k := 2) C fl_X4_122 rfl dX4_askAll_8 hR g3 ?_
    refine lv_if_eq (tgt := 21) hx hb dX4_askAll_11 (by decide) (fun c4 => ?_) (fun c4 => ?_)
    · rw [if_pos c4] at hd
      cases hd
      exact r_vret C dX4_askAll_21 hR hS
    · rw [if_neg c4] at hd
      refine x_aload_n C dX4_askAll_14 hL 1 rfl ?_
      obtain ⟨v6, h5, hd⟩ := bo_ex hd
      refine r_callV (a := x1) (ci := 3) (As := []) C (ct_X3_isAsking h5) mf_X3_isAsking ml_X4_140 mv_X3_isAsking rfl ⟨Nat.le_of_ble_eq_true rfl, Nat.le_of_ble_eq_true rfl⟩ dX4_askAll_15 (lx_size hL) rfl hR hS g2 ⟨Nat.le_refl _, Nat.le_refl _⟩ (cat_le [] (Nat.le_of_ble_eq_true rfl)) (fun H locs hR hS => ?_)
      refine W_st (st2 := [.int v6]) rfl ?_
      refine lv_if_ne (tgt := 22) hx hb dX4_askAll_18 (by decide) (fun c7 => ?_) (fun c7 => ?_)
      · rw [if_neg c7] at hd
        refine x_aload_n C dX4_askAll_22 hL 1 rfl ?_
        refine r_geti (ci := 3) (k := 6) C fl_X4_144 rfl dX4_askAll_23 hR g2 ?_
        refine lv_if_eq (tgt := 46) hx hb dX4_askAll_26 (by decide) (fun c8 => ?_) (fun c8 => ?_)
        · rw [if_pos c8] at hd
          exact k_X4_askAll_46 C hL hR hS hd
        · rw [if_neg c8] at hd
          refine x_aload_n C dX4_askAll_29 hL 0 rfl ?_
          obtain ⟨g9, hd⟩ := gd_ex hd
          refine r_getr (ci := 4) (k := 0) C fl_X4_9 rfl dX4_askAll_30 hR g9 ?_
          obtain ⟨g10, hd⟩ := gd_ex hd
          refine r_geti (ci := 2) (k := 4) C fl_X4_131 rfl dX4_askAll_33 hR g10 ?_
          refine x_aload_n C dX4_askAll_36 hL 1 rfl ?_
          refine r_geti (ci := 3) (k := 6) C fl_X4_144 rfl dX4_askAll_37 hR g2 ?_
          refine lv_isub hx hb dX4_askAll_40 ?_
          refine lv_bipush (v := 25) hx hb dX4_askAll_41 (by decide) ?_
          refine lv_icmp_lt (tgt := 70) hx hb dX4_askAll_43 (by decide) (fun c11 => ?_) (fun c11 => ?_)
          · rw [if_pos c11] at hd
            cases hd
            exact r_vret C dX4_askAll_70 hR hS
          · rw [if_neg c11] at hd
            exact k_X4_askAll_46 C hL hR hS hd
      · rw [if_pos c7] at hd
        cases hd
        exact r_vret C dX4_askAll_21 hR hS
end
set_option maxHeartbeats 4000000 in
set_option maxRecDepth 100000 in
theorem ct_X4_askAll {l : Launch} {b0 : Nat} {D : va_G} {E : Nat → ClassId} {G : Hp} {a0 : Nat} {a1 : Nat} {GG : Hp} (hd : d_X4_askAll a0 a1 G = some GG) : CT l yX4_askAll cX4_askAll 2 none 2 0 0 b0 D E [rv a0, rv a1] G none GG := by
  refine CT_of (by decide +kernel) ?_
  intro p e s m below meth c C hnm hR
  refine r_entry [.inr a0, .inr a1] (n := 2) (Nat.le_of_ble_eq_true rfl) (lv := [(0, .inr a0), (1, .inr a1)]) rfl (fun ls hL => ?_)
  exact k_X4_askAll C (lx_sub hL [0, 1] rfl) hR ⟨fun _ _ => rfl, fun _ h => by cases h⟩ hd

/-! GroveWorks$Tree.checkStraight()V -/
theorem dX5_checkStraight_0 : decode cX5_checkStraight 0 = .ok (.iconst 0, 1) := by decide +kernel
theorem dX5_checkStraight_1 : decode cX5_checkStraight 1 = .ok (.istore_n 1, 1) := by decide +kernel
theorem dX5_checkStraight_2 : decode cX5_checkStraight 2 = .ok (.iload_n 1, 1) := by decide +kernel
theorem dX5_checkStraight_3 : decode cX5_checkStraight 3 = .ok (.bipush 16, 2) := by decide +kernel
theorem dX5_checkStraight_5 : decode cX5_checkStraight 5 = .ok (.if_icmp .ge 60, 3) := by decide +kernel
theorem dX5_checkStraight_8 : decode cX5_checkStraight 8 = .ok (.aload_n 0, 1) := by decide +kernel
theorem dX5_checkStraight_9 : decode cX5_checkStraight 9 = .ok (.getfield 9, 3) := by decide +kernel
theorem dX5_checkStraight_12 : decode cX5_checkStraight 12 = .ok (.ifCond .eq 53, 3) := by decide +kernel
theorem dX5_checkStraight_15 : decode cX5_checkStraight 15 = .ok (.aload_n 0, 1) := by decide +kernel
theorem dX5_checkStraight_16 : decode cX5_checkStraight 16 = .ok (.iload_n 1, 1) := by decide +kernel
theorem dX5_checkStraight_17 : decode cX5_checkStraight 17 = .ok (.invokevirtual 102, 3) := by decide +kernel
theorem dX5_checkStraight_20 : decode cX5_checkStraight 20 = .ok (.ifCond .ne 6, 3) := by decide +kernel
theorem dX5_checkStraight_23 : decode cX5_checkStraight 23 = .ok (.goto 36, 3) := by decide +kernel
theorem dX5_checkStraight_26 : decode cX5_checkStraight 26 = .ok (.aload_n 0, 1) := by decide +kernel
theorem dX5_checkStraight_27 : decode cX5_checkStraight 27 = .ok (.iload_n 1, 1) := by decide +kernel
theorem dX5_checkStraight_28 : decode cX5_checkStraight 28 = .ok (.invokevirtual 129, 3) := by decide +kernel
theorem dX5_checkStraight_31 : decode cX5_checkStraight 31 = .ok (.aload_n 0, 1) := by decide +kernel
theorem dX5_checkStraight_32 : decode cX5_checkStraight 32 = .ok (.getfield 46, 3) := by decide +kernel
theorem dX5_checkStraight_35 : decode cX5_checkStraight 35 = .ok (.ifCond .eq 17, 3) := by decide +kernel
theorem dX5_checkStraight_38 : decode cX5_checkStraight 38 = .ok (.aload_n 0, 1) := by decide +kernel
theorem dX5_checkStraight_39 : decode cX5_checkStraight 39 = .ok (.iload_n 1, 1) := by decide +kernel
theorem dX5_checkStraight_40 : decode cX5_checkStraight 40 = .ok (.invokevirtual 154, 3) := by decide +kernel
theorem dX5_checkStraight_43 : decode cX5_checkStraight 43 = .ok (.aload_n 0, 1) := by decide +kernel
theorem dX5_checkStraight_44 : decode cX5_checkStraight 44 = .ok (.getfield 31, 3) := by decide +kernel
theorem dX5_checkStraight_47 : decode cX5_checkStraight 47 = .ok (.iload_n 1, 1) := by decide +kernel
theorem dX5_checkStraight_48 : decode cX5_checkStraight 48 = .ok (.iaload, 1) := by decide +kernel
theorem dX5_checkStraight_49 : decode cX5_checkStraight 49 = .ok (.if_icmp .eq 10, 3) := by decide +kernel
theorem dX5_checkStraight_52 : decode cX5_checkStraight 52 = .ok (.aload_n 0, 1) := by decide +kernel
theorem dX5_checkStraight_53 : decode cX5_checkStraight 53 = .ok (.getfield 31, 3) := by decide +kernel
theorem dX5_checkStraight_56 : decode cX5_checkStraight 56 = .ok (.iload_n 1, 1) := by decide +kernel
theorem dX5_checkStraight_57 : decode cX5_checkStraight 57 = .ok (.iconst (-1), 1) := by decide +kernel
theorem dX5_checkStraight_58 : decode cX5_checkStraight 58 = .ok (.iastore, 1) := by decide +kernel
theorem dX5_checkStraight_59 : decode cX5_checkStraight 59 = .ok (.iinc 1 1, 3) := by decide +kernel
theorem dX5_checkStraight_62 : decode cX5_checkStraight 62 = .ok (.goto (-60), 3) := by decide +kernel
theorem dX5_checkStraight_65 : decode cX5_checkStraight 65 = .ok (.return_, 1) := by decide +kernel
def d_X5_checkStraight_52 (x0 : Nat) (x1 : Int32) (G : Hp) (k2 : Nat → Int32 → Hp → Option (Hp)) : Option (Hp) :=
  gd (hc G x0 = 6) <|
  gd (hc G (hr G x0 10) = 11 ∧ ix x1 (hl G (hr G x0 10))) <|
  bd (sI G (hr G x0 10) x1.toNatClampNeg (-1)) fun G3 =>
  k2 x0 (x1 + 1) G3
def d_X5_checkStraight_2 : Nat → Nat → Int32 → Hp → Option (Hp)
  | 0, _, _, _ => none
  | n_ + 1, x0, x1, G =>
    if 16 ≤ x1 then
      some G
    else
      gd (hc G x0 = 6) <|
      if (hi G x0 4) = 0 then
        some G
      else
        bo (d_X5_isStraight x0 x1 G) fun v5 =>
        if v5 = 0 then
          d_X5_checkStraight_2 n_ x0 (x1 + 1) G
        else
          bo (d_X5_look x0 x1 G) fun G8 =>
          gd (hc G8 x0 = 6) <|
          if (hi G8 x0 15) = 0 then
            d_X5_checkStraight_52 x0 x1 G8 (fun y0 y1 Gy => d_X5_checkStraight_2 n_ y0 y1 Gy)
          else
            bo (d_X5_portToSource x0 x1 G8) fun v12 =>
            gd (hc G8 (hr G8 x0 10) = 11 ∧ ix x1 (hl G8 (hr G8 x0 10))) <|
            if v12 = (hi G8 (hr G8 x0 10) x1.toNatClampNeg) then
              d_X5_checkStraight_2 n_ x0 (x1 + 1) G8
            else
              d_X5_checkStraight_52 x0 x1 G8 (fun y0 y1 Gy => d_X5_checkStraight_2 n_ y0 y1 Gy)
def d_X5_checkStraight (x0 : Nat) (G : Hp) : Option (Hp) :=
  d_X5_checkStraight_2 FU x0 0 G
section
variable {p : Program} {l : Launch} {e : Env} {s : State} {m : MethodId} {args : Array Value} {below : List Frame} {meth : Method} {c : Code} {b0 : Nat} {D : va_G} {E : Nat → ClassId}
set_option maxHeartbeats 4000000 in
set_option maxRecDepth 100000 in
theorem k_X5_checkStraight_52 (C : Cx p s m args meth c RX5 cX5_checkStraight 2 none b0 D E) {GG : Hp} {k2 : Nat → Int32 → Hp → Option (Hp)} (hk2 : ∀ (y0 : Nat) (y1 : Int32) (Gy : Hp) (H1 : Heap) (locs1 : List Loc) (ls1 : Array Slot), lx ls1 2 [(0, .inr y0), (1, .inl y1)] → Rp b0 D E Gy H1 → SS b0 s H1 locs1 → k2 y0 y1 Gy = some GG → W p l e (rmd 4 (0) (0)) s m args below meth c H1 locs1 (0) (0) (MQ below (CQ b0 D E none GG) args s (0) (0) (fun q => b0 ≤ q)) (F0 m 2 ls1 [])) {x0 : Nat} {x1 : Int32} {G : Hp} {ls : Array Slot} {H : Heap} {locs : List Loc} : lx ls 2 [(0, .inr x0), (1, .inl x1)] → Rp b0 D E G H → SS b0 s H locs → d_X5_checkStraight_52 x0 x1 G k2 = some GG → W p l e (rmd 4 (0) (0)) s m args below meth c H locs (0) (0) (MQ below (CQ b0 D E none GG) args s (0) (0) (fun q => b0 ≤ q)) (F0 m 52 ls []) := by
  intro hL hR hS hd
  unfold d_X5_checkStraight_52 at hd
  have hx := C.1
  have hb := C.2.1
  refine x_aload_n C dX5_checkStraight_52 hL 0 rfl ?_
  obtain ⟨g1, hd⟩ := gd_ex hd
  refine r_getr (ci := 5) (k := 10) C fl_X5_31 rfl dX5_checkStraight_53 hR g1 ?_
  refine x_iload_n C dX5_checkStraight_56 hL 1 rfl ?_
  refine lv_iconst (v := (-1)) hx hb dX5_checkStraight_57 (by decide) ?_
  obtain ⟨g2, hd⟩ := gd_ex hd
  obtain ⟨G3, eG3, hd⟩ := bd_ex hd
  refine r_iast C dX5_checkStraight_58 hR hS g2 (fun H locs hR hS => ?_)
  replace hR : Rp b0 D E G3 H := by rw [eG3]; exact hR
  refine x_iinc (lv' := [(1, .inl (x1 + 1)), (0, .inr x0)]) C dX5_checkStraight_59 hL 1 rfl rfl (by decide) rfl (fun ls hL => ?_)
  refine lv_goto (tgt := 2) hx hb dX5_checkStraight_62 (by decide) ?_
  exact hk2 _ _ _ _ _ _ (lx_sub hL [1, 0] rfl) hR hS hd
set_option maxHeartbeats 4000000 in
set_option maxRecDepth 100000 in
theorem k_X5_checkStraight_2 (C : Cx p s m args meth c RX5 cX5_checkStraight 2 none b0 D E) {GG : Hp} : ∀ (n_ : Nat) {x0 : Nat} {x1 : Int32} {G : Hp} {ls : Array Slot} {H : Heap} {locs : List Loc}, lx ls 2 [(0, .inr x0), (1, .inl x1)] → Rp b0 D E G H → SS b0 s H locs → d_X5_checkStraight_2 n_ x0 x1 G = some GG → W p l e (rmd 4 (0) (0)) s m args below meth c H locs (0) (0) (MQ below (CQ b0 D E none GG) args s (0) (0) (fun q => b0 ≤ q)) (F0 m 2 ls []) := by
  intro n_
  induction n_ with
  | zero =>
    intro x0 x1 G ls H locs hL hR hS hd
    cases (show (none : Option _) = some _ from hd)
  | succ n_ ih =>
    intro x0 x1 G ls H locs hL hR hS hd
    rw [d_X5_checkStraight_2.eq_2] at hd
    have hx := C.1
    have hb := C.2.1
    refine x_iload_n C dX5_checkStraight_2 hL 1 rfl ?_
    refine lv_bipush (v := 16) hx hb dX5_checkStraight_3 (by decide) ?_
    refine lv_icmp_ge (tgt := 65) hx hb dX5_checkStraight_5 (by decide) (fun c1 => ?_) (fun c1 => ?_)
    · rw [if_pos c1] at hd
      cases hd
      exact r_vret C dX5_checkStraight_65 hR hS
    · rw [if_neg c1] at hd
      refine x_aload_n C dX5_checkStraight_8 hL 0 rfl ?_
      obtain ⟨g2, hd⟩ := gd_ex hd
      refine r_geti (ci := 5) (k := 4) C fl_X5_9 rfl dX5_checkStraight_9 hR g2 ?_
      refine lv_if_eq (tgt := 65) hx hb dX5_checkStraight_12 (by decide) (fun c3 => ?_) (fun c3 => ?_)
      · rw [if_pos c3] at hd
        cases hd
        exact r_vret C dX5_checkStraight_65 hR hS
      · rw [if_neg c3] at hd
        refine x_aload_n C dX5_checkStraight_15 hL 0 rfl ?_
        refine x_iload_n C dX5_checkStraight_16 hL 1 rfl ?_
        obtain ⟨v5, h4, hd⟩ := bo_ex hd
        refine r_callV (a := x0) (ci := 5) (As := [.int x1]) C (ct_X5_isStraight h4) mf_X5_isStraight ml_X5_102 mv_X5_isStraight rfl ⟨Nat.le_of_ble_eq_true rfl, Nat.le_of_ble_eq_true rfl⟩ dX5_checkStraight_17 (lx_size hL) rfl hR hS g2 ⟨Nat.le_refl _, Nat.le_refl _⟩ (cat_le [] (Nat.le_of_ble_eq_true rfl)) (fun H locs hR hS => ?_)
        refine W_st (st2 := [.int v5]) rfl ?_
        refine lv_if_ne (tgt := 26) hx hb dX5_checkStraight_20 (by decide) (fun c6 => ?_) (fun c6 => ?_)
        · rw [if_neg c6] at hd
          refine x_aload_n C dX5_checkStraight_26 hL 0 rfl ?_
          refine x_iload_n C dX5_checkStraight_27 hL 1 rfl ?_
          obtain ⟨G8, h7, hd⟩ := bo_ex hd
          refine r_callV (a := x0) (ci := 5) (As := [.int x1]) C (ct_X5_look h7) mf_X5_look ml_X5_129 mv_X5_look rfl ⟨Nat.le_of_ble_eq_true rfl, Nat.le_of_ble_eq_true rfl⟩ dX5_checkStraight_28 (lx_size hL) rfl hR hS g2 ⟨Nat.le_refl _, Nat.le_refl _⟩ (cat_le [] (Nat.le_of_ble_eq_true rfl)) (fun H locs hR hS => ?_)
          refine W_st (st2 := []) rfl ?_
          refine x_aload_n C dX5_checkStraight_31 hL 0 rfl ?_
          obtain ⟨g9, hd⟩ := gd_ex hd
          refine r_geti (ci := 5) (k := 15) C fl_X5_46 rfl dX5_checkStraight_32 hR g9 ?_
          refine lv_if_eq (tgt := 52) hx hb dX5_checkStraight_35 (by decide) (fun c10 => ?_) (fun c10 => ?_)
          · rw [if_pos c10] at hd
            exact k_X5_checkStraight_52 C (fun y0 y1 Gy H1 locs1 ls1 hL1 hR1 hS1 hd1 => ih hL1 hR1 hS1 hd1) hL hR hS hd
          · rw [if_neg c10] at hd
            refine x_aload_n C dX5_checkStraight_38 hL 0 rfl ?_
            refine x_iload_n C dX5_checkStraight_39 hL 1 rfl ?_
            obtain ⟨v12, h11, hd⟩ := bo_ex hd
            refine r_callV (a := x0) (ci := 5) (As := [.int x1]) C (ct_X5_portToSource h11) mf_X5_portToSource ml_X5_154 mv_X5_portToSource rfl ⟨Nat.le_of_ble_eq_true rfl, Nat.le_of_ble_eq_true rfl⟩ dX5_checkStraight_40 (lx_size hL) rfl hR hS g9 ⟨Nat.le_refl _, Nat.le_refl _⟩ (cat_le [] (Nat.le_of_ble_eq_true rfl)) (fun H locs hR hS => ?_)
            refine W_st (st2 := [.int v12]) rfl ?_
            refine x_aload_n C dX5_checkStraight_43 hL 0 rfl ?_
            refine r_getr (ci := 5) (k := 10) C fl_X5_31 rfl dX5_checkStraight_44 hR g9 ?_
            refine x_iload_n C dX5_checkStraight_47 hL 1 rfl ?_
            obtain ⟨g13, hd⟩ := gd_ex hd
            refine r_iald C dX5_checkStraight_48 hR g13 ?_
            refine lv_icmp_eq (tgt := 59) hx hb dX5_checkStraight_49 (by decide) (fun c14 => ?_) (fun c14 => ?_)
            · rw [if_pos c14] at hd
              refine x_iinc (lv' := [(1, .inl (x1 + 1)), (0, .inr x0)]) C dX5_checkStraight_59 hL 1 rfl rfl (by decide) rfl (fun ls hL => ?_)
              refine lv_goto (tgt := 2) hx hb dX5_checkStraight_62 (by decide) ?_
              exact ih (lx_sub hL [1, 0] rfl) hR hS hd
            · rw [if_neg c14] at hd
              exact k_X5_checkStraight_52 C (fun y0 y1 Gy H1 locs1 ls1 hL1 hR1 hS1 hd1 => ih hL1 hR1 hS1 hd1) hL hR hS hd
        · rw [if_pos c6] at hd
          refine lv_goto (tgt := 59) hx hb dX5_checkStraight_23 (by decide) ?_
          refine x_iinc (lv' := [(1, .inl (x1 + 1)), (0, .inr x0)]) C dX5_checkStraight_59 hL 1 rfl rfl (by decide) rfl (fun ls hL => ?_)
          refine lv_goto (tgt := 2) hx hb dX5_checkStraight_62 (by decide) ?_
          exact ih (lx_sub hL [1, 0] rfl) hR hS hd
set_option maxHeartbeats 4000000 in
set_option maxRecDepth 100000 in
theorem k_X5_checkStraight (C : Cx p s m args meth c RX5 cX5_checkStraight 2 none b0 D E) {GG : Hp} {x0 : Nat} {G : Hp} {ls : Array Slot} {H : Heap} {locs : List Loc} : lx ls 2 [(0, .inr x0)] → Rp b0 D E G H → SS b0 s H locs → d_X5_checkStraight x0 G = some GG → W p l e (rmd 4 (0) (0)) s m args below meth c H locs (0) (0) (MQ below (CQ b0 D E none GG) args s (0) (0) (fun q => b0 ≤ q)) (F0 m 0 ls []) := by
  intro hL hR hS hd
  unfold d_X5_checkStraight at hd
  have hx := C.1
  have hb := C.2.1
  refine lv_iconst (v := 0) hx hb dX5_checkStraight_0 (by decide) ?_
  refine x_istore_n (lv' := [(1, .inl 0), (0, .inr x0)]) C dX5_checkStraight_1 hL (by decide) rfl (fun ls hL => ?_)
  exact k_X5_checkStraight_2 C FU (lx_sub hL [1, 0] rfl) hR hS hd
end
set_option maxHeartbeats 4000000 in
set_option maxRecDepth 100000 in
theorem ct_X5_checkStraight {l : Launch} {b0 : Nat} {D : va_G} {E : Nat → ClassId} {G : Hp} {a0 : Nat} {GG : Hp} (hd : d_X5_checkStraight a0 G = some GG) : CT l yX5_checkStraight cX5_checkStraight 2 none 4 0 0 b0 D E [rv a0] G none GG := by
  refine CT_of (by decide +kernel) ?_
  intro p e s m below meth c C hnm hR
  refine r_entry [.inr a0] (n := 2) (Nat.le_of_ble_eq_true rfl) (lv := [(0, .inr a0)]) rfl (fun ls hL => ?_)
  exact k_X5_checkStraight C (lx_sub hL [0] rfl) hR ⟨fun _ _ => rfl, fun _ h => by cases h⟩ hd

/-! GroveWorks$Tree.base()I pure -/
theorem dX5_base_0 : decode cX5_base 0 = .ok (.iconst 0, 1) := by decide +kernel
theorem dX5_base_1 : decode cX5_base 1 = .ok (.istore_n 1, 1) := by decide +kernel
theorem dX5_base_2 : decode cX5_base 2 = .ok (.iconst 0, 1) := by decide +kernel
theorem dX5_base_3 : decode cX5_base 3 = .ok (.istore_n 2, 1) := by decide +kernel
theorem dX5_base_4 : decode cX5_base 4 = .ok (.iload_n 2, 1) := by decide +kernel
theorem dX5_base_5 : decode cX5_base 5 = .ok (.iconst 4, 1) := by decide +kernel
theorem dX5_base_6 : decode cX5_base 6 = .ok (.if_icmp .ge 58, 3) := by decide +kernel
theorem dX5_base_9 : decode cX5_base 9 = .ok (.aload_n 0, 1) := by decide +kernel
theorem dX5_base_10 : decode cX5_base 10 = .ok (.getfield 60, 3) := by decide +kernel
theorem dX5_base_13 : decode cX5_base 13 = .ok (.iload_n 2, 1) := by decide +kernel
theorem dX5_base_14 : decode cX5_base 14 = .ok (.aaload, 1) := by decide +kernel
theorem dX5_base_15 : decode cX5_base 15 = .ok (.ifnull 43, 3) := by decide +kernel
theorem dX5_base_18 : decode cX5_base 18 = .ok (.aload_n 0, 1) := by decide +kernel
theorem dX5_base_19 : decode cX5_base 19 = .ok (.getfield 60, 3) := by decide +kernel
theorem dX5_base_22 : decode cX5_base 22 = .ok (.iload_n 2, 1) := by decide +kernel
theorem dX5_base_23 : decode cX5_base 23 = .ok (.aaload, 1) := by decide +kernel
theorem dX5_base_24 : decode cX5_base 24 = .ok (.aload_n 0, 1) := by decide +kernel
theorem dX5_base_25 : decode cX5_base 25 = .ok (.getfield 57, 3) := by decide +kernel
theorem dX5_base_28 : decode cX5_base 28 = .ok (.bipush 16, 2) := by decide +kernel
theorem dX5_base_30 : decode cX5_base 30 = .ok (.invokevirtual 99, 3) := by decide +kernel
theorem dX5_base_33 : decode cX5_base 33 = .ok (.ifCond .ne 19, 3) := by decide +kernel
theorem dX5_base_36 : decode cX5_base 36 = .ok (.aload_n 0, 1) := by decide +kernel
theorem dX5_base_37 : decode cX5_base 37 = .ok (.getfield 60, 3) := by decide +kernel
theorem dX5_base_40 : decode cX5_base 40 = .ok (.iload_n 2, 1) := by decide +kernel
theorem dX5_base_41 : decode cX5_base 41 = .ok (.aaload, 1) := by decide +kernel
theorem dX5_base_42 : decode cX5_base 42 = .ok (.aload_n 0, 1) := by decide +kernel
theorem dX5_base_43 : decode cX5_base 43 = .ok (.getfield 57, 3) := by decide +kernel
theorem dX5_base_46 : decode cX5_base 46 = .ok (.invokevirtual 93, 3) := by decide +kernel
theorem dX5_base_49 : decode cX5_base 49 = .ok (.ifCond .eq 9, 3) := by decide +kernel
theorem dX5_base_52 : decode cX5_base 52 = .ok (.iload_n 1, 1) := by decide +kernel
theorem dX5_base_53 : decode cX5_base 53 = .ok (.iconst 1, 1) := by decide +kernel
theorem dX5_base_54 : decode cX5_base 54 = .ok (.iload_n 2, 1) := by decide +kernel
theorem dX5_base_55 : decode cX5_base 55 = .ok (.ishl, 1) := by decide +kernel
theorem dX5_base_56 : decode cX5_base 56 = .ok (.ior, 1) := by decide +kernel
theorem dX5_base_57 : decode cX5_base 57 = .ok (.istore_n 1, 1) := by decide +kernel
theorem dX5_base_58 : decode cX5_base 58 = .ok (.iinc 2 1, 3) := by decide +kernel
theorem dX5_base_61 : decode cX5_base 61 = .ok (.goto (-57), 3) := by decide +kernel
theorem dX5_base_64 : decode cX5_base 64 = .ok (.iload_n 1, 1) := by decide +kernel
theorem dX5_base_65 : decode cX5_base 65 = .ok (.ireturn, 1) := by decide +kernel
def d_X5_base_52 (x0 : Nat) (x1 : Int32) (x2 : Int32) (G : Hp) (k4 : Nat → Int32 → Int32 → Option (Int32)) : Option (Int32) :=
  bd ((x1 ||| (1 <<< (x2 &&& 31)))) fun v1 =>
  k4 x0 v1 (x2 + 1)
def d_X5_base_4 : Nat → Nat → Int32 → Int32 → Hp → Option (Int32)
  | 0, _, _, _, _ => none
  | n_ + 1, x0, x1, x2, G =>
    if 4 ≤ x2 then
      some x1
    else
      gd (hc G x0 = 6) <|
      gd (hc G (hr G x0 3) = 16 ∧ ix x2 (hl G (hr G x0 3))) <|
      if (hr G (hr G x0 3) x2.toNatClampNeg) = 0 then
        d_X5_base_4 n_ x0 x1 (x2 + 1) G
      else
        gd (hc G (hr G x0 3) = 16 ∧ ix x2 (hl G (hr G x0 3))) <|
        gd (hc G (hr G (hr G x0 3) x2.toNatClampNeg) = 4) <|
        bo (d_X3_isJoined (hr G (hr G x0 3) x2.toNatClampNeg) (hi G x0 2) 16 G) fun v8 =>
        if v8 = 0 then
          gd (hc G (hr G x0 3) = 16 ∧ ix x2 (hl G (hr G x0 3))) <|
          bo (d_X3_isOwn (hr G (hr G x0 3) x2.toNatClampNeg) (hi G x0 2) G) fun v12 =>
          if v12 = 0 then
            d_X5_base_4 n_ x0 x1 (x2 + 1) G
          else
            d_X5_base_52 x0 x1 x2 G (fun y0 y1 y2 => d_X5_base_4 n_ y0 y1 y2 G)
        else
          d_X5_base_52 x0 x1 x2 G (fun y0 y1 y2 => d_X5_base_4 n_ y0 y1 y2 G)
def d_X5_base (x0 : Nat) (G : Hp) : Option (Int32) :=
  d_X5_base_4 FU x0 0 0 G
section
variable {p : Program} {l : Launch} {e : Env} {s : State} {m : MethodId} {args : Array Value} {below : List Frame} {meth : Method} {c : Code} {b0 : Nat} {D : va_G} {E : Nat → ClassId}
set_option maxHeartbeats 4000000 in
set_option maxRecDepth 100000 in
theorem k_X5_base_52 (C : Cx p s m args meth c RX5 cX5_base 3 (some .int) b0 D E) {rr : Int32} {G : Hp} {k4 : Nat → Int32 → Int32 → Option (Int32)} (hk4 : ∀ (y0 : Nat) (y1 : Int32) (y2 : Int32) (H1 : Heap) (locs1 : List Loc) (ls1 : Array Slot), lx ls1 3 [(0, .inr y0), (1, .inl y1), (2, .inl y2)] → Rp b0 D E G H1 → SS b0 s H1 locs1 → k4 y0 y1 y2 = some rr → W p l e (rmd 2 (0) (0)) s m args below meth c H1 locs1 (0) (0) (MQ below (CQ b0 D E (some (.int rr)) G) args s (0) (0) (fun q => b0 ≤ q)) (F0 m 4 ls1 [])) {x0 : Nat} {x1 : Int32} {x2 : Int32} {ls : Array Slot} {H : Heap} {locs : List Loc} : lx ls 3 [(0, .inr x0), (1, .inl x1), (2, .inl x2)] → Rp b0 D E G H → SS b0 s H locs → d_X5_base_52 x0 x1 x2 G k4 = some rr → W p l e (rmd 2 (0) (0)) s m args below meth c H locs (0) (0) (MQ below (CQ b0 D E (some (.int rr)) G) args s (0) (0) (fun q => b0 ≤ q)) (F0 m 52 ls []) := by
  intro hL hR hS hd
  unfold d_X5_base_52 at hd
  have hx := C.1
  have hb := C.2.1
  refine x_iload_n C dX5_base_52 hL 1 rfl ?_
  refine lv_iconst (v := 1) hx hb dX5_base_53 (by decide) ?_
  refine x_iload_n C dX5_base_54 hL 2 rfl ?_
  refine lv_ishl hx hb dX5_base_55 ?_
  refine lv_ior hx hb dX5_base_56 ?_
  obtain ⟨v1, ev1, hd⟩ := bd_ex hd
  rw [← ev1]
  refine x_istore_n (lv' := [(1, .inl v1), (0, .inr x0), (2, .inl x2)]) C dX5_base_57 hL (by decide) rfl (fun ls hL => ?_)
  refine x_iinc (lv' := [(2, .inl (x2 + 1)), (1, .inl v1), (0, .inr x0)]) C dX5_base_58 hL 2 rfl rfl (by decide) rfl (fun ls hL => ?_)
  refine lv_goto (tgt := 4) hx hb dX5_base_61 (by decide) ?_
  exact hk4 _ _ _ _ _ _ (lx_sub hL [2, 1, 0] rfl) hR hS hd
set_option maxHeartbeats 4000000 in
set_option maxRecDepth 100000 in
theorem k_X5_base_4 (C : Cx p s m args meth c RX5 cX5_base 3 (some .int) b0 D E) {rr : Int32} {G : Hp} : ∀ (n_ : Nat) {x0 : Nat} {x1 : Int32} {x2 : Int32} {ls : Array Slot} {H : Heap} {locs : List Loc}, lx ls 3 [(0, .inr x0), (1, .inl x1), (2, .inl x2)] → Rp b0 D E G H → SS b0 s H locs → d_X5_base_4 n_ x0 x1 x2 G = some rr → W p l e (rmd 2 (0) (0)) s m args below meth c H locs (0) (0) (MQ below (CQ b0 D E (some (.int rr)) G) args s (0) (0) (fun q => b0 ≤ q)) (F0 m 4 ls []) := by
  intro n_
  induction n_ with
  | zero =>
    intro x0 x1 x2 ls H locs hL hR hS hd
    cases (show (none : Option _) = some _ from hd)
  | succ n_ ih =>
    intro x0 x1 x2 ls H locs hL hR hS hd
    rw [d_X5_base_4.eq_2] at hd
    have hx := C.1
    have hb := C.2.1
    refine x_iload_n C dX5_base_4 hL 2 rfl ?_
    refine lv_iconst (v := 4) hx hb dX5_base_5 (by decide) ?_
    refine lv_icmp_ge (tgt := 64) hx hb dX5_base_6 (by decide) (fun c1 => ?_) (fun c1 => ?_)
    · rw [if_pos c1] at hd
      refine x_iload_n C dX5_base_64 hL 1 rfl ?_
      cases hd
      exact r_iret C dX5_base_65 hR hS
    · rw [if_neg c1] at hd
      refine x_aload_n C dX5_base_9 hL 0 rfl ?_
      obtain ⟨g2, hd⟩ := gd_ex hd
      refine r_getr (ci := 5) (k := 3) C fl_X5_60 rfl dX5_base_10 hR g2 ?_
      refine x_iload_n C dX5_base_13 hL 2 rfl ?_
      obtain ⟨g3, hd⟩ := gd_ex hd
      refine r_aald (ci := 3) C (by decide) dX5_base_14 hR g3 ?_
      refine r_ifnull (tgt := 58) C dX5_base_15 (by decide) (fun c4 => ?_) (fun c4 => ?_)
      · rw [if_pos c4] at hd
        refine x_iinc (lv' := [(2, .inl (x2 + 1)), (0, .inr x0), (1, .inl x1)]) C dX5_base_58 hL 2 rfl rfl (by decide) rfl (fun ls hL => ?_)
        refine lv_goto (tgt := 4) hx hb dX5_base_61 (by decide) ?_
        exact ih (lx_sub hL [1, 2, 0] rfl) hR hS hd
      · rw [if_neg c4] at hd
        refine x_aload_n C dX5_base_18 hL 0 rfl ?_
        refine r_getr (ci := 5) (k := 3) C fl_X5_60 rfl dX5_base_19 hR g2 ?_
        refine x_iload_n C dX5_base_22 hL 2 rfl ?_
        obtain ⟨g5, hd⟩ := gd_ex hd
        refine r_aald (ci := 3) C (by decide) dX5_base_23 hR g5 ?_
        refine x_aload_n C dX5_base_24 hL 0 rfl ?_
        refine r_geti (ci := 5) (k := 2) C fl_X5_57 rfl dX5_base_25 hR g2 ?_
        refine lv_bipush (v := 16) hx hb dX5_base_28 (by decide) ?_
        obtain ⟨g6, hd⟩ := gd_ex hd
        obtain ⟨v8, h7, hd⟩ := bo_ex hd
        refine r_callV (a := (hr G (hr G x0 3) x2.toNatClampNeg)) (ci := 3) (As := [.int (hi G x0 2), .int 16]) C (ct_X3_isJoined h7) mf_X3_isJoined ml_X5_99 mv_X3_isJoined rfl ⟨Nat.le_of_ble_eq_true rfl, Nat.le_of_ble_eq_true rfl⟩ dX5_base_30 (lx_size hL) rfl hR hS g6 ⟨Nat.le_refl _, Nat.le_refl _⟩ (cat_le [] (Nat.le_of_ble_eq_true rfl)) (fun H locs hR hS => ?_)
        refine W_st (st2 := [.int v8]) rfl ?_
        refine lv_if_ne (tgt := 52) hx hb dX5_base_33 (by decide) (fun c9 => ?_) (fun c9 => ?_)
        · rw [if_neg c9] at hd
          exact k_X5_base_52 C (fun y0 y1 y2 H1 locs1 ls1 hL1 hR1 hS1 hd1 => ih hL1 hR1 hS1 hd1) hL hR hS hd
        · rw [if_pos c9] at hd
          refine x_aload_n C dX5_base_36 hL 0 rfl ?_
          refine r_getr (ci := 5) (k := 3) C fl_X5_60 rfl dX5_base_37 hR g2 ?_
          refine x_iload_n C dX5_base_40 hL 2 rfl ?_
          obtain ⟨g10, hd⟩ := gd_ex hd
          refine r_aald (ci := 3) C (by decide) dX5_base_41 hR g10 ?_
          refine x_aload_n C dX5_base_42 hL 0 rfl ?_
          refine r_geti (ci := 5) (k := 2) C fl_X5_57 rfl dX5_base_43 hR g2 ?_
          obtain ⟨v12, h11, hd⟩ := bo_ex hd
          refine r_callV (a := (hr G (hr G x0 3) x2.toNatClampNeg)) (ci := 3) (As := [.int (hi G x0 2)]) C (ct_X3_isOwn h11) mf_X3_isOwn ml_X5_93 mv_X3_isOwn rfl ⟨Nat.le_of_ble_eq_true rfl, Nat.le_of_ble_eq_true rfl⟩ dX5_base_46 (lx_size hL) rfl hR hS g6 ⟨Nat.le_refl _, Nat.le_refl _⟩ (cat_le [] (Nat.le_of_ble_eq_true rfl)) (fun H locs hR hS => ?_)
          refine W_st (st2 := [.int v12]) rfl ?_
          refine lv_if_eq (tgt := 58) hx hb dX5_base_49 (by decide) (fun c13 => ?_) (fun c13 => ?_)
          · rw [if_pos c13] at hd
            refine x_iinc (lv' := [(2, .inl (x2 + 1)), (0, .inr x0), (1, .inl x1)]) C dX5_base_58 hL 2 rfl rfl (by decide) rfl (fun ls hL => ?_)
            refine lv_goto (tgt := 4) hx hb dX5_base_61 (by decide) ?_
            exact ih (lx_sub hL [1, 2, 0] rfl) hR hS hd
          · rw [if_neg c13] at hd
            exact k_X5_base_52 C (fun y0 y1 y2 H1 locs1 ls1 hL1 hR1 hS1 hd1 => ih hL1 hR1 hS1 hd1) hL hR hS hd
set_option maxHeartbeats 4000000 in
set_option maxRecDepth 100000 in
theorem k_X5_base (C : Cx p s m args meth c RX5 cX5_base 3 (some .int) b0 D E) {rr : Int32} {G : Hp} {x0 : Nat} {ls : Array Slot} {H : Heap} {locs : List Loc} : lx ls 3 [(0, .inr x0)] → Rp b0 D E G H → SS b0 s H locs → d_X5_base x0 G = some rr → W p l e (rmd 2 (0) (0)) s m args below meth c H locs (0) (0) (MQ below (CQ b0 D E (some (.int rr)) G) args s (0) (0) (fun q => b0 ≤ q)) (F0 m 0 ls []) := by
  intro hL hR hS hd
  unfold d_X5_base at hd
  have hx := C.1
  have hb := C.2.1
  refine lv_iconst (v := 0) hx hb dX5_base_0 (by decide) ?_
  refine x_istore_n (lv' := [(1, .inl 0), (0, .inr x0)]) C dX5_base_1 hL (by decide) rfl (fun ls hL => ?_)
  refine lv_iconst (v := 0) hx hb dX5_base_2 (by decide) ?_
  refine x_istore_n (lv' := [(2, .inl 0), (1, .inl 0), (0, .inr x0)]) C dX5_base_3 hL (by decide) rfl (fun ls hL => ?_)
  exact k_X5_base_4 C FU (lx_sub hL [2, 1, 0] rfl) hR hS hd
end
set_option maxHeartbeats 4000000 in
set_option maxRecDepth 100000 in
theorem ct_X5_base {l : Launch} {b0 : Nat} {D : va_G} {E : Nat → ClassId} {G : Hp} {a0 : Nat} {rr : Int32} (hd : d_X5_base a0 G = some rr) : CT l yX5_base cX5_base 3 (some .int) 2 0 0 b0 D E [rv a0] G (some (.int rr)) G := by
  refine CT_of (by decide +kernel) ?_
  intro p e s m below meth c C hnm hR
  refine r_entry [.inr a0] (n := 3) (Nat.le_of_ble_eq_true rfl) (lv := [(0, .inr a0)]) rfl (fun ls hL => ?_)
  exact k_X5_base C (lx_sub hL [0] rfl) hR ⟨fun _ _ => rfl, fun _ h => by cases h⟩ hd

/-! GroveWorks$Tree.wants(I)Z -/
theorem dX5_wants_0 : decode cX5_wants 0 = .ok (.iload_n 1, 1) := by decide +kernel
theorem dX5_wants_1 : decode cX5_wants 1 = .ok (.bipush 16, 2) := by decide +kernel
theorem dX5_wants_3 : decode cX5_wants 3 = .ok (.if_icmp .ne 23, 3) := by decide +kernel
theorem dX5_wants_6 : decode cX5_wants 6 = .ok (.aload_n 0, 1) := by decide +kernel
theorem dX5_wants_7 : decode cX5_wants 7 = .ok (.invokevirtual 121, 3) := by decide +kernel
theorem dX5_wants_10 : decode cX5_wants 10 = .ok (.ifCond .ne 14, 3) := by decide +kernel
theorem dX5_wants_13 : decode cX5_wants 13 = .ok (.aload_n 0, 1) := by decide +kernel
theorem dX5_wants_14 : decode cX5_wants 14 = .ok (.invokevirtual 125, 3) := by decide +kernel
theorem dX5_wants_17 : decode cX5_wants 17 = .ok (.ifCond .eq 7, 3) := by decide +kernel
theorem dX5_wants_20 : decode cX5_wants 20 = .ok (.iconst 1, 1) := by decide +kernel
theorem dX5_wants_21 : decode cX5_wants 21 = .ok (.goto 4, 3) := by decide +kernel
theorem dX5_wants_24 : decode cX5_wants 24 = .ok (.iconst 0, 1) := by decide +kernel
theorem dX5_wants_25 : decode cX5_wants 25 = .ok (.ireturn, 1) := by decide +kernel
theorem dX5_wants_26 : decode cX5_wants 26 = .ok (.aload_n 0, 1) := by decide +kernel
theorem dX5_wants_27 : decode cX5_wants 27 = .ok (.iload_n 1, 1) := by decide +kernel
theorem dX5_wants_28 : decode cX5_wants 28 = .ok (.invokevirtual 129, 3) := by decide +kernel
theorem dX5_wants_31 : decode cX5_wants 31 = .ok (.aload_n 0, 1) := by decide +kernel
theorem dX5_wants_32 : decode cX5_wants 32 = .ok (.getfield 46, 3) := by decide +kernel
theorem dX5_wants_35 : decode cX5_wants 35 = .ok (.ireturn, 1) := by decide +kernel
def d_X5_wants (x0 : Nat) (x1 : Int32) (G : Hp) : Option (Int32 × Hp) :=
  if x1 = 16 then
    gd (hc G x0 = 6) <|
    bo (d_X5_isMeeting x0 G) fun v9 =>
    if v9 = 0 then
      bo (d_X5_base x0 G) fun v12 =>
      if v12 = 0 then
        some (0, G)
      else
        some (1, G)
    else
      some (0, G)
  else
    gd (hc G x0 = 6) <|
    bo (d_X5_look x0 x1 G) fun G4 =>
    gd (hc G4 x0 = 6) <|
    gd ((hi G4 x0 15) &&& 1 = (hi G4 x0 15)) <|
    some ((hi G4 x0 15), G4)
section
variable {p : Program} {l : Launch} {e : Env} {s : State} {m : MethodId} {args : Array Value} {below : List Frame} {meth : Method} {c : Code} {b0 : Nat} {D : va_G} {E : Nat → ClassId}
set_option maxHeartbeats 4000000 in
set_option maxRecDepth 100000 in
theorem k_X5_wants (C : Cx p s m args meth c RX5 cX5_wants 2 (some .boolean) b0 D E) {rr : Int32} {GG : Hp} {x0 : Nat} {x1 : Int32} {G : Hp} {ls : Array Slot} {H : Heap} {locs : List Loc} : lx ls 2 [(0, .inr x0), (1, .inl x1)] → Rp b0 D E G H → SS b0 s H locs → d_X5_wants x0 x1 G = some (rr, GG) → W p l e (rmd 4 (0) (0)) s m args below meth c H locs (0) (0) (MQ below (CQ b0 D E (some (.int rr)) GG) args s (0) (0) (fun q => b0 ≤ q)) (F0 m 0 ls []) := by
  intro hL hR hS hd
  unfold d_X5_wants at hd
  have hx := C.1
  have hb := C.2.1
  refine x_iload_n C dX5_wants_0 hL 1 rfl ?_
  refine lv_bipush (v := 16) hx hb dX5_wants_1 (by decide) ?_
  refine lv_icmp_ne (tgt := 26) hx hb dX5_wants_3 (by decide) (fun c1 => ?_) (fun c1 => ?_)
  · rw [if_neg c1] at hd
    refine x_aload_n C dX5_wants_26 hL 0 rfl ?_
    refine x_iload_n C dX5_wants_27 hL 1 rfl ?_
    obtain ⟨g2, hd⟩ := gd_ex hd
    obtain ⟨G4, h3, hd⟩ := bo_ex hd
    refine r_callV (a := x0) (ci := 5) (As := [.int x1]) C (ct_X5_look h3) mf_X5_look ml_X5_129 mv_X5_look rfl ⟨Nat.le_of_ble_eq_true rfl, Nat.le_of_ble_eq_true rfl⟩ dX5_wants_28 (lx_size hL) rfl hR hS g2 ⟨Nat.le_refl _, Nat.le_refl _⟩ (cat_le [] (Nat.le_of_ble_eq_true rfl)) (fun H locs hR hS => ?_)
    refine W_st (st2 := []) rfl ?_
    refine x_aload_n C dX5_wants_31 hL 0 rfl ?_
    obtain ⟨g5, hd⟩ := gd_ex hd
    refine r_geti (ci := 5) (k := 15) C fl_X5_46 rfl dX5_wants_32 hR g5 ?_
    obtain ⟨g6, hd⟩ := gd_ex hd
    cases hd
    exact r_zret C g6 dX5_wants_35 hR hS
  · rw [if_pos c1] at hd
    refine x_aload_n C dX5_wants_6 hL 0 rfl ?_
    obtain ⟨g7, hd⟩ := gd_ex hd
    obtain ⟨v9, h8, hd⟩ := bo_ex hd
    refine r_callV (a := x0) (ci := 5) (As := []) C (ct_X5_isMeeting h8) mf_X5_isMeeting ml_X5_121 mv_X5_isMeeting rfl ⟨Nat.le_of_ble_eq_true rfl, Nat.le_of_ble_eq_true rfl⟩ dX5_wants_7 (lx_size hL) rfl hR hS g7 ⟨Nat.le_refl _, Nat.le_refl _⟩ (cat_le [] (Nat.le_of_ble_eq_true rfl)) (fun H locs hR hS => ?_)
    refine W_st (st2 := [.int v9]) rfl ?_
    refine lv_if_ne (tgt := 24) hx hb dX5_wants_10 (by decide) (fun c10 => ?_) (fun c10 => ?_)
    · rw [if_neg c10] at hd
      refine lv_iconst (v := 0) hx hb dX5_wants_24 (by decide) ?_
      cases hd
      exact r_zret C (by decide) dX5_wants_25 hR hS
    · rw [if_pos c10] at hd
      refine x_aload_n C dX5_wants_13 hL 0 rfl ?_
      obtain ⟨v12, h11, hd⟩ := bo_ex hd
      refine r_callV (a := x0) (ci := 5) (As := []) C (ct_X5_base h11) mf_X5_base ml_X5_125 mv_X5_base rfl ⟨Nat.le_of_ble_eq_true rfl, Nat.le_of_ble_eq_true rfl⟩ dX5_wants_14 (lx_size hL) rfl hR hS g7 ⟨Nat.le_refl _, Nat.le_refl _⟩ (cat_le [] (Nat.le_of_ble_eq_true rfl)) (fun H locs hR hS => ?_)
      refine W_st (st2 := [.int v12]) rfl ?_
      refine lv_if_eq (tgt := 24) hx hb dX5_wants_17 (by decide) (fun c13 => ?_) (fun c13 => ?_)
      · rw [if_pos c13] at hd
        refine lv_iconst (v := 0) hx hb dX5_wants_24 (by decide) ?_
        cases hd
        exact r_zret C (by decide) dX5_wants_25 hR hS
      · rw [if_neg c13] at hd
        refine lv_iconst (v := 1) hx hb dX5_wants_20 (by decide) ?_
        refine lv_goto (tgt := 25) hx hb dX5_wants_21 (by decide) ?_
        cases hd
        exact r_zret C (by decide) dX5_wants_25 hR hS
end
set_option maxHeartbeats 4000000 in
set_option maxRecDepth 100000 in
theorem ct_X5_wants {l : Launch} {b0 : Nat} {D : va_G} {E : Nat → ClassId} {G : Hp} {a0 : Nat} {a1 : Int32} {rr : Int32} {GG : Hp} (hd : d_X5_wants a0 a1 G = some (rr, GG)) : CT l yX5_wants cX5_wants 2 (some .boolean) 4 0 0 b0 D E [rv a0, .int a1] G (some (.int rr)) GG := by
  refine CT_of (by decide +kernel) ?_
  intro p e s m below meth c C hnm hR
  refine r_entry [.inr a0, .inl a1] (n := 2) (Nat.le_of_ble_eq_true rfl) (lv := [(0, .inr a0), (1, .inl a1)]) rfl (fun ls hL => ?_)
  exact k_X5_wants C (lx_sub hL [0, 1] rfl) hR ⟨fun _ _ => rfl, fun _ h => by cases h⟩ hd

/-! GroveWorks$Tree.toCutOff(I)I -/
theorem dX5_toCutOff_0 : decode cX5_toCutOff 0 = .ok (.iconst 0, 1) := by decide +kernel
theorem dX5_toCutOff_1 : decode cX5_toCutOff 1 = .ok (.istore_n 2, 1) := by decide +kernel
theorem dX5_toCutOff_2 : decode cX5_toCutOff 2 = .ok (.iconst 0, 1) := by decide +kernel
theorem dX5_toCutOff_3 : decode cX5_toCutOff 3 = .ok (.istore_n 3, 1) := by decide +kernel
theorem dX5_toCutOff_4 : decode cX5_toCutOff 4 = .ok (.iload_n 3, 1) := by decide +kernel
theorem dX5_toCutOff_5 : decode cX5_toCutOff 5 = .ok (.bipush 16, 2) := by decide +kernel
theorem dX5_toCutOff_7 : decode cX5_toCutOff 7 = .ok (.if_icmp .ge 58, 3) := by decide +kernel
theorem dX5_toCutOff_10 : decode cX5_toCutOff 10 = .ok (.aload_n 0, 1) := by decide +kernel
theorem dX5_toCutOff_11 : decode cX5_toCutOff 11 = .ok (.getfield 9, 3) := by decide +kernel
theorem dX5_toCutOff_14 : decode cX5_toCutOff 14 = .ok (.iload_n 3, 1) := by decide +kernel
theorem dX5_toCutOff_15 : decode cX5_toCutOff 15 = .ok (.invokestatic 145, 3) := by decide +kernel
theorem dX5_toCutOff_18 : decode cX5_toCutOff 18 = .ok (.ifCond .ne 6, 3) := by decide +kernel
theorem dX5_toCutOff_21 : decode cX5_toCutOff 21 = .ok (.goto 38, 3) := by decide +kernel
theorem dX5_toCutOff_24 : decode cX5_toCutOff 24 = .ok (.aload_n 0, 1) := by decide +kernel
theorem dX5_toCutOff_25 : decode cX5_toCutOff 25 = .ok (.iload_n 3, 1) := by decide +kernel
theorem dX5_toCutOff_26 : decode cX5_toCutOff 26 = .ok (.invokevirtual 129, 3) := by decide +kernel
theorem dX5_toCutOff_29 : decode cX5_toCutOff 29 = .ok (.aload_n 0, 1) := by decide +kernel
theorem dX5_toCutOff_30 : decode cX5_toCutOff 30 = .ok (.getfield 40, 3) := by decide +kernel
theorem dX5_toCutOff_33 : decode cX5_toCutOff 33 = .ok (.ifCond .eq 20, 3) := by decide +kernel
theorem dX5_toCutOff_36 : decode cX5_toCutOff 36 = .ok (.aload_n 0, 1) := by decide +kernel
theorem dX5_toCutOff_37 : decode cX5_toCutOff 37 = .ok (.iload_n 3, 1) := by decide +kernel
theorem dX5_toCutOff_38 : decode cX5_toCutOff 38 = .ok (.invokevirtual 102, 3) := by decide +kernel
theorem dX5_toCutOff_41 : decode cX5_toCutOff 41 = .ok (.ifCond .eq 18, 3) := by decide +kernel
theorem dX5_toCutOff_44 : decode cX5_toCutOff 44 = .ok (.aload_n 0, 1) := by decide +kernel
theorem dX5_toCutOff_45 : decode cX5_toCutOff 45 = .ok (.iload_n 3, 1) := by decide +kernel
theorem dX5_toCutOff_46 : decode cX5_toCutOff 46 = .ok (.invokevirtual 148, 3) := by decide +kernel
theorem dX5_toCutOff_49 : decode cX5_toCutOff 49 = .ok (.iload_n 1, 1) := by decide +kernel
theorem dX5_toCutOff_50 : decode cX5_toCutOff 50 = .ok (.if_icmp .eq 9, 3) := by decide +kernel
theorem dX5_toCutOff_53 : decode cX5_toCutOff 53 = .ok (.iload_n 2, 1) := by decide +kernel
theorem dX5_toCutOff_54 : decode cX5_toCutOff 54 = .ok (.iconst 1, 1) := by decide +kernel
theorem dX5_toCutOff_55 : decode cX5_toCutOff 55 = .ok (.iload_n 3, 1) := by decide +kernel
theorem dX5_toCutOff_56 : decode cX5_toCutOff 56 = .ok (.ishl, 1) := by decide +kernel
theorem dX5_toCutOff_57 : decode cX5_toCutOff 57 = .ok (.ior, 1) := by decide +kernel
theorem dX5_toCutOff_58 : decode cX5_toCutOff 58 = .ok (.istore_n 2, 1) := by decide +kernel
theorem dX5_toCutOff_59 : decode cX5_toCutOff 59 = .ok (.iinc 3 1, 3) := by decide +kernel
theorem dX5_toCutOff_62 : decode cX5_toCutOff 62 = .ok (.goto (-58), 3) := by decide +kernel
theorem dX5_toCutOff_65 : decode cX5_toCutOff 65 = .ok (.iload_n 2, 1) := by decide +kernel
theorem dX5_toCutOff_66 : decode cX5_toCutOff 66 = .ok (.ireturn, 1) := by decide +kernel
def d_X5_toCutOff_53 (x0 : Nat) (x1 : Int32) (x2 : Int32) (x3 : Int32) (G : Hp) (k4 : Nat → Int32 → Int32 → Int32 → Hp → Option (Int32 × Hp)) : Option (Int32 × Hp) :=
  bd ((x2 ||| (1 <<< (x3 &&& 31)))) fun v1 =>
  k4 x0 x1 v1 (x3 + 1) G
def d_X5_toCutOff_4 : Nat → Nat → Int32 → Int32 → Int32 → Hp → Option (Int32 × Hp)
  | 0, _, _, _, _, _ => none
  | n_ + 1, x0, x1, x2, x3, G =>
    if 16 ≤ x3 then
      some (x2, G)
    else
      gd (hc G x0 = 6) <|
      bo (d_X8_has (hi G x0 4) x3 G) fun v4 =>
      if v4 = 0 then
        d_X5_toCutOff_4 n_ x0 x1 x2 (x3 + 1) G
      else
        bo (d_X5_look x0 x3 G) fun G7 =>
        gd (hc G7 x0 = 6) <|
        if (hi G7 x0 13) = 0 then
          d_X5_toCutOff_53 x0 x1 x2 x3 G7 (fun y0 y1 y2 y3 Gy => d_X5_toCutOff_4 n_ y0 y1 y2 y3 Gy)
        else
          bo (d_X5_isStraight x0 x3 G7) fun v11 =>
          if v11 = 0 then
            d_X5_toCutOff_4 n_ x0 x1 x2 (x3 + 1) G7
          else
            bo (d_X5_up x0 x3 G7) fun v14 =>
            if v14 = x1 then
              d_X5_toCutOff_4 n_ x0 x1 x2 (x3 + 1) G7
            else
              d_X5_toCutOff_53 x0 x1 x2 x3 G7 (fun y0 y1 y2 y3 Gy => d_X5_toCutOff_4 n_ y0 y1 y2 y3 Gy)
def d_X5_toCutOff (x0 : Nat) (x1 : Int32) (G : Hp) : Option (Int32 × Hp) :=
  d_X5_toCutOff_4 FU x0 x1 0 0 G
section
variable {p : Program} {l : Launch} {e : Env} {s : State} {m : MethodId} {args : Array Value} {below : List Frame} {meth : Method} {c : Code} {b0 : Nat} {D : va_G} {E : Nat → ClassId}
set_option maxHeartbeats 4000000 in
set_option maxRecDepth 100000 in
theorem k_X5_toCutOff_53 (C : Cx p s m args meth c RX5 cX5_toCutOff 4 (some .int) b0 D E) {rr : Int32} {GG : Hp} {k4 : Nat → Int32 → Int32 → Int32 → Hp → Option (Int32 × Hp)} (hk4 : ∀ (y0 : Nat) (y1 : Int32) (y2 : Int32) (y3 : Int32) (Gy : Hp) (H1 : Heap) (locs1 : List Loc) (ls1 : Array Slot), lx ls1 4 [(0, .inr y0), (1, .inl y1), (2, .inl y2), (3, .inl y3)] → Rp b0 D E Gy H1 → SS b0 s H1 locs1 → k4 y0 y1 y2 y3 Gy = some (rr, GG) → W p l e (rmd 4 (0) (0)) s m args below meth c H1 locs1 (0) (0) (MQ below (CQ b0 D E (some (.int rr)) GG) args s (0) (0) (fun q => b0 ≤ q)) (F0 m 4 ls1 [])) {x0 : Nat} {x1 : Int32} {x2 : Int32} {x3 : Int32} {G : Hp} {ls : Array Slot} {H : Heap} {locs : List Loc} : lx ls 4 [(0, .inr x0), (1, .inl x1), (2, .inl x2), (3, .inl x3)] → Rp b0 D E G H → SS b0 s H locs → d_X5_toCutOff_53 x0 x1 x2 x3 G k4 = some (rr, GG) → W p l e (rmd 4 (0) (0)) s m args below meth c H locs (0) (0) (MQ below (CQ b0 D E (some (.int rr)) GG) args s (0) (0) (fun q => b0 ≤ q)) (F0 m 53 ls []) := by
  intro hL hR hS hd
  unfold d_X5_toCutOff_53 at hd
  have hx := C.1
  have hb := C.2.1
  refine x_iload_n C dX5_toCutOff_53 hL 2 rfl ?_
  refine lv_iconst (v := 1) hx hb dX5_toCutOff_54 (by decide) ?_
  refine x_iload_n C dX5_toCutOff_55 hL 3 rfl ?_
  refine lv_ishl hx hb dX5_toCutOff_56 ?_
  refine lv_ior hx hb dX5_toCutOff_57 ?_
  obtain ⟨v1, ev1, hd⟩ := bd_ex hd
  rw [← ev1]
  refine x_istore_n (lv' := [(2, .inl v1), (0, .inr x0), (1, .inl x1), (3, .inl x3)]) C dX5_toCutOff_58 hL (by decide) rfl (fun ls hL => ?_)
  refine x_iinc (lv' := [(3, .inl (x3 + 1)), (2, .inl v1), (0, .inr x0), (1, .inl x1)]) C dX5_toCutOff_59 hL 3 rfl rfl (by decide) rfl (fun ls hL => ?_)
  refine lv_goto (tgt := 4) hx hb dX5_toCutOff_62 (by decide) ?_
  exact hk4 _ _ _ _ _ _ _ _ (lx_sub hL [2, 3, 1, 0] rfl) hR hS hd
set_option maxHeartbeats 4000000 in
set_option maxRecDepth 100000 in
theorem k_X5_toCutOff_4 (C : Cx p s m args meth c RX5 cX5_toCutOff 4 (some .int) b0 D E) {rr : Int32} {GG : Hp} : ∀ (n_ : Nat) {x0 : Nat} {x1 : Int32} {x2 : Int32} {x3 : Int32} {G : Hp} {ls : Array Slot} {H : Heap} {locs : List Loc}, lx ls 4 [(0, .inr x0), (1, .inl x1), (2, .inl x2), (3, .inl x3)] → Rp b0 D E G H → SS b0 s H locs → d_X5_toCutOff_4 n_ x0 x1 x2 x3 G = some (rr, GG) → W p l e (rmd 4 (0) (0)) s m args below meth c H locs (0) (0) (MQ below (CQ b0 D E (some (.int rr)) GG) args s (0) (0) (fun q => b0 ≤ q)) (F0 m 4 ls []) := by
  intro n_
  induction n_ with
  | zero =>
    intro x0 x1 x2 x3 G ls H locs hL hR hS hd
    cases (show (none : Option _) = some _ from hd)
  | succ n_ ih =>
    intro x0 x1 x2 x3 G ls H locs hL hR hS hd
    rw [d_X5_toCutOff_4.eq_2] at hd
    have hx := C.1
    have hb := C.2.1
    refine x_iload_n C dX5_toCutOff_4 hL 3 rfl ?_
    refine lv_bipush (v := 16) hx hb dX5_toCutOff_5 (by decide) ?_
    refine lv_icmp_ge (tgt := 65) hx hb dX5_toCutOff_7 (by decide) (fun c1 => ?_) (fun c1 => ?_)
    · rw [if_pos c1] at hd
      refine x_iload_n C dX5_toCutOff_65 hL 2 rfl ?_
      cases hd
      exact r_iret C dX5_toCutOff_66 hR hS
    · rw [if_neg c1] at hd
      refine x_aload_n C dX5_toCutOff_10 hL 0 rfl ?_
      obtain ⟨g2, hd⟩ := gd_ex hd
      refine r_geti (ci := 5) (k := 4) C fl_X5_9 rfl dX5_toCutOff_11 hR g2 ?_
      refine x_iload_n C dX5_toCutOff_14 hL 3 rfl ?_
      obtain ⟨v4, h3, hd⟩ := bo_ex hd
      refine r_callSN (As := [.int (hi G x0 4), .int x3]) C (ct_X8_has h3) mf_X8_has (by decide +kernel) ms_X8_has rfl ⟨Nat.le_of_ble_eq_true rfl, Nat.le_of_ble_eq_true rfl⟩ dX5_toCutOff_15 (lx_size hL) rfl hR hS ⟨Nat.le_refl _, Nat.le_refl _⟩ (cat_le [] (Nat.le_of_ble_eq_true rfl)) (fun H locs hR hS => ?_)
      refine W_st (st2 := [.int v4]) rfl ?_
      refine lv_if_ne (tgt := 24) hx hb dX5_toCutOff_18 (by decide) (fun c5 => ?_) (fun c5 => ?_)
      · rw [if_neg c5] at hd
        refine x_aload_n C dX5_toCutOff_24 hL 0 rfl ?_
        refine x_iload_n C dX5_toCutOff_25 hL 3 rfl ?_
        obtain ⟨G7, h6, hd⟩ := bo_ex hd
        refine r_callV (a := x0) (ci := 5) (As := [.int x3]) C (ct_X5_look h6) mf_X5_look ml_X5_129 mv_X5_look rfl ⟨Nat.le_of_ble_eq_true rfl, Nat.le_of_ble_eq_true rfl⟩ dX5_toCutOff_26 (lx_size hL) rfl hR hS g2 ⟨Nat.le_refl _, Nat.le_refl _⟩ (cat_le [] (Nat.le_of_ble_eq_true rfl)) (fun H locs hR hS => ?_)
        refine W_st (st2 := []) rfl ?_
        refine x_aload_n C dX5_toCutOff_29 hL 0 rfl ?_
        obtain ⟨g8, hd⟩ := gd_ex hd
        refine r_geti (ci := 5) (k := 13) C fl_X5_40 rfl dX5_toCutOff_30 hR g8 ?_
        refine lv_if_eq (tgt := 53) hx hb dX5_toCutOff_33 (by decide) (fun c9 => ?_) (fun c9 => ?_)
        · rw [if_pos c9] at hd
          exact k_X5_toCutOff_53 C (fun y0 y1 y2 y3 Gy H1 locs1 ls1 hL1 hR1 hS1 hd1 => ih hL1 hR1 hS1 hd1) hL hR hS hd
        · rw [if_neg c9] at hd
          refine x_aload_n C dX5_toCutOff_36 hL 0 rfl ?_
          refine x_iload_n C dX5_toCutOff_37 hL 3 rfl ?_
          obtain ⟨v11, h10, hd⟩ := bo_ex hd
          refine r_callV (a := x0) (ci := 5) (As := [.int x3]) C (ct_X5_isStraight h10) mf_X5_isStraight ml_X5_102 mv_X5_isStraight rfl ⟨Nat.le_of_ble_eq_true rfl, Nat.le_of_ble_eq_true rfl⟩ dX5_toCutOff_38 (lx_size hL) rfl hR hS g8 ⟨Nat.le_refl _, Nat.le_refl _⟩ (cat_le [] (Nat.le_of_ble_eq_true rfl)) (fun H locs hR hS => ?_)
          refine W_st (st2 := [.int v11]) rfl ?_
          refine lv_if_eq (tgt := 59) hx hb dX5_toCutOff_41 (by decide) (fun c12 => ?_) (fun c12 => ?_)
          · rw [if_pos c12] at hd
            refine x_iinc (lv' := [(3, .inl (x3 + 1)), (0, .inr x0), (1, .inl x1), (2, .inl x2)]) C dX5_toCutOff_59 hL 3 rfl rfl (by decide) rfl (fun ls hL => ?_)
            refine lv_goto (tgt := 4) hx hb dX5_toCutOff_62 (by decide) ?_
            exact ih (lx_sub hL [1, 2, 3, 0] rfl) hR hS hd
          · rw [if_neg c12] at hd
            refine x_aload_n C dX5_toCutOff_44 hL 0 rfl ?_
            refine x_iload_n C dX5_toCutOff_45 hL 3 rfl ?_
            obtain ⟨v14, h13, hd⟩ := bo_ex hd
            refine r_callV (a := x0) (ci := 5) (As := [.int x3]) C (ct_X5_up h13) mf_X5_up ml_X5_148 mv_X5_up rfl ⟨Nat.le_of_ble_eq_true rfl, Nat.le_of_ble_eq_true rfl⟩ dX5_toCutOff_46 (lx_size hL) rfl hR hS g8 ⟨Nat.le_refl _, Nat.le_refl _⟩ (cat_le [] (Nat.le_of_ble_eq_true rfl)) (fun H locs hR hS => ?_)
            refine W_st (st2 := [.int v14]) rfl ?_
            refine x_iload_n C dX5_toCutOff_49 hL 1 rfl ?_
            refine lv_icmp_eq (tgt := 59) hx hb dX5_toCutOff_50 (by decide) (fun c15 => ?_) (fun c15 => ?_)
            · rw [if_pos c15] at hd
              refine x_iinc (lv' := [(3, .inl (x3 + 1)), (0, .inr x0), (1, .inl x1), (2, .inl x2)]) C dX5_toCutOff_59 hL 3 rfl rfl (by decide) rfl (fun ls hL => ?_)
              refine lv_goto (tgt := 4) hx hb dX5_toCutOff_62 (by decide) ?_
              exact ih (lx_sub hL [1, 2, 3, 0] rfl) hR hS hd
            · rw [if_neg c15] at hd
              exact k_X5_toCutOff_53 C (fun y0 y1 y2 y3 Gy H1 locs1 ls1 hL1 hR1 hS1 hd1 => ih hL1 hR1 hS1 hd1) hL hR hS hd
      · rw [if_pos c5] at hd
        refine lv_goto (tgt := 59) hx hb dX5_toCutOff_21 (by decide) ?_
        refine x_iinc (lv' := [(3, .inl (x3 + 1)), (0, .inr x0), (1, .inl x1), (2, .inl x2)]) C dX5_toCutOff_59 hL 3 rfl rfl (by decide) rfl (fun ls hL => ?_)
        refine lv_goto (tgt := 4) hx hb dX5_toCutOff_62 (by decide) ?_
        exact ih (lx_sub hL [1, 2, 3, 0] rfl) hR hS hd
set_option maxHeartbeats 4000000 in
set_option maxRecDepth 100000 in
theorem k_X5_toCutOff (C : Cx p s m args meth c RX5 cX5_toCutOff 4 (some .int) b0 D E) {rr : Int32} {GG : Hp} {x0 : Nat} {x1 : Int32} {G : Hp} {ls : Array Slot} {H : Heap} {locs : List Loc} : lx ls 4 [(0, .inr x0), (1, .inl x1)] → Rp b0 D E G H → SS b0 s H locs → d_X5_toCutOff x0 x1 G = some (rr, GG) → W p l e (rmd 4 (0) (0)) s m args below meth c H locs (0) (0) (MQ below (CQ b0 D E (some (.int rr)) GG) args s (0) (0) (fun q => b0 ≤ q)) (F0 m 0 ls []) := by
  intro hL hR hS hd
  unfold d_X5_toCutOff at hd
  have hx := C.1
  have hb := C.2.1
  refine lv_iconst (v := 0) hx hb dX5_toCutOff_0 (by decide) ?_
  refine x_istore_n (lv' := [(2, .inl 0), (0, .inr x0), (1, .inl x1)]) C dX5_toCutOff_1 hL (by decide) rfl (fun ls hL => ?_)
  refine lv_iconst (v := 0) hx hb dX5_toCutOff_2 (by decide) ?_
  refine x_istore_n (lv' := [(3, .inl 0), (2, .inl 0), (0, .inr x0), (1, .inl x1)]) C dX5_toCutOff_3 hL (by decide) rfl (fun ls hL => ?_)
  exact k_X5_toCutOff_4 C FU (lx_sub hL [2, 3, 1, 0] rfl) hR hS hd
end
set_option maxHeartbeats 4000000 in
set_option maxRecDepth 100000 in
theorem ct_X5_toCutOff {l : Launch} {b0 : Nat} {D : va_G} {E : Nat → ClassId} {G : Hp} {a0 : Nat} {a1 : Int32} {rr : Int32} {GG : Hp} (hd : d_X5_toCutOff a0 a1 G = some (rr, GG)) : CT l yX5_toCutOff cX5_toCutOff 4 (some .int) 4 0 0 b0 D E [rv a0, .int a1] G (some (.int rr)) GG := by
  refine CT_of (by decide +kernel) ?_
  intro p e s m below meth c C hnm hR
  refine r_entry [.inr a0, .inl a1] (n := 4) (Nat.le_of_ble_eq_true rfl) (lv := [(0, .inr a0), (1, .inl a1)]) rfl (fun ls hL => ?_)
  exact k_X5_toCutOff C (lx_sub hL [0, 1] rfl) hR ⟨fun _ _ => rfl, fun _ h => by cases h⟩ hd

/-! GroveWorks$Tree.renewJoin(I)V -/
theorem dX5_renewJoin_0 : decode cX5_renewJoin 0 = .ok (.aload_n 0, 1) := by decide +kernel
theorem dX5_renewJoin_1 : decode cX5_renewJoin 1 = .ok (.getfield 9, 3) := by decide +kernel
theorem dX5_renewJoin_4 : decode cX5_renewJoin 4 = .ok (.iload_n 1, 1) := by decide +kernel
theorem dX5_renewJoin_5 : decode cX5_renewJoin 5 = .ok (.invokestatic 145, 3) := by decide +kernel
theorem dX5_renewJoin_8 : decode cX5_renewJoin 8 = .ok (.ifCond .ne 4, 3) := by decide +kernel
theorem dX5_renewJoin_11 : decode cX5_renewJoin 11 = .ok (.return_, 1) := by decide +kernel
theorem dX5_renewJoin_12 : decode cX5_renewJoin 12 = .ok (.aload_n 0, 1) := by decide +kernel
theorem dX5_renewJoin_13 : decode cX5_renewJoin 13 = .ok (.iload_n 1, 1) := by decide +kernel
theorem dX5_renewJoin_14 : decode cX5_renewJoin 14 = .ok (.invokevirtual 157, 3) := by decide +kernel
theorem dX5_renewJoin_17 : decode cX5_renewJoin 17 = .ok (.ifCond .eq 11, 3) := by decide +kernel
theorem dX5_renewJoin_20 : decode cX5_renewJoin 20 = .ok (.aload_n 0, 1) := by decide +kernel
theorem dX5_renewJoin_21 : decode cX5_renewJoin 21 = .ok (.iload_n 1, 1) := by decide +kernel
theorem dX5_renewJoin_22 : decode cX5_renewJoin 22 = .ok (.invokevirtual 148, 3) := by decide +kernel
theorem dX5_renewJoin_25 : decode cX5_renewJoin 25 = .ok (.goto 4, 3) := by decide +kernel
theorem dX5_renewJoin_28 : decode cX5_renewJoin 28 = .ok (.iconst (-1), 1) := by decide +kernel
theorem dX5_renewJoin_29 : decode cX5_renewJoin 29 = .ok (.istore_n 2, 1) := by decide +kernel
theorem dX5_renewJoin_30 : decode cX5_renewJoin 30 = .ok (.aload_n 0, 1) := by decide +kernel
theorem dX5_renewJoin_31 : decode cX5_renewJoin 31 = .ok (.getfield 15, 3) := by decide +kernel
theorem dX5_renewJoin_34 : decode cX5_renewJoin 34 = .ok (.iload_n 1, 1) := by decide +kernel
theorem dX5_renewJoin_35 : decode cX5_renewJoin 35 = .ok (.iaload, 1) := by decide +kernel
theorem dX5_renewJoin_36 : decode cX5_renewJoin 36 = .ok (.iconst (-1), 1) := by decide +kernel
theorem dX5_renewJoin_37 : decode cX5_renewJoin 37 = .ok (.if_icmp .eq 26, 3) := by decide +kernel
theorem dX5_renewJoin_40 : decode cX5_renewJoin 40 = .ok (.aload_n 0, 1) := by decide +kernel
theorem dX5_renewJoin_41 : decode cX5_renewJoin 41 = .ok (.getfield 15, 3) := by decide +kernel
theorem dX5_renewJoin_44 : decode cX5_renewJoin 44 = .ok (.iload_n 1, 1) := by decide +kernel
theorem dX5_renewJoin_45 : decode cX5_renewJoin 45 = .ok (.iaload, 1) := by decide +kernel
theorem dX5_renewJoin_46 : decode cX5_renewJoin 46 = .ok (.iload_n 2, 1) := by decide +kernel
theorem dX5_renewJoin_47 : decode cX5_renewJoin 47 = .ok (.if_icmp .eq 16, 3) := by decide +kernel
theorem dX5_renewJoin_50 : decode cX5_renewJoin 50 = .ok (.aload_n 0, 1) := by decide +kernel
theorem dX5_renewJoin_51 : decode cX5_renewJoin 51 = .ok (.bipush 6, 2) := by decide +kernel
theorem dX5_renewJoin_53 : decode cX5_renewJoin 53 = .ok (.iload_n 1, 1) := by decide +kernel
theorem dX5_renewJoin_54 : decode cX5_renewJoin 54 = .ok (.invokevirtual 160, 3) := by decide +kernel
theorem dX5_renewJoin_57 : decode cX5_renewJoin 57 = .ok (.pop, 1) := by decide +kernel
theorem dX5_renewJoin_58 : decode cX5_renewJoin 58 = .ok (.aload_n 0, 1) := by decide +kernel
theorem dX5_renewJoin_59 : decode cX5_renewJoin 59 = .ok (.iload_n 1, 1) := by decide +kernel
theorem dX5_renewJoin_60 : decode cX5_renewJoin 60 = .ok (.invokevirtual 151, 3) := by decide +kernel
theorem dX5_renewJoin_63 : decode cX5_renewJoin 63 = .ok (.iload_n 2, 1) := by decide +kernel
theorem dX5_renewJoin_64 : decode cX5_renewJoin 64 = .ok (.iconst (-1), 1) := by decide +kernel
theorem dX5_renewJoin_65 : decode cX5_renewJoin 65 = .ok (.if_icmp .ne 4, 3) := by decide +kernel
theorem dX5_renewJoin_68 : decode cX5_renewJoin 68 = .ok (.return_, 1) := by decide +kernel
theorem dX5_renewJoin_69 : decode cX5_renewJoin 69 = .ok (.iload_n 1, 1) := by decide +kernel
theorem dX5_renewJoin_70 : decode cX5_renewJoin 70 = .ok (.bipush 16, 2) := by decide +kernel
theorem dX5_renewJoin_72 : decode cX5_renewJoin 72 = .ok (.if_icmp .ne 11, 3) := by decide +kernel
theorem dX5_renewJoin_75 : decode cX5_renewJoin 75 = .ok (.aload_n 0, 1) := by decide +kernel
theorem dX5_renewJoin_76 : decode cX5_renewJoin 76 = .ok (.iload_n 2, 1) := by decide +kernel
theorem dX5_renewJoin_77 : decode cX5_renewJoin 77 = .ok (.invokevirtual 164, 3) := by decide +kernel
theorem dX5_renewJoin_80 : decode cX5_renewJoin 80 = .ok (.goto 4, 3) := by decide +kernel
theorem dX5_renewJoin_83 : decode cX5_renewJoin 83 = .ok (.iconst 0, 1) := by decide +kernel
theorem dX5_renewJoin_84 : decode cX5_renewJoin 84 = .ok (.istore_n 3, 1) := by decide +kernel
theorem dX5_renewJoin_85 : decode cX5_renewJoin 85 = .ok (.aload_n 0, 1) := by decide +kernel
theorem dX5_renewJoin_86 : decode cX5_renewJoin 86 = .ok (.getfield 15, 3) := by decide +kernel
theorem dX5_renewJoin_89 : decode cX5_renewJoin 89 = .ok (.iload_n 1, 1) := by decide +kernel
theorem dX5_renewJoin_90 : decode cX5_renewJoin 90 = .ok (.iaload, 1) := by decide +kernel
theorem dX5_renewJoin_91 : decode cX5_renewJoin 91 = .ok (.iconst (-1), 1) := by decide +kernel
theorem dX5_renewJoin_92 : decode cX5_renewJoin 92 = .ok (.if_icmp .eq 22, 3) := by decide +kernel
theorem dX5_renewJoin_95 : decode cX5_renewJoin 95 = .ok (.aload_n 0, 1) := by decide +kernel
theorem dX5_renewJoin_96 : decode cX5_renewJoin 96 = .ok (.getfield 50, 3) := by decide +kernel
theorem dX5_renewJoin_99 : decode cX5_renewJoin 99 = .ok (.getfield 118, 3) := by decide +kernel
theorem dX5_renewJoin_102 : decode cX5_renewJoin 102 = .ok (.aload_n 0, 1) := by decide +kernel
theorem dX5_renewJoin_103 : decode cX5_renewJoin 103 = .ok (.getfield 19, 3) := by decide +kernel
theorem dX5_renewJoin_106 : decode cX5_renewJoin 106 = .ok (.iload_n 1, 1) := by decide +kernel
theorem dX5_renewJoin_107 : decode cX5_renewJoin 107 = .ok (.iaload, 1) := by decide +kernel
theorem dX5_renewJoin_108 : decode cX5_renewJoin 108 = .ok (.isub, 1) := by decide +kernel
theorem dX5_renewJoin_109 : decode cX5_renewJoin 109 = .ok (.bipush 20, 2) := by decide +kernel
theorem dX5_renewJoin_111 : decode cX5_renewJoin 111 = .ok (.if_icmp .lt 7, 3) := by decide +kernel
theorem dX5_renewJoin_114 : decode cX5_renewJoin 114 = .ok (.iconst 1, 1) := by decide +kernel
theorem dX5_renewJoin_115 : decode cX5_renewJoin 115 = .ok (.goto 4, 3) := by decide +kernel
theorem dX5_renewJoin_118 : decode cX5_renewJoin 118 = .ok (.iconst 0, 1) := by decide +kernel
theorem dX5_renewJoin_119 : decode cX5_renewJoin 119 = .ok (.istore 4, 2) := by decide +kernel
theorem dX5_renewJoin_121 : decode cX5_renewJoin 121 = .ok (.iload 4, 2) := by decide +kernel
theorem dX5_renewJoin_123 : decode cX5_renewJoin 123 = .ok (.ifCond .ne 17, 3) := by decide +kernel
theorem dX5_renewJoin_126 : decode cX5_renewJoin 126 = .ok (.iload_n 1, 1) := by decide +kernel
theorem dX5_renewJoin_127 : decode cX5_renewJoin 127 = .ok (.bipush 16, 2) := by decide +kernel
theorem dX5_renewJoin_129 : decode cX5_renewJoin 129 = .ok (.if_icmp .ne 24, 3) := by decide +kernel
theorem dX5_renewJoin_132 : decode cX5_renewJoin 132 = .ok (.iload_n 3, 1) := by decide +kernel
theorem dX5_renewJoin_133 : decode cX5_renewJoin 133 = .ok (.aload_n 0, 1) := by decide +kernel
theorem dX5_renewJoin_134 : decode cX5_renewJoin 134 = .ok (.getfield 22, 3) := by decide +kernel
theorem dX5_renewJoin_137 : decode cX5_renewJoin 137 = .ok (.if_icmp .eq 16, 3) := by decide +kernel
theorem dX5_renewJoin_140 : decode cX5_renewJoin 140 = .ok (.aload_n 0, 1) := by decide +kernel
theorem dX5_renewJoin_141 : decode cX5_renewJoin 141 = .ok (.getfield 15, 3) := by decide +kernel
theorem dX5_renewJoin_144 : decode cX5_renewJoin 144 = .ok (.iload_n 1, 1) := by decide +kernel
theorem dX5_renewJoin_145 : decode cX5_renewJoin 145 = .ok (.iload_n 2, 1) := by decide +kernel
theorem dX5_renewJoin_146 : decode cX5_renewJoin 146 = .ok (.iastore, 1) := by decide +kernel
theorem dX5_renewJoin_147 : decode cX5_renewJoin 147 = .ok (.aload_n 0, 1) := by decide +kernel
theorem dX5_renewJoin_148 : decode cX5_renewJoin 148 = .ok (.iload_n 1, 1) := by decide +kernel
theorem dX5_renewJoin_149 : decode cX5_renewJoin 149 = .ok (.iload_n 3, 1) := by decide +kernel
theorem dX5_renewJoin_150 : decode cX5_renewJoin 150 = .ok (.invokevirtual 167, 3) := by decide +kernel
theorem dX5_renewJoin_153 : decode cX5_renewJoin 153 = .ok (.return_, 1) := by decide +kernel
def d_X5_renewJoin_140 (x0 : Nat) (x1 : Int32) (x2 : Int32) (x3 : Int32) (G : Hp) : Option (Hp) :=
  gd (hc G x0 = 6) <|
  gd (hc G (hr G x0 5) = 11 ∧ ix x1 (hl G (hr G x0 5))) <|
  bd (sI G (hr G x0 5) x1.toNatClampNeg x2) fun G3 =>
  gd (hc G3 x0 = 6) <|
  bo (d_X5_sendJoin x0 x1 x3 G3) fun G6 =>
  some G6
def d_X5_renewJoin_119 (x0 : Nat) (x1 : Int32) (x2 : Int32) (x3 : Int32) (s0 : Int32) (G : Hp) : Option (Hp) :=
  if s0 = 0 then
    if x1 = 16 then
      gd (hc G x0 = 6) <|
      if x3 = (hi G x0 7) then
        some G
      else
        d_X5_renewJoin_140 x0 x1 x2 x3 G
    else
      some G
  else
    d_X5_renewJoin_140 x0 x1 x2 x3 G
def d_X5_renewJoin_114 (x0 : Nat) (x1 : Int32) (x2 : Int32) (x3 : Int32) (G : Hp) : Option (Hp) :=
  d_X5_renewJoin_119 x0 x1 x2 x3 1 G
def d_X5_renewJoin_84 (x0 : Nat) (x1 : Int32) (x2 : Int32) (s0 : Int32) (G : Hp) : Option (Hp) :=
  gd (hc G x0 = 6) <|
  gd (hc G (hr G x0 5) = 11 ∧ ix x1 (hl G (hr G x0 5))) <|
  if (hi G (hr G x0 5) x1.toNatClampNeg) = (-1) then
    d_X5_renewJoin_114 x0 x1 x2 s0 G
  else
    gd (hc G (hr G x0 0) = 3) <|
    gd (hc G (hr G x0 6) = 11 ∧ ix x1 (hl G (hr G x0 6))) <|
    if ((hi G (hr G x0 0) 4) - (hi G (hr G x0 6) x1.toNatClampNeg)) < 20 then
      d_X5_renewJoin_119 x0 x1 x2 s0 0 G
    else
      d_X5_renewJoin_114 x0 x1 x2 s0 G
def d_X5_renewJoin_63 (x0 : Nat) (x1 : Int32) (x2 : Int32) (G : Hp) : Option (Hp) :=
  if x2 = (-1) then
    some G
  else
    if x1 = 16 then
      gd (hc G x0 = 6) <|
      b2 (d_X5_toCutOff x0 x2 G) fun v5 G6 =>
      d_X5_renewJoin_84 x0 x1 x2 v5 G6
    else
      d_X5_renewJoin_84 x0 x1 x2 0 G
def d_X5_renewJoin_29 (x0 : Nat) (x1 : Int32) (s0 : Int32) (G : Hp) : Option (Hp) :=
  gd (hc G x0 = 6) <|
  gd (hc G (hr G x0 5) = 11 ∧ ix x1 (hl G (hr G x0 5))) <|
  if (hi G (hr G x0 5) x1.toNatClampNeg) = (-1) then
    d_X5_renewJoin_63 x0 x1 s0 G
  else
    gd (hc G (hr G x0 5) = 11 ∧ ix x1 (hl G (hr G x0 5))) <|
    if (hi G (hr G x0 5) x1.toNatClampNeg) = s0 then
      d_X5_renewJoin_63 x0 x1 s0 G
    else
      b2 (d_X5_openUp x0 6 x1 G) fun v7 G8 =>
      gd (hc G8 x0 = 6) <|
      bo (d_X5_joinNone x0 x1 G8) fun G11 =>
      d_X5_renewJoin_63 x0 x1 s0 G11
def d_X5_renewJoin (x0 : Nat) (x1 : Int32) (G : Hp) : Option (Hp) :=
  gd (hc G x0 = 6) <|
  bo (d_X8_has (hi G x0 4) x1 G) fun v3 =>
  if v3 = 0 then
    some G
  else
    b2 (d_X5_wants x0 x1 G) fun v6 G7 =>
    if v6 = 0 then
      d_X5_renewJoin_29 x0 x1 (-1) G7
    else
      gd (hc G7 x0 = 6) <|
      bo (d_X5_up x0 x1 G7) fun v11 =>
      d_X5_renewJoin_29 x0 x1 v11 G7
section
variable {p : Program} {l : Launch} {e : Env} {s : State} {m : MethodId} {args : Array Value} {below : List Frame} {meth : Method} {c : Code} {b0 : Nat} {D : va_G} {E : Nat → ClassId}
set_option maxHeartbeats 4000000 in
set_option maxRecDepth 100000 in
theorem k_X5_renewJoin_140 (C : Cx p s m args meth c RX5 cX5_renewJoin 5 none b0 D E) {GG : Hp} {x0 : Nat} {x1 : Int32} {x2 : Int32} {x3 : Int32} {G : Hp} {ls : Array Slot} {H : Heap} {locs : List Loc} : lx ls 5 [(0, .inr x0), (1, .inl x1), (2, .inl x2), (3, .inl x3)] → Rp b0 D E G H → SS b0 s H locs → d_X5_renewJoin_140 x0 x1 x2 x3 G = some GG → W p l e (rmd 5 (0) (0)) s m args below meth c H locs (0) (0) (MQ below (CQ b0 D E none GG) args s (0) (0) (fun q => b0 ≤ q)) (F0 m 140 ls []) := by
  intro hL hR hS hd
  unfold d_X5_renewJoin_140 at hd
  have hx := C.1
  have hb := C.2.1
  refine x_aload_n C dX5_renewJoin_140 hL 0 rfl ?_
  obtain ⟨g1, hd⟩ := gd_ex hd
  refine r_getr (ci := 5) (k := 5) C fl_X5_15 rfl dX5_renewJoin_141 hR g1 ?_
  refine x_iload_n C dX5_renewJoin_144 hL 1 rfl ?_
  refine x_iload_n C dX5_renewJoin_145 hL 2 rfl ?_
  obtain ⟨g2, hd⟩ := gd_ex hd
  obtain ⟨G3, eG3, hd⟩ := bd_ex hd
  refine r_iast C dX5_renewJoin_146 hR hS g2 (fun H locs hR hS => ?_)
  replace hR : Rp b0 D E G3 H := by rw [eG3]; exact hR
  refine x_aload_n C dX5_renewJoin_147 hL 0 rfl ?_
  refine x_iload_n C dX5_renewJoin_148 hL 1 rfl ?_
  refine x_iload_n C dX5_renewJoin_149 hL 3 rfl ?_
  obtain ⟨g4, hd⟩ := gd_ex hd
  obtain ⟨G6, h5, hd⟩ := bo_ex hd
  refine r_callV (a := x0) (ci := 5) (As := [.int x1, .int x3]) C (ct_X5_sendJoin h5) mf_X5_sendJoin ml_X5_167 mv_X5_sendJoin rfl ⟨Nat.le_of_ble_eq_true rfl, Nat.le_of_ble_eq_true rfl⟩ dX5_renewJoin_150 (lx_size hL) rfl hR hS g4 ⟨Nat.le_refl _, Nat.le_refl _⟩ (cat_le [] (Nat.le_of_ble_eq_true rfl)) (fun H locs hR hS => ?_)
  refine W_st (st2 := []) rfl ?_
  cases hd
  exact r_vret C dX5_renewJoin_153 hR hS
set_option maxHeartbeats 4000000 in
set_option maxRecDepth 100000 in
theorem k_X5_renewJoin_119 (C : Cx p s m args meth c RX5 cX5_renewJoin 5 none b0 D E) {GG : Hp} {x0 : Nat} {x1 : Int32} {x2 : Int32} {x3 : Int32} {s0 : Int32} {G : Hp} {ls : Array Slot} {H : Heap} {locs : List Loc} : lx ls 5 [(0, .inr x0), (1, .inl x1), (2, .inl x2), (3, .inl x3)] → Rp b0 D E G H → SS b0 s H locs → d_X5_renewJoin_119 x0 x1 x2 x3 s0 G = some GG → W p l e (rmd 5 (0) (0)) s m args below meth c H locs (0) (0) (MQ below (CQ b0 D E none GG) args s (0) (0) (fun q => b0 ≤ q)) (F0 m 119 ls [.int s0]) := by
  intro hL hR hS hd
  unfold d_X5_renewJoin_119 at hd
  have hx := C.1
  have hb := C.2.1
  refine x_istore (lv' := [(4, .inl s0), (0, .inr x0), (1, .inl x1), (2, .inl x2), (3, .inl x3)]) C dX5_renewJoin_119 hL (by decide) rfl (fun ls hL => ?_)
  refine x_iload C dX5_renewJoin_121 hL 0 rfl ?_
  refine lv_if_ne (tgt := 140) hx hb dX5_renewJoin_123 (by decide) (fun c1 => ?_) (fun c1 => ?_)
  · rw [if_neg c1] at hd
    exact k_X5_renewJoin_140 C (lx_sub hL [1, 2, 3, 4] rfl) hR hS hd
  · rw [if_pos c1] at hd
    refine x_iload_n C dX5_renewJoin_126 hL 2 rfl ?_
    refine lv_bipush (v := 16) hx hb dX5_renewJoin_127 (by decide) ?_
    refine lv_icmp_ne (tgt := 153) hx hb dX5_renewJoin_129 (by decide) (fun c2 => ?_) (fun c2 => ?_)
    · rw [if_neg c2] at hd
      cases hd
      exact r_vret C dX5_renewJoin_153 hR hS
    · rw [if_pos c2] at hd
      refine x_iload_n C dX5_renewJoin_132 hL 4 rfl ?_
      refine x_aload_n C dX5_renewJoin_133 hL 1 rfl ?_
      obtain ⟨g3, hd⟩ := gd_ex hd
      refine r_geti (ci := 5) (k := 7) C fl_X5_22 rfl dX5_renewJoin_134 hR g3 ?_
      refine lv_icmp_eq (tgt := 153) hx hb dX5_renewJoin_137 (by decide) (fun c4 => ?_) (fun c4 => ?_)
      · rw [if_pos c4] at hd
        cases hd
        exact r_vret C dX5_renewJoin_153 hR hS
      · rw [if_neg c4] at hd
        exact k_X5_renewJoin_140 C (lx_sub hL [1, 2, 3, 4] rfl) hR hS hd
set_option maxHeartbeats 4000000 in
set_option maxRecDepth 100000 in
theorem k_X5_renewJoin_114 (C : Cx p s m args meth c RX5 cX5_renewJoin 5 none b0 D E) {GG : Hp} {x0 : Nat} {x1 : Int32} {x2 : Int32} {x3 : Int32} {G : Hp} {ls : Array Slot} {H : Heap} {locs : List Loc} : lx ls 5 [(0, .inr x0), (1, .inl x1), (2, .inl x2), (3, .inl x3)] → Rp b0 D E G H → SS b0 s H locs → d_X5_renewJoin_114 x0 x1 x2 x3 G = some GG → W p l e (rmd 5 (0) (0)) s m args below meth c H locs (0) (0) (MQ below (CQ b0 D E none GG) args s (0) (0) (fun q => b0 ≤ q)) (F0 m 114 ls []) := by
  intro hL hR hS hd
  unfold d_X5_renewJoin_114 at hd
  have hx := C.1
  have hb := C.2.1
  refine lv_iconst (v := 1) hx hb dX5_renewJoin_114 (by decide) ?_
  refine lv_goto (tgt := 119) hx hb dX5_renewJoin_115 (by decide) ?_
  exact k_X5_renewJoin_119 C hL hR hS hd
set_option maxHeartbeats 4000000 in
set_option maxRecDepth 100000 in
theorem k_X5_renewJoin_84 (C : Cx p s m args meth c RX5 cX5_renewJoin 5 none b0 D E) {GG : Hp} {x0 : Nat} {x1 : Int32} {x2 : Int32} {s0 : Int32} {G : Hp} {ls : Array Slot} {H : Heap} {locs : List Loc} : lx ls 5 [(0, .inr x0), (1, .inl x1), (2, .inl x2)] → Rp b0 D E G H → SS b0 s H locs → d_X5_renewJoin_84 x0 x1 x2 s0 G = some GG → W p l e (rmd 5 (0) (0)) s m args below meth c H locs (0) (0) (MQ below (CQ b0 D E none GG) args s (0) (0) (fun q => b0 ≤ q)) (F0 m 84 ls [.int s0]) := by
  intro hL hR hS hd
  unfold d_X5_renewJoin_84 at hd
  have hx := C.1
  have hb := C.2.1
  refine x_istore_n (lv' := [(3, .inl s0), (0, .inr x0), (1, .inl x1), (2, .inl x2)]) C dX5_renewJoin_84 hL (by decide) rfl (fun ls hL => ?_)
  refine x_aload_n C dX5_renewJoin_85 hL 1 rfl ?_
  obtain ⟨g1, hd⟩ := gd_ex hd
  refine r_getr (ci := 5) (k := 5) C fl_X5_15 rfl dX5_renewJoin_86 hR g1 ?_
  refine x_iload_n C dX5_renewJoin_89 hL 2 rfl ?_
  obtain ⟨g2, hd⟩ := gd_ex hd
  refine r_iald C dX5_renewJoin_90 hR g2 ?_
  refine lv_iconst (v := (-1)) hx hb dX5_renewJoin_91 (by decide) ?_
  refine lv_icmp_eq (tgt := 114) hx hb dX5_renewJoin_92 (by decide) (fun c3 => ?_) (fun c3 => ?_)
  · rw [if_pos c3] at hd
    exact k_X5_renewJoin_114 C (lx_sub hL [1, 2, 3, 0] rfl) hR hS hd
  · rw [if_neg c3] at hd
    refine x_aload_n C dX5_renewJoin_95 hL 1 rfl ?_
    refine r_getr (ci := 5) (k := 0) C fl_X5_50 rfl dX5_renewJoin_96 hR g1 ?_
    obtain ⟨g4, hd⟩ := gd_ex hd
    refine r_geti (ci := 2) (k := 4) C fl_X5_118 rfl dX5_renewJoin_99 hR g4 ?_
    refine x_aload_n C dX5_renewJoin_102 hL 1 rfl ?_
    refine r_getr (ci := 5) (k := 6) C fl_X5_19 rfl dX5_renewJoin_103 hR g1 ?_
    refine x_iload_n C dX5_renewJoin_106 hL 2 rfl ?_
    obtain ⟨g5, hd⟩ := gd_ex hd
    refine r_iald C dX5_renewJoin_107 hR g5 ?_
    refine lv_isub hx hb dX5_renewJoin_108 ?_
    refine lv_bipush (v := 20) hx hb dX5_renewJoin_109 (by decide) ?_
    refine lv_icmp_lt (tgt := 118) hx hb dX5_renewJoin_111 (by decide) (fun c6 => ?_) (fun c6 => ?_)
    · rw [if_pos c6] at hd
      refine lv_iconst (v := 0) hx hb dX5_renewJoin_118 (by decide) ?_
      exact k_X5_renewJoin_119 C (lx_sub hL [1, 2, 3, 0] rfl) hR hS hd
    · rw [if_neg c6] at hd
      exact k_X5_renewJoin_114 C (lx_sub hL [1, 2, 3, 0] rfl) hR hS hd
set_option maxHeartbeats 4000000 in
set_option maxRecDepth 100000 in
theorem k_X5_renewJoin_63 (C : Cx p s m args meth c RX5 cX5_renewJoin 5 none b0 D E) {GG : Hp} {x0 : Nat} {x1 : Int32} {x2 : Int32} {G : Hp} {ls : Array Slot} {H : Heap} {locs : List Loc} : lx ls 5 [(0, .inr x0), (1, .inl x1), (2, .inl x2)] → Rp b0 D E G H → SS b0 s H locs → d_X5_renewJoin_63 x0 x1 x2 G = some GG → W p l e (rmd 5 (0) (0)) s m args below meth c H locs (0) (0) (MQ below (CQ b0 D E none GG) args s (0) (0) (fun q => b0 ≤ q)) (F0 m 63 ls []) := by
  intro hL hR hS hd
  unfold d_X5_renewJoin_63 at hd
  have hx := C.1
  have hb := C.2.1
  refine x_iload_n C dX5_renewJoin_63 hL 2 rfl ?_
  refine lv_iconst (v := (-1)) hx hb dX5_renewJoin_64 (by decide) ?_
  refine lv_icmp_ne (tgt := 69) hx hb dX5_renewJoin_65 (by decide) (fun c1 => ?_) (fun c1 => ?_)
  · rw [if_neg c1] at hd
    refine x_iload_n C dX5_renewJoin_69 hL 1 rfl ?_
    refine lv_bipush (v := 16) hx hb dX5_renewJoin_70 (by decide) ?_
    refine lv_icmp_ne (tgt := 83) hx hb dX5_renewJoin_72 (by decide) (fun c2 => ?_) (fun c2 => ?_)
    · rw [if_neg c2] at hd
      refine lv_iconst (v := 0) hx hb dX5_renewJoin_83 (by decide) ?_
      exact k_X5_renewJoin_84 C hL hR hS hd
    · rw [if_pos c2] at hd
      refine x_aload_n C dX5_renewJoin_75 hL 0 rfl ?_
      refine x_iload_n C dX5_renewJoin_76 hL 2 rfl ?_
      obtain ⟨g3, hd⟩ := gd_ex hd
      obtain ⟨v5, G6, h4, hd⟩ := b2_ex hd
      refine r_callV (a := x0) (ci := 5) (As := [.int x2]) C (ct_X5_toCutOff h4) mf_X5_toCutOff ml_X5_164 mv_X5_toCutOff rfl ⟨Nat.le_of_ble_eq_true rfl, Nat.le_of_ble_eq_true rfl⟩ dX5_renewJoin_77 (lx_size hL) rfl hR hS g3 ⟨Nat.le_refl _, Nat.le_refl _⟩ (cat_le [] (Nat.le_of_ble_eq_true rfl)) (fun H locs hR hS => ?_)
      refine W_st (st2 := [.int v5]) rfl ?_
      refine lv_goto (tgt := 84) hx hb dX5_renewJoin_80 (by decide) ?_
      exact k_X5_renewJoin_84 C hL hR hS hd
  · rw [if_pos c1] at hd
    cases hd
    exact r_vret C dX5_renewJoin_68 hR hS
set_option maxHeartbeats 4000000 in
set_option maxRecDepth 100000 in
theorem k_X5_renewJoin_29 (C : Cx p s m args meth c RX5 cX5_renewJoin 5 none b0 D E) {GG : Hp} {x0 : Nat} {x1 : Int32} {s0 : Int32} {G : Hp} {ls : Array Slot} {H : Heap} {locs : List Loc} : lx ls 5 [(0, .inr x0), (1, .inl x1)] → Rp b0 D E G H → SS b0 s H locs → d_X5_renewJoin_29 x0 x1 s0 G = some GG → W p l e (rmd 5 (0) (0)) s m args below meth c H locs (0) (0) (MQ below (CQ b0 D E none GG) args s (0) (0) (fun q => b0 ≤ q)) (F0 m 29 ls [.int s0]) := by
  intro hL hR hS hd
  unfold d_X5_renewJoin_29 at hd
  have hx := C.1
  have hb := C.2.1
  refine x_istore_n (lv' := [(2, .inl s0), (0, .inr x0), (1, .inl x1)]) C dX5_renewJoin_29 hL (by decide) rfl (fun ls hL => ?_)
  refine x_aload_n C dX5_renewJoin_30 hL 1 rfl ?_
  obtain ⟨g1, hd⟩ := gd_ex hd
  refine r_getr (ci := 5) (k := 5) C fl_X5_15 rfl dX5_renewJoin_31 hR g1 ?_
  refine x_iload_n C dX5_renewJoin_34 hL 2 rfl ?_
  obtain ⟨g2, hd⟩ := gd_ex hd
  refine r_iald C dX5_renewJoin_35 hR g2 ?_
  refine lv_iconst (v := (-1)) hx hb dX5_renewJoin_36 (by decide) ?_
  refine lv_icmp_eq (tgt := 63) hx hb dX5_renewJoin_37 (by decide) (fun c3 => ?_) (fun c3 => ?_)
  · rw [if_pos c3] at hd
    exact k_X5_renewJoin_63 C (lx_sub hL [1, 2, 0] rfl) hR hS hd
  · rw [if_neg c3] at hd
    refine x_aload_n C dX5_renewJoin_40 hL 1 rfl ?_
    refine r_getr (ci := 5) (k := 5) C fl_X5_15 rfl dX5_renewJoin_41 hR g1 ?_
    refine x_iload_n C dX5_renewJoin_44 hL 2 rfl ?_
    obtain ⟨g4, hd⟩ := gd_ex hd
    refine r_iald C dX5_renewJoin_45 hR g4 ?_
    refine x_iload_n C dX5_renewJoin_46 hL 0 rfl ?_
    refine lv_icmp_eq (tgt := 63) hx hb dX5_renewJoin_47 (by decide) (fun c5 => ?_) (fun c5 => ?_)
    · rw [if_pos c5] at hd
      exact k_X5_renewJoin_63 C (lx_sub hL [1, 2, 0] rfl) hR hS hd
    · rw [if_neg c5] at hd
      refine x_aload_n C dX5_renewJoin_50 hL 1 rfl ?_
      refine lv_bipush (v := 6) hx hb dX5_renewJoin_51 (by decide) ?_
      refine x_iload_n C dX5_renewJoin_53 hL 2 rfl ?_
      obtain ⟨v7, G8, h6, hd⟩ := b2_ex hd
      refine r_callV (a := x0) (ci := 5) (As := [.int 6, .int x1]) C (ct_X5_openUp h6) mf_X5_openUp ml_X5_160 mv_X5_openUp rfl ⟨Nat.le_of_ble_eq_true rfl, Nat.le_of_ble_eq_true rfl⟩ dX5_renewJoin_54 (lx_size hL) rfl hR hS g1 ⟨Nat.le_refl _, Nat.le_refl _⟩ (cat_le [] (Nat.le_of_ble_eq_true rfl)) (fun H locs hR hS => ?_)
      refine W_st (st2 := [rv v7]) rfl ?_
      refine lv_pop hx hb dX5_renewJoin_57 (rv_cat _) ?_
      refine x_aload_n C dX5_renewJoin_58 hL 1 rfl ?_
      refine x_iload_n C dX5_renewJoin_59 hL 2 rfl ?_
      obtain ⟨g9, hd⟩ := gd_ex hd
      obtain ⟨G11, h10, hd⟩ := bo_ex hd
      refine r_callV (a := x0) (ci := 5) (As := [.int x1]) C (ct_X5_joinNone h10) mf_X5_joinNone ml_X5_151 mv_X5_joinNone rfl ⟨Nat.le_of_ble_eq_true rfl, Nat.le_of_ble_eq_true rfl⟩ dX5_renewJoin_60 (lx_size hL) rfl hR hS g9 ⟨Nat.le_refl _, Nat.le_refl _⟩ (cat_le [] (Nat.le_of_ble_eq_true rfl)) (fun H locs hR hS => ?_)
      refine W_st (st2 := []) rfl ?_
      exact k_X5_renewJoin_63 C (lx_sub hL [1, 2, 0] rfl) hR hS hd
set_option maxHeartbeats 4000000 in
set_option maxRecDepth 100000 in
theorem k_X5_renewJoin (C : Cx p s m args meth c RX5 cX5_renewJoin 5 none b0 D E) {GG : Hp} {x0 : Nat} {x1 : Int32} {G : Hp} {ls : Array Slot} {H : Heap} {locs : List Loc} : lx ls 5 [(0, .inr x0), (1, .inl x1)] → Rp b0 D E G H → SS b0 s H locs → d_X5_renewJoin x0 x1 G = some GG → W p l e (rmd 5 (0) (0)) s m args below meth c H locs (0) (0) (MQ below (CQ b0 D E none GG) args s (0) (0) (fun q => b0 ≤ q)) (F0 m 0 ls []) := by
  intro hL hR hS hd
  unfold d_X5_renewJoin at hd
  have hx := C.1
  have hb := C.2.1
  refine x_aload_n C dX5_renewJoin_0 hL 0 rfl ?_
  obtain ⟨g1, hd⟩ := gd_ex hd
  refine r_geti (ci := 5) (k := 4) C fl_X5_9 rfl dX5_renewJoin_1 hR g1 ?_
  refine x_iload_n C dX5_renewJoin_4 hL 1 rfl ?_
  obtain ⟨v3, h2, hd⟩ := bo_ex hd
  refine r_callSN (As := [.int (hi G x0 4), .int x1]) C (ct_X8_has h2) mf_X8_has (by decide +kernel) ms_X8_has rfl ⟨Nat.le_of_ble_eq_true rfl, Nat.le_of_ble_eq_true rfl⟩ dX5_renewJoin_5 (lx_size hL) rfl hR hS ⟨Nat.le_refl _, Nat.le_refl _⟩ (cat_le [] (Nat.le_of_ble_eq_true rfl)) (fun H locs hR hS => ?_)
  refine W_st (st2 := [.int v3]) rfl ?_
  refine lv_if_ne (tgt := 12) hx hb dX5_renewJoin_8 (by decide) (fun c4 => ?_) (fun c4 => ?_)
  · rw [if_neg c4] at hd
    refine x_aload_n C dX5_renewJoin_12 hL 0 rfl ?_
    refine x_iload_n C dX5_renewJoin_13 hL 1 rfl ?_
    obtain ⟨v6, G7, h5, hd⟩ := b2_ex hd
    refine r_callV (a := x0) (ci := 5) (As := [.int x1]) C (ct_X5_wants h5) mf_X5_wants ml_X5_157 mv_X5_wants rfl ⟨Nat.le_of_ble_eq_true rfl, Nat.le_of_ble_eq_true rfl⟩ dX5_renewJoin_14 (lx_size hL) rfl hR hS g1 ⟨Nat.le_refl _, Nat.le_refl _⟩ (cat_le [] (Nat.le_of_ble_eq_true rfl)) (fun H locs hR hS => ?_)
    refine W_st (st2 := [.int v6]) rfl ?_
    refine lv_if_eq (tgt := 28) hx hb dX5_renewJoin_17 (by decide) (fun c8 => ?_) (fun c8 => ?_)
    · rw [if_pos c8] at hd
      refine lv_iconst (v := (-1)) hx hb dX5_renewJoin_28 (by decide) ?_
      exact k_X5_renewJoin_29 C hL hR hS hd
    · rw [if_neg c8] at hd
      refine x_aload_n C dX5_renewJoin_20 hL 0 rfl ?_
      refine x_iload_n C dX5_renewJoin_21 hL 1 rfl ?_
      obtain ⟨g9, hd⟩ := gd_ex hd
      obtain ⟨v11, h10, hd⟩ := bo_ex hd
      refine r_callV (a := x0) (ci := 5) (As := [.int x1]) C (ct_X5_up h10) mf_X5_up ml_X5_148 mv_X5_up rfl ⟨Nat.le_of_ble_eq_true rfl, Nat.le_of_ble_eq_true rfl⟩ dX5_renewJoin_22 (lx_size hL) rfl hR hS g9 ⟨Nat.le_refl _, Nat.le_refl _⟩ (cat_le [] (Nat.le_of_ble_eq_true rfl)) (fun H locs hR hS => ?_)
      refine W_st (st2 := [.int v11]) rfl ?_
      refine lv_goto (tgt := 29) hx hb dX5_renewJoin_25 (by decide) ?_
      exact k_X5_renewJoin_29 C hL hR hS hd
  · rw [if_pos c4] at hd
    cases hd
    exact r_vret C dX5_renewJoin_11 hR hS
end
set_option maxHeartbeats 4000000 in
set_option maxRecDepth 100000 in
theorem ct_X5_renewJoin {l : Launch} {b0 : Nat} {D : va_G} {E : Nat → ClassId} {G : Hp} {a0 : Nat} {a1 : Int32} {GG : Hp} (hd : d_X5_renewJoin a0 a1 G = some GG) : CT l yX5_renewJoin cX5_renewJoin 5 none 5 0 0 b0 D E [rv a0, .int a1] G none GG := by
  refine CT_of (by decide +kernel) ?_
  intro p e s m below meth c C hnm hR
  refine r_entry [.inr a0, .inl a1] (n := 5) (Nat.le_of_ble_eq_true rfl) (lv := [(0, .inr a0), (1, .inl a1)]) rfl (fun ls hL => ?_)
  exact k_X5_renewJoin C (lx_sub hL [0, 1] rfl) hR ⟨fun _ _ => rfl, fun _ h => by cases h⟩ hd
