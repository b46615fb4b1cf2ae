/-! GroveWorks$Frame.<init>()V pure -/
theorem dX0_init_0 : decode cX0_init 0 = .ok (.aload_n 0, 1) := by decide +kernel
theorem dX0_init_1 : decode cX0_init 1 = .ok (.invokespecial 3, 3) := by decide +kernel
theorem dX0_init_4 : decode cX0_init 4 = .ok (.return_, 1) := by decide +kernel
def d_X0_init (x0 : Nat) (G : Hp) : Option (Unit) :=
  gd (hc G x0 = 1) <|
  some ()
section
variable {p : Program} {l : Launch} {e : Env} {s : State} {m : MethodId} {args : Array Value} {below : List Frame} {meth : Method} {c : Code} {b0 : Nat} {D : va_G} {E : Nat → ClassId}
set_option maxHeartbeats 4000000 in
set_option maxRecDepth 100000 in
theorem k_X0_init (C : Cx p s m args meth c RX0 cX0_init 1 none b0 D E) (hnm : meth.name = "<init>") {G : Hp} {x0 : Nat} {ls : Array Slot} {H : Heap} {locs : List Loc} : lx ls 1 [(0, .inr x0)] → Rp b0 D E G H → SS b0 s H locs → d_X0_init x0 G = some () → W p l e (rmd 1 (0) (0)) s m args below meth c H locs (0) (0) (MQ below (CQ b0 D E none G) args s (0) (0) (fun q => b0 ≤ q)) (F0 m 0 ls []) := by
  intro hL hR hS hd
  unfold d_X0_init at hd
  have hx := C.1
  have hb := C.2.1
  refine x_aload_n C dX0_init_0 hL 0 rfl ?_
  obtain ⟨g1, hd⟩ := gd_ex hd
  refine r_objI (a := x0) C ml_X0_3 dX0_init_1 (lx_size hL) hR (by rw [g1]; decide) ⟨Nat.le_of_ble_eq_true rfl, Nat.le_of_ble_eq_true rfl⟩ (cat_le [] (Nat.le_of_ble_eq_true rfl)) ?_
  cases hd
  exact r_vret C dX0_init_4 hR hS
end
set_option maxHeartbeats 4000000 in
set_option maxRecDepth 100000 in
theorem ct_X0_init {l : Launch} {b0 : Nat} {D : va_G} {E : Nat → ClassId} {G : Hp} {a0 : Nat} (hd : d_X0_init a0 G = some ()) : CT l yX0_init cX0_init 1 none 1 0 0 b0 D E [rv a0] G none G := by
  refine CT_of (by decide +kernel) ?_
  intro p e s m below meth c C hnm hR
  refine r_entry [.inr a0] (n := 1) (Nat.le_of_ble_eq_true rfl) (lv := [(0, .inr a0)]) rfl (fun ls hL => ?_)
  exact k_X0_init C hnm (lx_sub hL [0] rfl) hR ⟨fun _ _ => rfl, fun _ h => by cases h⟩ hd

/-! GroveWorks$Frame.begin(II)V -/
theorem dX0_begin_0 : decode cX0_begin 0 = .ok (.aload_n 0, 1) := by decide +kernel
theorem dX0_begin_1 : decode cX0_begin 1 = .ok (.iload_n 1, 1) := by decide +kernel
theorem dX0_begin_2 : decode cX0_begin 2 = .ok (.putfield 9, 3) := by decide +kernel
theorem dX0_begin_5 : decode cX0_begin 5 = .ok (.aload_n 0, 1) := by decide +kernel
theorem dX0_begin_6 : decode cX0_begin 6 = .ok (.iload_n 2, 1) := by decide +kernel
theorem dX0_begin_7 : decode cX0_begin 7 = .ok (.putfield 15, 3) := by decide +kernel
theorem dX0_begin_10 : decode cX0_begin 10 = .ok (.aload_n 0, 1) := by decide +kernel
theorem dX0_begin_11 : decode cX0_begin 11 = .ok (.iconst (-1), 1) := by decide +kernel
theorem dX0_begin_12 : decode cX0_begin 12 = .ok (.putfield 18, 3) := by decide +kernel
theorem dX0_begin_15 : decode cX0_begin 15 = .ok (.aload_n 0, 1) := by decide +kernel
theorem dX0_begin_16 : decode cX0_begin 16 = .ok (.iconst (-1), 1) := by decide +kernel
theorem dX0_begin_17 : decode cX0_begin 17 = .ok (.putfield 21, 3) := by decide +kernel
theorem dX0_begin_20 : decode cX0_begin 20 = .ok (.aload_n 0, 1) := by decide +kernel
theorem dX0_begin_21 : decode cX0_begin 21 = .ok (.iconst (-1), 1) := by decide +kernel
theorem dX0_begin_22 : decode cX0_begin 22 = .ok (.putfield 24, 3) := by decide +kernel
theorem dX0_begin_25 : decode cX0_begin 25 = .ok (.aload_n 0, 1) := by decide +kernel
theorem dX0_begin_26 : decode cX0_begin 26 = .ok (.iconst 0, 1) := by decide +kernel
theorem dX0_begin_27 : decode cX0_begin 27 = .ok (.putfield 27, 3) := by decide +kernel
theorem dX0_begin_30 : decode cX0_begin 30 = .ok (.aload_n 0, 1) := by decide +kernel
theorem dX0_begin_31 : decode cX0_begin 31 = .ok (.iconst 0, 1) := by decide +kernel
theorem dX0_begin_32 : decode cX0_begin 32 = .ok (.putfield 30, 3) := by decide +kernel
theorem dX0_begin_35 : decode cX0_begin 35 = .ok (.aload_n 0, 1) := by decide +kernel
theorem dX0_begin_36 : decode cX0_begin 36 = .ok (.iconst 0, 1) := by decide +kernel
theorem dX0_begin_37 : decode cX0_begin 37 = .ok (.putfield 33, 3) := by decide +kernel
theorem dX0_begin_40 : decode cX0_begin 40 = .ok (.return_, 1) := by decide +kernel
def d_X0_begin (x0 : Nat) (x1 : Int32) (x2 : Int32) (G : Hp) : Option (Hp) :=
  gd (hc G x0 = 1) <|
  bd (sI G x0 0 x1) fun G2 =>
  gd (hc G2 x0 = 1) <|
  bd (sI G2 x0 1 x2) fun G4 =>
  gd (hc G4 x0 = 1) <|
  bd (sI G4 x0 2 (-1)) fun G6 =>
  gd (hc G6 x0 = 1) <|
  bd (sI G6 x0 3 (-1)) fun G8 =>
  gd (hc G8 x0 = 1) <|
  bd (sI G8 x0 4 (-1)) fun G10 =>
  gd (hc G10 x0 = 1) <|
  bd (sI G10 x0 5 0) fun G12 =>
  gd (hc G12 x0 = 1) <|
  bd (sI G12 x0 6 0) fun G14 =>
  gd (hc G14 x0 = 1) <|
  bd (sI G14 x0 7 0) fun G16 =>
  some G16
section
variable {p : Program} {l : Launch} {e : Env} {s : State} {m : MethodId} {args : Array Value} {below : List Frame} {meth : Method} {c : Code} {b0 : Nat} {D : va_G} {E : Nat → ClassId}
set_option maxHeartbeats 4000000 in
set_option maxRecDepth 100000 in
theorem k_X0_begin (C : Cx p s m args meth c RX0 cX0_begin 3 none b0 D E) {GG : Hp} {x0 : Nat} {x1 : Int32} {x2 : Int32} {G : Hp} {ls : Array Slot} {H : Heap} {locs : List Loc} : lx ls 3 [(0, .inr x0), (1, .inl x1), (2, .inl x2)] → Rp b0 D E G H → SS b0 s H locs → d_X0_begin x0 x1 x2 G = some GG → W p l e (rmd 0 (0) (0)) s m args below meth c H locs (0) (0) (MQ below (CQ b0 D E none GG) args s (0) (0) (fun q => b0 ≤ q)) (F0 m 0 ls []) := by
  intro hL hR hS hd
  unfold d_X0_begin at hd
  have hx := C.1
  have hb := C.2.1
  refine x_aload_n C dX0_begin_0 hL 0 rfl ?_
  refine x_iload_n C dX0_begin_1 hL 1 rfl ?_
  obtain ⟨g1, hd⟩ := gd_ex hd
  obtain ⟨G2, eG2, hd⟩ := bd_ex hd
  refine r_puti (ci := 0) (k := 0) C fl_X0_9 rfl (Or.inl rfl) dX0_begin_2 hR hS g1 (fun H locs hR hS => ?_)
  replace hR : Rp b0 D E G2 H := by rw [eG2]; exact hR
  refine x_aload_n C dX0_begin_5 hL 0 rfl ?_
  refine x_iload_n C dX0_begin_6 hL 2 rfl ?_
  obtain ⟨g3, hd⟩ := gd_ex hd
  obtain ⟨G4, eG4, hd⟩ := bd_ex hd
  refine r_puti (ci := 0) (k := 1) C fl_X0_15 rfl (Or.inl rfl) dX0_begin_7 hR hS g3 (fun H locs hR hS => ?_)
  replace hR : Rp b0 D E G4 H := by rw [eG4]; exact hR
  refine x_aload_n C dX0_begin_10 hL 0 rfl ?_
  refine lv_iconst (v := (-1)) hx hb dX0_begin_11 (by decide) ?_
  obtain ⟨g5, hd⟩ := gd_ex hd
  obtain ⟨G6, eG6, hd⟩ := bd_ex hd
  refine r_puti (ci := 0) (k := 2) C fl_X0_18 rfl (Or.inl rfl) dX0_begin_12 hR hS g5 (fun H locs hR hS => ?_)
  replace hR : Rp b0 D E G6 H := by rw [eG6]; exact hR
  refine x_aload_n C dX0_begin_15 hL 0 rfl ?_
  refine lv_iconst (v := (-1)) hx hb dX0_begin_16 (by decide) ?_
  obtain ⟨g7, hd⟩ := gd_ex hd
  obtain ⟨G8, eG8, hd⟩ := bd_ex hd
  refine r_puti (ci := 0) (k := 3) C fl_X0_21 rfl (Or.inl rfl) dX0_begin_17 hR hS g7 (fun H locs hR hS => ?_)
  replace hR : Rp b0 D E G8 H := by rw [eG8]; exact hR
  refine x_aload_n C dX0_begin_20 hL 0 rfl ?_
  refine lv_iconst (v := (-1)) hx hb dX0_begin_21 (by decide) ?_
  obtain ⟨g9, hd⟩ := gd_ex hd
  obtain ⟨G10, eG10, hd⟩ := bd_ex hd
  refine r_puti (ci := 0) (k := 4) C fl_X0_24 rfl (Or.inl rfl) dX0_begin_22 hR hS g9 (fun H locs hR hS => ?_)
  replace hR : Rp b0 D E G10 H := by rw [eG10]; exact hR
  refine x_aload_n C dX0_begin_25 hL 0 rfl ?_
  refine lv_iconst (v := 0) hx hb dX0_begin_26 (by decide) ?_
  obtain ⟨g11, hd⟩ := gd_ex hd
  obtain ⟨G12, eG12, hd⟩ := bd_ex hd
  refine r_puti (ci := 0) (k := 5) C fl_X0_27 rfl (Or.inl rfl) dX0_begin_27 hR hS g11 (fun H locs hR hS => ?_)
  replace hR : Rp b0 D E G12 H := by rw [eG12]; exact hR
  refine x_aload_n C dX0_begin_30 hL 0 rfl ?_
  refine lv_iconst (v := 0) hx hb dX0_begin_31 (by decide) ?_
  obtain ⟨g13, hd⟩ := gd_ex hd
  obtain ⟨G14, eG14, hd⟩ := bd_ex hd
  refine r_puti (ci := 0) (k := 6) C fl_X0_30 rfl (Or.inl rfl) dX0_begin_32 hR hS g13 (fun H locs hR hS => ?_)
  replace hR : Rp b0 D E G14 H := by rw [eG14]; exact hR
  refine x_aload_n C dX0_begin_35 hL 0 rfl ?_
  refine lv_iconst (v := 0) hx hb dX0_begin_36 (by decide) ?_
  obtain ⟨g15, hd⟩ := gd_ex hd
  obtain ⟨G16, eG16, hd⟩ := bd_ex hd
  refine r_puti (ci := 0) (k := 7) C fl_X0_33 rfl (Or.inl rfl) dX0_begin_37 hR hS g15 (fun H locs hR hS => ?_)
  replace hR : Rp b0 D E G16 H := by rw [eG16]; exact hR
  cases hd
  exact r_vret C dX0_begin_40 hR hS
end
set_option maxHeartbeats 4000000 in
set_option maxRecDepth 100000 in
theorem ct_X0_begin {l : Launch} {b0 : Nat} {D : va_G} {E : Nat → ClassId} {G : Hp} {a0 : Nat} {a1 : Int32} {a2 : Int32} {GG : Hp} (hd : d_X0_begin a0 a1 a2 G = some GG) : CT l yX0_begin cX0_begin 3 none 0 0 0 b0 D E [rv a0, .int a1, .int a2] G none GG := by
  refine CT_of (by decide +kernel) ?_
  intro p e s m below meth c C hnm hR
  refine r_entry [.inr a0, .inl a1, .inl a2] (n := 3) (Nat.le_of_ble_eq_true rfl) (lv := [(0, .inr a0), (1, .inl a1), (2, .inl a2)]) rfl (fun ls hL => ?_)
  exact k_X0_begin C (lx_sub hL [0, 1, 2] rfl) hR ⟨fun _ _ => rfl, fun _ h => by cases h⟩ hd

/-! GroveWorks$Frame.aim(III)V -/
theorem dX0_aim_0 : decode cX0_aim 0 = .ok (.aload_n 0, 1) := by decide +kernel
theorem dX0_aim_1 : decode cX0_aim 1 = .ok (.iload_n 1, 1) := by decide +kernel
theorem dX0_aim_2 : decode cX0_aim 2 = .ok (.putfield 18, 3) := by decide +kernel
theorem dX0_aim_5 : decode cX0_aim 5 = .ok (.aload_n 0, 1) := by decide +kernel
theorem dX0_aim_6 : decode cX0_aim 6 = .ok (.iload_n 2, 1) := by decide +kernel
theorem dX0_aim_7 : decode cX0_aim 7 = .ok (.putfield 21, 3) := by decide +kernel
theorem dX0_aim_10 : decode cX0_aim 10 = .ok (.aload_n 0, 1) := by decide +kernel
theorem dX0_aim_11 : decode cX0_aim 11 = .ok (.iload_n 3, 1) := by decide +kernel
theorem dX0_aim_12 : decode cX0_aim 12 = .ok (.putfield 24, 3) := by decide +kernel
theorem dX0_aim_15 : decode cX0_aim 15 = .ok (.return_, 1) := by decide +kernel
def d_X0_aim (x0 : Nat) (x1 : Int32) (x2 : Int32) (x3 : Int32) (G : Hp) : Option (Hp) :=
  gd (hc G x0 = 1) <|
  bd (sI G x0 2 x1) fun G2 =>
  gd (hc G2 x0 = 1) <|
  bd (sI G2 x0 3 x2) fun G4 =>
  gd (hc G4 x0 = 1) <|
  bd (sI G4 x0 4 x3) fun G6 =>
  some G6
section
variable {p : Program} {l : Launch} {e : Env} {s : State} {m : MethodId} {args : Array Value} {below : List Frame} {meth : Method} {c : Code} {b0 : Nat} {D : va_G} {E : Nat → ClassId}
set_option maxHeartbeats 4000000 in
set_option maxRecDepth 100000 in
theorem k_X0_aim (C : Cx p s m args meth c RX0 cX0_aim 4 none b0 D E) {GG : Hp} {x0 : Nat} {x1 : Int32} {x2 : Int32} {x3 : Int32} {G : Hp} {ls : Array Slot} {H : Heap} {locs : List Loc} : lx ls 4 [(0, .inr x0), (1, .inl x1), (2, .inl x2), (3, .inl x3)] → Rp b0 D E G H → SS b0 s H locs → d_X0_aim x0 x1 x2 x3 G = some GG → W p l e (rmd 0 (0) (0)) s m args below meth c H locs (0) (0) (MQ below (CQ b0 D E none GG) args s (0) (0) (fun q => b0 ≤ q)) (F0 m 0 ls []) := by
  intro hL hR hS hd
  unfold d_X0_aim at hd
  have hx := C.1
  have hb := C.2.1
  refine x_aload_n C dX0_aim_0 hL 0 rfl ?_
  refine x_iload_n C dX0_aim_1 hL 1 rfl ?_
  obtain ⟨g1, hd⟩ := gd_ex hd
  obtain ⟨G2, eG2, hd⟩ := bd_ex hd
  refine r_puti (ci := 0) (k := 2) C fl_X0_18 rfl (Or.inl rfl) dX0_aim_2 hR hS g1 (fun H locs hR hS => ?_)
  replace hR : Rp b0 D E G2 H := by rw [eG2]; exact hR
  refine x_aload_n C dX0_aim_5 hL 0 rfl ?_
  refine x_iload_n C dX0_aim_6 hL 2 rfl ?_
  obtain ⟨g3, hd⟩ := gd_ex hd
  obtain ⟨G4, eG4, hd⟩ := bd_ex hd
  refine r_puti (ci := 0) (k := 3) C fl_X0_21 rfl (Or.inl rfl) dX0_aim_7 hR hS g3 (fun H locs hR hS => ?_)
  replace hR : Rp b0 D E G4 H := by rw [eG4]; exact hR
  refine x_aload_n C dX0_aim_10 hL 0 rfl ?_
  refine x_iload_n C dX0_aim_11 hL 3 rfl ?_
  obtain ⟨g5, hd⟩ := gd_ex hd
  obtain ⟨G6, eG6, hd⟩ := bd_ex hd
  refine r_puti (ci := 0) (k := 4) C fl_X0_24 rfl (Or.inl rfl) dX0_aim_12 hR hS g5 (fun H locs hR hS => ?_)
  replace hR : Rp b0 D E G6 H := by rw [eG6]; exact hR
  cases hd
  exact r_vret C dX0_aim_15 hR hS
end
set_option maxHeartbeats 4000000 in
set_option maxRecDepth 100000 in
theorem ct_X0_aim {l : Launch} {b0 : Nat} {D : va_G} {E : Nat → ClassId} {G : Hp} {a0 : Nat} {a1 : Int32} {a2 : Int32} {a3 : Int32} {GG : Hp} (hd : d_X0_aim a0 a1 a2 a3 G = some GG) : CT l yX0_aim cX0_aim 4 none 0 0 0 b0 D E [rv a0, .int a1, .int a2, .int a3] G none GG := by
  refine CT_of (by decide +kernel) ?_
  intro p e s m below meth c C hnm hR
  refine r_entry [.inr a0, .inl a1, .inl a2, .inl a3] (n := 4) (Nat.le_of_ble_eq_true rfl) (lv := [(0, .inr a0), (1, .inl a1), (2, .inl a2), (3, .inl a3)]) rfl (fun ls hL => ?_)
  exact k_X0_aim C (lx_sub hL [0, 1, 2, 3] rfl) hR ⟨fun _ _ => rfl, fun _ h => by cases h⟩ hd

/-! GroveWorks$Frame.tell(I)I pure -/
theorem dX0_tell_0 : decode cX0_tell 0 = .ok (.iload_n 1, 1) := by decide +kernel
theorem dX0_tell_1 : decode cX0_tell 1 = .ok (.tableswitch 87 0 7 #[47, 52, 57, 62, 67, 72, 77, 82], 47) := by decide +kernel
theorem dX0_tell_48 : decode cX0_tell 48 = .ok (.aload_n 0, 1) := by decide +kernel
theorem dX0_tell_49 : decode cX0_tell 49 = .ok (.getfield 9, 3) := by decide +kernel
theorem dX0_tell_52 : decode cX0_tell 52 = .ok (.ireturn, 1) := by decide +kernel
theorem dX0_tell_53 : decode cX0_tell 53 = .ok (.aload_n 0, 1) := by decide +kernel
theorem dX0_tell_54 : decode cX0_tell 54 = .ok (.getfield 15, 3) := by decide +kernel
theorem dX0_tell_57 : decode cX0_tell 57 = .ok (.ireturn, 1) := by decide +kernel
theorem dX0_tell_58 : decode cX0_tell 58 = .ok (.aload_n 0, 1) := by decide +kernel
theorem dX0_tell_59 : decode cX0_tell 59 = .ok (.getfield 18, 3) := by decide +kernel
theorem dX0_tell_62 : decode cX0_tell 62 = .ok (.ireturn, 1) := by decide +kernel
theorem dX0_tell_63 : decode cX0_tell 63 = .ok (.aload_n 0, 1) := by decide +kernel
theorem dX0_tell_64 : decode cX0_tell 64 = .ok (.getfield 21, 3) := by decide +kernel
theorem dX0_tell_67 : decode cX0_tell 67 = .ok (.ireturn, 1) := by decide +kernel
theorem dX0_tell_68 : decode cX0_tell 68 = .ok (.aload_n 0, 1) := by decide +kernel
theorem dX0_tell_69 : decode cX0_tell 69 = .ok (.getfield 24, 3) := by decide +kernel
theorem dX0_tell_72 : decode cX0_tell 72 = .ok (.ireturn, 1) := by decide +kernel
theorem dX0_tell_73 : decode cX0_tell 73 = .ok (.aload_n 0, 1) := by decide +kernel
theorem dX0_tell_74 : decode cX0_tell 74 = .ok (.getfield 27, 3) := by decide +kernel
theorem dX0_tell_77 : decode cX0_tell 77 = .ok (.ireturn, 1) := by decide +kernel
theorem dX0_tell_78 : decode cX0_tell 78 = .ok (.aload_n 0, 1) := by decide +kernel
theorem dX0_tell_79 : decode cX0_tell 79 = .ok (.getfield 30, 3) := by decide +kernel
theorem dX0_tell_82 : decode cX0_tell 82 = .ok (.ireturn, 1) := by decide +kernel
theorem dX0_tell_83 : decode cX0_tell 83 = .ok (.aload_n 0, 1) := by decide +kernel
theorem dX0_tell_84 : decode cX0_tell 84 = .ok (.getfield 33, 3) := by decide +kernel
theorem dX0_tell_87 : decode cX0_tell 87 = .ok (.ireturn, 1) := by decide +kernel
theorem dX0_tell_88 : decode cX0_tell 88 = .ok (.bipush (-2), 2) := by decide +kernel
theorem dX0_tell_90 : decode cX0_tell 90 = .ok (.ireturn, 1) := by decide +kernel
def d_X0_tell (x0 : Nat) (x1 : Int32) (G : Hp) : Option (Int32) :=
  if x1 = 0 then
    gd (hc G x0 = 1) <|
    some ((hi G x0 0))
  else
  if x1 = 1 then
    gd (hc G x0 = 1) <|
    some ((hi G x0 1))
  else
  if x1 = 2 then
    gd (hc G x0 = 1) <|
    some ((hi G x0 2))
  else
  if x1 = 3 then
    gd (hc G x0 = 1) <|
    some ((hi G x0 3))
  else
  if x1 = 4 then
    gd (hc G x0 = 1) <|
    some ((hi G x0 4))
  else
  if x1 = 5 then
    gd (hc G x0 = 1) <|
    some ((hi G x0 5))
  else
  if x1 = 6 then
    gd (hc G x0 = 1) <|
    some ((hi G x0 6))
  else
  if x1 = 7 then
    gd (hc G x0 = 1) <|
    some ((hi G x0 7))
  else
  some (-2)
section
variable {p : Program} {l : Launch} {e : Env} {s : State} {m : MethodId} {args : Array Value} {below : List Frame} {meth : Method} {c : Code} {b0 : Nat} {D : va_G} {E : Nat → ClassId}
set_option maxHeartbeats 4000000 in
set_option maxRecDepth 100000 in
theorem k_X0_tell (C : Cx p s m args meth c RX0 cX0_tell 2 (some .int) b0 D E) {rr : Int32} {G : Hp} {x0 : Nat} {x1 : Int32} {ls : Array Slot} {H : Heap} {locs : List Loc} : lx ls 2 [(0, .inr x0), (1, .inl x1)] → Rp b0 D E G H → SS b0 s H locs → d_X0_tell x0 x1 G = some rr → W p l e (rmd 0 (0) (0)) s m args below meth c H locs (0) (0) (MQ below (CQ b0 D E (some (.int rr)) G) args s (0) (0) (fun q => b0 ≤ q)) (F0 m 0 ls []) := by
  intro hL hR hS hd
  unfold d_X0_tell at hd
  have hx := C.1
  have hb := C.2.1
  refine x_iload_n C dX0_tell_0 hL 1 rfl ?_
  by_cases c1_0 : x1 = 0
  · rw [if_pos c1_0] at hd
    rw [c1_0]
    refine lv_tableIn (tgt := 48) hx hb dX0_tell_1 (by decide) (by decide) rfl (by decide) ?_
    refine x_aload_n C dX0_tell_48 hL 0 rfl ?_
    obtain ⟨g2, hd⟩ := gd_ex hd
    refine r_geti (ci := 0) (k := 0) C fl_X0_9 rfl dX0_tell_49 hR g2 ?_
    cases hd
    exact r_iret C dX0_tell_52 hR hS
  rw [if_neg c1_0] at hd
  by_cases c1_1 : x1 = 1
  · rw [if_pos c1_1] at hd
    rw [c1_1]
    refine lv_tableIn (tgt := 53) hx hb dX0_tell_1 (by decide) (by decide) rfl (by decide) ?_
    refine x_aload_n C dX0_tell_53 hL 0 rfl ?_
    obtain ⟨g3, hd⟩ := gd_ex hd
    refine r_geti (ci := 0) (k := 1) C fl_X0_15 rfl dX0_tell_54 hR g3 ?_
    cases hd
    exact r_iret C dX0_tell_57 hR hS
  rw [if_neg c1_1] at hd
  by_cases c1_2 : x1 = 2
  · rw [if_pos c1_2] at hd
    rw [c1_2]
    refine lv_tableIn (tgt := 58) hx hb dX0_tell_1 (by decide) (by decide) rfl (by decide) ?_
    refine x_aload_n C dX0_tell_58 hL 0 rfl ?_
    obtain ⟨g4, hd⟩ := gd_ex hd
    refine r_geti (ci := 0) (k := 2) C fl_X0_18 rfl dX0_tell_59 hR g4 ?_
    cases hd
    exact r_iret C dX0_tell_62 hR hS
  rw [if_neg c1_2] at hd
  by_cases c1_3 : x1 = 3
  · rw [if_pos c1_3] at hd
    rw [c1_3]
    refine lv_tableIn (tgt := 63) hx hb dX0_tell_1 (by decide) (by decide) rfl (by decide) ?_
    refine x_aload_n C dX0_tell_63 hL 0 rfl ?_
    obtain ⟨g5, hd⟩ := gd_ex hd
    refine r_geti (ci := 0) (k := 3) C fl_X0_21 rfl dX0_tell_64 hR g5 ?_
    cases hd
    exact r_iret C dX0_tell_67 hR hS
  rw [if_neg c1_3] at hd
  by_cases c1_4 : x1 = 4
  · rw [if_pos c1_4] at hd
    rw [c1_4]
    refine lv_tableIn (tgt := 68) hx hb dX0_tell_1 (by decide) (by decide) rfl (by decide) ?_
    refine x_aload_n C dX0_tell_68 hL 0 rfl ?_
    obtain ⟨g6, hd⟩ := gd_ex hd
    refine r_geti (ci := 0) (k := 4) C fl_X0_24 rfl dX0_tell_69 hR g6 ?_
    cases hd
    exact r_iret C dX0_tell_72 hR hS
  rw [if_neg c1_4] at hd
  by_cases c1_5 : x1 = 5
  · rw [if_pos c1_5] at hd
    rw [c1_5]
    refine lv_tableIn (tgt := 73) hx hb dX0_tell_1 (by decide) (by decide) rfl (by decide) ?_
    refine x_aload_n C dX0_tell_73 hL 0 rfl ?_
    obtain ⟨g7, hd⟩ := gd_ex hd
    refine r_geti (ci := 0) (k := 5) C fl_X0_27 rfl dX0_tell_74 hR g7 ?_
    cases hd
    exact r_iret C dX0_tell_77 hR hS
  rw [if_neg c1_5] at hd
  by_cases c1_6 : x1 = 6
  · rw [if_pos c1_6] at hd
    rw [c1_6]
    refine lv_tableIn (tgt := 78) hx hb dX0_tell_1 (by decide) (by decide) rfl (by decide) ?_
    refine x_aload_n C dX0_tell_78 hL 0 rfl ?_
    obtain ⟨g8, hd⟩ := gd_ex hd
    refine r_geti (ci := 0) (k := 6) C fl_X0_30 rfl dX0_tell_79 hR g8 ?_
    cases hd
    exact r_iret C dX0_tell_82 hR hS
  rw [if_neg c1_6] at hd
  by_cases c1_7 : x1 = 7
  · rw [if_pos c1_7] at hd
    rw [c1_7]
    refine lv_tableIn (tgt := 83) hx hb dX0_tell_1 (by decide) (by decide) rfl (by decide) ?_
    refine x_aload_n C dX0_tell_83 hL 0 rfl ?_
    obtain ⟨g9, hd⟩ := gd_ex hd
    refine r_geti (ci := 0) (k := 7) C fl_X0_33 rfl dX0_tell_84 hR g9 ?_
    cases hd
    exact r_iret C dX0_tell_87 hR hS
  rw [if_neg c1_7] at hd
  have z_0 := i32_ne c1_0
  have z_1 := i32_ne c1_1
  have z_2 := i32_ne c1_2
  have z_3 := i32_ne c1_3
  have z_4 := i32_ne c1_4
  have z_5 := i32_ne c1_5
  have z_6 := i32_ne c1_6
  have z_7 := i32_ne c1_7
  refine lv_tableOut (tgt := 88) hx hb dX0_tell_1 (by simp only [show ((0 : Int32)).toInt = 0 from rfl, show ((1 : Int32)).toInt = 1 from rfl, show ((2 : Int32)).toInt = 2 from rfl, show ((3 : Int32)).toInt = 3 from rfl, show ((4 : Int32)).toInt = 4 from rfl, show ((5 : Int32)).toInt = 5 from rfl, show ((6 : Int32)).toInt = 6 from rfl, show ((7 : Int32)).toInt = 7 from rfl] at z_0 z_1 z_2 z_3 z_4 z_5 z_6 z_7; omega) (by decide) ?_
  refine lv_bipush (v := (-2)) hx hb dX0_tell_88 (by decide) ?_
  cases hd
  exact r_iret C dX0_tell_90 hR hS
end
set_option maxHeartbeats 4000000 in
set_option maxRecDepth 100000 in
theorem ct_X0_tell {l : Launch} {b0 : Nat} {D : va_G} {E : Nat → ClassId} {G : Hp} {a0 : Nat} {a1 : Int32} {rr : Int32} (hd : d_X0_tell a0 a1 G = some rr) : CT l yX0_tell cX0_tell 2 (some .int) 0 0 0 b0 D E [rv a0, .int a1] G (some (.int rr)) G := by
  refine CT_of (by decide +kernel) ?_
  intro p e s m below meth c C hnm hR
  refine r_entry [.inr a0, .inl a1] (n := 2) (Nat.le_of_ble_eq_true rfl) (lv := [(0, .inr a0), (1, .inl a1)]) rfl (fun ls hL => ?_)
  exact k_X0_tell C (lx_sub hL [0, 1] rfl) hR ⟨fun _ _ => rfl, fun _ h => by cases h⟩ hd

/-! GroveWorks$Host.<init>(ILGroveWorks$Wire;)V makes -/
theorem dX1_init_0 : decode cX1_init 0 = .ok (.aload_n 0, 1) := by decide +kernel
theorem dX1_init_1 : decode cX1_init 1 = .ok (.invokespecial 3, 3) := by decide +kernel
theorem dX1_init_4 : decode cX1_init 4 = .ok (.aload_n 0, 1) := by decide +kernel
theorem dX1_init_5 : decode cX1_init 5 = .ok (.sipush 400, 3) := by decide +kernel
theorem dX1_init_8 : decode cX1_init 8 = .ok (.newarray .int, 2) := by decide +kernel
theorem dX1_init_10 : decode cX1_init 10 = .ok (.putfield 9, 3) := by decide +kernel
theorem dX1_init_13 : decode cX1_init 13 = .ok (.aload_n 0, 1) := by decide +kernel
theorem dX1_init_14 : decode cX1_init 14 = .ok (.iconst 0, 1) := by decide +kernel
theorem dX1_init_15 : decode cX1_init 15 = .ok (.putfield 15, 3) := by decide +kernel
theorem dX1_init_18 : decode cX1_init 18 = .ok (.aload_n 0, 1) := by decide +kernel
theorem dX1_init_19 : decode cX1_init 19 = .ok (.iconst 0, 1) := by decide +kernel
theorem dX1_init_20 : decode cX1_init 20 = .ok (.putfield 19, 3) := by decide +kernel
theorem dX1_init_23 : decode cX1_init 23 = .ok (.aload_n 0, 1) := by decide +kernel
theorem dX1_init_24 : decode cX1_init 24 = .ok (.iload_n 1, 1) := by decide +kernel
theorem dX1_init_25 : decode cX1_init 25 = .ok (.putfield 22, 3) := by decide +kernel
theorem dX1_init_28 : decode cX1_init 28 = .ok (.aload_n 0, 1) := by decide +kernel
theorem dX1_init_29 : decode cX1_init 29 = .ok (.aload_n 2, 1) := by decide +kernel
theorem dX1_init_30 : decode cX1_init 30 = .ok (.putfield 25, 3) := by decide +kernel
theorem dX1_init_33 : decode cX1_init 33 = .ok (.return_, 1) := by decide +kernel
def d_X1_init (x0 : Nat) (x1 : Int32) (x2 : Nat) (G : Hp) : Option (Hp) :=
  mV G <|
  gd (hc G x0 = 2) <|
  bd (hn G) fun q2 =>
  bd (nC G 11 (400 : Int32).toNatClampNeg (400 : Int32).toNatClampNeg) fun G3 =>
  mV G3 <|
  gd (hc G3 x0 = 2) <|
  bd (sR G3 x0 2 q2) fun G5 =>
  gd (hc G5 x0 = 2) <|
  bd (sI G5 x0 3 0) fun G7 =>
  gd (hc G7 x0 = 2) <|
  bd (sI G7 x0 4 0) fun G9 =>
  gd (hc G9 x0 = 2) <|
  bd (sI G9 x0 0 x1) fun G11 =>
  gd (hc G11 x0 = 2) <|
  bd (sR G11 x0 1 x2) fun G13 =>
  some G13
section
variable {p : Program} {l : Launch} {e : Env} {s : State} {m : MethodId} {args : Array Value} {below : List Frame} {meth : Method} {c : Code} {b0 : Nat} {D : va_G} {E : Nat → ClassId}
set_option maxHeartbeats 4000000 in
set_option maxRecDepth 100000 in
theorem k_X1_init (C : Cx p s m args meth c RX1 cX1_init 3 none b0 D E) (hnm : meth.name = "<init>") {GG : Hp} {n0 s0 : Nat} {x0 : Nat} {x1 : Int32} {x2 : Nat} {G : Hp} {ls : Array Slot} {H : Heap} {locs : List Loc} : lx ls 3 [(0, .inr x0), (1, .inl x1), (2, .inr x2)] → Rp b0 D E G H → SS b0 s H locs → b0 ≤ hn G → (n0 ≤ hn G ∧ s0 ≤ hs G) → d_X1_init x0 x1 x2 G = some GG → W p l e (rmd 1 (hn GG - n0) (hs GG - s0)) s m args below meth c H locs (hn G - n0) (hs G - s0) (MQ below (CQ b0 D E none GG) args s (hn GG - n0) (hs GG - s0) (fun q => b0 ≤ q)) (F0 m 0 ls []) := by
  intro hL hR hS hB hZ hd
  unfold d_X1_init at hd
  obtain ⟨hM, hd⟩ := mV_ex hd
  have hx := C.1
  have hb := C.2.1
  refine x_aload_n C dX1_init_0 hL 0 rfl ?_
  obtain ⟨g1, hd⟩ := gd_ex hd
  refine r_objI (a := x0) C ml_X1_3 dX1_init_1 (lx_size hL) hR (by rw [g1]; decide) ⟨Nat.le_of_ble_eq_true rfl, Nat.le_of_ble_eq_true rfl⟩ (cat_le [] (Nat.le_of_ble_eq_true rfl)) ?_
  refine x_aload_n C dX1_init_4 hL 0 rfl ?_
  refine lv_sipush (v := 400) hx hb dX1_init_5 (by decide) ?_
  obtain ⟨q2, eq2, hd⟩ := bd_ex hd
  obtain ⟨G3, eG3, hd⟩ := bd_ex hd
  obtain ⟨hM, hd⟩ := mV_ex hd
  have hm1 : hn G3 = hn G + 1 ∧ hs G3 = hs G + (400 : Int32).toNatClampNeg := by rw [eG3]; exact ⟨rfl, rfl⟩
  refine r_newa (t := 11) C (Or.inl ⟨rfl, rfl⟩) dX1_init_8 hR hS hB hZ (by decide) ⟨by show hn G + 1 - n0 ≤ hn GG - n0; omega, by show hs G + (400 : Int32).toNatClampNeg - s0 ≤ hs GG - s0; omega⟩ (fun H locs hR hS => ?_)
  rw [← eq2]
  refine W_cs (c2 := hn G3 - n0) (s2 := hs G3 - s0) (by rw [eG3] <;> rfl) (by rw [eG3] <;> rfl) ?_
  replace hR : Rp b0 D E G3 H := by rw [eG3]; exact hR
  replace hB : b0 ≤ hn G3 := by omega
  replace hZ : n0 ≤ hn G3 ∧ s0 ≤ hs G3 := by omega
  obtain ⟨g4, hd⟩ := gd_ex hd
  obtain ⟨G5, eG5, hd⟩ := bd_ex hd
  refine r_putr (ci := 1) (k := 2) C fl_X1_9 (Or.inr ⟨_, rfl⟩) (Or.inr ⟨rfl, hnm, rfl⟩) dX1_init_10 hR hS g4 (fun H locs hR hS => ?_)
  replace hR : Rp b0 D E G5 H := by rw [eG5]; exact hR
  refine W_cs (c2 := hn G5 - n0) (s2 := hs G5 - s0) (by rw [eG5] <;> rfl) (by rw [eG5] <;> rfl) ?_
  replace hB : b0 ≤ hn G5 := by rw [eG5]; exact hB
  replace hZ : n0 ≤ hn G5 ∧ s0 ≤ hs G5 := by rw [eG5]; exact hZ
  replace hM : hn G5 ≤ hn GG ∧ hs G5 ≤ hs GG := by rw [eG5]; exact hM
  refine x_aload_n C dX1_init_13 hL 0 rfl ?_
  refine lv_iconst (v := 0) hx hb dX1_init_14 (by decide) ?_
  obtain ⟨g6, hd⟩ := gd_ex hd
  obtain ⟨G7, eG7, hd⟩ := bd_ex hd
  refine r_puti (ci := 1) (k := 3) C fl_X1_15 rfl (Or.inl rfl) dX1_init_15 hR hS g6 (fun H locs hR hS => ?_)
  replace hR : Rp b0 D E G7 H := by rw [eG7]; exact hR
  refine W_cs (c2 := hn G7 - n0) (s2 := hs G7 - s0) (by rw [eG7] <;> rfl) (by rw [eG7] <;> rfl) ?_
  replace hB : b0 ≤ hn G7 := by rw [eG7]; exact hB
  replace hZ : n0 ≤ hn G7 ∧ s0 ≤ hs G7 := by rw [eG7]; exact hZ
  replace hM : hn G7 ≤ hn GG ∧ hs G7 ≤ hs GG := by rw [eG7]; exact hM
  refine x_aload_n C dX1_init_18 hL 0 rfl ?_
  refine lv_iconst (v := 0) hx hb dX1_init_19 (by decide) ?_
  obtain ⟨g8, hd⟩ := gd_ex hd
  obtain ⟨G9, eG9, hd⟩ := bd_ex hd
  refine r_puti (ci := 1) (k := 4) C fl_X1_19 rfl (Or.inl rfl) dX1_init_20 hR hS g8 (fun H locs hR hS => ?_)
  replace hR : Rp b0 D E G9 H := by rw [eG9]; exact hR
  refine W_cs (c2 := hn G9 - n0) (s2 := hs G9 - s0) (by rw [eG9] <;> rfl) (by rw [eG9] <;> rfl) ?_
  replace hB : b0 ≤ hn G9 := by rw [eG9]; exact hB
  replace hZ : n0 ≤ hn G9 ∧ s0 ≤ hs G9 := by rw [eG9]; exact hZ
  replace hM : hn G9 ≤ hn GG ∧ hs G9 ≤ hs GG := by rw [eG9]; exact hM
  refine x_aload_n C dX1_init_23 hL 0 rfl ?_
  refine x_iload_n C dX1_init_24 hL 1 rfl ?_
  obtain ⟨g10, hd⟩ := gd_ex hd
  obtain ⟨G11, eG11, hd⟩ := bd_ex hd
  refine r_puti (ci := 1) (k := 0) C fl_X1_22 rfl (Or.inr ⟨rfl, hnm, rfl⟩) dX1_init_25 hR hS g10 (fun H locs hR hS => ?_)
  replace hR : Rp b0 D E G11 H := by rw [eG11]; exact hR
  refine W_cs (c2 := hn G11 - n0) (s2 := hs G11 - s0) (by rw [eG11] <;> rfl) (by rw [eG11] <;> rfl) ?_
  replace hB : b0 ≤ hn G11 := by rw [eG11]; exact hB
  replace hZ : n0 ≤ hn G11 ∧ s0 ≤ hs G11 := by rw [eG11]; exact hZ
  replace hM : hn G11 ≤ hn GG ∧ hs G11 ≤ hs GG := by rw [eG11]; exact hM
  refine x_aload_n C dX1_init_28 hL 0 rfl ?_
  refine x_aload_n C dX1_init_29 hL 2 rfl ?_
  obtain ⟨g12, hd⟩ := gd_ex hd
  obtain ⟨G13, eG13, hd⟩ := bd_ex hd
  refine r_putr (ci := 1) (k := 1) C fl_X1_25 (Or.inl ⟨_, rfl⟩) (Or.inr ⟨rfl, hnm, rfl⟩) dX1_init_30 hR hS g12 (fun H locs hR hS => ?_)
  replace hR : Rp b0 D E G13 H := by rw [eG13]; exact hR
  refine W_cs (c2 := hn G13 - n0) (s2 := hs G13 - s0) (by rw [eG13] <;> rfl) (by rw [eG13] <;> rfl) ?_
  replace hB : b0 ≤ hn G13 := by rw [eG13]; exact hB
  replace hZ : n0 ≤ hn G13 ∧ s0 ≤ hs G13 := by rw [eG13]; exact hZ
  replace hM : hn G13 ≤ hn GG ∧ hs G13 ≤ hs GG := by rw [eG13]; exact hM
  cases hd
  exact r_vret C dX1_init_33 hR hS
end
set_option maxHeartbeats 4000000 in
set_option maxRecDepth 100000 in
theorem ct_X1_init {l : Launch} {b0 : Nat} {D : va_G} {E : Nat → ClassId} {G : Hp} {a0 : Nat} {a1 : Int32} {a2 : Nat} {GG : Hp} (hB : b0 ≤ hn G) (hd : d_X1_init a0 a1 a2 G = some GG) : CT l yX1_init cX1_init 3 none 1 (hn GG - hn G) (hs GG - hs G) b0 D E [rv a0, .int a1, rv a2] G none GG := by
  refine CT_of (by decide +kernel) ?_
  intro p e s m below meth c C hnm hR
  refine r_entry [.inr a0, .inl a1, .inr a2] (n := 3) (Nat.le_of_ble_eq_true rfl) (lv := [(0, .inr a0), (1, .inl a1), (2, .inr a2)]) rfl (fun ls hL => ?_)
  have k := k_X1_init (n0 := hn G) (s0 := hs G) (l := l) (e := e) (below := below) (H := s.heap) (locs := []) C hnm (lx_sub hL [0, 1, 2] rfl) hR ⟨fun _ _ => rfl, fun _ h => by cases h⟩ hB ⟨Nat.le_refl _, Nat.le_refl _⟩ hd
  rw [Nat.sub_self, Nat.sub_self] at k
  exact k

/-! GroveWorks.has(II)Z pure -/
theorem dX8_has_0 : decode cX8_has 0 = .ok (.iload_n 0, 1) := by decide +kernel
theorem dX8_has_1 : decode cX8_has 1 = .ok (.iload_n 1, 1) := by decide +kernel
theorem dX8_has_2 : decode cX8_has 2 = .ok (.ishr, 1) := by decide +kernel
theorem dX8_has_3 : decode cX8_has 3 = .ok (.iconst 1, 1) := by decide +kernel
theorem dX8_has_4 : decode cX8_has 4 = .ok (.iand, 1) := by decide +kernel
theorem dX8_has_5 : decode cX8_has 5 = .ok (.ifCond .eq 7, 3) := by decide +kernel
theorem dX8_has_8 : decode cX8_has 8 = .ok (.iconst 1, 1) := by decide +kernel
theorem dX8_has_9 : decode cX8_has 9 = .ok (.goto 4, 3) := by decide +kernel
theorem dX8_has_12 : decode cX8_has 12 = .ok (.iconst 0, 1) := by decide +kernel
theorem dX8_has_13 : decode cX8_has 13 = .ok (.ireturn, 1) := by decide +kernel
def d_X8_has (x0 : Int32) (x1 : Int32) (G : Hp) : Option (Int32) :=
  if ((((x0 >>> (x1 &&& 31))) &&& 1)) = 0 then
    some 0
  else
    some 1
section
variable {p : Program} {l : Launch} {e : Env} {s : State} {m : MethodId} {args : Array Value} {below : List Frame} {meth : Method} {c : Code} {b0 : Nat} {D : va_G} {E : Nat → ClassId}
set_option maxHeartbeats 4000000 in
set_option maxRecDepth 100000 in
theorem k_X8_has (C : Cx p s m args meth c RX8 cX8_has 2 (some .boolean) b0 D E) {rr : Int32} {G : Hp} {x0 : Int32} {x1 : Int32} {ls : Array Slot} {H : Heap} {locs : List Loc} : lx ls 2 [(0, .inl x0), (1, .inl x1)] → Rp b0 D E G H → SS b0 s H locs → d_X8_has x0 x1 G = some rr → W p l e (rmd 0 (0) (0)) s m args below meth c H locs (0) (0) (MQ below (CQ b0 D E (some (.int rr)) G) args s (0) (0) (fun q => b0 ≤ q)) (F0 m 0 ls []) := by
  intro hL hR hS hd
  unfold d_X8_has at hd
  have hx := C.1
  have hb := C.2.1
  refine x_iload_n C dX8_has_0 hL 0 rfl ?_
  refine x_iload_n C dX8_has_1 hL 1 rfl ?_
  refine lv_ishr hx hb dX8_has_2 ?_
  refine lv_iconst (v := 1) hx hb dX8_has_3 (by decide) ?_
  refine lv_iand hx hb dX8_has_4 ?_
  refine lv_if_eq (tgt := 12) hx hb dX8_has_5 (by decide) (fun c1 => ?_) (fun c1 => ?_)
  · rw [if_pos c1] at hd
    refine lv_iconst (v := 0) hx hb dX8_has_12 (by decide) ?_
    cases hd
    exact r_zret C (by decide) dX8_has_13 hR hS
  · rw [if_neg c1] at hd
    refine lv_iconst (v := 1) hx hb dX8_has_8 (by decide) ?_
    refine lv_goto (tgt := 13) hx hb dX8_has_9 (by decide) ?_
    cases hd
    exact r_zret C (by decide) dX8_has_13 hR hS
end
set_option maxHeartbeats 4000000 in
set_option maxRecDepth 100000 in
theorem ct_X8_has {l : Launch} {b0 : Nat} {D : va_G} {E : Nat → ClassId} {G : Hp} {a0 : Int32} {a1 : Int32} {rr : Int32} (hd : d_X8_has a0 a1 G = some rr) : CT l yX8_has cX8_has 2 (some .boolean) 0 0 0 b0 D E [.int a0, .int a1] G (some (.int rr)) G := by
  refine CT_of (by decide +kernel) ?_
  intro p e s m below meth c C hnm hR
  refine r_entry [.inl a0, .inl a1] (n := 2) (Nat.le_of_ble_eq_true rfl) (lv := [(0, .inl a0), (1, .inl a1)]) rfl (fun ls hL => ?_)
  exact k_X8_has C (lx_sub hL [0, 1] rfl) hR ⟨fun _ _ => rfl, fun _ h => by cases h⟩ hd

/-! GroveWorks$Host.hasJoined(I)Z pure -/
theorem dX1_hasJoined_0 : decode cX1_hasJoined 0 = .ok (.aload_n 0, 1) := by decide +kernel
theorem dX1_hasJoined_1 : decode cX1_hasJoined 1 = .ok (.getfield 15, 3) := by decide +kernel
theorem dX1_hasJoined_4 : decode cX1_hasJoined 4 = .ok (.iload_n 1, 1) := by decide +kernel
theorem dX1_hasJoined_5 : decode cX1_hasJoined 5 = .ok (.invokestatic 29, 3) := by decide +kernel
theorem dX1_hasJoined_8 : decode cX1_hasJoined 8 = .ok (.ireturn, 1) := by decide +kernel
def d_X1_hasJoined (x0 : Nat) (x1 : Int32) (G : Hp) : Option (Int32) :=
  gd (hc G x0 = 2) <|
  bo (d_X8_has ((hi G x0 3)) x1 G) fun v3 =>
  gd (v3 &&& 1 = v3) <|
  some v3
section
variable {p : Program} {l : Launch} {e : Env} {s : State} {m : MethodId} {args : Array Value} {below : List Frame} {meth : Method} {c : Code} {b0 : Nat} {D : va_G} {E : Nat → ClassId}
set_option maxHeartbeats 4000000 in
set_option maxRecDepth 100000 in
theorem k_X1_hasJoined (C : Cx p s m args meth c RX1 cX1_hasJoined 2 (some .boolean) b0 D E) {rr : Int32} {G : Hp} {x0 : Nat} {x1 : Int32} {ls : Array Slot} {H : Heap} {locs : List Loc} : lx ls 2 [(0, .inr x0), (1, .inl x1)] → Rp b0 D E G H → SS b0 s H locs → d_X1_hasJoined x0 x1 G = some rr → W p l e (rmd 1 (0) (0)) s m args below meth c H locs (0) (0) (MQ below (CQ b0 D E (some (.int rr)) G) args s (0) (0) (fun q => b0 ≤ q)) (F0 m 0 ls []) := by
  intro hL hR hS hd
  unfold d_X1_hasJoined at hd
  have hx := C.1
  have hb := C.2.1
  refine x_aload_n C dX1_hasJoined_0 hL 0 rfl ?_
  obtain ⟨g1, hd⟩ := gd_ex hd
  refine r_geti (ci := 1) (k := 3) C fl_X1_15 rfl dX1_hasJoined_1 hR g1 ?_
  refine x_iload_n C dX1_hasJoined_4 hL 1 rfl ?_
  obtain ⟨v3, h2, hd⟩ := bo_ex hd
  refine r_callSN (As := [.int ((hi G x0 3)), .int x1]) C (ct_X8_has h2) mf_X8_has (by decide +kernel) ms_X8_has rfl ⟨Nat.le_of_ble_eq_true rfl, Nat.le_of_ble_eq_true rfl⟩ dX1_hasJoined_5 (lx_size hL) rfl hR hS ⟨Nat.le_refl _, Nat.le_refl _⟩ (cat_le [] (Nat.le_of_ble_eq_true rfl)) (fun H locs hR hS => ?_)
  refine W_st (st2 := [.int v3]) rfl ?_
  obtain ⟨g4, hd⟩ := gd_ex hd
  cases hd
  exact r_zret C g4 dX1_hasJoined_8 hR hS
end
set_option maxHeartbeats 4000000 in
set_option maxRecDepth 100000 in
theorem ct_X1_hasJoined {l : Launch} {b0 : Nat} {D : va_G} {E : Nat → ClassId} {G : Hp} {a0 : Nat} {a1 : Int32} {rr : Int32} (hd : d_X1_hasJoined a0 a1 G = some rr) : CT l yX1_hasJoined cX1_hasJoined 2 (some .boolean) 1 0 0 b0 D E [rv a0, .int a1] G (some (.int rr)) G := by
  refine CT_of (by decide +kernel) ?_
  intro p e s m below meth c C hnm hR
  refine r_entry [.inr a0, .inl a1] (n := 2) (Nat.le_of_ble_eq_true rfl) (lv := [(0, .inr a0), (1, .inl a1)]) rfl (fun ls hL => ?_)
  exact k_X1_hasJoined C (lx_sub hL [0, 1] rfl) hR ⟨fun _ _ => rfl, fun _ h => by cases h⟩ hd

/-! GroveWorks$Wire.open(II)LGroveWorks$Frame; -/
theorem dX7_open_0 : decode cX7_open 0 = .ok (.aload_n 0, 1) := by decide +kernel
theorem dX7_open_1 : decode cX7_open 1 = .ok (.getfield 15, 3) := by decide +kernel
theorem dX7_open_4 : decode cX7_open 4 = .ok (.ifCond .ne 5, 3) := by decide +kernel
theorem dX7_open_7 : decode cX7_open 7 = .ok (.aconst_null, 1) := by decide +kernel
theorem dX7_open_8 : decode cX7_open 8 = .ok (.areturn, 1) := by decide +kernel
theorem dX7_open_9 : decode cX7_open 9 = .ok (.aload_n 0, 1) := by decide +kernel
theorem dX7_open_10 : decode cX7_open 10 = .ok (.getfield 35, 3) := by decide +kernel
theorem dX7_open_13 : decode cX7_open 13 = .ok (.bipush 40, 2) := by decide +kernel
theorem dX7_open_15 : decode cX7_open 15 = .ok (.if_icmp .ge 12, 3) := by decide +kernel
theorem dX7_open_18 : decode cX7_open 18 = .ok (.aload_n 0, 1) := by decide +kernel
theorem dX7_open_19 : decode cX7_open 19 = .ok (.getfield 32, 3) := by decide +kernel
theorem dX7_open_22 : decode cX7_open 22 = .ok (.bipush 40, 2) := by decide +kernel
theorem dX7_open_24 : decode cX7_open 24 = .ok (.if_icmp .lt 15, 3) := by decide +kernel
theorem dX7_open_27 : decode cX7_open 27 = .ok (.aload_n 0, 1) := by decide +kernel
theorem dX7_open_28 : decode cX7_open 28 = .ok (.dup, 1) := by decide +kernel
theorem dX7_open_29 : decode cX7_open 29 = .ok (.getfield 41, 3) := by decide +kernel
theorem dX7_open_32 : decode cX7_open 32 = .ok (.iconst 1, 1) := by decide +kernel
theorem dX7_open_33 : decode cX7_open 33 = .ok (.iadd, 1) := by decide +kernel
theorem dX7_open_34 : decode cX7_open 34 = .ok (.putfield 41, 3) := by decide +kernel
theorem dX7_open_37 : decode cX7_open 37 = .ok (.aconst_null, 1) := by decide +kernel
theorem dX7_open_38 : decode cX7_open 38 = .ok (.areturn, 1) := by decide +kernel
theorem dX7_open_39 : decode cX7_open 39 = .ok (.aload_n 0, 1) := by decide +kernel
theorem dX7_open_40 : decode cX7_open 40 = .ok (.getfield 25, 3) := by decide +kernel
theorem dX7_open_43 : decode cX7_open 43 = .ok (.aload_n 0, 1) := by decide +kernel
theorem dX7_open_44 : decode cX7_open 44 = .ok (.getfield 32, 3) := by decide +kernel
theorem dX7_open_47 : decode cX7_open 47 = .ok (.aaload, 1) := by decide +kernel
theorem dX7_open_48 : decode cX7_open 48 = .ok (.astore_n 3, 1) := by decide +kernel
theorem dX7_open_49 : decode cX7_open 49 = .ok (.aload_n 3, 1) := by decide +kernel
theorem dX7_open_50 : decode cX7_open 50 = .ok (.ifnonnull 5, 3) := by decide +kernel
theorem dX7_open_53 : decode cX7_open 53 = .ok (.aconst_null, 1) := by decide +kernel
theorem dX7_open_54 : decode cX7_open 54 = .ok (.areturn, 1) := by decide +kernel
theorem dX7_open_55 : decode cX7_open 55 = .ok (.aload_n 3, 1) := by decide +kernel
theorem dX7_open_56 : decode cX7_open 56 = .ok (.iload_n 1, 1) := by decide +kernel
theorem dX7_open_57 : decode cX7_open 57 = .ok (.iload_n 2, 1) := by decide +kernel
theorem dX7_open_58 : decode cX7_open 58 = .ok (.invokevirtual 60, 3) := by decide +kernel
theorem dX7_open_61 : decode cX7_open 61 = .ok (.aload_n 0, 1) := by decide +kernel
theorem dX7_open_62 : decode cX7_open 62 = .ok (.dup, 1) := by decide +kernel
theorem dX7_open_63 : decode cX7_open 63 = .ok (.getfield 32, 3) := by decide +kernel
theorem dX7_open_66 : decode cX7_open 66 = .ok (.iconst 1, 1) := by decide +kernel
theorem dX7_open_67 : decode cX7_open 67 = .ok (.iadd, 1) := by decide +kernel
theorem dX7_open_68 : decode cX7_open 68 = .ok (.putfield 32, 3) := by decide +kernel
theorem dX7_open_71 : decode cX7_open 71 = .ok (.aload_n 0, 1) := by decide +kernel
theorem dX7_open_72 : decode cX7_open 72 = .ok (.dup, 1) := by decide +kernel
theorem dX7_open_73 : decode cX7_open 73 = .ok (.getfield 35, 3) := by decide +kernel
theorem dX7_open_76 : decode cX7_open 76 = .ok (.iconst 1, 1) := by decide +kernel
theorem dX7_open_77 : decode cX7_open 77 = .ok (.iadd, 1) := by decide +kernel
theorem dX7_open_78 : decode cX7_open 78 = .ok (.putfield 35, 3) := by decide +kernel
theorem dX7_open_81 : decode cX7_open 81 = .ok (.aload_n 0, 1) := by decide +kernel
theorem dX7_open_82 : decode cX7_open 82 = .ok (.dup, 1) := by decide +kernel
theorem dX7_open_83 : decode cX7_open 83 = .ok (.getfield 38, 3) := by decide +kernel
theorem dX7_open_86 : decode cX7_open 86 = .ok (.iconst 1, 1) := by decide +kernel
theorem dX7_open_87 : decode cX7_open 87 = .ok (.iadd, 1) := by decide +kernel
theorem dX7_open_88 : decode cX7_open 88 = .ok (.putfield 38, 3) := by decide +kernel
theorem dX7_open_91 : decode cX7_open 91 = .ok (.iload_n 1, 1) := by decide +kernel
theorem dX7_open_92 : decode cX7_open 92 = .ok (.bipush 8, 2) := by decide +kernel
theorem dX7_open_94 : decode cX7_open 94 = .ok (.if_icmp .ne 16, 3) := by decide +kernel
theorem dX7_open_97 : decode cX7_open 97 = .ok (.aload_n 0, 1) := by decide +kernel
theorem dX7_open_98 : decode cX7_open 98 = .ok (.dup, 1) := by decide +kernel
theorem dX7_open_99 : decode cX7_open 99 = .ok (.getfield 47, 3) := by decide +kernel
theorem dX7_open_102 : decode cX7_open 102 = .ok (.iconst 1, 1) := by decide +kernel
theorem dX7_open_103 : decode cX7_open 103 = .ok (.iadd, 1) := by decide +kernel
theorem dX7_open_104 : decode cX7_open 104 = .ok (.putfield 47, 3) := by decide +kernel
theorem dX7_open_107 : decode cX7_open 107 = .ok (.goto 25, 3) := by decide +kernel
theorem dX7_open_110 : decode cX7_open 110 = .ok (.iload_n 1, 1) := by decide +kernel
theorem dX7_open_111 : decode cX7_open 111 = .ok (.bipush 7, 2) := by decide +kernel
theorem dX7_open_113 : decode cX7_open 113 = .ok (.if_icmp .ne 19, 3) := by decide +kernel
theorem dX7_open_116 : decode cX7_open 116 = .ok (.iload_n 2, 1) := by decide +kernel
theorem dX7_open_117 : decode cX7_open 117 = .ok (.bipush 100, 2) := by decide +kernel
theorem dX7_open_119 : decode cX7_open 119 = .ok (.if_icmp .ge 13, 3) := by decide +kernel
theorem dX7_open_122 : decode cX7_open 122 = .ok (.aload_n 0, 1) := by decide +kernel
theorem dX7_open_123 : decode cX7_open 123 = .ok (.dup, 1) := by decide +kernel
theorem dX7_open_124 : decode cX7_open 124 = .ok (.getfield 44, 3) := by decide +kernel
theorem dX7_open_127 : decode cX7_open 127 = .ok (.iconst 1, 1) := by decide +kernel
theorem dX7_open_128 : decode cX7_open 128 = .ok (.iadd, 1) := by decide +kernel
theorem dX7_open_129 : decode cX7_open 129 = .ok (.putfield 44, 3) := by decide +kernel
theorem dX7_open_132 : decode cX7_open 132 = .ok (.aload_n 3, 1) := by decide +kernel
theorem dX7_open_133 : decode cX7_open 133 = .ok (.areturn, 1) := by decide +kernel
def d_X7_open_27 (x0 : Nat) (G : Hp) : Option (Nat × Hp) :=
  gd (hc G x0 = 8) <|
  bd (sI G x0 9 ((((hi G x0 9)) + 1))) fun G2 =>
  some (0, G2)
def d_X7_open (x0 : Nat) (x1 : Int32) (x2 : Int32) (G : Hp) : Option (Nat × Hp) :=
  gd (hc G x0 = 8) <|
  if ((hi G x0 2)) = 0 then
    some (0, G)
  else
    if 40 ≤ ((hi G x0 7)) then
      d_X7_open_27 x0 G
    else
      if ((hi G x0 6)) < 40 then
        gd (hc G ((hr G x0 4)) = 13 ∧ ix ((hi G x0 6)) (hl G ((hr G x0 4)))) <|
        bd ((hr G ((hr G x0 4)) ((hi G x0 6)).toNatClampNeg)) fun v6 =>
        if v6 = 0 then
          some (0, G)
        else
          gd (hc G v6 = 1) <|
          bo (d_X0_begin v6 x1 x2 G) fun G10 =>
          gd (hc G10 x0 = 8) <|
          bd (sI G10 x0 6 ((((hi G10 x0 6)) + 1))) fun G12 =>
          gd (hc G12 x0 = 8) <|
          bd (sI G12 x0 7 ((((hi G12 x0 7)) + 1))) fun G14 =>
          gd (hc G14 x0 = 8) <|
          bd (sI G14 x0 8 ((((hi G14 x0 8)) + 1))) fun G16 =>
          if x1 = 8 then
            gd (hc G16 x0 = 8) <|
            bd (sI G16 x0 11 ((((hi G16 x0 11)) + 1))) fun G23 =>
            some (v6, G23)
          else
            if x1 = 7 then
              if 100 ≤ x2 then
                some (v6, G16)
              else
                gd (hc G16 x0 = 8) <|
                bd (sI G16 x0 10 ((((hi G16 x0 10)) + 1))) fun G21 =>
                some (v6, G21)
            else
              some (v6, G16)
      else
        d_X7_open_27 x0 G
section
variable {p : Program} {l : Launch} {e : Env} {s : State} {m : MethodId} {args : Array Value} {below : List Frame} {meth : Method} {c : Code} {b0 : Nat} {D : va_G} {E : Nat → ClassId}
set_option maxHeartbeats 4000000 in
set_option maxRecDepth 100000 in
theorem k_X7_open_27 (C : Cx p s m args meth c RX7 cX7_open 4 (some (.object "GroveWorks$Frame")) b0 D E) {rr : Nat} {GG : Hp} {x0 : Nat} {G : Hp} {ls : Array Slot} {H : Heap} {locs : List Loc} : lx ls 4 [(0, .inr x0)] → Rp b0 D E G H → SS b0 s H locs → d_X7_open_27 x0 G = some (rr, GG) → W p l e (rmd 1 (0) (0)) s m args below meth c H locs (0) (0) (MQ below (CQ b0 D E (some (rv rr)) GG) args s (0) (0) (fun q => b0 ≤ q)) (F0 m 27 ls []) := by
  intro hL hR hS hd
  unfold d_X7_open_27 at hd
  have hx := C.1
  have hb := C.2.1
  refine x_aload_n C dX7_open_27 hL 0 rfl ?_
  refine lv_dup hx hb dX7_open_28 (rv_cat _) ?_
  obtain ⟨g1, hd⟩ := gd_ex hd
  refine r_geti (ci := 7) (k := 9) C fl_X7_41 rfl dX7_open_29 hR g1 ?_
  refine lv_iconst (v := 1) hx hb dX7_open_32 (by decide) ?_
  refine lv_iadd hx hb dX7_open_33 ?_
  obtain ⟨G2, eG2, hd⟩ := bd_ex hd
  refine r_puti (ci := 7) (k := 9) C fl_X7_41 rfl (Or.inl rfl) dX7_open_34 hR hS g1 (fun H locs hR hS => ?_)
  replace hR : Rp b0 D E G2 H := by rw [eG2]; exact hR
  refine r_null C dX7_open_37 ?_
  cases hd
  exact r_aret C dX7_open_38 hR hS
set_option maxHeartbeats 4000000 in
set_option maxRecDepth 100000 in
theorem k_X7_open (C : Cx p s m args meth c RX7 cX7_open 4 (some (.object "GroveWorks$Frame")) b0 D E) {rr : Nat} {GG : Hp} {x0 : Nat} {x1 : Int32} {x2 : Int32} {G : Hp} {ls : Array Slot} {H : Heap} {locs : List Loc} : lx ls 4 [(0, .inr x0), (1, .inl x1), (2, .inl x2)] → Rp b0 D E G H → SS b0 s H locs → d_X7_open x0 x1 x2 G = some (rr, GG) → W p l e (rmd 1 (0) (0)) s m args below meth c H locs (0) (0) (MQ below (CQ b0 D E (some (rv rr)) GG) args s (0) (0) (fun q => b0 ≤ q)) (F0 m 0 ls []) := by
  intro hL hR hS hd
  unfold d_X7_open at hd
  have hx := C.1
  have hb := C.2.1
  refine x_aload_n C dX7_open_0 hL 0 rfl ?_
  obtain ⟨g1, hd⟩ := gd_ex hd
  refine r_geti (ci := 7) (k := 2) C fl_X7_15 rfl dX7_open_1 hR g1 ?_
  refine lv_if_ne (tgt := 9) hx hb dX7_open_4 (by decide) (fun c2 => ?_) (fun c2 => ?_)
  · rw [if_neg c2] at hd
    refine x_aload_n C dX7_open_9 hL 0 rfl ?_
    refine r_geti (ci := 7) (k := 7) C fl_X7_35 rfl dX7_open_10 hR g1 ?_
    refine lv_bipush (v := 40) hx hb dX7_open_13 (by decide) ?_
    refine lv_icmp_ge (tgt := 27) hx hb dX7_open_15 (by decide) (fun c3 => ?_) (fun c3 => ?_)
    · rw [if_pos c3] at hd
      exact k_X7_open_27 C (lx_sub hL [0] rfl) hR hS hd
    · rw [if_neg c3] at hd
      refine x_aload_n C dX7_open_18 hL 0 rfl ?_
      refine r_geti (ci := 7) (k := 6) C fl_X7_32 rfl dX7_open_19 hR g1 ?_
      refine lv_bipush (v := 40) hx hb dX7_open_22 (by decide) ?_
      refine lv_icmp_lt (tgt := 39) hx hb dX7_open_24 (by decide) (fun c4 => ?_) (fun c4 => ?_)
      · rw [if_pos c4] at hd
        refine x_aload_n C dX7_open_39 hL 0 rfl ?_
        refine r_getr (ci := 7) (k := 4) C fl_X7_25 rfl dX7_open_40 hR g1 ?_
        refine x_aload_n C dX7_open_43 hL 0 rfl ?_
        refine r_geti (ci := 7) (k := 6) C fl_X7_32 rfl dX7_open_44 hR g1 ?_
        obtain ⟨g5, hd⟩ := gd_ex hd
        refine r_aald (ci := 0) C (by decide) dX7_open_47 hR g5 ?_
        obtain ⟨v6, ev6, hd⟩ := bd_ex hd
        rw [← ev6]
        refine x_astore_n (lv' := [(3, .inr v6), (0, .inr x0), (1, .inl x1), (2, .inl x2)]) C dX7_open_48 hL (by decide) rfl (fun ls hL => ?_)
        refine x_aload_n C dX7_open_49 hL 0 rfl ?_
        refine r_ifnonnull (tgt := 55) C dX7_open_50 (by decide) (fun c7 => ?_) (fun c7 => ?_)
        · rw [if_neg c7] at hd
          refine x_aload_n C dX7_open_55 hL 0 rfl ?_
          refine x_iload_n C dX7_open_56 hL 2 rfl ?_
          refine x_iload_n C dX7_open_57 hL 3 rfl ?_
          obtain ⟨g8, hd⟩ := gd_ex hd
          obtain ⟨G10, h9, hd⟩ := bo_ex hd
          refine r_callV (a := v6) (ci := 0) (As := [.int x1, .int x2]) C (ct_X0_begin h9) mf_X0_begin ml_X7_60 mv_X0_begin rfl ⟨Nat.le_of_ble_eq_true rfl, Nat.le_of_ble_eq_true rfl⟩ dX7_open_58 (lx_size hL) rfl hR hS g8 ⟨Nat.le_refl _, Nat.le_refl _⟩ (cat_le [] (Nat.le_of_ble_eq_true rfl)) (fun H locs hR hS => ?_)
          refine W_st (st2 := []) rfl ?_
          refine x_aload_n C dX7_open_61 hL 1 rfl ?_
          refine lv_dup hx hb dX7_open_62 (rv_cat _) ?_
          obtain ⟨g11, hd⟩ := gd_ex hd
          refine r_geti (ci := 7) (k := 6) C fl_X7_32 rfl dX7_open_63 hR g11 ?_
          refine lv_iconst (v := 1) hx hb dX7_open_66 (by decide) ?_
          refine lv_iadd hx hb dX7_open_67 ?_
          obtain ⟨G12, eG12, hd⟩ := bd_ex hd
          refine r_puti (ci := 7) (k := 6) C fl_X7_32 rfl (Or.inl rfl) dX7_open_68 hR hS g11 (fun H locs hR hS => ?_)
          replace hR : Rp b0 D E G12 H := by rw [eG12]; exact hR
          refine x_aload_n C dX7_open_71 hL 1 rfl ?_
          refine lv_dup hx hb dX7_open_72 (rv_cat _) ?_
          obtain ⟨g13, hd⟩ := gd_ex hd
          refine r_geti (ci := 7) (k := 7) C fl_X7_35 rfl dX7_open_73 hR g13 ?_
          refine lv_iconst (v := 1) hx hb dX7_open_76 (by decide) ?_
          refine lv_iadd hx hb dX7_open_77 ?_
          obtain ⟨G14, eG14, hd⟩ := bd_ex hd
          refine r_puti (ci := 7) (k := 7) C fl_X7_35 rfl (Or.inl rfl) dX7_open_78 hR hS g13 (fun H locs hR hS => ?_)
          replace hR : Rp b0 D E G14 H := by rw [eG14]; exact hR
          refine x_aload_n C dX7_open_81 hL 1 rfl ?_
          refine lv_dup hx hb dX7_open_82 (rv_cat _) ?_
          obtain ⟨g15, hd⟩ := gd_ex hd
          refine r_geti (ci := 7) (k := 8) C fl_X7_38 rfl dX7_open_83 hR g15 ?_
          refine lv_iconst (v := 1) hx hb dX7_open_86 (by decide) ?_
          refine lv_iadd hx hb dX7_open_87 ?_
          obtain ⟨G16, eG16, hd⟩ := bd_ex hd
          refine r_puti (ci := 7) (k := 8) C fl_X7_38 rfl (Or.inl rfl) dX7_open_88 hR hS g15 (fun H locs hR hS => ?_)
          replace hR : Rp b0 D E G16 H := by rw [eG16]; exact hR
          refine x_iload_n C dX7_open_91 hL 2 rfl ?_
          refine lv_bipush (v := 8) hx hb dX7_open_92 (by decide) ?_
          refine lv_icmp_ne (tgt := 110) hx hb dX7_open_94 (by decide) (fun c17 => ?_) (fun c17 => ?_)
          · rw [if_neg c17] at hd
            refine x_iload_n C dX7_open_110 hL 2 rfl ?_
            refine lv_bipush (v := 7) hx hb dX7_open_111 (by decide) ?_
            refine lv_icmp_ne (tgt := 132) hx hb dX7_open_113 (by decide) (fun c18 => ?_) (fun c18 => ?_)
            · rw [if_neg c18] at hd
              refine x_aload_n C dX7_open_132 hL 0 rfl ?_
              cases hd
              exact r_aret C dX7_open_133 hR hS
            · rw [if_pos c18] at hd
              refine x_iload_n C dX7_open_116 hL 3 rfl ?_
              refine lv_bipush (v := 100) hx hb dX7_open_117 (by decide) ?_
              refine lv_icmp_ge (tgt := 132) hx hb dX7_open_119 (by decide) (fun c19 => ?_) (fun c19 => ?_)
              · rw [if_pos c19] at hd
                refine x_aload_n C dX7_open_132 hL 0 rfl ?_
                cases hd
                exact r_aret C dX7_open_133 hR hS
              · rw [if_neg c19] at hd
                refine x_aload_n C dX7_open_122 hL 1 rfl ?_
                refine lv_dup hx hb dX7_open_123 (rv_cat _) ?_
                obtain ⟨g20, hd⟩ := gd_ex hd
                refine r_geti (ci := 7) (k := 10) C fl_X7_44 rfl dX7_open_124 hR g20 ?_
                refine lv_iconst (v := 1) hx hb dX7_open_127 (by decide) ?_
                refine lv_iadd hx hb dX7_open_128 ?_
                obtain ⟨G21, eG21, hd⟩ := bd_ex hd
                refine r_puti (ci := 7) (k := 10) C fl_X7_44 rfl (Or.inl rfl) dX7_open_129 hR hS g20 (fun H locs hR hS => ?_)
                replace hR : Rp b0 D E G21 H := by rw [eG21]; exact hR
                refine x_aload_n C dX7_open_132 hL 0 rfl ?_
                cases hd
                exact r_aret C dX7_open_133 hR hS
          · rw [if_pos c17] at hd
            refine x_aload_n C dX7_open_97 hL 1 rfl ?_
            refine lv_dup hx hb dX7_open_98 (rv_cat _) ?_
            obtain ⟨g22, hd⟩ := gd_ex hd
            refine r_geti (ci := 7) (k := 11) C fl_X7_47 rfl dX7_open_99 hR g22 ?_
            refine lv_iconst (v := 1) hx hb dX7_open_102 (by decide) ?_
            refine lv_iadd hx hb dX7_open_103 ?_
            obtain ⟨G23, eG23, hd⟩ := bd_ex hd
            refine r_puti (ci := 7) (k := 11) C fl_X7_47 rfl (Or.inl rfl) dX7_open_104 hR hS g22 (fun H locs hR hS => ?_)
            replace hR : Rp b0 D E G23 H := by rw [eG23]; exact hR
            refine lv_goto (tgt := 132) hx hb dX7_open_107 (by decide) ?_
            refine x_aload_n C dX7_open_132 hL 0 rfl ?_
            cases hd
            exact r_aret C dX7_open_133 hR hS
        · rw [if_pos c7] at hd
          refine r_null C dX7_open_53 ?_
          cases hd
          exact r_aret C dX7_open_54 hR hS
      · rw [if_neg c4] at hd
        exact k_X7_open_27 C (lx_sub hL [0] rfl) hR hS hd
  · rw [if_pos c2] at hd
    refine r_null C dX7_open_7 ?_
    cases hd
    exact r_aret C dX7_open_8 hR hS
end
set_option maxHeartbeats 4000000 in
set_option maxRecDepth 100000 in
theorem ct_X7_open {l : Launch} {b0 : Nat} {D : va_G} {E : Nat → ClassId} {G : Hp} {a0 : Nat} {a1 : Int32} {a2 : Int32} {rr : Nat} {GG : Hp} (hd : d_X7_open a0 a1 a2 G = some (rr, GG)) : CT l yX7_open cX7_open 4 (some (.object "GroveWorks$Frame")) 1 0 0 b0 D E [rv a0, .int a1, .int a2] G (some (rv rr)) GG := by
  refine CT_of (by decide +kernel) ?_
  intro p e s m below meth c C hnm hR
  refine r_entry [.inr a0, .inl a1, .inl a2] (n := 4) (Nat.le_of_ble_eq_true rfl) (lv := [(0, .inr a0), (1, .inl a1), (2, .inl a2)]) rfl (fun ls hL => ?_)
  exact k_X7_open C (lx_sub hL [0, 1, 2] rfl) hR ⟨fun _ _ => rfl, fun _ h => by cases h⟩ hd

/-! GroveWorks$Host.say(II)V -/
theorem dX1_say_0 : decode cX1_say 0 = .ok (.aload_n 0, 1) := by decide +kernel
theorem dX1_say_1 : decode cX1_say 1 = .ok (.getfield 25, 3) := by decide +kernel
theorem dX1_say_4 : decode cX1_say 4 = .ok (.iload_n 1, 1) := by decide +kernel
theorem dX1_say_5 : decode cX1_say 5 = .ok (.bipush 100, 2) := by decide +kernel
theorem dX1_say_7 : decode cX1_say 7 = .ok (.aload_n 0, 1) := by decide +kernel
theorem dX1_say_8 : decode cX1_say 8 = .ok (.getfield 22, 3) := by decide +kernel
theorem dX1_say_11 : decode cX1_say 11 = .ok (.iadd, 1) := by decide +kernel
theorem dX1_say_12 : decode cX1_say 12 = .ok (.invokevirtual 33, 3) := by decide +kernel
theorem dX1_say_15 : decode cX1_say 15 = .ok (.astore_n 3, 1) := by decide +kernel
theorem dX1_say_16 : decode cX1_say 16 = .ok (.aload_n 3, 1) := by decide +kernel
theorem dX1_say_17 : decode cX1_say 17 = .ok (.ifnull 8, 3) := by decide +kernel
theorem dX1_say_20 : decode cX1_say 20 = .ok (.aload_n 3, 1) := by decide +kernel
theorem dX1_say_21 : decode cX1_say 21 = .ok (.iload_n 2, 1) := by decide +kernel
theorem dX1_say_22 : decode cX1_say 22 = .ok (.putfield 39, 3) := by decide +kernel
theorem dX1_say_25 : decode cX1_say 25 = .ok (.return_, 1) := by decide +kernel
def d_X1_say (x0 : Nat) (x1 : Int32) (x2 : Int32) (G : Hp) : Option (Hp) :=
  gd (hc G x0 = 2) <|
  gd (hc G ((hr G x0 1)) = 8) <|
  b2 (d_X7_open ((hr G x0 1)) x1 ((100 + ((hi G x0 0)))) G) fun v4 G5 =>
  if v4 = 0 then
    some G5
  else
    gd (hc G5 v4 = 1) <|
    bd (sI G5 v4 3 x2) fun G8 =>
    some G8
section
variable {p : Program} {l : Launch} {e : Env} {s : State} {m : MethodId} {args : Array Value} {below : List Frame} {meth : Method} {c : Code} {b0 : Nat} {D : va_G} {E : Nat → ClassId}
set_option maxHeartbeats 4000000 in
set_option maxRecDepth 100000 in
theorem k_X1_say (C : Cx p s m args meth c RX1 cX1_say 4 none b0 D E) {GG : Hp} {x0 : Nat} {x1 : Int32} {x2 : Int32} {G : Hp} {ls : Array Slot} {H : Heap} {locs : List Loc} : lx ls 4 [(0, .inr x0), (1, .inl x1), (2, .inl x2)] → Rp b0 D E G H → SS b0 s H locs → d_X1_say x0 x1 x2 G = some GG → W p l e (rmd 2 (0) (0)) s m args below meth c H locs (0) (0) (MQ below (CQ b0 D E none GG) args s (0) (0) (fun q => b0 ≤ q)) (F0 m 0 ls []) := by
  intro hL hR hS hd
  unfold d_X1_say at hd
  have hx := C.1
  have hb := C.2.1
  refine x_aload_n C dX1_say_0 hL 0 rfl ?_
  obtain ⟨g1, hd⟩ := gd_ex hd
  refine r_getr (ci := 1) (k := 1) C fl_X1_25 rfl dX1_say_1 hR g1 ?_
  refine x_iload_n C dX1_say_4 hL 1 rfl ?_
  refine lv_bipush (v := 100) hx hb dX1_say_5 (by decide) ?_
  refine x_aload_n C dX1_say_7 hL 0 rfl ?_
  refine r_geti (ci := 1) (k := 0) C fl_X1_22 rfl dX1_say_8 hR g1 ?_
  refine lv_iadd hx hb dX1_say_11 ?_
  obtain ⟨g2, hd⟩ := gd_ex hd
  obtain ⟨v4, G5, h3, hd⟩ := b2_ex hd
  refine r_callV (a := ((hr G x0 1))) (ci := 7) (As := [.int x1, .int ((100 + ((hi G x0 0))))]) C (ct_X7_open h3) mf_X7_open ml_X1_33 mv_X7_open rfl ⟨Nat.le_of_ble_eq_true rfl, Nat.le_of_ble_eq_true rfl⟩ dX1_say_12 (lx_size hL) rfl hR hS g2 ⟨Nat.le_refl _, Nat.le_refl _⟩ (cat_le [] (Nat.le_of_ble_eq_true rfl)) (fun H locs hR hS => ?_)
  refine W_st (st2 := [rv v4]) rfl ?_
  refine x_astore_n (lv' := [(3, .inr v4), (0, .inr x0), (1, .inl x1), (2, .inl x2)]) C dX1_say_15 hL (by decide) rfl (fun ls hL => ?_)
  refine x_aload_n C dX1_say_16 hL 0 rfl ?_
  refine r_ifnull (tgt := 25) C dX1_say_17 (by decide) (fun c6 => ?_) (fun c6 => ?_)
  · rw [if_pos c6] at hd
    cases hd
    exact r_vret C dX1_say_25 hR hS
  · rw [if_neg c6] at hd
    refine x_aload_n C dX1_say_20 hL 0 rfl ?_
    refine x_iload_n C dX1_say_21 hL 3 rfl ?_
    obtain ⟨g7, hd⟩ := gd_ex hd
    obtain ⟨G8, eG8, hd⟩ := bd_ex hd
    refine r_puti (ci := 0) (k := 3) C fl_X1_39 rfl (Or.inl rfl) dX1_say_22 hR hS g7 (fun H locs hR hS => ?_)
    replace hR : Rp b0 D E G8 H := by rw [eG8]; exact hR
    cases hd
    exact r_vret C dX1_say_25 hR hS
end
set_option maxHeartbeats 4000000 in
set_option maxRecDepth 100000 in
theorem ct_X1_say {l : Launch} {b0 : Nat} {D : va_G} {E : Nat → ClassId} {G : Hp} {a0 : Nat} {a1 : Int32} {a2 : Int32} {GG : Hp} (hd : d_X1_say a0 a1 a2 G = some GG) : CT l yX1_say cX1_say 4 none 2 0 0 b0 D E [rv a0, .int a1, .int a2] G none GG := by
  refine CT_of (by decide +kernel) ?_
  intro p e s m below meth c C hnm hR
  refine r_entry [.inr a0, .inl a1, .inl a2] (n := 4) (Nat.le_of_ble_eq_true rfl) (lv := [(0, .inr a0), (1, .inl a1), (2, .inl a2)]) rfl (fun ls hL => ?_)
  exact k_X1_say C (lx_sub hL [0, 1, 2] rfl) hR ⟨fun _ _ => rfl, fun _ h => by cases h⟩ hd

/-! GroveWorks$Host.sendData(II)V -/
theorem dX1_sendData_0 : decode cX1_sendData 0 = .ok (.aload_n 0, 1) := by decide +kernel
theorem dX1_sendData_1 : decode cX1_sendData 1 = .ok (.getfield 25, 3) := by decide +kernel
theorem dX1_sendData_4 : decode cX1_sendData 4 = .ok (.bipush 7, 2) := by decide +kernel
theorem dX1_sendData_6 : decode cX1_sendData 6 = .ok (.bipush 100, 2) := by decide +kernel
theorem dX1_sendData_8 : decode cX1_sendData 8 = .ok (.aload_n 0, 1) := by decide +kernel
theorem dX1_sendData_9 : decode cX1_sendData 9 = .ok (.getfield 22, 3) := by decide +kernel
theorem dX1_sendData_12 : decode cX1_sendData 12 = .ok (.iadd, 1) := by decide +kernel
theorem dX1_sendData_13 : decode cX1_sendData 13 = .ok (.invokevirtual 33, 3) := by decide +kernel
theorem dX1_sendData_16 : decode cX1_sendData 16 = .ok (.astore_n 3, 1) := by decide +kernel
theorem dX1_sendData_17 : decode cX1_sendData 17 = .ok (.aload_n 3, 1) := by decide +kernel
theorem dX1_sendData_18 : decode cX1_sendData 18 = .ok (.ifnull 24, 3) := by decide +kernel
theorem dX1_sendData_21 : decode cX1_sendData 21 = .ok (.aload_n 3, 1) := by decide +kernel
theorem dX1_sendData_22 : decode cX1_sendData 22 = .ok (.iconst (-1), 1) := by decide +kernel
theorem dX1_sendData_23 : decode cX1_sendData 23 = .ok (.iload_n 1, 1) := by decide +kernel
theorem dX1_sendData_24 : decode cX1_sendData 24 = .ok (.aload_n 0, 1) := by decide +kernel
theorem dX1_sendData_25 : decode cX1_sendData 25 = .ok (.getfield 22, 3) := by decide +kernel
theorem dX1_sendData_28 : decode cX1_sendData 28 = .ok (.invokevirtual 44, 3) := by decide +kernel
theorem dX1_sendData_31 : decode cX1_sendData 31 = .ok (.aload_n 3, 1) := by decide +kernel
theorem dX1_sendData_32 : decode cX1_sendData 32 = .ok (.iload_n 2, 1) := by decide +kernel
theorem dX1_sendData_33 : decode cX1_sendData 33 = .ok (.putfield 48, 3) := by decide +kernel
theorem dX1_sendData_36 : decode cX1_sendData 36 = .ok (.aload_n 3, 1) := by decide +kernel
theorem dX1_sendData_37 : decode cX1_sendData 37 = .ok (.bipush 16, 2) := by decide +kernel
theorem dX1_sendData_39 : decode cX1_sendData 39 = .ok (.putfield 49, 3) := by decide +kernel
theorem dX1_sendData_42 : decode cX1_sendData 42 = .ok (.return_, 1) := by decide +kernel
def d_X1_sendData (x0 : Nat) (x1 : Int32) (x2 : Int32) (G : Hp) : Option (Hp) :=
  gd (hc G x0 = 2) <|
  gd (hc G ((hr G x0 1)) = 8) <|
  b2 (d_X7_open ((hr G x0 1)) 7 ((100 + ((hi G x0 0)))) G) fun v4 G5 =>
  if v4 = 0 then
    some G5
  else
    gd (hc G5 x0 = 2) <|
    gd (hc G5 v4 = 1) <|
    bo (d_X0_aim v4 (-1) x1 ((hi G5 x0 0)) G5) fun G10 =>
    gd (hc G10 v4 = 1) <|
    bd (sI G10 v4 5 x2) fun G12 =>
    gd (hc G12 v4 = 1) <|
    bd (sI G12 v4 7 16) fun G14 =>
    some G14
section
variable {p : Program} {l : Launch} {e : Env} {s : State} {m : MethodId} {args : Array Value} {below : List Frame} {meth : Method} {c : Code} {b0 : Nat} {D : va_G} {E : Nat → ClassId}
set_option maxHeartbeats 4000000 in
set_option maxRecDepth 100000 in
theorem k_X1_sendData (C : Cx p s m args meth c RX1 cX1_sendData 4 none b0 D E) {GG : Hp} {x0 : Nat} {x1 : Int32} {x2 : Int32} {G : Hp} {ls : Array Slot} {H : Heap} {locs : List Loc} : lx ls 4 [(0, .inr x0), (1, .inl x1), (2, .inl x2)] → Rp b0 D E G H → SS b0 s H locs → d_X1_sendData x0 x1 x2 G = some GG → W p l e (rmd 2 (0) (0)) s m args below meth c H locs (0) (0) (MQ below (CQ b0 D E none GG) args s (0) (0) (fun q => b0 ≤ q)) (F0 m 0 ls []) := by
  intro hL hR hS hd
  unfold d_X1_sendData at hd
  have hx := C.1
  have hb := C.2.1
  refine x_aload_n C dX1_sendData_0 hL 0 rfl ?_
  obtain ⟨g1, hd⟩ := gd_ex hd
  refine r_getr (ci := 1) (k := 1) C fl_X1_25 rfl dX1_sendData_1 hR g1 ?_
  refine lv_bipush (v := 7) hx hb dX1_sendData_4 (by decide) ?_
  refine lv_bipush (v := 100) hx hb dX1_sendData_6 (by decide) ?_
  refine x_aload_n C dX1_sendData_8 hL 0 rfl ?_
  refine r_geti (ci := 1) (k := 0) C fl_X1_22 rfl dX1_sendData_9 hR g1 ?_
  refine lv_iadd hx hb dX1_sendData_12 ?_
  obtain ⟨g2, hd⟩ := gd_ex hd
  obtain ⟨v4, G5, h3, hd⟩ := b2_ex hd
  refine r_callV (a := ((hr G x0 1))) (ci := 7) (As := [.int 7, .int ((100 + ((hi G x0 0))))]) C (ct_X7_open h3) mf_X7_open ml_X1_33 mv_X7_open rfl ⟨Nat.le_of_ble_eq_true rfl, Nat.le_of_ble_eq_true rfl⟩ dX1_sendData_13 (lx_size hL) rfl hR hS g2 ⟨Nat.le_refl _, Nat.le_refl _⟩ (cat_le [] (Nat.le_of_ble_eq_true rfl)) (fun H locs hR hS => ?_)
  refine W_st (st2 := [rv v4]) rfl ?_
  refine x_astore_n (lv' := [(3, .inr v4), (0, .inr x0), (1, .inl x1), (2, .inl x2)]) C dX1_sendData_16 hL (by decide) rfl (fun ls hL => ?_)
  refine x_aload_n C dX1_sendData_17 hL 0 rfl ?_
  refine r_ifnull (tgt := 42) C dX1_sendData_18 (by decide) (fun c6 => ?_) (fun c6 => ?_)
  · rw [if_pos c6] at hd
    cases hd
    exact r_vret C dX1_sendData_42 hR hS
  · rw [if_neg c6] at hd
    refine x_aload_n C dX1_sendData_21 hL 0 rfl ?_
    refine lv_iconst (v := (-1)) hx hb dX1_sendData_22 (by decide) ?_
    refine x_iload_n C dX1_sendData_23 hL 2 rfl ?_
    refine x_aload_n C dX1_sendData_24 hL 1 rfl ?_
    obtain ⟨g7, hd⟩ := gd_ex hd
    refine r_geti (ci := 1) (k := 0) C fl_X1_22 rfl dX1_sendData_25 hR g7 ?_
    obtain ⟨g8, hd⟩ := gd_ex hd
    obtain ⟨G10, h9, hd⟩ := bo_ex hd
    refine r_callV (a := v4) (ci := 0) (As := [.int (-1), .int x1, .int ((hi G5 x0 0))]) C (ct_X0_aim h9) mf_X0_aim ml_X1_44 mv_X0_aim rfl ⟨Nat.le_of_ble_eq_true rfl, Nat.le_of_ble_eq_true rfl⟩ dX1_sendData_28 (lx_size hL) rfl hR hS g8 ⟨Nat.le_refl _, Nat.le_refl _⟩ (cat_le [] (Nat.le_of_ble_eq_true rfl)) (fun H locs hR hS => ?_)
    refine W_st (st2 := []) rfl ?_
    refine x_aload_n C dX1_sendData_31 hL 0 rfl ?_
    refine x_iload_n C dX1_sendData_32 hL 3 rfl ?_
    obtain ⟨g11, hd⟩ := gd_ex hd
    obtain ⟨G12, eG12, hd⟩ := bd_ex hd
    refine r_puti (ci := 0) (k := 5) C fl_X1_48 rfl (Or.inl rfl) dX1_sendData_33 hR hS g11 (fun H locs hR hS => ?_)
    replace hR : Rp b0 D E G12 H := by rw [eG12]; exact hR
    refine x_aload_n C dX1_sendData_36 hL 0 rfl ?_
    refine lv_bipush (v := 16) hx hb dX1_sendData_37 (by decide) ?_
    obtain ⟨g13, hd⟩ := gd_ex hd
    obtain ⟨G14, eG14, hd⟩ := bd_ex hd
    refine r_puti (ci := 0) (k := 7) C fl_X1_49 rfl (Or.inl rfl) dX1_sendData_39 hR hS g13 (fun H locs hR hS => ?_)
    replace hR : Rp b0 D E G14 H := by rw [eG14]; exact hR
    cases hd
    exact r_vret C dX1_sendData_42 hR hS
end
set_option maxHeartbeats 4000000 in
set_option maxRecDepth 100000 in
theorem ct_X1_sendData {l : Launch} {b0 : Nat} {D : va_G} {E : Nat → ClassId} {G : Hp} {a0 : Nat} {a1 : Int32} {a2 : Int32} {GG : Hp} (hd : d_X1_sendData a0 a1 a2 G = some GG) : CT l yX1_sendData cX1_sendData 4 none 2 0 0 b0 D E [rv a0, .int a1, .int a2] G none GG := by
  refine CT_of (by decide +kernel) ?_
  intro p e s m below meth c C hnm hR
  refine r_entry [.inr a0, .inl a1, .inl a2] (n := 4) (Nat.le_of_ble_eq_true rfl) (lv := [(0, .inr a0), (1, .inl a1), (2, .inl a2)]) rfl (fun ls hL => ?_)
  exact k_X1_sendData C (lx_sub hL [0, 1, 2] rfl) hR ⟨fun _ _ => rfl, fun _ h => by cases h⟩ hd

/-! GroveWorks.isIn(II)Z pure -/
theorem dX8_isIn_0 : decode cX8_isIn 0 = .ok (.iload_n 0, 1) := by decide +kernel
theorem dX8_isIn_1 : decode cX8_isIn 1 = .ok (.ifCond .lt 12, 3) := by decide +kernel
theorem dX8_isIn_4 : decode cX8_isIn 4 = .ok (.iload_n 0, 1) := by decide +kernel
theorem dX8_isIn_5 : decode cX8_isIn 5 = .ok (.iload_n 1, 1) := by decide +kernel
theorem dX8_isIn_6 : decode cX8_isIn 6 = .ok (.if_icmp .ge 7, 3) := by decide +kernel
theorem dX8_isIn_9 : decode cX8_isIn 9 = .ok (.iconst 1, 1) := by decide +kernel
theorem dX8_isIn_10 : decode cX8_isIn 10 = .ok (.goto 4, 3) := by decide +kernel
theorem dX8_isIn_13 : decode cX8_isIn 13 = .ok (.iconst 0, 1) := by decide +kernel
theorem dX8_isIn_14 : decode cX8_isIn 14 = .ok (.ireturn, 1) := by decide +kernel
def d_X8_isIn (x0 : Int32) (x1 : Int32) (G : Hp) : Option (Int32) :=
  if x0 < 0 then
    some 0
  else
    if x1 ≤ x0 then
      some 0
    else
      some 1
section
variable {p : Program} {l : Launch} {e : Env} {s : State} {m : MethodId} {args : Array Value} {below : List Frame} {meth : Method} {c : Code} {b0 : Nat} {D : va_G} {E : Nat → ClassId}
set_option maxHeartbeats 4000000 in
set_option maxRecDepth 100000 in
theorem k_X8_isIn (C : Cx p s m args meth c RX8 cX8_isIn 2 (some .boolean) b0 D E) {rr : Int32} {G : Hp} {x0 : Int32} {x1 : Int32} {ls : Array Slot} {H : Heap} {locs : List Loc} : lx ls 2 [(0, .inl x0), (1, .inl x1)] → Rp b0 D E G H → SS b0 s H locs → d_X8_isIn x0 x1 G = some rr → W p l e (rmd 0 (0) (0)) s m args below meth c H locs (0) (0) (MQ below (CQ b0 D E (some (.int rr)) G) args s (0) (0) (fun q => b0 ≤ q)) (F0 m 0 ls []) := by
  intro hL hR hS hd
  unfold d_X8_isIn at hd
  have hx := C.1
  have hb := C.2.1
  refine x_iload_n C dX8_isIn_0 hL 0 rfl ?_
  refine lv_if_lt (tgt := 13) hx hb dX8_isIn_1 (by decide) (fun c1 => ?_) (fun c1 => ?_)
  · rw [if_pos c1] at hd
    refine lv_iconst (v := 0) hx hb dX8_isIn_13 (by decide) ?_
    cases hd
    exact r_zret C (by decide) dX8_isIn_14 hR hS
  · rw [if_neg c1] at hd
    refine x_iload_n C dX8_isIn_4 hL 0 rfl ?_
    refine x_iload_n C dX8_isIn_5 hL 1 rfl ?_
    refine lv_icmp_ge (tgt := 13) hx hb dX8_isIn_6 (by decide) (fun c2 => ?_) (fun c2 => ?_)
    · rw [if_pos c2] at hd
      refine lv_iconst (v := 0) hx hb dX8_isIn_13 (by decide) ?_
      cases hd
      exact r_zret C (by decide) dX8_isIn_14 hR hS
    · rw [if_neg c2] at hd
      refine lv_iconst (v := 1) hx hb dX8_isIn_9 (by decide) ?_
      refine lv_goto (tgt := 14) hx hb dX8_isIn_10 (by decide) ?_
      cases hd
      exact r_zret C (by decide) dX8_isIn_14 hR hS
end
set_option maxHeartbeats 4000000 in
set_option maxRecDepth 100000 in
theorem ct_X8_isIn {l : Launch} {b0 : Nat} {D : va_G} {E : Nat → ClassId} {G : Hp} {a0 : Int32} {a1 : Int32} {rr : Int32} (hd : d_X8_isIn a0 a1 G = some rr) : CT l yX8_isIn cX8_isIn 2 (some .boolean) 0 0 0 b0 D E [.int a0, .int a1] G (some (.int rr)) G := by
  refine CT_of (by decide +kernel) ?_
  intro p e s m below meth c C hnm hR
  refine r_entry [.inl a0, .inl a1] (n := 2) (Nat.le_of_ble_eq_true rfl) (lv := [(0, .inl a0), (1, .inl a1)]) rfl (fun ls hL => ?_)
  exact k_X8_isIn C (lx_sub hL [0, 1] rfl) hR ⟨fun _ _ => rfl, fun _ h => by cases h⟩ hd

/-! GroveWorks$Host.hear(LGroveWorks$Frame;)V -/
theorem dX1_hear_0 : decode cX1_hear 0 = .ok (.aload_n 1, 1) := by decide +kernel
theorem dX1_hear_1 : decode cX1_hear 1 = .ok (.getfield 52, 3) := by decide +kernel
theorem dX1_hear_4 : decode cX1_hear 4 = .ok (.iconst 2, 1) := by decide +kernel
theorem dX1_hear_5 : decode cX1_hear 5 = .ok (.if_icmp .ne 35, 3) := by decide +kernel
theorem dX1_hear_8 : decode cX1_hear 8 = .ok (.aload_n 0, 1) := by decide +kernel
theorem dX1_hear_9 : decode cX1_hear 9 = .ok (.dup, 1) := by decide +kernel
theorem dX1_hear_10 : decode cX1_hear 10 = .ok (.getfield 19, 3) := by decide +kernel
theorem dX1_hear_13 : decode cX1_hear 13 = .ok (.aload_n 1, 1) := by decide +kernel
theorem dX1_hear_14 : decode cX1_hear 14 = .ok (.getfield 39, 3) := by decide +kernel
theorem dX1_hear_17 : decode cX1_hear 17 = .ok (.iconst (-1), 1) := by decide +kernel
theorem dX1_hear_18 : decode cX1_hear 18 = .ok (.if_icmp .ne 9, 3) := by decide +kernel
theorem dX1_hear_21 : decode cX1_hear 21 = .ok (.sipush 255, 3) := by decide +kernel
theorem dX1_hear_24 : decode cX1_hear 24 = .ok (.goto 9, 3) := by decide +kernel
theorem dX1_hear_27 : decode cX1_hear 27 = .ok (.iconst 1, 1) := by decide +kernel
theorem dX1_hear_28 : decode cX1_hear 28 = .ok (.aload_n 1, 1) := by decide +kernel
theorem dX1_hear_29 : decode cX1_hear 29 = .ok (.getfield 39, 3) := by decide +kernel
theorem dX1_hear_32 : decode cX1_hear 32 = .ok (.ishl, 1) := by decide +kernel
theorem dX1_hear_33 : decode cX1_hear 33 = .ok (.ior, 1) := by decide +kernel
theorem dX1_hear_34 : decode cX1_hear 34 = .ok (.putfield 19, 3) := by decide +kernel
theorem dX1_hear_37 : decode cX1_hear 37 = .ok (.goto 49, 3) := by decide +kernel
theorem dX1_hear_40 : decode cX1_hear 40 = .ok (.aload_n 1, 1) := by decide +kernel
theorem dX1_hear_41 : decode cX1_hear 41 = .ok (.getfield 52, 3) := by decide +kernel
theorem dX1_hear_44 : decode cX1_hear 44 = .ok (.bipush 7, 2) := by decide +kernel
theorem dX1_hear_46 : decode cX1_hear 46 = .ok (.if_icmp .ne 40, 3) := by decide +kernel
theorem dX1_hear_49 : decode cX1_hear 49 = .ok (.aload_n 0, 1) := by decide +kernel
theorem dX1_hear_50 : decode cX1_hear 50 = .ok (.aload_n 1, 1) := by decide +kernel
theorem dX1_hear_51 : decode cX1_hear 51 = .ok (.getfield 39, 3) := by decide +kernel
theorem dX1_hear_54 : decode cX1_hear 54 = .ok (.invokevirtual 55, 3) := by decide +kernel
theorem dX1_hear_57 : decode cX1_hear 57 = .ok (.ifCond .eq 29, 3) := by decide +kernel
theorem dX1_hear_60 : decode cX1_hear 60 = .ok (.aload_n 1, 1) := by decide +kernel
theorem dX1_hear_61 : decode cX1_hear 61 = .ok (.getfield 48, 3) := by decide +kernel
theorem dX1_hear_64 : decode cX1_hear 64 = .ok (.sipush 400, 3) := by decide +kernel
theorem dX1_hear_67 : decode cX1_hear 67 = .ok (.invokestatic 59, 3) := by decide +kernel
theorem dX1_hear_70 : decode cX1_hear 70 = .ok (.ifCond .eq 16, 3) := by decide +kernel
theorem dX1_hear_73 : decode cX1_hear 73 = .ok (.aload_n 0, 1) := by decide +kernel
theorem dX1_hear_74 : decode cX1_hear 74 = .ok (.getfield 9, 3) := by decide +kernel
theorem dX1_hear_77 : decode cX1_hear 77 = .ok (.aload_n 1, 1) := by decide +kernel
theorem dX1_hear_78 : decode cX1_hear 78 = .ok (.getfield 48, 3) := by decide +kernel
theorem dX1_hear_81 : decode cX1_hear 81 = .ok (.dup2, 1) := by decide +kernel
theorem dX1_hear_82 : decode cX1_hear 82 = .ok (.iaload, 1) := by decide +kernel
theorem dX1_hear_83 : decode cX1_hear 83 = .ok (.iconst 1, 1) := by decide +kernel
theorem dX1_hear_84 : decode cX1_hear 84 = .ok (.iadd, 1) := by decide +kernel
theorem dX1_hear_85 : decode cX1_hear 85 = .ok (.iastore, 1) := by decide +kernel
theorem dX1_hear_86 : decode cX1_hear 86 = .ok (.return_, 1) := by decide +kernel
def d_X1_hear (x0 : Nat) (x1 : Nat) (G : Hp) : Option (Hp) :=
  gd (hc G x1 = 1) <|
  if ((hi G x1 0)) = 2 then
    gd (hc G x0 = 2) <|
    if ((hi G x1 3)) = (-1) then
      bd (sI G x0 4 ((((hi G x0 4)) ||| 255))) fun G17 =>
      some G17
    else
      bd (sI G x0 4 ((((hi G x0 4)) ||| ((1 <<< (((hi G x1 3)) &&& 31)))))) fun G16 =>
      some G16
  else
    if ((hi G x1 0)) = 7 then
      gd (hc G x0 = 2) <|
      bo (d_X1_hasJoined x0 ((hi G x1 3)) G) fun v6 =>
      if v6 = 0 then
        some G
      else
        bo (d_X8_isIn ((hi G x1 5)) 400 G) fun v9 =>
        if v9 = 0 then
          some G
        else
          gd (hc G ((hr G x0 2)) = 11 ∧ ix ((hi G x1 5)) (hl G ((hr G x0 2)))) <|
          gd (hc G ((hr G x0 2)) = 11 ∧ ix ((hi G x1 5)) (hl G ((hr G x0 2)))) <|
          bd (sI G ((hr G x0 2)) ((hi G x1 5)).toNatClampNeg ((((hi G ((hr G x0 2)) ((hi G x1 5)).toNatClampNeg)) + 1))) fun G13 =>
          some G13
    else
      some G
section
variable {p : Program} {l : Launch} {e : Env} {s : State} {m : MethodId} {args : Array Value} {below : List Frame} {meth : Method} {c : Code} {b0 : Nat} {D : va_G} {E : Nat → ClassId}
set_option maxHeartbeats 4000000 in
set_option maxRecDepth 100000 in
theorem k_X1_hear (C : Cx p s m args meth c RX1 cX1_hear 2 none b0 D E) {GG : Hp} {x0 : Nat} {x1 : Nat} {G : Hp} {ls : Array Slot} {H : Heap} {locs : List Loc} : lx ls 2 [(0, .inr x0), (1, .inr x1)] → Rp b0 D E G H → SS b0 s H locs → d_X1_hear x0 x1 G = some GG → W p l e (rmd 2 (0) (0)) s m args below meth c H locs (0) (0) (MQ below (CQ b0 D E none GG) args s (0) (0) (fun q => b0 ≤ q)) (F0 m 0 ls []) := by
  intro hL hR hS hd
  unfold d_X1_hear at hd
  have hx := C.1
  have hb := C.2.1
  refine x_aload_n C dX1_hear_0 hL 1 rfl ?_
  obtain ⟨g1, hd⟩ := gd_ex hd
  refine r_geti (ci := 0) (k := 0) C fl_X1_52 rfl dX1_hear_1 hR g1 ?_
  refine lv_iconst (v := 2) hx hb dX1_hear_4 (by decide) ?_
  refine lv_icmp_ne (tgt := 40) hx hb dX1_hear_5 (by decide) (fun c2 => ?_) (fun c2 => ?_)
  · rw [if_neg c2] at hd
    refine x_aload_n C dX1_hear_40 hL 1 rfl ?_
    refine r_geti (ci := 0) (k := 0) C fl_X1_52 rfl dX1_hear_41 hR g1 ?_
    refine lv_bipush (v := 7) hx hb dX1_hear_44 (by decide) ?_
    refine lv_icmp_ne (tgt := 86) hx hb dX1_hear_46 (by decide) (fun c3 => ?_) (fun c3 => ?_)
    · rw [if_neg c3] at hd
      cases hd
      exact r_vret C dX1_hear_86 hR hS
    · rw [if_pos c3] at hd
      refine x_aload_n C dX1_hear_49 hL 0 rfl ?_
      refine x_aload_n C dX1_hear_50 hL 1 rfl ?_
      refine r_geti (ci := 0) (k := 3) C fl_X1_39 rfl dX1_hear_51 hR g1 ?_
      obtain ⟨g4, hd⟩ := gd_ex hd
      obtain ⟨v6, h5, hd⟩ := bo_ex hd
      refine r_callV (a := x0) (ci := 1) (As := [.int ((hi G x1 3))]) C (ct_X1_hasJoined h5) mf_X1_hasJoined ml_X1_55 mv_X1_hasJoined rfl ⟨Nat.le_of_ble_eq_true rfl, Nat.le_of_ble_eq_true rfl⟩ dX1_hear_54 (lx_size hL) rfl hR hS g4 ⟨Nat.le_refl _, Nat.le_refl _⟩ (cat_le [] (Nat.le_of_ble_eq_true rfl)) (fun H locs hR hS => ?_)
      refine W_st (st2 := [.int v6]) rfl ?_
      refine lv_if_eq (tgt := 86) hx hb dX1_hear_57 (by decide) (fun c7 => ?_) (fun c7 => ?_)
      · rw [if_pos c7] at hd
        cases hd
        exact r_vret C dX1_hear_86 hR hS
      · rw [if_neg c7] at hd
        refine x_aload_n C dX1_hear_60 hL 1 rfl ?_
        refine r_geti (ci := 0) (k := 5) C fl_X1_48 rfl dX1_hear_61 hR g1 ?_
        refine lv_sipush (v := 400) hx hb dX1_hear_64 (by decide) ?_
        obtain ⟨v9, h8, hd⟩ := bo_ex hd
        refine r_callSN (As := [.int ((hi G x1 5)), .int 400]) C (ct_X8_isIn h8) mf_X8_isIn (by decide +kernel) ms_X8_isIn rfl ⟨Nat.le_of_ble_eq_true rfl, Nat.le_of_ble_eq_true rfl⟩ dX1_hear_67 (lx_size hL) rfl hR hS ⟨Nat.le_refl _, Nat.le_refl _⟩ (cat_le [] (Nat.le_of_ble_eq_true rfl)) (fun H locs hR hS => ?_)
        refine W_st (st2 := [.int v9]) rfl ?_
        refine lv_if_eq (tgt := 86) hx hb dX1_hear_70 (by decide) (fun c10 => ?_) (fun c10 => ?_)
        · rw [if_pos c10] at hd
          cases hd
          exact r_vret C dX1_hear_86 hR hS
        · rw [if_neg c10] at hd
          refine x_aload_n C dX1_hear_73 hL 0 rfl ?_
          refine r_getr (ci := 1) (k := 2) C fl_X1_9 rfl dX1_hear_74 hR g4 ?_
          refine x_aload_n C dX1_hear_77 hL 1 rfl ?_
          refine r_geti (ci := 0) (k := 5) C fl_X1_48 rfl dX1_hear_78 hR g1 ?_
          refine lv_dup2_11 hx hb dX1_hear_81 rfl (rv_cat _) ?_
          obtain ⟨g11, hd⟩ := gd_ex hd
          refine r_iald C dX1_hear_82 hR g11 ?_
          refine lv_iconst (v := 1) hx hb dX1_hear_83 (by decide) ?_
          refine lv_iadd hx hb dX1_hear_84 ?_
          obtain ⟨g12, hd⟩ := gd_ex hd
          obtain ⟨G13, eG13, hd⟩ := bd_ex hd
          refine r_iast C dX1_hear_85 hR hS g12 (fun H locs hR hS => ?_)
          replace hR : Rp b0 D E G13 H := by rw [eG13]; exact hR
          cases hd
          exact r_vret C dX1_hear_86 hR hS
  · rw [if_pos c2] at hd
    refine x_aload_n C dX1_hear_8 hL 0 rfl ?_
    refine lv_dup hx hb dX1_hear_9 (rv_cat _) ?_
    obtain ⟨g14, hd⟩ := gd_ex hd
    refine r_geti (ci := 1) (k := 4) C fl_X1_19 rfl dX1_hear_10 hR g14 ?_
    refine x_aload_n C dX1_hear_13 hL 1 rfl ?_
    refine r_geti (ci := 0) (k := 3) C fl_X1_39 rfl dX1_hear_14 hR g1 ?_
    refine lv_iconst (v := (-1)) hx hb dX1_hear_17 (by decide) ?_
    refine lv_icmp_ne (tgt := 27) hx hb dX1_hear_18 (by decide) (fun c15 => ?_) (fun c15 => ?_)
    · rw [if_neg c15] at hd
      refine lv_iconst (v := 1) hx hb dX1_hear_27 (by decide) ?_
      refine x_aload_n C dX1_hear_28 hL 1 rfl ?_
      refine r_geti (ci := 0) (k := 3) C fl_X1_39 rfl dX1_hear_29 hR g1 ?_
      refine lv_ishl hx hb dX1_hear_32 ?_
      refine lv_ior hx hb dX1_hear_33 ?_
      obtain ⟨G16, eG16, hd⟩ := bd_ex hd
      refine r_puti (ci := 1) (k := 4) C fl_X1_19 rfl (Or.inl rfl) dX1_hear_34 hR hS g14 (fun H locs hR hS => ?_)
      replace hR : Rp b0 D E G16 H := by rw [eG16]; exact hR
      refine lv_goto (tgt := 86) hx hb dX1_hear_37 (by decide) ?_
      cases hd
      exact r_vret C dX1_hear_86 hR hS
    · rw [if_pos c15] at hd
      refine lv_sipush (v := 255) hx hb dX1_hear_21 (by decide) ?_
      refine lv_goto (tgt := 33) hx hb dX1_hear_24 (by decide) ?_
      refine lv_ior hx hb dX1_hear_33 ?_
      obtain ⟨G17, eG17, hd⟩ := bd_ex hd
      refine r_puti (ci := 1) (k := 4) C fl_X1_19 rfl (Or.inl rfl) dX1_hear_34 hR hS g14 (fun H locs hR hS => ?_)
      replace hR : Rp b0 D E G17 H := by rw [eG17]; exact hR
      refine lv_goto (tgt := 86) hx hb dX1_hear_37 (by decide) ?_
      cases hd
      exact r_vret C dX1_hear_86 hR hS
end
set_option maxHeartbeats 4000000 in
set_option maxRecDepth 100000 in
theorem ct_X1_hear {l : Launch} {b0 : Nat} {D : va_G} {E : Nat → ClassId} {G : Hp} {a0 : Nat} {a1 : Nat} {GG : Hp} (hd : d_X1_hear a0 a1 G = some GG) : CT l yX1_hear cX1_hear 2 none 2 0 0 b0 D E [rv a0, rv a1] G none GG := by
  refine CT_of (by decide +kernel) ?_
  intro p e s m below meth c C hnm hR
  refine r_entry [.inr a0, .inr a1] (n := 2) (Nat.le_of_ble_eq_true rfl) (lv := [(0, .inr a0), (1, .inr a1)]) rfl (fun ls hL => ?_)
  exact k_X1_hear C (lx_sub hL [0, 1] rfl) hR ⟨fun _ _ => rfl, fun _ h => by cases h⟩ hd

/-! GroveWorks$Host.answerQueries()V -/
theorem dX1_answerQueries_0 : decode cX1_answerQueries 0 = .ok (.aload_n 0, 1) := by decide +kernel
theorem dX1_answerQueries_1 : decode cX1_answerQueries 1 = .ok (.getfield 19, 3) := by decide +kernel
theorem dX1_answerQueries_4 : decode cX1_answerQueries 4 = .ok (.aload_n 0, 1) := by decide +kernel
theorem dX1_answerQueries_5 : decode cX1_answerQueries 5 = .ok (.getfield 15, 3) := by decide +kernel
theorem dX1_answerQueries_8 : decode cX1_answerQueries 8 = .ok (.iand, 1) := by decide +kernel
theorem dX1_answerQueries_9 : decode cX1_answerQueries 9 = .ok (.istore_n 1, 1) := by decide +kernel
theorem dX1_answerQueries_10 : decode cX1_answerQueries 10 = .ok (.aload_n 0, 1) := by decide +kernel
theorem dX1_answerQueries_11 : decode cX1_answerQueries 11 = .ok (.iconst 0, 1) := by decide +kernel
theorem dX1_answerQueries_12 : decode cX1_answerQueries 12 = .ok (.putfield 19, 3) := by decide +kernel
theorem dX1_answerQueries_15 : decode cX1_answerQueries 15 = .ok (.iconst 0, 1) := by decide +kernel
theorem dX1_answerQueries_16 : decode cX1_answerQueries 16 = .ok (.istore_n 2, 1) := by decide +kernel
theorem dX1_answerQueries_17 : decode cX1_answerQueries 17 = .ok (.iload_n 2, 1) := by decide +kernel
theorem dX1_answerQueries_18 : decode cX1_answerQueries 18 = .ok (.bipush 8, 2) := by decide +kernel
theorem dX1_answerQueries_20 : decode cX1_answerQueries 20 = .ok (.if_icmp .ge 23, 3) := by decide +kernel
theorem dX1_answerQueries_23 : decode cX1_answerQueries 23 = .ok (.iload_n 1, 1) := by decide +kernel
theorem dX1_answerQueries_24 : decode cX1_answerQueries 24 = .ok (.iload_n 2, 1) := by decide +kernel
theorem dX1_answerQueries_25 : decode cX1_answerQueries 25 = .ok (.invokestatic 29, 3) := by decide +kernel
theorem dX1_answerQueries_28 : decode cX1_answerQueries 28 = .ok (.ifCond .eq 9, 3) := by decide +kernel
theorem dX1_answerQueries_31 : decode cX1_answerQueries 31 = .ok (.aload_n 0, 1) := by decide +kernel
theorem dX1_answerQueries_32 : decode cX1_answerQueries 32 = .ok (.iconst 3, 1) := by decide +kernel
theorem dX1_answerQueries_33 : decode cX1_answerQueries 33 = .ok (.iload_n 2, 1) := by decide +kernel
theorem dX1_answerQueries_34 : decode cX1_answerQueries 34 = .ok (.invokevirtual 62, 3) := by decide +kernel
theorem dX1_answerQueries_37 : decode cX1_answerQueries 37 = .ok (.iinc 2 1, 3) := by decide +kernel
theorem dX1_answerQueries_40 : decode cX1_answerQueries 40 = .ok (.goto (-23), 3) := by decide +kernel
theorem dX1_answerQueries_43 : decode cX1_answerQueries 43 = .ok (.return_, 1) := by decide +kernel
def d_X1_answerQueries_17 : Nat → Nat → Int32 → Int32 → Hp → Option (Hp)
  | 0, _, _, _, _ => none
  | n_ + 1, x0, x1, x2, G =>
    if 8 ≤ x2 then
      some G
    else
      bo (d_X8_has x1 x2 G) fun v3 =>
      if v3 = 0 then
        d_X1_answerQueries_17 n_ x0 x1 ((x2 + 1)) G
      else
        gd (hc G x0 = 2) <|
        bo (d_X1_say x0 3 x2 G) fun G7 =>
        d_X1_answerQueries_17 n_ x0 x1 ((x2 + 1)) G7
def d_X1_answerQueries (x0 : Nat) (G : Hp) : Option (Hp) :=
  gd (hc G x0 = 2) <|
  bd ((((hi G x0 4)) &&& ((hi G x0 3)))) fun v2 =>
  bd (sI G x0 4 0) fun G3 =>
  d_X1_answerQueries_17 FU x0 v2 0 G3
section
variable {p : Program} {l : Launch} {e : Env} {s : State} {m : MethodId} {args : Array Value} {below : List Frame} {meth : Method} {c : Code} {b0 : Nat} {D : va_G} {E : Nat → ClassId}
set_option maxHeartbeats 4000000 in
set_option maxRecDepth 100000 in
theorem k_X1_answerQueries_17 (C : Cx p s m args meth c RX1 cX1_answerQueries 3 none b0 D E) {GG : Hp} : ∀ (n_ : Nat) {x0 : Nat} {x1 : Int32} {x2 : Int32} {G : Hp} {ls : Array Slot} {H : Heap} {locs : List Loc}, lx ls 3 [(0, .inr x0), (1, .inl x1), (2, .inl x2)] → Rp b0 D E G H → SS b0 s H locs → d_X1_answerQueries_17 n_ x0 x1 x2 G = some GG → W p l e (rmd 3 (0) (0)) s m args below meth c H locs (0) (0) (MQ below (CQ b0 D E none GG) args s (0) (0) (fun q => b0 ≤ q)) (F0 m 17 ls []) := by
  intro n_
  induction n_ with
  | zero =>
    intro x0 x1 x2 G ls H locs hL hR hS hd
    cases (show (none : Option _) = some _ from hd)
  | succ n_ ih =>
    intro x0 x1 x2 G ls H locs hL hR hS hd
    rw [d_X1_answerQueries_17.eq_2] at hd
    have hx := C.1
    have hb := C.2.1
    refine x_iload_n C dX1_answerQueries_17 hL 2 rfl ?_
    refine lv_bipush (v := 8) hx hb dX1_answerQueries_18 (by decide) ?_
    refine lv_icmp_ge (tgt := 43) hx hb dX1_answerQueries_20 (by decide) (fun c1 => ?_) (fun c1 => ?_)
    · rw [if_pos c1] at hd
      cases hd
      exact r_vret C dX1_answerQueries_43 hR hS
    · rw [if_neg c1] at hd
      refine x_iload_n C dX1_answerQueries_23 hL 1 rfl ?_
      refine x_iload_n C dX1_answerQueries_24 hL 2 rfl ?_
      obtain ⟨v3, h2, hd⟩ := bo_ex hd
      refine r_callSN (As := [.int x1, .int x2]) C (ct_X8_has h2) mf_X8_has (by decide +kernel) ms_X8_has rfl ⟨Nat.le_of_ble_eq_true rfl, Nat.le_of_ble_eq_true rfl⟩ dX1_answerQueries_25 (lx_size hL) rfl hR hS ⟨Nat.le_refl _, Nat.le_refl _⟩ (cat_le [] (Nat.le_of_ble_eq_true rfl)) (fun H locs hR hS => ?_)
      refine W_st (st2 := [.int v3]) rfl ?_
      refine lv_if_eq (tgt := 37) hx hb dX1_answerQueries_28 (by decide) (fun c4 => ?_) (fun c4 => ?_)
      · rw [if_pos c4] at hd
        refine x_iinc (lv' := [(2, .inl ((x2 + 1))), (0, .inr x0), (1, .inl x1)]) C dX1_answerQueries_37 hL 2 rfl rfl (by decide) rfl (fun ls hL => ?_)
        refine lv_goto (tgt := 17) hx hb dX1_answerQueries_40 (by decide) ?_
        exact ih (lx_sub hL [1, 2, 0] rfl) hR hS hd
      · rw [if_neg c4] at hd
        refine x_aload_n C dX1_answerQueries_31 hL 0 rfl ?_
        refine lv_iconst (v := 3) hx hb dX1_answerQueries_32 (by decide) ?_
        refine x_iload_n C dX1_answerQueries_33 hL 2 rfl ?_
        obtain ⟨g5, hd⟩ := gd_ex hd
        obtain ⟨G7, h6, hd⟩ := bo_ex hd
        refine r_callV (a := x0) (ci := 1) (As := [.int 3, .int x2]) C (ct_X1_say h6) mf_X1_say ml_X1_62 mv_X1_say rfl ⟨Nat.le_of_ble_eq_true rfl, Nat.le_of_ble_eq_true rfl⟩ dX1_answerQueries_34 (lx_size hL) rfl hR hS g5 ⟨Nat.le_refl _, Nat.le_refl _⟩ (cat_le [] (Nat.le_of_ble_eq_true rfl)) (fun H locs hR hS => ?_)
        refine W_st (st2 := []) rfl ?_
        refine x_iinc (lv' := [(2, .inl ((x2 + 1))), (0, .inr x0), (1, .inl x1)]) C dX1_answerQueries_37 hL 2 rfl rfl (by decide) rfl (fun ls hL => ?_)
        refine lv_goto (tgt := 17) hx hb dX1_answerQueries_40 (by decide) ?_
        exact ih (lx_sub hL [1, 2, 0] rfl) hR hS hd
set_option maxHeartbeats 4000000 in
set_option maxRecDepth 100000 in
theorem k_X1_answerQueries (C : Cx p s m args meth c RX1 cX1_answerQueries 3 none b0 D E) {GG : Hp} {x0 : Nat} {G : Hp} {ls : Array Slot} {H : Heap} {locs : List Loc} : lx ls 3 [(0, .inr x0)] → Rp b0 D E G H → SS b0 s H locs → d_X1_answerQueries x0 G = some GG → W p l e (rmd 3 (0) (0)) s m args below meth c H locs (0) (0) (MQ below (CQ b0 D E none GG) args s (0) (0) (fun q => b0 ≤ q)) (F0 m 0 ls []) := by
  intro hL hR hS hd
  unfold d_X1_answerQueries at hd
  have hx := C.1
  have hb := C.2.1
  refine x_aload_n C dX1_answerQueries_0 hL 0 rfl ?_
  obtain ⟨g1, hd⟩ := gd_ex hd
  refine r_geti (ci := 1) (k := 4) C fl_X1_19 rfl dX1_answerQueries_1 hR g1 ?_
  refine x_aload_n C dX1_answerQueries_4 hL 0 rfl ?_
  refine r_geti (ci := 1) (k := 3) C fl_X1_15 rfl dX1_answerQueries_5 hR g1 ?_
  refine lv_iand hx hb dX1_answerQueries_8 ?_
  obtain ⟨v2, ev2, hd⟩ := bd_ex hd
  rw [← ev2]
  refine x_istore_n (lv' := [(1, .inl v2), (0, .inr x0)]) C dX1_answerQueries_9 hL (by decide) rfl (fun ls hL => ?_)
  refine x_aload_n C dX1_answerQueries_10 hL 1 rfl ?_
  refine lv_iconst (v := 0) hx hb dX1_answerQueries_11 (by decide) ?_
  obtain ⟨G3, eG3, hd⟩ := bd_ex hd
  refine r_puti (ci := 1) (k := 4) C fl_X1_19 rfl (Or.inl rfl) dX1_answerQueries_12 hR hS g1 (fun H locs hR hS => ?_)
  replace hR : Rp b0 D E G3 H := by rw [eG3]; exact hR
  refine lv_iconst (v := 0) hx hb dX1_answerQueries_15 (by decide) ?_
  refine x_istore_n (lv' := [(2, .inl 0), (1, .inl v2), (0, .inr x0)]) C dX1_answerQueries_16 hL (by decide) rfl (fun ls hL => ?_)
  exact k_X1_answerQueries_17 C FU (lx_sub hL [2, 1, 0] rfl) hR hS hd
end
set_option maxHeartbeats 4000000 in
set_option maxRecDepth 100000 in
theorem ct_X1_answerQueries {l : Launch} {b0 : Nat} {D : va_G} {E : Nat → ClassId} {G : Hp} {a0 : Nat} {GG : Hp} (hd : d_X1_answerQueries a0 G = some GG) : CT l yX1_answerQueries cX1_answerQueries 3 none 3 0 0 b0 D E [rv a0] G none GG := by
  refine CT_of (by decide +kernel) ?_
  intro p e s m below meth c C hnm hR
  refine r_entry [.inr a0] (n := 3) (Nat.le_of_ble_eq_true rfl) (lv := [(0, .inr a0)]) rfl (fun ls hL => ?_)
  exact k_X1_answerQueries C (lx_sub hL [0] rfl) hR ⟨fun _ _ => rfl, fun _ h => by cases h⟩ hd

/-! java/util/Arrays.fill([II)V -/
theorem dJ7_fill_53178_0 : decode cJ7_fill_53178 0 = .ok (.iconst 0, 1) := by decide +kernel
theorem dJ7_fill_53178_1 : decode cJ7_fill_53178 1 = .ok (.istore_n 2, 1) := by decide +kernel
theorem dJ7_fill_53178_2 : decode cJ7_fill_53178 2 = .ok (.aload_n 0, 1) := by decide +kernel
theorem dJ7_fill_53178_3 : decode cJ7_fill_53178 3 = .ok (.arraylength, 1) := by decide +kernel
theorem dJ7_fill_53178_4 : decode cJ7_fill_53178 4 = .ok (.istore_n 3, 1) := by decide +kernel
theorem dJ7_fill_53178_5 : decode cJ7_fill_53178 5 = .ok (.iload_n 2, 1) := by decide +kernel
theorem dJ7_fill_53178_6 : decode cJ7_fill_53178 6 = .ok (.iload_n 3, 1) := by decide +kernel
theorem dJ7_fill_53178_7 : decode cJ7_fill_53178 7 = .ok (.if_icmp .ge 13, 3) := by decide +kernel
theorem dJ7_fill_53178_10 : decode cJ7_fill_53178 10 = .ok (.aload_n 0, 1) := by decide +kernel
theorem dJ7_fill_53178_11 : decode cJ7_fill_53178 11 = .ok (.iload_n 2, 1) := by decide +kernel
theorem dJ7_fill_53178_12 : decode cJ7_fill_53178 12 = .ok (.iload_n 1, 1) := by decide +kernel
theorem dJ7_fill_53178_13 : decode cJ7_fill_53178 13 = .ok (.iastore, 1) := by decide +kernel
theorem dJ7_fill_53178_14 : decode cJ7_fill_53178 14 = .ok (.iinc 2 1, 3) := by decide +kernel
theorem dJ7_fill_53178_17 : decode cJ7_fill_53178 17 = .ok (.goto (-12), 3) := by decide +kernel
theorem dJ7_fill_53178_20 : decode cJ7_fill_53178 20 = .ok (.return_, 1) := by decide +kernel
def d_J7_fill_53178_5 : Nat → Nat → Int32 → Int32 → Int32 → Hp → Option (Hp)
  | 0, _, _, _, _, _ => none
  | n_ + 1, x0, x1, x2, x3, G =>
    if x3 ≤ x2 then
      some G
    else
      gd (hc G x0 = 11 ∧ ix x2 (hl G x0)) <|
      bd (sI G x0 x2.toNatClampNeg x1) fun G3 =>
      d_J7_fill_53178_5 n_ x0 x1 ((x2 + 1)) x3 G3
def d_J7_fill_53178 (x0 : Nat) (x1 : Int32) (G : Hp) : Option (Hp) :=
  gd (hc G x0 = 11) <|
  d_J7_fill_53178_5 FU x0 x1 0 ((nI (hl G x0))) G
section
variable {p : Program} {l : Launch} {e : Env} {s : State} {m : MethodId} {args : Array Value} {below : List Frame} {meth : Method} {c : Code} {b0 : Nat} {D : va_G} {E : Nat → ClassId}
set_option maxHeartbeats 4000000 in
set_option maxRecDepth 100000 in
theorem k_J7_fill_53178_5 (C : Cx p s m args meth c RJ7 cJ7_fill_53178 4 none b0 D E) {GG : Hp} : ∀ (n_ : Nat) {x0 : Nat} {x1 : Int32} {x2 : Int32} {x3 : Int32} {G : Hp} {ls : Array Slot} {H : Heap} {locs : List Loc}, lx ls 4 [(0, .inr x0), (1, .inl x1), (2, .inl x2), (3, .inl x3)] → Rp b0 D E G H → SS b0 s H locs → d_J7_fill_53178_5 n_ x0 x1 x2 x3 G = some GG → W p l e (rmd 0 (0) (0)) s m args below meth c H locs (0) (0) (MQ below (CQ b0 D E none GG) args s (0) (0) (fun q => b0 ≤ q)) (F0 m 5 ls []) := by
  intro n_
  induction n_ with
  | zero =>
    intro x0 x1 x2 x3 G ls H locs hL hR hS hd
    cases (show (none : Option _) = some _ from hd)
  | succ n_ ih =>
    intro x0 x1 x2 x3 G ls H locs hL hR hS hd
    rw [d_J7_fill_53178_5.eq_2] at hd
    have hx := C.1
    have hb := C.2.1
    refine x_iload_n C dJ7_fill_53178_5 hL 2 rfl ?_
    refine x_iload_n C dJ7_fill_53178_6 hL 3 rfl ?_
    refine lv_icmp_ge (tgt := 20) hx hb dJ7_fill_53178_7 (by decide) (fun c1 => ?_) (fun c1 => ?_)
    · rw [if_pos c1] at hd
      cases hd
      exact r_vret C dJ7_fill_53178_20 hR hS
    · rw [if_neg c1] at hd
      refine x_aload_n C dJ7_fill_53178_10 hL 0 rfl ?_
      refine x_iload_n C dJ7_fill_53178_11 hL 2 rfl ?_
      refine x_iload_n C dJ7_fill_53178_12 hL 1 rfl ?_
      obtain ⟨g2, hd⟩ := gd_ex hd
      obtain ⟨G3, eG3, hd⟩ := bd_ex hd
      refine r_iast C dJ7_fill_53178_13 hR hS g2 (fun H locs hR hS => ?_)
      replace hR : Rp b0 D E G3 H := by rw [eG3]; exact hR
      refine x_iinc (lv' := [(2, .inl ((x2 + 1))), (0, .inr x0), (1, .inl x1), (3, .inl x3)]) C dJ7_fill_53178_14 hL 2 rfl rfl (by decide) rfl (fun ls hL => ?_)
      refine lv_goto (tgt := 5) hx hb dJ7_fill_53178_17 (by decide) ?_
      exact ih (lx_sub hL [1, 2, 0, 3] rfl) hR hS hd
set_option maxHeartbeats 4000000 in
set_option maxRecDepth 100000 in
theorem k_J7_fill_53178 (C : Cx p s m args meth c RJ7 cJ7_fill_53178 4 none b0 D E) {GG : Hp} {x0 : Nat} {x1 : Int32} {G : Hp} {ls : Array Slot} {H : Heap} {locs : List Loc} : lx ls 4 [(0, .inr x0), (1, .inl x1)] → Rp b0 D E G H → SS b0 s H locs → d_J7_fill_53178 x0 x1 G = some GG → W p l e (rmd 0 (0) (0)) s m args below meth c H locs (0) (0) (MQ below (CQ b0 D E none GG) args s (0) (0) (fun q => b0 ≤ q)) (F0 m 0 ls []) := by
  intro hL hR hS hd
  unfold d_J7_fill_53178 at hd
  have hx := C.1
  have hb := C.2.1
  refine lv_iconst (v := 0) hx hb dJ7_fill_53178_0 (by decide) ?_
  refine x_istore_n (lv' := [(2, .inl 0), (0, .inr x0), (1, .inl x1)]) C dJ7_fill_53178_1 hL (by decide) rfl (fun ls hL => ?_)
  refine x_aload_n C dJ7_fill_53178_2 hL 1 rfl ?_
  obtain ⟨g1, hd⟩ := gd_ex hd
  refine r_alen C dJ7_fill_53178_3 hR (Or.inl g1) ?_
  refine x_istore_n (lv' := [(3, .inl ((nI (hl G x0)))), (2, .inl 0), (0, .inr x0), (1, .inl x1)]) C dJ7_fill_53178_4 hL (by decide) rfl (fun ls hL => ?_)
  exact k_J7_fill_53178_5 C FU (lx_sub hL [2, 3, 1, 0] rfl) hR hS hd
end
set_option maxHeartbeats 4000000 in
set_option maxRecDepth 100000 in
theorem ct_J7_fill_53178 {l : Launch} {b0 : Nat} {D : va_G} {E : Nat → ClassId} {G : Hp} {a0 : Nat} {a1 : Int32} {GG : Hp} (hd : d_J7_fill_53178 a0 a1 G = some GG) : CT l yJ7_fill_53178 cJ7_fill_53178 4 none 0 0 0 b0 D E [rv a0, .int a1] G none GG := by
  refine CT_of (by decide +kernel) ?_
  intro p e s m below meth c C hnm hR
  refine r_entry [.inr a0, .inl a1] (n := 4) (Nat.le_of_ble_eq_true rfl) (lv := [(0, .inr a0), (1, .inl a1)]) rfl (fun ls hL => ?_)
  exact k_J7_fill_53178 C (lx_sub hL [0, 1] rfl) hR ⟨fun _ _ => rfl, fun _ h => by cases h⟩ hd

/-! GroveWorks$Ways.<init>(I)V makes -/
theorem dX6_init_0 : decode cX6_init 0 = .ok (.aload_n 0, 1) := by decide +kernel
theorem dX6_init_1 : decode cX6_init 1 = .ok (.invokespecial 3, 3) := by decide +kernel
theorem dX6_init_4 : decode cX6_init 4 = .ok (.aload_n 0, 1) := by decide +kernel
theorem dX6_init_5 : decode cX6_init 5 = .ok (.bipush 40, 2) := by decide +kernel
theorem dX6_init_7 : decode cX6_init 7 = .ok (.newarray .int, 2) := by decide +kernel
theorem dX6_init_9 : decode cX6_init 9 = .ok (.putfield 9, 3) := by decide +kernel
theorem dX6_init_12 : decode cX6_init 12 = .ok (.aload_n 0, 1) := by decide +kernel
theorem dX6_init_13 : decode cX6_init 13 = .ok (.bipush 40, 2) := by decide +kernel
theorem dX6_init_15 : decode cX6_init 15 = .ok (.newarray .int, 2) := by decide +kernel
theorem dX6_init_17 : decode cX6_init 17 = .ok (.putfield 15, 3) := by decide +kernel
theorem dX6_init_20 : decode cX6_init 20 = .ok (.aload_n 0, 1) := by decide +kernel
theorem dX6_init_21 : decode cX6_init 21 = .ok (.iconst 1, 1) := by decide +kernel
theorem dX6_init_22 : decode cX6_init 22 = .ok (.putfield 18, 3) := by decide +kernel
theorem dX6_init_25 : decode cX6_init 25 = .ok (.aload_n 0, 1) := by decide +kernel
theorem dX6_init_26 : decode cX6_init 26 = .ok (.iload_n 1, 1) := by decide +kernel
theorem dX6_init_27 : decode cX6_init 27 = .ok (.putfield 22, 3) := by decide +kernel
theorem dX6_init_30 : decode cX6_init 30 = .ok (.aload_n 0, 1) := by decide +kernel
theorem dX6_init_31 : decode cX6_init 31 = .ok (.getfield 9, 3) := by decide +kernel
theorem dX6_init_34 : decode cX6_init 34 = .ok (.iconst (-1), 1) := by decide +kernel
theorem dX6_init_35 : decode cX6_init 35 = .ok (.invokestatic 26, 3) := by decide +kernel
theorem dX6_init_38 : decode cX6_init 38 = .ok (.aload_n 0, 1) := by decide +kernel
theorem dX6_init_39 : decode cX6_init 39 = .ok (.iload_n 1, 1) := by decide +kernel
theorem dX6_init_40 : decode cX6_init 40 = .ok (.bipush 26, 2) := by decide +kernel
theorem dX6_init_42 : decode cX6_init 42 = .ok (.imul, 1) := by decide +kernel
theorem dX6_init_43 : decode cX6_init 43 = .ok (.newarray .int, 2) := by decide +kernel
theorem dX6_init_45 : decode cX6_init 45 = .ok (.putfield 32, 3) := by decide +kernel
theorem dX6_init_48 : decode cX6_init 48 = .ok (.aload_n 0, 1) := by decide +kernel
theorem dX6_init_49 : decode cX6_init 49 = .ok (.iload_n 1, 1) := by decide +kernel
theorem dX6_init_50 : decode cX6_init 50 = .ok (.bipush 26, 2) := by decide +kernel
theorem dX6_init_52 : decode cX6_init 52 = .ok (.imul, 1) := by decide +kernel
theorem dX6_init_53 : decode cX6_init 53 = .ok (.newarray .int, 2) := by decide +kernel
theorem dX6_init_55 : decode cX6_init 55 = .ok (.putfield 35, 3) := by decide +kernel
theorem dX6_init_58 : decode cX6_init 58 = .ok (.aload_n 0, 1) := by decide +kernel
theorem dX6_init_59 : decode cX6_init 59 = .ok (.iload_n 1, 1) := by decide +kernel
theorem dX6_init_60 : decode cX6_init 60 = .ok (.bipush 26, 2) := by decide +kernel
theorem dX6_init_62 : decode cX6_init 62 = .ok (.imul, 1) := by decide +kernel
theorem dX6_init_63 : decode cX6_init 63 = .ok (.newarray .int, 2) := by decide +kernel
theorem dX6_init_65 : decode cX6_init 65 = .ok (.putfield 38, 3) := by decide +kernel
theorem dX6_init_68 : decode cX6_init 68 = .ok (.return_, 1) := by decide +kernel
def d_X6_init (x0 : Nat) (x1 : Int32) (G : Hp) : Option (Hp) :=
  mV G <|
  gd (hc G x0 = 7) <|
  bd (hn G) fun q2 =>
  bd (nC G 11 (40 : Int32).toNatClampNeg (40 : Int32).toNatClampNeg) fun G3 =>
  mV G3 <|
  gd (hc G3 x0 = 7) <|
  bd (sR G3 x0 1 q2) fun G5 =>
  bd (hn G5) fun q6 =>
  bd (nC G5 11 (40 : Int32).toNatClampNeg (40 : Int32).toNatClampNeg) fun G7 =>
  mV G7 <|
  gd (hc G7 x0 = 7) <|
  bd (sR G7 x0 2 q6) fun G9 =>
  gd (hc G9 x0 = 7) <|
  bd (sI G9 x0 6 1) fun G11 =>
  gd (hc G11 x0 = 7) <|
  bd (sI G11 x0 0 x1) fun G13 =>
  gd (hc G13 x0 = 7) <|
  bo (d_J7_fill_53178 ((hr G13 x0 1)) (-1) G13) fun G16 =>
  gd (hn G16 = hn G13 ∧ hs G16 = hs G13) <|
  bd (hn G16) fun q18 =>
  gd (0 ≤ ((x1 * 26)).toInt ∧ ((x1 * 26)).toInt ≤ 65536) <|
  bd (nC G16 11 ((x1 * 26)).toNatClampNeg ((x1 * 26)).toNatClampNeg) fun G20 =>
  mV G20 <|
  gd (hc G20 x0 = 7) <|
  bd (sR G20 x0 3 q18) fun G22 =>
  bd (hn G22) fun q23 =>
  gd (0 ≤ ((x1 * 26)).toInt ∧ ((x1 * 26)).toInt ≤ 65536) <|
  bd (nC G22 11 ((x1 * 26)).toNatClampNeg ((x1 * 26)).toNatClampNeg) fun G25 =>
  mV G25 <|
  gd (hc G25 x0 = 7) <|
  bd (sR G25 x0 4 q23) fun G27 =>
  bd (hn G27) fun q28 =>
  gd (0 ≤ ((x1 * 26)).toInt ∧ ((x1 * 26)).toInt ≤ 65536) <|
  bd (nC G27 11 ((x1 * 26)).toNatClampNeg ((x1 * 26)).toNatClampNeg) fun G30 =>
  mV G30 <|
  gd (hc G30 x0 = 7) <|
  bd (sR G30 x0 5 q28) fun G32 =>
  some G32
section
variable {p : Program} {l : Launch} {e : Env} {s : State} {m : MethodId} {args : Array Value} {below : List Frame} {meth : Method} {c : Code} {b0 : Nat} {D : va_G} {E : Nat → ClassId}
set_option maxHeartbeats 4000000 in
set_option maxRecDepth 100000 in
theorem k_X6_init (C : Cx p s m args meth c RX6 cX6_init 2 none b0 D E) (hnm : meth.name = "<init>") {GG : Hp} {n0 s0 : Nat} {x0 : Nat} {x1 : Int32} {G : Hp} {ls : Array Slot} {H : Heap} {locs : List Loc} : lx ls 2 [(0, .inr x0), (1, .inl x1)] → Rp b0 D E G H → SS b0 s H locs → b0 ≤ hn G → (n0 ≤ hn G ∧ s0 ≤ hs G) → d_X6_init x0 x1 G = some GG → W p l e (rmd 1 (hn GG - n0) (hs GG - s0)) s m args below meth c H locs (hn G - n0) (hs G - s0) (MQ below (CQ b0 D E none GG) args s (hn GG - n0) (hs GG - s0) (fun q => b0 ≤ q)) (F0 m 0 ls []) := by
  intro hL hR hS hB hZ hd
  unfold d_X6_init at hd
  obtain ⟨hM, hd⟩ := mV_ex hd
  have hx := C.1
  have hb := C.2.1
  refine x_aload_n C dX6_init_0 hL 0 rfl ?_
  obtain ⟨g1, hd⟩ := gd_ex hd
  refine r_objI (a := x0) C ml_X6_3 dX6_init_1 (lx_size hL) hR (by rw [g1]; decide) ⟨Nat.le_of_ble_eq_true rfl, Nat.le_of_ble_eq_true rfl⟩ (cat_le [] (Nat.le_of_ble_eq_true rfl)) ?_
  refine x_aload_n C dX6_init_4 hL 0 rfl ?_
  refine lv_bipush (v := 40) hx hb dX6_init_5 (by decide) ?_
  obtain ⟨q2, eq2, hd⟩ := bd_ex hd
  obtain ⟨G3, eG3, hd⟩ := bd_ex hd
  obtain ⟨hM, hd⟩ := mV_ex hd
  have hm1 : hn G3 = hn G + 1 ∧ hs G3 = hs G + (40 : Int32).toNatClampNeg := by rw [eG3]; exact ⟨rfl, rfl⟩
  refine r_newa (t := 11) C (Or.inl ⟨rfl, rfl⟩) dX6_init_7 hR hS hB hZ (by decide) ⟨by show hn G + 1 - n0 ≤ hn GG - n0; omega, by show hs G + (40 : Int32).toNatClampNeg - s0 ≤ hs GG - s0; omega⟩ (fun H locs hR hS => ?_)
  rw [← eq2]
  refine W_cs (c2 := hn G3 - n0) (s2 := hs G3 - s0) (by rw [eG3] <;> rfl) (by rw [eG3] <;> rfl) ?_
  replace hR : Rp b0 D E G3 H := by rw [eG3]; exact hR
  replace hB : b0 ≤ hn G3 := by omega
  replace hZ : n0 ≤ hn G3 ∧ s0 ≤ hs G3 := by omega
  obtain ⟨g4, hd⟩ := gd_ex hd
  obtain ⟨G5, eG5, hd⟩ := bd_ex hd
  refine r_putr (ci := 6) (k := 1) C fl_X6_9 (Or.inr ⟨_, rfl⟩) (Or.inr ⟨rfl, hnm, rfl⟩) dX6_init_9 hR hS g4 (fun H locs hR hS => ?_)
  replace hR : Rp b0 D E G5 H := by rw [eG5]; exact hR
  refine W_cs (c2 := hn G5 - n0) (s2 := hs G5 - s0) (by rw [eG5] <;> rfl) (by rw [eG5] <;> rfl) ?_
  replace hB : b0 ≤ hn G5 := by rw [eG5]; exact hB
  replace hZ : n0 ≤ hn G5 ∧ s0 ≤ hs G5 := by rw [eG5]; exact hZ
  replace hM : hn G5 ≤ hn GG ∧ hs G5 ≤ hs GG := by rw [eG5]; exact hM
  refine x_aload_n C dX6_init_12 hL 0 rfl ?_
  refine lv_bipush (v := 40) hx hb dX6_init_13 (by decide) ?_
  obtain ⟨q6, eq6, hd⟩ := bd_ex hd
  obtain ⟨G7, eG7, hd⟩ := bd_ex hd
  obtain ⟨hM, hd⟩ := mV_ex hd
  have hm1 : hn G7 = hn G5 + 1 ∧ hs G7 = hs G5 + (40 : Int32).toNatClampNeg := by rw [eG7]; exact ⟨rfl, rfl⟩
  refine r_newa (t := 11) C (Or.inl ⟨rfl, rfl⟩) dX6_init_15 hR hS hB hZ (by decide) ⟨by show hn G5 + 1 - n0 ≤ hn GG - n0; omega, by show hs G5 + (40 : Int32).toNatClampNeg - s0 ≤ hs GG - s0; omega⟩ (fun H locs hR hS => ?_)
  rw [← eq6]
  refine W_cs (c2 := hn G7 - n0) (s2 := hs G7 - s0) (by rw [eG7] <;> rfl) (by rw [eG7] <;> rfl) ?_
  replace hR : Rp b0 D E G7 H := by rw [eG7]; exact hR
  replace hB : b0 ≤ hn G7 := by omega
  replace hZ : n0 ≤ hn G7 ∧ s0 ≤ hs G7 := by omega
  obtain ⟨g8, hd⟩ := gd_ex hd
  obtain ⟨G9, eG9, hd⟩ := bd_ex hd
  refine r_putr (ci := 6) (k := 2) C fl_X6_15 (Or.inr ⟨_, rfl⟩) (Or.inr ⟨rfl, hnm, rfl⟩) dX6_init_17 hR hS g8 (fun H locs hR hS => ?_)
  replace hR : Rp b0 D E G9 H := by rw [eG9]; exact hR
  refine W_cs (c2 := hn G9 - n0) (s2 := hs G9 - s0) (by rw [eG9] <;> rfl) (by rw [eG9] <;> rfl) ?_
  replace hB : b0 ≤ hn G9 := by rw [eG9]; exact hB
  replace hZ : n0 ≤ hn G9 ∧ s0 ≤ hs G9 := by rw [eG9]; exact hZ
  replace hM : hn G9 ≤ hn GG ∧ hs G9 ≤ hs GG := by rw [eG9]; exact hM
  refine x_aload_n C dX6_init_20 hL 0 rfl ?_
  refine lv_iconst (v := 1) hx hb dX6_init_21 (by decide) ?_
  obtain ⟨g10, hd⟩ := gd_ex hd
  obtain ⟨G11, eG11, hd⟩ := bd_ex hd
  refine r_putz (ci := 6) (k := 6) C fl_X6_18 rfl (Or.inl rfl) (by decide) dX6_init_22 hR hS g10 (fun H locs hR hS => ?_)
  replace hR : Rp b0 D E G11 H := by rw [eG11]; exact hR
  refine W_cs (c2 := hn G11 - n0) (s2 := hs G11 - s0) (by rw [eG11] <;> rfl) (by rw [eG11] <;> rfl) ?_
  replace hB : b0 ≤ hn G11 := by rw [eG11]; exact hB
  replace hZ : n0 ≤ hn G11 ∧ s0 ≤ hs G11 := by rw [eG11]; exact hZ
  replace hM : hn G11 ≤ hn GG ∧ hs G11 ≤ hs GG := by rw [eG11]; exact hM
  refine x_aload_n C dX6_init_25 hL 0 rfl ?_
  refine x_iload_n C dX6_init_26 hL 1 rfl ?_
  obtain ⟨g12, hd⟩ := gd_ex hd
  obtain ⟨G13, eG13, hd⟩ := bd_ex hd
  refine r_puti (ci := 6) (k := 0) C fl_X6_22 rfl (Or.inr ⟨rfl, hnm, rfl⟩) dX6_init_27 hR hS g12 (fun H locs hR hS => ?_)
  replace hR : Rp b0 D E G13 H := by rw [eG13]; exact hR
  refine W_cs (c2 := hn G13 - n0) (s2 := hs G13 - s0) (by rw [eG13] <;> rfl) (by rw [eG13] <;> rfl) ?_
  replace hB : b0 ≤ hn G13 := by rw [eG13]; exact hB
  replace hZ : n0 ≤ hn G13 ∧ s0 ≤ hs G13 := by rw [eG13]; exact hZ
  replace hM : hn G13 ≤ hn GG ∧ hs G13 ≤ hs GG := by rw [eG13]; exact hM
  refine x_aload_n C dX6_init_30 hL 0 rfl ?_
  obtain ⟨g14, hd⟩ := gd_ex hd
  refine r_getr (ci := 6) (k := 1) C fl_X6_9 rfl dX6_init_31 hR g14 ?_
  refine lv_iconst (v := (-1)) hx hb dX6_init_34 (by decide) ?_
  obtain ⟨G16, h15, hd⟩ := bo_ex hd
  obtain ⟨g17, hd⟩ := gd_ex hd
  refine r_callS (As := [rv ((hr G13 x0 1)), .int (-1)]) C (ct_J7_fill_53178 h15) mf_J7_fill_53178 ml_X6_26 ms_J7_fill_53178 rfl ⟨Nat.le_of_ble_eq_true rfl, Nat.le_of_ble_eq_true rfl⟩ dX6_init_35 (lx_size hL) rfl hR hS ⟨by show hn G13 - n0 ≤ hn GG - n0; omega, by show hs G13 - s0 ≤ hs GG - s0; omega⟩ (cat_le [] (Nat.le_of_ble_eq_true rfl)) (fun H locs hR hS => ?_)
  refine W_st (st2 := []) rfl ?_
  refine W_cs (c2 := hn G16 - n0) (s2 := hs G16 - s0) (by first | rfl | omega) (by first | rfl | omega) ?_
  replace hB : b0 ≤ hn G16 := by omega
  replace hZ : n0 ≤ hn G16 ∧ s0 ≤ hs G16 := by omega
  replace hM : hn G16 ≤ hn GG ∧ hs G16 ≤ hs GG := by omega
  refine x_aload_n C dX6_init_38 hL 0 rfl ?_
  refine x_iload_n C dX6_init_39 hL 1 rfl ?_
  refine lv_bipush (v := 26) hx hb dX6_init_40 (by decide) ?_
  refine lv_imul hx hb dX6_init_42 ?_
  obtain ⟨q18, eq18, hd⟩ := bd_ex hd
  obtain ⟨g19, hd⟩ := gd_ex hd
  obtain ⟨G20, eG20, hd⟩ := bd_ex hd
  obtain ⟨hM, hd⟩ := mV_ex hd
  have hm1 : hn G20 = hn G16 + 1 ∧ hs G20 = hs G16 + ((x1 * 26)).toNatClampNeg := by rw [eG20]; exact ⟨rfl, rfl⟩
  refine r_newa (t := 11) C (Or.inl ⟨rfl, rfl⟩) dX6_init_43 hR hS hB hZ g19 ⟨by show hn G16 + 1 - n0 ≤ hn GG - n0; omega, by show hs G16 + ((x1 * 26)).toNatClampNeg - s0 ≤ hs GG - s0; omega⟩ (fun H locs hR hS => ?_)
  rw [← eq18]
  refine W_cs (c2 := hn G20 - n0) (s2 := hs G20 - s0) (by rw [eG20] <;> rfl) (by rw [eG20] <;> rfl) ?_
  replace hR : Rp b0 D E G20 H := by rw [eG20]; exact hR
  replace hB : b0 ≤ hn G20 := by omega
  replace hZ : n0 ≤ hn G20 ∧ s0 ≤ hs G20 := by omega
  obtain ⟨g21, hd⟩ := gd_ex hd
  obtain ⟨G22, eG22, hd⟩ := bd_ex hd
  refine r_putr (ci := 6) (k := 3) C fl_X6_32 (Or.inr ⟨_, rfl⟩) (Or.inr ⟨rfl, hnm, rfl⟩) dX6_init_45 hR hS g21 (fun H locs hR hS => ?_)
  replace hR : Rp b0 D E G22 H := by rw [eG22]; exact hR
  refine W_cs (c2 := hn G22 - n0) (s2 := hs G22 - s0) (by rw [eG22] <;> rfl) (by rw [eG22] <;> rfl) ?_
  replace hB : b0 ≤ hn G22 := by rw [eG22]; exact hB
  replace hZ : n0 ≤ hn G22 ∧ s0 ≤ hs G22 := by rw [eG22]; exact hZ
  replace hM : hn G22 ≤ hn GG ∧ hs G22 ≤ hs GG := by rw [eG22]; exact hM
  refine x_aload_n C dX6_init_48 hL 0 rfl ?_
  refine x_iload_n C dX6_init_49 hL 1 rfl ?_
  refine lv_bipush (v := 26) hx hb dX6_init_50 (by decide) ?_
  refine lv_imul hx hb dX6_init_52 ?_
  obtain ⟨q23, eq23, hd⟩ := bd_ex hd
  obtain ⟨g24, hd⟩ := gd_ex hd
  obtain ⟨G25, eG25, hd⟩ := bd_ex hd
  obtain ⟨hM, hd⟩ := mV_ex hd
  have hm1 : hn G25 = hn G22 + 1 ∧ hs G25 = hs G22 + ((x1 * 26)).toNatClampNeg := by rw [eG25]; exact ⟨rfl, rfl⟩
  refine r_newa (t := 11) C (Or.inl ⟨rfl, rfl⟩) dX6_init_53 hR hS hB hZ g24 ⟨by show hn G22 + 1 - n0 ≤ hn GG - n0; omega, by show hs G22 + ((x1 * 26)).toNatClampNeg - s0 ≤ hs GG - s0; omega⟩ (fun H locs hR hS => ?_)
  rw [← eq23]
  refine W_cs (c2 := hn G25 - n0) (s2 := hs G25 - s0) (by rw [eG25] <;> rfl) (by rw [eG25] <;> rfl) ?_
  replace hR : Rp b0 D E G25 H := by rw [eG25]; exact hR
  replace hB : b0 ≤ hn G25 := by omega
  replace hZ : n0 ≤ hn G25 ∧ s0 ≤ hs G25 := by omega
  obtain ⟨g26, hd⟩ := gd_ex hd
  obtain ⟨G27, eG27, hd⟩ := bd_ex hd
  refine r_putr (ci := 6) (k := 4) C fl_X6_35 (Or.inr ⟨_, rfl⟩) (Or.inr ⟨rfl, hnm, rfl⟩) dX6_init_55 hR hS g26 (fun H locs hR hS => ?_)
  replace hR : Rp b0 D E G27 H := by rw [eG27]; exact hR
  refine W_cs (c2 := hn G27 - n0) (s2 := hs G27 - s0) (by rw [eG27] <;> rfl) (by rw [eG27] <;> rfl) ?_
  replace hB : b0 ≤ hn G27 := by rw [eG27]; exact hB
  replace hZ : n0 ≤ hn G27 ∧ s0 ≤ hs G27 := by rw [eG27]; exact hZ
  replace hM : hn G27 ≤ hn GG ∧ hs G27 ≤ hs GG := by rw [eG27]; exact hM
  refine x_aload_n C dX6_init_58 hL 0 rfl ?_
  refine x_iload_n C dX6_init_59 hL 1 rfl ?_
  refine lv_bipush (v := 26) hx hb dX6_init_60 (by decide) ?_
  refine lv_imul hx hb dX6_init_62 ?_
  obtain ⟨q28, eq28, hd⟩ := bd_ex hd
  obtain ⟨g29, hd⟩ := gd_ex hd
  obtain ⟨G30, eG30, hd⟩ := bd_ex hd
  obtain ⟨hM, hd⟩ := mV_ex hd
  have hm1 : hn G30 = hn G27 + 1 ∧ hs G30 = hs G27 + ((x1 * 26)).toNatClampNeg := by rw [eG30]; exact ⟨rfl, rfl⟩
  refine r_newa (t := 11) C (Or.inl ⟨rfl, rfl⟩) dX6_init_63 hR hS hB hZ g29 ⟨by show hn G27 + 1 - n0 ≤ hn GG - n0; omega, by show hs G27 + ((x1 * 26)).toNatClampNeg - s0 ≤ hs GG - s0; omega⟩ (fun H locs hR hS => ?_)
  rw [← eq28]
  refine W_cs (c2 := hn G30 - n0) (s2 := hs G30 - s0) (by rw [eG30] <;> rfl) (by rw [eG30] <;> rfl) ?_
  replace hR : Rp b0 D E G30 H := by rw [eG30]; exact hR
  replace hB : b0 ≤ hn G30 := by omega
  replace hZ : n0 ≤ hn G30 ∧ s0 ≤ hs G30 := by omega
  obtain ⟨g31, hd⟩ := gd_ex hd
  obtain ⟨G32, eG32, hd⟩ := bd_ex hd
  refine r_putr (ci := 6) (k := 5) C fl_X6_38 (Or.inr ⟨_, rfl⟩) (Or.inr ⟨rfl, hnm, rfl⟩) dX6_init_65 hR hS g31 (fun H locs hR hS => ?_)
  replace hR : Rp b0 D E G32 H := by rw [eG32]; exact hR
  refine W_cs (c2 := hn G32 - n0) (s2 := hs G32 - s0) (by rw [eG32] <;> rfl) (by rw [eG32] <;> rfl) ?_
  replace hB : b0 ≤ hn G32 := by rw [eG32]; exact hB
  replace hZ : n0 ≤ hn G32 ∧ s0 ≤ hs G32 := by rw [eG32]; exact hZ
  replace hM : hn G32 ≤ hn GG ∧ hs G32 ≤ hs GG := by rw [eG32]; exact hM
  cases hd
  exact r_vret C dX6_init_68 hR hS
end
set_option maxHeartbeats 4000000 in
set_option maxRecDepth 100000 in
theorem ct_X6_init {l : Launch} {b0 : Nat} {D : va_G} {E : Nat → ClassId} {G : Hp} {a0 : Nat} {a1 : Int32} {GG : Hp} (hB : b0 ≤ hn G) (hd : d_X6_init a0 a1 G = some GG) : CT l yX6_init cX6_init 2 none 1 (hn GG - hn G) (hs GG - hs G) b0 D E [rv a0, .int a1] G none GG := by
  refine CT_of (by decide +kernel) ?_
  intro p e s m below meth c C hnm hR
  refine r_entry [.inr a0, .inl a1] (n := 2) (Nat.le_of_ble_eq_true rfl) (lv := [(0, .inr a0), (1, .inl a1)]) rfl (fun ls hL => ?_)
  have k := k_X6_init (n0 := hn G) (s0 := hs G) (l := l) (e := e) (below := below) (H := s.heap) (locs := []) C hnm (lx_sub hL [0, 1] rfl) hR ⟨fun _ _ => rfl, fun _ h => by cases h⟩ hB ⟨Nat.le_refl _, Nat.le_refl _⟩ hd
  rw [Nat.sub_self, Nat.sub_self] at k
  exact k

/-! GroveWorks$Wire.<init>(I)V makes -/
theorem dX7_init_0 : decode cX7_init 0 = .ok (.aload_n 0, 1) := by decide +kernel
theorem dX7_init_1 : decode cX7_init 1 = .ok (.invokespecial 3, 3) := by decide +kernel
theorem dX7_init_4 : decode cX7_init 4 = .ok (.aload_n 0, 1) := by decide +kernel
theorem dX7_init_5 : decode cX7_init 5 = .ok (.bipush 10, 2) := by decide +kernel
theorem dX7_init_7 : decode cX7_init 7 = .ok (.newarray .int, 2) := by decide +kernel
theorem dX7_init_9 : decode cX7_init 9 = .ok (.putfield 9, 3) := by decide +kernel
theorem dX7_init_12 : decode cX7_init 12 = .ok (.aload_n 0, 1) := by decide +kernel
theorem dX7_init_13 : decode cX7_init 13 = .ok (.iconst 1, 1) := by decide +kernel
theorem dX7_init_14 : decode cX7_init 14 = .ok (.putfield 15, 3) := by decide +kernel
theorem dX7_init_17 : decode cX7_init 17 = .ok (.aload_n 0, 1) := by decide +kernel
theorem dX7_init_18 : decode cX7_init 18 = .ok (.bipush 40, 2) := by decide +kernel
theorem dX7_init_20 : decode cX7_init 20 = .ok (.anewarray 19, 3) := by decide +kernel
theorem dX7_init_23 : decode cX7_init 23 = .ok (.putfield 21, 3) := by decide +kernel
theorem dX7_init_26 : decode cX7_init 26 = .ok (.aload_n 0, 1) := by decide +kernel
theorem dX7_init_27 : decode cX7_init 27 = .ok (.bipush 40, 2) := by decide +kernel
theorem dX7_init_29 : decode cX7_init 29 = .ok (.anewarray 19, 3) := by decide +kernel
theorem dX7_init_32 : decode cX7_init 32 = .ok (.putfield 25, 3) := by decide +kernel
theorem dX7_init_35 : decode cX7_init 35 = .ok (.aload_n 0, 1) := by decide +kernel
theorem dX7_init_36 : decode cX7_init 36 = .ok (.iconst 0, 1) := by decide +kernel
theorem dX7_init_37 : decode cX7_init 37 = .ok (.putfield 28, 3) := by decide +kernel
theorem dX7_init_40 : decode cX7_init 40 = .ok (.aload_n 0, 1) := by decide +kernel
theorem dX7_init_41 : decode cX7_init 41 = .ok (.iconst 0, 1) := by decide +kernel
theorem dX7_init_42 : decode cX7_init 42 = .ok (.putfield 32, 3) := by decide +kernel
theorem dX7_init_45 : decode cX7_init 45 = .ok (.aload_n 0, 1) := by decide +kernel
theorem dX7_init_46 : decode cX7_init 46 = .ok (.iconst 0, 1) := by decide +kernel
theorem dX7_init_47 : decode cX7_init 47 = .ok (.putfield 35, 3) := by decide +kernel
theorem dX7_init_50 : decode cX7_init 50 = .ok (.aload_n 0, 1) := by decide +kernel
theorem dX7_init_51 : decode cX7_init 51 = .ok (.iconst 0, 1) := by decide +kernel
theorem dX7_init_52 : decode cX7_init 52 = .ok (.putfield 38, 3) := by decide +kernel
theorem dX7_init_55 : decode cX7_init 55 = .ok (.aload_n 0, 1) := by decide +kernel
theorem dX7_init_56 : decode cX7_init 56 = .ok (.iconst 0, 1) := by decide +kernel
theorem dX7_init_57 : decode cX7_init 57 = .ok (.putfield 41, 3) := by decide +kernel
theorem dX7_init_60 : decode cX7_init 60 = .ok (.aload_n 0, 1) := by decide +kernel
theorem dX7_init_61 : decode cX7_init 61 = .ok (.iconst 0, 1) := by decide +kernel
theorem dX7_init_62 : decode cX7_init 62 = .ok (.putfield 44, 3) := by decide +kernel
theorem dX7_init_65 : decode cX7_init 65 = .ok (.aload_n 0, 1) := by decide +kernel
theorem dX7_init_66 : decode cX7_init 66 = .ok (.iconst 0, 1) := by decide +kernel
theorem dX7_init_67 : decode cX7_init 67 = .ok (.putfield 47, 3) := by decide +kernel
theorem dX7_init_70 : decode cX7_init 70 = .ok (.aload_n 0, 1) := by decide +kernel
theorem dX7_init_71 : decode cX7_init 71 = .ok (.iload_n 1, 1) := by decide +kernel
theorem dX7_init_72 : decode cX7_init 72 = .ok (.putfield 50, 3) := by decide +kernel
theorem dX7_init_75 : decode cX7_init 75 = .ok (.aload_n 0, 1) := by decide +kernel
theorem dX7_init_76 : decode cX7_init 76 = .ok (.getfield 9, 3) := by decide +kernel
theorem dX7_init_79 : decode cX7_init 79 = .ok (.iconst (-1), 1) := by decide +kernel
theorem dX7_init_80 : decode cX7_init 80 = .ok (.invokestatic 53, 3) := by decide +kernel
theorem dX7_init_83 : decode cX7_init 83 = .ok (.return_, 1) := by decide +kernel
def d_X7_init (x0 : Nat) (x1 : Int32) (G : Hp) : Option (Hp) :=
  mV G <|
  gd (hc G x0 = 8) <|
  bd (hn G) fun q2 =>
  bd (nC G 11 (10 : Int32).toNatClampNeg (10 : Int32).toNatClampNeg) fun G3 =>
  mV G3 <|
  gd (hc G3 x0 = 8) <|
  bd (sR G3 x0 1 q2) fun G5 =>
  gd (hc G5 x0 = 8) <|
  bd (sI G5 x0 2 1) fun G7 =>
  bd (hn G7) fun q8 =>
  bd (nC G7 13 (40 : Int32).toNatClampNeg (40 : Int32).toNatClampNeg) fun G9 =>
  mV G9 <|
  gd (hc G9 x0 = 8) <|
  bd (sR G9 x0 3 q8) fun G11 =>
  bd (hn G11) fun q12 =>
  bd (nC G11 13 (40 : Int32).toNatClampNeg (40 : Int32).toNatClampNeg) fun G13 =>
  mV G13 <|
  gd (hc G13 x0 = 8) <|
  bd (sR G13 x0 4 q12) fun G15 =>
  gd (hc G15 x0 = 8) <|
  bd (sI G15 x0 5 0) fun G17 =>
  gd (hc G17 x0 = 8) <|
  bd (sI G17 x0 6 0) fun G19 =>
  gd (hc G19 x0 = 8) <|
  bd (sI G19 x0 7 0) fun G21 =>
  gd (hc G21 x0 = 8) <|
  bd (sI G21 x0 8 0) fun G23 =>
  gd (hc G23 x0 = 8) <|
  bd (sI G23 x0 9 0) fun G25 =>
  gd (hc G25 x0 = 8) <|
  bd (sI G25 x0 10 0) fun G27 =>
  gd (hc G27 x0 = 8) <|
  bd (sI G27 x0 11 0) fun G29 =>
  gd (hc G29 x0 = 8) <|
  bd (sI G29 x0 0 x1) fun G31 =>
  gd (hc G31 x0 = 8) <|
  bo (d_J7_fill_53178 ((hr G31 x0 1)) (-1) G31) fun G34 =>
  gd (hn G34 = hn G31 ∧ hs G34 = hs G31) <|
  some G34
section
variable {p : Program} {l : Launch} {e : Env} {s : State} {m : MethodId} {args : Array Value} {below : List Frame} {meth : Method} {c : Code} {b0 : Nat} {D : va_G} {E : Nat → ClassId}
set_option maxHeartbeats 4000000 in
set_option maxRecDepth 100000 in
theorem k_X7_init (C : Cx p s m args meth c RX7 cX7_init 2 none b0 D E) (hnm : meth.name = "<init>") {GG : Hp} {n0 s0 : Nat} {x0 : Nat} {x1 : Int32} {G : Hp} {ls : Array Slot} {H : Heap} {locs : List Loc} : lx ls 2 [(0, .inr x0), (1, .inl x1)] → Rp b0 D E G H → SS b0 s H locs → b0 ≤ hn G → (n0 ≤ hn G ∧ s0 ≤ hs G) → d_X7_init x0 x1 G = some GG → W p l e (rmd 1 (hn GG - n0) (hs GG - s0)) s m args below meth c H locs (hn G - n0) (hs G - s0) (MQ below (CQ b0 D E none GG) args s (hn GG - n0) (hs GG - s0) (fun q => b0 ≤ q)) (F0 m 0 ls []) := by
  intro hL hR hS hB hZ hd
  unfold d_X7_init at hd
  obtain ⟨hM, hd⟩ := mV_ex hd
  have hx := C.1
  have hb := C.2.1
  refine x_aload_n C dX7_init_0 hL 0 rfl ?_
  obtain ⟨g1, hd⟩ := gd_ex hd
  refine r_objI (a := x0) C ml_X7_3 dX7_init_1 (lx_size hL) hR (by rw [g1]; decide) ⟨Nat.le_of_ble_eq_true rfl, Nat.le_of_ble_eq_true rfl⟩ (cat_le [] (Nat.le_of_ble_eq_true rfl)) ?_
  refine x_aload_n C dX7_init_4 hL 0 rfl ?_
  refine lv_bipush (v := 10) hx hb dX7_init_5 (by decide) ?_
  obtain ⟨q2, eq2, hd⟩ := bd_ex hd
  obtain ⟨G3, eG3, hd⟩ := bd_ex hd
  obtain ⟨hM, hd⟩ := mV_ex hd
  have hm1 : hn G3 = hn G + 1 ∧ hs G3 = hs G + (10 : Int32).toNatClampNeg := by rw [eG3]; exact ⟨rfl, rfl⟩
  refine r_newa (t := 11) C (Or.inl ⟨rfl, rfl⟩) dX7_init_7 hR hS hB hZ (by decide) ⟨by show hn G + 1 - n0 ≤ hn GG - n0; omega, by show hs G + (10 : Int32).toNatClampNeg - s0 ≤ hs GG - s0; omega⟩ (fun H locs hR hS => ?_)
  rw [← eq2]
  refine W_cs (c2 := hn G3 - n0) (s2 := hs G3 - s0) (by rw [eG3] <;> rfl) (by rw [eG3] <;> rfl) ?_
  replace hR : Rp b0 D E G3 H := by rw [eG3]; exact hR
  replace hB : b0 ≤ hn G3 := by omega
  replace hZ : n0 ≤ hn G3 ∧ s0 ≤ hs G3 := by omega
  obtain ⟨g4, hd⟩ := gd_ex hd
  obtain ⟨G5, eG5, hd⟩ := bd_ex hd
  refine r_putr (ci := 7) (k := 1) C fl_X7_9 (Or.inr ⟨_, rfl⟩) (Or.inr ⟨rfl, hnm, rfl⟩) dX7_init_9 hR hS g4 (fun H locs hR hS => ?_)
  replace hR : Rp b0 D E G5 H := by rw [eG5]; exact hR
  refine W_cs (c2 := hn G5 - n0) (s2 := hs G5 - s0) (by rw [eG5] <;> rfl) (by rw [eG5] <;> rfl) ?_
  replace hB : b0 ≤ hn G5 := by rw [eG5]; exact hB
  replace hZ : n0 ≤ hn G5 ∧ s0 ≤ hs G5 := by rw [eG5]; exact hZ
  replace hM : hn G5 ≤ hn GG ∧ hs G5 ≤ hs GG := by rw [eG5]; exact hM
  refine x_aload_n C dX7_init_12 hL 0 rfl ?_
  refine lv_iconst (v := 1) hx hb dX7_init_13 (by decide) ?_
  obtain ⟨g6, hd⟩ := gd_ex hd
  obtain ⟨G7, eG7, hd⟩ := bd_ex hd
  refine r_putz (ci := 7) (k := 2) C fl_X7_15 rfl (Or.inl rfl) (by decide) dX7_init_14 hR hS g6 (fun H locs hR hS => ?_)
  replace hR : Rp b0 D E G7 H := by rw [eG7]; exact hR
  refine W_cs (c2 := hn G7 - n0) (s2 := hs G7 - s0) (by rw [eG7] <;> rfl) (by rw [eG7] <;> rfl) ?_
  replace hB : b0 ≤ hn G7 := by rw [eG7]; exact hB
  replace hZ : n0 ≤ hn G7 ∧ s0 ≤ hs G7 := by rw [eG7]; exact hZ
  replace hM : hn G7 ≤ hn GG ∧ hs G7 ≤ hs GG := by rw [eG7]; exact hM
  refine x_aload_n C dX7_init_17 hL 0 rfl ?_
  refine lv_bipush (v := 40) hx hb dX7_init_18 (by decide) ?_
  obtain ⟨q8, eq8, hd⟩ := bd_ex hd
  obtain ⟨G9, eG9, hd⟩ := bd_ex hd
  obtain ⟨hM, hd⟩ := mV_ex hd
  have hm1 : hn G9 = hn G7 + 1 ∧ hs G9 = hs G7 + (40 : Int32).toNatClampNeg := by rw [eG9]; exact ⟨rfl, rfl⟩
  refine r_anew (ci := 0) C (by decide) cl_X7_19 dX7_init_20 hR hS hB hZ (by decide) ⟨by show hn G7 + 1 - n0 ≤ hn GG - n0; omega, by show hs G7 + (40 : Int32).toNatClampNeg - s0 ≤ hs GG - s0; omega⟩ (fun H locs hR hS => ?_)
  rw [← eq8]
  refine W_cs (c2 := hn G9 - n0) (s2 := hs G9 - s0) (by rw [eG9] <;> rfl) (by rw [eG9] <;> rfl) ?_
  replace hR : Rp b0 D E G9 H := by rw [eG9]; exact hR
  replace hB : b0 ≤ hn G9 := by omega
  replace hZ : n0 ≤ hn G9 ∧ s0 ≤ hs G9 := by omega
  obtain ⟨g10, hd⟩ := gd_ex hd
  obtain ⟨G11, eG11, hd⟩ := bd_ex hd
  refine r_putr (ci := 7) (k := 3) C fl_X7_21 (Or.inr ⟨_, rfl⟩) (Or.inl rfl) dX7_init_23 hR hS g10 (fun H locs hR hS => ?_)
  replace hR : Rp b0 D E G11 H := by rw [eG11]; exact hR
  refine W_cs (c2 := hn G11 - n0) (s2 := hs G11 - s0) (by rw [eG11] <;> rfl) (by rw [eG11] <;> rfl) ?_
  replace hB : b0 ≤ hn G11 := by rw [eG11]; exact hB
  replace hZ : n0 ≤ hn G11 ∧ s0 ≤ hs G11 := by rw [eG11]; exact hZ
  replace hM : hn G11 ≤ hn GG ∧ hs G11 ≤ hs GG := by rw [eG11]; exact hM
  refine x_aload_n C dX7_init_26 hL 0 rfl ?_
  refine lv_bipush (v := 40) hx hb dX7_init_27 (by decide) ?_
  obtain ⟨q12, eq12, hd⟩ := bd_ex hd
  obtain ⟨G13, eG13, hd⟩ := bd_ex hd
  obtain ⟨hM, hd⟩ := mV_ex hd
  have hm1 : hn G13 = hn G11 + 1 ∧ hs G13 = hs G11 + (40 : Int32).toNatClampNeg := by rw [eG13]; exact ⟨rfl, rfl⟩
  refine r_anew (ci := 0) C (by decide) cl_X7_19 dX7_init_29 hR hS hB hZ (by decide) ⟨by show hn G11 + 1 - n0 ≤ hn GG - n0; omega, by show hs G11 + (40 : Int32).toNatClampNeg - s0 ≤ hs GG - s0; omega⟩ (fun H locs hR hS => ?_)
  rw [← eq12]
  refine W_cs (c2 := hn G13 - n0) (s2 := hs G13 - s0) (by rw [eG13] <;> rfl) (by rw [eG13] <;> rfl) ?_
  replace hR : Rp b0 D E G13 H := by rw [eG13]; exact hR
  replace hB : b0 ≤ hn G13 := by omega
  replace hZ : n0 ≤ hn G13 ∧ s0 ≤ hs G13 := by omega
  obtain ⟨g14, hd⟩ := gd_ex hd
  obtain ⟨G15, eG15, hd⟩ := bd_ex hd
  refine r_putr (ci := 7) (k := 4) C fl_X7_25 (Or.inr ⟨_, rfl⟩) (Or.inl rfl) dX7_init_32 hR hS g14 (fun H locs hR hS => ?_)
  replace hR : Rp b0 D E G15 H := by rw [eG15]; exact hR
  refine W_cs (c2 := hn G15 - n0) (s2 := hs G15 - s0) (by rw [eG15] <;> rfl) (by rw [eG15] <;> rfl) ?_
  replace hB : b0 ≤ hn G15 := by rw [eG15]; exact hB
  replace hZ : n0 ≤ hn G15 ∧ s0 ≤ hs G15 := by rw [eG15]; exact hZ
  replace hM : hn G15 ≤ hn GG ∧ hs G15 ≤ hs GG := by rw [eG15]; exact hM
  refine x_aload_n C dX7_init_35 hL 0 rfl ?_
  refine lv_iconst (v := 0) hx hb dX7_init_36 (by decide) ?_
  obtain ⟨g16, hd⟩ := gd_ex hd
  obtain ⟨G17, eG17, hd⟩ := bd_ex hd
  refine r_puti (ci := 7) (k := 5) C fl_X7_28 rfl (Or.inl rfl) dX7_init_37 hR hS g16 (fun H locs hR hS => ?_)
  replace hR : Rp b0 D E G17 H := by rw [eG17]; exact hR
  refine W_cs (c2 := hn G17 - n0) (s2 := hs G17 - s0) (by rw [eG17] <;> rfl) (by rw [eG17] <;> rfl) ?_
  replace hB : b0 ≤ hn G17 := by rw [eG17]; exact hB
  replace hZ : n0 ≤ hn G17 ∧ s0 ≤ hs G17 := by rw [eG17]; exact hZ
  replace hM : hn G17 ≤ hn GG ∧ hs G17 ≤ hs GG := by rw [eG17]; exact hM
  refine x_aload_n C dX7_init_40 hL 0 rfl ?_
  refine lv_iconst (v := 0) hx hb dX7_init_41 (by decide) ?_
  obtain ⟨g18, hd⟩ := gd_ex hd
  obtain ⟨G19, eG19, hd⟩ := bd_ex hd
  refine r_puti (ci := 7) (k := 6) C fl_X7_32 rfl (Or.inl rfl) dX7_init_42 hR hS g18 (fun H locs hR hS => ?_)
  replace hR : Rp b0 D E G19 H := by rw [eG19]; exact hR
  refine W_cs (c2 := hn G19 - n0) (s2 := hs G19 - s0) (by rw [eG19] <;> rfl) (by rw [eG19] <;> rfl) ?_
  replace hB : b0 ≤ hn G19 := by rw [eG19]; exact hB
  replace hZ : n0 ≤ hn G19 ∧ s0 ≤ hs G19 := by rw [eG19]; exact hZ
  replace hM : hn G19 ≤ hn GG ∧ hs G19 ≤ hs GG := by rw [eG19]; exact hM
  refine x_aload_n C dX7_init_45 hL 0 rfl ?_
  refine lv_iconst (v := 0) hx hb dX7_init_46 (by decide) ?_
  obtain ⟨g20, hd⟩ := gd_ex hd
  obtain ⟨G21, eG21, hd⟩ := bd_ex hd
  refine r_puti (ci := 7) (k := 7) C fl_X7_35 rfl (Or.inl rfl) dX7_init_47 hR hS g20 (fun H locs hR hS => ?_)
  replace hR : Rp b0 D E G21 H := by rw [eG21]; exact hR
  refine W_cs (c2 := hn G21 - n0) (s2 := hs G21 - s0) (by rw [eG21] <;> rfl) (by rw [eG21] <;> rfl) ?_
  replace hB : b0 ≤ hn G21 := by rw [eG21]; exact hB
  replace hZ : n0 ≤ hn G21 ∧ s0 ≤ hs G21 := by rw [eG21]; exact hZ
  replace hM : hn G21 ≤ hn GG ∧ hs G21 ≤ hs GG := by rw [eG21]; exact hM
  refine x_aload_n C dX7_init_50 hL 0 rfl ?_
  refine lv_iconst (v := 0) hx hb dX7_init_51 (by decide) ?_
  obtain ⟨g22, hd⟩ := gd_ex hd
  obtain ⟨G23, eG23, hd⟩ := bd_ex hd
  refine r_puti (ci := 7) (k := 8) C fl_X7_38 rfl (Or.inl rfl) dX7_init_52 hR hS g22 (fun H locs hR hS => ?_)
  replace hR : Rp b0 D E G23 H := by rw [eG23]; exact hR
  refine W_cs (c2 := hn G23 - n0) (s2 := hs G23 - s0) (by rw [eG23] <;> rfl) (by rw [eG23] <;> rfl) ?_
  replace hB : b0 ≤ hn G23 := by rw [eG23]; exact hB
  replace hZ : n0 ≤ hn G23 ∧ s0 ≤ hs G23 := by rw [eG23]; exact hZ
  replace hM : hn G23 ≤ hn GG ∧ hs G23 ≤ hs GG := by rw [eG23]; exact hM
  refine x_aload_n C dX7_init_55 hL 0 rfl ?_
  refine lv_iconst (v := 0) hx hb dX7_init_56 (by decide) ?_
  obtain ⟨g24, hd⟩ := gd_ex hd
  obtain ⟨G25, eG25, hd⟩ := bd_ex hd
  refine r_puti (ci := 7) (k := 9) C fl_X7_41 rfl (Or.inl rfl) dX7_init_57 hR hS g24 (fun H locs hR hS => ?_)
  replace hR : Rp b0 D E G25 H := by rw [eG25]; exact hR
  refine W_cs (c2 := hn G25 - n0) (s2 := hs G25 - s0) (by rw [eG25] <;> rfl) (by rw [eG25] <;> rfl) ?_
  replace hB : b0 ≤ hn G25 := by rw [eG25]; exact hB
  replace hZ : n0 ≤ hn G25 ∧ s0 ≤ hs G25 := by rw [eG25]; exact hZ
  replace hM : hn G25 ≤ hn GG ∧ hs G25 ≤ hs GG := by rw [eG25]; exact hM
  refine x_aload_n C dX7_init_60 hL 0 rfl ?_
  refine lv_iconst (v := 0) hx hb dX7_init_61 (by decide) ?_
  obtain ⟨g26, hd⟩ := gd_ex hd
  obtain ⟨G27, eG27, hd⟩ := bd_ex hd
  refine r_puti (ci := 7) (k := 10) C fl_X7_44 rfl (Or.inl rfl) dX7_init_62 hR hS g26 (fun H locs hR hS => ?_)
  replace hR : Rp b0 D E G27 H := by rw [eG27]; exact hR
  refine W_cs (c2 := hn G27 - n0) (s2 := hs G27 - s0) (by rw [eG27] <;> rfl) (by rw [eG27] <;> rfl) ?_
  replace hB : b0 ≤ hn G27 := by rw [eG27]; exact hB
  replace hZ : n0 ≤ hn G27 ∧ s0 ≤ hs G27 := by rw [eG27]; exact hZ
  replace hM : hn G27 ≤ hn GG ∧ hs G27 ≤ hs GG := by rw [eG27]; exact hM
  refine x_aload_n C dX7_init_65 hL 0 rfl ?_
  refine lv_iconst (v := 0) hx hb dX7_init_66 (by decide) ?_
  obtain ⟨g28, hd⟩ := gd_ex hd
  obtain ⟨G29, eG29, hd⟩ := bd_ex hd
  refine r_puti (ci := 7) (k := 11) C fl_X7_47 rfl (Or.inl rfl) dX7_init_67 hR hS g28 (fun H locs hR hS => ?_)
  replace hR : Rp b0 D E G29 H := by rw [eG29]; exact hR
  refine W_cs (c2 := hn G29 - n0) (s2 := hs G29 - s0) (by rw [eG29] <;> rfl) (by rw [eG29] <;> rfl) ?_
  replace hB : b0 ≤ hn G29 := by rw [eG29]; exact hB
  replace hZ : n0 ≤ hn G29 ∧ s0 ≤ hs G29 := by rw [eG29]; exact hZ
  replace hM : hn G29 ≤ hn GG ∧ hs G29 ≤ hs GG := by rw [eG29]; exact hM
  refine x_aload_n C dX7_init_70 hL 0 rfl ?_
  refine x_iload_n C dX7_init_71 hL 1 rfl ?_
  obtain ⟨g30, hd⟩ := gd_ex hd
  obtain ⟨G31, eG31, hd⟩ := bd_ex hd
  refine r_puti (ci := 7) (k := 0) C fl_X7_50 rfl (Or.inr ⟨rfl, hnm, rfl⟩) dX7_init_72 hR hS g30 (fun H locs hR hS => ?_)
  replace hR : Rp b0 D E G31 H := by rw [eG31]; exact hR
  refine W_cs (c2 := hn G31 - n0) (s2 := hs G31 - s0) (by rw [eG31] <;> rfl) (by rw [eG31] <;> rfl) ?_
  replace hB : b0 ≤ hn G31 := by rw [eG31]; exact hB
  replace hZ : n0 ≤ hn G31 ∧ s0 ≤ hs G31 := by rw [eG31]; exact hZ
  replace hM : hn G31 ≤ hn GG ∧ hs G31 ≤ hs GG := by rw [eG31]; exact hM
  refine x_aload_n C dX7_init_75 hL 0 rfl ?_
  obtain ⟨g32, hd⟩ := gd_ex hd
  refine r_getr (ci := 7) (k := 1) C fl_X7_9 rfl dX7_init_76 hR g32 ?_
  refine lv_iconst (v := (-1)) hx hb dX7_init_79 (by decide) ?_
  obtain ⟨G34, h33, hd⟩ := bo_ex hd
  obtain ⟨g35, hd⟩ := gd_ex hd
  refine r_callS (As := [rv ((hr G31 x0 1)), .int (-1)]) C (ct_J7_fill_53178 h33) mf_J7_fill_53178 ml_X7_53 ms_J7_fill_53178 rfl ⟨Nat.le_of_ble_eq_true rfl, Nat.le_of_ble_eq_true rfl⟩ dX7_init_80 (lx_size hL) rfl hR hS ⟨by show hn G31 - n0 ≤ hn GG - n0; omega, by show hs G31 - s0 ≤ hs GG - s0; omega⟩ (cat_le [] (Nat.le_of_ble_eq_true rfl)) (fun H locs hR hS => ?_)
  refine W_st (st2 := []) rfl ?_
  refine W_cs (c2 := hn G34 - n0) (s2 := hs G34 - s0) (by first | rfl | omega) (by first | rfl | omega) ?_
  replace hB : b0 ≤ hn G34 := by omega
  replace hZ : n0 ≤ hn G34 ∧ s0 ≤ hs G34 := by omega
  replace hM : hn G34 ≤ hn GG ∧ hs G34 ≤ hs GG := by omega
  cases hd
  exact r_vret C dX7_init_83 hR hS
end
set_option maxHeartbeats 4000000 in
set_option maxRecDepth 100000 in
theorem ct_X7_init {l : Launch} {b0 : Nat} {D : va_G} {E : Nat → ClassId} {G : Hp} {a0 : Nat} {a1 : Int32} {GG : Hp} (hB : b0 ≤ hn G) (hd : d_X7_init a0 a1 G = some GG) : CT l yX7_init cX7_init 2 none 1 (hn GG - hn G) (hs GG - hs G) b0 D E [rv a0, .int a1] G none GG := by
  refine CT_of (by decide +kernel) ?_
  intro p e s m below meth c C hnm hR
  refine r_entry [.inr a0, .inl a1] (n := 2) (Nat.le_of_ble_eq_true rfl) (lv := [(0, .inr a0), (1, .inl a1)]) rfl (fun ls hL => ?_)
  have k := k_X7_init (n0 := hn G) (s0 := hs G) (l := l) (e := e) (below := below) (H := s.heap) (locs := []) C hnm (lx_sub hL [0, 1] rfl) hR ⟨fun _ _ => rfl, fun _ h => by cases h⟩ hB ⟨Nat.le_refl _, Nat.le_refl _⟩ hd
  rw [Nat.sub_self, Nat.sub_self] at k
  exact k

/-! GroveWorks$Net.<init>(I)V makes -/
theorem dX2_init_0 : decode cX2_init 0 = .ok (.aload_n 0, 1) := by decide +kernel
theorem dX2_init_1 : decode cX2_init 1 = .ok (.invokespecial 3, 3) := by decide +kernel
theorem dX2_init_4 : decode cX2_init 4 = .ok (.aload_n 0, 1) := by decide +kernel
theorem dX2_init_5 : decode cX2_init 5 = .ok (.bipush 16, 2) := by decide +kernel
theorem dX2_init_7 : decode cX2_init 7 = .ok (.anewarray 9, 3) := by decide +kernel
theorem dX2_init_10 : decode cX2_init 10 = .ok (.putfield 11, 3) := by decide +kernel
theorem dX2_init_13 : decode cX2_init 13 = .ok (.aload_n 0, 1) := by decide +kernel
theorem dX2_init_14 : decode cX2_init 14 = .ok (.bipush 8, 2) := by decide +kernel
theorem dX2_init_16 : decode cX2_init 16 = .ok (.newarray .int, 2) := by decide +kernel
theorem dX2_init_18 : decode cX2_init 18 = .ok (.putfield 17, 3) := by decide +kernel
theorem dX2_init_21 : decode cX2_init 21 = .ok (.aload_n 0, 1) := by decide +kernel
theorem dX2_init_22 : decode cX2_init 22 = .ok (.bipush 16, 2) := by decide +kernel
theorem dX2_init_24 : decode cX2_init 24 = .ok (.newarray .int, 2) := by decide +kernel
theorem dX2_init_26 : decode cX2_init 26 = .ok (.putfield 21, 3) := by decide +kernel
theorem dX2_init_29 : decode cX2_init 29 = .ok (.aload_n 0, 1) := by decide +kernel
theorem dX2_init_30 : decode cX2_init 30 = .ok (.iconst 0, 1) := by decide +kernel
theorem dX2_init_31 : decode cX2_init 31 = .ok (.putfield 24, 3) := by decide +kernel
theorem dX2_init_34 : decode cX2_init 34 = .ok (.aload_n 0, 1) := by decide +kernel
theorem dX2_init_35 : decode cX2_init 35 = .ok (.iconst 0, 1) := by decide +kernel
theorem dX2_init_36 : decode cX2_init 36 = .ok (.putfield 28, 3) := by decide +kernel
theorem dX2_init_39 : decode cX2_init 39 = .ok (.aload_n 0, 1) := by decide +kernel
theorem dX2_init_40 : decode cX2_init 40 = .ok (.new 31, 3) := by decide +kernel
theorem dX2_init_43 : decode cX2_init 43 = .ok (.dup, 1) := by decide +kernel
theorem dX2_init_44 : decode cX2_init 44 = .ok (.iload_n 1, 1) := by decide +kernel
theorem dX2_init_45 : decode cX2_init 45 = .ok (.invokespecial 33, 3) := by decide +kernel
theorem dX2_init_48 : decode cX2_init 48 = .ok (.putfield 36, 3) := by decide +kernel
theorem dX2_init_51 : decode cX2_init 51 = .ok (.iconst 0, 1) := by decide +kernel
theorem dX2_init_52 : decode cX2_init 52 = .ok (.istore_n 2, 1) := by decide +kernel
theorem dX2_init_53 : decode cX2_init 53 = .ok (.iload_n 2, 1) := by decide +kernel
theorem dX2_init_54 : decode cX2_init 54 = .ok (.bipush 16, 2) := by decide +kernel
theorem dX2_init_56 : decode cX2_init 56 = .ok (.if_icmp .ge 23, 3) := by decide +kernel
theorem dX2_init_59 : decode cX2_init 59 = .ok (.aload_n 0, 1) := by decide +kernel
theorem dX2_init_60 : decode cX2_init 60 = .ok (.getfield 11, 3) := by decide +kernel
theorem dX2_init_63 : decode cX2_init 63 = .ok (.iload_n 2, 1) := by decide +kernel
theorem dX2_init_64 : decode cX2_init 64 = .ok (.new 9, 3) := by decide +kernel
theorem dX2_init_67 : decode cX2_init 67 = .ok (.dup, 1) := by decide +kernel
theorem dX2_init_68 : decode cX2_init 68 = .ok (.iload_n 2, 1) := by decide +kernel
theorem dX2_init_69 : decode cX2_init 69 = .ok (.invokespecial 40, 3) := by decide +kernel
theorem dX2_init_72 : decode cX2_init 72 = .ok (.aastore, 1) := by decide +kernel
theorem dX2_init_73 : decode cX2_init 73 = .ok (.iinc 2 1, 3) := by decide +kernel
theorem dX2_init_76 : decode cX2_init 76 = .ok (.goto (-23), 3) := by decide +kernel
theorem dX2_init_79 : decode cX2_init 79 = .ok (.aload_n 0, 1) := by decide +kernel
theorem dX2_init_80 : decode cX2_init 80 = .ok (.getfield 21, 3) := by decide +kernel
theorem dX2_init_83 : decode cX2_init 83 = .ok (.iconst (-1), 1) := by decide +kernel
theorem dX2_init_84 : decode cX2_init 84 = .ok (.invokestatic 41, 3) := by decide +kernel
theorem dX2_init_87 : decode cX2_init 87 = .ok (.return_, 1) := by decide +kernel
def d_X2_init_53 : Nat → Nat → Int32 → Hp → Option (Hp)
  | 0, _, _, _ => none
  | n_ + 1, x0, x2, G =>
    mV G <|
    if 16 ≤ x2 then
      gd (hc G x0 = 3) <|
      bo (d_J7_fill_53178 ((hr G x0 3)) (-1) G) fun G4 =>
      gd (hn G4 = hn G ∧ hs G4 = hs G) <|
      some G4
    else
      gd (hc G x0 = 3) <|
      bd (hn G) fun q7 =>
      bd (nC G 8 0 12) fun G8 =>
      mV G8 <|
      gd (hc G8 q7 = 8) <|
      bo (d_X7_init q7 x2 G8) fun G11 =>
      gd (hn G8 ≤ hn G11 ∧ hs G8 ≤ hs G11) <|
      mV G11 <|
      gd ((hc G11 ((hr G x0 0)) = 20 ∧ ix x2 (hl G11 ((hr G x0 0)))) ∧ (q7 = 0 ∨ hc G11 q7 = 8)) <|
      bd (sR G11 ((hr G x0 0)) x2.toNatClampNeg q7) fun G14 =>
      d_X2_init_53 n_ x0 ((x2 + 1)) G14
def d_X2_init (x0 : Nat) (x1 : Int32) (G : Hp) : Option (Hp) :=
  mV G <|
  gd (hc G x0 = 3) <|
  bd (hn G) fun q2 =>
  bd (nC G 20 (16 : Int32).toNatClampNeg (16 : Int32).toNatClampNeg) fun G3 =>
  mV G3 <|
  gd (hc G3 x0 = 3) <|
  bd (sR G3 x0 0 q2) fun G5 =>
  bd (hn G5) fun q6 =>
  bd (nC G5 11 (8 : Int32).toNatClampNeg (8 : Int32).toNatClampNeg) fun G7 =>
  mV G7 <|
  gd (hc G7 x0 = 3) <|
  bd (sR G7 x0 2 q6) fun G9 =>
  bd (hn G9) fun q10 =>
  bd (nC G9 11 (16 : Int32).toNatClampNeg (16 : Int32).toNatClampNeg) fun G11 =>
  mV G11 <|
  gd (hc G11 x0 = 3) <|
  bd (sR G11 x0 3 q10) fun G13 =>
  gd (hc G13 x0 = 3) <|
  bd (sI G13 x0 4 0) fun G15 =>
  gd (hc G15 x0 = 3) <|
  bd (sI G15 x0 5 0) fun G17 =>
  bd (hn G17) fun q18 =>
  bd (nC G17 7 0 7) fun G19 =>
  mV G19 <|
  gd (hc G19 q18 = 7) <|
  bo (d_X6_init q18 x1 G19) fun G22 =>
  gd (hn G19 ≤ hn G22 ∧ hs G19 ≤ hs G22) <|
  mV G22 <|
  gd (hc G22 x0 = 3) <|
  bd (sR G22 x0 1 q18) fun G25 =>
  d_X2_init_53 FU x0 0 G25
section
variable {p : Program} {l : Launch} {e : Env} {s : State} {m : MethodId} {args : Array Value} {below : List Frame} {meth : Method} {c : Code} {b0 : Nat} {D : va_G} {E : Nat → ClassId}
set_option maxHeartbeats 4000000 in
set_option maxRecDepth 100000 in
theorem k_X2_init_53 (C : Cx p s m args meth c RX2 cX2_init 3 none b0 D E) (hnm : meth.name = "<init>") {GG : Hp} {n0 s0 : Nat} : ∀ (n_ : Nat) {x0 : Nat} {x2 : Int32} {G : Hp} {ls : Array Slot} {H : Heap} {locs : List Loc}, lx ls 3 [(0, .inr x0), (2, .inl x2)] → Rp b0 D E G H → SS b0 s H locs → b0 ≤ hn G → (n0 ≤ hn G ∧ s0 ≤ hs G) → d_X2_init_53 n_ x0 x2 G = some GG → W p l e (rmd 2 (hn GG - n0) (hs GG - s0)) s m args below meth c H locs (hn G - n0) (hs G - s0) (MQ below (CQ b0 D E none GG) args s (hn GG - n0) (hs GG - s0) (fun q => b0 ≤ q)) (F0 m 53 ls []) := by
  intro n_
  induction n_ with
  | zero =>
    intro x0 x2 G ls H locs hL hR hS hB hZ hd
    cases (show (none : Option _) = some _ from hd)
  | succ n_ ih =>
    intro x0 x2 G ls H locs hL hR hS hB hZ hd
    rw [d_X2_init_53.eq_2] at hd
    obtain ⟨hM, hd⟩ := mV_ex hd
    have hx := C.1
    have hb := C.2.1
    refine x_iload_n C dX2_init_53 hL 1 rfl ?_
    refine lv_bipush (v := 16) hx hb dX2_init_54 (by decide) ?_
    refine lv_icmp_ge (tgt := 79) hx hb dX2_init_56 (by decide) (fun c1 => ?_) (fun c1 => ?_)
    · rw [if_pos c1] at hd
      refine x_aload_n C dX2_init_79 hL 0 rfl ?_
      obtain ⟨g2, hd⟩ := gd_ex hd
      refine r_getr (ci := 2) (k := 3) C fl_X2_21 rfl dX2_init_80 hR g2 ?_
      refine lv_iconst (v := (-1)) hx hb dX2_init_83 (by decide) ?_
      obtain ⟨G4, h3, hd⟩ := bo_ex hd
      obtain ⟨g5, hd⟩ := gd_ex hd
      refine r_callS (As := [rv ((hr G x0 3)), .int (-1)]) C (ct_J7_fill_53178 h3) mf_J7_fill_53178 ml_X2_41 ms_J7_fill_53178 rfl ⟨Nat.le_of_ble_eq_true rfl, Nat.le_of_ble_eq_true rfl⟩ dX2_init_84 (lx_size hL) rfl hR hS ⟨by show hn G - n0 ≤ hn GG - n0; omega, by show hs G - s0 ≤ hs GG - s0; omega⟩ (cat_le [] (Nat.le_of_ble_eq_true rfl)) (fun H locs hR hS => ?_)
      refine W_st (st2 := []) rfl ?_
      refine W_cs (c2 := hn G4 - n0) (s2 := hs G4 - s0) (by first | rfl | omega) (by first | rfl | omega) ?_
      replace hB : b0 ≤ hn G4 := by omega
      replace hZ : n0 ≤ hn G4 ∧ s0 ≤ hs G4 := by omega
      replace hM : hn G4 ≤ hn GG ∧ hs G4 ≤ hs GG := by omega
      cases hd
      exact r_vret C dX2_init_87 hR hS
    · rw [if_neg c1] at hd
      refine x_aload_n C dX2_init_59 hL 0 rfl ?_
      obtain ⟨g6, hd⟩ := gd_ex hd
      refine r_getr (ci := 2) (k := 0) C fl_X2_11 rfl dX2_init_60 hR g6 ?_
      refine x_iload_n C dX2_init_63 hL 1 rfl ?_
      obtain ⟨q7, eq7, hd⟩ := bd_ex hd
      obtain ⟨G8, eG8, hd⟩ := bd_ex hd
      obtain ⟨hM, hd⟩ := mV_ex hd
      have hm1 : hn G8 = hn G + 1 ∧ hs G8 = hs G + 12 := by rw [eG8]; exact ⟨rfl, rfl⟩
      refine r_new (ci := 7) C (by decide) cl_X2_9 dX2_init_64 hR hS hB hZ ⟨by show hn G + 1 - n0 ≤ hn GG - n0; omega, by show hs G + 12 - s0 ≤ hs GG - s0; omega⟩ (fun H locs hR hS => ?_)
      rw [← eq7]
      refine W_cs (c2 := hn G8 - n0) (s2 := hs G8 - s0) (by rw [eG8] <;> rfl) (by rw [eG8] <;> rfl) ?_
      replace hR : Rp b0 D E G8 H := by rw [eG8]; exact hR
      replace hB : b0 ≤ hn G8 := by omega
      replace hZ : n0 ≤ hn G8 ∧ s0 ≤ hs G8 := by omega
      refine lv_dup hx hb dX2_init_67 (rv_cat _) ?_
      refine x_iload_n C dX2_init_68 hL 1 rfl ?_
      obtain ⟨g9, hd⟩ := gd_ex hd
      obtain ⟨G11, h10, hd⟩ := bo_ex hd
      obtain ⟨g12, hd⟩ := gd_ex hd
      obtain ⟨hM, hd⟩ := mV_ex hd
      refine r_callI (a := q7) (As := [.int x2]) C (ct_X7_init hB h10) mf_X7_init ml_X2_40 mi_X7_init rfl ⟨Nat.le_of_ble_eq_true rfl, Nat.le_of_ble_eq_true rfl⟩ dX2_init_69 (lx_size hL) rfl hR hS (by rw [g9]; decide) ⟨by show hn G8 - n0 + (hn G11 - hn G8) ≤ hn GG - n0; omega, by show hs G8 - s0 + (hs G11 - hs G8) ≤ hs GG - s0; omega⟩ (cat_le [.inr q7, .inl x2, .inr ((hr G x0 0))] (Nat.le_of_ble_eq_true rfl)) (fun H locs hR hS => ?_)
      refine W_st (st2 := [rv q7, .int x2, rv ((hr G x0 0))]) rfl ?_
      refine W_cs (c2 := hn G11 - n0) (s2 := hs G11 - s0) (by first | rfl | omega) (by first | rfl | omega) ?_
      replace hB : b0 ≤ hn G11 := by omega
      replace hZ : n0 ≤ hn G11 ∧ s0 ≤ hs G11 := by omega
      obtain ⟨g13, hd⟩ := gd_ex hd
      obtain ⟨G14, eG14, hd⟩ := bd_ex hd
      refine r_aast (ci := 7) C (by decide) (by decide) dX2_init_72 hR hS g13 (fun H locs hR hS => ?_)
      replace hR : Rp b0 D E G14 H := by rw [eG14]; exact hR
      refine W_cs (c2 := hn G14 - n0) (s2 := hs G14 - s0) (by rw [eG14] <;> rfl) (by rw [eG14] <;> rfl) ?_
      replace hB : b0 ≤ hn G14 := by rw [eG14]; exact hB
      replace hZ : n0 ≤ hn G14 ∧ s0 ≤ hs G14 := by rw [eG14]; exact hZ
      replace hM : hn G14 ≤ hn GG ∧ hs G14 ≤ hs GG := by rw [eG14]; exact hM
      refine x_iinc (lv' := [(2, .inl ((x2 + 1))), (0, .inr x0)]) C dX2_init_73 hL 1 rfl rfl (by decide) rfl (fun ls hL => ?_)
      refine lv_goto (tgt := 53) hx hb dX2_init_76 (by decide) ?_
      exact ih (lx_sub hL [1, 0] rfl) hR hS hB hZ hd
set_option maxHeartbeats 4000000 in
set_option maxRecDepth 100000 in
theorem k_X2_init (C : Cx p s m args meth c RX2 cX2_init 3 none b0 D E) (hnm : meth.name = "<init>") {GG : Hp} {n0 s0 : Nat} {x0 : Nat} {x1 : Int32} {G : Hp} {ls : Array Slot} {H : Heap} {locs : List Loc} : lx ls 3 [(0, .inr x0), (1, .inl x1)] → Rp b0 D E G H → SS b0 s H locs → b0 ≤ hn G → (n0 ≤ hn G ∧ s0 ≤ hs G) → d_X2_init x0 x1 G = some GG → W p l e (rmd 2 (hn GG - n0) (hs GG - s0)) s m args below meth c H locs (hn G - n0) (hs G - s0) (MQ below (CQ b0 D E none GG) args s (hn GG - n0) (hs GG - s0) (fun q => b0 ≤ q)) (F0 m 0 ls []) := by
  intro hL hR hS hB hZ hd
  unfold d_X2_init at hd
  obtain ⟨hM, hd⟩ := mV_ex hd
  have hx := C.1
  have hb := C.2.1
  refine x_aload_n C dX2_init_0 hL 0 rfl ?_
  obtain ⟨g1, hd⟩ := gd_ex hd
  refine r_objI (a := x0) C ml_X2_3 dX2_init_1 (lx_size hL) hR (by rw [g1]; decide) ⟨Nat.le_of_ble_eq_true rfl, Nat.le_of_ble_eq_true rfl⟩ (cat_le [] (Nat.le_of_ble_eq_true rfl)) ?_
  refine x_aload_n C dX2_init_4 hL 0 rfl ?_
  refine lv_bipush (v := 16) hx hb dX2_init_5 (by decide) ?_
  obtain ⟨q2, eq2, hd⟩ := bd_ex hd
  obtain ⟨G3, eG3, hd⟩ := bd_ex hd
  obtain ⟨hM, hd⟩ := mV_ex hd
  have hm1 : hn G3 = hn G + 1 ∧ hs G3 = hs G + (16 : Int32).toNatClampNeg := by rw [eG3]; exact ⟨rfl, rfl⟩
  refine r_anew (ci := 7) C (by decide) cl_X2_9 dX2_init_7 hR hS hB hZ (by decide) ⟨by show hn G + 1 - n0 ≤ hn GG - n0; omega, by show hs G + (16 : Int32).toNatClampNeg - s0 ≤ hs GG - s0; omega⟩ (fun H locs hR hS => ?_)
  rw [← eq2]
  refine W_cs (c2 := hn G3 - n0) (s2 := hs G3 - s0) (by rw [eG3] <;> rfl) (by rw [eG3] <;> rfl) ?_
  replace hR : Rp b0 D E G3 H := by rw [eG3]; exact hR
  replace hB : b0 ≤ hn G3 := by omega
  replace hZ : n0 ≤ hn G3 ∧ s0 ≤ hs G3 := by omega
  obtain ⟨g4, hd⟩ := gd_ex hd
  obtain ⟨G5, eG5, hd⟩ := bd_ex hd
  refine r_putr (ci := 2) (k := 0) C fl_X2_11 (Or.inr ⟨_, rfl⟩) (Or.inr ⟨rfl, hnm, rfl⟩) dX2_init_10 hR hS g4 (fun H locs hR hS => ?_)
  replace hR : Rp b0 D E G5 H := by rw [eG5]; exact hR
  refine W_cs (c2 := hn G5 - n0) (s2 := hs G5 - s0) (by rw [eG5] <;> rfl) (by rw [eG5] <;> rfl) ?_
  replace hB : b0 ≤ hn G5 := by rw [eG5]; exact hB
  replace hZ : n0 ≤ hn G5 ∧ s0 ≤ hs G5 := by rw [eG5]; exact hZ
  replace hM : hn G5 ≤ hn GG ∧ hs G5 ≤ hs GG := by rw [eG5]; exact hM
  refine x_aload_n C dX2_init_13 hL 0 rfl ?_
  refine lv_bipush (v := 8) hx hb dX2_init_14 (by decide) ?_
  obtain ⟨q6, eq6, hd⟩ := bd_ex hd
  obtain ⟨G7, eG7, hd⟩ := bd_ex hd
  obtain ⟨hM, hd⟩ := mV_ex hd
  have hm1 : hn G7 = hn G5 + 1 ∧ hs G7 = hs G5 + (8 : Int32).toNatClampNeg := by rw [eG7]; exact ⟨rfl, rfl⟩
  refine r_newa (t := 11) C (Or.inl ⟨rfl, rfl⟩) dX2_init_16 hR hS hB hZ (by decide) ⟨by show hn G5 + 1 - n0 ≤ hn GG - n0; omega, by show hs G5 + (8 : Int32).toNatClampNeg - s0 ≤ hs GG - s0; omega⟩ (fun H locs hR hS => ?_)
  rw [← eq6]
  refine W_cs (c2 := hn G7 - n0) (s2 := hs G7 - s0) (by rw [eG7] <;> rfl) (by rw [eG7] <;> rfl) ?_
  replace hR : Rp b0 D E G7 H := by rw [eG7]; exact hR
  replace hB : b0 ≤ hn G7 := by omega
  replace hZ : n0 ≤ hn G7 ∧ s0 ≤ hs G7 := by omega
  obtain ⟨g8, hd⟩ := gd_ex hd
  obtain ⟨G9, eG9, hd⟩ := bd_ex hd
  refine r_putr (ci := 2) (k := 2) C fl_X2_17 (Or.inr ⟨_, rfl⟩) (Or.inr ⟨rfl, hnm, rfl⟩) dX2_init_18 hR hS g8 (fun H locs hR hS => ?_)
  replace hR : Rp b0 D E G9 H := by rw [eG9]; exact hR
  refine W_cs (c2 := hn G9 - n0) (s2 := hs G9 - s0) (by rw [eG9] <;> rfl) (by rw [eG9] <;> rfl) ?_
  replace hB : b0 ≤ hn G9 := by rw [eG9]; exact hB
  replace hZ : n0 ≤ hn G9 ∧ s0 ≤ hs G9 := by rw [eG9]; exact hZ
  replace hM : hn G9 ≤ hn GG ∧ hs G9 ≤ hs GG := by rw [eG9]; exact hM
  refine x_aload_n C dX2_init_21 hL 0 rfl ?_
  refine lv_bipush (v := 16) hx hb dX2_init_22 (by decide) ?_
  obtain ⟨q10, eq10, hd⟩ := bd_ex hd
  obtain ⟨G11, eG11, hd⟩ := bd_ex hd
  obtain ⟨hM, hd⟩ := mV_ex hd
  have hm1 : hn G11 = hn G9 + 1 ∧ hs G11 = hs G9 + (16 : Int32).toNatClampNeg := by rw [eG11]; exact ⟨rfl, rfl⟩
  refine r_newa (t := 11) C (Or.inl ⟨rfl, rfl⟩) dX2_init_24 hR hS hB hZ (by decide) ⟨by show hn G9 + 1 - n0 ≤ hn GG - n0; omega, by show hs G9 + (16 : Int32).toNatClampNeg - s0 ≤ hs GG - s0; omega⟩ (fun H locs hR hS => ?_)
  rw [← eq10]
  refine W_cs (c2 := hn G11 - n0) (s2 := hs G11 - s0) (by rw [eG11] <;> rfl) (by rw [eG11] <;> rfl) ?_
  replace hR : Rp b0 D E G11 H := by rw [eG11]; exact hR
  replace hB : b0 ≤ hn G11 := by omega
  replace hZ : n0 ≤ hn G11 ∧ s0 ≤ hs G11 := by omega
  obtain ⟨g12, hd⟩ := gd_ex hd
  obtain ⟨G13, eG13, hd⟩ := bd_ex hd
  refine r_putr (ci := 2) (k := 3) C fl_X2_21 (Or.inr ⟨_, rfl⟩) (Or.inr ⟨rfl, hnm, rfl⟩) dX2_init_26 hR hS g12 (fun H locs hR hS => ?_)
  replace hR : Rp b0 D E G13 H := by rw [eG13]; exact hR
  refine W_cs (c2 := hn G13 - n0) (s2 := hs G13 - s0) (by rw [eG13] <;> rfl) (by rw [eG13] <;> rfl) ?_
  replace hB : b0 ≤ hn G13 := by rw [eG13]; exact hB
  replace hZ : n0 ≤ hn G13 ∧ s0 ≤ hs G13 := by rw [eG13]; exact hZ
  replace hM : hn G13 ≤ hn GG ∧ hs G13 ≤ hs GG := by rw [eG13]; exact hM
  refine x_aload_n C dX2_init_29 hL 0 rfl ?_
  refine lv_iconst (v := 0) hx hb dX2_init_30 (by decide) ?_
  obtain ⟨g14, hd⟩ := gd_ex hd
  obtain ⟨G15, eG15, hd⟩ := bd_ex hd
  refine r_puti (ci := 2) (k := 4) C fl_X2_24 rfl (Or.inl rfl) dX2_init_31 hR hS g14 (fun H locs hR hS => ?_)
  replace hR : Rp b0 D E G15 H := by rw [eG15]; exact hR
  refine W_cs (c2 := hn G15 - n0) (s2 := hs G15 - s0) (by rw [eG15] <;> rfl) (by rw [eG15] <;> rfl) ?_
  replace hB : b0 ≤ hn G15 := by rw [eG15]; exact hB
  replace hZ : n0 ≤ hn G15 ∧ s0 ≤ hs G15 := by rw [eG15]; exact hZ
  replace hM : hn G15 ≤ hn GG ∧ hs G15 ≤ hs GG := by rw [eG15]; exact hM
  refine x_aload_n C dX2_init_34 hL 0 rfl ?_
  refine lv_iconst (v := 0) hx hb dX2_init_35 (by decide) ?_
  obtain ⟨g16, hd⟩ := gd_ex hd
  obtain ⟨G17, eG17, hd⟩ := bd_ex hd
  refine r_puti (ci := 2) (k := 5) C fl_X2_28 rfl (Or.inl rfl) dX2_init_36 hR hS g16 (fun H locs hR hS => ?_)
  replace hR : Rp b0 D E G17 H := by rw [eG17]; exact hR
  refine W_cs (c2 := hn G17 - n0) (s2 := hs G17 - s0) (by rw [eG17] <;> rfl) (by rw [eG17] <;> rfl) ?_
  replace hB : b0 ≤ hn G17 := by rw [eG17]; exact hB
  replace hZ : n0 ≤ hn G17 ∧ s0 ≤ hs G17 := by rw [eG17]; exact hZ
  replace hM : hn G17 ≤ hn GG ∧ hs G17 ≤ hs GG := by rw [eG17]; exact hM
  refine x_aload_n C dX2_init_39 hL 0 rfl ?_
  obtain ⟨q18, eq18, hd⟩ := bd_ex hd
  obtain ⟨G19, eG19, hd⟩ := bd_ex hd
  obtain ⟨hM, hd⟩ := mV_ex hd
  have hm1 : hn G19 = hn G17 + 1 ∧ hs G19 = hs G17 + 7 := by rw [eG19]; exact ⟨rfl, rfl⟩
  refine r_new (ci := 6) C (by decide) cl_X2_31 dX2_init_40 hR hS hB hZ ⟨by show hn G17 + 1 - n0 ≤ hn GG - n0; omega, by show hs G17 + 7 - s0 ≤ hs GG - s0; omega⟩ (fun H locs hR hS => ?_)
  rw [← eq18]
  refine W_cs (c2 := hn G19 - n0) (s2 := hs G19 - s0) (by rw [eG19] <;> rfl) (by rw [eG19] <;> rfl) ?_
  replace hR : Rp b0 D E G19 H := by rw [eG19]; exact hR
  replace hB : b0 ≤ hn G19 := by omega
  replace hZ : n0 ≤ hn G19 ∧ s0 ≤ hs G19 := by omega
  refine lv_dup hx hb dX2_init_43 (rv_cat _) ?_
  refine x_iload_n C dX2_init_44 hL 1 rfl ?_
  obtain ⟨g20, hd⟩ := gd_ex hd
  obtain ⟨G22, h21, hd⟩ := bo_ex hd
  obtain ⟨g23, hd⟩ := gd_ex hd
  obtain ⟨hM, hd⟩ := mV_ex hd
  refine r_callI (a := q18) (As := [.int x1]) C (ct_X6_init hB h21) mf_X6_init ml_X2_33 mi_X6_init rfl ⟨Nat.le_of_ble_eq_true rfl, Nat.le_of_ble_eq_true rfl⟩ dX2_init_45 (lx_size hL) rfl hR hS (by rw [g20]; decide) ⟨by show hn G19 - n0 + (hn G22 - hn G19) ≤ hn GG - n0; omega, by show hs G19 - s0 + (hs G22 - hs G19) ≤ hs GG - s0; omega⟩ (cat_le [.inr q18, .inr x0] (Nat.le_of_ble_eq_true rfl)) (fun H locs hR hS => ?_)
  refine W_st (st2 := [rv q18, rv x0]) rfl ?_
  refine W_cs (c2 := hn G22 - n0) (s2 := hs G22 - s0) (by first | rfl | omega) (by first | rfl | omega) ?_
  replace hB : b0 ≤ hn G22 := by omega
  replace hZ : n0 ≤ hn G22 ∧ s0 ≤ hs G22 := by omega
  obtain ⟨g24, hd⟩ := gd_ex hd
  obtain ⟨G25, eG25, hd⟩ := bd_ex hd
  refine r_putr (ci := 2) (k := 1) C fl_X2_36 (Or.inl ⟨_, rfl⟩) (Or.inr ⟨rfl, hnm, rfl⟩) dX2_init_48 hR hS g24 (fun H locs hR hS => ?_)
  replace hR : Rp b0 D E G25 H := by rw [eG25]; exact hR
  refine W_cs (c2 := hn G25 - n0) (s2 := hs G25 - s0) (by rw [eG25] <;> rfl) (by rw [eG25] <;> rfl) ?_
  replace hB : b0 ≤ hn G25 := by rw [eG25]; exact hB
  replace hZ : n0 ≤ hn G25 ∧ s0 ≤ hs G25 := by rw [eG25]; exact hZ
  replace hM : hn G25 ≤ hn GG ∧ hs G25 ≤ hs GG := by rw [eG25]; exact hM
  refine lv_iconst (v := 0) hx hb dX2_init_51 (by decide) ?_
  refine x_istore_n (lv' := [(2, .inl 0), (0, .inr x0), (1, .inl x1)]) C dX2_init_52 hL (by decide) rfl (fun ls hL => ?_)
  exact k_X2_init_53 C hnm FU (lx_sub hL [1, 0] rfl) hR hS hB hZ hd
end
set_option maxHeartbeats 4000000 in
set_option maxRecDepth 100000 in
theorem ct_X2_init {l : Launch} {b0 : Nat} {D : va_G} {E : Nat → ClassId} {G : Hp} {a0 : Nat} {a1 : Int32} {GG : Hp} (hB : b0 ≤ hn G) (hd : d_X2_init a0 a1 G = some GG) : CT l yX2_init cX2_init 3 none 2 (hn GG - hn G) (hs GG - hs G) b0 D E [rv a0, .int a1] G none GG := by
  refine CT_of (by decide +kernel) ?_
  intro p e s m below meth c C hnm hR
  refine r_entry [.inr a0, .inl a1] (n := 3) (Nat.le_of_ble_eq_true rfl) (lv := [(0, .inr a0), (1, .inl a1)]) rfl (fun ls hL => ?_)
  have k := k_X2_init (n0 := hn G) (s0 := hs G) (l := l) (e := e) (below := below) (H := s.heap) (locs := []) C hnm (lx_sub hL [0, 1] rfl) hR ⟨fun _ _ => rfl, fun _ h => by cases h⟩ hB ⟨Nat.le_refl _, Nat.le_refl _⟩ hd
  rw [Nat.sub_self, Nat.sub_self] at k
  exact k

/-! GroveWorks$Net.targetOf(I)I pure -/
theorem dX2_targetOf_0 : decode cX2_targetOf 0 = .ok (.aload_n 0, 1) := by decide +kernel
theorem dX2_targetOf_1 : decode cX2_targetOf 1 = .ok (.getfield 21, 3) := by decide +kernel
theorem dX2_targetOf_4 : decode cX2_targetOf 4 = .ok (.iload_n 1, 1) := by decide +kernel
theorem dX2_targetOf_5 : decode cX2_targetOf 5 = .ok (.iaload, 1) := by decide +kernel
theorem dX2_targetOf_6 : decode cX2_targetOf 6 = .ok (.iconst (-1), 1) := by decide +kernel
theorem dX2_targetOf_7 : decode cX2_targetOf 7 = .ok (.if_icmp .ne 7, 3) := by decide +kernel
theorem dX2_targetOf_10 : decode cX2_targetOf 10 = .ok (.iconst (-1), 1) := by decide +kernel
theorem dX2_targetOf_11 : decode cX2_targetOf 11 = .ok (.goto 12, 3) := by decide +kernel
theorem dX2_targetOf_14 : decode cX2_targetOf 14 = .ok (.bipush 10, 2) := by decide +kernel
theorem dX2_targetOf_16 : decode cX2_targetOf 16 = .ok (.aload_n 0, 1) := by decide +kernel
theorem dX2_targetOf_17 : decode cX2_targetOf 17 = .ok (.getfield 21, 3) := by decide +kernel
theorem dX2_targetOf_20 : decode cX2_targetOf 20 = .ok (.iload_n 1, 1) := by decide +kernel
theorem dX2_targetOf_21 : decode cX2_targetOf 21 = .ok (.iaload, 1) := by decide +kernel
theorem dX2_targetOf_22 : decode cX2_targetOf 22 = .ok (.iadd, 1) := by decide +kernel
theorem dX2_targetOf_23 : decode cX2_targetOf 23 = .ok (.ireturn, 1) := by decide +kernel
def d_X2_targetOf (x0 : Nat) (x1 : Int32) (G : Hp) : Option (Int32) :=
  gd (hc G x0 = 3) <|
  gd (hc G ((hr G x0 3)) = 11 ∧ ix x1 (hl G ((hr G x0 3)))) <|
  if ((hi G ((hr G x0 3)) x1.toNatClampNeg)) = (-1) then
    some (-1)
  else
    gd (hc G ((hr G x0 3)) = 11 ∧ ix x1 (hl G ((hr G x0 3)))) <|
    some ((10 + ((hi G ((hr G x0 3)) x1.toNatClampNeg))))
section
variable {p : Program} {l : Launch} {e : Env} {s : State} {m : MethodId} {args : Array Value} {below : List Frame} {meth : Method} {c : Code} {b0 : Nat} {D : va_G} {E : Nat → ClassId}
set_option maxHeartbeats 4000000 in
set_option maxRecDepth 100000 in
theorem k_X2_targetOf (C : Cx p s m args meth c RX2 cX2_targetOf 2 (some .int) b0 D E) {rr : Int32} {G : Hp} {x0 : Nat} {x1 : Int32} {ls : Array Slot} {H : Heap} {locs : List Loc} : lx ls 2 [(0, .inr x0), (1, .inl x1)] → Rp b0 D E G H → SS b0 s H locs → d_X2_targetOf x0 x1 G = some rr → W p l e (rmd 0 (0) (0)) s m args below meth c H locs (0) (0) (MQ below (CQ b0 D E (some (.int rr)) G) args s (0) (0) (fun q => b0 ≤ q)) (F0 m 0 ls []) := by
  intro hL hR hS hd
  unfold d_X2_targetOf at hd
  have hx := C.1
  have hb := C.2.1
  refine x_aload_n C dX2_targetOf_0 hL 0 rfl ?_
  obtain ⟨g1, hd⟩ := gd_ex hd
  refine r_getr (ci := 2) (k := 3) C fl_X2_21 rfl dX2_targetOf_1 hR g1 ?_
  refine x_iload_n C dX2_targetOf_4 hL 1 rfl ?_
  obtain ⟨g2, hd⟩ := gd_ex hd
  refine r_iald C dX2_targetOf_5 hR g2 ?_
  refine lv_iconst (v := (-1)) hx hb dX2_targetOf_6 (by decide) ?_
  refine lv_icmp_ne (tgt := 14) hx hb dX2_targetOf_7 (by decide) (fun c3 => ?_) (fun c3 => ?_)
  · rw [if_neg c3] at hd
    refine lv_bipush (v := 10) hx hb dX2_targetOf_14 (by decide) ?_
    refine x_aload_n C dX2_targetOf_16 hL 0 rfl ?_
    refine r_getr (ci := 2) (k := 3) C fl_X2_21 rfl dX2_targetOf_17 hR g1 ?_
    refine x_iload_n C dX2_targetOf_20 hL 1 rfl ?_
    obtain ⟨g4, hd⟩ := gd_ex hd
    refine r_iald C dX2_targetOf_21 hR g4 ?_
    refine lv_iadd hx hb dX2_targetOf_22 ?_
    cases hd
    exact r_iret C dX2_targetOf_23 hR hS
  · rw [if_pos c3] at hd
    refine lv_iconst (v := (-1)) hx hb dX2_targetOf_10 (by decide) ?_
    refine lv_goto (tgt := 23) hx hb dX2_targetOf_11 (by decide) ?_
    cases hd
    exact r_iret C dX2_targetOf_23 hR hS
end
set_option maxHeartbeats 4000000 in
set_option maxRecDepth 100000 in
theorem ct_X2_targetOf {l : Launch} {b0 : Nat} {D : va_G} {E : Nat → ClassId} {G : Hp} {a0 : Nat} {a1 : Int32} {rr : Int32} (hd : d_X2_targetOf a0 a1 G = some rr) : CT l yX2_targetOf cX2_targetOf 2 (some .int) 0 0 0 b0 D E [rv a0, .int a1] G (some (.int rr)) G := by
  refine CT_of (by decide +kernel) ?_
  intro p e s m below meth c C hnm hR
  refine r_entry [.inr a0, .inl a1] (n := 2) (Nat.le_of_ble_eq_true rfl) (lv := [(0, .inr a0), (1, .inl a1)]) rfl (fun ls hL => ?_)
  exact k_X2_targetOf C (lx_sub hL [0, 1] rfl) hR ⟨fun _ _ => rfl, fun _ h => by cases h⟩ hd

/-! GroveWorks$Port.<init>(LGroveWorks$Net;ILGroveWorks$Wire;I)V makes -/
theorem dX3_init_0 : decode cX3_init 0 = .ok (.aload_n 0, 1) := by decide +kernel
theorem dX3_init_1 : decode cX3_init 1 = .ok (.invokespecial 3, 3) := by decide +kernel
theorem dX3_init_4 : decode cX3_init 4 = .ok (.aload_n 0, 1) := by decide +kernel
theorem dX3_init_5 : decode cX3_init 5 = .ok (.iconst 0, 1) := by decide +kernel
theorem dX3_init_6 : decode cX3_init 6 = .ok (.putfield 9, 3) := by decide +kernel
theorem dX3_init_9 : decode cX3_init 9 = .ok (.aload_n 0, 1) := by decide +kernel
theorem dX3_init_10 : decode cX3_init 10 = .ok (.iconst 0, 1) := by decide +kernel
theorem dX3_init_11 : decode cX3_init 11 = .ok (.putfield 15, 3) := by decide +kernel
theorem dX3_init_14 : decode cX3_init 14 = .ok (.aload_n 0, 1) := by decide +kernel
theorem dX3_init_15 : decode cX3_init 15 = .ok (.iconst 0, 1) := by decide +kernel
theorem dX3_init_16 : decode cX3_init 16 = .ok (.putfield 18, 3) := by decide +kernel
theorem dX3_init_19 : decode cX3_init 19 = .ok (.aload_n 0, 1) := by decide +kernel
theorem dX3_init_20 : decode cX3_init 20 = .ok (.bipush 10, 2) := by decide +kernel
theorem dX3_init_22 : decode cX3_init 22 = .ok (.newarray .int, 2) := by decide +kernel
theorem dX3_init_24 : decode cX3_init 24 = .ok (.putfield 21, 3) := by decide +kernel
theorem dX3_init_27 : decode cX3_init 27 = .ok (.aload_n 0, 1) := by decide +kernel
theorem dX3_init_28 : decode cX3_init 28 = .ok (.bipush 8, 2) := by decide +kernel
theorem dX3_init_30 : decode cX3_init 30 = .ok (.newarray .int, 2) := by decide +kernel
theorem dX3_init_32 : decode cX3_init 32 = .ok (.putfield 25, 3) := by decide +kernel
theorem dX3_init_35 : decode cX3_init 35 = .ok (.aload_n 0, 1) := by decide +kernel
theorem dX3_init_36 : decode cX3_init 36 = .ok (.sipush 136, 3) := by decide +kernel
theorem dX3_init_39 : decode cX3_init 39 = .ok (.newarray .int, 2) := by decide +kernel
theorem dX3_init_41 : decode cX3_init 41 = .ok (.putfield 28, 3) := by decide +kernel
theorem dX3_init_44 : decode cX3_init 44 = .ok (.aload_n 0, 1) := by decide +kernel
theorem dX3_init_45 : decode cX3_init 45 = .ok (.sipush 128, 3) := by decide +kernel
theorem dX3_init_48 : decode cX3_init 48 = .ok (.newarray .int, 2) := by decide +kernel
theorem dX3_init_50 : decode cX3_init 50 = .ok (.putfield 31, 3) := by decide +kernel
theorem dX3_init_53 : decode cX3_init 53 = .ok (.aload_n 0, 1) := by decide +kernel
theorem dX3_init_54 : decode cX3_init 54 = .ok (.sipush 128, 3) := by decide +kernel
theorem dX3_init_57 : decode cX3_init 57 = .ok (.newarray .int, 2) := by decide +kernel
theorem dX3_init_59 : decode cX3_init 59 = .ok (.putfield 34, 3) := by decide +kernel
theorem dX3_init_62 : decode cX3_init 62 = .ok (.aload_n 0, 1) := by decide +kernel
theorem dX3_init_63 : decode cX3_init 63 = .ok (.sipush 128, 3) := by decide +kernel
theorem dX3_init_66 : decode cX3_init 66 = .ok (.newarray .int, 2) := by decide +kernel
theorem dX3_init_68 : decode cX3_init 68 = .ok (.putfield 37, 3) := by decide +kernel
theorem dX3_init_71 : decode cX3_init 71 = .ok (.aload_n 0, 1) := by decide +kernel
theorem dX3_init_72 : decode cX3_init 72 = .ok (.aload_n 1, 1) := by decide +kernel
theorem dX3_init_73 : decode cX3_init 73 = .ok (.putfield 40, 3) := by decide +kernel
theorem dX3_init_76 : decode cX3_init 76 = .ok (.aload_n 0, 1) := by decide +kernel
theorem dX3_init_77 : decode cX3_init 77 = .ok (.iload_n 2, 1) := by decide +kernel
theorem dX3_init_78 : decode cX3_init 78 = .ok (.putfield 44, 3) := by decide +kernel
theorem dX3_init_81 : decode cX3_init 81 = .ok (.aload_n 0, 1) := by decide +kernel
theorem dX3_init_82 : decode cX3_init 82 = .ok (.aload_n 3, 1) := by decide +kernel
theorem dX3_init_83 : decode cX3_init 83 = .ok (.putfield 47, 3) := by decide +kernel
theorem dX3_init_86 : decode cX3_init 86 = .ok (.aload_n 0, 1) := by decide +kernel
theorem dX3_init_87 : decode cX3_init 87 = .ok (.iload 4, 2) := by decide +kernel
theorem dX3_init_89 : decode cX3_init 89 = .ok (.putfield 51, 3) := by decide +kernel
theorem dX3_init_92 : decode cX3_init 92 = .ok (.return_, 1) := by decide +kernel
def d_X3_init (x0 : Nat) (x1 : Nat) (x2 : Int32) (x3 : Nat) (x4 : Int32) (G : Hp) : Option (Hp) :=
  mV G <|
  gd (hc G x0 = 4) <|
  bd (sI G x0 4 0) fun G2 =>
  gd (hc G2 x0 = 4) <|
  bd (sI G2 x0 5 0) fun G4 =>
  gd (hc G4 x0 = 4) <|
  bd (sI G4 x0 6 0) fun G6 =>
  bd (hn G6) fun q7 =>
  bd (nC G6 11 (10 : Int32).toNatClampNeg (10 : Int32).toNatClampNeg) fun G8 =>
  mV G8 <|
  gd (hc G8 x0 = 4) <|
  bd (sR G8 x0 7 q7) fun G10 =>
  bd (hn G10) fun q11 =>
  bd (nC G10 11 (8 : Int32).toNatClampNeg (8 : Int32).toNatClampNeg) fun G12 =>
  mV G12 <|
  gd (hc G12 x0 = 4) <|
  bd (sR G12 x0 8 q11) fun G14 =>
  bd (hn G14) fun q15 =>
  bd (nC G14 11 (136 : Int32).toNatClampNeg (136 : Int32).toNatClampNeg) fun G16 =>
  mV G16 <|
  gd (hc G16 x0 = 4) <|
  bd (sR G16 x0 9 q15) fun G18 =>
  bd (hn G18) fun q19 =>
  bd (nC G18 11 (128 : Int32).toNatClampNeg (128 : Int32).toNatClampNeg) fun G20 =>
  mV G20 <|
  gd (hc G20 x0 = 4) <|
  bd (sR G20 x0 10 q19) fun G22 =>
  bd (hn G22) fun q23 =>
  bd (nC G22 11 (128 : Int32).toNatClampNeg (128 : Int32).toNatClampNeg) fun G24 =>
  mV G24 <|
  gd (hc G24 x0 = 4) <|
  bd (sR G24 x0 11 q23) fun G26 =>
  bd (hn G26) fun q27 =>
  bd (nC G26 11 (128 : Int32).toNatClampNeg (128 : Int32).toNatClampNeg) fun G28 =>
  mV G28 <|
  gd (hc G28 x0 = 4) <|
  bd (sR G28 x0 12 q27) fun G30 =>
  gd (hc G30 x0 = 4) <|
  bd (sR G30 x0 0 x1) fun G32 =>
  gd (hc G32 x0 = 4) <|
  bd (sI G32 x0 1 x2) fun G34 =>
  gd (hc G34 x0 = 4) <|
  bd (sR G34 x0 2 x3) fun G36 =>
  gd (hc G36 x0 = 4) <|
  bd (sI G36 x0 3 x4) fun G38 =>
  some G38
section
variable {p : Program} {l : Launch} {e : Env} {s : State} {m : MethodId} {args : Array Value} {below : List Frame} {meth : Method} {c : Code} {b0 : Nat} {D : va_G} {E : Nat → ClassId}
set_option maxHeartbeats 4000000 in
set_option maxRecDepth 100000 in
theorem k_X3_init (C : Cx p s m args meth c RX3 cX3_init 5 none b0 D E) (hnm : meth.name = "<init>") {GG : Hp} {n0 s0 : Nat} {x0 : Nat} {x1 : Nat} {x2 : Int32} {x3 : Nat} {x4 : Int32} {G : Hp} {ls : Array Slot} {H : Heap} {locs : List Loc} : lx ls 5 [(0, .inr x0), (1, .inr x1), (2, .inl x2), (3, .inr x3), (4, .inl x4)] → Rp b0 D E G H → SS b0 s H locs → b0 ≤ hn G → (n0 ≤ hn G ∧ s0 ≤ hs G) → d_X3_init x0 x1 x2 x3 x4 G = some GG → W p l e (rmd 1 (hn GG - n0) (hs GG - s0)) s m args below meth c H locs (hn G - n0) (hs G - s0) (MQ below (CQ b0 D E none GG) args s (hn GG - n0) (hs GG - s0) (fun q => b0 ≤ q)) (F0 m 0 ls []) := by
  intro hL hR hS hB hZ hd
  unfold d_X3_init at hd
  obtain ⟨hM, hd⟩ := mV_ex hd
  have hx := C.1
  have hb := C.2.1
  refine x_aload_n C dX3_init_0 hL 0 rfl ?_
  obtain ⟨g1, hd⟩ := gd_ex hd
  refine r_objI (a := x0) C ml_X3_3 dX3_init_1 (lx_size hL) hR (by rw [g1]; decide) ⟨Nat.le_of_ble_eq_true rfl, Nat.le_of_ble_eq_true rfl⟩ (cat_le [] (Nat.le_of_ble_eq_true rfl)) ?_
  refine x_aload_n C dX3_init_4 hL 0 rfl ?_
  refine lv_iconst (v := 0) hx hb dX3_init_5 (by decide) ?_
  obtain ⟨G2, eG2, hd⟩ := bd_ex hd
  refine r_puti (ci := 3) (k := 4) C fl_X3_9 rfl (Or.inl rfl) dX3_init_6 hR hS g1 (fun H locs hR hS => ?_)
  replace hR : Rp b0 D E G2 H := by rw [eG2]; exact hR
  refine W_cs (c2 := hn G2 - n0) (s2 := hs G2 - s0) (by rw [eG2] <;> rfl) (by rw [eG2] <;> rfl) ?_
  replace hB : b0 ≤ hn G2 := by rw [eG2]; exact hB
  replace hZ : n0 ≤ hn G2 ∧ s0 ≤ hs G2 := by rw [eG2]; exact hZ
  replace hM : hn G2 ≤ hn GG ∧ hs G2 ≤ hs GG := by rw [eG2]; exact hM
  refine x_aload_n C dX3_init_9 hL 0 rfl ?_
  refine lv_iconst (v := 0) hx hb dX3_init_10 (by decide) ?_
  obtain ⟨g3, hd⟩ := gd_ex hd
  obtain ⟨G4, eG4, hd⟩ := bd_ex hd
  refine r_puti (ci := 3) (k := 5) C fl_X3_15 rfl (Or.inl rfl) dX3_init_11 hR hS g3 (fun H locs hR hS => ?_)
  replace hR : Rp b0 D E G4 H := by rw [eG4]; exact hR
  refine W_cs (c2 := hn G4 - n0) (s2 := hs G4 - s0) (by rw [eG4] <;> rfl) (by rw [eG4] <;> rfl) ?_
  replace hB : b0 ≤ hn G4 := by rw [eG4]; exact hB
  replace hZ : n0 ≤ hn G4 ∧ s0 ≤ hs G4 := by rw [eG4]; exact hZ
  replace hM : hn G4 ≤ hn GG ∧ hs G4 ≤ hs GG := by rw [eG4]; exact hM
  refine x_aload_n C dX3_init_14 hL 0 rfl ?_
  refine lv_iconst (v := 0) hx hb dX3_init_15 (by decide) ?_
  obtain ⟨g5, hd⟩ := gd_ex hd
  obtain ⟨G6, eG6, hd⟩ := bd_ex hd
  refine r_puti (ci := 3) (k := 6) C fl_X3_18 rfl (Or.inl rfl) dX3_init_16 hR hS g5 (fun H locs hR hS => ?_)
  replace hR : Rp b0 D E G6 H := by rw [eG6]; exact hR
  refine W_cs (c2 := hn G6 - n0) (s2 := hs G6 - s0) (by rw [eG6] <;> rfl) (by rw [eG6] <;> rfl) ?_
  replace hB : b0 ≤ hn G6 := by rw [eG6]; exact hB
  replace hZ : n0 ≤ hn G6 ∧ s0 ≤ hs G6 := by rw [eG6]; exact hZ
  replace hM : hn G6 ≤ hn GG ∧ hs G6 ≤ hs GG := by rw [eG6]; exact hM
  refine x_aload_n C dX3_init_19 hL 0 rfl ?_
  refine lv_bipush (v := 10) hx hb dX3_init_20 (by decide) ?_
  obtain ⟨q7, eq7, hd⟩ := bd_ex hd
  obtain ⟨G8, eG8, hd⟩ := bd_ex hd
  obtain ⟨hM, hd⟩ := mV_ex hd
  have hm1 : hn G8 = hn G6 + 1 ∧ hs G8 = hs G6 + (10 : Int32).toNatClampNeg := by rw [eG8]; exact ⟨rfl, rfl⟩
  refine r_newa (t := 11) C (Or.inl ⟨rfl, rfl⟩) dX3_init_22 hR hS hB hZ (by decide) ⟨by show hn G6 + 1 - n0 ≤ hn GG - n0; omega, by show hs G6 + (10 : Int32).toNatClampNeg - s0 ≤ hs GG - s0; omega⟩ (fun H locs hR hS => ?_)
  rw [← eq7]
  refine W_cs (c2 := hn G8 - n0) (s2 := hs G8 - s0) (by rw [eG8] <;> rfl) (by rw [eG8] <;> rfl) ?_
  replace hR : Rp b0 D E G8 H := by rw [eG8]; exact hR
  replace hB : b0 ≤ hn G8 := by omega
  replace hZ : n0 ≤ hn G8 ∧ s0 ≤ hs G8 := by omega
  obtain ⟨g9, hd⟩ := gd_ex hd
  obtain ⟨G10, eG10, hd⟩ := bd_ex hd
  refine r_putr (ci := 3) (k := 7) C fl_X3_21 (Or.inr ⟨_, rfl⟩) (Or.inr ⟨rfl, hnm, rfl⟩) dX3_init_24 hR hS g9 (fun H locs hR hS => ?_)
  replace hR : Rp b0 D E G10 H := by rw [eG10]; exact hR
  refine W_cs (c2 := hn G10 - n0) (s2 := hs G10 - s0) (by rw [eG10] <;> rfl) (by rw [eG10] <;> rfl) ?_
  replace hB : b0 ≤ hn G10 := by rw [eG10]; exact hB
  replace hZ : n0 ≤ hn G10 ∧ s0 ≤ hs G10 := by rw [eG10]; exact hZ
  replace hM : hn G10 ≤ hn GG ∧ hs G10 ≤ hs GG := by rw [eG10]; exact hM
  refine x_aload_n C dX3_init_27 hL 0 rfl ?_
  refine lv_bipush (v := 8) hx hb dX3_init_28 (by decide) ?_
  obtain ⟨q11, eq11, hd⟩ := bd_ex hd
  obtain ⟨G12, eG12, hd⟩ := bd_ex hd
  obtain ⟨hM, hd⟩ := mV_ex hd
  have hm1 : hn G12 = hn G10 + 1 ∧ hs G12 = hs G10 + (8 : Int32).toNatClampNeg := by rw [eG12]; exact ⟨rfl, rfl⟩
  refine r_newa (t := 11) C (Or.inl ⟨rfl, rfl⟩) dX3_init_30 hR hS hB hZ (by decide) ⟨by show hn G10 + 1 - n0 ≤ hn GG - n0; omega, by show hs G10 + (8 : Int32).toNatClampNeg - s0 ≤ hs GG - s0; omega⟩ (fun H locs hR hS => ?_)
  rw [← eq11]
  refine W_cs (c2 := hn G12 - n0) (s2 := hs G12 - s0) (by rw [eG12] <;> rfl) (by rw [eG12] <;> rfl) ?_
  replace hR : Rp b0 D E G12 H := by rw [eG12]; exact hR
  replace hB : b0 ≤ hn G12 := by omega
  replace hZ : n0 ≤ hn G12 ∧ s0 ≤ hs G12 := by omega
  obtain ⟨g13, hd⟩ := gd_ex hd
  obtain ⟨G14, eG14, hd⟩ := bd_ex hd
  refine r_putr (ci := 3) (k := 8) C fl_X3_25 (Or.inr ⟨_, rfl⟩) (Or.inr ⟨rfl, hnm, rfl⟩) dX3_init_32 hR hS g13 (fun H locs hR hS => ?_)
  replace hR : Rp b0 D E G14 H := by rw [eG14]; exact hR
  refine W_cs (c2 := hn G14 - n0) (s2 := hs G14 - s0) (by rw [eG14] <;> rfl) (by rw [eG14] <;> rfl) ?_
  replace hB : b0 ≤ hn G14 := by rw [eG14]; exact hB
  replace hZ : n0 ≤ hn G14 ∧ s0 ≤ hs G14 := by rw [eG14]; exact hZ
  replace hM : hn G14 ≤ hn GG ∧ hs G14 ≤ hs GG := by rw [eG14]; exact hM
  refine x_aload_n C dX3_init_35 hL 0 rfl ?_
  refine lv_sipush (v := 136) hx hb dX3_init_36 (by decide) ?_
  obtain ⟨q15, eq15, hd⟩ := bd_ex hd
  obtain ⟨G16, eG16, hd⟩ := bd_ex hd
  obtain ⟨hM, hd⟩ := mV_ex hd
  have hm1 : hn G16 = hn G14 + 1 ∧ hs G16 = hs G14 + (136 : Int32).toNatClampNeg := by rw [eG16]; exact ⟨rfl, rfl⟩
  refine r_newa (t := 11) C (Or.inl ⟨rfl, rfl⟩) dX3_init_39 hR hS hB hZ (by decide) ⟨by show hn G14 + 1 - n0 ≤ hn GG - n0; omega, by show hs G14 + (136 : Int32).toNatClampNeg - s0 ≤ hs GG - s0; omega⟩ (fun H locs hR hS => ?_)
  rw [← eq15]
  refine W_cs (c2 := hn G16 - n0) (s2 := hs G16 - s0) (by rw [eG16] <;> rfl) (by rw [eG16] <;> rfl) ?_
  replace hR : Rp b0 D E G16 H := by rw [eG16]; exact hR
  replace hB : b0 ≤ hn G16 := by omega
  replace hZ : n0 ≤ hn G16 ∧ s0 ≤ hs G16 := by omega
  obtain ⟨g17, hd⟩ := gd_ex hd
  obtain ⟨G18, eG18, hd⟩ := bd_ex hd
  refine r_putr (ci := 3) (k := 9) C fl_X3_28 (Or.inr ⟨_, rfl⟩) (Or.inr ⟨rfl, hnm, rfl⟩) dX3_init_41 hR hS g17 (fun H locs hR hS => ?_)
  replace hR : Rp b0 D E G18 H := by rw [eG18]; exact hR
  refine W_cs (c2 := hn G18 - n0) (s2 := hs G18 - s0) (by rw [eG18] <;> rfl) (by rw [eG18] <;> rfl) ?_
  replace hB : b0 ≤ hn G18 := by rw [eG18]; exact hB
  replace hZ : n0 ≤ hn G18 ∧ s0 ≤ hs G18 := by rw [eG18]; exact hZ
  replace hM : hn G18 ≤ hn GG ∧ hs G18 ≤ hs GG := by rw [eG18]; exact hM
  refine x_aload_n C dX3_init_44 hL 0 rfl ?_
  refine lv_sipush (v := 128) hx hb dX3_init_45 (by decide) ?_
  obtain ⟨q19, eq19, hd⟩ := bd_ex hd
  obtain ⟨G20, eG20, hd⟩ := bd_ex hd
  obtain ⟨hM, hd⟩ := mV_ex hd
  have hm1 : hn G20 = hn G18 + 1 ∧ hs G20 = hs G18 + (128 : Int32).toNatClampNeg := by rw [eG20]; exact ⟨rfl, rfl⟩
  refine r_newa (t := 11) C (Or.inl ⟨rfl, rfl⟩) dX3_init_48 hR hS hB hZ (by decide) ⟨by show hn G18 + 1 - n0 ≤ hn GG - n0; omega, by show hs G18 + (128 : Int32).toNatClampNeg - s0 ≤ hs GG - s0; omega⟩ (fun H locs hR hS => ?_)
  rw [← eq19]
  refine W_cs (c2 := hn G20 - n0) (s2 := hs G20 - s0) (by rw [eG20] <;> rfl) (by rw [eG20] <;> rfl) ?_
  replace hR : Rp b0 D E G20 H := by rw [eG20]; exact hR
  replace hB : b0 ≤ hn G20 := by omega
  replace hZ : n0 ≤ hn G20 ∧ s0 ≤ hs G20 := by omega
  obtain ⟨g21, hd⟩ := gd_ex hd
  obtain ⟨G22, eG22, hd⟩ := bd_ex hd
  refine r_putr (ci := 3) (k := 10) C fl_X3_31 (Or.inr ⟨_, rfl⟩) (Or.inr ⟨rfl, hnm, rfl⟩) dX3_init_50 hR hS g21 (fun H locs hR hS => ?_)
  replace hR : Rp b0 D E G22 H := by rw [eG22]; exact hR
  refine W_cs (c2 := hn G22 - n0) (s2 := hs G22 - s0) (by rw [eG22] <;> rfl) (by rw [eG22] <;> rfl) ?_
  replace hB : b0 ≤ hn G22 := by rw [eG22]; exact hB
  replace hZ : n0 ≤ hn G22 ∧ s0 ≤ hs G22 := by rw [eG22]; exact hZ
  replace hM : hn G22 ≤ hn GG ∧ hs G22 ≤ hs GG := by rw [eG22]; exact hM
  refine x_aload_n C dX3_init_53 hL 0 rfl ?_
  refine lv_sipush (v := 128) hx hb dX3_init_54 (by decide) ?_
  obtain ⟨q23, eq23, hd⟩ := bd_ex hd
  obtain ⟨G24, eG24, hd⟩ := bd_ex hd
  obtain ⟨hM, hd⟩ := mV_ex hd
  have hm1 : hn G24 = hn G22 + 1 ∧ hs G24 = hs G22 + (128 : Int32).toNatClampNeg := by rw [eG24]; exact ⟨rfl, rfl⟩
  refine r_newa (t := 11) C (Or.inl ⟨rfl, rfl⟩) dX3_init_57 hR hS hB hZ (by decide) ⟨by show hn G22 + 1 - n0 ≤ hn GG - n0; omega, by show hs G22 + (128 : Int32).toNatClampNeg - s0 ≤ hs GG - s0; omega⟩ (fun H locs hR hS => ?_)
  rw [← eq23]
  refine W_cs (c2 := hn G24 - n0) (s2 := hs G24 - s0) (by rw [eG24] <;> rfl) (by rw [eG24] <;> rfl) ?_
  replace hR : Rp b0 D E G24 H := by rw [eG24]; exact hR
  replace hB : b0 ≤ hn G24 := by omega
  replace hZ : n0 ≤ hn G24 ∧ s0 ≤ hs G24 := by omega
  obtain ⟨g25, hd⟩ := gd_ex hd
  obtain ⟨G26, eG26, hd⟩ := bd_ex hd
  refine r_putr (ci := 3) (k := 11) C fl_X3_34 (Or.inr ⟨_, rfl⟩) (Or.inr ⟨rfl, hnm, rfl⟩) dX3_init_59 hR hS g25 (fun H locs hR hS => ?_)
  replace hR : Rp b0 D E G26 H := by rw [eG26]; exact hR
  refine W_cs (c2 := hn G26 - n0) (s2 := hs G26 - s0) (by rw [eG26] <;> rfl) (by rw [eG26] <;> rfl) ?_
  replace hB : b0 ≤ hn G26 := by rw [eG26]; exact hB
  replace hZ : n0 ≤ hn G26 ∧ s0 ≤ hs G26 := by rw [eG26]; exact hZ
  replace hM : hn G26 ≤ hn GG ∧ hs G26 ≤ hs GG := by rw [eG26]; exact hM
  refine x_aload_n C dX3_init_62 hL 0 rfl ?_
  refine lv_sipush (v := 128) hx hb dX3_init_63 (by decide) ?_
  obtain ⟨q27, eq27, hd⟩ := bd_ex hd
  obtain ⟨G28, eG28, hd⟩ := bd_ex hd
  obtain ⟨hM, hd⟩ := mV_ex hd
  have hm1 : hn G28 = hn G26 + 1 ∧ hs G28 = hs G26 + (128 : Int32).toNatClampNeg := by rw [eG28]; exact ⟨rfl, rfl⟩
  refine r_newa (t := 11) C (Or.inl ⟨rfl, rfl⟩) dX3_init_66 hR hS hB hZ (by decide) ⟨by show hn G26 + 1 - n0 ≤ hn GG - n0; omega, by show hs G26 + (128 : Int32).toNatClampNeg - s0 ≤ hs GG - s0; omega⟩ (fun H locs hR hS => ?_)
  rw [← eq27]
  refine W_cs (c2 := hn G28 - n0) (s2 := hs G28 - s0) (by rw [eG28] <;> rfl) (by rw [eG28] <;> rfl) ?_
  replace hR : Rp b0 D E G28 H := by rw [eG28]; exact hR
  replace hB : b0 ≤ hn G28 := by omega
  replace hZ : n0 ≤ hn G28 ∧ s0 ≤ hs G28 := by omega
  obtain ⟨g29, hd⟩ := gd_ex hd
  obtain ⟨G30, eG30, hd⟩ := bd_ex hd
  refine r_putr (ci := 3) (k := 12) C fl_X3_37 (Or.inr ⟨_, rfl⟩) (Or.inr ⟨rfl, hnm, rfl⟩) dX3_init_68 hR hS g29 (fun H locs hR hS => ?_)
  replace hR : Rp b0 D E G30 H := by rw [eG30]; exact hR
  refine W_cs (c2 := hn G30 - n0) (s2 := hs G30 - s0) (by rw [eG30] <;> rfl) (by rw [eG30] <;> rfl) ?_
  replace hB : b0 ≤ hn G30 := by rw [eG30]; exact hB
  replace hZ : n0 ≤ hn G30 ∧ s0 ≤ hs G30 := by rw [eG30]; exact hZ
  replace hM : hn G30 ≤ hn GG ∧ hs G30 ≤ hs GG := by rw [eG30]; exact hM
  refine x_aload_n C dX3_init_71 hL 0 rfl ?_
  refine x_aload_n C dX3_init_72 hL 1 rfl ?_
  obtain ⟨g31, hd⟩ := gd_ex hd
  obtain ⟨G32, eG32, hd⟩ := bd_ex hd
  refine r_putr (ci := 3) (k := 0) C fl_X3_40 (Or.inl ⟨_, rfl⟩) (Or.inr ⟨rfl, hnm, rfl⟩) dX3_init_73 hR hS g31 (fun H locs hR hS => ?_)
  replace hR : Rp b0 D E G32 H := by rw [eG32]; exact hR
  refine W_cs (c2 := hn G32 - n0) (s2 := hs G32 - s0) (by rw [eG32] <;> rfl) (by rw [eG32] <;> rfl) ?_
  replace hB : b0 ≤ hn G32 := by rw [eG32]; exact hB
  replace hZ : n0 ≤ hn G32 ∧ s0 ≤ hs G32 := by rw [eG32]; exact hZ
  replace hM : hn G32 ≤ hn GG ∧ hs G32 ≤ hs GG := by rw [eG32]; exact hM
  refine x_aload_n C dX3_init_76 hL 0 rfl ?_
  refine x_iload_n C dX3_init_77 hL 2 rfl ?_
  obtain ⟨g33, hd⟩ := gd_ex hd
  obtain ⟨G34, eG34, hd⟩ := bd_ex hd
  refine r_puti (ci := 3) (k := 1) C fl_X3_44 rfl (Or.inr ⟨rfl, hnm, rfl⟩) dX3_init_78 hR hS g33 (fun H locs hR hS => ?_)
  replace hR : Rp b0 D E G34 H := by rw [eG34]; exact hR
  refine W_cs (c2 := hn G34 - n0) (s2 := hs G34 - s0) (by rw [eG34] <;> rfl) (by rw [eG34] <;> rfl) ?_
  replace hB : b0 ≤ hn G34 := by rw [eG34]; exact hB
  replace hZ : n0 ≤ hn G34 ∧ s0 ≤ hs G34 := by rw [eG34]; exact hZ
  replace hM : hn G34 ≤ hn GG ∧ hs G34 ≤ hs GG := by rw [eG34]; exact hM
  refine x_aload_n C dX3_init_81 hL 0 rfl ?_
  refine x_aload_n C dX3_init_82 hL 3 rfl ?_
  obtain ⟨g35, hd⟩ := gd_ex hd
  obtain ⟨G36, eG36, hd⟩ := bd_ex hd
  refine r_putr (ci := 3) (k := 2) C fl_X3_47 (Or.inl ⟨_, rfl⟩) (Or.inr ⟨rfl, hnm, rfl⟩) dX3_init_83 hR hS g35 (fun H locs hR hS => ?_)
  replace hR : Rp b0 D E G36 H := by rw [eG36]; exact hR
  refine W_cs (c2 := hn G36 - n0) (s2 := hs G36 - s0) (by rw [eG36] <;> rfl) (by rw [eG36] <;> rfl) ?_
  replace hB : b0 ≤ hn G36 := by rw [eG36]; exact hB
  replace hZ : n0 ≤ hn G36 ∧ s0 ≤ hs G36 := by rw [eG36]; exact hZ
  replace hM : hn G36 ≤ hn GG ∧ hs G36 ≤ hs GG := by rw [eG36]; exact hM
  refine x_aload_n C dX3_init_86 hL 0 rfl ?_
  refine x_iload C dX3_init_87 hL 4 rfl ?_
  obtain ⟨g37, hd⟩ := gd_ex hd
  obtain ⟨G38, eG38, hd⟩ := bd_ex hd
  refine r_puti (ci := 3) (k := 3) C fl_X3_51 rfl (Or.inr ⟨rfl, hnm, rfl⟩) dX3_init_89 hR hS g37 (fun H locs hR hS => ?_)
  replace hR : Rp b0 D E G38 H := by rw [eG38]; exact hR
  refine W_cs (c2 := hn G38 - n0) (s2 := hs G38 - s0) (by rw [eG38] <;> rfl) (by rw [eG38] <;> rfl) ?_
  replace hB : b0 ≤ hn G38 := by rw [eG38]; exact hB
  replace hZ : n0 ≤ hn G38 ∧ s0 ≤ hs G38 := by rw [eG38]; exact hZ
  replace hM : hn G38 ≤ hn GG ∧ hs G38 ≤ hs GG := by rw [eG38]; exact hM
  cases hd
  exact r_vret C dX3_init_92 hR hS
end
set_option maxHeartbeats 4000000 in
set_option maxRecDepth 100000 in
theorem ct_X3_init {l : Launch} {b0 : Nat} {D : va_G} {E : Nat → ClassId} {G : Hp} {a0 : Nat} {a1 : Nat} {a2 : Int32} {a3 : Nat} {a4 : Int32} {GG : Hp} (hB : b0 ≤ hn G) (hd : d_X3_init a0 a1 a2 a3 a4 G = some GG) : CT l yX3_init cX3_init 5 none 1 (hn GG - hn G) (hs GG - hs G) b0 D E [rv a0, rv a1, .int a2, rv a3, .int a4] G none GG := by
  refine CT_of (by decide +kernel) ?_
  intro p e s m below meth c C hnm hR
  refine r_entry [.inr a0, .inr a1, .inl a2, .inr a3, .inl a4] (n := 5) (Nat.le_of_ble_eq_true rfl) (lv := [(0, .inr a0), (1, .inr a1), (2, .inl a2), (3, .inr a3), (4, .inl a4)]) rfl (fun ls hL => ?_)
  have k := k_X3_init (n0 := hn G) (s0 := hs G) (l := l) (e := e) (below := below) (H := s.heap) (locs := []) C hnm (lx_sub hL [0, 1, 2, 3, 4] rfl) hR ⟨fun _ _ => rfl, fun _ h => by cases h⟩ hB ⟨Nat.le_refl _, Nat.le_refl _⟩ hd
  rw [Nat.sub_self, Nat.sub_self] at k
  exact k

/-! GroveWorks$Port.forget()V -/
theorem dX3_forget_0 : decode cX3_forget 0 = .ok (.aload_n 0, 1) := by decide +kernel
theorem dX3_forget_1 : decode cX3_forget 1 = .ok (.iconst 0, 1) := by decide +kernel
theorem dX3_forget_2 : decode cX3_forget 2 = .ok (.putfield 9, 3) := by decide +kernel
theorem dX3_forget_5 : decode cX3_forget 5 = .ok (.aload_n 0, 1) := by decide +kernel
theorem dX3_forget_6 : decode cX3_forget 6 = .ok (.iconst 0, 1) := by decide +kernel
theorem dX3_forget_7 : decode cX3_forget 7 = .ok (.putfield 15, 3) := by decide +kernel
theorem dX3_forget_10 : decode cX3_forget 10 = .ok (.aload_n 0, 1) := by decide +kernel
theorem dX3_forget_11 : decode cX3_forget 11 = .ok (.iconst 0, 1) := by decide +kernel
theorem dX3_forget_12 : decode cX3_forget 12 = .ok (.putfield 18, 3) := by decide +kernel
theorem dX3_forget_15 : decode cX3_forget 15 = .ok (.aload_n 0, 1) := by decide +kernel
theorem dX3_forget_16 : decode cX3_forget 16 = .ok (.getfield 21, 3) := by decide +kernel
theorem dX3_forget_19 : decode cX3_forget 19 = .ok (.iconst 0, 1) := by decide +kernel
theorem dX3_forget_20 : decode cX3_forget 20 = .ok (.invokestatic 54, 3) := by decide +kernel
theorem dX3_forget_23 : decode cX3_forget 23 = .ok (.aload_n 0, 1) := by decide +kernel
theorem dX3_forget_24 : decode cX3_forget 24 = .ok (.getfield 25, 3) := by decide +kernel
theorem dX3_forget_27 : decode cX3_forget 27 = .ok (.iconst 0, 1) := by decide +kernel
theorem dX3_forget_28 : decode cX3_forget 28 = .ok (.invokestatic 54, 3) := by decide +kernel
theorem dX3_forget_31 : decode cX3_forget 31 = .ok (.aload_n 0, 1) := by decide +kernel
theorem dX3_forget_32 : decode cX3_forget 32 = .ok (.getfield 28, 3) := by decide +kernel
theorem dX3_forget_35 : decode cX3_forget 35 = .ok (.iconst 0, 1) := by decide +kernel
theorem dX3_forget_36 : decode cX3_forget 36 = .ok (.invokestatic 54, 3) := by decide +kernel
theorem dX3_forget_39 : decode cX3_forget 39 = .ok (.aload_n 0, 1) := by decide +kernel
theorem dX3_forget_40 : decode cX3_forget 40 = .ok (.getfield 31, 3) := by decide +kernel
theorem dX3_forget_43 : decode cX3_forget 43 = .ok (.iconst 0, 1) := by decide +kernel
theorem dX3_forget_44 : decode cX3_forget 44 = .ok (.invokestatic 54, 3) := by decide +kernel
theorem dX3_forget_47 : decode cX3_forget 47 = .ok (.aload_n 0, 1) := by decide +kernel
theorem dX3_forget_48 : decode cX3_forget 48 = .ok (.getfield 34, 3) := by decide +kernel
theorem dX3_forget_51 : decode cX3_forget 51 = .ok (.iconst 0, 1) := by decide +kernel
theorem dX3_forget_52 : decode cX3_forget 52 = .ok (.invokestatic 54, 3) := by decide +kernel
theorem dX3_forget_55 : decode cX3_forget 55 = .ok (.aload_n 0, 1) := by decide +kernel
theorem dX3_forget_56 : decode cX3_forget 56 = .ok (.getfield 37, 3) := by decide +kernel
theorem dX3_forget_59 : decode cX3_forget 59 = .ok (.iconst 0, 1) := by decide +kernel
theorem dX3_forget_60 : decode cX3_forget 60 = .ok (.invokestatic 54, 3) := by decide +kernel
theorem dX3_forget_63 : decode cX3_forget 63 = .ok (.return_, 1) := by decide +kernel
def d_X3_forget (x0 : Nat) (G : Hp) : Option (Hp) :=
  gd (hc G x0 = 4) <|
  bd (sI G x0 4 0) fun G2 =>
  gd (hc G2 x0 = 4) <|
  bd (sI G2 x0 5 0) fun G4 =>
  gd (hc G4 x0 = 4) <|
  bd (sI G4 x0 6 0) fun G6 =>
  gd (hc G6 x0 = 4) <|
  bo (d_J7_fill_53178 ((hr G6 x0 7)) 0 G6) fun G9 =>
  gd (hc G9 x0 = 4) <|
  bo (d_J7_fill_53178 ((hr G9 x0 8)) 0 G9) fun G12 =>
  gd (hc G12 x0 = 4) <|
  bo (d_J7_fill_53178 ((hr G12 x0 9)) 0 G12) fun G15 =>
  gd (hc G15 x0 = 4) <|
  bo (d_J7_fill_53178 ((hr G15 x0 10)) 0 G15) fun G18 =>
  gd (hc G18 x0 = 4) <|
  bo (d_J7_fill_53178 ((hr G18 x0 11)) 0 G18) fun G21 =>
  gd (hc G21 x0 = 4) <|
  bo (d_J7_fill_53178 ((hr G21 x0 12)) 0 G21) fun G24 =>
  some G24
section
variable {p : Program} {l : Launch} {e : Env} {s : State} {m : MethodId} {args : Array Value} {below : List Frame} {meth : Method} {c : Code} {b0 : Nat} {D : va_G} {E : Nat → ClassId}
set_option maxHeartbeats 4000000 in
set_option maxRecDepth 100000 in
theorem k_X3_forget (C : Cx p s m args meth c RX3 cX3_forget 1 none b0 D E) {GG : Hp} {x0 : Nat} {G : Hp} {ls : Array Slot} {H : Heap} {locs : List Loc} : lx ls 1 [(0, .inr x0)] → Rp b0 D E G H → SS b0 s H locs → d_X3_forget x0 G = some GG → W p l e (rmd 1 (0) (0)) s m args below meth c H locs (0) (0) (MQ below (CQ b0 D E none GG) args s (0) (0) (fun q => b0 ≤ q)) (F0 m 0 ls []) := by
  intro hL hR hS hd
  unfold d_X3_forget at hd
  have hx := C.1
  have hb := C.2.1
  refine x_aload_n C dX3_forget_0 hL 0 rfl ?_
  refine lv_iconst (v := 0) hx hb dX3_forget_1 (by decide) ?_
  obtain ⟨g1, hd⟩ := gd_ex hd
  obtain ⟨G2, eG2, hd⟩ := bd_ex hd
  refine r_puti (ci := 3) (k := 4) C fl_X3_9 rfl (Or.inl rfl) dX3_forget_2 hR hS g1 (fun H locs hR hS => ?_)
  replace hR : Rp b0 D E G2 H := by rw [eG2]; exact hR
  refine x_aload_n C dX3_forget_5 hL 0 rfl ?_
  refine lv_iconst (v := 0) hx hb dX3_forget_6 (by decide) ?_
  obtain ⟨g3, hd⟩ := gd_ex hd
  obtain ⟨G4, eG4, hd⟩ := bd_ex hd
  refine r_puti (ci := 3) (k := 5) C fl_X3_15 rfl (Or.inl rfl) dX3_forget_7 hR hS g3 (fun H locs hR hS => ?_)
  replace hR : Rp b0 D E G4 H := by rw [eG4]; exact hR
  refine x_aload_n C dX3_forget_10 hL 0 rfl ?_
  refine lv_iconst (v := 0) hx hb dX3_forget_11 (by decide) ?_
  obtain ⟨g5, hd⟩ := gd_ex hd
  obtain ⟨G6, eG6, hd⟩ := bd_ex hd
  refine r_puti (ci := 3) (k := 6) C fl_X3_18 rfl (Or.inl rfl) dX3_forget_12 hR hS g5 (fun H locs hR hS => ?_)
  replace hR : Rp b0 D E G6 H := by rw [eG6]; exact hR
  refine x_aload_n C dX3_forget_15 hL 0 rfl ?_
  obtain ⟨g7, hd⟩ := gd_ex hd
  refine r_getr (ci := 3) (k := 7) C fl_X3_21 rfl dX3_forget_16 hR g7 ?_
  refine lv_iconst (v := 0) hx hb dX3_forget_19 (by decide) ?_
  obtain ⟨G9, h8, hd⟩ := bo_ex hd
  refine r_callS (As := [rv ((hr G6 x0 7)), .int 0]) C (ct_J7_fill_53178 h8) mf_J7_fill_53178 ml_X3_54 ms_J7_fill_53178 rfl ⟨Nat.le_of_ble_eq_true rfl, Nat.le_of_ble_eq_true rfl⟩ dX3_forget_20 (lx_size hL) rfl hR hS ⟨Nat.le_refl _, Nat.le_refl _⟩ (cat_le [] (Nat.le_of_ble_eq_true rfl)) (fun H locs hR hS => ?_)
  refine W_st (st2 := []) rfl ?_
  refine x_aload_n C dX3_forget_23 hL 0 rfl ?_
  obtain ⟨g10, hd⟩ := gd_ex hd
  refine r_getr (ci := 3) (k := 8) C fl_X3_25 rfl dX3_forget_24 hR g10 ?_
  refine lv_iconst (v := 0) hx hb dX3_forget_27 (by decide) ?_
  obtain ⟨G12, h11, hd⟩ := bo_ex hd
  refine r_callS (As := [rv ((hr G9 x0 8)), .int 0]) C (ct_J7_fill_53178 h11) mf_J7_fill_53178 ml_X3_54 ms_J7_fill_53178 rfl ⟨Nat.le_of_ble_eq_true rfl, Nat.le_of_ble_eq_true rfl⟩ dX3_forget_28 (lx_size hL) rfl hR hS ⟨Nat.le_refl _, Nat.le_refl _⟩ (cat_le [] (Nat.le_of_ble_eq_true rfl)) (fun H locs hR hS => ?_)
  refine W_st (st2 := []) rfl ?_
  refine x_aload_n C dX3_forget_31 hL 0 rfl ?_
  obtain ⟨g13, hd⟩ := gd_ex hd
  refine r_getr (ci := 3) (k := 9) C fl_X3_28 rfl dX3_forget_32 hR g13 ?_
  refine lv_iconst (v := 0) hx hb dX3_forget_35 (by decide) ?_
  obtain ⟨G15, h14, hd⟩ := bo_ex hd
  refine r_callS (As := [rv ((hr G12 x0 9)), .int 0]) C (ct_J7_fill_53178 h14) mf_J7_fill_53178 ml_X3_54 ms_J7_fill_53178 rfl ⟨Nat.le_of_ble_eq_true rfl, Nat.le_of_ble_eq_true rfl⟩ dX3_forget_36 (lx_size hL) rfl hR hS ⟨Nat.le_refl _, Nat.le_refl _⟩ (cat_le [] (Nat.le_of_ble_eq_true rfl)) (fun H locs hR hS => ?_)
  refine W_st (st2 := []) rfl ?_
  refine x_aload_n C dX3_forget_39 hL 0 rfl ?_
  obtain ⟨g16, hd⟩ := gd_ex hd
  refine r_getr (ci := 3) (k := 10) C fl_X3_31 rfl dX3_forget_40 hR g16 ?_
  refine lv_iconst (v := 0) hx hb dX3_forget_43 (by decide) ?_
  obtain ⟨G18, h17, hd⟩ := bo_ex hd
  refine r_callS (As := [rv ((hr G15 x0 10)), .int 0]) C (ct_J7_fill_53178 h17) mf_J7_fill_53178 ml_X3_54 ms_J7_fill_53178 rfl ⟨Nat.le_of_ble_eq_true rfl, Nat.le_of_ble_eq_true rfl⟩ dX3_forget_44 (lx_size hL) rfl hR hS ⟨Nat.le_refl _, Nat.le_refl _⟩ (cat_le [] (Nat.le_of_ble_eq_true rfl)) (fun H locs hR hS => ?_)
  refine W_st (st2 := []) rfl ?_
  refine x_aload_n C dX3_forget_47 hL 0 rfl ?_
  obtain ⟨g19, hd⟩ := gd_ex hd
  refine r_getr (ci := 3) (k := 11) C fl_X3_34 rfl dX3_forget_48 hR g19 ?_
  refine lv_iconst (v := 0) hx hb dX3_forget_51 (by decide) ?_
  obtain ⟨G21, h20, hd⟩ := bo_ex hd
  refine r_callS (As := [rv ((hr G18 x0 11)), .int 0]) C (ct_J7_fill_53178 h20) mf_J7_fill_53178 ml_X3_54 ms_J7_fill_53178 rfl ⟨Nat.le_of_ble_eq_true rfl, Nat.le_of_ble_eq_true rfl⟩ dX3_forget_52 (lx_size hL) rfl hR hS ⟨Nat.le_refl _, Nat.le_refl _⟩ (cat_le [] (Nat.le_of_ble_eq_true rfl)) (fun H locs hR hS => ?_)
  refine W_st (st2 := []) rfl ?_
  refine x_aload_n C dX3_forget_55 hL 0 rfl ?_
  obtain ⟨g22, hd⟩ := gd_ex hd
  refine r_getr (ci := 3) (k := 12) C fl_X3_37 rfl dX3_forget_56 hR g22 ?_
  refine lv_iconst (v := 0) hx hb dX3_forget_59 (by decide) ?_
  obtain ⟨G24, h23, hd⟩ := bo_ex hd
  refine r_callS (As := [rv ((hr G21 x0 12)), .int 0]) C (ct_J7_fill_53178 h23) mf_J7_fill_53178 ml_X3_54 ms_J7_fill_53178 rfl ⟨Nat.le_of_ble_eq_true rfl, Nat.le_of_ble_eq_true rfl⟩ dX3_forget_60 (lx_size hL) rfl hR hS ⟨Nat.le_refl _, Nat.le_refl _⟩ (cat_le [] (Nat.le_of_ble_eq_true rfl)) (fun H locs hR hS => ?_)
  refine W_st (st2 := []) rfl ?_
  cases hd
  exact r_vret C dX3_forget_63 hR hS
end
set_option maxHeartbeats 4000000 in
set_option maxRecDepth 100000 in
theorem ct_X3_forget {l : Launch} {b0 : Nat} {D : va_G} {E : Nat → ClassId} {G : Hp} {a0 : Nat} {GG : Hp} (hd : d_X3_forget a0 G = some GG) : CT l yX3_forget cX3_forget 1 none 1 0 0 b0 D E [rv a0] G none GG := by
  refine CT_of (by decide +kernel) ?_
  intro p e s m below meth c C hnm hR
  refine r_entry [.inr a0] (n := 1) (Nat.le_of_ble_eq_true rfl) (lv := [(0, .inr a0)]) rfl (fun ls hL => ?_)
  exact k_X3_forget C (lx_sub hL [0] rfl) hR ⟨fun _ _ => rfl, fun _ h => by cases h⟩ hd

/-! GroveWorks$Port.dropNeighbours()V -/
theorem dX3_dropNeighbours_0 : decode cX3_dropNeighbours 0 = .ok (.iconst 0, 1) := by decide +kernel
theorem dX3_dropNeighbours_1 : decode cX3_dropNeighbours 1 = .ok (.istore_n 1, 1) := by decide +kernel
theorem dX3_dropNeighbours_2 : decode cX3_dropNeighbours 2 = .ok (.iload_n 1, 1) := by decide +kernel
theorem dX3_dropNeighbours_3 : decode cX3_dropNeighbours 3 = .ok (.bipush 10, 2) := by decide +kernel
theorem dX3_dropNeighbours_5 : decode cX3_dropNeighbours 5 = .ok (.if_icmp .ge 46, 3) := by decide +kernel
theorem dX3_dropNeighbours_8 : decode cX3_dropNeighbours 8 = .ok (.aload_n 0, 1) := by decide +kernel
theorem dX3_dropNeighbours_9 : decode cX3_dropNeighbours 9 = .ok (.getfield 9, 3) := by decide +kernel
theorem dX3_dropNeighbours_12 : decode cX3_dropNeighbours 12 = .ok (.ifCond .eq 39, 3) := by decide +kernel
theorem dX3_dropNeighbours_15 : decode cX3_dropNeighbours 15 = .ok (.aload_n 0, 1) := by decide +kernel
theorem dX3_dropNeighbours_16 : decode cX3_dropNeighbours 16 = .ok (.getfield 21, 3) := by decide +kernel
theorem dX3_dropNeighbours_19 : decode cX3_dropNeighbours 19 = .ok (.iload_n 1, 1) := by decide +kernel
theorem dX3_dropNeighbours_20 : decode cX3_dropNeighbours 20 = .ok (.iaload, 1) := by decide +kernel
theorem dX3_dropNeighbours_21 : decode cX3_dropNeighbours 21 = .ok (.aload_n 0, 1) := by decide +kernel
theorem dX3_dropNeighbours_22 : decode cX3_dropNeighbours 22 = .ok (.getfield 40, 3) := by decide +kernel
theorem dX3_dropNeighbours_25 : decode cX3_dropNeighbours 25 = .ok (.getfield 60, 3) := by decide +kernel
theorem dX3_dropNeighbours_28 : decode cX3_dropNeighbours 28 = .ok (.if_icmp .gt 17, 3) := by decide +kernel
theorem dX3_dropNeighbours_31 : decode cX3_dropNeighbours 31 = .ok (.aload_n 0, 1) := by decide +kernel
theorem dX3_dropNeighbours_32 : decode cX3_dropNeighbours 32 = .ok (.dup, 1) := by decide +kernel
theorem dX3_dropNeighbours_33 : decode cX3_dropNeighbours 33 = .ok (.getfield 9, 3) := by decide +kernel
theorem dX3_dropNeighbours_36 : decode cX3_dropNeighbours 36 = .ok (.iconst 1, 1) := by decide +kernel
theorem dX3_dropNeighbours_37 : decode cX3_dropNeighbours 37 = .ok (.iload_n 1, 1) := by decide +kernel
theorem dX3_dropNeighbours_38 : decode cX3_dropNeighbours 38 = .ok (.ishl, 1) := by decide +kernel
theorem dX3_dropNeighbours_39 : decode cX3_dropNeighbours 39 = .ok (.iconst (-1), 1) := by decide +kernel
theorem dX3_dropNeighbours_40 : decode cX3_dropNeighbours 40 = .ok (.ixor, 1) := by decide +kernel
theorem dX3_dropNeighbours_41 : decode cX3_dropNeighbours 41 = .ok (.iand, 1) := by decide +kernel
theorem dX3_dropNeighbours_42 : decode cX3_dropNeighbours 42 = .ok (.putfield 9, 3) := by decide +kernel
theorem dX3_dropNeighbours_45 : decode cX3_dropNeighbours 45 = .ok (.iinc 1 1, 3) := by decide +kernel
theorem dX3_dropNeighbours_48 : decode cX3_dropNeighbours 48 = .ok (.goto (-46), 3) := by decide +kernel
theorem dX3_dropNeighbours_51 : decode cX3_dropNeighbours 51 = .ok (.return_, 1) := by decide +kernel
def d_X3_dropNeighbours_2 : Nat → Nat → Int32 → Hp → Option (Hp)
  | 0, _, _, _ => none
  | n_ + 1, x0, x1, G =>
    if 10 ≤ x1 then
      some G
    else
      gd (hc G x0 = 4) <|
      if ((hi G x0 4)) = 0 then
        some G
      else
        gd (hc G ((hr G x0 7)) = 11 ∧ ix x1 (hl G ((hr G x0 7)))) <|
        gd (hc G ((hr G x0 0)) = 3) <|
        if ((hi G ((hr G x0 0)) 4)) < ((hi G ((hr G x0 7)) x1.toNatClampNeg)) then
          d_X3_dropNeighbours_2 n_ x0 ((x1 + 1)) G
        else
          bd (sI G x0 4 ((((hi G x0 4)) &&& ((((1 <<< (x1 &&& 31))) ^^^ (-1)))))) fun G7 =>
          d_X3_dropNeighbours_2 n_ x0 ((x1 + 1)) G7
def d_X3_dropNeighbours (x0 : Nat) (G : Hp) : Option (Hp) :=
  d_X3_dropNeighbours_2 FU x0 0 G
section
variable {p : Program} {l : Launch} {e : Env} {s : State} {m : MethodId} {args : Array Value} {below : List Frame} {meth : Method} {c : Code} {b0 : Nat} {D : va_G} {E : Nat → ClassId}
set_option maxHeartbeats 4000000 in
set_option maxRecDepth 100000 in
theorem k_X3_dropNeighbours_2 (C : Cx p s m args meth c RX3 cX3_dropNeighbours 2 none b0 D E) {GG : Hp} : ∀ (n_ : Nat) {x0 : Nat} {x1 : Int32} {G : Hp} {ls : Array Slot} {H : Heap} {locs : List Loc}, lx ls 2 [(0, .inr x0), (1, .inl x1)] → Rp b0 D E G H → SS b0 s H locs → d_X3_dropNeighbours_2 n_ x0 x1 G = some GG → W p l e (rmd 0 (0) (0)) s m args below meth c H locs (0) (0) (MQ below (CQ b0 D E none GG) args s (0) (0) (fun q => b0 ≤ q)) (F0 m 2 ls []) := by
  intro n_
  induction n_ with
  | zero =>
    intro x0 x1 G ls H locs hL hR hS hd
    cases (show (none : Option _) = some _ from hd)
  | succ n_ ih =>
    intro x0 x1 G ls H locs hL hR hS hd
    rw [d_X3_dropNeighbours_2.eq_2] at hd
    have hx := C.1
    have hb := C.2.1
    refine x_iload_n C dX3_dropNeighbours_2 hL 1 rfl ?_
    refine lv_bipush (v := 10) hx hb dX3_dropNeighbours_3 (by decide) ?_
    refine lv_icmp_ge (tgt := 51) hx hb dX3_dropNeighbours_5 (by decide) (fun c1 => ?_) (fun c1 => ?_)
    · rw [if_pos c1] at hd
      cases hd
      exact r_vret C dX3_dropNeighbours_51 hR hS
    · rw [if_neg c1] at hd
      refine x_aload_n C dX3_dropNeighbours_8 hL 0 rfl ?_
      obtain ⟨g2, hd⟩ := gd_ex hd
      refine r_geti (ci := 3) (k := 4) C fl_X3_9 rfl dX3_dropNeighbours_9 hR g2 ?_
      refine lv_if_eq (tgt := 51) hx hb dX3_dropNeighbours_12 (by decide) (fun c3 => ?_) (fun c3 => ?_)
      · rw [if_pos c3] at hd
        cases hd
        exact r_vret C dX3_dropNeighbours_51 hR hS
      · rw [if_neg c3] at hd
        refine x_aload_n C dX3_dropNeighbours_15 hL 0 rfl ?_
        refine r_getr (ci := 3) (k := 7) C fl_X3_21 rfl dX3_dropNeighbours_16 hR g2 ?_
        refine x_iload_n C dX3_dropNeighbours_19 hL 1 rfl ?_
        obtain ⟨g4, hd⟩ := gd_ex hd
        refine r_iald C dX3_dropNeighbours_20 hR g4 ?_
        refine x_aload_n C dX3_dropNeighbours_21 hL 0 rfl ?_
        refine r_getr (ci := 3) (k := 0) C fl_X3_40 rfl dX3_dropNeighbours_22 hR g2 ?_
        obtain ⟨g5, hd⟩ := gd_ex hd
        refine r_geti (ci := 2) (k := 4) C fl_X3_60 rfl dX3_dropNeighbours_25 hR g5 ?_
        refine lv_icmp_gt (tgt := 45) hx hb dX3_dropNeighbours_28 (by decide) (fun c6 => ?_) (fun c6 => ?_)
        · rw [if_pos c6] at hd
          refine x_iinc (lv' := [(1, .inl ((x1 + 1))), (0, .inr x0)]) C dX3_dropNeighbours_45 hL 1 rfl rfl (by decide) rfl (fun ls hL => ?_)
          refine lv_goto (tgt := 2) hx hb dX3_dropNeighbours_48 (by decide) ?_
          exact ih (lx_sub hL [1, 0] rfl) hR hS hd
        · rw [if_neg c6] at hd
          refine x_aload_n C dX3_dropNeighbours_31 hL 0 rfl ?_
          refine lv_dup hx hb dX3_dropNeighbours_32 (rv_cat _) ?_
          refine r_geti (ci := 3) (k := 4) C fl_X3_9 rfl dX3_dropNeighbours_33 hR g2 ?_
          refine lv_iconst (v := 1) hx hb dX3_dropNeighbours_36 (by decide) ?_
          refine x_iload_n C dX3_dropNeighbours_37 hL 1 rfl ?_
          refine lv_ishl hx hb dX3_dropNeighbours_38 ?_
          refine lv_iconst (v := (-1)) hx hb dX3_dropNeighbours_39 (by decide) ?_
          refine lv_ixor hx hb dX3_dropNeighbours_40 ?_
          refine lv_iand hx hb dX3_dropNeighbours_41 ?_
          obtain ⟨G7, eG7, hd⟩ := bd_ex hd
          refine r_puti (ci := 3) (k := 4) C fl_X3_9 rfl (Or.inl rfl) dX3_dropNeighbours_42 hR hS g2 (fun H locs hR hS => ?_)
          replace hR : Rp b0 D E G7 H := by rw [eG7]; exact hR
          refine x_iinc (lv' := [(1, .inl ((x1 + 1))), (0, .inr x0)]) C dX3_dropNeighbours_45 hL 1 rfl rfl (by decide) rfl (fun ls hL => ?_)
          refine lv_goto (tgt := 2) hx hb dX3_dropNeighbours_48 (by decide) ?_
          exact ih (lx_sub hL [1, 0] rfl) hR hS hd
set_option maxHeartbeats 4000000 in
set_option maxRecDepth 100000 in
theorem k_X3_dropNeighbours (C : Cx p s m args meth c RX3 cX3_dropNeighbours 2 none b0 D E) {GG : Hp} {x0 : Nat} {G : Hp} {ls : Array Slot} {H : Heap} {locs : List Loc} : lx ls 2 [(0, .inr x0)] → Rp b0 D E G H → SS b0 s H locs → d_X3_dropNeighbours x0 G = some GG → W p l e (rmd 0 (0) (0)) s m args below meth c H locs (0) (0) (MQ below (CQ b0 D E none GG) args s (0) (0) (fun q => b0 ≤ q)) (F0 m 0 ls []) := by
  intro hL hR hS hd
  unfold d_X3_dropNeighbours at hd
  have hx := C.1
  have hb := C.2.1
  refine lv_iconst (v := 0) hx hb dX3_dropNeighbours_0 (by decide) ?_
  refine x_istore_n (lv' := [(1, .inl 0), (0, .inr x0)]) C dX3_dropNeighbours_1 hL (by decide) rfl (fun ls hL => ?_)
  exact k_X3_dropNeighbours_2 C FU (lx_sub hL [1, 0] rfl) hR hS hd
end
set_option maxHeartbeats 4000000 in
set_option maxRecDepth 100000 in
theorem ct_X3_dropNeighbours {l : Launch} {b0 : Nat} {D : va_G} {E : Nat → ClassId} {G : Hp} {a0 : Nat} {GG : Hp} (hd : d_X3_dropNeighbours a0 G = some GG) : CT l yX3_dropNeighbours cX3_dropNeighbours 2 none 0 0 0 b0 D E [rv a0] G none GG := by
  refine CT_of (by decide +kernel) ?_
  intro p e s m below meth c C hnm hR
  refine r_entry [.inr a0] (n := 2) (Nat.le_of_ble_eq_true rfl) (lv := [(0, .inr a0)]) rfl (fun ls hL => ?_)
  exact k_X3_dropNeighbours C (lx_sub hL [0] rfl) hR ⟨fun _ _ => rfl, fun _ h => by cases h⟩ hd

/-! GroveWorks$Port.takeHello(I)V -/
theorem dX3_takeHello_0 : decode cX3_takeHello 0 = .ok (.iload_n 1, 1) := by decide +kernel
theorem dX3_takeHello_1 : decode cX3_takeHello 1 = .ok (.bipush 10, 2) := by decide +kernel
theorem dX3_takeHello_3 : decode cX3_takeHello 3 = .ok (.invokestatic 65, 3) := by decide +kernel
theorem dX3_takeHello_6 : decode cX3_takeHello 6 = .ok (.ifCond .eq 31, 3) := by decide +kernel
theorem dX3_takeHello_9 : decode cX3_takeHello 9 = .ok (.aload_n 0, 1) := by decide +kernel
theorem dX3_takeHello_10 : decode cX3_takeHello 10 = .ok (.dup, 1) := by decide +kernel
theorem dX3_takeHello_11 : decode cX3_takeHello 11 = .ok (.getfield 9, 3) := by decide +kernel
theorem dX3_takeHello_14 : decode cX3_takeHello 14 = .ok (.iconst 1, 1) := by decide +kernel
theorem dX3_takeHello_15 : decode cX3_takeHello 15 = .ok (.iload_n 1, 1) := by decide +kernel
theorem dX3_takeHello_16 : decode cX3_takeHello 16 = .ok (.ishl, 1) := by decide +kernel
theorem dX3_takeHello_17 : decode cX3_takeHello 17 = .ok (.ior, 1) := by decide +kernel
theorem dX3_takeHello_18 : decode cX3_takeHello 18 = .ok (.putfield 9, 3) := by decide +kernel
theorem dX3_takeHello_21 : decode cX3_takeHello 21 = .ok (.aload_n 0, 1) := by decide +kernel
theorem dX3_takeHello_22 : decode cX3_takeHello 22 = .ok (.getfield 21, 3) := by decide +kernel
theorem dX3_takeHello_25 : decode cX3_takeHello 25 = .ok (.iload_n 1, 1) := by decide +kernel
theorem dX3_takeHello_26 : decode cX3_takeHello 26 = .ok (.aload_n 0, 1) := by decide +kernel
theorem dX3_takeHello_27 : decode cX3_takeHello 27 = .ok (.getfield 40, 3) := by decide +kernel
theorem dX3_takeHello_30 : decode cX3_takeHello 30 = .ok (.getfield 60, 3) := by decide +kernel
theorem dX3_takeHello_33 : decode cX3_takeHello 33 = .ok (.bipush 65, 2) := by decide +kernel
theorem dX3_takeHello_35 : decode cX3_takeHello 35 = .ok (.iadd, 1) := by decide +kernel
theorem dX3_takeHello_36 : decode cX3_takeHello 36 = .ok (.iastore, 1) := by decide +kernel
theorem dX3_takeHello_37 : decode cX3_takeHello 37 = .ok (.return_, 1) := by decide +kernel
def d_X3_takeHello (x0 : Nat) (x1 : Int32) (G : Hp) : Option (Hp) :=
  bo (d_X8_isIn x1 10 G) fun v2 =>
  if v2 = 0 then
    some G
  else
    gd (hc G x0 = 4) <|
    bd (sI G x0 4 ((((hi G x0 4)) ||| ((1 <<< (x1 &&& 31)))))) fun G5 =>
    gd (hc G5 x0 = 4) <|
    gd (hc G5 ((hr G5 x0 0)) = 3) <|
    gd (hc G5 ((hr G5 x0 7)) = 11 ∧ ix x1 (hl G5 ((hr G5 x0 7)))) <|
    bd (sI G5 ((hr G5 x0 7)) x1.toNatClampNeg ((((hi G5 ((hr G5 x0 0)) 4)) + 65))) fun G9 =>
    some G9
section
variable {p : Program} {l : Launch} {e : Env} {s : State} {m : MethodId} {args : Array Value} {below : List Frame} {meth : Method} {c : Code} {b0 : Nat} {D : va_G} {E : Nat → ClassId}
set_option maxHeartbeats 4000000 in
set_option maxRecDepth 100000 in
theorem k_X3_takeHello (C : Cx p s m args meth c RX3 cX3_takeHello 2 none b0 D E) {GG : Hp} {x0 : Nat} {x1 : Int32} {G : Hp} {ls : Array Slot} {H : Heap} {locs : List Loc} : lx ls 2 [(0, .inr x0), (1, .inl x1)] → Rp b0 D E G H → SS b0 s H locs → d_X3_takeHello x0 x1 G = some GG → W p l e (rmd 1 (0) (0)) s m args below meth c H locs (0) (0) (MQ below (CQ b0 D E none GG) args s (0) (0) (fun q => b0 ≤ q)) (F0 m 0 ls []) := by
  intro hL hR hS hd
  unfold d_X3_takeHello at hd
  have hx := C.1
  have hb := C.2.1
  refine x_iload_n C dX3_takeHello_0 hL 1 rfl ?_
  refine lv_bipush (v := 10) hx hb dX3_takeHello_1 (by decide) ?_
  obtain ⟨v2, h1, hd⟩ := bo_ex hd
  refine r_callSN (As := [.int x1, .int 10]) C (ct_X8_isIn h1) mf_X8_isIn (by decide +kernel) ms_X8_isIn rfl ⟨Nat.le_of_ble_eq_true rfl, Nat.le_of_ble_eq_true rfl⟩ dX3_takeHello_3 (lx_size hL) rfl hR hS ⟨Nat.le_refl _, Nat.le_refl _⟩ (cat_le [] (Nat.le_of_ble_eq_true rfl)) (fun H locs hR hS => ?_)
  refine W_st (st2 := [.int v2]) rfl ?_
  refine lv_if_eq (tgt := 37) hx hb dX3_takeHello_6 (by decide) (fun c3 => ?_) (fun c3 => ?_)
  · rw [if_pos c3] at hd
    cases hd
    exact r_vret C dX3_takeHello_37 hR hS
  · rw [if_neg c3] at hd
    refine x_aload_n C dX3_takeHello_9 hL 0 rfl ?_
    refine lv_dup hx hb dX3_takeHello_10 (rv_cat _) ?_
    obtain ⟨g4, hd⟩ := gd_ex hd
    refine r_geti (ci := 3) (k := 4) C fl_X3_9 rfl dX3_takeHello_11 hR g4 ?_
    refine lv_iconst (v := 1) hx hb dX3_takeHello_14 (by decide) ?_
    refine x_iload_n C dX3_takeHello_15 hL 1 rfl ?_
    refine lv_ishl hx hb dX3_takeHello_16 ?_
    refine lv_ior hx hb dX3_takeHello_17 ?_
    obtain ⟨G5, eG5, hd⟩ := bd_ex hd
    refine r_puti (ci := 3) (k := 4) C fl_X3_9 rfl (Or.inl rfl) dX3_takeHello_18 hR hS g4 (fun H locs hR hS => ?_)
    replace hR : Rp b0 D E G5 H := by rw [eG5]; exact hR
    refine x_aload_n C dX3_takeHello_21 hL 0 rfl ?_
    obtain ⟨g6, hd⟩ := gd_ex hd
    refine r_getr (ci := 3) (k := 7) C fl_X3_21 rfl dX3_takeHello_22 hR g6 ?_
    refine x_iload_n C dX3_takeHello_25 hL 1 rfl ?_
    refine x_aload_n C dX3_takeHello_26 hL 0 rfl ?_
    refine r_getr (ci := 3) (k := 0) C fl_X3_40 rfl dX3_takeHello_27 hR g6 ?_
    obtain ⟨g7, hd⟩ := gd_ex hd
    refine r_geti (ci := 2) (k := 4) C fl_X3_60 rfl dX3_takeHello_30 hR g7 ?_
    refine lv_bipush (v := 65) hx hb dX3_takeHello_33 (by decide) ?_
    refine lv_iadd hx hb dX3_takeHello_35 ?_
    obtain ⟨g8, hd⟩ := gd_ex hd
    obtain ⟨G9, eG9, hd⟩ := bd_ex hd
    refine r_iast C dX3_takeHello_36 hR hS g8 (fun H locs hR hS => ?_)
    replace hR : Rp b0 D E G9 H := by rw [eG9]; exact hR
    cases hd
    exact r_vret C dX3_takeHello_37 hR hS
end
set_option maxHeartbeats 4000000 in
set_option maxRecDepth 100000 in
theorem ct_X3_takeHello {l : Launch} {b0 : Nat} {D : va_G} {E : Nat → ClassId} {G : Hp} {a0 : Nat} {a1 : Int32} {GG : Hp} (hd : d_X3_takeHello a0 a1 G = some GG) : CT l yX3_takeHello cX3_takeHello 2 none 1 0 0 b0 D E [rv a0, .int a1] G none GG := by
  refine CT_of (by decide +kernel) ?_
  intro p e s m below meth c C hnm hR
  refine r_entry [.inr a0, .inl a1] (n := 2) (Nat.le_of_ble_eq_true rfl) (lv := [(0, .inr a0), (1, .inl a1)]) rfl (fun ls hL => ?_)
  exact k_X3_takeHello C (lx_sub hL [0, 1] rfl) hR ⟨fun _ _ => rfl, fun _ h => by cases h⟩ hd

/-! GroveWorks$Port.isFirst()Z pure -/
theorem dX3_isFirst_0 : decode cX3_isFirst 0 = .ok (.aload_n 0, 1) := by decide +kernel
theorem dX3_isFirst_1 : decode cX3_isFirst 1 = .ok (.getfield 9, 3) := by decide +kernel
theorem dX3_isFirst_4 : decode cX3_isFirst 4 = .ok (.aload_n 0, 1) := by decide +kernel
theorem dX3_isFirst_5 : decode cX3_isFirst 5 = .ok (.getfield 44, 3) := by decide +kernel
theorem dX3_isFirst_8 : decode cX3_isFirst 8 = .ok (.iconst 1, 1) := by decide +kernel
theorem dX3_isFirst_9 : decode cX3_isFirst 9 = .ok (.iadd, 1) := by decide +kernel
theorem dX3_isFirst_10 : decode cX3_isFirst 10 = .ok (.ishr, 1) := by decide +kernel
theorem dX3_isFirst_11 : decode cX3_isFirst 11 = .ok (.ifCond .ne 7, 3) := by decide +kernel
theorem dX3_isFirst_14 : decode cX3_isFirst 14 = .ok (.iconst 1, 1) := by decide +kernel
theorem dX3_isFirst_15 : decode cX3_isFirst 15 = .ok (.goto 4, 3) := by decide +kernel
theorem dX3_isFirst_18 : decode cX3_isFirst 18 = .ok (.iconst 0, 1) := by decide +kernel
theorem dX3_isFirst_19 : decode cX3_isFirst 19 = .ok (.ireturn, 1) := by decide +kernel
def d_X3_isFirst (x0 : Nat) (G : Hp) : Option (Int32) :=
  gd (hc G x0 = 4) <|
  if ((((hi G x0 4)) >>> (((((hi G x0 1)) + 1)) &&& 31))) = 0 then
    some 1
  else
    some 0
section
variable {p : Program} {l : Launch} {e : Env} {s : State} {m : MethodId} {args : Array Value} {below : List Frame} {meth : Method} {c : Code} {b0 : Nat} {D : va_G} {E : Nat → ClassId}
set_option maxHeartbeats 4000000 in
set_option maxRecDepth 100000 in
theorem k_X3_isFirst (C : Cx p s m args meth c RX3 cX3_isFirst 1 (some .boolean) b0 D E) {rr : Int32} {G : Hp} {x0 : Nat} {ls : Array Slot} {H : Heap} {locs : List Loc} : lx ls 1 [(0, .inr x0)] → Rp b0 D E G H → SS b0 s H locs → d_X3_isFirst x0 G = some rr → W p l e (rmd 0 (0) (0)) s m args below meth c H locs (0) (0) (MQ below (CQ b0 D E (some (.int rr)) G) args s (0) (0) (fun q => b0 ≤ q)) (F0 m 0 ls []) := by
  intro hL hR hS hd
  unfold d_X3_isFirst at hd
  have hx := C.1
  have hb := C.2.1
  refine x_aload_n C dX3_isFirst_0 hL 0 rfl ?_
  obtain ⟨g1, hd⟩ := gd_ex hd
  refine r_geti (ci := 3) (k := 4) C fl_X3_9 rfl dX3_isFirst_1 hR g1 ?_
  refine x_aload_n C dX3_isFirst_4 hL 0 rfl ?_
  refine r_geti (ci := 3) (k := 1) C fl_X3_44 rfl dX3_isFirst_5 hR g1 ?_
  refine lv_iconst (v := 1) hx hb dX3_isFirst_8 (by decide) ?_
  refine lv_iadd hx hb dX3_isFirst_9 ?_
  refine lv_ishr hx hb dX3_isFirst_10 ?_
  refine lv_if_ne (tgt := 18) hx hb dX3_isFirst_11 (by decide) (fun c2 => ?_) (fun c2 => ?_)
  · rw [if_neg c2] at hd
    refine lv_iconst (v := 0) hx hb dX3_isFirst_18 (by decide) ?_
    cases hd
    exact r_zret C (by decide) dX3_isFirst_19 hR hS
  · rw [if_pos c2] at hd
    refine lv_iconst (v := 1) hx hb dX3_isFirst_14 (by decide) ?_
    refine lv_goto (tgt := 19) hx hb dX3_isFirst_15 (by decide) ?_
    cases hd
    exact r_zret C (by decide) dX3_isFirst_19 hR hS
end
set_option maxHeartbeats 4000000 in
set_option maxRecDepth 100000 in
theorem ct_X3_isFirst {l : Launch} {b0 : Nat} {D : va_G} {E : Nat → ClassId} {G : Hp} {a0 : Nat} {rr : Int32} (hd : d_X3_isFirst a0 G = some rr) : CT l yX3_isFirst cX3_isFirst 1 (some .boolean) 0 0 0 b0 D E [rv a0] G (some (.int rr)) G := by
  refine CT_of (by decide +kernel) ?_
  intro p e s m below meth c C hnm hR
  refine r_entry [.inr a0] (n := 1) (Nat.le_of_ble_eq_true rfl) (lv := [(0, .inr a0)]) rfl (fun ls hL => ?_)
  exact k_X3_isFirst C (lx_sub hL [0] rfl) hR ⟨fun _ _ => rfl, fun _ h => by cases h⟩ hd

/-! GroveWorks$Port.isAsking()Z pure -/
theorem dX3_isAsking_0 : decode cX3_isAsking 0 = .ok (.aload_n 0, 1) := by decide +kernel
theorem dX3_isAsking_1 : decode cX3_isAsking 1 = .ok (.getfield 9, 3) := by decide +kernel
theorem dX3_isAsking_4 : decode cX3_isAsking 4 = .ok (.iconst 1, 1) := by decide +kernel
theorem dX3_isAsking_5 : decode cX3_isAsking 5 = .ok (.aload_n 0, 1) := by decide +kernel
theorem dX3_isAsking_6 : decode cX3_isAsking 6 = .ok (.getfield 44, 3) := by decide +kernel
theorem dX3_isAsking_9 : decode cX3_isAsking 9 = .ok (.ishl, 1) := by decide +kernel
theorem dX3_isAsking_10 : decode cX3_isAsking 10 = .ok (.iconst 1, 1) := by decide +kernel
theorem dX3_isAsking_11 : decode cX3_isAsking 11 = .ok (.isub, 1) := by decide +kernel
theorem dX3_isAsking_12 : decode cX3_isAsking 12 = .ok (.iand, 1) := by decide +kernel
theorem dX3_isAsking_13 : decode cX3_isAsking 13 = .ok (.ifCond .ne 7, 3) := by decide +kernel
theorem dX3_isAsking_16 : decode cX3_isAsking 16 = .ok (.iconst 1, 1) := by decide +kernel
theorem dX3_isAsking_17 : decode cX3_isAsking 17 = .ok (.goto 4, 3) := by decide +kernel
theorem dX3_isAsking_20 : decode cX3_isAsking 20 = .ok (.iconst 0, 1) := by decide +kernel
theorem dX3_isAsking_21 : decode cX3_isAsking 21 = .ok (.ireturn, 1) := by decide +kernel
def d_X3_isAsking (x0 : Nat) (G : Hp) : Option (Int32) :=
  gd (hc G x0 = 4) <|
  if ((((hi G x0 4)) &&& ((((1 <<< (((hi G x0 1)) &&& 31))) - 1)))) = 0 then
    some 1
  else
    some 0
section
variable {p : Program} {l : Launch} {e : Env} {s : State} {m : MethodId} {args : Array Value} {below : List Frame} {meth : Method} {c : Code} {b0 : Nat} {D : va_G} {E : Nat → ClassId}
set_option maxHeartbeats 4000000 in
set_option maxRecDepth 100000 in
theorem k_X3_isAsking (C : Cx p s m args meth c RX3 cX3_isAsking 1 (some .boolean) b0 D E) {rr : Int32} {G : Hp} {x0 : Nat} {ls : Array Slot} {H : Heap} {locs : List Loc} : lx ls 1 [(0, .inr x0)] → Rp b0 D E G H → SS b0 s H locs → d_X3_isAsking x0 G = some rr → W p l e (rmd 0 (0) (0)) s m args below meth c H locs (0) (0) (MQ below (CQ b0 D E (some (.int rr)) G) args s (0) (0) (fun q => b0 ≤ q)) (F0 m 0 ls []) := by
  intro hL hR hS hd
  unfold d_X3_isAsking at hd
  have hx := C.1
  have hb := C.2.1
  refine x_aload_n C dX3_isAsking_0 hL 0 rfl ?_
  obtain ⟨g1, hd⟩ := gd_ex hd
  refine r_geti (ci := 3) (k := 4) C fl_X3_9 rfl dX3_isAsking_1 hR g1 ?_
  refine lv_iconst (v := 1) hx hb dX3_isAsking_4 (by decide) ?_
  refine x_aload_n C dX3_isAsking_5 hL 0 rfl ?_
  refine r_geti (ci := 3) (k := 1) C fl_X3_44 rfl dX3_isAsking_6 hR g1 ?_
  refine lv_ishl hx hb dX3_isAsking_9 ?_
  refine lv_iconst (v := 1) hx hb dX3_isAsking_10 (by decide) ?_
  refine lv_isub hx hb dX3_isAsking_11 ?_
  refine lv_iand hx hb dX3_isAsking_12 ?_
  refine lv_if_ne (tgt := 20) hx hb dX3_isAsking_13 (by decide) (fun c2 => ?_) (fun c2 => ?_)
  · rw [if_neg c2] at hd
    refine lv_iconst (v := 0) hx hb dX3_isAsking_20 (by decide) ?_
    cases hd
    exact r_zret C (by decide) dX3_isAsking_21 hR hS
  · rw [if_pos c2] at hd
    refine lv_iconst (v := 1) hx hb dX3_isAsking_16 (by decide) ?_
    refine lv_goto (tgt := 21) hx hb dX3_isAsking_17 (by decide) ?_
    cases hd
    exact r_zret C (by decide) dX3_isAsking_21 hR hS
end
set_option maxHeartbeats 4000000 in
set_option maxRecDepth 100000 in
theorem ct_X3_isAsking {l : Launch} {b0 : Nat} {D : va_G} {E : Nat → ClassId} {G : Hp} {a0 : Nat} {rr : Int32} (hd : d_X3_isAsking a0 G = some rr) : CT l yX3_isAsking cX3_isAsking 1 (some .boolean) 0 0 0 b0 D E [rv a0] G (some (.int rr)) G := by
  refine CT_of (by decide +kernel) ?_
  intro p e s m below meth c C hnm hR
  refine r_entry [.inr a0] (n := 1) (Nat.le_of_ble_eq_true rfl) (lv := [(0, .inr a0)]) rfl (fun ls hL => ?_)
  exact k_X3_isAsking C (lx_sub hL [0] rfl) hR ⟨fun _ _ => rfl, fun _ h => by cases h⟩ hd

/-! java/lang/Integer.bitCount(I)I pure -/
theorem dJ6_bitCount_0f7a4_0 : decode cJ6_bitCount_0f7a4 0 = .ok (.iload_n 0, 1) := by decide +kernel
theorem dJ6_bitCount_0f7a4_1 : decode cJ6_bitCount_0f7a4 1 = .ok (.iload_n 0, 1) := by decide +kernel
theorem dJ6_bitCount_0f7a4_2 : decode cJ6_bitCount_0f7a4 2 = .ok (.iconst 1, 1) := by decide +kernel
theorem dJ6_bitCount_0f7a4_3 : decode cJ6_bitCount_0f7a4 3 = .ok (.iushr, 1) := by decide +kernel
theorem dJ6_bitCount_0f7a4_4 : decode cJ6_bitCount_0f7a4 4 = .ok (.ldc_w 265, 3) := by decide +kernel
theorem dJ6_bitCount_0f7a4_7 : decode cJ6_bitCount_0f7a4 7 = .ok (.iand, 1) := by decide +kernel
theorem dJ6_bitCount_0f7a4_8 : decode cJ6_bitCount_0f7a4 8 = .ok (.isub, 1) := by decide +kernel
theorem dJ6_bitCount_0f7a4_9 : decode cJ6_bitCount_0f7a4 9 = .ok (.istore_n 0, 1) := by decide +kernel
theorem dJ6_bitCount_0f7a4_10 : decode cJ6_bitCount_0f7a4 10 = .ok (.iload_n 0, 1) := by decide +kernel
theorem dJ6_bitCount_0f7a4_11 : decode cJ6_bitCount_0f7a4 11 = .ok (.ldc_w 266, 3) := by decide +kernel
theorem dJ6_bitCount_0f7a4_14 : decode cJ6_bitCount_0f7a4 14 = .ok (.iand, 1) := by decide +kernel
theorem dJ6_bitCount_0f7a4_15 : decode cJ6_bitCount_0f7a4 15 = .ok (.iload_n 0, 1) := by decide +kernel
theorem dJ6_bitCount_0f7a4_16 : decode cJ6_bitCount_0f7a4 16 = .ok (.iconst 2, 1) := by decide +kernel
theorem dJ6_bitCount_0f7a4_17 : decode cJ6_bitCount_0f7a4 17 = .ok (.iushr, 1) := by decide +kernel
theorem dJ6_bitCount_0f7a4_18 : decode cJ6_bitCount_0f7a4 18 = .ok (.ldc_w 266, 3) := by decide +kernel
theorem dJ6_bitCount_0f7a4_21 : decode cJ6_bitCount_0f7a4 21 = .ok (.iand, 1) := by decide +kernel
theorem dJ6_bitCount_0f7a4_22 : decode cJ6_bitCount_0f7a4 22 = .ok (.iadd, 1) := by decide +kernel
theorem dJ6_bitCount_0f7a4_23 : decode cJ6_bitCount_0f7a4 23 = .ok (.istore_n 0, 1) := by decide +kernel
theorem dJ6_bitCount_0f7a4_24 : decode cJ6_bitCount_0f7a4 24 = .ok (.iload_n 0, 1) := by decide +kernel
theorem dJ6_bitCount_0f7a4_25 : decode cJ6_bitCount_0f7a4 25 = .ok (.iload_n 0, 1) := by decide +kernel
theorem dJ6_bitCount_0f7a4_26 : decode cJ6_bitCount_0f7a4 26 = .ok (.iconst 4, 1) := by decide +kernel
theorem dJ6_bitCount_0f7a4_27 : decode cJ6_bitCount_0f7a4 27 = .ok (.iushr, 1) := by decide +kernel
theorem dJ6_bitCount_0f7a4_28 : decode cJ6_bitCount_0f7a4 28 = .ok (.iadd, 1) := by decide +kernel
theorem dJ6_bitCount_0f7a4_29 : decode cJ6_bitCount_0f7a4 29 = .ok (.ldc_w 267, 3) := by decide +kernel
theorem dJ6_bitCount_0f7a4_32 : decode cJ6_bitCount_0f7a4 32 = .ok (.iand, 1) := by decide +kernel
theorem dJ6_bitCount_0f7a4_33 : decode cJ6_bitCount_0f7a4 33 = .ok (.istore_n 0, 1) := by decide +kernel
theorem dJ6_bitCount_0f7a4_34 : decode cJ6_bitCount_0f7a4 34 = .ok (.iload_n 0, 1) := by decide +kernel
theorem dJ6_bitCount_0f7a4_35 : decode cJ6_bitCount_0f7a4 35 = .ok (.iload_n 0, 1) := by decide +kernel
theorem dJ6_bitCount_0f7a4_36 : decode cJ6_bitCount_0f7a4 36 = .ok (.bipush 8, 2) := by decide +kernel
theorem dJ6_bitCount_0f7a4_38 : decode cJ6_bitCount_0f7a4 38 = .ok (.iushr, 1) := by decide +kernel
theorem dJ6_bitCount_0f7a4_39 : decode cJ6_bitCount_0f7a4 39 = .ok (.iadd, 1) := by decide +kernel
theorem dJ6_bitCount_0f7a4_40 : decode cJ6_bitCount_0f7a4 40 = .ok (.istore_n 0, 1) := by decide +kernel
theorem dJ6_bitCount_0f7a4_41 : decode cJ6_bitCount_0f7a4 41 = .ok (.iload_n 0, 1) := by decide +kernel
theorem dJ6_bitCount_0f7a4_42 : decode cJ6_bitCount_0f7a4 42 = .ok (.iload_n 0, 1) := by decide +kernel
theorem dJ6_bitCount_0f7a4_43 : decode cJ6_bitCount_0f7a4 43 = .ok (.bipush 16, 2) := by decide +kernel
theorem dJ6_bitCount_0f7a4_45 : decode cJ6_bitCount_0f7a4 45 = .ok (.iushr, 1) := by decide +kernel
theorem dJ6_bitCount_0f7a4_46 : decode cJ6_bitCount_0f7a4 46 = .ok (.iadd, 1) := by decide +kernel
theorem dJ6_bitCount_0f7a4_47 : decode cJ6_bitCount_0f7a4 47 = .ok (.istore_n 0, 1) := by decide +kernel
theorem dJ6_bitCount_0f7a4_48 : decode cJ6_bitCount_0f7a4 48 = .ok (.iload_n 0, 1) := by decide +kernel
theorem dJ6_bitCount_0f7a4_49 : decode cJ6_bitCount_0f7a4 49 = .ok (.bipush 63, 2) := by decide +kernel
theorem dJ6_bitCount_0f7a4_51 : decode cJ6_bitCount_0f7a4 51 = .ok (.iand, 1) := by decide +kernel
theorem dJ6_bitCount_0f7a4_52 : decode cJ6_bitCount_0f7a4 52 = .ok (.ireturn, 1) := by decide +kernel
def d_J6_bitCount_0f7a4 (x0 : Int32) (G : Hp) : Option (Int32) :=
  bd ((x0 - (((((x0).toUInt32 >>> (Int32.toUInt32 1 &&& Int32.toUInt32 31)).toInt32) &&& 1431655765)))) fun v1 =>
  bd ((((v1 &&& 858993459)) + (((((v1).toUInt32 >>> (Int32.toUInt32 2 &&& Int32.toUInt32 31)).toInt32) &&& 858993459)))) fun v2 =>
  bd ((((v2 + (((v2).toUInt32 >>> (Int32.toUInt32 4 &&& Int32.toUInt32 31)).toInt32))) &&& 252645135)) fun v3 =>
  bd ((v3 + (((v3).toUInt32 >>> (Int32.toUInt32 8 &&& Int32.toUInt32 31)).toInt32))) fun v4 =>
  bd ((v4 + (((v4).toUInt32 >>> (Int32.toUInt32 16 &&& Int32.toUInt32 31)).toInt32))) fun v5 =>
  some ((v5 &&& 63))
section
variable {p : Program} {l : Launch} {e : Env} {s : State} {m : MethodId} {args : Array Value} {below : List Frame} {meth : Method} {c : Code} {b0 : Nat} {D : va_G} {E : Nat → ClassId}
set_option maxHeartbeats 4000000 in
set_option maxRecDepth 100000 in
theorem k_J6_bitCount_0f7a4 (C : Cx p s m args meth c RJ6 cJ6_bitCount_0f7a4 1 (some .int) b0 D E) {rr : Int32} {G : Hp} {x0 : Int32} {ls : Array Slot} {H : Heap} {locs : List Loc} : lx ls 1 [(0, .inl x0)] → Rp b0 D E G H → SS b0 s H locs → d_J6_bitCount_0f7a4 x0 G = some rr → W p l e (rmd 0 (0) (0)) s m args below meth c H locs (0) (0) (MQ below (CQ b0 D E (some (.int rr)) G) args s (0) (0) (fun q => b0 ≤ q)) (F0 m 0 ls []) := by
  intro hL hR hS hd
  unfold d_J6_bitCount_0f7a4 at hd
  have hx := C.1
  have hb := C.2.1
  refine x_iload_n C dJ6_bitCount_0f7a4_0 hL 0 rfl ?_
  refine x_iload_n C dJ6_bitCount_0f7a4_1 hL 0 rfl ?_
  refine lv_iconst (v := 1) hx hb dJ6_bitCount_0f7a4_2 (by decide) ?_
  refine lv_iushr hx hb dJ6_bitCount_0f7a4_3 rfl ?_
  refine lv_ldcw (v := 1431655765) hx hb C.2.2.2.2.1 (C.2.2.2.2.2.1 _ co_J6_265) dJ6_bitCount_0f7a4_4 ?_
  refine lv_iand hx hb dJ6_bitCount_0f7a4_7 ?_
  refine lv_isub hx hb dJ6_bitCount_0f7a4_8 ?_
  obtain ⟨v1, ev1, hd⟩ := bd_ex hd
  rw [← ev1]
  refine x_istore_n (lv' := [(0, .inl v1)]) C dJ6_bitCount_0f7a4_9 hL (by decide) rfl (fun ls hL => ?_)
  refine x_iload_n C dJ6_bitCount_0f7a4_10 hL 0 rfl ?_
  refine lv_ldcw (v := 858993459) hx hb C.2.2.2.2.1 (C.2.2.2.2.2.1 _ co_J6_266) dJ6_bitCount_0f7a4_11 ?_
  refine lv_iand hx hb dJ6_bitCount_0f7a4_14 ?_
  refine x_iload_n C dJ6_bitCount_0f7a4_15 hL 0 rfl ?_
  refine lv_iconst (v := 2) hx hb dJ6_bitCount_0f7a4_16 (by decide) ?_
  refine lv_iushr hx hb dJ6_bitCount_0f7a4_17 rfl ?_
  refine lv_ldcw (v := 858993459) hx hb C.2.2.2.2.1 (C.2.2.2.2.2.1 _ co_J6_266) dJ6_bitCount_0f7a4_18 ?_
  refine lv_iand hx hb dJ6_bitCount_0f7a4_21 ?_
  refine lv_iadd hx hb dJ6_bitCount_0f7a4_22 ?_
  obtain ⟨v2, ev2, hd⟩ := bd_ex hd
  rw [← ev2]
  refine x_istore_n (lv' := [(0, .inl v2)]) C dJ6_bitCount_0f7a4_23 hL (by decide) rfl (fun ls hL => ?_)
  refine x_iload_n C dJ6_bitCount_0f7a4_24 hL 0 rfl ?_
  refine x_iload_n C dJ6_bitCount_0f7a4_25 hL 0 rfl ?_
  refine lv_iconst (v := 4) hx hb dJ6_bitCount_0f7a4_26 (by decide) ?_
  refine lv_iushr hx hb dJ6_bitCount_0f7a4_27 rfl ?_
  refine lv_iadd hx hb dJ6_bitCount_0f7a4_28 ?_
  refine lv_ldcw (v := 252645135) hx hb C.2.2.2.2.1 (C.2.2.2.2.2.1 _ co_J6_267) dJ6_bitCount_0f7a4_29 ?_
  refine lv_iand hx hb dJ6_bitCount_0f7a4_32 ?_
  obtain ⟨v3, ev3, hd⟩ := bd_ex hd
  rw [← ev3]
  refine x_istore_n (lv' := [(0, .inl v3)]) C dJ6_bitCount_0f7a4_33 hL (by decide) rfl (fun ls hL => ?_)
  refine x_iload_n C dJ6_bitCount_0f7a4_34 hL 0 rfl ?_
  refine x_iload_n C dJ6_bitCount_0f7a4_35 hL 0 rfl ?_
  refine lv_bipush (v := 8) hx hb dJ6_bitCount_0f7a4_36 (by decide) ?_
  refine lv_iushr hx hb dJ6_bitCount_0f7a4_38 rfl ?_
  refine lv_iadd hx hb dJ6_bitCount_0f7a4_39 ?_
  obtain ⟨v4, ev4, hd⟩ := bd_ex hd
  rw [← ev4]
  refine x_istore_n (lv' := [(0, .inl v4)]) C dJ6_bitCount_0f7a4_40 hL (by decide) rfl (fun ls hL => ?_)
  refine x_iload_n C dJ6_bitCount_0f7a4_41 hL 0 rfl ?_
  refine x_iload_n C dJ6_bitCount_0f7a4_42 hL 0 rfl ?_
  refine lv_bipush (v := 16) hx hb dJ6_bitCount_0f7a4_43 (by decide) ?_
  refine lv_iushr hx hb dJ6_bitCount_0f7a4_45 rfl ?_
  refine lv_iadd hx hb dJ6_bitCount_0f7a4_46 ?_
  obtain ⟨v5, ev5, hd⟩ := bd_ex hd
  rw [← ev5]
  refine x_istore_n (lv' := [(0, .inl v5)]) C dJ6_bitCount_0f7a4_47 hL (by decide) rfl (fun ls hL => ?_)
  refine x_iload_n C dJ6_bitCount_0f7a4_48 hL 0 rfl ?_
  refine lv_bipush (v := 63) hx hb dJ6_bitCount_0f7a4_49 (by decide) ?_
  refine lv_iand hx hb dJ6_bitCount_0f7a4_51 ?_
  cases hd
  exact r_iret C dJ6_bitCount_0f7a4_52 hR hS
end
set_option maxHeartbeats 4000000 in
set_option maxRecDepth 100000 in
theorem ct_J6_bitCount_0f7a4 {l : Launch} {b0 : Nat} {D : va_G} {E : Nat → ClassId} {G : Hp} {a0 : Int32} {rr : Int32} (hd : d_J6_bitCount_0f7a4 a0 G = some rr) : CT l yJ6_bitCount_0f7a4 cJ6_bitCount_0f7a4 1 (some .int) 0 0 0 b0 D E [.int a0] G (some (.int rr)) G := by
  refine CT_of (by decide +kernel) ?_
  intro p e s m below meth c C hnm hR
  refine r_entry [.inl a0] (n := 1) (Nat.le_of_ble_eq_true rfl) (lv := [(0, .inl a0)]) rfl (fun ls hL => ?_)
  exact k_J6_bitCount_0f7a4 C (lx_sub hL [0] rfl) hR ⟨fun _ _ => rfl, fun _ h => by cases h⟩ hd

/-! GroveWorks$Port.timeToObject()I pure -/
theorem dX3_timeToObject_0 : decode cX3_timeToObject 0 = .ok (.aload_n 0, 1) := by decide +kernel
theorem dX3_timeToObject_1 : decode cX3_timeToObject 1 = .ok (.getfield 9, 3) := by decide +kernel
theorem dX3_timeToObject_4 : decode cX3_timeToObject 4 = .ok (.invokestatic 69, 3) := by decide +kernel
theorem dX3_timeToObject_7 : decode cX3_timeToObject 7 = .ok (.iconst 2, 1) := by decide +kernel
theorem dX3_timeToObject_8 : decode cX3_timeToObject 8 = .ok (.if_icmp .lt 7, 3) := by decide +kernel
theorem dX3_timeToObject_11 : decode cX3_timeToObject 11 = .ok (.iconst 3, 1) := by decide +kernel
theorem dX3_timeToObject_12 : decode cX3_timeToObject 12 = .ok (.goto 4, 3) := by decide +kernel
theorem dX3_timeToObject_15 : decode cX3_timeToObject 15 = .ok (.iconst 0, 1) := by decide +kernel
theorem dX3_timeToObject_16 : decode cX3_timeToObject 16 = .ok (.ireturn, 1) := by decide +kernel
def d_X3_timeToObject (x0 : Nat) (G : Hp) : Option (Int32) :=
  gd (hc G x0 = 4) <|
  bo (d_J6_bitCount_0f7a4 ((hi G x0 4)) G) fun v3 =>
  if v3 < 2 then
    some 0
  else
    some 3
section
variable {p : Program} {l : Launch} {e : Env} {s : State} {m : MethodId} {args : Array Value} {below : List Frame} {meth : Method} {c : Code} {b0 : Nat} {D : va_G} {E : Nat → ClassId}
set_option maxHeartbeats 4000000 in
set_option maxRecDepth 100000 in
theorem k_X3_timeToObject (C : Cx p s m args meth c RX3 cX3_timeToObject 1 (some .int) b0 D E) {rr : Int32} {G : Hp} {x0 : Nat} {ls : Array Slot} {H : Heap} {locs : List Loc} : lx ls 1 [(0, .inr x0)] → Rp b0 D E G H → SS b0 s H locs → d_X3_timeToObject x0 G = some rr → W p l e (rmd 1 (0) (0)) s m args below meth c H locs (0) (0) (MQ below (CQ b0 D E (some (.int rr)) G) args s (0) (0) (fun q => b0 ≤ q)) (F0 m 0 ls []) := by
  intro hL hR hS hd
  unfold d_X3_timeToObject at hd
  have hx := C.1
  have hb := C.2.1
  refine x_aload_n C dX3_timeToObject_0 hL 0 rfl ?_
  obtain ⟨g1, hd⟩ := gd_ex hd
  refine r_geti (ci := 3) (k := 4) C fl_X3_9 rfl dX3_timeToObject_1 hR g1 ?_
  obtain ⟨v3, h2, hd⟩ := bo_ex hd
  refine r_callS (As := [.int ((hi G x0 4))]) C (ct_J6_bitCount_0f7a4 h2) mf_J6_bitCount_0f7a4 ml_X3_69 ms_J6_bitCount_0f7a4 rfl ⟨Nat.le_of_ble_eq_true rfl, Nat.le_of_ble_eq_true rfl⟩ dX3_timeToObject_4 (lx_size hL) rfl hR hS ⟨Nat.le_refl _, Nat.le_refl _⟩ (cat_le [] (Nat.le_of_ble_eq_true rfl)) (fun H locs hR hS => ?_)
  refine W_st (st2 := [.int v3]) rfl ?_
  refine lv_iconst (v := 2) hx hb dX3_timeToObject_7 (by decide) ?_
  refine lv_icmp_lt (tgt := 15) hx hb dX3_timeToObject_8 (by decide) (fun c4 => ?_) (fun c4 => ?_)
  · rw [if_pos c4] at hd
    refine lv_iconst (v := 0) hx hb dX3_timeToObject_15 (by decide) ?_
    cases hd
    exact r_iret C dX3_timeToObject_16 hR hS
  · rw [if_neg c4] at hd
    refine lv_iconst (v := 3) hx hb dX3_timeToObject_11 (by decide) ?_
    refine lv_goto (tgt := 16) hx hb dX3_timeToObject_12 (by decide) ?_
    cases hd
    exact r_iret C dX3_timeToObject_16 hR hS
end
set_option maxHeartbeats 4000000 in
set_option maxRecDepth 100000 in
theorem ct_X3_timeToObject {l : Launch} {b0 : Nat} {D : va_G} {E : Nat → ClassId} {G : Hp} {a0 : Nat} {rr : Int32} (hd : d_X3_timeToObject a0 G = some rr) : CT l yX3_timeToObject cX3_timeToObject 1 (some .int) 1 0 0 b0 D E [rv a0] G (some (.int rr)) G := by
  refine CT_of (by decide +kernel) ?_
  intro p e s m below meth c C hnm hR
  refine r_entry [.inr a0] (n := 1) (Nat.le_of_ble_eq_true rfl) (lv := [(0, .inr a0)]) rfl (fun ls hL => ?_)
  exact k_X3_timeToObject C (lx_sub hL [0] rfl) hR ⟨fun _ _ => rfl, fun _ h => by cases h⟩ hd

/-! GroveWorks$Port.hasMembers(I)Z pure -/
theorem dX3_hasMembers_0 : decode cX3_hasMembers 0 = .ok (.aload_n 0, 1) := by decide +kernel
theorem dX3_hasMembers_1 : decode cX3_hasMembers 1 = .ok (.getfield 25, 3) := by decide +kernel
theorem dX3_hasMembers_4 : decode cX3_hasMembers 4 = .ok (.iload_n 1, 1) := by decide +kernel
theorem dX3_hasMembers_5 : decode cX3_hasMembers 5 = .ok (.iaload, 1) := by decide +kernel
theorem dX3_hasMembers_6 : decode cX3_hasMembers 6 = .ok (.aload_n 0, 1) := by decide +kernel
theorem dX3_hasMembers_7 : decode cX3_hasMembers 7 = .ok (.getfield 40, 3) := by decide +kernel
theorem dX3_hasMembers_10 : decode cX3_hasMembers 10 = .ok (.getfield 60, 3) := by decide +kernel
theorem dX3_hasMembers_13 : decode cX3_hasMembers 13 = .ok (.if_icmp .le 7, 3) := by decide +kernel
theorem dX3_hasMembers_16 : decode cX3_hasMembers 16 = .ok (.iconst 1, 1) := by decide +kernel
theorem dX3_hasMembers_17 : decode cX3_hasMembers 17 = .ok (.goto 4, 3) := by decide +kernel
theorem dX3_hasMembers_20 : decode cX3_hasMembers 20 = .ok (.iconst 0, 1) := by decide +kernel
theorem dX3_hasMembers_21 : decode cX3_hasMembers 21 = .ok (.ireturn, 1) := by decide +kernel
def d_X3_hasMembers (x0 : Nat) (x1 : Int32) (G : Hp) : Option (Int32) :=
  gd (hc G x0 = 4) <|
  gd (hc G ((hr G x0 8)) = 11 ∧ ix x1 (hl G ((hr G x0 8)))) <|
  gd (hc G ((hr G x0 0)) = 3) <|
  if ((hi G ((hr G x0 8)) x1.toNatClampNeg)) ≤ ((hi G ((hr G x0 0)) 4)) then
    some 0
  else
    some 1
section
variable {p : Program} {l : Launch} {e : Env} {s : State} {m : MethodId} {args : Array Value} {below : List Frame} {meth : Method} {c : Code} {b0 : Nat} {D : va_G} {E : Nat → ClassId}
set_option maxHeartbeats 4000000 in
set_option maxRecDepth 100000 in
theorem k_X3_hasMembers (C : Cx p s m args meth c RX3 cX3_hasMembers 2 (some .boolean) b0 D E) {rr : Int32} {G : Hp} {x0 : Nat} {x1 : Int32} {ls : Array Slot} {H : Heap} {locs : List Loc} : lx ls 2 [(0, .inr x0), (1, .inl x1)] → Rp b0 D E G H → SS b0 s H locs → d_X3_hasMembers x0 x1 G = some rr → W p l e (rmd 0 (0) (0)) s m args below meth c H locs (0) (0) (MQ below (CQ b0 D E (some (.int rr)) G) args s (0) (0) (fun q => b0 ≤ q)) (F0 m 0 ls []) := by
  intro hL hR hS hd
  unfold d_X3_hasMembers at hd
  have hx := C.1
  have hb := C.2.1
  refine x_aload_n C dX3_hasMembers_0 hL 0 rfl ?_
  obtain ⟨g1, hd⟩ := gd_ex hd
  refine r_getr (ci := 3) (k := 8) C fl_X3_25 rfl dX3_hasMembers_1 hR g1 ?_
  refine x_iload_n C dX3_hasMembers_4 hL 1 rfl ?_
  obtain ⟨g2, hd⟩ := gd_ex hd
  refine r_iald C dX3_hasMembers_5 hR g2 ?_
  refine x_aload_n C dX3_hasMembers_6 hL 0 rfl ?_
  refine r_getr (ci := 3) (k := 0) C fl_X3_40 rfl dX3_hasMembers_7 hR g1 ?_
  obtain ⟨g3, hd⟩ := gd_ex hd
  refine r_geti (ci := 2) (k := 4) C fl_X3_60 rfl dX3_hasMembers_10 hR g3 ?_
  refine lv_icmp_le (tgt := 20) hx hb dX3_hasMembers_13 (by decide) (fun c4 => ?_) (fun c4 => ?_)
  · rw [if_pos c4] at hd
    refine lv_iconst (v := 0) hx hb dX3_hasMembers_20 (by decide) ?_
    cases hd
    exact r_zret C (by decide) dX3_hasMembers_21 hR hS
  · rw [if_neg c4] at hd
    refine lv_iconst (v := 1) hx hb dX3_hasMembers_16 (by decide) ?_
    refine lv_goto (tgt := 21) hx hb dX3_hasMembers_17 (by decide) ?_
    cases hd
    exact r_zret C (by decide) dX3_hasMembers_21 hR hS
end
set_option maxHeartbeats 4000000 in
set_option maxRecDepth 100000 in
theorem ct_X3_hasMembers {l : Launch} {b0 : Nat} {D : va_G} {E : Nat → ClassId} {G : Hp} {a0 : Nat} {a1 : Int32} {rr : Int32} (hd : d_X3_hasMembers a0 a1 G = some rr) : CT l yX3_hasMembers cX3_hasMembers 2 (some .boolean) 0 0 0 b0 D E [rv a0, .int a1] G (some (.int rr)) G := by
  refine CT_of (by decide +kernel) ?_
  intro p e s m below meth c C hnm hR
  refine r_entry [.inr a0, .inl a1] (n := 2) (Nat.le_of_ble_eq_true rfl) (lv := [(0, .inr a0), (1, .inl a1)]) rfl (fun ls hL => ?_)
  exact k_X3_hasMembers C (lx_sub hL [0, 1] rfl) hR ⟨fun _ _ => rfl, fun _ h => by cases h⟩ hd

/-! GroveWorks$Port.isOwn(I)Z pure -/
theorem dX3_isOwn_0 : decode cX3_isOwn 0 = .ok (.aload_n 0, 1) := by decide +kernel
theorem dX3_isOwn_1 : decode cX3_isOwn 1 = .ok (.iload_n 1, 1) := by decide +kernel
theorem dX3_isOwn_2 : decode cX3_isOwn 2 = .ok (.invokevirtual 75, 3) := by decide +kernel
theorem dX3_isOwn_5 : decode cX3_isOwn 5 = .ok (.ifCond .eq 14, 3) := by decide +kernel
theorem dX3_isOwn_8 : decode cX3_isOwn 8 = .ok (.aload_n 0, 1) := by decide +kernel
theorem dX3_isOwn_9 : decode cX3_isOwn 9 = .ok (.invokevirtual 79, 3) := by decide +kernel
theorem dX3_isOwn_12 : decode cX3_isOwn 12 = .ok (.ifCond .eq 7, 3) := by decide +kernel
theorem dX3_isOwn_15 : decode cX3_isOwn 15 = .ok (.iconst 1, 1) := by decide +kernel
theorem dX3_isOwn_16 : decode cX3_isOwn 16 = .ok (.goto 4, 3) := by decide +kernel
theorem dX3_isOwn_19 : decode cX3_isOwn 19 = .ok (.iconst 0, 1) := by decide +kernel
theorem dX3_isOwn_20 : decode cX3_isOwn 20 = .ok (.ireturn, 1) := by decide +kernel
def d_X3_isOwn (x0 : Nat) (x1 : Int32) (G : Hp) : Option (Int32) :=
  gd (hc G x0 = 4) <|
  bo (d_X3_hasMembers x0 x1 G) fun v3 =>
  if v3 = 0 then
    some 0
  else
    bo (d_X3_isFirst x0 G) fun v6 =>
    if v6 = 0 then
      some 0
    else
      some 1
section
variable {p : Program} {l : Launch} {e : Env} {s : State} {m : MethodId} {args : Array Value} {below : List Frame} {meth : Method} {c : Code} {b0 : Nat} {D : va_G} {E : Nat → ClassId}
set_option maxHeartbeats 4000000 in
set_option maxRecDepth 100000 in
theorem k_X3_isOwn (C : Cx p s m args meth c RX3 cX3_isOwn 2 (some .boolean) b0 D E) {rr : Int32} {G : Hp} {x0 : Nat} {x1 : Int32} {ls : Array Slot} {H : Heap} {locs : List Loc} : lx ls 2 [(0, .inr x0), (1, .inl x1)] → Rp b0 D E G H → SS b0 s H locs → d_X3_isOwn x0 x1 G = some rr → W p l e (rmd 1 (0) (0)) s m args below meth c H locs (0) (0) (MQ below (CQ b0 D E (some (.int rr)) G) args s (0) (0) (fun q => b0 ≤ q)) (F0 m 0 ls []) := by
  intro hL hR hS hd
  unfold d_X3_isOwn at hd
  have hx := C.1
  have hb := C.2.1
  refine x_aload_n C dX3_isOwn_0 hL 0 rfl ?_
  refine x_iload_n C dX3_isOwn_1 hL 1 rfl ?_
  obtain ⟨g1, hd⟩ := gd_ex hd
  obtain ⟨v3, h2, hd⟩ := bo_ex hd
  refine r_callV (a := x0) (ci := 3) (As := [.int x1]) C (ct_X3_hasMembers h2) mf_X3_hasMembers ml_X3_75 mv_X3_hasMembers rfl ⟨Nat.le_of_ble_eq_true rfl, Nat.le_of_ble_eq_true rfl⟩ dX3_isOwn_2 (lx_size hL) rfl hR hS g1 ⟨Nat.le_refl _, Nat.le_refl _⟩ (cat_le [] (Nat.le_of_ble_eq_true rfl)) (fun H locs hR hS => ?_)
  refine W_st (st2 := [.int v3]) rfl ?_
  refine lv_if_eq (tgt := 19) hx hb dX3_isOwn_5 (by decide) (fun c4 => ?_) (fun c4 => ?_)
  · rw [if_pos c4] at hd
    refine lv_iconst (v := 0) hx hb dX3_isOwn_19 (by decide) ?_
    cases hd
    exact r_zret C (by decide) dX3_isOwn_20 hR hS
  · rw [if_neg c4] at hd
    refine x_aload_n C dX3_isOwn_8 hL 0 rfl ?_
    obtain ⟨v6, h5, hd⟩ := bo_ex hd
    refine r_callV (a := x0) (ci := 3) (As := []) C (ct_X3_isFirst h5) mf_X3_isFirst ml_X3_79 mv_X3_isFirst rfl ⟨Nat.le_of_ble_eq_true rfl, Nat.le_of_ble_eq_true rfl⟩ dX3_isOwn_9 (lx_size hL) rfl hR hS g1 ⟨Nat.le_refl _, Nat.le_refl _⟩ (cat_le [] (Nat.le_of_ble_eq_true rfl)) (fun H locs hR hS => ?_)
    refine W_st (st2 := [.int v6]) rfl ?_
    refine lv_if_eq (tgt := 19) hx hb dX3_isOwn_12 (by decide) (fun c7 => ?_) (fun c7 => ?_)
    · rw [if_pos c7] at hd
      refine lv_iconst (v := 0) hx hb dX3_isOwn_19 (by decide) ?_
      cases hd
      exact r_zret C (by decide) dX3_isOwn_20 hR hS
    · rw [if_neg c7] at hd
      refine lv_iconst (v := 1) hx hb dX3_isOwn_15 (by decide) ?_
      refine lv_goto (tgt := 20) hx hb dX3_isOwn_16 (by decide) ?_
      cases hd
      exact r_zret C (by decide) dX3_isOwn_20 hR hS
end
set_option maxHeartbeats 4000000 in
set_option maxRecDepth 100000 in
theorem ct_X3_isOwn {l : Launch} {b0 : Nat} {D : va_G} {E : Nat → ClassId} {G : Hp} {a0 : Nat} {a1 : Int32} {rr : Int32} (hd : d_X3_isOwn a0 a1 G = some rr) : CT l yX3_isOwn cX3_isOwn 2 (some .boolean) 1 0 0 b0 D E [rv a0, .int a1] G (some (.int rr)) G := by
  refine CT_of (by decide +kernel) ?_
  intro p e s m below meth c C hnm hR
  refine r_entry [.inr a0, .inl a1] (n := 2) (Nat.le_of_ble_eq_true rfl) (lv := [(0, .inr a0), (1, .inl a1)]) rfl (fun ls hL => ?_)
  exact k_X3_isOwn C (lx_sub hL [0, 1] rfl) hR ⟨fun _ _ => rfl, fun _ h => by cases h⟩ hd
