/-! GroveWorksModel.step(II)V -/
theorem dX9_step_0 : decode cX9_step 0 = .ok (.iconst 0, 1) := by decide +kernel
theorem dX9_step_1 : decode cX9_step 1 = .ok (.istore_n 3, 1) := by decide +kernel
theorem dX9_step_2 : decode cX9_step 2 = .ok (.iload_n 3, 1) := by decide +kernel
theorem dX9_step_3 : decode cX9_step 3 = .ok (.iconst 4, 1) := by decide +kernel
theorem dX9_step_4 : decode cX9_step 4 = .ok (.if_icmp .ge 67, 3) := by decide +kernel
theorem dX9_step_7 : decode cX9_step 7 = .ok (.iconst 0, 1) := by decide +kernel
theorem dX9_step_8 : decode cX9_step 8 = .ok (.istore 4, 2) := by decide +kernel
theorem dX9_step_10 : decode cX9_step 10 = .ok (.iload 4, 2) := by decide +kernel
theorem dX9_step_12 : decode cX9_step 12 = .ok (.aload_n 0, 1) := by decide +kernel
theorem dX9_step_13 : decode cX9_step 13 = .ok (.getfield 108, 3) := by decide +kernel
theorem dX9_step_16 : decode cX9_step 16 = .ok (.if_icmp .ge 49, 3) := by decide +kernel
theorem dX9_step_19 : decode cX9_step 19 = .ok (.aload_n 0, 1) := by decide +kernel
theorem dX9_step_20 : decode cX9_step 20 = .ok (.iload_n 1, 1) := by decide +kernel
theorem dX9_step_21 : decode cX9_step 21 = .ok (.iload_n 3, 1) := by decide +kernel
theorem dX9_step_22 : decode cX9_step 22 = .ok (.iload 4, 2) := by decide +kernel
theorem dX9_step_24 : decode cX9_step 24 = .ok (.iload_n 2, 1) := by decide +kernel
theorem dX9_step_25 : decode cX9_step 25 = .ok (.invokevirtual 153, 3) := by decide +kernel
theorem dX9_step_28 : decode cX9_step 28 = .ok (.istore 5, 2) := by decide +kernel
theorem dX9_step_30 : decode cX9_step 30 = .ok (.iload 5, 2) := by decide +kernel
theorem dX9_step_32 : decode cX9_step 32 = .ok (.aload_n 0, 1) := by decide +kernel
theorem dX9_step_33 : decode cX9_step 33 = .ok (.getfield 54, 3) := by decide +kernel
theorem dX9_step_36 : decode cX9_step 36 = .ok (.bipush 26, 2) := by decide +kernel
theorem dX9_step_38 : decode cX9_step 38 = .ok (.iload_n 1, 1) := by decide +kernel
theorem dX9_step_39 : decode cX9_step 39 = .ok (.imul, 1) := by decide +kernel
theorem dX9_step_40 : decode cX9_step 40 = .ok (.iload_n 2, 1) := by decide +kernel
theorem dX9_step_41 : decode cX9_step 41 = .ok (.iadd, 1) := by decide +kernel
theorem dX9_step_42 : decode cX9_step 42 = .ok (.iaload, 1) := by decide +kernel
theorem dX9_step_43 : decode cX9_step 43 = .ok (.if_icmp .ge 16, 3) := by decide +kernel
theorem dX9_step_46 : decode cX9_step 46 = .ok (.aload_n 0, 1) := by decide +kernel
theorem dX9_step_47 : decode cX9_step 47 = .ok (.getfield 54, 3) := by decide +kernel
theorem dX9_step_50 : decode cX9_step 50 = .ok (.bipush 26, 2) := by decide +kernel
theorem dX9_step_52 : decode cX9_step 52 = .ok (.iload_n 1, 1) := by decide +kernel
theorem dX9_step_53 : decode cX9_step 53 = .ok (.imul, 1) := by decide +kernel
theorem dX9_step_54 : decode cX9_step 54 = .ok (.iload_n 2, 1) := by decide +kernel
theorem dX9_step_55 : decode cX9_step 55 = .ok (.iadd, 1) := by decide +kernel
theorem dX9_step_56 : decode cX9_step 56 = .ok (.iload 5, 2) := by decide +kernel
theorem dX9_step_58 : decode cX9_step 58 = .ok (.iastore, 1) := by decide +kernel
theorem dX9_step_59 : decode cX9_step 59 = .ok (.iinc 4 1, 3) := by decide +kernel
theorem dX9_step_62 : decode cX9_step 62 = .ok (.goto (-52), 3) := by decide +kernel
theorem dX9_step_65 : decode cX9_step 65 = .ok (.iinc 3 1, 3) := by decide +kernel
theorem dX9_step_68 : decode cX9_step 68 = .ok (.goto (-66), 3) := by decide +kernel
theorem dX9_step_71 : decode cX9_step 71 = .ok (.return_, 1) := by decide +kernel
def d_X9_step_10 : Nat → Nat → Int32 → Int32 → Int32 → Int32 → Hp → (Nat → Int32 → Int32 → Int32 → Hp → Option (Hp)) → Option (Hp)
  | 0, _, _, _, _, _, _, _ => none
  | n_ + 1, x0, x1, x2, x3, x4, G, k2 =>
    gd (hc G x0 = 10) <|
    if ((hi G x0 1)) ≤ x4 then
      k2 x0 x1 x2 ((x3 + 1)) G
    else
      bo (d_X9_over x0 x1 x3 x4 x2 G) fun v4 =>
      gd (hc G ((hr G x0 22)) = 11 ∧ ix ((((26 * x1)) + x2)) (hl G ((hr G x0 22)))) <|
      if ((hi G ((hr G x0 22)) ((((26 * x1)) + x2)).toNatClampNeg)) ≤ v4 then
        d_X9_step_10 n_ x0 x1 x2 x3 ((x4 + 1)) G k2
      else
        gd (hc G ((hr G x0 22)) = 11 ∧ ix ((((26 * x1)) + x2)) (hl G ((hr G x0 22)))) <|
        bd (sI G ((hr G x0 22)) ((((26 * x1)) + x2)).toNatClampNeg v4) fun G8 =>
        d_X9_step_10 n_ x0 x1 x2 x3 ((x4 + 1)) G8 k2
def d_X9_step_2 : Nat → Nat → Int32 → Int32 → Int32 → Hp → Option (Hp)
  | 0, _, _, _, _, _ => none
  | n_ + 1, x0, x1, x2, x3, G =>
    if 4 ≤ x3 then
      some G
    else
      d_X9_step_10 FU x0 x1 x2 x3 0 G (fun y0 y1 y2 y3 Gy => d_X9_step_2 n_ y0 y1 y2 y3 Gy)
def d_X9_step (x0 : Nat) (x1 : Int32) (x2 : Int32) (G : Hp) : Option (Hp) :=
  d_X9_step_2 FU x0 x1 x2 0 G
section
variable {p : Program} {l : Launch} {e : Env} {s : State} {m : MethodId} {args : Array Value} {below : List Frame} {meth : Method} {c : Code} {b0 : Nat} {D : va_G} {E : Nat → ClassId}
set_option maxHeartbeats 4000000 in
set_option maxRecDepth 100000 in
theorem k_X9_step_10 (C : Cx p s m args meth c RX9 cX9_step 6 none b0 D E) {GG : Hp} {k2 : Nat → Int32 → Int32 → Int32 → Hp → Option (Hp)} (hk2 : ∀ (y0 : Nat) (y1 : Int32) (y2 : Int32) (y3 : Int32) (Gy : Hp) (H1 : Heap) (locs1 : List Loc) (ls1 : Array Slot), lx ls1 6 [(0, .inr y0), (1, .inl y1), (2, .inl y2), (3, .inl y3)] → Rp b0 D E Gy H1 → SS b0 s H1 locs1 → k2 y0 y1 y2 y3 Gy = some GG → W p l e (rmd 2 (0) (0)) s m args below meth c H1 locs1 (0) (0) (MQ below (CQ b0 D E none GG) args s (0) (0) (fun q => b0 ≤ q)) (F0 m 2 ls1 [])) : ∀ (n_ : Nat) {x0 : Nat} {x1 : Int32} {x2 : Int32} {x3 : Int32} {x4 : Int32} {G : Hp} {ls : Array Slot} {H : Heap} {locs : List Loc}, lx ls 6 [(0, .inr x0), (1, .inl x1), (2, .inl x2), (3, .inl x3), (4, .inl x4)] → Rp b0 D E G H → SS b0 s H locs → d_X9_step_10 n_ x0 x1 x2 x3 x4 G k2 = some GG → W p l e (rmd 2 (0) (0)) s m args below meth c H locs (0) (0) (MQ below (CQ b0 D E none GG) args s (0) (0) (fun q => b0 ≤ q)) (F0 m 10 ls []) := by
  intro n_
  induction n_ with
  | zero =>
    intro x0 x1 x2 x3 x4 G ls H locs hL hR hS hd
    cases (show (none : Option _) = some _ from hd)
  | succ n_ ih =>
    intro x0 x1 x2 x3 x4 G ls H locs hL hR hS hd
    rw [d_X9_step_10.eq_2] at hd
    have hx := C.1
    have hb := C.2.1
    refine x_iload C dX9_step_10 hL 4 rfl ?_
    refine x_aload_n C dX9_step_12 hL 0 rfl ?_
    obtain ⟨g1, hd⟩ := gd_ex hd
    refine r_geti (ci := 9) (k := 1) C fl_X9_108 rfl dX9_step_13 hR g1 ?_
    refine lv_icmp_ge (tgt := 65) hx hb dX9_step_16 (by decide) (fun c2 => ?_) (fun c2 => ?_)
    · rw [if_pos c2] at hd
      refine x_iinc (lv' := [(3, .inl ((x3 + 1))), (0, .inr x0), (1, .inl x1), (2, .inl x2), (4, .inl x4)]) C dX9_step_65 hL 3 rfl rfl (by decide) rfl (fun ls hL => ?_)
      refine lv_goto (tgt := 2) hx hb dX9_step_68 (by decide) ?_
      exact hk2 _ _ _ _ _ _ _ _ (lx_sub hL [1, 2, 3, 0] rfl) hR hS hd
    · rw [if_neg c2] at hd
      refine x_aload_n C dX9_step_19 hL 0 rfl ?_
      refine x_iload_n C dX9_step_20 hL 1 rfl ?_
      refine x_iload_n C dX9_step_21 hL 3 rfl ?_
      refine x_iload C dX9_step_22 hL 4 rfl ?_
      refine x_iload_n C dX9_step_24 hL 2 rfl ?_
      obtain ⟨v4, h3, hd⟩ := bo_ex hd
      refine r_callV (a := x0) (ci := 9) (As := [.int x1, .int x3, .int x4, .int x2]) C (ct_X9_over h3) mf_X9_over ml_X9_153 mv_X9_over rfl ⟨Nat.le_of_ble_eq_true rfl, Nat.le_of_ble_eq_true rfl⟩ dX9_step_25 (lx_size hL) rfl hR hS g1 ⟨Nat.le_refl _, Nat.le_refl _⟩ (cat_le [] (Nat.le_of_ble_eq_true rfl)) (fun H locs hR hS => ?_)
      refine W_st (st2 := [.int v4]) rfl ?_
      refine x_istore (lv' := [(5, .inl v4), (0, .inr x0), (1, .inl x1), (2, .inl x2), (3, .inl x3), (4, .inl x4)]) C dX9_step_28 hL (by decide) rfl (fun ls hL => ?_)
      refine x_iload C dX9_step_30 hL 0 rfl ?_
      refine x_aload_n C dX9_step_32 hL 1 rfl ?_
      refine r_getr (ci := 9) (k := 22) C fl_X9_54 rfl dX9_step_33 hR g1 ?_
      refine lv_bipush (v := 26) hx hb dX9_step_36 (by decide) ?_
      refine x_iload_n C dX9_step_38 hL 2 rfl ?_
      refine lv_imul hx hb dX9_step_39 ?_
      refine x_iload_n C dX9_step_40 hL 3 rfl ?_
      refine lv_iadd hx hb dX9_step_41 ?_
      obtain ⟨g5, hd⟩ := gd_ex hd
      refine r_iald C dX9_step_42 hR g5 ?_
      refine lv_icmp_ge (tgt := 59) hx hb dX9_step_43 (by decide) (fun c6 => ?_) (fun c6 => ?_)
      · rw [if_pos c6] at hd
        refine x_iinc (lv' := [(4, .inl ((x4 + 1))), (5, .inl v4), (0, .inr x0), (1, .inl x1), (2, .inl x2), (3, .inl x3)]) C dX9_step_59 hL 5 rfl rfl (by decide) rfl (fun ls hL => ?_)
        refine lv_goto (tgt := 10) hx hb dX9_step_62 (by decide) ?_
        exact ih (lx_sub hL [2, 3, 4, 5, 0] rfl) hR hS hd
      · rw [if_neg c6] at hd
        refine x_aload_n C dX9_step_46 hL 1 rfl ?_
        refine r_getr (ci := 9) (k := 22) C fl_X9_54 rfl dX9_step_47 hR g1 ?_
        refine lv_bipush (v := 26) hx hb dX9_step_50 (by decide) ?_
        refine x_iload_n C dX9_step_52 hL 2 rfl ?_
        refine lv_imul hx hb dX9_step_53 ?_
        refine x_iload_n C dX9_step_54 hL 3 rfl ?_
        refine lv_iadd hx hb dX9_step_55 ?_
        refine x_iload C dX9_step_56 hL 0 rfl ?_
        obtain ⟨g7, hd⟩ := gd_ex hd
        obtain ⟨G8, eG8, hd⟩ := bd_ex hd
        refine r_iast C dX9_step_58 hR hS g7 (fun H locs hR hS => ?_)
        replace hR : Rp b0 D E G8 H := by rw [eG8]; exact hR
        refine x_iinc (lv' := [(4, .inl ((x4 + 1))), (5, .inl v4), (0, .inr x0), (1, .inl x1), (2, .inl x2), (3, .inl x3)]) C dX9_step_59 hL 5 rfl rfl (by decide) rfl (fun ls hL => ?_)
        refine lv_goto (tgt := 10) hx hb dX9_step_62 (by decide) ?_
        exact ih (lx_sub hL [2, 3, 4, 5, 0] rfl) hR hS hd
set_option maxHeartbeats 4000000 in
set_option maxRecDepth 100000 in
theorem k_X9_step_2 (C : Cx p s m args meth c RX9 cX9_step 6 none b0 D E) {GG : Hp} : ∀ (n_ : Nat) {x0 : Nat} {x1 : Int32} {x2 : Int32} {x3 : Int32} {G : Hp} {ls : Array Slot} {H : Heap} {locs : List Loc}, lx ls 6 [(0, .inr x0), (1, .inl x1), (2, .inl x2), (3, .inl x3)] → Rp b0 D E G H → SS b0 s H locs → d_X9_step_2 n_ x0 x1 x2 x3 G = some GG → W p l e (rmd 2 (0) (0)) s m args below meth c H locs (0) (0) (MQ below (CQ b0 D E none GG) args s (0) (0) (fun q => b0 ≤ q)) (F0 m 2 ls []) := by
  intro n_
  induction n_ with
  | zero =>
    intro x0 x1 x2 x3 G ls H locs hL hR hS hd
    cases (show (none : Option _) = some _ from hd)
  | succ n_ ih =>
    intro x0 x1 x2 x3 G ls H locs hL hR hS hd
    rw [d_X9_step_2.eq_2] at hd
    have hx := C.1
    have hb := C.2.1
    refine x_iload_n C dX9_step_2 hL 3 rfl ?_
    refine lv_iconst (v := 4) hx hb dX9_step_3 (by decide) ?_
    refine lv_icmp_ge (tgt := 71) hx hb dX9_step_4 (by decide) (fun c1 => ?_) (fun c1 => ?_)
    · rw [if_pos c1] at hd
      cases hd
      exact r_vret C dX9_step_71 hR hS
    · rw [if_neg c1] at hd
      refine lv_iconst (v := 0) hx hb dX9_step_7 (by decide) ?_
      refine x_istore (lv' := [(4, .inl 0), (0, .inr x0), (1, .inl x1), (2, .inl x2), (3, .inl x3)]) C dX9_step_8 hL (by decide) rfl (fun ls hL => ?_)
      exact k_X9_step_10 C (fun y0 y1 y2 y3 Gy H1 locs1 ls1 hL1 hR1 hS1 hd1 => ih hL1 hR1 hS1 hd1) FU (lx_sub hL [1, 2, 3, 4, 0] rfl) hR hS hd
set_option maxHeartbeats 4000000 in
set_option maxRecDepth 100000 in
theorem k_X9_step (C : Cx p s m args meth c RX9 cX9_step 6 none b0 D E) {GG : Hp} {x0 : Nat} {x1 : Int32} {x2 : Int32} {G : Hp} {ls : Array Slot} {H : Heap} {locs : List Loc} : lx ls 6 [(0, .inr x0), (1, .inl x1), (2, .inl x2)] → Rp b0 D E G H → SS b0 s H locs → d_X9_step x0 x1 x2 G = some GG → W p l e (rmd 2 (0) (0)) s m args below meth c H locs (0) (0) (MQ below (CQ b0 D E none GG) args s (0) (0) (fun q => b0 ≤ q)) (F0 m 0 ls []) := by
  intro hL hR hS hd
  unfold d_X9_step at hd
  have hx := C.1
  have hb := C.2.1
  refine lv_iconst (v := 0) hx hb dX9_step_0 (by decide) ?_
  refine x_istore_n (lv' := [(3, .inl 0), (0, .inr x0), (1, .inl x1), (2, .inl x2)]) C dX9_step_1 hL (by decide) rfl (fun ls hL => ?_)
  exact k_X9_step_2 C FU (lx_sub hL [1, 2, 3, 0] rfl) hR hS hd
end
set_option maxHeartbeats 4000000 in
set_option maxRecDepth 100000 in
theorem ct_X9_step {l : Launch} {b0 : Nat} {D : va_G} {E : Nat → ClassId} {G : Hp} {a0 : Nat} {a1 : Int32} {a2 : Int32} {GG : Hp} (hd : d_X9_step a0 a1 a2 G = some GG) : CT l yX9_step cX9_step 6 none 2 0 0 b0 D E [rv a0, .int a1, .int a2] G none GG := by
  refine CT_of (by decide +kernel) ?_
  intro p e s m below meth c C hnm hR
  refine r_entry [.inr a0, .inl a1, .inl a2] (n := 6) (Nat.le_of_ble_eq_true rfl) (lv := [(0, .inr a0), (1, .inl a1), (2, .inl a2)]) rfl (fun ls hL => ?_)
  exact k_X9_step C (lx_sub hL [0, 1, 2] rfl) hR ⟨fun _ _ => rfl, fun _ h => by cases h⟩ hd

/-! GroveWorksModel.settle(II)V -/
theorem dX9_settle_0 : decode cX9_settle 0 = .ok (.bipush 26, 2) := by decide +kernel
theorem dX9_settle_2 : decode cX9_settle 2 = .ok (.iload_n 1, 1) := by decide +kernel
theorem dX9_settle_3 : decode cX9_settle 3 = .ok (.imul, 1) := by decide +kernel
theorem dX9_settle_4 : decode cX9_settle 4 = .ok (.iload_n 2, 1) := by decide +kernel
theorem dX9_settle_5 : decode cX9_settle 5 = .ok (.iadd, 1) := by decide +kernel
theorem dX9_settle_6 : decode cX9_settle 6 = .ok (.istore_n 3, 1) := by decide +kernel
theorem dX9_settle_7 : decode cX9_settle 7 = .ok (.aload_n 0, 1) := by decide +kernel
theorem dX9_settle_8 : decode cX9_settle 8 = .ok (.getfield 57, 3) := by decide +kernel
theorem dX9_settle_11 : decode cX9_settle 11 = .ok (.iload_n 3, 1) := by decide +kernel
theorem dX9_settle_12 : decode cX9_settle 12 = .ok (.iconst (-1), 1) := by decide +kernel
theorem dX9_settle_13 : decode cX9_settle 13 = .ok (.iastore, 1) := by decide +kernel
theorem dX9_settle_14 : decode cX9_settle 14 = .ok (.aload_n 0, 1) := by decide +kernel
theorem dX9_settle_15 : decode cX9_settle 15 = .ok (.getfield 60, 3) := by decide +kernel
theorem dX9_settle_18 : decode cX9_settle 18 = .ok (.iload_n 3, 1) := by decide +kernel
theorem dX9_settle_19 : decode cX9_settle 19 = .ok (.iconst (-1), 1) := by decide +kernel
theorem dX9_settle_20 : decode cX9_settle 20 = .ok (.iastore, 1) := by decide +kernel
theorem dX9_settle_21 : decode cX9_settle 21 = .ok (.aload_n 0, 1) := by decide +kernel
theorem dX9_settle_22 : decode cX9_settle 22 = .ok (.getfield 54, 3) := by decide +kernel
theorem dX9_settle_25 : decode cX9_settle 25 = .ok (.iload_n 3, 1) := by decide +kernel
theorem dX9_settle_26 : decode cX9_settle 26 = .ok (.iaload, 1) := by decide +kernel
theorem dX9_settle_27 : decode cX9_settle 27 = .ok (.ldc 143, 2) := by decide +kernel
theorem dX9_settle_29 : decode cX9_settle 29 = .ok (.if_icmp .ge 8, 3) := by decide +kernel
theorem dX9_settle_32 : decode cX9_settle 32 = .ok (.iload_n 2, 1) := by decide +kernel
theorem dX9_settle_33 : decode cX9_settle 33 = .ok (.iload_n 1, 1) := by decide +kernel
theorem dX9_settle_34 : decode cX9_settle 34 = .ok (.if_icmp .ne 4, 3) := by decide +kernel
theorem dX9_settle_37 : decode cX9_settle 37 = .ok (.return_, 1) := by decide +kernel
theorem dX9_settle_38 : decode cX9_settle 38 = .ok (.aload_n 0, 1) := by decide +kernel
theorem dX9_settle_39 : decode cX9_settle 39 = .ok (.iload_n 1, 1) := by decide +kernel
theorem dX9_settle_40 : decode cX9_settle 40 = .ok (.iload_n 2, 1) := by decide +kernel
theorem dX9_settle_41 : decode cX9_settle 41 = .ok (.invokevirtual 139, 3) := by decide +kernel
theorem dX9_settle_44 : decode cX9_settle 44 = .ok (.ifCond .eq 19, 3) := by decide +kernel
theorem dX9_settle_47 : decode cX9_settle 47 = .ok (.aload_n 0, 1) := by decide +kernel
theorem dX9_settle_48 : decode cX9_settle 48 = .ok (.getfield 57, 3) := by decide +kernel
theorem dX9_settle_51 : decode cX9_settle 51 = .ok (.iload_n 3, 1) := by decide +kernel
theorem dX9_settle_52 : decode cX9_settle 52 = .ok (.aload_n 0, 1) := by decide +kernel
theorem dX9_settle_53 : decode cX9_settle 53 = .ok (.iload_n 1, 1) := by decide +kernel
theorem dX9_settle_54 : decode cX9_settle 54 = .ok (.iload_n 2, 1) := by decide +kernel
theorem dX9_settle_55 : decode cX9_settle 55 = .ok (.bipush 10, 2) := by decide +kernel
theorem dX9_settle_57 : decode cX9_settle 57 = .ok (.isub, 1) := by decide +kernel
theorem dX9_settle_58 : decode cX9_settle 58 = .ok (.invokevirtual 125, 3) := by decide +kernel
theorem dX9_settle_61 : decode cX9_settle 61 = .ok (.iastore, 1) := by decide +kernel
theorem dX9_settle_62 : decode cX9_settle 62 = .ok (.return_, 1) := by decide +kernel
theorem dX9_settle_63 : decode cX9_settle 63 = .ok (.ldc 143, 2) := by decide +kernel
theorem dX9_settle_65 : decode cX9_settle 65 = .ok (.istore 4, 2) := by decide +kernel
theorem dX9_settle_67 : decode cX9_settle 67 = .ok (.iconst 0, 1) := by decide +kernel
theorem dX9_settle_68 : decode cX9_settle 68 = .ok (.istore 5, 2) := by decide +kernel
theorem dX9_settle_70 : decode cX9_settle 70 = .ok (.iload 5, 2) := by decide +kernel
theorem dX9_settle_72 : decode cX9_settle 72 = .ok (.iconst 4, 1) := by decide +kernel
theorem dX9_settle_73 : decode cX9_settle 73 = .ok (.if_icmp .ge 69, 3) := by decide +kernel
theorem dX9_settle_76 : decode cX9_settle 76 = .ok (.iconst 0, 1) := by decide +kernel
theorem dX9_settle_77 : decode cX9_settle 77 = .ok (.istore 6, 2) := by decide +kernel
theorem dX9_settle_79 : decode cX9_settle 79 = .ok (.iload 6, 2) := by decide +kernel
theorem dX9_settle_81 : decode cX9_settle 81 = .ok (.aload_n 0, 1) := by decide +kernel
theorem dX9_settle_82 : decode cX9_settle 82 = .ok (.getfield 108, 3) := by decide +kernel
theorem dX9_settle_85 : decode cX9_settle 85 = .ok (.if_icmp .ge 51, 3) := by decide +kernel
theorem dX9_settle_88 : decode cX9_settle 88 = .ok (.aload_n 0, 1) := by decide +kernel
theorem dX9_settle_89 : decode cX9_settle 89 = .ok (.iload_n 1, 1) := by decide +kernel
theorem dX9_settle_90 : decode cX9_settle 90 = .ok (.iload 5, 2) := by decide +kernel
theorem dX9_settle_92 : decode cX9_settle 92 = .ok (.iload 6, 2) := by decide +kernel
theorem dX9_settle_94 : decode cX9_settle 94 = .ok (.iload_n 2, 1) := by decide +kernel
theorem dX9_settle_95 : decode cX9_settle 95 = .ok (.invokevirtual 153, 3) := by decide +kernel
theorem dX9_settle_98 : decode cX9_settle 98 = .ok (.istore 7, 2) := by decide +kernel
theorem dX9_settle_100 : decode cX9_settle 100 = .ok (.iload 7, 2) := by decide +kernel
theorem dX9_settle_102 : decode cX9_settle 102 = .ok (.iload 4, 2) := by decide +kernel
theorem dX9_settle_104 : decode cX9_settle 104 = .ok (.if_icmp .lt 6, 3) := by decide +kernel
theorem dX9_settle_107 : decode cX9_settle 107 = .ok (.goto 23, 3) := by decide +kernel
theorem dX9_settle_110 : decode cX9_settle 110 = .ok (.iload 7, 2) := by decide +kernel
theorem dX9_settle_112 : decode cX9_settle 112 = .ok (.istore 4, 2) := by decide +kernel
theorem dX9_settle_114 : decode cX9_settle 114 = .ok (.aload_n 0, 1) := by decide +kernel
theorem dX9_settle_115 : decode cX9_settle 115 = .ok (.getfield 57, 3) := by decide +kernel
theorem dX9_settle_118 : decode cX9_settle 118 = .ok (.iload_n 3, 1) := by decide +kernel
theorem dX9_settle_119 : decode cX9_settle 119 = .ok (.iload 5, 2) := by decide +kernel
theorem dX9_settle_121 : decode cX9_settle 121 = .ok (.iastore, 1) := by decide +kernel
theorem dX9_settle_122 : decode cX9_settle 122 = .ok (.aload_n 0, 1) := by decide +kernel
theorem dX9_settle_123 : decode cX9_settle 123 = .ok (.getfield 60, 3) := by decide +kernel
theorem dX9_settle_126 : decode cX9_settle 126 = .ok (.iload_n 3, 1) := by decide +kernel
theorem dX9_settle_127 : decode cX9_settle 127 = .ok (.iload 6, 2) := by decide +kernel
theorem dX9_settle_129 : decode cX9_settle 129 = .ok (.iastore, 1) := by decide +kernel
theorem dX9_settle_130 : decode cX9_settle 130 = .ok (.iinc 6 1, 3) := by decide +kernel
theorem dX9_settle_133 : decode cX9_settle 133 = .ok (.goto (-54), 3) := by decide +kernel
theorem dX9_settle_136 : decode cX9_settle 136 = .ok (.iinc 5 1, 3) := by decide +kernel
theorem dX9_settle_139 : decode cX9_settle 139 = .ok (.goto (-69), 3) := by decide +kernel
theorem dX9_settle_142 : decode cX9_settle 142 = .ok (.return_, 1) := by decide +kernel
def d_X9_settle_79 : Nat → Nat → Int32 → Int32 → Int32 → Int32 → Int32 → Int32 → Hp → (Nat → Int32 → Int32 → Int32 → Int32 → Int32 → Hp → Option (Hp)) → Option (Hp)
  | 0, _, _, _, _, _, _, _, _, _ => none
  | n_ + 1, x0, x1, x2, x3, x4, x5, x6, G, k70 =>
    gd (hc G x0 = 10) <|
    if ((hi G x0 1)) ≤ x6 then
      k70 x0 x1 x2 x3 x4 ((x5 + 1)) G
    else
      bo (d_X9_over x0 x1 x5 x6 x2 G) fun v4 =>
      if v4 < x4 then
        gd (hc G ((hr G x0 23)) = 11 ∧ ix x3 (hl G ((hr G x0 23)))) <|
        bd (sI G ((hr G x0 23)) x3.toNatClampNeg x5) fun G7 =>
        gd (hc G7 x0 = 10) <|
        gd (hc G7 ((hr G7 x0 24)) = 11 ∧ ix x3 (hl G7 ((hr G7 x0 24)))) <|
        bd (sI G7 ((hr G7 x0 24)) x3.toNatClampNeg x6) fun G10 =>
        d_X9_settle_79 n_ x0 x1 x2 x3 v4 x5 ((x6 + 1)) G10 k70
      else
        d_X9_settle_79 n_ x0 x1 x2 x3 x4 x5 ((x6 + 1)) G k70
def d_X9_settle_70 : Nat → Nat → Int32 → Int32 → Int32 → Int32 → Int32 → Hp → Option (Hp)
  | 0, _, _, _, _, _, _, _ => none
  | n_ + 1, x0, x1, x2, x3, x4, x5, G =>
    if 4 ≤ x5 then
      some G
    else
      d_X9_settle_79 FU x0 x1 x2 x3 x4 x5 0 G (fun y0 y1 y2 y3 y4 y5 Gy => d_X9_settle_70 n_ y0 y1 y2 y3 y4 y5 Gy)
def d_X9_settle (x0 : Nat) (x1 : Int32) (x2 : Int32) (G : Hp) : Option (Hp) :=
  gd (hc G x0 = 10) <|
  gd (hc G ((hr G x0 23)) = 11 ∧ ix ((((26 * x1)) + x2)) (hl G ((hr G x0 23)))) <|
  bd (sI G ((hr G x0 23)) ((((26 * x1)) + x2)).toNatClampNeg (-1)) fun G3 =>
  gd (hc G3 x0 = 10) <|
  gd (hc G3 ((hr G3 x0 24)) = 11 ∧ ix ((((26 * x1)) + x2)) (hl G3 ((hr G3 x0 24)))) <|
  bd (sI G3 ((hr G3 x0 24)) ((((26 * x1)) + x2)).toNatClampNeg (-1)) fun G6 =>
  gd (hc G6 x0 = 10) <|
  gd (hc G6 ((hr G6 x0 22)) = 11 ∧ ix ((((26 * x1)) + x2)) (hl G6 ((hr G6 x0 22)))) <|
  if 1000000 ≤ ((hi G6 ((hr G6 x0 22)) ((((26 * x1)) + x2)).toNatClampNeg)) then
    some G6
  else
    if x2 = x1 then
      some G6
    else
      bo (d_X9_isAt x0 x1 x2 G6) fun v12 =>
      if v12 = 0 then
        d_X9_settle_70 FU x0 x1 x2 ((((26 * x1)) + x2)) 1000000 0 G6
      else
        bo (d_X9_portOn x0 x1 ((x2 - 10)) G6) fun v15 =>
        gd (hc G6 ((hr G6 x0 23)) = 11 ∧ ix ((((26 * x1)) + x2)) (hl G6 ((hr G6 x0 23)))) <|
        bd (sI G6 ((hr G6 x0 23)) ((((26 * x1)) + x2)).toNatClampNeg v15) fun G17 =>
        some G17
section
variable {p : Program} {l : Launch} {e : Env} {s : State} {m : MethodId} {args : Array Value} {below : List Frame} {meth : Method} {c : Code} {b0 : Nat} {D : va_G} {E : Nat → ClassId}
set_option maxHeartbeats 4000000 in
set_option maxRecDepth 100000 in
theorem k_X9_settle_79 (C : Cx p s m args meth c RX9 cX9_settle 8 none b0 D E) {GG : Hp} {k70 : Nat → Int32 → Int32 → Int32 → Int32 → Int32 → Hp → Option (Hp)} (hk70 : ∀ (y0 : Nat) (y1 : Int32) (y2 : Int32) (y3 : Int32) (y4 : Int32) (y5 : Int32) (Gy : Hp) (H1 : Heap) (locs1 : List Loc) (ls1 : Array Slot), lx ls1 8 [(0, .inr y0), (1, .inl y1), (2, .inl y2), (3, .inl y3), (4, .inl y4), (5, .inl y5)] → Rp b0 D E Gy H1 → SS b0 s H1 locs1 → k70 y0 y1 y2 y3 y4 y5 Gy = some GG → W p l e (rmd 2 (0) (0)) s m args below meth c H1 locs1 (0) (0) (MQ below (CQ b0 D E none GG) args s (0) (0) (fun q => b0 ≤ q)) (F0 m 70 ls1 [])) : ∀ (n_ : Nat) {x0 : Nat} {x1 : Int32} {x2 : Int32} {x3 : Int32} {x4 : Int32} {x5 : Int32} {x6 : Int32} {G : Hp} {ls : Array Slot} {H : Heap} {locs : List Loc}, lx ls 8 [(0, .inr x0), (1, .inl x1), (2, .inl x2), (3, .inl x3), (4, .inl x4), (5, .inl x5), (6, .inl x6)] → Rp b0 D E G H → SS b0 s H locs → d_X9_settle_79 n_ x0 x1 x2 x3 x4 x5 x6 G k70 = some GG → W p l e (rmd 2 (0) (0)) s m args below meth c H locs (0) (0) (MQ below (CQ b0 D E none GG) args s (0) (0) (fun q => b0 ≤ q)) (F0 m 79 ls []) := by
  intro n_
  induction n_ with
  | zero =>
    intro x0 x1 x2 x3 x4 x5 x6 G ls H locs hL hR hS hd
    cases (show (none : Option _) = some _ from hd)
  | succ n_ ih =>
    intro x0 x1 x2 x3 x4 x5 x6 G ls H locs hL hR hS hd
    rw [d_X9_settle_79.eq_2] at hd
    have hx := C.1
    have hb := C.2.1
    refine x_iload C dX9_settle_79 hL 6 rfl ?_
    refine x_aload_n C dX9_settle_81 hL 0 rfl ?_
    obtain ⟨g1, hd⟩ := gd_ex hd
    refine r_geti (ci := 9) (k := 1) C fl_X9_108 rfl dX9_settle_82 hR g1 ?_
    refine lv_icmp_ge (tgt := 136) hx hb dX9_settle_85 (by decide) (fun c2 => ?_) (fun c2 => ?_)
    · rw [if_pos c2] at hd
      refine x_iinc (lv' := [(5, .inl ((x5 + 1))), (0, .inr x0), (1, .inl x1), (2, .inl x2), (3, .inl x3), (4, .inl x4), (6, .inl x6)]) C dX9_settle_136 hL 5 rfl rfl (by decide) rfl (fun ls hL => ?_)
      refine lv_goto (tgt := 70) hx hb dX9_settle_139 (by decide) ?_
      exact hk70 _ _ _ _ _ _ _ _ _ _ (lx_sub hL [1, 2, 3, 4, 5, 0] rfl) hR hS hd
    · rw [if_neg c2] at hd
      refine x_aload_n C dX9_settle_88 hL 0 rfl ?_
      refine x_iload_n C dX9_settle_89 hL 1 rfl ?_
      refine x_iload C dX9_settle_90 hL 5 rfl ?_
      refine x_iload C dX9_settle_92 hL 6 rfl ?_
      refine x_iload_n C dX9_settle_94 hL 2 rfl ?_
      obtain ⟨v4, h3, hd⟩ := bo_ex hd
      refine r_callV (a := x0) (ci := 9) (As := [.int x1, .int x5, .int x6, .int x2]) C (ct_X9_over h3) mf_X9_over ml_X9_153 mv_X9_over rfl ⟨Nat.le_of_ble_eq_true rfl, Nat.le_of_ble_eq_true rfl⟩ dX9_settle_95 (lx_size hL) rfl hR hS g1 ⟨Nat.le_refl _, Nat.le_refl _⟩ (cat_le [] (Nat.le_of_ble_eq_true rfl)) (fun H locs hR hS => ?_)
      refine W_st (st2 := [.int v4]) rfl ?_
      refine x_istore (lv' := [(7, .inl v4), (0, .inr x0), (1, .inl x1), (2, .inl x2), (3, .inl x3), (4, .inl x4), (5, .inl x5), (6, .inl x6)]) C dX9_settle_98 hL (by decide) rfl (fun ls hL => ?_)
      refine x_iload C dX9_settle_100 hL 0 rfl ?_
      refine x_iload C dX9_settle_102 hL 5 rfl ?_
      refine lv_icmp_lt (tgt := 110) hx hb dX9_settle_104 (by decide) (fun c5 => ?_) (fun c5 => ?_)
      · rw [if_pos c5] at hd
        refine x_iload C dX9_settle_110 hL 0 rfl ?_
        refine x_istore (lv' := [(4, .inl v4), (7, .inl v4), (0, .inr x0), (1, .inl x1), (2, .inl x2), (3, .inl x3), (5, .inl x5), (6, .inl x6)]) C dX9_settle_112 hL (by decide) rfl (fun ls hL => ?_)
        refine x_aload_n C dX9_settle_114 hL 2 rfl ?_
        refine r_getr (ci := 9) (k := 23) C fl_X9_57 rfl dX9_settle_115 hR g1 ?_
        refine x_iload_n C dX9_settle_118 hL 5 rfl ?_
        refine x_iload C dX9_settle_119 hL 6 rfl ?_
        obtain ⟨g6, hd⟩ := gd_ex hd
        obtain ⟨G7, eG7, hd⟩ := bd_ex hd
        refine r_iast C dX9_settle_121 hR hS g6 (fun H locs hR hS => ?_)
        replace hR : Rp b0 D E G7 H := by rw [eG7]; exact hR
        refine x_aload_n C dX9_settle_122 hL 2 rfl ?_
        obtain ⟨g8, hd⟩ := gd_ex hd
        refine r_getr (ci := 9) (k := 24) C fl_X9_60 rfl dX9_settle_123 hR g8 ?_
        refine x_iload_n C dX9_settle_126 hL 5 rfl ?_
        refine x_iload C dX9_settle_127 hL 7 rfl ?_
        obtain ⟨g9, hd⟩ := gd_ex hd
        obtain ⟨G10, eG10, hd⟩ := bd_ex hd
        refine r_iast C dX9_settle_129 hR hS g9 (fun H locs hR hS => ?_)
        replace hR : Rp b0 D E G10 H := by rw [eG10]; exact hR
        refine x_iinc (lv' := [(6, .inl ((x6 + 1))), (4, .inl v4), (7, .inl v4), (0, .inr x0), (1, .inl x1), (2, .inl x2), (3, .inl x3), (5, .inl x5)]) C dX9_settle_130 hL 7 rfl rfl (by decide) rfl (fun ls hL => ?_)
        refine lv_goto (tgt := 79) hx hb dX9_settle_133 (by decide) ?_
        exact ih (lx_sub hL [3, 4, 5, 6, 1, 7, 0] rfl) hR hS hd
      · rw [if_neg c5] at hd
        refine lv_goto (tgt := 130) hx hb dX9_settle_107 (by decide) ?_
        refine x_iinc (lv' := [(6, .inl ((x6 + 1))), (7, .inl v4), (0, .inr x0), (1, .inl x1), (2, .inl x2), (3, .inl x3), (4, .inl x4), (5, .inl x5)]) C dX9_settle_130 hL 7 rfl rfl (by decide) rfl (fun ls hL => ?_)
        refine lv_goto (tgt := 79) hx hb dX9_settle_133 (by decide) ?_
        exact ih (lx_sub hL [2, 3, 4, 5, 6, 7, 0] rfl) hR hS hd
set_option maxHeartbeats 4000000 in
set_option maxRecDepth 100000 in
theorem k_X9_settle_70 (C : Cx p s m args meth c RX9 cX9_settle 8 none b0 D E) {GG : Hp} : ∀ (n_ : Nat) {x0 : Nat} {x1 : Int32} {x2 : Int32} {x3 : Int32} {x4 : Int32} {x5 : Int32} {G : Hp} {ls : Array Slot} {H : Heap} {locs : List Loc}, lx ls 8 [(0, .inr x0), (1, .inl x1), (2, .inl x2), (3, .inl x3), (4, .inl x4), (5, .inl x5)] → Rp b0 D E G H → SS b0 s H locs → d_X9_settle_70 n_ x0 x1 x2 x3 x4 x5 G = some GG → W p l e (rmd 2 (0) (0)) s m args below meth c H locs (0) (0) (MQ below (CQ b0 D E none GG) args s (0) (0) (fun q => b0 ≤ q)) (F0 m 70 ls []) := by
  intro n_
  induction n_ with
  | zero =>
    intro x0 x1 x2 x3 x4 x5 G ls H locs hL hR hS hd
    cases (show (none : Option _) = some _ from hd)
  | succ n_ ih =>
    intro x0 x1 x2 x3 x4 x5 G ls H locs hL hR hS hd
    rw [d_X9_settle_70.eq_2] at hd
    have hx := C.1
    have hb := C.2.1
    refine x_iload C dX9_settle_70 hL 5 rfl ?_
    refine lv_iconst (v := 4) hx hb dX9_settle_72 (by decide) ?_
    refine lv_icmp_ge (tgt := 142) hx hb dX9_settle_73 (by decide) (fun c1 => ?_) (fun c1 => ?_)
    · rw [if_pos c1] at hd
      cases hd
      exact r_vret C dX9_settle_142 hR hS
    · rw [if_neg c1] at hd
      refine lv_iconst (v := 0) hx hb dX9_settle_76 (by decide) ?_
      refine x_istore (lv' := [(6, .inl 0), (0, .inr x0), (1, .inl x1), (2, .inl x2), (3, .inl x3), (4, .inl x4), (5, .inl x5)]) C dX9_settle_77 hL (by decide) rfl (fun ls hL => ?_)
      exact k_X9_settle_79 C (fun y0 y1 y2 y3 y4 y5 Gy H1 locs1 ls1 hL1 hR1 hS1 hd1 => ih hL1 hR1 hS1 hd1) FU (lx_sub hL [1, 2, 3, 4, 5, 6, 0] rfl) hR hS hd
set_option maxHeartbeats 4000000 in
set_option maxRecDepth 100000 in
theorem k_X9_settle (C : Cx p s m args meth c RX9 cX9_settle 8 none b0 D E) {GG : Hp} {x0 : Nat} {x1 : Int32} {x2 : Int32} {G : Hp} {ls : Array Slot} {H : Heap} {locs : List Loc} : lx ls 8 [(0, .inr x0), (1, .inl x1), (2, .inl x2)] → Rp b0 D E G H → SS b0 s H locs → d_X9_settle x0 x1 x2 G = some GG → W p l e (rmd 2 (0) (0)) s m args below meth c H locs (0) (0) (MQ below (CQ b0 D E none GG) args s (0) (0) (fun q => b0 ≤ q)) (F0 m 0 ls []) := by
  intro hL hR hS hd
  unfold d_X9_settle at hd
  have hx := C.1
  have hb := C.2.1
  refine lv_bipush (v := 26) hx hb dX9_settle_0 (by decide) ?_
  refine x_iload_n C dX9_settle_2 hL 1 rfl ?_
  refine lv_imul hx hb dX9_settle_3 ?_
  refine x_iload_n C dX9_settle_4 hL 2 rfl ?_
  refine lv_iadd hx hb dX9_settle_5 ?_
  refine x_istore_n (lv' := [(3, .inl ((((26 * x1)) + x2))), (0, .inr x0), (1, .inl x1), (2, .inl x2)]) C dX9_settle_6 hL (by decide) rfl (fun ls hL => ?_)
  refine x_aload_n C dX9_settle_7 hL 1 rfl ?_
  obtain ⟨g1, hd⟩ := gd_ex hd
  refine r_getr (ci := 9) (k := 23) C fl_X9_57 rfl dX9_settle_8 hR g1 ?_
  refine x_iload_n C dX9_settle_11 hL 0 rfl ?_
  refine lv_iconst (v := (-1)) hx hb dX9_settle_12 (by decide) ?_
  obtain ⟨g2, hd⟩ := gd_ex hd
  obtain ⟨G3, eG3, hd⟩ := bd_ex hd
  refine r_iast C dX9_settle_13 hR hS g2 (fun H locs hR hS => ?_)
  replace hR : Rp b0 D E G3 H := by rw [eG3]; exact hR
  refine x_aload_n C dX9_settle_14 hL 1 rfl ?_
  obtain ⟨g4, hd⟩ := gd_ex hd
  refine r_getr (ci := 9) (k := 24) C fl_X9_60 rfl dX9_settle_15 hR g4 ?_
  refine x_iload_n C dX9_settle_18 hL 0 rfl ?_
  refine lv_iconst (v := (-1)) hx hb dX9_settle_19 (by decide) ?_
  obtain ⟨g5, hd⟩ := gd_ex hd
  obtain ⟨G6, eG6, hd⟩ := bd_ex hd
  refine r_iast C dX9_settle_20 hR hS g5 (fun H locs hR hS => ?_)
  replace hR : Rp b0 D E G6 H := by rw [eG6]; exact hR
  refine x_aload_n C dX9_settle_21 hL 1 rfl ?_
  obtain ⟨g7, hd⟩ := gd_ex hd
  refine r_getr (ci := 9) (k := 22) C fl_X9_54 rfl dX9_settle_22 hR g7 ?_
  refine x_iload_n C dX9_settle_25 hL 0 rfl ?_
  obtain ⟨g8, hd⟩ := gd_ex hd
  refine r_iald C dX9_settle_26 hR g8 ?_
  refine lv_ldc (v := 1000000) hx hb C.2.2.2.2.1 (C.2.2.2.2.2.1 _ co_X9_143) dX9_settle_27 ?_
  refine lv_icmp_ge (tgt := 37) hx hb dX9_settle_29 (by decide) (fun c9 => ?_) (fun c9 => ?_)
  · rw [if_pos c9] at hd
    cases hd
    exact r_vret C dX9_settle_37 hR hS
  · rw [if_neg c9] at hd
    refine x_iload_n C dX9_settle_32 hL 3 rfl ?_
    refine x_iload_n C dX9_settle_33 hL 2 rfl ?_
    refine lv_icmp_ne (tgt := 38) hx hb dX9_settle_34 (by decide) (fun c10 => ?_) (fun c10 => ?_)
    · rw [if_neg c10] at hd
      refine x_aload_n C dX9_settle_38 hL 1 rfl ?_
      refine x_iload_n C dX9_settle_39 hL 2 rfl ?_
      refine x_iload_n C dX9_settle_40 hL 3 rfl ?_
      obtain ⟨v12, h11, hd⟩ := bo_ex hd
      refine r_callV (a := x0) (ci := 9) (As := [.int x1, .int x2]) C (ct_X9_isAt h11) mf_X9_isAt ml_X9_139 mv_X9_isAt rfl ⟨Nat.le_of_ble_eq_true rfl, Nat.le_of_ble_eq_true rfl⟩ dX9_settle_41 (lx_size hL) rfl hR hS g7 ⟨Nat.le_refl _, Nat.le_refl _⟩ (cat_le [] (Nat.le_of_ble_eq_true rfl)) (fun H locs hR hS => ?_)
      refine W_st (st2 := [.int v12]) rfl ?_
      refine lv_if_eq (tgt := 63) hx hb dX9_settle_44 (by decide) (fun c13 => ?_) (fun c13 => ?_)
      · rw [if_pos c13] at hd
        refine lv_ldc (v := 1000000) hx hb C.2.2.2.2.1 (C.2.2.2.2.2.1 _ co_X9_143) dX9_settle_63 ?_
        refine x_istore (lv' := [(4, .inl 1000000), (3, .inl ((((26 * x1)) + x2))), (0, .inr x0), (1, .inl x1), (2, .inl x2)]) C dX9_settle_65 hL (by decide) rfl (fun ls hL => ?_)
        refine lv_iconst (v := 0) hx hb dX9_settle_67 (by decide) ?_
        refine x_istore (lv' := [(5, .inl 0), (4, .inl 1000000), (3, .inl ((((26 * x1)) + x2))), (0, .inr x0), (1, .inl x1), (2, .inl x2)]) C dX9_settle_68 hL (by decide) rfl (fun ls hL => ?_)
        exact k_X9_settle_70 C FU (lx_sub hL [3, 4, 5, 2, 1, 0] rfl) hR hS hd
      · rw [if_neg c13] at hd
        refine x_aload_n C dX9_settle_47 hL 1 rfl ?_
        refine r_getr (ci := 9) (k := 23) C fl_X9_57 rfl dX9_settle_48 hR g7 ?_
        refine x_iload_n C dX9_settle_51 hL 0 rfl ?_
        refine x_aload_n C dX9_settle_52 hL 1 rfl ?_
        refine x_iload_n C dX9_settle_53 hL 2 rfl ?_
        refine x_iload_n C dX9_settle_54 hL 3 rfl ?_
        refine lv_bipush (v := 10) hx hb dX9_settle_55 (by decide) ?_
        refine lv_isub hx hb dX9_settle_57 ?_
        obtain ⟨v15, h14, hd⟩ := bo_ex hd
        refine r_callV (a := x0) (ci := 9) (As := [.int x1, .int ((x2 - 10))]) C (ct_X9_portOn h14) mf_X9_portOn ml_X9_125 mv_X9_portOn rfl ⟨Nat.le_of_ble_eq_true rfl, Nat.le_of_ble_eq_true rfl⟩ dX9_settle_58 (lx_size hL) rfl hR hS g7 ⟨Nat.le_refl _, Nat.le_refl _⟩ (cat_le [.inl ((((26 * x1)) + x2)), .inr ((hr G6 x0 23))] (Nat.le_of_ble_eq_true rfl)) (fun H locs hR hS => ?_)
        refine W_st (st2 := [.int v15, .int ((((26 * x1)) + x2)), rv ((hr G6 x0 23))]) rfl ?_
        obtain ⟨g16, hd⟩ := gd_ex hd
        obtain ⟨G17, eG17, hd⟩ := bd_ex hd
        refine r_iast C dX9_settle_61 hR hS g16 (fun H locs hR hS => ?_)
        replace hR : Rp b0 D E G17 H := by rw [eG17]; exact hR
        cases hd
        exact r_vret C dX9_settle_62 hR hS
    · rw [if_pos c10] at hd
      cases hd
      exact r_vret C dX9_settle_37 hR hS
end
set_option maxHeartbeats 4000000 in
set_option maxRecDepth 100000 in
theorem ct_X9_settle {l : Launch} {b0 : Nat} {D : va_G} {E : Nat → ClassId} {G : Hp} {a0 : Nat} {a1 : Int32} {a2 : Int32} {GG : Hp} (hd : d_X9_settle a0 a1 a2 G = some GG) : CT l yX9_settle cX9_settle 8 none 2 0 0 b0 D E [rv a0, .int a1, .int a2] G none GG := by
  refine CT_of (by decide +kernel) ?_
  intro p e s m below meth c C hnm hR
  refine r_entry [.inr a0, .inl a1, .inl a2] (n := 8) (Nat.le_of_ble_eq_true rfl) (lv := [(0, .inr a0), (1, .inl a1), (2, .inl a2)]) rfl (fun ls hL => ?_)
  exact k_X9_settle C (lx_sub hL [0, 1, 2] rfl) hR ⟨fun _ _ => rfl, fun _ h => by cases h⟩ hd

/-! GroveWorksModel.reckon()V -/
theorem dX9_reckon_0 : decode cX9_reckon 0 = .ok (.aload_n 0, 1) := by decide +kernel
theorem dX9_reckon_1 : decode cX9_reckon 1 = .ok (.getfield 50, 3) := by decide +kernel
theorem dX9_reckon_4 : decode cX9_reckon 4 = .ok (.ifCond .ne 4, 3) := by decide +kernel
theorem dX9_reckon_7 : decode cX9_reckon 7 = .ok (.return_, 1) := by decide +kernel
theorem dX9_reckon_8 : decode cX9_reckon 8 = .ok (.aload_n 0, 1) := by decide +kernel
theorem dX9_reckon_9 : decode cX9_reckon 9 = .ok (.iconst 0, 1) := by decide +kernel
theorem dX9_reckon_10 : decode cX9_reckon 10 = .ok (.putfield 50, 3) := by decide +kernel
theorem dX9_reckon_13 : decode cX9_reckon 13 = .ok (.iconst 0, 1) := by decide +kernel
theorem dX9_reckon_14 : decode cX9_reckon 14 = .ok (.istore_n 1, 1) := by decide +kernel
theorem dX9_reckon_15 : decode cX9_reckon 15 = .ok (.iload_n 1, 1) := by decide +kernel
theorem dX9_reckon_16 : decode cX9_reckon 16 = .ok (.bipush 26, 2) := by decide +kernel
theorem dX9_reckon_18 : decode cX9_reckon 18 = .ok (.if_icmp .ge 111, 3) := by decide +kernel
theorem dX9_reckon_21 : decode cX9_reckon 21 = .ok (.iconst 0, 1) := by decide +kernel
theorem dX9_reckon_22 : decode cX9_reckon 22 = .ok (.istore_n 2, 1) := by decide +kernel
theorem dX9_reckon_23 : decode cX9_reckon 23 = .ok (.iload_n 2, 1) := by decide +kernel
theorem dX9_reckon_24 : decode cX9_reckon 24 = .ok (.aload_n 0, 1) := by decide +kernel
theorem dX9_reckon_25 : decode cX9_reckon 25 = .ok (.getfield 108, 3) := by decide +kernel
theorem dX9_reckon_28 : decode cX9_reckon 28 = .ok (.if_icmp .ge 35, 3) := by decide +kernel
theorem dX9_reckon_31 : decode cX9_reckon 31 = .ok (.aload_n 0, 1) := by decide +kernel
theorem dX9_reckon_32 : decode cX9_reckon 32 = .ok (.getfield 54, 3) := by decide +kernel
theorem dX9_reckon_35 : decode cX9_reckon 35 = .ok (.bipush 26, 2) := by decide +kernel
theorem dX9_reckon_37 : decode cX9_reckon 37 = .ok (.iload_n 2, 1) := by decide +kernel
theorem dX9_reckon_38 : decode cX9_reckon 38 = .ok (.imul, 1) := by decide +kernel
theorem dX9_reckon_39 : decode cX9_reckon 39 = .ok (.iload_n 1, 1) := by decide +kernel
theorem dX9_reckon_40 : decode cX9_reckon 40 = .ok (.iadd, 1) := by decide +kernel
theorem dX9_reckon_41 : decode cX9_reckon 41 = .ok (.aload_n 0, 1) := by decide +kernel
theorem dX9_reckon_42 : decode cX9_reckon 42 = .ok (.iload_n 2, 1) := by decide +kernel
theorem dX9_reckon_43 : decode cX9_reckon 43 = .ok (.iload_n 1, 1) := by decide +kernel
theorem dX9_reckon_44 : decode cX9_reckon 44 = .ok (.invokevirtual 139, 3) := by decide +kernel
theorem dX9_reckon_47 : decode cX9_reckon 47 = .ok (.ifCond .eq 7, 3) := by decide +kernel
theorem dX9_reckon_50 : decode cX9_reckon 50 = .ok (.iconst 0, 1) := by decide +kernel
theorem dX9_reckon_51 : decode cX9_reckon 51 = .ok (.goto 5, 3) := by decide +kernel
theorem dX9_reckon_54 : decode cX9_reckon 54 = .ok (.ldc 143, 2) := by decide +kernel
theorem dX9_reckon_56 : decode cX9_reckon 56 = .ok (.iastore, 1) := by decide +kernel
theorem dX9_reckon_57 : decode cX9_reckon 57 = .ok (.iinc 2 1, 3) := by decide +kernel
theorem dX9_reckon_60 : decode cX9_reckon 60 = .ok (.goto (-37), 3) := by decide +kernel
theorem dX9_reckon_63 : decode cX9_reckon 63 = .ok (.iconst 0, 1) := by decide +kernel
theorem dX9_reckon_64 : decode cX9_reckon 64 = .ok (.istore_n 2, 1) := by decide +kernel
theorem dX9_reckon_65 : decode cX9_reckon 65 = .ok (.iload_n 2, 1) := by decide +kernel
theorem dX9_reckon_66 : decode cX9_reckon 66 = .ok (.aload_n 0, 1) := by decide +kernel
theorem dX9_reckon_67 : decode cX9_reckon 67 = .ok (.getfield 108, 3) := by decide +kernel
theorem dX9_reckon_70 : decode cX9_reckon 70 = .ok (.if_icmp .ge 31, 3) := by decide +kernel
theorem dX9_reckon_73 : decode cX9_reckon 73 = .ok (.iconst 0, 1) := by decide +kernel
theorem dX9_reckon_74 : decode cX9_reckon 74 = .ok (.istore_n 3, 1) := by decide +kernel
theorem dX9_reckon_75 : decode cX9_reckon 75 = .ok (.iload_n 3, 1) := by decide +kernel
theorem dX9_reckon_76 : decode cX9_reckon 76 = .ok (.aload_n 0, 1) := by decide +kernel
theorem dX9_reckon_77 : decode cX9_reckon 77 = .ok (.getfield 108, 3) := by decide +kernel
theorem dX9_reckon_80 : decode cX9_reckon 80 = .ok (.if_icmp .ge 15, 3) := by decide +kernel
theorem dX9_reckon_83 : decode cX9_reckon 83 = .ok (.aload_n 0, 1) := by decide +kernel
theorem dX9_reckon_84 : decode cX9_reckon 84 = .ok (.iload_n 3, 1) := by decide +kernel
theorem dX9_reckon_85 : decode cX9_reckon 85 = .ok (.iload_n 1, 1) := by decide +kernel
theorem dX9_reckon_86 : decode cX9_reckon 86 = .ok (.invokevirtual 144, 3) := by decide +kernel
theorem dX9_reckon_89 : decode cX9_reckon 89 = .ok (.iinc 3 1, 3) := by decide +kernel
theorem dX9_reckon_92 : decode cX9_reckon 92 = .ok (.goto (-17), 3) := by decide +kernel
theorem dX9_reckon_95 : decode cX9_reckon 95 = .ok (.iinc 2 1, 3) := by decide +kernel
theorem dX9_reckon_98 : decode cX9_reckon 98 = .ok (.goto (-33), 3) := by decide +kernel
theorem dX9_reckon_101 : decode cX9_reckon 101 = .ok (.iconst 0, 1) := by decide +kernel
theorem dX9_reckon_102 : decode cX9_reckon 102 = .ok (.istore_n 2, 1) := by decide +kernel
theorem dX9_reckon_103 : decode cX9_reckon 103 = .ok (.iload_n 2, 1) := by decide +kernel
theorem dX9_reckon_104 : decode cX9_reckon 104 = .ok (.aload_n 0, 1) := by decide +kernel
theorem dX9_reckon_105 : decode cX9_reckon 105 = .ok (.getfield 108, 3) := by decide +kernel
theorem dX9_reckon_108 : decode cX9_reckon 108 = .ok (.if_icmp .ge 15, 3) := by decide +kernel
theorem dX9_reckon_111 : decode cX9_reckon 111 = .ok (.aload_n 0, 1) := by decide +kernel
theorem dX9_reckon_112 : decode cX9_reckon 112 = .ok (.iload_n 2, 1) := by decide +kernel
theorem dX9_reckon_113 : decode cX9_reckon 113 = .ok (.iload_n 1, 1) := by decide +kernel
theorem dX9_reckon_114 : decode cX9_reckon 114 = .ok (.invokevirtual 147, 3) := by decide +kernel
theorem dX9_reckon_117 : decode cX9_reckon 117 = .ok (.iinc 2 1, 3) := by decide +kernel
theorem dX9_reckon_120 : decode cX9_reckon 120 = .ok (.goto (-17), 3) := by decide +kernel
theorem dX9_reckon_123 : decode cX9_reckon 123 = .ok (.iinc 1 1, 3) := by decide +kernel
theorem dX9_reckon_126 : decode cX9_reckon 126 = .ok (.goto (-111), 3) := by decide +kernel
theorem dX9_reckon_129 : decode cX9_reckon 129 = .ok (.return_, 1) := by decide +kernel
def d_X9_reckon_75 : Nat → Nat → Int32 → Int32 → Int32 → Hp → (Nat → Int32 → Int32 → Hp → Option (Hp)) → Option (Hp)
  | 0, _, _, _, _, _, _ => none
  | n_ + 1, x0, x1, x2, x3, G, k65 =>
    gd (hc G x0 = 10) <|
    if ((hi G x0 1)) ≤ x3 then
      k65 x0 x1 ((x2 + 1)) G
    else
      bo (d_X9_step x0 x3 x1 G) fun G4 =>
      d_X9_reckon_75 n_ x0 x1 x2 ((x3 + 1)) G4 k65
def d_X9_reckon_103 : Nat → Nat → Int32 → Int32 → Hp → (Nat → Int32 → Hp → Option (Hp)) → Option (Hp)
  | 0, _, _, _, _, _ => none
  | n_ + 1, x0, x1, x2, G, k15 =>
    gd (hc G x0 = 10) <|
    if ((hi G x0 1)) ≤ x2 then
      k15 x0 ((x1 + 1)) G
    else
      bo (d_X9_settle x0 x2 x1 G) fun G4 =>
      d_X9_reckon_103 n_ x0 x1 ((x2 + 1)) G4 k15
def d_X9_reckon_65 : Nat → Nat → Int32 → Int32 → Hp → (Nat → Int32 → Hp → Option (Hp)) → Option (Hp)
  | 0, _, _, _, _, _ => none
  | n_ + 1, x0, x1, x2, G, k15 =>
    gd (hc G x0 = 10) <|
    if ((hi G x0 1)) ≤ x2 then
      d_X9_reckon_103 FU x0 x1 0 G k15
    else
      d_X9_reckon_75 FU x0 x1 x2 0 G (fun y0 y1 y2 Gy => d_X9_reckon_65 n_ y0 y1 y2 Gy k15)
def d_X9_reckon_23 : Nat → Nat → Int32 → Int32 → Hp → (Nat → Int32 → Hp → Option (Hp)) → Option (Hp)
  | 0, _, _, _, _, _ => none
  | n_ + 1, x0, x1, x2, G, k15 =>
    gd (hc G x0 = 10) <|
    if ((hi G x0 1)) ≤ x2 then
      d_X9_reckon_65 FU x0 x1 0 G k15
    else
      bo (d_X9_isAt x0 x2 x1 G) fun v4 =>
      if v4 = 0 then
        gd (hc G ((hr G x0 22)) = 11 ∧ ix ((((26 * x2)) + x1)) (hl G ((hr G x0 22)))) <|
        bd (sI G ((hr G x0 22)) ((((26 * x2)) + x1)).toNatClampNeg 1000000) fun G7 =>
        d_X9_reckon_23 n_ x0 x1 ((x2 + 1)) G7 k15
      else
        gd (hc G ((hr G x0 22)) = 11 ∧ ix ((((26 * x2)) + x1)) (hl G ((hr G x0 22)))) <|
        bd (sI G ((hr G x0 22)) ((((26 * x2)) + x1)).toNatClampNeg 0) fun G9 =>
        d_X9_reckon_23 n_ x0 x1 ((x2 + 1)) G9 k15
def d_X9_reckon_15 : Nat → Nat → Int32 → Hp → Option (Hp)
  | 0, _, _, _ => none
  | n_ + 1, x0, x1, G =>
    if 26 ≤ x1 then
      some G
    else
      d_X9_reckon_23 FU x0 x1 0 G (fun y0 y1 Gy => d_X9_reckon_15 n_ y0 y1 Gy)
def d_X9_reckon (x0 : Nat) (G : Hp) : Option (Hp) :=
  gd (hc G x0 = 10) <|
  if ((hi G x0 21)) = 0 then
    some G
  else
    bd (sI G x0 21 0) fun G3 =>
    d_X9_reckon_15 FU x0 0 G3
section
variable {p : Program} {l : Launch} {e : Env} {s : State} {m : MethodId} {args : Array Value} {below : List Frame} {meth : Method} {c : Code} {b0 : Nat} {D : va_G} {E : Nat → ClassId}
set_option maxHeartbeats 4000000 in
set_option maxRecDepth 100000 in
theorem k_X9_reckon_75 (C : Cx p s m args meth c RX9 cX9_reckon 4 none b0 D E) {GG : Hp} {k65 : Nat → Int32 → Int32 → Hp → Option (Hp)} (hk65 : ∀ (y0 : Nat) (y1 : Int32) (y2 : Int32) (Gy : Hp) (H1 : Heap) (locs1 : List Loc) (ls1 : Array Slot), lx ls1 4 [(0, .inr y0), (1, .inl y1), (2, .inl y2)] → Rp b0 D E Gy H1 → SS b0 s H1 locs1 → k65 y0 y1 y2 Gy = some GG → W p l e (rmd 3 (0) (0)) s m args below meth c H1 locs1 (0) (0) (MQ below (CQ b0 D E none GG) args s (0) (0) (fun q => b0 ≤ q)) (F0 m 65 ls1 [])) : ∀ (n_ : Nat) {x0 : Nat} {x1 : Int32} {x2 : Int32} {x3 : Int32} {G : Hp} {ls : Array Slot} {H : Heap} {locs : List Loc}, lx ls 4 [(0, .inr x0), (1, .inl x1), (2, .inl x2), (3, .inl x3)] → Rp b0 D E G H → SS b0 s H locs → d_X9_reckon_75 n_ x0 x1 x2 x3 G k65 = some GG → W p l e (rmd 3 (0) (0)) s m args below meth c H locs (0) (0) (MQ below (CQ b0 D E none GG) args s (0) (0) (fun q => b0 ≤ q)) (F0 m 75 ls []) := by
  intro n_
  induction n_ with
  | zero =>
    intro x0 x1 x2 x3 G ls H locs hL hR hS hd
    cases (show (none : Option _) = some _ from hd)
  | succ n_ ih =>
    intro x0 x1 x2 x3 G ls H locs hL hR hS hd
    rw [d_X9_reckon_75.eq_2] at hd
    have hx := C.1
    have hb := C.2.1
    refine x_iload_n C dX9_reckon_75 hL 3 rfl ?_
    refine x_aload_n C dX9_reckon_76 hL 0 rfl ?_
    obtain ⟨g1, hd⟩ := gd_ex hd
    refine r_geti (ci := 9) (k := 1) C fl_X9_108 rfl dX9_reckon_77 hR g1 ?_
    refine lv_icmp_ge (tgt := 95) hx hb dX9_reckon_80 (by decide) (fun c2 => ?_) (fun c2 => ?_)
    · rw [if_pos c2] at hd
      refine x_iinc (lv' := [(2, .inl ((x2 + 1))), (0, .inr x0), (1, .inl x1), (3, .inl x3)]) C dX9_reckon_95 hL 2 rfl rfl (by decide) rfl (fun ls hL => ?_)
      refine lv_goto (tgt := 65) hx hb dX9_reckon_98 (by decide) ?_
      exact hk65 _ _ _ _ _ _ _ (lx_sub hL [1, 2, 0] rfl) hR hS hd
    · rw [if_neg c2] at hd
      refine x_aload_n C dX9_reckon_83 hL 0 rfl ?_
      refine x_iload_n C dX9_reckon_84 hL 3 rfl ?_
      refine x_iload_n C dX9_reckon_85 hL 1 rfl ?_
      obtain ⟨G4, h3, hd⟩ := bo_ex hd
      refine r_callV (a := x0) (ci := 9) (As := [.int x3, .int x1]) C (ct_X9_step h3) mf_X9_step ml_X9_144 mv_X9_step rfl ⟨Nat.le_of_ble_eq_true rfl, Nat.le_of_ble_eq_true rfl⟩ dX9_reckon_86 (lx_size hL) rfl hR hS g1 ⟨Nat.le_refl _, Nat.le_refl _⟩ (cat_le [] (Nat.le_of_ble_eq_true rfl)) (fun H locs hR hS => ?_)
      refine W_st (st2 := []) rfl ?_
      refine x_iinc (lv' := [(3, .inl ((x3 + 1))), (0, .inr x0), (1, .inl x1), (2, .inl x2)]) C dX9_reckon_89 hL 3 rfl rfl (by decide) rfl (fun ls hL => ?_)
      refine lv_goto (tgt := 75) hx hb dX9_reckon_92 (by decide) ?_
      exact ih (lx_sub hL [1, 2, 3, 0] rfl) hR hS hd
set_option maxHeartbeats 4000000 in
set_option maxRecDepth 100000 in
theorem k_X9_reckon_103 (C : Cx p s m args meth c RX9 cX9_reckon 4 none b0 D E) {GG : Hp} {k15 : Nat → Int32 → Hp → Option (Hp)} (hk15 : ∀ (y0 : Nat) (y1 : Int32) (Gy : Hp) (H1 : Heap) (locs1 : List Loc) (ls1 : Array Slot), lx ls1 4 [(0, .inr y0), (1, .inl y1)] → Rp b0 D E Gy H1 → SS b0 s H1 locs1 → k15 y0 y1 Gy = some GG → W p l e (rmd 3 (0) (0)) s m args below meth c H1 locs1 (0) (0) (MQ below (CQ b0 D E none GG) args s (0) (0) (fun q => b0 ≤ q)) (F0 m 15 ls1 [])) : ∀ (n_ : Nat) {x0 : Nat} {x1 : Int32} {x2 : Int32} {G : Hp} {ls : Array Slot} {H : Heap} {locs : List Loc}, lx ls 4 [(0, .inr x0), (1, .inl x1), (2, .inl x2)] → Rp b0 D E G H → SS b0 s H locs → d_X9_reckon_103 n_ x0 x1 x2 G k15 = some GG → W p l e (rmd 3 (0) (0)) s m args below meth c H locs (0) (0) (MQ below (CQ b0 D E none GG) args s (0) (0) (fun q => b0 ≤ q)) (F0 m 103 ls []) := by
  intro n_
  induction n_ with
  | zero =>
    intro x0 x1 x2 G ls H locs hL hR hS hd
    cases (show (none : Option _) = some _ from hd)
  | succ n_ ih =>
    intro x0 x1 x2 G ls H locs hL hR hS hd
    rw [d_X9_reckon_103.eq_2] at hd
    have hx := C.1
    have hb := C.2.1
    refine x_iload_n C dX9_reckon_103 hL 2 rfl ?_
    refine x_aload_n C dX9_reckon_104 hL 0 rfl ?_
    obtain ⟨g1, hd⟩ := gd_ex hd
    refine r_geti (ci := 9) (k := 1) C fl_X9_108 rfl dX9_reckon_105 hR g1 ?_
    refine lv_icmp_ge (tgt := 123) hx hb dX9_reckon_108 (by decide) (fun c2 => ?_) (fun c2 => ?_)
    · rw [if_pos c2] at hd
      refine x_iinc (lv' := [(1, .inl ((x1 + 1))), (0, .inr x0), (2, .inl x2)]) C dX9_reckon_123 hL 1 rfl rfl (by decide) rfl (fun ls hL => ?_)
      refine lv_goto (tgt := 15) hx hb dX9_reckon_126 (by decide) ?_
      exact hk15 _ _ _ _ _ _ (lx_sub hL [1, 0] rfl) hR hS hd
    · rw [if_neg c2] at hd
      refine x_aload_n C dX9_reckon_111 hL 0 rfl ?_
      refine x_iload_n C dX9_reckon_112 hL 2 rfl ?_
      refine x_iload_n C dX9_reckon_113 hL 1 rfl ?_
      obtain ⟨G4, h3, hd⟩ := bo_ex hd
      refine r_callV (a := x0) (ci := 9) (As := [.int x2, .int x1]) C (ct_X9_settle h3) mf_X9_settle ml_X9_147 mv_X9_settle rfl ⟨Nat.le_of_ble_eq_true rfl, Nat.le_of_ble_eq_true rfl⟩ dX9_reckon_114 (lx_size hL) rfl hR hS g1 ⟨Nat.le_refl _, Nat.le_refl _⟩ (cat_le [] (Nat.le_of_ble_eq_true rfl)) (fun H locs hR hS => ?_)
      refine W_st (st2 := []) rfl ?_
      refine x_iinc (lv' := [(2, .inl ((x2 + 1))), (0, .inr x0), (1, .inl x1)]) C dX9_reckon_117 hL 2 rfl rfl (by decide) rfl (fun ls hL => ?_)
      refine lv_goto (tgt := 103) hx hb dX9_reckon_120 (by decide) ?_
      exact ih (lx_sub hL [1, 2, 0] rfl) hR hS hd
set_option maxHeartbeats 4000000 in
set_option maxRecDepth 100000 in
theorem k_X9_reckon_65 (C : Cx p s m args meth c RX9 cX9_reckon 4 none b0 D E) {GG : Hp} {k15 : Nat → Int32 → Hp → Option (Hp)} (hk15 : ∀ (y0 : Nat) (y1 : Int32) (Gy : Hp) (H1 : Heap) (locs1 : List Loc) (ls1 : Array Slot), lx ls1 4 [(0, .inr y0), (1, .inl y1)] → Rp b0 D E Gy H1 → SS b0 s H1 locs1 → k15 y0 y1 Gy = some GG → W p l e (rmd 3 (0) (0)) s m args below meth c H1 locs1 (0) (0) (MQ below (CQ b0 D E none GG) args s (0) (0) (fun q => b0 ≤ q)) (F0 m 15 ls1 [])) : ∀ (n_ : Nat) {x0 : Nat} {x1 : Int32} {x2 : Int32} {G : Hp} {ls : Array Slot} {H : Heap} {locs : List Loc}, lx ls 4 [(0, .inr x0), (1, .inl x1), (2, .inl x2)] → Rp b0 D E G H → SS b0 s H locs → d_X9_reckon_65 n_ x0 x1 x2 G k15 = some GG → W p l e (rmd 3 (0) (0)) s m args below meth c H locs (0) (0) (MQ below (CQ b0 D E none GG) args s (0) (0) (fun q => b0 ≤ q)) (F0 m 65 ls []) := by
  intro n_
  induction n_ with
  | zero =>
    intro x0 x1 x2 G ls H locs hL hR hS hd
    cases (show (none : Option _) = some _ from hd)
  | succ n_ ih =>
    intro x0 x1 x2 G ls H locs hL hR hS hd
    rw [d_X9_reckon_65.eq_2] at hd
    have hx := C.1
    have hb := C.2.1
    refine x_iload_n C dX9_reckon_65 hL 2 rfl ?_
    refine x_aload_n C dX9_reckon_66 hL 0 rfl ?_
    obtain ⟨g1, hd⟩ := gd_ex hd
    refine r_geti (ci := 9) (k := 1) C fl_X9_108 rfl dX9_reckon_67 hR g1 ?_
    refine lv_icmp_ge (tgt := 101) hx hb dX9_reckon_70 (by decide) (fun c2 => ?_) (fun c2 => ?_)
    · rw [if_pos c2] at hd
      refine lv_iconst (v := 0) hx hb dX9_reckon_101 (by decide) ?_
      refine x_istore_n (lv' := [(2, .inl 0), (0, .inr x0), (1, .inl x1)]) C dX9_reckon_102 hL (by decide) rfl (fun ls hL => ?_)
      exact k_X9_reckon_103 C hk15 FU (lx_sub hL [1, 2, 0] rfl) hR hS hd
    · rw [if_neg c2] at hd
      refine lv_iconst (v := 0) hx hb dX9_reckon_73 (by decide) ?_
      refine x_istore_n (lv' := [(3, .inl 0), (0, .inr x0), (1, .inl x1), (2, .inl x2)]) C dX9_reckon_74 hL (by decide) rfl (fun ls hL => ?_)
      exact k_X9_reckon_75 C (fun y0 y1 y2 Gy H1 locs1 ls1 hL1 hR1 hS1 hd1 => ih hL1 hR1 hS1 hd1) FU (lx_sub hL [1, 2, 3, 0] rfl) hR hS hd
set_option maxHeartbeats 4000000 in
set_option maxRecDepth 100000 in
theorem k_X9_reckon_23 (C : Cx p s m args meth c RX9 cX9_reckon 4 none b0 D E) {GG : Hp} {k15 : Nat → Int32 → Hp → Option (Hp)} (hk15 : ∀ (y0 : Nat) (y1 : Int32) (Gy : Hp) (H1 : Heap) (locs1 : List Loc) (ls1 : Array Slot), lx ls1 4 [(0, .inr y0), (1, .inl y1)] → Rp b0 D E Gy H1 → SS b0 s H1 locs1 → k15 y0 y1 Gy = some GG → W p l e (rmd 3 (0) (0)) s m args below meth c H1 locs1 (0) (0) (MQ below (CQ b0 D E none GG) args s (0) (0) (fun q => b0 ≤ q)) (F0 m 15 ls1 [])) : ∀ (n_ : Nat) {x0 : Nat} {x1 : Int32} {x2 : Int32} {G : Hp} {ls : Array Slot} {H : Heap} {locs : List Loc}, lx ls 4 [(0, .inr x0), (1, .inl x1), (2, .inl x2)] → Rp b0 D E G H → SS b0 s H locs → d_X9_reckon_23 n_ x0 x1 x2 G k15 = some GG → W p l e (rmd 3 (0) (0)) s m args below meth c H locs (0) (0) (MQ below (CQ b0 D E none GG) args s (0) (0) (fun q => b0 ≤ q)) (F0 m 23 ls []) := by
  intro n_
  induction n_ with
  | zero =>
    intro x0 x1 x2 G ls H locs hL hR hS hd
    cases (show (none : Option _) = some _ from hd)
  | succ n_ ih =>
    intro x0 x1 x2 G ls H locs hL hR hS hd
    rw [d_X9_reckon_23.eq_2] at hd
    have hx := C.1
    have hb := C.2.1
    refine x_iload_n C dX9_reckon_23 hL 2 rfl ?_
    refine x_aload_n C dX9_reckon_24 hL 0 rfl ?_
    obtain ⟨g1, hd⟩ := gd_ex hd
    refine r_geti (ci := 9) (k := 1) C fl_X9_108 rfl dX9_reckon_25 hR g1 ?_
    refine lv_icmp_ge (tgt := 63) hx hb dX9_reckon_28 (by decide) (fun c2 => ?_) (fun c2 => ?_)
    · rw [if_pos c2] at hd
      refine lv_iconst (v := 0) hx hb dX9_reckon_63 (by decide) ?_
      refine x_istore_n (lv' := [(2, .inl 0), (0, .inr x0), (1, .inl x1)]) C dX9_reckon_64 hL (by decide) rfl (fun ls hL => ?_)
      exact k_X9_reckon_65 C hk15 FU (lx_sub hL [1, 2, 0] rfl) hR hS hd
    · rw [if_neg c2] at hd
      refine x_aload_n C dX9_reckon_31 hL 0 rfl ?_
      refine r_getr (ci := 9) (k := 22) C fl_X9_54 rfl dX9_reckon_32 hR g1 ?_
      refine lv_bipush (v := 26) hx hb dX9_reckon_35 (by decide) ?_
      refine x_iload_n C dX9_reckon_37 hL 2 rfl ?_
      refine lv_imul hx hb dX9_reckon_38 ?_
      refine x_iload_n C dX9_reckon_39 hL 1 rfl ?_
      refine lv_iadd hx hb dX9_reckon_40 ?_
      refine x_aload_n C dX9_reckon_41 hL 0 rfl ?_
      refine x_iload_n C dX9_reckon_42 hL 2 rfl ?_
      refine x_iload_n C dX9_reckon_43 hL 1 rfl ?_
      obtain ⟨v4, h3, hd⟩ := bo_ex hd
      refine r_callV (a := x0) (ci := 9) (As := [.int x2, .int x1]) C (ct_X9_isAt h3) mf_X9_isAt ml_X9_139 mv_X9_isAt rfl ⟨Nat.le_of_ble_eq_true rfl, Nat.le_of_ble_eq_true rfl⟩ dX9_reckon_44 (lx_size hL) rfl hR hS g1 ⟨Nat.le_refl _, Nat.le_refl _⟩ (cat_le [.inl ((((26 * x2)) + x1)), .inr ((hr G x0 22))] (Nat.le_of_ble_eq_true rfl)) (fun H locs hR hS => ?_)
      refine W_st (st2 := [.int v4, .int ((((26 * x2)) + x1)), rv ((hr G x0 22))]) rfl ?_
      refine lv_if_eq (tgt := 54) hx hb dX9_reckon_47 (by decide) (fun c5 => ?_) (fun c5 => ?_)
      · rw [if_pos c5] at hd
        refine lv_ldc (v := 1000000) hx hb C.2.2.2.2.1 (C.2.2.2.2.2.1 _ co_X9_143) dX9_reckon_54 ?_
        obtain ⟨g6, hd⟩ := gd_ex hd
        obtain ⟨G7, eG7, hd⟩ := bd_ex hd
        refine r_iast C dX9_reckon_56 hR hS g6 (fun H locs hR hS => ?_)
        replace hR : Rp b0 D E G7 H := by rw [eG7]; exact hR
        refine x_iinc (lv' := [(2, .inl ((x2 + 1))), (0, .inr x0), (1, .inl x1)]) C dX9_reckon_57 hL 2 rfl rfl (by decide) rfl (fun ls hL => ?_)
        refine lv_goto (tgt := 23) hx hb dX9_reckon_60 (by decide) ?_
        exact ih (lx_sub hL [1, 2, 0] rfl) hR hS hd
      · rw [if_neg c5] at hd
        refine lv_iconst (v := 0) hx hb dX9_reckon_50 (by decide) ?_
        refine lv_goto (tgt := 56) hx hb dX9_reckon_51 (by decide) ?_
        obtain ⟨g8, hd⟩ := gd_ex hd
        obtain ⟨G9, eG9, hd⟩ := bd_ex hd
        refine r_iast C dX9_reckon_56 hR hS g8 (fun H locs hR hS => ?_)
        replace hR : Rp b0 D E G9 H := by rw [eG9]; exact hR
        refine x_iinc (lv' := [(2, .inl ((x2 + 1))), (0, .inr x0), (1, .inl x1)]) C dX9_reckon_57 hL 2 rfl rfl (by decide) rfl (fun ls hL => ?_)
        refine lv_goto (tgt := 23) hx hb dX9_reckon_60 (by decide) ?_
        exact ih (lx_sub hL [1, 2, 0] rfl) hR hS hd
set_option maxHeartbeats 4000000 in
set_option maxRecDepth 100000 in
theorem k_X9_reckon_15 (C : Cx p s m args meth c RX9 cX9_reckon 4 none b0 D E) {GG : Hp} : ∀ (n_ : Nat) {x0 : Nat} {x1 : Int32} {G : Hp} {ls : Array Slot} {H : Heap} {locs : List Loc}, lx ls 4 [(0, .inr x0), (1, .inl x1)] → Rp b0 D E G H → SS b0 s H locs → d_X9_reckon_15 n_ x0 x1 G = some GG → W p l e (rmd 3 (0) (0)) s m args below meth c H locs (0) (0) (MQ below (CQ b0 D E none GG) args s (0) (0) (fun q => b0 ≤ q)) (F0 m 15 ls []) := by
  intro n_
  induction n_ with
  | zero =>
    intro x0 x1 G ls H locs hL hR hS hd
    cases (show (none : Option _) = some _ from hd)
  | succ n_ ih =>
    intro x0 x1 G ls H locs hL hR hS hd
    rw [d_X9_reckon_15.eq_2] at hd
    have hx := C.1
    have hb := C.2.1
    refine x_iload_n C dX9_reckon_15 hL 1 rfl ?_
    refine lv_bipush (v := 26) hx hb dX9_reckon_16 (by decide) ?_
    refine lv_icmp_ge (tgt := 129) hx hb dX9_reckon_18 (by decide) (fun c1 => ?_) (fun c1 => ?_)
    · rw [if_pos c1] at hd
      cases hd
      exact r_vret C dX9_reckon_129 hR hS
    · rw [if_neg c1] at hd
      refine lv_iconst (v := 0) hx hb dX9_reckon_21 (by decide) ?_
      refine x_istore_n (lv' := [(2, .inl 0), (0, .inr x0), (1, .inl x1)]) C dX9_reckon_22 hL (by decide) rfl (fun ls hL => ?_)
      exact k_X9_reckon_23 C (fun y0 y1 Gy H1 locs1 ls1 hL1 hR1 hS1 hd1 => ih hL1 hR1 hS1 hd1) FU (lx_sub hL [1, 2, 0] rfl) hR hS hd
set_option maxHeartbeats 4000000 in
set_option maxRecDepth 100000 in
theorem k_X9_reckon (C : Cx p s m args meth c RX9 cX9_reckon 4 none b0 D E) {GG : Hp} {x0 : Nat} {G : Hp} {ls : Array Slot} {H : Heap} {locs : List Loc} : lx ls 4 [(0, .inr x0)] → Rp b0 D E G H → SS b0 s H locs → d_X9_reckon x0 G = some GG → W p l e (rmd 3 (0) (0)) s m args below meth c H locs (0) (0) (MQ below (CQ b0 D E none GG) args s (0) (0) (fun q => b0 ≤ q)) (F0 m 0 ls []) := by
  intro hL hR hS hd
  unfold d_X9_reckon at hd
  have hx := C.1
  have hb := C.2.1
  refine x_aload_n C dX9_reckon_0 hL 0 rfl ?_
  obtain ⟨g1, hd⟩ := gd_ex hd
  refine r_geti (ci := 9) (k := 21) C fl_X9_50 rfl dX9_reckon_1 hR g1 ?_
  refine lv_if_ne (tgt := 8) hx hb dX9_reckon_4 (by decide) (fun c2 => ?_) (fun c2 => ?_)
  · rw [if_neg c2] at hd
    refine x_aload_n C dX9_reckon_8 hL 0 rfl ?_
    refine lv_iconst (v := 0) hx hb dX9_reckon_9 (by decide) ?_
    obtain ⟨G3, eG3, hd⟩ := bd_ex hd
    refine r_putz (ci := 9) (k := 21) C fl_X9_50 rfl (Or.inl rfl) (by decide) dX9_reckon_10 hR hS g1 (fun H locs hR hS => ?_)
    replace hR : Rp b0 D E G3 H := by rw [eG3]; exact hR
    refine lv_iconst (v := 0) hx hb dX9_reckon_13 (by decide) ?_
    refine x_istore_n (lv' := [(1, .inl 0), (0, .inr x0)]) C dX9_reckon_14 hL (by decide) rfl (fun ls hL => ?_)
    exact k_X9_reckon_15 C FU (lx_sub hL [1, 0] rfl) hR hS hd
  · rw [if_pos c2] at hd
    cases hd
    exact r_vret C dX9_reckon_7 hR hS
end
set_option maxHeartbeats 4000000 in
set_option maxRecDepth 100000 in
theorem ct_X9_reckon {l : Launch} {b0 : Nat} {D : va_G} {E : Nat → ClassId} {G : Hp} {a0 : Nat} {GG : Hp} (hd : d_X9_reckon a0 G = some GG) : CT l yX9_reckon cX9_reckon 4 none 3 0 0 b0 D E [rv a0] G none GG := by
  refine CT_of (by decide +kernel) ?_
  intro p e s m below meth c C hnm hR
  refine r_entry [.inr a0] (n := 4) (Nat.le_of_ble_eq_true rfl) (lv := [(0, .inr a0)]) rfl (fun ls hL => ?_)
  exact k_X9_reckon C (lx_sub hL [0] rfl) hR ⟨fun _ _ => rfl, fun _ h => by cases h⟩ hd

/-! GroveWorksModel.toSource(II)I -/
theorem dX9_toSource_0 : decode cX9_toSource 0 = .ok (.aload_n 0, 1) := by decide +kernel
theorem dX9_toSource_1 : decode cX9_toSource 1 = .ok (.invokevirtual 157, 3) := by decide +kernel
theorem dX9_toSource_4 : decode cX9_toSource 4 = .ok (.aload_n 0, 1) := by decide +kernel
theorem dX9_toSource_5 : decode cX9_toSource 5 = .ok (.getfield 20, 3) := by decide +kernel
theorem dX9_toSource_8 : decode cX9_toSource 8 = .ok (.iload_n 2, 1) := by decide +kernel
theorem dX9_toSource_9 : decode cX9_toSource 9 = .ok (.iaload, 1) := by decide +kernel
theorem dX9_toSource_10 : decode cX9_toSource 10 = .ok (.iconst (-1), 1) := by decide +kernel
theorem dX9_toSource_11 : decode cX9_toSource 11 = .ok (.if_icmp .ne 7, 3) := by decide +kernel
theorem dX9_toSource_14 : decode cX9_toSource 14 = .ok (.iconst (-1), 1) := by decide +kernel
theorem dX9_toSource_15 : decode cX9_toSource 15 = .ok (.goto 17, 3) := by decide +kernel
theorem dX9_toSource_18 : decode cX9_toSource 18 = .ok (.bipush 26, 2) := by decide +kernel
theorem dX9_toSource_20 : decode cX9_toSource 20 = .ok (.iload_n 1, 1) := by decide +kernel
theorem dX9_toSource_21 : decode cX9_toSource 21 = .ok (.imul, 1) := by decide +kernel
theorem dX9_toSource_22 : decode cX9_toSource 22 = .ok (.bipush 10, 2) := by decide +kernel
theorem dX9_toSource_24 : decode cX9_toSource 24 = .ok (.iadd, 1) := by decide +kernel
theorem dX9_toSource_25 : decode cX9_toSource 25 = .ok (.aload_n 0, 1) := by decide +kernel
theorem dX9_toSource_26 : decode cX9_toSource 26 = .ok (.getfield 20, 3) := by decide +kernel
theorem dX9_toSource_29 : decode cX9_toSource 29 = .ok (.iload_n 2, 1) := by decide +kernel
theorem dX9_toSource_30 : decode cX9_toSource 30 = .ok (.iaload, 1) := by decide +kernel
theorem dX9_toSource_31 : decode cX9_toSource 31 = .ok (.iadd, 1) := by decide +kernel
theorem dX9_toSource_32 : decode cX9_toSource 32 = .ok (.ireturn, 1) := by decide +kernel
def d_X9_toSource (x0 : Nat) (x1 : Int32) (x2 : Int32) (G : Hp) : Option (Int32 × Hp) :=
  gd (hc G x0 = 10) <|
  bo (d_X9_reckon x0 G) fun G3 =>
  gd (hc G3 x0 = 10) <|
  gd (hc G3 ((hr G3 x0 11)) = 11 ∧ ix x2 (hl G3 ((hr G3 x0 11)))) <|
  if ((hi G3 ((hr G3 x0 11)) x2.toNatClampNeg)) = (-1) then
    some ((-1), G3)
  else
    gd (hc G3 ((hr G3 x0 11)) = 11 ∧ ix x2 (hl G3 ((hr G3 x0 11)))) <|
    some ((((((26 * x1)) + 10)) + ((hi G3 ((hr G3 x0 11)) x2.toNatClampNeg))), G3)
section
variable {p : Program} {l : Launch} {e : Env} {s : State} {m : MethodId} {args : Array Value} {below : List Frame} {meth : Method} {c : Code} {b0 : Nat} {D : va_G} {E : Nat → ClassId}
set_option maxHeartbeats 4000000 in
set_option maxRecDepth 100000 in
theorem k_X9_toSource (C : Cx p s m args meth c RX9 cX9_toSource 3 (some .int) b0 D E) {rr : Int32} {GG : Hp} {x0 : Nat} {x1 : Int32} {x2 : Int32} {G : Hp} {ls : Array Slot} {H : Heap} {locs : List Loc} : lx ls 3 [(0, .inr x0), (1, .inl x1), (2, .inl x2)] → Rp b0 D E G H → SS b0 s H locs → d_X9_toSource x0 x1 x2 G = some (rr, GG) → W p l e (rmd 4 (0) (0)) s m args below meth c H locs (0) (0) (MQ below (CQ b0 D E (some (.int rr)) GG) args s (0) (0) (fun q => b0 ≤ q)) (F0 m 0 ls []) := by
  intro hL hR hS hd
  unfold d_X9_toSource at hd
  have hx := C.1
  have hb := C.2.1
  refine x_aload_n C dX9_toSource_0 hL 0 rfl ?_
  obtain ⟨g1, hd⟩ := gd_ex hd
  obtain ⟨G3, h2, hd⟩ := bo_ex hd
  refine r_callV (a := x0) (ci := 9) (As := []) C (ct_X9_reckon h2) mf_X9_reckon ml_X9_157 mv_X9_reckon rfl ⟨Nat.le_of_ble_eq_true rfl, Nat.le_of_ble_eq_true rfl⟩ dX9_toSource_1 (lx_size hL) rfl hR hS g1 ⟨Nat.le_refl _, Nat.le_refl _⟩ (cat_le [] (Nat.le_of_ble_eq_true rfl)) (fun H locs hR hS => ?_)
  refine W_st (st2 := []) rfl ?_
  refine x_aload_n C dX9_toSource_4 hL 0 rfl ?_
  obtain ⟨g4, hd⟩ := gd_ex hd
  refine r_getr (ci := 9) (k := 11) C fl_X9_20 rfl dX9_toSource_5 hR g4 ?_
  refine x_iload_n C dX9_toSource_8 hL 2 rfl ?_
  obtain ⟨g5, hd⟩ := gd_ex hd
  refine r_iald C dX9_toSource_9 hR g5 ?_
  refine lv_iconst (v := (-1)) hx hb dX9_toSource_10 (by decide) ?_
  refine lv_icmp_ne (tgt := 18) hx hb dX9_toSource_11 (by decide) (fun c6 => ?_) (fun c6 => ?_)
  · rw [if_neg c6] at hd
    refine lv_bipush (v := 26) hx hb dX9_toSource_18 (by decide) ?_
    refine x_iload_n C dX9_toSource_20 hL 1 rfl ?_
    refine lv_imul hx hb dX9_toSource_21 ?_
    refine lv_bipush (v := 10) hx hb dX9_toSource_22 (by decide) ?_
    refine lv_iadd hx hb dX9_toSource_24 ?_
    refine x_aload_n C dX9_toSource_25 hL 0 rfl ?_
    refine r_getr (ci := 9) (k := 11) C fl_X9_20 rfl dX9_toSource_26 hR g4 ?_
    refine x_iload_n C dX9_toSource_29 hL 2 rfl ?_
    obtain ⟨g7, hd⟩ := gd_ex hd
    refine r_iald C dX9_toSource_30 hR g7 ?_
    refine lv_iadd hx hb dX9_toSource_31 ?_
    cases hd
    exact r_iret C dX9_toSource_32 hR hS
  · rw [if_pos c6] at hd
    refine lv_iconst (v := (-1)) hx hb dX9_toSource_14 (by decide) ?_
    refine lv_goto (tgt := 32) hx hb dX9_toSource_15 (by decide) ?_
    cases hd
    exact r_iret C dX9_toSource_32 hR hS
end
set_option maxHeartbeats 4000000 in
set_option maxRecDepth 100000 in
theorem ct_X9_toSource {l : Launch} {b0 : Nat} {D : va_G} {E : Nat → ClassId} {G : Hp} {a0 : Nat} {a1 : Int32} {a2 : Int32} {rr : Int32} {GG : Hp} (hd : d_X9_toSource a0 a1 a2 G = some (rr, GG)) : CT l yX9_toSource cX9_toSource 3 (some .int) 4 0 0 b0 D E [rv a0, .int a1, .int a2] G (some (.int rr)) GG := by
  refine CT_of (by decide +kernel) ?_
  intro p e s m below meth c C hnm hR
  refine r_entry [.inr a0, .inl a1, .inl a2] (n := 3) (Nat.le_of_ble_eq_true rfl) (lv := [(0, .inr a0), (1, .inl a1), (2, .inl a2)]) rfl (fun ls hL => ?_)
  exact k_X9_toSource C (lx_sub hL [0, 1, 2] rfl) hR ⟨fun _ _ => rfl, fun _ h => by cases h⟩ hd

/-! GroveWorksModel.toMeeting(II)I -/
theorem dX9_toMeeting_0 : decode cX9_toMeeting 0 = .ok (.aload_n 0, 1) := by decide +kernel
theorem dX9_toMeeting_1 : decode cX9_toMeeting 1 = .ok (.invokevirtual 157, 3) := by decide +kernel
theorem dX9_toMeeting_4 : decode cX9_toMeeting 4 = .ok (.bipush 26, 2) := by decide +kernel
theorem dX9_toMeeting_6 : decode cX9_toMeeting 6 = .ok (.iload_n 1, 1) := by decide +kernel
theorem dX9_toMeeting_7 : decode cX9_toMeeting 7 = .ok (.imul, 1) := by decide +kernel
theorem dX9_toMeeting_8 : decode cX9_toMeeting 8 = .ok (.aload_n 0, 1) := by decide +kernel
theorem dX9_toMeeting_9 : decode cX9_toMeeting 9 = .ok (.getfield 23, 3) := by decide +kernel
theorem dX9_toMeeting_12 : decode cX9_toMeeting 12 = .ok (.iload_n 2, 1) := by decide +kernel
theorem dX9_toMeeting_13 : decode cX9_toMeeting 13 = .ok (.iaload, 1) := by decide +kernel
theorem dX9_toMeeting_14 : decode cX9_toMeeting 14 = .ok (.iadd, 1) := by decide +kernel
theorem dX9_toMeeting_15 : decode cX9_toMeeting 15 = .ok (.ireturn, 1) := by decide +kernel
def d_X9_toMeeting (x0 : Nat) (x1 : Int32) (x2 : Int32) (G : Hp) : Option (Int32 × Hp) :=
  gd (hc G x0 = 10) <|
  bo (d_X9_reckon x0 G) fun G3 =>
  gd (hc G3 x0 = 10) <|
  gd (hc G3 ((hr G3 x0 12)) = 11 ∧ ix x2 (hl G3 ((hr G3 x0 12)))) <|
  some ((((26 * x1)) + ((hi G3 ((hr G3 x0 12)) x2.toNatClampNeg))), G3)
section
variable {p : Program} {l : Launch} {e : Env} {s : State} {m : MethodId} {args : Array Value} {below : List Frame} {meth : Method} {c : Code} {b0 : Nat} {D : va_G} {E : Nat → ClassId}
set_option maxHeartbeats 4000000 in
set_option maxRecDepth 100000 in
theorem k_X9_toMeeting (C : Cx p s m args meth c RX9 cX9_toMeeting 3 (some .int) b0 D E) {rr : Int32} {GG : Hp} {x0 : Nat} {x1 : Int32} {x2 : Int32} {G : Hp} {ls : Array Slot} {H : Heap} {locs : List Loc} : lx ls 3 [(0, .inr x0), (1, .inl x1), (2, .inl x2)] → Rp b0 D E G H → SS b0 s H locs → d_X9_toMeeting x0 x1 x2 G = some (rr, GG) → W p l e (rmd 4 (0) (0)) s m args below meth c H locs (0) (0) (MQ below (CQ b0 D E (some (.int rr)) GG) args s (0) (0) (fun q => b0 ≤ q)) (F0 m 0 ls []) := by
  intro hL hR hS hd
  unfold d_X9_toMeeting at hd
  have hx := C.1
  have hb := C.2.1
  refine x_aload_n C dX9_toMeeting_0 hL 0 rfl ?_
  obtain ⟨g1, hd⟩ := gd_ex hd
  obtain ⟨G3, h2, hd⟩ := bo_ex hd
  refine r_callV (a := x0) (ci := 9) (As := []) C (ct_X9_reckon h2) mf_X9_reckon ml_X9_157 mv_X9_reckon rfl ⟨Nat.le_of_ble_eq_true rfl, Nat.le_of_ble_eq_true rfl⟩ dX9_toMeeting_1 (lx_size hL) rfl hR hS g1 ⟨Nat.le_refl _, Nat.le_refl _⟩ (cat_le [] (Nat.le_of_ble_eq_true rfl)) (fun H locs hR hS => ?_)
  refine W_st (st2 := []) rfl ?_
  refine lv_bipush (v := 26) hx hb dX9_toMeeting_4 (by decide) ?_
  refine x_iload_n C dX9_toMeeting_6 hL 1 rfl ?_
  refine lv_imul hx hb dX9_toMeeting_7 ?_
  refine x_aload_n C dX9_toMeeting_8 hL 0 rfl ?_
  obtain ⟨g4, hd⟩ := gd_ex hd
  refine r_getr (ci := 9) (k := 12) C fl_X9_23 rfl dX9_toMeeting_9 hR g4 ?_
  refine x_iload_n C dX9_toMeeting_12 hL 2 rfl ?_
  obtain ⟨g5, hd⟩ := gd_ex hd
  refine r_iald C dX9_toMeeting_13 hR g5 ?_
  refine lv_iadd hx hb dX9_toMeeting_14 ?_
  cases hd
  exact r_iret C dX9_toMeeting_15 hR hS
end
set_option maxHeartbeats 4000000 in
set_option maxRecDepth 100000 in
theorem ct_X9_toMeeting {l : Launch} {b0 : Nat} {D : va_G} {E : Nat → ClassId} {G : Hp} {a0 : Nat} {a1 : Int32} {a2 : Int32} {rr : Int32} {GG : Hp} (hd : d_X9_toMeeting a0 a1 a2 G = some (rr, GG)) : CT l yX9_toMeeting cX9_toMeeting 3 (some .int) 4 0 0 b0 D E [rv a0, .int a1, .int a2] G (some (.int rr)) GG := by
  refine CT_of (by decide +kernel) ?_
  intro p e s m below meth c C hnm hR
  refine r_entry [.inr a0, .inl a1, .inl a2] (n := 3) (Nat.le_of_ble_eq_true rfl) (lv := [(0, .inr a0), (1, .inl a1), (2, .inl a2)]) rfl (fun ls hL => ?_)
  exact k_X9_toMeeting C (lx_sub hL [0, 1, 2] rfl) hR ⟨fun _ _ => rfl, fun _ h => by cases h⟩ hd

/-! GroveWorksModel.portTo(I)I pure -/
theorem dX9_portTo_0 : decode cX9_portTo 0 = .ok (.iload_n 1, 1) := by decide +kernel
theorem dX9_portTo_1 : decode cX9_portTo 1 = .ok (.iconst (-1), 1) := by decide +kernel
theorem dX9_portTo_2 : decode cX9_portTo 2 = .ok (.if_icmp .ne 7, 3) := by decide +kernel
theorem dX9_portTo_5 : decode cX9_portTo 5 = .ok (.iconst (-1), 1) := by decide +kernel
theorem dX9_portTo_6 : decode cX9_portTo 6 = .ok (.goto 9, 3) := by decide +kernel
theorem dX9_portTo_9 : decode cX9_portTo 9 = .ok (.aload_n 0, 1) := by decide +kernel
theorem dX9_portTo_10 : decode cX9_portTo 10 = .ok (.getfield 57, 3) := by decide +kernel
theorem dX9_portTo_13 : decode cX9_portTo 13 = .ok (.iload_n 1, 1) := by decide +kernel
theorem dX9_portTo_14 : decode cX9_portTo 14 = .ok (.iaload, 1) := by decide +kernel
theorem dX9_portTo_15 : decode cX9_portTo 15 = .ok (.ireturn, 1) := by decide +kernel
def d_X9_portTo (x0 : Nat) (x1 : Int32) (G : Hp) : Option (Int32) :=
  if x1 = (-1) then
    some (-1)
  else
    gd (hc G x0 = 10) <|
    gd (hc G ((hr G x0 23)) = 11 ∧ ix x1 (hl G ((hr G x0 23)))) <|
    some ((hi G ((hr G x0 23)) x1.toNatClampNeg))
section
variable {p : Program} {l : Launch} {e : Env} {s : State} {m : MethodId} {args : Array Value} {below : List Frame} {meth : Method} {c : Code} {b0 : Nat} {D : va_G} {E : Nat → ClassId}
set_option maxHeartbeats 4000000 in
set_option maxRecDepth 100000 in
theorem k_X9_portTo (C : Cx p s m args meth c RX9 cX9_portTo 2 (some .int) b0 D E) {rr : Int32} {G : Hp} {x0 : Nat} {x1 : Int32} {ls : Array Slot} {H : Heap} {locs : List Loc} : lx ls 2 [(0, .inr x0), (1, .inl x1)] → Rp b0 D E G H → SS b0 s H locs → d_X9_portTo x0 x1 G = some rr → W p l e (rmd 0 (0) (0)) s m args below meth c H locs (0) (0) (MQ below (CQ b0 D E (some (.int rr)) G) args s (0) (0) (fun q => b0 ≤ q)) (F0 m 0 ls []) := by
  intro hL hR hS hd
  unfold d_X9_portTo at hd
  have hx := C.1
  have hb := C.2.1
  refine x_iload_n C dX9_portTo_0 hL 1 rfl ?_
  refine lv_iconst (v := (-1)) hx hb dX9_portTo_1 (by decide) ?_
  refine lv_icmp_ne (tgt := 9) hx hb dX9_portTo_2 (by decide) (fun c1 => ?_) (fun c1 => ?_)
  · rw [if_neg c1] at hd
    refine x_aload_n C dX9_portTo_9 hL 0 rfl ?_
    obtain ⟨g2, hd⟩ := gd_ex hd
    refine r_getr (ci := 9) (k := 23) C fl_X9_57 rfl dX9_portTo_10 hR g2 ?_
    refine x_iload_n C dX9_portTo_13 hL 1 rfl ?_
    obtain ⟨g3, hd⟩ := gd_ex hd
    refine r_iald C dX9_portTo_14 hR g3 ?_
    cases hd
    exact r_iret C dX9_portTo_15 hR hS
  · rw [if_pos c1] at hd
    refine lv_iconst (v := (-1)) hx hb dX9_portTo_5 (by decide) ?_
    refine lv_goto (tgt := 15) hx hb dX9_portTo_6 (by decide) ?_
    cases hd
    exact r_iret C dX9_portTo_15 hR hS
end
set_option maxHeartbeats 4000000 in
set_option maxRecDepth 100000 in
theorem ct_X9_portTo {l : Launch} {b0 : Nat} {D : va_G} {E : Nat → ClassId} {G : Hp} {a0 : Nat} {a1 : Int32} {rr : Int32} (hd : d_X9_portTo a0 a1 G = some rr) : CT l yX9_portTo cX9_portTo 2 (some .int) 0 0 0 b0 D E [rv a0, .int a1] G (some (.int rr)) G := by
  refine CT_of (by decide +kernel) ?_
  intro p e s m below meth c C hnm hR
  refine r_entry [.inr a0, .inl a1] (n := 2) (Nat.le_of_ble_eq_true rfl) (lv := [(0, .inr a0), (1, .inl a1)]) rfl (fun ls hL => ?_)
  exact k_X9_portTo C (lx_sub hL [0, 1] rfl) hR ⟨fun _ _ => rfl, fun _ h => by cases h⟩ hd

/-! GroveWorksModel.isDirect(II)Z -/
theorem dX9_isDirect_0 : decode cX9_isDirect 0 = .ok (.aload_n 0, 1) := by decide +kernel
theorem dX9_isDirect_1 : decode cX9_isDirect 1 = .ok (.iload_n 1, 1) := by decide +kernel
theorem dX9_isDirect_2 : decode cX9_isDirect 2 = .ok (.iload_n 2, 1) := by decide +kernel
theorem dX9_isDirect_3 : decode cX9_isDirect 3 = .ok (.invokevirtual 160, 3) := by decide +kernel
theorem dX9_isDirect_6 : decode cX9_isDirect 6 = .ok (.istore_n 3, 1) := by decide +kernel
theorem dX9_isDirect_7 : decode cX9_isDirect 7 = .ok (.iload_n 3, 1) := by decide +kernel
theorem dX9_isDirect_8 : decode cX9_isDirect 8 = .ok (.iconst (-1), 1) := by decide +kernel
theorem dX9_isDirect_9 : decode cX9_isDirect 9 = .ok (.if_icmp .eq 27, 3) := by decide +kernel
theorem dX9_isDirect_12 : decode cX9_isDirect 12 = .ok (.aload_n 0, 1) := by decide +kernel
theorem dX9_isDirect_13 : decode cX9_isDirect 13 = .ok (.getfield 57, 3) := by decide +kernel
theorem dX9_isDirect_16 : decode cX9_isDirect 16 = .ok (.iload_n 3, 1) := by decide +kernel
theorem dX9_isDirect_17 : decode cX9_isDirect 17 = .ok (.iaload, 1) := by decide +kernel
theorem dX9_isDirect_18 : decode cX9_isDirect 18 = .ok (.iconst (-1), 1) := by decide +kernel
theorem dX9_isDirect_19 : decode cX9_isDirect 19 = .ok (.if_icmp .eq 17, 3) := by decide +kernel
theorem dX9_isDirect_22 : decode cX9_isDirect 22 = .ok (.aload_n 0, 1) := by decide +kernel
theorem dX9_isDirect_23 : decode cX9_isDirect 23 = .ok (.getfield 60, 3) := by decide +kernel
theorem dX9_isDirect_26 : decode cX9_isDirect 26 = .ok (.iload_n 3, 1) := by decide +kernel
theorem dX9_isDirect_27 : decode cX9_isDirect 27 = .ok (.iaload, 1) := by decide +kernel
theorem dX9_isDirect_28 : decode cX9_isDirect 28 = .ok (.iconst (-1), 1) := by decide +kernel
theorem dX9_isDirect_29 : decode cX9_isDirect 29 = .ok (.if_icmp .ne 7, 3) := by decide +kernel
theorem dX9_isDirect_32 : decode cX9_isDirect 32 = .ok (.iconst 1, 1) := by decide +kernel
theorem dX9_isDirect_33 : decode cX9_isDirect 33 = .ok (.goto 4, 3) := by decide +kernel
theorem dX9_isDirect_36 : decode cX9_isDirect 36 = .ok (.iconst 0, 1) := by decide +kernel
theorem dX9_isDirect_37 : decode cX9_isDirect 37 = .ok (.ireturn, 1) := by decide +kernel
def d_X9_isDirect (x0 : Nat) (x1 : Int32) (x2 : Int32) (G : Hp) : Option (Int32 × Hp) :=
  gd (hc G x0 = 10) <|
  b2 (d_X9_toSource x0 x1 x2 G) fun v3 G4 =>
  if v3 = (-1) then
    some (0, G4)
  else
    gd (hc G4 x0 = 10) <|
    gd (hc G4 ((hr G4 x0 23)) = 11 ∧ ix v3 (hl G4 ((hr G4 x0 23)))) <|
    if ((hi G4 ((hr G4 x0 23)) v3.toNatClampNeg)) = (-1) then
      some (0, G4)
    else
      gd (hc G4 ((hr G4 x0 24)) = 11 ∧ ix v3 (hl G4 ((hr G4 x0 24)))) <|
      if ((hi G4 ((hr G4 x0 24)) v3.toNatClampNeg)) = (-1) then
        some (1, G4)
      else
        some (0, G4)
section
variable {p : Program} {l : Launch} {e : Env} {s : State} {m : MethodId} {args : Array Value} {below : List Frame} {meth : Method} {c : Code} {b0 : Nat} {D : va_G} {E : Nat → ClassId}
set_option maxHeartbeats 4000000 in
set_option maxRecDepth 100000 in
theorem k_X9_isDirect (C : Cx p s m args meth c RX9 cX9_isDirect 4 (some .boolean) b0 D E) {rr : Int32} {GG : Hp} {x0 : Nat} {x1 : Int32} {x2 : Int32} {G : Hp} {ls : Array Slot} {H : Heap} {locs : List Loc} : lx ls 4 [(0, .inr x0), (1, .inl x1), (2, .inl x2)] → Rp b0 D E G H → SS b0 s H locs → d_X9_isDirect x0 x1 x2 G = some (rr, GG) → W p l e (rmd 5 (0) (0)) s m args below meth c H locs (0) (0) (MQ below (CQ b0 D E (some (.int rr)) GG) args s (0) (0) (fun q => b0 ≤ q)) (F0 m 0 ls []) := by
  intro hL hR hS hd
  unfold d_X9_isDirect at hd
  have hx := C.1
  have hb := C.2.1
  refine x_aload_n C dX9_isDirect_0 hL 0 rfl ?_
  refine x_iload_n C dX9_isDirect_1 hL 1 rfl ?_
  refine x_iload_n C dX9_isDirect_2 hL 2 rfl ?_
  obtain ⟨g1, hd⟩ := gd_ex hd
  obtain ⟨v3, G4, h2, hd⟩ := b2_ex hd
  refine r_callV (a := x0) (ci := 9) (As := [.int x1, .int x2]) C (ct_X9_toSource h2) mf_X9_toSource ml_X9_160 mv_X9_toSource rfl ⟨Nat.le_of_ble_eq_true rfl, Nat.le_of_ble_eq_true rfl⟩ dX9_isDirect_3 (lx_size hL) rfl hR hS g1 ⟨Nat.le_refl _, Nat.le_refl _⟩ (cat_le [] (Nat.le_of_ble_eq_true rfl)) (fun H locs hR hS => ?_)
  refine W_st (st2 := [.int v3]) rfl ?_
  refine x_istore_n (lv' := [(3, .inl v3), (0, .inr x0), (1, .inl x1), (2, .inl x2)]) C dX9_isDirect_6 hL (by decide) rfl (fun ls hL => ?_)
  refine x_iload_n C dX9_isDirect_7 hL 0 rfl ?_
  refine lv_iconst (v := (-1)) hx hb dX9_isDirect_8 (by decide) ?_
  refine lv_icmp_eq (tgt := 36) hx hb dX9_isDirect_9 (by decide) (fun c5 => ?_) (fun c5 => ?_)
  · rw [if_pos c5] at hd
    refine lv_iconst (v := 0) hx hb dX9_isDirect_36 (by decide) ?_
    cases hd
    exact r_zret C (by decide) dX9_isDirect_37 hR hS
  · rw [if_neg c5] at hd
    refine x_aload_n C dX9_isDirect_12 hL 1 rfl ?_
    obtain ⟨g6, hd⟩ := gd_ex hd
    refine r_getr (ci := 9) (k := 23) C fl_X9_57 rfl dX9_isDirect_13 hR g6 ?_
    refine x_iload_n C dX9_isDirect_16 hL 0 rfl ?_
    obtain ⟨g7, hd⟩ := gd_ex hd
    refine r_iald C dX9_isDirect_17 hR g7 ?_
    refine lv_iconst (v := (-1)) hx hb dX9_isDirect_18 (by decide) ?_
    refine lv_icmp_eq (tgt := 36) hx hb dX9_isDirect_19 (by decide) (fun c8 => ?_) (fun c8 => ?_)
    · rw [if_pos c8] at hd
      refine lv_iconst (v := 0) hx hb dX9_isDirect_36 (by decide) ?_
      cases hd
      exact r_zret C (by decide) dX9_isDirect_37 hR hS
    · rw [if_neg c8] at hd
      refine x_aload_n C dX9_isDirect_22 hL 1 rfl ?_
      refine r_getr (ci := 9) (k := 24) C fl_X9_60 rfl dX9_isDirect_23 hR g6 ?_
      refine x_iload_n C dX9_isDirect_26 hL 0 rfl ?_
      obtain ⟨g9, hd⟩ := gd_ex hd
      refine r_iald C dX9_isDirect_27 hR g9 ?_
      refine lv_iconst (v := (-1)) hx hb dX9_isDirect_28 (by decide) ?_
      refine lv_icmp_ne (tgt := 36) hx hb dX9_isDirect_29 (by decide) (fun c10 => ?_) (fun c10 => ?_)
      · rw [if_neg c10] at hd
        refine lv_iconst (v := 0) hx hb dX9_isDirect_36 (by decide) ?_
        cases hd
        exact r_zret C (by decide) dX9_isDirect_37 hR hS
      · rw [if_pos c10] at hd
        refine lv_iconst (v := 1) hx hb dX9_isDirect_32 (by decide) ?_
        refine lv_goto (tgt := 37) hx hb dX9_isDirect_33 (by decide) ?_
        cases hd
        exact r_zret C (by decide) dX9_isDirect_37 hR hS
end
set_option maxHeartbeats 4000000 in
set_option maxRecDepth 100000 in
theorem ct_X9_isDirect {l : Launch} {b0 : Nat} {D : va_G} {E : Nat → ClassId} {G : Hp} {a0 : Nat} {a1 : Int32} {a2 : Int32} {rr : Int32} {GG : Hp} (hd : d_X9_isDirect a0 a1 a2 G = some (rr, GG)) : CT l yX9_isDirect cX9_isDirect 4 (some .boolean) 5 0 0 b0 D E [rv a0, .int a1, .int a2] G (some (.int rr)) GG := by
  refine CT_of (by decide +kernel) ?_
  intro p e s m below meth c C hnm hR
  refine r_entry [.inr a0, .inl a1, .inl a2] (n := 4) (Nat.le_of_ble_eq_true rfl) (lv := [(0, .inr a0), (1, .inl a1), (2, .inl a2)]) rfl (fun ls hL => ?_)
  exact k_X9_isDirect C (lx_sub hL [0, 1, 2] rfl) hR ⟨fun _ _ => rfl, fun _ h => by cases h⟩ hd

/-! GroveWorksModel.way(IZII)I -/
theorem dX9_way_0 : decode cX9_way 0 = .ok (.aload_n 0, 1) := by decide +kernel
theorem dX9_way_1 : decode cX9_way 1 = .ok (.iload_n 1, 1) := by decide +kernel
theorem dX9_way_2 : decode cX9_way 2 = .ok (.invokevirtual 112, 3) := by decide +kernel
theorem dX9_way_5 : decode cX9_way 5 = .ok (.ifCond .eq 25, 3) := by decide +kernel
theorem dX9_way_8 : decode cX9_way 8 = .ok (.iload_n 2, 1) := by decide +kernel
theorem dX9_way_9 : decode cX9_way 9 = .ok (.ifCond .eq 13, 3) := by decide +kernel
theorem dX9_way_12 : decode cX9_way 12 = .ok (.iload_n 3, 1) := by decide +kernel
theorem dX9_way_13 : decode cX9_way 13 = .ok (.invokestatic 119, 3) := by decide +kernel
theorem dX9_way_16 : decode cX9_way 16 = .ok (.ifCond .ne 16, 3) := by decide +kernel
theorem dX9_way_19 : decode cX9_way 19 = .ok (.goto 11, 3) := by decide +kernel
theorem dX9_way_22 : decode cX9_way 22 = .ok (.aload_n 0, 1) := by decide +kernel
theorem dX9_way_23 : decode cX9_way 23 = .ok (.iload_n 3, 1) := by decide +kernel
theorem dX9_way_24 : decode cX9_way 24 = .ok (.invokevirtual 112, 3) := by decide +kernel
theorem dX9_way_27 : decode cX9_way 27 = .ok (.ifCond .ne 5, 3) := by decide +kernel
theorem dX9_way_30 : decode cX9_way 30 = .ok (.iconst (-1), 1) := by decide +kernel
theorem dX9_way_31 : decode cX9_way 31 = .ok (.ireturn, 1) := by decide +kernel
theorem dX9_way_32 : decode cX9_way 32 = .ok (.aload_n 0, 1) := by decide +kernel
theorem dX9_way_33 : decode cX9_way 33 = .ok (.invokevirtual 157, 3) := by decide +kernel
theorem dX9_way_36 : decode cX9_way 36 = .ok (.bipush 26, 2) := by decide +kernel
theorem dX9_way_38 : decode cX9_way 38 = .ok (.iload_n 1, 1) := by decide +kernel
theorem dX9_way_39 : decode cX9_way 39 = .ok (.imul, 1) := by decide +kernel
theorem dX9_way_40 : decode cX9_way 40 = .ok (.iload_n 2, 1) := by decide +kernel
theorem dX9_way_41 : decode cX9_way 41 = .ok (.ifCond .eq 10, 3) := by decide +kernel
theorem dX9_way_44 : decode cX9_way 44 = .ok (.bipush 10, 2) := by decide +kernel
theorem dX9_way_46 : decode cX9_way 46 = .ok (.iload_n 3, 1) := by decide +kernel
theorem dX9_way_47 : decode cX9_way 47 = .ok (.iadd, 1) := by decide +kernel
theorem dX9_way_48 : decode cX9_way 48 = .ok (.goto 4, 3) := by decide +kernel
theorem dX9_way_51 : decode cX9_way 51 = .ok (.iload_n 3, 1) := by decide +kernel
theorem dX9_way_52 : decode cX9_way 52 = .ok (.iadd, 1) := by decide +kernel
theorem dX9_way_53 : decode cX9_way 53 = .ok (.istore 5, 2) := by decide +kernel
theorem dX9_way_55 : decode cX9_way 55 = .ok (.iload 4, 2) := by decide +kernel
theorem dX9_way_57 : decode cX9_way 57 = .ok (.ifCond .ne 27, 3) := by decide +kernel
theorem dX9_way_60 : decode cX9_way 60 = .ok (.aload_n 0, 1) := by decide +kernel
theorem dX9_way_61 : decode cX9_way 61 = .ok (.getfield 54, 3) := by decide +kernel
theorem dX9_way_64 : decode cX9_way 64 = .ok (.iload 5, 2) := by decide +kernel
theorem dX9_way_66 : decode cX9_way 66 = .ok (.iaload, 1) := by decide +kernel
theorem dX9_way_67 : decode cX9_way 67 = .ok (.ldc 143, 2) := by decide +kernel
theorem dX9_way_69 : decode cX9_way 69 = .ok (.if_icmp .lt 7, 3) := by decide +kernel
theorem dX9_way_72 : decode cX9_way 72 = .ok (.iconst (-1), 1) := by decide +kernel
theorem dX9_way_73 : decode cX9_way 73 = .ok (.goto 10, 3) := by decide +kernel
theorem dX9_way_76 : decode cX9_way 76 = .ok (.aload_n 0, 1) := by decide +kernel
theorem dX9_way_77 : decode cX9_way 77 = .ok (.getfield 54, 3) := by decide +kernel
theorem dX9_way_80 : decode cX9_way 80 = .ok (.iload 5, 2) := by decide +kernel
theorem dX9_way_82 : decode cX9_way 82 = .ok (.iaload, 1) := by decide +kernel
theorem dX9_way_83 : decode cX9_way 83 = .ok (.ireturn, 1) := by decide +kernel
theorem dX9_way_84 : decode cX9_way 84 = .ok (.iload 4, 2) := by decide +kernel
theorem dX9_way_86 : decode cX9_way 86 = .ok (.iconst 1, 1) := by decide +kernel
theorem dX9_way_87 : decode cX9_way 87 = .ok (.if_icmp .ne 13, 3) := by decide +kernel
theorem dX9_way_90 : decode cX9_way 90 = .ok (.aload_n 0, 1) := by decide +kernel
theorem dX9_way_91 : decode cX9_way 91 = .ok (.getfield 57, 3) := by decide +kernel
theorem dX9_way_94 : decode cX9_way 94 = .ok (.iload 5, 2) := by decide +kernel
theorem dX9_way_96 : decode cX9_way 96 = .ok (.iaload, 1) := by decide +kernel
theorem dX9_way_97 : decode cX9_way 97 = .ok (.goto 20, 3) := by decide +kernel
theorem dX9_way_100 : decode cX9_way 100 = .ok (.iload 4, 2) := by decide +kernel
theorem dX9_way_102 : decode cX9_way 102 = .ok (.iconst 2, 1) := by decide +kernel
theorem dX9_way_103 : decode cX9_way 103 = .ok (.if_icmp .ne 13, 3) := by decide +kernel
theorem dX9_way_106 : decode cX9_way 106 = .ok (.aload_n 0, 1) := by decide +kernel
theorem dX9_way_107 : decode cX9_way 107 = .ok (.getfield 60, 3) := by decide +kernel
theorem dX9_way_110 : decode cX9_way 110 = .ok (.iload 5, 2) := by decide +kernel
theorem dX9_way_112 : decode cX9_way 112 = .ok (.iaload, 1) := by decide +kernel
theorem dX9_way_113 : decode cX9_way 113 = .ok (.goto 4, 3) := by decide +kernel
theorem dX9_way_116 : decode cX9_way 116 = .ok (.iconst (-1), 1) := by decide +kernel
theorem dX9_way_117 : decode cX9_way 117 = .ok (.ireturn, 1) := by decide +kernel
def d_X9_way_52 (x0 : Nat) (x4 : Int32) (s0 : Int32) (s1 : Int32) (G : Hp) : Option (Int32 × Hp) :=
  if x4 = 0 then
    gd (hc G x0 = 10) <|
    gd (hc G ((hr G x0 22)) = 11 ∧ ix ((s1 + s0)) (hl G ((hr G x0 22)))) <|
    if ((hi G ((hr G x0 22)) ((s1 + s0)).toNatClampNeg)) < 1000000 then
      gd (hc G ((hr G x0 22)) = 11 ∧ ix ((s1 + s0)) (hl G ((hr G x0 22)))) <|
      some ((hi G ((hr G x0 22)) ((s1 + s0)).toNatClampNeg), G)
    else
      some ((-1), G)
  else
    if x4 = 1 then
      gd (hc G x0 = 10) <|
      gd (hc G ((hr G x0 23)) = 11 ∧ ix ((s1 + s0)) (hl G ((hr G x0 23)))) <|
      some ((hi G ((hr G x0 23)) ((s1 + s0)).toNatClampNeg), G)
    else
      if x4 = 2 then
        gd (hc G x0 = 10) <|
        gd (hc G ((hr G x0 24)) = 11 ∧ ix ((s1 + s0)) (hl G ((hr G x0 24)))) <|
        some ((hi G ((hr G x0 24)) ((s1 + s0)).toNatClampNeg), G)
      else
        some ((-1), G)
def d_X9_way_32 (x0 : Nat) (x1 : Int32) (x2 : Int32) (x3 : Int32) (x4 : Int32) (G : Hp) : Option (Int32 × Hp) :=
  gd (hc G x0 = 10) <|
  bo (d_X9_reckon x0 G) fun G3 =>
  if x2 = 0 then
    d_X9_way_52 x0 x4 x3 ((26 * x1)) G3
  else
    d_X9_way_52 x0 x4 ((10 + x3)) ((26 * x1)) G3
def d_X9_way (x0 : Nat) (x1 : Int32) (x2 : Int32) (x3 : Int32) (x4 : Int32) (G : Hp) : Option (Int32 × Hp) :=
  gd (hc G x0 = 10) <|
  bo (d_X9_isRouter x0 x1 G) fun v3 =>
  if v3 = 0 then
    some ((-1), G)
  else
    if x2 = 0 then
      bo (d_X9_isRouter x0 x3 G) fun v7 =>
      if v7 = 0 then
        some ((-1), G)
      else
        d_X9_way_32 x0 x1 x2 x3 x4 G
    else
      bo (d_X9_isWire x3 G) fun v10 =>
      if v10 = 0 then
        some ((-1), G)
      else
        d_X9_way_32 x0 x1 x2 x3 x4 G
section
variable {p : Program} {l : Launch} {e : Env} {s : State} {m : MethodId} {args : Array Value} {below : List Frame} {meth : Method} {c : Code} {b0 : Nat} {D : va_G} {E : Nat → ClassId}
set_option maxHeartbeats 4000000 in
set_option maxRecDepth 100000 in
theorem k_X9_way_52 (C : Cx p s m args meth c RX9 cX9_way 6 (some .int) b0 D E) {rr : Int32} {GG : Hp} {x0 : Nat} {x4 : Int32} {s0 : Int32} {s1 : Int32} {G : Hp} {ls : Array Slot} {H : Heap} {locs : List Loc} : lx ls 6 [(0, .inr x0), (4, .inl x4)] → Rp b0 D E G H → SS b0 s H locs → d_X9_way_52 x0 x4 s0 s1 G = some (rr, GG) → W p l e (rmd 4 (0) (0)) s m args below meth c H locs (0) (0) (MQ below (CQ b0 D E (some (.int rr)) GG) args s (0) (0) (fun q => b0 ≤ q)) (F0 m 52 ls [.int s0, .int s1]) := by
  intro hL hR hS hd
  unfold d_X9_way_52 at hd
  have hx := C.1
  have hb := C.2.1
  refine lv_iadd hx hb dX9_way_52 ?_
  refine x_istore (lv' := [(5, .inl ((s1 + s0))), (0, .inr x0), (4, .inl x4)]) C dX9_way_53 hL (by decide) rfl (fun ls hL => ?_)
  refine x_iload C dX9_way_55 hL 2 rfl ?_
  refine lv_if_ne (tgt := 84) hx hb dX9_way_57 (by decide) (fun c1 => ?_) (fun c1 => ?_)
  · rw [if_neg c1] at hd
    refine x_iload C dX9_way_84 hL 2 rfl ?_
    refine lv_iconst (v := 1) hx hb dX9_way_86 (by decide) ?_
    refine lv_icmp_ne (tgt := 100) hx hb dX9_way_87 (by decide) (fun c2 => ?_) (fun c2 => ?_)
    · rw [if_neg c2] at hd
      refine x_iload C dX9_way_100 hL 2 rfl ?_
      refine lv_iconst (v := 2) hx hb dX9_way_102 (by decide) ?_
      refine lv_icmp_ne (tgt := 116) hx hb dX9_way_103 (by decide) (fun c3 => ?_) (fun c3 => ?_)
      · rw [if_neg c3] at hd
        refine lv_iconst (v := (-1)) hx hb dX9_way_116 (by decide) ?_
        cases hd
        exact r_iret C dX9_way_117 hR hS
      · rw [if_pos c3] at hd
        refine x_aload_n C dX9_way_106 hL 1 rfl ?_
        obtain ⟨g4, hd⟩ := gd_ex hd
        refine r_getr (ci := 9) (k := 24) C fl_X9_60 rfl dX9_way_107 hR g4 ?_
        refine x_iload C dX9_way_110 hL 0 rfl ?_
        obtain ⟨g5, hd⟩ := gd_ex hd
        refine r_iald C dX9_way_112 hR g5 ?_
        refine lv_goto (tgt := 117) hx hb dX9_way_113 (by decide) ?_
        cases hd
        exact r_iret C dX9_way_117 hR hS
    · rw [if_pos c2] at hd
      refine x_aload_n C dX9_way_90 hL 1 rfl ?_
      obtain ⟨g6, hd⟩ := gd_ex hd
      refine r_getr (ci := 9) (k := 23) C fl_X9_57 rfl dX9_way_91 hR g6 ?_
      refine x_iload C dX9_way_94 hL 0 rfl ?_
      obtain ⟨g7, hd⟩ := gd_ex hd
      refine r_iald C dX9_way_96 hR g7 ?_
      refine lv_goto (tgt := 117) hx hb dX9_way_97 (by decide) ?_
      cases hd
      exact r_iret C dX9_way_117 hR hS
  · rw [if_pos c1] at hd
    refine x_aload_n C dX9_way_60 hL 1 rfl ?_
    obtain ⟨g8, hd⟩ := gd_ex hd
    refine r_getr (ci := 9) (k := 22) C fl_X9_54 rfl dX9_way_61 hR g8 ?_
    refine x_iload C dX9_way_64 hL 0 rfl ?_
    obtain ⟨g9, hd⟩ := gd_ex hd
    refine r_iald C dX9_way_66 hR g9 ?_
    refine lv_ldc (v := 1000000) hx hb C.2.2.2.2.1 (C.2.2.2.2.2.1 _ co_X9_143) dX9_way_67 ?_
    refine lv_icmp_lt (tgt := 76) hx hb dX9_way_69 (by decide) (fun c10 => ?_) (fun c10 => ?_)
    · rw [if_pos c10] at hd
      refine x_aload_n C dX9_way_76 hL 1 rfl ?_
      refine r_getr (ci := 9) (k := 22) C fl_X9_54 rfl dX9_way_77 hR g8 ?_
      refine x_iload C dX9_way_80 hL 0 rfl ?_
      obtain ⟨g11, hd⟩ := gd_ex hd
      refine r_iald C dX9_way_82 hR g11 ?_
      cases hd
      exact r_iret C dX9_way_83 hR hS
    · rw [if_neg c10] at hd
      refine lv_iconst (v := (-1)) hx hb dX9_way_72 (by decide) ?_
      refine lv_goto (tgt := 83) hx hb dX9_way_73 (by decide) ?_
      cases hd
      exact r_iret C dX9_way_83 hR hS
set_option maxHeartbeats 4000000 in
set_option maxRecDepth 100000 in
theorem k_X9_way_32 (C : Cx p s m args meth c RX9 cX9_way 6 (some .int) b0 D E) {rr : Int32} {GG : Hp} {x0 : Nat} {x1 : Int32} {x2 : Int32} {x3 : Int32} {x4 : Int32} {G : Hp} {ls : Array Slot} {H : Heap} {locs : List Loc} : lx ls 6 [(0, .inr x0), (1, .inl x1), (2, .inl x2), (3, .inl x3), (4, .inl x4)] → Rp b0 D E G H → SS b0 s H locs → d_X9_way_32 x0 x1 x2 x3 x4 G = some (rr, GG) → W p l e (rmd 4 (0) (0)) s m args below meth c H locs (0) (0) (MQ below (CQ b0 D E (some (.int rr)) GG) args s (0) (0) (fun q => b0 ≤ q)) (F0 m 32 ls []) := by
  intro hL hR hS hd
  unfold d_X9_way_32 at hd
  have hx := C.1
  have hb := C.2.1
  refine x_aload_n C dX9_way_32 hL 0 rfl ?_
  obtain ⟨g1, hd⟩ := gd_ex hd
  obtain ⟨G3, h2, hd⟩ := bo_ex hd
  refine r_callV (a := x0) (ci := 9) (As := []) C (ct_X9_reckon h2) mf_X9_reckon ml_X9_157 mv_X9_reckon rfl ⟨Nat.le_of_ble_eq_true rfl, Nat.le_of_ble_eq_true rfl⟩ dX9_way_33 (lx_size hL) rfl hR hS g1 ⟨Nat.le_refl _, Nat.le_refl _⟩ (cat_le [] (Nat.le_of_ble_eq_true rfl)) (fun H locs hR hS => ?_)
  refine W_st (st2 := []) rfl ?_
  refine lv_bipush (v := 26) hx hb dX9_way_36 (by decide) ?_
  refine x_iload_n C dX9_way_38 hL 1 rfl ?_
  refine lv_imul hx hb dX9_way_39 ?_
  refine x_iload_n C dX9_way_40 hL 2 rfl ?_
  refine lv_if_eq (tgt := 51) hx hb dX9_way_41 (by decide) (fun c4 => ?_) (fun c4 => ?_)
  · rw [if_pos c4] at hd
    refine x_iload_n C dX9_way_51 hL 3 rfl ?_
    exact k_X9_way_52 C (lx_sub hL [0, 4] rfl) hR hS hd
  · rw [if_neg c4] at hd
    refine lv_bipush (v := 10) hx hb dX9_way_44 (by decide) ?_
    refine x_iload_n C dX9_way_46 hL 3 rfl ?_
    refine lv_iadd hx hb dX9_way_47 ?_
    refine lv_goto (tgt := 52) hx hb dX9_way_48 (by decide) ?_
    exact k_X9_way_52 C (lx_sub hL [0, 4] rfl) hR hS hd
set_option maxHeartbeats 4000000 in
set_option maxRecDepth 100000 in
theorem k_X9_way (C : Cx p s m args meth c RX9 cX9_way 6 (some .int) b0 D E) {rr : Int32} {GG : Hp} {x0 : Nat} {x1 : Int32} {x2 : Int32} {x3 : Int32} {x4 : Int32} {G : Hp} {ls : Array Slot} {H : Heap} {locs : List Loc} : lx ls 6 [(0, .inr x0), (1, .inl x1), (2, .inl x2), (3, .inl x3), (4, .inl x4)] → Rp b0 D E G H → SS b0 s H locs → d_X9_way x0 x1 x2 x3 x4 G = some (rr, GG) → W p l e (rmd 4 (0) (0)) s m args below meth c H locs (0) (0) (MQ below (CQ b0 D E (some (.int rr)) GG) args s (0) (0) (fun q => b0 ≤ q)) (F0 m 0 ls []) := by
  intro hL hR hS hd
  unfold d_X9_way at hd
  have hx := C.1
  have hb := C.2.1
  refine x_aload_n C dX9_way_0 hL 0 rfl ?_
  refine x_iload_n C dX9_way_1 hL 1 rfl ?_
  obtain ⟨g1, hd⟩ := gd_ex hd
  obtain ⟨v3, h2, hd⟩ := bo_ex hd
  refine r_callV (a := x0) (ci := 9) (As := [.int x1]) C (ct_X9_isRouter h2) mf_X9_isRouter ml_X9_112 mv_X9_isRouter rfl ⟨Nat.le_of_ble_eq_true rfl, Nat.le_of_ble_eq_true rfl⟩ dX9_way_2 (lx_size hL) rfl hR hS g1 ⟨Nat.le_refl _, Nat.le_refl _⟩ (cat_le [] (Nat.le_of_ble_eq_true rfl)) (fun H locs hR hS => ?_)
  refine W_st (st2 := [.int v3]) rfl ?_
  refine lv_if_eq (tgt := 30) hx hb dX9_way_5 (by decide) (fun c4 => ?_) (fun c4 => ?_)
  · rw [if_pos c4] at hd
    refine lv_iconst (v := (-1)) hx hb dX9_way_30 (by decide) ?_
    cases hd
    exact r_iret C dX9_way_31 hR hS
  · rw [if_neg c4] at hd
    refine x_iload_n C dX9_way_8 hL 2 rfl ?_
    refine lv_if_eq (tgt := 22) hx hb dX9_way_9 (by decide) (fun c5 => ?_) (fun c5 => ?_)
    · rw [if_pos c5] at hd
      refine x_aload_n C dX9_way_22 hL 0 rfl ?_
      refine x_iload_n C dX9_way_23 hL 3 rfl ?_
      obtain ⟨v7, h6, hd⟩ := bo_ex hd
      refine r_callV (a := x0) (ci := 9) (As := [.int x3]) C (ct_X9_isRouter h6) mf_X9_isRouter ml_X9_112 mv_X9_isRouter rfl ⟨Nat.le_of_ble_eq_true rfl, Nat.le_of_ble_eq_true rfl⟩ dX9_way_24 (lx_size hL) rfl hR hS g1 ⟨Nat.le_refl _, Nat.le_refl _⟩ (cat_le [] (Nat.le_of_ble_eq_true rfl)) (fun H locs hR hS => ?_)
      refine W_st (st2 := [.int v7]) rfl ?_
      refine lv_if_ne (tgt := 32) hx hb dX9_way_27 (by decide) (fun c8 => ?_) (fun c8 => ?_)
      · rw [if_neg c8] at hd
        exact k_X9_way_32 C hL hR hS hd
      · rw [if_pos c8] at hd
        refine lv_iconst (v := (-1)) hx hb dX9_way_30 (by decide) ?_
        cases hd
        exact r_iret C dX9_way_31 hR hS
    · rw [if_neg c5] at hd
      refine x_iload_n C dX9_way_12 hL 3 rfl ?_
      obtain ⟨v10, h9, hd⟩ := bo_ex hd
      refine r_callS (As := [.int x3]) C (ct_X9_isWire h9) mf_X9_isWire ml_X9_119 ms_X9_isWire rfl ⟨Nat.le_of_ble_eq_true rfl, Nat.le_of_ble_eq_true rfl⟩ dX9_way_13 (lx_size hL) rfl hR hS ⟨Nat.le_refl _, Nat.le_refl _⟩ (cat_le [] (Nat.le_of_ble_eq_true rfl)) (fun H locs hR hS => ?_)
      refine W_st (st2 := [.int v10]) rfl ?_
      refine lv_if_ne (tgt := 32) hx hb dX9_way_16 (by decide) (fun c11 => ?_) (fun c11 => ?_)
      · rw [if_neg c11] at hd
        exact k_X9_way_32 C hL hR hS hd
      · rw [if_pos c11] at hd
        refine lv_goto (tgt := 30) hx hb dX9_way_19 (by decide) ?_
        refine lv_iconst (v := (-1)) hx hb dX9_way_30 (by decide) ?_
        cases hd
        exact r_iret C dX9_way_31 hR hS
end
set_option maxHeartbeats 4000000 in
set_option maxRecDepth 100000 in
theorem ct_X9_way {l : Launch} {b0 : Nat} {D : va_G} {E : Nat → ClassId} {G : Hp} {a0 : Nat} {a1 : Int32} {a2 : Int32} {a3 : Int32} {a4 : Int32} {rr : Int32} {GG : Hp} (hd : d_X9_way a0 a1 a2 a3 a4 G = some (rr, GG)) : CT l yX9_way cX9_way 6 (some .int) 4 0 0 b0 D E [rv a0, .int a1, .int a2, .int a3, .int a4] G (some (.int rr)) GG := by
  refine CT_of (by decide +kernel) ?_
  intro p e s m below meth c C hnm hR
  refine r_entry [.inr a0, .inl a1, .inl a2, .inl a3, .inl a4] (n := 6) (Nat.le_of_ble_eq_true rfl) (lv := [(0, .inr a0), (1, .inl a1), (2, .inl a2), (3, .inl a3), (4, .inl a4)]) rfl (fun ls hL => ?_)
  exact k_X9_way C (lx_sub hL [0, 1, 2, 3, 4] rfl) hR ⟨fun _ _ => rfl, fun _ h => by cases h⟩ hd

/-! GroveWorksModel.put(IIIIIIIII)Z -/
theorem dX9_put_0 : decode cX9_put 0 = .ok (.iload_n 1, 1) := by decide +kernel
theorem dX9_put_1 : decode cX9_put 1 = .ok (.iconst (-1), 1) := by decide +kernel
theorem dX9_put_2 : decode cX9_put 2 = .ok (.if_icmp .eq 12, 3) := by decide +kernel
theorem dX9_put_5 : decode cX9_put 5 = .ok (.aload_n 0, 1) := by decide +kernel
theorem dX9_put_6 : decode cX9_put 6 = .ok (.getfield 16, 3) := by decide +kernel
theorem dX9_put_9 : decode cX9_put 9 = .ok (.iload_n 1, 1) := by decide +kernel
theorem dX9_put_10 : decode cX9_put 10 = .ok (.baload, 1) := by decide +kernel
theorem dX9_put_11 : decode cX9_put 11 = .ok (.ifCond .eq 5, 3) := by decide +kernel
theorem dX9_put_14 : decode cX9_put 14 = .ok (.iconst 0, 1) := by decide +kernel
theorem dX9_put_15 : decode cX9_put 15 = .ok (.ireturn, 1) := by decide +kernel
theorem dX9_put_16 : decode cX9_put 16 = .ok (.aload_n 0, 1) := by decide +kernel
theorem dX9_put_17 : decode cX9_put 17 = .ok (.getfield 38, 3) := by decide +kernel
theorem dX9_put_20 : decode cX9_put 20 = .ok (.iload_n 1, 1) := by decide +kernel
theorem dX9_put_21 : decode cX9_put 21 = .ok (.iaload, 1) := by decide +kernel
theorem dX9_put_22 : decode cX9_put 22 = .ok (.bipush 40, 2) := by decide +kernel
theorem dX9_put_24 : decode cX9_put 24 = .ok (.if_icmp .ne 15, 3) := by decide +kernel
theorem dX9_put_27 : decode cX9_put 27 = .ok (.aload_n 0, 1) := by decide +kernel
theorem dX9_put_28 : decode cX9_put 28 = .ok (.dup, 1) := by decide +kernel
theorem dX9_put_29 : decode cX9_put 29 = .ok (.getfield 163, 3) := by decide +kernel
theorem dX9_put_32 : decode cX9_put 32 = .ok (.iconst 1, 1) := by decide +kernel
theorem dX9_put_33 : decode cX9_put 33 = .ok (.iadd, 1) := by decide +kernel
theorem dX9_put_34 : decode cX9_put 34 = .ok (.putfield 163, 3) := by decide +kernel
theorem dX9_put_37 : decode cX9_put 37 = .ok (.iconst 0, 1) := by decide +kernel
theorem dX9_put_38 : decode cX9_put 38 = .ok (.ireturn, 1) := by decide +kernel
theorem dX9_put_39 : decode cX9_put 39 = .ok (.bipush 8, 2) := by decide +kernel
theorem dX9_put_41 : decode cX9_put 41 = .ok (.bipush 40, 2) := by decide +kernel
theorem dX9_put_43 : decode cX9_put 43 = .ok (.iload_n 1, 1) := by decide +kernel
theorem dX9_put_44 : decode cX9_put 44 = .ok (.imul, 1) := by decide +kernel
theorem dX9_put_45 : decode cX9_put 45 = .ok (.aload_n 0, 1) := by decide +kernel
theorem dX9_put_46 : decode cX9_put 46 = .ok (.getfield 35, 3) := by decide +kernel
theorem dX9_put_49 : decode cX9_put 49 = .ok (.iload_n 1, 1) := by decide +kernel
theorem dX9_put_50 : decode cX9_put 50 = .ok (.iaload, 1) := by decide +kernel
theorem dX9_put_51 : decode cX9_put 51 = .ok (.iadd, 1) := by decide +kernel
theorem dX9_put_52 : decode cX9_put 52 = .ok (.imul, 1) := by decide +kernel
theorem dX9_put_53 : decode cX9_put 53 = .ok (.istore 10, 2) := by decide +kernel
theorem dX9_put_55 : decode cX9_put 55 = .ok (.aload_n 0, 1) := by decide +kernel
theorem dX9_put_56 : decode cX9_put 56 = .ok (.getfield 41, 3) := by decide +kernel
theorem dX9_put_59 : decode cX9_put 59 = .ok (.iload 10, 2) := by decide +kernel
theorem dX9_put_61 : decode cX9_put 61 = .ok (.iload_n 2, 1) := by decide +kernel
theorem dX9_put_62 : decode cX9_put 62 = .ok (.iastore, 1) := by decide +kernel
theorem dX9_put_63 : decode cX9_put 63 = .ok (.aload_n 0, 1) := by decide +kernel
theorem dX9_put_64 : decode cX9_put 64 = .ok (.getfield 41, 3) := by decide +kernel
theorem dX9_put_67 : decode cX9_put 67 = .ok (.iload 10, 2) := by decide +kernel
theorem dX9_put_69 : decode cX9_put 69 = .ok (.iconst 1, 1) := by decide +kernel
theorem dX9_put_70 : decode cX9_put 70 = .ok (.iadd, 1) := by decide +kernel
theorem dX9_put_71 : decode cX9_put 71 = .ok (.iload_n 3, 1) := by decide +kernel
theorem dX9_put_72 : decode cX9_put 72 = .ok (.iastore, 1) := by decide +kernel
theorem dX9_put_73 : decode cX9_put 73 = .ok (.aload_n 0, 1) := by decide +kernel
theorem dX9_put_74 : decode cX9_put 74 = .ok (.getfield 41, 3) := by decide +kernel
theorem dX9_put_77 : decode cX9_put 77 = .ok (.iload 10, 2) := by decide +kernel
theorem dX9_put_79 : decode cX9_put 79 = .ok (.iconst 2, 1) := by decide +kernel
theorem dX9_put_80 : decode cX9_put 80 = .ok (.iadd, 1) := by decide +kernel
theorem dX9_put_81 : decode cX9_put 81 = .ok (.iload 4, 2) := by decide +kernel
theorem dX9_put_83 : decode cX9_put 83 = .ok (.iastore, 1) := by decide +kernel
theorem dX9_put_84 : decode cX9_put 84 = .ok (.aload_n 0, 1) := by decide +kernel
theorem dX9_put_85 : decode cX9_put 85 = .ok (.getfield 41, 3) := by decide +kernel
theorem dX9_put_88 : decode cX9_put 88 = .ok (.iload 10, 2) := by decide +kernel
theorem dX9_put_90 : decode cX9_put 90 = .ok (.iconst 3, 1) := by decide +kernel
theorem dX9_put_91 : decode cX9_put 91 = .ok (.iadd, 1) := by decide +kernel
theorem dX9_put_92 : decode cX9_put 92 = .ok (.iload 5, 2) := by decide +kernel
theorem dX9_put_94 : decode cX9_put 94 = .ok (.iastore, 1) := by decide +kernel
theorem dX9_put_95 : decode cX9_put 95 = .ok (.aload_n 0, 1) := by decide +kernel
theorem dX9_put_96 : decode cX9_put 96 = .ok (.getfield 41, 3) := by decide +kernel
theorem dX9_put_99 : decode cX9_put 99 = .ok (.iload 10, 2) := by decide +kernel
theorem dX9_put_101 : decode cX9_put 101 = .ok (.iconst 4, 1) := by decide +kernel
theorem dX9_put_102 : decode cX9_put 102 = .ok (.iadd, 1) := by decide +kernel
theorem dX9_put_103 : decode cX9_put 103 = .ok (.iload 6, 2) := by decide +kernel
theorem dX9_put_105 : decode cX9_put 105 = .ok (.iastore, 1) := by decide +kernel
theorem dX9_put_106 : decode cX9_put 106 = .ok (.aload_n 0, 1) := by decide +kernel
theorem dX9_put_107 : decode cX9_put 107 = .ok (.getfield 41, 3) := by decide +kernel
theorem dX9_put_110 : decode cX9_put 110 = .ok (.iload 10, 2) := by decide +kernel
theorem dX9_put_112 : decode cX9_put 112 = .ok (.iconst 5, 1) := by decide +kernel
theorem dX9_put_113 : decode cX9_put 113 = .ok (.iadd, 1) := by decide +kernel
theorem dX9_put_114 : decode cX9_put 114 = .ok (.iload 7, 2) := by decide +kernel
theorem dX9_put_116 : decode cX9_put 116 = .ok (.iastore, 1) := by decide +kernel
theorem dX9_put_117 : decode cX9_put 117 = .ok (.aload_n 0, 1) := by decide +kernel
theorem dX9_put_118 : decode cX9_put 118 = .ok (.getfield 41, 3) := by decide +kernel
theorem dX9_put_121 : decode cX9_put 121 = .ok (.iload 10, 2) := by decide +kernel
theorem dX9_put_123 : decode cX9_put 123 = .ok (.bipush 6, 2) := by decide +kernel
theorem dX9_put_125 : decode cX9_put 125 = .ok (.iadd, 1) := by decide +kernel
theorem dX9_put_126 : decode cX9_put 126 = .ok (.iload 8, 2) := by decide +kernel
theorem dX9_put_128 : decode cX9_put 128 = .ok (.iastore, 1) := by decide +kernel
theorem dX9_put_129 : decode cX9_put 129 = .ok (.aload_n 0, 1) := by decide +kernel
theorem dX9_put_130 : decode cX9_put 130 = .ok (.getfield 41, 3) := by decide +kernel
theorem dX9_put_133 : decode cX9_put 133 = .ok (.iload 10, 2) := by decide +kernel
theorem dX9_put_135 : decode cX9_put 135 = .ok (.bipush 7, 2) := by decide +kernel
theorem dX9_put_137 : decode cX9_put 137 = .ok (.iadd, 1) := by decide +kernel
theorem dX9_put_138 : decode cX9_put 138 = .ok (.iload 9, 2) := by decide +kernel
theorem dX9_put_140 : decode cX9_put 140 = .ok (.iastore, 1) := by decide +kernel
theorem dX9_put_141 : decode cX9_put 141 = .ok (.aload_n 0, 1) := by decide +kernel
theorem dX9_put_142 : decode cX9_put 142 = .ok (.getfield 35, 3) := by decide +kernel
theorem dX9_put_145 : decode cX9_put 145 = .ok (.iload_n 1, 1) := by decide +kernel
theorem dX9_put_146 : decode cX9_put 146 = .ok (.dup2, 1) := by decide +kernel
theorem dX9_put_147 : decode cX9_put 147 = .ok (.iaload, 1) := by decide +kernel
theorem dX9_put_148 : decode cX9_put 148 = .ok (.iconst 1, 1) := by decide +kernel
theorem dX9_put_149 : decode cX9_put 149 = .ok (.iadd, 1) := by decide +kernel
theorem dX9_put_150 : decode cX9_put 150 = .ok (.iastore, 1) := by decide +kernel
theorem dX9_put_151 : decode cX9_put 151 = .ok (.aload_n 0, 1) := by decide +kernel
theorem dX9_put_152 : decode cX9_put 152 = .ok (.getfield 38, 3) := by decide +kernel
theorem dX9_put_155 : decode cX9_put 155 = .ok (.iload_n 1, 1) := by decide +kernel
theorem dX9_put_156 : decode cX9_put 156 = .ok (.dup2, 1) := by decide +kernel
theorem dX9_put_157 : decode cX9_put 157 = .ok (.iaload, 1) := by decide +kernel
theorem dX9_put_158 : decode cX9_put 158 = .ok (.iconst 1, 1) := by decide +kernel
theorem dX9_put_159 : decode cX9_put 159 = .ok (.iadd, 1) := by decide +kernel
theorem dX9_put_160 : decode cX9_put 160 = .ok (.iastore, 1) := by decide +kernel
theorem dX9_put_161 : decode cX9_put 161 = .ok (.aload_n 0, 1) := by decide +kernel
theorem dX9_put_162 : decode cX9_put 162 = .ok (.dup, 1) := by decide +kernel
theorem dX9_put_163 : decode cX9_put 163 = .ok (.getfield 166, 3) := by decide +kernel
theorem dX9_put_166 : decode cX9_put 166 = .ok (.iconst 1, 1) := by decide +kernel
theorem dX9_put_167 : decode cX9_put 167 = .ok (.iadd, 1) := by decide +kernel
theorem dX9_put_168 : decode cX9_put 168 = .ok (.putfield 166, 3) := by decide +kernel
theorem dX9_put_171 : decode cX9_put 171 = .ok (.iconst 1, 1) := by decide +kernel
theorem dX9_put_172 : decode cX9_put 172 = .ok (.ireturn, 1) := by decide +kernel
def d_X9_put (x0 : Nat) (x1 : Int32) (x2 : Int32) (x3 : Int32) (x4 : Int32) (x5 : Int32) (x6 : Int32) (x7 : Int32) (x8 : Int32) (x9 : Int32) (G : Hp) : Option (Int32 × Hp) :=
  if x1 = (-1) then
    some (0, G)
  else
    gd (hc G x0 = 10) <|
    gd (hc G ((hr G x0 10)) = 12 ∧ ix x1 (hl G ((hr G x0 10)))) <|
    if ((hi G ((hr G x0 10)) x1.toNatClampNeg)) = 0 then
      gd (hc G ((hr G x0 17)) = 11 ∧ ix x1 (hl G ((hr G x0 17)))) <|
      if ((hi G ((hr G x0 17)) x1.toNatClampNeg)) = 40 then
        bd (sI G x0 4 ((((hi G x0 4)) + 1))) fun G42 =>
        some (0, G42)
      else
        gd (hc G ((hr G x0 16)) = 11 ∧ ix x1 (hl G ((hr G x0 16)))) <|
        bd ((8 * ((((40 * x1)) + ((hi G ((hr G x0 16)) x1.toNatClampNeg)))))) fun v8 =>
        gd (hc G ((hr G x0 18)) = 11 ∧ ix v8 (hl G ((hr G x0 18)))) <|
        bd (sI G ((hr G x0 18)) v8.toNatClampNeg x2) fun G10 =>
        gd (hc G10 x0 = 10) <|
        gd (hc G10 ((hr G10 x0 18)) = 11 ∧ ix ((v8 + 1)) (hl G10 ((hr G10 x0 18)))) <|
        bd (sI G10 ((hr G10 x0 18)) ((v8 + 1)).toNatClampNeg x3) fun G13 =>
        gd (hc G13 x0 = 10) <|
        gd (hc G13 ((hr G13 x0 18)) = 11 ∧ ix ((v8 + 2)) (hl G13 ((hr G13 x0 18)))) <|
        bd (sI G13 ((hr G13 x0 18)) ((v8 + 2)).toNatClampNeg x4) fun G16 =>
        gd (hc G16 x0 = 10) <|
        gd (hc G16 ((hr G16 x0 18)) = 11 ∧ ix ((v8 + 3)) (hl G16 ((hr G16 x0 18)))) <|
        bd (sI G16 ((hr G16 x0 18)) ((v8 + 3)).toNatClampNeg x5) fun G19 =>
        gd (hc G19 x0 = 10) <|
        gd (hc G19 ((hr G19 x0 18)) = 11 ∧ ix ((v8 + 4)) (hl G19 ((hr G19 x0 18)))) <|
        bd (sI G19 ((hr G19 x0 18)) ((v8 + 4)).toNatClampNeg x6) fun G22 =>
        gd (hc G22 x0 = 10) <|
        gd (hc G22 ((hr G22 x0 18)) = 11 ∧ ix ((v8 + 5)) (hl G22 ((hr G22 x0 18)))) <|
        bd (sI G22 ((hr G22 x0 18)) ((v8 + 5)).toNatClampNeg x7) fun G25 =>
        gd (hc G25 x0 = 10) <|
        gd (hc G25 ((hr G25 x0 18)) = 11 ∧ ix ((v8 + 6)) (hl G25 ((hr G25 x0 18)))) <|
        bd (sI G25 ((hr G25 x0 18)) ((v8 + 6)).toNatClampNeg x8) fun G28 =>
        gd (hc G28 x0 = 10) <|
        gd (hc G28 ((hr G28 x0 18)) = 11 ∧ ix ((v8 + 7)) (hl G28 ((hr G28 x0 18)))) <|
        bd (sI G28 ((hr G28 x0 18)) ((v8 + 7)).toNatClampNeg x9) fun G31 =>
        gd (hc G31 x0 = 10) <|
        gd (hc G31 ((hr G31 x0 16)) = 11 ∧ ix x1 (hl G31 ((hr G31 x0 16)))) <|
        gd (hc G31 ((hr G31 x0 16)) = 11 ∧ ix x1 (hl G31 ((hr G31 x0 16)))) <|
        bd (sI G31 ((hr G31 x0 16)) x1.toNatClampNeg ((((hi G31 ((hr G31 x0 16)) x1.toNatClampNeg)) + 1))) fun G35 =>
        gd (hc G35 x0 = 10) <|
        gd (hc G35 ((hr G35 x0 17)) = 11 ∧ ix x1 (hl G35 ((hr G35 x0 17)))) <|
        gd (hc G35 ((hr G35 x0 17)) = 11 ∧ ix x1 (hl G35 ((hr G35 x0 17)))) <|
        bd (sI G35 ((hr G35 x0 17)) x1.toNatClampNeg ((((hi G35 ((hr G35 x0 17)) x1.toNatClampNeg)) + 1))) fun G39 =>
        gd (hc G39 x0 = 10) <|
        bd (sI G39 x0 3 ((((hi G39 x0 3)) + 1))) fun G41 =>
        some (1, G41)
    else
      some (0, G)
section
variable {p : Program} {l : Launch} {e : Env} {s : State} {m : MethodId} {args : Array Value} {below : List Frame} {meth : Method} {c : Code} {b0 : Nat} {D : va_G} {E : Nat → ClassId}
set_option maxHeartbeats 4000000 in
set_option maxRecDepth 100000 in
theorem k_X9_put (C : Cx p s m args meth c RX9 cX9_put 11 (some .boolean) b0 D E) {rr : Int32} {GG : Hp} {x0 : Nat} {x1 : Int32} {x2 : Int32} {x3 : Int32} {x4 : Int32} {x5 : Int32} {x6 : Int32} {x7 : Int32} {x8 : Int32} {x9 : Int32} {G : Hp} {ls : Array Slot} {H : Heap} {locs : List Loc} : lx ls 11 [(0, .inr x0), (1, .inl x1), (2, .inl x2), (3, .inl x3), (4, .inl x4), (5, .inl x5), (6, .inl x6), (7, .inl x7), (8, .inl x8), (9, .inl x9)] → Rp b0 D E G H → SS b0 s H locs → d_X9_put x0 x1 x2 x3 x4 x5 x6 x7 x8 x9 G = some (rr, GG) → W p l e (rmd 0 (0) (0)) s m args below meth c H locs (0) (0) (MQ below (CQ b0 D E (some (.int rr)) GG) args s (0) (0) (fun q => b0 ≤ q)) (F0 m 0 ls []) := by
  intro hL hR hS hd
  unfold d_X9_put at hd
  have hx := C.1
  have hb := C.2.1
  refine x_iload_n C dX9_put_0 hL 1 rfl ?_
  refine lv_iconst (v := (-1)) hx hb dX9_put_1 (by decide) ?_
  refine lv_icmp_eq (tgt := 14) hx hb dX9_put_2 (by decide) (fun c1 => ?_) (fun c1 => ?_)
  · rw [if_pos c1] at hd
    refine lv_iconst (v := 0) hx hb dX9_put_14 (by decide) ?_
    cases hd
    exact r_zret C (by decide) dX9_put_15 hR hS
  · rw [if_neg c1] at hd
    refine x_aload_n C dX9_put_5 hL 0 rfl ?_
    obtain ⟨g2, hd⟩ := gd_ex hd
    refine r_getr (ci := 9) (k := 10) C fl_X9_16 rfl dX9_put_6 hR g2 ?_
    refine x_iload_n C dX9_put_9 hL 1 rfl ?_
    obtain ⟨g3, hd⟩ := gd_ex hd
    refine r_zald C dX9_put_10 hR g3 ?_
    refine lv_if_eq (tgt := 16) hx hb dX9_put_11 (by decide) (fun c4 => ?_) (fun c4 => ?_)
    · rw [if_pos c4] at hd
      refine x_aload_n C dX9_put_16 hL 0 rfl ?_
      refine r_getr (ci := 9) (k := 17) C fl_X9_38 rfl dX9_put_17 hR g2 ?_
      refine x_iload_n C dX9_put_20 hL 1 rfl ?_
      obtain ⟨g5, hd⟩ := gd_ex hd
      refine r_iald C dX9_put_21 hR g5 ?_
      refine lv_bipush (v := 40) hx hb dX9_put_22 (by decide) ?_
      refine lv_icmp_ne (tgt := 39) hx hb dX9_put_24 (by decide) (fun c6 => ?_) (fun c6 => ?_)
      · rw [if_neg c6] at hd
        refine lv_bipush (v := 8) hx hb dX9_put_39 (by decide) ?_
        refine lv_bipush (v := 40) hx hb dX9_put_41 (by decide) ?_
        refine x_iload_n C dX9_put_43 hL 1 rfl ?_
        refine lv_imul hx hb dX9_put_44 ?_
        refine x_aload_n C dX9_put_45 hL 0 rfl ?_
        refine r_getr (ci := 9) (k := 16) C fl_X9_35 rfl dX9_put_46 hR g2 ?_
        refine x_iload_n C dX9_put_49 hL 1 rfl ?_
        obtain ⟨g7, hd⟩ := gd_ex hd
        refine r_iald C dX9_put_50 hR g7 ?_
        refine lv_iadd hx hb dX9_put_51 ?_
        refine lv_imul hx hb dX9_put_52 ?_
        obtain ⟨v8, ev8, hd⟩ := bd_ex hd
        rw [← ev8]
        refine x_istore (lv' := [(10, .inl v8), (0, .inr x0), (1, .inl x1), (2, .inl x2), (3, .inl x3), (4, .inl x4), (5, .inl x5), (6, .inl x6), (7, .inl x7), (8, .inl x8), (9, .inl x9)]) C dX9_put_53 hL (by decide) rfl (fun ls hL => ?_)
        refine x_aload_n C dX9_put_55 hL 1 rfl ?_
        refine r_getr (ci := 9) (k := 18) C fl_X9_41 rfl dX9_put_56 hR g2 ?_
        refine x_iload C dX9_put_59 hL 0 rfl ?_
        refine x_iload_n C dX9_put_61 hL 3 rfl ?_
        obtain ⟨g9, hd⟩ := gd_ex hd
        obtain ⟨G10, eG10, hd⟩ := bd_ex hd
        refine r_iast C dX9_put_62 hR hS g9 (fun H locs hR hS => ?_)
        replace hR : Rp b0 D E G10 H := by rw [eG10]; exact hR
        refine x_aload_n C dX9_put_63 hL 1 rfl ?_
        obtain ⟨g11, hd⟩ := gd_ex hd
        refine r_getr (ci := 9) (k := 18) C fl_X9_41 rfl dX9_put_64 hR g11 ?_
        refine x_iload C dX9_put_67 hL 0 rfl ?_
        refine lv_iconst (v := 1) hx hb dX9_put_69 (by decide) ?_
        refine lv_iadd hx hb dX9_put_70 ?_
        refine x_iload_n C dX9_put_71 hL 4 rfl ?_
        obtain ⟨g12, hd⟩ := gd_ex hd
        obtain ⟨G13, eG13, hd⟩ := bd_ex hd
        refine r_iast C dX9_put_72 hR hS g12 (fun H locs hR hS => ?_)
        replace hR : Rp b0 D E G13 H := by rw [eG13]; exact hR
        refine x_aload_n C dX9_put_73 hL 1 rfl ?_
        obtain ⟨g14, hd⟩ := gd_ex hd
        refine r_getr (ci := 9) (k := 18) C fl_X9_41 rfl dX9_put_74 hR g14 ?_
        refine x_iload C dX9_put_77 hL 0 rfl ?_
        refine lv_iconst (v := 2) hx hb dX9_put_79 (by decide) ?_
        refine lv_iadd hx hb dX9_put_80 ?_
        refine x_iload C dX9_put_81 hL 5 rfl ?_
        obtain ⟨g15, hd⟩ := gd_ex hd
        obtain ⟨G16, eG16, hd⟩ := bd_ex hd
        refine r_iast C dX9_put_83 hR hS g15 (fun H locs hR hS => ?_)
        replace hR : Rp b0 D E G16 H := by rw [eG16]; exact hR
        refine x_aload_n C dX9_put_84 hL 1 rfl ?_
        obtain ⟨g17, hd⟩ := gd_ex hd
        refine r_getr (ci := 9) (k := 18) C fl_X9_41 rfl dX9_put_85 hR g17 ?_
        refine x_iload C dX9_put_88 hL 0 rfl ?_
        refine lv_iconst (v := 3) hx hb dX9_put_90 (by decide) ?_
        refine lv_iadd hx hb dX9_put_91 ?_
        refine x_iload C dX9_put_92 hL 6 rfl ?_
        obtain ⟨g18, hd⟩ := gd_ex hd
        obtain ⟨G19, eG19, hd⟩ := bd_ex hd
        refine r_iast C dX9_put_94 hR hS g18 (fun H locs hR hS => ?_)
        replace hR : Rp b0 D E G19 H := by rw [eG19]; exact hR
        refine x_aload_n C dX9_put_95 hL 1 rfl ?_
        obtain ⟨g20, hd⟩ := gd_ex hd
        refine r_getr (ci := 9) (k := 18) C fl_X9_41 rfl dX9_put_96 hR g20 ?_
        refine x_iload C dX9_put_99 hL 0 rfl ?_
        refine lv_iconst (v := 4) hx hb dX9_put_101 (by decide) ?_
        refine lv_iadd hx hb dX9_put_102 ?_
        refine x_iload C dX9_put_103 hL 7 rfl ?_
        obtain ⟨g21, hd⟩ := gd_ex hd
        obtain ⟨G22, eG22, hd⟩ := bd_ex hd
        refine r_iast C dX9_put_105 hR hS g21 (fun H locs hR hS => ?_)
        replace hR : Rp b0 D E G22 H := by rw [eG22]; exact hR
        refine x_aload_n C dX9_put_106 hL 1 rfl ?_
        obtain ⟨g23, hd⟩ := gd_ex hd
        refine r_getr (ci := 9) (k := 18) C fl_X9_41 rfl dX9_put_107 hR g23 ?_
        refine x_iload C dX9_put_110 hL 0 rfl ?_
        refine lv_iconst (v := 5) hx hb dX9_put_112 (by decide) ?_
        refine lv_iadd hx hb dX9_put_113 ?_
        refine x_iload C dX9_put_114 hL 8 rfl ?_
        obtain ⟨g24, hd⟩ := gd_ex hd
        obtain ⟨G25, eG25, hd⟩ := bd_ex hd
        refine r_iast C dX9_put_116 hR hS g24 (fun H locs hR hS => ?_)
        replace hR : Rp b0 D E G25 H := by rw [eG25]; exact hR
        refine x_aload_n C dX9_put_117 hL 1 rfl ?_
        obtain ⟨g26, hd⟩ := gd_ex hd
        refine r_getr (ci := 9) (k := 18) C fl_X9_41 rfl dX9_put_118 hR g26 ?_
        refine x_iload C dX9_put_121 hL 0 rfl ?_
        refine lv_bipush (v := 6) hx hb dX9_put_123 (by decide) ?_
        refine lv_iadd hx hb dX9_put_125 ?_
        refine x_iload C dX9_put_126 hL 9 rfl ?_
        obtain ⟨g27, hd⟩ := gd_ex hd
        obtain ⟨G28, eG28, hd⟩ := bd_ex hd
        refine r_iast C dX9_put_128 hR hS g27 (fun H locs hR hS => ?_)
        replace hR : Rp b0 D E G28 H := by rw [eG28]; exact hR
        refine x_aload_n C dX9_put_129 hL 1 rfl ?_
        obtain ⟨g29, hd⟩ := gd_ex hd
        refine r_getr (ci := 9) (k := 18) C fl_X9_41 rfl dX9_put_130 hR g29 ?_
        refine x_iload C dX9_put_133 hL 0 rfl ?_
        refine lv_bipush (v := 7) hx hb dX9_put_135 (by decide) ?_
        refine lv_iadd hx hb dX9_put_137 ?_
        refine x_iload C dX9_put_138 hL 10 rfl ?_
        obtain ⟨g30, hd⟩ := gd_ex hd
        obtain ⟨G31, eG31, hd⟩ := bd_ex hd
        refine r_iast C dX9_put_140 hR hS g30 (fun H locs hR hS => ?_)
        replace hR : Rp b0 D E G31 H := by rw [eG31]; exact hR
        refine x_aload_n C dX9_put_141 hL 1 rfl ?_
        obtain ⟨g32, hd⟩ := gd_ex hd
        refine r_getr (ci := 9) (k := 16) C fl_X9_35 rfl dX9_put_142 hR g32 ?_
        refine x_iload_n C dX9_put_145 hL 2 rfl ?_
        refine lv_dup2_11 hx hb dX9_put_146 rfl (rv_cat _) ?_
        obtain ⟨g33, hd⟩ := gd_ex hd
        refine r_iald C dX9_put_147 hR g33 ?_
        refine lv_iconst (v := 1) hx hb dX9_put_148 (by decide) ?_
        refine lv_iadd hx hb dX9_put_149 ?_
        obtain ⟨g34, hd⟩ := gd_ex hd
        obtain ⟨G35, eG35, hd⟩ := bd_ex hd
        refine r_iast C dX9_put_150 hR hS g34 (fun H locs hR hS => ?_)
        replace hR : Rp b0 D E G35 H := by rw [eG35]; exact hR
        refine x_aload_n C dX9_put_151 hL 1 rfl ?_
        obtain ⟨g36, hd⟩ := gd_ex hd
        refine r_getr (ci := 9) (k := 17) C fl_X9_38 rfl dX9_put_152 hR g36 ?_
        refine x_iload_n C dX9_put_155 hL 2 rfl ?_
        refine lv_dup2_11 hx hb dX9_put_156 rfl (rv_cat _) ?_
        obtain ⟨g37, hd⟩ := gd_ex hd
        refine r_iald C dX9_put_157 hR g37 ?_
        refine lv_iconst (v := 1) hx hb dX9_put_158 (by decide) ?_
        refine lv_iadd hx hb dX9_put_159 ?_
        obtain ⟨g38, hd⟩ := gd_ex hd
        obtain ⟨G39, eG39, hd⟩ := bd_ex hd
        refine r_iast C dX9_put_160 hR hS g38 (fun H locs hR hS => ?_)
        replace hR : Rp b0 D E G39 H := by rw [eG39]; exact hR
        refine x_aload_n C dX9_put_161 hL 1 rfl ?_
        refine lv_dup hx hb dX9_put_162 (rv_cat _) ?_
        obtain ⟨g40, hd⟩ := gd_ex hd
        refine r_geti (ci := 9) (k := 3) C fl_X9_166 rfl dX9_put_163 hR g40 ?_
        refine lv_iconst (v := 1) hx hb dX9_put_166 (by decide) ?_
        refine lv_iadd hx hb dX9_put_167 ?_
        obtain ⟨G41, eG41, hd⟩ := bd_ex hd
        refine r_puti (ci := 9) (k := 3) C fl_X9_166 rfl (Or.inl rfl) dX9_put_168 hR hS g40 (fun H locs hR hS => ?_)
        replace hR : Rp b0 D E G41 H := by rw [eG41]; exact hR
        refine lv_iconst (v := 1) hx hb dX9_put_171 (by decide) ?_
        cases hd
        exact r_zret C (by decide) dX9_put_172 hR hS
      · rw [if_pos c6] at hd
        refine x_aload_n C dX9_put_27 hL 0 rfl ?_
        refine lv_dup hx hb dX9_put_28 (rv_cat _) ?_
        refine r_geti (ci := 9) (k := 4) C fl_X9_163 rfl dX9_put_29 hR g2 ?_
        refine lv_iconst (v := 1) hx hb dX9_put_32 (by decide) ?_
        refine lv_iadd hx hb dX9_put_33 ?_
        obtain ⟨G42, eG42, hd⟩ := bd_ex hd
        refine r_puti (ci := 9) (k := 4) C fl_X9_163 rfl (Or.inl rfl) dX9_put_34 hR hS g2 (fun H locs hR hS => ?_)
        replace hR : Rp b0 D E G42 H := by rw [eG42]; exact hR
        refine lv_iconst (v := 0) hx hb dX9_put_37 (by decide) ?_
        cases hd
        exact r_zret C (by decide) dX9_put_38 hR hS
    · rw [if_neg c4] at hd
      refine lv_iconst (v := 0) hx hb dX9_put_14 (by decide) ?_
      cases hd
      exact r_zret C (by decide) dX9_put_15 hR hS
end
set_option maxHeartbeats 4000000 in
set_option maxRecDepth 100000 in
theorem ct_X9_put {l : Launch} {b0 : Nat} {D : va_G} {E : Nat → ClassId} {G : Hp} {a0 : Nat} {a1 : Int32} {a2 : Int32} {a3 : Int32} {a4 : Int32} {a5 : Int32} {a6 : Int32} {a7 : Int32} {a8 : Int32} {a9 : Int32} {rr : Int32} {GG : Hp} (hd : d_X9_put a0 a1 a2 a3 a4 a5 a6 a7 a8 a9 G = some (rr, GG)) : CT l yX9_put cX9_put 11 (some .boolean) 0 0 0 b0 D E [rv a0, .int a1, .int a2, .int a3, .int a4, .int a5, .int a6, .int a7, .int a8, .int a9] G (some (.int rr)) GG := by
  refine CT_of (by decide +kernel) ?_
  intro p e s m below meth c C hnm hR
  refine r_entry [.inr a0, .inl a1, .inl a2, .inl a3, .inl a4, .inl a5, .inl a6, .inl a7, .inl a8, .inl a9] (n := 11) (Nat.le_of_ble_eq_true rfl) (lv := [(0, .inr a0), (1, .inl a1), (2, .inl a2), (3, .inl a3), (4, .inl a4), (5, .inl a5), (6, .inl a6), (7, .inl a7), (8, .inl a8), (9, .inl a9)]) rfl (fun ls hL => ?_)
  exact k_X9_put C (lx_sub hL [0, 1, 2, 3, 4, 5, 6, 7, 8, 9] rfl) hR ⟨fun _ _ => rfl, fun _ h => by cases h⟩ hd

/-! GroveWorksModel.lose(II)Z -/
theorem dX9_lose_0 : decode cX9_lose 0 = .ok (.iload_n 1, 1) := by decide +kernel
theorem dX9_lose_1 : decode cX9_lose 1 = .ok (.invokestatic 119, 3) := by decide +kernel
theorem dX9_lose_4 : decode cX9_lose 4 = .ok (.ifCond .eq 17, 3) := by decide +kernel
theorem dX9_lose_7 : decode cX9_lose 7 = .ok (.iload_n 2, 1) := by decide +kernel
theorem dX9_lose_8 : decode cX9_lose 8 = .ok (.ifCond .lt 13, 3) := by decide +kernel
theorem dX9_lose_11 : decode cX9_lose 11 = .ok (.iload_n 2, 1) := by decide +kernel
theorem dX9_lose_12 : decode cX9_lose 12 = .ok (.aload_n 0, 1) := by decide +kernel
theorem dX9_lose_13 : decode cX9_lose 13 = .ok (.getfield 35, 3) := by decide +kernel
theorem dX9_lose_16 : decode cX9_lose 16 = .ok (.iload_n 1, 1) := by decide +kernel
theorem dX9_lose_17 : decode cX9_lose 17 = .ok (.iaload, 1) := by decide +kernel
theorem dX9_lose_18 : decode cX9_lose 18 = .ok (.if_icmp .lt 5, 3) := by decide +kernel
theorem dX9_lose_21 : decode cX9_lose 21 = .ok (.iconst 0, 1) := by decide +kernel
theorem dX9_lose_22 : decode cX9_lose 22 = .ok (.ireturn, 1) := by decide +kernel
theorem dX9_lose_23 : decode cX9_lose 23 = .ok (.bipush 8, 2) := by decide +kernel
theorem dX9_lose_25 : decode cX9_lose 25 = .ok (.bipush 40, 2) := by decide +kernel
theorem dX9_lose_27 : decode cX9_lose 27 = .ok (.iload_n 1, 1) := by decide +kernel
theorem dX9_lose_28 : decode cX9_lose 28 = .ok (.imul, 1) := by decide +kernel
theorem dX9_lose_29 : decode cX9_lose 29 = .ok (.iload_n 2, 1) := by decide +kernel
theorem dX9_lose_30 : decode cX9_lose 30 = .ok (.iadd, 1) := by decide +kernel
theorem dX9_lose_31 : decode cX9_lose 31 = .ok (.imul, 1) := by decide +kernel
theorem dX9_lose_32 : decode cX9_lose 32 = .ok (.istore_n 3, 1) := by decide +kernel
theorem dX9_lose_33 : decode cX9_lose 33 = .ok (.iload_n 3, 1) := by decide +kernel
theorem dX9_lose_34 : decode cX9_lose 34 = .ok (.bipush 8, 2) := by decide +kernel
theorem dX9_lose_36 : decode cX9_lose 36 = .ok (.bipush 40, 2) := by decide +kernel
theorem dX9_lose_38 : decode cX9_lose 38 = .ok (.iload_n 1, 1) := by decide +kernel
theorem dX9_lose_39 : decode cX9_lose 39 = .ok (.imul, 1) := by decide +kernel
theorem dX9_lose_40 : decode cX9_lose 40 = .ok (.aload_n 0, 1) := by decide +kernel
theorem dX9_lose_41 : decode cX9_lose 41 = .ok (.getfield 35, 3) := by decide +kernel
theorem dX9_lose_44 : decode cX9_lose 44 = .ok (.iload_n 1, 1) := by decide +kernel
theorem dX9_lose_45 : decode cX9_lose 45 = .ok (.iaload, 1) := by decide +kernel
theorem dX9_lose_46 : decode cX9_lose 46 = .ok (.iadd, 1) := by decide +kernel
theorem dX9_lose_47 : decode cX9_lose 47 = .ok (.iconst 1, 1) := by decide +kernel
theorem dX9_lose_48 : decode cX9_lose 48 = .ok (.isub, 1) := by decide +kernel
theorem dX9_lose_49 : decode cX9_lose 49 = .ok (.imul, 1) := by decide +kernel
theorem dX9_lose_50 : decode cX9_lose 50 = .ok (.if_icmp .ge 24, 3) := by decide +kernel
theorem dX9_lose_53 : decode cX9_lose 53 = .ok (.aload_n 0, 1) := by decide +kernel
theorem dX9_lose_54 : decode cX9_lose 54 = .ok (.getfield 41, 3) := by decide +kernel
theorem dX9_lose_57 : decode cX9_lose 57 = .ok (.iload_n 3, 1) := by decide +kernel
theorem dX9_lose_58 : decode cX9_lose 58 = .ok (.aload_n 0, 1) := by decide +kernel
theorem dX9_lose_59 : decode cX9_lose 59 = .ok (.getfield 41, 3) := by decide +kernel
theorem dX9_lose_62 : decode cX9_lose 62 = .ok (.iload_n 3, 1) := by decide +kernel
theorem dX9_lose_63 : decode cX9_lose 63 = .ok (.bipush 8, 2) := by decide +kernel
theorem dX9_lose_65 : decode cX9_lose 65 = .ok (.iadd, 1) := by decide +kernel
theorem dX9_lose_66 : decode cX9_lose 66 = .ok (.iaload, 1) := by decide +kernel
theorem dX9_lose_67 : decode cX9_lose 67 = .ok (.iastore, 1) := by decide +kernel
theorem dX9_lose_68 : decode cX9_lose 68 = .ok (.iinc 3 1, 3) := by decide +kernel
theorem dX9_lose_71 : decode cX9_lose 71 = .ok (.goto (-38), 3) := by decide +kernel
theorem dX9_lose_74 : decode cX9_lose 74 = .ok (.aload_n 0, 1) := by decide +kernel
theorem dX9_lose_75 : decode cX9_lose 75 = .ok (.getfield 35, 3) := by decide +kernel
theorem dX9_lose_78 : decode cX9_lose 78 = .ok (.iload_n 1, 1) := by decide +kernel
theorem dX9_lose_79 : decode cX9_lose 79 = .ok (.dup2, 1) := by decide +kernel
theorem dX9_lose_80 : decode cX9_lose 80 = .ok (.iaload, 1) := by decide +kernel
theorem dX9_lose_81 : decode cX9_lose 81 = .ok (.iconst 1, 1) := by decide +kernel
theorem dX9_lose_82 : decode cX9_lose 82 = .ok (.isub, 1) := by decide +kernel
theorem dX9_lose_83 : decode cX9_lose 83 = .ok (.iastore, 1) := by decide +kernel
theorem dX9_lose_84 : decode cX9_lose 84 = .ok (.iconst 1, 1) := by decide +kernel
theorem dX9_lose_85 : decode cX9_lose 85 = .ok (.ireturn, 1) := by decide +kernel
def d_X9_lose_33 : Nat → Nat → Int32 → Int32 → Hp → Option (Int32 × Hp)
  | 0, _, _, _, _ => none
  | n_ + 1, x0, x1, x3, G =>
    gd (hc G x0 = 10) <|
    gd (hc G ((hr G x0 16)) = 11 ∧ ix x1 (hl G ((hr G x0 16)))) <|
    if ((8 * ((((((40 * x1)) + ((hi G ((hr G x0 16)) x1.toNatClampNeg)))) - 1)))) ≤ x3 then
      gd (hc G ((hr G x0 16)) = 11 ∧ ix x1 (hl G ((hr G x0 16)))) <|
      gd (hc G ((hr G x0 16)) = 11 ∧ ix x1 (hl G ((hr G x0 16)))) <|
      bd (sI G ((hr G x0 16)) x1.toNatClampNeg ((((hi G ((hr G x0 16)) x1.toNatClampNeg)) - 1))) fun G6 =>
      some (1, G6)
    else
      gd (hc G ((hr G x0 18)) = 11 ∧ ix ((x3 + 8)) (hl G ((hr G x0 18)))) <|
      gd (hc G ((hr G x0 18)) = 11 ∧ ix x3 (hl G ((hr G x0 18)))) <|
      bd (sI G ((hr G x0 18)) x3.toNatClampNeg ((hi G ((hr G x0 18)) ((x3 + 8)).toNatClampNeg))) fun G9 =>
      d_X9_lose_33 n_ x0 x1 ((x3 + 1)) G9
def d_X9_lose (x0 : Nat) (x1 : Int32) (x2 : Int32) (G : Hp) : Option (Int32 × Hp) :=
  bo (d_X9_isWire x1 G) fun v2 =>
  if v2 = 0 then
    some (0, G)
  else
    if x2 < 0 then
      some (0, G)
    else
      gd (hc G x0 = 10) <|
      gd (hc G ((hr G x0 16)) = 11 ∧ ix x1 (hl G ((hr G x0 16)))) <|
      if x2 < ((hi G ((hr G x0 16)) x1.toNatClampNeg)) then
        bd ((8 * ((((40 * x1)) + x2)))) fun v8 =>
        d_X9_lose_33 FU x0 x1 v8 G
      else
        some (0, G)
section
variable {p : Program} {l : Launch} {e : Env} {s : State} {m : MethodId} {args : Array Value} {below : List Frame} {meth : Method} {c : Code} {b0 : Nat} {D : va_G} {E : Nat → ClassId}
set_option maxHeartbeats 4000000 in
set_option maxRecDepth 100000 in
theorem k_X9_lose_33 (C : Cx p s m args meth c RX9 cX9_lose 4 (some .boolean) b0 D E) {rr : Int32} {GG : Hp} : ∀ (n_ : Nat) {x0 : Nat} {x1 : Int32} {x3 : Int32} {G : Hp} {ls : Array Slot} {H : Heap} {locs : List Loc}, lx ls 4 [(0, .inr x0), (1, .inl x1), (3, .inl x3)] → Rp b0 D E G H → SS b0 s H locs → d_X9_lose_33 n_ x0 x1 x3 G = some (rr, GG) → W p l e (rmd 1 (0) (0)) s m args below meth c H locs (0) (0) (MQ below (CQ b0 D E (some (.int rr)) GG) args s (0) (0) (fun q => b0 ≤ q)) (F0 m 33 ls []) := by
  intro n_
  induction n_ with
  | zero =>
    intro x0 x1 x3 G ls H locs hL hR hS hd
    cases (show (none : Option _) = some _ from hd)
  | succ n_ ih =>
    intro x0 x1 x3 G ls H locs hL hR hS hd
    rw [d_X9_lose_33.eq_2] at hd
    have hx := C.1
    have hb := C.2.1
    refine x_iload_n C dX9_lose_33 hL 2 rfl ?_
    refine lv_bipush (v := 8) hx hb dX9_lose_34 (by decide) ?_
    refine lv_bipush (v := 40) hx hb dX9_lose_36 (by decide) ?_
    refine x_iload_n C dX9_lose_38 hL 1 rfl ?_
    refine lv_imul hx hb dX9_lose_39 ?_
    refine x_aload_n C dX9_lose_40 hL 0 rfl ?_
    obtain ⟨g1, hd⟩ := gd_ex hd
    refine r_getr (ci := 9) (k := 16) C fl_X9_35 rfl dX9_lose_41 hR g1 ?_
    refine x_iload_n C dX9_lose_44 hL 1 rfl ?_
    obtain ⟨g2, hd⟩ := gd_ex hd
    refine r_iald C dX9_lose_45 hR g2 ?_
    refine lv_iadd hx hb dX9_lose_46 ?_
    refine lv_iconst (v := 1) hx hb dX9_lose_47 (by decide) ?_
    refine lv_isub hx hb dX9_lose_48 ?_
    refine lv_imul hx hb dX9_lose_49 ?_
    refine lv_icmp_ge (tgt := 74) hx hb dX9_lose_50 (by decide) (fun c3 => ?_) (fun c3 => ?_)
    · rw [if_pos c3] at hd
      refine x_aload_n C dX9_lose_74 hL 0 rfl ?_
      refine r_getr (ci := 9) (k := 16) C fl_X9_35 rfl dX9_lose_75 hR g1 ?_
      refine x_iload_n C dX9_lose_78 hL 1 rfl ?_
      refine lv_dup2_11 hx hb dX9_lose_79 rfl (rv_cat _) ?_
      obtain ⟨g4, hd⟩ := gd_ex hd
      refine r_iald C dX9_lose_80 hR g4 ?_
      refine lv_iconst (v := 1) hx hb dX9_lose_81 (by decide) ?_
      refine lv_isub hx hb dX9_lose_82 ?_
      obtain ⟨g5, hd⟩ := gd_ex hd
      obtain ⟨G6, eG6, hd⟩ := bd_ex hd
      refine r_iast C dX9_lose_83 hR hS g5 (fun H locs hR hS => ?_)
      replace hR : Rp b0 D E G6 H := by rw [eG6]; exact hR
      refine lv_iconst (v := 1) hx hb dX9_lose_84 (by decide) ?_
      cases hd
      exact r_zret C (by decide) dX9_lose_85 hR hS
    · rw [if_neg c3] at hd
      refine x_aload_n C dX9_lose_53 hL 0 rfl ?_
      refine r_getr (ci := 9) (k := 18) C fl_X9_41 rfl dX9_lose_54 hR g1 ?_
      refine x_iload_n C dX9_lose_57 hL 2 rfl ?_
      refine x_aload_n C dX9_lose_58 hL 0 rfl ?_
      refine r_getr (ci := 9) (k := 18) C fl_X9_41 rfl dX9_lose_59 hR g1 ?_
      refine x_iload_n C dX9_lose_62 hL 2 rfl ?_
      refine lv_bipush (v := 8) hx hb dX9_lose_63 (by decide) ?_
      refine lv_iadd hx hb dX9_lose_65 ?_
      obtain ⟨g7, hd⟩ := gd_ex hd
      refine r_iald C dX9_lose_66 hR g7 ?_
      obtain ⟨g8, hd⟩ := gd_ex hd
      obtain ⟨G9, eG9, hd⟩ := bd_ex hd
      refine r_iast C dX9_lose_67 hR hS g8 (fun H locs hR hS => ?_)
      replace hR : Rp b0 D E G9 H := by rw [eG9]; exact hR
      refine x_iinc (lv' := [(3, .inl ((x3 + 1))), (0, .inr x0), (1, .inl x1)]) C dX9_lose_68 hL 2 rfl rfl (by decide) rfl (fun ls hL => ?_)
      refine lv_goto (tgt := 33) hx hb dX9_lose_71 (by decide) ?_
      exact ih (lx_sub hL [1, 2, 0] rfl) hR hS hd
set_option maxHeartbeats 4000000 in
set_option maxRecDepth 100000 in
theorem k_X9_lose (C : Cx p s m args meth c RX9 cX9_lose 4 (some .boolean) b0 D E) {rr : Int32} {GG : Hp} {x0 : Nat} {x1 : Int32} {x2 : Int32} {G : Hp} {ls : Array Slot} {H : Heap} {locs : List Loc} : lx ls 4 [(0, .inr x0), (1, .inl x1), (2, .inl x2)] → Rp b0 D E G H → SS b0 s H locs → d_X9_lose x0 x1 x2 G = some (rr, GG) → W p l e (rmd 1 (0) (0)) s m args below meth c H locs (0) (0) (MQ below (CQ b0 D E (some (.int rr)) GG) args s (0) (0) (fun q => b0 ≤ q)) (F0 m 0 ls []) := by
  intro hL hR hS hd
  unfold d_X9_lose at hd
  have hx := C.1
  have hb := C.2.1
  refine x_iload_n C dX9_lose_0 hL 1 rfl ?_
  obtain ⟨v2, h1, hd⟩ := bo_ex hd
  refine r_callS (As := [.int x1]) C (ct_X9_isWire h1) mf_X9_isWire ml_X9_119 ms_X9_isWire rfl ⟨Nat.le_of_ble_eq_true rfl, Nat.le_of_ble_eq_true rfl⟩ dX9_lose_1 (lx_size hL) rfl hR hS ⟨Nat.le_refl _, Nat.le_refl _⟩ (cat_le [] (Nat.le_of_ble_eq_true rfl)) (fun H locs hR hS => ?_)
  refine W_st (st2 := [.int v2]) rfl ?_
  refine lv_if_eq (tgt := 21) hx hb dX9_lose_4 (by decide) (fun c3 => ?_) (fun c3 => ?_)
  · rw [if_pos c3] at hd
    refine lv_iconst (v := 0) hx hb dX9_lose_21 (by decide) ?_
    cases hd
    exact r_zret C (by decide) dX9_lose_22 hR hS
  · rw [if_neg c3] at hd
    refine x_iload_n C dX9_lose_7 hL 2 rfl ?_
    refine lv_if_lt (tgt := 21) hx hb dX9_lose_8 (by decide) (fun c4 => ?_) (fun c4 => ?_)
    · rw [if_pos c4] at hd
      refine lv_iconst (v := 0) hx hb dX9_lose_21 (by decide) ?_
      cases hd
      exact r_zret C (by decide) dX9_lose_22 hR hS
    · rw [if_neg c4] at hd
      refine x_iload_n C dX9_lose_11 hL 2 rfl ?_
      refine x_aload_n C dX9_lose_12 hL 0 rfl ?_
      obtain ⟨g5, hd⟩ := gd_ex hd
      refine r_getr (ci := 9) (k := 16) C fl_X9_35 rfl dX9_lose_13 hR g5 ?_
      refine x_iload_n C dX9_lose_16 hL 1 rfl ?_
      obtain ⟨g6, hd⟩ := gd_ex hd
      refine r_iald C dX9_lose_17 hR g6 ?_
      refine lv_icmp_lt (tgt := 23) hx hb dX9_lose_18 (by decide) (fun c7 => ?_) (fun c7 => ?_)
      · rw [if_pos c7] at hd
        refine lv_bipush (v := 8) hx hb dX9_lose_23 (by decide) ?_
        refine lv_bipush (v := 40) hx hb dX9_lose_25 (by decide) ?_
        refine x_iload_n C dX9_lose_27 hL 1 rfl ?_
        refine lv_imul hx hb dX9_lose_28 ?_
        refine x_iload_n C dX9_lose_29 hL 2 rfl ?_
        refine lv_iadd hx hb dX9_lose_30 ?_
        refine lv_imul hx hb dX9_lose_31 ?_
        obtain ⟨v8, ev8, hd⟩ := bd_ex hd
        rw [← ev8]
        refine x_istore_n (lv' := [(3, .inl v8), (0, .inr x0), (1, .inl x1), (2, .inl x2)]) C dX9_lose_32 hL (by decide) rfl (fun ls hL => ?_)
        exact k_X9_lose_33 C FU (lx_sub hL [1, 2, 0] rfl) hR hS hd
      · rw [if_neg c7] at hd
        refine lv_iconst (v := 0) hx hb dX9_lose_21 (by decide) ?_
        cases hd
        exact r_zret C (by decide) dX9_lose_22 hR hS
end
set_option maxHeartbeats 4000000 in
set_option maxRecDepth 100000 in
theorem ct_X9_lose {l : Launch} {b0 : Nat} {D : va_G} {E : Nat → ClassId} {G : Hp} {a0 : Nat} {a1 : Int32} {a2 : Int32} {rr : Int32} {GG : Hp} (hd : d_X9_lose a0 a1 a2 G = some (rr, GG)) : CT l yX9_lose cX9_lose 4 (some .boolean) 1 0 0 b0 D E [rv a0, .int a1, .int a2] G (some (.int rr)) GG := by
  refine CT_of (by decide +kernel) ?_
  intro p e s m below meth c C hnm hR
  refine r_entry [.inr a0, .inl a1, .inl a2] (n := 4) (Nat.le_of_ble_eq_true rfl) (lv := [(0, .inr a0), (1, .inl a1), (2, .inl a2)]) rfl (fun ls hL => ?_)
  exact k_X9_lose C (lx_sub hL [0, 1, 2] rfl) hR ⟨fun _ _ => rfl, fun _ h => by cases h⟩ hd

/-! GroveWorksModel.frame(III)I pure -/
theorem dX9_frame_0 : decode cX9_frame 0 = .ok (.iload_n 1, 1) := by decide +kernel
theorem dX9_frame_1 : decode cX9_frame 1 = .ok (.invokestatic 119, 3) := by decide +kernel
theorem dX9_frame_4 : decode cX9_frame 4 = .ok (.ifCond .eq 27, 3) := by decide +kernel
theorem dX9_frame_7 : decode cX9_frame 7 = .ok (.iload_n 2, 1) := by decide +kernel
theorem dX9_frame_8 : decode cX9_frame 8 = .ok (.ifCond .lt 23, 3) := by decide +kernel
theorem dX9_frame_11 : decode cX9_frame 11 = .ok (.iload_n 2, 1) := by decide +kernel
theorem dX9_frame_12 : decode cX9_frame 12 = .ok (.aload_n 0, 1) := by decide +kernel
theorem dX9_frame_13 : decode cX9_frame 13 = .ok (.getfield 35, 3) := by decide +kernel
theorem dX9_frame_16 : decode cX9_frame 16 = .ok (.iload_n 1, 1) := by decide +kernel
theorem dX9_frame_17 : decode cX9_frame 17 = .ok (.iaload, 1) := by decide +kernel
theorem dX9_frame_18 : decode cX9_frame 18 = .ok (.if_icmp .ge 13, 3) := by decide +kernel
theorem dX9_frame_21 : decode cX9_frame 21 = .ok (.iload_n 3, 1) := by decide +kernel
theorem dX9_frame_22 : decode cX9_frame 22 = .ok (.ifCond .lt 9, 3) := by decide +kernel
theorem dX9_frame_25 : decode cX9_frame 25 = .ok (.iload_n 3, 1) := by decide +kernel
theorem dX9_frame_26 : decode cX9_frame 26 = .ok (.bipush 7, 2) := by decide +kernel
theorem dX9_frame_28 : decode cX9_frame 28 = .ok (.if_icmp .le 6, 3) := by decide +kernel
theorem dX9_frame_31 : decode cX9_frame 31 = .ok (.bipush (-2), 2) := by decide +kernel
theorem dX9_frame_33 : decode cX9_frame 33 = .ok (.ireturn, 1) := by decide +kernel
theorem dX9_frame_34 : decode cX9_frame 34 = .ok (.aload_n 0, 1) := by decide +kernel
theorem dX9_frame_35 : decode cX9_frame 35 = .ok (.getfield 41, 3) := by decide +kernel
theorem dX9_frame_38 : decode cX9_frame 38 = .ok (.bipush 8, 2) := by decide +kernel
theorem dX9_frame_40 : decode cX9_frame 40 = .ok (.bipush 40, 2) := by decide +kernel
theorem dX9_frame_42 : decode cX9_frame 42 = .ok (.iload_n 1, 1) := by decide +kernel
theorem dX9_frame_43 : decode cX9_frame 43 = .ok (.imul, 1) := by decide +kernel
theorem dX9_frame_44 : decode cX9_frame 44 = .ok (.iload_n 2, 1) := by decide +kernel
theorem dX9_frame_45 : decode cX9_frame 45 = .ok (.iadd, 1) := by decide +kernel
theorem dX9_frame_46 : decode cX9_frame 46 = .ok (.imul, 1) := by decide +kernel
theorem dX9_frame_47 : decode cX9_frame 47 = .ok (.iload_n 3, 1) := by decide +kernel
theorem dX9_frame_48 : decode cX9_frame 48 = .ok (.iadd, 1) := by decide +kernel
theorem dX9_frame_49 : decode cX9_frame 49 = .ok (.iaload, 1) := by decide +kernel
theorem dX9_frame_50 : decode cX9_frame 50 = .ok (.ireturn, 1) := by decide +kernel
def d_X9_frame (x0 : Nat) (x1 : Int32) (x2 : Int32) (x3 : Int32) (G : Hp) : Option (Int32) :=
  bo (d_X9_isWire x1 G) fun v2 =>
  if v2 = 0 then
    some (-2)
  else
    if x2 < 0 then
      some (-2)
    else
      gd (hc G x0 = 10) <|
      gd (hc G ((hr G x0 16)) = 11 ∧ ix x1 (hl G ((hr G x0 16)))) <|
      if ((hi G ((hr G x0 16)) x1.toNatClampNeg)) ≤ x2 then
        some (-2)
      else
        if x3 < 0 then
          some (-2)
        else
          if x3 ≤ 7 then
            gd (hc G ((hr G x0 18)) = 11 ∧ ix ((((8 * ((((40 * x1)) + x2)))) + x3)) (hl G ((hr G x0 18)))) <|
            some ((hi G ((hr G x0 18)) ((((8 * ((((40 * x1)) + x2)))) + x3)).toNatClampNeg))
          else
            some (-2)
section
variable {p : Program} {l : Launch} {e : Env} {s : State} {m : MethodId} {args : Array Value} {below : List Frame} {meth : Method} {c : Code} {b0 : Nat} {D : va_G} {E : Nat → ClassId}
set_option maxHeartbeats 4000000 in
set_option maxRecDepth 100000 in
theorem k_X9_frame (C : Cx p s m args meth c RX9 cX9_frame 4 (some .int) b0 D E) {rr : Int32} {G : Hp} {x0 : Nat} {x1 : Int32} {x2 : Int32} {x3 : Int32} {ls : Array Slot} {H : Heap} {locs : List Loc} : lx ls 4 [(0, .inr x0), (1, .inl x1), (2, .inl x2), (3, .inl x3)] → Rp b0 D E G H → SS b0 s H locs → d_X9_frame x0 x1 x2 x3 G = some rr → W p l e (rmd 1 (0) (0)) s m args below meth c H locs (0) (0) (MQ below (CQ b0 D E (some (.int rr)) G) args s (0) (0) (fun q => b0 ≤ q)) (F0 m 0 ls []) := by
  intro hL hR hS hd
  unfold d_X9_frame at hd
  have hx := C.1
  have hb := C.2.1
  refine x_iload_n C dX9_frame_0 hL 1 rfl ?_
  obtain ⟨v2, h1, hd⟩ := bo_ex hd
  refine r_callS (As := [.int x1]) C (ct_X9_isWire h1) mf_X9_isWire ml_X9_119 ms_X9_isWire rfl ⟨Nat.le_of_ble_eq_true rfl, Nat.le_of_ble_eq_true rfl⟩ dX9_frame_1 (lx_size hL) rfl hR hS ⟨Nat.le_refl _, Nat.le_refl _⟩ (cat_le [] (Nat.le_of_ble_eq_true rfl)) (fun H locs hR hS => ?_)
  refine W_st (st2 := [.int v2]) rfl ?_
  refine lv_if_eq (tgt := 31) hx hb dX9_frame_4 (by decide) (fun c3 => ?_) (fun c3 => ?_)
  · rw [if_pos c3] at hd
    refine lv_bipush (v := (-2)) hx hb dX9_frame_31 (by decide) ?_
    cases hd
    exact r_iret C dX9_frame_33 hR hS
  · rw [if_neg c3] at hd
    refine x_iload_n C dX9_frame_7 hL 2 rfl ?_
    refine lv_if_lt (tgt := 31) hx hb dX9_frame_8 (by decide) (fun c4 => ?_) (fun c4 => ?_)
    · rw [if_pos c4] at hd
      refine lv_bipush (v := (-2)) hx hb dX9_frame_31 (by decide) ?_
      cases hd
      exact r_iret C dX9_frame_33 hR hS
    · rw [if_neg c4] at hd
      refine x_iload_n C dX9_frame_11 hL 2 rfl ?_
      refine x_aload_n C dX9_frame_12 hL 0 rfl ?_
      obtain ⟨g5, hd⟩ := gd_ex hd
      refine r_getr (ci := 9) (k := 16) C fl_X9_35 rfl dX9_frame_13 hR g5 ?_
      refine x_iload_n C dX9_frame_16 hL 1 rfl ?_
      obtain ⟨g6, hd⟩ := gd_ex hd
      refine r_iald C dX9_frame_17 hR g6 ?_
      refine lv_icmp_ge (tgt := 31) hx hb dX9_frame_18 (by decide) (fun c7 => ?_) (fun c7 => ?_)
      · rw [if_pos c7] at hd
        refine lv_bipush (v := (-2)) hx hb dX9_frame_31 (by decide) ?_
        cases hd
        exact r_iret C dX9_frame_33 hR hS
      · rw [if_neg c7] at hd
        refine x_iload_n C dX9_frame_21 hL 3 rfl ?_
        refine lv_if_lt (tgt := 31) hx hb dX9_frame_22 (by decide) (fun c8 => ?_) (fun c8 => ?_)
        · rw [if_pos c8] at hd
          refine lv_bipush (v := (-2)) hx hb dX9_frame_31 (by decide) ?_
          cases hd
          exact r_iret C dX9_frame_33 hR hS
        · rw [if_neg c8] at hd
          refine x_iload_n C dX9_frame_25 hL 3 rfl ?_
          refine lv_bipush (v := 7) hx hb dX9_frame_26 (by decide) ?_
          refine lv_icmp_le (tgt := 34) hx hb dX9_frame_28 (by decide) (fun c9 => ?_) (fun c9 => ?_)
          · rw [if_pos c9] at hd
            refine x_aload_n C dX9_frame_34 hL 0 rfl ?_
            refine r_getr (ci := 9) (k := 18) C fl_X9_41 rfl dX9_frame_35 hR g5 ?_
            refine lv_bipush (v := 8) hx hb dX9_frame_38 (by decide) ?_
            refine lv_bipush (v := 40) hx hb dX9_frame_40 (by decide) ?_
            refine x_iload_n C dX9_frame_42 hL 1 rfl ?_
            refine lv_imul hx hb dX9_frame_43 ?_
            refine x_iload_n C dX9_frame_44 hL 2 rfl ?_
            refine lv_iadd hx hb dX9_frame_45 ?_
            refine lv_imul hx hb dX9_frame_46 ?_
            refine x_iload_n C dX9_frame_47 hL 3 rfl ?_
            refine lv_iadd hx hb dX9_frame_48 ?_
            obtain ⟨g10, hd⟩ := gd_ex hd
            refine r_iald C dX9_frame_49 hR g10 ?_
            cases hd
            exact r_iret C dX9_frame_50 hR hS
          · rw [if_neg c9] at hd
            refine lv_bipush (v := (-2)) hx hb dX9_frame_31 (by decide) ?_
            cases hd
            exact r_iret C dX9_frame_33 hR hS
end
set_option maxHeartbeats 4000000 in
set_option maxRecDepth 100000 in
theorem ct_X9_frame {l : Launch} {b0 : Nat} {D : va_G} {E : Nat → ClassId} {G : Hp} {a0 : Nat} {a1 : Int32} {a2 : Int32} {a3 : Int32} {rr : Int32} (hd : d_X9_frame a0 a1 a2 a3 G = some rr) : CT l yX9_frame cX9_frame 4 (some .int) 1 0 0 b0 D E [rv a0, .int a1, .int a2, .int a3] G (some (.int rr)) G := by
  refine CT_of (by decide +kernel) ?_
  intro p e s m below meth c C hnm hR
  refine r_entry [.inr a0, .inl a1, .inl a2, .inl a3] (n := 4) (Nat.le_of_ble_eq_true rfl) (lv := [(0, .inr a0), (1, .inl a1), (2, .inl a2), (3, .inl a3)]) rfl (fun ls hL => ?_)
  exact k_X9_frame C (lx_sub hL [0, 1, 2, 3] rfl) hR ⟨fun _ _ => rfl, fun _ h => by cases h⟩ hd

/-! GroveWorksModel.isNeighbour(III)Z pure -/
theorem dX9_isNeighbour_0 : decode cX9_isNeighbour 0 = .ok (.aload_n 0, 1) := by decide +kernel
theorem dX9_isNeighbour_1 : decode cX9_isNeighbour 1 = .ok (.getfield 122, 3) := by decide +kernel
theorem dX9_isNeighbour_4 : decode cX9_isNeighbour 4 = .ok (.aload_n 0, 1) := by decide +kernel
theorem dX9_isNeighbour_5 : decode cX9_isNeighbour 5 = .ok (.getfield 63, 3) := by decide +kernel
theorem dX9_isNeighbour_8 : decode cX9_isNeighbour 8 = .ok (.bipush 10, 2) := by decide +kernel
theorem dX9_isNeighbour_10 : decode cX9_isNeighbour 10 = .ok (.iconst 4, 1) := by decide +kernel
theorem dX9_isNeighbour_11 : decode cX9_isNeighbour 11 = .ok (.iload_n 1, 1) := by decide +kernel
theorem dX9_isNeighbour_12 : decode cX9_isNeighbour 12 = .ok (.imul, 1) := by decide +kernel
theorem dX9_isNeighbour_13 : decode cX9_isNeighbour 13 = .ok (.iload_n 2, 1) := by decide +kernel
theorem dX9_isNeighbour_14 : decode cX9_isNeighbour 14 = .ok (.iadd, 1) := by decide +kernel
theorem dX9_isNeighbour_15 : decode cX9_isNeighbour 15 = .ok (.imul, 1) := by decide +kernel
theorem dX9_isNeighbour_16 : decode cX9_isNeighbour 16 = .ok (.iload_n 3, 1) := by decide +kernel
theorem dX9_isNeighbour_17 : decode cX9_isNeighbour 17 = .ok (.iadd, 1) := by decide +kernel
theorem dX9_isNeighbour_18 : decode cX9_isNeighbour 18 = .ok (.iaload, 1) := by decide +kernel
theorem dX9_isNeighbour_19 : decode cX9_isNeighbour 19 = .ok (.if_icmp .ge 7, 3) := by decide +kernel
theorem dX9_isNeighbour_22 : decode cX9_isNeighbour 22 = .ok (.iconst 1, 1) := by decide +kernel
theorem dX9_isNeighbour_23 : decode cX9_isNeighbour 23 = .ok (.goto 4, 3) := by decide +kernel
theorem dX9_isNeighbour_26 : decode cX9_isNeighbour 26 = .ok (.iconst 0, 1) := by decide +kernel
theorem dX9_isNeighbour_27 : decode cX9_isNeighbour 27 = .ok (.ireturn, 1) := by decide +kernel
def d_X9_isNeighbour (x0 : Nat) (x1 : Int32) (x2 : Int32) (x3 : Int32) (G : Hp) : Option (Int32) :=
  gd (hc G x0 = 10) <|
  gd (hc G ((hr G x0 25)) = 11 ∧ ix ((((10 * ((((4 * x1)) + x2)))) + x3)) (hl G ((hr G x0 25)))) <|
  if ((hi G ((hr G x0 25)) ((((10 * ((((4 * x1)) + x2)))) + x3)).toNatClampNeg)) ≤ ((hi G x0 0)) then
    some 0
  else
    some 1
section
variable {p : Program} {l : Launch} {e : Env} {s : State} {m : MethodId} {args : Array Value} {below : List Frame} {meth : Method} {c : Code} {b0 : Nat} {D : va_G} {E : Nat → ClassId}
set_option maxHeartbeats 4000000 in
set_option maxRecDepth 100000 in
theorem k_X9_isNeighbour (C : Cx p s m args meth c RX9 cX9_isNeighbour 4 (some .boolean) b0 D E) {rr : Int32} {G : Hp} {x0 : Nat} {x1 : Int32} {x2 : Int32} {x3 : Int32} {ls : Array Slot} {H : Heap} {locs : List Loc} : lx ls 4 [(0, .inr x0), (1, .inl x1), (2, .inl x2), (3, .inl x3)] → Rp b0 D E G H → SS b0 s H locs → d_X9_isNeighbour x0 x1 x2 x3 G = some rr → W p l e (rmd 0 (0) (0)) s m args below meth c H locs (0) (0) (MQ below (CQ b0 D E (some (.int rr)) G) args s (0) (0) (fun q => b0 ≤ q)) (F0 m 0 ls []) := by
  intro hL hR hS hd
  unfold d_X9_isNeighbour at hd
  have hx := C.1
  have hb := C.2.1
  refine x_aload_n C dX9_isNeighbour_0 hL 0 rfl ?_
  obtain ⟨g1, hd⟩ := gd_ex hd
  refine r_geti (ci := 9) (k := 0) C fl_X9_122 rfl dX9_isNeighbour_1 hR g1 ?_
  refine x_aload_n C dX9_isNeighbour_4 hL 0 rfl ?_
  refine r_getr (ci := 9) (k := 25) C fl_X9_63 rfl dX9_isNeighbour_5 hR g1 ?_
  refine lv_bipush (v := 10) hx hb dX9_isNeighbour_8 (by decide) ?_
  refine lv_iconst (v := 4) hx hb dX9_isNeighbour_10 (by decide) ?_
  refine x_iload_n C dX9_isNeighbour_11 hL 1 rfl ?_
  refine lv_imul hx hb dX9_isNeighbour_12 ?_
  refine x_iload_n C dX9_isNeighbour_13 hL 2 rfl ?_
  refine lv_iadd hx hb dX9_isNeighbour_14 ?_
  refine lv_imul hx hb dX9_isNeighbour_15 ?_
  refine x_iload_n C dX9_isNeighbour_16 hL 3 rfl ?_
  refine lv_iadd hx hb dX9_isNeighbour_17 ?_
  obtain ⟨g2, hd⟩ := gd_ex hd
  refine r_iald C dX9_isNeighbour_18 hR g2 ?_
  refine lv_icmp_ge (tgt := 26) hx hb dX9_isNeighbour_19 (by decide) (fun c3 => ?_) (fun c3 => ?_)
  · rw [if_pos c3] at hd
    refine lv_iconst (v := 0) hx hb dX9_isNeighbour_26 (by decide) ?_
    cases hd
    exact r_zret C (by decide) dX9_isNeighbour_27 hR hS
  · rw [if_neg c3] at hd
    refine lv_iconst (v := 1) hx hb dX9_isNeighbour_22 (by decide) ?_
    refine lv_goto (tgt := 27) hx hb dX9_isNeighbour_23 (by decide) ?_
    cases hd
    exact r_zret C (by decide) dX9_isNeighbour_27 hR hS
end
set_option maxHeartbeats 4000000 in
set_option maxRecDepth 100000 in
theorem ct_X9_isNeighbour {l : Launch} {b0 : Nat} {D : va_G} {E : Nat → ClassId} {G : Hp} {a0 : Nat} {a1 : Int32} {a2 : Int32} {a3 : Int32} {rr : Int32} (hd : d_X9_isNeighbour a0 a1 a2 a3 G = some rr) : CT l yX9_isNeighbour cX9_isNeighbour 4 (some .boolean) 0 0 0 b0 D E [rv a0, .int a1, .int a2, .int a3] G (some (.int rr)) G := by
  refine CT_of (by decide +kernel) ?_
  intro p e s m below meth c C hnm hR
  refine r_entry [.inr a0, .inl a1, .inl a2, .inl a3] (n := 4) (Nat.le_of_ble_eq_true rfl) (lv := [(0, .inr a0), (1, .inl a1), (2, .inl a2), (3, .inl a3)]) rfl (fun ls hL => ?_)
  exact k_X9_isNeighbour C (lx_sub hL [0, 1, 2, 3] rfl) hR ⟨fun _ _ => rfl, fun _ h => by cases h⟩ hd

/-! GroveWorksModel.neighbours(II)I pure -/
theorem dX9_neighbours_0 : decode cX9_neighbours 0 = .ok (.iconst 0, 1) := by decide +kernel
theorem dX9_neighbours_1 : decode cX9_neighbours 1 = .ok (.istore_n 3, 1) := by decide +kernel
theorem dX9_neighbours_2 : decode cX9_neighbours 2 = .ok (.iconst 0, 1) := by decide +kernel
theorem dX9_neighbours_3 : decode cX9_neighbours 3 = .ok (.istore 4, 2) := by decide +kernel
theorem dX9_neighbours_5 : decode cX9_neighbours 5 = .ok (.iload 4, 2) := by decide +kernel
theorem dX9_neighbours_7 : decode cX9_neighbours 7 = .ok (.aload_n 0, 1) := by decide +kernel
theorem dX9_neighbours_8 : decode cX9_neighbours 8 = .ok (.getfield 108, 3) := by decide +kernel
theorem dX9_neighbours_11 : decode cX9_neighbours 11 = .ok (.if_icmp .ge 27, 3) := by decide +kernel
theorem dX9_neighbours_14 : decode cX9_neighbours 14 = .ok (.aload_n 0, 1) := by decide +kernel
theorem dX9_neighbours_15 : decode cX9_neighbours 15 = .ok (.iload_n 1, 1) := by decide +kernel
theorem dX9_neighbours_16 : decode cX9_neighbours 16 = .ok (.iload_n 2, 1) := by decide +kernel
theorem dX9_neighbours_17 : decode cX9_neighbours 17 = .ok (.iload 4, 2) := by decide +kernel
theorem dX9_neighbours_19 : decode cX9_neighbours 19 = .ok (.invokevirtual 169, 3) := by decide +kernel
theorem dX9_neighbours_22 : decode cX9_neighbours 22 = .ok (.ifCond .eq 10, 3) := by decide +kernel
theorem dX9_neighbours_25 : decode cX9_neighbours 25 = .ok (.iload_n 3, 1) := by decide +kernel
theorem dX9_neighbours_26 : decode cX9_neighbours 26 = .ok (.iconst 1, 1) := by decide +kernel
theorem dX9_neighbours_27 : decode cX9_neighbours 27 = .ok (.iload 4, 2) := by decide +kernel
theorem dX9_neighbours_29 : decode cX9_neighbours 29 = .ok (.ishl, 1) := by decide +kernel
theorem dX9_neighbours_30 : decode cX9_neighbours 30 = .ok (.ior, 1) := by decide +kernel
theorem dX9_neighbours_31 : decode cX9_neighbours 31 = .ok (.istore_n 3, 1) := by decide +kernel
theorem dX9_neighbours_32 : decode cX9_neighbours 32 = .ok (.iinc 4 1, 3) := by decide +kernel
theorem dX9_neighbours_35 : decode cX9_neighbours 35 = .ok (.goto (-30), 3) := by decide +kernel
theorem dX9_neighbours_38 : decode cX9_neighbours 38 = .ok (.iload_n 3, 1) := by decide +kernel
theorem dX9_neighbours_39 : decode cX9_neighbours 39 = .ok (.ireturn, 1) := by decide +kernel
def d_X9_neighbours_5 : Nat → Nat → Int32 → Int32 → Int32 → Int32 → Hp → Option (Int32)
  | 0, _, _, _, _, _, _ => none
  | n_ + 1, x0, x1, x2, x3, x4, G =>
    gd (hc G x0 = 10) <|
    if ((hi G x0 1)) ≤ x4 then
      some x3
    else
      bo (d_X9_isNeighbour x0 x1 x2 x4 G) fun v4 =>
      if v4 = 0 then
        d_X9_neighbours_5 n_ x0 x1 x2 x3 ((x4 + 1)) G
      else
        bd ((x3 ||| ((1 <<< (x4 &&& 31))))) fun v6 =>
        d_X9_neighbours_5 n_ x0 x1 x2 v6 ((x4 + 1)) G
def d_X9_neighbours (x0 : Nat) (x1 : Int32) (x2 : Int32) (G : Hp) : Option (Int32) :=
  d_X9_neighbours_5 FU x0 x1 x2 0 0 G
section
variable {p : Program} {l : Launch} {e : Env} {s : State} {m : MethodId} {args : Array Value} {below : List Frame} {meth : Method} {c : Code} {b0 : Nat} {D : va_G} {E : Nat → ClassId}
set_option maxHeartbeats 4000000 in
set_option maxRecDepth 100000 in
theorem k_X9_neighbours_5 (C : Cx p s m args meth c RX9 cX9_neighbours 5 (some .int) b0 D E) {rr : Int32} {G : Hp} : ∀ (n_ : Nat) {x0 : Nat} {x1 : Int32} {x2 : Int32} {x3 : Int32} {x4 : Int32} {ls : Array Slot} {H : Heap} {locs : List Loc}, lx ls 5 [(0, .inr x0), (1, .inl x1), (2, .inl x2), (3, .inl x3), (4, .inl x4)] → Rp b0 D E G H → SS b0 s H locs → d_X9_neighbours_5 n_ x0 x1 x2 x3 x4 G = some rr → W p l e (rmd 1 (0) (0)) s m args below meth c H locs (0) (0) (MQ below (CQ b0 D E (some (.int rr)) G) args s (0) (0) (fun q => b0 ≤ q)) (F0 m 5 ls []) := by
  intro n_
  induction n_ with
  | zero =>
    intro x0 x1 x2 x3 x4 ls H locs hL hR hS hd
    cases (show (none : Option _) = some _ from hd)
  | succ n_ ih =>
    intro x0 x1 x2 x3 x4 ls H locs hL hR hS hd
    rw [d_X9_neighbours_5.eq_2] at hd
    have hx := C.1
    have hb := C.2.1
    refine x_iload C dX9_neighbours_5 hL 4 rfl ?_
    refine x_aload_n C dX9_neighbours_7 hL 0 rfl ?_
    obtain ⟨g1, hd⟩ := gd_ex hd
    refine r_geti (ci := 9) (k := 1) C fl_X9_108 rfl dX9_neighbours_8 hR g1 ?_
    refine lv_icmp_ge (tgt := 38) hx hb dX9_neighbours_11 (by decide) (fun c2 => ?_) (fun c2 => ?_)
    · rw [if_pos c2] at hd
      refine x_iload_n C dX9_neighbours_38 hL 3 rfl ?_
      cases hd
      exact r_iret C dX9_neighbours_39 hR hS
    · rw [if_neg c2] at hd
      refine x_aload_n C dX9_neighbours_14 hL 0 rfl ?_
      refine x_iload_n C dX9_neighbours_15 hL 1 rfl ?_
      refine x_iload_n C dX9_neighbours_16 hL 2 rfl ?_
      refine x_iload C dX9_neighbours_17 hL 4 rfl ?_
      obtain ⟨v4, h3, hd⟩ := bo_ex hd
      refine r_callV (a := x0) (ci := 9) (As := [.int x1, .int x2, .int x4]) C (ct_X9_isNeighbour h3) mf_X9_isNeighbour ml_X9_169 mv_X9_isNeighbour rfl ⟨Nat.le_of_ble_eq_true rfl, Nat.le_of_ble_eq_true rfl⟩ dX9_neighbours_19 (lx_size hL) rfl hR hS g1 ⟨Nat.le_refl _, Nat.le_refl _⟩ (cat_le [] (Nat.le_of_ble_eq_true rfl)) (fun H locs hR hS => ?_)
      refine W_st (st2 := [.int v4]) rfl ?_
      refine lv_if_eq (tgt := 32) hx hb dX9_neighbours_22 (by decide) (fun c5 => ?_) (fun c5 => ?_)
      · rw [if_pos c5] at hd
        refine x_iinc (lv' := [(4, .inl ((x4 + 1))), (0, .inr x0), (1, .inl x1), (2, .inl x2), (3, .inl x3)]) C dX9_neighbours_32 hL 4 rfl rfl (by decide) rfl (fun ls hL => ?_)
        refine lv_goto (tgt := 5) hx hb dX9_neighbours_35 (by decide) ?_
        exact ih (lx_sub hL [1, 2, 3, 4, 0] rfl) hR hS hd
      · rw [if_neg c5] at hd
        refine x_iload_n C dX9_neighbours_25 hL 3 rfl ?_
        refine lv_iconst (v := 1) hx hb dX9_neighbours_26 (by decide) ?_
        refine x_iload C dX9_neighbours_27 hL 4 rfl ?_
        refine lv_ishl hx hb dX9_neighbours_29 ?_
        refine lv_ior hx hb dX9_neighbours_30 ?_
        obtain ⟨v6, ev6, hd⟩ := bd_ex hd
        rw [← ev6]
        refine x_istore_n (lv' := [(3, .inl v6), (0, .inr x0), (1, .inl x1), (2, .inl x2), (4, .inl x4)]) C dX9_neighbours_31 hL (by decide) rfl (fun ls hL => ?_)
        refine x_iinc (lv' := [(4, .inl ((x4 + 1))), (3, .inl v6), (0, .inr x0), (1, .inl x1), (2, .inl x2)]) C dX9_neighbours_32 hL 4 rfl rfl (by decide) rfl (fun ls hL => ?_)
        refine lv_goto (tgt := 5) hx hb dX9_neighbours_35 (by decide) ?_
        exact ih (lx_sub hL [2, 3, 4, 1, 0] rfl) hR hS hd
set_option maxHeartbeats 4000000 in
set_option maxRecDepth 100000 in
theorem k_X9_neighbours (C : Cx p s m args meth c RX9 cX9_neighbours 5 (some .int) b0 D E) {rr : Int32} {G : Hp} {x0 : Nat} {x1 : Int32} {x2 : Int32} {ls : Array Slot} {H : Heap} {locs : List Loc} : lx ls 5 [(0, .inr x0), (1, .inl x1), (2, .inl x2)] → Rp b0 D E G H → SS b0 s H locs → d_X9_neighbours x0 x1 x2 G = some rr → W p l e (rmd 1 (0) (0)) s m args below meth c H locs (0) (0) (MQ below (CQ b0 D E (some (.int rr)) G) args s (0) (0) (fun q => b0 ≤ q)) (F0 m 0 ls []) := by
  intro hL hR hS hd
  unfold d_X9_neighbours at hd
  have hx := C.1
  have hb := C.2.1
  refine lv_iconst (v := 0) hx hb dX9_neighbours_0 (by decide) ?_
  refine x_istore_n (lv' := [(3, .inl 0), (0, .inr x0), (1, .inl x1), (2, .inl x2)]) C dX9_neighbours_1 hL (by decide) rfl (fun ls hL => ?_)
  refine lv_iconst (v := 0) hx hb dX9_neighbours_2 (by decide) ?_
  refine x_istore (lv' := [(4, .inl 0), (3, .inl 0), (0, .inr x0), (1, .inl x1), (2, .inl x2)]) C dX9_neighbours_3 hL (by decide) rfl (fun ls hL => ?_)
  exact k_X9_neighbours_5 C FU (lx_sub hL [2, 3, 4, 1, 0] rfl) hR hS hd
end
set_option maxHeartbeats 4000000 in
set_option maxRecDepth 100000 in
theorem ct_X9_neighbours {l : Launch} {b0 : Nat} {D : va_G} {E : Nat → ClassId} {G : Hp} {a0 : Nat} {a1 : Int32} {a2 : Int32} {rr : Int32} (hd : d_X9_neighbours a0 a1 a2 G = some rr) : CT l yX9_neighbours cX9_neighbours 5 (some .int) 1 0 0 b0 D E [rv a0, .int a1, .int a2] G (some (.int rr)) G := by
  refine CT_of (by decide +kernel) ?_
  intro p e s m below meth c C hnm hR
  refine r_entry [.inr a0, .inl a1, .inl a2] (n := 5) (Nat.le_of_ble_eq_true rfl) (lv := [(0, .inr a0), (1, .inl a1), (2, .inl a2)]) rfl (fun ls hL => ?_)
  exact k_X9_neighbours C (lx_sub hL [0, 1, 2] rfl) hR ⟨fun _ _ => rfl, fun _ h => by cases h⟩ hd

/-! GroveWorksModel.hasTwo(II)Z pure -/
theorem dX9_hasTwo_0 : decode cX9_hasTwo 0 = .ok (.aload_n 0, 1) := by decide +kernel
theorem dX9_hasTwo_1 : decode cX9_hasTwo 1 = .ok (.iload_n 1, 1) := by decide +kernel
theorem dX9_hasTwo_2 : decode cX9_hasTwo 2 = .ok (.iload_n 2, 1) := by decide +kernel
theorem dX9_hasTwo_3 : decode cX9_hasTwo 3 = .ok (.invokevirtual 173, 3) := by decide +kernel
theorem dX9_hasTwo_6 : decode cX9_hasTwo 6 = .ok (.istore_n 3, 1) := by decide +kernel
theorem dX9_hasTwo_7 : decode cX9_hasTwo 7 = .ok (.iload_n 3, 1) := by decide +kernel
theorem dX9_hasTwo_8 : decode cX9_hasTwo 8 = .ok (.iload_n 3, 1) := by decide +kernel
theorem dX9_hasTwo_9 : decode cX9_hasTwo 9 = .ok (.iconst 1, 1) := by decide +kernel
theorem dX9_hasTwo_10 : decode cX9_hasTwo 10 = .ok (.isub, 1) := by decide +kernel
theorem dX9_hasTwo_11 : decode cX9_hasTwo 11 = .ok (.iand, 1) := by decide +kernel
theorem dX9_hasTwo_12 : decode cX9_hasTwo 12 = .ok (.ifCond .eq 7, 3) := by decide +kernel
theorem dX9_hasTwo_15 : decode cX9_hasTwo 15 = .ok (.iconst 1, 1) := by decide +kernel
theorem dX9_hasTwo_16 : decode cX9_hasTwo 16 = .ok (.goto 4, 3) := by decide +kernel
theorem dX9_hasTwo_19 : decode cX9_hasTwo 19 = .ok (.iconst 0, 1) := by decide +kernel
theorem dX9_hasTwo_20 : decode cX9_hasTwo 20 = .ok (.ireturn, 1) := by decide +kernel
def d_X9_hasTwo (x0 : Nat) (x1 : Int32) (x2 : Int32) (G : Hp) : Option (Int32) :=
  gd (hc G x0 = 10) <|
  bo (d_X9_neighbours x0 x1 x2 G) fun v3 =>
  if ((v3 &&& ((v3 - 1)))) = 0 then
    some 0
  else
    some 1
section
variable {p : Program} {l : Launch} {e : Env} {s : State} {m : MethodId} {args : Array Value} {below : List Frame} {meth : Method} {c : Code} {b0 : Nat} {D : va_G} {E : Nat → ClassId}
set_option maxHeartbeats 4000000 in
set_option maxRecDepth 100000 in
theorem k_X9_hasTwo (C : Cx p s m args meth c RX9 cX9_hasTwo 4 (some .boolean) b0 D E) {rr : Int32} {G : Hp} {x0 : Nat} {x1 : Int32} {x2 : Int32} {ls : Array Slot} {H : Heap} {locs : List Loc} : lx ls 4 [(0, .inr x0), (1, .inl x1), (2, .inl x2)] → Rp b0 D E G H → SS b0 s H locs → d_X9_hasTwo x0 x1 x2 G = some rr → W p l e (rmd 2 (0) (0)) s m args below meth c H locs (0) (0) (MQ below (CQ b0 D E (some (.int rr)) G) args s (0) (0) (fun q => b0 ≤ q)) (F0 m 0 ls []) := by
  intro hL hR hS hd
  unfold d_X9_hasTwo at hd
  have hx := C.1
  have hb := C.2.1
  refine x_aload_n C dX9_hasTwo_0 hL 0 rfl ?_
  refine x_iload_n C dX9_hasTwo_1 hL 1 rfl ?_
  refine x_iload_n C dX9_hasTwo_2 hL 2 rfl ?_
  obtain ⟨g1, hd⟩ := gd_ex hd
  obtain ⟨v3, h2, hd⟩ := bo_ex hd
  refine r_callV (a := x0) (ci := 9) (As := [.int x1, .int x2]) C (ct_X9_neighbours h2) mf_X9_neighbours ml_X9_173 mv_X9_neighbours rfl ⟨Nat.le_of_ble_eq_true rfl, Nat.le_of_ble_eq_true rfl⟩ dX9_hasTwo_3 (lx_size hL) rfl hR hS g1 ⟨Nat.le_refl _, Nat.le_refl _⟩ (cat_le [] (Nat.le_of_ble_eq_true rfl)) (fun H locs hR hS => ?_)
  refine W_st (st2 := [.int v3]) rfl ?_
  refine x_istore_n (lv' := [(3, .inl v3), (0, .inr x0), (1, .inl x1), (2, .inl x2)]) C dX9_hasTwo_6 hL (by decide) rfl (fun ls hL => ?_)
  refine x_iload_n C dX9_hasTwo_7 hL 0 rfl ?_
  refine x_iload_n C dX9_hasTwo_8 hL 0 rfl ?_
  refine lv_iconst (v := 1) hx hb dX9_hasTwo_9 (by decide) ?_
  refine lv_isub hx hb dX9_hasTwo_10 ?_
  refine lv_iand hx hb dX9_hasTwo_11 ?_
  refine lv_if_eq (tgt := 19) hx hb dX9_hasTwo_12 (by decide) (fun c4 => ?_) (fun c4 => ?_)
  · rw [if_pos c4] at hd
    refine lv_iconst (v := 0) hx hb dX9_hasTwo_19 (by decide) ?_
    cases hd
    exact r_zret C (by decide) dX9_hasTwo_20 hR hS
  · rw [if_neg c4] at hd
    refine lv_iconst (v := 1) hx hb dX9_hasTwo_15 (by decide) ?_
    refine lv_goto (tgt := 20) hx hb dX9_hasTwo_16 (by decide) ?_
    cases hd
    exact r_zret C (by decide) dX9_hasTwo_20 hR hS
end
set_option maxHeartbeats 4000000 in
set_option maxRecDepth 100000 in
theorem ct_X9_hasTwo {l : Launch} {b0 : Nat} {D : va_G} {E : Nat → ClassId} {G : Hp} {a0 : Nat} {a1 : Int32} {a2 : Int32} {rr : Int32} (hd : d_X9_hasTwo a0 a1 a2 G = some rr) : CT l yX9_hasTwo cX9_hasTwo 4 (some .boolean) 2 0 0 b0 D E [rv a0, .int a1, .int a2] G (some (.int rr)) G := by
  refine CT_of (by decide +kernel) ?_
  intro p e s m below meth c C hnm hR
  refine r_entry [.inr a0, .inl a1, .inl a2] (n := 4) (Nat.le_of_ble_eq_true rfl) (lv := [(0, .inr a0), (1, .inl a1), (2, .inl a2)]) rfl (fun ls hL => ?_)
  exact k_X9_hasTwo C (lx_sub hL [0, 1, 2] rfl) hR ⟨fun _ _ => rfl, fun _ h => by cases h⟩ hd

/-! GroveWorksModel.isFirst(II)Z pure -/
theorem dX9_isFirst_0 : decode cX9_isFirst 0 = .ok (.aload_n 0, 1) := by decide +kernel
theorem dX9_isFirst_1 : decode cX9_isFirst 1 = .ok (.iload_n 1, 1) := by decide +kernel
theorem dX9_isFirst_2 : decode cX9_isFirst 2 = .ok (.iload_n 2, 1) := by decide +kernel
theorem dX9_isFirst_3 : decode cX9_isFirst 3 = .ok (.invokevirtual 173, 3) := by decide +kernel
theorem dX9_isFirst_6 : decode cX9_isFirst 6 = .ok (.iload_n 1, 1) := by decide +kernel
theorem dX9_isFirst_7 : decode cX9_isFirst 7 = .ok (.ishr, 1) := by decide +kernel
theorem dX9_isFirst_8 : decode cX9_isFirst 8 = .ok (.ifCond .ne 7, 3) := by decide +kernel
theorem dX9_isFirst_11 : decode cX9_isFirst 11 = .ok (.iconst 1, 1) := by decide +kernel
theorem dX9_isFirst_12 : decode cX9_isFirst 12 = .ok (.goto 4, 3) := by decide +kernel
theorem dX9_isFirst_15 : decode cX9_isFirst 15 = .ok (.iconst 0, 1) := by decide +kernel
theorem dX9_isFirst_16 : decode cX9_isFirst 16 = .ok (.ireturn, 1) := by decide +kernel
def d_X9_isFirst (x0 : Nat) (x1 : Int32) (x2 : Int32) (G : Hp) : Option (Int32) :=
  gd (hc G x0 = 10) <|
  bo (d_X9_neighbours x0 x1 x2 G) fun v3 =>
  if ((v3 >>> (x1 &&& 31))) = 0 then
    some 1
  else
    some 0
section
variable {p : Program} {l : Launch} {e : Env} {s : State} {m : MethodId} {args : Array Value} {below : List Frame} {meth : Method} {c : Code} {b0 : Nat} {D : va_G} {E : Nat → ClassId}
set_option maxHeartbeats 4000000 in
set_option maxRecDepth 100000 in
theorem k_X9_isFirst (C : Cx p s m args meth c RX9 cX9_isFirst 3 (some .boolean) b0 D E) {rr : Int32} {G : Hp} {x0 : Nat} {x1 : Int32} {x2 : Int32} {ls : Array Slot} {H : Heap} {locs : List Loc} : lx ls 3 [(0, .inr x0), (1, .inl x1), (2, .inl x2)] → Rp b0 D E G H → SS b0 s H locs → d_X9_isFirst x0 x1 x2 G = some rr → W p l e (rmd 2 (0) (0)) s m args below meth c H locs (0) (0) (MQ below (CQ b0 D E (some (.int rr)) G) args s (0) (0) (fun q => b0 ≤ q)) (F0 m 0 ls []) := by
  intro hL hR hS hd
  unfold d_X9_isFirst at hd
  have hx := C.1
  have hb := C.2.1
  refine x_aload_n C dX9_isFirst_0 hL 0 rfl ?_
  refine x_iload_n C dX9_isFirst_1 hL 1 rfl ?_
  refine x_iload_n C dX9_isFirst_2 hL 2 rfl ?_
  obtain ⟨g1, hd⟩ := gd_ex hd
  obtain ⟨v3, h2, hd⟩ := bo_ex hd
  refine r_callV (a := x0) (ci := 9) (As := [.int x1, .int x2]) C (ct_X9_neighbours h2) mf_X9_neighbours ml_X9_173 mv_X9_neighbours rfl ⟨Nat.le_of_ble_eq_true rfl, Nat.le_of_ble_eq_true rfl⟩ dX9_isFirst_3 (lx_size hL) rfl hR hS g1 ⟨Nat.le_refl _, Nat.le_refl _⟩ (cat_le [] (Nat.le_of_ble_eq_true rfl)) (fun H locs hR hS => ?_)
  refine W_st (st2 := [.int v3]) rfl ?_
  refine x_iload_n C dX9_isFirst_6 hL 1 rfl ?_
  refine lv_ishr hx hb dX9_isFirst_7 ?_
  refine lv_if_ne (tgt := 15) hx hb dX9_isFirst_8 (by decide) (fun c4 => ?_) (fun c4 => ?_)
  · rw [if_neg c4] at hd
    refine lv_iconst (v := 0) hx hb dX9_isFirst_15 (by decide) ?_
    cases hd
    exact r_zret C (by decide) dX9_isFirst_16 hR hS
  · rw [if_pos c4] at hd
    refine lv_iconst (v := 1) hx hb dX9_isFirst_11 (by decide) ?_
    refine lv_goto (tgt := 16) hx hb dX9_isFirst_12 (by decide) ?_
    cases hd
    exact r_zret C (by decide) dX9_isFirst_16 hR hS
end
set_option maxHeartbeats 4000000 in
set_option maxRecDepth 100000 in
theorem ct_X9_isFirst {l : Launch} {b0 : Nat} {D : va_G} {E : Nat → ClassId} {G : Hp} {a0 : Nat} {a1 : Int32} {a2 : Int32} {rr : Int32} (hd : d_X9_isFirst a0 a1 a2 G = some rr) : CT l yX9_isFirst cX9_isFirst 3 (some .boolean) 2 0 0 b0 D E [rv a0, .int a1, .int a2] G (some (.int rr)) G := by
  refine CT_of (by decide +kernel) ?_
  intro p e s m below meth c C hnm hR
  refine r_entry [.inr a0, .inl a1, .inl a2] (n := 3) (Nat.le_of_ble_eq_true rfl) (lv := [(0, .inr a0), (1, .inl a1), (2, .inl a2)]) rfl (fun ls hL => ?_)
  exact k_X9_isFirst C (lx_sub hL [0, 1, 2] rfl) hR ⟨fun _ _ => rfl, fun _ h => by cases h⟩ hd

/-! GroveWorksModel.isAsking(II)Z pure -/
theorem dX9_isAsking_0 : decode cX9_isAsking 0 = .ok (.aload_n 0, 1) := by decide +kernel
theorem dX9_isAsking_1 : decode cX9_isAsking 1 = .ok (.iload_n 1, 1) := by decide +kernel
theorem dX9_isAsking_2 : decode cX9_isAsking 2 = .ok (.iload_n 2, 1) := by decide +kernel
theorem dX9_isAsking_3 : decode cX9_isAsking 3 = .ok (.invokevirtual 173, 3) := by decide +kernel
theorem dX9_isAsking_6 : decode cX9_isAsking 6 = .ok (.iconst 1, 1) := by decide +kernel
theorem dX9_isAsking_7 : decode cX9_isAsking 7 = .ok (.iload_n 1, 1) := by decide +kernel
theorem dX9_isAsking_8 : decode cX9_isAsking 8 = .ok (.ishl, 1) := by decide +kernel
theorem dX9_isAsking_9 : decode cX9_isAsking 9 = .ok (.iconst 1, 1) := by decide +kernel
theorem dX9_isAsking_10 : decode cX9_isAsking 10 = .ok (.isub, 1) := by decide +kernel
theorem dX9_isAsking_11 : decode cX9_isAsking 11 = .ok (.iand, 1) := by decide +kernel
theorem dX9_isAsking_12 : decode cX9_isAsking 12 = .ok (.ifCond .ne 7, 3) := by decide +kernel
theorem dX9_isAsking_15 : decode cX9_isAsking 15 = .ok (.iconst 1, 1) := by decide +kernel
theorem dX9_isAsking_16 : decode cX9_isAsking 16 = .ok (.goto 4, 3) := by decide +kernel
theorem dX9_isAsking_19 : decode cX9_isAsking 19 = .ok (.iconst 0, 1) := by decide +kernel
theorem dX9_isAsking_20 : decode cX9_isAsking 20 = .ok (.ireturn, 1) := by decide +kernel
def d_X9_isAsking (x0 : Nat) (x1 : Int32) (x2 : Int32) (G : Hp) : Option (Int32) :=
  gd (hc G x0 = 10) <|
  bo (d_X9_neighbours x0 x1 x2 G) fun v3 =>
  if ((v3 &&& ((((1 <<< (x1 &&& 31))) - 1)))) = 0 then
    some 1
  else
    some 0
section
variable {p : Program} {l : Launch} {e : Env} {s : State} {m : MethodId} {args : Array Value} {below : List Frame} {meth : Method} {c : Code} {b0 : Nat} {D : va_G} {E : Nat → ClassId}
set_option maxHeartbeats 4000000 in
set_option maxRecDepth 100000 in
theorem k_X9_isAsking (C : Cx p s m args meth c RX9 cX9_isAsking 3 (some .boolean) b0 D E) {rr : Int32} {G : Hp} {x0 : Nat} {x1 : Int32} {x2 : Int32} {ls : Array Slot} {H : Heap} {locs : List Loc} : lx ls 3 [(0, .inr x0), (1, .inl x1), (2, .inl x2)] → Rp b0 D E G H → SS b0 s H locs → d_X9_isAsking x0 x1 x2 G = some rr → W p l e (rmd 2 (0) (0)) s m args below meth c H locs (0) (0) (MQ below (CQ b0 D E (some (.int rr)) G) args s (0) (0) (fun q => b0 ≤ q)) (F0 m 0 ls []) := by
  intro hL hR hS hd
  unfold d_X9_isAsking at hd
  have hx := C.1
  have hb := C.2.1
  refine x_aload_n C dX9_isAsking_0 hL 0 rfl ?_
  refine x_iload_n C dX9_isAsking_1 hL 1 rfl ?_
  refine x_iload_n C dX9_isAsking_2 hL 2 rfl ?_
  obtain ⟨g1, hd⟩ := gd_ex hd
  obtain ⟨v3, h2, hd⟩ := bo_ex hd
  refine r_callV (a := x0) (ci := 9) (As := [.int x1, .int x2]) C (ct_X9_neighbours h2) mf_X9_neighbours ml_X9_173 mv_X9_neighbours rfl ⟨Nat.le_of_ble_eq_true rfl, Nat.le_of_ble_eq_true rfl⟩ dX9_isAsking_3 (lx_size hL) rfl hR hS g1 ⟨Nat.le_refl _, Nat.le_refl _⟩ (cat_le [] (Nat.le_of_ble_eq_true rfl)) (fun H locs hR hS => ?_)
  refine W_st (st2 := [.int v3]) rfl ?_
  refine lv_iconst (v := 1) hx hb dX9_isAsking_6 (by decide) ?_
  refine x_iload_n C dX9_isAsking_7 hL 1 rfl ?_
  refine lv_ishl hx hb dX9_isAsking_8 ?_
  refine lv_iconst (v := 1) hx hb dX9_isAsking_9 (by decide) ?_
  refine lv_isub hx hb dX9_isAsking_10 ?_
  refine lv_iand hx hb dX9_isAsking_11 ?_
  refine lv_if_ne (tgt := 19) hx hb dX9_isAsking_12 (by decide) (fun c4 => ?_) (fun c4 => ?_)
  · rw [if_neg c4] at hd
    refine lv_iconst (v := 0) hx hb dX9_isAsking_19 (by decide) ?_
    cases hd
    exact r_zret C (by decide) dX9_isAsking_20 hR hS
  · rw [if_pos c4] at hd
    refine lv_iconst (v := 1) hx hb dX9_isAsking_15 (by decide) ?_
    refine lv_goto (tgt := 20) hx hb dX9_isAsking_16 (by decide) ?_
    cases hd
    exact r_zret C (by decide) dX9_isAsking_20 hR hS
end
set_option maxHeartbeats 4000000 in
set_option maxRecDepth 100000 in
theorem ct_X9_isAsking {l : Launch} {b0 : Nat} {D : va_G} {E : Nat → ClassId} {G : Hp} {a0 : Nat} {a1 : Int32} {a2 : Int32} {rr : Int32} (hd : d_X9_isAsking a0 a1 a2 G = some rr) : CT l yX9_isAsking cX9_isAsking 3 (some .boolean) 2 0 0 b0 D E [rv a0, .int a1, .int a2] G (some (.int rr)) G := by
  refine CT_of (by decide +kernel) ?_
  intro p e s m below meth c C hnm hR
  refine r_entry [.inr a0, .inl a1, .inl a2] (n := 3) (Nat.le_of_ble_eq_true rfl) (lv := [(0, .inr a0), (1, .inl a1), (2, .inl a2)]) rfl (fun ls hL => ?_)
  exact k_X9_isAsking C (lx_sub hL [0, 1, 2] rfl) hR ⟨fun _ _ => rfl, fun _ h => by cases h⟩ hd

/-! GroveWorksModel.hasMembers(III)Z pure -/
theorem dX9_hasMembers_0 : decode cX9_hasMembers 0 = .ok (.aload_n 0, 1) := by decide +kernel
theorem dX9_hasMembers_1 : decode cX9_hasMembers 1 = .ok (.getfield 122, 3) := by decide +kernel
theorem dX9_hasMembers_4 : decode cX9_hasMembers 4 = .ok (.aload_n 0, 1) := by decide +kernel
theorem dX9_hasMembers_5 : decode cX9_hasMembers 5 = .ok (.getfield 72, 3) := by decide +kernel
theorem dX9_hasMembers_8 : decode cX9_hasMembers 8 = .ok (.bipush 8, 2) := by decide +kernel
theorem dX9_hasMembers_10 : decode cX9_hasMembers 10 = .ok (.iconst 4, 1) := by decide +kernel
theorem dX9_hasMembers_11 : decode cX9_hasMembers 11 = .ok (.iload_n 1, 1) := by decide +kernel
theorem dX9_hasMembers_12 : decode cX9_hasMembers 12 = .ok (.imul, 1) := by decide +kernel
theorem dX9_hasMembers_13 : decode cX9_hasMembers 13 = .ok (.iload_n 2, 1) := by decide +kernel
theorem dX9_hasMembers_14 : decode cX9_hasMembers 14 = .ok (.iadd, 1) := by decide +kernel
theorem dX9_hasMembers_15 : decode cX9_hasMembers 15 = .ok (.imul, 1) := by decide +kernel
theorem dX9_hasMembers_16 : decode cX9_hasMembers 16 = .ok (.iload_n 3, 1) := by decide +kernel
theorem dX9_hasMembers_17 : decode cX9_hasMembers 17 = .ok (.iadd, 1) := by decide +kernel
theorem dX9_hasMembers_18 : decode cX9_hasMembers 18 = .ok (.iaload, 1) := by decide +kernel
theorem dX9_hasMembers_19 : decode cX9_hasMembers 19 = .ok (.if_icmp .ge 7, 3) := by decide +kernel
theorem dX9_hasMembers_22 : decode cX9_hasMembers 22 = .ok (.iconst 1, 1) := by decide +kernel
theorem dX9_hasMembers_23 : decode cX9_hasMembers 23 = .ok (.goto 4, 3) := by decide +kernel
theorem dX9_hasMembers_26 : decode cX9_hasMembers 26 = .ok (.iconst 0, 1) := by decide +kernel
theorem dX9_hasMembers_27 : decode cX9_hasMembers 27 = .ok (.ireturn, 1) := by decide +kernel
def d_X9_hasMembers (x0 : Nat) (x1 : Int32) (x2 : Int32) (x3 : Int32) (G : Hp) : Option (Int32) :=
  gd (hc G x0 = 10) <|
  gd (hc G ((hr G x0 28)) = 11 ∧ ix ((((8 * ((((4 * x1)) + x2)))) + x3)) (hl G ((hr G x0 28)))) <|
  if ((hi G ((hr G x0 28)) ((((8 * ((((4 * x1)) + x2)))) + x3)).toNatClampNeg)) ≤ ((hi G x0 0)) then
    some 0
  else
    some 1
section
variable {p : Program} {l : Launch} {e : Env} {s : State} {m : MethodId} {args : Array Value} {below : List Frame} {meth : Method} {c : Code} {b0 : Nat} {D : va_G} {E : Nat → ClassId}
set_option maxHeartbeats 4000000 in
set_option maxRecDepth 100000 in
theorem k_X9_hasMembers (C : Cx p s m args meth c RX9 cX9_hasMembers 4 (some .boolean) b0 D E) {rr : Int32} {G : Hp} {x0 : Nat} {x1 : Int32} {x2 : Int32} {x3 : Int32} {ls : Array Slot} {H : Heap} {locs : List Loc} : lx ls 4 [(0, .inr x0), (1, .inl x1), (2, .inl x2), (3, .inl x3)] → Rp b0 D E G H → SS b0 s H locs → d_X9_hasMembers x0 x1 x2 x3 G = some rr → W p l e (rmd 0 (0) (0)) s m args below meth c H locs (0) (0) (MQ below (CQ b0 D E (some (.int rr)) G) args s (0) (0) (fun q => b0 ≤ q)) (F0 m 0 ls []) := by
  intro hL hR hS hd
  unfold d_X9_hasMembers at hd
  have hx := C.1
  have hb := C.2.1
  refine x_aload_n C dX9_hasMembers_0 hL 0 rfl ?_
  obtain ⟨g1, hd⟩ := gd_ex hd
  refine r_geti (ci := 9) (k := 0) C fl_X9_122 rfl dX9_hasMembers_1 hR g1 ?_
  refine x_aload_n C dX9_hasMembers_4 hL 0 rfl ?_
  refine r_getr (ci := 9) (k := 28) C fl_X9_72 rfl dX9_hasMembers_5 hR g1 ?_
  refine lv_bipush (v := 8) hx hb dX9_hasMembers_8 (by decide) ?_
  refine lv_iconst (v := 4) hx hb dX9_hasMembers_10 (by decide) ?_
  refine x_iload_n C dX9_hasMembers_11 hL 1 rfl ?_
  refine lv_imul hx hb dX9_hasMembers_12 ?_
  refine x_iload_n C dX9_hasMembers_13 hL 2 rfl ?_
  refine lv_iadd hx hb dX9_hasMembers_14 ?_
  refine lv_imul hx hb dX9_hasMembers_15 ?_
  refine x_iload_n C dX9_hasMembers_16 hL 3 rfl ?_
  refine lv_iadd hx hb dX9_hasMembers_17 ?_
  obtain ⟨g2, hd⟩ := gd_ex hd
  refine r_iald C dX9_hasMembers_18 hR g2 ?_
  refine lv_icmp_ge (tgt := 26) hx hb dX9_hasMembers_19 (by decide) (fun c3 => ?_) (fun c3 => ?_)
  · rw [if_pos c3] at hd
    refine lv_iconst (v := 0) hx hb dX9_hasMembers_26 (by decide) ?_
    cases hd
    exact r_zret C (by decide) dX9_hasMembers_27 hR hS
  · rw [if_neg c3] at hd
    refine lv_iconst (v := 1) hx hb dX9_hasMembers_22 (by decide) ?_
    refine lv_goto (tgt := 27) hx hb dX9_hasMembers_23 (by decide) ?_
    cases hd
    exact r_zret C (by decide) dX9_hasMembers_27 hR hS
end
set_option maxHeartbeats 4000000 in
set_option maxRecDepth 100000 in
theorem ct_X9_hasMembers {l : Launch} {b0 : Nat} {D : va_G} {E : Nat → ClassId} {G : Hp} {a0 : Nat} {a1 : Int32} {a2 : Int32} {a3 : Int32} {rr : Int32} (hd : d_X9_hasMembers a0 a1 a2 a3 G = some rr) : CT l yX9_hasMembers cX9_hasMembers 4 (some .boolean) 0 0 0 b0 D E [rv a0, .int a1, .int a2, .int a3] G (some (.int rr)) G := by
  refine CT_of (by decide +kernel) ?_
  intro p e s m below meth c C hnm hR
  refine r_entry [.inr a0, .inl a1, .inl a2, .inl a3] (n := 4) (Nat.le_of_ble_eq_true rfl) (lv := [(0, .inr a0), (1, .inl a1), (2, .inl a2), (3, .inl a3)]) rfl (fun ls hL => ?_)
  exact k_X9_hasMembers C (lx_sub hL [0, 1, 2, 3] rfl) hR ⟨fun _ _ => rfl, fun _ h => by cases h⟩ hd

/-! GroveWorksModel.heardAt(IIII)I pure -/
theorem dX9_heardAt_0 : decode cX9_heardAt 0 = .ok (.bipush 16, 2) := by decide +kernel
theorem dX9_heardAt_2 : decode cX9_heardAt 2 = .ok (.bipush 8, 2) := by decide +kernel
theorem dX9_heardAt_4 : decode cX9_heardAt 4 = .ok (.iconst 4, 1) := by decide +kernel
theorem dX9_heardAt_5 : decode cX9_heardAt 5 = .ok (.iload_n 1, 1) := by decide +kernel
theorem dX9_heardAt_6 : decode cX9_heardAt 6 = .ok (.imul, 1) := by decide +kernel
theorem dX9_heardAt_7 : decode cX9_heardAt 7 = .ok (.iload_n 2, 1) := by decide +kernel
theorem dX9_heardAt_8 : decode cX9_heardAt 8 = .ok (.iadd, 1) := by decide +kernel
theorem dX9_heardAt_9 : decode cX9_heardAt 9 = .ok (.imul, 1) := by decide +kernel
theorem dX9_heardAt_10 : decode cX9_heardAt 10 = .ok (.iload_n 3, 1) := by decide +kernel
theorem dX9_heardAt_11 : decode cX9_heardAt 11 = .ok (.iadd, 1) := by decide +kernel
theorem dX9_heardAt_12 : decode cX9_heardAt 12 = .ok (.imul, 1) := by decide +kernel
theorem dX9_heardAt_13 : decode cX9_heardAt 13 = .ok (.iload 4, 2) := by decide +kernel
theorem dX9_heardAt_15 : decode cX9_heardAt 15 = .ok (.iadd, 1) := by decide +kernel
theorem dX9_heardAt_16 : decode cX9_heardAt 16 = .ok (.ireturn, 1) := by decide +kernel
def d_X9_heardAt (x1 : Int32) (x2 : Int32) (x3 : Int32) (x4 : Int32) (G : Hp) : Option (Int32) :=
  some ((((16 * ((((8 * ((((4 * x1)) + x2)))) + x3)))) + x4))
section
variable {p : Program} {l : Launch} {e : Env} {s : State} {m : MethodId} {args : Array Value} {below : List Frame} {meth : Method} {c : Code} {b0 : Nat} {D : va_G} {E : Nat → ClassId}
set_option maxHeartbeats 4000000 in
set_option maxRecDepth 100000 in
theorem k_X9_heardAt (C : Cx p s m args meth c RX9 cX9_heardAt 5 (some .int) b0 D E) {rr : Int32} {G : Hp} {x1 : Int32} {x2 : Int32} {x3 : Int32} {x4 : Int32} {ls : Array Slot} {H : Heap} {locs : List Loc} : lx ls 5 [(1, .inl x1), (2, .inl x2), (3, .inl x3), (4, .inl x4)] → Rp b0 D E G H → SS b0 s H locs → d_X9_heardAt x1 x2 x3 x4 G = some rr → W p l e (rmd 0 (0) (0)) s m args below meth c H locs (0) (0) (MQ below (CQ b0 D E (some (.int rr)) G) args s (0) (0) (fun q => b0 ≤ q)) (F0 m 0 ls []) := by
  intro hL hR hS hd
  unfold d_X9_heardAt at hd
  have hx := C.1
  have hb := C.2.1
  refine lv_bipush (v := 16) hx hb dX9_heardAt_0 (by decide) ?_
  refine lv_bipush (v := 8) hx hb dX9_heardAt_2 (by decide) ?_
  refine lv_iconst (v := 4) hx hb dX9_heardAt_4 (by decide) ?_
  refine x_iload_n C dX9_heardAt_5 hL 0 rfl ?_
  refine lv_imul hx hb dX9_heardAt_6 ?_
  refine x_iload_n C dX9_heardAt_7 hL 1 rfl ?_
  refine lv_iadd hx hb dX9_heardAt_8 ?_
  refine lv_imul hx hb dX9_heardAt_9 ?_
  refine x_iload_n C dX9_heardAt_10 hL 2 rfl ?_
  refine lv_iadd hx hb dX9_heardAt_11 ?_
  refine lv_imul hx hb dX9_heardAt_12 ?_
  refine x_iload C dX9_heardAt_13 hL 3 rfl ?_
  refine lv_iadd hx hb dX9_heardAt_15 ?_
  cases hd
  exact r_iret C dX9_heardAt_16 hR hS
end
set_option maxHeartbeats 4000000 in
set_option maxRecDepth 100000 in
theorem ct_X9_heardAt {l : Launch} {b0 : Nat} {D : va_G} {E : Nat → ClassId} {G : Hp} {a0 : Nat} {a1 : Int32} {a2 : Int32} {a3 : Int32} {a4 : Int32} {rr : Int32} (hd : d_X9_heardAt a1 a2 a3 a4 G = some rr) : CT l yX9_heardAt cX9_heardAt 5 (some .int) 0 0 0 b0 D E [rv a0, .int a1, .int a2, .int a3, .int a4] G (some (.int rr)) G := by
  refine CT_of (by decide +kernel) ?_
  intro p e s m below meth c C hnm hR
  refine r_entry [.inr a0, .inl a1, .inl a2, .inl a3, .inl a4] (n := 5) (Nat.le_of_ble_eq_true rfl) (lv := [(0, .inr a0), (1, .inl a1), (2, .inl a2), (3, .inl a3), (4, .inl a4)]) rfl (fun ls hL => ?_)
  exact k_X9_heardAt C (lx_sub hL [1, 2, 3, 4] rfl) hR ⟨fun _ _ => rfl, fun _ h => by cases h⟩ hd

/-! GroveWorksModel.joined(IIII)I pure -/
theorem dX9_joined_0 : decode cX9_joined 0 = .ok (.aload_n 0, 1) := by decide +kernel
theorem dX9_joined_1 : decode cX9_joined 1 = .ok (.getfield 75, 3) := by decide +kernel
theorem dX9_joined_4 : decode cX9_joined 4 = .ok (.bipush 17, 2) := by decide +kernel
theorem dX9_joined_6 : decode cX9_joined 6 = .ok (.bipush 8, 2) := by decide +kernel
theorem dX9_joined_8 : decode cX9_joined 8 = .ok (.iconst 4, 1) := by decide +kernel
theorem dX9_joined_9 : decode cX9_joined 9 = .ok (.iload_n 1, 1) := by decide +kernel
theorem dX9_joined_10 : decode cX9_joined 10 = .ok (.imul, 1) := by decide +kernel
theorem dX9_joined_11 : decode cX9_joined 11 = .ok (.iload_n 2, 1) := by decide +kernel
theorem dX9_joined_12 : decode cX9_joined 12 = .ok (.iadd, 1) := by decide +kernel
theorem dX9_joined_13 : decode cX9_joined 13 = .ok (.imul, 1) := by decide +kernel
theorem dX9_joined_14 : decode cX9_joined 14 = .ok (.iload_n 3, 1) := by decide +kernel
theorem dX9_joined_15 : decode cX9_joined 15 = .ok (.iadd, 1) := by decide +kernel
theorem dX9_joined_16 : decode cX9_joined 16 = .ok (.imul, 1) := by decide +kernel
theorem dX9_joined_17 : decode cX9_joined 17 = .ok (.iload 4, 2) := by decide +kernel
theorem dX9_joined_19 : decode cX9_joined 19 = .ok (.iadd, 1) := by decide +kernel
theorem dX9_joined_20 : decode cX9_joined 20 = .ok (.iaload, 1) := by decide +kernel
theorem dX9_joined_21 : decode cX9_joined 21 = .ok (.istore 5, 2) := by decide +kernel
theorem dX9_joined_23 : decode cX9_joined 23 = .ok (.aload_n 0, 1) := by decide +kernel
theorem dX9_joined_24 : decode cX9_joined 24 = .ok (.getfield 122, 3) := by decide +kernel
theorem dX9_joined_27 : decode cX9_joined 27 = .ok (.iload 5, 2) := by decide +kernel
theorem dX9_joined_29 : decode cX9_joined 29 = .ok (.if_icmp .ge 8, 3) := by decide +kernel
theorem dX9_joined_32 : decode cX9_joined 32 = .ok (.iload 5, 2) := by decide +kernel
theorem dX9_joined_34 : decode cX9_joined 34 = .ok (.goto 4, 3) := by decide +kernel
theorem dX9_joined_37 : decode cX9_joined 37 = .ok (.iconst 0, 1) := by decide +kernel
theorem dX9_joined_38 : decode cX9_joined 38 = .ok (.ireturn, 1) := by decide +kernel
def d_X9_joined (x0 : Nat) (x1 : Int32) (x2 : Int32) (x3 : Int32) (x4 : Int32) (G : Hp) : Option (Int32) :=
  gd (hc G x0 = 10) <|
  gd (hc G ((hr G x0 29)) = 11 ∧ ix ((((17 * ((((8 * ((((4 * x1)) + x2)))) + x3)))) + x4)) (hl G ((hr G x0 29)))) <|
  bd ((hi G ((hr G x0 29)) ((((17 * ((((8 * ((((4 * x1)) + x2)))) + x3)))) + x4)).toNatClampNeg)) fun v3 =>
  if v3 ≤ ((hi G x0 0)) then
    some 0
  else
    some v3
section
variable {p : Program} {l : Launch} {e : Env} {s : State} {m : MethodId} {args : Array Value} {below : List Frame} {meth : Method} {c : Code} {b0 : Nat} {D : va_G} {E : Nat → ClassId}
set_option maxHeartbeats 4000000 in
set_option maxRecDepth 100000 in
theorem k_X9_joined (C : Cx p s m args meth c RX9 cX9_joined 6 (some .int) b0 D E) {rr : Int32} {G : Hp} {x0 : Nat} {x1 : Int32} {x2 : Int32} {x3 : Int32} {x4 : Int32} {ls : Array Slot} {H : Heap} {locs : List Loc} : lx ls 6 [(0, .inr x0), (1, .inl x1), (2, .inl x2), (3, .inl x3), (4, .inl x4)] → Rp b0 D E G H → SS b0 s H locs → d_X9_joined x0 x1 x2 x3 x4 G = some rr → W p l e (rmd 0 (0) (0)) s m args below meth c H locs (0) (0) (MQ below (CQ b0 D E (some (.int rr)) G) args s (0) (0) (fun q => b0 ≤ q)) (F0 m 0 ls []) := by
  intro hL hR hS hd
  unfold d_X9_joined at hd
  have hx := C.1
  have hb := C.2.1
  refine x_aload_n C dX9_joined_0 hL 0 rfl ?_
  obtain ⟨g1, hd⟩ := gd_ex hd
  refine r_getr (ci := 9) (k := 29) C fl_X9_75 rfl dX9_joined_1 hR g1 ?_
  refine lv_bipush (v := 17) hx hb dX9_joined_4 (by decide) ?_
  refine lv_bipush (v := 8) hx hb dX9_joined_6 (by decide) ?_
  refine lv_iconst (v := 4) hx hb dX9_joined_8 (by decide) ?_
  refine x_iload_n C dX9_joined_9 hL 1 rfl ?_
  refine lv_imul hx hb dX9_joined_10 ?_
  refine x_iload_n C dX9_joined_11 hL 2 rfl ?_
  refine lv_iadd hx hb dX9_joined_12 ?_
  refine lv_imul hx hb dX9_joined_13 ?_
  refine x_iload_n C dX9_joined_14 hL 3 rfl ?_
  refine lv_iadd hx hb dX9_joined_15 ?_
  refine lv_imul hx hb dX9_joined_16 ?_
  refine x_iload C dX9_joined_17 hL 4 rfl ?_
  refine lv_iadd hx hb dX9_joined_19 ?_
  obtain ⟨g2, hd⟩ := gd_ex hd
  refine r_iald C dX9_joined_20 hR g2 ?_
  obtain ⟨v3, ev3, hd⟩ := bd_ex hd
  rw [← ev3]
  refine x_istore (lv' := [(5, .inl v3), (0, .inr x0), (1, .inl x1), (2, .inl x2), (3, .inl x3), (4, .inl x4)]) C dX9_joined_21 hL (by decide) rfl (fun ls hL => ?_)
  refine x_aload_n C dX9_joined_23 hL 1 rfl ?_
  refine r_geti (ci := 9) (k := 0) C fl_X9_122 rfl dX9_joined_24 hR g1 ?_
  refine x_iload C dX9_joined_27 hL 0 rfl ?_
  refine lv_icmp_ge (tgt := 37) hx hb dX9_joined_29 (by decide) (fun c4 => ?_) (fun c4 => ?_)
  · rw [if_pos c4] at hd
    refine lv_iconst (v := 0) hx hb dX9_joined_37 (by decide) ?_
    cases hd
    exact r_iret C dX9_joined_38 hR hS
  · rw [if_neg c4] at hd
    refine x_iload C dX9_joined_32 hL 0 rfl ?_
    refine lv_goto (tgt := 38) hx hb dX9_joined_34 (by decide) ?_
    cases hd
    exact r_iret C dX9_joined_38 hR hS
end
set_option maxHeartbeats 4000000 in
set_option maxRecDepth 100000 in
theorem ct_X9_joined {l : Launch} {b0 : Nat} {D : va_G} {E : Nat → ClassId} {G : Hp} {a0 : Nat} {a1 : Int32} {a2 : Int32} {a3 : Int32} {a4 : Int32} {rr : Int32} (hd : d_X9_joined a0 a1 a2 a3 a4 G = some rr) : CT l yX9_joined cX9_joined 6 (some .int) 0 0 0 b0 D E [rv a0, .int a1, .int a2, .int a3, .int a4] G (some (.int rr)) G := by
  refine CT_of (by decide +kernel) ?_
  intro p e s m below meth c C hnm hR
  refine r_entry [.inr a0, .inl a1, .inl a2, .inl a3, .inl a4] (n := 6) (Nat.le_of_ble_eq_true rfl) (lv := [(0, .inr a0), (1, .inl a1), (2, .inl a2), (3, .inl a3), (4, .inl a4)]) rfl (fun ls hL => ?_)
  exact k_X9_joined C (lx_sub hL [0, 1, 2, 3, 4] rfl) hR ⟨fun _ _ => rfl, fun _ h => by cases h⟩ hd

/-! GroveWorksModel.isCutOff(IIII)Z pure -/
theorem dX9_isCutOff_0 : decode cX9_isCutOff 0 = .ok (.aload_n 0, 1) := by decide +kernel
theorem dX9_isCutOff_1 : decode cX9_isCutOff 1 = .ok (.getfield 78, 3) := by decide +kernel
theorem dX9_isCutOff_4 : decode cX9_isCutOff 4 = .ok (.aload_n 0, 1) := by decide +kernel
theorem dX9_isCutOff_5 : decode cX9_isCutOff 5 = .ok (.iload_n 1, 1) := by decide +kernel
theorem dX9_isCutOff_6 : decode cX9_isCutOff 6 = .ok (.iload_n 2, 1) := by decide +kernel
theorem dX9_isCutOff_7 : decode cX9_isCutOff 7 = .ok (.iload_n 3, 1) := by decide +kernel
theorem dX9_isCutOff_8 : decode cX9_isCutOff 8 = .ok (.iload 4, 2) := by decide +kernel
theorem dX9_isCutOff_10 : decode cX9_isCutOff 10 = .ok (.invokevirtual 176, 3) := by decide +kernel
theorem dX9_isCutOff_13 : decode cX9_isCutOff 13 = .ok (.iaload, 1) := by decide +kernel
theorem dX9_isCutOff_14 : decode cX9_isCutOff 14 = .ok (.istore 5, 2) := by decide +kernel
theorem dX9_isCutOff_16 : decode cX9_isCutOff 16 = .ok (.aload_n 0, 1) := by decide +kernel
theorem dX9_isCutOff_17 : decode cX9_isCutOff 17 = .ok (.iload_n 1, 1) := by decide +kernel
theorem dX9_isCutOff_18 : decode cX9_isCutOff 18 = .ok (.iload_n 2, 1) := by decide +kernel
theorem dX9_isCutOff_19 : decode cX9_isCutOff 19 = .ok (.iload_n 3, 1) := by decide +kernel
theorem dX9_isCutOff_20 : decode cX9_isCutOff 20 = .ok (.iconst 0, 1) := by decide +kernel
theorem dX9_isCutOff_21 : decode cX9_isCutOff 21 = .ok (.invokevirtual 179, 3) := by decide +kernel
theorem dX9_isCutOff_24 : decode cX9_isCutOff 24 = .ok (.ifCond .le 22, 3) := by decide +kernel
theorem dX9_isCutOff_27 : decode cX9_isCutOff 27 = .ok (.iload 5, 2) := by decide +kernel
theorem dX9_isCutOff_29 : decode cX9_isCutOff 29 = .ok (.iconst (-1), 1) := by decide +kernel
theorem dX9_isCutOff_30 : decode cX9_isCutOff 30 = .ok (.if_icmp .eq 16, 3) := by decide +kernel
theorem dX9_isCutOff_33 : decode cX9_isCutOff 33 = .ok (.aload_n 0, 1) := by decide +kernel
theorem dX9_isCutOff_34 : decode cX9_isCutOff 34 = .ok (.getfield 122, 3) := by decide +kernel
theorem dX9_isCutOff_37 : decode cX9_isCutOff 37 = .ok (.iload 5, 2) := by decide +kernel
theorem dX9_isCutOff_39 : decode cX9_isCutOff 39 = .ok (.if_icmp .lt 7, 3) := by decide +kernel
theorem dX9_isCutOff_42 : decode cX9_isCutOff 42 = .ok (.iconst 1, 1) := by decide +kernel
theorem dX9_isCutOff_43 : decode cX9_isCutOff 43 = .ok (.goto 4, 3) := by decide +kernel
theorem dX9_isCutOff_46 : decode cX9_isCutOff 46 = .ok (.iconst 0, 1) := by decide +kernel
theorem dX9_isCutOff_47 : decode cX9_isCutOff 47 = .ok (.ireturn, 1) := by decide +kernel
def d_X9_isCutOff (x0 : Nat) (x1 : Int32) (x2 : Int32) (x3 : Int32) (x4 : Int32) (G : Hp) : Option (Int32) :=
  gd (hc G x0 = 10) <|
  bo (d_X9_heardAt x1 x2 x3 x4 G) fun v3 =>
  gd (hc G ((hr G x0 30)) = 11 ∧ ix v3 (hl G ((hr G x0 30)))) <|
  bd ((hi G ((hr G x0 30)) v3.toNatClampNeg)) fun v5 =>
  bo (d_X9_joined x0 x1 x2 x3 0 G) fun v7 =>
  if v7 ≤ 0 then
    some 0
  else
    if v5 = (-1) then
      some 0
    else
      if ((hi G x0 0)) < v5 then
        some 0
      else
        some 1
section
variable {p : Program} {l : Launch} {e : Env} {s : State} {m : MethodId} {args : Array Value} {below : List Frame} {meth : Method} {c : Code} {b0 : Nat} {D : va_G} {E : Nat → ClassId}
set_option maxHeartbeats 4000000 in
set_option maxRecDepth 100000 in
theorem k_X9_isCutOff (C : Cx p s m args meth c RX9 cX9_isCutOff 6 (some .boolean) b0 D E) {rr : Int32} {G : Hp} {x0 : Nat} {x1 : Int32} {x2 : Int32} {x3 : Int32} {x4 : Int32} {ls : Array Slot} {H : Heap} {locs : List Loc} : lx ls 6 [(0, .inr x0), (1, .inl x1), (2, .inl x2), (3, .inl x3), (4, .inl x4)] → Rp b0 D E G H → SS b0 s H locs → d_X9_isCutOff x0 x1 x2 x3 x4 G = some rr → W p l e (rmd 1 (0) (0)) s m args below meth c H locs (0) (0) (MQ below (CQ b0 D E (some (.int rr)) G) args s (0) (0) (fun q => b0 ≤ q)) (F0 m 0 ls []) := by
  intro hL hR hS hd
  unfold d_X9_isCutOff at hd
  have hx := C.1
  have hb := C.2.1
  refine x_aload_n C dX9_isCutOff_0 hL 0 rfl ?_
  obtain ⟨g1, hd⟩ := gd_ex hd
  refine r_getr (ci := 9) (k := 30) C fl_X9_78 rfl dX9_isCutOff_1 hR g1 ?_
  refine x_aload_n C dX9_isCutOff_4 hL 0 rfl ?_
  refine x_iload_n C dX9_isCutOff_5 hL 1 rfl ?_
  refine x_iload_n C dX9_isCutOff_6 hL 2 rfl ?_
  refine x_iload_n C dX9_isCutOff_7 hL 3 rfl ?_
  refine x_iload C dX9_isCutOff_8 hL 4 rfl ?_
  obtain ⟨v3, h2, hd⟩ := bo_ex hd
  refine r_callV (a := x0) (ci := 9) (As := [.int x1, .int x2, .int x3, .int x4]) C (ct_X9_heardAt h2) mf_X9_heardAt ml_X9_176 mv_X9_heardAt rfl ⟨Nat.le_of_ble_eq_true rfl, Nat.le_of_ble_eq_true rfl⟩ dX9_isCutOff_10 (lx_size hL) rfl hR hS g1 ⟨Nat.le_refl _, Nat.le_refl _⟩ (cat_le [.inr ((hr G x0 30))] (Nat.le_of_ble_eq_true rfl)) (fun H locs hR hS => ?_)
  refine W_st (st2 := [.int v3, rv ((hr G x0 30))]) rfl ?_
  obtain ⟨g4, hd⟩ := gd_ex hd
  refine r_iald C dX9_isCutOff_13 hR g4 ?_
  obtain ⟨v5, ev5, hd⟩ := bd_ex hd
  rw [← ev5]
  refine x_istore (lv' := [(5, .inl v5), (0, .inr x0), (1, .inl x1), (2, .inl x2), (3, .inl x3), (4, .inl x4)]) C dX9_isCutOff_14 hL (by decide) rfl (fun ls hL => ?_)
  refine x_aload_n C dX9_isCutOff_16 hL 1 rfl ?_
  refine x_iload_n C dX9_isCutOff_17 hL 2 rfl ?_
  refine x_iload_n C dX9_isCutOff_18 hL 3 rfl ?_
  refine x_iload_n C dX9_isCutOff_19 hL 4 rfl ?_
  refine lv_iconst (v := 0) hx hb dX9_isCutOff_20 (by decide) ?_
  obtain ⟨v7, h6, hd⟩ := bo_ex hd
  refine r_callV (a := x0) (ci := 9) (As := [.int x1, .int x2, .int x3, .int 0]) C (ct_X9_joined h6) mf_X9_joined ml_X9_179 mv_X9_joined rfl ⟨Nat.le_of_ble_eq_true rfl, Nat.le_of_ble_eq_true rfl⟩ dX9_isCutOff_21 (lx_size hL) rfl hR hS g1 ⟨Nat.le_refl _, Nat.le_refl _⟩ (cat_le [] (Nat.le_of_ble_eq_true rfl)) (fun H locs hR hS => ?_)
  refine W_st (st2 := [.int v7]) rfl ?_
  refine lv_if_le (tgt := 46) hx hb dX9_isCutOff_24 (by decide) (fun c8 => ?_) (fun c8 => ?_)
  · rw [if_pos c8] at hd
    refine lv_iconst (v := 0) hx hb dX9_isCutOff_46 (by decide) ?_
    cases hd
    exact r_zret C (by decide) dX9_isCutOff_47 hR hS
  · rw [if_neg c8] at hd
    refine x_iload C dX9_isCutOff_27 hL 0 rfl ?_
    refine lv_iconst (v := (-1)) hx hb dX9_isCutOff_29 (by decide) ?_
    refine lv_icmp_eq (tgt := 46) hx hb dX9_isCutOff_30 (by decide) (fun c9 => ?_) (fun c9 => ?_)
    · rw [if_pos c9] at hd
      refine lv_iconst (v := 0) hx hb dX9_isCutOff_46 (by decide) ?_
      cases hd
      exact r_zret C (by decide) dX9_isCutOff_47 hR hS
    · rw [if_neg c9] at hd
      refine x_aload_n C dX9_isCutOff_33 hL 1 rfl ?_
      refine r_geti (ci := 9) (k := 0) C fl_X9_122 rfl dX9_isCutOff_34 hR g1 ?_
      refine x_iload C dX9_isCutOff_37 hL 0 rfl ?_
      refine lv_icmp_lt (tgt := 46) hx hb dX9_isCutOff_39 (by decide) (fun c10 => ?_) (fun c10 => ?_)
      · rw [if_pos c10] at hd
        refine lv_iconst (v := 0) hx hb dX9_isCutOff_46 (by decide) ?_
        cases hd
        exact r_zret C (by decide) dX9_isCutOff_47 hR hS
      · rw [if_neg c10] at hd
        refine lv_iconst (v := 1) hx hb dX9_isCutOff_42 (by decide) ?_
        refine lv_goto (tgt := 47) hx hb dX9_isCutOff_43 (by decide) ?_
        cases hd
        exact r_zret C (by decide) dX9_isCutOff_47 hR hS
end
set_option maxHeartbeats 4000000 in
set_option maxRecDepth 100000 in
theorem ct_X9_isCutOff {l : Launch} {b0 : Nat} {D : va_G} {E : Nat → ClassId} {G : Hp} {a0 : Nat} {a1 : Int32} {a2 : Int32} {a3 : Int32} {a4 : Int32} {rr : Int32} (hd : d_X9_isCutOff a0 a1 a2 a3 a4 G = some rr) : CT l yX9_isCutOff cX9_isCutOff 6 (some .boolean) 1 0 0 b0 D E [rv a0, .int a1, .int a2, .int a3, .int a4] G (some (.int rr)) G := by
  refine CT_of (by decide +kernel) ?_
  intro p e s m below meth c C hnm hR
  refine r_entry [.inr a0, .inl a1, .inl a2, .inl a3, .inl a4] (n := 6) (Nat.le_of_ble_eq_true rfl) (lv := [(0, .inr a0), (1, .inl a1), (2, .inl a2), (3, .inl a3), (4, .inl a4)]) rfl (fun ls hL => ?_)
  exact k_X9_isCutOff C (lx_sub hL [0, 1, 2, 3, 4] rfl) hR ⟨fun _ _ => rfl, fun _ h => by cases h⟩ hd
