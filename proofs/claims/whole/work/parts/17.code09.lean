/-! GroveWorksModel.isOwn(III)Z pure -/
theorem dX9_isOwn_0 : decode cX9_isOwn 0 = .ok (.aload_n 0, 1) := by decide +kernel
theorem dX9_isOwn_1 : decode cX9_isOwn 1 = .ok (.iload_n 1, 1) := by decide +kernel
theorem dX9_isOwn_2 : decode cX9_isOwn 2 = .ok (.iload_n 2, 1) := by decide +kernel
theorem dX9_isOwn_3 : decode cX9_isOwn 3 = .ok (.iload_n 3, 1) := by decide +kernel
theorem dX9_isOwn_4 : decode cX9_isOwn 4 = .ok (.invokevirtual 182, 3) := by decide +kernel
theorem dX9_isOwn_7 : decode cX9_isOwn 7 = .ok (.ifCond .eq 16, 3) := by decide +kernel
theorem dX9_isOwn_10 : decode cX9_isOwn 10 = .ok (.aload_n 0, 1) := by decide +kernel
theorem dX9_isOwn_11 : decode cX9_isOwn 11 = .ok (.iload_n 1, 1) := by decide +kernel
theorem dX9_isOwn_12 : decode cX9_isOwn 12 = .ok (.iload_n 2, 1) := by decide +kernel
theorem dX9_isOwn_13 : decode cX9_isOwn 13 = .ok (.invokevirtual 185, 3) := by decide +kernel
theorem dX9_isOwn_16 : decode cX9_isOwn 16 = .ok (.ifCond .eq 7, 3) := by decide +kernel
theorem dX9_isOwn_19 : decode cX9_isOwn 19 = .ok (.iconst 1, 1) := by decide +kernel
theorem dX9_isOwn_20 : decode cX9_isOwn 20 = .ok (.goto 4, 3) := by decide +kernel
theorem dX9_isOwn_23 : decode cX9_isOwn 23 = .ok (.iconst 0, 1) := by decide +kernel
theorem dX9_isOwn_24 : decode cX9_isOwn 24 = .ok (.ireturn, 1) := by decide +kernel
def d_X9_isOwn (x0 : Nat) (x1 : Int32) (x2 : Int32) (x3 : Int32) (G : Hp) : Option (Int32) :=
  gd (hc G x0 = 10) <|
  bo (d_X9_hasMembers x0 x1 x2 x3 G) fun v3 =>
  if v3 = 0 then
    some 0
  else
    bo (d_X9_isFirst x0 x1 x2 G) fun v6 =>
    if v6 = 0 then
      some 0
    else
      some 1
section
variable {p : Program} {l : Launch} {e : Env} {s : State} {m : MethodId} {args : Array Value} {below : List Frame} {meth : Method} {c : Code} {b0 : Nat} {D : va_G} {E : Nat → ClassId}
set_option maxHeartbeats 4000000 in
set_option maxRecDepth 100000 in
theorem k_X9_isOwn (C : Cx p s m args meth c RX9 cX9_isOwn 4 (some .boolean) b0 D E) {rr : Int32} {G : Hp} {x0 : Nat} {x1 : Int32} {x2 : Int32} {x3 : Int32} {ls : Array Slot} {H : Heap} {locs : List Loc} : lx ls 4 [(0, .inr x0), (1, .inl x1), (2, .inl x2), (3, .inl x3)] → Rp b0 D E G H → SS b0 s H locs → d_X9_isOwn x0 x1 x2 x3 G = some rr → W p l e (rmd 3 (0) (0)) s m args below meth c H locs (0) (0) (MQ below (CQ b0 D E (some (.int rr)) G) args s (0) (0) (fun q => b0 ≤ q)) (F0 m 0 ls []) := by
  intro hL hR hS hd
  unfold d_X9_isOwn at hd
  have hx := C.1
  have hb := C.2.1
  refine x_aload_n C dX9_isOwn_0 hL 0 rfl ?_
  refine x_iload_n C dX9_isOwn_1 hL 1 rfl ?_
  refine x_iload_n C dX9_isOwn_2 hL 2 rfl ?_
  refine x_iload_n C dX9_isOwn_3 hL 3 rfl ?_
  obtain ⟨g1, hd⟩ := gd_ex hd
  obtain ⟨v3, h2, hd⟩ := bo_ex hd
  refine r_callV (a := x0) (ci := 9) (As := [.int x1, .int x2, .int x3]) C (ct_X9_hasMembers h2) mf_X9_hasMembers ml_X9_182 mv_X9_hasMembers rfl ⟨Nat.le_of_ble_eq_true rfl, Nat.le_of_ble_eq_true rfl⟩ dX9_isOwn_4 (lx_size hL) rfl hR hS g1 ⟨Nat.le_refl _, Nat.le_refl _⟩ (cat_le [] (Nat.le_of_ble_eq_true rfl)) (fun H locs hR hS => ?_)
  refine W_st (st2 := [.int v3]) rfl ?_
  refine lv_if_eq (tgt := 23) hx hb dX9_isOwn_7 (by decide) (fun c4 => ?_) (fun c4 => ?_)
  · rw [if_pos c4] at hd
    refine lv_iconst (v := 0) hx hb dX9_isOwn_23 (by decide) ?_
    cases hd
    exact r_zret C (by decide) dX9_isOwn_24 hR hS
  · rw [if_neg c4] at hd
    refine x_aload_n C dX9_isOwn_10 hL 0 rfl ?_
    refine x_iload_n C dX9_isOwn_11 hL 1 rfl ?_
    refine x_iload_n C dX9_isOwn_12 hL 2 rfl ?_
    obtain ⟨v6, h5, hd⟩ := bo_ex hd
    refine r_callV (a := x0) (ci := 9) (As := [.int x1, .int x2]) C (ct_X9_isFirst h5) mf_X9_isFirst ml_X9_185 mv_X9_isFirst rfl ⟨Nat.le_of_ble_eq_true rfl, Nat.le_of_ble_eq_true rfl⟩ dX9_isOwn_13 (lx_size hL) rfl hR hS g1 ⟨Nat.le_refl _, Nat.le_refl _⟩ (cat_le [] (Nat.le_of_ble_eq_true rfl)) (fun H locs hR hS => ?_)
    refine W_st (st2 := [.int v6]) rfl ?_
    refine lv_if_eq (tgt := 23) hx hb dX9_isOwn_16 (by decide) (fun c7 => ?_) (fun c7 => ?_)
    · rw [if_pos c7] at hd
      refine lv_iconst (v := 0) hx hb dX9_isOwn_23 (by decide) ?_
      cases hd
      exact r_zret C (by decide) dX9_isOwn_24 hR hS
    · rw [if_neg c7] at hd
      refine lv_iconst (v := 1) hx hb dX9_isOwn_19 (by decide) ?_
      refine lv_goto (tgt := 24) hx hb dX9_isOwn_20 (by decide) ?_
      cases hd
      exact r_zret C (by decide) dX9_isOwn_24 hR hS
end
set_option maxHeartbeats 4000000 in
set_option maxRecDepth 100000 in
theorem ct_X9_isOwn {l : Launch} {b0 : Nat} {D : va_G} {E : Nat → ClassId} {G : Hp} {a0 : Nat} {a1 : Int32} {a2 : Int32} {a3 : Int32} {rr : Int32} (hd : d_X9_isOwn a0 a1 a2 a3 G = some rr) : CT l yX9_isOwn cX9_isOwn 4 (some .boolean) 3 0 0 b0 D E [rv a0, .int a1, .int a2, .int a3] G (some (.int rr)) G := by
  refine CT_of (by decide +kernel) ?_
  intro p e s m below meth c C hnm hR
  refine r_entry [.inr a0, .inl a1, .inl a2, .inl a3] (n := 4) (Nat.le_of_ble_eq_true rfl) (lv := [(0, .inr a0), (1, .inl a1), (2, .inl a2), (3, .inl a3)]) rfl (fun ls hL => ?_)
  exact k_X9_isOwn C (lx_sub hL [0, 1, 2, 3] rfl) hR ⟨fun _ _ => rfl, fun _ h => by cases h⟩ hd

/-! GroveWorksModel.base(II)I pure -/
theorem dX9_base_0 : decode cX9_base 0 = .ok (.iconst 0, 1) := by decide +kernel
theorem dX9_base_1 : decode cX9_base 1 = .ok (.istore_n 3, 1) := by decide +kernel
theorem dX9_base_2 : decode cX9_base 2 = .ok (.iconst 0, 1) := by decide +kernel
theorem dX9_base_3 : decode cX9_base 3 = .ok (.istore 4, 2) := by decide +kernel
theorem dX9_base_5 : decode cX9_base 5 = .ok (.iload 4, 2) := by decide +kernel
theorem dX9_base_7 : decode cX9_base 7 = .ok (.iconst 4, 1) := by decide +kernel
theorem dX9_base_8 : decode cX9_base 8 = .ok (.if_icmp .ge 39, 3) := by decide +kernel
theorem dX9_base_11 : decode cX9_base 11 = .ok (.aload_n 0, 1) := by decide +kernel
theorem dX9_base_12 : decode cX9_base 12 = .ok (.iload_n 1, 1) := by decide +kernel
theorem dX9_base_13 : decode cX9_base 13 = .ok (.iload 4, 2) := by decide +kernel
theorem dX9_base_15 : decode cX9_base 15 = .ok (.iload_n 2, 1) := by decide +kernel
theorem dX9_base_16 : decode cX9_base 16 = .ok (.iconst 0, 1) := by decide +kernel
theorem dX9_base_17 : decode cX9_base 17 = .ok (.invokevirtual 179, 3) := by decide +kernel
theorem dX9_base_20 : decode cX9_base 20 = .ok (.ifCond .gt 14, 3) := by decide +kernel
theorem dX9_base_23 : decode cX9_base 23 = .ok (.aload_n 0, 1) := by decide +kernel
theorem dX9_base_24 : decode cX9_base 24 = .ok (.iload_n 1, 1) := by decide +kernel
theorem dX9_base_25 : decode cX9_base 25 = .ok (.iload 4, 2) := by decide +kernel
theorem dX9_base_27 : decode cX9_base 27 = .ok (.iload_n 2, 1) := by decide +kernel
theorem dX9_base_28 : decode cX9_base 28 = .ok (.invokevirtual 188, 3) := by decide +kernel
theorem dX9_base_31 : decode cX9_base 31 = .ok (.ifCond .eq 10, 3) := by decide +kernel
theorem dX9_base_34 : decode cX9_base 34 = .ok (.iload_n 3, 1) := by decide +kernel
theorem dX9_base_35 : decode cX9_base 35 = .ok (.iconst 1, 1) := by decide +kernel
theorem dX9_base_36 : decode cX9_base 36 = .ok (.iload 4, 2) := by decide +kernel
theorem dX9_base_38 : decode cX9_base 38 = .ok (.ishl, 1) := by decide +kernel
theorem dX9_base_39 : decode cX9_base 39 = .ok (.ior, 1) := by decide +kernel
theorem dX9_base_40 : decode cX9_base 40 = .ok (.istore_n 3, 1) := by decide +kernel
theorem dX9_base_41 : decode cX9_base 41 = .ok (.iinc 4 1, 3) := by decide +kernel
theorem dX9_base_44 : decode cX9_base 44 = .ok (.goto (-39), 3) := by decide +kernel
theorem dX9_base_47 : decode cX9_base 47 = .ok (.iload_n 3, 1) := by decide +kernel
theorem dX9_base_48 : decode cX9_base 48 = .ok (.ireturn, 1) := by decide +kernel
def d_X9_base_34 (x0 : Nat) (x1 : Int32) (x2 : Int32) (x3 : Int32) (x4 : Int32) (G : Hp) (k5 : Nat → Int32 → Int32 → Int32 → Int32 → Option (Int32)) : Option (Int32) :=
  bd ((x3 ||| ((1 <<< (x4 &&& 31))))) fun v1 =>
  k5 x0 x1 x2 v1 ((x4 + 1))
def d_X9_base_5 : Nat → Nat → Int32 → Int32 → Int32 → Int32 → Hp → Option (Int32)
  | 0, _, _, _, _, _, _ => none
  | n_ + 1, x0, x1, x2, x3, x4, G =>
    if 4 ≤ x4 then
      some x3
    else
      gd (hc G x0 = 10) <|
      bo (d_X9_joined x0 x1 x4 x2 0 G) fun v4 =>
      if 0 < v4 then
        d_X9_base_34 x0 x1 x2 x3 x4 G (fun y0 y1 y2 y3 y4 => d_X9_base_5 n_ y0 y1 y2 y3 y4 G)
      else
        bo (d_X9_isOwn x0 x1 x4 x2 G) fun v7 =>
        if v7 = 0 then
          d_X9_base_5 n_ x0 x1 x2 x3 ((x4 + 1)) G
        else
          d_X9_base_34 x0 x1 x2 x3 x4 G (fun y0 y1 y2 y3 y4 => d_X9_base_5 n_ y0 y1 y2 y3 y4 G)
def d_X9_base (x0 : Nat) (x1 : Int32) (x2 : Int32) (G : Hp) : Option (Int32) :=
  d_X9_base_5 FU x0 x1 x2 0 0 G
section
variable {p : Program} {l : Launch} {e : Env} {s : State} {m : MethodId} {args : Array Value} {below : List Frame} {meth : Method} {c : Code} {b0 : Nat} {D : va_G} {E : Nat → ClassId}
set_option maxHeartbeats 4000000 in
set_option maxRecDepth 100000 in
theorem k_X9_base_34 (C : Cx p s m args meth c RX9 cX9_base 5 (some .int) b0 D E) {rr : Int32} {G : Hp} {k5 : Nat → Int32 → Int32 → Int32 → Int32 → Option (Int32)} (hk5 : ∀ (y0 : Nat) (y1 : Int32) (y2 : Int32) (y3 : Int32) (y4 : Int32) (H1 : Heap) (locs1 : List Loc) (ls1 : Array Slot), lx ls1 5 [(0, .inr y0), (1, .inl y1), (2, .inl y2), (3, .inl y3), (4, .inl y4)] → Rp b0 D E G H1 → SS b0 s H1 locs1 → k5 y0 y1 y2 y3 y4 = some rr → W p l e (rmd 4 (0) (0)) s m args below meth c H1 locs1 (0) (0) (MQ below (CQ b0 D E (some (.int rr)) G) args s (0) (0) (fun q => b0 ≤ q)) (F0 m 5 ls1 [])) {x0 : Nat} {x1 : Int32} {x2 : Int32} {x3 : Int32} {x4 : Int32} {ls : Array Slot} {H : Heap} {locs : List Loc} : lx ls 5 [(0, .inr x0), (1, .inl x1), (2, .inl x2), (3, .inl x3), (4, .inl x4)] → Rp b0 D E G H → SS b0 s H locs → d_X9_base_34 x0 x1 x2 x3 x4 G k5 = some rr → W p l e (rmd 4 (0) (0)) s m args below meth c H locs (0) (0) (MQ below (CQ b0 D E (some (.int rr)) G) args s (0) (0) (fun q => b0 ≤ q)) (F0 m 34 ls []) := by
  intro hL hR hS hd
  unfold d_X9_base_34 at hd
  have hx := C.1
  have hb := C.2.1
  refine x_iload_n C dX9_base_34 hL 3 rfl ?_
  refine lv_iconst (v := 1) hx hb dX9_base_35 (by decide) ?_
  refine x_iload C dX9_base_36 hL 4 rfl ?_
  refine lv_ishl hx hb dX9_base_38 ?_
  refine lv_ior hx hb dX9_base_39 ?_
  obtain ⟨v1, ev1, hd⟩ := bd_ex hd
  rw [← ev1]
  refine x_istore_n (lv' := [(3, .inl v1), (0, .inr x0), (1, .inl x1), (2, .inl x2), (4, .inl x4)]) C dX9_base_40 hL (by decide) rfl (fun ls hL => ?_)
  refine x_iinc (lv' := [(4, .inl ((x4 + 1))), (3, .inl v1), (0, .inr x0), (1, .inl x1), (2, .inl x2)]) C dX9_base_41 hL 4 rfl rfl (by decide) rfl (fun ls hL => ?_)
  refine lv_goto (tgt := 5) hx hb dX9_base_44 (by decide) ?_
  exact hk5 _ _ _ _ _ _ _ _ (lx_sub hL [2, 3, 4, 1, 0] rfl) hR hS hd
set_option maxHeartbeats 4000000 in
set_option maxRecDepth 100000 in
theorem k_X9_base_5 (C : Cx p s m args meth c RX9 cX9_base 5 (some .int) b0 D E) {rr : Int32} {G : Hp} : ∀ (n_ : Nat) {x0 : Nat} {x1 : Int32} {x2 : Int32} {x3 : Int32} {x4 : Int32} {ls : Array Slot} {H : Heap} {locs : List Loc}, lx ls 5 [(0, .inr x0), (1, .inl x1), (2, .inl x2), (3, .inl x3), (4, .inl x4)] → Rp b0 D E G H → SS b0 s H locs → d_X9_base_5 n_ x0 x1 x2 x3 x4 G = some rr → W p l e (rmd 4 (0) (0)) s m args below meth c H locs (0) (0) (MQ below (CQ b0 D E (some (.int rr)) G) args s (0) (0) (fun q => b0 ≤ q)) (F0 m 5 ls []) := by
  intro n_
  induction n_ with
  | zero =>
    intro x0 x1 x2 x3 x4 ls H locs hL hR hS hd
    cases (show (none : Option _) = some _ from hd)
  | succ n_ ih =>
    intro x0 x1 x2 x3 x4 ls H locs hL hR hS hd
    rw [d_X9_base_5.eq_2] at hd
    have hx := C.1
    have hb := C.2.1
    refine x_iload C dX9_base_5 hL 4 rfl ?_
    refine lv_iconst (v := 4) hx hb dX9_base_7 (by decide) ?_
    refine lv_icmp_ge (tgt := 47) hx hb dX9_base_8 (by decide) (fun c1 => ?_) (fun c1 => ?_)
    · rw [if_pos c1] at hd
      refine x_iload_n C dX9_base_47 hL 3 rfl ?_
      cases hd
      exact r_iret C dX9_base_48 hR hS
    · rw [if_neg c1] at hd
      refine x_aload_n C dX9_base_11 hL 0 rfl ?_
      refine x_iload_n C dX9_base_12 hL 1 rfl ?_
      refine x_iload C dX9_base_13 hL 4 rfl ?_
      refine x_iload_n C dX9_base_15 hL 2 rfl ?_
      refine lv_iconst (v := 0) hx hb dX9_base_16 (by decide) ?_
      obtain ⟨g2, hd⟩ := gd_ex hd
      obtain ⟨v4, h3, hd⟩ := bo_ex hd
      refine r_callV (a := x0) (ci := 9) (As := [.int x1, .int x4, .int x2, .int 0]) C (ct_X9_joined h3) mf_X9_joined ml_X9_179 mv_X9_joined rfl ⟨Nat.le_of_ble_eq_true rfl, Nat.le_of_ble_eq_true rfl⟩ dX9_base_17 (lx_size hL) rfl hR hS g2 ⟨Nat.le_refl _, Nat.le_refl _⟩ (cat_le [] (Nat.le_of_ble_eq_true rfl)) (fun H locs hR hS => ?_)
      refine W_st (st2 := [.int v4]) rfl ?_
      refine lv_if_gt (tgt := 34) hx hb dX9_base_20 (by decide) (fun c5 => ?_) (fun c5 => ?_)
      · rw [if_pos c5] at hd
        exact k_X9_base_34 C (fun y0 y1 y2 y3 y4 H1 locs1 ls1 hL1 hR1 hS1 hd1 => ih hL1 hR1 hS1 hd1) hL hR hS hd
      · rw [if_neg c5] at hd
        refine x_aload_n C dX9_base_23 hL 0 rfl ?_
        refine x_iload_n C dX9_base_24 hL 1 rfl ?_
        refine x_iload C dX9_base_25 hL 4 rfl ?_
        refine x_iload_n C dX9_base_27 hL 2 rfl ?_
        obtain ⟨v7, h6, hd⟩ := bo_ex hd
        refine r_callV (a := x0) (ci := 9) (As := [.int x1, .int x4, .int x2]) C (ct_X9_isOwn h6) mf_X9_isOwn ml_X9_188 mv_X9_isOwn rfl ⟨Nat.le_of_ble_eq_true rfl, Nat.le_of_ble_eq_true rfl⟩ dX9_base_28 (lx_size hL) rfl hR hS g2 ⟨Nat.le_refl _, Nat.le_refl _⟩ (cat_le [] (Nat.le_of_ble_eq_true rfl)) (fun H locs hR hS => ?_)
        refine W_st (st2 := [.int v7]) rfl ?_
        refine lv_if_eq (tgt := 41) hx hb dX9_base_31 (by decide) (fun c8 => ?_) (fun c8 => ?_)
        · rw [if_pos c8] at hd
          refine x_iinc (lv' := [(4, .inl ((x4 + 1))), (0, .inr x0), (1, .inl x1), (2, .inl x2), (3, .inl x3)]) C dX9_base_41 hL 4 rfl rfl (by decide) rfl (fun ls hL => ?_)
          refine lv_goto (tgt := 5) hx hb dX9_base_44 (by decide) ?_
          exact ih (lx_sub hL [1, 2, 3, 4, 0] rfl) hR hS hd
        · rw [if_neg c8] at hd
          exact k_X9_base_34 C (fun y0 y1 y2 y3 y4 H1 locs1 ls1 hL1 hR1 hS1 hd1 => ih hL1 hR1 hS1 hd1) hL hR hS hd
set_option maxHeartbeats 4000000 in
set_option maxRecDepth 100000 in
theorem k_X9_base (C : Cx p s m args meth c RX9 cX9_base 5 (some .int) b0 D E) {rr : Int32} {G : Hp} {x0 : Nat} {x1 : Int32} {x2 : Int32} {ls : Array Slot} {H : Heap} {locs : List Loc} : lx ls 5 [(0, .inr x0), (1, .inl x1), (2, .inl x2)] → Rp b0 D E G H → SS b0 s H locs → d_X9_base x0 x1 x2 G = some rr → W p l e (rmd 4 (0) (0)) s m args below meth c H locs (0) (0) (MQ below (CQ b0 D E (some (.int rr)) G) args s (0) (0) (fun q => b0 ≤ q)) (F0 m 0 ls []) := by
  intro hL hR hS hd
  unfold d_X9_base at hd
  have hx := C.1
  have hb := C.2.1
  refine lv_iconst (v := 0) hx hb dX9_base_0 (by decide) ?_
  refine x_istore_n (lv' := [(3, .inl 0), (0, .inr x0), (1, .inl x1), (2, .inl x2)]) C dX9_base_1 hL (by decide) rfl (fun ls hL => ?_)
  refine lv_iconst (v := 0) hx hb dX9_base_2 (by decide) ?_
  refine x_istore (lv' := [(4, .inl 0), (3, .inl 0), (0, .inr x0), (1, .inl x1), (2, .inl x2)]) C dX9_base_3 hL (by decide) rfl (fun ls hL => ?_)
  exact k_X9_base_5 C FU (lx_sub hL [2, 3, 4, 1, 0] rfl) hR hS hd
end
set_option maxHeartbeats 4000000 in
set_option maxRecDepth 100000 in
theorem ct_X9_base {l : Launch} {b0 : Nat} {D : va_G} {E : Nat → ClassId} {G : Hp} {a0 : Nat} {a1 : Int32} {a2 : Int32} {rr : Int32} (hd : d_X9_base a0 a1 a2 G = some rr) : CT l yX9_base cX9_base 5 (some .int) 4 0 0 b0 D E [rv a0, .int a1, .int a2] G (some (.int rr)) G := by
  refine CT_of (by decide +kernel) ?_
  intro p e s m below meth c C hnm hR
  refine r_entry [.inr a0, .inl a1, .inl a2] (n := 5) (Nat.le_of_ble_eq_true rfl) (lv := [(0, .inr a0), (1, .inl a1), (2, .inl a2)]) rfl (fun ls hL => ?_)
  exact k_X9_base C (lx_sub hL [0, 1, 2] rfl) hR ⟨fun _ _ => rfl, fun _ h => by cases h⟩ hd

/-! GroveWorksModel.isStraight(III)Z pure -/
theorem dX9_isStraight_0 : decode cX9_isStraight 0 = .ok (.aload_n 0, 1) := by decide +kernel
theorem dX9_isStraight_1 : decode cX9_isStraight 1 = .ok (.getfield 105, 3) := by decide +kernel
theorem dX9_isStraight_4 : decode cX9_isStraight 4 = .ok (.bipush 16, 2) := by decide +kernel
theorem dX9_isStraight_6 : decode cX9_isStraight 6 = .ok (.bipush 8, 2) := by decide +kernel
theorem dX9_isStraight_8 : decode cX9_isStraight 8 = .ok (.iload_n 1, 1) := by decide +kernel
theorem dX9_isStraight_9 : decode cX9_isStraight 9 = .ok (.imul, 1) := by decide +kernel
theorem dX9_isStraight_10 : decode cX9_isStraight 10 = .ok (.iload_n 2, 1) := by decide +kernel
theorem dX9_isStraight_11 : decode cX9_isStraight 11 = .ok (.iadd, 1) := by decide +kernel
theorem dX9_isStraight_12 : decode cX9_isStraight 12 = .ok (.imul, 1) := by decide +kernel
theorem dX9_isStraight_13 : decode cX9_isStraight 13 = .ok (.iload_n 3, 1) := by decide +kernel
theorem dX9_isStraight_14 : decode cX9_isStraight 14 = .ok (.iadd, 1) := by decide +kernel
theorem dX9_isStraight_15 : decode cX9_isStraight 15 = .ok (.iaload, 1) := by decide +kernel
theorem dX9_isStraight_16 : decode cX9_isStraight 16 = .ok (.iconst (-1), 1) := by decide +kernel
theorem dX9_isStraight_17 : decode cX9_isStraight 17 = .ok (.if_icmp .eq 7, 3) := by decide +kernel
theorem dX9_isStraight_20 : decode cX9_isStraight 20 = .ok (.iconst 1, 1) := by decide +kernel
theorem dX9_isStraight_21 : decode cX9_isStraight 21 = .ok (.goto 4, 3) := by decide +kernel
theorem dX9_isStraight_24 : decode cX9_isStraight 24 = .ok (.iconst 0, 1) := by decide +kernel
theorem dX9_isStraight_25 : decode cX9_isStraight 25 = .ok (.ireturn, 1) := by decide +kernel
def d_X9_isStraight (x0 : Nat) (x1 : Int32) (x2 : Int32) (x3 : Int32) (G : Hp) : Option (Int32) :=
  gd (hc G x0 = 10) <|
  gd (hc G ((hr G x0 39)) = 11 ∧ ix ((((16 * ((((8 * x1)) + x2)))) + x3)) (hl G ((hr G x0 39)))) <|
  if ((hi G ((hr G x0 39)) ((((16 * ((((8 * x1)) + x2)))) + x3)).toNatClampNeg)) = (-1) then
    some 0
  else
    some 1
section
variable {p : Program} {l : Launch} {e : Env} {s : State} {m : MethodId} {args : Array Value} {below : List Frame} {meth : Method} {c : Code} {b0 : Nat} {D : va_G} {E : Nat → ClassId}
set_option maxHeartbeats 4000000 in
set_option maxRecDepth 100000 in
theorem k_X9_isStraight (C : Cx p s m args meth c RX9 cX9_isStraight 4 (some .boolean) b0 D E) {rr : Int32} {G : Hp} {x0 : Nat} {x1 : Int32} {x2 : Int32} {x3 : Int32} {ls : Array Slot} {H : Heap} {locs : List Loc} : lx ls 4 [(0, .inr x0), (1, .inl x1), (2, .inl x2), (3, .inl x3)] → Rp b0 D E G H → SS b0 s H locs → d_X9_isStraight x0 x1 x2 x3 G = some rr → W p l e (rmd 0 (0) (0)) s m args below meth c H locs (0) (0) (MQ below (CQ b0 D E (some (.int rr)) G) args s (0) (0) (fun q => b0 ≤ q)) (F0 m 0 ls []) := by
  intro hL hR hS hd
  unfold d_X9_isStraight at hd
  have hx := C.1
  have hb := C.2.1
  refine x_aload_n C dX9_isStraight_0 hL 0 rfl ?_
  obtain ⟨g1, hd⟩ := gd_ex hd
  refine r_getr (ci := 9) (k := 39) C fl_X9_105 rfl dX9_isStraight_1 hR g1 ?_
  refine lv_bipush (v := 16) hx hb dX9_isStraight_4 (by decide) ?_
  refine lv_bipush (v := 8) hx hb dX9_isStraight_6 (by decide) ?_
  refine x_iload_n C dX9_isStraight_8 hL 1 rfl ?_
  refine lv_imul hx hb dX9_isStraight_9 ?_
  refine x_iload_n C dX9_isStraight_10 hL 2 rfl ?_
  refine lv_iadd hx hb dX9_isStraight_11 ?_
  refine lv_imul hx hb dX9_isStraight_12 ?_
  refine x_iload_n C dX9_isStraight_13 hL 3 rfl ?_
  refine lv_iadd hx hb dX9_isStraight_14 ?_
  obtain ⟨g2, hd⟩ := gd_ex hd
  refine r_iald C dX9_isStraight_15 hR g2 ?_
  refine lv_iconst (v := (-1)) hx hb dX9_isStraight_16 (by decide) ?_
  refine lv_icmp_eq (tgt := 24) hx hb dX9_isStraight_17 (by decide) (fun c3 => ?_) (fun c3 => ?_)
  · rw [if_pos c3] at hd
    refine lv_iconst (v := 0) hx hb dX9_isStraight_24 (by decide) ?_
    cases hd
    exact r_zret C (by decide) dX9_isStraight_25 hR hS
  · rw [if_neg c3] at hd
    refine lv_iconst (v := 1) hx hb dX9_isStraight_20 (by decide) ?_
    refine lv_goto (tgt := 25) hx hb dX9_isStraight_21 (by decide) ?_
    cases hd
    exact r_zret C (by decide) dX9_isStraight_25 hR hS
end
set_option maxHeartbeats 4000000 in
set_option maxRecDepth 100000 in
theorem ct_X9_isStraight {l : Launch} {b0 : Nat} {D : va_G} {E : Nat → ClassId} {G : Hp} {a0 : Nat} {a1 : Int32} {a2 : Int32} {a3 : Int32} {rr : Int32} (hd : d_X9_isStraight a0 a1 a2 a3 G = some rr) : CT l yX9_isStraight cX9_isStraight 4 (some .boolean) 0 0 0 b0 D E [rv a0, .int a1, .int a2, .int a3] G (some (.int rr)) G := by
  refine CT_of (by decide +kernel) ?_
  intro p e s m below meth c C hnm hR
  refine r_entry [.inr a0, .inl a1, .inl a2, .inl a3] (n := 4) (Nat.le_of_ble_eq_true rfl) (lv := [(0, .inr a0), (1, .inl a1), (2, .inl a2), (3, .inl a3)]) rfl (fun ls hL => ?_)
  exact k_X9_isStraight C (lx_sub hL [0, 1, 2, 3] rfl) hR ⟨fun _ _ => rfl, fun _ h => by cases h⟩ hd

/-! GroveWorksModel.ownClaim(III)I -/
theorem dX9_ownClaim_0 : decode cX9_ownClaim 0 = .ok (.aload_n 0, 1) := by decide +kernel
theorem dX9_ownClaim_1 : decode cX9_ownClaim 1 = .ok (.iload_n 1, 1) := by decide +kernel
theorem dX9_ownClaim_2 : decode cX9_ownClaim 2 = .ok (.iload_n 2, 1) := by decide +kernel
theorem dX9_ownClaim_3 : decode cX9_ownClaim 3 = .ok (.iload_n 3, 1) := by decide +kernel
theorem dX9_ownClaim_4 : decode cX9_ownClaim 4 = .ok (.invokevirtual 191, 3) := by decide +kernel
theorem dX9_ownClaim_7 : decode cX9_ownClaim 7 = .ok (.istore 4, 2) := by decide +kernel
theorem dX9_ownClaim_9 : decode cX9_ownClaim 9 = .ok (.iload 4, 2) := by decide +kernel
theorem dX9_ownClaim_11 : decode cX9_ownClaim 11 = .ok (.ifCond .eq 12, 3) := by decide +kernel
theorem dX9_ownClaim_14 : decode cX9_ownClaim 14 = .ok (.aload_n 0, 1) := by decide +kernel
theorem dX9_ownClaim_15 : decode cX9_ownClaim 15 = .ok (.iload_n 1, 1) := by decide +kernel
theorem dX9_ownClaim_16 : decode cX9_ownClaim 16 = .ok (.iload_n 3, 1) := by decide +kernel
theorem dX9_ownClaim_17 : decode cX9_ownClaim 17 = .ok (.invokevirtual 160, 3) := by decide +kernel
theorem dX9_ownClaim_20 : decode cX9_ownClaim 20 = .ok (.goto 9, 3) := by decide +kernel
theorem dX9_ownClaim_23 : decode cX9_ownClaim 23 = .ok (.aload_n 0, 1) := by decide +kernel
theorem dX9_ownClaim_24 : decode cX9_ownClaim 24 = .ok (.iload_n 1, 1) := by decide +kernel
theorem dX9_ownClaim_25 : decode cX9_ownClaim 25 = .ok (.iload_n 2, 1) := by decide +kernel
theorem dX9_ownClaim_26 : decode cX9_ownClaim 26 = .ok (.invokevirtual 194, 3) := by decide +kernel
theorem dX9_ownClaim_29 : decode cX9_ownClaim 29 = .ok (.istore 5, 2) := by decide +kernel
theorem dX9_ownClaim_31 : decode cX9_ownClaim 31 = .ok (.iload 5, 2) := by decide +kernel
theorem dX9_ownClaim_33 : decode cX9_ownClaim 33 = .ok (.iconst (-1), 1) := by decide +kernel
theorem dX9_ownClaim_34 : decode cX9_ownClaim 34 = .ok (.if_icmp .eq 15, 3) := by decide +kernel
theorem dX9_ownClaim_37 : decode cX9_ownClaim 37 = .ok (.aload_n 0, 1) := by decide +kernel
theorem dX9_ownClaim_38 : decode cX9_ownClaim 38 = .ok (.getfield 54, 3) := by decide +kernel
theorem dX9_ownClaim_41 : decode cX9_ownClaim 41 = .ok (.iload 5, 2) := by decide +kernel
theorem dX9_ownClaim_43 : decode cX9_ownClaim 43 = .ok (.iaload, 1) := by decide +kernel
theorem dX9_ownClaim_44 : decode cX9_ownClaim 44 = .ok (.ldc 143, 2) := by decide +kernel
theorem dX9_ownClaim_46 : decode cX9_ownClaim 46 = .ok (.if_icmp .lt 9, 3) := by decide +kernel
theorem dX9_ownClaim_49 : decode cX9_ownClaim 49 = .ok (.sipush 9999, 3) := by decide +kernel
theorem dX9_ownClaim_52 : decode cX9_ownClaim 52 = .ok (.goto 10, 3) := by decide +kernel
theorem dX9_ownClaim_55 : decode cX9_ownClaim 55 = .ok (.aload_n 0, 1) := by decide +kernel
theorem dX9_ownClaim_56 : decode cX9_ownClaim 56 = .ok (.getfield 54, 3) := by decide +kernel
theorem dX9_ownClaim_59 : decode cX9_ownClaim 59 = .ok (.iload 5, 2) := by decide +kernel
theorem dX9_ownClaim_61 : decode cX9_ownClaim 61 = .ok (.iaload, 1) := by decide +kernel
theorem dX9_ownClaim_62 : decode cX9_ownClaim 62 = .ok (.istore 6, 2) := by decide +kernel
theorem dX9_ownClaim_64 : decode cX9_ownClaim 64 = .ok (.iload 4, 2) := by decide +kernel
theorem dX9_ownClaim_66 : decode cX9_ownClaim 66 = .ok (.ifCond .eq 7, 3) := by decide +kernel
theorem dX9_ownClaim_69 : decode cX9_ownClaim 69 = .ok (.iconst 0, 1) := by decide +kernel
theorem dX9_ownClaim_70 : decode cX9_ownClaim 70 = .ok (.goto 5, 3) := by decide +kernel
theorem dX9_ownClaim_73 : decode cX9_ownClaim 73 = .ok (.ldc 143, 2) := by decide +kernel
theorem dX9_ownClaim_75 : decode cX9_ownClaim 75 = .ok (.bipush 100, 2) := by decide +kernel
theorem dX9_ownClaim_77 : decode cX9_ownClaim 77 = .ok (.iload 6, 2) := by decide +kernel
theorem dX9_ownClaim_79 : decode cX9_ownClaim 79 = .ok (.imul, 1) := by decide +kernel
theorem dX9_ownClaim_80 : decode cX9_ownClaim 80 = .ok (.iadd, 1) := by decide +kernel
theorem dX9_ownClaim_81 : decode cX9_ownClaim 81 = .ok (.iload_n 1, 1) := by decide +kernel
theorem dX9_ownClaim_82 : decode cX9_ownClaim 82 = .ok (.iadd, 1) := by decide +kernel
theorem dX9_ownClaim_83 : decode cX9_ownClaim 83 = .ok (.ireturn, 1) := by decide +kernel
def d_X9_ownClaim_75 (x1 : Int32) (x6 : Int32) (s0 : Int32) (G : Hp) : Option (Int32 × Hp) :=
  some ((((s0 + ((100 * x6)))) + x1), G)
def d_X9_ownClaim_62 (x1 : Int32) (x4 : Int32) (s0 : Int32) (G : Hp) : Option (Int32 × Hp) :=
  if x4 = 0 then
    d_X9_ownClaim_75 x1 s0 1000000 G
  else
    d_X9_ownClaim_75 x1 s0 0 G
def d_X9_ownClaim_49 (x1 : Int32) (x4 : Int32) (G : Hp) : Option (Int32 × Hp) :=
  d_X9_ownClaim_62 x1 x4 9999 G
def d_X9_ownClaim_29 (x0 : Nat) (x1 : Int32) (x4 : Int32) (s0 : Int32) (G : Hp) : Option (Int32 × Hp) :=
  if s0 = (-1) then
    d_X9_ownClaim_49 x1 x4 G
  else
    gd (hc G x0 = 10) <|
    gd (hc G ((hr G x0 22)) = 11 ∧ ix s0 (hl G ((hr G x0 22)))) <|
    if ((hi G ((hr G x0 22)) s0.toNatClampNeg)) < 1000000 then
      gd (hc G ((hr G x0 22)) = 11 ∧ ix s0 (hl G ((hr G x0 22)))) <|
      d_X9_ownClaim_62 x1 x4 ((hi G ((hr G x0 22)) s0.toNatClampNeg)) G
    else
      d_X9_ownClaim_49 x1 x4 G
def d_X9_ownClaim (x0 : Nat) (x1 : Int32) (x2 : Int32) (x3 : Int32) (G : Hp) : Option (Int32 × Hp) :=
  gd (hc G x0 = 10) <|
  bo (d_X9_isStraight x0 x1 x2 x3 G) fun v3 =>
  if v3 = 0 then
    b2 (d_X9_toMeeting x0 x1 x2 G) fun v6 G7 =>
    d_X9_ownClaim_29 x0 x1 v3 v6 G7
  else
    b2 (d_X9_toSource x0 x1 x3 G) fun v9 G10 =>
    d_X9_ownClaim_29 x0 x1 v3 v9 G10
section
variable {p : Program} {l : Launch} {e : Env} {s : State} {m : MethodId} {args : Array Value} {below : List Frame} {meth : Method} {c : Code} {b0 : Nat} {D : va_G} {E : Nat → ClassId}
set_option maxHeartbeats 4000000 in
set_option maxRecDepth 100000 in
theorem k_X9_ownClaim_75 (C : Cx p s m args meth c RX9 cX9_ownClaim 7 (some .int) b0 D E) {rr : Int32} {GG : Hp} {x1 : Int32} {x6 : Int32} {s0 : Int32} {G : Hp} {ls : Array Slot} {H : Heap} {locs : List Loc} : lx ls 7 [(1, .inl x1), (6, .inl x6)] → Rp b0 D E G H → SS b0 s H locs → d_X9_ownClaim_75 x1 x6 s0 G = some (rr, GG) → W p l e (rmd 5 (0) (0)) s m args below meth c H locs (0) (0) (MQ below (CQ b0 D E (some (.int rr)) GG) args s (0) (0) (fun q => b0 ≤ q)) (F0 m 75 ls [.int s0]) := by
  intro hL hR hS hd
  unfold d_X9_ownClaim_75 at hd
  have hx := C.1
  have hb := C.2.1
  refine lv_bipush (v := 100) hx hb dX9_ownClaim_75 (by decide) ?_
  refine x_iload C dX9_ownClaim_77 hL 1 rfl ?_
  refine lv_imul hx hb dX9_ownClaim_79 ?_
  refine lv_iadd hx hb dX9_ownClaim_80 ?_
  refine x_iload_n C dX9_ownClaim_81 hL 0 rfl ?_
  refine lv_iadd hx hb dX9_ownClaim_82 ?_
  cases hd
  exact r_iret C dX9_ownClaim_83 hR hS
set_option maxHeartbeats 4000000 in
set_option maxRecDepth 100000 in
theorem k_X9_ownClaim_62 (C : Cx p s m args meth c RX9 cX9_ownClaim 7 (some .int) b0 D E) {rr : Int32} {GG : Hp} {x1 : Int32} {x4 : Int32} {s0 : Int32} {G : Hp} {ls : Array Slot} {H : Heap} {locs : List Loc} : lx ls 7 [(1, .inl x1), (4, .inl x4)] → Rp b0 D E G H → SS b0 s H locs → d_X9_ownClaim_62 x1 x4 s0 G = some (rr, GG) → W p l e (rmd 5 (0) (0)) s m args below meth c H locs (0) (0) (MQ below (CQ b0 D E (some (.int rr)) GG) args s (0) (0) (fun q => b0 ≤ q)) (F0 m 62 ls [.int s0]) := by
  intro hL hR hS hd
  unfold d_X9_ownClaim_62 at hd
  have hx := C.1
  have hb := C.2.1
  refine x_istore (lv' := [(6, .inl s0), (1, .inl x1), (4, .inl x4)]) C dX9_ownClaim_62 hL (by decide) rfl (fun ls hL => ?_)
  refine x_iload C dX9_ownClaim_64 hL 2 rfl ?_
  refine lv_if_eq (tgt := 73) hx hb dX9_ownClaim_66 (by decide) (fun c1 => ?_) (fun c1 => ?_)
  · rw [if_pos c1] at hd
    refine lv_ldc (v := 1000000) hx hb C.2.2.2.2.1 (C.2.2.2.2.2.1 _ co_X9_143) dX9_ownClaim_73 ?_
    exact k_X9_ownClaim_75 C (lx_sub hL [1, 0] rfl) hR hS hd
  · rw [if_neg c1] at hd
    refine lv_iconst (v := 0) hx hb dX9_ownClaim_69 (by decide) ?_
    refine lv_goto (tgt := 75) hx hb dX9_ownClaim_70 (by decide) ?_
    exact k_X9_ownClaim_75 C (lx_sub hL [1, 0] rfl) hR hS hd
set_option maxHeartbeats 4000000 in
set_option maxRecDepth 100000 in
theorem k_X9_ownClaim_49 (C : Cx p s m args meth c RX9 cX9_ownClaim 7 (some .int) b0 D E) {rr : Int32} {GG : Hp} {x1 : Int32} {x4 : Int32} {G : Hp} {ls : Array Slot} {H : Heap} {locs : List Loc} : lx ls 7 [(1, .inl x1), (4, .inl x4)] → Rp b0 D E G H → SS b0 s H locs → d_X9_ownClaim_49 x1 x4 G = some (rr, GG) → W p l e (rmd 5 (0) (0)) s m args below meth c H locs (0) (0) (MQ below (CQ b0 D E (some (.int rr)) GG) args s (0) (0) (fun q => b0 ≤ q)) (F0 m 49 ls []) := by
  intro hL hR hS hd
  unfold d_X9_ownClaim_49 at hd
  have hx := C.1
  have hb := C.2.1
  refine lv_sipush (v := 9999) hx hb dX9_ownClaim_49 (by decide) ?_
  refine lv_goto (tgt := 62) hx hb dX9_ownClaim_52 (by decide) ?_
  exact k_X9_ownClaim_62 C hL hR hS hd
set_option maxHeartbeats 4000000 in
set_option maxRecDepth 100000 in
theorem k_X9_ownClaim_29 (C : Cx p s m args meth c RX9 cX9_ownClaim 7 (some .int) b0 D E) {rr : Int32} {GG : Hp} {x0 : Nat} {x1 : Int32} {x4 : Int32} {s0 : Int32} {G : Hp} {ls : Array Slot} {H : Heap} {locs : List Loc} : lx ls 7 [(0, .inr x0), (1, .inl x1), (4, .inl x4)] → Rp b0 D E G H → SS b0 s H locs → d_X9_ownClaim_29 x0 x1 x4 s0 G = some (rr, GG) → W p l e (rmd 5 (0) (0)) s m args below meth c H locs (0) (0) (MQ below (CQ b0 D E (some (.int rr)) GG) args s (0) (0) (fun q => b0 ≤ q)) (F0 m 29 ls [.int s0]) := by
  intro hL hR hS hd
  unfold d_X9_ownClaim_29 at hd
  have hx := C.1
  have hb := C.2.1
  refine x_istore (lv' := [(5, .inl s0), (0, .inr x0), (1, .inl x1), (4, .inl x4)]) C dX9_ownClaim_29 hL (by decide) rfl (fun ls hL => ?_)
  refine x_iload C dX9_ownClaim_31 hL 0 rfl ?_
  refine lv_iconst (v := (-1)) hx hb dX9_ownClaim_33 (by decide) ?_
  refine lv_icmp_eq (tgt := 49) hx hb dX9_ownClaim_34 (by decide) (fun c1 => ?_) (fun c1 => ?_)
  · rw [if_pos c1] at hd
    exact k_X9_ownClaim_49 C (lx_sub hL [2, 3] rfl) hR hS hd
  · rw [if_neg c1] at hd
    refine x_aload_n C dX9_ownClaim_37 hL 1 rfl ?_
    obtain ⟨g2, hd⟩ := gd_ex hd
    refine r_getr (ci := 9) (k := 22) C fl_X9_54 rfl dX9_ownClaim_38 hR g2 ?_
    refine x_iload C dX9_ownClaim_41 hL 0 rfl ?_
    obtain ⟨g3, hd⟩ := gd_ex hd
    refine r_iald C dX9_ownClaim_43 hR g3 ?_
    refine lv_ldc (v := 1000000) hx hb C.2.2.2.2.1 (C.2.2.2.2.2.1 _ co_X9_143) dX9_ownClaim_44 ?_
    refine lv_icmp_lt (tgt := 55) hx hb dX9_ownClaim_46 (by decide) (fun c4 => ?_) (fun c4 => ?_)
    · rw [if_pos c4] at hd
      refine x_aload_n C dX9_ownClaim_55 hL 1 rfl ?_
      refine r_getr (ci := 9) (k := 22) C fl_X9_54 rfl dX9_ownClaim_56 hR g2 ?_
      refine x_iload C dX9_ownClaim_59 hL 0 rfl ?_
      obtain ⟨g5, hd⟩ := gd_ex hd
      refine r_iald C dX9_ownClaim_61 hR g5 ?_
      exact k_X9_ownClaim_62 C (lx_sub hL [2, 3] rfl) hR hS hd
    · rw [if_neg c4] at hd
      exact k_X9_ownClaim_49 C (lx_sub hL [2, 3] rfl) hR hS hd
set_option maxHeartbeats 4000000 in
set_option maxRecDepth 100000 in
theorem k_X9_ownClaim (C : Cx p s m args meth c RX9 cX9_ownClaim 7 (some .int) b0 D E) {rr : Int32} {GG : Hp} {x0 : Nat} {x1 : Int32} {x2 : Int32} {x3 : Int32} {G : Hp} {ls : Array Slot} {H : Heap} {locs : List Loc} : lx ls 7 [(0, .inr x0), (1, .inl x1), (2, .inl x2), (3, .inl x3)] → Rp b0 D E G H → SS b0 s H locs → d_X9_ownClaim x0 x1 x2 x3 G = some (rr, GG) → W p l e (rmd 5 (0) (0)) s m args below meth c H locs (0) (0) (MQ below (CQ b0 D E (some (.int rr)) GG) args s (0) (0) (fun q => b0 ≤ q)) (F0 m 0 ls []) := by
  intro hL hR hS hd
  unfold d_X9_ownClaim at hd
  have hx := C.1
  have hb := C.2.1
  refine x_aload_n C dX9_ownClaim_0 hL 0 rfl ?_
  refine x_iload_n C dX9_ownClaim_1 hL 1 rfl ?_
  refine x_iload_n C dX9_ownClaim_2 hL 2 rfl ?_
  refine x_iload_n C dX9_ownClaim_3 hL 3 rfl ?_
  obtain ⟨g1, hd⟩ := gd_ex hd
  obtain ⟨v3, h2, hd⟩ := bo_ex hd
  refine r_callV (a := x0) (ci := 9) (As := [.int x1, .int x2, .int x3]) C (ct_X9_isStraight h2) mf_X9_isStraight ml_X9_191 mv_X9_isStraight rfl ⟨Nat.le_of_ble_eq_true rfl, Nat.le_of_ble_eq_true rfl⟩ dX9_ownClaim_4 (lx_size hL) rfl hR hS g1 ⟨Nat.le_refl _, Nat.le_refl _⟩ (cat_le [] (Nat.le_of_ble_eq_true rfl)) (fun H locs hR hS => ?_)
  refine W_st (st2 := [.int v3]) rfl ?_
  refine x_istore (lv' := [(4, .inl v3), (0, .inr x0), (1, .inl x1), (2, .inl x2), (3, .inl x3)]) C dX9_ownClaim_7 hL (by decide) rfl (fun ls hL => ?_)
  refine x_iload C dX9_ownClaim_9 hL 0 rfl ?_
  refine lv_if_eq (tgt := 23) hx hb dX9_ownClaim_11 (by decide) (fun c4 => ?_) (fun c4 => ?_)
  · rw [if_pos c4] at hd
    refine x_aload_n C dX9_ownClaim_23 hL 1 rfl ?_
    refine x_iload_n C dX9_ownClaim_24 hL 2 rfl ?_
    refine x_iload_n C dX9_ownClaim_25 hL 3 rfl ?_
    obtain ⟨v6, G7, h5, hd⟩ := b2_ex hd
    refine r_callV (a := x0) (ci := 9) (As := [.int x1, .int x2]) C (ct_X9_toMeeting h5) mf_X9_toMeeting ml_X9_194 mv_X9_toMeeting rfl ⟨Nat.le_of_ble_eq_true rfl, Nat.le_of_ble_eq_true rfl⟩ dX9_ownClaim_26 (lx_size hL) rfl hR hS g1 ⟨Nat.le_refl _, Nat.le_refl _⟩ (cat_le [] (Nat.le_of_ble_eq_true rfl)) (fun H locs hR hS => ?_)
    refine W_st (st2 := [.int v6]) rfl ?_
    exact k_X9_ownClaim_29 C (lx_sub hL [1, 2, 0] rfl) hR hS hd
  · rw [if_neg c4] at hd
    refine x_aload_n C dX9_ownClaim_14 hL 1 rfl ?_
    refine x_iload_n C dX9_ownClaim_15 hL 2 rfl ?_
    refine x_iload_n C dX9_ownClaim_16 hL 4 rfl ?_
    obtain ⟨v9, G10, h8, hd⟩ := b2_ex hd
    refine r_callV (a := x0) (ci := 9) (As := [.int x1, .int x3]) C (ct_X9_toSource h8) mf_X9_toSource ml_X9_160 mv_X9_toSource rfl ⟨Nat.le_of_ble_eq_true rfl, Nat.le_of_ble_eq_true rfl⟩ dX9_ownClaim_17 (lx_size hL) rfl hR hS g1 ⟨Nat.le_refl _, Nat.le_refl _⟩ (cat_le [] (Nat.le_of_ble_eq_true rfl)) (fun H locs hR hS => ?_)
    refine W_st (st2 := [.int v9]) rfl ?_
    refine lv_goto (tgt := 29) hx hb dX9_ownClaim_20 (by decide) ?_
    exact k_X9_ownClaim_29 C (lx_sub hL [1, 2, 0] rfl) hR hS hd
end
set_option maxHeartbeats 4000000 in
set_option maxRecDepth 100000 in
theorem ct_X9_ownClaim {l : Launch} {b0 : Nat} {D : va_G} {E : Nat → ClassId} {G : Hp} {a0 : Nat} {a1 : Int32} {a2 : Int32} {a3 : Int32} {rr : Int32} {GG : Hp} (hd : d_X9_ownClaim a0 a1 a2 a3 G = some (rr, GG)) : CT l yX9_ownClaim cX9_ownClaim 7 (some .int) 5 0 0 b0 D E [rv a0, .int a1, .int a2, .int a3] G (some (.int rr)) GG := by
  refine CT_of (by decide +kernel) ?_
  intro p e s m below meth c C hnm hR
  refine r_entry [.inr a0, .inl a1, .inl a2, .inl a3] (n := 7) (Nat.le_of_ble_eq_true rfl) (lv := [(0, .inr a0), (1, .inl a1), (2, .inl a2), (3, .inl a3)]) rfl (fun ls hL => ?_)
  exact k_X9_ownClaim C (lx_sub hL [0, 1, 2, 3] rfl) hR ⟨fun _ _ => rfl, fun _ h => by cases h⟩ hd

/-! GroveWorksModel.isBetter(II)Z pure -/
theorem dX9_isBetter_0 : decode cX9_isBetter 0 = .ok (.iload_n 0, 1) := by decide +kernel
theorem dX9_isBetter_1 : decode cX9_isBetter 1 = .ok (.bipush 100, 2) := by decide +kernel
theorem dX9_isBetter_3 : decode cX9_isBetter 3 = .ok (.idiv, 1) := by decide +kernel
theorem dX9_isBetter_4 : decode cX9_isBetter 4 = .ok (.iload_n 1, 1) := by decide +kernel
theorem dX9_isBetter_5 : decode cX9_isBetter 5 = .ok (.bipush 100, 2) := by decide +kernel
theorem dX9_isBetter_7 : decode cX9_isBetter 7 = .ok (.idiv, 1) := by decide +kernel
theorem dX9_isBetter_8 : decode cX9_isBetter 8 = .ok (.if_icmp .eq 22, 3) := by decide +kernel
theorem dX9_isBetter_11 : decode cX9_isBetter 11 = .ok (.iload_n 0, 1) := by decide +kernel
theorem dX9_isBetter_12 : decode cX9_isBetter 12 = .ok (.bipush 100, 2) := by decide +kernel
theorem dX9_isBetter_14 : decode cX9_isBetter 14 = .ok (.idiv, 1) := by decide +kernel
theorem dX9_isBetter_15 : decode cX9_isBetter 15 = .ok (.iload_n 1, 1) := by decide +kernel
theorem dX9_isBetter_16 : decode cX9_isBetter 16 = .ok (.bipush 100, 2) := by decide +kernel
theorem dX9_isBetter_18 : decode cX9_isBetter 18 = .ok (.idiv, 1) := by decide +kernel
theorem dX9_isBetter_19 : decode cX9_isBetter 19 = .ok (.if_icmp .ge 7, 3) := by decide +kernel
theorem dX9_isBetter_22 : decode cX9_isBetter 22 = .ok (.iconst 1, 1) := by decide +kernel
theorem dX9_isBetter_23 : decode cX9_isBetter 23 = .ok (.goto 23, 3) := by decide +kernel
theorem dX9_isBetter_26 : decode cX9_isBetter 26 = .ok (.iconst 0, 1) := by decide +kernel
theorem dX9_isBetter_27 : decode cX9_isBetter 27 = .ok (.goto 19, 3) := by decide +kernel
theorem dX9_isBetter_30 : decode cX9_isBetter 30 = .ok (.iload_n 0, 1) := by decide +kernel
theorem dX9_isBetter_31 : decode cX9_isBetter 31 = .ok (.bipush 100, 2) := by decide +kernel
theorem dX9_isBetter_33 : decode cX9_isBetter 33 = .ok (.irem, 1) := by decide +kernel
theorem dX9_isBetter_34 : decode cX9_isBetter 34 = .ok (.iload_n 1, 1) := by decide +kernel
theorem dX9_isBetter_35 : decode cX9_isBetter 35 = .ok (.bipush 100, 2) := by decide +kernel
theorem dX9_isBetter_37 : decode cX9_isBetter 37 = .ok (.irem, 1) := by decide +kernel
theorem dX9_isBetter_38 : decode cX9_isBetter 38 = .ok (.if_icmp .le 7, 3) := by decide +kernel
theorem dX9_isBetter_41 : decode cX9_isBetter 41 = .ok (.iconst 1, 1) := by decide +kernel
theorem dX9_isBetter_42 : decode cX9_isBetter 42 = .ok (.goto 4, 3) := by decide +kernel
theorem dX9_isBetter_45 : decode cX9_isBetter 45 = .ok (.iconst 0, 1) := by decide +kernel
theorem dX9_isBetter_46 : decode cX9_isBetter 46 = .ok (.ireturn, 1) := by decide +kernel
def d_X9_isBetter (x0 : Int32) (x1 : Int32) (G : Hp) : Option (Int32) :=
  if ((x0 / 100)) = ((x1 / 100)) then
    if ((x0 - x0 / 100 * 100)) ≤ ((x1 - x1 / 100 * 100)) then
      some 0
    else
      some 1
  else
    if ((x1 / 100)) ≤ ((x0 / 100)) then
      some 0
    else
      some 1
section
variable {p : Program} {l : Launch} {e : Env} {s : State} {m : MethodId} {args : Array Value} {below : List Frame} {meth : Method} {c : Code} {b0 : Nat} {D : va_G} {E : Nat → ClassId}
set_option maxHeartbeats 4000000 in
set_option maxRecDepth 100000 in
theorem k_X9_isBetter (C : Cx p s m args meth c RX9 cX9_isBetter 2 (some .boolean) b0 D E) {rr : Int32} {G : Hp} {x0 : Int32} {x1 : Int32} {ls : Array Slot} {H : Heap} {locs : List Loc} : lx ls 2 [(0, .inl x0), (1, .inl x1)] → Rp b0 D E G H → SS b0 s H locs → d_X9_isBetter x0 x1 G = some rr → W p l e (rmd 0 (0) (0)) s m args below meth c H locs (0) (0) (MQ below (CQ b0 D E (some (.int rr)) G) args s (0) (0) (fun q => b0 ≤ q)) (F0 m 0 ls []) := by
  intro hL hR hS hd
  unfold d_X9_isBetter at hd
  have hx := C.1
  have hb := C.2.1
  refine x_iload_n C dX9_isBetter_0 hL 0 rfl ?_
  refine lv_bipush (v := 100) hx hb dX9_isBetter_1 (by decide) ?_
  refine lv_idiv hx hb dX9_isBetter_3 (by decide) ?_
  refine x_iload_n C dX9_isBetter_4 hL 1 rfl ?_
  refine lv_bipush (v := 100) hx hb dX9_isBetter_5 (by decide) ?_
  refine lv_idiv hx hb dX9_isBetter_7 (by decide) ?_
  refine lv_icmp_eq (tgt := 30) hx hb dX9_isBetter_8 (by decide) (fun c1 => ?_) (fun c1 => ?_)
  · rw [if_pos c1] at hd
    refine x_iload_n C dX9_isBetter_30 hL 0 rfl ?_
    refine lv_bipush (v := 100) hx hb dX9_isBetter_31 (by decide) ?_
    refine lv_irem hx hb dX9_isBetter_33 (by decide) ?_
    refine x_iload_n C dX9_isBetter_34 hL 1 rfl ?_
    refine lv_bipush (v := 100) hx hb dX9_isBetter_35 (by decide) ?_
    refine lv_irem hx hb dX9_isBetter_37 (by decide) ?_
    refine lv_icmp_le (tgt := 45) hx hb dX9_isBetter_38 (by decide) (fun c2 => ?_) (fun c2 => ?_)
    · rw [if_pos c2] at hd
      refine lv_iconst (v := 0) hx hb dX9_isBetter_45 (by decide) ?_
      cases hd
      exact r_zret C (by decide) dX9_isBetter_46 hR hS
    · rw [if_neg c2] at hd
      refine lv_iconst (v := 1) hx hb dX9_isBetter_41 (by decide) ?_
      refine lv_goto (tgt := 46) hx hb dX9_isBetter_42 (by decide) ?_
      cases hd
      exact r_zret C (by decide) dX9_isBetter_46 hR hS
  · rw [if_neg c1] at hd
    refine x_iload_n C dX9_isBetter_11 hL 0 rfl ?_
    refine lv_bipush (v := 100) hx hb dX9_isBetter_12 (by decide) ?_
    refine lv_idiv hx hb dX9_isBetter_14 (by decide) ?_
    refine x_iload_n C dX9_isBetter_15 hL 1 rfl ?_
    refine lv_bipush (v := 100) hx hb dX9_isBetter_16 (by decide) ?_
    refine lv_idiv hx hb dX9_isBetter_18 (by decide) ?_
    refine lv_icmp_ge (tgt := 26) hx hb dX9_isBetter_19 (by decide) (fun c3 => ?_) (fun c3 => ?_)
    · rw [if_pos c3] at hd
      refine lv_iconst (v := 0) hx hb dX9_isBetter_26 (by decide) ?_
      refine lv_goto (tgt := 46) hx hb dX9_isBetter_27 (by decide) ?_
      cases hd
      exact r_zret C (by decide) dX9_isBetter_46 hR hS
    · rw [if_neg c3] at hd
      refine lv_iconst (v := 1) hx hb dX9_isBetter_22 (by decide) ?_
      refine lv_goto (tgt := 46) hx hb dX9_isBetter_23 (by decide) ?_
      cases hd
      exact r_zret C (by decide) dX9_isBetter_46 hR hS
end
set_option maxHeartbeats 4000000 in
set_option maxRecDepth 100000 in
theorem ct_X9_isBetter {l : Launch} {b0 : Nat} {D : va_G} {E : Nat → ClassId} {G : Hp} {a0 : Int32} {a1 : Int32} {rr : Int32} (hd : d_X9_isBetter a0 a1 G = some rr) : CT l yX9_isBetter cX9_isBetter 2 (some .boolean) 0 0 0 b0 D E [.int a0, .int a1] G (some (.int rr)) G := by
  refine CT_of (by decide +kernel) ?_
  intro p e s m below meth c C hnm hR
  refine r_entry [.inl a0, .inl a1] (n := 2) (Nat.le_of_ble_eq_true rfl) (lv := [(0, .inl a0), (1, .inl a1)]) rfl (fun ls hL => ?_)
  exact k_X9_isBetter C (lx_sub hL [0, 1] rfl) hR ⟨fun _ _ => rfl, fun _ h => by cases h⟩ hd

/-! GroveWorksModel.claimAt(IIII)I pure -/
theorem dX9_claimAt_0 : decode cX9_claimAt 0 = .ok (.aload_n 0, 1) := by decide +kernel
theorem dX9_claimAt_1 : decode cX9_claimAt 1 = .ok (.iload_n 1, 1) := by decide +kernel
theorem dX9_claimAt_2 : decode cX9_claimAt 2 = .ok (.iload_n 2, 1) := by decide +kernel
theorem dX9_claimAt_3 : decode cX9_claimAt 3 = .ok (.iload_n 3, 1) := by decide +kernel
theorem dX9_claimAt_4 : decode cX9_claimAt 4 = .ok (.iload 4, 2) := by decide +kernel
theorem dX9_claimAt_6 : decode cX9_claimAt 6 = .ok (.invokevirtual 176, 3) := by decide +kernel
theorem dX9_claimAt_9 : decode cX9_claimAt 9 = .ok (.istore 5, 2) := by decide +kernel
theorem dX9_claimAt_11 : decode cX9_claimAt 11 = .ok (.aload_n 0, 1) := by decide +kernel
theorem dX9_claimAt_12 : decode cX9_claimAt 12 = .ok (.getfield 81, 3) := by decide +kernel
theorem dX9_claimAt_15 : decode cX9_claimAt 15 = .ok (.iload 5, 2) := by decide +kernel
theorem dX9_claimAt_17 : decode cX9_claimAt 17 = .ok (.iaload, 1) := by decide +kernel
theorem dX9_claimAt_18 : decode cX9_claimAt 18 = .ok (.iconst (-1), 1) := by decide +kernel
theorem dX9_claimAt_19 : decode cX9_claimAt 19 = .ok (.if_icmp .eq 17, 3) := by decide +kernel
theorem dX9_claimAt_22 : decode cX9_claimAt 22 = .ok (.aload_n 0, 1) := by decide +kernel
theorem dX9_claimAt_23 : decode cX9_claimAt 23 = .ok (.getfield 122, 3) := by decide +kernel
theorem dX9_claimAt_26 : decode cX9_claimAt 26 = .ok (.aload_n 0, 1) := by decide +kernel
theorem dX9_claimAt_27 : decode cX9_claimAt 27 = .ok (.getfield 84, 3) := by decide +kernel
theorem dX9_claimAt_30 : decode cX9_claimAt 30 = .ok (.iload 5, 2) := by decide +kernel
theorem dX9_claimAt_32 : decode cX9_claimAt 32 = .ok (.iaload, 1) := by decide +kernel
theorem dX9_claimAt_33 : decode cX9_claimAt 33 = .ok (.if_icmp .lt 5, 3) := by decide +kernel
theorem dX9_claimAt_36 : decode cX9_claimAt 36 = .ok (.iconst (-1), 1) := by decide +kernel
theorem dX9_claimAt_37 : decode cX9_claimAt 37 = .ok (.ireturn, 1) := by decide +kernel
theorem dX9_claimAt_38 : decode cX9_claimAt 38 = .ok (.aload_n 0, 1) := by decide +kernel
theorem dX9_claimAt_39 : decode cX9_claimAt 39 = .ok (.iload_n 1, 1) := by decide +kernel
theorem dX9_claimAt_40 : decode cX9_claimAt 40 = .ok (.iload_n 2, 1) := by decide +kernel
theorem dX9_claimAt_41 : decode cX9_claimAt 41 = .ok (.aload_n 0, 1) := by decide +kernel
theorem dX9_claimAt_42 : decode cX9_claimAt 42 = .ok (.getfield 81, 3) := by decide +kernel
theorem dX9_claimAt_45 : decode cX9_claimAt 45 = .ok (.iload 5, 2) := by decide +kernel
theorem dX9_claimAt_47 : decode cX9_claimAt 47 = .ok (.iaload, 1) := by decide +kernel
theorem dX9_claimAt_48 : decode cX9_claimAt 48 = .ok (.bipush 100, 2) := by decide +kernel
theorem dX9_claimAt_50 : decode cX9_claimAt 50 = .ok (.irem, 1) := by decide +kernel
theorem dX9_claimAt_51 : decode cX9_claimAt 51 = .ok (.invokevirtual 169, 3) := by decide +kernel
theorem dX9_claimAt_54 : decode cX9_claimAt 54 = .ok (.ifCond .eq 13, 3) := by decide +kernel
theorem dX9_claimAt_57 : decode cX9_claimAt 57 = .ok (.aload_n 0, 1) := by decide +kernel
theorem dX9_claimAt_58 : decode cX9_claimAt 58 = .ok (.getfield 81, 3) := by decide +kernel
theorem dX9_claimAt_61 : decode cX9_claimAt 61 = .ok (.iload 5, 2) := by decide +kernel
theorem dX9_claimAt_63 : decode cX9_claimAt 63 = .ok (.iaload, 1) := by decide +kernel
theorem dX9_claimAt_64 : decode cX9_claimAt 64 = .ok (.goto 4, 3) := by decide +kernel
theorem dX9_claimAt_67 : decode cX9_claimAt 67 = .ok (.iconst (-1), 1) := by decide +kernel
theorem dX9_claimAt_68 : decode cX9_claimAt 68 = .ok (.ireturn, 1) := by decide +kernel
def d_X9_claimAt (x0 : Nat) (x1 : Int32) (x2 : Int32) (x3 : Int32) (x4 : Int32) (G : Hp) : Option (Int32) :=
  gd (hc G x0 = 10) <|
  bo (d_X9_heardAt x1 x2 x3 x4 G) fun v3 =>
  gd (hc G ((hr G x0 31)) = 11 ∧ ix v3 (hl G ((hr G x0 31)))) <|
  if ((hi G ((hr G x0 31)) v3.toNatClampNeg)) = (-1) then
    some (-1)
  else
    gd (hc G ((hr G x0 32)) = 11 ∧ ix v3 (hl G ((hr G x0 32)))) <|
    if ((hi G x0 0)) < ((hi G ((hr G x0 32)) v3.toNatClampNeg)) then
      gd (hc G ((hr G x0 31)) = 11 ∧ ix v3 (hl G ((hr G x0 31)))) <|
      bo (d_X9_isNeighbour x0 x1 x2 ((((hi G ((hr G x0 31)) v3.toNatClampNeg)) - ((hi G ((hr G x0 31)) v3.toNatClampNeg)) / 100 * 100)) G) fun v10 =>
      if v10 = 0 then
        some (-1)
      else
        gd (hc G ((hr G x0 31)) = 11 ∧ ix v3 (hl G ((hr G x0 31)))) <|
        some ((hi G ((hr G x0 31)) v3.toNatClampNeg))
    else
      some (-1)
section
variable {p : Program} {l : Launch} {e : Env} {s : State} {m : MethodId} {args : Array Value} {below : List Frame} {meth : Method} {c : Code} {b0 : Nat} {D : va_G} {E : Nat → ClassId}
set_option maxHeartbeats 4000000 in
set_option maxRecDepth 100000 in
theorem k_X9_claimAt (C : Cx p s m args meth c RX9 cX9_claimAt 6 (some .int) b0 D E) {rr : Int32} {G : Hp} {x0 : Nat} {x1 : Int32} {x2 : Int32} {x3 : Int32} {x4 : Int32} {ls : Array Slot} {H : Heap} {locs : List Loc} : lx ls 6 [(0, .inr x0), (1, .inl x1), (2, .inl x2), (3, .inl x3), (4, .inl x4)] → Rp b0 D E G H → SS b0 s H locs → d_X9_claimAt x0 x1 x2 x3 x4 G = some rr → W p l e (rmd 1 (0) (0)) s m args below meth c H locs (0) (0) (MQ below (CQ b0 D E (some (.int rr)) G) args s (0) (0) (fun q => b0 ≤ q)) (F0 m 0 ls []) := by
  intro hL hR hS hd
  unfold d_X9_claimAt at hd
  have hx := C.1
  have hb := C.2.1
  refine x_aload_n C dX9_claimAt_0 hL 0 rfl ?_
  refine x_iload_n C dX9_claimAt_1 hL 1 rfl ?_
  refine x_iload_n C dX9_claimAt_2 hL 2 rfl ?_
  refine x_iload_n C dX9_claimAt_3 hL 3 rfl ?_
  refine x_iload C dX9_claimAt_4 hL 4 rfl ?_
  obtain ⟨g1, hd⟩ := gd_ex hd
  obtain ⟨v3, h2, hd⟩ := bo_ex hd
  refine r_callV (a := x0) (ci := 9) (As := [.int x1, .int x2, .int x3, .int x4]) C (ct_X9_heardAt h2) mf_X9_heardAt ml_X9_176 mv_X9_heardAt rfl ⟨Nat.le_of_ble_eq_true rfl, Nat.le_of_ble_eq_true rfl⟩ dX9_claimAt_6 (lx_size hL) rfl hR hS g1 ⟨Nat.le_refl _, Nat.le_refl _⟩ (cat_le [] (Nat.le_of_ble_eq_true rfl)) (fun H locs hR hS => ?_)
  refine W_st (st2 := [.int v3]) rfl ?_
  refine x_istore (lv' := [(5, .inl v3), (0, .inr x0), (1, .inl x1), (2, .inl x2), (3, .inl x3), (4, .inl x4)]) C dX9_claimAt_9 hL (by decide) rfl (fun ls hL => ?_)
  refine x_aload_n C dX9_claimAt_11 hL 1 rfl ?_
  refine r_getr (ci := 9) (k := 31) C fl_X9_81 rfl dX9_claimAt_12 hR g1 ?_
  refine x_iload C dX9_claimAt_15 hL 0 rfl ?_
  obtain ⟨g4, hd⟩ := gd_ex hd
  refine r_iald C dX9_claimAt_17 hR g4 ?_
  refine lv_iconst (v := (-1)) hx hb dX9_claimAt_18 (by decide) ?_
  refine lv_icmp_eq (tgt := 36) hx hb dX9_claimAt_19 (by decide) (fun c5 => ?_) (fun c5 => ?_)
  · rw [if_pos c5] at hd
    refine lv_iconst (v := (-1)) hx hb dX9_claimAt_36 (by decide) ?_
    cases hd
    exact r_iret C dX9_claimAt_37 hR hS
  · rw [if_neg c5] at hd
    refine x_aload_n C dX9_claimAt_22 hL 1 rfl ?_
    refine r_geti (ci := 9) (k := 0) C fl_X9_122 rfl dX9_claimAt_23 hR g1 ?_
    refine x_aload_n C dX9_claimAt_26 hL 1 rfl ?_
    refine r_getr (ci := 9) (k := 32) C fl_X9_84 rfl dX9_claimAt_27 hR g1 ?_
    refine x_iload C dX9_claimAt_30 hL 0 rfl ?_
    obtain ⟨g6, hd⟩ := gd_ex hd
    refine r_iald C dX9_claimAt_32 hR g6 ?_
    refine lv_icmp_lt (tgt := 38) hx hb dX9_claimAt_33 (by decide) (fun c7 => ?_) (fun c7 => ?_)
    · rw [if_pos c7] at hd
      refine x_aload_n C dX9_claimAt_38 hL 1 rfl ?_
      refine x_iload_n C dX9_claimAt_39 hL 2 rfl ?_
      refine x_iload_n C dX9_claimAt_40 hL 3 rfl ?_
      refine x_aload_n C dX9_claimAt_41 hL 1 rfl ?_
      refine r_getr (ci := 9) (k := 31) C fl_X9_81 rfl dX9_claimAt_42 hR g1 ?_
      refine x_iload C dX9_claimAt_45 hL 0 rfl ?_
      obtain ⟨g8, hd⟩ := gd_ex hd
      refine r_iald C dX9_claimAt_47 hR g8 ?_
      refine lv_bipush (v := 100) hx hb dX9_claimAt_48 (by decide) ?_
      refine lv_irem hx hb dX9_claimAt_50 (by decide) ?_
      obtain ⟨v10, h9, hd⟩ := bo_ex hd
      refine r_callV (a := x0) (ci := 9) (As := [.int x1, .int x2, .int ((((hi G ((hr G x0 31)) v3.toNatClampNeg)) - ((hi G ((hr G x0 31)) v3.toNatClampNeg)) / 100 * 100))]) C (ct_X9_isNeighbour h9) mf_X9_isNeighbour ml_X9_169 mv_X9_isNeighbour rfl ⟨Nat.le_of_ble_eq_true rfl, Nat.le_of_ble_eq_true rfl⟩ dX9_claimAt_51 (lx_size hL) rfl hR hS g1 ⟨Nat.le_refl _, Nat.le_refl _⟩ (cat_le [] (Nat.le_of_ble_eq_true rfl)) (fun H locs hR hS => ?_)
      refine W_st (st2 := [.int v10]) rfl ?_
      refine lv_if_eq (tgt := 67) hx hb dX9_claimAt_54 (by decide) (fun c11 => ?_) (fun c11 => ?_)
      · rw [if_pos c11] at hd
        refine lv_iconst (v := (-1)) hx hb dX9_claimAt_67 (by decide) ?_
        cases hd
        exact r_iret C dX9_claimAt_68 hR hS
      · rw [if_neg c11] at hd
        refine x_aload_n C dX9_claimAt_57 hL 1 rfl ?_
        refine r_getr (ci := 9) (k := 31) C fl_X9_81 rfl dX9_claimAt_58 hR g1 ?_
        refine x_iload C dX9_claimAt_61 hL 0 rfl ?_
        obtain ⟨g12, hd⟩ := gd_ex hd
        refine r_iald C dX9_claimAt_63 hR g12 ?_
        refine lv_goto (tgt := 68) hx hb dX9_claimAt_64 (by decide) ?_
        cases hd
        exact r_iret C dX9_claimAt_68 hR hS
    · rw [if_neg c7] at hd
      refine lv_iconst (v := (-1)) hx hb dX9_claimAt_36 (by decide) ?_
      cases hd
      exact r_iret C dX9_claimAt_37 hR hS
end
set_option maxHeartbeats 4000000 in
set_option maxRecDepth 100000 in
theorem ct_X9_claimAt {l : Launch} {b0 : Nat} {D : va_G} {E : Nat → ClassId} {G : Hp} {a0 : Nat} {a1 : Int32} {a2 : Int32} {a3 : Int32} {a4 : Int32} {rr : Int32} (hd : d_X9_claimAt a0 a1 a2 a3 a4 G = some rr) : CT l yX9_claimAt cX9_claimAt 6 (some .int) 1 0 0 b0 D E [rv a0, .int a1, .int a2, .int a3, .int a4] G (some (.int rr)) G := by
  refine CT_of (by decide +kernel) ?_
  intro p e s m below meth c C hnm hR
  refine r_entry [.inr a0, .inl a1, .inl a2, .inl a3, .inl a4] (n := 6) (Nat.le_of_ble_eq_true rfl) (lv := [(0, .inr a0), (1, .inl a1), (2, .inl a2), (3, .inl a3), (4, .inl a4)]) rfl (fun ls hL => ?_)
  exact k_X9_claimAt C (lx_sub hL [0, 1, 2, 3, 4] rfl) hR ⟨fun _ _ => rfl, fun _ h => by cases h⟩ hd

/-! GroveWorksModel.isLost(IIII)Z -/
theorem dX9_isLost_0 : decode cX9_isLost 0 = .ok (.aload_n 0, 1) := by decide +kernel
theorem dX9_isLost_1 : decode cX9_isLost 1 = .ok (.iload_n 1, 1) := by decide +kernel
theorem dX9_isLost_2 : decode cX9_isLost 2 = .ok (.iload_n 2, 1) := by decide +kernel
theorem dX9_isLost_3 : decode cX9_isLost 3 = .ok (.iload_n 3, 1) := by decide +kernel
theorem dX9_isLost_4 : decode cX9_isLost 4 = .ok (.iload 4, 2) := by decide +kernel
theorem dX9_isLost_6 : decode cX9_isLost 6 = .ok (.invokevirtual 197, 3) := by decide +kernel
theorem dX9_isLost_9 : decode cX9_isLost 9 = .ok (.istore 5, 2) := by decide +kernel
theorem dX9_isLost_11 : decode cX9_isLost 11 = .ok (.iload 5, 2) := by decide +kernel
theorem dX9_isLost_13 : decode cX9_isLost 13 = .ok (.iconst (-1), 1) := by decide +kernel
theorem dX9_isLost_14 : decode cX9_isLost 14 = .ok (.if_icmp .eq 23, 3) := by decide +kernel
theorem dX9_isLost_17 : decode cX9_isLost 17 = .ok (.iload 5, 2) := by decide +kernel
theorem dX9_isLost_19 : decode cX9_isLost 19 = .ok (.aload_n 0, 1) := by decide +kernel
theorem dX9_isLost_20 : decode cX9_isLost 20 = .ok (.iload_n 1, 1) := by decide +kernel
theorem dX9_isLost_21 : decode cX9_isLost 21 = .ok (.iload_n 3, 1) := by decide +kernel
theorem dX9_isLost_22 : decode cX9_isLost 22 = .ok (.iload 4, 2) := by decide +kernel
theorem dX9_isLost_24 : decode cX9_isLost 24 = .ok (.invokevirtual 200, 3) := by decide +kernel
theorem dX9_isLost_27 : decode cX9_isLost 27 = .ok (.invokestatic 204, 3) := by decide +kernel
theorem dX9_isLost_30 : decode cX9_isLost 30 = .ok (.ifCond .eq 7, 3) := by decide +kernel
theorem dX9_isLost_33 : decode cX9_isLost 33 = .ok (.iconst 1, 1) := by decide +kernel
theorem dX9_isLost_34 : decode cX9_isLost 34 = .ok (.goto 4, 3) := by decide +kernel
theorem dX9_isLost_37 : decode cX9_isLost 37 = .ok (.iconst 0, 1) := by decide +kernel
theorem dX9_isLost_38 : decode cX9_isLost 38 = .ok (.ireturn, 1) := by decide +kernel
def d_X9_isLost (x0 : Nat) (x1 : Int32) (x2 : Int32) (x3 : Int32) (x4 : Int32) (G : Hp) : Option (Int32 × Hp) :=
  gd (hc G x0 = 10) <|
  bo (d_X9_claimAt x0 x1 x2 x3 x4 G) fun v3 =>
  if v3 = (-1) then
    some (0, G)
  else
    b2 (d_X9_ownClaim x0 x1 x3 x4 G) fun v6 G7 =>
    bo (d_X9_isBetter v3 v6 G7) fun v9 =>
    if v9 = 0 then
      some (0, G7)
    else
      some (1, G7)
section
variable {p : Program} {l : Launch} {e : Env} {s : State} {m : MethodId} {args : Array Value} {below : List Frame} {meth : Method} {c : Code} {b0 : Nat} {D : va_G} {E : Nat → ClassId}
set_option maxHeartbeats 4000000 in
set_option maxRecDepth 100000 in
theorem k_X9_isLost (C : Cx p s m args meth c RX9 cX9_isLost 6 (some .boolean) b0 D E) {rr : Int32} {GG : Hp} {x0 : Nat} {x1 : Int32} {x2 : Int32} {x3 : Int32} {x4 : Int32} {G : Hp} {ls : Array Slot} {H : Heap} {locs : List Loc} : lx ls 6 [(0, .inr x0), (1, .inl x1), (2, .inl x2), (3, .inl x3), (4, .inl x4)] → Rp b0 D E G H → SS b0 s H locs → d_X9_isLost x0 x1 x2 x3 x4 G = some (rr, GG) → W p l e (rmd 6 (0) (0)) s m args below meth c H locs (0) (0) (MQ below (CQ b0 D E (some (.int rr)) GG) args s (0) (0) (fun q => b0 ≤ q)) (F0 m 0 ls []) := by
  intro hL hR hS hd
  unfold d_X9_isLost at hd
  have hx := C.1
  have hb := C.2.1
  refine x_aload_n C dX9_isLost_0 hL 0 rfl ?_
  refine x_iload_n C dX9_isLost_1 hL 1 rfl ?_
  refine x_iload_n C dX9_isLost_2 hL 2 rfl ?_
  refine x_iload_n C dX9_isLost_3 hL 3 rfl ?_
  refine x_iload C dX9_isLost_4 hL 4 rfl ?_
  obtain ⟨g1, hd⟩ := gd_ex hd
  obtain ⟨v3, h2, hd⟩ := bo_ex hd
  refine r_callV (a := x0) (ci := 9) (As := [.int x1, .int x2, .int x3, .int x4]) C (ct_X9_claimAt h2) mf_X9_claimAt ml_X9_197 mv_X9_claimAt rfl ⟨Nat.le_of_ble_eq_true rfl, Nat.le_of_ble_eq_true rfl⟩ dX9_isLost_6 (lx_size hL) rfl hR hS g1 ⟨Nat.le_refl _, Nat.le_refl _⟩ (cat_le [] (Nat.le_of_ble_eq_true rfl)) (fun H locs hR hS => ?_)
  refine W_st (st2 := [.int v3]) rfl ?_
  refine x_istore (lv' := [(5, .inl v3), (0, .inr x0), (1, .inl x1), (2, .inl x2), (3, .inl x3), (4, .inl x4)]) C dX9_isLost_9 hL (by decide) rfl (fun ls hL => ?_)
  refine x_iload C dX9_isLost_11 hL 0 rfl ?_
  refine lv_iconst (v := (-1)) hx hb dX9_isLost_13 (by decide) ?_
  refine lv_icmp_eq (tgt := 37) hx hb dX9_isLost_14 (by decide) (fun c4 => ?_) (fun c4 => ?_)
  · rw [if_pos c4] at hd
    refine lv_iconst (v := 0) hx hb dX9_isLost_37 (by decide) ?_
    cases hd
    exact r_zret C (by decide) dX9_isLost_38 hR hS
  · rw [if_neg c4] at hd
    refine x_iload C dX9_isLost_17 hL 0 rfl ?_
    refine x_aload_n C dX9_isLost_19 hL 1 rfl ?_
    refine x_iload_n C dX9_isLost_20 hL 2 rfl ?_
    refine x_iload_n C dX9_isLost_21 hL 4 rfl ?_
    refine x_iload C dX9_isLost_22 hL 5 rfl ?_
    obtain ⟨v6, G7, h5, hd⟩ := b2_ex hd
    refine r_callV (a := x0) (ci := 9) (As := [.int x1, .int x3, .int x4]) C (ct_X9_ownClaim h5) mf_X9_ownClaim ml_X9_200 mv_X9_ownClaim rfl ⟨Nat.le_of_ble_eq_true rfl, Nat.le_of_ble_eq_true rfl⟩ dX9_isLost_24 (lx_size hL) rfl hR hS g1 ⟨Nat.le_refl _, Nat.le_refl _⟩ (cat_le [.inl v3] (Nat.le_of_ble_eq_true rfl)) (fun H locs hR hS => ?_)
    refine W_st (st2 := [.int v6, .int v3]) rfl ?_
    obtain ⟨v9, h8, hd⟩ := bo_ex hd
    refine r_callS (As := [.int v3, .int v6]) C (ct_X9_isBetter h8) mf_X9_isBetter ml_X9_204 ms_X9_isBetter rfl ⟨Nat.le_of_ble_eq_true rfl, Nat.le_of_ble_eq_true rfl⟩ dX9_isLost_27 (lx_size hL) rfl hR hS ⟨Nat.le_refl _, Nat.le_refl _⟩ (cat_le [] (Nat.le_of_ble_eq_true rfl)) (fun H locs hR hS => ?_)
    refine W_st (st2 := [.int v9]) rfl ?_
    refine lv_if_eq (tgt := 37) hx hb dX9_isLost_30 (by decide) (fun c10 => ?_) (fun c10 => ?_)
    · rw [if_pos c10] at hd
      refine lv_iconst (v := 0) hx hb dX9_isLost_37 (by decide) ?_
      cases hd
      exact r_zret C (by decide) dX9_isLost_38 hR hS
    · rw [if_neg c10] at hd
      refine lv_iconst (v := 1) hx hb dX9_isLost_33 (by decide) ?_
      refine lv_goto (tgt := 38) hx hb dX9_isLost_34 (by decide) ?_
      cases hd
      exact r_zret C (by decide) dX9_isLost_38 hR hS
end
set_option maxHeartbeats 4000000 in
set_option maxRecDepth 100000 in
theorem ct_X9_isLost {l : Launch} {b0 : Nat} {D : va_G} {E : Nat → ClassId} {G : Hp} {a0 : Nat} {a1 : Int32} {a2 : Int32} {a3 : Int32} {a4 : Int32} {rr : Int32} {GG : Hp} (hd : d_X9_isLost a0 a1 a2 a3 a4 G = some (rr, GG)) : CT l yX9_isLost cX9_isLost 6 (some .boolean) 6 0 0 b0 D E [rv a0, .int a1, .int a2, .int a3, .int a4] G (some (.int rr)) GG := by
  refine CT_of (by decide +kernel) ?_
  intro p e s m below meth c C hnm hR
  refine r_entry [.inr a0, .inl a1, .inl a2, .inl a3, .inl a4] (n := 6) (Nat.le_of_ble_eq_true rfl) (lv := [(0, .inr a0), (1, .inl a1), (2, .inl a2), (3, .inl a3), (4, .inl a4)]) rfl (fun ls hL => ?_)
  exact k_X9_isLost C (lx_sub hL [0, 1, 2, 3, 4] rfl) hR ⟨fun _ _ => rfl, fun _ h => by cases h⟩ hd

/-! GroveWorksModel.isInShared(IIII)Z -/
theorem dX9_isInShared_0 : decode cX9_isInShared 0 = .ok (.aload_n 0, 1) := by decide +kernel
theorem dX9_isInShared_1 : decode cX9_isInShared 1 = .ok (.iload_n 1, 1) := by decide +kernel
theorem dX9_isInShared_2 : decode cX9_isInShared 2 = .ok (.iload_n 2, 1) := by decide +kernel
theorem dX9_isInShared_3 : decode cX9_isInShared 3 = .ok (.iload_n 3, 1) := by decide +kernel
theorem dX9_isInShared_4 : decode cX9_isInShared 4 = .ok (.iconst 0, 1) := by decide +kernel
theorem dX9_isInShared_5 : decode cX9_isInShared 5 = .ok (.invokevirtual 179, 3) := by decide +kernel
theorem dX9_isInShared_8 : decode cX9_isInShared 8 = .ok (.ifCond .le 15, 3) := by decide +kernel
theorem dX9_isInShared_11 : decode cX9_isInShared 11 = .ok (.aload_n 0, 1) := by decide +kernel
theorem dX9_isInShared_12 : decode cX9_isInShared 12 = .ok (.iload_n 1, 1) := by decide +kernel
theorem dX9_isInShared_13 : decode cX9_isInShared 13 = .ok (.iload_n 2, 1) := by decide +kernel
theorem dX9_isInShared_14 : decode cX9_isInShared 14 = .ok (.iload_n 3, 1) := by decide +kernel
theorem dX9_isInShared_15 : decode cX9_isInShared 15 = .ok (.iload 4, 2) := by decide +kernel
theorem dX9_isInShared_17 : decode cX9_isInShared 17 = .ok (.invokevirtual 207, 3) := by decide +kernel
theorem dX9_isInShared_20 : decode cX9_isInShared 20 = .ok (.ifCond .eq 13, 3) := by decide +kernel
theorem dX9_isInShared_23 : decode cX9_isInShared 23 = .ok (.aload_n 0, 1) := by decide +kernel
theorem dX9_isInShared_24 : decode cX9_isInShared 24 = .ok (.iload_n 1, 1) := by decide +kernel
theorem dX9_isInShared_25 : decode cX9_isInShared 25 = .ok (.iload_n 2, 1) := by decide +kernel
theorem dX9_isInShared_26 : decode cX9_isInShared 26 = .ok (.iload_n 3, 1) := by decide +kernel
theorem dX9_isInShared_27 : decode cX9_isInShared 27 = .ok (.invokevirtual 188, 3) := by decide +kernel
theorem dX9_isInShared_30 : decode cX9_isInShared 30 = .ok (.ifCond .eq 7, 3) := by decide +kernel
theorem dX9_isInShared_33 : decode cX9_isInShared 33 = .ok (.iconst 1, 1) := by decide +kernel
theorem dX9_isInShared_34 : decode cX9_isInShared 34 = .ok (.goto 4, 3) := by decide +kernel
theorem dX9_isInShared_37 : decode cX9_isInShared 37 = .ok (.iconst 0, 1) := by decide +kernel
theorem dX9_isInShared_38 : decode cX9_isInShared 38 = .ok (.istore 5, 2) := by decide +kernel
theorem dX9_isInShared_40 : decode cX9_isInShared 40 = .ok (.iload 5, 2) := by decide +kernel
theorem dX9_isInShared_42 : decode cX9_isInShared 42 = .ok (.ifCond .eq 19, 3) := by decide +kernel
theorem dX9_isInShared_45 : decode cX9_isInShared 45 = .ok (.aload_n 0, 1) := by decide +kernel
theorem dX9_isInShared_46 : decode cX9_isInShared 46 = .ok (.iload_n 1, 1) := by decide +kernel
theorem dX9_isInShared_47 : decode cX9_isInShared 47 = .ok (.iload_n 2, 1) := by decide +kernel
theorem dX9_isInShared_48 : decode cX9_isInShared 48 = .ok (.iload_n 3, 1) := by decide +kernel
theorem dX9_isInShared_49 : decode cX9_isInShared 49 = .ok (.iload 4, 2) := by decide +kernel
theorem dX9_isInShared_51 : decode cX9_isInShared 51 = .ok (.invokevirtual 211, 3) := by decide +kernel
theorem dX9_isInShared_54 : decode cX9_isInShared 54 = .ok (.ifCond .ne 7, 3) := by decide +kernel
theorem dX9_isInShared_57 : decode cX9_isInShared 57 = .ok (.iconst 1, 1) := by decide +kernel
theorem dX9_isInShared_58 : decode cX9_isInShared 58 = .ok (.goto 4, 3) := by decide +kernel
theorem dX9_isInShared_61 : decode cX9_isInShared 61 = .ok (.iconst 0, 1) := by decide +kernel
theorem dX9_isInShared_62 : decode cX9_isInShared 62 = .ok (.ireturn, 1) := by decide +kernel
def d_X9_isInShared_38 (x0 : Nat) (x1 : Int32) (x2 : Int32) (x3 : Int32) (x4 : Int32) (s0 : Int32) (G : Hp) : Option (Int32 × Hp) :=
  if s0 = 0 then
    some (0, G)
  else
    gd (hc G x0 = 10) <|
    b2 (d_X9_isLost x0 x1 x2 x3 x4 G) fun v4 G5 =>
    if v4 = 0 then
      some (1, G5)
    else
      some (0, G5)
def d_X9_isInShared_33 (x0 : Nat) (x1 : Int32) (x2 : Int32) (x3 : Int32) (x4 : Int32) (G : Hp) : Option (Int32 × Hp) :=
  d_X9_isInShared_38 x0 x1 x2 x3 x4 1 G
def d_X9_isInShared_23 (x0 : Nat) (x1 : Int32) (x2 : Int32) (x3 : Int32) (x4 : Int32) (G : Hp) : Option (Int32 × Hp) :=
  gd (hc G x0 = 10) <|
  bo (d_X9_isOwn x0 x1 x2 x3 G) fun v3 =>
  if v3 = 0 then
    d_X9_isInShared_38 x0 x1 x2 x3 x4 0 G
  else
    d_X9_isInShared_33 x0 x1 x2 x3 x4 G
def d_X9_isInShared (x0 : Nat) (x1 : Int32) (x2 : Int32) (x3 : Int32) (x4 : Int32) (G : Hp) : Option (Int32 × Hp) :=
  gd (hc G x0 = 10) <|
  bo (d_X9_joined x0 x1 x2 x3 0 G) fun v3 =>
  if v3 ≤ 0 then
    d_X9_isInShared_23 x0 x1 x2 x3 x4 G
  else
    bo (d_X9_isCutOff x0 x1 x2 x3 x4 G) fun v6 =>
    if v6 = 0 then
      d_X9_isInShared_33 x0 x1 x2 x3 x4 G
    else
      d_X9_isInShared_23 x0 x1 x2 x3 x4 G
section
variable {p : Program} {l : Launch} {e : Env} {s : State} {m : MethodId} {args : Array Value} {below : List Frame} {meth : Method} {c : Code} {b0 : Nat} {D : va_G} {E : Nat → ClassId}
set_option maxHeartbeats 4000000 in
set_option maxRecDepth 100000 in
theorem k_X9_isInShared_38 (C : Cx p s m args meth c RX9 cX9_isInShared 6 (some .boolean) b0 D E) {rr : Int32} {GG : Hp} {x0 : Nat} {x1 : Int32} {x2 : Int32} {x3 : Int32} {x4 : Int32} {s0 : Int32} {G : Hp} {ls : Array Slot} {H : Heap} {locs : List Loc} : lx ls 6 [(0, .inr x0), (1, .inl x1), (2, .inl x2), (3, .inl x3), (4, .inl x4)] → Rp b0 D E G H → SS b0 s H locs → d_X9_isInShared_38 x0 x1 x2 x3 x4 s0 G = some (rr, GG) → W p l e (rmd 7 (0) (0)) s m args below meth c H locs (0) (0) (MQ below (CQ b0 D E (some (.int rr)) GG) args s (0) (0) (fun q => b0 ≤ q)) (F0 m 38 ls [.int s0]) := by
  intro hL hR hS hd
  unfold d_X9_isInShared_38 at hd
  have hx := C.1
  have hb := C.2.1
  refine x_istore (lv' := [(5, .inl s0), (0, .inr x0), (1, .inl x1), (2, .inl x2), (3, .inl x3), (4, .inl x4)]) C dX9_isInShared_38 hL (by decide) rfl (fun ls hL => ?_)
  refine x_iload C dX9_isInShared_40 hL 0 rfl ?_
  refine lv_if_eq (tgt := 61) hx hb dX9_isInShared_42 (by decide) (fun c1 => ?_) (fun c1 => ?_)
  · rw [if_pos c1] at hd
    refine lv_iconst (v := 0) hx hb dX9_isInShared_61 (by decide) ?_
    cases hd
    exact r_zret C (by decide) dX9_isInShared_62 hR hS
  · rw [if_neg c1] at hd
    refine x_aload_n C dX9_isInShared_45 hL 1 rfl ?_
    refine x_iload_n C dX9_isInShared_46 hL 2 rfl ?_
    refine x_iload_n C dX9_isInShared_47 hL 3 rfl ?_
    refine x_iload_n C dX9_isInShared_48 hL 4 rfl ?_
    refine x_iload C dX9_isInShared_49 hL 5 rfl ?_
    obtain ⟨g2, hd⟩ := gd_ex hd
    obtain ⟨v4, G5, h3, hd⟩ := b2_ex hd
    refine r_callV (a := x0) (ci := 9) (As := [.int x1, .int x2, .int x3, .int x4]) C (ct_X9_isLost h3) mf_X9_isLost ml_X9_211 mv_X9_isLost rfl ⟨Nat.le_of_ble_eq_true rfl, Nat.le_of_ble_eq_true rfl⟩ dX9_isInShared_51 (lx_size hL) rfl hR hS g2 ⟨Nat.le_refl _, Nat.le_refl _⟩ (cat_le [] (Nat.le_of_ble_eq_true rfl)) (fun H locs hR hS => ?_)
    refine W_st (st2 := [.int v4]) rfl ?_
    refine lv_if_ne (tgt := 61) hx hb dX9_isInShared_54 (by decide) (fun c6 => ?_) (fun c6 => ?_)
    · rw [if_neg c6] at hd
      refine lv_iconst (v := 0) hx hb dX9_isInShared_61 (by decide) ?_
      cases hd
      exact r_zret C (by decide) dX9_isInShared_62 hR hS
    · rw [if_pos c6] at hd
      refine lv_iconst (v := 1) hx hb dX9_isInShared_57 (by decide) ?_
      refine lv_goto (tgt := 62) hx hb dX9_isInShared_58 (by decide) ?_
      cases hd
      exact r_zret C (by decide) dX9_isInShared_62 hR hS
set_option maxHeartbeats 4000000 in
set_option maxRecDepth 100000 in
theorem k_X9_isInShared_33 (C : Cx p s m args meth c RX9 cX9_isInShared 6 (some .boolean) b0 D E) {rr : Int32} {GG : Hp} {x0 : Nat} {x1 : Int32} {x2 : Int32} {x3 : Int32} {x4 : Int32} {G : Hp} {ls : Array Slot} {H : Heap} {locs : List Loc} : lx ls 6 [(0, .inr x0), (1, .inl x1), (2, .inl x2), (3, .inl x3), (4, .inl x4)] → Rp b0 D E G H → SS b0 s H locs → d_X9_isInShared_33 x0 x1 x2 x3 x4 G = some (rr, GG) → W p l e (rmd 7 (0) (0)) s m args below meth c H locs (0) (0) (MQ below (CQ b0 D E (some (.int rr)) GG) args s (0) (0) (fun q => b0 ≤ q)) (F0 m 33 ls []) := by
  intro hL hR hS hd
  unfold d_X9_isInShared_33 at hd
  have hx := C.1
  have hb := C.2.1
  refine lv_iconst (v := 1) hx hb dX9_isInShared_33 (by decide) ?_
  refine lv_goto (tgt := 38) hx hb dX9_isInShared_34 (by decide) ?_
  exact k_X9_isInShared_38 C hL hR hS hd
set_option maxHeartbeats 4000000 in
set_option maxRecDepth 100000 in
theorem k_X9_isInShared_23 (C : Cx p s m args meth c RX9 cX9_isInShared 6 (some .boolean) b0 D E) {rr : Int32} {GG : Hp} {x0 : Nat} {x1 : Int32} {x2 : Int32} {x3 : Int32} {x4 : Int32} {G : Hp} {ls : Array Slot} {H : Heap} {locs : List Loc} : lx ls 6 [(0, .inr x0), (1, .inl x1), (2, .inl x2), (3, .inl x3), (4, .inl x4)] → Rp b0 D E G H → SS b0 s H locs → d_X9_isInShared_23 x0 x1 x2 x3 x4 G = some (rr, GG) → W p l e (rmd 7 (0) (0)) s m args below meth c H locs (0) (0) (MQ below (CQ b0 D E (some (.int rr)) GG) args s (0) (0) (fun q => b0 ≤ q)) (F0 m 23 ls []) := by
  intro hL hR hS hd
  unfold d_X9_isInShared_23 at hd
  have hx := C.1
  have hb := C.2.1
  refine x_aload_n C dX9_isInShared_23 hL 0 rfl ?_
  refine x_iload_n C dX9_isInShared_24 hL 1 rfl ?_
  refine x_iload_n C dX9_isInShared_25 hL 2 rfl ?_
  refine x_iload_n C dX9_isInShared_26 hL 3 rfl ?_
  obtain ⟨g1, hd⟩ := gd_ex hd
  obtain ⟨v3, h2, hd⟩ := bo_ex hd
  refine r_callV (a := x0) (ci := 9) (As := [.int x1, .int x2, .int x3]) C (ct_X9_isOwn h2) mf_X9_isOwn ml_X9_188 mv_X9_isOwn rfl ⟨Nat.le_of_ble_eq_true rfl, Nat.le_of_ble_eq_true rfl⟩ dX9_isInShared_27 (lx_size hL) rfl hR hS g1 ⟨Nat.le_refl _, Nat.le_refl _⟩ (cat_le [] (Nat.le_of_ble_eq_true rfl)) (fun H locs hR hS => ?_)
  refine W_st (st2 := [.int v3]) rfl ?_
  refine lv_if_eq (tgt := 37) hx hb dX9_isInShared_30 (by decide) (fun c4 => ?_) (fun c4 => ?_)
  · rw [if_pos c4] at hd
    refine lv_iconst (v := 0) hx hb dX9_isInShared_37 (by decide) ?_
    exact k_X9_isInShared_38 C hL hR hS hd
  · rw [if_neg c4] at hd
    exact k_X9_isInShared_33 C hL hR hS hd
set_option maxHeartbeats 4000000 in
set_option maxRecDepth 100000 in
theorem k_X9_isInShared (C : Cx p s m args meth c RX9 cX9_isInShared 6 (some .boolean) b0 D E) {rr : Int32} {GG : Hp} {x0 : Nat} {x1 : Int32} {x2 : Int32} {x3 : Int32} {x4 : Int32} {G : Hp} {ls : Array Slot} {H : Heap} {locs : List Loc} : lx ls 6 [(0, .inr x0), (1, .inl x1), (2, .inl x2), (3, .inl x3), (4, .inl x4)] → Rp b0 D E G H → SS b0 s H locs → d_X9_isInShared x0 x1 x2 x3 x4 G = some (rr, GG) → W p l e (rmd 7 (0) (0)) s m args below meth c H locs (0) (0) (MQ below (CQ b0 D E (some (.int rr)) GG) args s (0) (0) (fun q => b0 ≤ q)) (F0 m 0 ls []) := by
  intro hL hR hS hd
  unfold d_X9_isInShared at hd
  have hx := C.1
  have hb := C.2.1
  refine x_aload_n C dX9_isInShared_0 hL 0 rfl ?_
  refine x_iload_n C dX9_isInShared_1 hL 1 rfl ?_
  refine x_iload_n C dX9_isInShared_2 hL 2 rfl ?_
  refine x_iload_n C dX9_isInShared_3 hL 3 rfl ?_
  refine lv_iconst (v := 0) hx hb dX9_isInShared_4 (by decide) ?_
  obtain ⟨g1, hd⟩ := gd_ex hd
  obtain ⟨v3, h2, hd⟩ := bo_ex hd
  refine r_callV (a := x0) (ci := 9) (As := [.int x1, .int x2, .int x3, .int 0]) C (ct_X9_joined h2) mf_X9_joined ml_X9_179 mv_X9_joined rfl ⟨Nat.le_of_ble_eq_true rfl, Nat.le_of_ble_eq_true rfl⟩ dX9_isInShared_5 (lx_size hL) rfl hR hS g1 ⟨Nat.le_refl _, Nat.le_refl _⟩ (cat_le [] (Nat.le_of_ble_eq_true rfl)) (fun H locs hR hS => ?_)
  refine W_st (st2 := [.int v3]) rfl ?_
  refine lv_if_le (tgt := 23) hx hb dX9_isInShared_8 (by decide) (fun c4 => ?_) (fun c4 => ?_)
  · rw [if_pos c4] at hd
    exact k_X9_isInShared_23 C hL hR hS hd
  · rw [if_neg c4] at hd
    refine x_aload_n C dX9_isInShared_11 hL 0 rfl ?_
    refine x_iload_n C dX9_isInShared_12 hL 1 rfl ?_
    refine x_iload_n C dX9_isInShared_13 hL 2 rfl ?_
    refine x_iload_n C dX9_isInShared_14 hL 3 rfl ?_
    refine x_iload C dX9_isInShared_15 hL 4 rfl ?_
    obtain ⟨v6, h5, hd⟩ := bo_ex hd
    refine r_callV (a := x0) (ci := 9) (As := [.int x1, .int x2, .int x3, .int x4]) C (ct_X9_isCutOff h5) mf_X9_isCutOff ml_X9_207 mv_X9_isCutOff rfl ⟨Nat.le_of_ble_eq_true rfl, Nat.le_of_ble_eq_true rfl⟩ dX9_isInShared_17 (lx_size hL) rfl hR hS g1 ⟨Nat.le_refl _, Nat.le_refl _⟩ (cat_le [] (Nat.le_of_ble_eq_true rfl)) (fun H locs hR hS => ?_)
    refine W_st (st2 := [.int v6]) rfl ?_
    refine lv_if_eq (tgt := 33) hx hb dX9_isInShared_20 (by decide) (fun c7 => ?_) (fun c7 => ?_)
    · rw [if_pos c7] at hd
      exact k_X9_isInShared_33 C hL hR hS hd
    · rw [if_neg c7] at hd
      exact k_X9_isInShared_23 C hL hR hS hd
end
set_option maxHeartbeats 4000000 in
set_option maxRecDepth 100000 in
theorem ct_X9_isInShared {l : Launch} {b0 : Nat} {D : va_G} {E : Nat → ClassId} {G : Hp} {a0 : Nat} {a1 : Int32} {a2 : Int32} {a3 : Int32} {a4 : Int32} {rr : Int32} {GG : Hp} (hd : d_X9_isInShared a0 a1 a2 a3 a4 G = some (rr, GG)) : CT l yX9_isInShared cX9_isInShared 6 (some .boolean) 7 0 0 b0 D E [rv a0, .int a1, .int a2, .int a3, .int a4] G (some (.int rr)) GG := by
  refine CT_of (by decide +kernel) ?_
  intro p e s m below meth c C hnm hR
  refine r_entry [.inr a0, .inl a1, .inl a2, .inl a3, .inl a4] (n := 6) (Nat.le_of_ble_eq_true rfl) (lv := [(0, .inr a0), (1, .inl a1), (2, .inl a2), (3, .inl a3), (4, .inl a4)]) rfl (fun ls hL => ?_)
  exact k_X9_isInShared C (lx_sub hL [0, 1, 2, 3, 4] rfl) hR ⟨fun _ _ => rfl, fun _ h => by cases h⟩ hd

/-! GroveWorksModel.isInAll(IIII)Z -/
theorem dX9_isInAll_0 : decode cX9_isInAll 0 = .ok (.aload_n 0, 1) := by decide +kernel
theorem dX9_isInAll_1 : decode cX9_isInAll 1 = .ok (.iload_n 1, 1) := by decide +kernel
theorem dX9_isInAll_2 : decode cX9_isInAll 2 = .ok (.iload_n 2, 1) := by decide +kernel
theorem dX9_isInAll_3 : decode cX9_isInAll 3 = .ok (.iload_n 3, 1) := by decide +kernel
theorem dX9_isInAll_4 : decode cX9_isInAll 4 = .ok (.iload 4, 2) := by decide +kernel
theorem dX9_isInAll_6 : decode cX9_isInAll 6 = .ok (.invokevirtual 214, 3) := by decide +kernel
theorem dX9_isInAll_9 : decode cX9_isInAll 9 = .ok (.ifCond .ne 29, 3) := by decide +kernel
theorem dX9_isInAll_12 : decode cX9_isInAll 12 = .ok (.aload_n 0, 1) := by decide +kernel
theorem dX9_isInAll_13 : decode cX9_isInAll 13 = .ok (.iload_n 1, 1) := by decide +kernel
theorem dX9_isInAll_14 : decode cX9_isInAll 14 = .ok (.iload_n 2, 1) := by decide +kernel
theorem dX9_isInAll_15 : decode cX9_isInAll 15 = .ok (.iload_n 3, 1) := by decide +kernel
theorem dX9_isInAll_16 : decode cX9_isInAll 16 = .ok (.iconst 1, 1) := by decide +kernel
theorem dX9_isInAll_17 : decode cX9_isInAll 17 = .ok (.iload 4, 2) := by decide +kernel
theorem dX9_isInAll_19 : decode cX9_isInAll 19 = .ok (.iadd, 1) := by decide +kernel
theorem dX9_isInAll_20 : decode cX9_isInAll 20 = .ok (.invokevirtual 179, 3) := by decide +kernel
theorem dX9_isInAll_23 : decode cX9_isInAll 23 = .ok (.ifCond .le 19, 3) := by decide +kernel
theorem dX9_isInAll_26 : decode cX9_isInAll 26 = .ok (.aload_n 0, 1) := by decide +kernel
theorem dX9_isInAll_27 : decode cX9_isInAll 27 = .ok (.iload_n 1, 1) := by decide +kernel
theorem dX9_isInAll_28 : decode cX9_isInAll 28 = .ok (.iload_n 2, 1) := by decide +kernel
theorem dX9_isInAll_29 : decode cX9_isInAll 29 = .ok (.iload_n 3, 1) := by decide +kernel
theorem dX9_isInAll_30 : decode cX9_isInAll 30 = .ok (.iload 4, 2) := by decide +kernel
theorem dX9_isInAll_32 : decode cX9_isInAll 32 = .ok (.invokevirtual 211, 3) := by decide +kernel
theorem dX9_isInAll_35 : decode cX9_isInAll 35 = .ok (.ifCond .ne 7, 3) := by decide +kernel
theorem dX9_isInAll_38 : decode cX9_isInAll 38 = .ok (.iconst 1, 1) := by decide +kernel
theorem dX9_isInAll_39 : decode cX9_isInAll 39 = .ok (.goto 4, 3) := by decide +kernel
theorem dX9_isInAll_42 : decode cX9_isInAll 42 = .ok (.iconst 0, 1) := by decide +kernel
theorem dX9_isInAll_43 : decode cX9_isInAll 43 = .ok (.ireturn, 1) := by decide +kernel
def d_X9_isInAll (x0 : Nat) (x1 : Int32) (x2 : Int32) (x3 : Int32) (x4 : Int32) (G : Hp) : Option (Int32 × Hp) :=
  gd (hc G x0 = 10) <|
  b2 (d_X9_isInShared x0 x1 x2 x3 x4 G) fun v3 G4 =>
  if v3 = 0 then
    gd (hc G4 x0 = 10) <|
    bo (d_X9_joined x0 x1 x2 x3 ((1 + x4)) G4) fun v8 =>
    if v8 ≤ 0 then
      some (0, G4)
    else
      b2 (d_X9_isLost x0 x1 x2 x3 x4 G4) fun v11 G12 =>
      if v11 = 0 then
        some (1, G12)
      else
        some (0, G12)
  else
    some (1, G4)
section
variable {p : Program} {l : Launch} {e : Env} {s : State} {m : MethodId} {args : Array Value} {below : List Frame} {meth : Method} {c : Code} {b0 : Nat} {D : va_G} {E : Nat → ClassId}
set_option maxHeartbeats 4000000 in
set_option maxRecDepth 100000 in
theorem k_X9_isInAll (C : Cx p s m args meth c RX9 cX9_isInAll 5 (some .boolean) b0 D E) {rr : Int32} {GG : Hp} {x0 : Nat} {x1 : Int32} {x2 : Int32} {x3 : Int32} {x4 : Int32} {G : Hp} {ls : Array Slot} {H : Heap} {locs : List Loc} : lx ls 5 [(0, .inr x0), (1, .inl x1), (2, .inl x2), (3, .inl x3), (4, .inl x4)] → Rp b0 D E G H → SS b0 s H locs → d_X9_isInAll x0 x1 x2 x3 x4 G = some (rr, GG) → W p l e (rmd 8 (0) (0)) s m args below meth c H locs (0) (0) (MQ below (CQ b0 D E (some (.int rr)) GG) args s (0) (0) (fun q => b0 ≤ q)) (F0 m 0 ls []) := by
  intro hL hR hS hd
  unfold d_X9_isInAll at hd
  have hx := C.1
  have hb := C.2.1
  refine x_aload_n C dX9_isInAll_0 hL 0 rfl ?_
  refine x_iload_n C dX9_isInAll_1 hL 1 rfl ?_
  refine x_iload_n C dX9_isInAll_2 hL 2 rfl ?_
  refine x_iload_n C dX9_isInAll_3 hL 3 rfl ?_
  refine x_iload C dX9_isInAll_4 hL 4 rfl ?_
  obtain ⟨g1, hd⟩ := gd_ex hd
  obtain ⟨v3, G4, h2, hd⟩ := b2_ex hd
  refine r_callV (a := x0) (ci := 9) (As := [.int x1, .int x2, .int x3, .int x4]) C (ct_X9_isInShared h2) mf_X9_isInShared ml_X9_214 mv_X9_isInShared rfl ⟨Nat.le_of_ble_eq_true rfl, Nat.le_of_ble_eq_true rfl⟩ dX9_isInAll_6 (lx_size hL) rfl hR hS g1 ⟨Nat.le_refl _, Nat.le_refl _⟩ (cat_le [] (Nat.le_of_ble_eq_true rfl)) (fun H locs hR hS => ?_)
  refine W_st (st2 := [.int v3]) rfl ?_
  refine lv_if_ne (tgt := 38) hx hb dX9_isInAll_9 (by decide) (fun c5 => ?_) (fun c5 => ?_)
  · rw [if_neg c5] at hd
    refine lv_iconst (v := 1) hx hb dX9_isInAll_38 (by decide) ?_
    refine lv_goto (tgt := 43) hx hb dX9_isInAll_39 (by decide) ?_
    cases hd
    exact r_zret C (by decide) dX9_isInAll_43 hR hS
  · rw [if_pos c5] at hd
    refine x_aload_n C dX9_isInAll_12 hL 0 rfl ?_
    refine x_iload_n C dX9_isInAll_13 hL 1 rfl ?_
    refine x_iload_n C dX9_isInAll_14 hL 2 rfl ?_
    refine x_iload_n C dX9_isInAll_15 hL 3 rfl ?_
    refine lv_iconst (v := 1) hx hb dX9_isInAll_16 (by decide) ?_
    refine x_iload C dX9_isInAll_17 hL 4 rfl ?_
    refine lv_iadd hx hb dX9_isInAll_19 ?_
    obtain ⟨g6, hd⟩ := gd_ex hd
    obtain ⟨v8, h7, hd⟩ := bo_ex hd
    refine r_callV (a := x0) (ci := 9) (As := [.int x1, .int x2, .int x3, .int ((1 + x4))]) C (ct_X9_joined h7) mf_X9_joined ml_X9_179 mv_X9_joined rfl ⟨Nat.le_of_ble_eq_true rfl, Nat.le_of_ble_eq_true rfl⟩ dX9_isInAll_20 (lx_size hL) rfl hR hS g6 ⟨Nat.le_refl _, Nat.le_refl _⟩ (cat_le [] (Nat.le_of_ble_eq_true rfl)) (fun H locs hR hS => ?_)
    refine W_st (st2 := [.int v8]) rfl ?_
    refine lv_if_le (tgt := 42) hx hb dX9_isInAll_23 (by decide) (fun c9 => ?_) (fun c9 => ?_)
    · rw [if_pos c9] at hd
      refine lv_iconst (v := 0) hx hb dX9_isInAll_42 (by decide) ?_
      cases hd
      exact r_zret C (by decide) dX9_isInAll_43 hR hS
    · rw [if_neg c9] at hd
      refine x_aload_n C dX9_isInAll_26 hL 0 rfl ?_
      refine x_iload_n C dX9_isInAll_27 hL 1 rfl ?_
      refine x_iload_n C dX9_isInAll_28 hL 2 rfl ?_
      refine x_iload_n C dX9_isInAll_29 hL 3 rfl ?_
      refine x_iload C dX9_isInAll_30 hL 4 rfl ?_
      obtain ⟨v11, G12, h10, hd⟩ := b2_ex hd
      refine r_callV (a := x0) (ci := 9) (As := [.int x1, .int x2, .int x3, .int x4]) C (ct_X9_isLost h10) mf_X9_isLost ml_X9_211 mv_X9_isLost rfl ⟨Nat.le_of_ble_eq_true rfl, Nat.le_of_ble_eq_true rfl⟩ dX9_isInAll_32 (lx_size hL) rfl hR hS g6 ⟨Nat.le_refl _, Nat.le_refl _⟩ (cat_le [] (Nat.le_of_ble_eq_true rfl)) (fun H locs hR hS => ?_)
      refine W_st (st2 := [.int v11]) rfl ?_
      refine lv_if_ne (tgt := 42) hx hb dX9_isInAll_35 (by decide) (fun c13 => ?_) (fun c13 => ?_)
      · rw [if_neg c13] at hd
        refine lv_iconst (v := 0) hx hb dX9_isInAll_42 (by decide) ?_
        cases hd
        exact r_zret C (by decide) dX9_isInAll_43 hR hS
      · rw [if_pos c13] at hd
        refine lv_iconst (v := 1) hx hb dX9_isInAll_38 (by decide) ?_
        refine lv_goto (tgt := 43) hx hb dX9_isInAll_39 (by decide) ?_
        cases hd
        exact r_zret C (by decide) dX9_isInAll_43 hR hS
end
set_option maxHeartbeats 4000000 in
set_option maxRecDepth 100000 in
theorem ct_X9_isInAll {l : Launch} {b0 : Nat} {D : va_G} {E : Nat → ClassId} {G : Hp} {a0 : Nat} {a1 : Int32} {a2 : Int32} {a3 : Int32} {a4 : Int32} {rr : Int32} {GG : Hp} (hd : d_X9_isInAll a0 a1 a2 a3 a4 G = some (rr, GG)) : CT l yX9_isInAll cX9_isInAll 5 (some .boolean) 8 0 0 b0 D E [rv a0, .int a1, .int a2, .int a3, .int a4] G (some (.int rr)) GG := by
  refine CT_of (by decide +kernel) ?_
  intro p e s m below meth c C hnm hR
  refine r_entry [.inr a0, .inl a1, .inl a2, .inl a3, .inl a4] (n := 5) (Nat.le_of_ble_eq_true rfl) (lv := [(0, .inr a0), (1, .inl a1), (2, .inl a2), (3, .inl a3), (4, .inl a4)]) rfl (fun ls hL => ?_)
  exact k_X9_isInAll C (lx_sub hL [0, 1, 2, 3, 4] rfl) hR ⟨fun _ _ => rfl, fun _ h => by cases h⟩ hd

/-! GroveWorksModel.shared(III)I -/
theorem dX9_shared_0 : decode cX9_shared 0 = .ok (.iconst 0, 1) := by decide +kernel
theorem dX9_shared_1 : decode cX9_shared 1 = .ok (.istore 4, 2) := by decide +kernel
theorem dX9_shared_3 : decode cX9_shared 3 = .ok (.iconst 0, 1) := by decide +kernel
theorem dX9_shared_4 : decode cX9_shared 4 = .ok (.istore 5, 2) := by decide +kernel
theorem dX9_shared_6 : decode cX9_shared 6 = .ok (.iload 5, 2) := by decide +kernel
theorem dX9_shared_8 : decode cX9_shared 8 = .ok (.iconst 4, 1) := by decide +kernel
theorem dX9_shared_9 : decode cX9_shared 9 = .ok (.if_icmp .ge 30, 3) := by decide +kernel
theorem dX9_shared_12 : decode cX9_shared 12 = .ok (.aload_n 0, 1) := by decide +kernel
theorem dX9_shared_13 : decode cX9_shared 13 = .ok (.iload_n 1, 1) := by decide +kernel
theorem dX9_shared_14 : decode cX9_shared 14 = .ok (.iload 5, 2) := by decide +kernel
theorem dX9_shared_16 : decode cX9_shared 16 = .ok (.iload_n 2, 1) := by decide +kernel
theorem dX9_shared_17 : decode cX9_shared 17 = .ok (.iload_n 3, 1) := by decide +kernel
theorem dX9_shared_18 : decode cX9_shared 18 = .ok (.invokevirtual 214, 3) := by decide +kernel
theorem dX9_shared_21 : decode cX9_shared 21 = .ok (.ifCond .eq 12, 3) := by decide +kernel
theorem dX9_shared_24 : decode cX9_shared 24 = .ok (.iload 4, 2) := by decide +kernel
theorem dX9_shared_26 : decode cX9_shared 26 = .ok (.iconst 1, 1) := by decide +kernel
theorem dX9_shared_27 : decode cX9_shared 27 = .ok (.iload 5, 2) := by decide +kernel
theorem dX9_shared_29 : decode cX9_shared 29 = .ok (.ishl, 1) := by decide +kernel
theorem dX9_shared_30 : decode cX9_shared 30 = .ok (.ior, 1) := by decide +kernel
theorem dX9_shared_31 : decode cX9_shared 31 = .ok (.istore 4, 2) := by decide +kernel
theorem dX9_shared_33 : decode cX9_shared 33 = .ok (.iinc 5 1, 3) := by decide +kernel
theorem dX9_shared_36 : decode cX9_shared 36 = .ok (.goto (-30), 3) := by decide +kernel
theorem dX9_shared_39 : decode cX9_shared 39 = .ok (.iload 4, 2) := by decide +kernel
theorem dX9_shared_41 : decode cX9_shared 41 = .ok (.ireturn, 1) := by decide +kernel
def d_X9_shared_6 : Nat → Nat → Int32 → Int32 → Int32 → Int32 → Int32 → Hp → Option (Int32 × Hp)
  | 0, _, _, _, _, _, _, _ => none
  | n_ + 1, x0, x1, x2, x3, x4, x5, G =>
    if 4 ≤ x5 then
      some (x4, G)
    else
      gd (hc G x0 = 10) <|
      b2 (d_X9_isInShared x0 x1 x5 x2 x3 G) fun v4 G5 =>
      if v4 = 0 then
        d_X9_shared_6 n_ x0 x1 x2 x3 x4 ((x5 + 1)) G5
      else
        bd ((x4 ||| ((1 <<< (x5 &&& 31))))) fun v7 =>
        d_X9_shared_6 n_ x0 x1 x2 x3 v7 ((x5 + 1)) G5
def d_X9_shared (x0 : Nat) (x1 : Int32) (x2 : Int32) (x3 : Int32) (G : Hp) : Option (Int32 × Hp) :=
  d_X9_shared_6 FU x0 x1 x2 x3 0 0 G
section
variable {p : Program} {l : Launch} {e : Env} {s : State} {m : MethodId} {args : Array Value} {below : List Frame} {meth : Method} {c : Code} {b0 : Nat} {D : va_G} {E : Nat → ClassId}
set_option maxHeartbeats 4000000 in
set_option maxRecDepth 100000 in
theorem k_X9_shared_6 (C : Cx p s m args meth c RX9 cX9_shared 6 (some .int) b0 D E) {rr : Int32} {GG : Hp} : ∀ (n_ : Nat) {x0 : Nat} {x1 : Int32} {x2 : Int32} {x3 : Int32} {x4 : Int32} {x5 : Int32} {G : Hp} {ls : Array Slot} {H : Heap} {locs : List Loc}, lx ls 6 [(0, .inr x0), (1, .inl x1), (2, .inl x2), (3, .inl x3), (4, .inl x4), (5, .inl x5)] → Rp b0 D E G H → SS b0 s H locs → d_X9_shared_6 n_ x0 x1 x2 x3 x4 x5 G = some (rr, GG) → W p l e (rmd 8 (0) (0)) s m args below meth c H locs (0) (0) (MQ below (CQ b0 D E (some (.int rr)) GG) args s (0) (0) (fun q => b0 ≤ q)) (F0 m 6 ls []) := by
  intro n_
  induction n_ with
  | zero =>
    intro x0 x1 x2 x3 x4 x5 G ls H locs hL hR hS hd
    cases (show (none : Option _) = some _ from hd)
  | succ n_ ih =>
    intro x0 x1 x2 x3 x4 x5 G ls H locs hL hR hS hd
    rw [d_X9_shared_6.eq_2] at hd
    have hx := C.1
    have hb := C.2.1
    refine x_iload C dX9_shared_6 hL 5 rfl ?_
    refine lv_iconst (v := 4) hx hb dX9_shared_8 (by decide) ?_
    refine lv_icmp_ge (tgt := 39) hx hb dX9_shared_9 (by decide) (fun c1 => ?_) (fun c1 => ?_)
    · rw [if_pos c1] at hd
      refine x_iload C dX9_shared_39 hL 4 rfl ?_
      cases hd
      exact r_iret C dX9_shared_41 hR hS
    · rw [if_neg c1] at hd
      refine x_aload_n C dX9_shared_12 hL 0 rfl ?_
      refine x_iload_n C dX9_shared_13 hL 1 rfl ?_
      refine x_iload C dX9_shared_14 hL 5 rfl ?_
      refine x_iload_n C dX9_shared_16 hL 2 rfl ?_
      refine x_iload_n C dX9_shared_17 hL 3 rfl ?_
      obtain ⟨g2, hd⟩ := gd_ex hd
      obtain ⟨v4, G5, h3, hd⟩ := b2_ex hd
      refine r_callV (a := x0) (ci := 9) (As := [.int x1, .int x5, .int x2, .int x3]) C (ct_X9_isInShared h3) mf_X9_isInShared ml_X9_214 mv_X9_isInShared rfl ⟨Nat.le_of_ble_eq_true rfl, Nat.le_of_ble_eq_true rfl⟩ dX9_shared_18 (lx_size hL) rfl hR hS g2 ⟨Nat.le_refl _, Nat.le_refl _⟩ (cat_le [] (Nat.le_of_ble_eq_true rfl)) (fun H locs hR hS => ?_)
      refine W_st (st2 := [.int v4]) rfl ?_
      refine lv_if_eq (tgt := 33) hx hb dX9_shared_21 (by decide) (fun c6 => ?_) (fun c6 => ?_)
      · rw [if_pos c6] at hd
        refine x_iinc (lv' := [(5, .inl ((x5 + 1))), (0, .inr x0), (1, .inl x1), (2, .inl x2), (3, .inl x3), (4, .inl x4)]) C dX9_shared_33 hL 5 rfl rfl (by decide) rfl (fun ls hL => ?_)
        refine lv_goto (tgt := 6) hx hb dX9_shared_36 (by decide) ?_
        exact ih (lx_sub hL [1, 2, 3, 4, 5, 0] rfl) hR hS hd
      · rw [if_neg c6] at hd
        refine x_iload C dX9_shared_24 hL 4 rfl ?_
        refine lv_iconst (v := 1) hx hb dX9_shared_26 (by decide) ?_
        refine x_iload C dX9_shared_27 hL 5 rfl ?_
        refine lv_ishl hx hb dX9_shared_29 ?_
        refine lv_ior hx hb dX9_shared_30 ?_
        obtain ⟨v7, ev7, hd⟩ := bd_ex hd
        rw [← ev7]
        refine x_istore (lv' := [(4, .inl v7), (0, .inr x0), (1, .inl x1), (2, .inl x2), (3, .inl x3), (5, .inl x5)]) C dX9_shared_31 hL (by decide) rfl (fun ls hL => ?_)
        refine x_iinc (lv' := [(5, .inl ((x5 + 1))), (4, .inl v7), (0, .inr x0), (1, .inl x1), (2, .inl x2), (3, .inl x3)]) C dX9_shared_33 hL 5 rfl rfl (by decide) rfl (fun ls hL => ?_)
        refine lv_goto (tgt := 6) hx hb dX9_shared_36 (by decide) ?_
        exact ih (lx_sub hL [2, 3, 4, 5, 1, 0] rfl) hR hS hd
set_option maxHeartbeats 4000000 in
set_option maxRecDepth 100000 in
theorem k_X9_shared (C : Cx p s m args meth c RX9 cX9_shared 6 (some .int) b0 D E) {rr : Int32} {GG : Hp} {x0 : Nat} {x1 : Int32} {x2 : Int32} {x3 : Int32} {G : Hp} {ls : Array Slot} {H : Heap} {locs : List Loc} : lx ls 6 [(0, .inr x0), (1, .inl x1), (2, .inl x2), (3, .inl x3)] → Rp b0 D E G H → SS b0 s H locs → d_X9_shared x0 x1 x2 x3 G = some (rr, GG) → W p l e (rmd 8 (0) (0)) s m args below meth c H locs (0) (0) (MQ below (CQ b0 D E (some (.int rr)) GG) args s (0) (0) (fun q => b0 ≤ q)) (F0 m 0 ls []) := by
  intro hL hR hS hd
  unfold d_X9_shared at hd
  have hx := C.1
  have hb := C.2.1
  refine lv_iconst (v := 0) hx hb dX9_shared_0 (by decide) ?_
  refine x_istore (lv' := [(4, .inl 0), (0, .inr x0), (1, .inl x1), (2, .inl x2), (3, .inl x3)]) C dX9_shared_1 hL (by decide) rfl (fun ls hL => ?_)
  refine lv_iconst (v := 0) hx hb dX9_shared_3 (by decide) ?_
  refine x_istore (lv' := [(5, .inl 0), (4, .inl 0), (0, .inr x0), (1, .inl x1), (2, .inl x2), (3, .inl x3)]) C dX9_shared_4 hL (by decide) rfl (fun ls hL => ?_)
  exact k_X9_shared_6 C FU (lx_sub hL [2, 3, 4, 5, 1, 0] rfl) hR hS hd
end
set_option maxHeartbeats 4000000 in
set_option maxRecDepth 100000 in
theorem ct_X9_shared {l : Launch} {b0 : Nat} {D : va_G} {E : Nat → ClassId} {G : Hp} {a0 : Nat} {a1 : Int32} {a2 : Int32} {a3 : Int32} {rr : Int32} {GG : Hp} (hd : d_X9_shared a0 a1 a2 a3 G = some (rr, GG)) : CT l yX9_shared cX9_shared 6 (some .int) 8 0 0 b0 D E [rv a0, .int a1, .int a2, .int a3] G (some (.int rr)) GG := by
  refine CT_of (by decide +kernel) ?_
  intro p e s m below meth c C hnm hR
  refine r_entry [.inr a0, .inl a1, .inl a2, .inl a3] (n := 6) (Nat.le_of_ble_eq_true rfl) (lv := [(0, .inr a0), (1, .inl a1), (2, .inl a2), (3, .inl a3)]) rfl (fun ls hL => ?_)
  exact k_X9_shared C (lx_sub hL [0, 1, 2, 3] rfl) hR ⟨fun _ _ => rfl, fun _ h => by cases h⟩ hd

/-! GroveWorksModel.all(III)I -/
theorem dX9_all_0 : decode cX9_all 0 = .ok (.iconst 0, 1) := by decide +kernel
theorem dX9_all_1 : decode cX9_all 1 = .ok (.istore 4, 2) := by decide +kernel
theorem dX9_all_3 : decode cX9_all 3 = .ok (.iconst 0, 1) := by decide +kernel
theorem dX9_all_4 : decode cX9_all 4 = .ok (.istore 5, 2) := by decide +kernel
theorem dX9_all_6 : decode cX9_all 6 = .ok (.iload 5, 2) := by decide +kernel
theorem dX9_all_8 : decode cX9_all 8 = .ok (.iconst 4, 1) := by decide +kernel
theorem dX9_all_9 : decode cX9_all 9 = .ok (.if_icmp .ge 30, 3) := by decide +kernel
theorem dX9_all_12 : decode cX9_all 12 = .ok (.aload_n 0, 1) := by decide +kernel
theorem dX9_all_13 : decode cX9_all 13 = .ok (.iload_n 1, 1) := by decide +kernel
theorem dX9_all_14 : decode cX9_all 14 = .ok (.iload 5, 2) := by decide +kernel
theorem dX9_all_16 : decode cX9_all 16 = .ok (.iload_n 2, 1) := by decide +kernel
theorem dX9_all_17 : decode cX9_all 17 = .ok (.iload_n 3, 1) := by decide +kernel
theorem dX9_all_18 : decode cX9_all 18 = .ok (.invokevirtual 217, 3) := by decide +kernel
theorem dX9_all_21 : decode cX9_all 21 = .ok (.ifCond .eq 12, 3) := by decide +kernel
theorem dX9_all_24 : decode cX9_all 24 = .ok (.iload 4, 2) := by decide +kernel
theorem dX9_all_26 : decode cX9_all 26 = .ok (.iconst 1, 1) := by decide +kernel
theorem dX9_all_27 : decode cX9_all 27 = .ok (.iload 5, 2) := by decide +kernel
theorem dX9_all_29 : decode cX9_all 29 = .ok (.ishl, 1) := by decide +kernel
theorem dX9_all_30 : decode cX9_all 30 = .ok (.ior, 1) := by decide +kernel
theorem dX9_all_31 : decode cX9_all 31 = .ok (.istore 4, 2) := by decide +kernel
theorem dX9_all_33 : decode cX9_all 33 = .ok (.iinc 5 1, 3) := by decide +kernel
theorem dX9_all_36 : decode cX9_all 36 = .ok (.goto (-30), 3) := by decide +kernel
theorem dX9_all_39 : decode cX9_all 39 = .ok (.iload 4, 2) := by decide +kernel
theorem dX9_all_41 : decode cX9_all 41 = .ok (.ireturn, 1) := by decide +kernel
def d_X9_all_6 : Nat → Nat → Int32 → Int32 → Int32 → Int32 → Int32 → Hp → Option (Int32 × Hp)
  | 0, _, _, _, _, _, _, _ => none
  | n_ + 1, x0, x1, x2, x3, x4, x5, G =>
    if 4 ≤ x5 then
      some (x4, G)
    else
      gd (hc G x0 = 10) <|
      b2 (d_X9_isInAll x0 x1 x5 x2 x3 G) fun v4 G5 =>
      if v4 = 0 then
        d_X9_all_6 n_ x0 x1 x2 x3 x4 ((x5 + 1)) G5
      else
        bd ((x4 ||| ((1 <<< (x5 &&& 31))))) fun v7 =>
        d_X9_all_6 n_ x0 x1 x2 x3 v7 ((x5 + 1)) G5
def d_X9_all (x0 : Nat) (x1 : Int32) (x2 : Int32) (x3 : Int32) (G : Hp) : Option (Int32 × Hp) :=
  d_X9_all_6 FU x0 x1 x2 x3 0 0 G
section
variable {p : Program} {l : Launch} {e : Env} {s : State} {m : MethodId} {args : Array Value} {below : List Frame} {meth : Method} {c : Code} {b0 : Nat} {D : va_G} {E : Nat → ClassId}
set_option maxHeartbeats 4000000 in
set_option maxRecDepth 100000 in
theorem k_X9_all_6 (C : Cx p s m args meth c RX9 cX9_all 6 (some .int) b0 D E) {rr : Int32} {GG : Hp} : ∀ (n_ : Nat) {x0 : Nat} {x1 : Int32} {x2 : Int32} {x3 : Int32} {x4 : Int32} {x5 : Int32} {G : Hp} {ls : Array Slot} {H : Heap} {locs : List Loc}, lx ls 6 [(0, .inr x0), (1, .inl x1), (2, .inl x2), (3, .inl x3), (4, .inl x4), (5, .inl x5)] → Rp b0 D E G H → SS b0 s H locs → d_X9_all_6 n_ x0 x1 x2 x3 x4 x5 G = some (rr, GG) → W p l e (rmd 9 (0) (0)) s m args below meth c H locs (0) (0) (MQ below (CQ b0 D E (some (.int rr)) GG) args s (0) (0) (fun q => b0 ≤ q)) (F0 m 6 ls []) := by
  intro n_
  induction n_ with
  | zero =>
    intro x0 x1 x2 x3 x4 x5 G ls H locs hL hR hS hd
    cases (show (none : Option _) = some _ from hd)
  | succ n_ ih =>
    intro x0 x1 x2 x3 x4 x5 G ls H locs hL hR hS hd
    rw [d_X9_all_6.eq_2] at hd
    have hx := C.1
    have hb := C.2.1
    refine x_iload C dX9_all_6 hL 5 rfl ?_
    refine lv_iconst (v := 4) hx hb dX9_all_8 (by decide) ?_
    refine lv_icmp_ge (tgt := 39) hx hb dX9_all_9 (by decide) (fun c1 => ?_) (fun c1 => ?_)
    · rw [if_pos c1] at hd
      refine x_iload C dX9_all_39 hL 4 rfl ?_
      cases hd
      exact r_iret C dX9_all_41 hR hS
    · rw [if_neg c1] at hd
      refine x_aload_n C dX9_all_12 hL 0 rfl ?_
      refine x_iload_n C dX9_all_13 hL 1 rfl ?_
      refine x_iload C dX9_all_14 hL 5 rfl ?_
      refine x_iload_n C dX9_all_16 hL 2 rfl ?_
      refine x_iload_n C dX9_all_17 hL 3 rfl ?_
      obtain ⟨g2, hd⟩ := gd_ex hd
      obtain ⟨v4, G5, h3, hd⟩ := b2_ex hd
      refine r_callV (a := x0) (ci := 9) (As := [.int x1, .int x5, .int x2, .int x3]) C (ct_X9_isInAll h3) mf_X9_isInAll ml_X9_217 mv_X9_isInAll rfl ⟨Nat.le_of_ble_eq_true rfl, Nat.le_of_ble_eq_true rfl⟩ dX9_all_18 (lx_size hL) rfl hR hS g2 ⟨Nat.le_refl _, Nat.le_refl _⟩ (cat_le [] (Nat.le_of_ble_eq_true rfl)) (fun H locs hR hS => ?_)
      refine W_st (st2 := [.int v4]) rfl ?_
      refine lv_if_eq (tgt := 33) hx hb dX9_all_21 (by decide) (fun c6 => ?_) (fun c6 => ?_)
      · rw [if_pos c6] at hd
        refine x_iinc (lv' := [(5, .inl ((x5 + 1))), (0, .inr x0), (1, .inl x1), (2, .inl x2), (3, .inl x3), (4, .inl x4)]) C dX9_all_33 hL 5 rfl rfl (by decide) rfl (fun ls hL => ?_)
        refine lv_goto (tgt := 6) hx hb dX9_all_36 (by decide) ?_
        exact ih (lx_sub hL [1, 2, 3, 4, 5, 0] rfl) hR hS hd
      · rw [if_neg c6] at hd
        refine x_iload C dX9_all_24 hL 4 rfl ?_
        refine lv_iconst (v := 1) hx hb dX9_all_26 (by decide) ?_
        refine x_iload C dX9_all_27 hL 5 rfl ?_
        refine lv_ishl hx hb dX9_all_29 ?_
        refine lv_ior hx hb dX9_all_30 ?_
        obtain ⟨v7, ev7, hd⟩ := bd_ex hd
        rw [← ev7]
        refine x_istore (lv' := [(4, .inl v7), (0, .inr x0), (1, .inl x1), (2, .inl x2), (3, .inl x3), (5, .inl x5)]) C dX9_all_31 hL (by decide) rfl (fun ls hL => ?_)
        refine x_iinc (lv' := [(5, .inl ((x5 + 1))), (4, .inl v7), (0, .inr x0), (1, .inl x1), (2, .inl x2), (3, .inl x3)]) C dX9_all_33 hL 5 rfl rfl (by decide) rfl (fun ls hL => ?_)
        refine lv_goto (tgt := 6) hx hb dX9_all_36 (by decide) ?_
        exact ih (lx_sub hL [2, 3, 4, 5, 1, 0] rfl) hR hS hd
set_option maxHeartbeats 4000000 in
set_option maxRecDepth 100000 in
theorem k_X9_all (C : Cx p s m args meth c RX9 cX9_all 6 (some .int) b0 D E) {rr : Int32} {GG : Hp} {x0 : Nat} {x1 : Int32} {x2 : Int32} {x3 : Int32} {G : Hp} {ls : Array Slot} {H : Heap} {locs : List Loc} : lx ls 6 [(0, .inr x0), (1, .inl x1), (2, .inl x2), (3, .inl x3)] → Rp b0 D E G H → SS b0 s H locs → d_X9_all x0 x1 x2 x3 G = some (rr, GG) → W p l e (rmd 9 (0) (0)) s m args below meth c H locs (0) (0) (MQ below (CQ b0 D E (some (.int rr)) GG) args s (0) (0) (fun q => b0 ≤ q)) (F0 m 0 ls []) := by
  intro hL hR hS hd
  unfold d_X9_all at hd
  have hx := C.1
  have hb := C.2.1
  refine lv_iconst (v := 0) hx hb dX9_all_0 (by decide) ?_
  refine x_istore (lv' := [(4, .inl 0), (0, .inr x0), (1, .inl x1), (2, .inl x2), (3, .inl x3)]) C dX9_all_1 hL (by decide) rfl (fun ls hL => ?_)
  refine lv_iconst (v := 0) hx hb dX9_all_3 (by decide) ?_
  refine x_istore (lv' := [(5, .inl 0), (4, .inl 0), (0, .inr x0), (1, .inl x1), (2, .inl x2), (3, .inl x3)]) C dX9_all_4 hL (by decide) rfl (fun ls hL => ?_)
  exact k_X9_all_6 C FU (lx_sub hL [2, 3, 4, 5, 1, 0] rfl) hR hS hd
end
set_option maxHeartbeats 4000000 in
set_option maxRecDepth 100000 in
theorem ct_X9_all {l : Launch} {b0 : Nat} {D : va_G} {E : Nat → ClassId} {G : Hp} {a0 : Nat} {a1 : Int32} {a2 : Int32} {a3 : Int32} {rr : Int32} {GG : Hp} (hd : d_X9_all a0 a1 a2 a3 G = some (rr, GG)) : CT l yX9_all cX9_all 6 (some .int) 9 0 0 b0 D E [rv a0, .int a1, .int a2, .int a3] G (some (.int rr)) GG := by
  refine CT_of (by decide +kernel) ?_
  intro p e s m below meth c C hnm hR
  refine r_entry [.inr a0, .inl a1, .inl a2, .inl a3] (n := 6) (Nat.le_of_ble_eq_true rfl) (lv := [(0, .inr a0), (1, .inl a1), (2, .inl a2), (3, .inl a3)]) rfl (fun ls hL => ?_)
  exact k_X9_all C (lx_sub hL [0, 1, 2, 3] rfl) hR ⟨fun _ _ => rfl, fun _ h => by cases h⟩ hd

/-! GroveWorksModel.isKept(III)Z pure -/
theorem dX9_isKept_0 : decode cX9_isKept 0 = .ok (.aload_n 0, 1) := by decide +kernel
theorem dX9_isKept_1 : decode cX9_isKept 1 = .ok (.getfield 122, 3) := by decide +kernel
theorem dX9_isKept_4 : decode cX9_isKept 4 = .ok (.aload_n 0, 1) := by decide +kernel
theorem dX9_isKept_5 : decode cX9_isKept 5 = .ok (.getfield 99, 3) := by decide +kernel
theorem dX9_isKept_8 : decode cX9_isKept 8 = .ok (.bipush 16, 2) := by decide +kernel
theorem dX9_isKept_10 : decode cX9_isKept 10 = .ok (.bipush 8, 2) := by decide +kernel
theorem dX9_isKept_12 : decode cX9_isKept 12 = .ok (.iload_n 1, 1) := by decide +kernel
theorem dX9_isKept_13 : decode cX9_isKept 13 = .ok (.imul, 1) := by decide +kernel
theorem dX9_isKept_14 : decode cX9_isKept 14 = .ok (.iload_n 2, 1) := by decide +kernel
theorem dX9_isKept_15 : decode cX9_isKept 15 = .ok (.iadd, 1) := by decide +kernel
theorem dX9_isKept_16 : decode cX9_isKept 16 = .ok (.imul, 1) := by decide +kernel
theorem dX9_isKept_17 : decode cX9_isKept 17 = .ok (.iload_n 3, 1) := by decide +kernel
theorem dX9_isKept_18 : decode cX9_isKept 18 = .ok (.iadd, 1) := by decide +kernel
theorem dX9_isKept_19 : decode cX9_isKept 19 = .ok (.iaload, 1) := by decide +kernel
theorem dX9_isKept_20 : decode cX9_isKept 20 = .ok (.if_icmp .ge 7, 3) := by decide +kernel
theorem dX9_isKept_23 : decode cX9_isKept 23 = .ok (.iconst 1, 1) := by decide +kernel
theorem dX9_isKept_24 : decode cX9_isKept 24 = .ok (.goto 4, 3) := by decide +kernel
theorem dX9_isKept_27 : decode cX9_isKept 27 = .ok (.iconst 0, 1) := by decide +kernel
theorem dX9_isKept_28 : decode cX9_isKept 28 = .ok (.ireturn, 1) := by decide +kernel
def d_X9_isKept (x0 : Nat) (x1 : Int32) (x2 : Int32) (x3 : Int32) (G : Hp) : Option (Int32) :=
  gd (hc G x0 = 10) <|
  gd (hc G ((hr G x0 37)) = 11 ∧ ix ((((16 * ((((8 * x1)) + x2)))) + x3)) (hl G ((hr G x0 37)))) <|
  if ((hi G ((hr G x0 37)) ((((16 * ((((8 * x1)) + x2)))) + x3)).toNatClampNeg)) ≤ ((hi G x0 0)) then
    some 0
  else
    some 1
section
variable {p : Program} {l : Launch} {e : Env} {s : State} {m : MethodId} {args : Array Value} {below : List Frame} {meth : Method} {c : Code} {b0 : Nat} {D : va_G} {E : Nat → ClassId}
set_option maxHeartbeats 4000000 in
set_option maxRecDepth 100000 in
theorem k_X9_isKept (C : Cx p s m args meth c RX9 cX9_isKept 4 (some .boolean) b0 D E) {rr : Int32} {G : Hp} {x0 : Nat} {x1 : Int32} {x2 : Int32} {x3 : Int32} {ls : Array Slot} {H : Heap} {locs : List Loc} : lx ls 4 [(0, .inr x0), (1, .inl x1), (2, .inl x2), (3, .inl x3)] → Rp b0 D E G H → SS b0 s H locs → d_X9_isKept x0 x1 x2 x3 G = some rr → W p l e (rmd 0 (0) (0)) s m args below meth c H locs (0) (0) (MQ below (CQ b0 D E (some (.int rr)) G) args s (0) (0) (fun q => b0 ≤ q)) (F0 m 0 ls []) := by
  intro hL hR hS hd
  unfold d_X9_isKept at hd
  have hx := C.1
  have hb := C.2.1
  refine x_aload_n C dX9_isKept_0 hL 0 rfl ?_
  obtain ⟨g1, hd⟩ := gd_ex hd
  refine r_geti (ci := 9) (k := 0) C fl_X9_122 rfl dX9_isKept_1 hR g1 ?_
  refine x_aload_n C dX9_isKept_4 hL 0 rfl ?_
  refine r_getr (ci := 9) (k := 37) C fl_X9_99 rfl dX9_isKept_5 hR g1 ?_
  refine lv_bipush (v := 16) hx hb dX9_isKept_8 (by decide) ?_
  refine lv_bipush (v := 8) hx hb dX9_isKept_10 (by decide) ?_
  refine x_iload_n C dX9_isKept_12 hL 1 rfl ?_
  refine lv_imul hx hb dX9_isKept_13 ?_
  refine x_iload_n C dX9_isKept_14 hL 2 rfl ?_
  refine lv_iadd hx hb dX9_isKept_15 ?_
  refine lv_imul hx hb dX9_isKept_16 ?_
  refine x_iload_n C dX9_isKept_17 hL 3 rfl ?_
  refine lv_iadd hx hb dX9_isKept_18 ?_
  obtain ⟨g2, hd⟩ := gd_ex hd
  refine r_iald C dX9_isKept_19 hR g2 ?_
  refine lv_icmp_ge (tgt := 27) hx hb dX9_isKept_20 (by decide) (fun c3 => ?_) (fun c3 => ?_)
  · rw [if_pos c3] at hd
    refine lv_iconst (v := 0) hx hb dX9_isKept_27 (by decide) ?_
    cases hd
    exact r_zret C (by decide) dX9_isKept_28 hR hS
  · rw [if_neg c3] at hd
    refine lv_iconst (v := 1) hx hb dX9_isKept_23 (by decide) ?_
    refine lv_goto (tgt := 28) hx hb dX9_isKept_24 (by decide) ?_
    cases hd
    exact r_zret C (by decide) dX9_isKept_28 hR hS
end
set_option maxHeartbeats 4000000 in
set_option maxRecDepth 100000 in
theorem ct_X9_isKept {l : Launch} {b0 : Nat} {D : va_G} {E : Nat → ClassId} {G : Hp} {a0 : Nat} {a1 : Int32} {a2 : Int32} {a3 : Int32} {rr : Int32} (hd : d_X9_isKept a0 a1 a2 a3 G = some rr) : CT l yX9_isKept cX9_isKept 4 (some .boolean) 0 0 0 b0 D E [rv a0, .int a1, .int a2, .int a3] G (some (.int rr)) G := by
  refine CT_of (by decide +kernel) ?_
  intro p e s m below meth c C hnm hR
  refine r_entry [.inr a0, .inl a1, .inl a2, .inl a3] (n := 4) (Nat.le_of_ble_eq_true rfl) (lv := [(0, .inr a0), (1, .inl a1), (2, .inl a2), (3, .inl a3)]) rfl (fun ls hL => ?_)
  exact k_X9_isKept C (lx_sub hL [0, 1, 2, 3] rfl) hR ⟨fun _ _ => rfl, fun _ h => by cases h⟩ hd

/-! GroveWorksModel.keep(III)V -/
theorem dX9_keep_0 : decode cX9_keep 0 = .ok (.aload_n 0, 1) := by decide +kernel
theorem dX9_keep_1 : decode cX9_keep 1 = .ok (.getfield 99, 3) := by decide +kernel
theorem dX9_keep_4 : decode cX9_keep 4 = .ok (.bipush 16, 2) := by decide +kernel
theorem dX9_keep_6 : decode cX9_keep 6 = .ok (.bipush 8, 2) := by decide +kernel
theorem dX9_keep_8 : decode cX9_keep 8 = .ok (.iload_n 1, 1) := by decide +kernel
theorem dX9_keep_9 : decode cX9_keep 9 = .ok (.imul, 1) := by decide +kernel
theorem dX9_keep_10 : decode cX9_keep 10 = .ok (.iload_n 2, 1) := by decide +kernel
theorem dX9_keep_11 : decode cX9_keep 11 = .ok (.iadd, 1) := by decide +kernel
theorem dX9_keep_12 : decode cX9_keep 12 = .ok (.imul, 1) := by decide +kernel
theorem dX9_keep_13 : decode cX9_keep 13 = .ok (.iload_n 3, 1) := by decide +kernel
theorem dX9_keep_14 : decode cX9_keep 14 = .ok (.iadd, 1) := by decide +kernel
theorem dX9_keep_15 : decode cX9_keep 15 = .ok (.aload_n 0, 1) := by decide +kernel
theorem dX9_keep_16 : decode cX9_keep 16 = .ok (.getfield 122, 3) := by decide +kernel
theorem dX9_keep_19 : decode cX9_keep 19 = .ok (.bipush 70, 2) := by decide +kernel
theorem dX9_keep_21 : decode cX9_keep 21 = .ok (.iadd, 1) := by decide +kernel
theorem dX9_keep_22 : decode cX9_keep 22 = .ok (.iastore, 1) := by decide +kernel
theorem dX9_keep_23 : decode cX9_keep 23 = .ok (.return_, 1) := by decide +kernel
def d_X9_keep (x0 : Nat) (x1 : Int32) (x2 : Int32) (x3 : Int32) (G : Hp) : Option (Hp) :=
  gd (hc G x0 = 10) <|
  gd (hc G ((hr G x0 37)) = 11 ∧ ix ((((16 * ((((8 * x1)) + x2)))) + x3)) (hl G ((hr G x0 37)))) <|
  bd (sI G ((hr G x0 37)) ((((16 * ((((8 * x1)) + x2)))) + x3)).toNatClampNeg ((((hi G x0 0)) + 70))) fun G3 =>
  some G3
section
variable {p : Program} {l : Launch} {e : Env} {s : State} {m : MethodId} {args : Array Value} {below : List Frame} {meth : Method} {c : Code} {b0 : Nat} {D : va_G} {E : Nat → ClassId}
set_option maxHeartbeats 4000000 in
set_option maxRecDepth 100000 in
theorem k_X9_keep (C : Cx p s m args meth c RX9 cX9_keep 4 none b0 D E) {GG : Hp} {x0 : Nat} {x1 : Int32} {x2 : Int32} {x3 : Int32} {G : Hp} {ls : Array Slot} {H : Heap} {locs : List Loc} : lx ls 4 [(0, .inr x0), (1, .inl x1), (2, .inl x2), (3, .inl x3)] → Rp b0 D E G H → SS b0 s H locs → d_X9_keep x0 x1 x2 x3 G = some GG → W p l e (rmd 0 (0) (0)) s m args below meth c H locs (0) (0) (MQ below (CQ b0 D E none GG) args s (0) (0) (fun q => b0 ≤ q)) (F0 m 0 ls []) := by
  intro hL hR hS hd
  unfold d_X9_keep at hd
  have hx := C.1
  have hb := C.2.1
  refine x_aload_n C dX9_keep_0 hL 0 rfl ?_
  obtain ⟨g1, hd⟩ := gd_ex hd
  refine r_getr (ci := 9) (k := 37) C fl_X9_99 rfl dX9_keep_1 hR g1 ?_
  refine lv_bipush (v := 16) hx hb dX9_keep_4 (by decide) ?_
  refine lv_bipush (v := 8) hx hb dX9_keep_6 (by decide) ?_
  refine x_iload_n C dX9_keep_8 hL 1 rfl ?_
  refine lv_imul hx hb dX9_keep_9 ?_
  refine x_iload_n C dX9_keep_10 hL 2 rfl ?_
  refine lv_iadd hx hb dX9_keep_11 ?_
  refine lv_imul hx hb dX9_keep_12 ?_
  refine x_iload_n C dX9_keep_13 hL 3 rfl ?_
  refine lv_iadd hx hb dX9_keep_14 ?_
  refine x_aload_n C dX9_keep_15 hL 0 rfl ?_
  refine r_geti (ci := 9) (k := 0) C fl_X9_122 rfl dX9_keep_16 hR g1 ?_
  refine lv_bipush (v := 70) hx hb dX9_keep_19 (by decide) ?_
  refine lv_iadd hx hb dX9_keep_21 ?_
  obtain ⟨g2, hd⟩ := gd_ex hd
  obtain ⟨G3, eG3, hd⟩ := bd_ex hd
  refine r_iast C dX9_keep_22 hR hS g2 (fun H locs hR hS => ?_)
  replace hR : Rp b0 D E G3 H := by rw [eG3]; exact hR
  cases hd
  exact r_vret C dX9_keep_23 hR hS
end
set_option maxHeartbeats 4000000 in
set_option maxRecDepth 100000 in
theorem ct_X9_keep {l : Launch} {b0 : Nat} {D : va_G} {E : Nat → ClassId} {G : Hp} {a0 : Nat} {a1 : Int32} {a2 : Int32} {a3 : Int32} {GG : Hp} (hd : d_X9_keep a0 a1 a2 a3 G = some GG) : CT l yX9_keep cX9_keep 4 none 0 0 0 b0 D E [rv a0, .int a1, .int a2, .int a3] G none GG := by
  refine CT_of (by decide +kernel) ?_
  intro p e s m below meth c C hnm hR
  refine r_entry [.inr a0, .inl a1, .inl a2, .inl a3] (n := 4) (Nat.le_of_ble_eq_true rfl) (lv := [(0, .inr a0), (1, .inl a1), (2, .inl a2), (3, .inl a3)]) rfl (fun ls hL => ?_)
  exact k_X9_keep C (lx_sub hL [0, 1, 2, 3] rfl) hR ⟨fun _ _ => rfl, fun _ h => by cases h⟩ hd

/-! GroveWorksModel.wantsSource(III)Z -/
theorem dX9_wantsSource_0 : decode cX9_wantsSource 0 = .ok (.iconst 0, 1) := by decide +kernel
theorem dX9_wantsSource_1 : decode cX9_wantsSource 1 = .ok (.istore 4, 2) := by decide +kernel
theorem dX9_wantsSource_3 : decode cX9_wantsSource 3 = .ok (.iload 4, 2) := by decide +kernel
theorem dX9_wantsSource_5 : decode cX9_wantsSource 5 = .ok (.iconst 4, 1) := by decide +kernel
theorem dX9_wantsSource_6 : decode cX9_wantsSource 6 = .ok (.if_icmp .ge 37, 3) := by decide +kernel
theorem dX9_wantsSource_9 : decode cX9_wantsSource 9 = .ok (.aload_n 0, 1) := by decide +kernel
theorem dX9_wantsSource_10 : decode cX9_wantsSource 10 = .ok (.iload_n 1, 1) := by decide +kernel
theorem dX9_wantsSource_11 : decode cX9_wantsSource 11 = .ok (.iload 4, 2) := by decide +kernel
theorem dX9_wantsSource_13 : decode cX9_wantsSource 13 = .ok (.iload_n 2, 1) := by decide +kernel
theorem dX9_wantsSource_14 : decode cX9_wantsSource 14 = .ok (.iconst 1, 1) := by decide +kernel
theorem dX9_wantsSource_15 : decode cX9_wantsSource 15 = .ok (.iload_n 3, 1) := by decide +kernel
theorem dX9_wantsSource_16 : decode cX9_wantsSource 16 = .ok (.iadd, 1) := by decide +kernel
theorem dX9_wantsSource_17 : decode cX9_wantsSource 17 = .ok (.invokevirtual 179, 3) := by decide +kernel
theorem dX9_wantsSource_20 : decode cX9_wantsSource 20 = .ok (.ifCond .le 17, 3) := by decide +kernel
theorem dX9_wantsSource_23 : decode cX9_wantsSource 23 = .ok (.aload_n 0, 1) := by decide +kernel
theorem dX9_wantsSource_24 : decode cX9_wantsSource 24 = .ok (.iload_n 1, 1) := by decide +kernel
theorem dX9_wantsSource_25 : decode cX9_wantsSource 25 = .ok (.iload 4, 2) := by decide +kernel
theorem dX9_wantsSource_27 : decode cX9_wantsSource 27 = .ok (.iload_n 2, 1) := by decide +kernel
theorem dX9_wantsSource_28 : decode cX9_wantsSource 28 = .ok (.iload_n 3, 1) := by decide +kernel
theorem dX9_wantsSource_29 : decode cX9_wantsSource 29 = .ok (.invokevirtual 211, 3) := by decide +kernel
theorem dX9_wantsSource_32 : decode cX9_wantsSource 32 = .ok (.ifCond .ne 5, 3) := by decide +kernel
theorem dX9_wantsSource_35 : decode cX9_wantsSource 35 = .ok (.iconst 1, 1) := by decide +kernel
theorem dX9_wantsSource_36 : decode cX9_wantsSource 36 = .ok (.ireturn, 1) := by decide +kernel
theorem dX9_wantsSource_37 : decode cX9_wantsSource 37 = .ok (.iinc 4 1, 3) := by decide +kernel
theorem dX9_wantsSource_40 : decode cX9_wantsSource 40 = .ok (.goto (-37), 3) := by decide +kernel
theorem dX9_wantsSource_43 : decode cX9_wantsSource 43 = .ok (.aload_n 0, 1) := by decide +kernel
theorem dX9_wantsSource_44 : decode cX9_wantsSource 44 = .ok (.iload_n 1, 1) := by decide +kernel
theorem dX9_wantsSource_45 : decode cX9_wantsSource 45 = .ok (.iload_n 2, 1) := by decide +kernel
theorem dX9_wantsSource_46 : decode cX9_wantsSource 46 = .ok (.iload_n 3, 1) := by decide +kernel
theorem dX9_wantsSource_47 : decode cX9_wantsSource 47 = .ok (.invokevirtual 220, 3) := by decide +kernel
theorem dX9_wantsSource_50 : decode cX9_wantsSource 50 = .ok (.ifCond .eq 17, 3) := by decide +kernel
theorem dX9_wantsSource_53 : decode cX9_wantsSource 53 = .ok (.aload_n 0, 1) := by decide +kernel
theorem dX9_wantsSource_54 : decode cX9_wantsSource 54 = .ok (.iload_n 1, 1) := by decide +kernel
theorem dX9_wantsSource_55 : decode cX9_wantsSource 55 = .ok (.iload_n 2, 1) := by decide +kernel
theorem dX9_wantsSource_56 : decode cX9_wantsSource 56 = .ok (.iload_n 3, 1) := by decide +kernel
theorem dX9_wantsSource_57 : decode cX9_wantsSource 57 = .ok (.invokevirtual 223, 3) := by decide +kernel
theorem dX9_wantsSource_60 : decode cX9_wantsSource 60 = .ok (.ifCond .eq 7, 3) := by decide +kernel
theorem dX9_wantsSource_63 : decode cX9_wantsSource 63 = .ok (.iconst 1, 1) := by decide +kernel
theorem dX9_wantsSource_64 : decode cX9_wantsSource 64 = .ok (.goto 4, 3) := by decide +kernel
theorem dX9_wantsSource_67 : decode cX9_wantsSource 67 = .ok (.iconst 0, 1) := by decide +kernel
theorem dX9_wantsSource_68 : decode cX9_wantsSource 68 = .ok (.ireturn, 1) := by decide +kernel
def d_X9_wantsSource_3 : Nat → Nat → Int32 → Int32 → Int32 → Int32 → Hp → Option (Int32 × Hp)
  | 0, _, _, _, _, _, _ => none
  | n_ + 1, x0, x1, x2, x3, x4, G =>
    if 4 ≤ x4 then
      gd (hc G x0 = 10) <|
      bo (d_X9_isKept x0 x1 x2 x3 G) fun v4 =>
      if v4 = 0 then
        some (0, G)
      else
        b2 (d_X9_all x0 x1 x2 x3 G) fun v7 G8 =>
        if v7 = 0 then
          some (0, G8)
        else
          some (1, G8)
    else
      gd (hc G x0 = 10) <|
      bo (d_X9_joined x0 x1 x4 x2 ((1 + x3)) G) fun v12 =>
      if v12 ≤ 0 then
        d_X9_wantsSource_3 n_ x0 x1 x2 x3 ((x4 + 1)) G
      else
        b2 (d_X9_isLost x0 x1 x4 x2 x3 G) fun v15 G16 =>
        if v15 = 0 then
          some (1, G16)
        else
          d_X9_wantsSource_3 n_ x0 x1 x2 x3 ((x4 + 1)) G16
def d_X9_wantsSource (x0 : Nat) (x1 : Int32) (x2 : Int32) (x3 : Int32) (G : Hp) : Option (Int32 × Hp) :=
  d_X9_wantsSource_3 FU x0 x1 x2 x3 0 G
section
variable {p : Program} {l : Launch} {e : Env} {s : State} {m : MethodId} {args : Array Value} {below : List Frame} {meth : Method} {c : Code} {b0 : Nat} {D : va_G} {E : Nat → ClassId}
set_option maxHeartbeats 4000000 in
set_option maxRecDepth 100000 in
theorem k_X9_wantsSource_3 (C : Cx p s m args meth c RX9 cX9_wantsSource 5 (some .boolean) b0 D E) {rr : Int32} {GG : Hp} : ∀ (n_ : Nat) {x0 : Nat} {x1 : Int32} {x2 : Int32} {x3 : Int32} {x4 : Int32} {G : Hp} {ls : Array Slot} {H : Heap} {locs : List Loc}, lx ls 5 [(0, .inr x0), (1, .inl x1), (2, .inl x2), (3, .inl x3), (4, .inl x4)] → Rp b0 D E G H → SS b0 s H locs → d_X9_wantsSource_3 n_ x0 x1 x2 x3 x4 G = some (rr, GG) → W p l e (rmd 10 (0) (0)) s m args below meth c H locs (0) (0) (MQ below (CQ b0 D E (some (.int rr)) GG) args s (0) (0) (fun q => b0 ≤ q)) (F0 m 3 ls []) := by
  intro n_
  induction n_ with
  | zero =>
    intro x0 x1 x2 x3 x4 G ls H locs hL hR hS hd
    cases (show (none : Option _) = some _ from hd)
  | succ n_ ih =>
    intro x0 x1 x2 x3 x4 G ls H locs hL hR hS hd
    rw [d_X9_wantsSource_3.eq_2] at hd
    have hx := C.1
    have hb := C.2.1
    refine x_iload C dX9_wantsSource_3 hL 4 rfl ?_
    refine lv_iconst (v := 4) hx hb dX9_wantsSource_5 (by decide) ?_
    refine lv_icmp_ge (tgt := 43) hx hb dX9_wantsSource_6 (by decide) (fun c1 => ?_) (fun c1 => ?_)
    · rw [if_pos c1] at hd
      refine x_aload_n C dX9_wantsSource_43 hL 0 rfl ?_
      refine x_iload_n C dX9_wantsSource_44 hL 1 rfl ?_
      refine x_iload_n C dX9_wantsSource_45 hL 2 rfl ?_
      refine x_iload_n C dX9_wantsSource_46 hL 3 rfl ?_
      obtain ⟨g2, hd⟩ := gd_ex hd
      obtain ⟨v4, h3, hd⟩ := bo_ex hd
      refine r_callV (a := x0) (ci := 9) (As := [.int x1, .int x2, .int x3]) C (ct_X9_isKept h3) mf_X9_isKept ml_X9_220 mv_X9_isKept rfl ⟨Nat.le_of_ble_eq_true rfl, Nat.le_of_ble_eq_true rfl⟩ dX9_wantsSource_47 (lx_size hL) rfl hR hS g2 ⟨Nat.le_refl _, Nat.le_refl _⟩ (cat_le [] (Nat.le_of_ble_eq_true rfl)) (fun H locs hR hS => ?_)
      refine W_st (st2 := [.int v4]) rfl ?_
      refine lv_if_eq (tgt := 67) hx hb dX9_wantsSource_50 (by decide) (fun c5 => ?_) (fun c5 => ?_)
      · rw [if_pos c5] at hd
        refine lv_iconst (v := 0) hx hb dX9_wantsSource_67 (by decide) ?_
        cases hd
        exact r_zret C (by decide) dX9_wantsSource_68 hR hS
      · rw [if_neg c5] at hd
        refine x_aload_n C dX9_wantsSource_53 hL 0 rfl ?_
        refine x_iload_n C dX9_wantsSource_54 hL 1 rfl ?_
        refine x_iload_n C dX9_wantsSource_55 hL 2 rfl ?_
        refine x_iload_n C dX9_wantsSource_56 hL 3 rfl ?_
        obtain ⟨v7, G8, h6, hd⟩ := b2_ex hd
        refine r_callV (a := x0) (ci := 9) (As := [.int x1, .int x2, .int x3]) C (ct_X9_all h6) mf_X9_all ml_X9_223 mv_X9_all rfl ⟨Nat.le_of_ble_eq_true rfl, Nat.le_of_ble_eq_true rfl⟩ dX9_wantsSource_57 (lx_size hL) rfl hR hS g2 ⟨Nat.le_refl _, Nat.le_refl _⟩ (cat_le [] (Nat.le_of_ble_eq_true rfl)) (fun H locs hR hS => ?_)
        refine W_st (st2 := [.int v7]) rfl ?_
        refine lv_if_eq (tgt := 67) hx hb dX9_wantsSource_60 (by decide) (fun c9 => ?_) (fun c9 => ?_)
        · rw [if_pos c9] at hd
          refine lv_iconst (v := 0) hx hb dX9_wantsSource_67 (by decide) ?_
          cases hd
          exact r_zret C (by decide) dX9_wantsSource_68 hR hS
        · rw [if_neg c9] at hd
          refine lv_iconst (v := 1) hx hb dX9_wantsSource_63 (by decide) ?_
          refine lv_goto (tgt := 68) hx hb dX9_wantsSource_64 (by decide) ?_
          cases hd
          exact r_zret C (by decide) dX9_wantsSource_68 hR hS
    · rw [if_neg c1] at hd
      refine x_aload_n C dX9_wantsSource_9 hL 0 rfl ?_
      refine x_iload_n C dX9_wantsSource_10 hL 1 rfl ?_
      refine x_iload C dX9_wantsSource_11 hL 4 rfl ?_
      refine x_iload_n C dX9_wantsSource_13 hL 2 rfl ?_
      refine lv_iconst (v := 1) hx hb dX9_wantsSource_14 (by decide) ?_
      refine x_iload_n C dX9_wantsSource_15 hL 3 rfl ?_
      refine lv_iadd hx hb dX9_wantsSource_16 ?_
      obtain ⟨g10, hd⟩ := gd_ex hd
      obtain ⟨v12, h11, hd⟩ := bo_ex hd
      refine r_callV (a := x0) (ci := 9) (As := [.int x1, .int x4, .int x2, .int ((1 + x3))]) C (ct_X9_joined h11) mf_X9_joined ml_X9_179 mv_X9_joined rfl ⟨Nat.le_of_ble_eq_true rfl, Nat.le_of_ble_eq_true rfl⟩ dX9_wantsSource_17 (lx_size hL) rfl hR hS g10 ⟨Nat.le_refl _, Nat.le_refl _⟩ (cat_le [] (Nat.le_of_ble_eq_true rfl)) (fun H locs hR hS => ?_)
      refine W_st (st2 := [.int v12]) rfl ?_
      refine lv_if_le (tgt := 37) hx hb dX9_wantsSource_20 (by decide) (fun c13 => ?_) (fun c13 => ?_)
      · rw [if_pos c13] at hd
        refine x_iinc (lv' := [(4, .inl ((x4 + 1))), (0, .inr x0), (1, .inl x1), (2, .inl x2), (3, .inl x3)]) C dX9_wantsSource_37 hL 4 rfl rfl (by decide) rfl (fun ls hL => ?_)
        refine lv_goto (tgt := 3) hx hb dX9_wantsSource_40 (by decide) ?_
        exact ih (lx_sub hL [1, 2, 3, 4, 0] rfl) hR hS hd
      · rw [if_neg c13] at hd
        refine x_aload_n C dX9_wantsSource_23 hL 0 rfl ?_
        refine x_iload_n C dX9_wantsSource_24 hL 1 rfl ?_
        refine x_iload C dX9_wantsSource_25 hL 4 rfl ?_
        refine x_iload_n C dX9_wantsSource_27 hL 2 rfl ?_
        refine x_iload_n C dX9_wantsSource_28 hL 3 rfl ?_
        obtain ⟨v15, G16, h14, hd⟩ := b2_ex hd
        refine r_callV (a := x0) (ci := 9) (As := [.int x1, .int x4, .int x2, .int x3]) C (ct_X9_isLost h14) mf_X9_isLost ml_X9_211 mv_X9_isLost rfl ⟨Nat.le_of_ble_eq_true rfl, Nat.le_of_ble_eq_true rfl⟩ dX9_wantsSource_29 (lx_size hL) rfl hR hS g10 ⟨Nat.le_refl _, Nat.le_refl _⟩ (cat_le [] (Nat.le_of_ble_eq_true rfl)) (fun H locs hR hS => ?_)
        refine W_st (st2 := [.int v15]) rfl ?_
        refine lv_if_ne (tgt := 37) hx hb dX9_wantsSource_32 (by decide) (fun c17 => ?_) (fun c17 => ?_)
        · rw [if_neg c17] at hd
          refine x_iinc (lv' := [(4, .inl ((x4 + 1))), (0, .inr x0), (1, .inl x1), (2, .inl x2), (3, .inl x3)]) C dX9_wantsSource_37 hL 4 rfl rfl (by decide) rfl (fun ls hL => ?_)
          refine lv_goto (tgt := 3) hx hb dX9_wantsSource_40 (by decide) ?_
          exact ih (lx_sub hL [1, 2, 3, 4, 0] rfl) hR hS hd
        · rw [if_pos c17] at hd
          refine lv_iconst (v := 1) hx hb dX9_wantsSource_35 (by decide) ?_
          cases hd
          exact r_zret C (by decide) dX9_wantsSource_36 hR hS
set_option maxHeartbeats 4000000 in
set_option maxRecDepth 100000 in
theorem k_X9_wantsSource (C : Cx p s m args meth c RX9 cX9_wantsSource 5 (some .boolean) b0 D E) {rr : Int32} {GG : Hp} {x0 : Nat} {x1 : Int32} {x2 : Int32} {x3 : Int32} {G : Hp} {ls : Array Slot} {H : Heap} {locs : List Loc} : lx ls 5 [(0, .inr x0), (1, .inl x1), (2, .inl x2), (3, .inl x3)] → Rp b0 D E G H → SS b0 s H locs → d_X9_wantsSource x0 x1 x2 x3 G = some (rr, GG) → W p l e (rmd 10 (0) (0)) s m args below meth c H locs (0) (0) (MQ below (CQ b0 D E (some (.int rr)) GG) args s (0) (0) (fun q => b0 ≤ q)) (F0 m 0 ls []) := by
  intro hL hR hS hd
  unfold d_X9_wantsSource at hd
  have hx := C.1
  have hb := C.2.1
  refine lv_iconst (v := 0) hx hb dX9_wantsSource_0 (by decide) ?_
  refine x_istore (lv' := [(4, .inl 0), (0, .inr x0), (1, .inl x1), (2, .inl x2), (3, .inl x3)]) C dX9_wantsSource_1 hL (by decide) rfl (fun ls hL => ?_)
  exact k_X9_wantsSource_3 C FU (lx_sub hL [1, 2, 3, 4, 0] rfl) hR hS hd
end
set_option maxHeartbeats 4000000 in
set_option maxRecDepth 100000 in
theorem ct_X9_wantsSource {l : Launch} {b0 : Nat} {D : va_G} {E : Nat → ClassId} {G : Hp} {a0 : Nat} {a1 : Int32} {a2 : Int32} {a3 : Int32} {rr : Int32} {GG : Hp} (hd : d_X9_wantsSource a0 a1 a2 a3 G = some (rr, GG)) : CT l yX9_wantsSource cX9_wantsSource 5 (some .boolean) 10 0 0 b0 D E [rv a0, .int a1, .int a2, .int a3] G (some (.int rr)) GG := by
  refine CT_of (by decide +kernel) ?_
  intro p e s m below meth c C hnm hR
  refine r_entry [.inr a0, .inl a1, .inl a2, .inl a3] (n := 5) (Nat.le_of_ble_eq_true rfl) (lv := [(0, .inr a0), (1, .inl a1), (2, .inl a2), (3, .inl a3)]) rfl (fun ls hL => ?_)
  exact k_X9_wantsSource C (lx_sub hL [0, 1, 2, 3] rfl) hR ⟨fun _ _ => rfl, fun _ h => by cases h⟩ hd

/-! GroveWorksModel.wants(III)Z -/
theorem dX9_wants_0 : decode cX9_wants 0 = .ok (.iload_n 3, 1) := by decide +kernel
theorem dX9_wants_1 : decode cX9_wants 1 = .ok (.ifCond .le 13, 3) := by decide +kernel
theorem dX9_wants_4 : decode cX9_wants 4 = .ok (.aload_n 0, 1) := by decide +kernel
theorem dX9_wants_5 : decode cX9_wants 5 = .ok (.iload_n 1, 1) := by decide +kernel
theorem dX9_wants_6 : decode cX9_wants 6 = .ok (.iload_n 2, 1) := by decide +kernel
theorem dX9_wants_7 : decode cX9_wants 7 = .ok (.iload_n 3, 1) := by decide +kernel
theorem dX9_wants_8 : decode cX9_wants 8 = .ok (.iconst 1, 1) := by decide +kernel
theorem dX9_wants_9 : decode cX9_wants 9 = .ok (.isub, 1) := by decide +kernel
theorem dX9_wants_10 : decode cX9_wants 10 = .ok (.invokevirtual 226, 3) := by decide +kernel
theorem dX9_wants_13 : decode cX9_wants 13 = .ok (.ireturn, 1) := by decide +kernel
theorem dX9_wants_14 : decode cX9_wants 14 = .ok (.iload_n 1, 1) := by decide +kernel
theorem dX9_wants_15 : decode cX9_wants 15 = .ok (.aload_n 0, 1) := by decide +kernel
theorem dX9_wants_16 : decode cX9_wants 16 = .ok (.getfield 23, 3) := by decide +kernel
theorem dX9_wants_19 : decode cX9_wants 19 = .ok (.iload_n 2, 1) := by decide +kernel
theorem dX9_wants_20 : decode cX9_wants 20 = .ok (.iaload, 1) := by decide +kernel
theorem dX9_wants_21 : decode cX9_wants 21 = .ok (.if_icmp .eq 16, 3) := by decide +kernel
theorem dX9_wants_24 : decode cX9_wants 24 = .ok (.aload_n 0, 1) := by decide +kernel
theorem dX9_wants_25 : decode cX9_wants 25 = .ok (.iload_n 1, 1) := by decide +kernel
theorem dX9_wants_26 : decode cX9_wants 26 = .ok (.iload_n 2, 1) := by decide +kernel
theorem dX9_wants_27 : decode cX9_wants 27 = .ok (.invokevirtual 229, 3) := by decide +kernel
theorem dX9_wants_30 : decode cX9_wants 30 = .ok (.ifCond .eq 7, 3) := by decide +kernel
theorem dX9_wants_33 : decode cX9_wants 33 = .ok (.iconst 1, 1) := by decide +kernel
theorem dX9_wants_34 : decode cX9_wants 34 = .ok (.goto 4, 3) := by decide +kernel
theorem dX9_wants_37 : decode cX9_wants 37 = .ok (.iconst 0, 1) := by decide +kernel
theorem dX9_wants_38 : decode cX9_wants 38 = .ok (.ireturn, 1) := by decide +kernel
def d_X9_wants (x0 : Nat) (x1 : Int32) (x2 : Int32) (x3 : Int32) (G : Hp) : Option (Int32 × Hp) :=
  if x3 ≤ 0 then
    gd (hc G x0 = 10) <|
    gd (hc G ((hr G x0 12)) = 11 ∧ ix x2 (hl G ((hr G x0 12)))) <|
    if x1 = ((hi G ((hr G x0 12)) x2.toNatClampNeg)) then
      some (0, G)
    else
      bo (d_X9_base x0 x1 x2 G) fun v6 =>
      if v6 = 0 then
        some (0, G)
      else
        some (1, G)
  else
    gd (hc G x0 = 10) <|
    b2 (d_X9_wantsSource x0 x1 x2 ((x3 - 1)) G) fun v10 G11 =>
    gd (v10 &&& 1 = v10) <|
    some (v10, G11)
section
variable {p : Program} {l : Launch} {e : Env} {s : State} {m : MethodId} {args : Array Value} {below : List Frame} {meth : Method} {c : Code} {b0 : Nat} {D : va_G} {E : Nat → ClassId}
set_option maxHeartbeats 4000000 in
set_option maxRecDepth 100000 in
theorem k_X9_wants (C : Cx p s m args meth c RX9 cX9_wants 4 (some .boolean) b0 D E) {rr : Int32} {GG : Hp} {x0 : Nat} {x1 : Int32} {x2 : Int32} {x3 : Int32} {G : Hp} {ls : Array Slot} {H : Heap} {locs : List Loc} : lx ls 4 [(0, .inr x0), (1, .inl x1), (2, .inl x2), (3, .inl x3)] → Rp b0 D E G H → SS b0 s H locs → d_X9_wants x0 x1 x2 x3 G = some (rr, GG) → W p l e (rmd 11 (0) (0)) s m args below meth c H locs (0) (0) (MQ below (CQ b0 D E (some (.int rr)) GG) args s (0) (0) (fun q => b0 ≤ q)) (F0 m 0 ls []) := by
  intro hL hR hS hd
  unfold d_X9_wants at hd
  have hx := C.1
  have hb := C.2.1
  refine x_iload_n C dX9_wants_0 hL 3 rfl ?_
  refine lv_if_le (tgt := 14) hx hb dX9_wants_1 (by decide) (fun c1 => ?_) (fun c1 => ?_)
  · rw [if_pos c1] at hd
    refine x_iload_n C dX9_wants_14 hL 1 rfl ?_
    refine x_aload_n C dX9_wants_15 hL 0 rfl ?_
    obtain ⟨g2, hd⟩ := gd_ex hd
    refine r_getr (ci := 9) (k := 12) C fl_X9_23 rfl dX9_wants_16 hR g2 ?_
    refine x_iload_n C dX9_wants_19 hL 2 rfl ?_
    obtain ⟨g3, hd⟩ := gd_ex hd
    refine r_iald C dX9_wants_20 hR g3 ?_
    refine lv_icmp_eq (tgt := 37) hx hb dX9_wants_21 (by decide) (fun c4 => ?_) (fun c4 => ?_)
    · rw [if_pos c4] at hd
      refine lv_iconst (v := 0) hx hb dX9_wants_37 (by decide) ?_
      cases hd
      exact r_zret C (by decide) dX9_wants_38 hR hS
    · rw [if_neg c4] at hd
      refine x_aload_n C dX9_wants_24 hL 0 rfl ?_
      refine x_iload_n C dX9_wants_25 hL 1 rfl ?_
      refine x_iload_n C dX9_wants_26 hL 2 rfl ?_
      obtain ⟨v6, h5, hd⟩ := bo_ex hd
      refine r_callV (a := x0) (ci := 9) (As := [.int x1, .int x2]) C (ct_X9_base h5) mf_X9_base ml_X9_229 mv_X9_base rfl ⟨Nat.le_of_ble_eq_true rfl, Nat.le_of_ble_eq_true rfl⟩ dX9_wants_27 (lx_size hL) rfl hR hS g2 ⟨Nat.le_refl _, Nat.le_refl _⟩ (cat_le [] (Nat.le_of_ble_eq_true rfl)) (fun H locs hR hS => ?_)
      refine W_st (st2 := [.int v6]) rfl ?_
      refine lv_if_eq (tgt := 37) hx hb dX9_wants_30 (by decide) (fun c7 => ?_) (fun c7 => ?_)
      · rw [if_pos c7] at hd
        refine lv_iconst (v := 0) hx hb dX9_wants_37 (by decide) ?_
        cases hd
        exact r_zret C (by decide) dX9_wants_38 hR hS
      · rw [if_neg c7] at hd
        refine lv_iconst (v := 1) hx hb dX9_wants_33 (by decide) ?_
        refine lv_goto (tgt := 38) hx hb dX9_wants_34 (by decide) ?_
        cases hd
        exact r_zret C (by decide) dX9_wants_38 hR hS
  · rw [if_neg c1] at hd
    refine x_aload_n C dX9_wants_4 hL 0 rfl ?_
    refine x_iload_n C dX9_wants_5 hL 1 rfl ?_
    refine x_iload_n C dX9_wants_6 hL 2 rfl ?_
    refine x_iload_n C dX9_wants_7 hL 3 rfl ?_
    refine lv_iconst (v := 1) hx hb dX9_wants_8 (by decide) ?_
    refine lv_isub hx hb dX9_wants_9 ?_
    obtain ⟨g8, hd⟩ := gd_ex hd
    obtain ⟨v10, G11, h9, hd⟩ := b2_ex hd
    refine r_callV (a := x0) (ci := 9) (As := [.int x1, .int x2, .int ((x3 - 1))]) C (ct_X9_wantsSource h9) mf_X9_wantsSource ml_X9_226 mv_X9_wantsSource rfl ⟨Nat.le_of_ble_eq_true rfl, Nat.le_of_ble_eq_true rfl⟩ dX9_wants_10 (lx_size hL) rfl hR hS g8 ⟨Nat.le_refl _, Nat.le_refl _⟩ (cat_le [] (Nat.le_of_ble_eq_true rfl)) (fun H locs hR hS => ?_)
    refine W_st (st2 := [.int v10]) rfl ?_
    obtain ⟨g12, hd⟩ := gd_ex hd
    cases hd
    exact r_zret C g12 dX9_wants_13 hR hS
end
set_option maxHeartbeats 4000000 in
set_option maxRecDepth 100000 in
theorem ct_X9_wants {l : Launch} {b0 : Nat} {D : va_G} {E : Nat → ClassId} {G : Hp} {a0 : Nat} {a1 : Int32} {a2 : Int32} {a3 : Int32} {rr : Int32} {GG : Hp} (hd : d_X9_wants a0 a1 a2 a3 G = some (rr, GG)) : CT l yX9_wants cX9_wants 4 (some .boolean) 11 0 0 b0 D E [rv a0, .int a1, .int a2, .int a3] G (some (.int rr)) GG := by
  refine CT_of (by decide +kernel) ?_
  intro p e s m below meth c C hnm hR
  refine r_entry [.inr a0, .inl a1, .inl a2, .inl a3] (n := 4) (Nat.le_of_ble_eq_true rfl) (lv := [(0, .inr a0), (1, .inl a1), (2, .inl a2), (3, .inl a3)]) rfl (fun ls hL => ?_)
  exact k_X9_wants C (lx_sub hL [0, 1, 2, 3] rfl) hR ⟨fun _ _ => rfl, fun _ h => by cases h⟩ hd

/-! GroveWorksModel.up(III)I -/
theorem dX9_up_0 : decode cX9_up 0 = .ok (.iload_n 3, 1) := by decide +kernel
theorem dX9_up_1 : decode cX9_up 1 = .ok (.ifCond .ne 12, 3) := by decide +kernel
theorem dX9_up_4 : decode cX9_up 4 = .ok (.aload_n 0, 1) := by decide +kernel
theorem dX9_up_5 : decode cX9_up 5 = .ok (.iload_n 1, 1) := by decide +kernel
theorem dX9_up_6 : decode cX9_up 6 = .ok (.iload_n 2, 1) := by decide +kernel
theorem dX9_up_7 : decode cX9_up 7 = .ok (.invokevirtual 194, 3) := by decide +kernel
theorem dX9_up_10 : decode cX9_up 10 = .ok (.goto 11, 3) := by decide +kernel
theorem dX9_up_13 : decode cX9_up 13 = .ok (.aload_n 0, 1) := by decide +kernel
theorem dX9_up_14 : decode cX9_up 14 = .ok (.iload_n 1, 1) := by decide +kernel
theorem dX9_up_15 : decode cX9_up 15 = .ok (.iload_n 3, 1) := by decide +kernel
theorem dX9_up_16 : decode cX9_up 16 = .ok (.iconst 1, 1) := by decide +kernel
theorem dX9_up_17 : decode cX9_up 17 = .ok (.isub, 1) := by decide +kernel
theorem dX9_up_18 : decode cX9_up 18 = .ok (.invokevirtual 160, 3) := by decide +kernel
theorem dX9_up_21 : decode cX9_up 21 = .ok (.istore 4, 2) := by decide +kernel
theorem dX9_up_23 : decode cX9_up 23 = .ok (.iload 4, 2) := by decide +kernel
theorem dX9_up_25 : decode cX9_up 25 = .ok (.iconst (-1), 1) := by decide +kernel
theorem dX9_up_26 : decode cX9_up 26 = .ok (.if_icmp .eq 25, 3) := by decide +kernel
theorem dX9_up_29 : decode cX9_up 29 = .ok (.aload_n 0, 1) := by decide +kernel
theorem dX9_up_30 : decode cX9_up 30 = .ok (.getfield 57, 3) := by decide +kernel
theorem dX9_up_33 : decode cX9_up 33 = .ok (.iload 4, 2) := by decide +kernel
theorem dX9_up_35 : decode cX9_up 35 = .ok (.iaload, 1) := by decide +kernel
theorem dX9_up_36 : decode cX9_up 36 = .ok (.iconst (-1), 1) := by decide +kernel
theorem dX9_up_37 : decode cX9_up 37 = .ok (.if_icmp .eq 14, 3) := by decide +kernel
theorem dX9_up_40 : decode cX9_up 40 = .ok (.aload_n 0, 1) := by decide +kernel
theorem dX9_up_41 : decode cX9_up 41 = .ok (.getfield 60, 3) := by decide +kernel
theorem dX9_up_44 : decode cX9_up 44 = .ok (.iload 4, 2) := by decide +kernel
theorem dX9_up_46 : decode cX9_up 46 = .ok (.iaload, 1) := by decide +kernel
theorem dX9_up_47 : decode cX9_up 47 = .ok (.iconst (-1), 1) := by decide +kernel
theorem dX9_up_48 : decode cX9_up 48 = .ok (.if_icmp .ne 5, 3) := by decide +kernel
theorem dX9_up_51 : decode cX9_up 51 = .ok (.iconst (-1), 1) := by decide +kernel
theorem dX9_up_52 : decode cX9_up 52 = .ok (.ireturn, 1) := by decide +kernel
theorem dX9_up_53 : decode cX9_up 53 = .ok (.aload_n 0, 1) := by decide +kernel
theorem dX9_up_54 : decode cX9_up 54 = .ok (.getfield 57, 3) := by decide +kernel
theorem dX9_up_57 : decode cX9_up 57 = .ok (.iload 4, 2) := by decide +kernel
theorem dX9_up_59 : decode cX9_up 59 = .ok (.iaload, 1) := by decide +kernel
theorem dX9_up_60 : decode cX9_up 60 = .ok (.istore 5, 2) := by decide +kernel
theorem dX9_up_62 : decode cX9_up 62 = .ok (.aload_n 0, 1) := by decide +kernel
theorem dX9_up_63 : decode cX9_up 63 = .ok (.getfield 60, 3) := by decide +kernel
theorem dX9_up_66 : decode cX9_up 66 = .ok (.iload 4, 2) := by decide +kernel
theorem dX9_up_68 : decode cX9_up 68 = .ok (.iaload, 1) := by decide +kernel
theorem dX9_up_69 : decode cX9_up 69 = .ok (.istore 6, 2) := by decide +kernel
theorem dX9_up_71 : decode cX9_up 71 = .ok (.iload_n 3, 1) := by decide +kernel
theorem dX9_up_72 : decode cX9_up 72 = .ok (.ifCond .ne 7, 3) := by decide +kernel
theorem dX9_up_75 : decode cX9_up 75 = .ok (.iconst (-1), 1) := by decide +kernel
theorem dX9_up_76 : decode cX9_up 76 = .ok (.goto 14, 3) := by decide +kernel
theorem dX9_up_79 : decode cX9_up 79 = .ok (.aload_n 0, 1) := by decide +kernel
theorem dX9_up_80 : decode cX9_up 80 = .ok (.iload_n 1, 1) := by decide +kernel
theorem dX9_up_81 : decode cX9_up 81 = .ok (.iload 5, 2) := by decide +kernel
theorem dX9_up_83 : decode cX9_up 83 = .ok (.iload_n 2, 1) := by decide +kernel
theorem dX9_up_84 : decode cX9_up 84 = .ok (.iload_n 3, 1) := by decide +kernel
theorem dX9_up_85 : decode cX9_up 85 = .ok (.iconst 1, 1) := by decide +kernel
theorem dX9_up_86 : decode cX9_up 86 = .ok (.isub, 1) := by decide +kernel
theorem dX9_up_87 : decode cX9_up 87 = .ok (.invokevirtual 197, 3) := by decide +kernel
theorem dX9_up_90 : decode cX9_up 90 = .ok (.istore 7, 2) := by decide +kernel
theorem dX9_up_92 : decode cX9_up 92 = .ok (.iload 7, 2) := by decide +kernel
theorem dX9_up_94 : decode cX9_up 94 = .ok (.iconst (-1), 1) := by decide +kernel
theorem dX9_up_95 : decode cX9_up 95 = .ok (.if_icmp .ne 8, 3) := by decide +kernel
theorem dX9_up_98 : decode cX9_up 98 = .ok (.iload 6, 2) := by decide +kernel
theorem dX9_up_100 : decode cX9_up 100 = .ok (.goto 8, 3) := by decide +kernel
theorem dX9_up_103 : decode cX9_up 103 = .ok (.iload 7, 2) := by decide +kernel
theorem dX9_up_105 : decode cX9_up 105 = .ok (.bipush 100, 2) := by decide +kernel
theorem dX9_up_107 : decode cX9_up 107 = .ok (.irem, 1) := by decide +kernel
theorem dX9_up_108 : decode cX9_up 108 = .ok (.istore 6, 2) := by decide +kernel
theorem dX9_up_110 : decode cX9_up 110 = .ok (.aload_n 0, 1) := by decide +kernel
theorem dX9_up_111 : decode cX9_up 111 = .ok (.iload_n 1, 1) := by decide +kernel
theorem dX9_up_112 : decode cX9_up 112 = .ok (.iload 5, 2) := by decide +kernel
theorem dX9_up_114 : decode cX9_up 114 = .ok (.iload 6, 2) := by decide +kernel
theorem dX9_up_116 : decode cX9_up 116 = .ok (.invokevirtual 169, 3) := by decide +kernel
theorem dX9_up_119 : decode cX9_up 119 = .ok (.ifCond .eq 14, 3) := by decide +kernel
theorem dX9_up_122 : decode cX9_up 122 = .ok (.bipush 16, 2) := by decide +kernel
theorem dX9_up_124 : decode cX9_up 124 = .ok (.iload 5, 2) := by decide +kernel
theorem dX9_up_126 : decode cX9_up 126 = .ok (.imul, 1) := by decide +kernel
theorem dX9_up_127 : decode cX9_up 127 = .ok (.iload 6, 2) := by decide +kernel
theorem dX9_up_129 : decode cX9_up 129 = .ok (.iadd, 1) := by decide +kernel
theorem dX9_up_130 : decode cX9_up 130 = .ok (.goto 4, 3) := by decide +kernel
theorem dX9_up_133 : decode cX9_up 133 = .ok (.iconst (-1), 1) := by decide +kernel
theorem dX9_up_134 : decode cX9_up 134 = .ok (.ireturn, 1) := by decide +kernel
def d_X9_up_108 (x0 : Nat) (x1 : Int32) (x5 : Int32) (s0 : Int32) (G : Hp) : Option (Int32 × Hp) :=
  gd (hc G x0 = 10) <|
  bo (d_X9_isNeighbour x0 x1 x5 s0 G) fun v3 =>
  if v3 = 0 then
    some ((-1), G)
  else
    some ((((16 * x5)) + s0), G)
def d_X9_up_90 (x0 : Nat) (x1 : Int32) (x5 : Int32) (x6 : Int32) (s0 : Int32) (G : Hp) : Option (Int32 × Hp) :=
  if s0 = (-1) then
    d_X9_up_108 x0 x1 x5 x6 G
  else
    d_X9_up_108 x0 x1 x5 ((s0 - s0 / 100 * 100)) G
def d_X9_up_21 (x0 : Nat) (x1 : Int32) (x2 : Int32) (x3 : Int32) (s0 : Int32) (G : Hp) : Option (Int32 × Hp) :=
  if s0 = (-1) then
    some ((-1), G)
  else
    gd (hc G x0 = 10) <|
    gd (hc G ((hr G x0 23)) = 11 ∧ ix s0 (hl G ((hr G x0 23)))) <|
    if ((hi G ((hr G x0 23)) s0.toNatClampNeg)) = (-1) then
      some ((-1), G)
    else
      gd (hc G ((hr G x0 24)) = 11 ∧ ix s0 (hl G ((hr G x0 24)))) <|
      if ((hi G ((hr G x0 24)) s0.toNatClampNeg)) = (-1) then
        some ((-1), G)
      else
        gd (hc G ((hr G x0 23)) = 11 ∧ ix s0 (hl G ((hr G x0 23)))) <|
        bd ((hi G ((hr G x0 23)) s0.toNatClampNeg)) fun v8 =>
        gd (hc G ((hr G x0 24)) = 11 ∧ ix s0 (hl G ((hr G x0 24)))) <|
        bd ((hi G ((hr G x0 24)) s0.toNatClampNeg)) fun v10 =>
        if x3 = 0 then
          d_X9_up_90 x0 x1 v8 v10 (-1) G
        else
          bo (d_X9_claimAt x0 x1 v8 x2 ((x3 - 1)) G) fun v13 =>
          d_X9_up_90 x0 x1 v8 v10 v13 G
def d_X9_up (x0 : Nat) (x1 : Int32) (x2 : Int32) (x3 : Int32) (G : Hp) : Option (Int32 × Hp) :=
  if x3 = 0 then
    gd (hc G x0 = 10) <|
    b2 (d_X9_toMeeting x0 x1 x2 G) fun v8 G9 =>
    d_X9_up_21 x0 x1 x2 x3 v8 G9
  else
    gd (hc G x0 = 10) <|
    b2 (d_X9_toSource x0 x1 ((x3 - 1)) G) fun v4 G5 =>
    d_X9_up_21 x0 x1 x2 x3 v4 G5
section
variable {p : Program} {l : Launch} {e : Env} {s : State} {m : MethodId} {args : Array Value} {below : List Frame} {meth : Method} {c : Code} {b0 : Nat} {D : va_G} {E : Nat → ClassId}
set_option maxHeartbeats 4000000 in
set_option maxRecDepth 100000 in
theorem k_X9_up_108 (C : Cx p s m args meth c RX9 cX9_up 8 (some .int) b0 D E) {rr : Int32} {GG : Hp} {x0 : Nat} {x1 : Int32} {x5 : Int32} {s0 : Int32} {G : Hp} {ls : Array Slot} {H : Heap} {locs : List Loc} : lx ls 8 [(0, .inr x0), (1, .inl x1), (5, .inl x5)] → Rp b0 D E G H → SS b0 s H locs → d_X9_up_108 x0 x1 x5 s0 G = some (rr, GG) → W p l e (rmd 5 (0) (0)) s m args below meth c H locs (0) (0) (MQ below (CQ b0 D E (some (.int rr)) GG) args s (0) (0) (fun q => b0 ≤ q)) (F0 m 108 ls [.int s0]) := by
  intro hL hR hS hd
  unfold d_X9_up_108 at hd
  have hx := C.1
  have hb := C.2.1
  refine x_istore (lv' := [(6, .inl s0), (0, .inr x0), (1, .inl x1), (5, .inl x5)]) C dX9_up_108 hL (by decide) rfl (fun ls hL => ?_)
  refine x_aload_n C dX9_up_110 hL 1 rfl ?_
  refine x_iload_n C dX9_up_111 hL 2 rfl ?_
  refine x_iload C dX9_up_112 hL 3 rfl ?_
  refine x_iload C dX9_up_114 hL 0 rfl ?_
  obtain ⟨g1, hd⟩ := gd_ex hd
  obtain ⟨v3, h2, hd⟩ := bo_ex hd
  refine r_callV (a := x0) (ci := 9) (As := [.int x1, .int x5, .int s0]) C (ct_X9_isNeighbour h2) mf_X9_isNeighbour ml_X9_169 mv_X9_isNeighbour rfl ⟨Nat.le_of_ble_eq_true rfl, Nat.le_of_ble_eq_true rfl⟩ dX9_up_116 (lx_size hL) rfl hR hS g1 ⟨Nat.le_refl _, Nat.le_refl _⟩ (cat_le [] (Nat.le_of_ble_eq_true rfl)) (fun H locs hR hS => ?_)
  refine W_st (st2 := [.int v3]) rfl ?_
  refine lv_if_eq (tgt := 133) hx hb dX9_up_119 (by decide) (fun c4 => ?_) (fun c4 => ?_)
  · rw [if_pos c4] at hd
    refine lv_iconst (v := (-1)) hx hb dX9_up_133 (by decide) ?_
    cases hd
    exact r_iret C dX9_up_134 hR hS
  · rw [if_neg c4] at hd
    refine lv_bipush (v := 16) hx hb dX9_up_122 (by decide) ?_
    refine x_iload C dX9_up_124 hL 3 rfl ?_
    refine lv_imul hx hb dX9_up_126 ?_
    refine x_iload C dX9_up_127 hL 0 rfl ?_
    refine lv_iadd hx hb dX9_up_129 ?_
    refine lv_goto (tgt := 134) hx hb dX9_up_130 (by decide) ?_
    cases hd
    exact r_iret C dX9_up_134 hR hS
set_option maxHeartbeats 4000000 in
set_option maxRecDepth 100000 in
theorem k_X9_up_90 (C : Cx p s m args meth c RX9 cX9_up 8 (some .int) b0 D E) {rr : Int32} {GG : Hp} {x0 : Nat} {x1 : Int32} {x5 : Int32} {x6 : Int32} {s0 : Int32} {G : Hp} {ls : Array Slot} {H : Heap} {locs : List Loc} : lx ls 8 [(0, .inr x0), (1, .inl x1), (5, .inl x5), (6, .inl x6)] → Rp b0 D E G H → SS b0 s H locs → d_X9_up_90 x0 x1 x5 x6 s0 G = some (rr, GG) → W p l e (rmd 5 (0) (0)) s m args below meth c H locs (0) (0) (MQ below (CQ b0 D E (some (.int rr)) GG) args s (0) (0) (fun q => b0 ≤ q)) (F0 m 90 ls [.int s0]) := by
  intro hL hR hS hd
  unfold d_X9_up_90 at hd
  have hx := C.1
  have hb := C.2.1
  refine x_istore (lv' := [(7, .inl s0), (0, .inr x0), (1, .inl x1), (5, .inl x5), (6, .inl x6)]) C dX9_up_90 hL (by decide) rfl (fun ls hL => ?_)
  refine x_iload C dX9_up_92 hL 0 rfl ?_
  refine lv_iconst (v := (-1)) hx hb dX9_up_94 (by decide) ?_
  refine lv_icmp_ne (tgt := 103) hx hb dX9_up_95 (by decide) (fun c1 => ?_) (fun c1 => ?_)
  · rw [if_neg c1] at hd
    refine x_iload C dX9_up_103 hL 0 rfl ?_
    refine lv_bipush (v := 100) hx hb dX9_up_105 (by decide) ?_
    refine lv_irem hx hb dX9_up_107 (by decide) ?_
    exact k_X9_up_108 C (lx_sub hL [1, 2, 3] rfl) hR hS hd
  · rw [if_pos c1] at hd
    refine x_iload C dX9_up_98 hL 4 rfl ?_
    refine lv_goto (tgt := 108) hx hb dX9_up_100 (by decide) ?_
    exact k_X9_up_108 C (lx_sub hL [1, 2, 3] rfl) hR hS hd
set_option maxHeartbeats 4000000 in
set_option maxRecDepth 100000 in
theorem k_X9_up_21 (C : Cx p s m args meth c RX9 cX9_up 8 (some .int) b0 D E) {rr : Int32} {GG : Hp} {x0 : Nat} {x1 : Int32} {x2 : Int32} {x3 : Int32} {s0 : Int32} {G : Hp} {ls : Array Slot} {H : Heap} {locs : List Loc} : lx ls 8 [(0, .inr x0), (1, .inl x1), (2, .inl x2), (3, .inl x3)] → Rp b0 D E G H → SS b0 s H locs → d_X9_up_21 x0 x1 x2 x3 s0 G = some (rr, GG) → W p l e (rmd 5 (0) (0)) s m args below meth c H locs (0) (0) (MQ below (CQ b0 D E (some (.int rr)) GG) args s (0) (0) (fun q => b0 ≤ q)) (F0 m 21 ls [.int s0]) := by
  intro hL hR hS hd
  unfold d_X9_up_21 at hd
  have hx := C.1
  have hb := C.2.1
  refine x_istore (lv' := [(4, .inl s0), (0, .inr x0), (1, .inl x1), (2, .inl x2), (3, .inl x3)]) C dX9_up_21 hL (by decide) rfl (fun ls hL => ?_)
  refine x_iload C dX9_up_23 hL 0 rfl ?_
  refine lv_iconst (v := (-1)) hx hb dX9_up_25 (by decide) ?_
  refine lv_icmp_eq (tgt := 51) hx hb dX9_up_26 (by decide) (fun c1 => ?_) (fun c1 => ?_)
  · rw [if_pos c1] at hd
    refine lv_iconst (v := (-1)) hx hb dX9_up_51 (by decide) ?_
    cases hd
    exact r_iret C dX9_up_52 hR hS
  · rw [if_neg c1] at hd
    refine x_aload_n C dX9_up_29 hL 1 rfl ?_
    obtain ⟨g2, hd⟩ := gd_ex hd
    refine r_getr (ci := 9) (k := 23) C fl_X9_57 rfl dX9_up_30 hR g2 ?_
    refine x_iload C dX9_up_33 hL 0 rfl ?_
    obtain ⟨g3, hd⟩ := gd_ex hd
    refine r_iald C dX9_up_35 hR g3 ?_
    refine lv_iconst (v := (-1)) hx hb dX9_up_36 (by decide) ?_
    refine lv_icmp_eq (tgt := 51) hx hb dX9_up_37 (by decide) (fun c4 => ?_) (fun c4 => ?_)
    · rw [if_pos c4] at hd
      refine lv_iconst (v := (-1)) hx hb dX9_up_51 (by decide) ?_
      cases hd
      exact r_iret C dX9_up_52 hR hS
    · rw [if_neg c4] at hd
      refine x_aload_n C dX9_up_40 hL 1 rfl ?_
      refine r_getr (ci := 9) (k := 24) C fl_X9_60 rfl dX9_up_41 hR g2 ?_
      refine x_iload C dX9_up_44 hL 0 rfl ?_
      obtain ⟨g5, hd⟩ := gd_ex hd
      refine r_iald C dX9_up_46 hR g5 ?_
      refine lv_iconst (v := (-1)) hx hb dX9_up_47 (by decide) ?_
      refine lv_icmp_ne (tgt := 53) hx hb dX9_up_48 (by decide) (fun c6 => ?_) (fun c6 => ?_)
      · rw [if_neg c6] at hd
        refine x_aload_n C dX9_up_53 hL 1 rfl ?_
        refine r_getr (ci := 9) (k := 23) C fl_X9_57 rfl dX9_up_54 hR g2 ?_
        refine x_iload C dX9_up_57 hL 0 rfl ?_
        obtain ⟨g7, hd⟩ := gd_ex hd
        refine r_iald C dX9_up_59 hR g7 ?_
        obtain ⟨v8, ev8, hd⟩ := bd_ex hd
        rw [← ev8]
        refine x_istore (lv' := [(5, .inl v8), (4, .inl s0), (0, .inr x0), (1, .inl x1), (2, .inl x2), (3, .inl x3)]) C dX9_up_60 hL (by decide) rfl (fun ls hL => ?_)
        refine x_aload_n C dX9_up_62 hL 2 rfl ?_
        refine r_getr (ci := 9) (k := 24) C fl_X9_60 rfl dX9_up_63 hR g2 ?_
        refine x_iload C dX9_up_66 hL 1 rfl ?_
        obtain ⟨g9, hd⟩ := gd_ex hd
        refine r_iald C dX9_up_68 hR g9 ?_
        obtain ⟨v10, ev10, hd⟩ := bd_ex hd
        rw [← ev10]
        refine x_istore (lv' := [(6, .inl v10), (5, .inl v8), (4, .inl s0), (0, .inr x0), (1, .inl x1), (2, .inl x2), (3, .inl x3)]) C dX9_up_69 hL (by decide) rfl (fun ls hL => ?_)
        refine x_iload_n C dX9_up_71 hL 6 rfl ?_
        refine lv_if_ne (tgt := 79) hx hb dX9_up_72 (by decide) (fun c11 => ?_) (fun c11 => ?_)
        · rw [if_neg c11] at hd
          refine x_aload_n C dX9_up_79 hL 3 rfl ?_
          refine x_iload_n C dX9_up_80 hL 4 rfl ?_
          refine x_iload C dX9_up_81 hL 1 rfl ?_
          refine x_iload_n C dX9_up_83 hL 5 rfl ?_
          refine x_iload_n C dX9_up_84 hL 6 rfl ?_
          refine lv_iconst (v := 1) hx hb dX9_up_85 (by decide) ?_
          refine lv_isub hx hb dX9_up_86 ?_
          obtain ⟨v13, h12, hd⟩ := bo_ex hd
          refine r_callV (a := x0) (ci := 9) (As := [.int x1, .int v8, .int x2, .int ((x3 - 1))]) C (ct_X9_claimAt h12) mf_X9_claimAt ml_X9_197 mv_X9_claimAt rfl ⟨Nat.le_of_ble_eq_true rfl, Nat.le_of_ble_eq_true rfl⟩ dX9_up_87 (lx_size hL) rfl hR hS g2 ⟨Nat.le_refl _, Nat.le_refl _⟩ (cat_le [] (Nat.le_of_ble_eq_true rfl)) (fun H locs hR hS => ?_)
          refine W_st (st2 := [.int v13]) rfl ?_
          exact k_X9_up_90 C (lx_sub hL [3, 4, 1, 0] rfl) hR hS hd
        · rw [if_pos c11] at hd
          refine lv_iconst (v := (-1)) hx hb dX9_up_75 (by decide) ?_
          refine lv_goto (tgt := 90) hx hb dX9_up_76 (by decide) ?_
          exact k_X9_up_90 C (lx_sub hL [3, 4, 1, 0] rfl) hR hS hd
      · rw [if_pos c6] at hd
        refine lv_iconst (v := (-1)) hx hb dX9_up_51 (by decide) ?_
        cases hd
        exact r_iret C dX9_up_52 hR hS
set_option maxHeartbeats 4000000 in
set_option maxRecDepth 100000 in
theorem k_X9_up (C : Cx p s m args meth c RX9 cX9_up 8 (some .int) b0 D E) {rr : Int32} {GG : Hp} {x0 : Nat} {x1 : Int32} {x2 : Int32} {x3 : Int32} {G : Hp} {ls : Array Slot} {H : Heap} {locs : List Loc} : lx ls 8 [(0, .inr x0), (1, .inl x1), (2, .inl x2), (3, .inl x3)] → Rp b0 D E G H → SS b0 s H locs → d_X9_up x0 x1 x2 x3 G = some (rr, GG) → W p l e (rmd 5 (0) (0)) s m args below meth c H locs (0) (0) (MQ below (CQ b0 D E (some (.int rr)) GG) args s (0) (0) (fun q => b0 ≤ q)) (F0 m 0 ls []) := by
  intro hL hR hS hd
  unfold d_X9_up at hd
  have hx := C.1
  have hb := C.2.1
  refine x_iload_n C dX9_up_0 hL 3 rfl ?_
  refine lv_if_ne (tgt := 13) hx hb dX9_up_1 (by decide) (fun c1 => ?_) (fun c1 => ?_)
  · rw [if_neg c1] at hd
    refine x_aload_n C dX9_up_13 hL 0 rfl ?_
    refine x_iload_n C dX9_up_14 hL 1 rfl ?_
    refine x_iload_n C dX9_up_15 hL 3 rfl ?_
    refine lv_iconst (v := 1) hx hb dX9_up_16 (by decide) ?_
    refine lv_isub hx hb dX9_up_17 ?_
    obtain ⟨g2, hd⟩ := gd_ex hd
    obtain ⟨v4, G5, h3, hd⟩ := b2_ex hd
    refine r_callV (a := x0) (ci := 9) (As := [.int x1, .int ((x3 - 1))]) C (ct_X9_toSource h3) mf_X9_toSource ml_X9_160 mv_X9_toSource rfl ⟨Nat.le_of_ble_eq_true rfl, Nat.le_of_ble_eq_true rfl⟩ dX9_up_18 (lx_size hL) rfl hR hS g2 ⟨Nat.le_refl _, Nat.le_refl _⟩ (cat_le [] (Nat.le_of_ble_eq_true rfl)) (fun H locs hR hS => ?_)
    refine W_st (st2 := [.int v4]) rfl ?_
    exact k_X9_up_21 C hL hR hS hd
  · rw [if_pos c1] at hd
    refine x_aload_n C dX9_up_4 hL 0 rfl ?_
    refine x_iload_n C dX9_up_5 hL 1 rfl ?_
    refine x_iload_n C dX9_up_6 hL 2 rfl ?_
    obtain ⟨g6, hd⟩ := gd_ex hd
    obtain ⟨v8, G9, h7, hd⟩ := b2_ex hd
    refine r_callV (a := x0) (ci := 9) (As := [.int x1, .int x2]) C (ct_X9_toMeeting h7) mf_X9_toMeeting ml_X9_194 mv_X9_toMeeting rfl ⟨Nat.le_of_ble_eq_true rfl, Nat.le_of_ble_eq_true rfl⟩ dX9_up_7 (lx_size hL) rfl hR hS g6 ⟨Nat.le_refl _, Nat.le_refl _⟩ (cat_le [] (Nat.le_of_ble_eq_true rfl)) (fun H locs hR hS => ?_)
    refine W_st (st2 := [.int v8]) rfl ?_
    refine lv_goto (tgt := 21) hx hb dX9_up_10 (by decide) ?_
    exact k_X9_up_21 C hL hR hS hd
end
set_option maxHeartbeats 4000000 in
set_option maxRecDepth 100000 in
theorem ct_X9_up {l : Launch} {b0 : Nat} {D : va_G} {E : Nat → ClassId} {G : Hp} {a0 : Nat} {a1 : Int32} {a2 : Int32} {a3 : Int32} {rr : Int32} {GG : Hp} (hd : d_X9_up a0 a1 a2 a3 G = some (rr, GG)) : CT l yX9_up cX9_up 8 (some .int) 5 0 0 b0 D E [rv a0, .int a1, .int a2, .int a3] G (some (.int rr)) GG := by
  refine CT_of (by decide +kernel) ?_
  intro p e s m below meth c C hnm hR
  refine r_entry [.inr a0, .inl a1, .inl a2, .inl a3] (n := 8) (Nat.le_of_ble_eq_true rfl) (lv := [(0, .inr a0), (1, .inl a1), (2, .inl a2), (3, .inl a3)]) rfl (fun ls hL => ?_)
  exact k_X9_up C (lx_sub hL [0, 1, 2, 3] rfl) hR ⟨fun _ _ => rfl, fun _ h => by cases h⟩ hd

/-! GroveWorksModel.toCutOff(II)I -/
theorem dX9_toCutOff_0 : decode cX9_toCutOff 0 = .ok (.iconst 0, 1) := by decide +kernel
theorem dX9_toCutOff_1 : decode cX9_toCutOff 1 = .ok (.istore_n 3, 1) := by decide +kernel
theorem dX9_toCutOff_2 : decode cX9_toCutOff 2 = .ok (.aload_n 0, 1) := by decide +kernel
theorem dX9_toCutOff_3 : decode cX9_toCutOff 3 = .ok (.iload_n 1, 1) := by decide +kernel
theorem dX9_toCutOff_4 : decode cX9_toCutOff 4 = .ok (.iload_n 2, 1) := by decide +kernel
theorem dX9_toCutOff_5 : decode cX9_toCutOff 5 = .ok (.iconst 0, 1) := by decide +kernel
theorem dX9_toCutOff_6 : decode cX9_toCutOff 6 = .ok (.invokevirtual 232, 3) := by decide +kernel
theorem dX9_toCutOff_9 : decode cX9_toCutOff 9 = .ok (.istore 4, 2) := by decide +kernel
theorem dX9_toCutOff_11 : decode cX9_toCutOff 11 = .ok (.iconst 0, 1) := by decide +kernel
theorem dX9_toCutOff_12 : decode cX9_toCutOff 12 = .ok (.istore 5, 2) := by decide +kernel
theorem dX9_toCutOff_14 : decode cX9_toCutOff 14 = .ok (.iload 5, 2) := by decide +kernel
theorem dX9_toCutOff_16 : decode cX9_toCutOff 16 = .ok (.bipush 16, 2) := by decide +kernel
theorem dX9_toCutOff_18 : decode cX9_toCutOff 18 = .ok (.if_icmp .ge 71, 3) := by decide +kernel
theorem dX9_toCutOff_21 : decode cX9_toCutOff 21 = .ok (.aload_n 0, 1) := by decide +kernel
theorem dX9_toCutOff_22 : decode cX9_toCutOff 22 = .ok (.iload_n 1, 1) := by decide +kernel
theorem dX9_toCutOff_23 : decode cX9_toCutOff 23 = .ok (.iload_n 2, 1) := by decide +kernel
theorem dX9_toCutOff_24 : decode cX9_toCutOff 24 = .ok (.iload 5, 2) := by decide +kernel
theorem dX9_toCutOff_26 : decode cX9_toCutOff 26 = .ok (.invokevirtual 191, 3) := by decide +kernel
theorem dX9_toCutOff_29 : decode cX9_toCutOff 29 = .ok (.ifCond .eq 24, 3) := by decide +kernel
theorem dX9_toCutOff_32 : decode cX9_toCutOff 32 = .ok (.iload 4, 2) := by decide +kernel
theorem dX9_toCutOff_34 : decode cX9_toCutOff 34 = .ok (.iconst (-1), 1) := by decide +kernel
theorem dX9_toCutOff_35 : decode cX9_toCutOff 35 = .ok (.if_icmp .eq 18, 3) := by decide +kernel
theorem dX9_toCutOff_38 : decode cX9_toCutOff 38 = .ok (.iload 4, 2) := by decide +kernel
theorem dX9_toCutOff_40 : decode cX9_toCutOff 40 = .ok (.aload_n 0, 1) := by decide +kernel
theorem dX9_toCutOff_41 : decode cX9_toCutOff 41 = .ok (.iload_n 1, 1) := by decide +kernel
theorem dX9_toCutOff_42 : decode cX9_toCutOff 42 = .ok (.iload_n 2, 1) := by decide +kernel
theorem dX9_toCutOff_43 : decode cX9_toCutOff 43 = .ok (.iconst 1, 1) := by decide +kernel
theorem dX9_toCutOff_44 : decode cX9_toCutOff 44 = .ok (.iload 5, 2) := by decide +kernel
theorem dX9_toCutOff_46 : decode cX9_toCutOff 46 = .ok (.iadd, 1) := by decide +kernel
theorem dX9_toCutOff_47 : decode cX9_toCutOff 47 = .ok (.invokevirtual 232, 3) := by decide +kernel
theorem dX9_toCutOff_50 : decode cX9_toCutOff 50 = .ok (.if_icmp .ne 14, 3) := by decide +kernel
theorem dX9_toCutOff_53 : decode cX9_toCutOff 53 = .ok (.aload_n 0, 1) := by decide +kernel
theorem dX9_toCutOff_54 : decode cX9_toCutOff 54 = .ok (.iload_n 1, 1) := by decide +kernel
theorem dX9_toCutOff_55 : decode cX9_toCutOff 55 = .ok (.iload_n 2, 1) := by decide +kernel
theorem dX9_toCutOff_56 : decode cX9_toCutOff 56 = .ok (.iload 5, 2) := by decide +kernel
theorem dX9_toCutOff_58 : decode cX9_toCutOff 58 = .ok (.invokevirtual 235, 3) := by decide +kernel
theorem dX9_toCutOff_61 : decode cX9_toCutOff 61 = .ok (.ifCond .ne 7, 3) := by decide +kernel
theorem dX9_toCutOff_64 : decode cX9_toCutOff 64 = .ok (.iconst 1, 1) := by decide +kernel
theorem dX9_toCutOff_65 : decode cX9_toCutOff 65 = .ok (.goto 4, 3) := by decide +kernel
theorem dX9_toCutOff_68 : decode cX9_toCutOff 68 = .ok (.iconst 0, 1) := by decide +kernel
theorem dX9_toCutOff_69 : decode cX9_toCutOff 69 = .ok (.istore 6, 2) := by decide +kernel
theorem dX9_toCutOff_71 : decode cX9_toCutOff 71 = .ok (.iload 6, 2) := by decide +kernel
theorem dX9_toCutOff_73 : decode cX9_toCutOff 73 = .ok (.ifCond .eq 10, 3) := by decide +kernel
theorem dX9_toCutOff_76 : decode cX9_toCutOff 76 = .ok (.iload_n 3, 1) := by decide +kernel
theorem dX9_toCutOff_77 : decode cX9_toCutOff 77 = .ok (.iconst 1, 1) := by decide +kernel
theorem dX9_toCutOff_78 : decode cX9_toCutOff 78 = .ok (.iload 5, 2) := by decide +kernel
theorem dX9_toCutOff_80 : decode cX9_toCutOff 80 = .ok (.ishl, 1) := by decide +kernel
theorem dX9_toCutOff_81 : decode cX9_toCutOff 81 = .ok (.ior, 1) := by decide +kernel
theorem dX9_toCutOff_82 : decode cX9_toCutOff 82 = .ok (.istore_n 3, 1) := by decide +kernel
theorem dX9_toCutOff_83 : decode cX9_toCutOff 83 = .ok (.iinc 5 1, 3) := by decide +kernel
theorem dX9_toCutOff_86 : decode cX9_toCutOff 86 = .ok (.goto (-72), 3) := by decide +kernel
theorem dX9_toCutOff_89 : decode cX9_toCutOff 89 = .ok (.iload_n 3, 1) := by decide +kernel
theorem dX9_toCutOff_90 : decode cX9_toCutOff 90 = .ok (.ireturn, 1) := by decide +kernel
def d_X9_toCutOff_69 (x0 : Nat) (x1 : Int32) (x2 : Int32) (x3 : Int32) (x4 : Int32) (x5 : Int32) (s0 : Int32) (G : Hp) (k14 : Nat → Int32 → Int32 → Int32 → Int32 → Int32 → Hp → Option (Int32 × Hp)) : Option (Int32 × Hp) :=
  if s0 = 0 then
    k14 x0 x1 x2 x3 x4 ((x5 + 1)) G
  else
    bd ((x3 ||| ((1 <<< (x5 &&& 31))))) fun v2 =>
    k14 x0 x1 x2 v2 x4 ((x5 + 1)) G
def d_X9_toCutOff_64 (x0 : Nat) (x1 : Int32) (x2 : Int32) (x3 : Int32) (x4 : Int32) (x5 : Int32) (G : Hp) (k14 : Nat → Int32 → Int32 → Int32 → Int32 → Int32 → Hp → Option (Int32 × Hp)) : Option (Int32 × Hp) :=
  d_X9_toCutOff_69 x0 x1 x2 x3 x4 x5 1 G k14
def d_X9_toCutOff_53 (x0 : Nat) (x1 : Int32) (x2 : Int32) (x3 : Int32) (x4 : Int32) (x5 : Int32) (G : Hp) (k14 : Nat → Int32 → Int32 → Int32 → Int32 → Int32 → Hp → Option (Int32 × Hp)) : Option (Int32 × Hp) :=
  gd (hc G x0 = 10) <|
  b2 (d_X9_shared x0 x1 x2 x5 G) fun v3 G4 =>
  if v3 = 0 then
    d_X9_toCutOff_64 x0 x1 x2 x3 x4 x5 G4 k14
  else
    d_X9_toCutOff_69 x0 x1 x2 x3 x4 x5 0 G4 k14
def d_X9_toCutOff_14 : Nat → Nat → Int32 → Int32 → Int32 → Int32 → Int32 → Hp → Option (Int32 × Hp)
  | 0, _, _, _, _, _, _, _ => none
  | n_ + 1, x0, x1, x2, x3, x4, x5, G =>
    if 16 ≤ x5 then
      some (x3, G)
    else
      gd (hc G x0 = 10) <|
      bo (d_X9_isStraight x0 x1 x2 x5 G) fun v4 =>
      if v4 = 0 then
        d_X9_toCutOff_53 x0 x1 x2 x3 x4 x5 G (fun y0 y1 y2 y3 y4 y5 Gy => d_X9_toCutOff_14 n_ y0 y1 y2 y3 y4 y5 Gy)
      else
        if x4 = (-1) then
          d_X9_toCutOff_53 x0 x1 x2 x3 x4 x5 G (fun y0 y1 y2 y3 y4 y5 Gy => d_X9_toCutOff_14 n_ y0 y1 y2 y3 y4 y5 Gy)
        else
          b2 (d_X9_up x0 x1 x2 ((1 + x5)) G) fun v8 G9 =>
          if x4 = v8 then
            d_X9_toCutOff_53 x0 x1 x2 x3 x4 x5 G9 (fun y0 y1 y2 y3 y4 y5 Gy => d_X9_toCutOff_14 n_ y0 y1 y2 y3 y4 y5 Gy)
          else
            d_X9_toCutOff_64 x0 x1 x2 x3 x4 x5 G9 (fun y0 y1 y2 y3 y4 y5 Gy => d_X9_toCutOff_14 n_ y0 y1 y2 y3 y4 y5 Gy)
def d_X9_toCutOff (x0 : Nat) (x1 : Int32) (x2 : Int32) (G : Hp) : Option (Int32 × Hp) :=
  gd (hc G x0 = 10) <|
  b2 (d_X9_up x0 x1 x2 0 G) fun v3 G4 =>
  d_X9_toCutOff_14 FU x0 x1 x2 0 v3 0 G4
section
variable {p : Program} {l : Launch} {e : Env} {s : State} {m : MethodId} {args : Array Value} {below : List Frame} {meth : Method} {c : Code} {b0 : Nat} {D : va_G} {E : Nat → ClassId}
set_option maxHeartbeats 4000000 in
set_option maxRecDepth 100000 in
theorem k_X9_toCutOff_69 (C : Cx p s m args meth c RX9 cX9_toCutOff 7 (some .int) b0 D E) {rr : Int32} {GG : Hp} {k14 : Nat → Int32 → Int32 → Int32 → Int32 → Int32 → Hp → Option (Int32 × Hp)} (hk14 : ∀ (y0 : Nat) (y1 : Int32) (y2 : Int32) (y3 : Int32) (y4 : Int32) (y5 : Int32) (Gy : Hp) (H1 : Heap) (locs1 : List Loc) (ls1 : Array Slot), lx ls1 7 [(0, .inr y0), (1, .inl y1), (2, .inl y2), (3, .inl y3), (4, .inl y4), (5, .inl y5)] → Rp b0 D E Gy H1 → SS b0 s H1 locs1 → k14 y0 y1 y2 y3 y4 y5 Gy = some (rr, GG) → W p l e (rmd 9 (0) (0)) s m args below meth c H1 locs1 (0) (0) (MQ below (CQ b0 D E (some (.int rr)) GG) args s (0) (0) (fun q => b0 ≤ q)) (F0 m 14 ls1 [])) {x0 : Nat} {x1 : Int32} {x2 : Int32} {x3 : Int32} {x4 : Int32} {x5 : Int32} {s0 : Int32} {G : Hp} {ls : Array Slot} {H : Heap} {locs : List Loc} : lx ls 7 [(0, .inr x0), (1, .inl x1), (2, .inl x2), (3, .inl x3), (4, .inl x4), (5, .inl x5)] → Rp b0 D E G H → SS b0 s H locs → d_X9_toCutOff_69 x0 x1 x2 x3 x4 x5 s0 G k14 = some (rr, GG) → W p l e (rmd 9 (0) (0)) s m args below meth c H locs (0) (0) (MQ below (CQ b0 D E (some (.int rr)) GG) args s (0) (0) (fun q => b0 ≤ q)) (F0 m 69 ls [.int s0]) := by
  intro hL hR hS hd
  unfold d_X9_toCutOff_69 at hd
  have hx := C.1
  have hb := C.2.1
  refine x_istore (lv' := [(6, .inl s0), (0, .inr x0), (1, .inl x1), (2, .inl x2), (3, .inl x3), (4, .inl x4), (5, .inl x5)]) C dX9_toCutOff_69 hL (by decide) rfl (fun ls hL => ?_)
  refine x_iload C dX9_toCutOff_71 hL 0 rfl ?_
  refine lv_if_eq (tgt := 83) hx hb dX9_toCutOff_73 (by decide) (fun c1 => ?_) (fun c1 => ?_)
  · rw [if_pos c1] at hd
    refine x_iinc (lv' := [(5, .inl ((x5 + 1))), (6, .inl s0), (0, .inr x0), (1, .inl x1), (2, .inl x2), (3, .inl x3), (4, .inl x4)]) C dX9_toCutOff_83 hL 6 rfl rfl (by decide) rfl (fun ls hL => ?_)
    refine lv_goto (tgt := 14) hx hb dX9_toCutOff_86 (by decide) ?_
    exact hk14 _ _ _ _ _ _ _ _ _ _ (lx_sub hL [2, 3, 4, 5, 6, 0] rfl) hR hS hd
  · rw [if_neg c1] at hd
    refine x_iload_n C dX9_toCutOff_76 hL 4 rfl ?_
    refine lv_iconst (v := 1) hx hb dX9_toCutOff_77 (by decide) ?_
    refine x_iload C dX9_toCutOff_78 hL 6 rfl ?_
    refine lv_ishl hx hb dX9_toCutOff_80 ?_
    refine lv_ior hx hb dX9_toCutOff_81 ?_
    obtain ⟨v2, ev2, hd⟩ := bd_ex hd
    rw [← ev2]
    refine x_istore_n (lv' := [(3, .inl v2), (6, .inl s0), (0, .inr x0), (1, .inl x1), (2, .inl x2), (4, .inl x4), (5, .inl x5)]) C dX9_toCutOff_82 hL (by decide) rfl (fun ls hL => ?_)
    refine x_iinc (lv' := [(5, .inl ((x5 + 1))), (3, .inl v2), (6, .inl s0), (0, .inr x0), (1, .inl x1), (2, .inl x2), (4, .inl x4)]) C dX9_toCutOff_83 hL 6 rfl rfl (by decide) rfl (fun ls hL => ?_)
    refine lv_goto (tgt := 14) hx hb dX9_toCutOff_86 (by decide) ?_
    exact hk14 _ _ _ _ _ _ _ _ _ _ (lx_sub hL [3, 4, 5, 1, 6, 0] rfl) hR hS hd
set_option maxHeartbeats 4000000 in
set_option maxRecDepth 100000 in
theorem k_X9_toCutOff_64 (C : Cx p s m args meth c RX9 cX9_toCutOff 7 (some .int) b0 D E) {rr : Int32} {GG : Hp} {k14 : Nat → Int32 → Int32 → Int32 → Int32 → Int32 → Hp → Option (Int32 × Hp)} (hk14 : ∀ (y0 : Nat) (y1 : Int32) (y2 : Int32) (y3 : Int32) (y4 : Int32) (y5 : Int32) (Gy : Hp) (H1 : Heap) (locs1 : List Loc) (ls1 : Array Slot), lx ls1 7 [(0, .inr y0), (1, .inl y1), (2, .inl y2), (3, .inl y3), (4, .inl y4), (5, .inl y5)] → Rp b0 D E Gy H1 → SS b0 s H1 locs1 → k14 y0 y1 y2 y3 y4 y5 Gy = some (rr, GG) → W p l e (rmd 9 (0) (0)) s m args below meth c H1 locs1 (0) (0) (MQ below (CQ b0 D E (some (.int rr)) GG) args s (0) (0) (fun q => b0 ≤ q)) (F0 m 14 ls1 [])) {x0 : Nat} {x1 : Int32} {x2 : Int32} {x3 : Int32} {x4 : Int32} {x5 : Int32} {G : Hp} {ls : Array Slot} {H : Heap} {locs : List Loc} : lx ls 7 [(0, .inr x0), (1, .inl x1), (2, .inl x2), (3, .inl x3), (4, .inl x4), (5, .inl x5)] → Rp b0 D E G H → SS b0 s H locs → d_X9_toCutOff_64 x0 x1 x2 x3 x4 x5 G k14 = some (rr, GG) → W p l e (rmd 9 (0) (0)) s m args below meth c H locs (0) (0) (MQ below (CQ b0 D E (some (.int rr)) GG) args s (0) (0) (fun q => b0 ≤ q)) (F0 m 64 ls []) := by
  intro hL hR hS hd
  unfold d_X9_toCutOff_64 at hd
  have hx := C.1
  have hb := C.2.1
  refine lv_iconst (v := 1) hx hb dX9_toCutOff_64 (by decide) ?_
  refine lv_goto (tgt := 69) hx hb dX9_toCutOff_65 (by decide) ?_
  exact k_X9_toCutOff_69 C hk14 hL hR hS hd
set_option maxHeartbeats 4000000 in
set_option maxRecDepth 100000 in
theorem k_X9_toCutOff_53 (C : Cx p s m args meth c RX9 cX9_toCutOff 7 (some .int) b0 D E) {rr : Int32} {GG : Hp} {k14 : Nat → Int32 → Int32 → Int32 → Int32 → Int32 → Hp → Option (Int32 × Hp)} (hk14 : ∀ (y0 : Nat) (y1 : Int32) (y2 : Int32) (y3 : Int32) (y4 : Int32) (y5 : Int32) (Gy : Hp) (H1 : Heap) (locs1 : List Loc) (ls1 : Array Slot), lx ls1 7 [(0, .inr y0), (1, .inl y1), (2, .inl y2), (3, .inl y3), (4, .inl y4), (5, .inl y5)] → Rp b0 D E Gy H1 → SS b0 s H1 locs1 → k14 y0 y1 y2 y3 y4 y5 Gy = some (rr, GG) → W p l e (rmd 9 (0) (0)) s m args below meth c H1 locs1 (0) (0) (MQ below (CQ b0 D E (some (.int rr)) GG) args s (0) (0) (fun q => b0 ≤ q)) (F0 m 14 ls1 [])) {x0 : Nat} {x1 : Int32} {x2 : Int32} {x3 : Int32} {x4 : Int32} {x5 : Int32} {G : Hp} {ls : Array Slot} {H : Heap} {locs : List Loc} : lx ls 7 [(0, .inr x0), (1, .inl x1), (2, .inl x2), (3, .inl x3), (4, .inl x4), (5, .inl x5)] → Rp b0 D E G H → SS b0 s H locs → d_X9_toCutOff_53 x0 x1 x2 x3 x4 x5 G k14 = some (rr, GG) → W p l e (rmd 9 (0) (0)) s m args below meth c H locs (0) (0) (MQ below (CQ b0 D E (some (.int rr)) GG) args s (0) (0) (fun q => b0 ≤ q)) (F0 m 53 ls []) := by
  intro hL hR hS hd
  unfold d_X9_toCutOff_53 at hd
  have hx := C.1
  have hb := C.2.1
  refine x_aload_n C dX9_toCutOff_53 hL 0 rfl ?_
  refine x_iload_n C dX9_toCutOff_54 hL 1 rfl ?_
  refine x_iload_n C dX9_toCutOff_55 hL 2 rfl ?_
  refine x_iload C dX9_toCutOff_56 hL 5 rfl ?_
  obtain ⟨g1, hd⟩ := gd_ex hd
  obtain ⟨v3, G4, h2, hd⟩ := b2_ex hd
  refine r_callV (a := x0) (ci := 9) (As := [.int x1, .int x2, .int x5]) C (ct_X9_shared h2) mf_X9_shared ml_X9_235 mv_X9_shared rfl ⟨Nat.le_of_ble_eq_true rfl, Nat.le_of_ble_eq_true rfl⟩ dX9_toCutOff_58 (lx_size hL) rfl hR hS g1 ⟨Nat.le_refl _, Nat.le_refl _⟩ (cat_le [] (Nat.le_of_ble_eq_true rfl)) (fun H locs hR hS => ?_)
  refine W_st (st2 := [.int v3]) rfl ?_
  refine lv_if_ne (tgt := 68) hx hb dX9_toCutOff_61 (by decide) (fun c5 => ?_) (fun c5 => ?_)
  · rw [if_neg c5] at hd
    refine lv_iconst (v := 0) hx hb dX9_toCutOff_68 (by decide) ?_
    exact k_X9_toCutOff_69 C hk14 hL hR hS hd
  · rw [if_pos c5] at hd
    exact k_X9_toCutOff_64 C hk14 hL hR hS hd
set_option maxHeartbeats 4000000 in
set_option maxRecDepth 100000 in
theorem k_X9_toCutOff_14 (C : Cx p s m args meth c RX9 cX9_toCutOff 7 (some .int) b0 D E) {rr : Int32} {GG : Hp} : ∀ (n_ : Nat) {x0 : Nat} {x1 : Int32} {x2 : Int32} {x3 : Int32} {x4 : Int32} {x5 : Int32} {G : Hp} {ls : Array Slot} {H : Heap} {locs : List Loc}, lx ls 7 [(0, .inr x0), (1, .inl x1), (2, .inl x2), (3, .inl x3), (4, .inl x4), (5, .inl x5)] → Rp b0 D E G H → SS b0 s H locs → d_X9_toCutOff_14 n_ x0 x1 x2 x3 x4 x5 G = some (rr, GG) → W p l e (rmd 9 (0) (0)) s m args below meth c H locs (0) (0) (MQ below (CQ b0 D E (some (.int rr)) GG) args s (0) (0) (fun q => b0 ≤ q)) (F0 m 14 ls []) := by
  intro n_
  induction n_ with
  | zero =>
    intro x0 x1 x2 x3 x4 x5 G ls H locs hL hR hS hd
    cases (show (none : Option _) = some _ from hd)
  | succ n_ ih =>
    intro x0 x1 x2 x3 x4 x5 G ls H locs hL hR hS hd
    rw [d_X9_toCutOff_14.eq_2] at hd
    have hx := C.1
    have hb := C.2.1
    refine x_iload C dX9_toCutOff_14 hL 5 rfl ?_
    refine lv_bipush (v := 16) hx hb dX9_toCutOff_16 (by decide) ?_
    refine lv_icmp_ge (tgt := 89) hx hb dX9_toCutOff_18 (by decide) (fun c1 => ?_) (fun c1 => ?_)
    · rw [if_pos c1] at hd
      refine x_iload_n C dX9_toCutOff_89 hL 3 rfl ?_
      cases hd
      exact r_iret C dX9_toCutOff_90 hR hS
    · rw [if_neg c1] at hd
      refine x_aload_n C dX9_toCutOff_21 hL 0 rfl ?_
      refine x_iload_n C dX9_toCutOff_22 hL 1 rfl ?_
      refine x_iload_n C dX9_toCutOff_23 hL 2 rfl ?_
      refine x_iload C dX9_toCutOff_24 hL 5 rfl ?_
      obtain ⟨g2, hd⟩ := gd_ex hd
      obtain ⟨v4, h3, hd⟩ := bo_ex hd
      refine r_callV (a := x0) (ci := 9) (As := [.int x1, .int x2, .int x5]) C (ct_X9_isStraight h3) mf_X9_isStraight ml_X9_191 mv_X9_isStraight rfl ⟨Nat.le_of_ble_eq_true rfl, Nat.le_of_ble_eq_true rfl⟩ dX9_toCutOff_26 (lx_size hL) rfl hR hS g2 ⟨Nat.le_refl _, Nat.le_refl _⟩ (cat_le [] (Nat.le_of_ble_eq_true rfl)) (fun H locs hR hS => ?_)
      refine W_st (st2 := [.int v4]) rfl ?_
      refine lv_if_eq (tgt := 53) hx hb dX9_toCutOff_29 (by decide) (fun c5 => ?_) (fun c5 => ?_)
      · rw [if_pos c5] at hd
        exact k_X9_toCutOff_53 C (fun y0 y1 y2 y3 y4 y5 Gy H1 locs1 ls1 hL1 hR1 hS1 hd1 => ih hL1 hR1 hS1 hd1) hL hR hS hd
      · rw [if_neg c5] at hd
        refine x_iload C dX9_toCutOff_32 hL 4 rfl ?_
        refine lv_iconst (v := (-1)) hx hb dX9_toCutOff_34 (by decide) ?_
        refine lv_icmp_eq (tgt := 53) hx hb dX9_toCutOff_35 (by decide) (fun c6 => ?_) (fun c6 => ?_)
        · rw [if_pos c6] at hd
          exact k_X9_toCutOff_53 C (fun y0 y1 y2 y3 y4 y5 Gy H1 locs1 ls1 hL1 hR1 hS1 hd1 => ih hL1 hR1 hS1 hd1) hL hR hS hd
        · rw [if_neg c6] at hd
          refine x_iload C dX9_toCutOff_38 hL 4 rfl ?_
          refine x_aload_n C dX9_toCutOff_40 hL 0 rfl ?_
          refine x_iload_n C dX9_toCutOff_41 hL 1 rfl ?_
          refine x_iload_n C dX9_toCutOff_42 hL 2 rfl ?_
          refine lv_iconst (v := 1) hx hb dX9_toCutOff_43 (by decide) ?_
          refine x_iload C dX9_toCutOff_44 hL 5 rfl ?_
          refine lv_iadd hx hb dX9_toCutOff_46 ?_
          obtain ⟨v8, G9, h7, hd⟩ := b2_ex hd
          refine r_callV (a := x0) (ci := 9) (As := [.int x1, .int x2, .int ((1 + x5))]) C (ct_X9_up h7) mf_X9_up ml_X9_232 mv_X9_up rfl ⟨Nat.le_of_ble_eq_true rfl, Nat.le_of_ble_eq_true rfl⟩ dX9_toCutOff_47 (lx_size hL) rfl hR hS g2 ⟨Nat.le_refl _, Nat.le_refl _⟩ (cat_le [.inl x4] (Nat.le_of_ble_eq_true rfl)) (fun H locs hR hS => ?_)
          refine W_st (st2 := [.int v8, .int x4]) rfl ?_
          refine lv_icmp_ne (tgt := 64) hx hb dX9_toCutOff_50 (by decide) (fun c10 => ?_) (fun c10 => ?_)
          · rw [if_neg c10] at hd
            exact k_X9_toCutOff_64 C (fun y0 y1 y2 y3 y4 y5 Gy H1 locs1 ls1 hL1 hR1 hS1 hd1 => ih hL1 hR1 hS1 hd1) hL hR hS hd
          · rw [if_pos c10] at hd
            exact k_X9_toCutOff_53 C (fun y0 y1 y2 y3 y4 y5 Gy H1 locs1 ls1 hL1 hR1 hS1 hd1 => ih hL1 hR1 hS1 hd1) hL hR hS hd
set_option maxHeartbeats 4000000 in
set_option maxRecDepth 100000 in
theorem k_X9_toCutOff (C : Cx p s m args meth c RX9 cX9_toCutOff 7 (some .int) b0 D E) {rr : Int32} {GG : Hp} {x0 : Nat} {x1 : Int32} {x2 : Int32} {G : Hp} {ls : Array Slot} {H : Heap} {locs : List Loc} : lx ls 7 [(0, .inr x0), (1, .inl x1), (2, .inl x2)] → Rp b0 D E G H → SS b0 s H locs → d_X9_toCutOff x0 x1 x2 G = some (rr, GG) → W p l e (rmd 9 (0) (0)) s m args below meth c H locs (0) (0) (MQ below (CQ b0 D E (some (.int rr)) GG) args s (0) (0) (fun q => b0 ≤ q)) (F0 m 0 ls []) := by
  intro hL hR hS hd
  unfold d_X9_toCutOff at hd
  have hx := C.1
  have hb := C.2.1
  refine lv_iconst (v := 0) hx hb dX9_toCutOff_0 (by decide) ?_
  refine x_istore_n (lv' := [(3, .inl 0), (0, .inr x0), (1, .inl x1), (2, .inl x2)]) C dX9_toCutOff_1 hL (by decide) rfl (fun ls hL => ?_)
  refine x_aload_n C dX9_toCutOff_2 hL 1 rfl ?_
  refine x_iload_n C dX9_toCutOff_3 hL 2 rfl ?_
  refine x_iload_n C dX9_toCutOff_4 hL 3 rfl ?_
  refine lv_iconst (v := 0) hx hb dX9_toCutOff_5 (by decide) ?_
  obtain ⟨g1, hd⟩ := gd_ex hd
  obtain ⟨v3, G4, h2, hd⟩ := b2_ex hd
  refine r_callV (a := x0) (ci := 9) (As := [.int x1, .int x2, .int 0]) C (ct_X9_up h2) mf_X9_up ml_X9_232 mv_X9_up rfl ⟨Nat.le_of_ble_eq_true rfl, Nat.le_of_ble_eq_true rfl⟩ dX9_toCutOff_6 (lx_size hL) rfl hR hS g1 ⟨Nat.le_refl _, Nat.le_refl _⟩ (cat_le [] (Nat.le_of_ble_eq_true rfl)) (fun H locs hR hS => ?_)
  refine W_st (st2 := [.int v3]) rfl ?_
  refine x_istore (lv' := [(4, .inl v3), (3, .inl 0), (0, .inr x0), (1, .inl x1), (2, .inl x2)]) C dX9_toCutOff_9 hL (by decide) rfl (fun ls hL => ?_)
  refine lv_iconst (v := 0) hx hb dX9_toCutOff_11 (by decide) ?_
  refine x_istore (lv' := [(5, .inl 0), (4, .inl v3), (3, .inl 0), (0, .inr x0), (1, .inl x1), (2, .inl x2)]) C dX9_toCutOff_12 hL (by decide) rfl (fun ls hL => ?_)
  exact k_X9_toCutOff_14 C FU (lx_sub hL [3, 4, 5, 2, 1, 0] rfl) hR hS hd
end
set_option maxHeartbeats 4000000 in
set_option maxRecDepth 100000 in
theorem ct_X9_toCutOff {l : Launch} {b0 : Nat} {D : va_G} {E : Nat → ClassId} {G : Hp} {a0 : Nat} {a1 : Int32} {a2 : Int32} {rr : Int32} {GG : Hp} (hd : d_X9_toCutOff a0 a1 a2 G = some (rr, GG)) : CT l yX9_toCutOff cX9_toCutOff 7 (some .int) 9 0 0 b0 D E [rv a0, .int a1, .int a2] G (some (.int rr)) GG := by
  refine CT_of (by decide +kernel) ?_
  intro p e s m below meth c C hnm hR
  refine r_entry [.inr a0, .inl a1, .inl a2] (n := 7) (Nat.le_of_ble_eq_true rfl) (lv := [(0, .inr a0), (1, .inl a1), (2, .inl a2)]) rfl (fun ls hL => ?_)
  exact k_X9_toCutOff C (lx_sub hL [0, 1, 2] rfl) hR ⟨fun _ _ => rfl, fun _ h => by cases h⟩ hd

/-! GroveWorksModel.sendJoin(III)V -/
theorem dX9_sendJoin_0 : decode cX9_sendJoin 0 = .ok (.bipush 17, 2) := by decide +kernel
theorem dX9_sendJoin_2 : decode cX9_sendJoin 2 = .ok (.bipush 8, 2) := by decide +kernel
theorem dX9_sendJoin_4 : decode cX9_sendJoin 4 = .ok (.iload_n 1, 1) := by decide +kernel
theorem dX9_sendJoin_5 : decode cX9_sendJoin 5 = .ok (.imul, 1) := by decide +kernel
theorem dX9_sendJoin_6 : decode cX9_sendJoin 6 = .ok (.iload_n 2, 1) := by decide +kernel
theorem dX9_sendJoin_7 : decode cX9_sendJoin 7 = .ok (.iadd, 1) := by decide +kernel
theorem dX9_sendJoin_8 : decode cX9_sendJoin 8 = .ok (.imul, 1) := by decide +kernel
theorem dX9_sendJoin_9 : decode cX9_sendJoin 9 = .ok (.iload_n 3, 1) := by decide +kernel
theorem dX9_sendJoin_10 : decode cX9_sendJoin 10 = .ok (.iadd, 1) := by decide +kernel
theorem dX9_sendJoin_11 : decode cX9_sendJoin 11 = .ok (.istore 4, 2) := by decide +kernel
theorem dX9_sendJoin_13 : decode cX9_sendJoin 13 = .ok (.aload_n 0, 1) := by decide +kernel
theorem dX9_sendJoin_14 : decode cX9_sendJoin 14 = .ok (.getfield 7, 3) := by decide +kernel
theorem dX9_sendJoin_17 : decode cX9_sendJoin 17 = .ok (.iconst 4, 1) := by decide +kernel
theorem dX9_sendJoin_18 : decode cX9_sendJoin 18 = .ok (.iload_n 1, 1) := by decide +kernel
theorem dX9_sendJoin_19 : decode cX9_sendJoin 19 = .ok (.imul, 1) := by decide +kernel
theorem dX9_sendJoin_20 : decode cX9_sendJoin 20 = .ok (.aload_n 0, 1) := by decide +kernel
theorem dX9_sendJoin_21 : decode cX9_sendJoin 21 = .ok (.getfield 87, 3) := by decide +kernel
theorem dX9_sendJoin_24 : decode cX9_sendJoin 24 = .ok (.iload 4, 2) := by decide +kernel
theorem dX9_sendJoin_26 : decode cX9_sendJoin 26 = .ok (.iaload, 1) := by decide +kernel
theorem dX9_sendJoin_27 : decode cX9_sendJoin 27 = .ok (.iadd, 1) := by decide +kernel
theorem dX9_sendJoin_28 : decode cX9_sendJoin 28 = .ok (.iaload, 1) := by decide +kernel
theorem dX9_sendJoin_29 : decode cX9_sendJoin 29 = .ok (.istore 5, 2) := by decide +kernel
theorem dX9_sendJoin_31 : decode cX9_sendJoin 31 = .ok (.aload_n 0, 1) := by decide +kernel
theorem dX9_sendJoin_32 : decode cX9_sendJoin 32 = .ok (.iload 5, 2) := by decide +kernel
theorem dX9_sendJoin_34 : decode cX9_sendJoin 34 = .ok (.iconst 5, 1) := by decide +kernel
theorem dX9_sendJoin_35 : decode cX9_sendJoin 35 = .ok (.iload_n 1, 1) := by decide +kernel
theorem dX9_sendJoin_36 : decode cX9_sendJoin 36 = .ok (.aload_n 0, 1) := by decide +kernel
theorem dX9_sendJoin_37 : decode cX9_sendJoin 37 = .ok (.getfield 90, 3) := by decide +kernel
theorem dX9_sendJoin_40 : decode cX9_sendJoin 40 = .ok (.iload 4, 2) := by decide +kernel
theorem dX9_sendJoin_42 : decode cX9_sendJoin 42 = .ok (.iaload, 1) := by decide +kernel
theorem dX9_sendJoin_43 : decode cX9_sendJoin 43 = .ok (.iload_n 2, 1) := by decide +kernel
theorem dX9_sendJoin_44 : decode cX9_sendJoin 44 = .ok (.iload_n 3, 1) := by decide +kernel
theorem dX9_sendJoin_45 : decode cX9_sendJoin 45 = .ok (.ifCond .ne 7, 3) := by decide +kernel
theorem dX9_sendJoin_48 : decode cX9_sendJoin 48 = .ok (.iconst (-1), 1) := by decide +kernel
theorem dX9_sendJoin_49 : decode cX9_sendJoin 49 = .ok (.goto 6, 3) := by decide +kernel
theorem dX9_sendJoin_52 : decode cX9_sendJoin 52 = .ok (.iload_n 3, 1) := by decide +kernel
theorem dX9_sendJoin_53 : decode cX9_sendJoin 53 = .ok (.iconst 1, 1) := by decide +kernel
theorem dX9_sendJoin_54 : decode cX9_sendJoin 54 = .ok (.isub, 1) := by decide +kernel
theorem dX9_sendJoin_55 : decode cX9_sendJoin 55 = .ok (.iconst 0, 1) := by decide +kernel
theorem dX9_sendJoin_56 : decode cX9_sendJoin 56 = .ok (.iload_n 3, 1) := by decide +kernel
theorem dX9_sendJoin_57 : decode cX9_sendJoin 57 = .ok (.ifCond .ne 17, 3) := by decide +kernel
theorem dX9_sendJoin_60 : decode cX9_sendJoin 60 = .ok (.aload_n 0, 1) := by decide +kernel
theorem dX9_sendJoin_61 : decode cX9_sendJoin 61 = .ok (.getfield 96, 3) := by decide +kernel
theorem dX9_sendJoin_64 : decode cX9_sendJoin 64 = .ok (.bipush 8, 2) := by decide +kernel
theorem dX9_sendJoin_66 : decode cX9_sendJoin 66 = .ok (.iload_n 1, 1) := by decide +kernel
theorem dX9_sendJoin_67 : decode cX9_sendJoin 67 = .ok (.imul, 1) := by decide +kernel
theorem dX9_sendJoin_68 : decode cX9_sendJoin 68 = .ok (.iload_n 2, 1) := by decide +kernel
theorem dX9_sendJoin_69 : decode cX9_sendJoin 69 = .ok (.iadd, 1) := by decide +kernel
theorem dX9_sendJoin_70 : decode cX9_sendJoin 70 = .ok (.iaload, 1) := by decide +kernel
theorem dX9_sendJoin_71 : decode cX9_sendJoin 71 = .ok (.goto 4, 3) := by decide +kernel
theorem dX9_sendJoin_74 : decode cX9_sendJoin 74 = .ok (.iconst 0, 1) := by decide +kernel
theorem dX9_sendJoin_75 : decode cX9_sendJoin 75 = .ok (.iconst 0, 1) := by decide +kernel
theorem dX9_sendJoin_76 : decode cX9_sendJoin 76 = .ok (.invokevirtual 238, 3) := by decide +kernel
theorem dX9_sendJoin_79 : decode cX9_sendJoin 79 = .ok (.pop, 1) := by decide +kernel
theorem dX9_sendJoin_80 : decode cX9_sendJoin 80 = .ok (.aload_n 0, 1) := by decide +kernel
theorem dX9_sendJoin_81 : decode cX9_sendJoin 81 = .ok (.getfield 93, 3) := by decide +kernel
theorem dX9_sendJoin_84 : decode cX9_sendJoin 84 = .ok (.iload 4, 2) := by decide +kernel
theorem dX9_sendJoin_86 : decode cX9_sendJoin 86 = .ok (.aload_n 0, 1) := by decide +kernel
theorem dX9_sendJoin_87 : decode cX9_sendJoin 87 = .ok (.getfield 122, 3) := by decide +kernel
theorem dX9_sendJoin_90 : decode cX9_sendJoin 90 = .ok (.iastore, 1) := by decide +kernel
theorem dX9_sendJoin_91 : decode cX9_sendJoin 91 = .ok (.return_, 1) := by decide +kernel
def d_X9_sendJoin_75 (x0 : Nat) (x4 : Int32) (s0 : Int32) (s1 : Int32) (s2 : Int32) (s3 : Int32) (s4 : Int32) (s5 : Int32) (s6 : Int32) (s7 : Int32) (s8 : Nat) (G : Hp) : Option (Hp) :=
  gd (hc G s8 = 10) <|
  b2 (d_X9_put s8 s7 s6 s5 s4 s3 s2 s1 s0 0 G) fun v3 G4 =>
  gd (hc G4 x0 = 10) <|
  gd (hc G4 ((hr G4 x0 35)) = 11 ∧ ix x4 (hl G4 ((hr G4 x0 35)))) <|
  bd (sI G4 ((hr G4 x0 35)) x4.toNatClampNeg ((hi G4 x0 0))) fun G7 =>
  some G7
def d_X9_sendJoin_55 (x0 : Nat) (x1 : Int32) (x2 : Int32) (x3 : Int32) (x4 : Int32) (s0 : Int32) (s1 : Int32) (s2 : Int32) (s3 : Int32) (s4 : Int32) (s5 : Int32) (s6 : Nat) (G : Hp) : Option (Hp) :=
  if x3 = 0 then
    gd (hc G x0 = 10) <|
    gd (hc G ((hr G x0 36)) = 11 ∧ ix ((((8 * x1)) + x2)) (hl G ((hr G x0 36)))) <|
    d_X9_sendJoin_75 x0 x4 ((hi G ((hr G x0 36)) ((((8 * x1)) + x2)).toNatClampNeg)) 0 s0 s1 s2 s3 s4 s5 s6 G
  else
    d_X9_sendJoin_75 x0 x4 0 0 s0 s1 s2 s3 s4 s5 s6 G
def d_X9_sendJoin (x0 : Nat) (x1 : Int32) (x2 : Int32) (x3 : Int32) (G : Hp) : Option (Hp) :=
  bd ((((17 * ((((8 * x1)) + x2)))) + x3)) fun v1 =>
  gd (hc G x0 = 10) <|
  gd (hc G ((hr G x0 33)) = 11 ∧ ix v1 (hl G ((hr G x0 33)))) <|
  gd (hc G ((hr G x0 8)) = 11 ∧ ix ((((4 * x1)) + ((hi G ((hr G x0 33)) v1.toNatClampNeg)))) (hl G ((hr G x0 8)))) <|
  bd ((hi G ((hr G x0 8)) ((((4 * x1)) + ((hi G ((hr G x0 33)) v1.toNatClampNeg)))).toNatClampNeg)) fun v5 =>
  gd (hc G ((hr G x0 34)) = 11 ∧ ix v1 (hl G ((hr G x0 34)))) <|
  if x3 = 0 then
    d_X9_sendJoin_55 x0 x1 x2 x3 v1 (-1) x2 ((hi G ((hr G x0 34)) v1.toNatClampNeg)) x1 5 v5 x0 G
  else
    d_X9_sendJoin_55 x0 x1 x2 x3 v1 ((x3 - 1)) x2 ((hi G ((hr G x0 34)) v1.toNatClampNeg)) x1 5 v5 x0 G
section
variable {p : Program} {l : Launch} {e : Env} {s : State} {m : MethodId} {args : Array Value} {below : List Frame} {meth : Method} {c : Code} {b0 : Nat} {D : va_G} {E : Nat → ClassId}
set_option maxHeartbeats 4000000 in
set_option maxRecDepth 100000 in
theorem k_X9_sendJoin_75 (C : Cx p s m args meth c RX9 cX9_sendJoin 6 none b0 D E) {GG : Hp} {x0 : Nat} {x4 : Int32} {s0 : Int32} {s1 : Int32} {s2 : Int32} {s3 : Int32} {s4 : Int32} {s5 : Int32} {s6 : Int32} {s7 : Int32} {s8 : Nat} {G : Hp} {ls : Array Slot} {H : Heap} {locs : List Loc} : lx ls 6 [(0, .inr x0), (4, .inl x4)] → Rp b0 D E G H → SS b0 s H locs → d_X9_sendJoin_75 x0 x4 s0 s1 s2 s3 s4 s5 s6 s7 s8 G = some GG → W p l e (rmd 1 (0) (0)) s m args below meth c H locs (0) (0) (MQ below (CQ b0 D E none GG) args s (0) (0) (fun q => b0 ≤ q)) (F0 m 75 ls [.int s0, .int s1, .int s2, .int s3, .int s4, .int s5, .int s6, .int s7, rv s8]) := by
  intro hL hR hS hd
  unfold d_X9_sendJoin_75 at hd
  have hx := C.1
  have hb := C.2.1
  refine lv_iconst (v := 0) hx hb dX9_sendJoin_75 (by decide) ?_
  obtain ⟨g1, hd⟩ := gd_ex hd
  obtain ⟨v3, G4, h2, hd⟩ := b2_ex hd
  refine r_callV (a := s8) (ci := 9) (As := [.int s7, .int s6, .int s5, .int s4, .int s3, .int s2, .int s1, .int s0, .int 0]) C (ct_X9_put h2) mf_X9_put ml_X9_238 mv_X9_put rfl ⟨Nat.le_of_ble_eq_true rfl, Nat.le_of_ble_eq_true rfl⟩ dX9_sendJoin_76 (lx_size hL) rfl hR hS g1 ⟨Nat.le_refl _, Nat.le_refl _⟩ (cat_le [] (Nat.le_of_ble_eq_true rfl)) (fun H locs hR hS => ?_)
  refine W_st (st2 := [.int v3]) rfl ?_
  refine lv_pop hx hb dX9_sendJoin_79 rfl ?_
  refine x_aload_n C dX9_sendJoin_80 hL 0 rfl ?_
  obtain ⟨g5, hd⟩ := gd_ex hd
  refine r_getr (ci := 9) (k := 35) C fl_X9_93 rfl dX9_sendJoin_81 hR g5 ?_
  refine x_iload C dX9_sendJoin_84 hL 1 rfl ?_
  refine x_aload_n C dX9_sendJoin_86 hL 0 rfl ?_
  refine r_geti (ci := 9) (k := 0) C fl_X9_122 rfl dX9_sendJoin_87 hR g5 ?_
  obtain ⟨g6, hd⟩ := gd_ex hd
  obtain ⟨G7, eG7, hd⟩ := bd_ex hd
  refine r_iast C dX9_sendJoin_90 hR hS g6 (fun H locs hR hS => ?_)
  replace hR : Rp b0 D E G7 H := by rw [eG7]; exact hR
  cases hd
  exact r_vret C dX9_sendJoin_91 hR hS
set_option maxHeartbeats 4000000 in
set_option maxRecDepth 100000 in
theorem k_X9_sendJoin_55 (C : Cx p s m args meth c RX9 cX9_sendJoin 6 none b0 D E) {GG : Hp} {x0 : Nat} {x1 : Int32} {x2 : Int32} {x3 : Int32} {x4 : Int32} {s0 : Int32} {s1 : Int32} {s2 : Int32} {s3 : Int32} {s4 : Int32} {s5 : Int32} {s6 : Nat} {G : Hp} {ls : Array Slot} {H : Heap} {locs : List Loc} : lx ls 6 [(0, .inr x0), (1, .inl x1), (2, .inl x2), (3, .inl x3), (4, .inl x4)] → Rp b0 D E G H → SS b0 s H locs → d_X9_sendJoin_55 x0 x1 x2 x3 x4 s0 s1 s2 s3 s4 s5 s6 G = some GG → W p l e (rmd 1 (0) (0)) s m args below meth c H locs (0) (0) (MQ below (CQ b0 D E none GG) args s (0) (0) (fun q => b0 ≤ q)) (F0 m 55 ls [.int s0, .int s1, .int s2, .int s3, .int s4, .int s5, rv s6]) := by
  intro hL hR hS hd
  unfold d_X9_sendJoin_55 at hd
  have hx := C.1
  have hb := C.2.1
  refine lv_iconst (v := 0) hx hb dX9_sendJoin_55 (by decide) ?_
  refine x_iload_n C dX9_sendJoin_56 hL 3 rfl ?_
  refine lv_if_ne (tgt := 74) hx hb dX9_sendJoin_57 (by decide) (fun c1 => ?_) (fun c1 => ?_)
  · rw [if_neg c1] at hd
    refine lv_iconst (v := 0) hx hb dX9_sendJoin_74 (by decide) ?_
    exact k_X9_sendJoin_75 C (lx_sub hL [0, 4] rfl) hR hS hd
  · rw [if_pos c1] at hd
    refine x_aload_n C dX9_sendJoin_60 hL 0 rfl ?_
    obtain ⟨g2, hd⟩ := gd_ex hd
    refine r_getr (ci := 9) (k := 36) C fl_X9_96 rfl dX9_sendJoin_61 hR g2 ?_
    refine lv_bipush (v := 8) hx hb dX9_sendJoin_64 (by decide) ?_
    refine x_iload_n C dX9_sendJoin_66 hL 1 rfl ?_
    refine lv_imul hx hb dX9_sendJoin_67 ?_
    refine x_iload_n C dX9_sendJoin_68 hL 2 rfl ?_
    refine lv_iadd hx hb dX9_sendJoin_69 ?_
    obtain ⟨g3, hd⟩ := gd_ex hd
    refine r_iald C dX9_sendJoin_70 hR g3 ?_
    refine lv_goto (tgt := 75) hx hb dX9_sendJoin_71 (by decide) ?_
    exact k_X9_sendJoin_75 C (lx_sub hL [0, 4] rfl) hR hS hd
set_option maxHeartbeats 4000000 in
set_option maxRecDepth 100000 in
theorem k_X9_sendJoin (C : Cx p s m args meth c RX9 cX9_sendJoin 6 none b0 D E) {GG : Hp} {x0 : Nat} {x1 : Int32} {x2 : Int32} {x3 : Int32} {G : Hp} {ls : Array Slot} {H : Heap} {locs : List Loc} : lx ls 6 [(0, .inr x0), (1, .inl x1), (2, .inl x2), (3, .inl x3)] → Rp b0 D E G H → SS b0 s H locs → d_X9_sendJoin x0 x1 x2 x3 G = some GG → W p l e (rmd 1 (0) (0)) s m args below meth c H locs (0) (0) (MQ below (CQ b0 D E none GG) args s (0) (0) (fun q => b0 ≤ q)) (F0 m 0 ls []) := by
  intro hL hR hS hd
  unfold d_X9_sendJoin at hd
  have hx := C.1
  have hb := C.2.1
  refine lv_bipush (v := 17) hx hb dX9_sendJoin_0 (by decide) ?_
  refine lv_bipush (v := 8) hx hb dX9_sendJoin_2 (by decide) ?_
  refine x_iload_n C dX9_sendJoin_4 hL 1 rfl ?_
  refine lv_imul hx hb dX9_sendJoin_5 ?_
  refine x_iload_n C dX9_sendJoin_6 hL 2 rfl ?_
  refine lv_iadd hx hb dX9_sendJoin_7 ?_
  refine lv_imul hx hb dX9_sendJoin_8 ?_
  refine x_iload_n C dX9_sendJoin_9 hL 3 rfl ?_
  refine lv_iadd hx hb dX9_sendJoin_10 ?_
  obtain ⟨v1, ev1, hd⟩ := bd_ex hd
  rw [← ev1]
  refine x_istore (lv' := [(4, .inl v1), (0, .inr x0), (1, .inl x1), (2, .inl x2), (3, .inl x3)]) C dX9_sendJoin_11 hL (by decide) rfl (fun ls hL => ?_)
  refine x_aload_n C dX9_sendJoin_13 hL 1 rfl ?_
  obtain ⟨g2, hd⟩ := gd_ex hd
  refine r_getr (ci := 9) (k := 8) C fl_X9_7 rfl dX9_sendJoin_14 hR g2 ?_
  refine lv_iconst (v := 4) hx hb dX9_sendJoin_17 (by decide) ?_
  refine x_iload_n C dX9_sendJoin_18 hL 2 rfl ?_
  refine lv_imul hx hb dX9_sendJoin_19 ?_
  refine x_aload_n C dX9_sendJoin_20 hL 1 rfl ?_
  refine r_getr (ci := 9) (k := 33) C fl_X9_87 rfl dX9_sendJoin_21 hR g2 ?_
  refine x_iload C dX9_sendJoin_24 hL 0 rfl ?_
  obtain ⟨g3, hd⟩ := gd_ex hd
  refine r_iald C dX9_sendJoin_26 hR g3 ?_
  refine lv_iadd hx hb dX9_sendJoin_27 ?_
  obtain ⟨g4, hd⟩ := gd_ex hd
  refine r_iald C dX9_sendJoin_28 hR g4 ?_
  obtain ⟨v5, ev5, hd⟩ := bd_ex hd
  rw [← ev5]
  refine x_istore (lv' := [(5, .inl v5), (4, .inl v1), (0, .inr x0), (1, .inl x1), (2, .inl x2), (3, .inl x3)]) C dX9_sendJoin_29 hL (by decide) rfl (fun ls hL => ?_)
  refine x_aload_n C dX9_sendJoin_31 hL 2 rfl ?_
  refine x_iload C dX9_sendJoin_32 hL 0 rfl ?_
  refine lv_iconst (v := 5) hx hb dX9_sendJoin_34 (by decide) ?_
  refine x_iload_n C dX9_sendJoin_35 hL 3 rfl ?_
  refine x_aload_n C dX9_sendJoin_36 hL 2 rfl ?_
  refine r_getr (ci := 9) (k := 34) C fl_X9_90 rfl dX9_sendJoin_37 hR g2 ?_
  refine x_iload C dX9_sendJoin_40 hL 1 rfl ?_
  obtain ⟨g6, hd⟩ := gd_ex hd
  refine r_iald C dX9_sendJoin_42 hR g6 ?_
  refine x_iload_n C dX9_sendJoin_43 hL 4 rfl ?_
  refine x_iload_n C dX9_sendJoin_44 hL 5 rfl ?_
  refine lv_if_ne (tgt := 52) hx hb dX9_sendJoin_45 (by decide) (fun c7 => ?_) (fun c7 => ?_)
  · rw [if_neg c7] at hd
    refine x_iload_n C dX9_sendJoin_52 hL 5 rfl ?_
    refine lv_iconst (v := 1) hx hb dX9_sendJoin_53 (by decide) ?_
    refine lv_isub hx hb dX9_sendJoin_54 ?_
    exact k_X9_sendJoin_55 C (lx_sub hL [2, 3, 4, 5, 1] rfl) hR hS hd
  · rw [if_pos c7] at hd
    refine lv_iconst (v := (-1)) hx hb dX9_sendJoin_48 (by decide) ?_
    refine lv_goto (tgt := 55) hx hb dX9_sendJoin_49 (by decide) ?_
    exact k_X9_sendJoin_55 C (lx_sub hL [2, 3, 4, 5, 1] rfl) hR hS hd
end
set_option maxHeartbeats 4000000 in
set_option maxRecDepth 100000 in
theorem ct_X9_sendJoin {l : Launch} {b0 : Nat} {D : va_G} {E : Nat → ClassId} {G : Hp} {a0 : Nat} {a1 : Int32} {a2 : Int32} {a3 : Int32} {GG : Hp} (hd : d_X9_sendJoin a0 a1 a2 a3 G = some GG) : CT l yX9_sendJoin cX9_sendJoin 6 none 1 0 0 b0 D E [rv a0, .int a1, .int a2, .int a3] G none GG := by
  refine CT_of (by decide +kernel) ?_
  intro p e s m below meth c C hnm hR
  refine r_entry [.inr a0, .inl a1, .inl a2, .inl a3] (n := 6) (Nat.le_of_ble_eq_true rfl) (lv := [(0, .inr a0), (1, .inl a1), (2, .inl a2), (3, .inl a3)]) rfl (fun ls hL => ?_)
  exact k_X9_sendJoin C (lx_sub hL [0, 1, 2, 3] rfl) hR ⟨fun _ _ => rfl, fun _ h => by cases h⟩ hd

/-! GroveWorksModel.sendClaim(IIII)V -/
theorem dX9_sendClaim_0 : decode cX9_sendClaim 0 = .ok (.aload_n 0, 1) := by decide +kernel
theorem dX9_sendClaim_1 : decode cX9_sendClaim 1 = .ok (.aload_n 0, 1) := by decide +kernel
theorem dX9_sendClaim_2 : decode cX9_sendClaim 2 = .ok (.getfield 7, 3) := by decide +kernel
theorem dX9_sendClaim_5 : decode cX9_sendClaim 5 = .ok (.iconst 4, 1) := by decide +kernel
theorem dX9_sendClaim_6 : decode cX9_sendClaim 6 = .ok (.iload_n 1, 1) := by decide +kernel
theorem dX9_sendClaim_7 : decode cX9_sendClaim 7 = .ok (.imul, 1) := by decide +kernel
theorem dX9_sendClaim_8 : decode cX9_sendClaim 8 = .ok (.iload_n 2, 1) := by decide +kernel
theorem dX9_sendClaim_9 : decode cX9_sendClaim 9 = .ok (.iadd, 1) := by decide +kernel
theorem dX9_sendClaim_10 : decode cX9_sendClaim 10 = .ok (.iaload, 1) := by decide +kernel
theorem dX9_sendClaim_11 : decode cX9_sendClaim 11 = .ok (.bipush 8, 2) := by decide +kernel
theorem dX9_sendClaim_13 : decode cX9_sendClaim 13 = .ok (.iload_n 1, 1) := by decide +kernel
theorem dX9_sendClaim_14 : decode cX9_sendClaim 14 = .ok (.iconst (-1), 1) := by decide +kernel
theorem dX9_sendClaim_15 : decode cX9_sendClaim 15 = .ok (.iload_n 3, 1) := by decide +kernel
theorem dX9_sendClaim_16 : decode cX9_sendClaim 16 = .ok (.iload 4, 2) := by decide +kernel
theorem dX9_sendClaim_18 : decode cX9_sendClaim 18 = .ok (.aload_n 0, 1) := by decide +kernel
theorem dX9_sendClaim_19 : decode cX9_sendClaim 19 = .ok (.iload_n 1, 1) := by decide +kernel
theorem dX9_sendClaim_20 : decode cX9_sendClaim 20 = .ok (.iload_n 3, 1) := by decide +kernel
theorem dX9_sendClaim_21 : decode cX9_sendClaim 21 = .ok (.iload 4, 2) := by decide +kernel
theorem dX9_sendClaim_23 : decode cX9_sendClaim 23 = .ok (.invokevirtual 200, 3) := by decide +kernel
theorem dX9_sendClaim_26 : decode cX9_sendClaim 26 = .ok (.iconst 0, 1) := by decide +kernel
theorem dX9_sendClaim_27 : decode cX9_sendClaim 27 = .ok (.iconst 0, 1) := by decide +kernel
theorem dX9_sendClaim_28 : decode cX9_sendClaim 28 = .ok (.invokevirtual 238, 3) := by decide +kernel
theorem dX9_sendClaim_31 : decode cX9_sendClaim 31 = .ok (.ifCond .eq 13, 3) := by decide +kernel
theorem dX9_sendClaim_34 : decode cX9_sendClaim 34 = .ok (.aload_n 0, 1) := by decide +kernel
theorem dX9_sendClaim_35 : decode cX9_sendClaim 35 = .ok (.dup, 1) := by decide +kernel
theorem dX9_sendClaim_36 : decode cX9_sendClaim 36 = .ok (.getfield 242, 3) := by decide +kernel
theorem dX9_sendClaim_39 : decode cX9_sendClaim 39 = .ok (.iconst 1, 1) := by decide +kernel
theorem dX9_sendClaim_40 : decode cX9_sendClaim 40 = .ok (.iadd, 1) := by decide +kernel
theorem dX9_sendClaim_41 : decode cX9_sendClaim 41 = .ok (.putfield 242, 3) := by decide +kernel
theorem dX9_sendClaim_44 : decode cX9_sendClaim 44 = .ok (.return_, 1) := by decide +kernel
def d_X9_sendClaim (x0 : Nat) (x1 : Int32) (x2 : Int32) (x3 : Int32) (x4 : Int32) (G : Hp) : Option (Hp) :=
  gd (hc G x0 = 10) <|
  gd (hc G ((hr G x0 8)) = 11 ∧ ix ((((4 * x1)) + x2)) (hl G ((hr G x0 8)))) <|
  b2 (d_X9_ownClaim x0 x1 x3 x4 G) fun v4 G5 =>
  gd (hc G5 x0 = 10) <|
  b2 (d_X9_put x0 ((hi G ((hr G x0 8)) ((((4 * x1)) + x2)).toNatClampNeg)) 8 x1 (-1) x3 x4 v4 0 0 G5) fun v8 G9 =>
  if v8 = 0 then
    some G9
  else
    gd (hc G9 x0 = 10) <|
    bd (sI G9 x0 7 ((((hi G9 x0 7)) + 1))) fun G12 =>
    some G12
section
variable {p : Program} {l : Launch} {e : Env} {s : State} {m : MethodId} {args : Array Value} {below : List Frame} {meth : Method} {c : Code} {b0 : Nat} {D : va_G} {E : Nat → ClassId}
set_option maxHeartbeats 4000000 in
set_option maxRecDepth 100000 in
theorem k_X9_sendClaim (C : Cx p s m args meth c RX9 cX9_sendClaim 5 none b0 D E) {GG : Hp} {x0 : Nat} {x1 : Int32} {x2 : Int32} {x3 : Int32} {x4 : Int32} {G : Hp} {ls : Array Slot} {H : Heap} {locs : List Loc} : lx ls 5 [(0, .inr x0), (1, .inl x1), (2, .inl x2), (3, .inl x3), (4, .inl x4)] → Rp b0 D E G H → SS b0 s H locs → d_X9_sendClaim x0 x1 x2 x3 x4 G = some GG → W p l e (rmd 6 (0) (0)) s m args below meth c H locs (0) (0) (MQ below (CQ b0 D E none GG) args s (0) (0) (fun q => b0 ≤ q)) (F0 m 0 ls []) := by
  intro hL hR hS hd
  unfold d_X9_sendClaim at hd
  have hx := C.1
  have hb := C.2.1
  refine x_aload_n C dX9_sendClaim_0 hL 0 rfl ?_
  refine x_aload_n C dX9_sendClaim_1 hL 0 rfl ?_
  obtain ⟨g1, hd⟩ := gd_ex hd
  refine r_getr (ci := 9) (k := 8) C fl_X9_7 rfl dX9_sendClaim_2 hR g1 ?_
  refine lv_iconst (v := 4) hx hb dX9_sendClaim_5 (by decide) ?_
  refine x_iload_n C dX9_sendClaim_6 hL 1 rfl ?_
  refine lv_imul hx hb dX9_sendClaim_7 ?_
  refine x_iload_n C dX9_sendClaim_8 hL 2 rfl ?_
  refine lv_iadd hx hb dX9_sendClaim_9 ?_
  obtain ⟨g2, hd⟩ := gd_ex hd
  refine r_iald C dX9_sendClaim_10 hR g2 ?_
  refine lv_bipush (v := 8) hx hb dX9_sendClaim_11 (by decide) ?_
  refine x_iload_n C dX9_sendClaim_13 hL 1 rfl ?_
  refine lv_iconst (v := (-1)) hx hb dX9_sendClaim_14 (by decide) ?_
  refine x_iload_n C dX9_sendClaim_15 hL 3 rfl ?_
  refine x_iload C dX9_sendClaim_16 hL 4 rfl ?_
  refine x_aload_n C dX9_sendClaim_18 hL 0 rfl ?_
  refine x_iload_n C dX9_sendClaim_19 hL 1 rfl ?_
  refine x_iload_n C dX9_sendClaim_20 hL 3 rfl ?_
  refine x_iload C dX9_sendClaim_21 hL 4 rfl ?_
  obtain ⟨v4, G5, h3, hd⟩ := b2_ex hd
  refine r_callV (a := x0) (ci := 9) (As := [.int x1, .int x3, .int x4]) C (ct_X9_ownClaim h3) mf_X9_ownClaim ml_X9_200 mv_X9_ownClaim rfl ⟨Nat.le_of_ble_eq_true rfl, Nat.le_of_ble_eq_true rfl⟩ dX9_sendClaim_23 (lx_size hL) rfl hR hS g1 ⟨Nat.le_refl _, Nat.le_refl _⟩ (cat_le [.inl x4, .inl x3, .inl (-1), .inl x1, .inl 8, .inl ((hi G ((hr G x0 8)) ((((4 * x1)) + x2)).toNatClampNeg)), .inr x0] (Nat.le_of_ble_eq_true rfl)) (fun H locs hR hS => ?_)
  refine W_st (st2 := [.int v4, .int x4, .int x3, .int (-1), .int x1, .int 8, .int ((hi G ((hr G x0 8)) ((((4 * x1)) + x2)).toNatClampNeg)), rv x0]) rfl ?_
  refine lv_iconst (v := 0) hx hb dX9_sendClaim_26 (by decide) ?_
  refine lv_iconst (v := 0) hx hb dX9_sendClaim_27 (by decide) ?_
  obtain ⟨g6, hd⟩ := gd_ex hd
  obtain ⟨v8, G9, h7, hd⟩ := b2_ex hd
  refine r_callV (a := x0) (ci := 9) (As := [.int ((hi G ((hr G x0 8)) ((((4 * x1)) + x2)).toNatClampNeg)), .int 8, .int x1, .int (-1), .int x3, .int x4, .int v4, .int 0, .int 0]) C (ct_X9_put h7) mf_X9_put ml_X9_238 mv_X9_put rfl ⟨Nat.le_of_ble_eq_true rfl, Nat.le_of_ble_eq_true rfl⟩ dX9_sendClaim_28 (lx_size hL) rfl hR hS g6 ⟨Nat.le_refl _, Nat.le_refl _⟩ (cat_le [] (Nat.le_of_ble_eq_true rfl)) (fun H locs hR hS => ?_)
  refine W_st (st2 := [.int v8]) rfl ?_
  refine lv_if_eq (tgt := 44) hx hb dX9_sendClaim_31 (by decide) (fun c10 => ?_) (fun c10 => ?_)
  · rw [if_pos c10] at hd
    cases hd
    exact r_vret C dX9_sendClaim_44 hR hS
  · rw [if_neg c10] at hd
    refine x_aload_n C dX9_sendClaim_34 hL 0 rfl ?_
    refine lv_dup hx hb dX9_sendClaim_35 (rv_cat _) ?_
    obtain ⟨g11, hd⟩ := gd_ex hd
    refine r_geti (ci := 9) (k := 7) C fl_X9_242 rfl dX9_sendClaim_36 hR g11 ?_
    refine lv_iconst (v := 1) hx hb dX9_sendClaim_39 (by decide) ?_
    refine lv_iadd hx hb dX9_sendClaim_40 ?_
    obtain ⟨G12, eG12, hd⟩ := bd_ex hd
    refine r_puti (ci := 9) (k := 7) C fl_X9_242 rfl (Or.inl rfl) dX9_sendClaim_41 hR hS g11 (fun H locs hR hS => ?_)
    replace hR : Rp b0 D E G12 H := by rw [eG12]; exact hR
    cases hd
    exact r_vret C dX9_sendClaim_44 hR hS
end
set_option maxHeartbeats 4000000 in
set_option maxRecDepth 100000 in
theorem ct_X9_sendClaim {l : Launch} {b0 : Nat} {D : va_G} {E : Nat → ClassId} {G : Hp} {a0 : Nat} {a1 : Int32} {a2 : Int32} {a3 : Int32} {a4 : Int32} {GG : Hp} (hd : d_X9_sendClaim a0 a1 a2 a3 a4 G = some GG) : CT l yX9_sendClaim cX9_sendClaim 5 none 6 0 0 b0 D E [rv a0, .int a1, .int a2, .int a3, .int a4] G none GG := by
  refine CT_of (by decide +kernel) ?_
  intro p e s m below meth c C hnm hR
  refine r_entry [.inr a0, .inl a1, .inl a2, .inl a3, .inl a4] (n := 5) (Nat.le_of_ble_eq_true rfl) (lv := [(0, .inr a0), (1, .inl a1), (2, .inl a2), (3, .inl a3), (4, .inl a4)]) rfl (fun ls hL => ?_)
  exact k_X9_sendClaim C (lx_sub hL [0, 1, 2, 3, 4] rfl) hR ⟨fun _ _ => rfl, fun _ h => by cases h⟩ hd

/-! GroveWorksModel.sendData(IIIIIII)V -/
theorem dX9_sendData_0 : decode cX9_sendData 0 = .ok (.iconst 0, 1) := by decide +kernel
theorem dX9_sendData_1 : decode cX9_sendData 1 = .ok (.istore 8, 2) := by decide +kernel
theorem dX9_sendData_3 : decode cX9_sendData 3 = .ok (.iload 8, 2) := by decide +kernel
theorem dX9_sendData_5 : decode cX9_sendData 5 = .ok (.iconst 4, 1) := by decide +kernel
theorem dX9_sendData_6 : decode cX9_sendData 6 = .ok (.if_icmp .ge 74, 3) := by decide +kernel
theorem dX9_sendData_9 : decode cX9_sendData 9 = .ok (.iload_n 2, 1) := by decide +kernel
theorem dX9_sendData_10 : decode cX9_sendData 10 = .ok (.iload 8, 2) := by decide +kernel
theorem dX9_sendData_12 : decode cX9_sendData 12 = .ok (.ishr, 1) := by decide +kernel
theorem dX9_sendData_13 : decode cX9_sendData 13 = .ok (.iconst 1, 1) := by decide +kernel
theorem dX9_sendData_14 : decode cX9_sendData 14 = .ok (.iand, 1) := by decide +kernel
theorem dX9_sendData_15 : decode cX9_sendData 15 = .ok (.ifCond .eq 59, 3) := by decide +kernel
theorem dX9_sendData_18 : decode cX9_sendData 18 = .ok (.iload 8, 2) := by decide +kernel
theorem dX9_sendData_20 : decode cX9_sendData 20 = .ok (.iload_n 3, 1) := by decide +kernel
theorem dX9_sendData_21 : decode cX9_sendData 21 = .ok (.if_icmp .eq 53, 3) := by decide +kernel
theorem dX9_sendData_24 : decode cX9_sendData 24 = .ok (.iload 7, 2) := by decide +kernel
theorem dX9_sendData_26 : decode cX9_sendData 26 = .ok (.iconst 1, 1) := by decide +kernel
theorem dX9_sendData_27 : decode cX9_sendData 27 = .ok (.if_icmp .ge 6, 3) := by decide +kernel
theorem dX9_sendData_30 : decode cX9_sendData 30 = .ok (.goto 44, 3) := by decide +kernel
theorem dX9_sendData_33 : decode cX9_sendData 33 = .ok (.aload_n 0, 1) := by decide +kernel
theorem dX9_sendData_34 : decode cX9_sendData 34 = .ok (.aload_n 0, 1) := by decide +kernel
theorem dX9_sendData_35 : decode cX9_sendData 35 = .ok (.getfield 7, 3) := by decide +kernel
theorem dX9_sendData_38 : decode cX9_sendData 38 = .ok (.iconst 4, 1) := by decide +kernel
theorem dX9_sendData_39 : decode cX9_sendData 39 = .ok (.iload_n 1, 1) := by decide +kernel
theorem dX9_sendData_40 : decode cX9_sendData 40 = .ok (.imul, 1) := by decide +kernel
theorem dX9_sendData_41 : decode cX9_sendData 41 = .ok (.iload 8, 2) := by decide +kernel
theorem dX9_sendData_43 : decode cX9_sendData 43 = .ok (.iadd, 1) := by decide +kernel
theorem dX9_sendData_44 : decode cX9_sendData 44 = .ok (.iaload, 1) := by decide +kernel
theorem dX9_sendData_45 : decode cX9_sendData 45 = .ok (.bipush 7, 2) := by decide +kernel
theorem dX9_sendData_47 : decode cX9_sendData 47 = .ok (.iload_n 1, 1) := by decide +kernel
theorem dX9_sendData_48 : decode cX9_sendData 48 = .ok (.iconst (-1), 1) := by decide +kernel
theorem dX9_sendData_49 : decode cX9_sendData 49 = .ok (.iload 4, 2) := by decide +kernel
theorem dX9_sendData_51 : decode cX9_sendData 51 = .ok (.iload 5, 2) := by decide +kernel
theorem dX9_sendData_53 : decode cX9_sendData 53 = .ok (.iload 6, 2) := by decide +kernel
theorem dX9_sendData_55 : decode cX9_sendData 55 = .ok (.iconst 0, 1) := by decide +kernel
theorem dX9_sendData_56 : decode cX9_sendData 56 = .ok (.iload 7, 2) := by decide +kernel
theorem dX9_sendData_58 : decode cX9_sendData 58 = .ok (.invokevirtual 238, 3) := by decide +kernel
theorem dX9_sendData_61 : decode cX9_sendData 61 = .ok (.ifCond .eq 13, 3) := by decide +kernel
theorem dX9_sendData_64 : decode cX9_sendData 64 = .ok (.aload_n 0, 1) := by decide +kernel
theorem dX9_sendData_65 : decode cX9_sendData 65 = .ok (.dup, 1) := by decide +kernel
theorem dX9_sendData_66 : decode cX9_sendData 66 = .ok (.getfield 245, 3) := by decide +kernel
theorem dX9_sendData_69 : decode cX9_sendData 69 = .ok (.iconst 1, 1) := by decide +kernel
theorem dX9_sendData_70 : decode cX9_sendData 70 = .ok (.iadd, 1) := by decide +kernel
theorem dX9_sendData_71 : decode cX9_sendData 71 = .ok (.putfield 245, 3) := by decide +kernel
theorem dX9_sendData_74 : decode cX9_sendData 74 = .ok (.iinc 8 1, 3) := by decide +kernel
theorem dX9_sendData_77 : decode cX9_sendData 77 = .ok (.goto (-74), 3) := by decide +kernel
theorem dX9_sendData_80 : decode cX9_sendData 80 = .ok (.return_, 1) := by decide +kernel
def d_X9_sendData_3 : Nat → Nat → Int32 → Int32 → Int32 → Int32 → Int32 → Int32 → Int32 → Int32 → Hp → Option (Hp)
  | 0, _, _, _, _, _, _, _, _, _, _ => none
  | n_ + 1, x0, x1, x2, x3, x4, x5, x6, x7, x8, G =>
    if 4 ≤ x8 then
      some G
    else
      if ((((x2 >>> (x8 &&& 31))) &&& 1)) = 0 then
        d_X9_sendData_3 n_ x0 x1 x2 x3 x4 x5 x6 x7 ((x8 + 1)) G
      else
        if x8 = x3 then
          d_X9_sendData_3 n_ x0 x1 x2 x3 x4 x5 x6 x7 ((x8 + 1)) G
        else
          if 1 ≤ x7 then
            gd (hc G x0 = 10) <|
            gd (hc G ((hr G x0 8)) = 11 ∧ ix ((((4 * x1)) + x8)) (hl G ((hr G x0 8)))) <|
            b2 (d_X9_put x0 ((hi G ((hr G x0 8)) ((((4 * x1)) + x8)).toNatClampNeg)) 7 x1 (-1) x4 x5 x6 0 x7 G) fun v8 G9 =>
            if v8 = 0 then
              d_X9_sendData_3 n_ x0 x1 x2 x3 x4 x5 x6 x7 ((x8 + 1)) G9
            else
              gd (hc G9 x0 = 10) <|
              bd (sI G9 x0 5 ((((hi G9 x0 5)) + 1))) fun G12 =>
              d_X9_sendData_3 n_ x0 x1 x2 x3 x4 x5 x6 x7 ((x8 + 1)) G12
          else
            d_X9_sendData_3 n_ x0 x1 x2 x3 x4 x5 x6 x7 ((x8 + 1)) G
def d_X9_sendData (x0 : Nat) (x1 : Int32) (x2 : Int32) (x3 : Int32) (x4 : Int32) (x5 : Int32) (x6 : Int32) (x7 : Int32) (G : Hp) : Option (Hp) :=
  d_X9_sendData_3 FU x0 x1 x2 x3 x4 x5 x6 x7 0 G
section
variable {p : Program} {l : Launch} {e : Env} {s : State} {m : MethodId} {args : Array Value} {below : List Frame} {meth : Method} {c : Code} {b0 : Nat} {D : va_G} {E : Nat → ClassId}
set_option maxHeartbeats 4000000 in
set_option maxRecDepth 100000 in
theorem k_X9_sendData_3 (C : Cx p s m args meth c RX9 cX9_sendData 9 none b0 D E) {GG : Hp} : ∀ (n_ : Nat) {x0 : Nat} {x1 : Int32} {x2 : Int32} {x3 : Int32} {x4 : Int32} {x5 : Int32} {x6 : Int32} {x7 : Int32} {x8 : Int32} {G : Hp} {ls : Array Slot} {H : Heap} {locs : List Loc}, lx ls 9 [(0, .inr x0), (1, .inl x1), (2, .inl x2), (3, .inl x3), (4, .inl x4), (5, .inl x5), (6, .inl x6), (7, .inl x7), (8, .inl x8)] → Rp b0 D E G H → SS b0 s H locs → d_X9_sendData_3 n_ x0 x1 x2 x3 x4 x5 x6 x7 x8 G = some GG → W p l e (rmd 1 (0) (0)) s m args below meth c H locs (0) (0) (MQ below (CQ b0 D E none GG) args s (0) (0) (fun q => b0 ≤ q)) (F0 m 3 ls []) := by
  intro n_
  induction n_ with
  | zero =>
    intro x0 x1 x2 x3 x4 x5 x6 x7 x8 G ls H locs hL hR hS hd
    cases (show (none : Option _) = some _ from hd)
  | succ n_ ih =>
    intro x0 x1 x2 x3 x4 x5 x6 x7 x8 G ls H locs hL hR hS hd
    rw [d_X9_sendData_3.eq_2] at hd
    have hx := C.1
    have hb := C.2.1
    refine x_iload C dX9_sendData_3 hL 8 rfl ?_
    refine lv_iconst (v := 4) hx hb dX9_sendData_5 (by decide) ?_
    refine lv_icmp_ge (tgt := 80) hx hb dX9_sendData_6 (by decide) (fun c1 => ?_) (fun c1 => ?_)
    · rw [if_pos c1] at hd
      cases hd
      exact r_vret C dX9_sendData_80 hR hS
    · rw [if_neg c1] at hd
      refine x_iload_n C dX9_sendData_9 hL 2 rfl ?_
      refine x_iload C dX9_sendData_10 hL 8 rfl ?_
      refine lv_ishr hx hb dX9_sendData_12 ?_
      refine lv_iconst (v := 1) hx hb dX9_sendData_13 (by decide) ?_
      refine lv_iand hx hb dX9_sendData_14 ?_
      refine lv_if_eq (tgt := 74) hx hb dX9_sendData_15 (by decide) (fun c2 => ?_) (fun c2 => ?_)
      · rw [if_pos c2] at hd
        refine x_iinc (lv' := [(8, .inl ((x8 + 1))), (0, .inr x0), (1, .inl x1), (2, .inl x2), (3, .inl x3), (4, .inl x4), (5, .inl x5), (6, .inl x6), (7, .inl x7)]) C dX9_sendData_74 hL 8 rfl rfl (by decide) rfl (fun ls hL => ?_)
        refine lv_goto (tgt := 3) hx hb dX9_sendData_77 (by decide) ?_
        exact ih (lx_sub hL [1, 2, 3, 4, 5, 6, 7, 8, 0] rfl) hR hS hd
      · rw [if_neg c2] at hd
        refine x_iload C dX9_sendData_18 hL 8 rfl ?_
        refine x_iload_n C dX9_sendData_20 hL 3 rfl ?_
        refine lv_icmp_eq (tgt := 74) hx hb dX9_sendData_21 (by decide) (fun c3 => ?_) (fun c3 => ?_)
        · rw [if_pos c3] at hd
          refine x_iinc (lv' := [(8, .inl ((x8 + 1))), (0, .inr x0), (1, .inl x1), (2, .inl x2), (3, .inl x3), (4, .inl x4), (5, .inl x5), (6, .inl x6), (7, .inl x7)]) C dX9_sendData_74 hL 8 rfl rfl (by decide) rfl (fun ls hL => ?_)
          refine lv_goto (tgt := 3) hx hb dX9_sendData_77 (by decide) ?_
          exact ih (lx_sub hL [1, 2, 3, 4, 5, 6, 7, 8, 0] rfl) hR hS hd
        · rw [if_neg c3] at hd
          refine x_iload C dX9_sendData_24 hL 7 rfl ?_
          refine lv_iconst (v := 1) hx hb dX9_sendData_26 (by decide) ?_
          refine lv_icmp_ge (tgt := 33) hx hb dX9_sendData_27 (by decide) (fun c4 => ?_) (fun c4 => ?_)
          · rw [if_pos c4] at hd
            refine x_aload_n C dX9_sendData_33 hL 0 rfl ?_
            refine x_aload_n C dX9_sendData_34 hL 0 rfl ?_
            obtain ⟨g5, hd⟩ := gd_ex hd
            refine r_getr (ci := 9) (k := 8) C fl_X9_7 rfl dX9_sendData_35 hR g5 ?_
            refine lv_iconst (v := 4) hx hb dX9_sendData_38 (by decide) ?_
            refine x_iload_n C dX9_sendData_39 hL 1 rfl ?_
            refine lv_imul hx hb dX9_sendData_40 ?_
            refine x_iload C dX9_sendData_41 hL 8 rfl ?_
            refine lv_iadd hx hb dX9_sendData_43 ?_
            obtain ⟨g6, hd⟩ := gd_ex hd
            refine r_iald C dX9_sendData_44 hR g6 ?_
            refine lv_bipush (v := 7) hx hb dX9_sendData_45 (by decide) ?_
            refine x_iload_n C dX9_sendData_47 hL 1 rfl ?_
            refine lv_iconst (v := (-1)) hx hb dX9_sendData_48 (by decide) ?_
            refine x_iload C dX9_sendData_49 hL 4 rfl ?_
            refine x_iload C dX9_sendData_51 hL 5 rfl ?_
            refine x_iload C dX9_sendData_53 hL 6 rfl ?_
            refine lv_iconst (v := 0) hx hb dX9_sendData_55 (by decide) ?_
            refine x_iload C dX9_sendData_56 hL 7 rfl ?_
            obtain ⟨v8, G9, h7, hd⟩ := b2_ex hd
            refine r_callV (a := x0) (ci := 9) (As := [.int ((hi G ((hr G x0 8)) ((((4 * x1)) + x8)).toNatClampNeg)), .int 7, .int x1, .int (-1), .int x4, .int x5, .int x6, .int 0, .int x7]) C (ct_X9_put h7) mf_X9_put ml_X9_238 mv_X9_put rfl ⟨Nat.le_of_ble_eq_true rfl, Nat.le_of_ble_eq_true rfl⟩ dX9_sendData_58 (lx_size hL) rfl hR hS g5 ⟨Nat.le_refl _, Nat.le_refl _⟩ (cat_le [] (Nat.le_of_ble_eq_true rfl)) (fun H locs hR hS => ?_)
            refine W_st (st2 := [.int v8]) rfl ?_
            refine lv_if_eq (tgt := 74) hx hb dX9_sendData_61 (by decide) (fun c10 => ?_) (fun c10 => ?_)
            · rw [if_pos c10] at hd
              refine x_iinc (lv' := [(8, .inl ((x8 + 1))), (0, .inr x0), (1, .inl x1), (2, .inl x2), (3, .inl x3), (4, .inl x4), (5, .inl x5), (6, .inl x6), (7, .inl x7)]) C dX9_sendData_74 hL 8 rfl rfl (by decide) rfl (fun ls hL => ?_)
              refine lv_goto (tgt := 3) hx hb dX9_sendData_77 (by decide) ?_
              exact ih (lx_sub hL [1, 2, 3, 4, 5, 6, 7, 8, 0] rfl) hR hS hd
            · rw [if_neg c10] at hd
              refine x_aload_n C dX9_sendData_64 hL 0 rfl ?_
              refine lv_dup hx hb dX9_sendData_65 (rv_cat _) ?_
              obtain ⟨g11, hd⟩ := gd_ex hd
              refine r_geti (ci := 9) (k := 5) C fl_X9_245 rfl dX9_sendData_66 hR g11 ?_
              refine lv_iconst (v := 1) hx hb dX9_sendData_69 (by decide) ?_
              refine lv_iadd hx hb dX9_sendData_70 ?_
              obtain ⟨G12, eG12, hd⟩ := bd_ex hd
              refine r_puti (ci := 9) (k := 5) C fl_X9_245 rfl (Or.inl rfl) dX9_sendData_71 hR hS g11 (fun H locs hR hS => ?_)
              replace hR : Rp b0 D E G12 H := by rw [eG12]; exact hR
              refine x_iinc (lv' := [(8, .inl ((x8 + 1))), (0, .inr x0), (1, .inl x1), (2, .inl x2), (3, .inl x3), (4, .inl x4), (5, .inl x5), (6, .inl x6), (7, .inl x7)]) C dX9_sendData_74 hL 8 rfl rfl (by decide) rfl (fun ls hL => ?_)
              refine lv_goto (tgt := 3) hx hb dX9_sendData_77 (by decide) ?_
              exact ih (lx_sub hL [1, 2, 3, 4, 5, 6, 7, 8, 0] rfl) hR hS hd
          · rw [if_neg c4] at hd
            refine lv_goto (tgt := 74) hx hb dX9_sendData_30 (by decide) ?_
            refine x_iinc (lv' := [(8, .inl ((x8 + 1))), (0, .inr x0), (1, .inl x1), (2, .inl x2), (3, .inl x3), (4, .inl x4), (5, .inl x5), (6, .inl x6), (7, .inl x7)]) C dX9_sendData_74 hL 8 rfl rfl (by decide) rfl (fun ls hL => ?_)
            refine lv_goto (tgt := 3) hx hb dX9_sendData_77 (by decide) ?_
            exact ih (lx_sub hL [1, 2, 3, 4, 5, 6, 7, 8, 0] rfl) hR hS hd
set_option maxHeartbeats 4000000 in
set_option maxRecDepth 100000 in
theorem k_X9_sendData (C : Cx p s m args meth c RX9 cX9_sendData 9 none b0 D E) {GG : Hp} {x0 : Nat} {x1 : Int32} {x2 : Int32} {x3 : Int32} {x4 : Int32} {x5 : Int32} {x6 : Int32} {x7 : Int32} {G : Hp} {ls : Array Slot} {H : Heap} {locs : List Loc} : lx ls 9 [(0, .inr x0), (1, .inl x1), (2, .inl x2), (3, .inl x3), (4, .inl x4), (5, .inl x5), (6, .inl x6), (7, .inl x7)] → Rp b0 D E G H → SS b0 s H locs → d_X9_sendData x0 x1 x2 x3 x4 x5 x6 x7 G = some GG → W p l e (rmd 1 (0) (0)) s m args below meth c H locs (0) (0) (MQ below (CQ b0 D E none GG) args s (0) (0) (fun q => b0 ≤ q)) (F0 m 0 ls []) := by
  intro hL hR hS hd
  unfold d_X9_sendData at hd
  have hx := C.1
  have hb := C.2.1
  refine lv_iconst (v := 0) hx hb dX9_sendData_0 (by decide) ?_
  refine x_istore (lv' := [(8, .inl 0), (0, .inr x0), (1, .inl x1), (2, .inl x2), (3, .inl x3), (4, .inl x4), (5, .inl x5), (6, .inl x6), (7, .inl x7)]) C dX9_sendData_1 hL (by decide) rfl (fun ls hL => ?_)
  exact k_X9_sendData_3 C FU (lx_sub hL [1, 2, 3, 4, 5, 6, 7, 8, 0] rfl) hR hS hd
end
set_option maxHeartbeats 4000000 in
set_option maxRecDepth 100000 in
theorem ct_X9_sendData {l : Launch} {b0 : Nat} {D : va_G} {E : Nat → ClassId} {G : Hp} {a0 : Nat} {a1 : Int32} {a2 : Int32} {a3 : Int32} {a4 : Int32} {a5 : Int32} {a6 : Int32} {a7 : Int32} {GG : Hp} (hd : d_X9_sendData a0 a1 a2 a3 a4 a5 a6 a7 G = some GG) : CT l yX9_sendData cX9_sendData 9 none 1 0 0 b0 D E [rv a0, .int a1, .int a2, .int a3, .int a4, .int a5, .int a6, .int a7] G none GG := by
  refine CT_of (by decide +kernel) ?_
  intro p e s m below meth c C hnm hR
  refine r_entry [.inr a0, .inl a1, .inl a2, .inl a3, .inl a4, .inl a5, .inl a6, .inl a7] (n := 9) (Nat.le_of_ble_eq_true rfl) (lv := [(0, .inr a0), (1, .inl a1), (2, .inl a2), (3, .inl a3), (4, .inl a4), (5, .inl a5), (6, .inl a6), (7, .inl a7)]) rfl (fun ls hL => ?_)
  exact k_X9_sendData C (lx_sub hL [0, 1, 2, 3, 4, 5, 6, 7] rfl) hR ⟨fun _ _ => rfl, fun _ h => by cases h⟩ hd
