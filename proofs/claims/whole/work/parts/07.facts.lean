def imin (x y : Int32) : Int32 := if y < x then y else x
def imax (x y : Int32) : Int32 := if x < y then y else x
theorem cat_le (l : List (Int32 ⊕ Nat)) (h : l.length ≤ 8) : ((l.map tv).map fun v => v.category).sum ≤ 8 := by
  have e : ((l.map tv).map fun v => v.category).sum = l.length := by
    clear h
    induction l with
    | nil => rfl
    | cons v vs ih =>
      have hv := tv_cat v
      simp only [List.map_cons, List.sum_cons, List.length_cons, hv, ih]
      omega
  omega
section
variable {p : Program} {l : Launch} {e : Env} {R : Room} {s : State} {m : MethodId} {args : Array Value} {below : List Frame} {meth : Method} {c : Code} {H : Heap} {locs : List Loc} {cells slots : Nat} {Q : State → Prop}
theorem W_st {st1 st2 : List Value} {pc : Nat} {ls : Array Slot} (h : st1 = st2) (k : W p l e R s m args below meth c H locs cells slots Q (F0 m pc ls st2)) : W p l e R s m args below meth c H locs cells slots Q (F0 m pc ls st1) := h ▸ k
theorem W_cs {c2 s2 : Nat} {g : JFrame} (h1 : cells = c2) (h2 : slots = s2) (k : W p l e R s m args below meth c H locs c2 s2 Q g) : W p l e R s m args below meth c H locs cells slots Q g := h1 ▸ h2 ▸ k
variable {own : String} {bytes : ByteArray} {nL idx : Nat} {ret : Option FieldType} {b0 : Nat} {D : va_G} {E : Nat → ClassId} {pc : Nat} {ls : Array Slot} {rest : List Value}
set_option maxRecDepth 100000 in
theorem r_mmin (C : Cx p s m args meth c own bytes nL ret b0 D E) {x y : Int32} (hl : Cond.methodLink own idx yJ9_min_7cf53 ∈ tb) (hdg : decode bytes pc = .ok (.invokestatic idx, 3)) (hsz : ls.size = nL) (hd : 1 ≤ R.frames ∧ 21 ≤ R.locals) (hf : cells ≤ R.cells ∧ slots ≤ R.slots) (hw : (rest.map fun v => v.category).sum ≤ 8)
    (kk : W p l e R s m args below meth c H locs cells slots Q (F0 m (pc + 3) ls (.int (imin x y) :: rest))) : W p l e R s m args below meth c H locs cells slots Q (F0 m pc ls (.int y :: .int x :: rest)) := by
  obtain ⟨hx, hb, hr, hml, hown, hts, hlk, hK, hb0⟩ := C
  exact va_mmin hx hb (hml.trans hsz.symm) hown (hts _ hl) (hts _ (tb_at 129 (by decide +kernel) rfl)) (hts _ (tb_at 106 (by decide +kernel) rfl)) (hts _ (tb_at 130 (by decide +kernel) rfl)) hd.1 (by omega) hf.1 hf.2 hdg kk
set_option maxRecDepth 100000 in
theorem r_mmax (C : Cx p s m args meth c own bytes nL ret b0 D E) {x y : Int32} (hl : Cond.methodLink own idx yJ9_max_7cf53 ∈ tb) (hdg : decode bytes pc = .ok (.invokestatic idx, 3)) (hsz : ls.size = nL) (hd : 1 ≤ R.frames ∧ 21 ≤ R.locals) (hf : cells ≤ R.cells ∧ slots ≤ R.slots) (hw : (rest.map fun v => v.category).sum ≤ 8)
    (kk : W p l e R s m args below meth c H locs cells slots Q (F0 m (pc + 3) ls (.int (imax x y) :: rest))) : W p l e R s m args below meth c H locs cells slots Q (F0 m pc ls (.int y :: .int x :: rest)) := by
  obtain ⟨hx, hb, hr, hml, hown, hts, hlk, hK, hb0⟩ := C
  exact va_mmax hx hb (hml.trans hsz.symm) hown (hts _ hl) (hts _ (tb_at 132 (by decide +kernel) rfl)) (hts _ (tb_at 106 (by decide +kernel) rfl)) (hts _ (tb_at 133 (by decide +kernel) rfl)) hd.1 (by omega) hf.1 hf.2 hdg kk
end
set_option maxRecDepth 100000 in
theorem ml_X0_3 : Cond.methodLink RX0 3 objectInit ∈ tb := tb_at 383 (by decide +kernel) rfl
set_option maxRecDepth 100000 in
theorem fl_X0_9 : FL RX0 9 0 0 := ⟨by decide, by decide, tb_at 384 (by decide +kernel) rfl⟩
set_option maxRecDepth 100000 in
theorem fl_X0_15 : FL RX0 15 0 1 := ⟨by decide, by decide, tb_at 388 (by decide +kernel) rfl⟩
set_option maxRecDepth 100000 in
theorem fl_X0_18 : FL RX0 18 0 2 := ⟨by decide, by decide, tb_at 391 (by decide +kernel) rfl⟩
set_option maxRecDepth 100000 in
theorem fl_X0_21 : FL RX0 21 0 3 := ⟨by decide, by decide, tb_at 394 (by decide +kernel) rfl⟩
set_option maxRecDepth 100000 in
theorem fl_X0_24 : FL RX0 24 0 4 := ⟨by decide, by decide, tb_at 398 (by decide +kernel) rfl⟩
set_option maxRecDepth 100000 in
theorem fl_X0_27 : FL RX0 27 0 5 := ⟨by decide, by decide, tb_at 401 (by decide +kernel) rfl⟩
set_option maxRecDepth 100000 in
theorem fl_X0_30 : FL RX0 30 0 6 := ⟨by decide, by decide, tb_at 404 (by decide +kernel) rfl⟩
set_option maxRecDepth 100000 in
theorem fl_X0_33 : FL RX0 33 0 7 := ⟨by decide, by decide, tb_at 406 (by decide +kernel) rfl⟩
set_option maxRecDepth 100000 in
theorem ml_X1_3 : Cond.methodLink RX1 3 objectInit ∈ tb := tb_at 493 (by decide +kernel) rfl
set_option maxRecDepth 100000 in
theorem fl_X1_9 : FL RX1 9 1 2 := ⟨by decide, by decide, tb_at 497 (by decide +kernel) rfl⟩
set_option maxRecDepth 100000 in
theorem fl_X1_15 : FL RX1 15 1 3 := ⟨by decide, by decide, tb_at 499 (by decide +kernel) rfl⟩
set_option maxRecDepth 100000 in
theorem fl_X1_19 : FL RX1 19 1 4 := ⟨by decide, by decide, tb_at 501 (by decide +kernel) rfl⟩
set_option maxRecDepth 100000 in
theorem fl_X1_22 : FL RX1 22 1 0 := ⟨by decide, by decide, tb_at 494 (by decide +kernel) rfl⟩
set_option maxRecDepth 100000 in
theorem fl_X1_25 : FL RX1 25 1 1 := ⟨by decide, by decide, tb_at 495 (by decide +kernel) rfl⟩
set_option maxRecDepth 100000 in
theorem mf_X8_has : MF yX8_has cX8_has 2 (some .boolean) 2 := ⟨tb_at 553 (by decide +kernel) rfl, tb_at 105 (by decide +kernel) rfl, by decide +kernel, by decide +kernel, by decide +kernel⟩
set_option maxRecDepth 100000 in
theorem ms_X8_has : Cond.static yX8_has ∈ tb := tb_at 552 (by decide +kernel) rfl
set_option maxRecDepth 100000 in
theorem fl_X7_41 : FL RX7 41 7 9 := ⟨by decide, by decide, tb_at 203 (by decide +kernel) rfl⟩
set_option maxRecDepth 100000 in
theorem fl_X7_15 : FL RX7 15 7 2 := ⟨by decide, by decide, tb_at 188 (by decide +kernel) rfl⟩
set_option maxRecDepth 100000 in
theorem fl_X7_35 : FL RX7 35 7 7 := ⟨by decide, by decide, tb_at 200 (by decide +kernel) rfl⟩
set_option maxRecDepth 100000 in
theorem fl_X7_32 : FL RX7 32 7 6 := ⟨by decide, by decide, tb_at 198 (by decide +kernel) rfl⟩
set_option maxRecDepth 100000 in
theorem fl_X7_25 : FL RX7 25 7 4 := ⟨by decide, by decide, tb_at 194 (by decide +kernel) rfl⟩
set_option maxRecDepth 100000 in
theorem ml_X7_60 : Cond.methodLink RX7 60 yX0_begin ∈ tb := tb_at 562 (by decide +kernel) rfl
set_option maxRecDepth 100000 in
theorem mf_X0_begin : MF yX0_begin cX0_begin 3 none 2 := ⟨tb_at 565 (by decide +kernel) rfl, tb_at 114 (by decide +kernel) rfl, by decide +kernel, by decide +kernel, by decide +kernel⟩
set_option maxRecDepth 100000 in
theorem mv_X0_begin : Cond.instanceMethod yX0_begin ∈ tb ∧ Cond.selects (Cn 0) yX0_begin yX0_begin ∈ tb ∧ 0 < 10 := ⟨tb_at 563 (by decide +kernel) rfl, tb_at 564 (by decide +kernel) rfl, by decide⟩
set_option maxRecDepth 100000 in
theorem fl_X7_38 : FL RX7 38 7 8 := ⟨by decide, by decide, tb_at 201 (by decide +kernel) rfl⟩
set_option maxRecDepth 100000 in
theorem fl_X7_44 : FL RX7 44 7 10 := ⟨by decide, by decide, tb_at 205 (by decide +kernel) rfl⟩
set_option maxRecDepth 100000 in
theorem fl_X7_47 : FL RX7 47 7 11 := ⟨by decide, by decide, tb_at 207 (by decide +kernel) rfl⟩
set_option maxRecDepth 100000 in
theorem ml_X1_33 : Cond.methodLink RX1 33 yX7_open ∈ tb := tb_at 558 (by decide +kernel) rfl
set_option maxRecDepth 100000 in
theorem mf_X7_open : MF yX7_open cX7_open 4 (some (.object "GroveWorks$Frame")) 2 := ⟨tb_at 561 (by decide +kernel) rfl, tb_at 110 (by decide +kernel) rfl, by decide +kernel, by decide +kernel, by decide +kernel⟩
set_option maxRecDepth 100000 in
theorem mv_X7_open : Cond.instanceMethod yX7_open ∈ tb ∧ Cond.selects (Cn 7) yX7_open yX7_open ∈ tb ∧ 7 < 10 := ⟨tb_at 559 (by decide +kernel) rfl, tb_at 560 (by decide +kernel) rfl, by decide⟩
set_option maxRecDepth 100000 in
theorem fl_X1_39 : FL RX1 39 0 3 := ⟨by decide, by decide, tb_at 395 (by decide +kernel) rfl⟩
set_option maxRecDepth 100000 in
theorem ml_X1_44 : Cond.methodLink RX1 44 yX0_aim ∈ tb := tb_at 578 (by decide +kernel) rfl
set_option maxRecDepth 100000 in
theorem mf_X0_aim : MF yX0_aim cX0_aim 4 none 3 := ⟨tb_at 581 (by decide +kernel) rfl, tb_at 114 (by decide +kernel) rfl, by decide +kernel, by decide +kernel, by decide +kernel⟩
set_option maxRecDepth 100000 in
theorem mv_X0_aim : Cond.instanceMethod yX0_aim ∈ tb ∧ Cond.selects (Cn 0) yX0_aim yX0_aim ∈ tb ∧ 0 < 10 := ⟨tb_at 579 (by decide +kernel) rfl, tb_at 580 (by decide +kernel) rfl, by decide⟩
set_option maxRecDepth 100000 in
theorem fl_X1_48 : FL RX1 48 0 5 := ⟨by decide, by decide, tb_at 402 (by decide +kernel) rfl⟩
set_option maxRecDepth 100000 in
theorem fl_X1_49 : FL RX1 49 0 7 := ⟨by decide, by decide, tb_at 407 (by decide +kernel) rfl⟩
set_option maxRecDepth 100000 in
theorem fl_X1_52 : FL RX1 52 0 0 := ⟨by decide, by decide, tb_at 386 (by decide +kernel) rfl⟩
set_option maxRecDepth 100000 in
theorem ml_X1_55 : Cond.methodLink RX1 55 yX1_hasJoined ∈ tb := tb_at 868 (by decide +kernel) rfl
set_option maxRecDepth 100000 in
theorem mf_X1_hasJoined : MF yX1_hasJoined cX1_hasJoined 2 (some .boolean) 1 := ⟨tb_at 550 (by decide +kernel) rfl, tb_at 116 (by decide +kernel) rfl, by decide +kernel, by decide +kernel, by decide +kernel⟩
set_option maxRecDepth 100000 in
theorem mv_X1_hasJoined : Cond.instanceMethod yX1_hasJoined ∈ tb ∧ Cond.selects (Cn 1) yX1_hasJoined yX1_hasJoined ∈ tb ∧ 1 < 10 := ⟨tb_at 548 (by decide +kernel) rfl, tb_at 549 (by decide +kernel) rfl, by decide⟩
set_option maxRecDepth 100000 in
theorem mf_X8_isIn : MF yX8_isIn cX8_isIn 2 (some .boolean) 2 := ⟨tb_at 374 (by decide +kernel) rfl, tb_at 105 (by decide +kernel) rfl, by decide +kernel, by decide +kernel, by decide +kernel⟩
set_option maxRecDepth 100000 in
theorem ms_X8_isIn : Cond.static yX8_isIn ∈ tb := tb_at 373 (by decide +kernel) rfl
set_option maxRecDepth 100000 in
theorem ml_X1_62 : Cond.methodLink RX1 62 yX1_say ∈ tb := tb_at 924 (by decide +kernel) rfl
set_option maxRecDepth 100000 in
theorem mf_X1_say : MF yX1_say cX1_say 4 none 2 := ⟨tb_at 557 (by decide +kernel) rfl, tb_at 116 (by decide +kernel) rfl, by decide +kernel, by decide +kernel, by decide +kernel⟩
set_option maxRecDepth 100000 in
theorem mv_X1_say : Cond.instanceMethod yX1_say ∈ tb ∧ Cond.selects (Cn 1) yX1_say yX1_say ∈ tb ∧ 1 < 10 := ⟨tb_at 555 (by decide +kernel) rfl, tb_at 556 (by decide +kernel) rfl, by decide⟩
set_option maxRecDepth 100000 in
theorem ml_X6_3 : Cond.methodLink RX6 3 objectInit ∈ tb := tb_at 147 (by decide +kernel) rfl
set_option maxRecDepth 100000 in
theorem fl_X6_9 : FL RX6 9 6 1 := ⟨by decide, by decide, tb_at 152 (by decide +kernel) rfl⟩
set_option maxRecDepth 100000 in
theorem fl_X6_15 : FL RX6 15 6 2 := ⟨by decide, by decide, tb_at 153 (by decide +kernel) rfl⟩
set_option maxRecDepth 100000 in
theorem fl_X6_18 : FL RX6 18 6 6 := ⟨by decide, by decide, tb_at 157 (by decide +kernel) rfl⟩
set_option maxRecDepth 100000 in
theorem fl_X6_22 : FL RX6 22 6 0 := ⟨by decide, by decide, tb_at 151 (by decide +kernel) rfl⟩
set_option maxRecDepth 100000 in
theorem ml_X6_26 : Cond.methodLink RX6 26 yJ7_fill_53178 ∈ tb := tb_at 148 (by decide +kernel) rfl
set_option maxRecDepth 100000 in
theorem mf_J7_fill_53178 : MF yJ7_fill_53178 cJ7_fill_53178 4 none 2 := ⟨tb_at 150 (by decide +kernel) rfl, tb_at 109 (by decide +kernel) rfl, by decide +kernel, by decide +kernel, by decide +kernel⟩
set_option maxRecDepth 100000 in
theorem ms_J7_fill_53178 : Cond.static yJ7_fill_53178 ∈ tb := tb_at 149 (by decide +kernel) rfl
set_option maxRecDepth 100000 in
theorem fl_X6_32 : FL RX6 32 6 3 := ⟨by decide, by decide, tb_at 154 (by decide +kernel) rfl⟩
set_option maxRecDepth 100000 in
theorem fl_X6_35 : FL RX6 35 6 4 := ⟨by decide, by decide, tb_at 155 (by decide +kernel) rfl⟩
set_option maxRecDepth 100000 in
theorem fl_X6_38 : FL RX6 38 6 5 := ⟨by decide, by decide, tb_at 156 (by decide +kernel) rfl⟩
set_option maxRecDepth 100000 in
theorem ml_X7_3 : Cond.methodLink RX7 3 objectInit ∈ tb := tb_at 179 (by decide +kernel) rfl
set_option maxRecDepth 100000 in
theorem fl_X7_9 : FL RX7 9 7 1 := ⟨by decide, by decide, tb_at 185 (by decide +kernel) rfl⟩
set_option maxRecDepth 100000 in
theorem cl_X7_19 : Cond.classLink RX7 19 (Cn 0) ∈ tb := tb_at 180 (by decide +kernel) rfl
set_option maxRecDepth 100000 in
theorem fl_X7_21 : FL RX7 21 7 3 := ⟨by decide, by decide, tb_at 192 (by decide +kernel) rfl⟩
set_option maxRecDepth 100000 in
theorem fl_X7_28 : FL RX7 28 7 5 := ⟨by decide, by decide, tb_at 196 (by decide +kernel) rfl⟩
set_option maxRecDepth 100000 in
theorem fl_X7_50 : FL RX7 50 7 0 := ⟨by decide, by decide, tb_at 183 (by decide +kernel) rfl⟩
set_option maxRecDepth 100000 in
theorem ml_X7_53 : Cond.methodLink RX7 53 yJ7_fill_53178 ∈ tb := tb_at 182 (by decide +kernel) rfl
set_option maxRecDepth 100000 in
theorem fl_X2_21 : FL RX2 21 2 3 := ⟨by decide, by decide, tb_at 243 (by decide +kernel) rfl⟩
set_option maxRecDepth 100000 in
theorem ml_X2_41 : Cond.methodLink RX2 41 yJ7_fill_53178 ∈ tb := tb_at 234 (by decide +kernel) rfl
set_option maxRecDepth 100000 in
theorem fl_X2_11 : FL RX2 11 2 0 := ⟨by decide, by decide, tb_at 235 (by decide +kernel) rfl⟩
set_option maxRecDepth 100000 in
theorem cl_X2_9 : Cond.classLink RX2 9 (Cn 7) ∈ tb := tb_at 140 (by decide +kernel) rfl
set_option maxRecDepth 100000 in
theorem ml_X2_40 : Cond.methodLink RX2 40 yX7_init ∈ tb := tb_at 176 (by decide +kernel) rfl
set_option maxRecDepth 100000 in
theorem mf_X7_init : MF yX7_init cX7_init 2 none 1 := ⟨tb_at 178 (by decide +kernel) rfl, tb_at 110 (by decide +kernel) rfl, by decide +kernel, by decide +kernel, by decide +kernel⟩
set_option maxRecDepth 100000 in
theorem mi_X7_init : Cond.instanceMethod yX7_init ∈ tb ∧ (yX7_init).name = "<init>" := ⟨tb_at 177 (by decide +kernel) rfl, rfl⟩
set_option maxRecDepth 100000 in
theorem ml_X2_3 : Cond.methodLink RX2 3 objectInit ∈ tb := tb_at 139 (by decide +kernel) rfl
set_option maxRecDepth 100000 in
theorem fl_X2_17 : FL RX2 17 2 2 := ⟨by decide, by decide, tb_at 240 (by decide +kernel) rfl⟩
set_option maxRecDepth 100000 in
theorem fl_X2_24 : FL RX2 24 2 4 := ⟨by decide, by decide, tb_at 245 (by decide +kernel) rfl⟩
set_option maxRecDepth 100000 in
theorem fl_X2_28 : FL RX2 28 2 5 := ⟨by decide, by decide, tb_at 250 (by decide +kernel) rfl⟩
set_option maxRecDepth 100000 in
theorem cl_X2_31 : Cond.classLink RX2 31 (Cn 6) ∈ tb := tb_at 142 (by decide +kernel) rfl
set_option maxRecDepth 100000 in
theorem ml_X2_33 : Cond.methodLink RX2 33 yX6_init ∈ tb := tb_at 144 (by decide +kernel) rfl
set_option maxRecDepth 100000 in
theorem mf_X6_init : MF yX6_init cX6_init 2 none 1 := ⟨tb_at 146 (by decide +kernel) rfl, tb_at 108 (by decide +kernel) rfl, by decide +kernel, by decide +kernel, by decide +kernel⟩
set_option maxRecDepth 100000 in
theorem mi_X6_init : Cond.instanceMethod yX6_init ∈ tb ∧ (yX6_init).name = "<init>" := ⟨tb_at 145 (by decide +kernel) rfl, rfl⟩
set_option maxRecDepth 100000 in
theorem fl_X2_36 : FL RX2 36 2 1 := ⟨by decide, by decide, tb_at 237 (by decide +kernel) rfl⟩
set_option maxRecDepth 100000 in
theorem ml_X3_3 : Cond.methodLink RX3 3 objectInit ∈ tb := tb_at 430 (by decide +kernel) rfl
set_option maxRecDepth 100000 in
theorem fl_X3_9 : FL RX3 9 3 4 := ⟨by decide, by decide, tb_at 439 (by decide +kernel) rfl⟩
set_option maxRecDepth 100000 in
theorem fl_X3_15 : FL RX3 15 3 5 := ⟨by decide, by decide, tb_at 442 (by decide +kernel) rfl⟩
set_option maxRecDepth 100000 in
theorem fl_X3_18 : FL RX3 18 3 6 := ⟨by decide, by decide, tb_at 444 (by decide +kernel) rfl⟩
set_option maxRecDepth 100000 in
theorem fl_X3_21 : FL RX3 21 3 7 := ⟨by decide, by decide, tb_at 446 (by decide +kernel) rfl⟩
set_option maxRecDepth 100000 in
theorem fl_X3_25 : FL RX3 25 3 8 := ⟨by decide, by decide, tb_at 447 (by decide +kernel) rfl⟩
set_option maxRecDepth 100000 in
theorem fl_X3_28 : FL RX3 28 3 9 := ⟨by decide, by decide, tb_at 450 (by decide +kernel) rfl⟩
set_option maxRecDepth 100000 in
theorem fl_X3_31 : FL RX3 31 3 10 := ⟨by decide, by decide, tb_at 451 (by decide +kernel) rfl⟩
set_option maxRecDepth 100000 in
theorem fl_X3_34 : FL RX3 34 3 11 := ⟨by decide, by decide, tb_at 452 (by decide +kernel) rfl⟩
set_option maxRecDepth 100000 in
theorem fl_X3_37 : FL RX3 37 3 12 := ⟨by decide, by decide, tb_at 453 (by decide +kernel) rfl⟩
set_option maxRecDepth 100000 in
theorem fl_X3_40 : FL RX3 40 3 0 := ⟨by decide, by decide, tb_at 431 (by decide +kernel) rfl⟩
set_option maxRecDepth 100000 in
theorem fl_X3_44 : FL RX3 44 3 1 := ⟨by decide, by decide, tb_at 432 (by decide +kernel) rfl⟩
set_option maxRecDepth 100000 in
theorem fl_X3_47 : FL RX3 47 3 2 := ⟨by decide, by decide, tb_at 433 (by decide +kernel) rfl⟩
set_option maxRecDepth 100000 in
theorem fl_X3_51 : FL RX3 51 3 3 := ⟨by decide, by decide, tb_at 437 (by decide +kernel) rfl⟩
set_option maxRecDepth 100000 in
theorem ml_X3_54 : Cond.methodLink RX3 54 yJ7_fill_53178 ∈ tb := tb_at 530 (by decide +kernel) rfl
set_option maxRecDepth 100000 in
theorem fl_X3_60 : FL RX3 60 2 4 := ⟨by decide, by decide, tb_at 246 (by decide +kernel) rfl⟩
set_option maxRecDepth 100000 in
theorem co_J6_265 : Cond.constant RJ6 265 1431655765 ∈ tb := tb_at 682 (by decide +kernel) rfl
set_option maxRecDepth 100000 in
theorem co_J6_266 : Cond.constant RJ6 266 858993459 ∈ tb := tb_at 683 (by decide +kernel) rfl
set_option maxRecDepth 100000 in
theorem co_J6_267 : Cond.constant RJ6 267 252645135 ∈ tb := tb_at 684 (by decide +kernel) rfl
set_option maxRecDepth 100000 in
theorem ml_X3_69 : Cond.methodLink RX3 69 yJ6_bitCount_0f7a4 ∈ tb := tb_at 679 (by decide +kernel) rfl
set_option maxRecDepth 100000 in
theorem mf_J6_bitCount_0f7a4 : MF yJ6_bitCount_0f7a4 cJ6_bitCount_0f7a4 1 (some .int) 1 := ⟨tb_at 681 (by decide +kernel) rfl, tb_at 117 (by decide +kernel) rfl, by decide +kernel, by decide +kernel, by decide +kernel⟩
set_option maxRecDepth 100000 in
theorem ms_J6_bitCount_0f7a4 : Cond.static yJ6_bitCount_0f7a4 ∈ tb := tb_at 680 (by decide +kernel) rfl
set_option maxRecDepth 100000 in
theorem ml_X3_75 : Cond.methodLink RX3 75 yX3_hasMembers ∈ tb := tb_at 771 (by decide +kernel) rfl
set_option maxRecDepth 100000 in
theorem mf_X3_hasMembers : MF yX3_hasMembers cX3_hasMembers 2 (some .boolean) 1 := ⟨tb_at 660 (by decide +kernel) rfl, tb_at 115 (by decide +kernel) rfl, by decide +kernel, by decide +kernel, by decide +kernel⟩
set_option maxRecDepth 100000 in
theorem mv_X3_hasMembers : Cond.instanceMethod yX3_hasMembers ∈ tb ∧ Cond.selects (Cn 3) yX3_hasMembers yX3_hasMembers ∈ tb ∧ 3 < 10 := ⟨tb_at 658 (by decide +kernel) rfl, tb_at 659 (by decide +kernel) rfl, by decide⟩
set_option maxRecDepth 100000 in
theorem ml_X3_79 : Cond.methodLink RX3 79 yX3_isFirst ∈ tb := tb_at 772 (by decide +kernel) rfl
set_option maxRecDepth 100000 in
theorem mf_X3_isFirst : MF yX3_isFirst cX3_isFirst 1 (some .boolean) 0 := ⟨tb_at 775 (by decide +kernel) rfl, tb_at 115 (by decide +kernel) rfl, by decide +kernel, by decide +kernel, by decide +kernel⟩
set_option maxRecDepth 100000 in
theorem mv_X3_isFirst : Cond.instanceMethod yX3_isFirst ∈ tb ∧ Cond.selects (Cn 3) yX3_isFirst yX3_isFirst ∈ tb ∧ 3 < 10 := ⟨tb_at 773 (by decide +kernel) rfl, tb_at 774 (by decide +kernel) rfl, by decide⟩
set_option maxRecDepth 100000 in
theorem ml_X3_83 : Cond.methodLink RX3 83 yX3_isJoined ∈ tb := tb_at 690 (by decide +kernel) rfl
set_option maxRecDepth 100000 in
theorem mf_X3_isJoined : MF yX3_isJoined cX3_isJoined 3 (some .boolean) 2 := ⟨tb_at 693 (by decide +kernel) rfl, tb_at 115 (by decide +kernel) rfl, by decide +kernel, by decide +kernel, by decide +kernel⟩
set_option maxRecDepth 100000 in
theorem mv_X3_isJoined : Cond.instanceMethod yX3_isJoined ∈ tb ∧ Cond.selects (Cn 3) yX3_isJoined yX3_isJoined ∈ tb ∧ 3 < 10 := ⟨tb_at 691 (by decide +kernel) rfl, tb_at 692 (by decide +kernel) rfl, by decide⟩
set_option maxRecDepth 100000 in
theorem ml_X3_86 : Cond.methodLink RX3 86 yX3_isCutOff ∈ tb := tb_at 780 (by decide +kernel) rfl
set_option maxRecDepth 100000 in
theorem mf_X3_isCutOff : MF yX3_isCutOff cX3_isCutOff 4 (some .boolean) 2 := ⟨tb_at 783 (by decide +kernel) rfl, tb_at 115 (by decide +kernel) rfl, by decide +kernel, by decide +kernel, by decide +kernel⟩
set_option maxRecDepth 100000 in
theorem mv_X3_isCutOff : Cond.instanceMethod yX3_isCutOff ∈ tb ∧ Cond.selects (Cn 3) yX3_isCutOff yX3_isCutOff ∈ tb ∧ 3 < 10 := ⟨tb_at 781 (by decide +kernel) rfl, tb_at 782 (by decide +kernel) rfl, by decide⟩
set_option maxRecDepth 100000 in
theorem ml_X3_89 : Cond.methodLink RX3 89 yX3_keptClaim ∈ tb := tb_at 759 (by decide +kernel) rfl
set_option maxRecDepth 100000 in
theorem mf_X3_keptClaim : MF yX3_keptClaim cX3_keptClaim 4 (some .int) 2 := ⟨tb_at 762 (by decide +kernel) rfl, tb_at 115 (by decide +kernel) rfl, by decide +kernel, by decide +kernel, by decide +kernel⟩
set_option maxRecDepth 100000 in
theorem mv_X3_keptClaim : Cond.instanceMethod yX3_keptClaim ∈ tb ∧ Cond.selects (Cn 3) yX3_keptClaim yX3_keptClaim ∈ tb ∧ 3 < 10 := ⟨tb_at 760 (by decide +kernel) rfl, tb_at 761 (by decide +kernel) rfl, by decide⟩
set_option maxRecDepth 100000 in
theorem mf_X8_isBetter : MF yX8_isBetter cX8_isBetter 4 (some .boolean) 2 := ⟨tb_at 765 (by decide +kernel) rfl, tb_at 105 (by decide +kernel) rfl, by decide +kernel, by decide +kernel, by decide +kernel⟩
set_option maxRecDepth 100000 in
theorem ms_X8_isBetter : Cond.static yX8_isBetter ∈ tb := tb_at 764 (by decide +kernel) rfl
set_option maxRecDepth 100000 in
theorem ml_X3_100 : Cond.methodLink RX3 100 yX3_timeToObject ∈ tb := tb_at 675 (by decide +kernel) rfl
set_option maxRecDepth 100000 in
theorem mf_X3_timeToObject : MF yX3_timeToObject cX3_timeToObject 1 (some .int) 0 := ⟨tb_at 678 (by decide +kernel) rfl, tb_at 115 (by decide +kernel) rfl, by decide +kernel, by decide +kernel, by decide +kernel⟩
set_option maxRecDepth 100000 in
theorem mv_X3_timeToObject : Cond.instanceMethod yX3_timeToObject ∈ tb ∧ Cond.selects (Cn 3) yX3_timeToObject yX3_timeToObject ∈ tb ∧ 3 < 10 := ⟨tb_at 676 (by decide +kernel) rfl, tb_at 677 (by decide +kernel) rfl, by decide⟩
set_option maxRecDepth 100000 in
theorem ml_X3_96 : Cond.methodLink RX3 96 yX3_takeCuts ∈ tb := tb_at 694 (by decide +kernel) rfl
set_option maxRecDepth 100000 in
theorem mf_X3_takeCuts : MF yX3_takeCuts cX3_takeCuts 6 none 2 := ⟨tb_at 697 (by decide +kernel) rfl, tb_at 115 (by decide +kernel) rfl, by decide +kernel, by decide +kernel, by decide +kernel⟩
set_option maxRecDepth 100000 in
theorem mv_X3_takeCuts : Cond.instanceMethod yX3_takeCuts ∈ tb ∧ Cond.selects (Cn 3) yX3_takeCuts yX3_takeCuts ∈ tb ∧ 3 < 10 := ⟨tb_at 695 (by decide +kernel) rfl, tb_at 696 (by decide +kernel) rfl, by decide⟩
set_option maxRecDepth 100000 in
theorem ml_X3_107 : Cond.methodLink RX3 107 yJ9_min_7cf53 ∈ tb := tb_at 685 (by decide +kernel) rfl
set_option maxRecDepth 100000 in
theorem ml_X4_3 : Cond.methodLink RX4 3 objectInit ∈ tb := tb_at 335 (by decide +kernel) rfl
set_option maxRecDepth 100000 in
theorem fl_X4_9 : FL RX4 9 4 0 := ⟨by decide, by decide, tb_at 336 (by decide +kernel) rfl⟩
set_option maxRecDepth 100000 in
theorem fl_X4_15 : FL RX4 15 4 1 := ⟨by decide, by decide, tb_at 337 (by decide +kernel) rfl⟩
set_option maxRecDepth 100000 in
theorem fl_X4_19 : FL RX4 19 4 2 := ⟨by decide, by decide, tb_at 338 (by decide +kernel) rfl⟩
set_option maxRecDepth 100000 in
theorem fl_X4_23 : FL RX4 23 4 3 := ⟨by decide, by decide, tb_at 340 (by decide +kernel) rfl⟩
set_option maxRecDepth 100000 in
theorem fl_X5_15 : FL RX5 15 5 5 := ⟨by decide, by decide, tb_at 287 (by decide +kernel) rfl⟩
set_option maxRecDepth 100000 in
theorem fl_X5_22 : FL RX5 22 5 7 := ⟨by decide, by decide, tb_at 289 (by decide +kernel) rfl⟩
set_option maxRecDepth 100000 in
theorem ml_X5_151 : Cond.methodLink RX5 151 yX5_joinNone ∈ tb := tb_at 535 (by decide +kernel) rfl
set_option maxRecDepth 100000 in
theorem mf_X5_joinNone : MF yX5_joinNone cX5_joinNone 2 none 1 := ⟨tb_at 538 (by decide +kernel) rfl, tb_at 111 (by decide +kernel) rfl, by decide +kernel, by decide +kernel, by decide +kernel⟩
set_option maxRecDepth 100000 in
theorem mv_X5_joinNone : Cond.instanceMethod yX5_joinNone ∈ tb ∧ Cond.selects (Cn 5) yX5_joinNone yX5_joinNone ∈ tb ∧ 5 < 10 := ⟨tb_at 537 (by decide +kernel) rfl, tb_at 1 (by decide +kernel) rfl, by decide⟩
set_option maxRecDepth 100000 in
theorem ml_X4_36 : Cond.methodLink RX4 36 yX5_forgetPort ∈ tb := tb_at 531 (by decide +kernel) rfl
set_option maxRecDepth 100000 in
theorem mf_X5_forgetPort : MF yX5_forgetPort cX5_forgetPort 3 none 1 := ⟨tb_at 534 (by decide +kernel) rfl, tb_at 111 (by decide +kernel) rfl, by decide +kernel, by decide +kernel, by decide +kernel⟩
set_option maxRecDepth 100000 in
theorem mv_X5_forgetPort : Cond.instanceMethod yX5_forgetPort ∈ tb ∧ Cond.selects (Cn 5) yX5_forgetPort yX5_forgetPort ∈ tb ∧ 5 < 10 := ⟨tb_at 532 (by decide +kernel) rfl, tb_at 533 (by decide +kernel) rfl, by decide⟩
set_option maxRecDepth 100000 in
theorem ml_X4_31 : Cond.methodLink RX4 31 yX3_forget ∈ tb := tb_at 526 (by decide +kernel) rfl
set_option maxRecDepth 100000 in
theorem mf_X3_forget : MF yX3_forget cX3_forget 1 none 0 := ⟨tb_at 529 (by decide +kernel) rfl, tb_at 115 (by decide +kernel) rfl, by decide +kernel, by decide +kernel, by decide +kernel⟩
set_option maxRecDepth 100000 in
theorem mv_X3_forget : Cond.instanceMethod yX3_forget ∈ tb ∧ Cond.selects (Cn 3) yX3_forget yX3_forget ∈ tb ∧ 3 < 10 := ⟨tb_at 527 (by decide +kernel) rfl, tb_at 528 (by decide +kernel) rfl, by decide⟩
set_option maxRecDepth 100000 in
theorem ml_X4_42 : Cond.methodLink RX4 42 yX3_dropNeighbours ∈ tb := tb_at 628 (by decide +kernel) rfl
set_option maxRecDepth 100000 in
theorem mf_X3_dropNeighbours : MF yX3_dropNeighbours cX3_dropNeighbours 2 none 0 := ⟨tb_at 631 (by decide +kernel) rfl, tb_at 115 (by decide +kernel) rfl, by decide +kernel, by decide +kernel, by decide +kernel⟩
set_option maxRecDepth 100000 in
theorem mv_X3_dropNeighbours : Cond.instanceMethod yX3_dropNeighbours ∈ tb ∧ Cond.selects (Cn 3) yX3_dropNeighbours yX3_dropNeighbours ∈ tb ∧ 3 < 10 := ⟨tb_at 629 (by decide +kernel) rfl, tb_at 630 (by decide +kernel) rfl, by decide⟩
set_option maxRecDepth 100000 in
theorem ml_X8_61 : Cond.methodLink RX8 61 yX8_isIn ∈ tb := tb_at 372 (by decide +kernel) rfl
set_option maxRecDepth 100000 in
theorem fl_X5_9 : FL RX5 9 5 4 := ⟨by decide, by decide, tb_at 285 (by decide +kernel) rfl⟩
set_option maxRecDepth 100000 in
theorem co_X5_205 : Cond.constant RX5 205 65536 ∈ tb := tb_at 652 (by decide +kernel) rfl
set_option maxRecDepth 100000 in
theorem fl_X5_206 : FL RX5 206 3 8 := ⟨by decide, by decide, tb_at 449 (by decide +kernel) rfl⟩
set_option maxRecDepth 100000 in
theorem fl_X5_57 : FL RX5 57 5 2 := ⟨by decide, by decide, tb_at 283 (by decide +kernel) rfl⟩
set_option maxRecDepth 100000 in
theorem fl_X5_50 : FL RX5 50 5 0 := ⟨by decide, by decide, tb_at 281 (by decide +kernel) rfl⟩
set_option maxRecDepth 100000 in
theorem fl_X5_118 : FL RX5 118 2 4 := ⟨by decide, by decide, tb_at 249 (by decide +kernel) rfl⟩
set_option maxRecDepth 100000 in
theorem ml_X5_209 : Cond.methodLink RX5 209 yX3_hasMembers ∈ tb := tb_at 657 (by decide +kernel) rfl
set_option maxRecDepth 100000 in
theorem ml_X5_212 : Cond.methodLink RX5 212 yX3_isAsking ∈ tb := tb_at 661 (by decide +kernel) rfl
set_option maxRecDepth 100000 in
theorem mf_X3_isAsking : MF yX3_isAsking cX3_isAsking 1 (some .boolean) 0 := ⟨tb_at 664 (by decide +kernel) rfl, tb_at 115 (by decide +kernel) rfl, by decide +kernel, by decide +kernel, by decide +kernel⟩
set_option maxRecDepth 100000 in
theorem mv_X3_isAsking : Cond.instanceMethod yX3_isAsking ∈ tb ∧ Cond.selects (Cn 3) yX3_isAsking yX3_isAsking ∈ tb ∧ 3 < 10 := ⟨tb_at 662 (by decide +kernel) rfl, tb_at 663 (by decide +kernel) rfl, by decide⟩
set_option maxRecDepth 100000 in
theorem ml_X5_215 : Cond.methodLink RX5 215 yJ9_min_7cf53 ∈ tb := tb_at 665 (by decide +kernel) rfl
set_option maxRecDepth 100000 in
theorem fl_X5_181 : FL RX5 181 3 2 := ⟨by decide, by decide, tb_at 436 (by decide +kernel) rfl⟩
set_option maxRecDepth 100000 in
theorem fl_X5_54 : FL RX5 54 5 1 := ⟨by decide, by decide, tb_at 282 (by decide +kernel) rfl⟩
set_option maxRecDepth 100000 in
theorem ml_X5_185 : Cond.methodLink RX5 185 yX7_open ∈ tb := tb_at 666 (by decide +kernel) rfl
set_option maxRecDepth 100000 in
theorem fl_X5_220 : FL RX5 220 0 3 := ⟨by decide, by decide, tb_at 397 (by decide +kernel) rfl⟩
set_option maxRecDepth 100000 in
theorem fl_X5_224 : FL RX5 224 0 0 := ⟨by decide, by decide, tb_at 387 (by decide +kernel) rfl⟩
set_option maxRecDepth 100000 in
theorem fl_X5_176 : FL RX5 176 0 6 := ⟨by decide, by decide, tb_at 405 (by decide +kernel) rfl⟩
set_option maxRecDepth 100000 in
theorem ml_X5_230 : Cond.methodLink RX5 230 yX3_takeJoin ∈ tb := tb_at 686 (by decide +kernel) rfl
set_option maxRecDepth 100000 in
theorem mf_X3_takeJoin : MF yX3_takeJoin cX3_takeJoin 3 none 2 := ⟨tb_at 689 (by decide +kernel) rfl, tb_at 115 (by decide +kernel) rfl, by decide +kernel, by decide +kernel, by decide +kernel⟩
set_option maxRecDepth 100000 in
theorem mv_X3_takeJoin : Cond.instanceMethod yX3_takeJoin ∈ tb ∧ Cond.selects (Cn 3) yX3_takeJoin yX3_takeJoin ∈ tb ∧ 3 < 10 := ⟨tb_at 687 (by decide +kernel) rfl, tb_at 688 (by decide +kernel) rfl, by decide⟩
set_option maxRecDepth 100000 in
theorem ml_X5_233 : Cond.methodLink RX5 233 yX3_takeCuts ∈ tb := tb_at 699 (by decide +kernel) rfl
set_option maxRecDepth 100000 in
theorem ml_X5_227 : Cond.methodLink RX5 227 yX3_takePrune ∈ tb := tb_at 671 (by decide +kernel) rfl
set_option maxRecDepth 100000 in
theorem mf_X3_takePrune : MF yX3_takePrune cX3_takePrune 4 none 2 := ⟨tb_at 674 (by decide +kernel) rfl, tb_at 115 (by decide +kernel) rfl, by decide +kernel, by decide +kernel, by decide +kernel⟩
set_option maxRecDepth 100000 in
theorem mv_X3_takePrune : Cond.instanceMethod yX3_takePrune ∈ tb ∧ Cond.selects (Cn 3) yX3_takePrune yX3_takePrune ∈ tb ∧ 3 < 10 := ⟨tb_at 672 (by decide +kernel) rfl, tb_at 673 (by decide +kernel) rfl, by decide⟩
set_option maxRecDepth 100000 in
theorem fl_X5_221 : FL RX5 221 0 4 := ⟨by decide, by decide, tb_at 400 (by decide +kernel) rfl⟩
set_option maxRecDepth 100000 in
theorem fl_X5_60 : FL RX5 60 5 3 := ⟨by decide, by decide, tb_at 284 (by decide +kernel) rfl⟩
set_option maxRecDepth 100000 in
theorem ml_X5_190 : Cond.methodLink RX5 190 yX0_aim ∈ tb := tb_at 713 (by decide +kernel) rfl
set_option maxRecDepth 100000 in
theorem ml_X5_160 : Cond.methodLink RX5 160 yX5_openUp ∈ tb := tb_at 708 (by decide +kernel) rfl
set_option maxRecDepth 100000 in
theorem mf_X5_openUp : MF yX5_openUp cX5_openUp 5 (some (.object "GroveWorks$Frame")) 2 := ⟨tb_at 711 (by decide +kernel) rfl, tb_at 111 (by decide +kernel) rfl, by decide +kernel, by decide +kernel, by decide +kernel⟩
set_option maxRecDepth 100000 in
theorem mv_X5_openUp : Cond.instanceMethod yX5_openUp ∈ tb ∧ Cond.selects (Cn 5) yX5_openUp yX5_openUp ∈ tb ∧ 5 < 10 := ⟨tb_at 710 (by decide +kernel) rfl, tb_at 9 (by decide +kernel) rfl, by decide⟩
set_option maxRecDepth 100000 in
theorem fl_X5_19 : FL RX5 19 5 6 := ⟨by decide, by decide, tb_at 288 (by decide +kernel) rfl⟩
set_option maxRecDepth 100000 in
theorem ml_X5_167 : Cond.methodLink RX5 167 yX5_sendJoin ∈ tb := tb_at 704 (by decide +kernel) rfl
set_option maxRecDepth 100000 in
theorem mf_X5_sendJoin : MF yX5_sendJoin cX5_sendJoin 4 none 2 := ⟨tb_at 707 (by decide +kernel) rfl, tb_at 111 (by decide +kernel) rfl, by decide +kernel, by decide +kernel, by decide +kernel⟩
set_option maxRecDepth 100000 in
theorem mv_X5_sendJoin : Cond.instanceMethod yX5_sendJoin ∈ tb ∧ Cond.selects (Cn 5) yX5_sendJoin yX5_sendJoin ∈ tb ∧ 5 < 10 := ⟨tb_at 706 (by decide +kernel) rfl, tb_at 8 (by decide +kernel) rfl, by decide⟩
set_option maxRecDepth 100000 in
theorem fl_X5_236 : FL RX5 236 0 2 := ⟨by decide, by decide, tb_at 393 (by decide +kernel) rfl⟩
set_option maxRecDepth 100000 in
theorem fl_X5_75 : FL RX5 75 2 1 := ⟨by decide, by decide, tb_at 239 (by decide +kernel) rfl⟩
set_option maxRecDepth 100000 in
theorem ml_X5_79 : Cond.methodLink RX5 79 yX2_targetOf ∈ tb := tb_at 722 (by decide +kernel) rfl
set_option maxRecDepth 100000 in
theorem mf_X2_targetOf : MF yX2_targetOf cX2_targetOf 2 (some .int) 1 := ⟨tb_at 725 (by decide +kernel) rfl, tb_at 107 (by decide +kernel) rfl, by decide +kernel, by decide +kernel, by decide +kernel⟩
set_option maxRecDepth 100000 in
theorem mv_X2_targetOf : Cond.instanceMethod yX2_targetOf ∈ tb ∧ Cond.selects (Cn 2) yX2_targetOf yX2_targetOf ∈ tb ∧ 2 < 10 := ⟨tb_at 723 (by decide +kernel) rfl, tb_at 724 (by decide +kernel) rfl, by decide⟩
set_option maxRecDepth 100000 in
theorem ml_X5_83 : Cond.methodLink RX5 83 yX6_portTo ∈ tb := tb_at 726 (by decide +kernel) rfl
set_option maxRecDepth 100000 in
theorem mf_X6_portTo : MF yX6_portTo cX6_portTo 3 (some .int) 2 := ⟨tb_at 729 (by decide +kernel) rfl, tb_at 108 (by decide +kernel) rfl, by decide +kernel, by decide +kernel, by decide +kernel⟩
set_option maxRecDepth 100000 in
theorem mv_X6_portTo : Cond.instanceMethod yX6_portTo ∈ tb ∧ Cond.selects (Cn 6) yX6_portTo yX6_portTo ∈ tb ∧ 6 < 10 := ⟨tb_at 727 (by decide +kernel) rfl, tb_at 728 (by decide +kernel) rfl, by decide⟩
set_option maxRecDepth 100000 in
theorem ml_X5_89 : Cond.methodLink RX5 89 yX6_isDirect ∈ tb := tb_at 735 (by decide +kernel) rfl
set_option maxRecDepth 100000 in
theorem mf_X6_isDirect : MF yX6_isDirect cX6_isDirect 3 (some .boolean) 2 := ⟨tb_at 738 (by decide +kernel) rfl, tb_at 108 (by decide +kernel) rfl, by decide +kernel, by decide +kernel, by decide +kernel⟩
set_option maxRecDepth 100000 in
theorem mv_X6_isDirect : Cond.instanceMethod yX6_isDirect ∈ tb ∧ Cond.selects (Cn 6) yX6_isDirect yX6_isDirect ∈ tb ∧ 6 < 10 := ⟨tb_at 736 (by decide +kernel) rfl, tb_at 737 (by decide +kernel) rfl, by decide⟩
set_option maxRecDepth 100000 in
theorem fl_X5_31 : FL RX5 31 5 10 := ⟨by decide, by decide, tb_at 292 (by decide +kernel) rfl⟩
set_option maxRecDepth 100000 in
theorem ml_X5_102 : Cond.methodLink RX5 102 yX5_isStraight ∈ tb := tb_at 747 (by decide +kernel) rfl
set_option maxRecDepth 100000 in
theorem mf_X5_isStraight : MF yX5_isStraight cX5_isStraight 2 (some .boolean) 1 := ⟨tb_at 750 (by decide +kernel) rfl, tb_at 111 (by decide +kernel) rfl, by decide +kernel, by decide +kernel, by decide +kernel⟩
set_option maxRecDepth 100000 in
theorem mv_X5_isStraight : Cond.instanceMethod yX5_isStraight ∈ tb ∧ Cond.selects (Cn 5) yX5_isStraight yX5_isStraight ∈ tb ∧ 5 < 10 := ⟨tb_at 749 (by decide +kernel) rfl, tb_at 14 (by decide +kernel) rfl, by decide⟩
set_option maxRecDepth 100000 in
theorem fl_X5_70 : FL RX5 70 2 2 := ⟨by decide, by decide, tb_at 241 (by decide +kernel) rfl⟩
set_option maxRecDepth 100000 in
theorem ml_X5_105 : Cond.methodLink RX5 105 yX6_distanceTo ∈ tb := tb_at 751 (by decide +kernel) rfl
set_option maxRecDepth 100000 in
theorem mf_X6_distanceTo : MF yX6_distanceTo cX6_distanceTo 3 (some .int) 2 := ⟨tb_at 754 (by decide +kernel) rfl, tb_at 108 (by decide +kernel) rfl, by decide +kernel, by decide +kernel, by decide +kernel⟩
set_option maxRecDepth 100000 in
theorem mv_X6_distanceTo : Cond.instanceMethod yX6_distanceTo ∈ tb ∧ Cond.selects (Cn 6) yX6_distanceTo yX6_distanceTo ∈ tb ∧ 6 < 10 := ⟨tb_at 752 (by decide +kernel) rfl, tb_at 753 (by decide +kernel) rfl, by decide⟩
set_option maxRecDepth 100000 in
theorem fl_X5_40 : FL RX5 40 5 13 := ⟨by decide, by decide, tb_at 295 (by decide +kernel) rfl⟩
set_option maxRecDepth 100000 in
theorem ml_X5_93 : Cond.methodLink RX5 93 yX3_isOwn ∈ tb := tb_at 767 (by decide +kernel) rfl
set_option maxRecDepth 100000 in
theorem mf_X3_isOwn : MF yX3_isOwn cX3_isOwn 2 (some .boolean) 1 := ⟨tb_at 770 (by decide +kernel) rfl, tb_at 115 (by decide +kernel) rfl, by decide +kernel, by decide +kernel, by decide +kernel⟩
set_option maxRecDepth 100000 in
theorem mv_X3_isOwn : Cond.instanceMethod yX3_isOwn ∈ tb ∧ Cond.selects (Cn 3) yX3_isOwn yX3_isOwn ∈ tb ∧ 3 < 10 := ⟨tb_at 768 (by decide +kernel) rfl, tb_at 769 (by decide +kernel) rfl, by decide⟩
set_option maxRecDepth 100000 in
theorem ml_X5_115 : Cond.methodLink RX5 115 yX3_isShared ∈ tb := tb_at 776 (by decide +kernel) rfl
set_option maxRecDepth 100000 in
theorem mf_X3_isShared : MF yX3_isShared cX3_isShared 3 (some .boolean) 2 := ⟨tb_at 779 (by decide +kernel) rfl, tb_at 115 (by decide +kernel) rfl, by decide +kernel, by decide +kernel, by decide +kernel⟩
set_option maxRecDepth 100000 in
theorem mv_X3_isShared : Cond.instanceMethod yX3_isShared ∈ tb ∧ Cond.selects (Cn 3) yX3_isShared yX3_isShared ∈ tb ∧ 3 < 10 := ⟨tb_at 777 (by decide +kernel) rfl, tb_at 778 (by decide +kernel) rfl, by decide⟩
set_option maxRecDepth 100000 in
theorem fl_X5_43 : FL RX5 43 5 14 := ⟨by decide, by decide, tb_at 296 (by decide +kernel) rfl⟩
set_option maxRecDepth 100000 in
theorem fl_X5_46 : FL RX5 46 5 15 := ⟨by decide, by decide, tb_at 297 (by decide +kernel) rfl⟩
set_option maxRecDepth 100000 in
theorem fl_X5_25 : FL RX5 25 5 8 := ⟨by decide, by decide, tb_at 290 (by decide +kernel) rfl⟩
set_option maxRecDepth 100000 in
theorem fl_X5_34 : FL RX5 34 5 11 := ⟨by decide, by decide, tb_at 293 (by decide +kernel) rfl⟩
set_option maxRecDepth 100000 in
theorem ml_X5_111 : Cond.methodLink RX5 111 yX3_isLost ∈ tb := tb_at 755 (by decide +kernel) rfl
set_option maxRecDepth 100000 in
theorem mf_X3_isLost : MF yX3_isLost cX3_isLost 5 (some .boolean) 3 := ⟨tb_at 758 (by decide +kernel) rfl, tb_at 115 (by decide +kernel) rfl, by decide +kernel, by decide +kernel, by decide +kernel⟩
set_option maxRecDepth 100000 in
theorem mv_X3_isLost : Cond.instanceMethod yX3_isLost ∈ tb ∧ Cond.selects (Cn 3) yX3_isLost yX3_isLost ∈ tb ∧ 3 < 10 := ⟨tb_at 756 (by decide +kernel) rfl, tb_at 757 (by decide +kernel) rfl, by decide⟩
set_option maxRecDepth 100000 in
theorem ml_X5_99 : Cond.methodLink RX5 99 yX3_isJoined ∈ tb := tb_at 766 (by decide +kernel) rfl
set_option maxRecDepth 100000 in
theorem fl_X5_37 : FL RX5 37 5 12 := ⟨by decide, by decide, tb_at 294 (by decide +kernel) rfl⟩
set_option maxRecDepth 100000 in
theorem ml_X5_108 : Cond.methodLink RX5 108 yX5_ownClaim ∈ tb := tb_at 743 (by decide +kernel) rfl
set_option maxRecDepth 100000 in
theorem mf_X5_ownClaim : MF yX5_ownClaim cX5_ownClaim 3 (some .int) 1 := ⟨tb_at 746 (by decide +kernel) rfl, tb_at 111 (by decide +kernel) rfl, by decide +kernel, by decide +kernel, by decide +kernel⟩
set_option maxRecDepth 100000 in
theorem mv_X5_ownClaim : Cond.instanceMethod yX5_ownClaim ∈ tb ∧ Cond.selects (Cn 5) yX5_ownClaim yX5_ownClaim ∈ tb ∧ 5 < 10 := ⟨tb_at 745 (by decide +kernel) rfl, tb_at 13 (by decide +kernel) rfl, by decide⟩
set_option maxRecDepth 100000 in
theorem fl_X5_142 : FL RX5 142 3 4 := ⟨by decide, by decide, tb_at 440 (by decide +kernel) rfl⟩
set_option maxRecDepth 100000 in
theorem ml_X5_133 : Cond.methodLink RX5 133 yX6_routerTo ∈ tb := tb_at 797 (by decide +kernel) rfl
set_option maxRecDepth 100000 in
theorem mf_X6_routerTo : MF yX6_routerTo cX6_routerTo 3 (some .int) 2 := ⟨tb_at 800 (by decide +kernel) rfl, tb_at 108 (by decide +kernel) rfl, by decide +kernel, by decide +kernel, by decide +kernel⟩
set_option maxRecDepth 100000 in
theorem mv_X6_routerTo : Cond.instanceMethod yX6_routerTo ∈ tb ∧ Cond.selects (Cn 6) yX6_routerTo yX6_routerTo ∈ tb ∧ 6 < 10 := ⟨tb_at 798 (by decide +kernel) rfl, tb_at 799 (by decide +kernel) rfl, by decide⟩
set_option maxRecDepth 100000 in
theorem ml_X5_139 : Cond.methodLink RX5 139 yX3_keptClaim ∈ tb := tb_at 801 (by decide +kernel) rfl
set_option maxRecDepth 100000 in
theorem ml_X5_203 : Cond.methodLink RX5 203 yX5_isDirect ∈ tb := tb_at 731 (by decide +kernel) rfl
set_option maxRecDepth 100000 in
theorem mf_X5_isDirect : MF yX5_isDirect cX5_isDirect 2 (some .boolean) 1 := ⟨tb_at 734 (by decide +kernel) rfl, tb_at 111 (by decide +kernel) rfl, by decide +kernel, by decide +kernel, by decide +kernel⟩
set_option maxRecDepth 100000 in
theorem mv_X5_isDirect : Cond.instanceMethod yX5_isDirect ∈ tb ∧ Cond.selects (Cn 5) yX5_isDirect yX5_isDirect ∈ tb ∧ 5 < 10 := ⟨tb_at 733 (by decide +kernel) rfl, tb_at 11 (by decide +kernel) rfl, by decide⟩
set_option maxRecDepth 100000 in
theorem ml_X5_256 : Cond.methodLink RX5 256 yX5_portToMeeting ∈ tb := tb_at 788 (by decide +kernel) rfl
set_option maxRecDepth 100000 in
theorem mf_X5_portToMeeting : MF yX5_portToMeeting cX5_portToMeeting 1 (some .int) 0 := ⟨tb_at 791 (by decide +kernel) rfl, tb_at 111 (by decide +kernel) rfl, by decide +kernel, by decide +kernel, by decide +kernel⟩
set_option maxRecDepth 100000 in
theorem mv_X5_portToMeeting : Cond.instanceMethod yX5_portToMeeting ∈ tb ∧ Cond.selects (Cn 5) yX5_portToMeeting yX5_portToMeeting ∈ tb ∧ 5 < 10 := ⟨tb_at 790 (by decide +kernel) rfl, tb_at 16 (by decide +kernel) rfl, by decide⟩
set_option maxRecDepth 100000 in
theorem ml_X5_148 : Cond.methodLink RX5 148 yX5_up ∈ tb := tb_at 793 (by decide +kernel) rfl
set_option maxRecDepth 100000 in
theorem mf_X5_up : MF yX5_up cX5_up 6 (some .int) 1 := ⟨tb_at 796 (by decide +kernel) rfl, tb_at 111 (by decide +kernel) rfl, by decide +kernel, by decide +kernel, by decide +kernel⟩
set_option maxRecDepth 100000 in
theorem mv_X5_up : Cond.instanceMethod yX5_up ∈ tb ∧ Cond.selects (Cn 5) yX5_up yX5_up ∈ tb ∧ 5 < 10 := ⟨tb_at 795 (by decide +kernel) rfl, tb_at 17 (by decide +kernel) rfl, by decide⟩
set_option maxRecDepth 100000 in
theorem fl_X5_246 : FL RX5 246 0 5 := ⟨by decide, by decide, tb_at 403 (by decide +kernel) rfl⟩
set_option maxRecDepth 100000 in
theorem ml_X5_262 : Cond.methodLink RX5 262 yX5_isBranch ∈ tb := tb_at 810 (by decide +kernel) rfl
set_option maxRecDepth 100000 in
theorem mf_X5_isBranch : MF yX5_isBranch cX5_isBranch 3 (some .boolean) 2 := ⟨tb_at 813 (by decide +kernel) rfl, tb_at 111 (by decide +kernel) rfl, by decide +kernel, by decide +kernel, by decide +kernel⟩
set_option maxRecDepth 100000 in
theorem mv_X5_isBranch : Cond.instanceMethod yX5_isBranch ∈ tb ∧ Cond.selects (Cn 5) yX5_isBranch yX5_isBranch ∈ tb ∧ 5 < 10 := ⟨tb_at 812 (by decide +kernel) rfl, tb_at 20 (by decide +kernel) rfl, by decide⟩
set_option maxRecDepth 100000 in
theorem ml_X5_265 : Cond.methodLink RX5 265 yX5_sendClaim ∈ tb := tb_at 814 (by decide +kernel) rfl
set_option maxRecDepth 100000 in
theorem mf_X5_sendClaim : MF yX5_sendClaim cX5_sendClaim 4 none 2 := ⟨tb_at 817 (by decide +kernel) rfl, tb_at 111 (by decide +kernel) rfl, by decide +kernel, by decide +kernel, by decide +kernel⟩
set_option maxRecDepth 100000 in
theorem mv_X5_sendClaim : Cond.instanceMethod yX5_sendClaim ∈ tb ∧ Cond.selects (Cn 5) yX5_sendClaim yX5_sendClaim ∈ tb ∧ 5 < 10 := ⟨tb_at 816 (by decide +kernel) rfl, tb_at 21 (by decide +kernel) rfl, by decide⟩
set_option maxRecDepth 100000 in
theorem ml_X5_259 : Cond.methodLink RX5 259 yX5_hasOwnPort ∈ tb := tb_at 806 (by decide +kernel) rfl
set_option maxRecDepth 100000 in
theorem mf_X5_hasOwnPort : MF yX5_hasOwnPort cX5_hasOwnPort 2 (some .boolean) 0 := ⟨tb_at 809 (by decide +kernel) rfl, tb_at 111 (by decide +kernel) rfl, by decide +kernel, by decide +kernel, by decide +kernel⟩
set_option maxRecDepth 100000 in
theorem mv_X5_hasOwnPort : Cond.instanceMethod yX5_hasOwnPort ∈ tb ∧ Cond.selects (Cn 5) yX5_hasOwnPort yX5_hasOwnPort ∈ tb ∧ 5 < 10 := ⟨tb_at 808 (by decide +kernel) rfl, tb_at 19 (by decide +kernel) rfl, by decide⟩
set_option maxRecDepth 100000 in
theorem fl_X5_249 : FL RX5 249 0 7 := ⟨by decide, by decide, tb_at 408 (by decide +kernel) rfl⟩
set_option maxRecDepth 100000 in
theorem ml_X5_154 : Cond.methodLink RX5 154 yX5_portToSource ∈ tb := tb_at 718 (by decide +kernel) rfl
set_option maxRecDepth 100000 in
theorem mf_X5_portToSource : MF yX5_portToSource cX5_portToSource 2 (some .int) 1 := ⟨tb_at 721 (by decide +kernel) rfl, tb_at 111 (by decide +kernel) rfl, by decide +kernel, by decide +kernel, by decide +kernel⟩
set_option maxRecDepth 100000 in
theorem mv_X5_portToSource : Cond.instanceMethod yX5_portToSource ∈ tb ∧ Cond.selects (Cn 5) yX5_portToSource yX5_portToSource ∈ tb ∧ 5 < 10 := ⟨tb_at 720 (by decide +kernel) rfl, tb_at 10 (by decide +kernel) rfl, by decide⟩
set_option maxRecDepth 100000 in
theorem ml_X5_200 : Cond.methodLink RX5 200 yX3_isFirst ∈ tb := tb_at 826 (by decide +kernel) rfl
set_option maxRecDepth 100000 in
theorem ml_X5_121 : Cond.methodLink RX5 121 yX5_isMeeting ∈ tb := tb_at 827 (by decide +kernel) rfl
set_option maxRecDepth 100000 in
theorem mf_X5_isMeeting : MF yX5_isMeeting cX5_isMeeting 1 (some .boolean) 0 := ⟨tb_at 830 (by decide +kernel) rfl, tb_at 111 (by decide +kernel) rfl, by decide +kernel, by decide +kernel, by decide +kernel⟩
set_option maxRecDepth 100000 in
theorem mv_X5_isMeeting : Cond.instanceMethod yX5_isMeeting ∈ tb ∧ Cond.selects (Cn 5) yX5_isMeeting yX5_isMeeting ∈ tb ∧ 5 < 10 := ⟨tb_at 829 (by decide +kernel) rfl, tb_at 24 (by decide +kernel) rfl, by decide⟩
set_option maxRecDepth 100000 in
theorem ml_X5_274 : Cond.methodLink RX5 274 yX5_openTo ∈ tb := tb_at 835 (by decide +kernel) rfl
set_option maxRecDepth 100000 in
theorem mf_X5_openTo : MF yX5_openTo cX5_openTo 7 (some (.object "GroveWorks$Frame")) 3 := ⟨tb_at 838 (by decide +kernel) rfl, tb_at 111 (by decide +kernel) rfl, by decide +kernel, by decide +kernel, by decide +kernel⟩
set_option maxRecDepth 100000 in
theorem mv_X5_openTo : Cond.instanceMethod yX5_openTo ∈ tb ∧ Cond.selects (Cn 5) yX5_openTo yX5_openTo ∈ tb ∧ 5 < 10 := ⟨tb_at 837 (by decide +kernel) rfl, tb_at 26 (by decide +kernel) rfl, by decide⟩
set_option maxRecDepth 100000 in
theorem fl_X5_278 : FL RX5 278 2 5 := ⟨by decide, by decide, tb_at 252 (by decide +kernel) rfl⟩
set_option maxRecDepth 100000 in
theorem ml_X5_129 : Cond.methodLink RX5 129 yX5_look ∈ tb := tb_at 739 (by decide +kernel) rfl
set_option maxRecDepth 100000 in
theorem mf_X5_look : MF yX5_look cX5_look 5 none 1 := ⟨tb_at 742 (by decide +kernel) rfl, tb_at 111 (by decide +kernel) rfl, by decide +kernel, by decide +kernel, by decide +kernel⟩
set_option maxRecDepth 100000 in
theorem mv_X5_look : Cond.instanceMethod yX5_look ∈ tb ∧ Cond.selects (Cn 5) yX5_look yX5_look ∈ tb ∧ 5 < 10 := ⟨tb_at 741 (by decide +kernel) rfl, tb_at 12 (by decide +kernel) rfl, by decide⟩
set_option maxRecDepth 100000 in
theorem ml_X5_242 : Cond.methodLink RX5 242 yX5_findOut ∈ tb := tb_at 802 (by decide +kernel) rfl
set_option maxRecDepth 100000 in
theorem mf_X5_findOut : MF yX5_findOut cX5_findOut 4 (some .int) 3 := ⟨tb_at 805 (by decide +kernel) rfl, tb_at 111 (by decide +kernel) rfl, by decide +kernel, by decide +kernel, by decide +kernel⟩
set_option maxRecDepth 100000 in
theorem mv_X5_findOut : Cond.instanceMethod yX5_findOut ∈ tb ∧ Cond.selects (Cn 5) yX5_findOut yX5_findOut ∈ tb ∧ 5 < 10 := ⟨tb_at 804 (by decide +kernel) rfl, tb_at 18 (by decide +kernel) rfl, by decide⟩
set_option maxRecDepth 100000 in
theorem ml_X5_252 : Cond.methodLink RX5 252 yX5_sendData ∈ tb := tb_at 818 (by decide +kernel) rfl
set_option maxRecDepth 100000 in
theorem mf_X5_sendData : MF yX5_sendData cX5_sendData 7 none 4 := ⟨tb_at 821 (by decide +kernel) rfl, tb_at 111 (by decide +kernel) rfl, by decide +kernel, by decide +kernel, by decide +kernel⟩
set_option maxRecDepth 100000 in
theorem mv_X5_sendData : Cond.instanceMethod yX5_sendData ∈ tb ∧ Cond.selects (Cn 5) yX5_sendData yX5_sendData ∈ tb ∧ 5 < 10 := ⟨tb_at 820 (by decide +kernel) rfl, tb_at 22 (by decide +kernel) rfl, by decide⟩
set_option maxRecDepth 100000 in
theorem fl_X5_28 : FL RX5 28 5 9 := ⟨by decide, by decide, tb_at 291 (by decide +kernel) rfl⟩
set_option maxRecDepth 100000 in
theorem ml_X5_194 : Cond.methodLink RX5 194 yX5_mayTunnel ∈ tb := tb_at 822 (by decide +kernel) rfl
set_option maxRecDepth 100000 in
theorem mf_X5_mayTunnel : MF yX5_mayTunnel cX5_mayTunnel 3 (some .boolean) 1 := ⟨tb_at 825 (by decide +kernel) rfl, tb_at 111 (by decide +kernel) rfl, by decide +kernel, by decide +kernel, by decide +kernel⟩
set_option maxRecDepth 100000 in
theorem mv_X5_mayTunnel : Cond.instanceMethod yX5_mayTunnel ∈ tb ∧ Cond.selects (Cn 5) yX5_mayTunnel yX5_mayTunnel ∈ tb ∧ 5 < 10 := ⟨tb_at 824 (by decide +kernel) rfl, tb_at 23 (by decide +kernel) rfl, by decide⟩
set_option maxRecDepth 100000 in
theorem ml_X5_197 : Cond.methodLink RX5 197 yX5_startTunnel ∈ tb := tb_at 831 (by decide +kernel) rfl
set_option maxRecDepth 100000 in
theorem mf_X5_startTunnel : MF yX5_startTunnel cX5_startTunnel 5 none 3 := ⟨tb_at 834 (by decide +kernel) rfl, tb_at 111 (by decide +kernel) rfl, by decide +kernel, by decide +kernel, by decide +kernel⟩
set_option maxRecDepth 100000 in
theorem mv_X5_startTunnel : Cond.instanceMethod yX5_startTunnel ∈ tb ∧ Cond.selects (Cn 5) yX5_startTunnel yX5_startTunnel ∈ tb ∧ 5 < 10 := ⟨tb_at 833 (by decide +kernel) rfl, tb_at 25 (by decide +kernel) rfl, by decide⟩
set_option maxRecDepth 100000 in
theorem ml_X5_239 : Cond.methodLink RX5 239 yX5_goesStraight ∈ tb := tb_at 784 (by decide +kernel) rfl
set_option maxRecDepth 100000 in
theorem mf_X5_goesStraight : MF yX5_goesStraight cX5_goesStraight 4 (some .boolean) 2 := ⟨tb_at 787 (by decide +kernel) rfl, tb_at 111 (by decide +kernel) rfl, by decide +kernel, by decide +kernel, by decide +kernel⟩
set_option maxRecDepth 100000 in
theorem mv_X5_goesStraight : Cond.instanceMethod yX5_goesStraight ∈ tb ∧ Cond.selects (Cn 5) yX5_goesStraight yX5_goesStraight ∈ tb ∧ 5 < 10 := ⟨tb_at 786 (by decide +kernel) rfl, tb_at 15 (by decide +kernel) rfl, by decide⟩
set_option maxRecDepth 100000 in
theorem ml_X5_268 : Cond.methodLink RX5 268 yX3_takeClaim ∈ tb := tb_at 843 (by decide +kernel) rfl
set_option maxRecDepth 100000 in
theorem mf_X3_takeClaim : MF yX3_takeClaim cX3_takeClaim 5 none 3 := ⟨tb_at 846 (by decide +kernel) rfl, tb_at 115 (by decide +kernel) rfl, by decide +kernel, by decide +kernel, by decide +kernel⟩
set_option maxRecDepth 100000 in
theorem mv_X3_takeClaim : Cond.instanceMethod yX3_takeClaim ∈ tb ∧ Cond.selects (Cn 3) yX3_takeClaim yX3_takeClaim ∈ tb ∧ 3 < 10 := ⟨tb_at 844 (by decide +kernel) rfl, tb_at 845 (by decide +kernel) rfl, by decide⟩
set_option maxRecDepth 100000 in
theorem ml_X5_285 : Cond.methodLink RX5 285 yX5_sendStop ∈ tb := tb_at 856 (by decide +kernel) rfl
set_option maxRecDepth 100000 in
theorem mf_X5_sendStop : MF yX5_sendStop cX5_sendStop 4 none 2 := ⟨tb_at 859 (by decide +kernel) rfl, tb_at 111 (by decide +kernel) rfl, by decide +kernel, by decide +kernel, by decide +kernel⟩
set_option maxRecDepth 100000 in
theorem mv_X5_sendStop : Cond.instanceMethod yX5_sendStop ∈ tb ∧ Cond.selects (Cn 5) yX5_sendStop yX5_sendStop ∈ tb ∧ 5 < 10 := ⟨tb_at 858 (by decide +kernel) rfl, tb_at 28 (by decide +kernel) rfl, by decide⟩
set_option maxRecDepth 100000 in
theorem ml_X5_281 : Cond.methodLink RX5 281 yX5_passOn ∈ tb := tb_at 852 (by decide +kernel) rfl
set_option maxRecDepth 100000 in
theorem mf_X5_passOn : MF yX5_passOn cX5_passOn 4 none 2 := ⟨tb_at 855 (by decide +kernel) rfl, tb_at 111 (by decide +kernel) rfl, by decide +kernel, by decide +kernel, by decide +kernel⟩
set_option maxRecDepth 100000 in
theorem mv_X5_passOn : Cond.instanceMethod yX5_passOn ∈ tb ∧ Cond.selects (Cn 5) yX5_passOn yX5_passOn ∈ tb ∧ 5 < 10 := ⟨tb_at 854 (by decide +kernel) rfl, tb_at 27 (by decide +kernel) rfl, by decide⟩
set_option maxRecDepth 100000 in
theorem ml_X4_80 : Cond.methodLink RX4 80 yX5_overhear ∈ tb := tb_at 700 (by decide +kernel) rfl
set_option maxRecDepth 100000 in
theorem mf_X5_overhear : MF yX5_overhear cX5_overhear 5 none 2 := ⟨tb_at 703 (by decide +kernel) rfl, tb_at 111 (by decide +kernel) rfl, by decide +kernel, by decide +kernel, by decide +kernel⟩
set_option maxRecDepth 100000 in
theorem mv_X5_overhear : Cond.instanceMethod yX5_overhear ∈ tb ∧ Cond.selects (Cn 5) yX5_overhear yX5_overhear ∈ tb ∧ 5 < 10 := ⟨tb_at 701 (by decide +kernel) rfl, tb_at 702 (by decide +kernel) rfl, by decide⟩
set_option maxRecDepth 100000 in
theorem ml_X4_76 : Cond.methodLink RX4 76 yX5_takeJoinOrPrune ∈ tb := tb_at 667 (by decide +kernel) rfl
set_option maxRecDepth 100000 in
theorem mf_X5_takeJoinOrPrune : MF yX5_takeJoinOrPrune cX5_takeJoinOrPrune 4 none 2 := ⟨tb_at 670 (by decide +kernel) rfl, tb_at 111 (by decide +kernel) rfl, by decide +kernel, by decide +kernel, by decide +kernel⟩
set_option maxRecDepth 100000 in
theorem mv_X5_takeJoinOrPrune : Cond.instanceMethod yX5_takeJoinOrPrune ∈ tb ∧ Cond.selects (Cn 5) yX5_takeJoinOrPrune yX5_takeJoinOrPrune ∈ tb ∧ 5 < 10 := ⟨tb_at 668 (by decide +kernel) rfl, tb_at 669 (by decide +kernel) rfl, by decide⟩
set_option maxRecDepth 100000 in
theorem fl_X4_45 : FL RX4 45 0 0 := ⟨by decide, by decide, tb_at 385 (by decide +kernel) rfl⟩
set_option maxRecDepth 100000 in
theorem ml_X4_69 : Cond.methodLink RX4 69 yX5_takeReport ∈ tb := tb_at 648 (by decide +kernel) rfl
set_option maxRecDepth 100000 in
theorem mf_X5_takeReport : MF yX5_takeReport cX5_takeReport 2 none 1 := ⟨tb_at 651 (by decide +kernel) rfl, tb_at 111 (by decide +kernel) rfl, by decide +kernel, by decide +kernel, by decide +kernel⟩
set_option maxRecDepth 100000 in
theorem mv_X5_takeReport : Cond.instanceMethod yX5_takeReport ∈ tb ∧ Cond.selects (Cn 5) yX5_takeReport yX5_takeReport ∈ tb ∧ 5 < 10 := ⟨tb_at 649 (by decide +kernel) rfl, tb_at 650 (by decide +kernel) rfl, by decide⟩
set_option maxRecDepth 100000 in
theorem ml_X4_73 : Cond.methodLink RX4 73 yX5_takeLeave ∈ tb := tb_at 653 (by decide +kernel) rfl
set_option maxRecDepth 100000 in
theorem mf_X5_takeLeave : MF yX5_takeLeave cX5_takeLeave 4 none 1 := ⟨tb_at 656 (by decide +kernel) rfl, tb_at 111 (by decide +kernel) rfl, by decide +kernel, by decide +kernel, by decide +kernel⟩
set_option maxRecDepth 100000 in
theorem mv_X5_takeLeave : Cond.instanceMethod yX5_takeLeave ∈ tb ∧ Cond.selects (Cn 5) yX5_takeLeave yX5_takeLeave ∈ tb ∧ 5 < 10 := ⟨tb_at 654 (by decide +kernel) rfl, tb_at 655 (by decide +kernel) rfl, by decide⟩
set_option maxRecDepth 100000 in
theorem ml_X4_84 : Cond.methodLink RX4 84 yX5_takeData ∈ tb := tb_at 714 (by decide +kernel) rfl
set_option maxRecDepth 100000 in
theorem mf_X5_takeData : MF yX5_takeData cX5_takeData 7 none 2 := ⟨tb_at 717 (by decide +kernel) rfl, tb_at 111 (by decide +kernel) rfl, by decide +kernel, by decide +kernel, by decide +kernel⟩
set_option maxRecDepth 100000 in
theorem mv_X5_takeData : Cond.instanceMethod yX5_takeData ∈ tb ∧ Cond.selects (Cn 5) yX5_takeData yX5_takeData ∈ tb ∧ 5 < 10 := ⟨tb_at 715 (by decide +kernel) rfl, tb_at 716 (by decide +kernel) rfl, by decide⟩
set_option maxRecDepth 100000 in
theorem ml_X4_87 : Cond.methodLink RX4 87 yX5_takeClaim ∈ tb := tb_at 839 (by decide +kernel) rfl
set_option maxRecDepth 100000 in
theorem mf_X5_takeClaim : MF yX5_takeClaim cX5_takeClaim 4 none 2 := ⟨tb_at 842 (by decide +kernel) rfl, tb_at 111 (by decide +kernel) rfl, by decide +kernel, by decide +kernel, by decide +kernel⟩
set_option maxRecDepth 100000 in
theorem mv_X5_takeClaim : Cond.instanceMethod yX5_takeClaim ∈ tb ∧ Cond.selects (Cn 5) yX5_takeClaim yX5_takeClaim ∈ tb ∧ 5 < 10 := ⟨tb_at 840 (by decide +kernel) rfl, tb_at 841 (by decide +kernel) rfl, by decide⟩
set_option maxRecDepth 100000 in
theorem ml_X4_90 : Cond.methodLink RX4 90 yX5_takeTunnel ∈ tb := tb_at 848 (by decide +kernel) rfl
set_option maxRecDepth 100000 in
theorem mf_X5_takeTunnel : MF yX5_takeTunnel cX5_takeTunnel 3 none 1 := ⟨tb_at 851 (by decide +kernel) rfl, tb_at 111 (by decide +kernel) rfl, by decide +kernel, by decide +kernel, by decide +kernel⟩
set_option maxRecDepth 100000 in
theorem mv_X5_takeTunnel : Cond.instanceMethod yX5_takeTunnel ∈ tb ∧ Cond.selects (Cn 5) yX5_takeTunnel yX5_takeTunnel ∈ tb ∧ 5 < 10 := ⟨tb_at 849 (by decide +kernel) rfl, tb_at 850 (by decide +kernel) rfl, by decide⟩
set_option maxRecDepth 100000 in
theorem ml_X4_94 : Cond.methodLink RX4 94 yX5_takeStop ∈ tb := tb_at 860 (by decide +kernel) rfl
set_option maxRecDepth 100000 in
theorem mf_X5_takeStop : MF yX5_takeStop cX5_takeStop 2 none 1 := ⟨tb_at 863 (by decide +kernel) rfl, tb_at 111 (by decide +kernel) rfl, by decide +kernel, by decide +kernel, by decide +kernel⟩
set_option maxRecDepth 100000 in
theorem mv_X5_takeStop : Cond.instanceMethod yX5_takeStop ∈ tb ∧ Cond.selects (Cn 5) yX5_takeStop yX5_takeStop ∈ tb ∧ 5 < 10 := ⟨tb_at 861 (by decide +kernel) rfl, tb_at 862 (by decide +kernel) rfl, by decide⟩
set_option maxRecDepth 100000 in
theorem fl_X4_56 : FL RX4 56 0 3 := ⟨by decide, by decide, tb_at 396 (by decide +kernel) rfl⟩
set_option maxRecDepth 100000 in
theorem fl_X4_66 : FL RX4 66 0 2 := ⟨by decide, by decide, tb_at 392 (by decide +kernel) rfl⟩
set_option maxRecDepth 100000 in
theorem fl_X4_59 : FL RX4 59 0 4 := ⟨by decide, by decide, tb_at 399 (by decide +kernel) rfl⟩
set_option maxRecDepth 100000 in
theorem mf_X8_isSource : MF yX8_isSource cX8_isSource 1 (some .boolean) 1 := ⟨tb_at 647 (by decide +kernel) rfl, tb_at 105 (by decide +kernel) rfl, by decide +kernel, by decide +kernel, by decide +kernel⟩
set_option maxRecDepth 100000 in
theorem ms_X8_isSource : Cond.static yX8_isSource ∈ tb := tb_at 646 (by decide +kernel) rfl
set_option maxRecDepth 100000 in
theorem fl_X4_50 : FL RX4 50 0 1 := ⟨by decide, by decide, tb_at 389 (by decide +kernel) rfl⟩
set_option maxRecDepth 100000 in
theorem ml_X4_53 : Cond.methodLink RX4 53 yX3_takeHello ∈ tb := tb_at 640 (by decide +kernel) rfl
set_option maxRecDepth 100000 in
theorem mf_X3_takeHello : MF yX3_takeHello cX3_takeHello 2 none 1 := ⟨tb_at 643 (by decide +kernel) rfl, tb_at 115 (by decide +kernel) rfl, by decide +kernel, by decide +kernel, by decide +kernel⟩
set_option maxRecDepth 100000 in
theorem mv_X3_takeHello : Cond.instanceMethod yX3_takeHello ∈ tb ∧ Cond.selects (Cn 3) yX3_takeHello yX3_takeHello ∈ tb ∧ 3 < 10 := ⟨tb_at 641 (by decide +kernel) rfl, tb_at 642 (by decide +kernel) rfl, by decide⟩
set_option maxRecDepth 100000 in
theorem fl_X4_131 : FL RX4 131 2 4 := ⟨by decide, by decide, tb_at 248 (by decide +kernel) rfl⟩
set_option maxRecDepth 100000 in
theorem fl_X4_128 : FL RX4 128 3 5 := ⟨by decide, by decide, tb_at 443 (by decide +kernel) rfl⟩
set_option maxRecDepth 100000 in
theorem fl_X4_118 : FL RX4 118 3 2 := ⟨by decide, by decide, tb_at 434 (by decide +kernel) rfl⟩
set_option maxRecDepth 100000 in
theorem ml_X4_136 : Cond.methodLink RX4 136 yX7_open ∈ tb := tb_at 878 (by decide +kernel) rfl
set_option maxRecDepth 100000 in
theorem fl_X4_122 : FL RX4 122 7 2 := ⟨by decide, by decide, tb_at 189 (by decide +kernel) rfl⟩
set_option maxRecDepth 100000 in
theorem fl_X4_144 : FL RX4 144 3 6 := ⟨by decide, by decide, tb_at 445 (by decide +kernel) rfl⟩
set_option maxRecDepth 100000 in
theorem ml_X4_140 : Cond.methodLink RX4 140 yX3_isAsking ∈ tb := tb_at 883 (by decide +kernel) rfl
set_option maxRecDepth 100000 in
theorem ml_X5_125 : Cond.methodLink RX5 125 yX5_base ∈ tb := tb_at 896 (by decide +kernel) rfl
set_option maxRecDepth 100000 in
theorem mf_X5_base : MF yX5_base cX5_base 3 (some .int) 0 := ⟨tb_at 899 (by decide +kernel) rfl, tb_at 111 (by decide +kernel) rfl, by decide +kernel, by decide +kernel, by decide +kernel⟩
set_option maxRecDepth 100000 in
theorem mv_X5_base : Cond.instanceMethod yX5_base ∈ tb ∧ Cond.selects (Cn 5) yX5_base yX5_base ∈ tb ∧ 5 < 10 := ⟨tb_at 898 (by decide +kernel) rfl, tb_at 32 (by decide +kernel) rfl, by decide⟩
set_option maxRecDepth 100000 in
theorem ml_X5_164 : Cond.methodLink RX5 164 yX5_toCutOff ∈ tb := tb_at 900 (by decide +kernel) rfl
set_option maxRecDepth 100000 in
theorem mf_X5_toCutOff : MF yX5_toCutOff cX5_toCutOff 4 (some .int) 1 := ⟨tb_at 903 (by decide +kernel) rfl, tb_at 111 (by decide +kernel) rfl, by decide +kernel, by decide +kernel, by decide +kernel⟩
set_option maxRecDepth 100000 in
theorem mv_X5_toCutOff : Cond.instanceMethod yX5_toCutOff ∈ tb ∧ Cond.selects (Cn 5) yX5_toCutOff yX5_toCutOff ∈ tb ∧ 5 < 10 := ⟨tb_at 902 (by decide +kernel) rfl, tb_at 33 (by decide +kernel) rfl, by decide⟩
set_option maxRecDepth 100000 in
theorem ml_X5_157 : Cond.methodLink RX5 157 yX5_wants ∈ tb := tb_at 892 (by decide +kernel) rfl
set_option maxRecDepth 100000 in
theorem mf_X5_wants : MF yX5_wants cX5_wants 2 (some .boolean) 1 := ⟨tb_at 895 (by decide +kernel) rfl, tb_at 111 (by decide +kernel) rfl, by decide +kernel, by decide +kernel, by decide +kernel⟩
set_option maxRecDepth 100000 in
theorem mv_X5_wants : Cond.instanceMethod yX5_wants ∈ tb ∧ Cond.selects (Cn 5) yX5_wants yX5_wants ∈ tb ∧ 5 < 10 := ⟨tb_at 894 (by decide +kernel) rfl, tb_at 31 (by decide +kernel) rfl, by decide⟩
set_option maxRecDepth 100000 in
theorem ml_X5_174 : Cond.methodLink RX5 174 yX3_holds ∈ tb := tb_at 912 (by decide +kernel) rfl
set_option maxRecDepth 100000 in
theorem mf_X3_holds : MF yX3_holds cX3_holds 4 (some .boolean) 2 := ⟨tb_at 915 (by decide +kernel) rfl, tb_at 115 (by decide +kernel) rfl, by decide +kernel, by decide +kernel, by decide +kernel⟩
set_option maxRecDepth 100000 in
theorem mv_X3_holds : Cond.instanceMethod yX3_holds ∈ tb ∧ Cond.selects (Cn 3) yX3_holds yX3_holds ∈ tb ∧ 3 < 10 := ⟨tb_at 913 (by decide +kernel) rfl, tb_at 914 (by decide +kernel) rfl, by decide⟩
set_option maxRecDepth 100000 in
theorem ml_X5_171 : Cond.methodLink RX5 171 yX5_holds ∈ tb := tb_at 908 (by decide +kernel) rfl
set_option maxRecDepth 100000 in
theorem mf_X5_holds : MF yX5_holds cX5_holds 3 (some .boolean) 1 := ⟨tb_at 911 (by decide +kernel) rfl, tb_at 111 (by decide +kernel) rfl, by decide +kernel, by decide +kernel, by decide +kernel⟩
set_option maxRecDepth 100000 in
theorem mv_X5_holds : Cond.instanceMethod yX5_holds ∈ tb ∧ Cond.selects (Cn 5) yX5_holds yX5_holds ∈ tb ∧ 5 < 10 := ⟨tb_at 910 (by decide +kernel) rfl, tb_at 34 (by decide +kernel) rfl, by decide⟩
set_option maxRecDepth 100000 in
theorem ml_X4_112 : Cond.methodLink RX4 112 yX5_dropKnown ∈ tb := tb_at 904 (by decide +kernel) rfl
set_option maxRecDepth 100000 in
theorem mf_X5_dropKnown : MF yX5_dropKnown cX5_dropKnown 2 none 0 := ⟨tb_at 907 (by decide +kernel) rfl, tb_at 111 (by decide +kernel) rfl, by decide +kernel, by decide +kernel, by decide +kernel⟩
set_option maxRecDepth 100000 in
theorem mv_X5_dropKnown : Cond.instanceMethod yX5_dropKnown ∈ tb ∧ Cond.selects (Cn 5) yX5_dropKnown yX5_dropKnown ∈ tb ∧ 5 < 10 := ⟨tb_at 905 (by decide +kernel) rfl, tb_at 906 (by decide +kernel) rfl, by decide⟩
set_option maxRecDepth 100000 in
theorem fl_X4_109 : FL RX4 109 5 4 := ⟨by decide, by decide, tb_at 286 (by decide +kernel) rfl⟩
set_option maxRecDepth 100000 in
theorem ml_X4_106 : Cond.methodLink RX4 106 yX5_renewJoin ∈ tb := tb_at 888 (by decide +kernel) rfl
set_option maxRecDepth 100000 in
theorem mf_X5_renewJoin : MF yX5_renewJoin cX5_renewJoin 5 none 1 := ⟨tb_at 891 (by decide +kernel) rfl, tb_at 111 (by decide +kernel) rfl, by decide +kernel, by decide +kernel, by decide +kernel⟩
set_option maxRecDepth 100000 in
theorem mv_X5_renewJoin : Cond.instanceMethod yX5_renewJoin ∈ tb ∧ Cond.selects (Cn 5) yX5_renewJoin yX5_renewJoin ∈ tb ∧ 5 < 10 := ⟨tb_at 889 (by decide +kernel) rfl, tb_at 890 (by decide +kernel) rfl, by decide⟩
set_option maxRecDepth 100000 in
theorem ml_X4_115 : Cond.methodLink RX4 115 yX5_probe ∈ tb := tb_at 916 (by decide +kernel) rfl
set_option maxRecDepth 100000 in
theorem mf_X5_probe : MF yX5_probe cX5_probe 3 none 0 := ⟨tb_at 919 (by decide +kernel) rfl, tb_at 111 (by decide +kernel) rfl, by decide +kernel, by decide +kernel, by decide +kernel⟩
set_option maxRecDepth 100000 in
theorem mv_X5_probe : Cond.instanceMethod yX5_probe ∈ tb ∧ Cond.selects (Cn 5) yX5_probe yX5_probe ∈ tb ∧ 5 < 10 := ⟨tb_at 917 (by decide +kernel) rfl, tb_at 918 (by decide +kernel) rfl, by decide⟩
set_option maxRecDepth 100000 in
theorem ml_X4_103 : Cond.methodLink RX4 103 yX5_checkStraight ∈ tb := tb_at 884 (by decide +kernel) rfl
set_option maxRecDepth 100000 in
theorem mf_X5_checkStraight : MF yX5_checkStraight cX5_checkStraight 2 none 0 := ⟨tb_at 887 (by decide +kernel) rfl, tb_at 111 (by decide +kernel) rfl, by decide +kernel, by decide +kernel, by decide +kernel⟩
set_option maxRecDepth 100000 in
theorem mv_X5_checkStraight : Cond.instanceMethod yX5_checkStraight ∈ tb ∧ Cond.selects (Cn 5) yX5_checkStraight yX5_checkStraight ∈ tb ∧ 5 < 10 := ⟨tb_at 885 (by decide +kernel) rfl, tb_at 886 (by decide +kernel) rfl, by decide⟩
set_option maxRecDepth 100000 in
theorem ml_X4_100 : Cond.methodLink RX4 100 yX4_askAll ∈ tb := tb_at 879 (by decide +kernel) rfl
set_option maxRecDepth 100000 in
theorem mf_X4_askAll : MF yX4_askAll cX4_askAll 2 none 1 := ⟨tb_at 882 (by decide +kernel) rfl, tb_at 112 (by decide +kernel) rfl, by decide +kernel, by decide +kernel, by decide +kernel⟩
set_option maxRecDepth 100000 in
theorem mv_X4_askAll : Cond.instanceMethod yX4_askAll ∈ tb ∧ Cond.selects (Cn 4) yX4_askAll yX4_askAll ∈ tb ∧ 4 < 10 := ⟨tb_at 881 (by decide +kernel) rfl, tb_at 30 (by decide +kernel) rfl, by decide⟩
set_option maxRecDepth 100000 in
theorem ml_X4_97 : Cond.methodLink RX4 97 yX4_sayHello ∈ tb := tb_at 874 (by decide +kernel) rfl
set_option maxRecDepth 100000 in
theorem mf_X4_sayHello : MF yX4_sayHello cX4_sayHello 2 none 1 := ⟨tb_at 877 (by decide +kernel) rfl, tb_at 112 (by decide +kernel) rfl, by decide +kernel, by decide +kernel, by decide +kernel⟩
set_option maxRecDepth 100000 in
theorem mv_X4_sayHello : Cond.instanceMethod yX4_sayHello ∈ tb ∧ Cond.selects (Cn 4) yX4_sayHello yX4_sayHello ∈ tb ∧ 4 < 10 := ⟨tb_at 876 (by decide +kernel) rfl, tb_at 29 (by decide +kernel) rfl, by decide⟩
set_option maxRecDepth 100000 in
theorem ml_X5_3 : Cond.methodLink RX5 3 objectInit ∈ tb := tb_at 279 (by decide +kernel) rfl
set_option maxRecDepth 100000 in
theorem ml_X5_64 : Cond.methodLink RX5 64 yJ7_fill_53178 ∈ tb := tb_at 280 (by decide +kernel) rfl
set_option maxRecDepth 100000 in
theorem ml_X5_288 : Cond.methodLink RX5 288 yX5_joinedRouter ∈ tb := tb_at 981 (by decide +kernel) rfl
set_option maxRecDepth 100000 in
theorem mf_X5_joinedRouter : MF yX5_joinedRouter cX5_joinedRouter 2 (some .int) 1 := ⟨tb_at 984 (by decide +kernel) rfl, tb_at 111 (by decide +kernel) rfl, by decide +kernel, by decide +kernel, by decide +kernel⟩
set_option maxRecDepth 100000 in
theorem mv_X5_joinedRouter : Cond.instanceMethod yX5_joinedRouter ∈ tb ∧ Cond.selects (Cn 5) yX5_joinedRouter yX5_joinedRouter ∈ tb ∧ 5 < 10 := ⟨tb_at 983 (by decide +kernel) rfl, tb_at 35 (by decide +kernel) rfl, by decide⟩
set_option maxRecDepth 100000 in
theorem ml_X5_291 : Cond.methodLink RX5 291 yX5_joinedPort ∈ tb := tb_at 985 (by decide +kernel) rfl
set_option maxRecDepth 100000 in
theorem mf_X5_joinedPort : MF yX5_joinedPort cX5_joinedPort 2 (some .int) 1 := ⟨tb_at 988 (by decide +kernel) rfl, tb_at 111 (by decide +kernel) rfl, by decide +kernel, by decide +kernel, by decide +kernel⟩
set_option maxRecDepth 100000 in
theorem mv_X5_joinedPort : Cond.instanceMethod yX5_joinedPort ∈ tb ∧ Cond.selects (Cn 5) yX5_joinedPort yX5_joinedPort ∈ tb ∧ 5 < 10 := ⟨tb_at 987 (by decide +kernel) rfl, tb_at 36 (by decide +kernel) rfl, by decide⟩
set_option maxRecDepth 100000 in
theorem fl_X6_59 : FL RX6 59 7 2 := ⟨by decide, by decide, tb_at 191 (by decide +kernel) rfl⟩
set_option maxRecDepth 100000 in
theorem fl_X6_64 : FL RX6 64 7 1 := ⟨by decide, by decide, tb_at 187 (by decide +kernel) rfl⟩
set_option maxRecDepth 100000 in
theorem ml_X6_67 : Cond.methodLink RX6 67 yJ9_min_7cf53 ∈ tb := tb_at 603 (by decide +kernel) rfl
set_option maxRecDepth 100000 in
theorem ml_X6_55 : Cond.methodLink RX6 55 yX6_choosePort ∈ tb := tb_at 612 (by decide +kernel) rfl
set_option maxRecDepth 100000 in
theorem mf_X6_choosePort : MF yX6_choosePort cX6_choosePort 9 none 3 := ⟨tb_at 615 (by decide +kernel) rfl, tb_at 108 (by decide +kernel) rfl, by decide +kernel, by decide +kernel, by decide +kernel⟩
set_option maxRecDepth 100000 in
theorem mv_X6_choosePort : Cond.instanceMethod yX6_choosePort ∈ tb ∧ Cond.selects (Cn 6) yX6_choosePort yX6_choosePort ∈ tb ∧ 6 < 10 := ⟨tb_at 614 (by decide +kernel) rfl, tb_at 5 (by decide +kernel) rfl, by decide⟩
set_option maxRecDepth 100000 in
theorem ml_X6_45 : Cond.methodLink RX6 45 yX6_measureSteps ∈ tb := tb_at 599 (by decide +kernel) rfl
set_option maxRecDepth 100000 in
theorem mf_X6_measureSteps : MF yX6_measureSteps cX6_measureSteps 7 none 1 := ⟨tb_at 602 (by decide +kernel) rfl, tb_at 108 (by decide +kernel) rfl, by decide +kernel, by decide +kernel, by decide +kernel⟩
set_option maxRecDepth 100000 in
theorem mv_X6_measureSteps : Cond.instanceMethod yX6_measureSteps ∈ tb ∧ Cond.selects (Cn 6) yX6_measureSteps yX6_measureSteps ∈ tb ∧ 6 < 10 := ⟨tb_at 601 (by decide +kernel) rfl, tb_at 2 (by decide +kernel) rfl, by decide⟩
set_option maxRecDepth 100000 in
theorem ml_X6_49 : Cond.methodLink RX6 49 yX6_measureRouters ∈ tb := tb_at 604 (by decide +kernel) rfl
set_option maxRecDepth 100000 in
theorem mf_X6_measureRouters : MF yX6_measureRouters cX6_measureRouters 7 none 0 := ⟨tb_at 607 (by decide +kernel) rfl, tb_at 108 (by decide +kernel) rfl, by decide +kernel, by decide +kernel, by decide +kernel⟩
set_option maxRecDepth 100000 in
theorem mv_X6_measureRouters : Cond.instanceMethod yX6_measureRouters ∈ tb ∧ Cond.selects (Cn 6) yX6_measureRouters yX6_measureRouters ∈ tb ∧ 6 < 10 := ⟨tb_at 606 (by decide +kernel) rfl, tb_at 3 (by decide +kernel) rfl, by decide⟩
set_option maxRecDepth 100000 in
theorem ml_X6_52 : Cond.methodLink RX6 52 yX6_measureWires ∈ tb := tb_at 608 (by decide +kernel) rfl
set_option maxRecDepth 100000 in
theorem mf_X6_measureWires : MF yX6_measureWires cX6_measureWires 6 none 1 := ⟨tb_at 611 (by decide +kernel) rfl, tb_at 108 (by decide +kernel) rfl, by decide +kernel, by decide +kernel, by decide +kernel⟩
set_option maxRecDepth 100000 in
theorem mv_X6_measureWires : Cond.instanceMethod yX6_measureWires ∈ tb ∧ Cond.selects (Cn 6) yX6_measureWires yX6_measureWires ∈ tb ∧ 6 < 10 := ⟨tb_at 610 (by decide +kernel) rfl, tb_at 4 (by decide +kernel) rfl, by decide⟩
set_option maxRecDepth 100000 in
theorem mf_X0_init : MF yX0_init cX0_init 1 none 0 := ⟨tb_at 382 (by decide +kernel) rfl, tb_at 114 (by decide +kernel) rfl, by decide +kernel, by decide +kernel, by decide +kernel⟩
set_option maxRecDepth 100000 in
theorem mi_X0_init : Cond.instanceMethod yX0_init ∈ tb ∧ (yX0_init).name = "<init>" := ⟨tb_at 381 (by decide +kernel) rfl, rfl⟩
set_option maxRecDepth 100000 in
theorem cl_X8_37 : Cond.classLink RX8 37 (Cn 4) ∈ tb := tb_at 266 (by decide +kernel) rfl
set_option maxRecDepth 100000 in
theorem ml_X8_54 : Cond.methodLink RX8 54 yX4_init ∈ tb := tb_at 332 (by decide +kernel) rfl
set_option maxRecDepth 100000 in
theorem mf_X4_init : MF yX4_init cX4_init 5 none 4 := ⟨tb_at 334 (by decide +kernel) rfl, tb_at 112 (by decide +kernel) rfl, by decide +kernel, by decide +kernel, by decide +kernel⟩
set_option maxRecDepth 100000 in
theorem mi_X4_init : Cond.instanceMethod yX4_init ∈ tb ∧ (yX4_init).name = "<init>" := ⟨tb_at 333 (by decide +kernel) rfl, rfl⟩
set_option maxRecDepth 100000 in
theorem cl_X8_49 : Cond.classLink RX8 49 (Cn 5) ∈ tb := tb_at 273 (by decide +kernel) rfl
set_option maxRecDepth 100000 in
theorem ml_X8_51 : Cond.methodLink RX8 51 yX5_init ∈ tb := tb_at 276 (by decide +kernel) rfl
set_option maxRecDepth 100000 in
theorem mf_X5_init : MF yX5_init cX5_init 5 none 4 := ⟨tb_at 278 (by decide +kernel) rfl, tb_at 111 (by decide +kernel) rfl, by decide +kernel, by decide +kernel, by decide +kernel⟩
set_option maxRecDepth 100000 in
theorem mi_X5_init : Cond.instanceMethod yX5_init ∈ tb ∧ (yX5_init).name = "<init>" := ⟨tb_at 277 (by decide +kernel) rfl, rfl⟩
set_option maxRecDepth 100000 in
theorem cl_X8_47 : Cond.classLink RX8 47 (Cn 3) ∈ tb := tb_at 271 (by decide +kernel) rfl
set_option maxRecDepth 100000 in
theorem fl_X8_39 : FL RX8 39 8 1 := ⟨by decide, by decide, tb_at 352 (by decide +kernel) rfl⟩
set_option maxRecDepth 100000 in
theorem fl_X8_33 : FL RX8 33 8 0 := ⟨by decide, by decide, tb_at 351 (by decide +kernel) rfl⟩
set_option maxRecDepth 100000 in
theorem ml_X8_43 : Cond.methodLink RX8 43 yX8_makeRouter ∈ tb := tb_at 268 (by decide +kernel) rfl
set_option maxRecDepth 100000 in
theorem mf_X8_makeRouter : MF yX8_makeRouter cX8_makeRouter 5 (some (.object "GroveWorks$Router")) 2 := ⟨tb_at 270 (by decide +kernel) rfl, tb_at 105 (by decide +kernel) rfl, by decide +kernel, by decide +kernel, by decide +kernel⟩
set_option maxRecDepth 100000 in
theorem ms_X8_makeRouter : Cond.static yX8_makeRouter ∈ tb := tb_at 269 (by decide +kernel) rfl
set_option maxRecDepth 100000 in
theorem ml_X8_3 : Cond.methodLink RX8 3 objectInit ∈ tb := tb_at 123 (by decide +kernel) rfl
set_option maxRecDepth 100000 in
theorem cl_X8_9 : Cond.classLink RX8 9 (Cn 1) ∈ tb := tb_at 126 (by decide +kernel) rfl
set_option maxRecDepth 100000 in
theorem fl_X8_11 : FL RX8 11 8 2 := ⟨by decide, by decide, tb_at 353 (by decide +kernel) rfl⟩
set_option maxRecDepth 100000 in
theorem fl_X8_15 : FL RX8 15 8 3 := ⟨by decide, by decide, tb_at 354 (by decide +kernel) rfl⟩
set_option maxRecDepth 100000 in
theorem ml_X8_19 : Cond.methodLink RX8 19 yJ9_min_7cf53 ∈ tb := tb_at 128 (by decide +kernel) rfl
set_option maxRecDepth 100000 in
theorem ml_X8_25 : Cond.methodLink RX8 25 yJ9_max_7cf53 ∈ tb := tb_at 131 (by decide +kernel) rfl
set_option maxRecDepth 100000 in
theorem cl_X8_28 : Cond.classLink RX8 28 (Cn 2) ∈ tb := tb_at 134 (by decide +kernel) rfl
set_option maxRecDepth 100000 in
theorem ml_X8_30 : Cond.methodLink RX8 30 yX2_init ∈ tb := tb_at 136 (by decide +kernel) rfl
set_option maxRecDepth 100000 in
theorem mf_X2_init : MF yX2_init cX2_init 3 none 1 := ⟨tb_at 138 (by decide +kernel) rfl, tb_at 107 (by decide +kernel) rfl, by decide +kernel, by decide +kernel, by decide +kernel⟩
set_option maxRecDepth 100000 in
theorem mi_X2_init : Cond.instanceMethod yX2_init ∈ tb ∧ (yX2_init).name = "<init>" := ⟨tb_at 137 (by decide +kernel) rfl, rfl⟩
set_option maxRecDepth 100000 in
theorem ml_X8_57 : Cond.methodLink RX8 57 yX8_isPort ∈ tb := tb_at 368 (by decide +kernel) rfl
set_option maxRecDepth 100000 in
theorem mf_X8_isPort : MF yX8_isPort cX8_isPort 3 (some .boolean) 2 := ⟨tb_at 371 (by decide +kernel) rfl, tb_at 105 (by decide +kernel) rfl, by decide +kernel, by decide +kernel, by decide +kernel⟩
set_option maxRecDepth 100000 in
theorem mv_X8_isPort : Cond.instanceMethod yX8_isPort ∈ tb ∧ Cond.selects (Cn 8) yX8_isPort yX8_isPort ∈ tb ∧ 8 < 10 := ⟨tb_at 370 (by decide +kernel) rfl, tb_at 0 (by decide +kernel) rfl, by decide⟩
set_option maxRecDepth 100000 in
theorem fl_X8_64 : FL RX8 64 2 4 := ⟨by decide, by decide, tb_at 247 (by decide +kernel) rfl⟩
set_option maxRecDepth 100000 in
theorem fl_X8_67 : FL RX8 67 2 0 := ⟨by decide, by decide, tb_at 236 (by decide +kernel) rfl⟩
set_option maxRecDepth 100000 in
theorem fl_X8_71 : FL RX8 71 4 2 := ⟨by decide, by decide, tb_at 339 (by decide +kernel) rfl⟩
set_option maxRecDepth 100000 in
theorem fl_X8_75 : FL RX8 75 7 1 := ⟨by decide, by decide, tb_at 186 (by decide +kernel) rfl⟩
set_option maxRecDepth 100000 in
theorem ml_X8_81 : Cond.methodLink RX8 81 yX7_makeFrames ∈ tb := tb_at 375 (by decide +kernel) rfl
set_option maxRecDepth 100000 in
theorem mf_X7_makeFrames : MF yX7_makeFrames cX7_makeFrames 2 none 0 := ⟨tb_at 378 (by decide +kernel) rfl, tb_at 110 (by decide +kernel) rfl, by decide +kernel, by decide +kernel, by decide +kernel⟩
set_option maxRecDepth 100000 in
theorem mv_X7_makeFrames : Cond.instanceMethod yX7_makeFrames ∈ tb ∧ Cond.selects (Cn 7) yX7_makeFrames yX7_makeFrames ∈ tb ∧ 7 < 10 := ⟨tb_at 376 (by decide +kernel) rfl, tb_at 377 (by decide +kernel) rfl, by decide⟩
set_option maxRecDepth 100000 in
theorem ml_X8_84 : Cond.methodLink RX8 84 yX3_init ∈ tb := tb_at 427 (by decide +kernel) rfl
set_option maxRecDepth 100000 in
theorem mf_X3_init : MF yX3_init cX3_init 5 none 4 := ⟨tb_at 429 (by decide +kernel) rfl, tb_at 115 (by decide +kernel) rfl, by decide +kernel, by decide +kernel, by decide +kernel⟩
set_option maxRecDepth 100000 in
theorem mi_X3_init : Cond.instanceMethod yX3_init ∈ tb ∧ (yX3_init).name = "<init>" := ⟨tb_at 428 (by decide +kernel) rfl, rfl⟩
set_option maxRecDepth 100000 in
theorem fl_X8_87 : FL RX8 87 2 1 := ⟨by decide, by decide, tb_at 238 (by decide +kernel) rfl⟩
set_option maxRecDepth 100000 in
theorem ml_X8_91 : Cond.methodLink RX8 91 yX6_put ∈ tb := tb_at 481 (by decide +kernel) rfl
set_option maxRecDepth 100000 in
theorem mf_X6_put : MF yX6_put cX6_put 5 none 4 := ⟨tb_at 484 (by decide +kernel) rfl, tb_at 108 (by decide +kernel) rfl, by decide +kernel, by decide +kernel, by decide +kernel⟩
set_option maxRecDepth 100000 in
theorem mv_X6_put : Cond.instanceMethod yX6_put ∈ tb ∧ Cond.selects (Cn 6) yX6_put yX6_put ∈ tb ∧ 6 < 10 := ⟨tb_at 482 (by decide +kernel) rfl, tb_at 483 (by decide +kernel) rfl, by decide⟩
set_option maxRecDepth 100000 in
theorem ml_X8_97 : Cond.methodLink RX8 97 yX1_init ∈ tb := tb_at 490 (by decide +kernel) rfl
set_option maxRecDepth 100000 in
theorem mf_X1_init : MF yX1_init cX1_init 3 none 2 := ⟨tb_at 492 (by decide +kernel) rfl, tb_at 116 (by decide +kernel) rfl, by decide +kernel, by decide +kernel, by decide +kernel⟩
set_option maxRecDepth 100000 in
theorem mi_X1_init : Cond.instanceMethod yX1_init ∈ tb ∧ (yX1_init).name = "<init>" := ⟨tb_at 491 (by decide +kernel) rfl, rfl⟩
set_option maxRecDepth 100000 in
theorem fl_X8_100 : FL RX8 100 2 3 := ⟨by decide, by decide, tb_at 244 (by decide +kernel) rfl⟩
set_option maxRecDepth 100000 in
theorem fl_X8_103 : FL RX8 103 2 2 := ⟨by decide, by decide, tb_at 242 (by decide +kernel) rfl⟩
set_option maxRecDepth 100000 in
theorem ml_X8_116 : Cond.methodLink RX8 116 yX4_forgetPort ∈ tb := tb_at 521 (by decide +kernel) rfl
set_option maxRecDepth 100000 in
theorem mf_X4_forgetPort : MF yX4_forgetPort cX4_forgetPort 3 none 1 := ⟨tb_at 524 (by decide +kernel) rfl, tb_at 112 (by decide +kernel) rfl, by decide +kernel, by decide +kernel, by decide +kernel⟩
set_option maxRecDepth 100000 in
theorem mv_X4_forgetPort : Cond.instanceMethod yX4_forgetPort ∈ tb ∧ Cond.selects (Cn 4) yX4_forgetPort yX4_forgetPort ∈ tb ∧ 4 < 10 := ⟨tb_at 522 (by decide +kernel) rfl, tb_at 523 (by decide +kernel) rfl, by decide⟩
set_option maxRecDepth 100000 in
theorem fl_X8_106 : FL RX8 106 7 2 := ⟨by decide, by decide, tb_at 190 (by decide +kernel) rfl⟩
set_option maxRecDepth 100000 in
theorem fl_X8_110 : FL RX8 110 7 6 := ⟨by decide, by decide, tb_at 199 (by decide +kernel) rfl⟩
set_option maxRecDepth 100000 in
theorem fl_X8_113 : FL RX8 113 6 6 := ⟨by decide, by decide, tb_at 158 (by decide +kernel) rfl⟩
set_option maxRecDepth 100000 in
theorem ml_X8_119 : Cond.methodLink RX8 119 yX1_hasJoined ∈ tb := tb_at 547 (by decide +kernel) rfl
set_option maxRecDepth 100000 in
theorem fl_X8_123 : FL RX8 123 1 3 := ⟨by decide, by decide, tb_at 500 (by decide +kernel) rfl⟩
set_option maxRecDepth 100000 in
theorem ml_X8_126 : Cond.methodLink RX8 126 yX1_say ∈ tb := tb_at 554 (by decide +kernel) rfl
set_option maxRecDepth 100000 in
theorem fl_X8_130 : FL RX8 130 1 1 := ⟨by decide, by decide, tb_at 496 (by decide +kernel) rfl⟩
set_option maxRecDepth 100000 in
theorem ml_X8_134 : Cond.methodLink RX8 134 yX1_sendData ∈ tb := tb_at 574 (by decide +kernel) rfl
set_option maxRecDepth 100000 in
theorem mf_X1_sendData : MF yX1_sendData cX1_sendData 4 none 2 := ⟨tb_at 577 (by decide +kernel) rfl, tb_at 116 (by decide +kernel) rfl, by decide +kernel, by decide +kernel, by decide +kernel⟩
set_option maxRecDepth 100000 in
theorem mv_X1_sendData : Cond.instanceMethod yX1_sendData ∈ tb ∧ Cond.selects (Cn 1) yX1_sendData yX1_sendData ∈ tb ∧ 1 < 10 := ⟨tb_at 575 (by decide +kernel) rfl, tb_at 576 (by decide +kernel) rfl, by decide⟩
set_option maxRecDepth 100000 in
theorem ml_X8_137 : Cond.methodLink RX8 137 yX7_drop ∈ tb := tb_at 586 (by decide +kernel) rfl
set_option maxRecDepth 100000 in
theorem mf_X7_drop : MF yX7_drop cX7_drop 4 (some .boolean) 1 := ⟨tb_at 589 (by decide +kernel) rfl, tb_at 110 (by decide +kernel) rfl, by decide +kernel, by decide +kernel, by decide +kernel⟩
set_option maxRecDepth 100000 in
theorem mv_X7_drop : Cond.instanceMethod yX7_drop ∈ tb ∧ Cond.selects (Cn 7) yX7_drop yX7_drop ∈ tb ∧ 7 < 10 := ⟨tb_at 587 (by decide +kernel) rfl, tb_at 588 (by decide +kernel) rfl, by decide⟩
set_option maxRecDepth 100000 in
theorem ml_X8_160 : Cond.methodLink RX8 160 yX4_dropNeighbours ∈ tb := tb_at 624 (by decide +kernel) rfl
set_option maxRecDepth 100000 in
theorem mf_X4_dropNeighbours : MF yX4_dropNeighbours cX4_dropNeighbours 2 none 0 := ⟨tb_at 627 (by decide +kernel) rfl, tb_at 112 (by decide +kernel) rfl, by decide +kernel, by decide +kernel, by decide +kernel⟩
set_option maxRecDepth 100000 in
theorem mv_X4_dropNeighbours : Cond.instanceMethod yX4_dropNeighbours ∈ tb ∧ Cond.selects (Cn 4) yX4_dropNeighbours yX4_dropNeighbours ∈ tb ∧ 4 < 10 := ⟨tb_at 625 (by decide +kernel) rfl, tb_at 626 (by decide +kernel) rfl, by decide⟩
set_option maxRecDepth 100000 in
theorem ml_X8_157 : Cond.methodLink RX8 157 yX7_turnOver ∈ tb := tb_at 620 (by decide +kernel) rfl
set_option maxRecDepth 100000 in
theorem mf_X7_turnOver : MF yX7_turnOver cX7_turnOver 2 none 0 := ⟨tb_at 623 (by decide +kernel) rfl, tb_at 110 (by decide +kernel) rfl, by decide +kernel, by decide +kernel, by decide +kernel⟩
set_option maxRecDepth 100000 in
theorem mv_X7_turnOver : Cond.instanceMethod yX7_turnOver ∈ tb ∧ Cond.selects (Cn 7) yX7_turnOver yX7_turnOver ∈ tb ∧ 7 < 10 := ⟨tb_at 621 (by decide +kernel) rfl, tb_at 622 (by decide +kernel) rfl, by decide⟩
set_option maxRecDepth 100000 in
theorem fl_X8_179 : FL RX8 179 7 0 := ⟨by decide, by decide, tb_at 184 (by decide +kernel) rfl⟩
set_option maxRecDepth 100000 in
theorem fl_X8_170 : FL RX8 170 0 1 := ⟨by decide, by decide, tb_at 390 (by decide +kernel) rfl⟩
set_option maxRecDepth 100000 in
theorem ml_X8_182 : Cond.methodLink RX8 182 yX1_hear ∈ tb := tb_at 864 (by decide +kernel) rfl
set_option maxRecDepth 100000 in
theorem mf_X1_hear : MF yX1_hear cX1_hear 2 none 1 := ⟨tb_at 867 (by decide +kernel) rfl, tb_at 116 (by decide +kernel) rfl, by decide +kernel, by decide +kernel, by decide +kernel⟩
set_option maxRecDepth 100000 in
theorem mv_X1_hear : Cond.instanceMethod yX1_hear ∈ tb ∧ Cond.selects (Cn 1) yX1_hear yX1_hear ∈ tb ∧ 1 < 10 := ⟨tb_at 865 (by decide +kernel) rfl, tb_at 866 (by decide +kernel) rfl, by decide⟩
set_option maxRecDepth 100000 in
theorem ml_X8_175 : Cond.methodLink RX8 175 yX4_hear ∈ tb := tb_at 636 (by decide +kernel) rfl
set_option maxRecDepth 100000 in
theorem mf_X4_hear : MF yX4_hear cX4_hear 5 none 2 := ⟨tb_at 639 (by decide +kernel) rfl, tb_at 112 (by decide +kernel) rfl, by decide +kernel, by decide +kernel, by decide +kernel⟩
set_option maxRecDepth 100000 in
theorem mv_X4_hear : Cond.instanceMethod yX4_hear ∈ tb ∧ Cond.selects (Cn 4) yX4_hear yX4_hear ∈ tb ∧ 4 < 10 := ⟨tb_at 637 (by decide +kernel) rfl, tb_at 638 (by decide +kernel) rfl, by decide⟩
set_option maxRecDepth 100000 in
theorem fl_X8_163 : FL RX8 163 7 5 := ⟨by decide, by decide, tb_at 197 (by decide +kernel) rfl⟩
set_option maxRecDepth 100000 in
theorem fl_X8_166 : FL RX8 166 7 3 := ⟨by decide, by decide, tb_at 193 (by decide +kernel) rfl⟩
set_option maxRecDepth 100000 in
theorem ml_X8_154 : Cond.methodLink RX8 154 yX1_answerQueries ∈ tb := tb_at 920 (by decide +kernel) rfl
set_option maxRecDepth 100000 in
theorem mf_X1_answerQueries : MF yX1_answerQueries cX1_answerQueries 3 none 0 := ⟨tb_at 923 (by decide +kernel) rfl, tb_at 116 (by decide +kernel) rfl, by decide +kernel, by decide +kernel, by decide +kernel⟩
set_option maxRecDepth 100000 in
theorem mv_X1_answerQueries : Cond.instanceMethod yX1_answerQueries ∈ tb ∧ Cond.selects (Cn 1) yX1_answerQueries yX1_answerQueries ∈ tb ∧ 1 < 10 := ⟨tb_at 921 (by decide +kernel) rfl, tb_at 922 (by decide +kernel) rfl, by decide⟩
set_option maxRecDepth 100000 in
theorem ml_X8_151 : Cond.methodLink RX8 151 yX4_doTimers ∈ tb := tb_at 870 (by decide +kernel) rfl
set_option maxRecDepth 100000 in
theorem mf_X4_doTimers : MF yX4_doTimers cX4_doTimers 3 none 0 := ⟨tb_at 873 (by decide +kernel) rfl, tb_at 112 (by decide +kernel) rfl, by decide +kernel, by decide +kernel, by decide +kernel⟩
set_option maxRecDepth 100000 in
theorem mv_X4_doTimers : Cond.instanceMethod yX4_doTimers ∈ tb ∧ Cond.selects (Cn 4) yX4_doTimers yX4_doTimers ∈ tb ∧ 4 < 10 := ⟨tb_at 871 (by decide +kernel) rfl, tb_at 872 (by decide +kernel) rfl, by decide⟩
set_option maxRecDepth 100000 in
theorem ml_X8_147 : Cond.methodLink RX8 147 yX8_deliver ∈ tb := tb_at 632 (by decide +kernel) rfl
set_option maxRecDepth 100000 in
theorem mf_X8_deliver : MF yX8_deliver cX8_deliver 5 none 1 := ⟨tb_at 635 (by decide +kernel) rfl, tb_at 105 (by decide +kernel) rfl, by decide +kernel, by decide +kernel, by decide +kernel⟩
set_option maxRecDepth 100000 in
theorem mv_X8_deliver : Cond.instanceMethod yX8_deliver ∈ tb ∧ Cond.selects (Cn 8) yX8_deliver yX8_deliver ∈ tb ∧ 8 < 10 := ⟨tb_at 634 (by decide +kernel) rfl, tb_at 7 (by decide +kernel) rfl, by decide⟩
set_option maxRecDepth 100000 in
theorem ml_X8_144 : Cond.methodLink RX8 144 yX8_beginTick ∈ tb := tb_at 616 (by decide +kernel) rfl
set_option maxRecDepth 100000 in
theorem mf_X8_beginTick : MF yX8_beginTick cX8_beginTick 2 none 0 := ⟨tb_at 619 (by decide +kernel) rfl, tb_at 105 (by decide +kernel) rfl, by decide +kernel, by decide +kernel, by decide +kernel⟩
set_option maxRecDepth 100000 in
theorem mv_X8_beginTick : Cond.instanceMethod yX8_beginTick ∈ tb ∧ Cond.selects (Cn 8) yX8_beginTick yX8_beginTick ∈ tb ∧ 8 < 10 := ⟨tb_at 618 (by decide +kernel) rfl, tb_at 6 (by decide +kernel) rfl, by decide⟩
set_option maxRecDepth 100000 in
theorem ml_X8_140 : Cond.methodLink RX8 140 yX6_refresh ∈ tb := tb_at 595 (by decide +kernel) rfl
set_option maxRecDepth 100000 in
theorem mf_X6_refresh : MF yX6_refresh cX6_refresh 4 none 1 := ⟨tb_at 598 (by decide +kernel) rfl, tb_at 108 (by decide +kernel) rfl, by decide +kernel, by decide +kernel, by decide +kernel⟩
set_option maxRecDepth 100000 in
theorem mv_X6_refresh : Cond.instanceMethod yX6_refresh ∈ tb ∧ Cond.selects (Cn 6) yX6_refresh yX6_refresh ∈ tb ∧ 6 < 10 := ⟨tb_at 596 (by decide +kernel) rfl, tb_at 597 (by decide +kernel) rfl, by decide⟩
set_option maxRecDepth 100000 in
theorem fl_X8_185 : FL RX8 185 1 2 := ⟨by decide, by decide, tb_at 498 (by decide +kernel) rfl⟩
set_option maxRecDepth 100000 in
theorem fl_X8_188 : FL RX8 188 7 4 := ⟨by decide, by decide, tb_at 195 (by decide +kernel) rfl⟩
set_option maxRecDepth 100000 in
theorem ml_X8_191 : Cond.methodLink RX8 191 yX0_tell ∈ tb := tb_at 933 (by decide +kernel) rfl
set_option maxRecDepth 100000 in
theorem mf_X0_tell : MF yX0_tell cX0_tell 2 (some .int) 1 := ⟨tb_at 936 (by decide +kernel) rfl, tb_at 114 (by decide +kernel) rfl, by decide +kernel, by decide +kernel, by decide +kernel⟩
set_option maxRecDepth 100000 in
theorem mv_X0_tell : Cond.instanceMethod yX0_tell ∈ tb ∧ Cond.selects (Cn 0) yX0_tell yX0_tell ∈ tb ∧ 0 < 10 := ⟨tb_at 934 (by decide +kernel) rfl, tb_at 935 (by decide +kernel) rfl, by decide⟩
set_option maxRecDepth 100000 in
theorem ml_X8_195 : Cond.methodLink RX8 195 yX6_distanceTo ∈ tb := tb_at 941 (by decide +kernel) rfl
set_option maxRecDepth 100000 in
theorem ml_X8_198 : Cond.methodLink RX8 198 yX6_portTo ∈ tb := tb_at 942 (by decide +kernel) rfl
set_option maxRecDepth 100000 in
theorem ml_X8_201 : Cond.methodLink RX8 201 yX6_routerTo ∈ tb := tb_at 943 (by decide +kernel) rfl
set_option maxRecDepth 100000 in
theorem fl_X8_204 : FL RX8 204 3 2 := ⟨by decide, by decide, tb_at 435 (by decide +kernel) rfl⟩
set_option maxRecDepth 100000 in
theorem fl_X8_205 : FL RX8 205 3 3 := ⟨by decide, by decide, tb_at 438 (by decide +kernel) rfl⟩
set_option maxRecDepth 100000 in
theorem fl_X8_208 : FL RX8 208 3 4 := ⟨by decide, by decide, tb_at 441 (by decide +kernel) rfl⟩
set_option maxRecDepth 100000 in
theorem ml_X8_211 : Cond.methodLink RX8 211 yX3_isFirst ∈ tb := tb_at 948 (by decide +kernel) rfl
set_option maxRecDepth 100000 in
theorem ml_X8_215 : Cond.methodLink RX8 215 yX3_isAsking ∈ tb := tb_at 949 (by decide +kernel) rfl
set_option maxRecDepth 100000 in
theorem ml_X8_218 : Cond.methodLink RX8 218 yX3_hasMembers ∈ tb := tb_at 954 (by decide +kernel) rfl
set_option maxRecDepth 100000 in
theorem fl_X8_221 : FL RX8 221 3 8 := ⟨by decide, by decide, tb_at 448 (by decide +kernel) rfl⟩
set_option maxRecDepth 100000 in
theorem ml_X8_224 : Cond.methodLink RX8 224 yX8_isSource ∈ tb := tb_at 959 (by decide +kernel) rfl
set_option maxRecDepth 100000 in
theorem ml_X8_230 : Cond.methodLink RX8 230 yX3_isCutOff ∈ tb := tb_at 964 (by decide +kernel) rfl
set_option maxRecDepth 100000 in
theorem fl_X8_233 : FL RX8 233 4 3 := ⟨by decide, by decide, tb_at 341 (by decide +kernel) rfl⟩
set_option maxRecDepth 100000 in
theorem ml_X8_237 : Cond.methodLink RX8 237 yX5_isLost ∈ tb := tb_at 965 (by decide +kernel) rfl
set_option maxRecDepth 100000 in
theorem mf_X5_isLost : MF yX5_isLost cX5_isLost 3 (some .boolean) 2 := ⟨tb_at 968 (by decide +kernel) rfl, tb_at 111 (by decide +kernel) rfl, by decide +kernel, by decide +kernel, by decide +kernel⟩
set_option maxRecDepth 100000 in
theorem mv_X5_isLost : Cond.instanceMethod yX5_isLost ∈ tb ∧ Cond.selects (Cn 5) yX5_isLost yX5_isLost ∈ tb ∧ 5 < 10 := ⟨tb_at 966 (by decide +kernel) rfl, tb_at 967 (by decide +kernel) rfl, by decide⟩
set_option maxRecDepth 100000 in
theorem ml_X8_240 : Cond.methodLink RX8 240 yX3_claimant ∈ tb := tb_at 969 (by decide +kernel) rfl
set_option maxRecDepth 100000 in
theorem mf_X3_claimant : MF yX3_claimant cX3_claimant 4 (some .int) 2 := ⟨tb_at 972 (by decide +kernel) rfl, tb_at 115 (by decide +kernel) rfl, by decide +kernel, by decide +kernel, by decide +kernel⟩
set_option maxRecDepth 100000 in
theorem mv_X3_claimant : Cond.instanceMethod yX3_claimant ∈ tb ∧ Cond.selects (Cn 3) yX3_claimant yX3_claimant ∈ tb ∧ 3 < 10 := ⟨tb_at 970 (by decide +kernel) rfl, tb_at 971 (by decide +kernel) rfl, by decide⟩
set_option maxRecDepth 100000 in
theorem ml_X8_227 : Cond.methodLink RX8 227 yX3_whenJoinEnds ∈ tb := tb_at 960 (by decide +kernel) rfl
set_option maxRecDepth 100000 in
theorem mf_X3_whenJoinEnds : MF yX3_whenJoinEnds cX3_whenJoinEnds 3 (some .int) 2 := ⟨tb_at 963 (by decide +kernel) rfl, tb_at 115 (by decide +kernel) rfl, by decide +kernel, by decide +kernel, by decide +kernel⟩
set_option maxRecDepth 100000 in
theorem mv_X3_whenJoinEnds : Cond.instanceMethod yX3_whenJoinEnds ∈ tb ∧ Cond.selects (Cn 3) yX3_whenJoinEnds yX3_whenJoinEnds ∈ tb ∧ 3 < 10 := ⟨tb_at 961 (by decide +kernel) rfl, tb_at 962 (by decide +kernel) rfl, by decide⟩
set_option maxRecDepth 100000 in
theorem ml_X8_246 : Cond.methodLink RX8 246 yX5_tellSource ∈ tb := tb_at 989 (by decide +kernel) rfl
set_option maxRecDepth 100000 in
theorem mf_X5_tellSource : MF yX5_tellSource cX5_tellSource 3 (some .int) 2 := ⟨tb_at 992 (by decide +kernel) rfl, tb_at 111 (by decide +kernel) rfl, by decide +kernel, by decide +kernel, by decide +kernel⟩
set_option maxRecDepth 100000 in
theorem mv_X5_tellSource : Cond.instanceMethod yX5_tellSource ∈ tb ∧ Cond.selects (Cn 5) yX5_tellSource yX5_tellSource ∈ tb ∧ 5 < 10 := ⟨tb_at 990 (by decide +kernel) rfl, tb_at 991 (by decide +kernel) rfl, by decide⟩
set_option maxRecDepth 100000 in
theorem ml_X8_243 : Cond.methodLink RX8 243 yX5_tellStar ∈ tb := tb_at 977 (by decide +kernel) rfl
set_option maxRecDepth 100000 in
theorem mf_X5_tellStar : MF yX5_tellStar cX5_tellStar 2 (some .int) 1 := ⟨tb_at 980 (by decide +kernel) rfl, tb_at 111 (by decide +kernel) rfl, by decide +kernel, by decide +kernel, by decide +kernel⟩
set_option maxRecDepth 100000 in
theorem mv_X5_tellStar : Cond.instanceMethod yX5_tellStar ∈ tb ∧ Cond.selects (Cn 5) yX5_tellStar yX5_tellStar ∈ tb ∧ 5 < 10 := ⟨tb_at 978 (by decide +kernel) rfl, tb_at 979 (by decide +kernel) rfl, by decide⟩
set_option maxRecDepth 100000 in
theorem fl_X8_255 : FL RX8 255 7 8 := ⟨by decide, by decide, tb_at 202 (by decide +kernel) rfl⟩
set_option maxRecDepth 100000 in
theorem fl_X8_258 : FL RX8 258 7 9 := ⟨by decide, by decide, tb_at 204 (by decide +kernel) rfl⟩
set_option maxRecDepth 100000 in
theorem fl_X8_261 : FL RX8 261 7 10 := ⟨by decide, by decide, tb_at 206 (by decide +kernel) rfl⟩
set_option maxRecDepth 100000 in
theorem fl_X8_264 : FL RX8 264 7 11 := ⟨by decide, by decide, tb_at 208 (by decide +kernel) rfl⟩
set_option maxRecDepth 100000 in
theorem ml_X8_252 : Cond.methodLink RX8 252 yX8_countOnWires ∈ tb := tb_at 997 (by decide +kernel) rfl
set_option maxRecDepth 100000 in
theorem mf_X8_countOnWires : MF yX8_countOnWires cX8_countOnWires 5 (some .int) 1 := ⟨tb_at 1000 (by decide +kernel) rfl, tb_at 105 (by decide +kernel) rfl, by decide +kernel, by decide +kernel, by decide +kernel⟩
set_option maxRecDepth 100000 in
theorem mv_X8_countOnWires : Cond.instanceMethod yX8_countOnWires ∈ tb ∧ Cond.selects (Cn 8) yX8_countOnWires yX8_countOnWires ∈ tb ∧ 8 < 10 := ⟨tb_at 999 (by decide +kernel) rfl, tb_at 37 (by decide +kernel) rfl, by decide⟩
set_option maxRecDepth 100000 in
theorem fl_X8_249 : FL RX8 249 2 5 := ⟨by decide, by decide, tb_at 251 (by decide +kernel) rfl⟩
set_option maxRecDepth 100000 in
theorem fl_X9_105 : FL RX9 105 9 39 := ⟨by decide, by decide, tb_at 1049 (by decide +kernel) rfl⟩
set_option maxRecDepth 100000 in
theorem fl_X9_87 : FL RX9 87 9 33 := ⟨by decide, by decide, tb_at 1043 (by decide +kernel) rfl⟩
set_option maxRecDepth 100000 in
theorem fl_X9_90 : FL RX9 90 9 34 := ⟨by decide, by decide, tb_at 1044 (by decide +kernel) rfl⟩
set_option maxRecDepth 100000 in
theorem fl_X9_78 : FL RX9 78 9 30 := ⟨by decide, by decide, tb_at 1040 (by decide +kernel) rfl⟩
set_option maxRecDepth 100000 in
theorem fl_X9_81 : FL RX9 81 9 31 := ⟨by decide, by decide, tb_at 1041 (by decide +kernel) rfl⟩
set_option maxRecDepth 100000 in
theorem fl_X9_20 : FL RX9 20 9 11 := ⟨by decide, by decide, tb_at 1021 (by decide +kernel) rfl⟩
set_option maxRecDepth 100000 in
theorem fl_X9_7 : FL RX9 7 9 8 := ⟨by decide, by decide, tb_at 1018 (by decide +kernel) rfl⟩
set_option maxRecDepth 100000 in
theorem fl_X9_66 : FL RX9 66 9 26 := ⟨by decide, by decide, tb_at 1036 (by decide +kernel) rfl⟩
set_option maxRecDepth 100000 in
theorem fl_X9_69 : FL RX9 69 9 27 := ⟨by decide, by decide, tb_at 1037 (by decide +kernel) rfl⟩
set_option maxRecDepth 100000 in
theorem ml_X9_1 : Cond.methodLink RX9 1 objectInit ∈ tb := tb_at 1009 (by decide +kernel) rfl
set_option maxRecDepth 100000 in
theorem fl_X9_13 : FL RX9 13 9 9 := ⟨by decide, by decide, tb_at 1019 (by decide +kernel) rfl⟩
set_option maxRecDepth 100000 in
theorem fl_X9_16 : FL RX9 16 9 10 := ⟨by decide, by decide, tb_at 1020 (by decide +kernel) rfl⟩
set_option maxRecDepth 100000 in
theorem fl_X9_23 : FL RX9 23 9 12 := ⟨by decide, by decide, tb_at 1022 (by decide +kernel) rfl⟩
set_option maxRecDepth 100000 in
theorem fl_X9_26 : FL RX9 26 9 13 := ⟨by decide, by decide, tb_at 1023 (by decide +kernel) rfl⟩
set_option maxRecDepth 100000 in
theorem fl_X9_29 : FL RX9 29 9 14 := ⟨by decide, by decide, tb_at 1024 (by decide +kernel) rfl⟩
set_option maxRecDepth 100000 in
theorem fl_X9_32 : FL RX9 32 9 15 := ⟨by decide, by decide, tb_at 1025 (by decide +kernel) rfl⟩
set_option maxRecDepth 100000 in
theorem fl_X9_35 : FL RX9 35 9 16 := ⟨by decide, by decide, tb_at 1026 (by decide +kernel) rfl⟩
set_option maxRecDepth 100000 in
theorem fl_X9_38 : FL RX9 38 9 17 := ⟨by decide, by decide, tb_at 1027 (by decide +kernel) rfl⟩
set_option maxRecDepth 100000 in
theorem fl_X9_41 : FL RX9 41 9 18 := ⟨by decide, by decide, tb_at 1028 (by decide +kernel) rfl⟩
set_option maxRecDepth 100000 in
theorem fl_X9_44 : FL RX9 44 9 19 := ⟨by decide, by decide, tb_at 1029 (by decide +kernel) rfl⟩
set_option maxRecDepth 100000 in
theorem fl_X9_47 : FL RX9 47 9 20 := ⟨by decide, by decide, tb_at 1030 (by decide +kernel) rfl⟩
set_option maxRecDepth 100000 in
theorem fl_X9_50 : FL RX9 50 9 21 := ⟨by decide, by decide, tb_at 1031 (by decide +kernel) rfl⟩
set_option maxRecDepth 100000 in
theorem fl_X9_54 : FL RX9 54 9 22 := ⟨by decide, by decide, tb_at 1032 (by decide +kernel) rfl⟩
set_option maxRecDepth 100000 in
theorem fl_X9_57 : FL RX9 57 9 23 := ⟨by decide, by decide, tb_at 1033 (by decide +kernel) rfl⟩
set_option maxRecDepth 100000 in
theorem fl_X9_60 : FL RX9 60 9 24 := ⟨by decide, by decide, tb_at 1034 (by decide +kernel) rfl⟩
set_option maxRecDepth 100000 in
theorem fl_X9_63 : FL RX9 63 9 25 := ⟨by decide, by decide, tb_at 1035 (by decide +kernel) rfl⟩
set_option maxRecDepth 100000 in
theorem fl_X9_72 : FL RX9 72 9 28 := ⟨by decide, by decide, tb_at 1038 (by decide +kernel) rfl⟩
set_option maxRecDepth 100000 in
theorem fl_X9_75 : FL RX9 75 9 29 := ⟨by decide, by decide, tb_at 1039 (by decide +kernel) rfl⟩
set_option maxRecDepth 100000 in
theorem fl_X9_84 : FL RX9 84 9 32 := ⟨by decide, by decide, tb_at 1042 (by decide +kernel) rfl⟩
set_option maxRecDepth 100000 in
theorem fl_X9_93 : FL RX9 93 9 35 := ⟨by decide, by decide, tb_at 1045 (by decide +kernel) rfl⟩
set_option maxRecDepth 100000 in
theorem fl_X9_96 : FL RX9 96 9 36 := ⟨by decide, by decide, tb_at 1046 (by decide +kernel) rfl⟩
set_option maxRecDepth 100000 in
theorem fl_X9_99 : FL RX9 99 9 37 := ⟨by decide, by decide, tb_at 1047 (by decide +kernel) rfl⟩
set_option maxRecDepth 100000 in
theorem fl_X9_102 : FL RX9 102 9 38 := ⟨by decide, by decide, tb_at 1048 (by decide +kernel) rfl⟩
set_option maxRecDepth 100000 in
theorem fl_X9_108 : FL RX9 108 9 1 := ⟨by decide, by decide, tb_at 1011 (by decide +kernel) rfl⟩
set_option maxRecDepth 100000 in
theorem ml_X9_112 : Cond.methodLink RX9 112 yX9_isRouter ∈ tb := tb_at 1136 (by decide +kernel) rfl
set_option maxRecDepth 100000 in
theorem mf_X9_isRouter : MF yX9_isRouter cX9_isRouter 2 (some .boolean) 1 := ⟨tb_at 1139 (by decide +kernel) rfl, tb_at 113 (by decide +kernel) rfl, by decide +kernel, by decide +kernel, by decide +kernel⟩
set_option maxRecDepth 100000 in
theorem mv_X9_isRouter : Cond.instanceMethod yX9_isRouter ∈ tb ∧ Cond.selects (Cn 9) yX9_isRouter yX9_isRouter ∈ tb ∧ 9 < 10 := ⟨tb_at 1138 (by decide +kernel) rfl, tb_at 38 (by decide +kernel) rfl, by decide⟩
set_option maxRecDepth 100000 in
theorem ml_X9_116 : Cond.methodLink RX9 116 yX9_isPort ∈ tb := tb_at 1140 (by decide +kernel) rfl
set_option maxRecDepth 100000 in
theorem mf_X9_isPort : MF yX9_isPort cX9_isPort 1 (some .boolean) 1 := ⟨tb_at 1142 (by decide +kernel) rfl, tb_at 113 (by decide +kernel) rfl, by decide +kernel, by decide +kernel, by decide +kernel⟩
set_option maxRecDepth 100000 in
theorem ms_X9_isPort : Cond.static yX9_isPort ∈ tb := tb_at 1141 (by decide +kernel) rfl
set_option maxRecDepth 100000 in
theorem ml_X9_119 : Cond.methodLink RX9 119 yX9_isWire ∈ tb := tb_at 1143 (by decide +kernel) rfl
set_option maxRecDepth 100000 in
theorem mf_X9_isWire : MF yX9_isWire cX9_isWire 1 (some .boolean) 1 := ⟨tb_at 1145 (by decide +kernel) rfl, tb_at 113 (by decide +kernel) rfl, by decide +kernel, by decide +kernel, by decide +kernel⟩
set_option maxRecDepth 100000 in
theorem ms_X9_isWire : Cond.static yX9_isWire ∈ tb := tb_at 1144 (by decide +kernel) rfl
set_option maxRecDepth 100000 in
theorem fl_X9_122 : FL RX9 122 9 0 := ⟨by decide, by decide, tb_at 1010 (by decide +kernel) rfl⟩
set_option maxRecDepth 100000 in
theorem ml_X9_125 : Cond.methodLink RX9 125 yX9_portOn ∈ tb := tb_at 1146 (by decide +kernel) rfl
set_option maxRecDepth 100000 in
theorem mf_X9_portOn : MF yX9_portOn cX9_portOn 4 (some .int) 2 := ⟨tb_at 1149 (by decide +kernel) rfl, tb_at 113 (by decide +kernel) rfl, by decide +kernel, by decide +kernel, by decide +kernel⟩
set_option maxRecDepth 100000 in
theorem mv_X9_portOn : Cond.instanceMethod yX9_portOn ∈ tb ∧ Cond.selects (Cn 9) yX9_portOn yX9_portOn ∈ tb ∧ 9 < 10 := ⟨tb_at 1148 (by decide +kernel) rfl, tb_at 39 (by decide +kernel) rfl, by decide⟩
set_option maxRecDepth 100000 in
theorem ml_X9_129 : Cond.methodLink RX9 129 yX9_isHost ∈ tb := tb_at 1154 (by decide +kernel) rfl
set_option maxRecDepth 100000 in
theorem mf_X9_isHost : MF yX9_isHost cX9_isHost 1 (some .boolean) 1 := ⟨tb_at 1156 (by decide +kernel) rfl, tb_at 113 (by decide +kernel) rfl, by decide +kernel, by decide +kernel, by decide +kernel⟩
set_option maxRecDepth 100000 in
theorem ms_X9_isHost : Cond.static yX9_isHost ∈ tb := tb_at 1155 (by decide +kernel) rfl
set_option maxRecDepth 100000 in
theorem ml_X9_132 : Cond.methodLink RX9 132 yX9_isGroup ∈ tb := tb_at 1161 (by decide +kernel) rfl
set_option maxRecDepth 100000 in
theorem mf_X9_isGroup : MF yX9_isGroup cX9_isGroup 1 (some .boolean) 1 := ⟨tb_at 1163 (by decide +kernel) rfl, tb_at 113 (by decide +kernel) rfl, by decide +kernel, by decide +kernel, by decide +kernel⟩
set_option maxRecDepth 100000 in
theorem ms_X9_isGroup : Cond.static yX9_isGroup ∈ tb := tb_at 1162 (by decide +kernel) rfl
set_option maxRecDepth 100000 in
theorem ml_X9_135 : Cond.methodLink RX9 135 yX9_forget ∈ tb := tb_at 1168 (by decide +kernel) rfl
set_option maxRecDepth 100000 in
theorem mf_X9_forget : MF yX9_forget cX9_forget 7 none 2 := ⟨tb_at 1171 (by decide +kernel) rfl, tb_at 113 (by decide +kernel) rfl, by decide +kernel, by decide +kernel, by decide +kernel⟩
set_option maxRecDepth 100000 in
theorem mv_X9_forget : Cond.instanceMethod yX9_forget ∈ tb ∧ Cond.selects (Cn 9) yX9_forget yX9_forget ∈ tb ∧ 9 < 10 := ⟨tb_at 1170 (by decide +kernel) rfl, tb_at 40 (by decide +kernel) rfl, by decide⟩
set_option maxRecDepth 100000 in
theorem ml_X9_150 : Cond.methodLink RX9 150 yX9_isUp ∈ tb := tb_at 1197 (by decide +kernel) rfl
set_option maxRecDepth 100000 in
theorem mf_X9_isUp : MF yX9_isUp cX9_isUp 4 (some .boolean) 2 := ⟨tb_at 1200 (by decide +kernel) rfl, tb_at 113 (by decide +kernel) rfl, by decide +kernel, by decide +kernel, by decide +kernel⟩
set_option maxRecDepth 100000 in
theorem mv_X9_isUp : Cond.instanceMethod yX9_isUp ∈ tb ∧ Cond.selects (Cn 9) yX9_isUp yX9_isUp ∈ tb ∧ 9 < 10 := ⟨tb_at 1199 (by decide +kernel) rfl, tb_at 45 (by decide +kernel) rfl, by decide⟩
set_option maxRecDepth 100000 in
theorem co_X9_143 : Cond.constant RX9 143 1000000 ∈ tb := tb_at 1188 (by decide +kernel) rfl
set_option maxRecDepth 100000 in
theorem ml_X9_153 : Cond.methodLink RX9 153 yX9_over ∈ tb := tb_at 1193 (by decide +kernel) rfl
set_option maxRecDepth 100000 in
theorem mf_X9_over : MF yX9_over cX9_over 5 (some .int) 4 := ⟨tb_at 1196 (by decide +kernel) rfl, tb_at 113 (by decide +kernel) rfl, by decide +kernel, by decide +kernel, by decide +kernel⟩
set_option maxRecDepth 100000 in
theorem mv_X9_over : Cond.instanceMethod yX9_over ∈ tb ∧ Cond.selects (Cn 9) yX9_over yX9_over ∈ tb ∧ 9 < 10 := ⟨tb_at 1195 (by decide +kernel) rfl, tb_at 44 (by decide +kernel) rfl, by decide⟩
set_option maxRecDepth 100000 in
theorem ml_X9_139 : Cond.methodLink RX9 139 yX9_isAt ∈ tb := tb_at 1184 (by decide +kernel) rfl
set_option maxRecDepth 100000 in
theorem mf_X9_isAt : MF yX9_isAt cX9_isAt 3 (some .boolean) 2 := ⟨tb_at 1187 (by decide +kernel) rfl, tb_at 113 (by decide +kernel) rfl, by decide +kernel, by decide +kernel, by decide +kernel⟩
set_option maxRecDepth 100000 in
theorem mv_X9_isAt : Cond.instanceMethod yX9_isAt ∈ tb ∧ Cond.selects (Cn 9) yX9_isAt yX9_isAt ∈ tb ∧ 9 < 10 := ⟨tb_at 1186 (by decide +kernel) rfl, tb_at 42 (by decide +kernel) rfl, by decide⟩
set_option maxRecDepth 100000 in
theorem ml_X9_144 : Cond.methodLink RX9 144 yX9_step ∈ tb := tb_at 1189 (by decide +kernel) rfl
set_option maxRecDepth 100000 in
theorem mf_X9_step : MF yX9_step cX9_step 6 none 2 := ⟨tb_at 1192 (by decide +kernel) rfl, tb_at 113 (by decide +kernel) rfl, by decide +kernel, by decide +kernel, by decide +kernel⟩
set_option maxRecDepth 100000 in
theorem mv_X9_step : Cond.instanceMethod yX9_step ∈ tb ∧ Cond.selects (Cn 9) yX9_step yX9_step ∈ tb ∧ 9 < 10 := ⟨tb_at 1191 (by decide +kernel) rfl, tb_at 43 (by decide +kernel) rfl, by decide⟩
set_option maxRecDepth 100000 in
theorem ml_X9_147 : Cond.methodLink RX9 147 yX9_settle ∈ tb := tb_at 1201 (by decide +kernel) rfl
set_option maxRecDepth 100000 in
theorem mf_X9_settle : MF yX9_settle cX9_settle 8 none 2 := ⟨tb_at 1204 (by decide +kernel) rfl, tb_at 113 (by decide +kernel) rfl, by decide +kernel, by decide +kernel, by decide +kernel⟩
set_option maxRecDepth 100000 in
theorem mv_X9_settle : Cond.instanceMethod yX9_settle ∈ tb ∧ Cond.selects (Cn 9) yX9_settle yX9_settle ∈ tb ∧ 9 < 10 := ⟨tb_at 1203 (by decide +kernel) rfl, tb_at 46 (by decide +kernel) rfl, by decide⟩
set_option maxRecDepth 100000 in
theorem ml_X9_157 : Cond.methodLink RX9 157 yX9_reckon ∈ tb := tb_at 1180 (by decide +kernel) rfl
set_option maxRecDepth 100000 in
theorem mf_X9_reckon : MF yX9_reckon cX9_reckon 4 none 0 := ⟨tb_at 1183 (by decide +kernel) rfl, tb_at 113 (by decide +kernel) rfl, by decide +kernel, by decide +kernel, by decide +kernel⟩
set_option maxRecDepth 100000 in
theorem mv_X9_reckon : Cond.instanceMethod yX9_reckon ∈ tb ∧ Cond.selects (Cn 9) yX9_reckon yX9_reckon ∈ tb ∧ 9 < 10 := ⟨tb_at 1182 (by decide +kernel) rfl, tb_at 41 (by decide +kernel) rfl, by decide⟩
set_option maxRecDepth 100000 in
theorem ml_X9_160 : Cond.methodLink RX9 160 yX9_toSource ∈ tb := tb_at 1305 (by decide +kernel) rfl
set_option maxRecDepth 100000 in
theorem mf_X9_toSource : MF yX9_toSource cX9_toSource 3 (some .int) 2 := ⟨tb_at 1308 (by decide +kernel) rfl, tb_at 113 (by decide +kernel) rfl, by decide +kernel, by decide +kernel, by decide +kernel⟩
set_option maxRecDepth 100000 in
theorem mv_X9_toSource : Cond.instanceMethod yX9_toSource ∈ tb ∧ Cond.selects (Cn 9) yX9_toSource yX9_toSource ∈ tb ∧ 9 < 10 := ⟨tb_at 1307 (by decide +kernel) rfl, tb_at 65 (by decide +kernel) rfl, by decide⟩
set_option maxRecDepth 100000 in
theorem fl_X9_166 : FL RX9 166 9 3 := ⟨by decide, by decide, tb_at 1013 (by decide +kernel) rfl⟩
set_option maxRecDepth 100000 in
theorem fl_X9_163 : FL RX9 163 9 4 := ⟨by decide, by decide, tb_at 1014 (by decide +kernel) rfl⟩
set_option maxRecDepth 100000 in
theorem ml_X9_169 : Cond.methodLink RX9 169 yX9_isNeighbour ∈ tb := tb_at 1269 (by decide +kernel) rfl
set_option maxRecDepth 100000 in
theorem mf_X9_isNeighbour : MF yX9_isNeighbour cX9_isNeighbour 4 (some .boolean) 3 := ⟨tb_at 1272 (by decide +kernel) rfl, tb_at 113 (by decide +kernel) rfl, by decide +kernel, by decide +kernel, by decide +kernel⟩
set_option maxRecDepth 100000 in
theorem mv_X9_isNeighbour : Cond.instanceMethod yX9_isNeighbour ∈ tb ∧ Cond.selects (Cn 9) yX9_isNeighbour yX9_isNeighbour ∈ tb ∧ 9 < 10 := ⟨tb_at 1271 (by decide +kernel) rfl, tb_at 56 (by decide +kernel) rfl, by decide⟩
set_option maxRecDepth 100000 in
theorem ml_X9_173 : Cond.methodLink RX9 173 yX9_neighbours ∈ tb := tb_at 1265 (by decide +kernel) rfl
set_option maxRecDepth 100000 in
theorem mf_X9_neighbours : MF yX9_neighbours cX9_neighbours 5 (some .int) 2 := ⟨tb_at 1268 (by decide +kernel) rfl, tb_at 113 (by decide +kernel) rfl, by decide +kernel, by decide +kernel, by decide +kernel⟩
set_option maxRecDepth 100000 in
theorem mv_X9_neighbours : Cond.instanceMethod yX9_neighbours ∈ tb ∧ Cond.selects (Cn 9) yX9_neighbours yX9_neighbours ∈ tb ∧ 9 < 10 := ⟨tb_at 1267 (by decide +kernel) rfl, tb_at 55 (by decide +kernel) rfl, by decide⟩
set_option maxRecDepth 100000 in
theorem ml_X9_176 : Cond.methodLink RX9 176 yX9_heardAt ∈ tb := tb_at 1285 (by decide +kernel) rfl
set_option maxRecDepth 100000 in
theorem mf_X9_heardAt : MF yX9_heardAt cX9_heardAt 5 (some .int) 4 := ⟨tb_at 1288 (by decide +kernel) rfl, tb_at 113 (by decide +kernel) rfl, by decide +kernel, by decide +kernel, by decide +kernel⟩
set_option maxRecDepth 100000 in
theorem mv_X9_heardAt : Cond.instanceMethod yX9_heardAt ∈ tb ∧ Cond.selects (Cn 9) yX9_heardAt yX9_heardAt ∈ tb ∧ 9 < 10 := ⟨tb_at 1287 (by decide +kernel) rfl, tb_at 60 (by decide +kernel) rfl, by decide⟩
set_option maxRecDepth 100000 in
theorem ml_X9_179 : Cond.methodLink RX9 179 yX9_joined ∈ tb := tb_at 1277 (by decide +kernel) rfl
set_option maxRecDepth 100000 in
theorem mf_X9_joined : MF yX9_joined cX9_joined 6 (some .int) 4 := ⟨tb_at 1280 (by decide +kernel) rfl, tb_at 113 (by decide +kernel) rfl, by decide +kernel, by decide +kernel, by decide +kernel⟩
set_option maxRecDepth 100000 in
theorem mv_X9_joined : Cond.instanceMethod yX9_joined ∈ tb ∧ Cond.selects (Cn 9) yX9_joined yX9_joined ∈ tb ∧ 9 < 10 := ⟨tb_at 1279 (by decide +kernel) rfl, tb_at 58 (by decide +kernel) rfl, by decide⟩
set_option maxRecDepth 100000 in
theorem ml_X9_182 : Cond.methodLink RX9 182 yX9_hasMembers ∈ tb := tb_at 1257 (by decide +kernel) rfl
set_option maxRecDepth 100000 in
theorem mf_X9_hasMembers : MF yX9_hasMembers cX9_hasMembers 4 (some .boolean) 3 := ⟨tb_at 1260 (by decide +kernel) rfl, tb_at 113 (by decide +kernel) rfl, by decide +kernel, by decide +kernel, by decide +kernel⟩
set_option maxRecDepth 100000 in
theorem mv_X9_hasMembers : Cond.instanceMethod yX9_hasMembers ∈ tb ∧ Cond.selects (Cn 9) yX9_hasMembers yX9_hasMembers ∈ tb ∧ 9 < 10 := ⟨tb_at 1259 (by decide +kernel) rfl, tb_at 53 (by decide +kernel) rfl, by decide⟩
set_option maxRecDepth 100000 in
theorem ml_X9_185 : Cond.methodLink RX9 185 yX9_isFirst ∈ tb := tb_at 1337 (by decide +kernel) rfl
set_option maxRecDepth 100000 in
theorem mf_X9_isFirst : MF yX9_isFirst cX9_isFirst 3 (some .boolean) 2 := ⟨tb_at 1340 (by decide +kernel) rfl, tb_at 113 (by decide +kernel) rfl, by decide +kernel, by decide +kernel, by decide +kernel⟩
set_option maxRecDepth 100000 in
theorem mv_X9_isFirst : Cond.instanceMethod yX9_isFirst ∈ tb ∧ Cond.selects (Cn 9) yX9_isFirst yX9_isFirst ∈ tb ∧ 9 < 10 := ⟨tb_at 1339 (by decide +kernel) rfl, tb_at 73 (by decide +kernel) rfl, by decide⟩
set_option maxRecDepth 100000 in
theorem ml_X9_188 : Cond.methodLink RX9 188 yX9_isOwn ∈ tb := tb_at 1333 (by decide +kernel) rfl
set_option maxRecDepth 100000 in
theorem mf_X9_isOwn : MF yX9_isOwn cX9_isOwn 4 (some .boolean) 3 := ⟨tb_at 1336 (by decide +kernel) rfl, tb_at 113 (by decide +kernel) rfl, by decide +kernel, by decide +kernel, by decide +kernel⟩
set_option maxRecDepth 100000 in
theorem mv_X9_isOwn : Cond.instanceMethod yX9_isOwn ∈ tb ∧ Cond.selects (Cn 9) yX9_isOwn yX9_isOwn ∈ tb ∧ 9 < 10 := ⟨tb_at 1335 (by decide +kernel) rfl, tb_at 72 (by decide +kernel) rfl, by decide⟩
set_option maxRecDepth 100000 in
theorem ml_X9_191 : Cond.methodLink RX9 191 yX9_isStraight ∈ tb := tb_at 1353 (by decide +kernel) rfl
set_option maxRecDepth 100000 in
theorem mf_X9_isStraight : MF yX9_isStraight cX9_isStraight 4 (some .boolean) 3 := ⟨tb_at 1356 (by decide +kernel) rfl, tb_at 113 (by decide +kernel) rfl, by decide +kernel, by decide +kernel, by decide +kernel⟩
set_option maxRecDepth 100000 in
theorem mv_X9_isStraight : Cond.instanceMethod yX9_isStraight ∈ tb ∧ Cond.selects (Cn 9) yX9_isStraight yX9_isStraight ∈ tb ∧ 9 < 10 := ⟨tb_at 1355 (by decide +kernel) rfl, tb_at 77 (by decide +kernel) rfl, by decide⟩
set_option maxRecDepth 100000 in
theorem ml_X9_194 : Cond.methodLink RX9 194 yX9_toMeeting ∈ tb := tb_at 1357 (by decide +kernel) rfl
set_option maxRecDepth 100000 in
theorem mf_X9_toMeeting : MF yX9_toMeeting cX9_toMeeting 3 (some .int) 2 := ⟨tb_at 1360 (by decide +kernel) rfl, tb_at 113 (by decide +kernel) rfl, by decide +kernel, by decide +kernel, by decide +kernel⟩
set_option maxRecDepth 100000 in
theorem mv_X9_toMeeting : Cond.instanceMethod yX9_toMeeting ∈ tb ∧ Cond.selects (Cn 9) yX9_toMeeting yX9_toMeeting ∈ tb ∧ 9 < 10 := ⟨tb_at 1359 (by decide +kernel) rfl, tb_at 78 (by decide +kernel) rfl, by decide⟩
set_option maxRecDepth 100000 in
theorem ml_X9_197 : Cond.methodLink RX9 197 yX9_claimAt ∈ tb := tb_at 1345 (by decide +kernel) rfl
set_option maxRecDepth 100000 in
theorem mf_X9_claimAt : MF yX9_claimAt cX9_claimAt 6 (some .int) 4 := ⟨tb_at 1348 (by decide +kernel) rfl, tb_at 113 (by decide +kernel) rfl, by decide +kernel, by decide +kernel, by decide +kernel⟩
set_option maxRecDepth 100000 in
theorem mv_X9_claimAt : Cond.instanceMethod yX9_claimAt ∈ tb ∧ Cond.selects (Cn 9) yX9_claimAt yX9_claimAt ∈ tb ∧ 9 < 10 := ⟨tb_at 1347 (by decide +kernel) rfl, tb_at 75 (by decide +kernel) rfl, by decide⟩
set_option maxRecDepth 100000 in
theorem ml_X9_200 : Cond.methodLink RX9 200 yX9_ownClaim ∈ tb := tb_at 1349 (by decide +kernel) rfl
set_option maxRecDepth 100000 in
theorem mf_X9_ownClaim : MF yX9_ownClaim cX9_ownClaim 7 (some .int) 3 := ⟨tb_at 1352 (by decide +kernel) rfl, tb_at 113 (by decide +kernel) rfl, by decide +kernel, by decide +kernel, by decide +kernel⟩
set_option maxRecDepth 100000 in
theorem mv_X9_ownClaim : Cond.instanceMethod yX9_ownClaim ∈ tb ∧ Cond.selects (Cn 9) yX9_ownClaim yX9_ownClaim ∈ tb ∧ 9 < 10 := ⟨tb_at 1351 (by decide +kernel) rfl, tb_at 76 (by decide +kernel) rfl, by decide⟩
set_option maxRecDepth 100000 in
theorem ml_X9_204 : Cond.methodLink RX9 204 yX9_isBetter ∈ tb := tb_at 1361 (by decide +kernel) rfl
set_option maxRecDepth 100000 in
theorem mf_X9_isBetter : MF yX9_isBetter cX9_isBetter 2 (some .boolean) 2 := ⟨tb_at 1363 (by decide +kernel) rfl, tb_at 113 (by decide +kernel) rfl, by decide +kernel, by decide +kernel, by decide +kernel⟩
set_option maxRecDepth 100000 in
theorem ms_X9_isBetter : Cond.static yX9_isBetter ∈ tb := tb_at 1362 (by decide +kernel) rfl
set_option maxRecDepth 100000 in
theorem ml_X9_211 : Cond.methodLink RX9 211 yX9_isLost ∈ tb := tb_at 1341 (by decide +kernel) rfl
set_option maxRecDepth 100000 in
theorem mf_X9_isLost : MF yX9_isLost cX9_isLost 6 (some .boolean) 4 := ⟨tb_at 1344 (by decide +kernel) rfl, tb_at 113 (by decide +kernel) rfl, by decide +kernel, by decide +kernel, by decide +kernel⟩
set_option maxRecDepth 100000 in
theorem mv_X9_isLost : Cond.instanceMethod yX9_isLost ∈ tb ∧ Cond.selects (Cn 9) yX9_isLost yX9_isLost ∈ tb ∧ 9 < 10 := ⟨tb_at 1343 (by decide +kernel) rfl, tb_at 74 (by decide +kernel) rfl, by decide⟩
set_option maxRecDepth 100000 in
theorem ml_X9_207 : Cond.methodLink RX9 207 yX9_isCutOff ∈ tb := tb_at 1329 (by decide +kernel) rfl
set_option maxRecDepth 100000 in
theorem mf_X9_isCutOff : MF yX9_isCutOff cX9_isCutOff 6 (some .boolean) 4 := ⟨tb_at 1332 (by decide +kernel) rfl, tb_at 113 (by decide +kernel) rfl, by decide +kernel, by decide +kernel, by decide +kernel⟩
set_option maxRecDepth 100000 in
theorem mv_X9_isCutOff : Cond.instanceMethod yX9_isCutOff ∈ tb ∧ Cond.selects (Cn 9) yX9_isCutOff yX9_isCutOff ∈ tb ∧ 9 < 10 := ⟨tb_at 1331 (by decide +kernel) rfl, tb_at 71 (by decide +kernel) rfl, by decide⟩
set_option maxRecDepth 100000 in
theorem ml_X9_214 : Cond.methodLink RX9 214 yX9_isInShared ∈ tb := tb_at 1325 (by decide +kernel) rfl
set_option maxRecDepth 100000 in
theorem mf_X9_isInShared : MF yX9_isInShared cX9_isInShared 6 (some .boolean) 4 := ⟨tb_at 1328 (by decide +kernel) rfl, tb_at 113 (by decide +kernel) rfl, by decide +kernel, by decide +kernel, by decide +kernel⟩
set_option maxRecDepth 100000 in
theorem mv_X9_isInShared : Cond.instanceMethod yX9_isInShared ∈ tb ∧ Cond.selects (Cn 9) yX9_isInShared yX9_isInShared ∈ tb ∧ 9 < 10 := ⟨tb_at 1327 (by decide +kernel) rfl, tb_at 70 (by decide +kernel) rfl, by decide⟩
set_option maxRecDepth 100000 in
theorem ml_X9_217 : Cond.methodLink RX9 217 yX9_isInAll ∈ tb := tb_at 1321 (by decide +kernel) rfl
set_option maxRecDepth 100000 in
theorem mf_X9_isInAll : MF yX9_isInAll cX9_isInAll 5 (some .boolean) 4 := ⟨tb_at 1324 (by decide +kernel) rfl, tb_at 113 (by decide +kernel) rfl, by decide +kernel, by decide +kernel, by decide +kernel⟩
set_option maxRecDepth 100000 in
theorem mv_X9_isInAll : Cond.instanceMethod yX9_isInAll ∈ tb ∧ Cond.selects (Cn 9) yX9_isInAll yX9_isInAll ∈ tb ∧ 9 < 10 := ⟨tb_at 1323 (by decide +kernel) rfl, tb_at 69 (by decide +kernel) rfl, by decide⟩
set_option maxRecDepth 100000 in
theorem ml_X9_220 : Cond.methodLink RX9 220 yX9_isKept ∈ tb := tb_at 1372 (by decide +kernel) rfl
set_option maxRecDepth 100000 in
theorem mf_X9_isKept : MF yX9_isKept cX9_isKept 4 (some .boolean) 3 := ⟨tb_at 1375 (by decide +kernel) rfl, tb_at 113 (by decide +kernel) rfl, by decide +kernel, by decide +kernel, by decide +kernel⟩
set_option maxRecDepth 100000 in
theorem mv_X9_isKept : Cond.instanceMethod yX9_isKept ∈ tb ∧ Cond.selects (Cn 9) yX9_isKept yX9_isKept ∈ tb ∧ 9 < 10 := ⟨tb_at 1374 (by decide +kernel) rfl, tb_at 81 (by decide +kernel) rfl, by decide⟩
set_option maxRecDepth 100000 in
theorem ml_X9_223 : Cond.methodLink RX9 223 yX9_all ∈ tb := tb_at 1317 (by decide +kernel) rfl
set_option maxRecDepth 100000 in
theorem mf_X9_all : MF yX9_all cX9_all 6 (some .int) 3 := ⟨tb_at 1320 (by decide +kernel) rfl, tb_at 113 (by decide +kernel) rfl, by decide +kernel, by decide +kernel, by decide +kernel⟩
set_option maxRecDepth 100000 in
theorem mv_X9_all : Cond.instanceMethod yX9_all ∈ tb ∧ Cond.selects (Cn 9) yX9_all yX9_all ∈ tb ∧ 9 < 10 := ⟨tb_at 1319 (by decide +kernel) rfl, tb_at 68 (by decide +kernel) rfl, by decide⟩
set_option maxRecDepth 100000 in
theorem ml_X9_229 : Cond.methodLink RX9 229 yX9_base ∈ tb := tb_at 1444 (by decide +kernel) rfl
set_option maxRecDepth 100000 in
theorem mf_X9_base : MF yX9_base cX9_base 5 (some .int) 2 := ⟨tb_at 1447 (by decide +kernel) rfl, tb_at 113 (by decide +kernel) rfl, by decide +kernel, by decide +kernel, by decide +kernel⟩
set_option maxRecDepth 100000 in
theorem mv_X9_base : Cond.instanceMethod yX9_base ∈ tb ∧ Cond.selects (Cn 9) yX9_base yX9_base ∈ tb ∧ 9 < 10 := ⟨tb_at 1446 (by decide +kernel) rfl, tb_at 99 (by decide +kernel) rfl, by decide⟩
set_option maxRecDepth 100000 in
theorem ml_X9_226 : Cond.methodLink RX9 226 yX9_wantsSource ∈ tb := tb_at 1368 (by decide +kernel) rfl
set_option maxRecDepth 100000 in
theorem mf_X9_wantsSource : MF yX9_wantsSource cX9_wantsSource 5 (some .boolean) 3 := ⟨tb_at 1371 (by decide +kernel) rfl, tb_at 113 (by decide +kernel) rfl, by decide +kernel, by decide +kernel, by decide +kernel⟩
set_option maxRecDepth 100000 in
theorem mv_X9_wantsSource : Cond.instanceMethod yX9_wantsSource ∈ tb ∧ Cond.selects (Cn 9) yX9_wantsSource yX9_wantsSource ∈ tb ∧ 9 < 10 := ⟨tb_at 1370 (by decide +kernel) rfl, tb_at 80 (by decide +kernel) rfl, by decide⟩
set_option maxRecDepth 100000 in
theorem ml_X9_235 : Cond.methodLink RX9 235 yX9_shared ∈ tb := tb_at 1380 (by decide +kernel) rfl
set_option maxRecDepth 100000 in
theorem mf_X9_shared : MF yX9_shared cX9_shared 6 (some .int) 3 := ⟨tb_at 1383 (by decide +kernel) rfl, tb_at 113 (by decide +kernel) rfl, by decide +kernel, by decide +kernel, by decide +kernel⟩
set_option maxRecDepth 100000 in
theorem mv_X9_shared : Cond.instanceMethod yX9_shared ∈ tb ∧ Cond.selects (Cn 9) yX9_shared yX9_shared ∈ tb ∧ 9 < 10 := ⟨tb_at 1382 (by decide +kernel) rfl, tb_at 83 (by decide +kernel) rfl, by decide⟩
set_option maxRecDepth 100000 in
theorem ml_X9_232 : Cond.methodLink RX9 232 yX9_up ∈ tb := tb_at 1384 (by decide +kernel) rfl
set_option maxRecDepth 100000 in
theorem mf_X9_up : MF yX9_up cX9_up 8 (some .int) 3 := ⟨tb_at 1387 (by decide +kernel) rfl, tb_at 113 (by decide +kernel) rfl, by decide +kernel, by decide +kernel, by decide +kernel⟩
set_option maxRecDepth 100000 in
theorem mv_X9_up : Cond.instanceMethod yX9_up ∈ tb ∧ Cond.selects (Cn 9) yX9_up yX9_up ∈ tb ∧ 9 < 10 := ⟨tb_at 1386 (by decide +kernel) rfl, tb_at 84 (by decide +kernel) rfl, by decide⟩
set_option maxRecDepth 100000 in
theorem ml_X9_238 : Cond.methodLink RX9 238 yX9_put ∈ tb := tb_at 1221 (by decide +kernel) rfl
set_option maxRecDepth 100000 in
theorem mf_X9_put : MF yX9_put cX9_put 11 (some .boolean) 9 := ⟨tb_at 1224 (by decide +kernel) rfl, tb_at 113 (by decide +kernel) rfl, by decide +kernel, by decide +kernel, by decide +kernel⟩
set_option maxRecDepth 100000 in
theorem mv_X9_put : Cond.instanceMethod yX9_put ∈ tb ∧ Cond.selects (Cn 9) yX9_put yX9_put ∈ tb ∧ 9 < 10 := ⟨tb_at 1223 (by decide +kernel) rfl, tb_at 48 (by decide +kernel) rfl, by decide⟩
set_option maxRecDepth 100000 in
theorem fl_X9_242 : FL RX9 242 9 7 := ⟨by decide, by decide, tb_at 1017 (by decide +kernel) rfl⟩
set_option maxRecDepth 100000 in
theorem fl_X9_245 : FL RX9 245 9 5 := ⟨by decide, by decide, tb_at 1015 (by decide +kernel) rfl⟩
set_option maxRecDepth 100000 in
theorem ml_X9_248 : Cond.methodLink RX9 248 yX9_sendBy ∈ tb := tb_at 1404 (by decide +kernel) rfl
set_option maxRecDepth 100000 in
theorem mf_X9_sendBy : MF yX9_sendBy cX9_sendBy 9 (some .boolean) 8 := ⟨tb_at 1407 (by decide +kernel) rfl, tb_at 113 (by decide +kernel) rfl, by decide +kernel, by decide +kernel, by decide +kernel⟩
set_option maxRecDepth 100000 in
theorem mv_X9_sendBy : Cond.instanceMethod yX9_sendBy ∈ tb ∧ Cond.selects (Cn 9) yX9_sendBy yX9_sendBy ∈ tb ∧ 9 < 10 := ⟨tb_at 1406 (by decide +kernel) rfl, tb_at 89 (by decide +kernel) rfl, by decide⟩
set_option maxRecDepth 100000 in
theorem fl_X9_252 : FL RX9 252 9 6 := ⟨by decide, by decide, tb_at 1016 (by decide +kernel) rfl⟩
set_option maxRecDepth 100000 in
theorem ml_X9_284 : Cond.methodLink RX9 284 yX9_isAsking ∈ tb := tb_at 1261 (by decide +kernel) rfl
set_option maxRecDepth 100000 in
theorem mf_X9_isAsking : MF yX9_isAsking cX9_isAsking 3 (some .boolean) 2 := ⟨tb_at 1264 (by decide +kernel) rfl, tb_at 113 (by decide +kernel) rfl, by decide +kernel, by decide +kernel, by decide +kernel⟩
set_option maxRecDepth 100000 in
theorem mv_X9_isAsking : Cond.instanceMethod yX9_isAsking ∈ tb ∧ Cond.selects (Cn 9) yX9_isAsking yX9_isAsking ∈ tb ∧ 9 < 10 := ⟨tb_at 1263 (by decide +kernel) rfl, tb_at 54 (by decide +kernel) rfl, by decide⟩
set_option maxRecDepth 100000 in
theorem ml_X9_287 : Cond.methodLink RX9 287 yX9_hasTwo ∈ tb := tb_at 1281 (by decide +kernel) rfl
set_option maxRecDepth 100000 in
theorem mf_X9_hasTwo : MF yX9_hasTwo cX9_hasTwo 4 (some .boolean) 2 := ⟨tb_at 1284 (by decide +kernel) rfl, tb_at 113 (by decide +kernel) rfl, by decide +kernel, by decide +kernel, by decide +kernel⟩
set_option maxRecDepth 100000 in
theorem mv_X9_hasTwo : Cond.instanceMethod yX9_hasTwo ∈ tb ∧ Cond.selects (Cn 9) yX9_hasTwo yX9_hasTwo ∈ tb ∧ 9 < 10 := ⟨tb_at 1283 (by decide +kernel) rfl, tb_at 59 (by decide +kernel) rfl, by decide⟩
set_option maxRecDepth 100000 in
theorem ml_X9_290 : Cond.methodLink RX9 290 yX9_sendJoin ∈ tb := tb_at 1297 (by decide +kernel) rfl
set_option maxRecDepth 100000 in
theorem mf_X9_sendJoin : MF yX9_sendJoin cX9_sendJoin 6 none 3 := ⟨tb_at 1300 (by decide +kernel) rfl, tb_at 113 (by decide +kernel) rfl, by decide +kernel, by decide +kernel, by decide +kernel⟩
set_option maxRecDepth 100000 in
theorem mv_X9_sendJoin : Cond.instanceMethod yX9_sendJoin ∈ tb ∧ Cond.selects (Cn 9) yX9_sendJoin yX9_sendJoin ∈ tb ∧ 9 < 10 := ⟨tb_at 1299 (by decide +kernel) rfl, tb_at 63 (by decide +kernel) rfl, by decide⟩
set_option maxRecDepth 100000 in
theorem ml_X9_293 : Cond.methodLink RX9 293 yX9_portTo ∈ tb := tb_at 1309 (by decide +kernel) rfl
set_option maxRecDepth 100000 in
theorem mf_X9_portTo : MF yX9_portTo cX9_portTo 2 (some .int) 1 := ⟨tb_at 1312 (by decide +kernel) rfl, tb_at 113 (by decide +kernel) rfl, by decide +kernel, by decide +kernel, by decide +kernel⟩
set_option maxRecDepth 100000 in
theorem mv_X9_portTo : Cond.instanceMethod yX9_portTo ∈ tb ∧ Cond.selects (Cn 9) yX9_portTo yX9_portTo ∈ tb ∧ 9 < 10 := ⟨tb_at 1311 (by decide +kernel) rfl, tb_at 66 (by decide +kernel) rfl, by decide⟩
set_option maxRecDepth 100000 in
theorem ml_X9_316 : Cond.methodLink RX9 316 yX9_sendTunnel ∈ tb := tb_at 1400 (by decide +kernel) rfl
set_option maxRecDepth 100000 in
theorem mf_X9_sendTunnel : MF yX9_sendTunnel cX9_sendTunnel 6 none 5 := ⟨tb_at 1403 (by decide +kernel) rfl, tb_at 113 (by decide +kernel) rfl, by decide +kernel, by decide +kernel, by decide +kernel⟩
set_option maxRecDepth 100000 in
theorem mv_X9_sendTunnel : Cond.instanceMethod yX9_sendTunnel ∈ tb ∧ Cond.selects (Cn 9) yX9_sendTunnel yX9_sendTunnel ∈ tb ∧ 9 < 10 := ⟨tb_at 1402 (by decide +kernel) rfl, tb_at 88 (by decide +kernel) rfl, by decide⟩
set_option maxRecDepth 100000 in
theorem ml_X9_307 : Cond.methodLink RX9 307 yX9_sendData ∈ tb := tb_at 1388 (by decide +kernel) rfl
set_option maxRecDepth 100000 in
theorem mf_X9_sendData : MF yX9_sendData cX9_sendData 9 none 7 := ⟨tb_at 1391 (by decide +kernel) rfl, tb_at 113 (by decide +kernel) rfl, by decide +kernel, by decide +kernel, by decide +kernel⟩
set_option maxRecDepth 100000 in
theorem mv_X9_sendData : Cond.instanceMethod yX9_sendData ∈ tb ∧ Cond.selects (Cn 9) yX9_sendData yX9_sendData ∈ tb ∧ 9 < 10 := ⟨tb_at 1390 (by decide +kernel) rfl, tb_at 85 (by decide +kernel) rfl, by decide⟩
set_option maxRecDepth 100000 in
theorem ml_X9_313 : Cond.methodLink RX9 313 yX9_sendClaim ∈ tb := tb_at 1396 (by decide +kernel) rfl
set_option maxRecDepth 100000 in
theorem mf_X9_sendClaim : MF yX9_sendClaim cX9_sendClaim 5 none 4 := ⟨tb_at 1399 (by decide +kernel) rfl, tb_at 113 (by decide +kernel) rfl, by decide +kernel, by decide +kernel, by decide +kernel⟩
set_option maxRecDepth 100000 in
theorem mv_X9_sendClaim : Cond.instanceMethod yX9_sendClaim ∈ tb ∧ Cond.selects (Cn 9) yX9_sendClaim yX9_sendClaim ∈ tb ∧ 9 < 10 := ⟨tb_at 1398 (by decide +kernel) rfl, tb_at 87 (by decide +kernel) rfl, by decide⟩
set_option maxRecDepth 100000 in
theorem ml_X9_310 : Cond.methodLink RX9 310 yX9_hasOwn ∈ tb := tb_at 1392 (by decide +kernel) rfl
set_option maxRecDepth 100000 in
theorem mf_X9_hasOwn : MF yX9_hasOwn cX9_hasOwn 4 (some .boolean) 2 := ⟨tb_at 1395 (by decide +kernel) rfl, tb_at 113 (by decide +kernel) rfl, by decide +kernel, by decide +kernel, by decide +kernel⟩
set_option maxRecDepth 100000 in
theorem mv_X9_hasOwn : Cond.instanceMethod yX9_hasOwn ∈ tb ∧ Cond.selects (Cn 9) yX9_hasOwn yX9_hasOwn ∈ tb ∧ 9 < 10 := ⟨tb_at 1394 (by decide +kernel) rfl, tb_at 86 (by decide +kernel) rfl, by decide⟩
set_option maxRecDepth 100000 in
theorem ml_X9_300 : Cond.methodLink RX9 300 yX9_keep ∈ tb := tb_at 1364 (by decide +kernel) rfl
set_option maxRecDepth 100000 in
theorem mf_X9_keep : MF yX9_keep cX9_keep 4 none 3 := ⟨tb_at 1367 (by decide +kernel) rfl, tb_at 113 (by decide +kernel) rfl, by decide +kernel, by decide +kernel, by decide +kernel⟩
set_option maxRecDepth 100000 in
theorem mv_X9_keep : Cond.instanceMethod yX9_keep ∈ tb ∧ Cond.selects (Cn 9) yX9_keep yX9_keep ∈ tb ∧ 9 < 10 := ⟨tb_at 1366 (by decide +kernel) rfl, tb_at 79 (by decide +kernel) rfl, by decide⟩
set_option maxRecDepth 100000 in
theorem ml_X9_303 : Cond.methodLink RX9 303 yX9_mayStraight ∈ tb := tb_at 1376 (by decide +kernel) rfl
set_option maxRecDepth 100000 in
theorem mf_X9_mayStraight : MF yX9_mayStraight cX9_mayStraight 7 (some .boolean) 5 := ⟨tb_at 1379 (by decide +kernel) rfl, tb_at 113 (by decide +kernel) rfl, by decide +kernel, by decide +kernel, by decide +kernel⟩
set_option maxRecDepth 100000 in
theorem mv_X9_mayStraight : Cond.instanceMethod yX9_mayStraight ∈ tb ∧ Cond.selects (Cn 9) yX9_mayStraight yX9_mayStraight ∈ tb ∧ 9 < 10 := ⟨tb_at 1378 (by decide +kernel) rfl, tb_at 82 (by decide +kernel) rfl, by decide⟩
set_option maxRecDepth 100000 in
theorem ml_X9_297 : Cond.methodLink RX9 297 yX9_isDirect ∈ tb := tb_at 1313 (by decide +kernel) rfl
set_option maxRecDepth 100000 in
theorem mf_X9_isDirect : MF yX9_isDirect cX9_isDirect 4 (some .boolean) 2 := ⟨tb_at 1316 (by decide +kernel) rfl, tb_at 113 (by decide +kernel) rfl, by decide +kernel, by decide +kernel, by decide +kernel⟩
set_option maxRecDepth 100000 in
theorem mv_X9_isDirect : Cond.instanceMethod yX9_isDirect ∈ tb ∧ Cond.selects (Cn 9) yX9_isDirect yX9_isDirect ∈ tb ∧ 9 < 10 := ⟨tb_at 1315 (by decide +kernel) rfl, tb_at 67 (by decide +kernel) rfl, by decide⟩
set_option maxRecDepth 100000 in
theorem ml_X9_319 : Cond.methodLink RX9 319 yX9_sendStop ∈ tb := tb_at 1416 (by decide +kernel) rfl
set_option maxRecDepth 100000 in
theorem mf_X9_sendStop : MF yX9_sendStop cX9_sendStop 6 none 5 := ⟨tb_at 1419 (by decide +kernel) rfl, tb_at 113 (by decide +kernel) rfl, by decide +kernel, by decide +kernel, by decide +kernel⟩
set_option maxRecDepth 100000 in
theorem mv_X9_sendStop : Cond.instanceMethod yX9_sendStop ∈ tb ∧ Cond.selects (Cn 9) yX9_sendStop yX9_sendStop ∈ tb ∧ 9 < 10 := ⟨tb_at 1418 (by decide +kernel) rfl, tb_at 92 (by decide +kernel) rfl, by decide⟩
set_option maxRecDepth 100000 in
theorem ml_X9_281 : Cond.methodLink RX9 281 yX9_stop ∈ tb := tb_at 1420 (by decide +kernel) rfl
set_option maxRecDepth 100000 in
theorem mf_X9_stop : MF yX9_stop cX9_stop 6 none 5 := ⟨tb_at 1423 (by decide +kernel) rfl, tb_at 113 (by decide +kernel) rfl, by decide +kernel, by decide +kernel, by decide +kernel⟩
set_option maxRecDepth 100000 in
theorem mv_X9_stop : Cond.instanceMethod yX9_stop ∈ tb ∧ Cond.selects (Cn 9) yX9_stop yX9_stop ∈ tb ∧ 9 < 10 := ⟨tb_at 1422 (by decide +kernel) rfl, tb_at 93 (by decide +kernel) rfl, by decide⟩
set_option maxRecDepth 100000 in
theorem ml_X9_278 : Cond.methodLink RX9 278 yX9_tunnel ∈ tb := tb_at 1412 (by decide +kernel) rfl
set_option maxRecDepth 100000 in
theorem mf_X9_tunnel : MF yX9_tunnel cX9_tunnel 7 none 6 := ⟨tb_at 1415 (by decide +kernel) rfl, tb_at 113 (by decide +kernel) rfl, by decide +kernel, by decide +kernel, by decide +kernel⟩
set_option maxRecDepth 100000 in
theorem mv_X9_tunnel : Cond.instanceMethod yX9_tunnel ∈ tb ∧ Cond.selects (Cn 9) yX9_tunnel yX9_tunnel ∈ tb ∧ 9 < 10 := ⟨tb_at 1414 (by decide +kernel) rfl, tb_at 91 (by decide +kernel) rfl, by decide⟩
set_option maxRecDepth 100000 in
theorem ml_X9_275 : Cond.methodLink RX9 275 yX9_claimed ∈ tb := tb_at 1408 (by decide +kernel) rfl
set_option maxRecDepth 100000 in
theorem mf_X9_claimed : MF yX9_claimed cX9_claimed 9 none 5 := ⟨tb_at 1411 (by decide +kernel) rfl, tb_at 113 (by decide +kernel) rfl, by decide +kernel, by decide +kernel, by decide +kernel⟩
set_option maxRecDepth 100000 in
theorem mv_X9_claimed : Cond.instanceMethod yX9_claimed ∈ tb ∧ Cond.selects (Cn 9) yX9_claimed yX9_claimed ∈ tb ∧ 9 < 10 := ⟨tb_at 1410 (by decide +kernel) rfl, tb_at 90 (by decide +kernel) rfl, by decide⟩
set_option maxRecDepth 100000 in
theorem ml_X9_271 : Cond.methodLink RX9 271 yX9_data ∈ tb := tb_at 1301 (by decide +kernel) rfl
set_option maxRecDepth 100000 in
theorem mf_X9_data : MF yX9_data cX9_data 14 none 6 := ⟨tb_at 1304 (by decide +kernel) rfl, tb_at 113 (by decide +kernel) rfl, by decide +kernel, by decide +kernel, by decide +kernel⟩
set_option maxRecDepth 100000 in
theorem mv_X9_data : Cond.instanceMethod yX9_data ∈ tb ∧ Cond.selects (Cn 9) yX9_data yX9_data ∈ tb ∧ 9 < 10 := ⟨tb_at 1303 (by decide +kernel) rfl, tb_at 64 (by decide +kernel) rfl, by decide⟩
set_option maxRecDepth 100000 in
theorem ml_X9_267 : Cond.methodLink RX9 267 yX9_overhears ∈ tb := tb_at 1293 (by decide +kernel) rfl
set_option maxRecDepth 100000 in
theorem mf_X9_overhears : MF yX9_overhears cX9_overhears 10 none 7 := ⟨tb_at 1296 (by decide +kernel) rfl, tb_at 113 (by decide +kernel) rfl, by decide +kernel, by decide +kernel, by decide +kernel⟩
set_option maxRecDepth 100000 in
theorem mv_X9_overhears : Cond.instanceMethod yX9_overhears ∈ tb ∧ Cond.selects (Cn 9) yX9_overhears yX9_overhears ∈ tb ∧ 9 < 10 := ⟨tb_at 1295 (by decide +kernel) rfl, tb_at 62 (by decide +kernel) rfl, by decide⟩
set_option maxRecDepth 100000 in
theorem ml_X9_263 : Cond.methodLink RX9 263 yX9_prunes ∈ tb := tb_at 1289 (by decide +kernel) rfl
set_option maxRecDepth 100000 in
theorem mf_X9_prunes : MF yX9_prunes cX9_prunes 7 none 4 := ⟨tb_at 1292 (by decide +kernel) rfl, tb_at 113 (by decide +kernel) rfl, by decide +kernel, by decide +kernel, by decide +kernel⟩
set_option maxRecDepth 100000 in
theorem mv_X9_prunes : Cond.instanceMethod yX9_prunes ∈ tb ∧ Cond.selects (Cn 9) yX9_prunes yX9_prunes ∈ tb ∧ 9 < 10 := ⟨tb_at 1291 (by decide +kernel) rfl, tb_at 61 (by decide +kernel) rfl, by decide⟩
set_option maxRecDepth 100000 in
theorem ml_X9_259 : Cond.methodLink RX9 259 yX9_joins ∈ tb := tb_at 1273 (by decide +kernel) rfl
set_option maxRecDepth 100000 in
theorem mf_X9_joins : MF yX9_joins cX9_joins 10 none 5 := ⟨tb_at 1276 (by decide +kernel) rfl, tb_at 113 (by decide +kernel) rfl, by decide +kernel, by decide +kernel, by decide +kernel⟩
set_option maxRecDepth 100000 in
theorem mv_X9_joins : Cond.instanceMethod yX9_joins ∈ tb ∧ Cond.selects (Cn 9) yX9_joins yX9_joins ∈ tb ∧ 9 < 10 := ⟨tb_at 1275 (by decide +kernel) rfl, tb_at 57 (by decide +kernel) rfl, by decide⟩
set_option maxRecDepth 100000 in
theorem ml_X9_255 : Cond.methodLink RX9 255 yX9_left ∈ tb := tb_at 1253 (by decide +kernel) rfl
set_option maxRecDepth 100000 in
theorem mf_X9_left : MF yX9_left cX9_left 5 none 3 := ⟨tb_at 1256 (by decide +kernel) rfl, tb_at 113 (by decide +kernel) rfl, by decide +kernel, by decide +kernel, by decide +kernel⟩
set_option maxRecDepth 100000 in
theorem mv_X9_left : Cond.instanceMethod yX9_left ∈ tb ∧ Cond.selects (Cn 9) yX9_left yX9_left ∈ tb ∧ 9 < 10 := ⟨tb_at 1255 (by decide +kernel) rfl, tb_at 52 (by decide +kernel) rfl, by decide⟩
set_option maxRecDepth 100000 in
theorem ml_X9_334 : Cond.methodLink RX9 334 yX9_toCutOff ∈ tb := tb_at 1448 (by decide +kernel) rfl
set_option maxRecDepth 100000 in
theorem mf_X9_toCutOff : MF yX9_toCutOff cX9_toCutOff 7 (some .int) 2 := ⟨tb_at 1451 (by decide +kernel) rfl, tb_at 113 (by decide +kernel) rfl, by decide +kernel, by decide +kernel, by decide +kernel⟩
set_option maxRecDepth 100000 in
theorem mv_X9_toCutOff : Cond.instanceMethod yX9_toCutOff ∈ tb ∧ Cond.selects (Cn 9) yX9_toCutOff yX9_toCutOff ∈ tb ∧ 9 < 10 := ⟨tb_at 1450 (by decide +kernel) rfl, tb_at 100 (by decide +kernel) rfl, by decide⟩
set_option maxRecDepth 100000 in
theorem ml_X9_331 : Cond.methodLink RX9 331 yX9_wants ∈ tb := tb_at 1440 (by decide +kernel) rfl
set_option maxRecDepth 100000 in
theorem mf_X9_wants : MF yX9_wants cX9_wants 4 (some .boolean) 3 := ⟨tb_at 1443 (by decide +kernel) rfl, tb_at 113 (by decide +kernel) rfl, by decide +kernel, by decide +kernel, by decide +kernel⟩
set_option maxRecDepth 100000 in
theorem mv_X9_wants : Cond.instanceMethod yX9_wants ∈ tb ∧ Cond.selects (Cn 9) yX9_wants yX9_wants ∈ tb ∧ 9 < 10 := ⟨tb_at 1442 (by decide +kernel) rfl, tb_at 98 (by decide +kernel) rfl, by decide⟩
set_option maxRecDepth 100000 in
theorem ml_X9_325 : Cond.methodLink RX9 325 yX9_climb ∈ tb := tb_at 1436 (by decide +kernel) rfl
set_option maxRecDepth 100000 in
theorem mf_X9_climb : MF yX9_climb cX9_climb 8 none 3 := ⟨tb_at 1439 (by decide +kernel) rfl, tb_at 113 (by decide +kernel) rfl, by decide +kernel, by decide +kernel, by decide +kernel⟩
set_option maxRecDepth 100000 in
theorem mv_X9_climb : Cond.instanceMethod yX9_climb ∈ tb ∧ Cond.selects (Cn 9) yX9_climb yX9_climb ∈ tb ∧ 9 < 10 := ⟨tb_at 1438 (by decide +kernel) rfl, tb_at 97 (by decide +kernel) rfl, by decide⟩
set_option maxRecDepth 100000 in
theorem ml_X9_328 : Cond.methodLink RX9 328 yX9_remind ∈ tb := tb_at 1452 (by decide +kernel) rfl
set_option maxRecDepth 100000 in
theorem mf_X9_remind : MF yX9_remind cX9_remind 5 none 3 := ⟨tb_at 1455 (by decide +kernel) rfl, tb_at 113 (by decide +kernel) rfl, by decide +kernel, by decide +kernel, by decide +kernel⟩
set_option maxRecDepth 100000 in
theorem mv_X9_remind : Cond.instanceMethod yX9_remind ∈ tb ∧ Cond.selects (Cn 9) yX9_remind yX9_remind ∈ tb ∧ 9 < 10 := ⟨tb_at 1454 (by decide +kernel) rfl, tb_at 101 (by decide +kernel) rfl, by decide⟩
set_option maxRecDepth 100000 in
theorem ml_X9_322 : Cond.methodLink RX9 322 yX9_bend ∈ tb := tb_at 1432 (by decide +kernel) rfl
set_option maxRecDepth 100000 in
theorem mf_X9_bend : MF yX9_bend cX9_bend 5 none 3 := ⟨tb_at 1435 (by decide +kernel) rfl, tb_at 113 (by decide +kernel) rfl, by decide +kernel, by decide +kernel, by decide +kernel⟩
set_option maxRecDepth 100000 in
theorem mv_X9_bend : Cond.instanceMethod yX9_bend ∈ tb ∧ Cond.selects (Cn 9) yX9_bend yX9_bend ∈ tb ∧ 9 < 10 := ⟨tb_at 1434 (by decide +kernel) rfl, tb_at 96 (by decide +kernel) rfl, by decide⟩
set_option maxRecDepth 100000 in
theorem ml_X9_337 : Cond.methodLink RX9 337 yX9_isIn ∈ tb := tb_at 1217 (by decide +kernel) rfl
set_option maxRecDepth 100000 in
theorem mf_X9_isIn : MF yX9_isIn cX9_isIn 3 (some .boolean) 2 := ⟨tb_at 1220 (by decide +kernel) rfl, tb_at 113 (by decide +kernel) rfl, by decide +kernel, by decide +kernel, by decide +kernel⟩
set_option maxRecDepth 100000 in
theorem mv_X9_isIn : Cond.instanceMethod yX9_isIn ∈ tb ∧ Cond.selects (Cn 9) yX9_isIn yX9_isIn ∈ tb ∧ 9 < 10 := ⟨tb_at 1219 (by decide +kernel) rfl, tb_at 47 (by decide +kernel) rfl, by decide⟩
set_option maxRecDepth 100000 in
theorem fl_X9_340 : FL RX9 340 9 2 := ⟨by decide, by decide, tb_at 1012 (by decide +kernel) rfl⟩
set_option maxRecDepth 100000 in
theorem ml_X9_356 : Cond.methodLink RX9 356 yX9_comesToHost ∈ tb := tb_at 1424 (by decide +kernel) rfl
set_option maxRecDepth 100000 in
theorem mf_X9_comesToHost : MF yX9_comesToHost cX9_comesToHost 4 none 2 := ⟨tb_at 1427 (by decide +kernel) rfl, tb_at 113 (by decide +kernel) rfl, by decide +kernel, by decide +kernel, by decide +kernel⟩
set_option maxRecDepth 100000 in
theorem mv_X9_comesToHost : Cond.instanceMethod yX9_comesToHost ∈ tb ∧ Cond.selects (Cn 9) yX9_comesToHost yX9_comesToHost ∈ tb ∧ 9 < 10 := ⟨tb_at 1426 (by decide +kernel) rfl, tb_at 94 (by decide +kernel) rfl, by decide⟩
set_option maxRecDepth 100000 in
theorem ml_X9_353 : Cond.methodLink RX9 353 yX9_comes ∈ tb := tb_at 1249 (by decide +kernel) rfl
set_option maxRecDepth 100000 in
theorem mf_X9_comes : MF yX9_comes cX9_comes 9 none 3 := ⟨tb_at 1252 (by decide +kernel) rfl, tb_at 113 (by decide +kernel) rfl, by decide +kernel, by decide +kernel, by decide +kernel⟩
set_option maxRecDepth 100000 in
theorem mv_X9_comes : Cond.instanceMethod yX9_comes ∈ tb ∧ Cond.selects (Cn 9) yX9_comes yX9_comes ∈ tb ∧ 9 < 10 := ⟨tb_at 1251 (by decide +kernel) rfl, tb_at 51 (by decide +kernel) rfl, by decide⟩
set_option maxRecDepth 100000 in
theorem ml_X9_350 : Cond.methodLink RX9 350 yX9_answers ∈ tb := tb_at 1456 (by decide +kernel) rfl
set_option maxRecDepth 100000 in
theorem mf_X9_answers : MF yX9_answers cX9_answers 3 none 1 := ⟨tb_at 1459 (by decide +kernel) rfl, tb_at 113 (by decide +kernel) rfl, by decide +kernel, by decide +kernel, by decide +kernel⟩
set_option maxRecDepth 100000 in
theorem mv_X9_answers : Cond.instanceMethod yX9_answers ∈ tb ∧ Cond.selects (Cn 9) yX9_answers yX9_answers ∈ tb ∧ 9 < 10 := ⟨tb_at 1458 (by decide +kernel) rfl, tb_at 102 (by decide +kernel) rfl, by decide⟩
set_option maxRecDepth 100000 in
theorem ml_X9_346 : Cond.methodLink RX9 346 yX9_timers ∈ tb := tb_at 1428 (by decide +kernel) rfl
set_option maxRecDepth 100000 in
theorem mf_X9_timers : MF yX9_timers cX9_timers 4 none 1 := ⟨tb_at 1431 (by decide +kernel) rfl, tb_at 113 (by decide +kernel) rfl, by decide +kernel, by decide +kernel, by decide +kernel⟩
set_option maxRecDepth 100000 in
theorem mv_X9_timers : Cond.instanceMethod yX9_timers ∈ tb ∧ Cond.selects (Cn 9) yX9_timers yX9_timers ∈ tb ∧ 9 < 10 := ⟨tb_at 1430 (by decide +kernel) rfl, tb_at 95 (by decide +kernel) rfl, by decide⟩
set_option maxRecDepth 100000 in
theorem ml_X9_343 : Cond.methodLink RX9 343 yX9_deliver ∈ tb := tb_at 1245 (by decide +kernel) rfl
set_option maxRecDepth 100000 in
theorem mf_X9_deliver : MF yX9_deliver cX9_deliver 5 none 2 := ⟨tb_at 1248 (by decide +kernel) rfl, tb_at 113 (by decide +kernel) rfl, by decide +kernel, by decide +kernel, by decide +kernel⟩
set_option maxRecDepth 100000 in
theorem mv_X9_deliver : Cond.instanceMethod yX9_deliver ∈ tb ∧ Cond.selects (Cn 9) yX9_deliver yX9_deliver ∈ tb ∧ 9 < 10 := ⟨tb_at 1247 (by decide +kernel) rfl, tb_at 50 (by decide +kernel) rfl, by decide⟩
set_option maxRecDepth 100000 in
theorem ml_X9_359 : Cond.methodLink RX9 359 yX9_one ∈ tb := tb_at 1241 (by decide +kernel) rfl
set_option maxRecDepth 100000 in
theorem mf_X9_one : MF yX9_one cX9_one 3 none 0 := ⟨tb_at 1244 (by decide +kernel) rfl, tb_at 113 (by decide +kernel) rfl, by decide +kernel, by decide +kernel, by decide +kernel⟩
set_option maxRecDepth 100000 in
theorem mv_X9_one : Cond.instanceMethod yX9_one ∈ tb ∧ Cond.selects (Cn 9) yX9_one yX9_one ∈ tb ∧ 9 < 10 := ⟨tb_at 1243 (by decide +kernel) rfl, tb_at 49 (by decide +kernel) rfl, by decide⟩
set_option maxRecDepth 100000 in
theorem ml_X9_362 : Cond.methodLink RX9 362 yX9_ofSource ∈ tb := tb_at 1476 (by decide +kernel) rfl
set_option maxRecDepth 100000 in
theorem mf_X9_ofSource : MF yX9_ofSource cX9_ofSource 3 (some .int) 2 := ⟨tb_at 1479 (by decide +kernel) rfl, tb_at 113 (by decide +kernel) rfl, by decide +kernel, by decide +kernel, by decide +kernel⟩
set_option maxRecDepth 100000 in
theorem mv_X9_ofSource : Cond.instanceMethod yX9_ofSource ∈ tb ∧ Cond.selects (Cn 9) yX9_ofSource yX9_ofSource ∈ tb ∧ 9 < 10 := ⟨tb_at 1478 (by decide +kernel) rfl, tb_at 103 (by decide +kernel) rfl, by decide⟩
