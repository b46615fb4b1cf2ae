set_option maxRecDepth 100000 in
theorem arr_int : Cond.arrayClass .int ∈ tb := by decide +kernel
set_option maxRecDepth 100000 in
theorem arr_bool : Cond.arrayClass .boolean ∈ tb := by decide +kernel
set_option maxRecDepth 100000 in
theorem obj_inst : Cond.instanceMethod objectInit ∈ tb := by decide +kernel
set_option maxRecDepth 100000 in
theorem obj_code : Cond.code objectInit ⟨#[0xb1]⟩ 1 none ∈ tb := by decide +kernel
theorem cl_dv : ∀ ci, ci < 10 → ∀ j, j < Nn ci → defaultValue (Yn ci j) = (if isR (Yn ci j) = true then rv 0 else Value.int 0) := ten (by decide +kernel) (by decide +kernel) (by decide +kernel) (by decide +kernel) (by decide +kernel) (by decide +kernel) (by decide +kernel) (by decide +kernel) (by decide +kernel) (by decide +kernel)
section RowsB
variable {p : Program} {l : Launch} {e : Env} {R : Room} {s : State} {m : MethodId} {args : Array Value} {below : List Frame} {meth : Method} {c : Code} {H : Heap} {locs : List Loc} {cells slots : Nat} {Q : State → Prop}
variable {own : String} {bytes : ByteArray} {nL : Nat} {ret : Option FieldType} {b0 : Nat} {D : va_G} {E : Nat → ClassId} {G : Hp} {pc : Nat} {ls : Array Slot} {rest : List Value} {a ci k idx : Nat}
theorem r_new {n0 s0 : Nat} (C : Cx p s m args meth c own bytes nL ret b0 D E) (hci : ci < 10) (hcl : Cond.classLink own idx (Cn ci) ∈ tb) (hdg : decode bytes pc = .ok (.new idx, 3)) (hR : Rp b0 D E G H) (hS0 : SS b0 s H locs) (hb : b0 ≤ hn G) (h0 : n0 ≤ hn G ∧ s0 ≤ hs G) (hrm : hn G + 1 - n0 ≤ R.cells ∧ hs G + Nn ci - s0 ≤ R.slots)
    (kk : ∀ (H1 : Heap) (locs1 : List Loc), Rp b0 D E (nC G (ci + 1) 0 (Nn ci)) H1 → SS b0 s H1 locs1 → W p l e R s m args below meth c H1 locs1 (hn (nC G (ci + 1) 0 (Nn ci)) - n0) (hs (nC G (ci + 1) 0 (Nn ci)) - s0) Q (F0 m (pc + 3) ls (rv (hn G) :: rest))) : W p l e R s m args below meth c H locs (hn G - n0) (hs G - s0) Q (F0 m pc ls rest) := by
  obtain ⟨hx, hbb, -, -, hown, hts, -, hK, hb0⟩ := C
  have hKn := hK.1.1 ci _ (cl_at ci hci)
  refine W.newcK hx hbb hown (hts _ hcl) (hts _ (cl_inst ci hci)) (hts _ (cl_init ci hci)) rfl hdg (by omega) (by omega) hKn.2.1 hR.1 fun H1 kC hkC e1 z1 o1 => ?_
  have k1 := kk H1 locs (hR.made hb (by rw [z1, hR.1]) (fun q hq => o1 q (by rw [← hR.1]; exact hq)) (by omega) ?_) ⟨fun q hq => by rw [o1 q (by omega)]; exact hS0.1 q hq, hS0.2⟩
  · rw [rv_ne (by omega)] at k1
    rw [show hn G - n0 + 1 = hn (nC G (ci + 1) 0 (Nn ci)) - n0 by show _ = hn G + 1 - n0; omega, show hs G - s0 + Nn ci = hs (nC G (ci + 1) 0 (Nn ci)) - s0 by show _ = hs G + Nn ci - s0; omega]
    exact k1
  · unfold PX
    rw [if_pos (by omega)]
    refine (u_born (Yn ci) hts (cl_in ci hci) hKn hkC e1 (cl_ty ci hci)).to (fun j hj => ?_)
    have ei : hi (nC G (ci + 1) 0 (Nn ci)) (hn G) = fun _ => 0 := by show va_up _ _ _ _ = _; unfold va_up; rw [if_pos rfl]
    have er : hr (nC G (ci + 1) 0 (Nn ci)) (hn G) = fun _ => 0 := by show va_up _ _ _ _ = _; unfold va_up; rw [if_pos rfl]
    unfold fv
    rw [ei, er]
    exact cl_dv ci hci j hj
theorem r_newa {n : Int32} {n0 s0 t : Nat} {atype : ArrayType} (C : Cx p s m args meth c own bytes nL ret b0 D E) (hat : (atype = .int ∧ t = 11) ∨ (atype = .boolean ∧ t = 12)) (hdg : decode bytes pc = .ok (.newarray atype, 2)) (hR : Rp b0 D E G H) (hS0 : SS b0 s H locs) (hb : b0 ≤ hn G) (h0 : n0 ≤ hn G ∧ s0 ≤ hs G) (hnn : 0 ≤ n.toInt ∧ n.toInt ≤ 65536) (hrm : hn G + 1 - n0 ≤ R.cells ∧ hs G + n.toNatClampNeg - s0 ≤ R.slots)
    (kk : ∀ (H1 : Heap) (locs1 : List Loc), Rp b0 D E (nC G t n.toNatClampNeg n.toNatClampNeg) H1 → SS b0 s H1 locs1 → W p l e R s m args below meth c H1 locs1 (hn (nC G t n.toNatClampNeg n.toNatClampNeg) - n0) (hs (nC G t n.toNatClampNeg n.toNatClampNeg) - s0) Q (F0 m (pc + 2) ls (rv (hn G) :: rest))) : W p l e R s m args below meth c H locs (hn G - n0) (hs G - s0) Q (F0 m pc ls (.int n :: rest)) := by
  obtain ⟨hx, hbb, -, -, hown, hts, -, hK, hb0⟩ := C
  have hN : n.toNatClampNeg ≤ 65536 := by have : n.toNatClampNeg = n.toInt.toNat := rfl; omega
  have hneg : ¬ n < 0 := by rw [Int32.lt_iff_toInt_lt]; have : (0 : Int32).toInt = 0 := rfl; omega
  have ht : t = 11 ∨ t = 12 := by rcases hat with ⟨-, h⟩ | ⟨-, h⟩ <;> omega
  have harr : (Cond.arrayClass (newarray.typeOf atype)).before args s = true := by
    rcases hat with ⟨rfl, -⟩ | ⟨rfl, -⟩
    · exact hts _ arr_int
    · exact hts _ arr_bool
  have hbytes : n.toNatClampNeg * componentBytes (newarray.typeOf atype) ≤ 536870912 := by
    rcases hat with ⟨rfl, -⟩ | ⟨rfl, -⟩
    · show n.toNatClampNeg * 4 ≤ _; omega
    · show n.toNatClampNeg * 1 ≤ _; omega
  refine va_newaK hx hbb harr rfl hdg rfl hneg rfl hbytes (by omega) (by omega) hR.1 fun H1 cA e1 z1 o1 hAr hNm => ?_
  have hcA : cA = E t := by
    rcases hat with ⟨rfl, rfl⟩ | ⟨rfl, rfl⟩
    · exact Option.some.inj (hNm.symm.trans hK.2.1.2)
    · exact Option.some.inj (hNm.symm.trans hK.2.2.1.2)
  have hdef : defaultValue (newarray.typeOf atype) = .int 0 := by rcases hat with ⟨rfl, -⟩ | ⟨rfl, -⟩ <;> rfl
  have k1 := kk H1 locs (hR.made hb (by rw [z1, hR.1]) (fun q hq => o1 q (by rw [← hR.1]; exact hq)) (by omega) ?_) ⟨fun q hq => by rw [o1 q (by omega)]; exact hS0.1 q hq, hS0.2⟩
  · rw [rv_ne (by omega)] at k1
    rw [show hn G - n0 + 1 = hn (nC G t n.toNatClampNeg n.toNatClampNeg) - n0 by show _ = hn G + 1 - n0; omega, show hs G - s0 + n.toNatClampNeg = hs (nC G t n.toNatClampNeg n.toNatClampNeg) - s0 by show _ = hs G + n.toNatClampNeg - s0; omega]
    exact k1
  · have ei : hi (nC G t n.toNatClampNeg n.toNatClampNeg) (hn G) = fun _ => 0 := by show va_up _ _ _ _ = _; unfold va_up; rw [if_pos rfl]
    have el : hl (nC G t n.toNatClampNeg n.toNatClampNeg) (hn G) = n.toNatClampNeg := by show va_up _ _ _ _ = _; unfold va_up; rw [if_pos rfl]
    refine PX_ints (by omega) (by omega) ?_
    rw [ei, el, e1, hdef, hcA]
theorem r_anew {n : Int32} {n0 s0 : Nat} (C : Cx p s m args meth c own bytes nL ret b0 D E) (hci : ci ∈ arrCi) (hcl : Cond.classLink own idx (Cn ci) ∈ tb) (hdg : decode bytes pc = .ok (.anewarray idx, 3)) (hR : Rp b0 D E G H) (hS0 : SS b0 s H locs) (hb : b0 ≤ hn G) (h0 : n0 ≤ hn G ∧ s0 ≤ hs G) (hnn : 0 ≤ n.toInt ∧ n.toInt ≤ 65536) (hrm : hn G + 1 - n0 ≤ R.cells ∧ hs G + n.toNatClampNeg - s0 ≤ R.slots)
    (kk : ∀ (H1 : Heap) (locs1 : List Loc), Rp b0 D E (nC G (13 + ci) n.toNatClampNeg n.toNatClampNeg) H1 → SS b0 s H1 locs1 → W p l e R s m args below meth c H1 locs1 (hn (nC G (13 + ci) n.toNatClampNeg n.toNatClampNeg) - n0) (hs (nC G (13 + ci) n.toNatClampNeg n.toNatClampNeg) - s0) Q (F0 m (pc + 3) ls (rv (hn G) :: rest))) : W p l e R s m args below meth c H locs (hn G - n0) (hs G - s0) Q (F0 m pc ls (.int n :: rest)) := by
  obtain ⟨hx, hbb, -, -, hown, hts, -, hK, hb0⟩ := C
  have hN : n.toNatClampNeg ≤ 65536 := by have : n.toNatClampNeg = n.toInt.toNat := rfl; omega
  have hneg : ¬ n < 0 := by rw [Int32.lt_iff_toInt_lt]; have : (0 : Int32).toInt = 0 := rfl; omega
  refine W.anew hx hbb hown (hts _ hcl) (hK.2.2.2.1 ci hci).2.use rfl hdg rfl hneg (by omega) (by omega) (by omega) fun cA kA comp f1 f2 f3 f4 => ?_
  have hcA : cA = E (13 + ci) := by
    obtain ⟨kA', comp', k1, k2, k3, k4⟩ := (hK.2.2.2.1 ci hci).1.2
    exact Option.some.inj (f1.symm.trans k4)
  rw [show ({ cls := cA, slots := Array.replicate n.toNatClampNeg Value.null, vm := .none } : Cell) = arrV (E (13 + ci)) n.toNatClampNeg (fun _ => .null) by rw [← arrV_new, hcA]]
  have k1 := kk (H.push (arrV (E (13 + ci)) n.toNatClampNeg (fun _ => .null))) locs (hR.made hb (by simp) (fun q hq => by rw [Array.getElem?_push, if_neg (Nat.ne_of_lt hq)]) (by omega) ?_) ⟨fun q hq => by rw [Array.getElem?_push, if_neg (by have := hR.1; omega)]; exact hS0.1 q hq, hS0.2⟩
  · rw [rv_ne (by omega)] at k1
    rw [show hn G - n0 + 1 = hn (nC G (13 + ci) n.toNatClampNeg n.toNatClampNeg) - n0 by show _ = hn G + 1 - n0; omega, show hs G - s0 + n.toNatClampNeg = hs (nC G (13 + ci) n.toNatClampNeg n.toNatClampNeg) - s0 by show _ = hs G + n.toNatClampNeg - s0; omega, hR.1]
    exact k1
  · have ei : hr (nC G (13 + ci) n.toNatClampNeg n.toNatClampNeg) (hn G) = fun _ => 0 := by show va_up _ _ _ _ = _; unfold va_up; rw [if_pos rfl]
    have el : hl (nC G (13 + ci) n.toNatClampNeg n.toNatClampNeg) (hn G) = n.toNatClampNeg := by show va_up _ _ _ _ = _; unfold va_up; rw [if_pos rfl]
    refine PX_refs (by omega) ?_
    rw [ei, el, ← hR.1]
    simp [rv]
/-! references in locals and on the stack -/
theorem r_aload_n {kf : Fin 4} {i x : Nat} (C : Cx p s m args meth c own bytes nL ret b0 D E) (hdg : decode bytes pc = .ok (.aload_n kf, 1)) (hi : (kf : Nat) = i) (hl : ls[i]? = some (.val (rv x)))
    (kk : W p l e R s m args below meth c H locs cells slots Q (F0 m (pc + 1) ls (rv x :: rest))) : W p l e R s m args below meth c H locs cells slots Q (F0 m pc ls rest) := by
  unfold rv at hl kk
  split at hl
  · rename_i h0
    rw [if_pos h0] at kk
    exact lv_aload_nN C.1 C.2.1 hdg hi hl kk
  · rename_i h0
    rw [if_neg h0] at kk
    exact lv_aload_n C.1 C.2.1 hdg hi hl kk
theorem r_aload {i x : Nat} (C : Cx p s m args meth c own bytes nL ret b0 D E) (hdg : decode bytes pc = .ok (.aload i, 2)) (hl : ls[i]? = some (.val (rv x)))
    (kk : W p l e R s m args below meth c H locs cells slots Q (F0 m (pc + 2) ls (rv x :: rest))) : W p l e R s m args below meth c H locs cells slots Q (F0 m pc ls rest) := by
  unfold rv at hl kk
  split at hl
  · rename_i h0
    rw [if_pos h0] at kk
    exact lv_aloadN C.1 C.2.1 hdg hl kk
  · rename_i h0
    rw [if_neg h0] at kk
    exact lv_aload C.1 C.2.1 hdg hl kk
theorem r_astore_n {kf : Fin 4} {i nl x : Nat} {lv lv' : List (Nat × Value)} (C : Cx p s m args meth c own bytes nL ret b0 D E) (hdg : decode bytes pc = .ok (.astore_n kf, 1)) (hi : (kf : Nat) = i) (h : lv_has ls nl lv) (hn : i < nl) (hl : (i, rv x) :: lv.filter (fun q => !(q.1 == i) && !(q.1 + 1 == i && q.2.category == 2)) = lv')
    (kk : ∀ ls' : Array Slot, lv_has ls' nl lv' → W p l e R s m args below meth c H locs cells slots Q (F0 m (pc + 1) ls' rest)) : W p l e R s m args below meth c H locs cells slots Q (F0 m pc ls (rv x :: rest)) := by
  unfold rv at hl ⊢
  split at hl
  · rename_i h0
    rw [if_pos h0]
    exact lv_astore_nN C.1 C.2.1 hdg hi h hn hl kk
  · rename_i h0
    rw [if_neg h0]
    exact lv_astore_n C.1 C.2.1 hdg hi h hn hl kk
theorem r_astore {i nl x : Nat} {lv lv' : List (Nat × Value)} (C : Cx p s m args meth c own bytes nL ret b0 D E) (hdg : decode bytes pc = .ok (.astore i, 2)) (h : lv_has ls nl lv) (hn : i < nl) (hl : (i, rv x) :: lv.filter (fun q => !(q.1 == i) && !(q.1 + 1 == i && q.2.category == 2)) = lv')
    (kk : ∀ ls' : Array Slot, lv_has ls' nl lv' → W p l e R s m args below meth c H locs cells slots Q (F0 m (pc + 2) ls' rest)) : W p l e R s m args below meth c H locs cells slots Q (F0 m pc ls (rv x :: rest)) := by
  unfold rv at hl ⊢
  split at hl
  · rename_i h0
    rw [if_pos h0]
    exact lv_astoreN C.1 C.2.1 hdg h hn hl kk
  · rename_i h0
    rw [if_neg h0]
    exact lv_astore C.1 C.2.1 hdg h hn hl kk
theorem r_null (C : Cx p s m args meth c own bytes nL ret b0 D E) (hdg : decode bytes pc = .ok (.aconst_null, 1)) (kk : W p l e R s m args below meth c H locs cells slots Q (F0 m (pc + 1) ls (rv 0 :: rest))) : W p l e R s m args below meth c H locs cells slots Q (F0 m pc ls rest) := lv_null C.1 C.2.1 hdg kk
theorem r_ifnull {x : Nat} {off : Int} {tgt : Nat} (C : Cx p s m args meth c own bytes nL ret b0 D E) (hdg : decode bytes pc = .ok (.ifnull off, 3)) (ht : (pc : Int) + off = (tgt : Int)) (kt : x = 0 → W p l e R s m args below meth c H locs cells slots Q (F0 m tgt ls rest)) (kf : ¬ x = 0 → W p l e R s m args below meth c H locs cells slots Q (F0 m (pc + 3) ls rest)) : W p l e R s m args below meth c H locs cells slots Q (F0 m pc ls (rv x :: rest)) := by
  unfold rv
  split
  · rename_i h; exact lv_ifnullN C.1 C.2.1 hdg ht (kt h)
  · rename_i h; exact lv_ifnull C.1 C.2.1 hdg (kf h)
theorem r_ifnonnull {x : Nat} {off : Int} {tgt : Nat} (C : Cx p s m args meth c own bytes nL ret b0 D E) (hdg : decode bytes pc = .ok (.ifnonnull off, 3)) (ht : (pc : Int) + off = (tgt : Int)) (kt : ¬ x = 0 → W p l e R s m args below meth c H locs cells slots Q (F0 m tgt ls rest)) (kf : x = 0 → W p l e R s m args below meth c H locs cells slots Q (F0 m (pc + 3) ls rest)) : W p l e R s m args below meth c H locs cells slots Q (F0 m pc ls (rv x :: rest)) := by
  unfold rv
  split
  · rename_i h; exact lv_ifnonnullN C.1 C.2.1 hdg (kf h)
  · rename_i h; exact lv_ifnonnull C.1 C.2.1 hdg ht (kt h)
/-! contracts -/
def CP (b0 : Nat) (D : va_G) (E : Nat → ClassId) (G : Hp) (U : State) : Prop := Rp b0 D E G U.heap ∧ Kx D E U ∧ 0 < b0
def CQ (b0 : Nat) (D : va_G) (E : Nat → ClassId) (o : Option Value) (G' : Hp) : Array Value → State → Outcome → State → Prop := fun _ st oc t => oc = .returned o ∧ Rp b0 D E G' t.heap ∧ ∀ q, q < b0 → t.heap[q]? = st.heap[q]?
def rmd (d mc ms : Nat) : Room := { frames := d, cells := mc, slots := ms, locals := 40 * d }
def CT (l : Launch) (y : MethodName) (by' : ByteArray) (mL : Nat) (ret : Option FieldType) (d mc ms b0 : Nat) (D : va_G) (E : Nat → ClassId) (av : List Value) (G : Hp) (o : Option Value) (G' : Hp) : Prop :=
  Met l y (Cond.code y by' mL ret :: tb) (rmd d mc ms) (va_Pc av (CP b0 D E G)) (CQ b0 D E o G') mc ms (fun q => b0 ≤ q)
theorem CP_blind {av : List Value} : FrameBlind (va_Pc av (CP b0 D E G)) := fun _ _ _ _ q => ⟨q.1, q.2.1, q.2.2.1.same rfl, q.2.2.2⟩
theorem r_run {mc ms : Nat} {o : Option Value} {G' : Hp} {ar : Array Value} {st0 : List Value} (hr : va_Run p l e R s m args below meth c H locs cells slots mc ms (F0 m pc ls st0) rest (CQ b0 D E o G' ar) (fun q => b0 ≤ q)) (hS : SS b0 s H locs)
    (kk : ∀ (H1 : Heap) (locs1 : List Loc), Rp b0 D E G' H1 → SS b0 s H1 locs1 → W p l e R s m args below meth c H1 locs1 (cells + mc) (slots + ms) Q (F0 m (pc + 3) ls (o.toList ++ rest))) : W p l e R s m args below meth c H locs cells slots Q (F0 m pc ls st0) := by
  intro T hT X
  obtain ⟨v, st₀, t, T', L, h0, X', hL, e1, e2, ⟨hv, hp, hk⟩, st⟩ := hr T hT X
  cases hv
  obtain ⟨t2, a1, b1⟩ := kk T'.heap (locs ++ L) (by rw [e1]; exact hp) ⟨fun q hq => by rw [e1, hk q hq, h0]; exact hS.1 q hq, fun z hz => by
      rcases List.mem_append.mp hz with h | h
      · exact hS.2 z h
      · exact hL z h⟩ T' rfl X'
  exact ⟨t2, st t2 a1, b1⟩
def MF (y : MethodName) (by' : ByteArray) (mL : Nat) (ret : Option FieldType) (n : Nat) : Prop := Cond.code y by' mL ret ∈ tb ∧ Cond.initialized y.cls ∈ tb ∧ y.cls ≠ "java/lang/invoke/MethodHandle" ∧ y.cls ≠ "java/lang/invoke/VarHandle" ∧ (parseMethodDescriptor y.desc).map (fun d => d.parameters.length) = some n
theorem cb_of {d mc ms n mL' : Nat} {y : MethodName} {by' : ByteArray} {ret' : Option FieldType} (hts : ∀ w ∈ tb, w.before args s = true) (hm : MF y by' mL' ret' n) (hl : Cond.methodLink own idx y ∈ tb) (hd : d + 1 ≤ R.frames ∧ 8 + (mL' + 11) + 40 * d ≤ R.locals) : CallB R s args own idx y by' mL' ret' (Cond.code y by' mL' ret' :: tb) (rmd d mc ms) mc ms n :=
  callB_of n hts (fun w hw => ⟨(List.mem_cons.mp hw).elim (fun h => h ▸ hm.1) id, good_of_word (tb_good ((List.mem_cons.mp hw).elim (fun h => h ▸ hm.1) id))⟩) rfl rfl rfl (hts _ hm.2.1) (hts _ hl) hm.2.2 hd
theorem r_callV {d mc ms n mL' : Nat} {y : MethodName} {by' : ByteArray} {ret' : Option FieldType} {As st : List Value} {o : Option Value} {G' : Hp} (C : Cx p s m args meth c own bytes nL ret b0 D E) (hM : CT l y by' mL' ret' d mc ms b0 D E (rv a :: As) G o G') (hm : MF y by' mL' ret' n) (hl : Cond.methodLink own idx y ∈ tb) (hv : Cond.instanceMethod y ∈ tb ∧ Cond.selects (Cn ci) y y ∈ tb ∧ ci < 10) (hn : As.length = n) (hd : d + 1 ≤ R.frames ∧ 8 + (mL' + 11) + 40 * d ≤ R.locals)
    (hdg : decode bytes pc = .ok (.invokevirtual idx, 3)) (hsz : ls.size = nL) (hst : st = As.reverse ++ rv a :: rest) (hR : Rp b0 D E G H) (hS : SS b0 s H locs) (ht : hc G a = ci + 1) (hf : cells + mc ≤ R.cells ∧ slots + ms ≤ R.slots) (hw : (rest.map fun v => v.category).sum ≤ 8)
    (kk : ∀ (H1 : Heap) (locs1 : List Loc), Rp b0 D E G' H1 → SS b0 s H1 locs1 → W p l e R s m args below meth c H1 locs1 (cells + mc) (slots + ms) Q (F0 m (pc + 3) ls (o.toList ++ rest))) : W p l e R s m args below meth c H locs cells slots Q (F0 m pc ls st) := by
  obtain ⟨hx, hb, hr, hml, hown, hts, hlk, hK, hb0⟩ := C
  have ha := hR.ne0 hb0 (a := a) (by omega)
  obtain ⟨cell, g1, g2, g3, -⟩ := hR.obj hv.2.2 ht
  unfold CT at hM
  rw [rv_ne ha] at hM hst
  refine r_run (va_runV (C := Cn ci) ⟨hx, hb, hml, hown, hts⟩ hM ⟨cb_of hts hm hl hd, hts _ hv.1, hts _ hv.2.1⟩ ⟨CP_blind, ⟨cell, g1, by rw [g3]; rfl, by rw [g2]; exact (hK.1.1 ci _ (cl_at ci hv.2.2)).2.1⟩, fun U hU hW => ⟨rfl, by rw [hU]; exact hR, hK.warm hW, hb0⟩⟩ rfl hn hsz hst (lv_room hw) hdg hf) hS kk
theorem r_callS {d mc ms n mL' : Nat} {y : MethodName} {by' : ByteArray} {ret' : Option FieldType} {As st : List Value} {o : Option Value} {G' : Hp} (C : Cx p s m args meth c own bytes nL ret b0 D E) (hM : CT l y by' mL' ret' d mc ms b0 D E As G o G') (hm : MF y by' mL' ret' n) (hl : Cond.methodLink own idx y ∈ tb) (hv : Cond.static y ∈ tb) (hn : As.length = n) (hd : d + 1 ≤ R.frames ∧ 8 + (mL' + 11) + 40 * d ≤ R.locals)
    (hdg : decode bytes pc = .ok (.invokestatic idx, 3)) (hsz : ls.size = nL) (hst : st = As.reverse ++ rest) (hR : Rp b0 D E G H) (hS : SS b0 s H locs) (hf : cells + mc ≤ R.cells ∧ slots + ms ≤ R.slots) (hw : (rest.map fun v => v.category).sum ≤ 8)
    (kk : ∀ (H1 : Heap) (locs1 : List Loc), Rp b0 D E G' H1 → SS b0 s H1 locs1 → W p l e R s m args below meth c H1 locs1 (cells + mc) (slots + ms) Q (F0 m (pc + 3) ls (o.toList ++ rest))) : W p l e R s m args below meth c H locs cells slots Q (F0 m pc ls st) := by
  obtain ⟨hx, hb, hr, hml, hown, hts, hlk, hK, hb0⟩ := C
  refine r_run (va_runS ⟨hx, hb, hml, hown, hts⟩ hM ⟨cb_of hts hm hl hd, hts _ hv⟩ ⟨CP_blind, fun U hU hW => ⟨rfl, by rw [hU]; exact hR, hK.warm hW, hb0⟩⟩ rfl hn hsz hst (lv_room hw) hdg hf) hS kk
theorem r_callI {d mc ms n mL' : Nat} {y : MethodName} {by' : ByteArray} {As st : List Value} {o : Option Value} {G' : Hp} (C : Cx p s m args meth c own bytes nL ret b0 D E) (hM : CT l y by' mL' none d mc ms b0 D E (rv a :: As) G o G') (hm : MF y by' mL' none n) (hl : Cond.methodLink own idx y ∈ tb) (hv : Cond.instanceMethod y ∈ tb ∧ y.name = "<init>") (hn : As.length = n) (hd : d + 1 ≤ R.frames ∧ 8 + (mL' + 11) + 40 * d ≤ R.locals)
    (hdg : decode bytes pc = .ok (.invokespecial idx, 3)) (hsz : ls.size = nL) (hst : st = As.reverse ++ rv a :: rest) (hR : Rp b0 D E G H) (hS : SS b0 s H locs) (ht : hc G a ≠ 0) (hf : cells + mc ≤ R.cells ∧ slots + ms ≤ R.slots) (hw : (rest.map fun v => v.category).sum ≤ 8)
    (kk : ∀ (H1 : Heap) (locs1 : List Loc), Rp b0 D E G' H1 → SS b0 s H1 locs1 → W p l e R s m args below meth c H1 locs1 (cells + mc) (slots + ms) Q (F0 m (pc + 3) ls (o.toList ++ rest))) : W p l e R s m args below meth c H locs cells slots Q (F0 m pc ls st) := by
  obtain ⟨hx, hb, hr, hml, hown, hts, hlk, hK, hb0⟩ := C
  have ha := hR.ne0 hb0 (a := a) ht
  unfold CT at hM
  rw [rv_ne ha] at hM hst
  refine r_run (va_runI ⟨hx, hb, hml, hown, hts⟩ hM ⟨cb_of hts hm hl hd, hv.2, hts _ hv.1⟩ ⟨CP_blind, fun U hU hW => ⟨rfl, by rw [hU]; exact hR, hK.warm hW, hb0⟩⟩ rfl hn hsz hst (lv_room hw) hdg hf) hS kk
theorem cn_of {d mc ms n mL' : Nat} {y : MethodName} {by' : ByteArray} {ret' : Option FieldType} (hts : ∀ w ∈ tb, w.before args s = true) (hm : MF y by' mL' ret' n) (hl : va_Nw (.methodLinkNest own idx y "GroveWorks") s) (hd : d + 1 ≤ R.frames ∧ 8 + (mL' + 11) + 40 * d ≤ R.locals) : va_CN R s args own idx y "GroveWorks" by' mL' ret' (Cond.code y by' mL' ret' :: tb) (rmd d mc ms) mc ms n :=
  va_cnB n hts (fun w hw => ⟨(List.mem_cons.mp hw).elim (fun h => h ▸ hm.1) id, good_of_word (tb_good ((List.mem_cons.mp hw).elim (fun h => h ▸ hm.1) id))⟩) rfl rfl rfl hl (hts _ hm.2.1) hm.2.2 hd
theorem r_callSN {d mc ms n mL' : Nat} {y : MethodName} {by' : ByteArray} {ret' : Option FieldType} {As st : List Value} {o : Option Value} {G' : Hp} (C : Cx p s m args meth c own bytes nL ret b0 D E) (hM : CT l y by' mL' ret' d mc ms b0 D E As G o G') (hm : MF y by' mL' ret' n) (hl : (own, idx, y) ∈ nestL) (hv : Cond.static y ∈ tb) (hn : As.length = n) (hd : d + 1 ≤ R.frames ∧ 8 + (mL' + 11) + 40 * d ≤ R.locals)
    (hdg : decode bytes pc = .ok (.invokestatic idx, 3)) (hsz : ls.size = nL) (hst : st = As.reverse ++ rest) (hR : Rp b0 D E G H) (hS : SS b0 s H locs) (hf : cells + mc ≤ R.cells ∧ slots + ms ≤ R.slots) (hw : (rest.map fun v => v.category).sum ≤ 8)
    (kk : ∀ (H1 : Heap) (locs1 : List Loc), Rp b0 D E G' H1 → SS b0 s H1 locs1 → W p l e R s m args below meth c H1 locs1 (cells + mc) (slots + ms) Q (F0 m (pc + 3) ls (o.toList ++ rest))) : W p l e R s m args below meth c H locs cells slots Q (F0 m pc ls st) := by
  obtain ⟨hx, hb, hr, hml, hown, hts, hlk, hK, hb0⟩ := C
  refine r_run (va_runSN (host := "GroveWorks") ⟨hx, hb, hml, hown, hts⟩ hM ⟨cn_of hts hm (hK.2.2.2.2 _ hl) hd, hts _ hv, trivial⟩ ⟨CP_blind, fun U hU hW => ⟨rfl, by rw [hU]; exact hR, hK.warm hW, hb0⟩⟩ rfl hn hsz hst (lv_room hw) hdg hf) hS kk
theorem r_callIN {d mc ms n mL' : Nat} {y : MethodName} {by' : ByteArray} {As st : List Value} {o : Option Value} {G' : Hp} (C : Cx p s m args meth c own bytes nL ret b0 D E) (hM : CT l y by' mL' none d mc ms b0 D E (rv a :: As) G o G') (hm : MF y by' mL' none n) (hl : (own, idx, y) ∈ nestL) (hv : Cond.instanceMethod y ∈ tb ∧ y.name = "<init>") (hn : As.length = n) (hd : d + 1 ≤ R.frames ∧ 8 + (mL' + 11) + 40 * d ≤ R.locals)
    (hdg : decode bytes pc = .ok (.invokespecial idx, 3)) (hsz : ls.size = nL) (hst : st = As.reverse ++ rv a :: rest) (hR : Rp b0 D E G H) (hS : SS b0 s H locs) (ht : hc G a ≠ 0) (hf : cells + mc ≤ R.cells ∧ slots + ms ≤ R.slots) (hw : (rest.map fun v => v.category).sum ≤ 8)
    (kk : ∀ (H1 : Heap) (locs1 : List Loc), Rp b0 D E G' H1 → SS b0 s H1 locs1 → W p l e R s m args below meth c H1 locs1 (cells + mc) (slots + ms) Q (F0 m (pc + 3) ls (o.toList ++ rest))) : W p l e R s m args below meth c H locs cells slots Q (F0 m pc ls st) := by
  obtain ⟨hx, hb, hr, hml, hown, hts, hlk, hK, hb0⟩ := C
  have ha := hR.ne0 hb0 (a := a) ht
  unfold CT at hM
  rw [rv_ne ha] at hM hst
  refine r_run (va_runIN (host := "GroveWorks") ⟨hx, hb, hml, hown, hts⟩ hM ⟨cn_of hts hm (hK.2.2.2.2 _ hl) hd, hv.2, hts _ hv.1⟩ ⟨CP_blind, fun U hU hW => ⟨rfl, by rw [hU]; exact hR, hK.warm hW, hb0⟩⟩ rfl hn hsz hst (lv_room hw) hdg hf) hS kk
theorem r_objI (C : Cx p s m args meth c own bytes nL ret b0 D E) (hl : Cond.methodLink own idx objectInit ∈ tb) (hdg : decode bytes pc = .ok (.invokespecial idx, 3)) (hsz : ls.size = nL) (hR : Rp b0 D E G H) (ht : hc G a ≠ 0) (hd : 1 ≤ R.frames ∧ 20 ≤ R.locals) (hw : (rest.map fun v => v.category).sum ≤ 8)
    (kk : W p l e R s m args below meth c H locs cells slots Q (F0 m (pc + 3) ls rest)) : W p l e R s m args below meth c H locs cells slots Q (F0 m pc ls (rv a :: rest)) := by
  obtain ⟨hx, hb, hr, hml, hown, hts, hlk, hK, hb0⟩ := C
  rw [rv_ne (hR.ne0 hb0 ht)]
  have h8 := lv_room (m := m) (pc := pc) (ls := ls) (rest := rv a :: rest) hw
  exact W.objInit hx hb hown (hts _ hl) (hts _ obj_inst) (hts _ obj_code) rfl (by rw [hml]; exact hsz) rfl hdg hd.1 (by have h9 : 2 * (F0 m pc ls (Value.ref a :: rest)).monitorRoom + (rest.map fun v => v.category).sum ≤ 8 := h8; omega) kk
/-! ends -/
theorem r_iret {v : Int32} {mc ms : Nat} (C : Cx p s m args meth c own bytes nL (some .int) b0 D E) (hdg : decode bytes pc = .ok (.ireturn, 1)) (hR : Rp b0 D E G H) (hS : SS b0 s H locs) : W p l e R s m args below meth c H locs mc ms (MQ below (CQ b0 D E (some (.int v)) G) args s mc ms (fun q => b0 ≤ q)) (F0 m pc ls [.int v]) := by
  obtain ⟨hx, hb, hr, hml, hown, hts, hlk, hK, hb0⟩ := C
  exact W.iret hx hb hr (fun t ht _ => ⟨rfl, by rw [ht]; exact hR, fun q hq => by rw [ht]; exact hS.1 q hq⟩) hS.2 hdg hlk
theorem r_zret {v : Int32} {mc ms : Nat} (C : Cx p s m args meth c own bytes nL (some .boolean) b0 D E) (hv : v &&& 1 = v) (hdg : decode bytes pc = .ok (.ireturn, 1)) (hR : Rp b0 D E G H) (hS : SS b0 s H locs) : W p l e R s m args below meth c H locs mc ms (MQ below (CQ b0 D E (some (.int v)) G) args s mc ms (fun q => b0 ≤ q)) (F0 m pc ls [.int v]) := by
  obtain ⟨hx, hb, hr, hml, hown, hts, hlk, hK, hb0⟩ := C
  exact W.zret hx hb hr (by show Value.int (v &&& 1) = _; rw [hv]) (fun t ht _ => ⟨rfl, by rw [ht]; exact hR, fun q hq => by rw [ht]; exact hS.1 q hq⟩) hS.2 hdg hlk
theorem r_vret {mc ms : Nat} (C : Cx p s m args meth c own bytes nL none b0 D E) (hdg : decode bytes pc = .ok (.return_, 1)) (hR : Rp b0 D E G H) (hS : SS b0 s H locs) : W p l e R s m args below meth c H locs mc ms (MQ below (CQ b0 D E none G) args s mc ms (fun q => b0 ≤ q)) (F0 m pc ls []) := by
  obtain ⟨hx, hb, hr, hml, hown, hts, hlk, hK, hb0⟩ := C
  exact W.vret hx hb hr (fun t ht _ => ⟨rfl, by rw [ht]; exact hR, fun q hq => by rw [ht]; exact hS.1 q hq⟩) hS.2 hdg hlk
theorem r_aret {v : Nat} {C0 : String} {mc ms : Nat} (C : Cx p s m args meth c own bytes nL (some (.object C0)) b0 D E) (hdg : decode bytes pc = .ok (.areturn, 1)) (hR : Rp b0 D E G H) (hS : SS b0 s H locs) : W p l e R s m args below meth c H locs mc ms (MQ below (CQ b0 D E (some (rv v)) G) args s mc ms (fun q => b0 ≤ q)) (F0 m pc ls [rv v]) := by
  obtain ⟨hx, hb, hr, hml, hown, hts, hlk, hK, hb0⟩ := C
  exact W.aret hx hb hr (Or.inl ⟨_, rfl⟩) (by unfold rv; split; exact Or.inl rfl; exact Or.inr ⟨_, rfl⟩) (fun t ht _ => ⟨rfl, by rw [ht]; exact hR, fun q hq => by rw [ht]; exact hS.1 q hq⟩) hS.2 hdg hlk
/-! a contract out of a walk -/
theorem CT_of {y : MethodName} {by' : ByteArray} {mL d mc ms : Nat} {av : List Value} {o : Option Value} {G' : Hp} (hy : plainName y.cls = true)
    (body : ∀ p e s m below meth c, Cx p s m av.toArray meth c y.cls by' mL ret b0 D E → meth.name = y.name → Rp b0 D E G s.heap → W p l e (rmd d mc ms) s m av.toArray below meth c s.heap [] 0 0 (MQ below (CQ b0 D E o G') av.toArray s mc ms (fun q => b0 ≤ q)) (entryFrame m av.toArray mL)) : CT l y by' mL ret d mc ms b0 D E av G o G' := by
  refine Met.ofW (cc := by') (maxL := mL) (ret := ret) hy rfl ?_
  intro p e s m args below meth c s₁ B hml hv
  obtain ⟨rfl, hR, hK, hb0⟩ := hv
  have hts := atoms_spec (ws := Cond.code y by' mL ret :: tb) B.pre
  exact body p e s m below meth c ⟨B.exec, B.bytes, B.returns, hml, findClass_of_methodNamed B.named, fun w hw => hts w (List.mem_cons_of_mem _ hw), B.notSynchronized, hK, hb0⟩ (name_of_methodNamed B.named B.method).1 hR
end RowsB
