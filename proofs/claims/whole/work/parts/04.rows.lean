section RowsA
variable {p : Program} {l : Launch} {e : Env} {R : Room} {s : State} {m : MethodId} {args : Array Value} {below : List Frame} {meth : Method} {c : Code} {H : Heap} {locs : List Loc} {cells slots : Nat} {Q : State → Prop}
variable {own : String} {bytes : ByteArray} {nL : Nat} {ret : Option FieldType} {b0 : Nat} {D : va_G} {E : Nat → ClassId} {G : Hp} {pc : Nat} {ls : Array Slot} {rest : List Value} {a ci k idx : Nat}
theorem r_get (C : Cx p s m args meth c own bytes nL ret b0 D E) (hf : FL own idx ci k) (hdg : decode bytes pc = .ok (.getfield idx, 3)) (hR : Rp b0 D E G H) (ht : hc G a = ci + 1)
    (kk : W p l e R s m args below meth c H locs cells slots Q (F0 m (pc + 3) ls (fv ci G a k :: rest))) : W p l e R s m args below meth c H locs cells slots Q (F0 m pc ls (rv a :: rest)) := by
  obtain ⟨hx, hb, -, -, hown, hts, -, hK, hb0⟩ := C
  obtain ⟨hci, hk, hl⟩ := hf
  rw [rv_ne (hR.ne0 hb0 (by omega))]
  obtain ⟨cell, q1, q2, q3, q4⟩ := hR.obj hci ht
  obtain ⟨hS, hfc, kC, hkC, hkind⟩ := hK.1.1 ci _ (cl_at ci hci)
  obtain ⟨cf, kf, fi, f, hi, hsl⟩ := hS k hk
  refine W.getf hx hb hown (hts _ hl) (by rw [← cl_own ci hci k hk]; exact hi) (u_facts hfc hkC (u_lays hts (cl_in ci hci) hk) hi).1 q1 (by rw [q3]; exact fun h => by cases h) (v := fv ci G a k) ?_ rfl rfl hdg kk
  rw [hsl, q4 k hk]
theorem r_geti (C : Cx p s m args meth c own bytes nL ret b0 D E) (hf : FL own idx ci k) (hz : isR (Yn ci k) = false) (hdg : decode bytes pc = .ok (.getfield idx, 3)) (hR : Rp b0 D E G H) (ht : hc G a = ci + 1)
    (kk : W p l e R s m args below meth c H locs cells slots Q (F0 m (pc + 3) ls (.int (hi G a k) :: rest))) : W p l e R s m args below meth c H locs cells slots Q (F0 m pc ls (rv a :: rest)) := by
  refine r_get C hf hdg hR ht ?_
  have e : fv ci G a k = .int (hi G a k) := by unfold fv; simp [hz]
  rw [e]
  exact kk
theorem r_getr (C : Cx p s m args meth c own bytes nL ret b0 D E) (hf : FL own idx ci k) (hz : isR (Yn ci k) = true) (hdg : decode bytes pc = .ok (.getfield idx, 3)) (hR : Rp b0 D E G H) (ht : hc G a = ci + 1)
    (kk : W p l e R s m args below meth c H locs cells slots Q (F0 m (pc + 3) ls (rv (hr G a k) :: rest))) : W p l e R s m args below meth c H locs cells slots Q (F0 m pc ls (rv a :: rest)) := by
  refine r_get C hf hdg hR ht ?_
  have e : fv ci G a k = rv (hr G a k) := by unfold fv; simp [hz]
  rw [e]
  exact kk
theorem r_put {G1 : Hp} {v : Value} (C : Cx p s m args meth c own bytes nL ret b0 D E) (hf : FL own idx ci k) (hfin : (Tn ci k).2.2.2 = false ∨ ((Tn ci k).2.2.2 = true ∧ meth.name = "<init>" ∧ Cn ci = own)) (hdg : decode bytes pc = .ok (.putfield idx, 3)) (hR : Rp b0 D E G H) (hS0 : SS b0 s H locs) (ht : hc G a = ci + 1)
    (hn : narrow (Yn ci k) v = v) (hfit : fits (Yn ci k) v = true) (hu : PU G G1 a) (hv : ∀ j, updV (fv ci G a) k v j = fv ci G1 a j)
    (kk : ∀ (H1 : Heap) (locs1 : List Loc), Rp b0 D E G1 H1 → SS b0 s H1 locs1 → W p l e R s m args below meth c H1 locs1 cells slots Q (F0 m (pc + 3) ls rest)) : W p l e R s m args below meth c H locs cells slots Q (F0 m pc ls (v :: rv a :: rest)) := by
  obtain ⟨hx, hb, -, -, hown, hts, -, hK, hb0⟩ := C
  obtain ⟨hci, hk, hl⟩ := hf
  have ha0 := hR.2 a (by omega)
  rw [rv_ne (hR.ne0 hb0 (by omega))]
  have hap := va_apart (own := own) hts (cl_in ci hci) (Yn ci) (cl_ty ci hci) (cl_nm ci hci) hK.1 (cl_at ci hci)
  obtain ⟨cell, q1, q2, q3, q4⟩ := hR.obj hci ht
  obtain ⟨hS, hfc, kC, hkC, hkind⟩ := hK.1.1 ci _ (cl_at ci hci)
  obtain ⟨cf, kf, fi, f, hi, hsl⟩ := hS k hk
  have hi2 : s.fieldFound? (Cn ci) (Tn ci k).2.1 (Tn ci k).2.2.1 = some (cf, kf, fi, f) := by rw [← cl_own ci hci k hk]; exact hi
  have hst := (u_facts hfc hkC (u_lays hts (cl_in ci hci) hk) hi).1
  have hd := cl_ty ci hci k hk
  have fin : ∀ H' : Heap, H'[a]? = some (cell.setSlot f.slot v) → H'.size = H.size → (∀ q, q ≠ a → H'[q]? = H[q]?) → W p l e R s m args below meth c H' (locs ++ [⟨a, f.slot⟩]) cells slots Q (F0 m (pc + 3) ls rest) := by
    intro H' e1 e2 e3
    rw [hsl] at e1 ⊢
    refine kk H' _ (hR.put e2 e3 hu fun _ => ?_) (hS0.put e3 ha0.1)
    rw [ht]
    unfold PX
    rw [if_pos (by omega)]
    exact t_OB.to (V := updV (fv ci G a) k v) ⟨_, e1, q2, q3, t_set q4 hap hk v⟩ (fun j _ => hv j)
  have hlay := hts _ (cl_in ci hci _ (u_in_lay hk))
  unfold u_lay at hlay
  rcases hfin with hfin | ⟨hfin, hin2, hdecl⟩
  · rw [if_neg (by rw [hfin]; decide)] at hlay
    have h6 := u_store hfc hkC hkind hlay hi hd hn hfit
    exact W.putK hx hb (f := f) ⟨hown, hts _ hl, ⟨_, _, _, hi2⟩, hst⟩ (by rw [q2]; exact h6) q1 q3 (by rw [hsl]; exact k2_hasslot (q4 k hk)) rfl rfl hdg fin
  · rw [if_pos hfin] at hlay
    have hcf : m.cls = cf := by
      obtain ⟨_, _, c', _, _, _, -, -, hf', -, -, -, hown2, -⟩ := Cond.laysFinal_spec hlay
      have e1 : c' = cf := by have := hi.symm.trans hf'; simp at this; exact this.1.symm
      rw [cl_own ci hci k hk, hdecl] at hown2
      rw [← e1]; exact Option.some.inj (hown.symm.trans hown2)
    have h6 := u_fits hfc hkC hkind (Or.inr hlay) hi hd hn hfit
    exact W.putFinK hx hb hown (hts _ hl) hi2 hst hcf hin2 (by rw [q2]; exact h6) q1 q3 (by rw [hsl]; exact k2_hasslot (q4 k hk)) rfl rfl hdg fin
theorem r_puti {v : Int32} (C : Cx p s m args meth c own bytes nL ret b0 D E) (hf : FL own idx ci k) (hz : Yn ci k = .int) (hfin : (Tn ci k).2.2.2 = false ∨ ((Tn ci k).2.2.2 = true ∧ meth.name = "<init>" ∧ Cn ci = own)) (hdg : decode bytes pc = .ok (.putfield idx, 3)) (hR : Rp b0 D E G H) (hS0 : SS b0 s H locs) (ht : hc G a = ci + 1)
    (kk : ∀ (H1 : Heap) (locs1 : List Loc), Rp b0 D E (sI G a k v) H1 → SS b0 s H1 locs1 → W p l e R s m args below meth c H1 locs1 cells slots Q (F0 m (pc + 3) ls rest)) : W p l e R s m args below meth c H locs cells slots Q (F0 m pc ls (.int v :: rv a :: rest)) :=
  r_put C hf hfin hdg hR hS0 ht (by rw [hz]; rfl) (by rw [hz]; rfl) (PU_sI G a k v) (fv_sI (by rw [hz]; rfl)) kk
theorem r_putz {v : Int32} (C : Cx p s m args meth c own bytes nL ret b0 D E) (hf : FL own idx ci k) (hz : Yn ci k = .boolean) (hfin : (Tn ci k).2.2.2 = false ∨ ((Tn ci k).2.2.2 = true ∧ meth.name = "<init>" ∧ Cn ci = own)) (hv : v = 0 ∨ v = 1) (hdg : decode bytes pc = .ok (.putfield idx, 3)) (hR : Rp b0 D E G H) (hS0 : SS b0 s H locs) (ht : hc G a = ci + 1)
    (kk : ∀ (H1 : Heap) (locs1 : List Loc), Rp b0 D E (sI G a k v) H1 → SS b0 s H1 locs1 → W p l e R s m args below meth c H1 locs1 cells slots Q (F0 m (pc + 3) ls rest)) : W p l e R s m args below meth c H locs cells slots Q (F0 m pc ls (.int v :: rv a :: rest)) :=
  r_put C hf hfin hdg hR hS0 ht (by rw [hz]; rcases hv with rfl | rfl <;> rfl) (by rw [hz]; rcases hv with rfl | rfl <;> rfl) (PU_sI G a k v) (fv_sI (by rw [hz]; rfl)) kk
theorem fits_rv {ty : FieldType} (h : isR ty = true) (h2 : (∃ n, ty = .object n) ∨ ∃ t, ty = .array t) (v : Nat) : narrow ty (rv v) = rv v ∧ fits ty (rv v) = true := by
  unfold rv
  rcases h2 with ⟨n, rfl⟩ | ⟨t, rfl⟩ <;> split <;> exact ⟨rfl, rfl⟩
theorem r_putr {v : Nat} (C : Cx p s m args meth c own bytes nL ret b0 D E) (hf : FL own idx ci k) (hz : (∃ n, Yn ci k = .object n) ∨ ∃ t, Yn ci k = .array t) (hfin : (Tn ci k).2.2.2 = false ∨ ((Tn ci k).2.2.2 = true ∧ meth.name = "<init>" ∧ Cn ci = own)) (hdg : decode bytes pc = .ok (.putfield idx, 3)) (hR : Rp b0 D E G H) (hS0 : SS b0 s H locs) (ht : hc G a = ci + 1)
    (kk : ∀ (H1 : Heap) (locs1 : List Loc), Rp b0 D E (sR G a k v) H1 → SS b0 s H1 locs1 → W p l e R s m args below meth c H1 locs1 cells slots Q (F0 m (pc + 3) ls rest)) : W p l e R s m args below meth c H locs cells slots Q (F0 m pc ls (rv v :: rv a :: rest)) := by
  have hr : isR (Yn ci k) = true := by rcases hz with ⟨n, h⟩ | ⟨t, h⟩ <;> rw [h] <;> rfl
  exact r_put C hf hfin hdg hR hS0 ht (fits_rv hr hz v).1 (fits_rv hr hz v).2 (PU_sR G a k v) (fv_sR hr) kk
theorem r_iald {i : Int32} (C : Cx p s m args meth c own bytes nL ret b0 D E) (hdg : decode bytes pc = .ok (.iaload, 1)) (hR : Rp b0 D E G H) (ht : hc G a = 11 ∧ ix i (hl G a))
    (kk : W p l e R s m args below meth c H locs cells slots Q (F0 m (pc + 1) ls (.int (hi G a i.toNatClampNeg) :: rest))) : W p l e R s m args below meth c H locs cells slots Q (F0 m pc ls (.int i :: rv a :: rest)) := by
  obtain ⟨hx, hb, -, -, hown, hts, -, hK, hb0⟩ := C
  obtain ⟨ht, hin⟩ := ht
  rw [rv_ne (hR.ne0 hb0 (by omega))]
  exact W.iald (v := .int (hi G a i.toNatClampNeg)) hx hb (hR.ints ht (by decide) (by decide)) (hK.2.1.1 _ _) (fun q => by cases q) (by rw [arrV_size]; exact ix_in hin) (by rw [arrV_read _ _ (ix_lt hin)]) rfl rfl hdg kk
theorem r_zald {i : Int32} (C : Cx p s m args meth c own bytes nL ret b0 D E) (hdg : decode bytes pc = .ok (.baload, 1)) (hR : Rp b0 D E G H) (ht : hc G a = 12 ∧ ix i (hl G a))
    (kk : W p l e R s m args below meth c H locs cells slots Q (F0 m (pc + 1) ls (.int (hi G a i.toNatClampNeg) :: rest))) : W p l e R s m args below meth c H locs cells slots Q (F0 m pc ls (.int i :: rv a :: rest)) := by
  obtain ⟨hx, hb, -, -, hown, hts, -, hK, hb0⟩ := C
  obtain ⟨ht, hin⟩ := ht
  rw [rv_ne (hR.ne0 hb0 (by omega))]
  exact W.zald (v := .int (hi G a i.toNatClampNeg)) hx hb (hR.ints ht (by decide) (by decide)) (hK.2.2.1.1 _ _) (fun q => by cases q) (by rw [arrV_size]; exact ix_in hin) (by rw [arrV_read _ _ (ix_lt hin)]) rfl rfl hdg kk
theorem r_aald {i : Int32} (C : Cx p s m args meth c own bytes nL ret b0 D E) (hci : ci ∈ arrCi) (hdg : decode bytes pc = .ok (.aaload, 1)) (hR : Rp b0 D E G H) (ht : hc G a = 13 + ci ∧ ix i (hl G a))
    (kk : W p l e R s m args below meth c H locs cells slots Q (F0 m (pc + 1) ls (rv (hr G a i.toNatClampNeg) :: rest))) : W p l e R s m args below meth c H locs cells slots Q (F0 m pc ls (.int i :: rv a :: rest)) := by
  obtain ⟨hx, hb, -, -, hown, hts, -, hK, hb0⟩ := C
  obtain ⟨ht, hin⟩ := ht
  rw [rv_ne (hR.ne0 hb0 (by omega))]
  exact W.aald (v := rv (hr G a i.toNatClampNeg)) (ty := .object (Cn ci)) hx hb (hR.refs ht (by omega)) ((hK.2.2.2.1 ci hci).1.1 _ _) rfl (fun q => by cases q) (by rw [arrV_size]; exact ix_in hin) (by rw [arrV_read _ _ (ix_lt hin)]) rfl rfl hdg kk
theorem r_alen (C : Cx p s m args meth c own bytes nL ret b0 D E) (hdg : decode bytes pc = .ok (.arraylength, 1)) (hR : Rp b0 D E G H) (ht : hc G a = 11 ∨ ∃ ci ∈ arrCi, hc G a = 13 + ci)
    (kk : W p l e R s m args below meth c H locs cells slots Q (F0 m (pc + 1) ls (.int (nI (hl G a)) :: rest))) : W p l e R s m args below meth c H locs cells slots Q (F0 m pc ls (rv a :: rest)) := by
  obtain ⟨hx, hb, -, -, hown, hts, -, hK, hb0⟩ := C
  have hne : hc G a ≠ 0 := by rcases ht with h | ⟨ci, -, h⟩ <;> omega
  rw [rv_ne (hR.ne0 hb0 hne)]
  rcases ht with ht | ⟨ci, hci, ht⟩
  · exact W.alen (n := nI (hl G a)) hx hb (hR.ints ht (by decide) (by decide)) (hK.2.1.1 _ _) (by rw [arrV_size] <;> rfl) rfl rfl hdg kk
  · exact W.alen (n := nI (hl G a)) hx hb (hR.refs ht (by omega)) ((hK.2.2.2.1 ci hci).1.1 _ _) (by rw [arrV_size] <;> rfl) rfl rfl hdg kk
theorem PX_ints {G1 : Hp} {H1 : Heap} {t : Nat} (h1 : 10 < t) (h2 : t ≤ 12) (h : H1[a]? = some (arrV (E t) (hl G1 a) (fun j => .int (hi G1 a j)))) : PX D E G1 H1 a t := by
  unfold PX
  rw [if_neg (by omega), if_pos h2]
  exact h
theorem PX_refs {G1 : Hp} {H1 : Heap} {t : Nat} (h1 : 12 < t) (h : H1[a]? = some (arrV (E t) (hl G1 a) (fun j => rv (hr G1 a j)))) : PX D E G1 H1 a t := by
  unfold PX
  rw [if_neg (by omega), if_neg (by omega)]
  exact h
theorem r_iast {i x : Int32} (C : Cx p s m args meth c own bytes nL ret b0 D E) (hdg : decode bytes pc = .ok (.iastore, 1)) (hR : Rp b0 D E G H) (hS0 : SS b0 s H locs) (ht : hc G a = 11 ∧ ix i (hl G a))
    (kk : ∀ (H1 : Heap) (locs1 : List Loc), Rp b0 D E (sI G a i.toNatClampNeg x) H1 → SS b0 s H1 locs1 → W p l e R s m args below meth c H1 locs1 cells slots Q (F0 m (pc + 1) ls rest)) : W p l e R s m args below meth c H locs cells slots Q (F0 m pc ls (.int x :: .int i :: rv a :: rest)) := by
  obtain ⟨hx, hb, -, -, hown, hts, -, hK, hb0⟩ := C
  obtain ⟨ht, hin⟩ := ht
  have ha0 := hR.2 a (by omega)
  rw [rv_ne (hR.ne0 hb0 (by omega))]
  refine W.iast hx hb (hR.ints ht (by decide) (by decide)) (hK.2.1.1 _ _) (fun q => by cases q) (by rw [arrV_size]; exact ix_in hin) rfl rfl hdg fun H1 e z oq => ?_
  refine kk H1 _ (hR.put z oq (PU_sI G a _ x) fun _ => ?_) (hS0.put oq ha0.1)
  rw [ht]
  refine PX_ints (by decide) (by decide) ?_
  rw [e, arrV_store, hi_sI]
  congr 2
  funext j
  unfold updV va_up
  by_cases hj : j = i.toNatClampNeg <;> simp [hj]
theorem r_zast {i x : Int32} (C : Cx p s m args meth c own bytes nL ret b0 D E) (hx01 : x &&& 1 = x) (hdg : decode bytes pc = .ok (.bastore, 1)) (hR : Rp b0 D E G H) (hS0 : SS b0 s H locs) (ht : hc G a = 12 ∧ ix i (hl G a))
    (kk : ∀ (H1 : Heap) (locs1 : List Loc), Rp b0 D E (sI G a i.toNatClampNeg x) H1 → SS b0 s H1 locs1 → W p l e R s m args below meth c H1 locs1 cells slots Q (F0 m (pc + 1) ls rest)) : W p l e R s m args below meth c H locs cells slots Q (F0 m pc ls (.int x :: .int i :: rv a :: rest)) := by
  obtain ⟨hx, hb, -, -, hown, hts, -, hK, hb0⟩ := C
  obtain ⟨ht, hin⟩ := ht
  have ha0 := hR.2 a (by omega)
  rw [rv_ne (hR.ne0 hb0 (by omega))]
  refine W.zast hx hb (hR.ints ht (by decide) (by decide)) (hK.2.2.1.1 _ _) (fun q => by cases q) (by rw [arrV_size]; exact ix_in hin) rfl rfl hdg fun H1 e z oq => ?_
  refine kk H1 _ (hR.put z oq (PU_sI G a _ x) fun _ => ?_) (hS0.put oq ha0.1)
  rw [ht]
  refine PX_ints (by decide) (by decide) ?_
  rw [e, show narrow .boolean (.int x) = .int (x &&& 1) from rfl, hx01, arrV_store, hi_sI]
  congr 2
  funext j
  unfold updV va_up
  by_cases hj : j = i.toNatClampNeg <;> simp [hj]
theorem r_aast {i : Int32} {v : Nat} (C : Cx p s m args meth c own bytes nL ret b0 D E) (hci : ci ∈ arrCi) (hci2 : ci < 10) (hdg : decode bytes pc = .ok (.aastore, 1)) (hR : Rp b0 D E G H) (hS0 : SS b0 s H locs) (ht : (hc G a = 13 + ci ∧ ix i (hl G a)) ∧ (v = 0 ∨ hc G v = ci + 1))
    (kk : ∀ (H1 : Heap) (locs1 : List Loc), Rp b0 D E (sR G a i.toNatClampNeg v) H1 → SS b0 s H1 locs1 → W p l e R s m args below meth c H1 locs1 cells slots Q (F0 m (pc + 1) ls rest)) : W p l e R s m args below meth c H locs cells slots Q (F0 m pc ls (rv v :: .int i :: rv a :: rest)) := by
  obtain ⟨hx, hb, -, -, hown, hts, -, hK, hb0⟩ := C
  obtain ⟨⟨ht, hin⟩, hv⟩ := ht
  have ha0 := hR.2 a (by omega)
  rw [rv_ne (a := a) (hR.ne0 hb0 (by omega))]
  have fin : ∀ H1 : Heap, H1[a]? = some ((arrV (E (13 + ci)) (hl G a) (fun j => rv (hr G a j))).setSlot i.toNatClampNeg (rv v)) → H1.size = H.size → (∀ q, q ≠ a → H1[q]? = H[q]?) → W p l e R s m args below meth c H1 (locs ++ [⟨a, i.toNatClampNeg⟩]) cells slots Q (F0 m (pc + 1) ls rest) := by
    intro H1 e z oq
    refine kk H1 _ (hR.put z oq (PU_sR G a _ v) fun _ => ?_) (hS0.put oq ha0.1)
    rw [ht]
    refine PX_refs (by omega) ?_
    rw [e, arrV_store, hr_sR]
    congr 2
    funext j
    unfold updV va_up
    by_cases hj : j = i.toNatClampNeg <;> simp [hj]
  rcases hv with hv | hv
  · subst hv
    rw [show rv 0 = Value.null from rfl] at fin ⊢
    exact va_WaastN (C := Cn ci) hx hb (hR.refs ht (by omega)) ((hK.2.2.2.1 ci hci).1.1 _ _) (fun q => by cases q) (by rw [arrV_size]; exact ix_in hin) rfl rfl hdg fin
  · rw [rv_ne (a := v) (hR.ne0 hb0 (by omega))] at fin ⊢
    obtain ⟨cell, g1, g2, g3, g4⟩ := hR.obj hci2 hv
    have hcls := (hK.1.1 ci _ (cl_at ci hci2)).2
    obtain ⟨kA, comp, k1, k2, k3, -⟩ := (hK.2.2.2.1 ci hci).1.2
    have hcomp : comp = D.1 ci := Option.some.inj (k3.symm.trans hcls.1)
    subst hcomp
    obtain ⟨kC, hkC, -⟩ := hcls.2
    exact W.aast hx hb (hR.refs ht (by omega)) (fun q h => by cases h) (fun h => by cases h) k1 k2 rfl hkC ⟨fun q => ix_in hin (Or.inl q), by rw [arrV_size]; exact ix_lt hin⟩ g1 (fun q h => by rw [g3] at h; cases h) (by rw [g2]; exact hkC) (by rw [g2]; exact va_assign hcls) rfl rfl hdg fin
end RowsA
