/-! THE CLASS'S WIRES: a frame is put under way -/
def cz (kd se : Int32) (z : Sg) : Sg := if kd = 8 then uS z 7 (z.1 7 + 1) else if kd = 7 ∧ se < 100 then uS z 5 (z.1 5 + 1) else z
def puT (z : Sg) (v : Nat) : Prop := z.2 10 v = 0 ∧ z.2 17 v ≠ 40
theorem sm_ge {f : Nat → Int32} {v : Nat} {x : Int32} : ∀ m, m ≤ v → sm (va_up f v x) m = sm f m := by
  intro m
  induction m with
  | zero => intro _; rfl
  | succ m ih =>
    intro h
    show sm (va_up f v x) m + va_up f v x m = sm f m + f m
    rw [ih (by omega), vu_n (by omega)]
theorem sm_up {f : Nat → Int32} {v : Nat} {d : Int32} : ∀ m, v < m → sm (va_up f v (f v + d)) m = sm f m + d := by
  intro m
  induction m with
  | zero => intro h; omega
  | succ m ih =>
    intro h
    show sm (va_up f v (f v + d)) m + va_up f v (f v + d) m = sm f m + f m + d
    by_cases e : v = m
    · subst e
      rw [sm_ge v (by omega), vu_s, Int32.add_assoc]
    · rw [ih (by omega), vu_n (by omega), Int32.add_assoc, Int32.add_comm d, Int32.add_assoc]
theorem sm_uR {V : Vt} {v k : Nat} {w : Nat → Int32} {d : Int32} (hv : v < 16) (e : w k = V 5 v 0 k + d) : sm (fun a => uR V 5 v 0 w 5 a 0 k) 16 = sm (fun a => V 5 a 0 k) 16 + d := by
  have h : (fun a => uR V 5 v 0 w 5 a 0 k) = va_up (fun a => V 5 a 0 k) v ((fun a => V 5 a 0 k) v + d) := by
    funext a
    rw [vu_a, uR_at]
    by_cases ha : a = v
    · rw [if_pos ⟨ha, rfl⟩, if_pos ha, e]
    · rw [if_neg (fun q => ha q.1), if_neg ha]
  rw [h, sm_up 16 hv]
/-- the state after a frame, with what else is counted -/
def puK (z : Sg) (v : Nat) (b : Nat → Int32) (d5 d7 : Int32) : Sg := (fun k => if k = 3 then z.1 3 + 1 else if k = 5 then z.1 5 + d5 else if k = 7 then z.1 7 + d7 else z.1 k, (uA (uA (wr8 z (8 * (40 * v + (z.2 16 v).toNatClampNeg)) (b 0) (b 1) (b 2) (b 3) (b 4) (b 5) (b 6) (b 7)) 16 v (z.2 16 v + 1)) 17 v (z.2 17 v + 1)).2)
theorem puK_cz {z : Sg} {v : Nat} {b : Nat → Int32} : cz (b 0) (b 1) (ptZ z v (b 0) (b 1) (b 2) (b 3) (b 4) (b 5) (b 6) (b 7)) = puK z v b (if b 0 = 8 then 0 else if b 0 = 7 ∧ b 1 < 100 then 1 else 0) (if b 0 = 8 then 1 else 0) := by
  have a0 : ∀ x : Int32, x + 0 = x := Int32.add_zero
  unfold cz puK
  split
  · refine Prod.ext ?_ rfl
    funext k
    show va_up (va_up z.1 3 (z.1 3 + 1)) 7 (va_up z.1 3 (z.1 3 + 1) 7 + 1) k = _
    simp only [vu_a]
    by_cases h7 : k = 7
    · subst h7
      simp
    · by_cases h3 : k = 3
      · subst h3
        simp
      · by_cases h5 : k = 5
        · subst h5
          simp
        · simp [h7, h3, h5]
  · split
    · refine Prod.ext ?_ rfl
      funext k
      show va_up (va_up z.1 3 (z.1 3 + 1)) 5 (va_up z.1 3 (z.1 3 + 1) 5 + 1) k = _
      simp only [vu_a]
      by_cases h7 : k = 7
      · subst h7
        simp
      · by_cases h3 : k = 3
        · subst h3
          simp
        · by_cases h5 : k = 5
          · subst h5
            simp
          · simp [h7, h3, h5]
    · refine Prod.ext ?_ rfl
      funext k
      show va_up z.1 3 (z.1 3 + 1) k = _
      rw [vu_a]
      by_cases h7 : k = 7
      · subst h7
        simp
      · by_cases h3 : k = 3
        · subst h3
          simp
        · by_cases h5 : k = 5
          · subst h5
            simp
          · simp [h7, h3, h5]
theorem uR_comm {α : Type} {V : Nat → Nat → Nat → Nat → α} {c c' i i' j j' : Nat} {f f' : Nat → α} (h : c ≠ c') : uR (uR V c i j f) c' i' j' f' = uR (uR V c' i' j' f') c i j f := by
  funext a
  by_cases e : a = c
  · subst e
    rw [uR_ne h]
    funext b d
    rw [uR_at, uR_at, uR_ne h]
  · by_cases e' : a = c'
    · subst e'
      rw [uR_ne e]
      funext b d
      rw [uR_at, uR_at, uR_ne e]
    · rw [uR_ne e', uR_ne e, uR_ne e, uR_ne e']
theorem wr8_get {z : Sg} {i j : Nat} {b : Nat → Int32} : (wr8 z i (b 0) (b 1) (b 2) (b 3) (b 4) (b 5) (b 6) (b 7)).2 18 j = if i ≤ j ∧ j < i + 8 then b (j - i) else z.2 18 j := by
  unfold wr8
  simp only [uA_get]
  by_cases h : i ≤ j ∧ j < i + 8
  · rw [if_pos h]
    have : j = i ∨ j = i + 1 ∨ j = i + 2 ∨ j = i + 3 ∨ j = i + 4 ∨ j = i + 5 ∨ j = i + 6 ∨ j = i + 7 := by omega
    rcases this with e | e | e | e | e | e | e | e <;> subst e <;> simp <;> rfl
  · rw [if_neg h, if_neg (by omega), if_neg (by omega), if_neg (by omega), if_neg (by omega), if_neg (by omega), if_neg (by omega), if_neg (by omega), if_neg (by omega)]
section
variable {L : Ly} {G : Hp} {n : Nat} {st : Int32} {V : Vt} {Q : Qt} {z : Sg} {v : Nat}
theorem cnt_m (hO : cnt z) (hv : v < 16) : (z.2 16 v).toNatClampNeg ≤ 40 ∧ z.2 16 v = nI (z.2 16 v).toNatClampNeg := by
  obtain ⟨m, c, b1, b2, b3, b4⟩ := hO v hv
  rw [b3, nI_clamp (by omega)]
  exact ⟨by omega, rfl⟩
theorem cnt_t (hO : cnt z) (hv : v < 16) (h : z.2 17 v ≠ 40) : (z.2 16 v).toNatClampNeg < 40 ∧ ¬ 40 ≤ z.2 17 v ∧ z.2 16 v < 40 := by
  obtain ⟨m, c, b1, b2, b3, b4⟩ := hO v hv
  have hc : c < 40 := by
    rcases Nat.lt_or_ge c 40 with a | a
    · exact a
    · exact absurd (by rw [b4, show c = 40 by omega]; rfl) h
  rw [b3, b4, nI_clamp (by omega)]
  exact ⟨by omega, nI_ge (b := 40) hc (by decide), nI_lt (b := 40) (by omega) (by decide)⟩
theorem RC_pt {w b : Nat → Int32} {d5 d7 : Int32} (hC : RC n st V Q z) (hO : cnt z) (hv : v < 16) (hm : qmd Q v = true) (ht : z.2 17 v ≠ 40)
    (w0 : w 0 = V 5 v 0 0) (w2 : w 2 = V 5 v 0 2) (w5 : w 5 = V 5 v 0 5) (w6 : w 6 = V 5 v 0 6 + 1) (w7 : w 7 = V 5 v 0 7 + 1) (w8 : w 8 = V 5 v 0 8 + 1) (w9 : w 9 = V 5 v 0 9) (w10 : w 10 = V 5 v 0 10 + d5) (w11 : w 11 = V 5 v 0 11 + d7) :
    RC n st (uR (uR V 8 v (qpi Q v (qcu Q v) (z.2 16 v).toNatClampNeg) b) 5 v 0 w) Q (puK z v b d5 d7) := by
  obtain ⟨m1, m2, m3⟩ := cnt_t hO hv ht
  obtain ⟨mm1, mm2⟩ := cnt_m hO hv
  have ho : ∀ a, a < 16 → (z.2 16 a).toNatClampNeg ≤ 40 := fun a ha => (cnt_m hO ha).1
  have hr18 : ∀ j, (puK z v b d5 d7).2 18 j = if 8 * (40 * v + (z.2 16 v).toNatClampNeg) ≤ j ∧ j < 8 * (40 * v + (z.2 16 v).toNatClampNeg) + 8 then b (j - 8 * (40 * v + (z.2 16 v).toNatClampNeg)) else z.2 18 j := by
    intro j
    show (uA (uA (wr8 z (8 * (40 * v + (z.2 16 v).toNatClampNeg)) (b 0) (b 1) (b 2) (b 3) (b 4) (b 5) (b 6) (b 7)) 16 v (z.2 16 v + 1)) 17 v (z.2 17 v + 1)).2 18 j = _
    rw [uA_ne (by decide), uA_ne (by decide), wr8_get]
  have hr16 : ∀ j, (puK z v b d5 d7).2 16 j = if j = v then z.2 16 v + 1 else z.2 16 j := by
    intro j
    show (uA (uA (wr8 z (8 * (40 * v + (z.2 16 v).toNatClampNeg)) (b 0) (b 1) (b 2) (b 3) (b 4) (b 5) (b 6) (b 7)) 16 v (z.2 16 v + 1)) 17 v (z.2 17 v + 1)).2 16 j = _
    rw [uA_ne (by decide), uA_get, wr8_ne (by decide)]
  have hr17 : ∀ j, (puK z v b d5 d7).2 17 j = if j = v then z.2 17 v + 1 else z.2 17 j := by
    intro j
    show (uA (uA (wr8 z (8 * (40 * v + (z.2 16 v).toNatClampNeg)) (b 0) (b 1) (b 2) (b 3) (b 4) (b 5) (b 6) (b 7)) 16 v (z.2 16 v + 1)) 17 v (z.2 17 v + 1)).2 17 j = _
    rw [uA_get, uA_ne (by decide), wr8_ne (by decide)]
  have hp := hC.pi v hv
  have hwi : cWi (uR (uR V 8 v (qpi Q v (qcu Q v) (z.2 16 v).toNatClampNeg) b) 5 v 0 w 5) (z.2 10) ((puK z v b d5 d7).2 16) ((puK z v b d5 d7).2 17) (z.2 19) := by
    intro a ha
    obtain ⟨c0, c2, c6, c7, c5⟩ := hC.wi a ha
    rw [uR_at, hr16, hr17]
    by_cases e : a = v
    · subst e
      obtain ⟨c0, c2, c6, c7, c5⟩ := hC.wi a ha
      rw [if_pos ⟨rfl, rfl⟩, if_pos rfl, if_pos rfl, w0, w2, w6, w7, w5, c6, c7]
      exact ⟨c0, c2, rfl, rfl, c5⟩
    · rw [if_neg (fun q => e q.1), if_neg e, if_neg e, uR_ne (by decide)]
      exact ⟨c0, c2, c6, c7, c5⟩
  have hsu : cSu (uR (uR V 8 v (qpi Q v (qcu Q v) (z.2 16 v).toNatClampNeg) b) 5 v 0 w 5) (z.1 3 + 1) (z.1 4) (z.1 5 + d5) (z.1 7 + d7) := by
    obtain ⟨s8, s9, s10, s11⟩ := hC.su
    have k5 : ∀ k, (fun a => uR V 8 v (qpi Q v (qcu Q v) (z.2 16 v).toNatClampNeg) b 5 a 0 k) = fun a => V 5 a 0 k := fun k => by
      funext a
      rw [uR_ne (by decide)]
    refine ⟨?_, ?_, ?_, ?_⟩
    · rw [sm_uR hv (d := 1) (by rw [uR_ne (by decide)]; exact w8), k5, s8]
    · rw [sm_uR hv (d := 0) (by rw [uR_ne (by decide), Int32.add_zero]; exact w9), k5, s9, Int32.add_zero]
    · rw [sm_uR hv (d := d5) (by rw [uR_ne (by decide)]; exact w10), k5, s10]
    · rw [sm_uR hv (d := d7) (by rw [uR_ne (by decide)]; exact w11), k5, s11]
  have hfr : cFr Q (uR (uR V 8 v (qpi Q v (qcu Q v) (z.2 16 v).toNatClampNeg) b) 5 v 0 w 8) ((puK z v b d5 d7).2 16) ((puK z v b d5 d7).2 18) := by
    intro a i k ha hma hi hk
    rw [uR_ne (by decide), hr18, uR_at]
    rw [hr16] at hi
    by_cases e : a = v
    · subst e
      rw [if_pos rfl, mm2, nI_1, nI_clamp (by omega)] at hi
      by_cases ei : i = (z.2 16 a).toNatClampNeg
      · rw [if_pos ⟨rfl, by rw [ei]⟩, if_pos (by omega)]
        exact congrArg b (by omega)
      · rw [if_neg (fun q => ei ((hp.2 _ _ _ _ hp.1 (by omega) hp.1 m1).2 q.2).2), if_neg (by omega)]
        exact hC.fr a i k ha hma (by omega) hk
    · rw [if_neg e] at hi
      have := ho a ha
      rw [if_neg (fun q => e q.1), if_neg (by omega)]
      exact hC.fr a i k ha hma hi hk
  have hfc : cFc Q (uR (uR V 8 v (qpi Q v (qcu Q v) (z.2 16 v).toNatClampNeg) b) 5 v 0 w 8) (z.2 19) (z.2 20) := by
    intro a i k ha hma hi hk
    rw [uR_ne (by decide), uR_at]
    have hn := hC.fn a ha
    rw [if_neg (fun q => ?_)]
    · exact hC.fc a i k ha hma hi hk
    · obtain ⟨q1, q2⟩ := q
      subst q1
      have := ((hp.2 _ _ _ _ (show 1 - qcu Q a < 2 by omega) (show i < 40 by omega) hp.1 m1).2 q2).1
      have := hp.1
      omega
  have hme : cMe Q ((puK z v b d5 d7).2 16) (z.2 19) := by
    intro a ha hma
    rw [hr16]
    by_cases e : a = v
    · rw [e, hm] at hma
      cases hma
    · rw [if_neg e]
      exact hC.me a ha hma
  exact ⟨hC.tm, hC.nu, hC.tu, hC.nn, hC.ns, hC.qw, hC.qh, hC.wa, hC.mt, hC.hz, (hwi), (hsu), hC.po, (hfr), (hfc), hC.pi, hC.md, (hme), hC.fn, hC.id, hC.jb, hC.ja, hC.tc, hC.kp, hC.sp, hC.sb, hC.pt, hC.he, hC.qu, hC.nt, (cNb_c hC.nb rfl rfl rfl), hC.mb, hC.jt, hC.cf, hC.cl, hC.ho, hC.go, hC.k33, hC.k39, hC.k37, hC.k29, hC.k28, hC.k31, hC.k30, hC.un, hC.on, hC.u2, hC.g0, hC.jp, (cWs_t hC.ws ⟨rfl, rfl, rfl, rfl⟩)⟩
end
