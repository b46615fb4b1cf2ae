/-! a frame's delivery, a tick -/
def dl1 (a : Nat → Int32) (v : Nat) (z : Sg) (r : Nat) : Sg := cond (decide (pOn z r (nI v) ≠ -1 ∧ a 1 ≠ nI r)) (coZ z r (pOn z r (nI v)).toNatClampNeg a) z
def dh1 (a : Nat → Int32) (v : Nat) (z : Sg) (h : Nat) : Sg := cond (decide (z.2 11 h = nI v ∧ a 1 ≠ 100 + nI h)) (hsZ z h a) z
def dlZ (z : Sg) (v : Nat) (a : Nat → Int32) : Sg := fo (fun z h => dh1 a v z h) (fo (fun z r => dl1 a v z r) z (nR z)) 16
def nN (z : Sg) (v : Nat) : Nat := (z.2 19 v).toNatClampNeg
def fA (z : Sg) (v i : Nat) : Nat → Int32 := fun j => z.2 20 (8 * (40 * v + i) + j)
def FN (z : Sg) : Prop := ∀ v, v < 16 → (nN z v ≤ 40 ∧ z.2 19 v = nI (nN z v)) ∧ ∀ i, i < nN z v → fok (nR z) (fA z v i)
def dwZ (v : Nat) (z : Sg) : Sg := fo (fun z i => dlZ z v (fA z v i)) z (nN z v)
def dsZ (z : Sg) : Sg := fo (fun z v => dwZ v z) z 16
def cpZ (z : Sg) (n : Nat) : Sg := (z.1, fun k => if k = 20 then (fun i => if i < n then z.2 18 i else z.2 20 i) else z.2 k)
def mvZ (z : Sg) (n : Nat) : Sg := (z.1, fun k => if k = 19 then (fun i => if i < n then z.2 16 i else z.2 19 i) else if k = 16 ∨ k = 17 then (fun i => if i < n then 0 else z.2 k i) else z.2 k)
def beZ (z : Sg) : Sg := mvZ (cpZ (uS z 0 (z.1 0 + 1)) 5120) 16
def oneZ (z : Sg) : Sg := fo (fun z h => anZ z h) (fo (fun z r => tmZ z r) (dsZ (beZ z)) (nR z)) 16
theorem te_FN {z z' : Sg} (h : TE z' z) (k : FN z) : FN z' := by
  unfold FN nN fA at k ⊢
  rw [te_nR h, h.2.2.2.2.1, h.2.2.2.2.2]
  exact k
theorem te_fA {z z' : Sg} (h : TE z' z) (v i : Nat) : fA z' v i = fA z v i := by unfold fA; rw [h.2.2.2.2.2]
theorem te_nN {z z' : Sg} (h : TE z' z) (v : Nat) : nN z' v = nN z v := by unfold nN; rw [h.2.2.2.2.1]
theorem cp_0 {z : Sg} : cpZ z 0 = z := by
  unfold cpZ
  refine Prod.ext rfl ?_
  funext k
  show (if k = 20 then _ else _) = _
  by_cases h : k = 20
  · rw [if_pos h, h]; funext i; exact if_neg (Nat.not_lt_zero _)
  · rw [if_neg h]
theorem cp_s {z : Sg} {n : Nat} : uA (cpZ z n) 20 n ((cpZ z n).2 18 n) = cpZ z (n + 1) := by
  refine Prod.ext rfl ?_
  funext k
  by_cases h : k = 20
  · subst h
    rw [uA_at]
    funext i
    show va_up (fun i => if i < n then z.2 18 i else z.2 20 i) n (z.2 18 n) i = if i < n + 1 then z.2 18 i else z.2 20 i
    unfold va_up
    by_cases hi : i = n
    · rw [if_pos hi, if_pos (by omega), hi]
    · rw [if_neg hi]
      show (if i < n then z.2 18 i else z.2 20 i) = _
      by_cases h2 : i < n
      · rw [if_pos h2, if_pos (by omega)]
      · rw [if_neg h2, if_neg (by omega)]
  · rw [uA_ne h]
    show (if k = 20 then _ else _) = (if k = 20 then _ else _)
    rw [if_neg h, if_neg h]
theorem mv_0 {z : Sg} : mvZ z 0 = z := by
  unfold mvZ
  refine Prod.ext rfl ?_
  funext k
  show (if k = 19 then _ else if k = 16 ∨ k = 17 then _ else _) = _
  by_cases h : k = 19
  · rw [if_pos h, h]; funext i; exact if_neg (Nat.not_lt_zero _)
  · rw [if_neg h]
    by_cases h2 : k = 16 ∨ k = 17
    · rw [if_pos h2]; funext i; exact if_neg (Nat.not_lt_zero _)
    · rw [if_neg h2]
theorem mv_s {z : Sg} {n : Nat} : uA (uA (uA (mvZ z n) 19 n ((mvZ z n).2 16 n)) 16 n 0) 17 n 0 = mvZ z (n + 1) := by
  have e16 : (mvZ z n).2 16 n = z.2 16 n := by
    show (if n < n then 0 else z.2 16 n) = _
    exact if_neg (Nat.lt_irrefl _)
  rw [e16]
  refine Prod.ext rfl ?_
  funext k
  have key : ∀ (A B : Nat → Int32) (c : Int32) (i : Nat), c = A n → va_up (fun i => if i < n then A i else B i) n c i = if i < n + 1 then A i else B i := by
    intro A B c i hc
    unfold va_up
    by_cases hi : i = n
    · rw [if_pos hi, if_pos (by omega), hi, hc]
    · rw [if_neg hi]
      show (if i < n then A i else B i) = _
      by_cases h2 : i < n
      · rw [if_pos h2, if_pos (by omega)]
      · rw [if_neg h2, if_neg (by omega)]
  by_cases h : k = 17
  · subst h
    rw [uA_at, uA_ne (by decide), uA_ne (by decide)]
    funext i
    exact key (fun _ => 0) (z.2 17) 0 i rfl
  · by_cases h2 : k = 16
    · subst h2
      rw [uA_ne (by decide), uA_at, uA_ne (by decide)]
      funext i
      exact key (fun _ => 0) (z.2 16) 0 i rfl
    · by_cases h3 : k = 19
      · subst h3
        rw [uA_ne (by decide), uA_ne (by decide), uA_at]
        funext i
        exact key (z.2 16) (z.2 19) _ i rfl
      · rw [uA_ne h, uA_ne h2, uA_ne h3]
        show (if k = 19 then _ else if k = 16 ∨ k = 17 then _ else _) = (if k = 19 then _ else if k = 16 ∨ k = 17 then _ else _)
        rw [if_neg h3, if_neg (by omega), if_neg h3, if_neg (by omega)]
theorem be_row {z : Sg} {k : Nat} (h : k ≠ 16 ∧ k ≠ 17 ∧ k ≠ 19 ∧ k ≠ 20) : (beZ z).2 k = z.2 k := by
  show (if k = 19 then _ else if k = 16 ∨ k = 17 then _ else (if k = 20 then _ else _)) = _
  rw [if_neg (by omega), if_neg (by omega), if_neg (by omega)]
  rfl
theorem be_sc {z : Sg} {k : Nat} (h : k ≠ 0) : (beZ z).1 k = z.1 k := by
  show (uS z 0 (z.1 0 + 1)).1 k = _
  rw [uS_get, if_neg h]
theorem be_0 {z : Sg} : (beZ z).1 0 = z.1 0 + 1 := by
  show (uS z 0 (z.1 0 + 1)).1 0 = _
  rw [uS_get, if_pos rfl]
theorem t0_be {z : Sg} : T0 (beZ z) z := ⟨be_sc (by decide), be_row (by decide), be_row (by decide), be_row (by decide)⟩
theorem be_ok {z : Sg} {t : Nat} (h : IV z) (ht : t < 6000) (e : z.1 0 = nI t) : IV (beZ z) ∧ FN (beZ z) := by
  have en : nR (beZ z) = nR z := t0_nR t0_be
  have z16 : ∀ v, v < 16 → (beZ z).2 16 v = 0 := fun v hv => if_pos hv
  have z17 : ∀ v, v < 16 → (beZ z).2 17 v = 0 := fun v hv => if_pos hv
  have z19 : ∀ v, v < 16 → (beZ z).2 19 v = z.2 16 v := fun v hv => if_pos hv
  refine ⟨⟨⟨?_, ?_, ?_⟩, ?_, ?_⟩, ?_⟩
  · obtain ⟨h1, h2, h3, h4, h5, h6⟩ := h.1.1
    unfold WF
    rw [en, be_sc (by decide), be_row (by decide), be_row (by decide), be_row (by decide), be_row (by decide), be_0, e]
    exact ⟨h1, ⟨t + 1, by omega, nI_1 t⟩, h3, h4, h5, h6⟩
  · intro v hv
    rw [z16 v hv, z17 v hv]
    exact ⟨0, 0, Nat.le_refl _, by decide, rfl, rfl⟩
  · unfold jbk
    rw [en, be_row (by decide), be_row (by decide)]
    exact h.1.2.2
  · intro v i hv hi
    unfold mN at hi
    rw [z16 v hv] at hi
    exact absurd hi (Nat.not_lt_zero _)
  · intro k hk
    rw [t0_Wd t0_be]
    exact h.2.2 k (by rw [← en]; exact hk)
  · intro v hv
    obtain ⟨c1, c2⟩ := cnt_mN h.1.2.1 hv
    have e1 : nN (beZ z) v = mN z v := by
      unfold nN mN
      rw [z19 v hv]
    refine ⟨⟨by rw [e1]; exact c1, by rw [e1, z19 v hv]; exact c2⟩, fun i hi => ?_⟩
    rw [en]
    rw [e1] at hi
    refine fok_cong (fun j hj => ?_) (h.2.1 v i hv hi)
    show z.2 18 (8 * (40 * v + i) + j) = (if 8 * (40 * v + i) + j < 5120 then z.2 18 (8 * (40 * v + i) + j) else z.2 20 (8 * (40 * v + i) + j))
    rw [if_pos (by omega)]
section
variable {x : Nat} {G : Hp} {z w : Sg} {r p q g s y k f h v : Nat} {a : Nat → Int32}
theorem dl1_ok (hI : IV z) (h1 : r < nR z) (ha : fok (nR z) a) : IV (dl1 a v z r) ∧ TE (dl1 a v z r) z := by
  unfold dl1
  rcases pOn_ok z r (nI v) with e | ⟨p, hp, e⟩
  · rw [e, decide_eq_false (fun q => q.1 rfl)]
    exact ⟨hI, te_rf⟩
  · rw [e, nI_clamp (by omega)]
    obtain ⟨b1, b2⟩ := co_ok hI h1 hp ha
    exact ⟨IV_c (fun _ => b1) (fun _ => hI), te_c b2 te_rf⟩
theorem dh1_ok (hI : IV z) : IV (dh1 a v z h) ∧ TE (dh1 a v z h) z := ⟨IV_c (fun _ => (hs_ok hI).1) (fun _ => hI), te_c (hs_ok hI).2 te_rf⟩
theorem dlR_ok (hI : IV z) (ha : fok (nR z) a) : ∀ n, n ≤ nR z → IV (fo (fun z r => dl1 a v z r) z n) ∧ TE (fo (fun z r => dl1 a v z r) z n) z := fo_IV (fun y i hy ty hi => dl1_ok hy (by rw [te_nR ty]; exact hi) (by rw [te_nR ty]; exact ha)) hI
theorem dlH_ok (hI : IV z) : ∀ n, n ≤ 16 → IV (fo (fun z h => dh1 a v z h) z n) ∧ TE (fo (fun z h => dh1 a v z h) z n) z := fo_IV (fun y i hy _ _ => dh1_ok hy) hI
theorem dl_ok (hI : IV z) (ha : fok (nR z) a) : IV (dlZ z v a) ∧ TE (dlZ z v a) z := by
  obtain ⟨b1, b2⟩ := dlR_ok (v := v) hI ha (nR z) (Nat.le_refl _)
  obtain ⟨c1, c2⟩ := dlH_ok (a := a) (v := v) b1 16 (Nat.le_refl _)
  exact ⟨c1, te_tr c2 b2⟩
theorem dw_ok (hI : IV z) (hN : FN z) (hv : v < 16) : ∀ n, n ≤ nN z v → IV (fo (fun z i => dlZ z v (fA z v i)) z n) ∧ TE (fo (fun z i => dlZ z v (fA z v i)) z n) z :=
  fo_IV (fun y i hy ty hi => dl_ok hy (by rw [te_nR ty, te_fA ty]; exact (hN v hv).2 i hi)) hI
theorem ds_ok (hI : IV z) (hN : FN z) : ∀ n, n ≤ 16 → IV (fo (fun z v => dwZ v z) z n) ∧ TE (fo (fun z v => dwZ v z) z n) z :=
  fo_IV (fun y i hy ty hi => by
    have := dw_ok hy (te_FN ty hN) hi (nN y i) (Nat.le_refl _)
    exact this) hI
theorem tms_ok (hI : IV z) : ∀ n, n ≤ nR z → IV (fo (fun z r => tmZ z r) z n) ∧ TE (fo (fun z r => tmZ z r) z n) z := by
  refine fo_IV (fun y i hy ty hi => ?_) hI
  have h1 : i < nR y := by rw [te_nR ty]; exact hi
  obtain ⟨-, t⟩ := tm_ok hy.1 h1
  refine ⟨?_, t⟩
  obtain ⟨a1, t1⟩ := fo_IV (f := fun z p => heZ z i p) (N := 4) (fun u j hu tu _ => ⟨IV_he hu (by rw [te_nR tu]; exact h1), (he_ok hu.1).2⟩) hy 4 (Nat.le_refl _)
  have n1 := te_nR t1
  obtain ⟨a2, t2⟩ := fo_IV (f := fun z p => quZ z i p) (N := 4) (fun u j hu _ _ => ⟨IV_qu hu, (qu_ok hu.1).2⟩) a1 4 (Nat.le_refl _)
  have n2 := te_nR t2
  obtain ⟨a3, t3⟩ := fo_IV (f := fun z g => bdG z i g) (N := 8) (fun u j hu _ _ => fo_IV (f := fun z s => bdZ z i j s) (N := 16) (fun u2 j2 hu2 _ _ => ⟨IV_bd hu2, te_bd⟩) hu 16 (Nat.le_refl _)) a2 8 (Nat.le_refl _)
  have n3 := te_nR t3
  obtain ⟨a4, t4⟩ := fo_IV (f := fun z g => cmG z i g) (N := 8) (fun u j hu tu hj => fo_IV (f := fun z s => cmZ z i j s) (N := 17) (fun u2 j2 hu2 tu2 hj2 => ⟨IV_cm hu2 (by rw [te_nR tu2, te_nR tu, n3, n2, n1]; exact h1) hj hj2, te_cm⟩) hu 17 (Nat.le_refl _)) a3 8 (Nat.le_refl _)
  have n4 := te_nR t4
  obtain ⟨a5, t5⟩ := fo_IV (f := fun z g => rmG z i g) (N := 8) (fun u j hu tu hj => fo_IV (f := fun z s => rmZ z i j s) (N := 16) (fun u2 j2 hu2 tu2 hj2 => ⟨IV_rm hu2 (by rw [te_nR tu2, te_nR tu, n4, n3, n2, n1]; exact h1) hj hj2, te_rm⟩) hu 16 (Nat.le_refl _)) a4 8 (Nat.le_refl _)
  exact a5
theorem ans_ok (hI : IV z) : ∀ n, n ≤ 16 → IV (fo (fun z h => anZ z h) z n) ∧ TE (fo (fun z h => anZ z h) z n) z := fo_IV (fun y i hy _ _ => an_ok hy) hI
theorem one_ok {t : Nat} (hI : IV z) (ht : t < 6000) (e : z.1 0 = nI t) : IV (oneZ z) ∧ TE (oneZ z) (beZ z) := by
  obtain ⟨a1, a2⟩ := be_ok hI ht e
  obtain ⟨b1, b2⟩ := ds_ok a1 a2 16 (Nat.le_refl _)
  have en : nR (dsZ (beZ z)) = nR z := (te_nR b2).trans (t0_nR t0_be)
  obtain ⟨c1, c2⟩ := tms_ok b1 (nR z) (by rw [show nR (fo (fun z v => dwZ v z) (beZ z) 16) = nR z from en]; exact Nat.le_refl _)
  obtain ⟨d1, d2⟩ := ans_ok c1 16 (Nat.le_refl _)
  exact ⟨d1, te_tr d2 (te_tr c2 b2)⟩
end
