/-! frames that wait are well formed -/
def f8 (a0 a1 a2 a3 a4 a5 a6 a7 : Int32) : Nat → Int32
  | 0 => a0
  | 1 => a1
  | 2 => a2
  | 3 => a3
  | 4 => a4
  | 5 => a5
  | 6 => a6
  | _ => a7
def mN (z : Sg) (v : Nat) : Nat := (z.2 16 v).toNatClampNeg
def FO (z : Sg) : Prop := ∀ v i, v < 16 → i < mN z v → fok (nR z) (fun j => z.2 18 (8 * (40 * v + i) + j))
def DB (z : Sg) : Prop := ∀ k, k < 26 * nR z → ∃ d, Wd z k = nI d ∧ (d = 1000000 ∨ d < 9999)
def IV (z : Sg) : Prop := MO z ∧ FO z ∧ DB z
theorem te_DB {z z' : Sg} (h : TE z' z) (k : DB z) : DB z' := fun i hi => by rw [te_Wd h]; exact k i (by rw [← te_nR h]; exact hi)
theorem wr8_in {z : Sg} {i : Nat} {a0 a1 a2 a3 a4 a5 a6 a7 : Int32} : ∀ j, j < 8 → (wr8 z i a0 a1 a2 a3 a4 a5 a6 a7).2 18 (i + j) = f8 a0 a1 a2 a3 a4 a5 a6 a7 j := by
  intro j hj
  unfold wr8
  match j, hj with
  | 0, _ => simp [uA_get, f8]
  | 1, _ => simp [uA_get, f8]
  | 2, _ => simp [uA_get, f8]
  | 3, _ => simp [uA_get, f8]
  | 4, _ => simp [uA_get, f8]
  | 5, _ => simp [uA_get, f8]
  | 6, _ => simp [uA_get, f8]
  | 7, _ => simp [uA_get, f8]
theorem wr8_out {z : Sg} {i k : Nat} {a0 a1 a2 a3 a4 a5 a6 a7 : Int32} (h : k < i ∨ i + 8 ≤ k) : (wr8 z i a0 a1 a2 a3 a4 a5 a6 a7).2 18 k = z.2 18 k := by
  unfold wr8
  simp only [uA_get]
  rw [if_neg (by omega), if_neg (by omega), if_neg (by omega), if_neg (by omega), if_neg (by omega), if_neg (by omega), if_neg (by omega), if_neg (by omega)]
theorem cnt_mN {z : Sg} (hc : cnt z) {v : Nat} (hv : v < 16) : mN z v ≤ 40 ∧ z.2 16 v = nI (mN z v) := by
  obtain ⟨m, c, h1, h2, h3, h4⟩ := hc v hv
  unfold mN
  rw [h3, nI_clamp (by omega)]
  exact ⟨by omega, rfl⟩
theorem FO_eq {z z' : Sg} (h : FO z) (h1 : z'.1 1 = z.1 1) (r16 : z'.2 16 = z.2 16) (r18 : z'.2 18 = z.2 18) : FO z' := by
  unfold FO mN nR at h ⊢
  rw [h1, r16, r18]
  exact h
theorem FO_pu {z : Sg} {v a0 a1 a2 a3 a4 a5 a6 a7 : Int32} (hc : cnt z) (h : FO z) (hf : fok (nR z) (f8 a0 a1 a2 a3 a4 a5 a6 a7)) : FO (pu z v a0 a1 a2 a3 a4 a5 a6 a7).2 := by
  have hnr : nR (pu z v a0 a1 a2 a3 a4 a5 a6 a7).2 = nR z := te_nR te_pu
  intro u i hu hi
  rw [hnr]
  revert hi
  unfold pu
  split
  · exact fun hi => h u i hu hi
  · split
    · split
      · exact fun hi => h u i hu hi
      · rename_i c1 c2 c3
        intro hi
        obtain ⟨m, c, b1, b2, b3, b4⟩ := hc u hu
        have em : mN z u = m := by unfold mN; rw [b3, nI_clamp (by omega)]
        generalize hn : v.toNatClampNeg = n at *
        change i < mN (ptZ z n a0 a1 a2 a3 a4 a5 a6 a7) u at hi
        show fok (nR z) (fun j => (ptZ z n a0 a1 a2 a3 a4 a5 a6 a7).2 18 (8 * (40 * u + i) + j))
        have e18 : (ptZ z n a0 a1 a2 a3 a4 a5 a6 a7).2 18 = (wr8 z (8 * (40 * n + mN z n)) a0 a1 a2 a3 a4 a5 a6 a7).2 18 := by
          unfold ptZ mN
          rw [uS_2, uA_ne (by decide), uA_ne (by decide)]
        have e16 : (ptZ z n a0 a1 a2 a3 a4 a5 a6 a7).2 16 u = if u = n then z.2 16 n + 1 else z.2 16 u := by
          unfold ptZ
          rw [uS_2, uA_ne (by decide), uA_get, wr8_ne (by decide)]
        rw [e18]
        by_cases he : u = n
        · subst he
          have hc40 : c < 40 := by
            rcases Nat.lt_or_ge c 40 with h | h
            · exact h
            · exact absurd (by rw [b4, show c = 40 by omega]; rfl) c3
          have hi2 : i < m + 1 := by
            unfold mN at hi
            rw [e16, if_pos rfl, b3, nI_1, nI_clamp (by omega)] at hi
            exact hi
          rw [em]
          by_cases hie : i = m
          · subst hie
            exact fok_cong (fun j hj => (wr8_in j hj).symm) hf
          · refine fok_cong (fun j hj => ?_) (h u i hu (by omega))
            show _ = (wr8 z (8 * (40 * u + m)) a0 a1 a2 a3 a4 a5 a6 a7).2 18 (8 * (40 * u + i) + j)
            rw [wr8_out (by omega)]
        · have hi2 : i < m := by
            unfold mN at hi
            rw [e16, if_neg he, b3, nI_clamp (by omega)] at hi
            exact hi
          refine fok_cong (fun j hj => ?_) (h u i hu (by omega))
          show _ = (wr8 z (8 * (40 * n + mN z n)) a0 a1 a2 a3 a4 a5 a6 a7).2 18 (8 * (40 * u + i) + j)
          rw [wr8_out]
          rcases Nat.lt_or_ge n u with hlt | hge
          · obtain ⟨m', c', d1, d2, d3, d4⟩ := hc n (by omega)
            have em' : mN z n = m' := by unfold mN; rw [d3, nI_clamp (by omega)]
            have hc40 : c' < 40 := by
              rcases Nat.lt_or_ge c' 40 with h | h
              · exact h
              · exact absurd (by rw [d4, show c' = 40 by omega]; rfl) c3
            omega
          · omega
    · exact fun hi => h u i hu hi
theorem IV_pu {z : Sg} {v a0 a1 a2 a3 a4 a5 a6 a7 : Int32} (h : IV z) (hf : fok (nR z) (f8 a0 a1 a2 a3 a4 a5 a6 a7)) : IV (pu z v a0 a1 a2 a3 a4 a5 a6 a7).2 := ⟨MO_pu h.1, FO_pu h.1.2.1 h.2.1 hf, te_DB te_pu h.2.2⟩
theorem IV_uA {z : Sg} {k i : Nat} {v : Int32} (h : IV z) (hk : k ≠ 8 ∧ k ≠ 11 ∧ k ≠ 12 ∧ k ≠ 31 ∧ k ≠ 16 ∧ k ≠ 17 ∧ k ≠ 33 ∧ k ≠ 34 ∧ k ≠ 18 ∧ k ≠ 9 ∧ k ≠ 10 ∧ k ≠ 19 ∧ k ≠ 20) : IV (uA z k i v) := ⟨MO_uA h.1 (by omega), FO_eq h.2.1 rfl (uA_ne (by omega)) (uA_ne (by omega)), te_DB (te_uA (by omega)) h.2.2⟩
theorem IV_uS {z : Sg} {k : Nat} {v : Int32} (h : IV z) (hk : k ≠ 0 ∧ k ≠ 1) : IV (uS z k v) := ⟨MO_uS h.1 hk, FO_eq h.2.1 (by rw [uS_get, if_neg (Ne.symm hk.2)]) rfl rfl, te_DB (te_uS ⟨hk.2, hk.1⟩) h.2.2⟩
theorem IV_c {b : Bool} {y z : Sg} (h1 : b = true → IV y) (h2 : b = false → IV z) : IV (cond b y z) := by
  cases b
  · exact h2 rfl
  · exact h1 rfl
theorem IV_inc {b : Bool} {k : Nat} {z : Sg} (h : IV z) (hk : k ≠ 0 ∧ k ≠ 1) : IV (inc b k z) := IV_c (fun _ => IV_uS h hk) (fun _ => h)
theorem farS_ok {z : Sg} {r s : Nat} (hF : WF z) (hD : DB z) (h1 : r < nR z) (h4 : s < 16) : ∃ d, d ≤ 9999 ∧ farS z r s = nI d := by
  unfold farS
  by_cases h : noW z s
  · rw [if_pos h]; exact ⟨9999, Nat.le_refl _, rfl⟩
  · rw [if_neg h]
    obtain ⟨d, e, hd⟩ := hD _ (tS_lt hF h1 h4 h)
    rw [e]
    rcases hd with hd | hd
    · rw [if_neg (by rw [hd]; decide)]; exact ⟨9999, Nat.le_refl _, rfl⟩
    · refine ⟨d, by omega, ?_⟩
      rw [if_pos (show nI d < 1000000 from nI_lt (a := d) (b := 1000000) (by omega) (by decide))]
theorem farM_ok {z : Sg} {r g : Nat} (hF : WF z) (hD : DB z) (h1 : r < nR z) (h3 : g < 8) : ∃ d, d ≤ 9999 ∧ farM z r g = nI d := by
  unfold farM
  obtain ⟨d, e, hd⟩ := hD _ (tM_lt hF h1 h3)
  rw [e]
  rcases hd with hd | hd
  · rw [if_neg (by rw [hd]; decide)]; exact ⟨9999, Nat.le_refl _, rfl⟩
  · refine ⟨d, by omega, ?_⟩
    rw [if_pos (show nI d < 1000000 from nI_lt (a := d) (b := 1000000) (by omega) (by decide))]
theorem ownC_ok {z : Sg} {r g s : Nat} (hF : WF z) (hD : DB z) (h1 : r < nR z) (h3 : g < 8) (h4 : s < 16) : ∃ c q, c < 100000 ∧ q < nR z ∧ ownC z r g s = nI (100 * c + q) := by
  unfold ownC
  cases strt z r g s with
  | true =>
    obtain ⟨d, hd, e⟩ := farS_ok hF hD h1 h4
    refine ⟨d, r, by omega, h1, ?_⟩
    rw [cond_true, e, show (100 : Int32) = nI 100 from rfl, pk_mul, show (0 : Int32) = nI 0 from rfl, nI_add, nI_add]
    congr 1
    omega
  | false =>
    obtain ⟨d, hd, e⟩ := farM_ok hF hD h1 h3
    refine ⟨10000 + d, r, by omega, h1, ?_⟩
    rw [cond_false, e, show (100 : Int32) = nI 100 from rfl, pk_mul, show (1000000 : Int32) = nI 1000000 from rfl, nI_add, nI_add]
    congr 1
    omega
/-! and stay so -/
theorem bare {z : Sg} {r p : Nat} (h : IV z) (a0 a1 a2 a3 a4 a5 a6 a7 : Int32) (hf : fok (nR z) (f8 a0 a1 a2 a3 a4 a5 a6 a7)) : IV (pu z (z.2 8 (4 * r + p)) a0 a1 a2 a3 a4 a5 a6 a7).2 := IV_pu h hf
theorem k5 {n : Nat} {a b c d e f g h : Int32} : f8 a b c d e f g h 0 = a ∧ f8 a b c d e f g h 1 = b ∧ f8 a b c d e f g h 2 = c ∧ f8 a b c d e f g h 3 = d ∧ f8 a b c d e f g h 4 = e ∧ f8 a b c d e f g h 5 = f ∧ f8 a b c d e f g h 6 = g ∧ f8 a b c d e f g h 7 = h := ⟨rfl, rfl, rfl, rfl, rfl, rfl, rfl, rfl⟩
section
variable {z : Sg} {r p q g s y k : Nat}
theorem IV_kp (h : IV z) : IV (kpZ z r g s) := IV_uA h (by decide)
theorem IV_sj (h : IV z) (h1 : r < nR z) (h3 : g < 8) (hy : y < 17) (hj : z.2 33 (17 * (8 * r + g) + y) ≠ -1) : IV (sjZ z r g y) := by
  have hn := h.1.1.1
  rcases h.1.2.2 (17 * (8 * r + g) + y) (by omega) with h5 | ⟨p, q, hp, hq, e1, e2⟩
  · exact absurd h5.1 hj
  · refine IV_uA (IV_pu h ?_) (by decide)
    refine Or.inr (Or.inr (Or.inr (Or.inr (Or.inl ⟨rfl, ⟨g, h3, rfl⟩, ?_, ⟨q, hq, e2⟩, ?_⟩))))
    · refine ⟨y, hy, ?_⟩
      show (if y = 0 then -1 else nI (y - 1)) + 1 = nI y
      by_cases h0 : y = 0
      · rw [if_pos h0, h0]; rfl
      · rw [if_neg h0, nI_1, show y - 1 + 1 = y by omega]
    · show (if y = 0 then -1 else nI (y - 1)) = -1 ∨ (if y = 0 then z.2 36 (8 * r + g) else 0) = 0
      by_cases h0 : y = 0
      · exact Or.inl (if_pos h0)
      · exact Or.inr (if_neg h0)
theorem IV_sc (h : IV z) (h1 : r < nR z) (h3 : g < 8) (h4 : s < 16) : IV (scZ z r p g s) := by
  refine IV_inc (IV_pu h ?_) (by decide)
  exact Or.inr (Or.inr (Or.inr (Or.inr (Or.inr (Or.inr (Or.inr (Or.inl ⟨rfl, ⟨g, h3, rfl⟩, ⟨s, h4, rfl⟩, ownC_ok h.1.1 h.2.2 h1 h3 h4⟩)))))))
theorem IV_sd1 {out but nu li : Int32} (h : IV z) (h3 : g < 8) (h4 : s < 16) (hnu : ∃ m, m < 400 ∧ nu = nI m) (hli : 1 ≤ li → ∃ l, l ≤ 16 ∧ li = nI l) : IV (sd1 z r out but (nI g) (nI s) nu li p) := by
  unfold sd1
  split
  · exact h
  · rename_i c
    refine IV_inc (IV_pu h ?_) (by decide)
    refine Or.inr (Or.inr (Or.inr (Or.inr (Or.inr (Or.inr (Or.inl ⟨rfl, ⟨g, h3, rfl⟩, ⟨s, h4, rfl⟩, hnu, hli ?_⟩))))))
    exact Decidable.not_not.mp (fun e => c (Or.inr (Or.inr e)))
theorem IV_sdZ {out but nu li : Int32} (h : IV z) (h3 : g < 8) (h4 : s < 16) (hnu : ∃ m, m < 400 ∧ nu = nI m) (hli : 1 ≤ li → ∃ l, l ≤ 16 ∧ li = nI l) : ∀ p, IV (sdZ z r out but (nI g) (nI s) nu li p)
  | 0 => h
  | p + 1 => IV_sd1 (IV_sdZ h h3 h4 hnu hli p) h3 h4 hnu hli
theorem IV_sb9 {nu bi li : Int32} (h : IV z) (h3 : g < 8) (h4 : s < 16) (hnu : ∃ m, m < 400 ∧ nu = nI m) (hb : ∃ b1 b2, b1 ≤ 16 ∧ b2 < nR z ∧ bi = nI (16 * b1 + b2)) : IV (sbZ z r k 9 (nI g) (nI s) nu bi li).2 := by
  unfold sbZ
  split
  · exact h
  · exact IV_pu h (Or.inr (Or.inr (Or.inr (Or.inr (Or.inr (Or.inr (Or.inr (Or.inr (Or.inl ⟨rfl, ⟨g, h3, rfl⟩, ⟨s, h4, rfl⟩, hnu, hb⟩)))))))))
theorem IV_tu {nu li : Int32} {l : Nat} (h : IV z) (h1 : r < nR z) (h3 : g < 8) (h4 : s < 16) (hnu : ∃ m, m < 400 ∧ nu = nI m) (hl : l ≤ 16) (hli : li = nI l) : IV (tuZ z r g (nI s) nu li) := by
  refine IV_inc (IV_sb9 h h3 h4 hnu ⟨l, r, hl, h1, ?_⟩) (by decide)
  rw [hli, lm16, nI_add, Nat.add_comm]
theorem IV_so {to : Nat} {li : Int32} (h : IV z) (h3 : g < 8) (h4 : s < 16) (ht : to < nR z) : IV (soZ z r to (nI g) (nI s) li) := by
  unfold soZ sbZ
  split
  · exact h
  · exact IV_pu h (Or.inr (Or.inr (Or.inr (Or.inr (Or.inr (Or.inr (Or.inr (Or.inr (Or.inr ⟨rfl, ⟨g, h3, rfl⟩, ⟨s, h4, rfl⟩, rfl, ⟨to, ht, rfl⟩⟩)))))))))
theorem IV_lf (h : IV z) (h3 : g < 8) : IV (lfZ z r p g) := by
  unfold lfZ
  refine IV_c (fun _ => ?_) (fun _ => h)
  split
  · exact IV_pu h (Or.inr (Or.inl ⟨rfl, Or.inr ⟨g, h3, rfl⟩⟩))
  · exact IV_pu (IV_uA h (by decide)) (Or.inr (Or.inl ⟨rfl, Or.inr ⟨g, h3, rfl⟩⟩))
theorem IV_jc {j : Nat} {bits was frm : Int32} (h : IV z) : ∀ s, IV (jcZ z j g bits was frm s) := by
  intro s
  induction s with
  | zero => exact h
  | succ s ih =>
    show IV (jc1 (jcZ z j g bits was frm s) j g bits was frm s)
    unfold jc1
    split
    · exact IV_uA ih (by decide)
    · split
      · exact IV_uA ih (by decide)
      · exact ih
theorem IV_jo {bits : Int32} (h : IV z) : IV (joZ z r p g y bits) := by
  unfold joZ
  split
  · exact IV_jc (IV_uA h (by decide)) 16
  · exact IV_uA h (by decide)
theorem IV_pr (h : IV z) : IV (prZ z r p g y) := by
  unfold prZ
  refine IV_c (fun _ => ?_) (fun _ => h)
  split
  · exact h
  · exact IV_uA h (by decide)
theorem IV_oh {kind to bits : Int32} (h : IV z) (h1 : r < nR z) (h2 : p < 4) (h3 : g < 8) (hy : y < 17) : IV (ohZ z r p kind to g y bits) := by
  unfold ohZ
  split
  · rename_i c
    have hj : z.2 33 (17 * (8 * r + g) + y) ≠ -1 := by rw [c.1]; exact nI_m1 (by omega)
    by_cases k6 : kind = 6
    · rw [if_pos k6]
      exact IV_sj h h1 h3 hy hj
    · rw [if_neg k6]
      generalize (if y = 0 then z.2 36 (8 * r + g) else bits) = own
      by_cases c1 : bits &&& (own ^^^ (-1)) = 0
      · rw [if_pos c1]
        by_cases c2 : bits = own
        · rw [if_pos c2]
          exact IV_uA h (by decide)
        · rw [if_neg c2]
          exact h
      · rw [if_neg c1]
        exact IV_sj h h1 h3 hy hj
  · exact h
theorem IV_cl {nu : Int32} (h : IV z) (h1 : r < nR z) (h3 : g < 8) (h4 : s < 16) (hnu : ∃ a q, a < 100000 ∧ q < nR z ∧ nu = nI (100 * a + q)) : IV (clZ z r p g s nu) := by
  have h2 : IV (cond (clK z (4 * r + p) g s nu) (uA (uA z 31 (16 * (8 * (4 * r + p) + g) + s) nu) 32 (16 * (8 * (4 * r + p) + g) + s) (z.1 0 + 60)) z) := by
    refine IV_c (fun _ => IV_uA ⟨MO_31 h.1 hnu, FO_eq h.2.1 rfl (uA_ne (by decide)) (uA_ne (by decide)), te_DB (te_uA (by decide)) h.2.2⟩ (by decide)) (fun _ => h)
  have t2 : TE (cond (clK z (4 * r + p) g s nu) (uA (uA z 31 (16 * (8 * (4 * r + p) + g) + s) nu) 32 (16 * (8 * (4 * r + p) + g) + s) (z.1 0 + 60)) z) z := te_c (te_tr (te_uA (by decide)) (te_uA (by decide))) te_rf
  unfold clZ cl2
  exact IV_c (fun _ => IV_sc h2 (by rw [te_nR t2]; exact h1) h3 h4) (fun _ => h2)
theorem IV_tn {nu bits life : Int32} {b1 b2 : Nat} (h : IV z) (h1 : r < nR z) (h3 : g < 8) (h4 : s < 16) (hnu : ∃ m, m < 400 ∧ nu = nI m) (hb : bits = nI (16 * b1 + b2)) (hb1 : b1 ≤ 16) (hb2 : b2 < nR z) : IV (tnZ z r g s nu bits life) := by
  have hn := h.1.1.1
  unfold tnZ
  split
  · have e1 : (bits - bits / 16 * 16).toNatClampNeg = b2 := by
      rw [hb, show (16 : Int32) = nI 16 from rfl, pk_rem (by omega) (by decide) (by decide), nI_clamp (by omega)]
      omega
    have e2 : bits / 16 = nI b1 := by
      rw [hb, show (16 : Int32) = nI 16 from rfl, pk_div (by omega) (by decide) (by decide)]
      congr 1
      omega
    rw [e1]
    have h2 : IV (cond (strt z r g s || decide (alB z r g s = 0)) (soZ z r b2 (nI g) (nI s) 16) z) := IV_c (fun _ => IV_so h h3 h4 hb2) (fun _ => h)
    unfold tn2
    refine IV_c (fun _ => IV_kp h2) (fun _ => IV_sdZ (IV_kp h2) h3 h4 hnu ?_ 4)
    intro hli
    rw [e2] at hli ⊢
    cases b1 with
    | zero => exact absurd hli (by decide)
    | succ b1 => exact ⟨b1, by omega, nI_pred b1⟩
  · split
    · exact h
    · exact IV_sb9 h h3 h4 hnu ⟨b1, b2, hb1, hb2, hb⟩
theorem IV_st {to : Nat} {life : Int32} (h : IV z) (h3 : g < 8) (h4 : s < 16) (ht : to < nR z) : IV (stZ z r g s to life) := by
  unfold stZ
  repeat' split
  · exact IV_uA h (by decide)
  · exact h
  · exact IV_so h h3 h4 ht
theorem IV_dt {nu life : Int32} {l : Nat} (h : IV z) (h1 : r < nR z) (h3 : g < 8) (h4 : s < 16) (hnu : ∃ m, m < 400 ∧ nu = nI m) (hl : l ≤ 16) (hli : life = nI l) : IV (dtZ z r p g s nu life) := by
  have hl1 : 1 ≤ life - 1 → ∃ l, l ≤ 16 ∧ life - 1 = nI l := by
    intro hli2
    rw [hli] at hli2 ⊢
    cases l with
    | zero => exact absurd hli2 (by decide)
    | succ l => exact ⟨l, by omega, nI_pred l⟩
  have a1 : IV (dt1 z r p g s) := IV_c (fun _ => IV_kp h) (fun _ => h)
  have a2 : ∀ fs dr, IV (dt2 (dt1 z r p g s) r p g s fs dr) := fun fs dr => IV_c (fun _ => IV_uA a1 (by decide)) (fun _ => a1)
  have n2 : ∀ fs dr, nR (dt2 (dt1 z r p g s) r p g s fs dr) = nR z := fun fs dr => te_nR (te_tr te_dt2 te_dt1)
  have a3 : ∀ fs dr, IV (dt3 (dt2 (dt1 z r p g s) r p g s fs dr) r p g s nu life fs) := fun fs dr =>
    IV_c (fun _ => IV_sdZ (a2 fs dr) h3 h4 hnu hl1 4) (fun _ => IV_c (fun _ => IV_sdZ (IV_c (fun _ => IV_kp (a2 fs dr)) (fun _ => a2 fs dr)) h3 h4 hnu hl1 4) (fun _ => IV_c (fun _ => IV_sc (a2 fs dr) (by rw [n2]; exact h1) h3 h4) (fun _ => a2 fs dr)))
  unfold dtZ dt4
  exact IV_c (fun _ => IV_tu (a3 _ _) (by rw [te_nR te_dt3, n2]; exact h1) h3 h4 hnu hl hli) (fun _ => a3 _ _)
theorem IV_bd (h : IV z) : IV (bdZ z r g s) := IV_c (fun _ => IV_uA h (by decide)) (fun _ => h)
theorem IV_rm (h : IV z) (h1 : r < nR z) (h3 : g < 8) (h4 : s < 16) : IV (rmZ z r g s) := IV_c (fun _ => IV_tu (l := 0) h h1 h3 h4 ⟨0, by decide, rfl⟩ (by decide) rfl) (fun _ => h)
theorem IV_he (h : IV z) (h1 : r < nR z) : IV (heZ z r p) := IV_c (fun _ => IV_uA (IV_pu h (Or.inl ⟨rfl, r, h1, rfl⟩)) (by decide)) (fun _ => h)
theorem IV_qu (h : IV z) : IV (quZ z r p) := IV_c (fun _ => IV_uA (IV_pu h (Or.inr (Or.inl ⟨rfl, Or.inl rfl⟩))) (by decide)) (fun _ => h)
theorem IV_cm (h : IV z) (h1 : r < nR z) (h3 : g < 8) (hy : y < 17) : IV (cmZ z r g y) := by
  have hn := h.1.1.1
  have a1 : ∀ u, IV (cm1 z r g y u) := by
    intro u
    unfold cm1
    split
    · exact h
    · rename_i c
      rcases h.1.2.2 (17 * (8 * r + g) + y) (by omega) with h5 | ⟨p, q, hp, hq, e1, e2⟩
      · exact absurd (Or.inl h5.1) c
      · have a2 : IV (pu z (z.2 8 (4 * r + (z.2 33 (17 * (8 * r + g) + y)).toNatClampNeg)) 6 (nI r) (z.2 34 (17 * (8 * r + g) + y)) (nI g) (if y = 0 then -1 else nI (y - 1)) 0 0 0).2 := by
          refine IV_pu h (Or.inr (Or.inr (Or.inr (Or.inr (Or.inr (Or.inl ⟨rfl, ⟨g, h3, rfl⟩, ?_, ⟨q, hq, e2⟩⟩))))))
          refine ⟨y, hy, ?_⟩
          show (if y = 0 then -1 else nI (y - 1)) + 1 = nI y
          by_cases h0 : y = 0
          · rw [if_pos h0, h0]; rfl
          · rw [if_neg h0, nI_1, show y - 1 + 1 = y by omega]
        exact ⟨MO_3334 a2.1 (Or.inl ⟨rfl, rfl⟩), FO_eq a2.2.1 rfl (by rw [uA_ne (by decide), uA_ne (by decide)]) (by rw [uA_ne (by decide), uA_ne (by decide)]), te_DB te_3334 a2.2.2⟩
  have hu : (cond (wantY z r g y) (upY z r g y) (-1)) = -1 ∨ ∃ p q, p < 4 ∧ q < nR z ∧ (cond (wantY z r g y) (upY z r g y) (-1)) = nI (16 * p + q) := by
    cases wantY z r g y with
    | false => exact Or.inl rfl
    | true => exact upY_ok h.1.1 h1 h3 hy
  unfold cmZ
  generalize (cond (wantY z r g y) (upY z r g y) (-1)) = u at hu ⊢
  have a := a1 u
  have n1 : nR (cm1 z r g y u) = nR z := te_nR te_cm1
  unfold cm2
  split
  · exact a
  · rename_i c
    refine IV_c (fun _ => ?_) (fun _ => a)
    rcases hu with hu | ⟨p, q, hp, hq, hu⟩
    · exact absurd hu c
    · have e1 : u / 16 = nI p := by
        rw [hu, show (16 : Int32) = nI 16 from rfl, pk_div (by omega) (by decide) (by decide)]
        congr 1
        omega
      have e2 : u - u / 16 * 16 = nI q := by
        rw [hu, show (16 : Int32) = nI 16 from rfl, pk_rem (by omega) (by decide) (by decide)]
        congr 1
        omega
      have b : IV (uA (uA (cm1 z r g y u) 33 (17 * (8 * r + g) + y) (u / 16)) 34 (17 * (8 * r + g) + y) (u - u / 16 * 16)) := ⟨MO_3334 a.1 (Or.inr ⟨p, q, hp, by rw [n1]; exact hq, e1, e2⟩), FO_eq a.2.1 rfl (by rw [uA_ne (by decide), uA_ne (by decide)]) (by rw [uA_ne (by decide), uA_ne (by decide)]), te_DB te_3334 a.2.2⟩
      unfold cm3
      by_cases h0 : y = 0
      · rw [if_pos h0]
        refine IV_sj (IV_uA b (by decide)) (by rw [te_nR (te_tr (te_uA (by decide)) te_3334), n1]; exact h1) h3 hy ?_
        rw [uA_ne (by decide), uA_ne (by decide), uA_get, if_pos rfl, e1]
        exact nI_m1 (by omega)
      · rw [if_neg h0]
        refine IV_sj b (by rw [te_nR te_3334, n1]; exact h1) h3 hy ?_
        rw [uA_ne (by decide), uA_get, if_pos rfl, e1]
        exact nI_m1 (by omega)
end
