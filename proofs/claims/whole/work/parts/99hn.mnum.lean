/-! TICKS LEAVE THE NUMBER OF WHAT WAS SENT -/
def N2 (a b : Sg) : Prop := a.1 2 = b.1 2
section
variable {x y z : Sg} {r p g s k i h v j : Nat} {a : Nat → Int32}
theorem n2_rf : N2 z z := rfl
theorem n2_tr {a b c : Sg} (h : N2 a b) (k : N2 b c) : N2 a c := Eq.trans h k
theorem n2_uA {v : Int32} : N2 (uA z k i v) z := rfl
theorem n2_uS {v : Int32} (h : k ≠ 2) : N2 (uS z k v) z := by
  show (uS z k v).1 2 = _
  rw [uS_get, if_neg (fun e => h e.symm)]
theorem n2_c {b : Bool} (h1 : N2 y x) (h2 : N2 z x) : N2 (cond b y z) x := by cases b; exact h2; exact h1
theorem n2_fo {f : Sg → Nat → Sg} (hf : ∀ y i, N2 (f y i) y) : ∀ n, N2 (fo f z n) z := by
  intro n
  induction n with
  | zero => exact n2_rf
  | succ n ih => exact n2_tr (hf _ n) ih
theorem n2_pu {v a0 a1 a2 a3 a4 a5 a6 a7 : Int32} : N2 (pu z v a0 a1 a2 a3 a4 a5 a6 a7).2 z := pu_sc (by decide)
theorem n2_inc {b : Bool} (hk : k ≠ 2) : N2 (inc b k z) z := by
  cases b
  · exact n2_rf
  · exact n2_uS hk
theorem n2_sd1 {out but g s nu li : Int32} : N2 (sd1 z r out but g s nu li p) z := by
  unfold sd1
  split
  · exact n2_rf
  · exact n2_tr (n2_inc (by decide)) n2_pu
theorem n2_sdZ {out but g s nu li : Int32} : ∀ p, N2 (sdZ z r out but g s nu li p) z
  | 0 => n2_rf
  | p + 1 => n2_tr n2_sd1 (n2_sdZ p)
theorem n2_sbZ {kind g s nu bi li : Int32} : N2 (sbZ z r k kind g s nu bi li).2 z := by
  unfold sbZ
  split
  · exact n2_rf
  · exact n2_pu
theorem n2_kp : N2 (kpZ z r g s) z := n2_uA
theorem n2_sj {y : Nat} : N2 (sjZ z r g y) z := n2_tr n2_uA n2_pu
theorem n2_sc : N2 (scZ z r p g s) z := n2_tr (n2_inc (by decide)) n2_pu
theorem n2_tu {s nu li : Int32} : N2 (tuZ z r g s nu li) z := n2_tr (n2_inc (by decide)) n2_sbZ
theorem n2_so {to : Nat} {g s li : Int32} : N2 (soZ z r to g s li) z := n2_sbZ
theorem n2_cl2 {nu : Int32} : N2 (cl2 z r p g s nu) z := n2_c n2_sc n2_rf
theorem n2_tn2 {nu bits : Int32} : N2 (tn2 z r g s nu bits) z := n2_c n2_kp (n2_tr (n2_sdZ 4) n2_kp)
theorem n2_dt1 : N2 (dt1 z r p g s) z := n2_c n2_kp n2_rf
theorem n2_dt2 {fs dr : Bool} : N2 (dt2 z r p g s fs dr) z := n2_c n2_uA n2_rf
theorem n2_dt3 {nu life : Int32} {fs : Bool} : N2 (dt3 z r p g s nu life fs) z := n2_c (n2_sdZ 4) (n2_c (n2_tr (n2_sdZ 4) (n2_c n2_kp n2_rf)) (n2_c n2_sc n2_rf))
theorem n2_dt4 {nu life : Int32} {dr : Bool} : N2 (dt4 z r p g s nu life dr) z := n2_c n2_tu n2_rf
theorem n2_dt {nu life : Int32} : N2 (dtZ z r p g s nu life) z := n2_tr n2_dt4 (n2_tr n2_dt3 (n2_tr n2_dt2 n2_dt1))
theorem n2_lf : N2 (lfZ z r p g) z := by
  unfold lfZ
  refine n2_c (n2_tr n2_pu ?_) n2_rf
  split
  · exact n2_rf
  · exact n2_uA
theorem n2_jc {bits was frm : Int32} : ∀ s, N2 (jcZ z j g bits was frm s) z := by
  intro s
  induction s with
  | zero => exact n2_rf
  | succ s ih =>
    show N2 (jc1 (jcZ z j g bits was frm s) j g bits was frm s) z
    unfold jc1
    split
    · exact n2_tr n2_uA ih
    · split
      · exact n2_tr n2_uA ih
      · exact ih
theorem n2_jo {y : Nat} {bits : Int32} : N2 (joZ z r p g y bits) z := by
  unfold joZ
  split
  · exact n2_tr (n2_jc 16) n2_uA
  · exact n2_uA
theorem n2_pr {y : Nat} : N2 (prZ z r p g y) z := by
  unfold prZ
  refine n2_c ?_ n2_rf
  split
  · exact n2_rf
  · exact n2_uA
theorem n2_oh {y : Nat} {kind to bits : Int32} : N2 (ohZ z r p kind to g y bits) z := by
  unfold ohZ
  repeat' split
  all_goals first | exact n2_rf | exact n2_sj | exact n2_uA
theorem n2_cl {nu : Int32} : N2 (clZ z r p g s nu) z := n2_tr n2_cl2 (n2_c (n2_tr n2_uA n2_uA) n2_rf)
theorem n2_tn {nu bits life : Int32} : N2 (tnZ z r g s nu bits life) z := by
  unfold tnZ
  repeat' split
  · exact n2_tr n2_tn2 (n2_c n2_so n2_rf)
  · exact n2_rf
  · exact n2_sbZ
theorem n2_st {to : Nat} {life : Int32} : N2 (stZ z r g s to life) z := by
  unfold stZ
  repeat' split
  · exact n2_uA
  · exact n2_rf
  · exact n2_so
theorem n2_bd : N2 (bdZ z r g s) z := n2_c n2_uA n2_rf
theorem n2_rm : N2 (rmZ z r g s) z := n2_c n2_tu n2_rf
theorem n2_3334 {t : Nat} {a b : Int32} : N2 (uA (uA z 33 t a) 34 t b) z := rfl
theorem n2_cm3 {y : Nat} {u bits : Int32} : N2 (cm3 z r g y u bits) z := by
  unfold cm3
  refine n2_tr n2_sj ?_
  split
  · exact n2_tr n2_uA n2_3334
  · exact n2_3334
theorem n2_cm2 {y : Nat} {u : Int32} : N2 (cm2 z r g y u) z := by
  unfold cm2
  split
  · exact n2_rf
  · exact n2_c n2_cm3 n2_rf
theorem n2_cm1 {y : Nat} {u : Int32} : N2 (cm1 z r g y u) z := by
  unfold cm1
  split
  · exact n2_rf
  · exact n2_tr n2_3334 n2_pu
theorem n2_cm {y : Nat} : N2 (cmZ z r g y) z := n2_tr n2_cm2 n2_cm1
theorem n2_he : N2 (heZ z r p) z := n2_c (n2_tr n2_uA n2_pu) n2_rf
theorem n2_qu : N2 (quZ z r p) z := n2_c (n2_tr n2_uA n2_pu) n2_rf
theorem n2_tm : N2 (tmZ z r) z := n2_tr (n2_fo (fun _ _ => n2_fo (fun _ _ => n2_rm) _) _) (n2_tr (n2_fo (fun _ _ => n2_fo (fun _ _ => n2_cm) _) _) (n2_tr (n2_fo (fun _ _ => n2_fo (fun _ _ => n2_bd) _) _) (n2_tr (n2_fo (fun _ _ => n2_qu) _) (n2_fo (fun _ _ => n2_he) _))))
theorem n2_co : N2 (coZ z r p a) z := by
  unfold coZ
  repeat' split
  all_goals first | exact n2_rf | exact n2_uA | exact n2_lf | exact n2_jo | exact n2_oh | exact n2_pr | exact n2_dt | exact n2_cl | exact n2_tn | exact n2_st
theorem n2_hs : N2 (hsZ z h a) z := by
  unfold hsZ
  split
  · exact n2_uA
  · split
    · exact n2_c n2_uA n2_rf
    · exact n2_rf
theorem n2_an : N2 (anZ z h) z := n2_tr n2_uA (n2_fo (fun _ _ => n2_c n2_pu n2_rf) _)
theorem n2_dl : N2 (dlZ z v a) z := n2_tr (n2_fo (fun _ _ => n2_c n2_hs n2_rf) _) (n2_fo (fun _ _ => n2_c n2_co n2_rf) _)
theorem n2_ds : N2 (dsZ z) z := n2_fo (fun _ _ => n2_fo (fun _ _ => n2_dl) _) _
theorem n2_one : N2 (oneZ z) z := n2_tr (n2_fo (fun _ _ => n2_an) _) (n2_tr (n2_fo (fun _ _ => n2_tm) _) (n2_tr n2_ds (be_sc (by decide))))
theorem n2_tk {N : Int32} : N2 (tkZ z N).2 z := by
  unfold tkZ
  split
  · exact n2_rf
  · exact n2_fo (fun _ _ => n2_one) _
theorem GI_tk {N : Int32} (hG : GI z) : GI (tkZ z N).2 ∧ T0 (tkZ z N).2 z := by
  have hN := NU_eq (n2_tk (z := z) (N := N)) hG.2.2.2
  obtain ⟨t, ht, et⟩ := hG.1.1.2.1
  unfold tkZ at hN ⊢
  by_cases c : N < 1 ∨ 50 < N ∨ ¬ z.1 0 + N ≤ 6000
  · rw [if_pos c]
    exact ⟨hG, t0_rf⟩
  · rw [if_neg c] at hN ⊢
    have h1 : ¬ N < 1 := fun w => c (Or.inl w)
    have h2 : ¬ 50 < N := fun w => c (Or.inr (Or.inl w))
    have h3 : z.1 0 + N ≤ 6000 := Decidable.byContradiction (fun w => c (Or.inr (Or.inr w)))
    obtain ⟨M, hM, eM⟩ : ∃ M : Nat, M < 51 ∧ N = nI M := by
      have hpos : ¬ N < 0 := fun w => h1 (Int32.lt_of_lt_of_le w (by decide))
      obtain ⟨j, hj, e⟩ := nI_of hpos
      refine ⟨j, ?_, e⟩
      rcases Nat.lt_or_ge j 51 with o | o
      · exact o
      · exfalso
        rw [e] at h2
        exact h2 (nI_lt (a := 50) (by omega) hj)
    rw [eM, et, nI_add] at h3
    have hN6 : t + M ≤ 6000 := (nI_leI (b := 6000) (by omega) (by decide)).mp h3
    have e : N.toNatClampNeg = M := by rw [eM, nI_clamp (by omega)]
    rw [e] at hN ⊢
    obtain ⟨a, b, d⟩ := ones_ok hG.iv et M hN6
    exact ⟨⟨a.1, a.2.1, CO_t0 b hG.2.2.1, hN⟩, b⟩
end
