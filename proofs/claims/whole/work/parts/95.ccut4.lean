/-! THE CLASS: cut() -/
section
variable {L : Ly} {G : Hp} {n : Nat} {st : Int32} {V : Vt} {Q : Qt} {z : Sg} {r p q g s x y m v i h k : Nat}
theorem MO_fq (hO : MO z) : MO (fqZ z r p) := by
  refine ⟨⟨hO.1.1, hO.1.2.1, ?_, ?_, ?_, ?_⟩, ?_, ?_⟩
  · rw [fq_row (by decide)]; exact hO.1.2.2.1
  · rw [fq_row (by decide)]; exact hO.1.2.2.2.1
  · intro i hi
    show (if i / 128 = 4 * r + p ∧ i % 128 < 128 then (-1 : Int32) else z.2 31 i) = -1 ∨ ∃ a q, a < 100000 ∧ q < nR z ∧ (if i / 128 = 4 * r + p ∧ i % 128 < 128 then (-1 : Int32) else z.2 31 i) = nI (100 * a + q)
    by_cases e : i / 128 = 4 * r + p ∧ i % 128 < 128
    · rw [if_pos e]
      exact Or.inl rfl
    · rw [if_neg e]
      exact hO.1.2.2.2.2.1 i hi
  · rw [fq_row (by decide)]; exact hO.1.2.2.2.2.2
  · intro w hw
    rw [fq_row (by decide), fq_row (by decide)]
    exact hO.2.1 w hw
  · intro t ht
    rw [fq_row (by decide), fq_row (by decide)]
    exact hO.2.2 t ht
theorem C_cut59 (hL : LY L G n Q) (hI : GI z) (hnr : nR z = n) (hv : v < 16) : ∀ (N r : Nat) (V : Vt), r ≤ n → n - r < N → RC n st V Q (fo (fun z r => cu1 (nI v) z r) z r) → ∃ V', d_X8_cut_59 N (L.1 0 0 0) (L.1 5 v 0) (nI r) (eK L G V (RF n L Q)) = some (1, eK L G V' (RF n L Q)) ∧ RC n st V' Q (fo (fun z r => cu1 (nI v) z r) z n) := by
  intro N
  induction N with
  | zero => intro r V _ h; omega
  | succ N ih =>
    intro r V hr hlt hR
    have hn := hR.nn.2.2.2
    have hn1 := hR.nn.2.2.1
    rw [d_X8_cut_59.eq_2]
    simp (disch := first | omega | assumption) only [eK_hc, eK_hl, yK0 hL, iK0 hL, rK0_0 hL, rK0_1 hL, rK0_2 hL, yK4_1 hL, iK4_1 hL, lK4_1 hL, rK4_1 hL, lm4, lm8, lm10, lm16, lm17, lm26, lm40, lm400, nI_add, nI_1, ix_nI, nI_clamp, gd_T, gd_t, bd_e, bo_e, b2_e, true_and, and_true]
    by_cases he : r = n
    · subst he
      rw [if_pos (nI_le (by omega) (by omega))]
      exact ⟨V, rfl, hR⟩
    · have hrn : r < n := by omega
      rw [if_neg (nI_ge hrn (by omega))]
      have hIs := cu_st (v := nI v) hI r (by omega)
      have hi := ih (r + 1)
      rw [fo_s] at hi
      generalize hY : fo (fun z r => cu1 (nI v) z r) z r = Y at hR hIs hi
      simp (disch := first | omega | assumption) only [eK_hc, eK_hl, yK5 hL, iK5 hL, rK5_1 hL, rK5_3 hL, rK5_4 hL, yK6 hL, iK6 hL, lK6 hL, yK9 hL, iK9 hL, rK9_0 hL, rK9_2 hL, rK9_3 hL, lm4, lm8, lm10, lm16, lm17, lm26, lm40, lm400, nI_add, nI_1, ix_nI, nI_clamp, gd_T, gd_t, bd_e, bo_e, b2_e, true_and, and_true, rK4_1 hL hrn, hR.po v r hv hrn, pOr_e]
      unfold cu1 at hi
      rcases pOn_ok Y r (nI v) with e | ⟨p, hp, e⟩
      · rw [e, decide_eq_false (fun w => w rfl), cond_false] at hi
        unfold d_X4_forgetPort
        rw [e, C_isIn4, inR_m1, bo_e, if_pos (show bI false = 0 by decide), bo_e]
        exact hi V (by omega) (by omega) hR
      · have hu : qpw Q (4 * r + p) ≠ -1 := by
          rw [hR.qw, pOn_pl hp e]
          exact nI_m1 (by omega)
        obtain ⟨V1, e1, hR1⟩ := C_forgetPort hL hR hIs.1.1 (MO_fq hIs.1.1) hrn hp hu
        rw [e, decide_eq_true (show nI p ≠ -1 from nI_m1 (by omega)), cond_true, tn_n (show p < 2 ^ 31 by omega)] at hi
        rw [e, e1, bo_e]
        exact hi V1 (by omega) (by omega) hR1
theorem C_cut {a : Int32} (hL : LY L G n Q) (hC : RC n st V Q z) (hI : GI z) : ∃ V' st', d_X8_cut (L.1 0 0 0) a (eK L G V (RF n L Q)) = some (bI (cuB z a), eK L G V' (RF n L Q)) ∧ RC n st' V' Q (cond (cuB z a) (cuZ z a) z) := by
  unfold d_X8_cut cuB
  rw [C_isIn16, bo_e, ite_bI]
  cases ha : inR a 16 with
  | false => exact ⟨V, st, rfl, hC⟩
  | true =>
    obtain ⟨v, hv, rfl⟩ := inR_t (by decide) ha
    rw [cond_true, Bool.true_and, tn_n (show v < 2 ^ 31 by omega)]
    simp (disch := first | omega | assumption) only [eK_hc, eK_hl, yK0 hL, iK0 hL, rK0_0 hL, rK0_1 hL, rK0_2 hL, yK1 hL, iK1 hL, rK1_0 hL, rK1_1 hL, rK1_2 hL, rK1_3 hL, yK4_0 hL, iK4_0 hL, lK4_0 hL, rK4_0 hL, lm4, lm8, lm10, lm16, lm17, lm26, lm40, lm400, nI_add, nI_1, ix_nI, nI_clamp, gd_T, gd_t, bd_e, bo_e, b2_e, true_and, and_true]
    simp (disch := first | omega | assumption) only [eK_hc, eK_hl, yK5 hL, iK5 hL, rK5_1 hL, rK5_3 hL, rK5_4 hL, gd_T, gd_t, bd_e, bo_e, b2_e, true_and, and_true, (hC.wi v hv).2.1, ite_bI]
    by_cases hu : z.2 10 v = 0
    · rw [decide_eq_true hu, cond_true, cond_true]
      rw [wK5 hL hv, eK_hc, gd_t (yK5 hL hv), wK5 hL hv, uR_s, uR_uR, eK_hc, gd_t (yK0 hL), rK0_0 hL, gd_t (yK1 hL), rK1_1 hL, gd_t (yK2 hL), wK2 hL]
      have hR : RC n 1 (uR (uR V 5 v 0 (va_up (va_up (V 5 v 0) 2 0) 6 0)) 2 0 0 (va_up (uR V 5 v 0 (va_up (va_up (V 5 v 0) 2 0) 6 0) 2 0 0) 6 1)) Q (uA (uA z 10 v 1) 16 v 0) := by
        have k10 : ∀ w, (uA (uA z 10 v 1) 16 v 0).2 10 w = if w = v then 1 else z.2 10 w := fun w => by rw [uA_ne (by decide), uA_get]
        have k16 : ∀ w, (uA (uA z 10 v 1) 16 v 0).2 16 w = if w = v then 0 else z.2 16 w := fun w => by rw [uA_get, uA_ne (by decide)]
        have ewi : cWi (uR V 5 v 0 (va_up (va_up (V 5 v 0) 2 0) 6 0) 5) ((uA (uA z 10 v 1) 16 v 0).2 10) ((uA (uA z 10 v 1) 16 v 0).2 16) (z.2 17) (z.2 19) := by
          intro w hw
          obtain ⟨c0, c2, c6, c7, c5⟩ := hC.wi w hw
          rw [uR_at, k10, k16]
          by_cases e : w = v
          · subst e
            rw [if_pos ⟨rfl, rfl⟩, if_pos rfl, if_pos rfl, vu_n (by decide), vu_n (by decide)]
            exact ⟨c0, rfl, rfl, c7, c5⟩
          · rw [if_neg (fun q => e q.1), if_neg e, if_neg e]
            exact ⟨c0, c2, c6, c7, c5⟩
        have esu : cSu (uR V 5 v 0 (va_up (va_up (V 5 v 0) 2 0) 6 0) 5) (z.1 3) (z.1 4) (z.1 5) (z.1 7) := by
          obtain ⟨s8, s9, s10, s11⟩ := hC.su
          refine ⟨?_, ?_, ?_, ?_⟩
          · rw [sm_uR hv (d := 0) (by rw [vu_n (by decide), vu_n (by decide), Int32.add_zero]), s8, Int32.add_zero]
          · rw [sm_uR hv (d := 0) (by rw [vu_n (by decide), vu_n (by decide), Int32.add_zero]), s9, Int32.add_zero]
          · rw [sm_uR hv (d := 0) (by rw [vu_n (by decide), vu_n (by decide), Int32.add_zero]), s10, Int32.add_zero]
          · rw [sm_uR hv (d := 0) (by rw [vu_n (by decide), vu_n (by decide), Int32.add_zero]), s11, Int32.add_zero]
        have enn : uR (uR V 5 v 0 (va_up (va_up (V 5 v 0) 2 0) 6 0)) 2 0 0 (va_up (uR V 5 v 0 (va_up (va_up (V 5 v 0) 2 0) 6 0) 2 0 0) 6 1) 2 0 0 0 = nI n := by
          rw [uR_s, vu_n (by decide), uR_ne (by decide)]
          exact hC.nn.2.1
        have ens : uR (uR V 5 v 0 (va_up (va_up (V 5 v 0) 2 0) 6 0)) 2 0 0 (va_up (uR V 5 v 0 (va_up (va_up (V 5 v 0) 2 0) 6 0) 2 0 0) 6 1) 2 0 0 6 = 1 := by rw [uR_s, vu_s]
        have efr : cFr Q (V 8) ((uA (uA z 10 v 1) 16 v 0).2 16) (z.2 18) := by
          intro w i k hw hm hi hk
          rw [k16] at hi
          by_cases e : w = v
          · rw [if_pos e] at hi
            exact absurd hi (Nat.not_lt_zero _)
          · rw [if_neg e] at hi
            exact hC.fr w i k hw hm hi hk
        have eme : cMe Q ((uA (uA z 10 v 1) 16 v 0).2 16) (z.2 19) := by
          intro w hw hm
          rw [k16]
          split
          · exact ⟨rfl, (hC.me w hw hm).2⟩
          · exact hC.me w hw hm
        exact ⟨hC.tm, hC.nu, hC.tu, (⟨hC.nn.1, enn, hC.nn.2.2⟩), (ens), hC.qw, hC.qh, hC.wa, hC.mt, hC.hz, (ewi), (esu), hC.po, (efr), hC.fc, hC.pi, hC.md, (eme), hC.fn, hC.id, hC.jb, hC.ja, hC.tc, hC.kp, hC.sp, hC.sb, hC.pt, hC.he, hC.qu, hC.nt, (cNb_c hC.nb rfl rfl rfl), hC.mb, hC.jt, hC.cf, hC.cl, hC.ho, hC.go, hC.k33, hC.k39, hC.k37, hC.k29, hC.k28, hC.k31, hC.k30, hC.un, hC.on, hC.u2, hC.g0, hC.jp, (fun q => absurd q (by decide))⟩
      obtain ⟨V1, e1, hR1⟩ := C_cut59 hL (GI_cu0 hI hv) hR.nr hv FU 0 _ (by omega) (by have := hR.nn.2.2.2; show _ < 6000; omega) hR
      rw [nI_0] at e1
      rw [e1]
      refine ⟨V1, 1, rfl, RCe hR1 ?_⟩
      show _ = cuZ z (nI v)
      unfold cuZ
      rw [tn_n (show v < 2 ^ 31 by omega), hC.nr]
    · rw [decide_eq_false hu, cond_false]
      exact ⟨V, st, rfl, hC⟩
end
