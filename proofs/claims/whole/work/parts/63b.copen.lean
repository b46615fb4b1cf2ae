section
variable {L : Ly} {G : Hp} {n : Nat} {st : Int32} {V : Vt} {Q : Qt} {z : Sg} {v : Nat}
theorem C_begin {f : Nat} {kd se : Int32} {R : Rt} (hL : LY L G n Q) (h1 : v < 16) (h2 : f < 80) (h3 : qmd Q v = true) : ∃ b, (∀ k, k < 8 → b k = f8 kd se (-1) (-1) (-1) 0 0 0 k) ∧ d_X0_begin (L.1 8 v f) kd se (eK L G V R) = some (eK L G (uR V 8 v f b) R) := by
  unfold d_X0_begin
  simp (disch := first | omega | assumption) only [eK_hc, yK8 hL, wK8 hL, uR_s, uR_uR, gd_T, gd_t, bd_e, bo_e, b2_e, true_and, and_true]
  refine ⟨_, fun k hk => ?_, rfl⟩
  have : k = 0 ∨ k = 1 ∨ k = 2 ∨ k = 3 ∨ k = 4 ∨ k = 5 ∨ k = 6 ∨ k = 7 := by omega
  rcases this with e | e | e | e | e | e | e | e <;> subst e <;> rfl
theorem C_open {kd se : Int32} (hL : LY L G n Q) (hC : RC n st V Q z) (hO : cnt z) (h1 : v < 16) (hm : qmd Q v = true) :
    (∃ V1 f, puT z v ∧ f < 80 ∧ d_X7_open (L.1 5 v 0) kd se (eK L G V (RF n L Q)) = some (L.1 8 v f, eK L G V1 (RF n L Q)) ∧ (∀ k, k < 8 → V1 8 v f k = f8 kd se (-1) (-1) (-1) 0 0 0 k) ∧ (∀ c, c ≠ 8 → c ≠ 5 → V1 c = V c) ∧ (∀ a i, a < 16 → qmd Q a = true → i < (z.2 19 a).toNatClampNeg → ¬ (a = v ∧ qpi Q a (1 - qcu Q a) i = f) ∧ V1 8 a (qpi Q a (1 - qcu Q a) i) = V 8 a (qpi Q a (1 - qcu Q a) i)) ∧ ∀ b : Nat → Int32, b 0 = kd → b 1 = se → RC n st (uR V1 8 v f b) Q (cz (b 0) (b 1) (pu z (nI v) (b 0) (b 1) (b 2) (b 3) (b 4) (b 5) (b 6) (b 7)).2)) ∨
    (∃ V1, ¬ puT z v ∧ d_X7_open (L.1 5 v 0) kd se (eK L G V (RF n L Q)) = some (0, eK L G V1 (RF n L Q)) ∧ (∀ c, c ≠ 5 → V1 c = V c) ∧ ∀ a0 a1 a2 a3 a4 a5 a6 a7, RC n st V1 Q (pu z (nI v) a0 a1 a2 a3 a4 a5 a6 a7).2 ∧ (pu z (nI v) a0 a1 a2 a3 a4 a5 a6 a7).1 = false) := by
  obtain ⟨c0, c2, c6, c7, c5⟩ := hC.wi v h1
  unfold d_X7_open
  rw [eK_hc, gd_t (yK5 hL h1), iK5 hL h1, c2, c6, c7]
  by_cases e1 : z.2 10 v = 0
  · rw [decide_eq_true e1, if_neg (show ¬ bI true = 0 by decide)]
    by_cases e2 : z.2 17 v = 40
    · right
      have hpu : ∀ a0 a1 a2 a3 a4 a5 a6 a7, pu z (nI v) a0 a1 a2 a3 a4 a5 a6 a7 = (false, uS z 4 (z.1 4 + 1)) := by
        intro a0 a1 a2 a3 a4 a5 a6 a7
        unfold pu
        rw [if_neg (nI_m1 (by omega)), nI_clamp (by omega), if_pos e1, if_pos e2]
      rw [if_pos (show 40 ≤ z.2 17 v by rw [e2]; decide)]
      unfold d_X7_open_27
      rw [eK_hc, gd_t (yK5 hL h1), iK5 hL h1, wK5 hL h1, bd_e]
      refine ⟨_, fun w => w.2 e2, rfl, fun c hc => uR_ne hc, fun a0 a1 a2 a3 a4 a5 a6 a7 => ?_⟩
      rw [hpu]
      refine ⟨?_, rfl⟩
      have hwi : cWi (uR V 5 v 0 (va_up (V 5 v 0) 9 (V 5 v 0 9 + 1)) 5) (z.2 10) (z.2 16) (z.2 17) (z.2 19) := by
        intro a ha
        rw [uR_at]
        by_cases e : a = v
        · subst e
          rw [if_pos ⟨rfl, rfl⟩, vu_n (by decide), vu_n (by decide), vu_n (by decide), vu_n (by decide), vu_n (by decide)]
          exact hC.wi a ha
        · rw [if_neg (fun q => e q.1)]
          exact hC.wi a ha
      have hsu : cSu (uR V 5 v 0 (va_up (V 5 v 0) 9 (V 5 v 0 9 + 1)) 5) (z.1 3) (z.1 4 + 1) (z.1 5) (z.1 7) := by
        obtain ⟨s8, s9, s10, s11⟩ := hC.su
        refine ⟨?_, ?_, ?_, ?_⟩
        · rw [sm_uR h1 (d := 0) (by rw [vu_n (by decide), Int32.add_zero]), s8, Int32.add_zero]
        · rw [sm_uR h1 (d := 1) vu_s, s9]
        · rw [sm_uR h1 (d := 0) (by rw [vu_n (by decide), Int32.add_zero]), s10, Int32.add_zero]
        · rw [sm_uR h1 (d := 0) (by rw [vu_n (by decide), Int32.add_zero]), s11, Int32.add_zero]
      exact ⟨hC.tm, hC.nu, hC.tu, hC.nn, hC.ns, hC.qw, hC.qh, hC.wa, hC.mt, hC.hz, (hwi), (hsu), hC.po, hC.fr, hC.fc, hC.pi, hC.md, hC.me, hC.fn, hC.id, hC.jb, hC.ja, hC.tc, hC.kp, hC.sp, hC.sb, hC.pt, hC.he, hC.qu, hC.nt, (cNb_c hC.nb rfl rfl rfl), hC.mb, hC.jt, hC.cf, hC.cl, hC.ho, hC.go, hC.k33, hC.k39, hC.k37, hC.k29, hC.k28, hC.k31, hC.k30, hC.un, hC.on, hC.u2, hC.g0, hC.jp, (cWs_t hC.ws ⟨rfl, rfl, rfl, rfl⟩)⟩
    · left
      obtain ⟨m1, m2, m3⟩ := cnt_t hO h1 e2
      obtain ⟨mm1, mm2⟩ := cnt_m hO h1
      have hp := hC.pi v h1
      have hf : qpi Q v (qcu Q v) (z.2 16 v).toNatClampNeg < 80 := (hp.2 _ _ _ _ hp.1 m1 hp.1 m1).1
      have hix : ix (z.2 16 v) 40 := by
        rw [mm2]
        exact (ix_nI (by omega)).mpr m1
      rw [if_neg m2, if_pos m3]
      rw [rK5_4 hL h1, eK_hl, yK7 hL h1 hp.1, lK7 hL h1 hp.1, gd_t ⟨rfl, hix⟩, rK7 hL h1 hp.1 m1 hm, bd_e]
      rw [if_neg (zK8 hL h1 hf hm), gd_t (yK8 hL h1 hf hm)]
      obtain ⟨b0, hb0, eb⟩ := C_begin (V := V) (R := RF n L Q) (kd := kd) (se := se) hL h1 hf hm
      rw [eb, bo_e]
      have n5 : uR V 8 v (qpi Q v (qcu Q v) (z.2 16 v).toNatClampNeg) b0 5 v 0 = V 5 v 0 := by rw [uR_ne (by decide)]
      rw [eK_hc, gd_t (yK5 hL h1), iK5 hL h1, wK5 hL h1, n5, bd_e]
      rw [eK_hc, gd_t (yK5 hL h1), iK5 hL h1, wK5 hL h1, uR_s, uR_uR, bd_e]
      rw [eK_hc, gd_t (yK5 hL h1), iK5 hL h1, wK5 hL h1, uR_s, uR_uR, bd_e]
      rw [eK_hc, gd_t (yK5 hL h1), iK5 hL h1, wK5 hL h1, uR_s, uR_uR]
      have hpu : ∀ b : Nat → Int32, (pu z (nI v) (b 0) (b 1) (b 2) (b 3) (b 4) (b 5) (b 6) (b 7)).2 = ptZ z v (b 0) (b 1) (b 2) (b 3) (b 4) (b 5) (b 6) (b 7) := by
        intro b
        unfold pu
        rw [if_neg (nI_m1 (by omega)), nI_clamp (by omega), if_pos e1, if_neg e2]
      have key : ∀ w : Nat → Int32, w 0 = V 5 v 0 0 → w 2 = V 5 v 0 2 → w 5 = V 5 v 0 5 → w 6 = V 5 v 0 6 + 1 → w 7 = V 5 v 0 7 + 1 → w 8 = V 5 v 0 8 + 1 → w 9 = V 5 v 0 9 → w 10 = V 5 v 0 10 + (if kd = 8 then 0 else if kd = 7 ∧ se < 100 then 1 else 0) → w 11 = V 5 v 0 11 + (if kd = 8 then 1 else 0) →
          (∀ k, k < 8 → uR (uR V 8 v (qpi Q v (qcu Q v) (z.2 16 v).toNatClampNeg) b0) 5 v 0 w 8 v (qpi Q v (qcu Q v) (z.2 16 v).toNatClampNeg) k = f8 kd se (-1) (-1) (-1) 0 0 0 k) ∧ (∀ c, c ≠ 8 → c ≠ 5 → uR (uR V 8 v (qpi Q v (qcu Q v) (z.2 16 v).toNatClampNeg) b0) 5 v 0 w c = V c) ∧ (∀ a i, a < 16 → qmd Q a = true → i < (z.2 19 a).toNatClampNeg → ¬ (a = v ∧ qpi Q a (1 - qcu Q a) i = qpi Q v (qcu Q v) (z.2 16 v).toNatClampNeg) ∧ uR (uR V 8 v (qpi Q v (qcu Q v) (z.2 16 v).toNatClampNeg) b0) 5 v 0 w 8 a (qpi Q a (1 - qcu Q a) i) = V 8 a (qpi Q a (1 - qcu Q a) i)) ∧ ∀ b : Nat → Int32, b 0 = kd → b 1 = se → RC n st (uR (uR (uR V 8 v (qpi Q v (qcu Q v) (z.2 16 v).toNatClampNeg) b0) 5 v 0 w) 8 v (qpi Q v (qcu Q v) (z.2 16 v).toNatClampNeg) b) Q (cz (b 0) (b 1) (pu z (nI v) (b 0) (b 1) (b 2) (b 3) (b 4) (b 5) (b 6) (b 7)).2) := by
        intro w w0 w2 w5 w6 w7 w8 w9 w10 w11
        refine ⟨fun k hk => ?_, fun c h8 h5 => ?_, fun a i ha hma hi => ?_, fun b hb1 hb2 => ?_⟩
        · rw [uR_ne (by decide), uR_s]
          exact hb0 k hk
        · rw [uR_ne h5, uR_ne h8]
        · have hne : ¬ (a = v ∧ qpi Q a (1 - qcu Q a) i = qpi Q v (qcu Q v) (z.2 16 v).toNatClampNeg) := by
            intro q
            obtain ⟨q1, q2⟩ := q
            subst q1
            have h40 := hC.fn a ha
            have h3 := ((hp.2 _ _ _ _ (show 1 - qcu Q a < 2 by omega) (show i < 40 by omega) hp.1 m1).2 q2).1
            have := hp.1
            omega
          exact ⟨hne, by rw [uR_ne (by decide), uR_at, if_neg hne]⟩
        · rw [hpu b, puK_cz]
          have := RC_pt (b := b) (d5 := if b 0 = 8 then 0 else if b 0 = 7 ∧ b 1 < 100 then 1 else 0) (d7 := if b 0 = 8 then 1 else 0) hC hO h1 hm e2 w0 w2 w5 w6 w7 w8 w9 (by rw [hb1, hb2]; exact w10) (by rw [hb1]; exact w11)
          have ec : uR (uR (uR V 8 v (qpi Q v (qcu Q v) (z.2 16 v).toNatClampNeg) b0) 5 v 0 w) 8 v (qpi Q v (qcu Q v) (z.2 16 v).toNatClampNeg) b = uR (uR V 8 v (qpi Q v (qcu Q v) (z.2 16 v).toNatClampNeg) b) 5 v 0 w := by
            rw [uR_comm (by decide), uR_uR]
          rw [ec]
          exact this
      by_cases k8 : kd = 8
      · rw [if_pos k8, bd_e]
        refine ⟨_, _, ⟨e1, e2⟩, hf, rfl, key _ ?_ ?_ ?_ ?_ ?_ ?_ ?_ ?_ ?_⟩ <;> (try simp only [if_pos k8, Int32.add_zero]) <;> rfl
      · rw [if_neg k8]
        by_cases k7 : kd = 7
        · rw [if_pos k7]
          by_cases ks : 100 ≤ se
          · rw [if_pos ks]
            refine ⟨_, _, ⟨e1, e2⟩, hf, rfl, key _ ?_ ?_ ?_ ?_ ?_ ?_ ?_ ?_ ?_⟩ <;> (try simp only [if_neg k8, if_neg (show ¬ (kd = 7 ∧ se < 100) from fun q => (Int32.not_le.mpr q.2) ks), Int32.add_zero]) <;> rfl
          · rw [if_neg ks, gd_t (yK5 hL h1), bd_e, wK5 hL h1, uR_s, uR_uR]
            refine ⟨_, _, ⟨e1, e2⟩, hf, rfl, key _ ?_ ?_ ?_ ?_ ?_ ?_ ?_ ?_ ?_⟩ <;> (try simp only [if_neg k8, if_pos (show kd = 7 ∧ se < 100 from ⟨k7, Int32.not_le.mp ks⟩), Int32.add_zero]) <;> rfl
        · rw [if_neg k7]
          refine ⟨_, _, ⟨e1, e2⟩, hf, rfl, key _ ?_ ?_ ?_ ?_ ?_ ?_ ?_ ?_ ?_⟩ <;> (try simp only [if_neg k8, if_neg (show ¬ (kd = 7 ∧ se < 100) from fun q => k7 q.1), Int32.add_zero]) <;> rfl
  · right
    have hpu : ∀ a0 a1 a2 a3 a4 a5 a6 a7, pu z (nI v) a0 a1 a2 a3 a4 a5 a6 a7 = (false, z) := by
      intro a0 a1 a2 a3 a4 a5 a6 a7
      unfold pu
      rw [if_neg (nI_m1 (by omega)), nI_clamp (by omega), if_neg e1]
    rw [decide_eq_false e1, if_pos (show bI false = 0 by decide)]
    refine ⟨V, fun w => e1 w.1, rfl, fun _ _ => rfl, fun a0 a1 a2 a3 a4 a5 a6 a7 => ?_⟩
    rw [hpu]
    exact ⟨hC, rfl⟩
end
