/-! THE CLASS: a tick has begun -/
section
variable {L : Ly} {G : Hp} {n : Nat} {st : Int32} {V W : Vt} {Q : Qt} {z z' : Sg} {r p q g s x y m v i h k : Nat}
theorem tnV_0 : tnV V 0 = V := by
  funext c
  unfold tnV
  by_cases hc : c = 5
  · subst hc
    rw [if_pos rfl]
    funext i j
    rw [if_neg (by omega)]
  · rw [if_neg hc]
theorem be_16 {z : Sg} {v : Nat} (hv : v < 16) : (beZ z).2 16 v = 0 ∧ (beZ z).2 17 v = 0 ∧ (beZ z).2 19 v = z.2 16 v := by
  refine ⟨?_, ?_, ?_⟩
  · show (if v < 16 then (0 : Int32) else _) = 0
    rw [if_pos hv]
  · show (if v < 16 then (0 : Int32) else _) = 0
    rw [if_pos hv]
  · show (if v < 16 then z.2 16 v else _) = _
    rw [if_pos hv]
theorem be_20 {z : Sg} {i : Nat} (hi : i < 5120) : (beZ z).2 20 i = z.2 18 i := by
  show (if i < 5120 then z.2 18 i else _) = _
  rw [if_pos hi]
theorem C_beginTick (hL : LY L G n Q) (hC : RC n st V Q z) (hO : MO z) (ht : ∃ t, t < 6000 ∧ z.1 0 = nI t) : ∃ V' Q', d_X8_beginTick (L.1 0 0 0) (eK L G V (RF n L Q)) = some (eK L G V' (RF n L Q')) ∧ RC n st V' Q' (beZ z) ∧ LY L G n Q' := by
  have hn := hC.nn.2.2.2
  have hn1 := hC.nn.2.2.1
  have hnr := hC.nr
  obtain ⟨t, ht1, et⟩ := ht
  have hlt : z.1 0 ≤ z.1 0 + 1 := by
    rw [et, nI_1]
    exact nI_le (by omega) (by omega)
  have hL' : LY L G n (tnQ Q 16) := LY_q hL rfl rfl rfl
  have hV1 : ∀ c, c ≠ 5 → tnV (uR V 1 0 0 (va_up (V 1 0 0) 4 (z.1 0 + 1))) 16 c = uR V 1 0 0 (va_up (V 1 0 0) 4 (z.1 0 + 1)) c := fun c hc => if_neg hc
  have hV5 : ∀ v, v < 16 → tnV (uR V 1 0 0 (va_up (V 1 0 0) 4 (z.1 0 + 1))) 16 5 v 0 = va_up (va_up (va_up (V 5 v 0) 5 (V 5 v 0 6)) 6 0) 7 0 := fun v hv => if_pos ⟨hv, rfl⟩
  have nbz : ∀ j k, nb (beZ z) j k = true → nb z j k = true := by
    intro j k h
    have := of_decide_eq_true h
    rw [be_0, be_row (by decide)] at this
    exact decide_eq_true (Int32.lt_of_le_of_lt hlt this)
  have hnb : nR (beZ z) = n := by rw [t0_nR t0_be]; exact hnr
  have hH : dnH n (tnV (uR V 1 0 0 (va_up (V 1 0 0) 4 (z.1 0 + 1))) 16) (tnQ Q 16) (beZ z) := by
    refine ⟨hn, hn1, hnb, ?_, fun r p h1 h2 hu => ⟨fun k hk => ?_, fun k hk hb => ?_, fun k hk hb => ?_⟩⟩
    · rw [hV1 1 (by decide), uR_s, vu_s, be_0]
    · rw [hV1 19 (by decide), uR_ne (by decide), be_row (by decide)]
      exact hC.nt r p k h1 h2 hu hk
    · rw [hV1 18 (by decide), uR_ne (by decide), hC.nb r p h1 h2 hu, b_nbits (by omega) hk, Bool.and_eq_true] at hb
      have := of_decide_eq_true hb.1
      omega
    · rw [hV1 18 (by decide), uR_ne (by decide), hC.nb r p h1 h2 hu, b_nbits (by omega) (by omega), decide_eq_true (show k < nR z by omega), nbz _ _ hb]
      rfl
  refine ⟨dnV (tnV (uR V 1 0 0 (va_up (V 1 0 0) 4 (z.1 0 + 1))) 16) (tnQ Q 16) (beZ z) (4 * n), tnQ Q 16, ?_, ?_, hL'⟩
  · have e15 := C_begin_15 (V := uR V 1 0 0 (va_up (V 1 0 0) 4 (z.1 0 + 1))) hL (fun v hv => (hC.pi v hv).1) FU 0 (by omega) (by show _ < 6000; omega)
    have e41 := C_begin_41 hL' hH FU 0 (by omega) (by show _ < 6000; omega)
    have t0 := tnV_0 (V := uR V 1 0 0 (va_up (V 1 0 0) 4 (z.1 0 + 1)))
    have q0 : tnQ Q 0 = Q := by
      show (qpi Q, (fun v => if v < 0 then 1 - qcu Q v else qcu Q v), qmd Q, qpw Q, qhw Q) = Q
      have : (fun v => if v < 0 then 1 - qcu Q v else qcu Q v) = qcu Q := by
        funext v
        rw [if_neg (by omega)]
      rw [this]
      rfl
    have d0 : dnV (tnV (uR V 1 0 0 (va_up (V 1 0 0) 4 (z.1 0 + 1))) 16) (tnQ Q 16) (beZ z) (4 * 0) = tnV (uR V 1 0 0 (va_up (V 1 0 0) 4 (z.1 0 + 1))) 16 := by
      funext c
      by_cases hc : c = 18
      · subst hc
        funext i j
        rw [dnV_18, if_neg (by omega)]
      · rw [dnV_o hc]
    rw [t0, q0, nI_0] at e15
    rw [d0, nI_0] at e41
    unfold d_X8_beginTick
    rw [eK_hc, gd_t (yK0 hL), rK0_0 hL, gd_t (yK1 hL), iK1 hL, wK1 hL, bd_e, hC.tm, e15, e41]
  · have o18 : ∀ a b c, c ≠ 4 → dnV (tnV (uR V 1 0 0 (va_up (V 1 0 0) 4 (z.1 0 + 1))) 16) (tnQ Q 16) (beZ z) (4 * n) 18 a b c = V 18 a b c := by
      intro a b c hc
      rw [dnV_18]
      split
      · rw [vu_n hc]
        rfl
      · rfl
    have hwi : cWi (tnV (uR V 1 0 0 (va_up (V 1 0 0) 4 (z.1 0 + 1))) 16 5) (z.2 10) ((beZ z).2 16) ((beZ z).2 17) ((beZ z).2 19) := by
      intro v hv
      obtain ⟨c0, c2, c6, c7, c5⟩ := hC.wi v hv
      obtain ⟨b1, b2, b3⟩ := be_16 (z := z) hv
      rw [hV5 v hv, b1, b2, b3]
      exact ⟨c0, c2, rfl, rfl, c6⟩
    have hsu : cSu (tnV (uR V 1 0 0 (va_up (V 1 0 0) 4 (z.1 0 + 1))) 16 5) (z.1 3) (z.1 4) (z.1 5) (z.1 7) := by
      have e : ∀ k, k ≠ 5 → k ≠ 6 → k ≠ 7 → (fun v => tnV (uR V 1 0 0 (va_up (V 1 0 0) 4 (z.1 0 + 1))) 16 5 v 0 k) = fun v => V 5 v 0 k := by
        intro k k5 k6 k7
        funext v
        show (if v < 16 ∧ (0 : Nat) = 0 then va_up (va_up (va_up (V 5 v 0) 5 (V 5 v 0 6)) 6 0) 7 0 else V 5 v 0) k = _
        split
        · rw [vu_n k7, vu_n k6, vu_n k5]
        · rfl
      unfold cSu
      rw [e 8 (by decide) (by decide) (by decide), e 9 (by decide) (by decide) (by decide), e 10 (by decide) (by decide) (by decide), e 11 (by decide) (by decide) (by decide)]
      exact hC.su
    have hfr : cFr (tnQ Q 16) (V 8) ((beZ z).2 16) ((beZ z).2 18) := by
      intro v i k hv hm hi hk
      rw [(be_16 hv).1] at hi
      exact absurd hi (Nat.not_lt_zero _)
    have hfc : cFc (tnQ Q 16) (V 8) ((beZ z).2 19) ((beZ z).2 20) := by
      intro v i k hv hm hi hk
      rw [(be_16 hv).2.2] at hi
      have h40 := (cnt_m hO.2.1 hv).1
      have hcu := (hC.pi v hv).1
      have eq : 1 - qcu (tnQ Q 16) v = qcu Q v := by
        show 1 - (if v < 16 then 1 - qcu Q v else qcu Q v) = _
        rw [if_pos hv]
        omega
      rw [eq, be_20 (by omega)]
      exact hC.fr v i k hv hm hi hk
    have hpi : cPi (tnQ Q 16) := by
      intro v hv
      obtain ⟨p1, p2⟩ := hC.pi v hv
      refine ⟨?_, p2⟩
      show (if v < 16 then 1 - qcu Q v else qcu Q v) < 2
      rw [if_pos hv]
      omega
    have hme : cMe (tnQ Q 16) ((beZ z).2 16) ((beZ z).2 19) := by
      intro v hv hm
      rw [(be_16 hv).1, (be_16 hv).2.2]
      exact ⟨rfl, (hC.me v hv hm).1⟩
    have hfn : cFn ((beZ z).2 19) := by
      intro v hv
      rw [(be_16 hv).2.2]
      exact (cnt_m hO.2.1 hv).1
    have hnbc : cNb n (tnQ Q 16) (dnV (tnV (uR V 1 0 0 (va_up (V 1 0 0) 4 (z.1 0 + 1))) 16) (tnQ Q 16) (beZ z) (4 * n) 18) (beZ z) := by
      intro r p h1 h2 hu
      rw [dnV_18, if_pos ⟨by omega, h2, hu⟩, vu_s]
    have htm : uR V 1 0 0 (va_up (V 1 0 0) 4 (z.1 0 + 1)) 1 0 0 4 = (beZ z).1 0 := by rw [uR_s, vu_s, be_0]
    have e0 : (beZ z).1 0 = z.1 0 + 1 := be_0
    have hk37 : cK37 n (V 12) ((beZ z).1 0) (z.2 37) := fun a b c d e i j => by
      rw [e0]
      exact Int32.le_trans (hC.k37 a b c d e i j) hlt
    have hk29 : cK29 n (V 12) ((beZ z).1 0) (z.2 29) := fun a b c l d e i m j => by
      rw [e0]
      exact Int32.le_trans (hC.k29 a b c l d e i m j) hlt
    have hk28 : cK28 n (V 12) ((beZ z).1 0) (z.2 28) := fun a b l d e i j => by
      rw [e0]
      exact Int32.le_trans (hC.k28 a b l d e i j) hlt
    have hk31 : cK31 n (V 12) ((beZ z).1 0) (z.2 31) (z.2 32) := fun a b c l d e i m j => by
      rw [e0]
      exact (hC.k31 a b c l d e i m j).elim Or.inl (fun w => Or.inr (Int32.le_trans w hlt))
    have hk30 : cK30 n (V 12) ((beZ z).1 0) (z.2 30) (z.2 29) := fun a b c l d e i m j => by
      rw [e0]
      exact (hC.k30 a b c l d e i m j).elim Or.inl (fun w => Or.inr (Int32.le_trans w hlt))
    exact ⟨(htm), hC.nu, hC.tu, hC.nn, hC.ns, hC.qw, hC.qh, hC.wa, hC.mt, hC.hz, (hwi), (hsu), hC.po, (hfr), (hfc), (hpi), hC.md, (hme), (hfn), hC.id, hC.jb, hC.ja, hC.tc, hC.kp, hC.sp, hC.sb, (fun a b c d e => ⟨(o18 a b 1 (by decide)).trans (hC.pt a b c d e).1, (o18 a b 3 (by decide)).trans (hC.pt a b c d e).2⟩), (fun a b c d e => ⟨(hC.he a b c d e).1, (o18 a b 5 (by decide)).trans (hC.he a b c d e).2⟩), (fun a b c d e => ⟨(hC.qu a b c d e).1, (o18 a b 6 (by decide)).trans (hC.qu a b c d e).2⟩), hC.nt, (hnbc), hC.mb, hC.jt, hC.cf, hC.cl, hC.ho, hC.go, hC.k33, hC.k39, (hk37), (hk29), (hk28), (hk31), (hk30), hC.un, hC.on, hC.u2, hC.g0, hC.jp, (cWs_t hC.ws t0_be)⟩
end
