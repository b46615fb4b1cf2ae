/-! THE CLASS'S WAYS: refresh() -/
section
variable {L : Ly} {G : Hp} {n : Nat} {st : Int32} {V : Vt} {Q : Qt} {z : Sg}
theorem C_fill3 {j : Nat} {v : Int32} (hL : LY L G n Q) (hn1 : 1 ≤ n) (hn : n ≤ 10) (hj : j = 2 ∨ j = 3 ∨ j = 4) : d_J7_fill_53178 (L.1 3 0 j) v (eK L G V (RF n L Q)) = some (eK L G (uR V 3 0 j (flF (V 3 0 j) v (26 * n))) (RF n L Q)) := by
  have h := hL.2 3 0 j ⟨rfl, by omega⟩
  have hk : kL n 3 j = 26 * n := by
    rcases hj with e | e | e <;> subst e <;> rfl
  exact C_fill hL.1 h.1 h.2.2.1 ((h.2.2.2 (by rw [hk]; omega)).trans hk) (by omega)
theorem C_refresh (hL : LY L G n Q) (hC : RC n st V Q z) (hF : WF z) (hc : CO z) : ∃ V', d_X6_refresh (L.1 2 0 0) (L.1 4 0 0) (eK L G V (RF n L Q)) = some (eK L G V' (RF n L Q)) ∧ RC n 0 V' Q z := by
  have hn := hC.nn.2.2.2
  have hn1 := hC.nn.2.2.1
  have hnr := hC.nr
  unfold d_X6_refresh
  rw [eK_hc, gd_t (yK2 hL), iK2 hL, hC.ns]
  by_cases hs : st = 0
  · rw [if_pos hs]
    exact ⟨V, rfl, hs ▸ hC⟩
  · rw [if_neg hs, wK2 hL, bd_e]
    generalize hV1 : uR V 2 0 0 (va_up (V 2 0 0) 6 0) = V1
    have v1 : ∀ c, c ≠ 2 → V1 c = V c := fun c h => by rw [← hV1, uR_ne h]
    have v2 : V1 2 0 0 0 = nI n ∧ V1 2 0 0 6 = 0 := by
      rw [← hV1, uR_s, vu_n (by decide), vu_s]
      exact ⟨hC.nn.2.1, rfl⟩
    have hB : ∀ f3 f4 : Nat → Int32, WB n (w3 V1 f3 f4) z := by
      intro f3 f4
      refine ⟨⟨hn1, hn, hnr⟩, ?_, fun v hv => ?_, fun v b hv hb => ?_, fun j hj => ?_⟩
      · rw [w3_c (by decide)]
        exact v2.1
      · rw [w3_c (by decide), v1 5 (by decide)]
        exact (hC.wi v hv).2.1
      · rw [w3_c (by decide), v1 6 (by decide)]
        exact hC.po v b hv hb
      · rw [w3_j (by decide) (by decide), w3_j (by decide) (by decide), v1 3 (by decide)]
        exact hC.wa j hj
    have hH := fwH_ok hc hnr hn hn1
    -- the rows are filled
    have e9 : ∀ f : Nat → Int32, flF f 9999 (26 * n) = pd f n (fun k => dS z n 0 0 0 k) := by
      intro f
      rw [dS_0]
      rfl
    have em3 : ∀ f : Nat → Int32, flF f (-1) (26 * n) = md f n (fun k => pC z n 0 0 0 0 0 k) := by
      intro f
      rw [pC_00.1]
      rfl
    have em4 : ∀ f : Nat → Int32, flF f (-1) (26 * n) = md f n (fun k => nC' z n 0 0 0 0 k) := by
      intro f
      rw [pC_00.2]
      rfl
    rw [eK_hc, gd_t (yK2 hL), rK2_3 hL, C_fill3 hL hn1 hn (Or.inl rfl), bo_e, eK_hc, gd_t (yK2 hL), rK2_4 hL, C_fill3 hL hn1 hn (Or.inr (Or.inl rfl)), bo_e, eK_hc, gd_t (yK2 hL), rK2_5 hL, C_fill3 hL hn1 hn (Or.inr (Or.inr rfl)), bo_e, eK_hc, gd_t (yK2 hL)]
    have eV : uR (uR (uR V1 3 0 2 (flF (V1 3 0 2) 9999 (26 * n))) 3 0 3 (flF (uR V1 3 0 2 (flF (V1 3 0 2) 9999 (26 * n)) 3 0 3) (-1) (26 * n))) 3 0 4 (flF (uR (uR V1 3 0 2 (flF (V1 3 0 2) 9999 (26 * n))) 3 0 3 (flF (uR V1 3 0 2 (flF (V1 3 0 2) 9999 (26 * n)) 3 0 3) (-1) (26 * n)) 3 0 4) (-1) (26 * n)) = uR (w3 V1 (md (V1 3 0 3) n (fun k => pC z n 0 0 0 0 0 k)) (md (V1 3 0 4) n (fun k => nC' z n 0 0 0 0 k))) 3 0 2 (pd (V1 3 0 2) n (fun k => dS z n 0 0 0 k)) := by
      rw [uR_nej (show 3 ≠ 2 by decide), uR_nej (show 4 ≠ 3 by decide), uR_nej (show 4 ≠ 2 by decide), e9, em3, em4]
      show uR (uR (uR V1 3 0 2 _) 3 0 3 _) 3 0 4 _ = uR (uR (uR V1 3 0 3 _) 3 0 4 _) 3 0 2 _
      rw [uR_commj (j := 2) (j' := 3) (by decide), uR_commj (j := 2) (j' := 4) (by decide)]
    rw [eV]
    have m1 := C_ms2 (f := V1 3 0 2) hL (hB (md (V1 3 0 3) n (fun k => pC z n 0 0 0 0 0 k)) (md (V1 3 0 4) n (fun k => nC' z n 0 0 0 0 k))) hF hc FU 0 (by omega) (by show _ < 6000; omega)
    have m2 := C_mr2 (f := V1 3 0 2) hL (hB (md (V1 3 0 3) n (fun k => pC z n 0 0 0 0 0 k)) (md (V1 3 0 4) n (fun k => nC' z n 0 0 0 0 k))) hH FU 0 (by omega) (by show _ < 6000; omega)
    have m3 := C_mw2 (f := V1 3 0 2) hL (hB (md (V1 3 0 3) n (fun k => pC z n 0 0 0 0 0 k)) (md (V1 3 0 4) n (fun k => nC' z n 0 0 0 0 k))) hH FU 0 (by omega) (by show _ < 6000; omega)
    rw [nI_0] at m1 m2 m3
    unfold d_X6_measureSteps d_X6_measureRouters d_X6_measureWires
    rw [m1, bo_e, eK_hc, gd_t (yK2 hL), dS_dR hn1, m2, bo_e, eK_hc, gd_t (yK2 hL), dR_dM hnr hn, m3, bo_e]
    -- ports and routers
    have eW : uR (w3 V1 (md (V1 3 0 3) n (fun k => pC z n 0 0 0 0 0 k)) (md (V1 3 0 4) n (fun k => nC' z n 0 0 0 0 k))) 3 0 2 (pd (V1 3 0 2) n (fun k => dM z n 16 0 0 k)) = w3 (uR V1 3 0 2 (pd (V1 3 0 2) n (fun k => dM z n 16 0 0 k))) (md (V1 3 0 3) n (fun k => pC z n 0 0 0 0 0 k)) (md (V1 3 0 4) n (fun k => nC' z n 0 0 0 0 k)) := by
      show uR (uR (uR V1 3 0 3 _) 3 0 4 _) 3 0 2 _ = uR (uR (uR V1 3 0 2 _) 3 0 3 _) 3 0 4 _
      rw [uR_commj (j := 2) (j' := 3) (by decide), uR_commj (j := 2) (j' := 4) (by decide)]
    have hB2 : WB n (uR V1 3 0 2 (pd (V1 3 0 2) n (fun k => dM z n 16 0 0 k))) z := by
      have hb := hB (V1 3 0 3) (V1 3 0 4)
      refine ⟨⟨hn1, hn, hnr⟩, ?_, fun v hv => ?_, fun v b hv hb => ?_, fun j hj => ?_⟩
      · rw [uR_ne (by decide)]
        exact v2.1
      · rw [uR_ne (by decide), v1 5 (by decide)]
        exact (hC.wi v hv).2.1
      · rw [uR_ne (by decide), v1 6 (by decide)]
        exact hC.po v b hv hb
      · rw [uR_nej (by decide), uR_nej (by decide), v1 3 (by decide)]
        exact hC.wa j hj
    have hd : ∀ k, k < 26 * n → uR V1 3 0 2 (pd (V1 3 0 2) n (fun k => dM z n 16 0 0 k)) 3 0 2 k = nI (dF z (k / 26) (k % 26)) := by
      intro k hk
      rw [uR_s, pd_at hk]
      have := dM_dF (r := k / 26) (t := k % 26) hnr (by omega) (by omega)
      rw [show 26 * (k / 26) + k % 26 = k by omega] at this
      rw [this]
    have m5 := C_rf55 (f3 := V1 3 0 3) (f4 := V1 3 0 4) hL hB2 hF hc hd (fun r p p' a b c d e => hC.md.2.2 r p p' a b c (by rw [hC.qw]; exact d) (by rw [hC.qw]; exact e)) FU 0 (by omega) (by show _ < 6000; omega)
    rw [nI_0] at m5
    rw [eW, m5]
    refine ⟨_, rfl, ?_⟩
    have hws : cWs 0 n (w3 (uR V1 3 0 2 (pd (V1 3 0 2) n (fun k => dM z n 16 0 0 k))) (md (V1 3 0 3) n (fun k => pC z n n 0 0 0 0 k)) (md (V1 3 0 4) n (fun k => nC' z n n 0 0 0 k)) 3) z := by
      intro _ k hk
      have ek : 26 * (k / 26) + k % 26 = k := by omega
      have hkr : k / 26 < nR z := by omega
      have hWd := Wd_e (t := k % 26) hc (by omega) hkr (by omega)
      obtain ⟨hWp, hWr⟩ := Wpr_e (t := k % 26) hc (by omega) hkr (by omega)
      rw [ek] at hWd hWp hWr
      rw [w3_j (by decide) (by decide), w3_3, w3_4, hd k hk, md_at hk, md_at hk, hWd, hWp, hWr]
      have hle := dF_le (t := k % 26) hc (by omega) hkr
      refine ⟨?_, ?_, ?_⟩
      · unfold toI
        by_cases h : dF z (k / 26) (k % 26) < 9999
        · rw [if_pos h, if_pos (show nI (dF z (k / 26) (k % 26)) < (1000000 : Int32) from nI_lt (b := 1000000) (by omega) (by decide))]
        · rw [if_neg h, if_neg (by decide), show dF z (k / 26) (k % 26) = 9999 by omega]
          rfl
      · show pC z n n 0 0 0 0 k = _
        unfold pC
        rw [if_pos (by omega)]
      · show nC' z n n 0 0 0 k = _
        unfold nC'
        rw [if_pos (by omega)]
    have h3 : ∀ j, j ≠ 2 → j ≠ 3 → j ≠ 4 → w3 (uR V1 3 0 2 (pd (V1 3 0 2) n (fun k => dM z n 16 0 0 k))) (md (V1 3 0 3) n (fun k => pC z n n 0 0 0 0 k)) (md (V1 3 0 4) n (fun k => nC' z n n 0 0 0 k)) 3 0 j = V 3 0 j := by
      intro j j2 j3 j4
      rw [w3_j j3 j4, uR_nej j2, v1 3 (by decide)]
    have ho : ∀ c, c ≠ 3 → c ≠ 2 → w3 (uR V1 3 0 2 (pd (V1 3 0 2) n (fun k => dM z n 16 0 0 k))) (md (V1 3 0 3) n (fun k => pC z n n 0 0 0 0 k)) (md (V1 3 0 4) n (fun k => nC' z n n 0 0 0 k)) c = V c := by
      intro c c3 c2
      rw [w3_c c3, uR_ne c3, v1 c c2]
    have h2c : w3 (uR V1 3 0 2 (pd (V1 3 0 2) n (fun k => dM z n 16 0 0 k))) (md (V1 3 0 3) n (fun k => pC z n n 0 0 0 0 k)) (md (V1 3 0 4) n (fun k => nC' z n n 0 0 0 k)) 2 = V1 2 := by rw [w3_c (by decide), uR_ne (by decide)]
    generalize w3 (uR V1 3 0 2 (pd (V1 3 0 2) n (fun k => dM z n 16 0 0 k))) (md (V1 3 0 3) n (fun k => pC z n n 0 0 0 0 k)) (md (V1 3 0 4) n (fun k => nC' z n n 0 0 0 k)) = W at hws h3 ho h2c
    unfold RC
    rw [ho 0 (by decide) (by decide), ho 1 (by decide) (by decide), h2c, h3 0 (by decide) (by decide) (by decide), h3 1 (by decide) (by decide) (by decide), h3 5 (by decide) (by decide) (by decide), h3 6 (by decide) (by decide) (by decide), ho 5 (by decide) (by decide), ho 6 (by decide) (by decide), ho 8 (by decide) (by decide), ho 9 (by decide) (by decide), ho 12 (by decide) (by decide), ho 13 (by decide) (by decide), ho 14 (by decide) (by decide), ho 15 (by decide) (by decide), ho 16 (by decide) (by decide), ho 17 (by decide) (by decide), ho 18 (by decide) (by decide), ho 19 (by decide) (by decide), ho 20 (by decide) (by decide), ho 21 (by decide) (by decide), ho 22 (by decide) (by decide), ho 23 (by decide) (by decide), ho 24 (by decide) (by decide), ho 25 (by decide) (by decide), ho 26 (by decide) (by decide)]
    exact ⟨hC.tm, hC.nu, hC.tu, (⟨hC.nn.1, v2.1, hC.nn.2.2⟩), (v2.2), hC.qw, hC.qh, hC.wa, hC.mt, hC.hz, hC.wi, hC.su, hC.po, hC.fr, hC.fc, hC.pi, hC.md, hC.me, hC.fn, hC.id, hC.jb, hC.ja, hC.tc, hC.kp, hC.sp, hC.sb, hC.pt, hC.he, hC.qu, hC.nt, (cNb_c hC.nb rfl rfl rfl), hC.mb, hC.jt, hC.cf, hC.cl, hC.ho, hC.go, hC.k33, hC.k39, hC.k37, hC.k29, hC.k28, hC.k31, hC.k30, hC.un, hC.on, hC.u2, hC.g0, hC.jp, (hws)⟩
end
