/-! THE CLASS'S CELLS: one thing is put on both sides -/
section
variable {n : Nat} {st : Int32} {V : Vt} {Q : Qt} {z : Sg} {r p q g s x : Nat} {v w : Int32}
theorem kn_at (a b k : Nat) (hk : k ≠ 4) : uR V 12 r g (va_up (V 12 r g) 4 w) 12 a b k = V 12 a b k := by
  rw [uR_at]
  by_cases e : a = r ∧ b = g
  · rw [if_pos e, vu_n hk, e.1, e.2]
  · rw [if_neg e]
theorem kn_4 {b' : Nat} (hw : ∀ x, x < 17 → bt w x = false → bt (V 12 r g 4) x = false) (a b c : Nat) (hc : c < 17) (h : bt (uR V 12 r g (va_up (V 12 r g) 4 w) 12 a b 4) c = false) : bt (V 12 a b 4) c = false := by
  rw [uR_at] at h
  by_cases e : a = r ∧ b = g
  · rw [if_pos e, vu_s] at h
    rw [e.1, e.2]
    exact hw c hc h
  · rw [if_neg e] at h
    exact h
theorem RC_kn (hC : RC n st V Q z) (hw : ∀ x, x < 17 → bt w x = false → bt (V 12 r g 4) x = false) : RC n st (uR V 12 r g (va_up (V 12 r g) 4 w)) Q z :=
  ⟨hC.tm, hC.nu, hC.tu, hC.nn, hC.ns, hC.qw, hC.qh, hC.wa, hC.mt, hC.hz, hC.wi, hC.su, hC.po, hC.fr, hC.fc, hC.pi, hC.md, hC.me, hC.fn, (fun a d => ⟨(hC.id a d).1, fun b e => ⟨(kn_at a b 1 (by decide)).trans ((hC.id a d).2 b e).1, (kn_at a b 2 (by decide)).trans ((hC.id a d).2 b e).2⟩⟩), hC.jb, hC.ja, (fun a b d e => (kn_at a b 7 (by decide)).trans (hC.tc a b d e)), hC.kp, hC.sp, hC.sb, hC.pt, hC.he, hC.qu, hC.nt, (cNb_c hC.nb rfl rfl rfl), hC.mb, hC.jt, hC.cf, hC.cl, hC.ho, hC.go, (fun a b c d e i j => hC.k33 a b c d e i (kn_4 (b' := 0) hw a b c i j)), (fun a b c d e i j => hC.k39 a b c d e i (kn_4 (b' := 0) hw a b c (by omega) j)), (fun a b c d e i j => hC.k37 a b c d e i (kn_4 (b' := 0) hw a b c (by omega) j)), (fun a b c l d e i m j => hC.k29 a b c l d e i m (kn_4 (b' := 0) hw a b c i j)), (fun a b l d e i j => hC.k28 a b l d e i (kn_4 (b' := 0) hw a b 16 (by decide) j)), (fun a b c l d e i m j => hC.k31 a b c l d e i m (kn_4 (b' := 0) hw a b c (by omega) j)), (fun a b c l d e i m j => hC.k30 a b c l d e i m (kn_4 (b' := 0) hw a b c (by omega) j)), hC.un, hC.on, hC.u2, hC.g0, hC.jp, (cWs_t hC.ws ⟨rfl, rfl, rfl, rfl⟩)⟩
theorem kn_or {b : Int32} : ∀ x, x < 17 → bt (V 12 r g 4 ||| b) x = false → bt (V 12 r g 4) x = false := by
  intro x _ h
  rw [b_or] at h
  cases hb : bt (V 12 r g 4) x with
  | false => rfl
  | true => rw [hb] at h; cases h
theorem RC_mb (hC : RC n st V Q z) (h2 : p < 4) (hu : qpw Q (4 * r + p) ≠ -1) (h3 : g < 8) (hk : bt (V 12 r g 4) 16 = true ∨ v ≤ z.1 0) : RC n st (uR V 20 r p (va_up (V 20 r p) g v)) Q (uA z 28 (8 * (4 * r + p) + g) v) := by
  have e28 : cK28 n (V 12) (z.1 0) ((uA z 28 (8 * (4 * r + p) + g) v).2 28) := by
    intro r' g' p' a1 a2 a3 a4
    rw [uA_get]
    by_cases e : 8 * (4 * r' + p') + g' = 8 * (4 * r + p) + g
    · rw [if_pos e]
      have er : r' = r := by omega
      have eg : g' = g := by omega
      subst er eg
      rcases hk with hk | hk
      · rw [hk] at a4
        cases a4
      · exact hk
    · rw [if_neg e]
      exact hC.k28 r' g' p' a1 a2 a3 a4
  have eun : cUn Q (z.2 25) ((uA z 28 (8 * (4 * r + p) + g) v).2 28) (z.2 29) (z.2 31) := by
    intro j hj hm
    obtain ⟨u1, u2, u3, u4⟩ := hC.un j hj hm
    have hne : j ≠ 4 * r + p := fun e => hu (e ▸ hm)
    refine ⟨u1, fun g' hg => ?_, u3, u4⟩
    rw [uA_get, if_neg (by omega)]
    exact u2 g' hg
  exact ⟨hC.tm, hC.nu, hC.tu, hC.nn, hC.ns, hC.qw, hC.qh, hC.wa, hC.mt, hC.hz, hC.wi, hC.su, hC.po, hC.fr, hC.fc, hC.pi, hC.md, hC.me, hC.fn, hC.id, hC.jb, hC.ja, hC.tc, hC.kp, hC.sp, hC.sb, hC.pt, hC.he, hC.qu, hC.nt, (cNb_c hC.nb rfl rfl rfl), (cMb_set hC.mb h2 h3), hC.jt, hC.cf, hC.cl, hC.ho, hC.go, hC.k33, hC.k39, hC.k37, hC.k29, (e28), hC.k31, hC.k30, (eun), hC.on, hC.u2, hC.g0, hC.jp, (cWs_t hC.ws ⟨rfl, rfl, rfl, rfl⟩)⟩
theorem RC_jt (hC : RC n st V Q z) (h2 : p < 4) (hu : qpw Q (4 * r + p) ≠ -1) (h3 : g < 8) (h4 : x < 17) (hk : bt (V 12 r g 4) x = true ∨ v ≤ z.2 29 (17 * (8 * (4 * r + p) + g) + yx x) ∨ v ≤ z.1 0) (hk0 : x = 16 → v ≤ z.1 0 ∨ v ≤ z.2 29 (17 * (8 * (4 * r + p) + g) + yx x) ∨ ∀ s, s < 16 → bt (V 12 r g 4) s = false → z.2 30 (16 * (8 * (4 * r + p) + g) + s) = -1) : RC n st (uR V 21 r p (va_up (V 21 r p) (17 * g + x) v)) Q (uA z 29 (17 * (8 * (4 * r + p) + g) + yx x) v) := by
  have hy := yx_lt h4
  have e29 : cK29 n (V 12) (z.1 0) ((uA z 29 (17 * (8 * (4 * r + p) + g) + yx x) v).2 29) := by
    intro r' g' x' p' a1 a2 a3 a4 a5
    have hy' := yx_lt a3
    rw [uA_get]
    by_cases e : 17 * (8 * (4 * r' + p') + g') + yx x' = 17 * (8 * (4 * r + p) + g) + yx x
    · rw [if_pos e]
      have er : r' = r := by omega
      have eg : g' = g := by omega
      have ep : p' = p := by omega
      have ex : x' = x := yx_inj (by omega) h4 a3
      subst er eg ep ex
      rcases hk with hk | hk | hk
      · rw [hk] at a5
        cases a5
      · exact Int32.le_trans hk (hC.k29 r' g' x' p' a1 a2 a3 a4 a5)
      · exact hk
    · rw [if_neg e]
      exact hC.k29 r' g' x' p' a1 a2 a3 a4 a5
  have e30 : cK30 n (V 12) (z.1 0) (z.2 30) ((uA z 29 (17 * (8 * (4 * r + p) + g) + yx x) v).2 29) := by
    intro r' g' s' p' a1 a2 a3 a4 a5
    rw [uA_get]
    by_cases e : 17 * (8 * (4 * r' + p') + g') = 17 * (8 * (4 * r + p) + g) + yx x
    · rw [if_pos e]
      have er : r' = r := by omega
      have eg : g' = g := by omega
      have ep : p' = p := by omega
      have ex : x = 16 := by
        have : yx x = 0 := by omega
        unfold yx at this
        split at this <;> omega
      subst er eg ep
      rcases hk0 ex with k | k | k
      · exact Or.inr k
      · rcases hC.k30 r' g' s' p' a1 a2 a3 a4 a5 with o | o
        · exact Or.inl o
        · refine Or.inr (Int32.le_trans k ?_)
          rw [ex, yx_16, Nat.add_zero]
          exact o
      · exact Or.inl (k s' a3 a5)
    · rw [if_neg e]
      exact hC.k30 r' g' s' p' a1 a2 a3 a4 a5
  have eun : cUn Q (z.2 25) (z.2 28) ((uA z 29 (17 * (8 * (4 * r + p) + g) + yx x) v).2 29) (z.2 31) := by
    intro j hj hm
    obtain ⟨u1, u2, u3, u4⟩ := hC.un j hj hm
    have hne : j ≠ 4 * r + p := fun e => hu (e ▸ hm)
    refine ⟨u1, u2, fun m hm2 => ?_, u4⟩
    rw [uA_get, if_neg (by omega)]
    exact u3 m hm2
  exact ⟨hC.tm, hC.nu, hC.tu, hC.nn, hC.ns, hC.qw, hC.qh, hC.wa, hC.mt, hC.hz, hC.wi, hC.su, hC.po, hC.fr, hC.fc, hC.pi, hC.md, hC.me, hC.fn, hC.id, hC.jb, hC.ja, hC.tc, hC.kp, hC.sp, hC.sb, hC.pt, hC.he, hC.qu, hC.nt, (cNb_c hC.nb rfl rfl rfl), hC.mb, (cJt_set hC.jt h2 h3 h4), hC.cf, hC.cl, hC.ho, hC.go, hC.k33, hC.k39, hC.k37, (e29), hC.k28, hC.k31, (e30), (eun), hC.on, hC.u2, hC.g0, hC.jp, (cWs_t hC.ws ⟨rfl, rfl, rfl, rfl⟩)⟩
/-- cutFrom: 0 stands for never -/
theorem RC_cf {v' : Int32} (hC : RC n st V Q z) (h2 : p < 4) (hu : qpw Q (4 * r + p) ≠ -1) (h3 : g < 8) (h4 : s < 16) (h0 : v ≠ 0) (hv : v' = if v = -1 then 0 else v) (hk : v = -1 ∨ bt (V 12 r g 4) s = true) : RC n st (uR V 22 r p (va_up (V 22 r p) (16 * g + s) v')) Q (uA z 30 (16 * (8 * (4 * r + p) + g) + s) v) := by
  have ecf : cCf n Q (uR V 22 r p (va_up (V 22 r p) (16 * g + s) v') 22) ((uA z 30 (16 * (8 * (4 * r + p) + g) + s) v).2 30) := by
    intro r' p' g' s' a1 a2 a3 a4 a5
    rw [uA_get, uR_at]
    by_cases e : r' = r ∧ p' = p
    · obtain ⟨rfl, rfl⟩ := e
      rw [if_pos (show r' = r' ∧ p' = p' from ⟨rfl, rfl⟩), vu_a]
      by_cases e2 : 16 * g' + s' = 16 * g + s
      · rw [if_pos e2, if_pos (by omega)]
        exact ⟨h0, hv⟩
      · rw [if_neg e2, if_neg (by omega)]
        exact hC.cf r' p' g' s' a1 a2 a3 a4 a5
    · rw [if_neg e, if_neg (by omega)]
      exact hC.cf r' p' g' s' a1 a2 a3 a4 a5
  have e30 : cK30 n (V 12) (z.1 0) ((uA z 30 (16 * (8 * (4 * r + p) + g) + s) v).2 30) (z.2 29) := by
    intro r' g' s' p' a1 a2 a3 a4 a5
    rw [uA_get]
    by_cases e : 16 * (8 * (4 * r' + p') + g') + s' = 16 * (8 * (4 * r + p) + g) + s
    · rw [if_pos e]
      have er : r' = r := by omega
      have eg : g' = g := by omega
      have es : s' = s := by omega
      subst er eg es
      rcases hk with hk | hk
      · exact Or.inl hk
      · rw [hk] at a5
        cases a5
    · rw [if_neg e]
      exact hC.k30 r' g' s' p' a1 a2 a3 a4 a5
  have eu2 : cU2 Q (z.2 26) (z.2 27) ((uA z 30 (16 * (8 * (4 * r + p) + g) + s) v).2 30) := by
    intro j hj hm
    obtain ⟨u1, u2, u3⟩ := hC.u2 j hj hm
    have hne : j ≠ 4 * r + p := fun e => hu (e ▸ hm)
    refine ⟨u1, u2, fun m hm2 => ?_⟩
    rw [uA_get, if_neg (by omega)]
    exact u3 m hm2
  exact ⟨hC.tm, hC.nu, hC.tu, hC.nn, hC.ns, hC.qw, hC.qh, hC.wa, hC.mt, hC.hz, hC.wi, hC.su, hC.po, hC.fr, hC.fc, hC.pi, hC.md, hC.me, hC.fn, hC.id, hC.jb, hC.ja, hC.tc, hC.kp, hC.sp, hC.sb, hC.pt, hC.he, hC.qu, hC.nt, (cNb_c hC.nb rfl rfl rfl), hC.mb, hC.jt, (ecf), hC.cl, hC.ho, hC.go, hC.k33, hC.k39, hC.k37, hC.k29, hC.k28, hC.k31, (e30), hC.un, hC.on, (eu2), hC.g0, hC.jp, (cWs_t hC.ws ⟨rfl, rfl, rfl, rfl⟩)⟩
theorem RC_cl {t : Int32} (hC : RC n st V Q z) (h2 : p < 4) (hu : qpw Q (4 * r + p) ≠ -1) (h3 : g < 8) (h4 : s < 16) (h0 : v ≠ -1) (hk : bt (V 12 r g 4) s = true) : RC n st (uR (uR V 23 r p (va_up (V 23 r p) (16 * g + s) v)) 24 r p (va_up (V 24 r p) (16 * g + s) t)) Q (uA (uA z 31 (16 * (8 * (4 * r + p) + g) + s) v) 32 (16 * (8 * (4 * r + p) + g) + s) t) := by
  have k31 : (uA (uA z 31 (16 * (8 * (4 * r + p) + g) + s) v) 32 (16 * (8 * (4 * r + p) + g) + s) t).2 31 = (uA z 31 (16 * (8 * (4 * r + p) + g) + s) v).2 31 := uA_ne (by decide)
  have k32 : ∀ j, (uA (uA z 31 (16 * (8 * (4 * r + p) + g) + s) v) 32 (16 * (8 * (4 * r + p) + g) + s) t).2 32 j = if j = 16 * (8 * (4 * r + p) + g) + s then t else z.2 32 j := fun j => by rw [uA_get, uA_ne (by decide)]
  have c23 : uR (uR V 23 r p (va_up (V 23 r p) (16 * g + s) v)) 24 r p (va_up (V 24 r p) (16 * g + s) t) 23 = uR V 23 r p (va_up (V 23 r p) (16 * g + s) v) 23 := uR_ne (by decide)
  have c24 : ∀ a b, uR (uR V 23 r p (va_up (V 23 r p) (16 * g + s) v)) 24 r p (va_up (V 24 r p) (16 * g + s) t) 24 a b = if a = r ∧ b = p then va_up (V 24 r p) (16 * g + s) t else V 24 a b := fun a b => by rw [uR_at, uR_ne (by decide)]
  have ecl : cCl n Q (uR (uR V 23 r p (va_up (V 23 r p) (16 * g + s) v)) 24 r p (va_up (V 24 r p) (16 * g + s) t) 23) (uR (uR V 23 r p (va_up (V 23 r p) (16 * g + s) v)) 24 r p (va_up (V 24 r p) (16 * g + s) t) 24) ((uA (uA z 31 (16 * (8 * (4 * r + p) + g) + s) v) 32 (16 * (8 * (4 * r + p) + g) + s) t).2 31) ((uA (uA z 31 (16 * (8 * (4 * r + p) + g) + s) v) 32 (16 * (8 * (4 * r + p) + g) + s) t).2 32) := by
    intro r' p' g' s' a1 a2 a3 a4 a5
    rw [k31, k32, c23, c24, uA_get, uR_at]
    by_cases e : r' = r ∧ p' = p
    · obtain ⟨rfl, rfl⟩ := e
      rw [if_pos (show r' = r' ∧ p' = p' from ⟨rfl, rfl⟩), if_pos (show r' = r' ∧ p' = p' from ⟨rfl, rfl⟩), vu_a, vu_a]
      by_cases e2 : 16 * g' + s' = 16 * g + s
      · rw [if_pos e2, if_pos e2, if_pos (by omega), if_pos (by omega)]
        exact ⟨fun w => absurd w h0, fun _ => ⟨rfl, rfl⟩⟩
      · rw [if_neg e2, if_neg e2, if_neg (by omega), if_neg (by omega)]
        exact hC.cl r' p' g' s' a1 a2 a3 a4 a5
    · rw [if_neg e, if_neg e, if_neg (by omega), if_neg (by omega)]
      exact hC.cl r' p' g' s' a1 a2 a3 a4 a5
  have e31 : cK31 n (V 12) (z.1 0) ((uA (uA z 31 (16 * (8 * (4 * r + p) + g) + s) v) 32 (16 * (8 * (4 * r + p) + g) + s) t).2 31) ((uA (uA z 31 (16 * (8 * (4 * r + p) + g) + s) v) 32 (16 * (8 * (4 * r + p) + g) + s) t).2 32) := by
    intro r' g' s' p' a1 a2 a3 a4 a5
    rw [k31, k32, uA_get]
    by_cases e : 16 * (8 * (4 * r' + p') + g') + s' = 16 * (8 * (4 * r + p) + g) + s
    · have er : r' = r := by omega
      have eg : g' = g := by omega
      have es : s' = s := by omega
      subst er eg es
      rw [hk] at a5
      cases a5
    · rw [if_neg e, if_neg e]
      exact hC.k31 r' g' s' p' a1 a2 a3 a4 a5
  have eun : cUn Q (z.2 25) (z.2 28) (z.2 29) ((uA (uA z 31 (16 * (8 * (4 * r + p) + g) + s) v) 32 (16 * (8 * (4 * r + p) + g) + s) t).2 31) := by
    intro j hj hm
    obtain ⟨u1, u2, u3, u4⟩ := hC.un j hj hm
    have hne : j ≠ 4 * r + p := fun e => hu (e ▸ hm)
    refine ⟨u1, u2, u3, fun m hm2 => ?_⟩
    rw [k31, uA_get, if_neg (by omega)]
    exact u4 m hm2
  exact ⟨hC.tm, hC.nu, hC.tu, hC.nn, hC.ns, hC.qw, hC.qh, hC.wa, hC.mt, hC.hz, hC.wi, hC.su, hC.po, hC.fr, hC.fc, hC.pi, hC.md, hC.me, hC.fn, hC.id, hC.jb, hC.ja, hC.tc, hC.kp, hC.sp, hC.sb, hC.pt, hC.he, hC.qu, hC.nt, (cNb_c hC.nb rfl rfl rfl), hC.mb, hC.jt, hC.cf, (ecl), hC.ho, hC.go, hC.k33, hC.k39, hC.k37, hC.k29, hC.k28, (e31), hC.k30, (eun), hC.on, hC.u2, hC.g0, hC.jp, (cWs_t hC.ws ⟨rfl, rfl, rfl, rfl⟩)⟩
theorem RC_kp (hC : RC n st V Q z) (h3 : g < 8) (h4 : s < 16) (hk : bt (V 12 r g 4) s = true) : RC n st (uR V 15 r g (va_up (V 15 r g) s v)) Q (uA z 37 (16 * (8 * r + g) + s) v) := by
  have e37 : cK37 n (V 12) (z.1 0) ((uA z 37 (16 * (8 * r + g) + s) v).2 37) := by
    intro r' g' s' a1 a2 a3 a5
    rw [uA_get]
    by_cases e : 16 * (8 * r' + g') + s' = 16 * (8 * r + g) + s
    · have er : r' = r := by omega
      have eg : g' = g := by omega
      have es : s' = s := by omega
      subst er eg es
      rw [hk] at a5
      cases a5
    · rw [if_neg e]
      exact hC.k37 r' g' s' a1 a2 a3 a5
  exact ⟨hC.tm, hC.nu, hC.tu, hC.nn, hC.ns, hC.qw, hC.qh, hC.wa, hC.mt, hC.hz, hC.wi, hC.su, hC.po, hC.fr, hC.fc, hC.pi, hC.md, hC.me, hC.fn, hC.id, hC.jb, hC.ja, hC.tc, (cT3_set hC.kp h3 h4), hC.sp, hC.sb, hC.pt, hC.he, hC.qu, hC.nt, (cNb_c hC.nb rfl rfl rfl), hC.mb, hC.jt, hC.cf, hC.cl, hC.ho, hC.go, hC.k33, hC.k39, (e37), hC.k29, hC.k28, hC.k31, hC.k30, hC.un, hC.on, hC.u2, hC.g0, hC.jp, (cWs_t hC.ws ⟨rfl, rfl, rfl, rfl⟩)⟩
theorem RC_sb (hC : RC n st V Q z) (h3 : g < 8) (h4 : s < 16) (hk : bt (V 12 r g 4) s = true ∨ v = -1) : RC n st (uR V 17 r g (va_up (V 17 r g) s v)) Q (uA z 39 (16 * (8 * r + g) + s) v) := by
  have e39 : cK39 n (V 12) ((uA z 39 (16 * (8 * r + g) + s) v).2 39) := by
    intro r' g' s' a1 a2 a3 a5
    rw [uA_get]
    by_cases e : 16 * (8 * r' + g') + s' = 16 * (8 * r + g) + s
    · rw [if_pos e]
      have er : r' = r := by omega
      have eg : g' = g := by omega
      have es : s' = s := by omega
      subst er eg es
      rcases hk with hk | hk
      · rw [hk] at a5
        cases a5
      · exact hk
    · rw [if_neg e]
      exact hC.k39 r' g' s' a1 a2 a3 a5
  exact ⟨hC.tm, hC.nu, hC.tu, hC.nn, hC.ns, hC.qw, hC.qh, hC.wa, hC.mt, hC.hz, hC.wi, hC.su, hC.po, hC.fr, hC.fc, hC.pi, hC.md, hC.me, hC.fn, hC.id, hC.jb, hC.ja, hC.tc, hC.kp, hC.sp, (cT3_set hC.sb h3 h4), hC.pt, hC.he, hC.qu, hC.nt, (cNb_c hC.nb rfl rfl rfl), hC.mb, hC.jt, hC.cf, hC.cl, hC.ho, hC.go, hC.k33, (e39), hC.k37, hC.k29, hC.k28, hC.k31, hC.k30, hC.un, hC.on, hC.u2, hC.g0, hC.jp, (cWs_t hC.ws ⟨rfl, rfl, rfl, rfl⟩)⟩
theorem RC_sp (hC : RC n st V Q z) (h3 : g < 8) (h4 : s < 16) : RC n st (uR V 16 r g (va_up (V 16 r g) s v)) Q (uA z 38 (16 * (8 * r + g) + s) v) :=
  ⟨hC.tm, hC.nu, hC.tu, hC.nn, hC.ns, hC.qw, hC.qh, hC.wa, hC.mt, hC.hz, hC.wi, hC.su, hC.po, hC.fr, hC.fc, hC.pi, hC.md, hC.me, hC.fn, hC.id, hC.jb, hC.ja, hC.tc, hC.kp, (cT3_set hC.sp h3 h4), hC.sb, hC.pt, hC.he, hC.qu, hC.nt, (cNb_c hC.nb rfl rfl rfl), hC.mb, hC.jt, hC.cf, hC.cl, hC.ho, hC.go, hC.k33, hC.k39, hC.k37, hC.k29, hC.k28, hC.k31, hC.k30, hC.un, hC.on, hC.u2, hC.g0, hC.jp, (cWs_t hC.ws ⟨rfl, rfl, rfl, rfl⟩)⟩
/-- joinedBy, as a pair; with joinAt free and toldCut as it must be -/
theorem RC_jb {a b : Int32} (hC : RC n st V Q z) (h3 : g < 8) (h4 : x < 17) (ha : a = -1 ∨ (bt (V 12 r g 4) x = true ∧ V 14 r g x = z.2 35 (17 * (8 * r + g) + yx x) ∧ ∀ p, p < 4 → a = nI p → qpw Q (4 * r + p) ≠ -1))
    (ht : x = 16 → V 12 r g 7 = if a = -1 then 0 else z.2 36 (8 * r + g)) : RC n st (uR V 13 r g (va_up (V 13 r g) x (jbV a b))) Q (uA (uA z 33 (17 * (8 * r + g) + yx x) a) 34 (17 * (8 * r + g) + yx x) b) := by
  have hy := yx_lt h4
  have k33 : ∀ j, (uA (uA z 33 (17 * (8 * r + g) + yx x) a) 34 (17 * (8 * r + g) + yx x) b).2 33 j = if j = 17 * (8 * r + g) + yx x then a else z.2 33 j := fun j => by rw [uA_ne (by decide), uA_get]
  have k34 : ∀ j, (uA (uA z 33 (17 * (8 * r + g) + yx x) a) 34 (17 * (8 * r + g) + yx x) b).2 34 j = if j = 17 * (8 * r + g) + yx x then b else z.2 34 j := fun j => by rw [uA_get, uA_ne (by decide)]
  have idx : ∀ r' g' x', g' < 8 → x' < 17 → 17 * (8 * r' + g') + yx x' = 17 * (8 * r + g) + yx x → r' = r ∧ g' = g ∧ x' = x := by
    intro r' g' x' b1 b2 e
    have := yx_lt b2
    exact ⟨by omega, by omega, yx_inj (by omega) h4 b2⟩
  have ejb : cJb n (uR V 13 r g (va_up (V 13 r g) x (jbV a b)) 13) ((uA (uA z 33 (17 * (8 * r + g) + yx x) a) 34 (17 * (8 * r + g) + yx x) b).2 33) ((uA (uA z 33 (17 * (8 * r + g) + yx x) a) 34 (17 * (8 * r + g) + yx x) b).2 34) := by
    intro r' g' x' a1 a2 a3
    rw [k33, k34, uR_at]
    by_cases e : 17 * (8 * r' + g') + yx x' = 17 * (8 * r + g) + yx x
    · obtain ⟨rfl, rfl, rfl⟩ := idx r' g' x' a2 a3 e
      rw [if_pos ⟨rfl, rfl⟩, vu_s, if_pos rfl, if_pos rfl]
    · rw [if_neg e, if_neg e]
      by_cases e2 : r' = r ∧ g' = g
      · obtain ⟨rfl, rfl⟩ := e2
        rw [if_pos ⟨rfl, rfl⟩, vu_n (fun w => e (by rw [w]))]
        exact hC.jb r' g' x' a1 a2 a3
      · rw [if_neg e2]
        exact hC.jb r' g' x' a1 a2 a3
  have eja : cJa n (V 14) ((uA (uA z 33 (17 * (8 * r + g) + yx x) a) 34 (17 * (8 * r + g) + yx x) b).2 33) (z.2 35) := by
    intro r' g' x' a1 a2 a3 a4
    rw [k33] at a4
    by_cases e : 17 * (8 * r' + g') + yx x' = 17 * (8 * r + g) + yx x
    · obtain ⟨rfl, rfl, rfl⟩ := idx r' g' x' a2 a3 e
      rw [if_pos rfl] at a4
      rcases ha with h | h
      · exact absurd h a4
      · exact h.2.1
    · rw [if_neg e] at a4
      exact hC.ja r' g' x' a1 a2 a3 a4
  have etc : cTc n (V 12) ((uA (uA z 33 (17 * (8 * r + g) + yx x) a) 34 (17 * (8 * r + g) + yx x) b).2 33) (z.2 36) := by
    intro r' g' a1 a2
    rw [k33]
    by_cases e : 17 * (8 * r' + g') = 17 * (8 * r + g) + yx x
    · obtain ⟨rfl, rfl, e3⟩ := idx r' g' 16 a2 (by decide) (by rw [yx_16]; exact e)
      rw [if_pos e]
      exact ht e3.symm
    · rw [if_neg e]
      exact hC.tc r' g' a1 a2
  have ek : cK33 n (V 12) ((uA (uA z 33 (17 * (8 * r + g) + yx x) a) 34 (17 * (8 * r + g) + yx x) b).2 33) := by
    intro r' g' x' a1 a2 a3 a4
    rw [k33]
    by_cases e : 17 * (8 * r' + g') + yx x' = 17 * (8 * r + g) + yx x
    · obtain ⟨rfl, rfl, rfl⟩ := idx r' g' x' a2 a3 e
      rw [if_pos rfl]
      rcases ha with h | h
      · exact h
      · rw [h.1] at a4
        cases a4
    · rw [if_neg e]
      exact hC.k33 r' g' x' a1 a2 a3 a4
  have ejp : cJp n Q ((uA (uA z 33 (17 * (8 * r + g) + yx x) a) 34 (17 * (8 * r + g) + yx x) b).2 33) := by
    intro r' g' y' p' a1 a2 a3 a4 a5
    rw [k33] at a5
    by_cases e : 17 * (8 * r' + g') + y' = 17 * (8 * r + g) + yx x
    · rw [if_pos e] at a5
      have er : r' = r := by omega
      subst er
      rcases ha with h | h
      · rw [h] at a5
        exact absurd a5.symm (nI_m1 (by omega))
      · exact h.2.2 p' a4 a5
    · rw [if_neg e] at a5
      exact hC.jp r' g' y' p' a1 a2 a3 a4 a5
  exact ⟨hC.tm, hC.nu, hC.tu, hC.nn, hC.ns, hC.qw, hC.qh, hC.wa, hC.mt, hC.hz, hC.wi, hC.su, hC.po, hC.fr, hC.fc, hC.pi, hC.md, hC.me, hC.fn, hC.id, (ejb), (eja), (etc), hC.kp, hC.sp, hC.sb, hC.pt, hC.he, hC.qu, hC.nt, (cNb_c hC.nb rfl rfl rfl), hC.mb, hC.jt, hC.cf, hC.cl, hC.ho, hC.go, (ek), hC.k39, hC.k37, hC.k29, hC.k28, hC.k31, hC.k30, hC.un, hC.on, hC.u2, hC.g0, (ejp), (cWs_t hC.ws ⟨rfl, rfl, rfl, rfl⟩)⟩
theorem RC_ja (hC : RC n st V Q z) (h3 : g < 8) (h4 : x < 17) : RC n st (uR V 14 r g (va_up (V 14 r g) x v)) Q (uA z 35 (17 * (8 * r + g) + yx x) v) := by
  have hy := yx_lt h4
  have eja : cJa n (uR V 14 r g (va_up (V 14 r g) x v) 14) (z.2 33) ((uA z 35 (17 * (8 * r + g) + yx x) v).2 35) := by
    intro r' g' x' a1 a2 a3 a4
    have hy' := yx_lt a3
    rw [uA_get, uR_at]
    by_cases e : 17 * (8 * r' + g') + yx x' = 17 * (8 * r + g) + yx x
    · have er : r' = r := by omega
      have eg : g' = g := by omega
      have ex : x' = x := yx_inj (by omega) h4 a3
      subst er eg ex
      rw [if_pos ⟨rfl, rfl⟩, vu_s, if_pos rfl]
    · rw [if_neg e]
      by_cases e2 : r' = r ∧ g' = g
      · obtain ⟨rfl, rfl⟩ := e2
        rw [if_pos ⟨rfl, rfl⟩, vu_n (fun w => e (by rw [w]))]
        exact hC.ja r' g' x' a1 a2 a3 a4
      · rw [if_neg e2]
        exact hC.ja r' g' x' a1 a2 a3 a4
  exact ⟨hC.tm, hC.nu, hC.tu, hC.nn, hC.ns, hC.qw, hC.qh, hC.wa, hC.mt, hC.hz, hC.wi, hC.su, hC.po, hC.fr, hC.fc, hC.pi, hC.md, hC.me, hC.fn, hC.id, hC.jb, (eja), hC.tc, hC.kp, hC.sp, hC.sb, hC.pt, hC.he, hC.qu, hC.nt, (cNb_c hC.nb rfl rfl rfl), hC.mb, hC.jt, hC.cf, hC.cl, hC.ho, hC.go, hC.k33, hC.k39, hC.k37, hC.k29, hC.k28, hC.k31, hC.k30, hC.un, hC.on, hC.u2, hC.g0, hC.jp, (cWs_t hC.ws ⟨rfl, rfl, rfl, rfl⟩)⟩
/-- toldCut, where * is joined -/
theorem tc_at (a b k : Nat) (hk : k ≠ 7) : uR V 12 r g (va_up (V 12 r g) 7 w) 12 a b k = V 12 a b k := by
  rw [uR_at]
  by_cases e : a = r ∧ b = g
  · rw [if_pos e, vu_n hk, e.1, e.2]
  · rw [if_neg e]
theorem tc_4 (a b c : Nat) (h : bt (uR V 12 r g (va_up (V 12 r g) 7 w) 12 a b 4) c = false) : bt (V 12 a b 4) c = false := by
  rw [tc_at a b 4 (by decide)] at h
  exact h
theorem RC_tc {z' : Sg} (hC : RC n st V Q z) (hz : RC n st V Q z → cTc n (uR V 12 r g (va_up (V 12 r g) 7 w) 12) (z'.2 33) (z'.2 36)) (e1 : z'.1 = z.1) (e2 : ∀ k, k ≠ 36 → z'.2 k = z.2 k) : RC n st (uR V 12 r g (va_up (V 12 r g) 7 w)) Q z' := by
  have h : RC n st (uR V 12 r g (va_up (V 12 r g) 7 w)) Q (z.1, fun k => if k = 36 then z'.2 36 else z.2 k) := by
    have et : cTc n (uR V 12 r g (va_up (V 12 r g) 7 w) 12) (z.2 33) (z'.2 36) := by
      have := hz hC
      rw [e2 33 (by decide)] at this
      exact this
    exact ⟨hC.tm, hC.nu, hC.tu, hC.nn, hC.ns, hC.qw, hC.qh, hC.wa, hC.mt, hC.hz, hC.wi, hC.su, hC.po, hC.fr, hC.fc, hC.pi, hC.md, hC.me, hC.fn, (fun a d => ⟨(hC.id a d).1, fun b e => ⟨(tc_at a b 1 (by decide)).trans ((hC.id a d).2 b e).1, (tc_at a b 2 (by decide)).trans ((hC.id a d).2 b e).2⟩⟩), hC.jb, hC.ja, (et), hC.kp, hC.sp, hC.sb, hC.pt, hC.he, hC.qu, hC.nt, (cNb_c hC.nb rfl rfl rfl), hC.mb, hC.jt, hC.cf, hC.cl, hC.ho, hC.go, (fun a b c d e i j => hC.k33 a b c d e i (tc_4 a b c j)), (fun a b c d e i j => hC.k39 a b c d e i (tc_4 a b c j)), (fun a b c d e i j => hC.k37 a b c d e i (tc_4 a b c j)), (fun a b c l d e i m j => hC.k29 a b c l d e i m (tc_4 a b c j)), (fun a b l d e i j => hC.k28 a b l d e i (tc_4 a b 16 j)), (fun a b c l d e i m j => hC.k31 a b c l d e i m (tc_4 a b c j)), (fun a b c l d e i m j => hC.k30 a b c l d e i m (tc_4 a b c j)), hC.un, hC.on, hC.u2, hC.g0, hC.jp, (cWs_t hC.ws ⟨rfl, rfl, rfl, rfl⟩)⟩
  have ez : (z.1, fun k => if k = 36 then z'.2 36 else z.2 k) = z' := by
    refine Prod.ext e1.symm ?_
    funext k
    show (if k = 36 then z'.2 36 else z.2 k) = z'.2 k
    by_cases hk : k = 36
    · rw [if_pos hk, hk]
    · rw [if_neg hk, e2 k hk]
  exact ez ▸ h
/-- when something was said -/
theorem RC_he (k m : Nat) (hkm : k = 5 ∧ m = 26 ∨ k = 6 ∧ m = 27) (hC : RC n st V Q z) (h2 : p < 4) (hu : qpw Q (4 * r + p) ≠ -1) (h0 : v ≠ 0) (h1 : v ≠ -1) : RC n st (uR V 18 r p (va_up (V 18 r p) k v)) Q (uA z m (4 * r + p) v) := by
  have hne : ∀ j, qpw Q j = -1 → j ≠ 4 * r + p := fun j hj e => hu (e ▸ hj)
  have at18 : ∀ a b c, c ≠ k → uR V 18 r p (va_up (V 18 r p) k v) 18 a b c = V 18 a b c := by
    intro a b c hc
    rw [uR_at]
    by_cases e : a = r ∧ b = p
    · rw [if_pos e, vu_n hc, e.1, e.2]
    · rw [if_neg e]
  have hh : cHe n Q (V 18) k (z.2 m) → cHe n Q (uR V 18 r p (va_up (V 18 r p) k v) 18) k ((uA z m (4 * r + p) v).2 m) := by
    intro h r' p' a1 a2 a3
    rw [uA_get, uR_at]
    by_cases e : r' = r ∧ p' = p
    · obtain ⟨rfl, rfl⟩ := e
      rw [if_pos (show r' = r' ∧ p' = p' from ⟨rfl, rfl⟩), if_pos rfl, vu_s, if_neg h1]
      exact ⟨h0, rfl⟩
    · rw [if_neg e, if_neg (by omega)]
      exact h r' p' a1 a2 a3
  have ho : ∀ k' m', k' ≠ k → m' ≠ m → cHe n Q (V 18) k' (z.2 m') → cHe n Q (uR V 18 r p (va_up (V 18 r p) k v) 18) k' ((uA z m (4 * r + p) v).2 m') := by
    intro k' m' hk hm h r' p' a1 a2 a3
    rw [uA_ne hm, at18 _ _ _ hk]
    exact h r' p' a1 a2 a3
  have ept : k ≠ 1 ∧ k ≠ 3 → cPo2 n Q (uR V 18 r p (va_up (V 18 r p) k v) 18) (z.2 9) := by
    intro hk r' p' a1 a2 a3
    rw [at18 _ _ _ (Ne.symm hk.1), at18 _ _ _ (Ne.symm hk.2)]
    exact hC.pt r' p' a1 a2 a3
  have enb : k ≠ 4 → cNb n Q (uR V 18 r p (va_up (V 18 r p) k v) 18) z := by
    intro hk r' p' a1 a2 a3
    rw [at18 _ _ _ (Ne.symm hk)]
    exact hC.nb r' p' a1 a2 a3
  rcases hkm with ⟨rfl, rfl⟩ | ⟨rfl, rfl⟩
  · exact ⟨hC.tm, hC.nu, hC.tu, hC.nn, hC.ns, hC.qw, hC.qh, hC.wa, hC.mt, hC.hz, hC.wi, hC.su, hC.po, hC.fr, hC.fc, hC.pi, hC.md, hC.me, hC.fn, hC.id, hC.jb, hC.ja, hC.tc, hC.kp, hC.sp, hC.sb, (ept (by decide)), (hh hC.he), (ho 6 27 (by decide) (by decide) hC.qu), hC.nt, (cNb_c (enb (by decide)) rfl rfl rfl), hC.mb, hC.jt, hC.cf, hC.cl, hC.ho, hC.go, hC.k33, hC.k39, hC.k37, hC.k29, hC.k28, hC.k31, hC.k30, hC.un, hC.on, (fun j hj hm => ⟨by rw [uA_get, if_neg (hne j hm)]; exact (hC.u2 j hj hm).1, (hC.u2 j hj hm).2⟩), hC.g0, hC.jp, (cWs_t hC.ws ⟨rfl, rfl, rfl, rfl⟩)⟩
  · exact ⟨hC.tm, hC.nu, hC.tu, hC.nn, hC.ns, hC.qw, hC.qh, hC.wa, hC.mt, hC.hz, hC.wi, hC.su, hC.po, hC.fr, hC.fc, hC.pi, hC.md, hC.me, hC.fn, hC.id, hC.jb, hC.ja, hC.tc, hC.kp, hC.sp, hC.sb, (ept (by decide)), (ho 5 26 (by decide) (by decide) hC.he), (hh hC.qu), hC.nt, (cNb_c (enb (by decide)) rfl rfl rfl), hC.mb, hC.jt, hC.cf, hC.cl, hC.ho, hC.go, hC.k33, hC.k39, hC.k37, hC.k29, hC.k28, hC.k31, hC.k30, hC.un, hC.on, (fun j hj hm => ⟨(hC.u2 j hj hm).1, by rw [uA_get, if_neg (hne j hm)]; exact (hC.u2 j hj hm).2.1, (hC.u2 j hj hm).2.2⟩), hC.g0, hC.jp, (cWs_t hC.ws ⟨rfl, rfl, rfl, rfl⟩)⟩
/-- a neighbour is heard -/
theorem RC_nt (hC : RC n st V Q z) (hF : WF z) (h1 : r < n) (h2 : p < 4) (hu : qpw Q (4 * r + p) ≠ -1) (h3 : q < n) (hne : q ≠ r) (hv : z.1 0 < v) : RC n st (uR (uR V 18 r p (va_up (V 18 r p) 4 (V 18 r p 4 ||| (1 <<< (nI q &&& 31))))) 19 r p (va_up (V 19 r p) q v)) Q (uA z 25 (10 * (4 * r + p) + q) v) := by
  have hn := hC.nn.2.2.2
  have hr := hC.nr
  have at18 : ∀ a b c, c ≠ 4 → uR (uR V 18 r p (va_up (V 18 r p) 4 (V 18 r p 4 ||| (1 <<< (nI q &&& 31))))) 19 r p (va_up (V 19 r p) q v) 18 a b c = V 18 a b c := by
    intro a b c hc
    rw [uR_ne (by decide), uR_at]
    by_cases e : a = r ∧ b = p
    · rw [if_pos e, vu_n hc, e.1, e.2]
    · rw [if_neg e]
  have ent : cNt n Q (uR (uR V 18 r p (va_up (V 18 r p) 4 (V 18 r p 4 ||| (1 <<< (nI q &&& 31))))) 19 r p (va_up (V 19 r p) q v) 19) ((uA z 25 (10 * (4 * r + p) + q) v).2 25) := by
    have h19 : uR V 18 r p (va_up (V 18 r p) 4 (V 18 r p 4 ||| (1 <<< (nI q &&& 31)))) 19 = V 19 := uR_ne (by decide)
    have := cNt_set (V := uR V 18 r p (va_up (V 18 r p) 4 (V 18 r p 4 ||| (1 <<< (nI q &&& 31))))) (z := z) (c := 19) (k := 25) (r := r) (p := p) (q := q) (v := v) (by rw [h19]; exact hC.nt) h2 (by omega)
    rw [h19] at this
    exact this
  have enb : cNb n Q (uR (uR V 18 r p (va_up (V 18 r p) 4 (V 18 r p 4 ||| (1 <<< (nI q &&& 31))))) 19 r p (va_up (V 19 r p) q v) 18) (uA z 25 (10 * (4 * r + p) + q) v) := by
    intro r' p' a1 a2 a3
    have hR : nR (uA z 25 (10 * (4 * r + p) + q) v) = nR z := rfl
    have hnb : ∀ k, nb (uA z 25 (10 * (4 * r + p) + q) v) (4 * r' + p') k = if 10 * (4 * r' + p') + k = 10 * (4 * r + p) + q then true else nb z (4 * r' + p') k := by
      intro k
      unfold nb
      rw [uA_get]
      show decide (z.1 0 < _) = _
      by_cases e : 10 * (4 * r' + p') + k = 10 * (4 * r + p) + q
      · rw [if_pos e, if_pos e, decide_eq_true hv]
      · rw [if_neg e, if_neg e]
    rw [uR_ne (by decide), uR_at]
    by_cases e : r' = r ∧ p' = p
    · obtain ⟨rfl, rfl⟩ := e
      rw [if_pos ⟨rfl, rfl⟩, vu_s, hC.nb r' p' a1 a2 a3]
      apply b_ext
      intro k hk
      rw [b_or, b_bit (by omega) hk, b_nbits (by omega) hk, b_nbits (by rw [hR]; omega) hk, hnb, hR]
      by_cases ek : k = q
      · subst ek
        rw [if_pos rfl, decide_eq_true (show k < nR z by omega)]
        simp
      · rw [if_neg (by omega), decide_eq_false ek, Bool.or_false]
    · rw [if_neg e, hC.nb r' p' a1 a2 a3]
      apply b_ext
      intro k hk
      rw [b_nbits (by omega) hk, b_nbits (by rw [hR]; omega) hk, hnb, hR]
      by_cases ek : k < nR z
      · rw [if_neg (by omega)]
      · rw [decide_eq_false ek]
        simp
  have eun : cUn Q ((uA z 25 (10 * (4 * r + p) + q) v).2 25) (z.2 28) (z.2 29) (z.2 31) := by
    intro j hj hm
    obtain ⟨u1, u2, u3, u4⟩ := hC.un j hj hm
    have hne : j ≠ 4 * r + p := fun e => hu (e ▸ hm)
    refine ⟨fun m hm2 => ?_, u2, u3, u4⟩
    rw [uA_get, if_neg (by omega)]
    exact u1 m hm2
  have eon : cOn ((uA z 25 (10 * (4 * r + p) + q) v).2 25) := by
    intro r' p' a1 a2
    have k : ∀ A B a b : Nat, a < 10 → b < 10 → 10 * A + a = 10 * B + b → A = B ∧ a = b := fun A B a b h1 h2 h3 => by omega
    rw [uA_get, if_neg (fun e => by
      obtain ⟨k1, k2⟩ := k _ _ _ _ a1 (show q < 10 by omega) e
      exact hne (by omega))]
    exact hC.on r' p' a1 a2
  exact ⟨hC.tm, hC.nu, hC.tu, hC.nn, hC.ns, hC.qw, hC.qh, hC.wa, hC.mt, hC.hz, hC.wi, hC.su, hC.po, hC.fr, hC.fc, hC.pi, hC.md, hC.me, hC.fn, hC.id, hC.jb, hC.ja, hC.tc, hC.kp, hC.sp, hC.sb, (fun a b c d e => ⟨(at18 a b 1 (by decide)).trans (hC.pt a b c d e).1, (at18 a b 3 (by decide)).trans (hC.pt a b c d e).2⟩), (fun a b c d e => ⟨(hC.he a b c d e).1, (at18 a b 5 (by decide)).trans (hC.he a b c d e).2⟩), (fun a b c d e => ⟨(hC.qu a b c d e).1, (at18 a b 6 (by decide)).trans (hC.qu a b c d e).2⟩), (ent), (enb), hC.mb, hC.jt, hC.cf, hC.cl, hC.ho, hC.go, hC.k33, hC.k39, hC.k37, hC.k29, hC.k28, hC.k31, hC.k30, (eun), (eon), hC.u2, hC.g0, hC.jp, (cWs_t hC.ws ⟨rfl, rfl, rfl, rfl⟩)⟩
end
