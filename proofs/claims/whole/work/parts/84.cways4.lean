/-! THE CLASS'S WAYS: ports and routers of the ways -/
abbrev ownT (z : Sg) (r T : Nat) : Prop := 10 ≤ T ∧ atT z r T
def pv (z : Sg) (n r T p s m : Nat) : Int32 := if ownT z r T then (if (pOn z r (nI (T - 10))).toNatClampNeg < p + s then pOn z r (nI (T - 10)) else -1) else (scQ (fitP z r T) p (scP (fitP z r T) n p) m).1
def qv (z : Sg) (n r T p m : Nat) : Int32 := if ownT z r T then -1 else (scQ (fitP z r T) p (scP (fitP z r T) n p) m).2
def pC (z : Sg) (n r p s b t k : Nat) : Int32 := if k / 26 < r then cPt z (k / 26) (k % 26) else if k / 26 = r then pv z n r (k % 26) p s (if k % 26 < t then b + 1 else b) else -1
def nC' (z : Sg) (n r p b t k : Nat) : Int32 := if k / 26 < r then cRt z (k / 26) (k % 26) else if k / 26 = r then qv z n r (k % 26) p (if k % 26 < t then b + 1 else b) else -1
section
variable {L : Ly} {G : Hp} {n : Nat} {V : Vt} {Q : Qt} {z : Sg} {r p b t k y w s T m v : Nat}
theorem sc_s {P : Nat → Nat → Bool} {x : Int32 × Int32} {q : Nat} : scQ P p x (q + 1) = if (scQ P p x q).1 = -1 ∧ P p q = true then (nI p, nI q) else scQ P p x q := rfl
theorem pv_0 (hnr : nR z = n) (hT : T < 26) : pv z n r T 4 0 0 = cPt z r T ∧ qv z n r T 4 0 = cRt z r T := by
  unfold pv qv cPt cRt
  rw [hnr]
  by_cases h : ownT z r T
  · rw [if_pos h, if_pos h, if_pos h, if_pos h]
    refine ⟨?_, rfl⟩
    rcases pOn_ok z r (nI (T - 10)) with e | ⟨p, hp, e⟩
    · rw [e]
      split <;> rfl
    · rw [e, nI_clamp (by omega), if_pos (by omega)]
  · rw [if_neg h, if_neg h, if_neg h, if_neg h]
    exact ⟨rfl, rfl⟩
theorem pC_r (hnr : nR z = n) : (fun k => pC z n r 4 0 0 0 k) = (fun k => pC z n (r + 1) 0 0 0 0 k) ∧ (fun k => nC' z n r 4 0 0 k) = fun k => nC' z n (r + 1) 0 0 0 k := by
  have h00 : ∀ T, pv z n (r + 1) T 0 0 0 = -1 ∧ qv z n (r + 1) T 0 0 = -1 := by
    intro T
    unfold pv qv
    by_cases h : ownT z (r + 1) T
    · rw [if_pos h, if_pos h, if_neg (by omega)]
      exact ⟨rfl, rfl⟩
    · rw [if_neg h, if_neg h]
      exact ⟨rfl, rfl⟩
  constructor
  · funext k
    unfold pC
    rw [if_neg (show ¬ k % 26 < 0 by omega)]
    by_cases h1 : k / 26 < r
    · rw [if_pos h1, if_pos (by omega)]
    · rw [if_neg h1]
      by_cases h2 : k / 26 = r
      · rw [if_pos h2, if_pos (by omega), h2, (pv_0 hnr (by omega)).1]
      · rw [if_neg h2, if_neg (by omega)]
        by_cases h3 : k / 26 = r + 1
        · rw [if_pos h3, (h00 _).1]
        · rw [if_neg h3]
  · funext k
    unfold nC'
    rw [if_neg (show ¬ k % 26 < 0 by omega)]
    by_cases h1 : k / 26 < r
    · rw [if_pos h1, if_pos (by omega)]
    · rw [if_neg h1]
      by_cases h2 : k / 26 = r
      · rw [if_pos h2, if_pos (by omega), h2, (pv_0 hnr (by omega)).2]
      · rw [if_neg h2, if_neg (by omega)]
        by_cases h3 : k / 26 = r + 1
        · rw [if_pos h3, (h00 _).2]
        · rw [if_neg h3]
theorem pC_00 : (fun k => pC z n 0 0 0 0 0 k) = (fun _ => (-1 : Int32)) ∧ (fun k => nC' z n 0 0 0 0 k) = fun _ => (-1 : Int32) := by
  constructor
  · funext k
    unfold pC pv
    rw [if_neg (by omega)]
    split
    · split
      · rw [if_neg (by omega)]
      · rw [if_neg (by omega)]
        rfl
    · rfl
  · funext k
    unfold nC' qv
    rw [if_neg (by omega)]
    split
    · split
      · rfl
      · rw [if_neg (by omega)]
        rfl
    · rfl
/-- one target -/
theorem pv_s (hc : CO z) (hnr : nR z = n) (hn : n ≤ 10) (hr : r < n) (hp : p < 4) (hb : b < n) : (pv z n r T p s (b + 1), qv z n r T p (b + 1)) = if pv z n r T p s b = -1 ∧ fitP z r T p b = true then (nI p, nI b) else (pv z n r T p s b, qv z n r T p b) := by
  by_cases h : ownT z r T
  · have hf : fitP z r T p b = false := fit_no hc (by omega) (by omega) (Or.inr (at_0 hc (by omega) (by omega) h.2)) p b hp (by omega)
    rw [hf, if_neg (fun w => by cases w.2)]
    unfold pv qv
    simp only [if_pos h]
  · unfold pv qv
    rw [if_neg h, if_neg h, if_neg h, sc_s]
    split <;> simp only [if_neg h]
theorem pC_t (hc : CO z) (hnr : nR z = n) (hn : n ≤ 10) (hr : r < n) (hp : p < 4) (hb : b < n) (ht : t < 26) :
    ((fun k => pC z n r p s b (t + 1) k), fun k => nC' z n r p b (t + 1) k) = if pC z n r p s b t (26 * r + t) = -1 ∧ fitP z r t p b = true then (va_up (fun k => pC z n r p s b t k) (26 * r + t) (nI p), va_up (fun k => nC' z n r p b t k) (26 * r + t) (nI b)) else ((fun k => pC z n r p s b t k), fun k => nC' z n r p b t k) := by
  have a1 : (26 * r + t) % 26 = t := by omega
  have a2 : (26 * r + t) / 26 = r := by omega
  have eo : ∀ k, k ≠ 26 * r + t → pC z n r p s b (t + 1) k = pC z n r p s b t k ∧ nC' z n r p b (t + 1) k = nC' z n r p b t k := by
    intro k hk
    unfold pC nC'
    by_cases h1 : k / 26 < r
    · rw [if_pos h1, if_pos h1, if_pos h1, if_pos h1]
      exact ⟨rfl, rfl⟩
    · rw [if_neg h1, if_neg h1, if_neg h1, if_neg h1]
      by_cases h2 : k / 26 = r
      · have : (if k % 26 < t + 1 then b + 1 else b) = if k % 26 < t then b + 1 else b := by
          by_cases h3 : k % 26 < t
          · rw [if_pos h3, if_pos (by omega)]
          · rw [if_neg h3, if_neg (by omega)]
        rw [this]
        exact ⟨rfl, rfl⟩
      · rw [if_neg h2, if_neg h2, if_neg h2, if_neg h2]
        exact ⟨rfl, rfl⟩
  have v0 : pC z n r p s b t (26 * r + t) = pv z n r t p s b ∧ nC' z n r p b t (26 * r + t) = qv z n r t p b := by
    unfold pC nC'
    rw [a1, a2, if_neg (by omega), if_pos rfl, if_neg (by omega), if_neg (by omega), if_pos rfl]
    exact ⟨rfl, rfl⟩
  have v1 : pC z n r p s b (t + 1) (26 * r + t) = pv z n r t p s (b + 1) ∧ nC' z n r p b (t + 1) (26 * r + t) = qv z n r t p (b + 1) := by
    unfold pC nC'
    rw [a1, a2, if_neg (by omega), if_pos rfl, if_pos (by omega), if_neg (by omega), if_pos rfl]
    exact ⟨rfl, rfl⟩
  have st := pv_s (T := t) (s := s) hc hnr hn hr hp hb
  rw [v0.1]
  by_cases hh : pv z n r t p s b = -1 ∧ fitP z r t p b = true
  · rw [if_pos hh] at st
    rw [if_pos hh]
    refine Prod.ext ?_ ?_
    · funext k
      show pC z n r p s b (t + 1) k = va_up (fun k => pC z n r p s b t k) (26 * r + t) (nI p) k
      rw [vu_a]
      by_cases hk : k = 26 * r + t
      · rw [if_pos hk, hk, v1.1]
        exact congrArg Prod.fst st
      · rw [if_neg hk]
        exact (eo k hk).1
    · funext k
      show nC' z n r p b (t + 1) k = va_up (fun k => nC' z n r p b t k) (26 * r + t) (nI b) k
      rw [vu_a]
      by_cases hk : k = 26 * r + t
      · rw [if_pos hk, hk, v1.2]
        exact congrArg Prod.snd st
      · rw [if_neg hk]
        exact (eo k hk).2
  · rw [if_neg hh] at st
    rw [if_neg hh]
    refine Prod.ext ?_ ?_
    · funext k
      by_cases hk : k = 26 * r + t
      · show pC z n r p s b (t + 1) k = pC z n r p s b t k
        rw [hk, v1.1, v0.1]
        exact congrArg Prod.fst st
      · exact (eo k hk).1
    · funext k
      by_cases hk : k = 26 * r + t
      · show nC' z n r p b (t + 1) k = nC' z n r p b t k
        rw [hk, v1.2, v0.2]
        exact congrArg Prod.snd st
      · exact (eo k hk).2
theorem pC_b : (fun k => pC z n r p s b 26 k) = (fun k => pC z n r p s (b + 1) 0 k) ∧ (fun k => nC' z n r p b 26 k) = fun k => nC' z n r p (b + 1) 0 k := by
  constructor
  · funext k
    unfold pC
    rw [if_pos (show k % 26 < 26 by omega), if_neg (show ¬ k % 26 < 0 by omega)]
  · funext k
    unfold nC'
    rw [if_pos (show k % 26 < 26 by omega), if_neg (show ¬ k % 26 < 0 by omega)]
theorem pC_no (hc : CO z) (hnr : nR z = n) (hn : n ≤ 10) (hr : r < n) (hp : p < 4) (hb : b < n) (h : ∀ T, fitP z r T p b = false) : (fun k => pC z n r p s b 0 k) = (fun k => pC z n r p s (b + 1) 0 k) ∧ (fun k => nC' z n r p b 0 k) = fun k => nC' z n r p (b + 1) 0 k := by
  have st : ∀ T, pv z n r T p s (b + 1) = pv z n r T p s b ∧ qv z n r T p (b + 1) = qv z n r T p b := by
    intro T
    have := pv_s (T := T) (s := s) hc hnr hn hr hp hb
    rw [h T, if_neg (fun w => by cases w.2)] at this
    exact ⟨congrArg Prod.fst this, congrArg Prod.snd this⟩
  constructor
  · funext k
    unfold pC
    rw [if_neg (show ¬ k % 26 < 0 by omega), if_neg (show ¬ k % 26 < 0 by omega), (st _).1]
  · funext k
    unfold nC'
    rw [if_neg (show ¬ k % 26 < 0 by omega), if_neg (show ¬ k % 26 < 0 by omega), (st _).2]
theorem pC_p : (fun k => pC z n r p 1 n 0 k) = (fun k => pC z n r (p + 1) 0 0 0 k) ∧ (fun k => nC' z n r p n 0 k) = fun k => nC' z n r (p + 1) 0 0 k := by
  constructor
  · funext k
    unfold pC
    rw [if_neg (show ¬ k % 26 < 0 by omega), if_neg (show ¬ k % 26 < 0 by omega)]
    rfl
  · funext k
    unfold nC'
    rw [if_neg (show ¬ k % 26 < 0 by omega), if_neg (show ¬ k % 26 < 0 by omega)]
    rfl
/-- a port whose wire is cut, or that is not there -/
theorem pC_down (hnr : nR z = n) (hp : p < 4) (hF : WF z) (hr : r < 10) (hd : ¬ upP z (4 * r + p)) : (fun k => pC z n r p 0 0 0 k) = (fun k => pC z n r (p + 1) 0 0 0 k) ∧ (fun k => nC' z n r p 0 0 k) = fun k => nC' z n r (p + 1) 0 0 k := by
  have hf : ∀ T q, fitP z r T p q = false := by
    intro T q
    unfold fitP
    have : eB z r p q = false := by
      cases h : eB z r p q with
      | false => rfl
      | true => exact absurd (eB_up h) hd
    rw [this]
    rfl
  have e : ∀ T, T < 26 → pv z n r T p 0 0 = pv z n r T (p + 1) 0 0 ∧ qv z n r T p 0 = qv z n r T (p + 1) 0 := by
    intro T hT
    unfold pv qv
    by_cases h : ownT z r T
    · rw [if_pos h, if_pos h, if_pos h, if_pos h]
      refine ⟨?_, rfl⟩
      rcases pOn_ok z r (nI (T - 10)) with e | ⟨p', hp', e⟩
      · rw [e]
        split <;> split <;> rfl
      · rw [e, nI_clamp (by omega)]
        have hne : p' ≠ p := by
          intro w
          have e8 := pOn_pl hp' e
          rw [w] at e8
          rcases h.2 with q | q
          · omega
          · exact hd ⟨by rw [e8]; exact nI_m1 (by omega), by rw [e8, nI_clamp (by omega)]; exact q.2.1⟩
        by_cases hlt : p' < p + 0
        · rw [if_pos hlt, if_pos (by omega)]
        · rw [if_neg hlt, if_neg (by omega)]
    · rw [if_neg h, if_neg h, if_neg h, if_neg h]
      have : scP (fitP z r T) n (p + 1) = scP (fitP z r T) n p := sc_noQ n (fun q0 _ => hf T q0)
      show (scP (fitP z r T) n p).1 = (scP (fitP z r T) n (p + 1)).1 ∧ (scP (fitP z r T) n p).2 = (scP (fitP z r T) n (p + 1)).2
      rw [this]
      exact ⟨rfl, rfl⟩
  constructor
  · funext k
    unfold pC
    rw [if_neg (show ¬ k % 26 < 0 by omega), (e (k % 26) (by omega)).1]
  · funext k
    unfold nC'
    rw [if_neg (show ¬ k % 26 < 0 by omega), (e (k % 26) (by omega)).2]
/-- the port's own wire -/
theorem pC_own (hp : p < 4) (hv : v < 16) (hup : z.2 10 v = 0) (e8 : z.2 8 (4 * r + p) = nI v) (hd : ∀ p', p' < 4 → z.2 8 (4 * r + p') = nI v → p' = p) : va_up (fun k => pC z n r p 0 0 0 k) (26 * r + 10 + v) (nI p) = fun k => pC z n r p 1 0 0 k := by
  have epo : pOn z r (nI v) = nI p := by
    rcases pOn_ok z r (nI v) with e | ⟨p', hp', e⟩
    · exfalso
      unfold pOn at e
      have k0 : ∀ a : Nat, a < 4 → nI a ≠ -1 := fun a ha => nI_m1 (by omega)
      have : p = 0 ∨ p = 1 ∨ p = 2 ∨ p = 3 := by omega
      split at e
      · exact k0 0 (by decide) e
      · split at e
        · exact k0 1 (by decide) e
        · split at e
          · exact k0 2 (by decide) e
          · split at e
            · exact k0 3 (by decide) e
            · rename_i n0 n1 n2 n3
              rcases this with w | w | w | w <;> subst w
              · exact n0 e8
              · exact n1 e8
              · exact n2 e8
              · exact n3 e8
    · rw [e, hd p' hp' (pOn_pl hp' e)]
  funext k
  rw [vu_a]
  by_cases hk : k = 26 * r + 10 + v
  · rw [if_pos hk, hk]
    unfold pC pv
    have hown : ownT z r (10 + v) := ⟨by omega, Or.inr ⟨by omega, by rw [show 10 + v - 10 = v by omega]; exact hup, by rw [show 10 + v - 10 = v by omega, epo]; exact nI_m1 (by omega)⟩⟩
    have epo' : pOn z r (nI (10 + v - 10)) = nI p := by rw [show 10 + v - 10 = v by omega]; exact epo
    rw [show (26 * r + 10 + v) % 26 = 10 + v by omega, show (26 * r + 10 + v) / 26 = r by omega, if_neg (by omega), if_pos rfl, if_pos hown, epo', nI_clamp (by omega), if_pos (by omega)]
  · rw [if_neg hk]
    unfold pC
    by_cases h1 : k / 26 < r
    · rw [if_pos h1, if_pos h1]
    · rw [if_neg h1, if_neg h1]
      by_cases h2 : k / 26 = r
      · rw [if_pos h2, if_pos h2]
        unfold pv
        by_cases h : ownT z r (k % 26)
        · rw [if_pos h, if_pos h]
          rcases pOn_ok z r (nI (k % 26 - 10)) with e | ⟨p', hp', e⟩
          · rw [e]
            split <;> split <;> rfl
          · rw [e, nI_clamp (by omega)]
            have hne : p' ≠ p := by
              intro w
              have e8' := pOn_pl hp' e
              rw [w, e8] at e8'
              have := (nI_eq (by omega) (by omega)).mp e8'
              have := h.1
              omega
            by_cases hlt : p' < p + 0
            · rw [if_pos hlt, if_pos (by omega)]
            · rw [if_neg hlt, if_neg (by omega)]
        · rw [if_neg h, if_neg h]
      · rw [if_neg h2, if_neg h2]
end
