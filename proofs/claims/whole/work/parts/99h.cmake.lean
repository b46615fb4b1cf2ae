/-! THE CLASS: ways, wires, trees, routers are made -/
/-- what lies at a -/
def CE (G : Hp) (a t l : Nat) (f : Nat → Int32) (g : Nat → Nat) : Prop := hc G a = t ∧ hl G a = l ∧ hi G a = f ∧ hr G a = g
theorem CE.mv {G G' : Hp} {a t l : Nat} {f : Nat → Int32} {g : Nat → Nat} (h : CE G a t l f g) (s : Sm a G G') : CE G' a t l f g := ⟨s.1.trans h.1, s.2.1.trans h.2.1, s.2.2.1.trans h.2.2.1, s.2.2.2.trans h.2.2.2⟩
section
variable {H G : Hp} {x t m k : Nat} {T Ln : Nat → Nat} {f : Nat → Int32} {g : Nat → Nat} {F : Nat → Nat → Int32} {P : Hp → Prop}
theorem NA' {t' l : Nat} {c : Prop} [Decidable c] {rest : Hp → Option Hp} (h : ND H x t T Ln m f g F G) (hc' : c) (h1 : T m = t') (h2 : Ln m = l) (h3 : l ≤ 400) (h4 : F m = fun _ => 0) (k' : ∀ G', ND H x t T Ln (m + 1) f (va_up g k (hn H + m)) F G' → OKM G' (rest G') P) : OKM G (bd (hn G) fun q => gd c <| bd (nC G t' l l) fun G3 => mV G3 <| gd (hc G3 x = t) <| bd (sR G3 x k q) rest) P := by
  show OKM G (gd c <| bd (nC G t' l l) fun G3 => mV G3 <| gd (hc G3 x = t) <| bd (sR G3 x k (hn G)) rest) P
  exact OKM_g hc' (NA h h1 h2 h3 h4 k')
theorem ND_CE (h : ND H x t T Ln m f g F G) {i : Nat} (hi : i < m) : CE G (hn H + i) (T i) (Ln i) (F i) (fun _ => 0) := h.2.2.2 i hi
end
def mwyL (n : Nat) : Nat → Nat := fun i => if i = 0 then 40 else if i = 1 then 40 else 26 * n
def mwyF (n : Nat) : Nat → Int32 := va_up (va_up (fun _ => 0) 6 1) 0 (nI n)
def mwyG (b : Nat) : Nat → Nat := va_up (va_up (va_up (va_up (va_up (fun _ => 0) 1 (b + 0)) 2 (b + 1)) 3 (b + 2)) 4 (b + 3)) 5 (b + 4)
def mwyR : Nat → Nat → Int32 := va_up (fun _ _ => 0) 0 (flF (fun _ => 0) (-1) 40)
theorem P_ways {H : Hp} {x n : Nat} (hn1 : 1 ≤ n) (hn10 : n ≤ 10) (hx : x < hn H) (h1 : hc H x = 7) (h2 : hi H x = fun _ => 0) (h3 : hr H x = fun _ => 0) : OKM H (d_X6_init x (nI n) H) (ND H x 7 (fun _ => 11) (mwyL n) 5 (mwyF n) (mwyG (hn H)) mwyR) := by
  unfold d_X6_init
  have e26 : nI n * 26 = nI (26 * n) := rm26 n
  have c26 : (nI (26 * n)).toNatClampNeg = 26 * n := nI_clamp (by omega)
  have g26 : 0 ≤ (nI (26 * n)).toInt ∧ (nI (26 * n)).toInt ≤ 65536 := by
    have := (ix_nI (n := 26 * n) (m := 65536) (by omega)).mpr (by omega)
    exact ⟨this.1, Int.le_of_lt this.2⟩
  rw [e26, c26]
  refine OKM_m (OKM_g h1 ?_)
  refine NA (T := fun _ => 11) (Ln := mwyL n) (F := fun _ _ => 0) (ND_0 hx h1 h2 h3) rfl rfl (by decide) rfl (fun G1 d1 => ?_)
  refine NA d1 rfl rfl (by decide) rfl (fun G2 d2 => ?_)
  refine NI d2 (fun G3 d3 => ?_)
  refine NI d3 (fun G4 d4 => ?_)
  refine NF (i := 0) d4 (by decide) rfl (show 40 < 5000 by decide) rfl (fun G5 d5 => ?_)
  refine NA' d5 g26 rfl rfl (by omega) rfl (fun G6 d6 => ?_)
  refine NA' d6 g26 rfl rfl (by omega) rfl (fun G7 d7 => ?_)
  refine NA' d7 g26 rfl rfl (by omega) rfl (fun G8 d8 => ?_)
  exact OKM_s d8
def mwiT : Nat → Nat := fun i => if i = 0 then 11 else 13
def mwiL : Nat → Nat := fun i => if i = 0 then 10 else 40
def mwiF (v : Int32) : Nat → Int32 := va_up (va_up (va_up (va_up (va_up (va_up (va_up (va_up (va_up (fun _ => 0) 2 1) 5 0) 6 0) 7 0) 8 0) 9 0) 10 0) 11 0) 0 v
def mwiG (b : Nat) : Nat → Nat := va_up (va_up (va_up (fun _ => 0) 1 (b + 0)) 3 (b + 1)) 4 (b + 2)
def mwiR : Nat → Nat → Int32 := va_up (fun _ _ => 0) 0 (flF (fun _ => 0) (-1) 10)
theorem P_wire {H : Hp} {x : Nat} {v : Int32} (hx : x < hn H) (h1 : hc H x = 8) (h2 : hi H x = fun _ => 0) (h3 : hr H x = fun _ => 0) : OKM H (d_X7_init x v H) (ND H x 8 mwiT mwiL 3 (mwiF v) (mwiG (hn H)) mwiR) := by
  unfold d_X7_init
  refine OKM_m (OKM_g h1 ?_)
  refine NA (T := mwiT) (Ln := mwiL) (F := fun _ _ => 0) (ND_0 hx h1 h2 h3) rfl rfl (by decide) rfl (fun G1 d1 => ?_)
  refine NI d1 (fun G2 d2 => ?_)
  refine NA d2 rfl rfl (by decide) rfl (fun G3 d3 => ?_)
  refine NA d3 rfl rfl (by decide) rfl (fun G4 d4 => ?_)
  refine NI d4 (fun G5 d5 => ?_)
  refine NI d5 (fun G6 d6 => ?_)
  refine NI d6 (fun G7 d7 => ?_)
  refine NI d7 (fun G8 d8 => ?_)
  refine NI d8 (fun G9 d9 => ?_)
  refine NI d9 (fun G10 d10 => ?_)
  refine NI d10 (fun G11 d11 => ?_)
  refine NI d11 (fun G12 d12 => ?_)
  refine NF (i := 0) d12 (by decide) rfl (by decide) rfl (fun G13 d13 => ?_)
  exact OKM_s d13
def mtrL : Nat → Nat := fun i => if i = 0 then 17 else if i = 1 then 17 else 16
def mtrF (r g : Int32) : Nat → Int32 := va_up (va_up (va_up (va_up (va_up (va_up (va_up (va_up (va_up (fun _ => 0) 4 0) 7 0) 11 0) 12 0) 13 0) 14 0) 15 0) 1 r) 2 g
def mtrG (b x1 x4 : Nat) : Nat → Nat := va_up (va_up (va_up (va_up (va_up (va_up (va_up (fun _ => 0) 5 (b + 0)) 6 (b + 1)) 8 (b + 2)) 9 (b + 3)) 10 (b + 4)) 0 x1) 3 x4
def mtrR : Nat → Nat → Int32 := va_up (va_up (fun _ _ => 0) 0 (flF (fun _ => 0) (-1) 17)) 4 (flF (fun _ => 0) (-1) 16)
theorem P_tree {H : Hp} {x x1 x4 : Nat} {r g : Int32} (hx : x < hn H) (h1 : hc H x = 6) (h2 : hi H x = fun _ => 0) (h3 : hr H x = fun _ => 0) : OKM H (d_X5_init x x1 r g x4 H) (ND H x 6 (fun _ => 11) mtrL 5 (mtrF r g) (mtrG (hn H) x1 x4) mtrR) := by
  unfold d_X5_init
  refine OKM_m ?_
  refine NI (T := fun _ => 11) (Ln := mtrL) (F := fun _ _ => 0) (ND_0 hx h1 h2 h3) (fun G1 d1 => ?_)
  refine NA d1 rfl rfl (by decide) rfl (fun G2 d2 => ?_)
  refine NA d2 rfl rfl (by decide) rfl (fun G3 d3 => ?_)
  refine NI d3 (fun G4 d4 => ?_)
  refine NA d4 rfl rfl (by decide) rfl (fun G5 d5 => ?_)
  refine NA d5 rfl rfl (by decide) rfl (fun G6 d6 => ?_)
  refine NA d6 rfl rfl (by decide) rfl (fun G7 d7 => ?_)
  refine NI d7 (fun G8 d8 => ?_)
  refine NI d8 (fun G9 d9 => ?_)
  refine NI d9 (fun G10 d10 => ?_)
  refine NI d10 (fun G11 d11 => ?_)
  refine NI d11 (fun G12 d12 => ?_)
  refine NR d12 (fun G13 d13 => ?_)
  refine NI d13 (fun G14 d14 => ?_)
  refine NI d14 (fun G15 d15 => ?_)
  refine NR d15 (fun G16 d16 => ?_)
  refine NF (i := 0) d16 (by decide) rfl (by decide) rfl (fun G17 d17 => ?_)
  refine NF (i := 4) d17 (by decide) rfl (by decide) rfl (fun G18 d18 => ?_)
  exact OKM_s d18
def mroF (r : Int32) : Nat → Int32 := va_up (fun _ => 0) 1 r
def mroG (x1 x3 x4 : Nat) : Nat → Nat := va_up (va_up (va_up (fun _ => 0) 0 x1) 2 x3) 3 x4
theorem P_router {H : Hp} {x x1 x3 x4 : Nat} {r : Int32} (hx : x < hn H) (h1 : hc H x = 5) (h2 : hi H x = fun _ => 0) (h3 : hr H x = fun _ => 0) : ∃ y, d_X4_init x x1 r x3 x4 H = some y ∧ hn y = hn H ∧ hs y = hs H ∧ ND H x 5 (fun _ => 0) (fun _ => 0) 0 (mroF r) (mroG x1 x3 x4) (fun _ _ => 0) y := by
  have e : OKM H (d_X4_init x x1 r x3 x4 H) (ND H x 5 (fun _ => 0) (fun _ => 0) 0 (mroF r) (mroG x1 x3 x4) (fun _ _ => 0)) := by
    unfold d_X4_init
    refine NR (T := fun _ => 0) (Ln := fun _ => 0) (F := fun _ _ => 0) (ND_0 hx h1 h2 h3) (fun G1 d1 => ?_)
    refine NI d1 (fun G2 d2 => ?_)
    refine NR d2 (fun G3 d3 => ?_)
    refine NR d3 (fun G4 d4 => ?_)
    exact OKM_s d4
  obtain ⟨y, e1, e2, e3⟩ := e
  have a := e3.1
  exact ⟨y, e1, by omega, by omega, e3⟩
