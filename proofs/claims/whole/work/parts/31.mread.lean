theorem gd_T {α : Type} {i : Decidable True} {x : Option α} : @gd α True i x = x := gd_t trivial
/-! the state in two: z, and what the ways are (w: the number 21, the rows 22 to 24) -/
def isW (k : Nat) : Bool := decide (k = 22 ∨ k = 23 ∨ k = 24)
def mk (z w : Sg) : Sg := (fun k => if k = 21 then w.1 k else z.1 k, fun k => if isW k then w.2 k else z.2 k)
def em2 (x : Nat) (G : Hp) (z w : Sg) : Hp := em x G (mk z w)
theorem e2_hr {x : Nat} {G : Hp} {z w : Sg} : hr (em2 x G z w) = hr G := rfl
theorem e2_hc {x : Nat} {G : Hp} {z w : Sg} : hc (em2 x G z w) = hc G := rfl
theorem e2_hl {x : Nat} {G : Hp} {z w : Sg} : hl (em2 x G z w) = hl G := rfl
theorem e2_hn {x : Nat} {G : Hp} {z w : Sg} : hn (em2 x G z w) = hn G := rfl
theorem e2_hs {x : Nat} {G : Hp} {z w : Sg} : hs (em2 x G z w) = hs G := rfl
theorem mk_uA {z w : Sg} {k i : Nat} {v : Int32} (hk : isW k = false) : uA (mk z w) k i v = mk (uA z k i v) w := by
  unfold uA mk
  refine congrArg (fun f => (_, f)) ?_
  funext a
  unfold u2
  by_cases ha : a = k
  · subst ha
    simp [hk]
  · simp [ha]
theorem mk_uAw {z w : Sg} {k i : Nat} {v : Int32} (hk : isW k = true) : uA (mk z w) k i v = mk z (uA w k i v) := by
  unfold uA mk
  refine congrArg (fun f => (_, f)) ?_
  funext a
  unfold u2
  by_cases ha : a = k
  · subst ha
    simp [hk]
  · simp [ha]
theorem mk_uS {z w : Sg} {k : Nat} {v : Int32} (hk : k ≠ 21) : uS (mk z w) k v = mk (uS z k v) w := by
  unfold uS mk va_up
  refine congrArg (fun f => (f, _)) ?_
  funext a
  by_cases ha : a = k
  · subst ha
    simp [hk]
  · simp [ha]
theorem mk_uS21 {z w : Sg} {v : Int32} : uS (mk z w) 21 v = mk z (uS w 21 v) := by
  unfold uS mk va_up
  refine congrArg (fun f => (f, _)) ?_
  funext a
  by_cases ha : a = 21
  · subst ha
    simp
  · simp [ha]
theorem mc8 {x : Nat} {G : Hp} (hM : MS x G) : hc G (hr G x 8) = 11 := hM.kc rfl
theorem ml8 {x : Nat} {G : Hp} (hM : MS x G) : hl G (hr G x 8) = 40 := hM.kl rfl
theorem mr8 {x : Nat} {G : Hp} {z w : Sg} (hM : MS x G) : hi (em2 x G z w) (hr G x 8) = z.2 8 := em_r hM rfl
theorem mu8 {x : Nat} {G : Hp} {z w : Sg} {i : Nat} {v : Int32} (hM : MS x G) : sI (em2 x G z w) (hr G x 8) i v = em2 x G (uA z 8 i v) w := (em_uA hM rfl).trans (congrArg (em x G) (mk_uA rfl))
theorem mc9 {x : Nat} {G : Hp} (hM : MS x G) : hc G (hr G x 9) = 11 := hM.kc rfl
theorem ml9 {x : Nat} {G : Hp} (hM : MS x G) : hl G (hr G x 9) = 40 := hM.kl rfl
theorem mr9 {x : Nat} {G : Hp} {z w : Sg} (hM : MS x G) : hi (em2 x G z w) (hr G x 9) = z.2 9 := em_r hM rfl
theorem mu9 {x : Nat} {G : Hp} {z w : Sg} {i : Nat} {v : Int32} (hM : MS x G) : sI (em2 x G z w) (hr G x 9) i v = em2 x G (uA z 9 i v) w := (em_uA hM rfl).trans (congrArg (em x G) (mk_uA rfl))
theorem mc10 {x : Nat} {G : Hp} (hM : MS x G) : hc G (hr G x 10) = 12 := hM.kc rfl
theorem ml10 {x : Nat} {G : Hp} (hM : MS x G) : hl G (hr G x 10) = 16 := hM.kl rfl
theorem mr10 {x : Nat} {G : Hp} {z w : Sg} (hM : MS x G) : hi (em2 x G z w) (hr G x 10) = z.2 10 := em_r hM rfl
theorem mu10 {x : Nat} {G : Hp} {z w : Sg} {i : Nat} {v : Int32} (hM : MS x G) : sI (em2 x G z w) (hr G x 10) i v = em2 x G (uA z 10 i v) w := (em_uA hM rfl).trans (congrArg (em x G) (mk_uA rfl))
theorem mc11 {x : Nat} {G : Hp} (hM : MS x G) : hc G (hr G x 11) = 11 := hM.kc rfl
theorem ml11 {x : Nat} {G : Hp} (hM : MS x G) : hl G (hr G x 11) = 16 := hM.kl rfl
theorem mr11 {x : Nat} {G : Hp} {z w : Sg} (hM : MS x G) : hi (em2 x G z w) (hr G x 11) = z.2 11 := em_r hM rfl
theorem mu11 {x : Nat} {G : Hp} {z w : Sg} {i : Nat} {v : Int32} (hM : MS x G) : sI (em2 x G z w) (hr G x 11) i v = em2 x G (uA z 11 i v) w := (em_uA hM rfl).trans (congrArg (em x G) (mk_uA rfl))
theorem mc12 {x : Nat} {G : Hp} (hM : MS x G) : hc G (hr G x 12) = 11 := hM.kc rfl
theorem ml12 {x : Nat} {G : Hp} (hM : MS x G) : hl G (hr G x 12) = 8 := hM.kl rfl
theorem mr12 {x : Nat} {G : Hp} {z w : Sg} (hM : MS x G) : hi (em2 x G z w) (hr G x 12) = z.2 12 := em_r hM rfl
theorem mu12 {x : Nat} {G : Hp} {z w : Sg} {i : Nat} {v : Int32} (hM : MS x G) : sI (em2 x G z w) (hr G x 12) i v = em2 x G (uA z 12 i v) w := (em_uA hM rfl).trans (congrArg (em x G) (mk_uA rfl))
theorem mc13 {x : Nat} {G : Hp} (hM : MS x G) : hc G (hr G x 13) = 11 := hM.kc rfl
theorem ml13 {x : Nat} {G : Hp} (hM : MS x G) : hl G (hr G x 13) = 16 := hM.kl rfl
theorem mr13 {x : Nat} {G : Hp} {z w : Sg} (hM : MS x G) : hi (em2 x G z w) (hr G x 13) = z.2 13 := em_r hM rfl
theorem mu13 {x : Nat} {G : Hp} {z w : Sg} {i : Nat} {v : Int32} (hM : MS x G) : sI (em2 x G z w) (hr G x 13) i v = em2 x G (uA z 13 i v) w := (em_uA hM rfl).trans (congrArg (em x G) (mk_uA rfl))
theorem mc14 {x : Nat} {G : Hp} (hM : MS x G) : hc G (hr G x 14) = 11 := hM.kc rfl
theorem ml14 {x : Nat} {G : Hp} (hM : MS x G) : hl G (hr G x 14) = 16 := hM.kl rfl
theorem mr14 {x : Nat} {G : Hp} {z w : Sg} (hM : MS x G) : hi (em2 x G z w) (hr G x 14) = z.2 14 := em_r hM rfl
theorem mu14 {x : Nat} {G : Hp} {z w : Sg} {i : Nat} {v : Int32} (hM : MS x G) : sI (em2 x G z w) (hr G x 14) i v = em2 x G (uA z 14 i v) w := (em_uA hM rfl).trans (congrArg (em x G) (mk_uA rfl))
theorem mc15 {x : Nat} {G : Hp} (hM : MS x G) : hc G (hr G x 15) = 11 := hM.kc rfl
theorem ml15 {x : Nat} {G : Hp} (hM : MS x G) : hl G (hr G x 15) = 6400 := hM.kl rfl
theorem mr15 {x : Nat} {G : Hp} {z w : Sg} (hM : MS x G) : hi (em2 x G z w) (hr G x 15) = z.2 15 := em_r hM rfl
theorem mu15 {x : Nat} {G : Hp} {z w : Sg} {i : Nat} {v : Int32} (hM : MS x G) : sI (em2 x G z w) (hr G x 15) i v = em2 x G (uA z 15 i v) w := (em_uA hM rfl).trans (congrArg (em x G) (mk_uA rfl))
theorem mc16 {x : Nat} {G : Hp} (hM : MS x G) : hc G (hr G x 16) = 11 := hM.kc rfl
theorem ml16 {x : Nat} {G : Hp} (hM : MS x G) : hl G (hr G x 16) = 16 := hM.kl rfl
theorem mr16 {x : Nat} {G : Hp} {z w : Sg} (hM : MS x G) : hi (em2 x G z w) (hr G x 16) = z.2 16 := em_r hM rfl
theorem mu16 {x : Nat} {G : Hp} {z w : Sg} {i : Nat} {v : Int32} (hM : MS x G) : sI (em2 x G z w) (hr G x 16) i v = em2 x G (uA z 16 i v) w := (em_uA hM rfl).trans (congrArg (em x G) (mk_uA rfl))
theorem mc17 {x : Nat} {G : Hp} (hM : MS x G) : hc G (hr G x 17) = 11 := hM.kc rfl
theorem ml17 {x : Nat} {G : Hp} (hM : MS x G) : hl G (hr G x 17) = 16 := hM.kl rfl
theorem mr17 {x : Nat} {G : Hp} {z w : Sg} (hM : MS x G) : hi (em2 x G z w) (hr G x 17) = z.2 17 := em_r hM rfl
theorem mu17 {x : Nat} {G : Hp} {z w : Sg} {i : Nat} {v : Int32} (hM : MS x G) : sI (em2 x G z w) (hr G x 17) i v = em2 x G (uA z 17 i v) w := (em_uA hM rfl).trans (congrArg (em x G) (mk_uA rfl))
theorem mc18 {x : Nat} {G : Hp} (hM : MS x G) : hc G (hr G x 18) = 11 := hM.kc rfl
theorem ml18 {x : Nat} {G : Hp} (hM : MS x G) : hl G (hr G x 18) = 5120 := hM.kl rfl
theorem mr18 {x : Nat} {G : Hp} {z w : Sg} (hM : MS x G) : hi (em2 x G z w) (hr G x 18) = z.2 18 := em_r hM rfl
theorem mu18 {x : Nat} {G : Hp} {z w : Sg} {i : Nat} {v : Int32} (hM : MS x G) : sI (em2 x G z w) (hr G x 18) i v = em2 x G (uA z 18 i v) w := (em_uA hM rfl).trans (congrArg (em x G) (mk_uA rfl))
theorem mc19 {x : Nat} {G : Hp} (hM : MS x G) : hc G (hr G x 19) = 11 := hM.kc rfl
theorem ml19 {x : Nat} {G : Hp} (hM : MS x G) : hl G (hr G x 19) = 16 := hM.kl rfl
theorem mr19 {x : Nat} {G : Hp} {z w : Sg} (hM : MS x G) : hi (em2 x G z w) (hr G x 19) = z.2 19 := em_r hM rfl
theorem mu19 {x : Nat} {G : Hp} {z w : Sg} {i : Nat} {v : Int32} (hM : MS x G) : sI (em2 x G z w) (hr G x 19) i v = em2 x G (uA z 19 i v) w := (em_uA hM rfl).trans (congrArg (em x G) (mk_uA rfl))
theorem mc20 {x : Nat} {G : Hp} (hM : MS x G) : hc G (hr G x 20) = 11 := hM.kc rfl
theorem ml20 {x : Nat} {G : Hp} (hM : MS x G) : hl G (hr G x 20) = 5120 := hM.kl rfl
theorem mr20 {x : Nat} {G : Hp} {z w : Sg} (hM : MS x G) : hi (em2 x G z w) (hr G x 20) = z.2 20 := em_r hM rfl
theorem mu20 {x : Nat} {G : Hp} {z w : Sg} {i : Nat} {v : Int32} (hM : MS x G) : sI (em2 x G z w) (hr G x 20) i v = em2 x G (uA z 20 i v) w := (em_uA hM rfl).trans (congrArg (em x G) (mk_uA rfl))
theorem mc22 {x : Nat} {G : Hp} (hM : MS x G) : hc G (hr G x 22) = 11 := hM.kc rfl
theorem ml22 {x : Nat} {G : Hp} (hM : MS x G) : hl G (hr G x 22) = 260 := hM.kl rfl
theorem mr22 {x : Nat} {G : Hp} {z w : Sg} (hM : MS x G) : hi (em2 x G z w) (hr G x 22) = w.2 22 := em_r hM rfl
theorem mu22 {x : Nat} {G : Hp} {z w : Sg} {i : Nat} {v : Int32} (hM : MS x G) : sI (em2 x G z w) (hr G x 22) i v = em2 x G z (uA w 22 i v) := (em_uA hM rfl).trans (congrArg (em x G) (mk_uAw rfl))
theorem mc23 {x : Nat} {G : Hp} (hM : MS x G) : hc G (hr G x 23) = 11 := hM.kc rfl
theorem ml23 {x : Nat} {G : Hp} (hM : MS x G) : hl G (hr G x 23) = 260 := hM.kl rfl
theorem mr23 {x : Nat} {G : Hp} {z w : Sg} (hM : MS x G) : hi (em2 x G z w) (hr G x 23) = w.2 23 := em_r hM rfl
theorem mu23 {x : Nat} {G : Hp} {z w : Sg} {i : Nat} {v : Int32} (hM : MS x G) : sI (em2 x G z w) (hr G x 23) i v = em2 x G z (uA w 23 i v) := (em_uA hM rfl).trans (congrArg (em x G) (mk_uAw rfl))
theorem mc24 {x : Nat} {G : Hp} (hM : MS x G) : hc G (hr G x 24) = 11 := hM.kc rfl
theorem ml24 {x : Nat} {G : Hp} (hM : MS x G) : hl G (hr G x 24) = 260 := hM.kl rfl
theorem mr24 {x : Nat} {G : Hp} {z w : Sg} (hM : MS x G) : hi (em2 x G z w) (hr G x 24) = w.2 24 := em_r hM rfl
theorem mu24 {x : Nat} {G : Hp} {z w : Sg} {i : Nat} {v : Int32} (hM : MS x G) : sI (em2 x G z w) (hr G x 24) i v = em2 x G z (uA w 24 i v) := (em_uA hM rfl).trans (congrArg (em x G) (mk_uAw rfl))
theorem mc25 {x : Nat} {G : Hp} (hM : MS x G) : hc G (hr G x 25) = 11 := hM.kc rfl
theorem ml25 {x : Nat} {G : Hp} (hM : MS x G) : hl G (hr G x 25) = 400 := hM.kl rfl
theorem mr25 {x : Nat} {G : Hp} {z w : Sg} (hM : MS x G) : hi (em2 x G z w) (hr G x 25) = z.2 25 := em_r hM rfl
theorem mu25 {x : Nat} {G : Hp} {z w : Sg} {i : Nat} {v : Int32} (hM : MS x G) : sI (em2 x G z w) (hr G x 25) i v = em2 x G (uA z 25 i v) w := (em_uA hM rfl).trans (congrArg (em x G) (mk_uA rfl))
theorem mc26 {x : Nat} {G : Hp} (hM : MS x G) : hc G (hr G x 26) = 11 := hM.kc rfl
theorem ml26 {x : Nat} {G : Hp} (hM : MS x G) : hl G (hr G x 26) = 40 := hM.kl rfl
theorem mr26 {x : Nat} {G : Hp} {z w : Sg} (hM : MS x G) : hi (em2 x G z w) (hr G x 26) = z.2 26 := em_r hM rfl
theorem mu26 {x : Nat} {G : Hp} {z w : Sg} {i : Nat} {v : Int32} (hM : MS x G) : sI (em2 x G z w) (hr G x 26) i v = em2 x G (uA z 26 i v) w := (em_uA hM rfl).trans (congrArg (em x G) (mk_uA rfl))
theorem mc27 {x : Nat} {G : Hp} (hM : MS x G) : hc G (hr G x 27) = 11 := hM.kc rfl
theorem ml27 {x : Nat} {G : Hp} (hM : MS x G) : hl G (hr G x 27) = 40 := hM.kl rfl
theorem mr27 {x : Nat} {G : Hp} {z w : Sg} (hM : MS x G) : hi (em2 x G z w) (hr G x 27) = z.2 27 := em_r hM rfl
theorem mu27 {x : Nat} {G : Hp} {z w : Sg} {i : Nat} {v : Int32} (hM : MS x G) : sI (em2 x G z w) (hr G x 27) i v = em2 x G (uA z 27 i v) w := (em_uA hM rfl).trans (congrArg (em x G) (mk_uA rfl))
theorem mc28 {x : Nat} {G : Hp} (hM : MS x G) : hc G (hr G x 28) = 11 := hM.kc rfl
theorem ml28 {x : Nat} {G : Hp} (hM : MS x G) : hl G (hr G x 28) = 320 := hM.kl rfl
theorem mr28 {x : Nat} {G : Hp} {z w : Sg} (hM : MS x G) : hi (em2 x G z w) (hr G x 28) = z.2 28 := em_r hM rfl
theorem mu28 {x : Nat} {G : Hp} {z w : Sg} {i : Nat} {v : Int32} (hM : MS x G) : sI (em2 x G z w) (hr G x 28) i v = em2 x G (uA z 28 i v) w := (em_uA hM rfl).trans (congrArg (em x G) (mk_uA rfl))
theorem mc29 {x : Nat} {G : Hp} (hM : MS x G) : hc G (hr G x 29) = 11 := hM.kc rfl
theorem ml29 {x : Nat} {G : Hp} (hM : MS x G) : hl G (hr G x 29) = 5440 := hM.kl rfl
theorem mr29 {x : Nat} {G : Hp} {z w : Sg} (hM : MS x G) : hi (em2 x G z w) (hr G x 29) = z.2 29 := em_r hM rfl
theorem mu29 {x : Nat} {G : Hp} {z w : Sg} {i : Nat} {v : Int32} (hM : MS x G) : sI (em2 x G z w) (hr G x 29) i v = em2 x G (uA z 29 i v) w := (em_uA hM rfl).trans (congrArg (em x G) (mk_uA rfl))
theorem mc30 {x : Nat} {G : Hp} (hM : MS x G) : hc G (hr G x 30) = 11 := hM.kc rfl
theorem ml30 {x : Nat} {G : Hp} (hM : MS x G) : hl G (hr G x 30) = 5120 := hM.kl rfl
theorem mr30 {x : Nat} {G : Hp} {z w : Sg} (hM : MS x G) : hi (em2 x G z w) (hr G x 30) = z.2 30 := em_r hM rfl
theorem mu30 {x : Nat} {G : Hp} {z w : Sg} {i : Nat} {v : Int32} (hM : MS x G) : sI (em2 x G z w) (hr G x 30) i v = em2 x G (uA z 30 i v) w := (em_uA hM rfl).trans (congrArg (em x G) (mk_uA rfl))
theorem mc31 {x : Nat} {G : Hp} (hM : MS x G) : hc G (hr G x 31) = 11 := hM.kc rfl
theorem ml31 {x : Nat} {G : Hp} (hM : MS x G) : hl G (hr G x 31) = 5120 := hM.kl rfl
theorem mr31 {x : Nat} {G : Hp} {z w : Sg} (hM : MS x G) : hi (em2 x G z w) (hr G x 31) = z.2 31 := em_r hM rfl
theorem mu31 {x : Nat} {G : Hp} {z w : Sg} {i : Nat} {v : Int32} (hM : MS x G) : sI (em2 x G z w) (hr G x 31) i v = em2 x G (uA z 31 i v) w := (em_uA hM rfl).trans (congrArg (em x G) (mk_uA rfl))
theorem mc32 {x : Nat} {G : Hp} (hM : MS x G) : hc G (hr G x 32) = 11 := hM.kc rfl
theorem ml32 {x : Nat} {G : Hp} (hM : MS x G) : hl G (hr G x 32) = 5120 := hM.kl rfl
theorem mr32 {x : Nat} {G : Hp} {z w : Sg} (hM : MS x G) : hi (em2 x G z w) (hr G x 32) = z.2 32 := em_r hM rfl
theorem mu32 {x : Nat} {G : Hp} {z w : Sg} {i : Nat} {v : Int32} (hM : MS x G) : sI (em2 x G z w) (hr G x 32) i v = em2 x G (uA z 32 i v) w := (em_uA hM rfl).trans (congrArg (em x G) (mk_uA rfl))
theorem mc33 {x : Nat} {G : Hp} (hM : MS x G) : hc G (hr G x 33) = 11 := hM.kc rfl
theorem ml33 {x : Nat} {G : Hp} (hM : MS x G) : hl G (hr G x 33) = 1360 := hM.kl rfl
theorem mr33 {x : Nat} {G : Hp} {z w : Sg} (hM : MS x G) : hi (em2 x G z w) (hr G x 33) = z.2 33 := em_r hM rfl
theorem mu33 {x : Nat} {G : Hp} {z w : Sg} {i : Nat} {v : Int32} (hM : MS x G) : sI (em2 x G z w) (hr G x 33) i v = em2 x G (uA z 33 i v) w := (em_uA hM rfl).trans (congrArg (em x G) (mk_uA rfl))
theorem mc34 {x : Nat} {G : Hp} (hM : MS x G) : hc G (hr G x 34) = 11 := hM.kc rfl
theorem ml34 {x : Nat} {G : Hp} (hM : MS x G) : hl G (hr G x 34) = 1360 := hM.kl rfl
theorem mr34 {x : Nat} {G : Hp} {z w : Sg} (hM : MS x G) : hi (em2 x G z w) (hr G x 34) = z.2 34 := em_r hM rfl
theorem mu34 {x : Nat} {G : Hp} {z w : Sg} {i : Nat} {v : Int32} (hM : MS x G) : sI (em2 x G z w) (hr G x 34) i v = em2 x G (uA z 34 i v) w := (em_uA hM rfl).trans (congrArg (em x G) (mk_uA rfl))
theorem mc35 {x : Nat} {G : Hp} (hM : MS x G) : hc G (hr G x 35) = 11 := hM.kc rfl
theorem ml35 {x : Nat} {G : Hp} (hM : MS x G) : hl G (hr G x 35) = 1360 := hM.kl rfl
theorem mr35 {x : Nat} {G : Hp} {z w : Sg} (hM : MS x G) : hi (em2 x G z w) (hr G x 35) = z.2 35 := em_r hM rfl
theorem mu35 {x : Nat} {G : Hp} {z w : Sg} {i : Nat} {v : Int32} (hM : MS x G) : sI (em2 x G z w) (hr G x 35) i v = em2 x G (uA z 35 i v) w := (em_uA hM rfl).trans (congrArg (em x G) (mk_uA rfl))
theorem mc36 {x : Nat} {G : Hp} (hM : MS x G) : hc G (hr G x 36) = 11 := hM.kc rfl
theorem ml36 {x : Nat} {G : Hp} (hM : MS x G) : hl G (hr G x 36) = 80 := hM.kl rfl
theorem mr36 {x : Nat} {G : Hp} {z w : Sg} (hM : MS x G) : hi (em2 x G z w) (hr G x 36) = z.2 36 := em_r hM rfl
theorem mu36 {x : Nat} {G : Hp} {z w : Sg} {i : Nat} {v : Int32} (hM : MS x G) : sI (em2 x G z w) (hr G x 36) i v = em2 x G (uA z 36 i v) w := (em_uA hM rfl).trans (congrArg (em x G) (mk_uA rfl))
theorem mc37 {x : Nat} {G : Hp} (hM : MS x G) : hc G (hr G x 37) = 11 := hM.kc rfl
theorem ml37 {x : Nat} {G : Hp} (hM : MS x G) : hl G (hr G x 37) = 1280 := hM.kl rfl
theorem mr37 {x : Nat} {G : Hp} {z w : Sg} (hM : MS x G) : hi (em2 x G z w) (hr G x 37) = z.2 37 := em_r hM rfl
theorem mu37 {x : Nat} {G : Hp} {z w : Sg} {i : Nat} {v : Int32} (hM : MS x G) : sI (em2 x G z w) (hr G x 37) i v = em2 x G (uA z 37 i v) w := (em_uA hM rfl).trans (congrArg (em x G) (mk_uA rfl))
theorem mc38 {x : Nat} {G : Hp} (hM : MS x G) : hc G (hr G x 38) = 11 := hM.kc rfl
theorem ml38 {x : Nat} {G : Hp} (hM : MS x G) : hl G (hr G x 38) = 1280 := hM.kl rfl
theorem mr38 {x : Nat} {G : Hp} {z w : Sg} (hM : MS x G) : hi (em2 x G z w) (hr G x 38) = z.2 38 := em_r hM rfl
theorem mu38 {x : Nat} {G : Hp} {z w : Sg} {i : Nat} {v : Int32} (hM : MS x G) : sI (em2 x G z w) (hr G x 38) i v = em2 x G (uA z 38 i v) w := (em_uA hM rfl).trans (congrArg (em x G) (mk_uA rfl))
theorem mc39 {x : Nat} {G : Hp} (hM : MS x G) : hc G (hr G x 39) = 11 := hM.kc rfl
theorem ml39 {x : Nat} {G : Hp} (hM : MS x G) : hl G (hr G x 39) = 1280 := hM.kl rfl
theorem mr39 {x : Nat} {G : Hp} {z w : Sg} (hM : MS x G) : hi (em2 x G z w) (hr G x 39) = z.2 39 := em_r hM rfl
theorem mu39 {x : Nat} {G : Hp} {z w : Sg} {i : Nat} {v : Int32} (hM : MS x G) : sI (em2 x G z w) (hr G x 39) i v = em2 x G (uA z 39 i v) w := (em_uA hM rfl).trans (congrArg (em x G) (mk_uA rfl))
theorem ms0 {x : Nat} {G : Hp} {z w : Sg} : hi (em2 x G z w) x 0 = z.1 0 := congrFun em_s 0
theorem mw0 {x : Nat} {G : Hp} {z w : Sg} {v : Int32} : sI (em2 x G z w) x 0 v = em2 x G (uS z 0 v) w := em_uS.trans (congrArg (em x G) (mk_uS (by decide)))
theorem ms1 {x : Nat} {G : Hp} {z w : Sg} : hi (em2 x G z w) x 1 = z.1 1 := congrFun em_s 1
theorem mw1 {x : Nat} {G : Hp} {z w : Sg} {v : Int32} : sI (em2 x G z w) x 1 v = em2 x G (uS z 1 v) w := em_uS.trans (congrArg (em x G) (mk_uS (by decide)))
theorem ms2 {x : Nat} {G : Hp} {z w : Sg} : hi (em2 x G z w) x 2 = z.1 2 := congrFun em_s 2
theorem mw2 {x : Nat} {G : Hp} {z w : Sg} {v : Int32} : sI (em2 x G z w) x 2 v = em2 x G (uS z 2 v) w := em_uS.trans (congrArg (em x G) (mk_uS (by decide)))
theorem ms3 {x : Nat} {G : Hp} {z w : Sg} : hi (em2 x G z w) x 3 = z.1 3 := congrFun em_s 3
theorem mw3 {x : Nat} {G : Hp} {z w : Sg} {v : Int32} : sI (em2 x G z w) x 3 v = em2 x G (uS z 3 v) w := em_uS.trans (congrArg (em x G) (mk_uS (by decide)))
theorem ms4 {x : Nat} {G : Hp} {z w : Sg} : hi (em2 x G z w) x 4 = z.1 4 := congrFun em_s 4
theorem mw4 {x : Nat} {G : Hp} {z w : Sg} {v : Int32} : sI (em2 x G z w) x 4 v = em2 x G (uS z 4 v) w := em_uS.trans (congrArg (em x G) (mk_uS (by decide)))
theorem ms5 {x : Nat} {G : Hp} {z w : Sg} : hi (em2 x G z w) x 5 = z.1 5 := congrFun em_s 5
theorem mw5 {x : Nat} {G : Hp} {z w : Sg} {v : Int32} : sI (em2 x G z w) x 5 v = em2 x G (uS z 5 v) w := em_uS.trans (congrArg (em x G) (mk_uS (by decide)))
theorem ms6 {x : Nat} {G : Hp} {z w : Sg} : hi (em2 x G z w) x 6 = z.1 6 := congrFun em_s 6
theorem mw6 {x : Nat} {G : Hp} {z w : Sg} {v : Int32} : sI (em2 x G z w) x 6 v = em2 x G (uS z 6 v) w := em_uS.trans (congrArg (em x G) (mk_uS (by decide)))
theorem ms7 {x : Nat} {G : Hp} {z w : Sg} : hi (em2 x G z w) x 7 = z.1 7 := congrFun em_s 7
theorem mw7 {x : Nat} {G : Hp} {z w : Sg} {v : Int32} : sI (em2 x G z w) x 7 v = em2 x G (uS z 7 v) w := em_uS.trans (congrArg (em x G) (mk_uS (by decide)))
theorem ms21 {x : Nat} {G : Hp} {z w : Sg} : hi (em2 x G z w) x 21 = w.1 21 := congrFun em_s 21
theorem mw21 {x : Nat} {G : Hp} {z w : Sg} {v : Int32} : sI (em2 x G z w) x 21 v = em2 x G z (uS w 21 v) := em_uS.trans (congrArg (em x G) mk_uS21)
/-- what holds, as true or false -/
def bI (b : Bool) : Int32 := cond b 1 0
def nb (z : Sg) (j q : Nat) : Bool := decide (z.1 0 < z.2 25 (10 * j + q))
def mem (z : Sg) (j g : Nat) : Bool := decide (z.1 0 < z.2 28 (8 * j + g))
def jn (z : Sg) (j g y : Nat) : Bool := decide (z.1 0 < z.2 29 (17 * (8 * j + g) + y))
def cutT (z : Sg) (j g s : Nat) : Bool := decide (z.2 30 (16 * (8 * j + g) + s) ≠ -1 ∧ z.2 30 (16 * (8 * j + g) + s) ≤ z.1 0)
def cutO (z : Sg) (j g s : Nat) : Bool := jn z j g 0 && cutT z j g s
def strt (z : Sg) (r g s : Nat) : Bool := decide (z.2 39 (16 * (8 * r + g) + s) ≠ -1)
def nbS (z : Sg) (j : Nat) : Nat → Int32
  | 0 => 0
  | q + 1 => cond (nb z j q) (nbS z j q ||| (1 <<< (nI q &&& 31))) (nbS z j q)
def nR (z : Sg) : Nat := (z.1 1).toNatClampNeg
def nbits (z : Sg) (j : Nat) : Int32 := nbS z j (nR z)
def fst (z : Sg) (r p : Nat) : Bool := decide (nbits z (4 * r + p) >>> (nI r &&& 31) = 0)
def askg (z : Sg) (r p : Nat) : Bool := decide (nbits z (4 * r + p) &&& ((1 <<< (nI r &&& 31)) - 1) = 0)
def two (z : Sg) (r p : Nat) : Bool := decide (nbits z (4 * r + p) &&& (nbits z (4 * r + p) - 1) ≠ 0)
def own (z : Sg) (r p g : Nat) : Bool := mem z (4 * r + p) g && fst z r p
theorem ite_bI {b : Bool} {α : Type} {u v : α} : (if bI b = 0 then u else v) = cond b v u := by cases b <;> rfl
theorem ite_dec {c : Prop} [Decidable c] {α : Type} {u v : α} : (if c then u else v) = cond (decide c) u v := by
  by_cases h : c <;> simp [h]
theorem dec_10 {c : Prop} [Decidable c] : (if c then some (1 : Int32) else some 0) = some (bI (decide c)) := by
  by_cases h : c <;> simp [h, bI]
theorem dec_01 {c : Prop} [Decidable c] : (if c then some (0 : Int32) else some 1) = some (bI (decide (¬ c))) := by
  by_cases h : c <;> simp [h, bI]
theorem lt_ite {a b : Int32} {α : Type} {u v : α} : (if a ≤ b then u else v) = if b < a then v else u := by
  by_cases h : a ≤ b
  · rw [if_pos h, if_neg (Int32.not_lt.mpr h)]
  · rw [if_neg h, if_pos (Int32.not_le.mp h)]
theorem bI_and1 (b : Bool) : bI b &&& 1 = bI b := by cases b <;> rfl
section
variable {x : Nat} {G : Hp} {z w : Sg} {r p q g s y : Nat}
theorem M_isNeighbour (hM : MS x G) (h1 : r < 10) (h2 : p < 4) (h3 : q < 10) : d_X9_isNeighbour x (nI r) (nI p) (nI q) (em2 x G z w) = some (bI (nb z (4 * r + p) q)) := by
  unfold d_X9_isNeighbour nb
  simp (disch := omega) only [e2_hc, e2_hr, e2_hl, ms0, ms1, ms2, ms3, ms4, ms5, ms6, ms7, ms21, hM.1, mc25 hM, ml25 hM, mr25 hM, lm4, lm8, lm10, lm16, lm17, lm26, lm40, lm400, nI_add, nI_1, ix_nI, nI_clamp, gd_T, gd_t, bd_e, bo_e, b2_e, true_and, and_true, lt_ite]
  exact dec_10
theorem M_hasMembers (hM : MS x G) (h1 : r < 10) (h2 : p < 4) (h3 : g < 8) : d_X9_hasMembers x (nI r) (nI p) (nI g) (em2 x G z w) = some (bI (mem z (4 * r + p) g)) := by
  unfold d_X9_hasMembers mem
  simp (disch := omega) only [e2_hc, e2_hr, e2_hl, ms0, ms1, ms2, ms3, ms4, ms5, ms6, ms7, ms21, hM.1, mc28 hM, ml28 hM, mr28 hM, lm4, lm8, lm10, lm16, lm17, lm26, lm40, lm400, nI_add, nI_1, ix_nI, nI_clamp, gd_T, gd_t, bd_e, bo_e, b2_e, true_and, and_true, lt_ite]
  exact dec_10
theorem M_joined (hM : MS x G) (h1 : r < 10) (h2 : p < 4) (h3 : g < 8) (h4 : y < 17) : d_X9_joined x (nI r) (nI p) (nI g) (nI y) (em2 x G z w) = some (cond (jn z (4 * r + p) g y) (z.2 29 (17 * (8 * (4 * r + p) + g) + y)) 0) := by
  unfold d_X9_joined jn
  simp (disch := omega) only [e2_hc, e2_hr, e2_hl, ms0, ms1, ms2, ms3, ms4, ms5, ms6, ms7, ms21, hM.1, mc29 hM, ml29 hM, mr29 hM, lm4, lm8, lm10, lm16, lm17, lm26, lm40, lm400, nI_add, nI_1, ix_nI, nI_clamp, gd_T, gd_t, bd_e, bo_e, b2_e, true_and, and_true, lt_ite]
  split <;> rename_i h <;> simp [h]
theorem M_heardAt : d_X9_heardAt (nI r) (nI p) (nI g) (nI s) G = some (nI (16 * (8 * (4 * r + p) + g) + s)) := by
  unfold d_X9_heardAt
  simp (disch := omega) only [lm4, lm8, lm10, lm16, lm17, lm26, lm40, lm400, nI_add, nI_1, ix_nI, nI_clamp]
theorem M_isStraight (hM : MS x G) (h1 : r < 10) (h3 : g < 8) (h4 : s < 16) : d_X9_isStraight x (nI r) (nI g) (nI s) (em2 x G z w) = some (bI (strt z r g s)) := by
  unfold d_X9_isStraight strt
  simp (disch := omega) only [e2_hc, e2_hr, e2_hl, ms0, ms1, ms2, ms3, ms4, ms5, ms6, ms7, ms21, hM.1, mc39 hM, ml39 hM, mr39 hM, lm4, lm8, lm10, lm16, lm17, lm26, lm40, lm400, nI_add, nI_1, ix_nI, nI_clamp, gd_T, gd_t, bd_e, bo_e, b2_e, true_and, and_true]
  exact dec_01
/-- whether a port is joined, as a test of what joined() answers -/
theorem jn_pos (ht : 0 ≤ z.1 0) {j : Nat} {α : Type} {u v : α} : (if cond (jn z j g y) (z.2 29 (17 * (8 * j + g) + y)) 0 ≤ 0 then u else v) = cond (jn z j g y) v u := by
  cases h : jn z j g y with
  | false => rfl
  | true =>
    have h1 : z.1 0 < z.2 29 (17 * (8 * j + g) + y) := of_decide_eq_true h
    show (if z.2 29 (17 * (8 * j + g) + y) ≤ 0 then u else v) = v
    rw [if_neg (Int32.not_le.mpr (Int32.lt_of_le_of_lt ht h1))]
theorem jn_pos' (ht : 0 ≤ z.1 0) {j : Nat} {α : Type} {u v : α} : (if 0 < cond (jn z j g y) (z.2 29 (17 * (8 * j + g) + y)) 0 then u else v) = cond (jn z j g y) u v := by
  rw [← jn_pos ht (u := v) (v := u), lt_ite]
theorem M_isCutOff (hM : MS x G) (ht : 0 ≤ z.1 0) (h1 : r < 10) (h2 : p < 4) (h3 : g < 8) (h4 : s < 16) : d_X9_isCutOff x (nI r) (nI p) (nI g) (nI s) (em2 x G z w) = some (bI (cutO z (4 * r + p) g s)) := by
  unfold d_X9_isCutOff cutO
  have e := M_joined (z := z) (w := w) (y := 0) hM h1 h2 h3 (by decide)
  rw [show nI 0 = 0 from rfl] at e
  simp (disch := omega) only [M_heardAt, e, e2_hc, e2_hr, e2_hl, ms0, ms1, ms2, ms3, ms4, ms5, ms6, ms7, ms21, hM.1, mc30 hM, ml30 hM, mr30 hM, lm4, lm8, lm10, lm16, lm17, lm26, lm40, lm400, nI_add, nI_1, ix_nI, nI_clamp, gd_T, gd_t, bd_e, bo_e, b2_e, true_and, and_true, jn_pos ht]
  cases jn z (4 * r + p) g 0 with
  | false => rfl
  | true =>
    simp only [cond_true, Bool.true_and, cutT]
    by_cases h5 : z.2 30 (16 * (8 * (4 * r + p) + g) + s) = -1
    · simp [h5, bI]
    · by_cases h6 : z.1 0 < z.2 30 (16 * (8 * (4 * r + p) + g) + s)
      · simp [h5, h6, bI, Int32.not_le.mpr h6]
      · simp [h5, h6, bI, Int32.not_lt.mp h6]
theorem M_neighbours_5 (hM : MS x G) (h1 : r < 10) (h2 : p < 4) (hn : nR z ≤ 10) (h0 : z.1 1 = nI (nR z)) : ∀ (n q : Nat), q ≤ nR z → nR z - q < n → d_X9_neighbours_5 n x (nI r) (nI p) (nbS z (4 * r + p) q) (nI q) (em2 x G z w) = some (nbits z (4 * r + p)) := by
  intro n
  induction n with
  | zero => intro q _ h; omega
  | succ n ih =>
    intro q hq hlt
    rw [d_X9_neighbours_5.eq_2]
    simp (disch := omega) only [e2_hc, e2_hr, e2_hl, ms0, ms1, ms2, ms3, ms4, ms5, ms6, ms7, ms21, hM.1, gd_T, gd_t, bd_e, bo_e, b2_e, true_and, and_true]
    rw [h0]
    by_cases hqe : q = nR z
    · rw [if_pos (nI_le (by omega) (by omega)), hqe]
      rfl
    · rw [if_neg (nI_ge (by omega) (by omega)), M_isNeighbour hM h1 h2 (by omega)]
      simp only [gd_T, gd_t, bd_e, bo_e, b2_e, true_and, and_true, ite_bI]
      have e := ih (q + 1) (by omega) (by omega)
      rw [nI_1]
      unfold nbS at e
      cases hb : nb z (4 * r + p) q with
      | false => rw [hb] at e; exact e
      | true => rw [hb] at e; exact e
theorem M_neighbours (hM : MS x G) (h1 : r < 10) (h2 : p < 4) (hn : nR z ≤ 10) (h0 : z.1 1 = nI (nR z)) : d_X9_neighbours x (nI r) (nI p) (em2 x G z w) = some (nbits z (4 * r + p)) := by
  unfold d_X9_neighbours
  exact M_neighbours_5 hM h1 h2 hn h0 FU 0 (Nat.zero_le _) (by show _ < 6000; omega)
theorem M_hasTwo (hM : MS x G) (h1 : r < 10) (h2 : p < 4) (hn : nR z ≤ 10) (h0 : z.1 1 = nI (nR z)) : d_X9_hasTwo x (nI r) (nI p) (em2 x G z w) = some (bI (two z r p)) := by
  unfold d_X9_hasTwo two
  simp (disch := omega) only [M_neighbours hM h1 h2 hn h0, e2_hc, e2_hr, e2_hl, ms0, ms1, ms2, ms3, ms4, ms5, ms6, ms7, ms21, hM.1, gd_T, gd_t, bd_e, bo_e, b2_e, true_and, and_true]
  exact dec_01
theorem M_isFirst (hM : MS x G) (h1 : r < 10) (h2 : p < 4) (hn : nR z ≤ 10) (h0 : z.1 1 = nI (nR z)) : d_X9_isFirst x (nI r) (nI p) (em2 x G z w) = some (bI (fst z r p)) := by
  unfold d_X9_isFirst fst
  simp (disch := omega) only [M_neighbours hM h1 h2 hn h0, e2_hc, e2_hr, e2_hl, ms0, ms1, ms2, ms3, ms4, ms5, ms6, ms7, ms21, hM.1, gd_T, gd_t, bd_e, bo_e, b2_e, true_and, and_true]
  exact dec_10
theorem M_isAsking (hM : MS x G) (h1 : r < 10) (h2 : p < 4) (hn : nR z ≤ 10) (h0 : z.1 1 = nI (nR z)) : d_X9_isAsking x (nI r) (nI p) (em2 x G z w) = some (bI (askg z r p)) := by
  unfold d_X9_isAsking askg
  simp (disch := omega) only [M_neighbours hM h1 h2 hn h0, e2_hc, e2_hr, e2_hl, ms0, ms1, ms2, ms3, ms4, ms5, ms6, ms7, ms21, hM.1, gd_T, gd_t, bd_e, bo_e, b2_e, true_and, and_true]
  exact dec_10
theorem M_isOwn (hM : MS x G) (h1 : r < 10) (h2 : p < 4) (h3 : g < 8) (hn : nR z ≤ 10) (h0 : z.1 1 = nI (nR z)) : d_X9_isOwn x (nI r) (nI p) (nI g) (em2 x G z w) = some (bI (own z r p g)) := by
  unfold d_X9_isOwn own
  simp (disch := omega) only [M_isFirst hM h1 h2 hn h0, M_hasMembers hM h1 h2 h3, e2_hc, e2_hr, e2_hl, ms0, ms1, ms2, ms3, ms4, ms5, ms6, ms7, ms21, hM.1, gd_T, gd_t, bd_e, bo_e, b2_e, true_and, and_true, ite_bI]
  cases mem z (4 * r + p) g <;> cases fst z r p <;> rfl
end
