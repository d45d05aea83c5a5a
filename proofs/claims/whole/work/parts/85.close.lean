/-! LEVEL 2: texts: joins refused, and the end of a bracket -/
section CLO
variable {X X' M : um_S} {z st en t c k L nd nt : Nat} {b : Nat → Nat} {v : Int32} {R : List Int32} {S : List Nat}
/-- a compare behind a compare -/
theorem x_join3 {d : Nat} {S' : List Nat} (ht : tp X M z b) (h2 : X.1 4 2 = nI st) (hst : st < z) (hb : b st = c) (hc : rk c = 3) (h : ce X R S) (hl : R.length + S.length ≤ 94) (hS : (fl 4 S R).1 = d :: S') (hd : rk d = 3) : ∃ X', f_X6_takesJoin X = some (false, X') ∧ xE X X' := by
  have hz := ht.2.2.1
  have hc256 := (ht.2.2.2 st hst).2.2
  have n41 : ¬ nI c = (41 : Int32) := fun z => by
    have := (nI_eq (b := 41) (by omega) (by omega)).mp z
    rw [this] at hc
    exact absurd hc (by decide)
  have n0 : ¬ nI (rk c) = 0 := nI_ne0 (by omega) (by omega)
  obtain ⟨X1, a1, a2, a3⟩ := x_settle (L := 4) (by omega) h (by omega)
  have a2' : ce X1 (fl 4 S R).2 (d :: S') := by rw [← hS]; exact a2
  have hd256 := a2'.2.2.2.2.2 d List.mem_cons_self
  have t3 : nI (rk c) = (3 : Int32) := by rw [hc]; rfl
  have t3d : nI (rk d) = (3 : Int32) := by rw [hd]; rfl
  have e4 : nI (rk c) + 1 = nI 4 := by rw [hc]; rfl
  refine ⟨X1, ?_, xW_xE a3⟩
  unfold f_X6_takesJoin
  rw [h2, x_byteAt ht (by omega), Option.bind_some, if_pos hst, hb, if_neg n41, x_rankOf (by omega), Option.bind_some, if_neg n0, e4, a1, Option.bind_some]
  unfold um_let
  try dsimp only
  rw [if_pos t3, x_top a2', Option.bind_some, x_rankOf hd256, Option.bind_some, if_pos t3d]
/-- no join -/
theorem x_nojoin (ht : tp X M z b) (h2 : X.1 4 2 = nI st) (hst : st < z) (h41 : b st ≠ 41) (hc : rk (b st) = 0) : f_X6_takesJoin X = some (false, X) := by
  have hz := ht.2.2.1
  have hc256 := (ht.2.2.2 st hst).2.2
  have n41 : ¬ nI (b st) = (41 : Int32) := fun z => h41 ((nI_eq (b := 41) (by omega) (by omega)).mp z)
  have z0 : nI (rk (b st)) = 0 := by rw [hc]; rfl
  unfold f_X6_takesJoin
  rw [h2, x_byteAt ht (by omega), Option.bind_some, if_pos hst, if_neg n41, x_rankOf (by omega), Option.bind_some, if_pos z0]
end CLO
