/-! LEVEL 2: texts: joins refused, and the end of a bracket -/
section CLO
variable {X X' M : um_S} {z st en t c k L nd nt : Nat} {b : Nat → Nat} {v : Int32} {R : List Int32} {S : List Nat}
/-- a compare behind a compare -/
theorem x_join3 {d : Nat} {S' : List Nat} (ht : tp X M z b) (h2 : X.1 4 2 = nI st) (hst : st < z) (hb : b st = c) (hc : rk c = 3) (h : ce X R S) (hl : R.length + S.length ≤ 94) (hS : (fl 4 S R).1 = d :: S') (hd : rk d = 3) : ∃ X', f_X6_takesJoin X = some (false, X') ∧ xE X X' := by
  have hz := ht.2.2.1
  have hc256 := (ht.2.2.2 st hst).2.2
  have n41 : ¬ nI c = (41 : Int32) := fun z => by
    have := (nI_eq (b := 41) (by omega) (by omega)).mp z
    rw [this] at hc
    exact absurd hc (by decide)
  have n0 : ¬ nI (rk c) = 0 := nI_ne0 (by omega) (by omega)
  obtain ⟨X1, a1, a2, a3⟩ := x_settle (L := 4) (by omega) h (by omega)
  have a2' : ce X1 (fl 4 S R).2 (d :: S') := by rw [← hS]; exact a2
  have hd256 := a2'.2.2.2.2.2 d List.mem_cons_self
  have t3 : nI (rk c) = (3 : Int32) := by rw [hc]; rfl
  have t3d : nI (rk d) = (3 : Int32) := by rw [hd]; rfl
  have e4 : nI (rk c) + 1 = nI 4 := by rw [hc]; rfl
  refine ⟨X1, ?_, xW_xE a3⟩
  unfold f_X6_takesJoin
  rw [h2, x_byteAt ht (by omega), Option.bind_some, if_pos hst, hb, if_neg n41, x_rankOf (by omega), Option.bind_some, if_neg n0, e4, a1, Option.bind_some]
  unfold um_let
  try dsimp only
  rw [if_pos t3, x_top a2', Option.bind_some, x_rankOf hd256, Option.bind_some, if_pos t3d]
/-- no join -/
theorem x_nojoin (ht : tp X M z b) (h2 : X.1 4 2 = nI st) (hst : st < z) (h41 : b st ≠ 41) (hc : rk (b st) = 0) : f_X6_takesJoin X = some (false, X) := by
  have hz := ht.2.2.1
  have hc256 := (ht.2.2.2 st hst).2.2
  have n41 : ¬ nI (b st) = (41 : Int32) := fun z => h41 ((nI_eq (b := 41) (by omega) (by omega)).mp z)
  have z0 : nI (rk (b st)) = 0 := by rw [hc]; rfl
  unfold f_X6_takesJoin
  rw [h2, x_byteAt ht (by omega), Option.bind_some, if_pos hst, if_neg n41, x_rankOf (by omega), Option.bind_some, if_pos z0]
/-- a bracket ends -/
theorem x_close {T : List Nat} (ht : tp X M z b) (h2 : X.1 4 2 = nI st) (hst : st < z) (h41 : b st = 41) (hS : hn S) (hT : ∀ c, c ∈ T → 1 ≤ rk c) (h : ce X R (T ++ (40 :: (List.replicate k 33 ++ S)))) (h13 : X.1 4 13 = nI nd) (hnd : 0 < nd ∧ nd ≤ 8) (h14 : X.1 4 14 = nI nt) (hk : k ≤ nt) (hnt : nt ≤ 8) (hl : R.length + (T ++ (40 :: (List.replicate k 33 ++ S))).length ≤ 94) : ∃ X', f_X6_takesJoin X = some (true, X') ∧ ce X' (List.replicate k (-33) ++ wt T R) S ∧ X'.1 4 14 = nI (nt - k) ∧ X'.1 4 13 = nI (nd - 1) ∧ X'.1 4 6 = 0 ∧ X'.1 4 12 = X.1 4 12 ∧ xE X X' := by
  have hz := ht.2.2.1
  have e41 : nI (b st) = (41 : Int32) := by rw [h41]; rfl
  have r40 : ∀ c S', (40 :: (List.replicate k 33 ++ S)) = c :: S' → rk c < 1 := by
    intro c S' e
    rw [← (List.cons.inj e).1]
    decide
  have p0 : (0 : Int32) < nI nd := nI_lt (a := 0) (by omega) (by omega)
  obtain ⟨X1, a1, a2, a3⟩ := x_settle (L := 1) (by omega) h hl
  rw [fl_wt T _ R hT r40] at a2
  obtain ⟨X2, b1, b2, b3⟩ := x_take a2
  have k2 : ∀ i, i = 12 ∨ i = 13 ∨ i = 14 → X2.1 4 i = X.1 4 i := fun i hi => by
    rw [b3.1 4 i (by omega) (by omega) (by omega), a3.1 4 i (by omega) (by omega) (by omega)]
  have b2' : ce X2 (wt T R) (List.replicate k 33 ++ S) := b2
  have hll : (List.replicate k 33 ++ S).length = k + S.length := by rw [List.length_append, List.length_replicate]
  have h95 := a2.2.2.2.2.1
  have hc1 : (40 :: (List.replicate k 33 ++ S)).length = k + S.length + 1 := by
    change (List.replicate k 33 ++ S).length + 1 = _
    rw [hll]
  dsimp only at h95
  rw [hc1] at h95
  obtain ⟨X3, c1, c2, c3, c4, ⟨c5, c6⟩, c7⟩ := x_endPart (X := um_wr X2 4 13 (nI (nd - 1))) (nt := nt) hS (ce_wr b2' (by omega) (by omega)) (by rw [um_wr_an (by omega), k2 14 (by omega)]; exact h14) hk hnt (by omega)
  refine ⟨X3, ?_, c2, c3, ?_, c4, ?_, xE_trans (xW_xE (xW_trans a3 b3)) (xE_trans (xE_wr (by omega)) c7)⟩
  · unfold f_X6_takesJoin f_X6_takesClosing
    have a1' : f_X6_settle (1 : Int32) X = some X1 := a1
    rw [h2, x_byteAt ht (by omega), Option.bind_some, if_pos hst, if_pos e41, h13, if_pos p0, a1', Option.bind_some, b1, um_b2_some, k2 13 (by omega), h13]
    unfold um_let
    try dsimp only
    rw [show nI nd - 1 = nI (nd - 1) from nI_sub (b := 1) (by omega), c1, Option.bind_some, um_b2_some]
  · rw [c6, um_wr_at]
  · rw [c5, um_wr_an (by omega), k2 12 (by omega)]
end CLO
