/-! LEVEL 2: texts: joins -/
section JOI
variable {X X' M : um_S} {z st en t c L : Nat} {b : Nat → Nat} {v : Int32} {R : List Int32} {S : List Nat}
theorem fl_len : ∀ (S : List Nat) (R : List Int32), (fl L S R).2.length + (fl L S R).1.length = R.length + S.length
  | [], R => rfl
  | d :: S, R => by
    unfold fl
    by_cases h : L ≤ rk d
    · rw [if_pos h, fl_len S (-(nI d) :: R)]
      change R.length + 1 + S.length = R.length + (S.length + 1)
      omega
    · rw [if_neg h]
theorem fl_fl : ∀ (S : List Nat) (R : List Int32), fl L (fl (L + 1) S R).1 (fl (L + 1) S R).2 = fl L S R
  | [], R => rfl
  | d :: S, R => by
    by_cases h : L + 1 ≤ rk d
    · have e1 : fl (L + 1) (d :: S) R = fl (L + 1) S (-(nI d) :: R) := if_pos h
      have e2 : fl L (d :: S) R = fl L S (-(nI d) :: R) := if_pos (by omega)
      rw [e1, e2]
      exact fl_fl S _
    · have e1 : fl (L + 1) (d :: S) R = (d :: S, R) := if_neg h
      rw [e1]
theorem x_join (ht : tp X M z b) (h2 : X.1 4 2 = nI st) (hst : st < z) (hb : b st = c) (hc : 1 ≤ rk c) (h : ce X R S) (hl : R.length + S.length ≤ 93) (h3 : rk c = 3 → ∀ d S', (fl 4 S R).1 = d :: S' → rk d ≠ 3) : ∃ X', f_X6_takesJoin X = some (true, X') ∧ ce X' (fl (rk c) S R).2 (c :: (fl (rk c) S R).1) ∧ X'.1 4 6 = 1 ∧ (X'.1 4 12 = X.1 4 12 ∧ X'.1 4 13 = X.1 4 13 ∧ X'.1 4 14 = X.1 4 14) ∧ xE X X' := by
  have hz := ht.2.2.1
  have hc256 := (ht.2.2.2 st hst).2.2
  have hr := rk_le (c := c)
  have n41 : ¬ nI c = (41 : Int32) := fun z => by
    have := (nI_eq (b := 41) (by omega) (by omega)).mp z
    rw [this] at hc
    exact absurd hc (by decide)
  have n0 : ¬ nI (rk c) = 0 := nI_ne0 (by omega) (by omega)
  obtain ⟨X1, a1, a2, a3⟩ := x_settle (L := rk c + 1) (by omega) h (by omega)
  have l1 := fl_len (L := rk c + 1) S R
  obtain ⟨X2, b1, b2, b3⟩ := x_settle (L := rk c) (by omega) a2 (by omega)
  rw [fl_fl] at b2
  have l2 := fl_len (L := rk c) S R
  obtain ⟨X3, c1, c2, c3⟩ := x_wait (c := c) (ce_wr (v := um_b true) (i := 6) b2 (by omega) (by omega)) (by omega) (by omega)
  have k : ∀ i, i = 12 ∨ i = 13 ∨ i = 14 → X3.1 4 i = X.1 4 i := fun i hi => by
    rw [c3.1 4 i (by omega) (by omega) (by omega), um_wr_an (by omega), b3.1 4 i (by omega) (by omega) (by omega), a3.1 4 i (by omega) (by omega) (by omega)]
  refine ⟨X3, ?_, c2, ?_, ⟨k 12 (by omega), k 13 (by omega), k 14 (by omega)⟩, xE_trans (xW_xE (xW_trans a3 b3)) (xE_trans (xE_wr (by omega)) (xW_xE c3))⟩
  · unfold f_X6_takesJoin
    rw [h2, x_byteAt ht (by omega), Option.bind_some, if_pos hst, hb, if_neg n41, x_rankOf (by omega), Option.bind_some, if_neg n0, nI_1, a1, Option.bind_some]
    unfold um_let
    try dsimp only
    rw [b1, Option.bind_some, c1, um_b2_some]
    by_cases e3 : rk c = 3
    · have t3 : nI (rk c) = (3 : Int32) := by rw [e3]; rfl
      rw [if_pos t3]
      rw [e3] at a2
      cases hS : (fl 4 S R).1 with
      | nil =>
        have a2' : ce X1 (fl 4 S R).2 [] := by rw [← hS]; exact a2
        have r0 : f_X6_rankOf 0 X1 = some (nI 0) := rfl
        rw [x_top0 a2', Option.bind_some, r0, Option.bind_some, if_neg (by decide)]
      | cons d S' =>
        have a2' : ce X1 (fl 4 S R).2 (d :: S') := by rw [← hS]; exact a2
        have hd := h3 e3 d S' hS
        have hd256 := a2'.2.2.2.2.2 d List.mem_cons_self
        have hrd := rk_le (c := d)
        have nd3 : ¬ nI (rk d) = (3 : Int32) := fun z => hd ((nI_eq (b := 3) (by omega) (by omega)).mp z)
        rw [x_top a2', Option.bind_some, x_rankOf hd256, Option.bind_some, if_neg nd3]
    · have t3 : ¬ nI (rk c) = (3 : Int32) := fun z => e3 ((nI_eq (b := 3) (by omega) (by omega)).mp z)
      rw [if_neg t3]
  · rw [c3.1 4 6 (by omega) (by omega) (by omega), um_wr_at]
    rfl
end JOI
