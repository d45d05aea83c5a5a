/-! LEVEL 2: texts: parts -/
section PAR
variable {X X' M : um_S} {z st en t c k j L nd nt pt : Nat} {b : Nat → Nat} {v : Int32} {R : List Int32} {S : List Nat} {gl : Bool}
/-- '(' -/
theorem x_open (ht : tp X M z b) (h2 : X.1 4 2 = nI st) (hst : st < z) (h4 : X.1 4 4 = nI 3) (hb : b st = 40) (h : ce X R S) (h13 : X.1 4 13 = nI nd) (hnd : nd < 8) (hl : R.length + S.length ≤ 94) : ∃ X', f_X6_takesPart X = some (true, X') ∧ ce X' R (40 :: S) ∧ X'.1 4 13 = nI (nd + 1) ∧ (X'.1 4 6 = X.1 4 6 ∧ X'.1 4 12 = X.1 4 12 ∧ X'.1 4 14 = X.1 4 14) ∧ xE X X' := by
  have hz := ht.2.2.1
  have n2 : ¬ nI 3 = (2 : Int32) := by decide
  have n1 : ¬ nI 3 = (1 : Int32) := by decide
  have e40 : nI (b st) = (40 : Int32) := by rw [hb]; rfl
  have n33 : ¬ nI (b st) = (33 : Int32) := by rw [hb]; decide
  have n8 : ¬ (8 : Int32) ≤ nI nd := nI_ge (b := 8) (by omega) (by omega)
  obtain ⟨X1, a1, a2, a3⟩ := x_wait (c := 40) (ce_wr (v := nI (nd + 1)) (i := 13) h (by omega) (by omega)) hl (by omega)
  have k2 : ∀ i, i = 6 ∨ i = 12 ∨ i = 14 → X1.1 4 i = X.1 4 i := fun i hi => by rw [a3.1 4 i (by omega) (by omega) (by omega), um_wr_an (by omega)]
  refine ⟨X1, ?_, a2, ?_, ⟨k2 6 (by omega), k2 12 (by omega), k2 14 (by omega)⟩, xE_trans (xE_wr (by omega)) (xW_xE a3)⟩
  · unfold f_X6_takesPart
    rw [h4, if_neg n2, if_neg n1, h2, x_byteAt ht (by omega), Option.bind_some, if_pos hst]
    unfold um_let
    try dsimp only
    rw [if_neg n33, if_pos e40, h13, if_neg n8, nI_1, e40]
    have a1' : f_X6_waitsWith (40 : Int32) (um_wr X 4 13 (nI (nd + 1))) = some (true, X1) := a1
    rw [a1', um_b2_some]
  · rw [a3.1 4 13 (by omega) (by omega) (by omega), um_wr_at]
/-- '!' -/
theorem x_not (ht : tp X M z b) (h2 : X.1 4 2 = nI st) (hst : st < z) (h4 : X.1 4 4 = nI 3) (hb : b st = 33) (h : ce X R S) (h14 : X.1 4 14 = nI nt) (hnt : nt < 8) (hl : R.length + S.length ≤ 94) : ∃ X', f_X6_takesPart X = some (true, X') ∧ ce X' R (33 :: S) ∧ X'.1 4 14 = nI (nt + 1) ∧ (X'.1 4 6 = X.1 4 6 ∧ X'.1 4 12 = X.1 4 12 ∧ X'.1 4 13 = X.1 4 13) ∧ xE X X' := by
  have hz := ht.2.2.1
  have n2 : ¬ nI 3 = (2 : Int32) := by decide
  have n1 : ¬ nI 3 = (1 : Int32) := by decide
  have e33 : nI (b st) = (33 : Int32) := by rw [hb]; rfl
  have n8 : ¬ (8 : Int32) ≤ nI nt := nI_ge (b := 8) (by omega) (by omega)
  obtain ⟨X1, a1, a2, a3⟩ := x_wait (c := 33) (ce_wr (v := nI (nt + 1)) (i := 14) h (by omega) (by omega)) hl (by omega)
  have k2 : ∀ i, i = 6 ∨ i = 12 ∨ i = 13 → X1.1 4 i = X.1 4 i := fun i hi => by rw [a3.1 4 i (by omega) (by omega) (by omega), um_wr_an (by omega)]
  refine ⟨X1, ?_, a2, ?_, ⟨k2 6 (by omega), k2 12 (by omega), k2 13 (by omega)⟩, xE_trans (xE_wr (by omega)) (xW_xE a3)⟩
  · unfold f_X6_takesPart
    rw [h4, if_neg n2, if_neg n1, h2, x_byteAt ht (by omega), Option.bind_some, if_pos hst]
    unfold um_let
    try dsimp only
    rw [if_pos e33, h14, if_neg n8, nI_1, e33]
    have a1' : f_X6_waitsWith (33 : Int32) (um_wr X 4 14 (nI (nt + 1))) = some (true, X1) := a1
    rw [a1', um_b2_some]
  · rw [a3.1 4 14 (by omega) (by omega) (by omega), um_wr_at]
/-- a number -/
theorem x_num (ht : tp X M z b) (h2 : X.1 4 2 = nI st) (h3 : X.1 4 3 = nI en) (hse : st ≤ en) (hez : en ≤ z) (h4 : X.1 4 4 = nI 2) (hd : ∀ j, st ≤ j → j < en → so z b j = 2) (hn4 : en - st ≤ 4) (hS : hn S) (h : ce X R (List.replicate k 33 ++ S)) (h12 : X.1 4 12 = nI pt) (h14 : X.1 4 14 = nI nt) (hk : k ≤ nt) (hnt : nt ≤ 8) (hl : R.length + (k + S.length) ≤ 93) : ∃ X', f_X6_takesPart X = some (true, X') ∧ ce X' (List.replicate k (-33) ++ (nI (nv b st (en - st)) :: R)) S ∧ X'.1 4 14 = nI (nt - k) ∧ X'.1 4 6 = 0 ∧ X'.1 4 12 = nI (pt + 1) ∧ X'.1 4 13 = X.1 4 13 ∧ xE X X' := by
  have hz := ht.2.2.1
  obtain ⟨X1, a1, a2⟩ := x_takesValue (v := nI (nv b st (en - st))) hS h h12 h14 hk hnt hl
  refine ⟨X1, ?_, a2⟩
  have e2 : nI 2 = (2 : Int32) := rfl
  have n4 : ¬ (4 : Int32) < nI (en - st) := nI_nlt (b := en - st) (a := 4) hn4 (by omega)
  unfold f_X6_takesPart
  rw [h4, if_pos e2, h3, h2, nI_sub hse, if_neg n4, x_number ht h2 h3 hse hez hd, Option.bind_some, a1, um_b2_some]
  rfl
/-- a name -/
theorem x_name {kk : Nat} (ht : tp X M z b) (h2 : X.1 4 2 = nI st) (h3 : X.1 4 3 = nI en) (hen : en = st + 1) (hez : en ≤ z) (h4 : X.1 4 4 = nI 1) (hso : so z b st = 1) (h11 : X.1 4 11 = nI kk) (hkk : kk < 5) (hm : b st ∈ nmL kk) (hS : hn S) (h : ce X R (List.replicate k 33 ++ S)) (h12 : X.1 4 12 = nI pt) (h14 : X.1 4 14 = nI nt) (hk : k ≤ nt) (hnt : nt ≤ 8) (hl : R.length + (k + S.length) ≤ 93) : ∃ X', f_X6_takesPart X = some (true, X') ∧ ce X' (List.replicate k (-33) ++ ((-1 - nI ((nmL kk).idxOf (b st))) :: R)) S ∧ X'.1 4 14 = nI (nt - k) ∧ X'.1 4 6 = 0 ∧ X'.1 4 12 = nI (pt + 1) ∧ X'.1 4 13 = X.1 4 13 ∧ xE X X' := by
  have hz := ht.2.2.1
  have hs1 := so_1.mp hso
  obtain ⟨X1, a1, a2⟩ := x_takesValue (v := -1 - nI ((nmL kk).idxOf (b st))) hS h h12 h14 hk hnt hl
  refine ⟨X1, ?_, a2⟩
  have e1 : nI 1 = (1 : Int32) := rfl
  have n2 : ¬ nI 1 = (2 : Int32) := by decide
  have el : nI (en - st) = (1 : Int32) := by rw [hen, show st + 1 - st = 1 by omega]; rfl
  have hi := (nam_i hkk hm).2
  have en1 : nmi kk (b st) = nI ((nmL kk).idxOf (b st)) := if_pos hm
  unfold f_X6_takesPart
  rw [h4, if_neg n2, if_pos e1, h3, h2, nI_sub (by omega)]
  unfold um_let
  try dsimp only
  rw [if_pos el, h11, x_names hkk, Option.bind_some, x_byteAt ht (by omega), Option.bind_some, if_pos (show st < z by omega), nam_x hkk hs1.2, Option.bind_some, en1, if_neg (nI_pos (by omega)), a1, um_b2_some]
  rfl
end PAR
