/-! LEVEL 2: texts: the tape is read -/
/-- what stands on the tape -/
def tp (X M : um_S) (z : Nat) (b : Nat → Nat) : Prop := X.1 4 1 = nI z ∧ M.1 0 8 = nI z ∧ z ≤ 96 ∧ ∀ j, j < z → X.1 8 j &&& 255 = nI (b j) ∧ M.1 7 j = nI (b j) ∧ b j ≤ 255
/-- the sort of a sign -/
def so (z : Nat) (b : Nat → Nat) (p : Nat) : Nat := if p < z then (if 97 ≤ b p ∧ b p ≤ 122 then 1 else if 48 ≤ b p ∧ b p ≤ 57 then 2 else 3) else 0
/-- nothing but this cell -/
def x1 (i : Nat) (X X' : um_S) : Prop := (∀ k j, k ≠ 4 ∨ j ≠ i → X'.1 k j = X.1 k j) ∧ X'.2 = X.2
def m1 (i : Nat) (M M' : um_S) : Prop := ∀ k j, k ≠ 0 ∨ j ≠ i → M'.1 k j = M.1 k j
/-- nothing but what reading changes -/
def xr (X X' : um_S) : Prop := (∀ k j, k ≠ 4 ∨ j < 2 ∨ 5 < j → X'.1 k j = X.1 k j) ∧ X'.2 = X.2
def mr (M M' : um_S) : Prop := ∀ k j, k ≠ 0 ∨ j < 9 ∨ 13 < j → M'.1 k j = M.1 k j
/-- the number so far -/
def nv (b : Nat → Nat) (p : Nat) : Nat → Nat
  | 0 => 0
  | k + 1 => 10 * nv b p k + (b (p + k) - 48)
section LEX
variable {X X' X2 M M' M2 : um_S} {z p e : Nat} {b : Nat → Nat} {v w : Int32}
theorem so_1 : so z b p = 1 ↔ p < z ∧ 97 ≤ b p ∧ b p ≤ 122 := by
  unfold so
  split
  · split
    · omega
    · split <;> omega
  · omega
theorem so_2 : so z b p = 2 ↔ p < z ∧ 48 ≤ b p ∧ b p ≤ 57 := by
  unfold so
  split
  · split
    · omega
    · split <;> omega
  · omega
theorem so_0 : so z b p = 0 ↔ z ≤ p := by
  unfold so
  split
  · split
    · omega
    · split <;> omega
  · omega
theorem so_le : so z b p ≤ 3 := by
  unfold so
  split
  · split
    · omega
    · split <;> omega
  · omega
theorem x_byteAt (h : tp X M z b) (hp : p ≤ 96) : f_X6_byteAt (nI p) X = some (if p < z then nI (b p) else -1) := by
  obtain ⟨h1, h2, h3, h4⟩ := h
  unfold f_X6_byteAt
  rw [if_neg (nI_pos (by omega)), h1]
  by_cases e : p < z
  · rw [if_neg (nI_ge e (by omega)), if_neg (nI_ge (by omega) (by omega)), if_pos (um_ix_nI (by omega) (by omega)), nI_clamp (by omega), (h4 p e).1, if_pos e]
  · rw [if_pos (nI_le (by omega) (by omega)), if_neg e]
theorem x_sortAt (h : tp X M z b) (hp : p ≤ 96) : f_X6_sortAt (nI p) X = some (nI (so z b p)) := by
  unfold f_X6_sortAt so
  rw [x_byteAt h hp, Option.bind_some]
  by_cases e : p < z
  · rw [if_pos e, if_pos e, if_pos (nI_pos' (by have := (h.2.2.2 p e).2.2; omega))]
    have hb := (h.2.2.2 p e).2.2
    unfold um_let
    try dsimp only
    have c1 : (nI (b p) < (97 : Int32)) ↔ b p < 97 := nI_ltI (b := 97) (by omega) (by omega)
    have c2 : ((122 : Int32) < nI (b p)) ↔ 122 < b p := nI_ltI (a := 122) (by omega) (by omega)
    have c3 : (nI (b p) < (48 : Int32)) ↔ b p < 48 := nI_ltI (b := 48) (by omega) (by omega)
    have c4 : ((57 : Int32) < nI (b p)) ↔ 57 < b p := nI_ltI (a := 57) (by omega) (by omega)
    simp only [c1, c2, c3, c4]
    by_cases h1 : b p < 97
    · rw [if_pos h1, if_neg (show ¬ (97 ≤ b p ∧ b p ≤ 122) by omega)]
      by_cases h3 : b p < 48
      · rw [if_pos h3, if_neg (by omega)]
        rfl
      · rw [if_neg h3]
        by_cases h4 : 57 < b p
        · rw [if_pos h4, if_neg (by omega)]
          rfl
        · rw [if_neg h4, if_pos (by omega)]
          rfl
    · rw [if_neg h1]
      by_cases h2 : 122 < b p
      · rw [if_pos h2, if_neg (show ¬ (97 ≤ b p ∧ b p ≤ 122) by omega), if_neg (show ¬ b p < 48 by omega), if_pos (show 57 < b p by omega), if_neg (by omega)]
        rfl
      · rw [if_neg h2, if_pos (by omega)]
        rfl
  · have n1 : ¬ (0 : Int32) ≤ -1 := by decide
    rw [if_neg e, if_neg e, if_neg n1]
    rfl
theorem m_isLetter (h : tp X M z b) (hp : p ≤ z) : f_X9_isLetter (nI p) M = some (decide (so z b p = 1)) := by
  obtain ⟨h1, h2, h3, h4⟩ := h
  unfold f_X9_isLetter
  rw [h2]
  by_cases e : p < z
  · rw [if_neg (nI_ge e (by omega)), if_pos (um_ix_nI (by omega) (by omega)), nI_clamp (by omega), (h4 p e).2.1, m_isIn, Int32.toInt_toInt64, nI_toInt (by have := (h4 p e).2.2; omega), show (97 : Int64).toInt = 97 by decide, show (122 : Int64).toInt = 122 by decide, Option.bind_some]
    by_cases hb : 97 ≤ b p ∧ b p ≤ 122
    · rw [decide_eq_true (show (97 : Int) ≤ (b p : Int) ∧ (b p : Int) ≤ 122 by omega), decide_eq_true (so_1.mpr ⟨e, hb⟩)]
      rfl
    · rw [decide_eq_false (show ¬ ((97 : Int) ≤ (b p : Int) ∧ (b p : Int) ≤ 122) by omega), decide_eq_false (fun z => hb (so_1.mp z).2)]
      rfl
  · rw [if_pos (nI_le (by omega) (by omega)), decide_eq_false (fun z => e (so_1.mp z).1)]
theorem m_isDigit (h : tp X M z b) (hp : p ≤ z) : f_X9_isDigit (nI p) M = some (decide (so z b p = 2)) := by
  obtain ⟨h1, h2, h3, h4⟩ := h
  unfold f_X9_isDigit
  rw [h2]
  by_cases e : p < z
  · rw [if_neg (nI_ge e (by omega)), if_pos (um_ix_nI (by omega) (by omega)), nI_clamp (by omega), (h4 p e).2.1, m_isIn, Int32.toInt_toInt64, nI_toInt (by have := (h4 p e).2.2; omega), show (48 : Int64).toInt = 48 by decide, show (57 : Int64).toInt = 57 by decide, Option.bind_some]
    by_cases hb : 48 ≤ b p ∧ b p ≤ 57
    · rw [decide_eq_true (show (48 : Int) ≤ (b p : Int) ∧ (b p : Int) ≤ 57 by omega), decide_eq_true (so_2.mpr ⟨e, hb⟩)]
      rfl
    · rw [decide_eq_false (show ¬ ((48 : Int) ≤ (b p : Int) ∧ (b p : Int) ≤ 57) by omega), decide_eq_false (fun z => hb (so_2.mp z).2)]
      rfl
  · rw [if_pos (nI_le (by omega) (by omega)), decide_eq_false (fun z => e (so_2.mp z).1)]
theorem tp_of (h : tp X M z b) (hx : xr X X') (hm : mr M M') : tp X' M' z b := by
  obtain ⟨h1, h2, h3, h4⟩ := h
  refine ⟨by rw [hx.1 4 1 (by omega)]; exact h1, by rw [hm 0 8 (by omega)]; exact h2, h3, fun j hj => ?_⟩
  rw [hx.1 8 j (by omega), hm 7 j (by omega)]
  exact h4 j hj
theorem x1_xr {i : Nat} (h : x1 i X X') (hi : 2 ≤ i ∧ i ≤ 5) : xr X X' := ⟨fun k j hk => h.1 k j (by omega), h.2⟩
theorem m1_mr {i : Nat} (h : m1 i M M') (hi : 9 ≤ i ∧ i ≤ 13) : mr M M' := fun k j hk => h k j (by omega)
theorem xr_trans (a : xr X X') (c : xr X' X2) : xr X X2 := ⟨fun k j h => by rw [c.1 k j h, a.1 k j h], by rw [c.2, a.2]⟩
theorem mr_trans (a : mr M M') (c : mr M' M2) : mr M M2 := fun k j h => by rw [c k j h, a k j h]
theorem x1_trans {i : Nat} (a : x1 i X X') (c : x1 i X' X2) : x1 i X X2 := ⟨fun k j h => by rw [c.1 k j h, a.1 k j h], by rw [c.2, a.2]⟩
theorem m1_trans {i : Nat} (a : m1 i M M') (c : m1 i M' M2) : m1 i M M2 := fun k j h => by rw [c k j h, a k j h]
theorem x1_wr (i : Nat) : x1 i X (um_wr X 4 i v) := ⟨fun k j h => by
  by_cases e : k = 4
  · subst e
    exact um_wr_an (by omega)
  · exact um_wr_nk e, rfl⟩
theorem m1_wr (i : Nat) : m1 i M (um_wr M 0 i v) := fun k j h => by
  by_cases e : k = 0
  · subst e
    exact um_wr_an (by omega)
  · exact um_wr_nk e
theorem x1_refl {i : Nat} : x1 i X X := ⟨fun _ _ _ => rfl, rfl⟩
theorem m1_refl {i : Nat} : m1 i M M := fun _ _ _ => rfl
/-- blanks -/
theorem lo_sk {w1 w2 : Int32} : ∀ (i p fx fm : Nat) (X M : um_S), p + i = z → i < fx → i < fm → tp X M z b → X.1 4 2 = nI p → M.1 0 10 = nI p → sm_S (f_X6_next_l30 v fx X) (f_X9_next_l34 w1 w2 fm M) (fun X' M' => ∃ q, p ≤ q ∧ q ≤ z ∧ (q < z → b q ≠ 32) ∧ X'.1 4 2 = nI q ∧ M'.1 0 10 = nI q ∧ x1 2 X X' ∧ m1 10 M M') := by
  intro i
  induction i with
  | zero =>
    intro p fx fm X M hp hfx hfm ht h2 h10
    obtain ⟨fx, rfl⟩ : ∃ g, fx = g + 1 := ⟨fx - 1, by omega⟩
    obtain ⟨fm, rfl⟩ : ∃ g, fm = g + 1 := ⟨fm - 1, by omega⟩
    have hz := ht.2.2.1
    rw [f_X6_next_l30, f_X9_next_l34, h2, h10, ht.2.1]
    have fin : ∃ q, p ≤ q ∧ q ≤ z ∧ (q < z → b q ≠ 32) ∧ X.1 4 2 = nI q ∧ M.1 0 10 = nI q ∧ x1 2 X X ∧ m1 10 M M := ⟨p, Nat.le_refl _, by omega, fun z => by omega, h2, h10, x1_refl, m1_refl⟩
    refine sm_mt (nI_le (by omega) (by omega)) (sm_xi (fun _ => sm_ret fin) (fun _ => sm_xb (x_byteAt ht (by omega)) ?_))
    rw [if_neg (show ¬ p < z by omega)]
    have n32 : ¬ (-1 : Int32) = 32 := by decide
    exact sm_xf n32 (sm_ret fin)
  | succ i ih =>
    intro p fx fm X M hp hfx hfm ht h2 h10
    obtain ⟨fx, rfl⟩ : ∃ g, fx = g + 1 := ⟨fx - 1, by omega⟩
    obtain ⟨fm, rfl⟩ : ∃ g, fm = g + 1 := ⟨fm - 1, by omega⟩
    have hz := ht.2.2.1
    have hb := ht.2.2.2 p (by omega)
    have n96 : ¬ (96 : Int32) ≤ nI p := nI_ge (b := 96) (by omega) (by omega)
    rw [f_X6_next_l30, f_X9_next_l34, h2, h10, ht.2.1]
    refine sm_mf (nI_ge (by omega) (by omega)) (sm_mt (um_ix_nI (by omega) (by omega)) (sm_xf n96 (sm_xb (x_byteAt ht (by omega)) ?_)))
    rw [if_pos (show p < z by omega), nI_clamp (by omega), hb.2.1, nI_1]
    have e32 : nI (b p) = 32 ↔ b p = 32 := nI_eq (b := 32) (by omega) (by omega)
    refine sm_if Iff.rfl (fun _ => sm_xl (sm_ml ?_)) (fun h => sm_ret ⟨p, Nat.le_refl _, by omega, fun _ => fun h3 => h (e32.mpr h3), h2, h10, x1_refl, m1_refl⟩)
    refine sm_wk (ih (p + 1) fx fm _ _ (by omega) (by omega) (by omega) (tp_of ht (x1_xr (x1_wr 2) (by omega)) (m1_mr (m1_wr 10) (by omega))) (um_wr_at _ _ _ _) (um_wr_at _ _ _ _)) (fun X' M' ⟨q, q1, q2, q3, q4, q5, q6, q7⟩ => ⟨q, by omega, q2, q3, q4, q5, x1_trans (x1_wr 2) q6, m1_trans (m1_wr 10) q7⟩)
/-- a run of letters -/
theorem lo_let : ∀ (i p fx fm : Nat) (X M : um_S), p + i = z → i < fx → i < fm → tp X M z b → X.1 4 3 = nI p → X.1 4 4 = nI 1 → M.1 0 10 = nI p → sm_S (f_X6_next_l153 fx X) (f_X9_next_l128 w fm M) (fun X' M' => ∃ q, p ≤ q ∧ q ≤ z ∧ (∀ j, p ≤ j → j < q → so z b j = 1) ∧ X'.1 4 3 = nI q ∧ M'.1 0 10 = nI q ∧ x1 3 X X' ∧ m1 10 M M') := by
  intro i
  induction i with
  | zero =>
    intro p fx fm X M hp hfx hfm ht h3 h4 h10
    obtain ⟨fx, rfl⟩ : ∃ g, fx = g + 1 := ⟨fx - 1, by omega⟩
    obtain ⟨fm, rfl⟩ : ∃ g, fm = g + 1 := ⟨fm - 1, by omega⟩
    have hz := ht.2.2.1
    have hs : so z b p = 0 := so_0.mpr (by omega)
    rw [f_X6_next_l153, f_X9_next_l128, h3, h4, h10]
    have fin : ∃ q, p ≤ q ∧ q ≤ z ∧ (∀ j, p ≤ j → j < q → so z b j = 1) ∧ X.1 4 3 = nI q ∧ M.1 0 10 = nI q ∧ x1 3 X X ∧ m1 10 M M := ⟨p, Nat.le_refl _, by omega, fun j _ _ => by omega, h3, h10, x1_refl, m1_refl⟩
    refine sm_mb (m_isLetter ht (by omega)) ?_
    rw [decide_eq_false (by omega)]
    refine sm_mF (sm_xi (fun _ => sm_ret fin) (fun _ => sm_xb (x_sortAt ht (by omega)) ?_))
    rw [hs]
    have n01 : ¬ nI 0 = nI 1 := by decide
    exact sm_xf n01 (sm_ret fin)
  | succ i ih =>
    intro p fx fm X M hp hfx hfm ht h3 h4 h10
    obtain ⟨fx, rfl⟩ : ∃ g, fx = g + 1 := ⟨fx - 1, by omega⟩
    obtain ⟨fm, rfl⟩ : ∃ g, fm = g + 1 := ⟨fm - 1, by omega⟩
    have hz := ht.2.2.1
    have n96 : ¬ (96 : Int32) ≤ nI p := nI_ge (b := 96) (by omega) (by omega)
    have hsl := so_le (z := z) (b := b) (p := p)
    rw [f_X6_next_l153, f_X9_next_l128, h3, h4, h10]
    refine sm_mb (m_isLetter ht (by omega)) (sm_xf n96 (sm_xb (x_sortAt ht (by omega)) ?_))
    have e1 : nI (so z b p) = nI 1 ↔ so z b p = 1 := nI_eq (by omega) (by omega)
    by_cases hs : so z b p = 1
    · rw [decide_eq_true hs, nI_1]
      refine sm_mT (sm_xt (e1.mpr hs) (sm_xl (sm_ml ?_)))
      have f := tp_of ht (x1_xr (x1_wr (v := nI (p + 1)) 3) (by omega)) (m1_mr (m1_wr (v := nI (p + 1)) 10) (by omega))
      refine sm_wk (ih (p + 1) fx fm _ _ (by omega) (by omega) (by omega) f (um_wr_at _ _ _ _) (by rw [um_wr_an (by omega)]; exact h4) (um_wr_at _ _ _ _)) (fun X' M' ⟨q, q1, q2, q3, q4, q5, q6, q7⟩ => ⟨q, by omega, q2, fun j hj hjq => ?_, q4, q5, x1_trans (x1_wr 3) q6, m1_trans (m1_wr 10) q7⟩)
      by_cases ej : j = p
      · rw [ej]; exact hs
      · exact q3 j (by omega) hjq
    · rw [decide_eq_false hs]
      exact sm_mF (sm_xf (fun z => hs (e1.mp z)) (sm_ret ⟨p, Nat.le_refl _, by omega, fun j _ _ => by omega, h3, h10, x1_refl, m1_refl⟩))
/-- a run of digits -/
theorem lo_dig {st : Nat} : ∀ (i p fx fm : Nat) (X M : um_S), p + i = z → st ≤ p → i < fx → i < fm → tp X M z b → X.1 4 3 = nI p → X.1 4 4 = nI 2 → M.1 0 9 = nI st → M.1 0 10 = nI p → (∀ j, st ≤ j → j < p → so z b j = 2) → M.1 0 12 = nI (nv b st (if p - st ≤ 4 then p - st else 4)) → sm_S (f_X6_next_l153 fx X) (f_X9_next_l214 w fm M) (fun X' M' => ∃ q, p ≤ q ∧ q ≤ z ∧ (∀ j, st ≤ j → j < q → so z b j = 2) ∧ X'.1 4 3 = nI q ∧ M'.1 0 10 = nI q ∧ M'.1 0 9 = nI st ∧ M'.1 0 12 = nI (nv b st (if q - st ≤ 4 then q - st else 4)) ∧ x1 3 X X' ∧ mr M M') := by
  intro i
  induction i with
  | zero =>
    intro p fx fm X M hp hst hfx hfm ht h3 h4 h9 h10 hd h12
    obtain ⟨fx, rfl⟩ : ∃ g, fx = g + 1 := ⟨fx - 1, by omega⟩
    obtain ⟨fm, rfl⟩ : ∃ g, fm = g + 1 := ⟨fm - 1, by omega⟩
    have hz := ht.2.2.1
    have hs : so z b p = 0 := so_0.mpr (by omega)
    rw [f_X6_next_l153, f_X9_next_l214, h3, h4, h10]
    have fin : ∃ q, p ≤ q ∧ q ≤ z ∧ (∀ j, st ≤ j → j < q → so z b j = 2) ∧ X.1 4 3 = nI q ∧ M.1 0 10 = nI q ∧ M.1 0 9 = nI st ∧ M.1 0 12 = nI (nv b st (if q - st ≤ 4 then q - st else 4)) ∧ x1 3 X X ∧ mr M M := ⟨p, Nat.le_refl _, by omega, hd, h3, h10, h9, h12, x1_refl, fun _ _ _ => rfl⟩
    refine sm_mb (m_isDigit ht (by omega)) ?_
    rw [decide_eq_false (by omega)]
    refine sm_mF (sm_xi (fun _ => sm_ret fin) (fun _ => sm_xb (x_sortAt ht (by omega)) ?_))
    rw [hs]
    have n01 : ¬ nI 0 = nI 2 := by decide
    exact sm_xf n01 (sm_ret fin)
  | succ i ih =>
    intro p fx fm X M hp hst hfx hfm ht h3 h4 h9 h10 hd h12
    obtain ⟨fx, rfl⟩ : ∃ g, fx = g + 1 := ⟨fx - 1, by omega⟩
    obtain ⟨fm, rfl⟩ : ∃ g, fm = g + 1 := ⟨fm - 1, by omega⟩
    have hz := ht.2.2.1
    have n96 : ¬ (96 : Int32) ≤ nI p := nI_ge (b := 96) (by omega) (by omega)
    have hsl := so_le (z := z) (b := b) (p := p)
    rw [f_X6_next_l153, f_X9_next_l214, h3, h4, h10]
    refine sm_mb (m_isDigit ht (by omega)) (sm_xf n96 (sm_xb (x_sortAt ht (by omega)) ?_))
    have e1 : nI (so z b p) = nI 2 ↔ so z b p = 2 := nI_eq (by omega) (by omega)
    by_cases hs : so z b p = 2
    · have hs2 := so_2.mp hs
      have hd2 : ∀ j, st ≤ j → j < p + 1 → so z b j = 2 := by
        intro j hj hjp
        by_cases ej : j = p
        · rw [ej]; exact hs
        · exact hd j hj (by omega)
      rw [decide_eq_true hs, nI_1, h9, nI_sub hst]
      refine sm_mT (sm_xt (e1.mpr hs) (sm_xl (sm_ml ?_)))
      have nx : ∀ x : Int32, x = nI (nv b st (if p + 1 - st ≤ 4 then p + 1 - st else 4)) → sm_S (f_X6_next_l153 fx (um_wr X 4 3 (nI (p + 1)))) (f_X9_next_l214 w fm (um_wr (um_wr M 0 12 x) 0 10 ((um_wr M 0 12 x).1 0 10 + 1))) (fun X' M' => ∃ q, p ≤ q ∧ q ≤ z ∧ (∀ j, st ≤ j → j < q → so z b j = 2) ∧ X'.1 4 3 = nI q ∧ M'.1 0 10 = nI q ∧ M'.1 0 9 = nI st ∧ M'.1 0 12 = nI (nv b st (if q - st ≤ 4 then q - st else 4)) ∧ x1 3 X X' ∧ mr M M') := by
        intro x ex
        rw [um_wr_an (i := 12) (j := 10) (by omega), h10, nI_1]
        have fm2 : mr M (um_wr (um_wr M 0 12 x) 0 10 (nI (p + 1))) := mr_trans (m1_mr (m1_wr 12) (by omega)) (m1_mr (m1_wr 10) (by omega))
        refine sm_wk (ih (p + 1) fx fm _ _ (by omega) (by omega) (by omega) (by omega) (tp_of ht (x1_xr (x1_wr 3) (by omega)) fm2) (um_wr_at _ _ _ _) (by rw [um_wr_an (by omega)]; exact h4) (by rw [um_wr_an (by omega), um_wr_an (by omega)]; exact h9) (um_wr_at _ _ _ _) hd2 (by rw [um_wr_an (by omega), um_wr_at]; exact ex)) (fun X' M' ⟨q, q1, q2, q3, q4, q5, q6, q7, q8, q9⟩ => ⟨q, by omega, q2, q3, q4, q5, q6, q7, x1_trans (x1_wr 3) q8, mr_trans fm2 q9⟩)
      by_cases h4d : 4 ≤ p - st
      · refine sm_mt (nI_le (a := 4) h4d (by omega)) (nx _ ?_)
        rw [h12, if_neg (show ¬ p + 1 - st ≤ 4 by omega)]
        by_cases h5 : p - st ≤ 4
        · rw [if_pos h5, show p - st = 4 by omega]
        · rw [if_neg h5]
      · have n4 : ¬ (4 : Int32) ≤ nI (p - st) := nI_ge (b := 4) (by omega) (by omega)
        refine sm_mf n4 (sm_mt (um_ix_nI (by omega) (by omega)) (nx _ ?_))
        rw [h12, if_pos (show p - st ≤ 4 by omega), if_pos (show p + 1 - st ≤ 4 by omega), nI_clamp (by omega), (ht.2.2.2 p (by omega)).2.1, show p + 1 - st = (p - st) + 1 by omega]
        rw [show nv b st (p - st + 1) = 10 * nv b st (p - st) + (b (st + (p - st)) - 48) from rfl, show st + (p - st) = p by omega]
        refine (congrArg (fun y => y + nI (b p) - (48 : Int32)) (nI_mul 10 (nv b st (p - st)))).trans ?_
        try dsimp only
        rw [nI_add]
        exact (nI_sub (b := 48) (by omega)).trans (by rw [show 10 * nv b st (p - st) + b p - 48 = 10 * nv b st (p - st) + (b p - 48) by omega])
    · rw [decide_eq_false hs]
      exact sm_mF (sm_xf (fun z => hs (e1.mp z)) (sm_ret ⟨p, Nat.le_refl _, by omega, hd, h3, h10, h9, h12, x1_refl, fun _ _ _ => rfl⟩))
end LEX
