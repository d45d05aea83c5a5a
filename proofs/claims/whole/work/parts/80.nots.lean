/-! LEVEL 2: texts: the end of a part -/
/-- the signs without the nots on top -/
def hn (S : List Nat) : Prop := ∀ c S', S = c :: S' → c ≠ 33
def xE (X X' : um_S) : Prop := (∀ k j, k ≠ 9 → k ≠ 10 → (k ≠ 4 ∨ (j ≠ 6 ∧ j ≠ 9 ∧ j ≠ 10 ∧ j ≠ 12 ∧ j ≠ 13 ∧ j ≠ 14)) → X'.1 k j = X.1 k j) ∧ X'.2 = X.2
section NOT
variable {X X' X2 : um_S} {nt : Nat} {v : Int32} {R : List Int32} {S : List Nat}
theorem xE_refl : xE X X := ⟨fun _ _ _ _ _ => rfl, rfl⟩
theorem xE_trans (a : xE X X') (b : xE X' X2) : xE X X2 := ⟨fun k j h1 h2 h3 => by rw [b.1 k j h1 h2 h3, a.1 k j h1 h2 h3], by rw [b.2, a.2]⟩
theorem xW_xE (a : xW X X') : xE X X' := ⟨fun k j h1 h2 h3 => a.1 k j h1 h2 (by omega), a.2⟩
theorem xE_wr {i : Nat} (h : i = 6 ∨ i = 9 ∨ i = 10 ∨ i = 12 ∨ i = 13 ∨ i = 14) : xE X (um_wr X 4 i v) := ⟨fun k2 j h1 h2 h3 => by
  by_cases e : k2 = 4
  · subst e
    exact um_wr_an (by omega)
  · exact um_wr_nk e, rfl⟩
theorem ce_wr {i : Nat} (h : ce X R S) (hi : i ≠ 9) (hi2 : i ≠ 10) : ce (um_wr X 4 i v) R S := by
  obtain ⟨h1, h2, h3, h4, h5, h6⟩ := h
  exact ⟨by rw [um_wr_an (fun z => hi z.symm)]; exact h1, pile_of (fun j => um_wr_nk (by omega)) h2, by rw [um_wr_an (fun z => hi2 z.symm)]; exact h3, pile_of (fun j => um_wr_nk (by omega)) h4, h5, h6⟩
theorem lo_nots (hS : hn S) : ∀ (k : Nat) (R : List Int32) (X : um_S) (j nt fu : Nat), ce X R (List.replicate k 33 ++ S) → X.1 4 14 = nI nt → k ≤ nt → nt ≤ 8 → j + k ≤ 8 → k < fu → R.length + (k + S.length) ≤ 94 → ∃ X', f_X6_endPart_l2 fu (nI j) X = some X' ∧ ce X' (List.replicate k (-33) ++ R) S ∧ X'.1 4 14 = nI (nt - k) ∧ (X'.1 4 12 = X.1 4 12 ∧ X'.1 4 13 = X.1 4 13) ∧ xE X X' := by
  intro k
  induction k with
  | zero =>
    intro R X j nt fu h h14 hk hnt hj hfu hl
    obtain ⟨fu, rfl⟩ : ∃ g, fu = g + 1 := ⟨fu - 1, by omega⟩
    have h' : ce X R S := h
    refine ⟨X, ?_, h', h14, ⟨rfl, rfl⟩, xE_refl⟩
    rw [f_X6_endPart_l2]
    split
    · rfl
    · cases S with
      | nil =>
        have n33 : ¬ (0 : Int32) = 33 := by decide
        rw [x_top0 h', Option.bind_some, if_neg n33]
      | cons c S' =>
        have hc := h'.2.2.2.2.2 c List.mem_cons_self
        have n33 : ¬ nI c = (33 : Int32) := fun z => hS c S' rfl ((nI_eq (b := 33) (by omega) (by omega)).mp z)
        rw [x_top h', Option.bind_some, if_neg n33]
  | succ k ih =>
    intro R X j nt fu h h14 hk hnt hj hfu hl
    obtain ⟨fu, rfl⟩ : ∃ g, fu = g + 1 := ⟨fu - 1, by omega⟩
    have h' : ce X R (33 :: (List.replicate k 33 ++ S)) := h
    have n8 : ¬ (8 : Int32) ≤ nI j := nI_ge (b := 8) (by omega) (by omega)
    have hlen : (List.replicate k 33 ++ S).length = k + S.length := by rw [List.length_append, List.length_replicate]
    obtain ⟨X1, a1, a2, a3⟩ := x_take h'
    obtain ⟨X2, b1, b2, b3⟩ := x_write (v := -33) a2 (by omega)
    have e14 : X2.1 4 14 = nI nt := by rw [b3.1 4 14 (by omega) (by omega) (by omega), a3.1 4 14 (by omega) (by omega) (by omega)]; exact h14
    have eneg : -(nI 33) = (-33 : Int32) := by decide
    obtain ⟨X3, c1, c2, c3, ⟨c5, c6⟩, c4⟩ := ih (-33 :: R) (um_wr X2 4 14 (nI (nt - 1))) (j + 1) (nt - 1) fu (ce_wr b2 (by omega) (by omega)) (um_wr_at _ _ _ _) (by omega) (by omega) (by omega) (by omega) (by change R.length + 1 + (k + S.length) ≤ 94; omega)
    have u : ∀ i, i = 12 ∨ i = 13 → (um_wr X2 4 14 (nI (nt - 1))).1 4 i = X.1 4 i := fun i hi => by rw [um_wr_an (by omega), b3.1 4 i (by omega) (by omega) (by omega), a3.1 4 i (by omega) (by omega) (by omega)]
    refine ⟨X3, ?_, ?_, ?_, ⟨c5.trans (u 12 (by omega)), c6.trans (u 13 (by omega))⟩, xE_trans (xW_xE (xW_trans a3 b3)) (xE_trans (xE_wr (by omega)) c4)⟩
    · rw [f_X6_endPart_l2, if_neg n8, x_top h', Option.bind_some]
      have e33 : nI 33 = (33 : Int32) := rfl
      rw [if_pos e33, a1, um_b2_some, eneg, b1, Option.bind_some, e14, nI_1]
      unfold um_let
      rw [show nI nt - 1 = nI (nt - 1) from nI_sub (b := 1) (by omega)]
      exact c1
    · rw [show List.replicate (k + 1) (-33 : Int32) ++ R = List.replicate k (-33) ++ (-33 :: R) by rw [List.replicate_succ', List.append_assoc]; rfl]
      exact c2
    · rw [c3, show nt - 1 - k = nt - (k + 1) by omega]
theorem x_endPart {k : Nat} (hS : hn S) (h : ce X R (List.replicate k 33 ++ S)) (h14 : X.1 4 14 = nI nt) (hk : k ≤ nt) (hnt : nt ≤ 8) (hl : R.length + (k + S.length) ≤ 94) : ∃ X', f_X6_endPart X = some X' ∧ ce X' (List.replicate k (-33) ++ R) S ∧ X'.1 4 14 = nI (nt - k) ∧ X'.1 4 6 = 0 ∧ (X'.1 4 12 = X.1 4 12 ∧ X'.1 4 13 = X.1 4 13) ∧ xE X X' := by
  obtain ⟨X1, a1, a2, a3, ⟨a4, a5⟩, a6⟩ := lo_nots hS k R X 0 nt um_N h h14 hk hnt (by omega) (by unfold um_N; omega) hl
  refine ⟨um_wr X1 4 6 (um_b false), ?_, ce_wr a2 (by omega) (by omega), by rw [um_wr_an (by omega)]; exact a3, um_wr_at _ _ _ _, ⟨by rw [um_wr_an (by omega)]; exact a4, by rw [um_wr_an (by omega)]; exact a5⟩, xE_trans a6 (xE_wr (by omega))⟩
  unfold f_X6_endPart
  exact (congrArg (fun o => Option.bind o _) a1).trans rfl
end NOT
