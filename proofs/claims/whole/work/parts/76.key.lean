/-! LEVEL 2: texts: the key -/
def wl (k : Nat) : List Nat := ([[116, 105, 99, 107, 101, 116], [112, 97, 114, 100, 111, 110], [105, 114, 111, 110, 115], [102, 101, 97, 114], [115, 116, 111, 112]] : List (List Nat)).getD k []
/-- the word is here -/
def wd (b : Nat → Nat) (st en k : Nat) : Bool := decide (en - st = (wl k).length) && (List.range (wl k).length).all (fun i => decide (b (st + i) = (wl k).getD i 0))
section KEY
variable {X M : um_S} {z st en t k j : Nat} {b : Nat → Nat} {gl : Bool}
theorem k_len (hk : k < 5) : f_J0_length_8abf5 k X = some (nI (wl k).length) := by
  rcases (show k = 0 ∨ k = 1 ∨ k = 2 ∨ k = 3 ∨ k = 4 by omega) with h | h | h | h | h <;> subst h <;> rfl
theorem k_chr (hk : k < 5) (hj : j < (wl k).length) : f_J0_charAt_5068e k (nI j) X = some (nI ((wl k).getD j 0)) := by
  rcases (show k = 0 ∨ k = 1 ∨ k = 2 ∨ k = 3 ∨ k = 4 by omega) with h | h | h | h | h
  · subst h
    change j < 6 at hj
    rcases (show j = 0 ∨ j = 1 ∨ j = 2 ∨ j = 3 ∨ j = 4 ∨ j = 5 by omega) with h | h | h | h | h | h <;> subst h <;> rfl
  · subst h
    change j < 6 at hj
    rcases (show j = 0 ∨ j = 1 ∨ j = 2 ∨ j = 3 ∨ j = 4 ∨ j = 5 by omega) with h | h | h | h | h | h <;> subst h <;> rfl
  · subst h
    change j < 5 at hj
    rcases (show j = 0 ∨ j = 1 ∨ j = 2 ∨ j = 3 ∨ j = 4 by omega) with h | h | h | h | h <;> subst h <;> rfl
  · subst h
    change j < 4 at hj
    rcases (show j = 0 ∨ j = 1 ∨ j = 2 ∨ j = 3 by omega) with h | h | h | h <;> subst h <;> rfl
  · subst h
    change j < 4 at hj
    rcases (show j = 0 ∨ j = 1 ∨ j = 2 ∨ j = 3 by omega) with h | h | h | h <;> subst h <;> rfl
theorem wl_len (hk : k < 5) : 4 ≤ (wl k).length ∧ (wl k).length ≤ 6 := by
  rcases (show k = 0 ∨ k = 1 ∨ k = 2 ∨ k = 3 ∨ k = 4 by omega) with h | h | h | h | h <;> subst h <;> decide
theorem wl_chr (hk : k < 5) (hj : j < (wl k).length) : (wl k).getD j 0 < 256 := by
  have h : ∀ k, k < 5 → ∀ j, j < 6 → (wl k).getD j 0 < 256 := by decide
  exact h k hk j (Nat.lt_of_lt_of_le hj (wl_len hk).2)
theorem lo_word (ht : tp X M z b) (h2 : X.1 4 2 = nI st) (hk : k < 5) (hl : st + (wl k).length ≤ z) : ∀ (i j fu : Nat), j + i = (wl k).length → i < fu → (∀ i, i < j → b (st + i) = (wl k).getD i 0) → f_X6_isWord_l20 k X fu (nI j) = some (if (List.range (wl k).length).all (fun i => decide (b (st + i) = (wl k).getD i 0)) = true then .inr () else .inl false) := by
  have hz := ht.2.2.1
  have hw := wl_len hk
  intro i
  induction i with
  | zero =>
    intro j fu hj hfu hb
    obtain ⟨fu, rfl⟩ : ∃ g, fu = g + 1 := ⟨fu - 1, by omega⟩
    rw [f_X6_isWord_l20, k_len hk, Option.bind_some, if_pos (nI_le (by omega) (by omega)), if_pos (List.all_eq_true.mpr (fun i hi => decide_eq_true (hb i (by have := List.mem_range.mp hi; omega))))]
  | succ i ih =>
    intro j fu hj hfu hb
    obtain ⟨fu, rfl⟩ : ∃ g, fu = g + 1 := ⟨fu - 1, by omega⟩
    have hbj := (ht.2.2.2 (st + j) (by omega)).2.2
    have hcj := wl_chr hk (show j < (wl k).length by omega)
    rw [f_X6_isWord_l20, k_len hk, Option.bind_some, if_neg (nI_ge (by omega) (by omega)), h2, nI_add, x_byteAt ht (by omega), Option.bind_some, k_chr hk (by omega), Option.bind_some, if_pos (show st + j < z by omega), nI_1]
    by_cases e : b (st + j) = (wl k).getD j 0
    · rw [if_pos (by rw [e])]
      refine ih (j + 1) fu (by omega) (by omega) (fun i hi => ?_)
      by_cases ei : i = j
      · rw [ei]; exact e
      · exact hb i (by omega)
    · rw [if_neg (fun z => e ((nI_eq (by omega) (by omega)).mp z)), if_neg (fun z => e (of_decide_eq_true (List.all_eq_true.mp z j (List.mem_range.mpr (by omega)))))]
theorem x_isWord (ht : tp X M z b) (h2 : X.1 4 2 = nI st) (h3 : X.1 4 3 = nI en) (hse : st ≤ en) (hez : en ≤ z) (hk : k < 5) : f_X6_isWord k X = some (wd b st en k) := by
  have hz := ht.2.2.1
  have hw := wl_len hk
  unfold f_X6_isWord wd
  rw [k_len hk, Option.bind_some, h2, h3, nI_sub hse]
  by_cases e : en - st = (wl k).length
  · have hlo := lo_word ht h2 hk (by omega) (wl k).length 0 um_N (by omega) (by unfold um_N; omega) (fun i hi => absurd hi (by omega))
    have hlo2 : f_X6_isWord_l20 k X um_N (0 : Int32) = _ := hlo
    rw [if_pos (by rw [e]), decide_eq_true e, Bool.true_and, hlo2]
    unfold um_s0
    rw [Option.bind_some]
    cases (List.range (wl k).length).all (fun i => decide (b (st + i) = (wl k).getD i 0)) <;> rfl
  · rw [if_neg (fun z => e ((nI_eq (by omega) (by omega)).mp z)), decide_eq_false e, Bool.false_and]
theorem x_keyHere (ht : tp X M z b) (h2 : X.1 4 2 = nI st) (h3 : X.1 4 3 = nI en) (hse : st ≤ en) (hez : en ≤ z) : f_X6_keyHere X = some (if wd b st en 0 = true then 0 else if wd b st en 1 = true then 1 else if wd b st en 2 = true then 2 else if wd b st en 3 = true then 3 else if wd b st en 4 = true then 4 else -1) := by
  have hw : ∀ k, k < 5 → f_X6_isWord k X = some (wd b st en k) := fun k hk => x_isWord ht h2 h3 hse hez hk
  have n0 : ¬ (5 : Int32) ≤ 0 := by decide
  have n1 : ¬ (5 : Int32) ≤ 0 + 1 := by decide
  have n2 : ¬ (5 : Int32) ≤ 0 + 1 + 1 := by decide
  have n3 : ¬ (5 : Int32) ≤ 0 + 1 + 1 + 1 := by decide
  have n4 : ¬ (5 : Int32) ≤ 0 + 1 + 1 + 1 + 1 := by decide
  have n5 : (5 : Int32) ≤ 0 + 1 + 1 + 1 + 1 + 1 := by decide
  have w0 : f_X6_keyWord 0 X = some 0 := rfl
  have w1 : f_X6_keyWord (0 + 1) X = some 1 := rfl
  have w2 : f_X6_keyWord (0 + 1 + 1) X = some 2 := rfl
  have w3 : f_X6_keyWord (0 + 1 + 1 + 1) X = some 3 := rfl
  have w4 : f_X6_keyWord (0 + 1 + 1 + 1 + 1) X = some 4 := rfl
  unfold f_X6_keyHere um_s0
  rw [show um_N = 4090 + 1 + 1 + 1 + 1 + 1 + 1 from rfl]
  rw [f_X6_keyHere_l2, if_neg n0, w0, Option.bind_some, hw 0 (by omega), Option.bind_some]
  cases wd b st en 0 with
  | true => rfl
  | false =>
    rw [show um_b false = 0 from rfl, if_pos rfl, f_X6_keyHere_l2, if_neg n1, w1, Option.bind_some, hw 1 (by omega), Option.bind_some]
    cases wd b st en 1 with
    | true => rfl
    | false =>
      rw [show um_b false = 0 from rfl, if_pos rfl, f_X6_keyHere_l2, if_neg n2, w2, Option.bind_some, hw 2 (by omega), Option.bind_some]
      cases wd b st en 2 with
      | true => rfl
      | false =>
        rw [show um_b false = 0 from rfl, if_pos rfl, f_X6_keyHere_l2, if_neg n3, w3, Option.bind_some, hw 3 (by omega), Option.bind_some]
        cases wd b st en 3 with
        | true => rfl
        | false =>
          rw [show um_b false = 0 from rfl, if_pos rfl, f_X6_keyHere_l2, if_neg n4, w4, Option.bind_some, hw 4 (by omega), Option.bind_some]
          cases wd b st en 4 with
          | true => rfl
          | false =>
            rw [show um_b false = 0 from rfl, if_pos rfl, f_X6_keyHere_l2, if_pos n5]
            rfl
end KEY
