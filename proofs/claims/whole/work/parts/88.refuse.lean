/-! LEVEL 2: texts: parts refused -/
section REF
variable {X X' M : um_S} {z st en t n nd nt kk : Nat} {v1 : Int32} {b : Nat → Nat} {gl : Bool} {P : Int32 → um_S → Option (Bool × um_S)}
theorem m_sign {c : Nat} (h : TK X M z b st en t gl) (hb : t = 3 → b st < 256) (hc : c < 256) : f_X9_isSign (nI c) M = some (decide (t = 3 ∧ b st = c)) := by
  obtain ⟨h1, h2, h3, h4, h5, h6, h7, h8, h9⟩ := h
  have hl := so_le (z := z) (b := b) (p := st)
  unfold f_X9_isSign
  rcases (show t = 0 ∨ t = 1 ∨ t = 2 ∨ t = 3 by omega) with e | e | e | e
  · have n3 : ¬ M.1 0 11 = 3 := by rw [h6 e]; decide
    rw [if_neg n3, decide_eq_false (by omega)]
  · have n3 : ¬ M.1 0 11 = 3 := by
      rw [(h8 e).2.1]
      split <;> decide
    rw [if_neg n3, decide_eq_false (by omega)]
  · have n3 : ¬ M.1 0 11 = 3 := by
      rw [(h9 e).2.1]
      split <;> decide
    rw [if_neg n3, decide_eq_false (by omega)]
  · obtain ⟨a1, a2, a3, a4⟩ := h7 e
    have hb2 := hb e
    rw [if_pos a3, a4]
    by_cases hbc : b st = c
    · rw [if_pos (by rw [hbc]), decide_eq_true ⟨e, hbc⟩]
    · rw [if_neg (fun z => hbc ((nI_eq (by omega) (by omega)).mp z)), decide_eq_false (fun z => hbc z.2)]
end REF
