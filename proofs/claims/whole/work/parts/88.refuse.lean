/-! LEVEL 2: texts: parts refused -/
section REF
variable {X X' M : um_S} {z st en t n nd nt kk : Nat} {v1 : Int32} {b : Nat → Nat} {gl : Bool} {P : Int32 → um_S → Option (Bool × um_S)}
theorem m_sign {c : Nat} (h : TK X M z b st en t gl) (hb : t = 3 → b st < 256) (hc : c < 256) : f_X9_isSign (nI c) M = some (decide (t = 3 ∧ b st = c)) := by
  obtain ⟨h1, h2, h3, h4, h5, h6, h7, h8, h9⟩ := h
  have hl := so_le (z := z) (b := b) (p := st)
  unfold f_X9_isSign
  rcases (show t = 0 ∨ t = 1 ∨ t = 2 ∨ t = 3 by omega) with e | e | e | e
  · have n3 : ¬ M.1 0 11 = 3 := by rw [h6 e]; decide
    rw [if_neg n3, decide_eq_false (by omega)]
  · have n3 : ¬ M.1 0 11 = 3 := by
      rw [(h8 e).2.1]
      split <;> decide
    rw [if_neg n3, decide_eq_false (by omega)]
  · have n3 : ¬ M.1 0 11 = 3 := by
      rw [(h9 e).2.1]
      split <;> decide
    rw [if_neg n3, decide_eq_false (by omega)]
  · obtain ⟨a1, a2, a3, a4⟩ := h7 e
    have hb2 := hb e
    rw [if_pos a3, a4]
    by_cases hbc : b st = c
    · rw [if_pos (by rw [hbc]), decide_eq_true ⟨e, hbc⟩]
    · rw [if_neg (fun z => hbc ((nI_eq (by omega) (by omega)).mp z)), decide_eq_false (fun z => hbc z.2)]
theorem m_ref (h : TK X M z b st en t gl) (hb : t = 3 → b st < 256) (n2 : ¬ M.1 0 11 = 2) (n1 : M.1 0 11 = 1 → M.1 0 13 = 0 ∨ f_X9_isName (nI kk) (M.1 0 13) M = some false) (m14 : M.1 0 14 = nI nd) (m15 : M.1 0 15 = nI nt) (hnd : nd ≤ 8) (hnt : nt ≤ 8) (h33 : t = 3 → b st = 33 → nt = 8) (h40 : t = 3 → b st = 40 → nd = 8) : fk_X9_part0 P (nI kk) M = some (false, M) := by
  have s33 : f_X9_isSign (33 : Int32) M = some (decide (t = 3 ∧ b st = 33)) := m_sign (c := 33) h hb (by omega)
  have s40 : f_X9_isSign (40 : Int32) M = some (decide (t = 3 ∧ b st = 40)) := m_sign (c := 40) h hb (by omega)
  have e8 : ∀ m : Nat, m = 8 → (8 : Int32) ≤ nI m := fun m hm => by rw [hm]; decide
  have d8 : ∀ m : Nat, m = 8 → nI m = (8 : Int32) := fun m hm => by rw [hm]; rfl
  have tail : (f_X9_isSign (33 : Int32) M).bind (fun x3 => um_let (fun (_u : Unit) => (f_X9_isSign (40 : Int32) M).bind fun x6 => if um_b x6 = 0 then some (false, M) else (if M.1 0 14 = (8 : Int32) then some (false, M) else (um_let (um_wr M 0 14 ((M.1 0 14) + (1 : Int32))) fun σ7 => ((f_X9_next σ7).bind fun σ10 => (um_b2 (f_X9_either P (nI kk) σ10) fun x13 σ12 => (if (um_b x13) = 0 then (some (false, σ12)) else ((f_X9_isSign (41 : Int32) σ12).bind fun x15 => (if (um_b x15) = 0 then (some (false, σ12)) else (um_let (um_wr σ12 0 14 ((σ12.1 0 14) - (1 : Int32))) fun σ16 => ((f_X9_next σ16).bind fun σ19 => (some (true, σ19)))))))))))) fun k4 => (if (um_b x3) = 0 then (k4 ()) else (if (8 : Int32) ≤ (M.1 0 15) then (k4 ()) else (um_let (um_wr M 0 15 ((M.1 0 15) + (1 : Int32))) fun σ20 => ((f_X9_next σ20).bind fun σ23 => (um_b2 (P (nI kk) σ23) fun x26 σ25 => (if (um_b x26) = 0 then (some (false, σ25)) else (um_let (um_wr σ25 0 15 ((σ25.1 0 15) - (1 : Int32))) fun σ27 => ((f_X9_step (2 : Int32) (33 : Int32) σ27).bind fun σ30 => (some (true, σ30))))))))))) = some (false, M) := by
    rw [s33, Option.bind_some, s40]
    unfold um_let
    try dsimp only
    rw [Option.bind_some]
    by_cases c40 : t = 3 ∧ b st = 40
    · rw [decide_eq_true c40, decide_eq_false (show ¬ (t = 3 ∧ b st = 33) by omega), m14, if_pos (d8 nd (h40 c40.1 c40.2))]
      rfl
    · rw [decide_eq_false c40]
      by_cases c33 : t = 3 ∧ b st = 33
      · rw [decide_eq_true c33, m15, if_pos (e8 nt (h33 c33.1 c33.2))]
        rfl
      · rw [decide_eq_false c33]
        rfl
  unfold fk_X9_part0
  rw [if_neg n2]
  refine Eq.trans ?_ tail
  by_cases h1 : M.1 0 11 = 1
  · by_cases h0 : M.1 0 13 = 0
    · exact (if_pos h1).trans (if_pos h0)
    · have hn := (n1 h1).resolve_left h0
      refine (if_pos h1).trans ((if_neg h0).trans ?_)
      rw [hn, Option.bind_some]
      exact if_pos rfl
  · exact if_neg h1
end REF
