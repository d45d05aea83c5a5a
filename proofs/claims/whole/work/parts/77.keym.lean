/-! LEVEL 2: texts: the key, in the model -/
section KEM
variable {X M : um_S} {z st en t k j : Nat} {b : Nat → Nat} {gl : Bool}
theorem tk_1 (h : TK X M z b st en t false) : M.1 0 11 = 1 ↔ t = 1 := by
  obtain ⟨h1, h2, h3, h4, h5, h6, h7, h8, h9⟩ := h
  have hl := so_le (z := z) (b := b) (p := st)
  rcases (show t = 0 ∨ t = 1 ∨ t = 2 ∨ t = 3 by omega) with e | e | e | e
  · rw [h6 e, e]; decide
  · rw [(h8 e).2.1, e]; decide
  · rw [(h9 e).2.1, e]
    by_cases z : (false = true ∨ 4 < en - st)
    · rw [if_pos z]; decide
    · rw [if_neg z]; decide
  · rw [(h7 e).2.2.1, e]; decide
theorem if_d {c : Prop} {i : Decidable c} {o : Option Bool} {r : Bool} (h : c → o = some r) : (@ite (Option Bool) c i o (some false)) = some (decide c && r) := by
  by_cases z : c
  · rw [if_pos z, h z, decide_eq_true z, Bool.true_and]
  · rw [if_neg z, decide_eq_false z, Bool.false_and]
theorem de_ {c d : Prop} {i : Decidable c} {j : Decidable d} (h : c ↔ d) : @decide c i = @decide d j := by
  by_cases z : c
  · rw [decide_eq_true z, decide_eq_true (h.mp z)]
  · rw [decide_eq_false z, decide_eq_false (fun w => z (h.mpr w))]
theorem b_at (ht : tp X M z b) {p c : Nat} (hp : p < z) (hc : c < 256) : (um_ix (nI p) 96 = true) ∧ (nI p).toNatClampNeg = p ∧ (M.1 7 p = nI c ↔ b p = c) := by
  have hz := ht.2.2.1
  have hb := ht.2.2.2 p hp
  refine ⟨um_ix_nI (by omega) (by omega), nI_clamp (by omega), ?_⟩
  rw [hb.2.1]
  exact nI_eq (by omega) (by omega)
theorem m_word {c0 c1 c2 c3 : Nat} (ht : tp X M z b) (h : TK X M z b st en t false) (h0 : 97 ≤ c0 ∧ c0 ≤ 122) (h1 : c1 < 256) (h2 : c2 < 256) (h3 : c3 < 256) : f_X9_isWordAt (nI c0) (nI c1) (nI c2) (nI c3) M = some (decide (en - st = 4) && (decide (b (st + 0) = c0) && (decide (b (st + 1) = c1) && (decide (b (st + 2) = c2) && (decide (b (st + 3) = c3) && true))))) := by
  have hz := ht.2.2.1
  have e1 := tk_1 h
  obtain ⟨g1, g2, g3, g4, ⟨g5, g6⟩, _⟩ := h
  unfold f_X9_isWordAt
  rw [g5, g6, nI_sub g1, la_1, la_2, la_3]
  have e4 : nI (en - st) = 4 ↔ en - st = 4 := nI_eq (b := 4) (by omega) (by omega)
  have body : en - st = 4 → (if um_ix (nI st) 96 then (if (M.1 7 (nI st).toNatClampNeg) = nI c0 then (if um_ix (nI (st + 1)) 96 then (if (M.1 7 (nI (st + 1)).toNatClampNeg) = nI c1 then (if um_ix (nI (st + 2)) 96 then (if (M.1 7 (nI (st + 2)).toNatClampNeg) = nI c2 then (if um_ix (nI (st + 3)) 96 then (if (M.1 7 (nI (st + 3)).toNatClampNeg) = nI c3 then (some true) else (some false)) else none) else (some false)) else none) else (some false)) else none) else (some false)) else none) = some (decide (b (st + 0) = c0) && (decide (b (st + 1) = c1) && (decide (b (st + 2) = c2) && (decide (b (st + 3) = c3) && true)))) := by
    intro hl
    obtain ⟨p1, p2, p3⟩ := b_at ht (p := st) (c := c0) (by omega) (by omega)
    obtain ⟨q1, q2, q3⟩ := b_at ht (p := st + 1) (c := c1) (by omega) h1
    obtain ⟨r1, r2, r3⟩ := b_at ht (p := st + 2) (c := c2) (by omega) h2
    obtain ⟨s1, s2, s3⟩ := b_at ht (p := st + 3) (c := c3) (by omega) h3
    rw [if_pos p1, if_pos q1, if_pos r1, if_pos s1, p2, q2, r2, s2]
    rw [if_d (fun _ => if_d (fun _ => if_d (fun _ => if_d (fun _ => rfl)))), de_ p3, de_ q3, de_ r3, de_ s3]
    rfl
  by_cases ht1 : t = 1
  · rw [if_pos (e1.mpr ht1), if_d (fun hl => body (e4.mp hl)), de_ e4]
  · rw [if_neg (fun z => ht1 (e1.mp z))]
    by_cases hl : en - st = 4
    · have hn : ¬ b (st + 0) = c0 := fun hb => ht1 (by
        rw [g3]
        exact so_1.mpr ⟨by omega, by rw [Nat.add_zero] at hb; omega⟩)
      rw [decide_eq_false hn, Bool.false_and, Bool.and_false]
    · rw [decide_eq_false hl, Bool.false_and]
theorem m_long {c0 c1 c2 c3 c4 c5 : Nat} (ht : tp X M z b) (h : TK X M z b st en t false) (h0 : 97 ≤ c0 ∧ c0 ≤ 122) (h1 : c1 < 256) (h2 : c2 < 256) (h3 : c3 < 256) (h4 : c4 < 256) (h5 : c5 < 256) : f_X9_isLong (nI c0) (nI c1) (nI c2) (nI c3) (nI c4) (nI c5) M = some (decide (en - st = if c5 = 0 then 5 else 6) && (decide (b (st + 0) = c0) && (decide (b (st + 1) = c1) && (decide (b (st + 2) = c2) && (decide (b (st + 3) = c3) && (decide (b (st + 4) = c4) && (decide (c5 = 0) || decide (b (st + 5) = c5)))))))) := by
  have hz := ht.2.2.1
  have e1 := tk_1 h
  obtain ⟨g1, g2, g3, g4, ⟨g5, g6⟩, _⟩ := h
  have e0 : nI c5 = 0 ↔ c5 = 0 := nI_eq (b := 0) (by omega) (by omega)
  unfold f_X9_isLong um_let
  try dsimp only
  rw [g5, g6, nI_sub g1, la_1, la_2, la_3, la_4, la_5]
  have body : en - st = (if c5 = 0 then 5 else 6) → (if um_ix (nI st) 96 then (if (M.1 7 (nI st).toNatClampNeg) = nI c0 then (if um_ix (nI (st + 1)) 96 then (if (M.1 7 (nI (st + 1)).toNatClampNeg) = nI c1 then (if um_ix (nI (st + 2)) 96 then (if (M.1 7 (nI (st + 2)).toNatClampNeg) = nI c2 then (if um_ix (nI (st + 3)) 96 then (if (M.1 7 (nI (st + 3)).toNatClampNeg) = nI c3 then (if um_ix (nI (st + 4)) 96 then (if (M.1 7 (nI (st + 4)).toNatClampNeg) = nI c4 then (if nI c5 = 0 then (some true) else (if um_ix (nI (st + 5)) 96 then (if (M.1 7 (nI (st + 5)).toNatClampNeg) = nI c5 then (some true) else (some false)) else none)) else (some false)) else none) else (some false)) else none) else (some false)) else none) else (some false)) else none) else (some false)) else none) = some (decide (b (st + 0) = c0) && (decide (b (st + 1) = c1) && (decide (b (st + 2) = c2) && (decide (b (st + 3) = c3) && (decide (b (st + 4) = c4) && (decide (c5 = 0) || decide (b (st + 5) = c5))))))) := by
    intro hl
    have hl5 : 5 ≤ en - st := by rw [hl]; split <;> omega
    obtain ⟨p1, p2, p3⟩ := b_at ht (p := st) (c := c0) (by omega) (by omega)
    obtain ⟨q1, q2, q3⟩ := b_at ht (p := st + 1) (c := c1) (by omega) h1
    obtain ⟨r1, r2, r3⟩ := b_at ht (p := st + 2) (c := c2) (by omega) h2
    obtain ⟨s1, s2, s3⟩ := b_at ht (p := st + 3) (c := c3) (by omega) h3
    obtain ⟨t1, t2, t3⟩ := b_at ht (p := st + 4) (c := c4) (by omega) h4
    have last : (if nI c5 = 0 then (some true) else (if um_ix (nI (st + 5)) 96 then (if (M.1 7 (nI (st + 5)).toNatClampNeg) = nI c5 then (some true) else (some false)) else none)) = some (decide (c5 = 0) || decide (b (st + 5) = c5)) := by
      by_cases hc : c5 = 0
      · rw [if_pos (e0.mpr hc), decide_eq_true hc, Bool.true_or]
      · rw [if_neg hc] at hl
        obtain ⟨u1, u2, u3⟩ := b_at ht (p := st + 5) (c := c5) (by omega) h5
        rw [if_neg (fun z => hc (e0.mp z)), if_pos u1, u2, if_d (fun _ => rfl), de_ u3, decide_eq_false hc, Bool.false_or, Bool.and_true]
    rw [last, if_pos p1, if_pos q1, if_pos r1, if_pos s1, if_pos t1, p2, q2, r2, s2, t2]
    rw [if_d (fun _ => if_d (fun _ => if_d (fun _ => if_d (fun _ => if_d (fun _ => rfl))))), de_ p3, de_ q3, de_ r3, de_ s3, de_ t3]
    rfl
  have neg : ¬ t = 1 → (decide (en - st = if c5 = 0 then 5 else 6) && (decide (b (st + 0) = c0) && (decide (b (st + 1) = c1) && (decide (b (st + 2) = c2) && (decide (b (st + 3) = c3) && (decide (b (st + 4) = c4) && (decide (c5 = 0) || decide (b (st + 5) = c5)))))))) = false := by
    intro ht1
    by_cases hl : en - st = if c5 = 0 then 5 else 6
    · have hl5 : 5 ≤ en - st := by rw [hl]; split <;> omega
      have hn : ¬ b (st + 0) = c0 := fun hb => ht1 (by
        rw [g3]
        exact so_1.mpr ⟨by omega, by rw [Nat.add_zero] at hb; omega⟩)
      rw [decide_eq_false hn, Bool.false_and, Bool.and_false]
    · rw [decide_eq_false hl, Bool.false_and]
  by_cases hc : c5 = 0
  · have e5 : nI (en - st) = 5 ↔ en - st = if c5 = 0 then 5 else 6 := by
      rw [if_pos hc]
      exact nI_eq (b := 5) (by omega) (by omega)
    by_cases ht1 : t = 1
    · rw [if_pos (e0.mpr hc), if_pos (e1.mpr ht1), if_d (fun hl => body (e5.mp hl)), de_ e5]
    · rw [neg ht1, if_pos (e0.mpr hc), if_neg (fun z => ht1 (e1.mp z))]
  · have e6 : nI (en - st) = 6 ↔ en - st = if c5 = 0 then 5 else 6 := by
      rw [if_neg hc]
      exact nI_eq (b := 6) (by omega) (by omega)
    have hc0 : ¬ nI c5 = 0 := fun z => hc (e0.mp z)
    by_cases ht1 : t = 1
    · refine (if_neg hc0).trans ?_
      rw [if_pos (e1.mpr ht1), if_d (fun hl => body (e6.mp hl)), de_ e6]
    · refine (if_neg hc0).trans ?_
      rw [neg ht1, if_neg (fun z => ht1 (e1.mp z))]
end KEM
