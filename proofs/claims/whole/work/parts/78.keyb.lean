/-! LEVEL 2: texts: the key, alike -/
section KEB
variable {X M : um_S} {z st en t k j : Nat} {b : Nat → Nat} {gl : Bool}
theorem wd_0 : wd b st en 0 = (decide (en - st = if (116 : Nat) = 0 then 5 else 6) && (decide (b (st + 0) = 116) && (decide (b (st + 1) = 105) && (decide (b (st + 2) = 99) && (decide (b (st + 3) = 107) && (decide (b (st + 4) = 101) && (decide ((116 : Nat) = 0) || decide (b (st + 5) = 116)))))))) := by
  rw [show (decide ((116 : Nat) = 0) || decide (b (st + 5) = 116)) = (decide (b (st + 5) = 116) && true) by rw [Bool.and_true]; rfl]
  rfl
theorem wd_1 : wd b st en 1 = (decide (en - st = if (110 : Nat) = 0 then 5 else 6) && (decide (b (st + 0) = 112) && (decide (b (st + 1) = 97) && (decide (b (st + 2) = 114) && (decide (b (st + 3) = 100) && (decide (b (st + 4) = 111) && (decide ((110 : Nat) = 0) || decide (b (st + 5) = 110)))))))) := by
  rw [show (decide ((110 : Nat) = 0) || decide (b (st + 5) = 110)) = (decide (b (st + 5) = 110) && true) by rw [Bool.and_true]; rfl]
  rfl
theorem wd_2 : wd b st en 2 = (decide (en - st = if (0 : Nat) = 0 then 5 else 6) && (decide (b (st + 0) = 105) && (decide (b (st + 1) = 114) && (decide (b (st + 2) = 111) && (decide (b (st + 3) = 110) && (decide (b (st + 4) = 115) && (decide ((0 : Nat) = 0) || decide (b (st + 5) = 0)))))))) := rfl
theorem wd_3 : wd b st en 3 = (decide (en - st = 4) && (decide (b (st + 0) = 102) && (decide (b (st + 1) = 101) && (decide (b (st + 2) = 97) && (decide (b (st + 3) = 114) && true))))) := rfl
theorem wd_4 : wd b st en 4 = (decide (en - st = 4) && (decide (b (st + 0) = 115) && (decide (b (st + 1) = 116) && (decide (b (st + 2) = 111) && (decide (b (st + 3) = 112) && true))))) := rfl
theorem wd_at (h : wd b st en k = true) : en - st = (wl k).length ∧ ∀ i, i < (wl k).length → b (st + i) = (wl k).getD i 0 := by
  unfold wd at h
  rw [Bool.and_eq_true] at h
  exact ⟨of_decide_eq_true h.1, fun i hi => of_decide_eq_true (List.all_eq_true.mp h.2 i (List.mem_range.mpr hi))⟩
theorem m_key (ht : tp X M z b) (h : TK X M z b st en t false) : f_X9_key M = some (if wd b st en 0 = true then 0 else if wd b st en 1 = true then 1 else if wd b st en 3 = true then 3 else if wd b st en 4 = true then 4 else if wd b st en 2 = true then 2 else -1) := by
  have w0 : f_X9_isLong (116 : Int32) (105 : Int32) (99 : Int32) (107 : Int32) (101 : Int32) (116 : Int32) M = some (wd b st en 0) := by
    rw [wd_0]
    exact m_long (c0 := 116) (c1 := 105) (c2 := 99) (c3 := 107) (c4 := 101) (c5 := 116) ht h (by omega) (by omega) (by omega) (by omega) (by omega) (by omega)
  have w1 : f_X9_isLong (112 : Int32) (97 : Int32) (114 : Int32) (100 : Int32) (111 : Int32) (110 : Int32) M = some (wd b st en 1) := by
    rw [wd_1]
    exact m_long (c0 := 112) (c1 := 97) (c2 := 114) (c3 := 100) (c4 := 111) (c5 := 110) ht h (by omega) (by omega) (by omega) (by omega) (by omega) (by omega)
  have w2 : f_X9_isLong (105 : Int32) (114 : Int32) (111 : Int32) (110 : Int32) (115 : Int32) (0 : Int32) M = some (wd b st en 2) := by
    rw [wd_2]
    exact m_long (c0 := 105) (c1 := 114) (c2 := 111) (c3 := 110) (c4 := 115) (c5 := 0) ht h (by omega) (by omega) (by omega) (by omega) (by omega) (by omega)
  have w3 : f_X9_isWordAt (102 : Int32) (101 : Int32) (97 : Int32) (114 : Int32) M = some (wd b st en 3) := by
    rw [wd_3]
    exact m_word (c0 := 102) (c1 := 101) (c2 := 97) (c3 := 114) ht h (by omega) (by omega) (by omega) (by omega)
  have w4 : f_X9_isWordAt (115 : Int32) (116 : Int32) (111 : Int32) (112 : Int32) M = some (wd b st en 4) := by
    rw [wd_4]
    exact m_word (c0 := 115) (c1 := 116) (c2 := 111) (c3 := 112) ht h (by omega) (by omega) (by omega) (by omega)
  unfold f_X9_key um_let
  try dsimp only
  rw [w0, w1, w2, w3, w4]
  simp only [Option.bind_some]
  cases wd b st en 0 <;> cases wd b st en 1 <;> cases wd b st en 3 <;> cases wd b st en 4 <;> cases wd b st en 2 <;> rfl
theorem key_ (ht : tp X M z b) (h : TK X M z b st en t false) : ∃ x : Int32, f_X6_keyHere X = some x ∧ f_X9_key M = some x ∧ (x = -1 ∨ ∃ k : Nat, k ≤ 4 ∧ x = nI k ∧ t = 1 ∧ 4 ≤ en - st) := by
  have hk := m_key ht h
  obtain ⟨g1, g2, g3, ⟨g4, g4b, _⟩, _⟩ := h
  have hx := x_keyHere ht g4 g4b g1 g2
  have t1 : ∀ k, k < 5 → wd b st en k = true → t = 1 ∧ 4 ≤ en - st := by
    intro k hk hw
    obtain ⟨a1, a2⟩ := wd_at hw
    have hl := wl_len hk
    have h0 := a2 0 (by omega)
    have hc : ∀ k, k < 5 → 97 ≤ (wl k).getD 0 0 ∧ (wl k).getD 0 0 ≤ 122 := by decide
    have hc2 := hc k hk
    rw [Nat.add_zero] at h0
    refine ⟨?_, by omega⟩
    rw [g3]
    exact so_1.mpr ⟨by omega, by omega, by omega⟩
  by_cases w0 : wd b st en 0 = true
  · rw [if_pos w0] at hx hk
    exact ⟨_, hx, hk, Or.inr ⟨0, by omega, rfl, t1 0 (by omega) w0⟩⟩
  · rw [if_neg w0] at hx hk
    by_cases w1 : wd b st en 1 = true
    · rw [if_pos w1] at hx hk
      exact ⟨_, hx, hk, Or.inr ⟨1, by omega, rfl, t1 1 (by omega) w1⟩⟩
    · rw [if_neg w1] at hx hk
      by_cases w2 : wd b st en 2 = true
      · have a2 := (wd_at w2).1
        have n3 : ¬ wd b st en 3 = true := fun z => by
          have := (wd_at z).1
          rw [this] at a2
          exact absurd a2 (by decide)
        have n4 : ¬ wd b st en 4 = true := fun z => by
          have := (wd_at z).1
          rw [this] at a2
          exact absurd a2 (by decide)
        rw [if_pos w2] at hx
        rw [if_neg n3, if_neg n4, if_pos w2] at hk
        exact ⟨_, hx, hk, Or.inr ⟨2, by omega, rfl, t1 2 (by omega) w2⟩⟩
      · rw [if_neg w2] at hx
        by_cases w3 : wd b st en 3 = true
        · rw [if_pos w3] at hx hk
          exact ⟨_, hx, hk, Or.inr ⟨3, by omega, rfl, t1 3 (by omega) w3⟩⟩
        · rw [if_neg w3] at hx hk
          by_cases w4 : wd b st en 4 = true
          · rw [if_pos w4] at hx hk
            exact ⟨_, hx, hk, Or.inr ⟨4, by omega, rfl, t1 4 (by omega) w4⟩⟩
          · rw [if_neg w4] at hx hk
            rw [if_neg w2] at hk
            exact ⟨_, hx, hk, Or.inl rfl⟩
end KEB
