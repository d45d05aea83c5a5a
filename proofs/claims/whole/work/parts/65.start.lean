/-! LEVEL 2: the start -/
theorem um_m0_0 {k j : Nat} (h : k ≠ 4) : um_m0.1 k j = 0 := by
  unfold um_m0
  rw [um_wr_nk h, um_wr_nk h, um_wr_nk h, um_wr_nk h]
  rfl
theorem um_x0_0 {k j : Nat} (h : k ≠ 13) : um_x0.1 k j = 0 := by
  unfold um_x0
  rw [um_wr_nk h, um_wr_nk h, um_wr_nk h, um_wr_nk h]
  rfl
theorem nn_0 {s : Nat → Int32} (h : ∀ j, s j = 0) (i : Nat) : nn s i = 0 := by
  unfold nn
  rw [h i]
  rfl
theorem um_m0_4 {k : Nat} (h : k < 4) : um_m0.1 4 k = -1 := by
  unfold um_m0
  rcases (show k = 0 ∨ k = 1 ∨ k = 2 ∨ k = 3 by omega) with e | e | e | e <;> subst e <;> rfl
theorem um_x0_13 {k : Nat} (h : k < 4) : um_x0.1 13 k = -1 := by
  unfold um_x0
  rcases (show k = 0 ∨ k = 1 ∨ k = 2 ∨ k = 3 by omega) with e | e | e | e <;> subst e <;> rfl
theorem RR_start : RR 0 um_x0 um_m0 := by
  have hs : ∀ j, um_m0.1 1 j = 0 := fun j => um_m0_0 (by omega)
  have hn := nn_0 hs
  have n0 : (0 : Int32) = nI 0 := rfl
  refine ⟨⟨⟨?_, ?_, ?_, ?_, ?_, ?_, ?_, ?_⟩, ⟨?_, ?_, ?_, ?_, ?_, ?_, ?_, ?_, ?_⟩, ?_⟩, ⟨?_, ?_⟩, ?_, ?_, ⟨0, by omega, ?_, ?_, ?_⟩, ⟨0, by omega, ?_, ?_, ?_⟩⟩
  · rw [um_x0_0 (by omega), um_x0_0 (by omega), um_x0_0 (by omega), hs, hs, hs]
    exact ⟨rfl, rfl, rfl⟩
  · intro t ht
    rw [um_x0_0 (by omega), hs]
  · rw [um_x0_0 (by omega), hs]
  · intro t j ht h1 h7 hj
    rw [um_x0_0 (by omega), hs]
  · intro m c hm
    rw [hn] at hm
    omega
  · intro p hp
    rw [um_x0_0 (by omega), um_x0_0 (by omega), hs, hs]
    exact ⟨rfl, rfl⟩
  · intro j h1 h2
    rw [um_x0_0 (by omega)]
  · intro j h1 h2
    rw [um_x0_0 (by omega)]
  · rw [hn, hs]
    exact ⟨rfl, by omega⟩
  · rw [hn, hs]
    exact ⟨rfl, by omega⟩
  · intro t ht
    rw [hn, hs]
    exact ⟨rfl, by rw [Nat.mul_zero]; omega⟩
  · rw [hn, hs]
    exact ⟨rfl, by omega⟩
  · intro p hp
    rw [hs]
    exact ⟨0, by omega, rfl⟩
  · intro t k ht hk
    rw [hn] at hk
    omega
  · intro j hj
    rw [hs]
    exact ⟨0, by omega, rfl⟩
  · intro j hj
    rw [hs]
    exact ⟨0, by omega, rfl⟩
  · intro j hj
    rw [hs]
    exact ⟨0, by omega, rfl⟩
  · intro i hi
    rw [hn] at hi
    omega
  · rw [um_x0_0 (by omega), um_m0_0 (by omega)]
  · intro h
    rw [um_m0_0 (by omega)] at h
    exact absurd rfl h
  · intro k hk
    rw [um_x0_13 hk, um_m0_4 hk, um_x0_0 (by omega), um_m0_0 (by omega)]
    exact ⟨rfl, Or.inl rfl, 0, by omega, rfl, rfl⟩
  · intro j hj
    rw [um_x0_0 (by omega), um_m0_0 (by omega)]
  · rw [um_x0_0 (by omega)]; rfl
  · rw [um_m0_0 (by omega)]; rfl
  · intro j hj
    omega
  · rw [um_x0_0 (by omega)]; rfl
  · rw [um_m0_0 (by omega)]; rfl
  · intro j hj
    omega
