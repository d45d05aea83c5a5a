/-! LEVEL 2: texts: what the relation rests on, with a text more or none -/
section RTO
variable {X X' M M' : um_S} {h n n' W c i q : Nat} {s s' : Nat → Int32}
theorem sc_to (hh : h = 1 ∨ h = 2) (hi : sr_i s W) (hc : sr_c X h s) (hx : ∀ k j, k < 300 → k ≠ 4 → k ≠ 9 → k ≠ 10 → (k ≠ 31 ∨ j ≠ 1) → X'.1 k j = X.1 k j) (hs : ∀ j, j < 780 → j ≠ 5 → s' j = s j) (h5 : X'.1 (20 * h + 11) 1 = s' 5) : sr_c X' h s' := by
  obtain ⟨⟨a1, a1b, a1c⟩, a2, a3, a4, a5, a6, a7, a8⟩ := hc
  have hh2 : 1 ≤ h ∧ h ≤ 2 := by omega
  have n2 : nn s' 2 = nn s 2 := nn_congr (hs 2 (by omega) (by omega))
  have n8 : nn s' 8 = nn s 8 := nn_congr (hs 8 (by omega) (by omega))
  have hm := (si_men hi).2
  have htl : ∀ t, tl s' t = tl s t := fun t => by
    unfold tl
    split
    · rename_i h7
      obtain ⟨b1, b2, b3⟩ := tk_lt t h7
      rw [nn_congr (hs (tk t) (by omega) b3)]
    · rfl
  refine ⟨⟨?_, ?_, ?_⟩, ?_, h5, ?_, ?_, ?_, ?_, ?_⟩
  · rw [hx _ _ (by omega) (by omega) (by omega) (by omega) (by omega), hs 0 (by omega) (by omega)]; exact a1
  · rw [hx _ _ (by omega) (by omega) (by omega) (by omega) (by omega), hs 9 (by omega) (by omega)]; exact a1b
  · rw [hx _ _ (by omega) (by omega) (by omega) (by omega) (by omega), hs 10 (by omega) (by omega)]; exact a1c
  · intro t ht
    obtain ⟨b1, b2, b3⟩ := tk_lt t ht
    rw [hx _ _ (by omega) (by omega) (by omega) (by omega) (by omega), hs _ (by omega) b3]; exact a2 t ht
  · intro t j ht h1 h7 hj
    rw [htl] at hj
    obtain ⟨b1, b2⟩ := tb_ge t ht h7
    have b3 := tl_le hi ht
    rw [hx _ _ (by omega) (by omega) (by omega) (by omega) (by omega), hs _ (by omega) (by omega)]; exact a4 t j ht h1 h7 hj
  · intro m c hmm hc hc8
    rw [n2] at hmm
    have := pc_lt hc
    rw [hx _ _ (by omega) (by omega) (by omega) (by omega) (by omega), hs _ (by omega) (by omega)]; exact a5 m c hmm hc hc8
  · intro p hp
    rw [hx _ _ (by omega) (by omega) (by omega) (by omega) (by omega), hx _ _ (by omega) (by omega) (by omega) (by omega) (by omega), hs _ (by omega) (by omega), hs _ (by omega) (by omega)]; exact a6 p hp
  · intro j hj hj2
    rw [n2] at hj
    rw [hx _ _ (by omega) (by omega) (by omega) (by omega) (by omega)]; exact a7 j hj hj2
  · intro j hj hj2
    rw [n8] at hj
    rw [hx _ _ (by omega) (by omega) (by omega) (by omega) (by omega)]; exact a8 j hj hj2
theorem si_to (hi : sr_i s W) (hs : ∀ j, j < 780 → j ≠ 5 → s' j = s j) (h5 : s' 5 = nI c) (hc : c ≤ 14) : sr_i s' W := by
  have hii := hi
  obtain ⟨⟨a1, a1b⟩, ⟨a2, a2b⟩, a3, a4, a5, a6, a7, a8, a9⟩ := hi
  have en : ∀ j, j < 780 → j ≠ 5 → nn s' j = nn s j := fun j h1 h2 => nn_congr (hs j h1 h2)
  have hm := (si_men hii).2
  have n5 : nn s' 5 = c := by
    unfold nn
    rw [h5]
    exact nI_clamp (by omega)
  refine ⟨⟨?_, ?_⟩, ⟨?_, ?_⟩, ?_, ⟨?_, ?_⟩, ?_, ?_, ?_, ?_, ?_⟩
  · rw [en 0 (by omega) (by omega), hs 0 (by omega) (by omega)]; exact a1
  · rw [en 0 (by omega) (by omega)]; exact a1b
  · rw [en 9 (by omega) (by omega), hs 9 (by omega) (by omega)]; exact a2
  · rw [en 9 (by omega) (by omega)]; exact a2b
  · intro t ht
    obtain ⟨b1, b2, b3⟩ := tk_lt t ht
    rw [en _ (by omega) b3, hs _ (by omega) b3]; exact a3 t ht
  · rw [n5]; exact h5
  · rw [n5]; exact hc
  · intro p hp
    rw [hs _ (by omega) (by omega)]; exact a5 p hp
  · intro t k ht hk
    obtain ⟨b1, b2, b3⟩ := tk_lt t ht
    rw [en _ (by omega) b3] at hk
    obtain ⟨d1, d2⟩ := tb_ge t (by omega) (by omega)
    refine rp_mono ht (fun c hc => ?_) (Nat.le_of_eq (en 2 (by omega) (by omega)).symm) (Nat.le_of_eq (en 3 (by omega) (by omega)).symm) (fun m hmm hl => ?_) (a6 t k ht hk)
    · have := row_lt hii ht hk hc
      rw [hs _ (by omega) (by omega)]
    · rw [hs _ (by omega) (by omega)]; exact hl
  · intro j hj
    rw [hs _ (by omega) (by omega)]; exact a7 j hj
  · intro k hk
    rw [hs _ (by omega) (by omega)]; exact a8 k hk
  · intro j hj
    rw [hs _ (by omega) (by omega)]; exact a9 j hj
theorem tx_to (hq : 300 ≤ q) (hq2 : q < 300 + 3 * n) (hq3 : q % 3 = 0) (ha : ∀ k j, 300 ≤ k → k < 300 + 3 * n → X'.1 k j = X.1 k j) (h2 : ∀ k, 300 ≤ k → k < 300 + 3 * n → X'.2.2 k = X.2.2 k) (hs : ∀ j, j < 200 → s' (780 + 200 * i + j) = s (780 + 200 * i + j)) (h : tx_ok X q s i) : tx_ok X' q s' i := by
  obtain ⟨k, L, P, b1, b2, b3, ⟨w, c1, c2, c3⟩, b5, b6, b7, b8, b9, b10, b11, b12⟩ := h
  have e1 : X'.1 (q + 1) = X.1 (q + 1) := funext fun j => ha _ j (by omega) (by omega)
  refine ⟨k, L, P, b1, ?_, ?_, ⟨w, c1, ?_, ?_⟩, ?_, ?_, ?_, b8, ?_, b10, fun j hj => ?_, ?_⟩
  · rw [ha _ _ hq (by omega)]; exact b2
  · exact (hs 0 (by omega)).trans b3
  · rw [ha _ _ hq (by omega)]; exact c2
  · rw [hs _ (by omega)]; exact c3
  · rw [ha _ _ hq (by omega), hs _ (by omega)]; exact b5
  · rw [h2 _ (by omega) (by omega)]; exact b6
  · rw [hs _ (by omega)]; exact b7
  · rw [h2 _ (by omega) (by omega)]; exact b9
  · have := b11 j hj
    rw [e1, show 780 + 200 * i + 4 + 2 * j = 780 + 200 * i + (4 + 2 * j) by omega, show 780 + 200 * i + (4 + 2 * j) + 1 = 780 + 200 * i + (4 + 2 * j + 1) by omega, hs _ (by omega), hs _ (by omega)]
    rw [show 780 + 200 * i + 4 + 2 * j = 780 + 200 * i + (4 + 2 * j) by omega, show 780 + 200 * i + (4 + 2 * j) + 1 = 780 + 200 * i + (4 + 2 * j + 1) by omega] at this
    exact this
  · rw [e1]; exact b12
theorem RR_to (hn : n ≤ n') (hR : RR n X M) (hi : nn (M.1 1) 5 = i) (hx1 : ∀ k j, k < 300 + 3 * n → k ≠ 4 → k ≠ 9 → k ≠ 10 → (k ≠ 31 ∨ j ≠ 1) → X'.1 k j = X.1 k j) (hx2 : ∀ k j, k ≠ 131 ∨ j < i → X'.2.1 k j = X.2.1 k j) (hx3 : ∀ k, k < 300 + 3 * n → X'.2.2 k = X.2.2 k) (hm1 : ∀ j, j < 780 + 200 * i → j ≠ 5 → M'.1 1 j = M.1 1 j) (hm0 : ∀ k j, (k ≠ 0 ∨ j < 8 ∨ 18 < j) → k ≠ 1 → M'.1 k j = M.1 k j) (h41 : X'.1 4 1 = 0) (h08 : M'.1 0 8 = 0) (h5 : X'.1 31 1 = nI c) (hc5 : M'.1 1 5 = nI c) (hc : c ≤ 14) (hci : c ≤ i + 1) (hnew : i < c → ∃ q, X'.2.1 131 i = some q ∧ 300 ≤ q ∧ q < 300 + 3 * n' ∧ q % 3 = 0 ∧ tx_ok X' q (M'.1 1) i) : RR n' X' M' := by
  obtain ⟨⟨r1, r2, r3⟩, ⟨a1, a2⟩, a3, a4, ⟨z, b1, b2, b3, b4⟩, _⟩ := hR
  have hX : ∀ k j, k < 300 → k ≠ 4 → k ≠ 9 → k ≠ 10 → (k ≠ 31 ∨ j ≠ 1) → X'.1 k j = X.1 k j := fun k j h0 => hx1 k j (by omega)
  have n5 : nn (M'.1 1) 5 = c := by
    unfold nn
    rw [hc5]
    exact nI_clamp (by omega)
  have e2 : M'.1 2 = M.1 2 := funext fun j => hm0 2 j (by omega) (by omega)
  have hT : ∀ q, 300 ≤ q → q < 300 + 3 * n → q % 3 = 0 → ∀ (s s' : Nat → Int32) (i : Nat), (∀ j, j < 200 → s' (780 + 200 * i + j) = s (780 + 200 * i + j)) → tx_ok X q s i → tx_ok X' q s' i := fun q q1 q2 q3 s s' i hs => tx_to q1 q2 q3 (fun k j k1 k2 => hx1 k j k2 (by omega) (by omega) (by omega) (by omega)) (fun k k1 k2 => hx3 k k2) hs
  refine ⟨⟨sc_to (Or.inl rfl) r2 r1 hX (fun j h1 h2 => hm1 j (by omega) h2) (by rw [hc5]; exact h5), si_to r2 (fun j h1 h2 => hm1 j (by omega) h2) hc5 hc, fun j hj => ?_⟩, ⟨?_, ?_⟩, ?_, ?_, ⟨z, b1, ?_, ?_, ?_⟩, ⟨0, by omega, h41, h08, fun j hj => by omega⟩⟩
  · rw [n5] at hj
    by_cases hji : j < i
    · obtain ⟨q, q1, q2, q3, q4, q5⟩ := r3 j (by omega)
      refine ⟨q, by rw [hx2 _ _ (Or.inr hji)]; exact q1, q2, by omega, q4, hT q q2 q3 q4 _ _ j (fun j2 hj2 => hm1 _ (by omega) (by omega)) q5⟩
    · have : j = i := by omega
      subst this
      exact hnew hj
  · rw [hX _ _ (by omega) (by omega) (by omega) (by omega) (by omega), hm0 _ _ (by omega) (by omega)]; exact a1
  · rw [hm0 _ _ (by omega) (by omega), e2]
    intro h0
    obtain ⟨s1, s2, s3⟩ := a2 h0
    refine ⟨sc_to (Or.inr rfl) s2 s1 hX (fun _ _ _ => rfl) ?_, s2, fun j hj => ?_⟩
    · rw [hX _ _ (by omega) (by omega) (by omega) (by omega) (by omega)]; exact s1.2.2.1
    · obtain ⟨q, q1, q2, q3, q4, q5⟩ := s3 j hj
      exact ⟨q, by rw [hx2 _ _ (Or.inl (by omega))]; exact q1, q2, by omega, q4, hT q q2 q3 q4 _ _ j (fun _ _ => rfl) q5⟩
  · intro k hk
    rw [hX _ _ (by omega) (by omega) (by omega) (by omega) (by omega), hX _ _ (by omega) (by omega) (by omega) (by omega) (by omega), hm0 _ _ (by omega) (by omega), hm0 _ _ (by omega) (by omega)]
    exact a3 k hk
  · intro j hj
    rw [hX _ _ (by omega) (by omega) (by omega) (by omega) (by omega), hm0 _ _ (by omega) (by omega)]
    exact a4 j hj
  · rw [hX _ _ (by omega) (by omega) (by omega) (by omega) (by omega)]; exact b2
  · rw [hm0 _ _ (by omega) (by omega)]; exact b3
  · intro j hj
    rw [hX _ _ (by omega) (by omega) (by omega) (by omega) (by omega), hm0 _ _ (by omega) (by omega)]
    exact b4 j hj
end RTO
