/-! LEVEL 2: the texts; the whole relation; what is left alone -/
/-- the names of a key -/
def nmL (k : Nat) : List Nat := ([[119, 109, 116], [119, 109, 116], [111, 109], [107, 109, 112], [101, 100]] : List (List Nat)).getD k []
/-- signs with two parts -/
def sgL : List Nat := [38, 42, 43, 45, 47, 60, 61, 62, 124]
/-- a step of the class and a step of the reference -/
def tx_st (k : Nat) (x w v : Int32) : Prop :=
  (∃ n : Nat, n < 2 ^ 20 ∧ x = nI n ∧ w = 0 ∧ v = nI n) ∨ (∃ j c : Nat, (nmL k)[j]? = some c ∧ x = -1 - nI j ∧ w = 1 ∧ v = nI c) ∨ (x = -33 ∧ w = 2 ∧ v = 33) ∨ ∃ c : Nat, c ∈ sgL ∧ x = -(nI c) ∧ w = 2 ∧ v = nI c
/-- how high the pile stands behind so many steps -/
def hgt (x : Nat → Int32) : Nat → Nat
  | 0 => 0
  | j + 1 => if x j < -3 then (if x j = -33 then hgt x j else hgt x j - 1) else hgt x j + 1
def tx_wf (x : Nat → Int32) (L P : Nat) : Prop := (∀ j, j < L → (x j = -33 → 1 ≤ hgt x j) ∧ (x j < -3 → x j ≠ -33 → 2 ≤ hgt x j)) ∧ (∀ j, j ≤ L → hgt x j ≤ P) ∧ 1 ≤ hgt x L
def tx_ok (X : um_S) (q : Nat) (s : Nat → Int32) (i : Nat) : Prop :=
  ∃ k L P : Nat, k ≤ 4 ∧ X.1 q 0 = nI k ∧ s (780 + 200 * i) = nI k ∧ (∃ w : Nat, w ≤ 1999 ∧ X.1 q 1 = nI w ∧ s (780 + 200 * i + 1) = nI w) ∧ X.1 q 2 = s (780 + 200 * i + 2) ∧
  X.2.2 (q + 1) = L ∧ s (780 + 200 * i + 3) = nI L ∧ L ≤ 96 ∧ X.2.2 (q + 2) = P ∧ P ≤ 96 ∧ (∀ j, j < L → tx_st k (X.1 (q + 1) j) (s (780 + 200 * i + 4 + 2 * j)) (s (780 + 200 * i + 4 + 2 * j + 1))) ∧ tx_wf (X.1 (q + 1)) L P
def sr_t (X : um_S) (h : Nat) (s : Nat → Int32) (n : Nat) : Prop := ∀ i, i < nn s 5 → ∃ q : Nat, X.2.1 (20 * h + 111) i = some q ∧ 300 ≤ q ∧ q < 300 + 3 * n ∧ q % 3 = 0 ∧ tx_ok X q s i
def sr (X : um_S) (h : Nat) (s : Nat → Int32) (W n : Nat) : Prop := sr_c X h s ∧ sr_i s W ∧ sr_t X h s n
def rr (n : Nat) (X M : um_S) : Prop :=
  (X.1 0 3 = M.1 0 3 ∧ (M.1 0 3 ≠ 0 → sr X 2 (M.1 2) 1999 n)) ∧
  (∀ k, k < 4 → X.1 13 k = M.1 4 k ∧ (M.1 4 k = -1 ∨ M.1 4 k = 0 ∨ M.1 4 k = 1) ∧ ∃ z : Nat, z ≤ 24 ∧ X.1 114 k = nI z ∧ M.1 5 k = nI z) ∧ (∀ j, j < 96 → X.1 115 j = M.1 6 j) ∧
  (∃ z : Nat, z ≤ 60 ∧ X.1 0 8 = nI z ∧ M.1 0 27 = nI z ∧ ∀ j, j < z → X.1 7 j = M.1 15 j) ∧
  (∃ z : Nat, z ≤ 96 ∧ X.1 4 1 = nI z ∧ M.1 0 8 = nI z ∧ ∀ j, j < z → X.1 8 j &&& 255 = M.1 7 j ∧ ∃ b : Nat, b ≤ 255 ∧ M.1 7 j = nI b)
def RR (n : Nat) (X M : um_S) : Prop := sr X 1 (M.1 1) 1999 n ∧ rr n X M
/-- what a shore rests on is as it was -/
def xa (h : Nat) (X X' : um_S) : Prop := (∀ k j, k = h ∨ (20 * h ≤ k ∧ k < 20 * h + 20) ∨ (20 * h + 100 ≤ k ∧ k < 20 * h + 120) ∨ (300 ≤ k ∧ k % 3 ≠ 2) → X'.1 k j = X.1 k j) ∧ X'.2 = X.2
/-- nothing but a shore, and piles, has changed -/
def xf (h : Nat) (X X' : um_S) : Prop := (∀ k j, k ≠ h → ¬ (20 * h ≤ k ∧ k < 20 * h + 20) → ¬ (20 * h + 100 ≤ k ∧ k < 20 * h + 120) → ¬ (300 ≤ k ∧ k % 3 = 2) → X'.1 k j = X.1 k j) ∧ X'.2 = X.2
/-- nothing but the row, the names and the pile has changed -/
def mf (M M' : um_S) : Prop := ∀ k j, k ≠ 1 → k ≠ 8 → k ≠ 9 → M'.1 k j = M.1 k j
section FRM
variable {X X' X2 M M' M2 : um_S} {h n W W' : Nat} {s s' : Nat → Int32}
theorem xf_refl : xf h X X := ⟨fun _ _ _ _ _ _ => rfl, rfl⟩
theorem xf_trans (a : xf h X X') (b : xf h X' X2) : xf h X X2 := ⟨fun k j h1 h2 h3 h4 => by rw [b.1 k j h1 h2 h3 h4, a.1 k j h1 h2 h3 h4], by rw [b.2, a.2]⟩
theorem mf_refl : mf M M := fun _ _ _ _ _ => rfl
theorem mf_trans (a : mf M M') (b : mf M' M2) : mf M M2 := fun k j h1 h2 h3 => by rw [b k j h1 h2 h3, a k j h1 h2 h3]
theorem mf_wr {i : Nat} {v : Int32} (k : Nat) (hk : k = 1 ∨ k = 8 ∨ k = 9) : mf M (um_wr M k i v) := fun k2 j h1 h2 h3 => um_wr_nk (by omega)
theorem xf_wr {k i : Nat} {v : Int32} (hk : k = h ∨ (20 * h ≤ k ∧ k < 20 * h + 20) ∨ (20 * h + 100 ≤ k ∧ k < 20 * h + 120) ∨ (300 ≤ k ∧ k % 3 = 2)) : xf h X (um_wr X k i v) := ⟨fun k2 j h1 h2 h3 h4 => um_wr_nk (fun z => by subst z; omega), rfl⟩
theorem xf_xa {h2 : Nat} (hh : um_h h) (hh2 : um_h h2) (hne : h ≠ h2) (a : xf h X X') : xa h2 X X' := by
  refine ⟨fun k j hk => ?_, a.2⟩
  have h1 : 1 ≤ h ∧ h ≤ 3 := by rcases hh with z | z | z <;> omega
  have h3 : 1 ≤ h2 ∧ h2 ≤ 3 := by rcases hh2 with z | z | z <;> omega
  exact a.1 k j (by omega) (by omega) (by omega) (by omega)
theorem tx_fr {q i : Nat} (ha : ∀ k j, 300 ≤ k → k % 3 ≠ 2 → X'.1 k j = X.1 k j) (h2 : X'.2.2 = X.2.2) (hs : ∀ b, 780 ≤ b → s' b = s b) (hq : 300 ≤ q) (hq3 : q % 3 = 0) (h : tx_ok X q s i) : tx_ok X' q s' i := by
  obtain ⟨k, L, P, b1, b2, b3, ⟨w, c1, c2, c3⟩, b5, b6, b7, b8, b9, b10, b11, b12⟩ := h
  have e1 : X'.1 (q + 1) = X.1 (q + 1) := funext fun j => ha _ j (by omega) (by omega)
  refine ⟨k, L, P, b1, ?_, ?_, ⟨w, c1, ?_, ?_⟩, ?_, ?_, ?_, b8, ?_, b10, fun j hj => ?_, ?_⟩
  · rw [ha _ _ hq (by omega)]; exact b2
  · rw [hs _ (by omega)]; exact b3
  · rw [ha _ _ hq (by omega)]; exact c2
  · rw [hs _ (by omega)]; exact c3
  · rw [ha _ _ hq (by omega), hs _ (by omega)]; exact b5
  · rw [h2]; exact b6
  · rw [hs _ (by omega)]; exact b7
  · rw [h2]; exact b9
  · rw [e1, hs _ (by omega), hs _ (by omega)]; exact b11 j hj
  · rw [e1]; exact b12
theorem st_fr (ha : ∀ k j, 300 ≤ k → k % 3 ≠ 2 → X'.1 k j = X.1 k j) (h2 : X'.2 = X.2) (hs : ∀ b, 780 ≤ b → s' b = s b) (h5 : s' 5 = s 5) (ht : sr_t X h s n) : sr_t X' h s' n := by
  intro i hi
  rw [nn_congr h5] at hi
  obtain ⟨q, b1, b2, b3, b4, b5⟩ := ht i hi
  exact ⟨q, by rw [h2]; exact b1, b2, b3, b4, tx_fr ha (by rw [h2]) hs b2 b4 b5⟩
theorem sc_xa (hh : um_h h) (ha : xa h X X') (hc : sr_c X h s) : sr_c X' h s := by
  obtain ⟨a1, a2, a3, a4, a5, a6, a7, a8⟩ := hc
  have hh2 : 1 ≤ h ∧ h ≤ 3 := by rcases hh with z | z | z <;> omega
  refine ⟨?_, ?_, ?_, ?_, ?_, ?_, ?_, ?_⟩
  · rw [ha.1 _ _ (by omega), ha.1 _ _ (by omega), ha.1 _ _ (by omega)]; exact a1
  · intro t ht
    rw [ha.1 _ _ (by omega)]; exact a2 t ht
  · rw [ha.1 _ _ (by omega)]; exact a3
  · intro t j ht h1 h7 hj
    rw [ha.1 _ _ (by omega)]; exact a4 t j ht h1 h7 hj
  · intro m c hm hc hc8
    rw [ha.1 _ _ (by omega)]; exact a5 m c hm hc hc8
  · intro p hp
    rw [ha.1 _ _ (by omega), ha.1 _ _ (by omega)]; exact a6 p hp
  · intro j hj hj2
    rw [ha.1 _ _ (by omega)]; exact a7 j hj hj2
  · intro j hj hj2
    rw [ha.1 _ _ (by omega)]; exact a8 j hj hj2
theorem sr_xa (hh : um_h h) (ha : xa h X X') (hs : sr X h s W n) : sr X' h s W n :=
  ⟨sc_xa hh ha hs.1, hs.2.1, st_fr (fun k j h1 h2 => ha.1 k j (by omega)) ha.2 (fun _ _ => rfl) rfl hs.2.2⟩
theorem rr_fr (hx : xf 1 X X') (hm : mf M M') (h : rr n X M) : rr n X' M' := by
  obtain ⟨⟨a1, a2⟩, a3, a4, ⟨z, b1, b2, b3, b4⟩, ⟨y, c1, c2, c3, c4⟩⟩ := h
  have hX : ∀ k j, k = 0 ∨ k = 13 ∨ k = 114 ∨ k = 115 ∨ k = 7 ∨ k = 4 ∨ k = 8 → X'.1 k j = X.1 k j := fun k j hk => hx.1 k j (by omega) (by omega) (by omega) (by omega)
  have hM : ∀ k j, k ≠ 1 → k ≠ 8 → k ≠ 9 → M'.1 k j = M.1 k j := hm
  have e2 : M'.1 2 = M.1 2 := funext fun j => hM 2 j (by omega) (by omega) (by omega)
  refine ⟨⟨?_, ?_⟩, ?_, ?_, ⟨z, b1, ?_, ?_, ?_⟩, ⟨y, c1, ?_, ?_, ?_⟩⟩
  · rw [hX _ _ (by omega), hM _ _ (by omega) (by omega) (by omega)]; exact a1
  · rw [hM _ _ (by omega) (by omega) (by omega), e2]
    exact fun q => sr_xa (Or.inr (Or.inl rfl)) (xf_xa (Or.inl rfl) (Or.inr (Or.inl rfl)) (by omega) hx) (a2 q)
  · intro k hk
    rw [hX _ _ (by omega), hX _ _ (by omega), hM _ _ (by omega) (by omega) (by omega), hM _ _ (by omega) (by omega) (by omega)]
    exact a3 k hk
  · intro j hj
    rw [hX _ _ (by omega), hM _ _ (by omega) (by omega) (by omega)]
    exact a4 j hj
  · rw [hX _ _ (by omega)]; exact b2
  · rw [hM _ _ (by omega) (by omega) (by omega)]; exact b3
  · intro j hj
    rw [hX _ _ (by omega), hM _ _ (by omega) (by omega) (by omega)]
    exact b4 j hj
  · rw [hX _ _ (by omega)]; exact c2
  · rw [hM _ _ (by omega) (by omega) (by omega)]; exact c3
  · intro j hj
    rw [hX _ _ (by omega), hM _ _ (by omega) (by omega) (by omega)]
    exact c4 j hj
end FRM
/-! addresses -/
section ADR
variable {x : Nat}
theorem la_0 : nI x + (0 : Int32) = nI (x + 0) := nI_add x 0
theorem la_1 : nI x + (1 : Int32) = nI (x + 1) := nI_add x 1
theorem la_2 : nI x + (2 : Int32) = nI (x + 2) := nI_add x 2
theorem la_3 : nI x + (3 : Int32) = nI (x + 3) := nI_add x 3
theorem la_4 : nI x + (4 : Int32) = nI (x + 4) := nI_add x 4
theorem la_5 : nI x + (5 : Int32) = nI (x + 5) := nI_add x 5
theorem la_6 : nI x + (6 : Int32) = nI (x + 6) := nI_add x 6
theorem la_7 : nI x + (7 : Int32) = nI (x + 7) := nI_add x 7
theorem la_8 : nI x + (8 : Int32) = nI (x + 8) := nI_add x 8
theorem la_9 : nI x + (9 : Int32) = nI (x + 9) := nI_add x 9
theorem la_10 : nI x + (10 : Int32) = nI (x + 10) := nI_add x 10
theorem la_11 : nI x + (11 : Int32) = nI (x + 11) := nI_add x 11
theorem la_12 : nI x + (12 : Int32) = nI (x + 12) := nI_add x 12
theorem la_13 : nI x + (13 : Int32) = nI (x + 13) := nI_add x 13
theorem la_14 : nI x + (14 : Int32) = nI (x + 14) := nI_add x 14
theorem la_600 : nI x + (600 : Int32) = nI (x + 600) := nI_add x 600
theorem lm_2 : (2 : Int32) * nI x = nI (2 * x) := nI_mul 2 x
theorem lm_3 : (3 : Int32) * nI x = nI (3 * x) := nI_mul 3 x
theorem lm_4 : (4 : Int32) * nI x = nI (4 * x) := nI_mul 4 x
theorem lm_5 : (5 : Int32) * nI x = nI (5 * x) := nI_mul 5 x
theorem lm_6 : (6 : Int32) * nI x = nI (6 * x) := nI_mul 6 x
theorem lm_7 : (7 : Int32) * nI x = nI (7 * x) := nI_mul 7 x
theorem lm_10 : (10 : Int32) * nI x = nI (10 * x) := nI_mul 10 x
theorem lm_14 : (14 : Int32) * nI x = nI (14 * x) := nI_mul 14 x
theorem lm_24 : (24 : Int32) * nI x = nI (24 * x) := nI_mul 24 x
theorem lm_200 : (200 : Int32) * nI x = nI (200 * x) := nI_mul 200 x
theorem lb_1 : (1 : Int32) + nI x = nI (1 + x) := nI_add 1 x
theorem lb_11 : (11 : Int32) + nI x = nI (11 + x) := nI_add 11 x
theorem lb_17 : (17 : Int32) + nI x = nI (17 + x) := nI_add 17 x
theorem lb_30 : (30 : Int32) + nI x = nI (30 + x) := nI_add 30 x
theorem lb_50 : (50 : Int32) + nI x = nI (50 + x) := nI_add 50 x
theorem lb_250 : (250 : Int32) + nI x = nI (250 + x) := nI_add 250 x
theorem lb_280 : (280 : Int32) + nI x = nI (280 + x) := nI_add 280 x
theorem lb_440 : (440 : Int32) + nI x = nI (440 + x) := nI_add 440 x
theorem lb_480 : (480 : Int32) + nI x = nI (480 + x) := nI_add 480 x
theorem lb_570 : (570 : Int32) + nI x = nI (570 + x) := nI_add 570 x
theorem lb_670 : (670 : Int32) + nI x = nI (670 + x) := nI_add 670 x
theorem lb_710 : (710 : Int32) + nI x = nI (710 + x) := nI_add 710 x
theorem lb_740 : (740 : Int32) + nI x = nI (740 + x) := nI_add 740 x
theorem lb_780 : (780 : Int32) + nI x = nI (780 + x) := nI_add 780 x
theorem lb_3590 : (3590 : Int32) + nI x = nI (3590 + x) := nI_add 3590 x
theorem lr_2 : nI x * (2 : Int32) = nI (x * 2) := nI_mul x 2
theorem lr_3 : nI x * (3 : Int32) = nI (x * 3) := nI_mul x 3
theorem lr_7 : nI x * (7 : Int32) = nI (x * 7) := nI_mul x 7
theorem lr_10 : nI x * (10 : Int32) = nI (x * 10) := nI_mul x 10
end ADR
