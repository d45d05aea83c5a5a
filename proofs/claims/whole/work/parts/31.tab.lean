/-! LEVEL 2: the class's tables -/
theorem x_get {T r c w L : Nat} {X : um_S} (hw : xw T = nI w) (hl : xl T = L) (hc : c < w) (hr : r * w + c < L) (hL : L < 2 ^ 31) (hw2 : w < 2 ^ 31) (hr2 : r < 2 ^ 31) : f_X5_get T (nI r) (nI c) X = some (X.1 (T + 100) (r * w + c)) := by
  dsimp only [f_X5_get, um_let]
  rw [hw, hl, nI_mul, nI_add, if_neg (nI_pos hr2), if_neg (nI_pos (by omega)), if_neg (nI_ge hc hw2), if_neg (by decide), if_neg (nI_pos (by omega)), if_neg (nI_ge hr hL), if_pos (um_ix_nI hr hL), nI_clamp (by omega)]
theorem x_set {T r c w L : Nat} {v : Int32} {X : um_S} (hw : xw T = nI w) (hl : xl T = L) (hc : c < w) (hr : r * w + c < L) (hL : L < 2 ^ 31) (hw2 : w < 2 ^ 31) (hr2 : r < 2 ^ 31) : f_X5_set T (nI r) (nI c) v X = some (um_wr X (T + 100) (r * w + c) v) := by
  dsimp only [f_X5_set, um_let]
  rw [hw, hl, nI_mul, nI_add, if_neg (nI_pos hr2), if_neg (nI_pos (by omega)), if_neg (nI_ge hc hw2), if_neg (by decide), if_neg (nI_pos (by omega)), if_neg (nI_ge hr hL), if_pos (um_ix_nI hr hL), nI_clamp (by omega)]
theorem x_set0 {T r c w L : Nat} {v : Int32} {X : um_S} (hw : xw T = nI w) (hc : w ≤ c) (hc2 : c < 2 ^ 31) (hr2 : r < 2 ^ 31) : f_X5_set T (nI r) (nI c) v X = some X := by
  dsimp only [f_X5_set, um_let]
  rw [hw, if_neg (nI_pos hr2), if_neg (nI_pos (by omega)), if_pos (nI_le hc hc2), if_pos (by decide)]
section TAB
variable {h r c : Nat} {v : Int32} {X : um_S}
theorem xw_0 (hh : um_h h) : xw (20 * h + 0) = nI 2 := by rcases hh with rfl | rfl | rfl <;> decide
theorem xl_0 (hh : um_h h) : xl (20 * h + 0) = 16 := by rcases hh with rfl | rfl | rfl <;> decide
theorem g_0 (hh : um_h h) (hr : r < 8) (hc : c < 2) : f_X5_get (20 * h + 0) (nI r) (nI c) X = some (X.1 (20 * h + 0 + 100) (2 * r + c)) := by
  rw [x_get (xw_0 hh) (xl_0 hh) hc (by omega) (by omega) (by omega) (by omega), Nat.mul_comm r 2]
theorem s_0 (hh : um_h h) (hr : r < 8) (hc : c < 2) : f_X5_set (20 * h + 0) (nI r) (nI c) v X = some (um_wr X (20 * h + 0 + 100) (2 * r + c) v) := by
  rw [x_set (xw_0 hh) (xl_0 hh) hc (by omega) (by omega) (by omega) (by omega), Nat.mul_comm r 2]
theorem xw_1 (hh : um_h h) : xw (20 * h + 1) = nI 14 := by rcases hh with rfl | rfl | rfl <;> decide
theorem xl_1 (hh : um_h h) : xl (20 * h + 1) = 196 := by rcases hh with rfl | rfl | rfl <;> decide
theorem g_1 (hh : um_h h) (hr : r < 14) (hc : c < 14) : f_X5_get (20 * h + 1) (nI r) (nI c) X = some (X.1 (20 * h + 1 + 100) (14 * r + c)) := by
  rw [x_get (xw_1 hh) (xl_1 hh) hc (by omega) (by omega) (by omega) (by omega), Nat.mul_comm r 14]
theorem s_1 (hh : um_h h) (hr : r < 14) (hc : c < 14) : f_X5_set (20 * h + 1) (nI r) (nI c) v X = some (um_wr X (20 * h + 1 + 100) (14 * r + c) v) := by
  rw [x_set (xw_1 hh) (xl_1 hh) hc (by omega) (by omega) (by omega) (by omega), Nat.mul_comm r 14]
theorem xw_2 (hh : um_h h) : xw (20 * h + 2) = nI 4 := by rcases hh with rfl | rfl | rfl <;> decide
theorem xl_2 (hh : um_h h) : xl (20 * h + 2) = 24 := by rcases hh with rfl | rfl | rfl <;> decide
theorem g_2 (hh : um_h h) (hr : r < 6) (hc : c < 4) : f_X5_get (20 * h + 2) (nI r) (nI c) X = some (X.1 (20 * h + 2 + 100) (4 * r + c)) := by
  rw [x_get (xw_2 hh) (xl_2 hh) hc (by omega) (by omega) (by omega) (by omega), Nat.mul_comm r 4]
theorem s_2 (hh : um_h h) (hr : r < 6) (hc : c < 4) : f_X5_set (20 * h + 2) (nI r) (nI c) v X = some (um_wr X (20 * h + 2 + 100) (4 * r + c) v) := by
  rw [x_set (xw_2 hh) (xl_2 hh) hc (by omega) (by omega) (by omega) (by omega), Nat.mul_comm r 4]
theorem xw_3 (hh : um_h h) : xw (20 * h + 3) = nI 4 := by rcases hh with rfl | rfl | rfl <;> decide
theorem xl_3 (hh : um_h h) : xl (20 * h + 3) = 160 := by rcases hh with rfl | rfl | rfl <;> decide
theorem g_3 (hh : um_h h) (hr : r < 40) (hc : c < 4) : f_X5_get (20 * h + 3) (nI r) (nI c) X = some (X.1 (20 * h + 3 + 100) (4 * r + c)) := by
  rw [x_get (xw_3 hh) (xl_3 hh) hc (by omega) (by omega) (by omega) (by omega), Nat.mul_comm r 4]
theorem s_3 (hh : um_h h) (hr : r < 40) (hc : c < 4) : f_X5_set (20 * h + 3) (nI r) (nI c) v X = some (um_wr X (20 * h + 3 + 100) (4 * r + c) v) := by
  rw [x_set (xw_3 hh) (xl_3 hh) hc (by omega) (by omega) (by omega) (by omega), Nat.mul_comm r 4]
theorem xw_4 (hh : um_h h) : xw (20 * h + 4) = nI 5 := by rcases hh with rfl | rfl | rfl <;> decide
theorem xl_4 (hh : um_h h) : xl (20 * h + 4) = 100 := by rcases hh with rfl | rfl | rfl <;> decide
theorem g_4 (hh : um_h h) (hr : r < 20) (hc : c < 5) : f_X5_get (20 * h + 4) (nI r) (nI c) X = some (X.1 (20 * h + 4 + 100) (5 * r + c)) := by
  rw [x_get (xw_4 hh) (xl_4 hh) hc (by omega) (by omega) (by omega) (by omega), Nat.mul_comm r 5]
theorem s_4 (hh : um_h h) (hr : r < 20) (hc : c < 5) : f_X5_set (20 * h + 4) (nI r) (nI c) v X = some (um_wr X (20 * h + 4 + 100) (5 * r + c) v) := by
  rw [x_set (xw_4 hh) (xl_4 hh) hc (by omega) (by omega) (by omega) (by omega), Nat.mul_comm r 5]
theorem xw_5 (hh : um_h h) : xw (20 * h + 5) = nI 4 := by rcases hh with rfl | rfl | rfl <;> decide
theorem xl_5 (hh : um_h h) : xl (20 * h + 5) = 40 := by rcases hh with rfl | rfl | rfl <;> decide
theorem g_5 (hh : um_h h) (hr : r < 10) (hc : c < 4) : f_X5_get (20 * h + 5) (nI r) (nI c) X = some (X.1 (20 * h + 5 + 100) (4 * r + c)) := by
  rw [x_get (xw_5 hh) (xl_5 hh) hc (by omega) (by omega) (by omega) (by omega), Nat.mul_comm r 4]
theorem s_5 (hh : um_h h) (hr : r < 10) (hc : c < 4) : f_X5_set (20 * h + 5) (nI r) (nI c) v X = some (um_wr X (20 * h + 5 + 100) (4 * r + c) v) := by
  rw [x_set (xw_5 hh) (xl_5 hh) hc (by omega) (by omega) (by omega) (by omega), Nat.mul_comm r 4]
theorem xw_6 (hh : um_h h) : xw (20 * h + 6) = nI 3 := by rcases hh with rfl | rfl | rfl <;> decide
theorem xl_6 (hh : um_h h) : xl (20 * h + 6) = 90 := by rcases hh with rfl | rfl | rfl <;> decide
theorem g_6 (hh : um_h h) (hr : r < 30) (hc : c < 3) : f_X5_get (20 * h + 6) (nI r) (nI c) X = some (X.1 (20 * h + 6 + 100) (3 * r + c)) := by
  rw [x_get (xw_6 hh) (xl_6 hh) hc (by omega) (by omega) (by omega) (by omega), Nat.mul_comm r 3]
theorem s_6 (hh : um_h h) (hr : r < 30) (hc : c < 3) : f_X5_set (20 * h + 6) (nI r) (nI c) v X = some (um_wr X (20 * h + 6 + 100) (3 * r + c) v) := by
  rw [x_set (xw_6 hh) (xl_6 hh) hc (by omega) (by omega) (by omega) (by omega), Nat.mul_comm r 3]
theorem xw_7 (hh : um_h h) : xw (20 * h + 7) = nI 2 := by rcases hh with rfl | rfl | rfl <;> decide
theorem xl_7 (hh : um_h h) : xl (20 * h + 7) = 12 := by rcases hh with rfl | rfl | rfl <;> decide
theorem g_7 (hh : um_h h) (hr : r < 6) (hc : c < 2) : f_X5_get (20 * h + 7) (nI r) (nI c) X = some (X.1 (20 * h + 7 + 100) (2 * r + c)) := by
  rw [x_get (xw_7 hh) (xl_7 hh) hc (by omega) (by omega) (by omega) (by omega), Nat.mul_comm r 2]
theorem s_7 (hh : um_h h) (hr : r < 6) (hc : c < 2) : f_X5_set (20 * h + 7) (nI r) (nI c) v X = some (um_wr X (20 * h + 7 + 100) (2 * r + c) v) := by
  rw [x_set (xw_7 hh) (xl_7 hh) hc (by omega) (by omega) (by omega) (by omega), Nat.mul_comm r 2]
theorem xw_8 (hh : um_h h) : xw (20 * h + 8) = nI 6 := by rcases hh with rfl | rfl | rfl <;> decide
theorem xl_8 (hh : um_h h) : xl (20 * h + 8) = 36 := by rcases hh with rfl | rfl | rfl <;> decide
theorem g_8 (hh : um_h h) (hr : r < 6) (hc : c < 6) : f_X5_get (20 * h + 8) (nI r) (nI c) X = some (X.1 (20 * h + 8 + 100) (6 * r + c)) := by
  rw [x_get (xw_8 hh) (xl_8 hh) hc (by omega) (by omega) (by omega) (by omega), Nat.mul_comm r 6]
theorem s_8 (hh : um_h h) (hr : r < 6) (hc : c < 6) : f_X5_set (20 * h + 8) (nI r) (nI c) v X = some (um_wr X (20 * h + 8 + 100) (6 * r + c) v) := by
  rw [x_set (xw_8 hh) (xl_8 hh) hc (by omega) (by omega) (by omega) (by omega), Nat.mul_comm r 6]
theorem xw_9 (hh : um_h h) : xw (20 * h + 9) = nI 3 := by rcases hh with rfl | rfl | rfl <;> decide
theorem xl_9 (hh : um_h h) : xl (20 * h + 9) = 21 := by rcases hh with rfl | rfl | rfl <;> decide
theorem g_9 (hh : um_h h) (hr : r < 7) (hc : c < 3) : f_X5_get (20 * h + 9) (nI r) (nI c) X = some (X.1 (20 * h + 9 + 100) (3 * r + c)) := by
  rw [x_get (xw_9 hh) (xl_9 hh) hc (by omega) (by omega) (by omega) (by omega), Nat.mul_comm r 3]
theorem s_9 (hh : um_h h) (hr : r < 7) (hc : c < 3) : f_X5_set (20 * h + 9) (nI r) (nI c) v X = some (um_wr X (20 * h + 9 + 100) (3 * r + c) v) := by
  rw [x_set (xw_9 hh) (xl_9 hh) hc (by omega) (by omega) (by omega) (by omega), Nat.mul_comm r 3]
theorem xw_10 (hh : um_h h) : xw (20 * h + 10) = nI 6 := by rcases hh with rfl | rfl | rfl <;> decide
theorem xl_10 (hh : um_h h) : xl (20 * h + 10) = 36 := by rcases hh with rfl | rfl | rfl <;> decide
theorem g_10 (hh : um_h h) (hr : r < 6) (hc : c < 6) : f_X5_get (20 * h + 10) (nI r) (nI c) X = some (X.1 (20 * h + 10 + 100) (6 * r + c)) := by
  rw [x_get (xw_10 hh) (xl_10 hh) hc (by omega) (by omega) (by omega) (by omega), Nat.mul_comm r 6]
theorem s_10 (hh : um_h h) (hr : r < 6) (hc : c < 6) : f_X5_set (20 * h + 10) (nI r) (nI c) v X = some (um_wr X (20 * h + 10 + 100) (6 * r + c) v) := by
  rw [x_set (xw_10 hh) (xl_10 hh) hc (by omega) (by omega) (by omega) (by omega), Nat.mul_comm r 6]
theorem g_14 (hr : r < 4) : f_X5_get 14 (nI r) (0 : Int32) X = some (X.1 114 r) := by
  have h1 := x_get (T := 14) (r := r) (c := 0) (w := 1) (L := 4) (X := X) (by decide) (by decide) (by omega) (by omega) (by omega) (by omega) (by omega)
  rw [Nat.mul_one, Nat.add_zero] at h1
  exact h1
theorem s_14 (hr : r < 4) : f_X5_set 14 (nI r) (0 : Int32) v X = some (um_wr X 114 r v) := by
  have h1 := x_set (T := 14) (r := r) (c := 0) (w := 1) (L := 4) (v := v) (X := X) (by decide) (by decide) (by omega) (by omega) (by omega) (by omega) (by omega)
  rw [Nat.mul_one, Nat.add_zero] at h1
  exact h1
theorem g_15 (hr : r < 4) (hc : c < 24) : f_X5_get 15 (nI r) (nI c) X = some (X.1 115 (24 * r + c)) := by
  have h1 := x_get (T := 15) (r := r) (c := c) (w := 24) (L := 96) (X := X) (by decide) (by decide) (by omega) (by omega) (by omega) (by omega) (by omega)
  rw [Nat.mul_comm r 24] at h1
  exact h1
theorem s_15 (hr : r < 4) (hc : c < 24) : f_X5_set 15 (nI r) (nI c) v X = some (um_wr X 115 (24 * r + c) v) := by
  have h1 := x_set (T := 15) (r := r) (c := c) (w := 24) (L := 96) (v := v) (X := X) (by decide) (by decide) (by omega) (by omega) (by omega) (by omega) (by omega)
  rw [Nat.mul_comm r 24] at h1
  exact h1
end TAB
theorem nI_m1 {k : Nat} (hk : k < 2 ^ 30) : (nI k - 1).toInt = (k : Int) - 1 := by
  have h1 : (nI k).toInt = (k : Int) := nI_toInt (by omega)
  have h6 : (1 : Int32).toInt = 1 := by decide
  rw [Int32.toInt_sub, h1, h6, Int.bmod_def]
  split <;> omega
theorem ho_ {T k : Nat} {a cm : Int32} {X M : um_S} (hx : X.1 T 2 = nI k) (hm : cm = nI k) (hk : k < 2 ^ 30) : sm_S (f_X5_holds T a X) (f_X9_isIn a.toInt64 (0 : Int64) ((cm - (1 : Int32)).toInt64) M) (fun x y => x = y ∧ (x = true → ∃ j : Nat, j < k ∧ a = nI j)) := by
  have hx1 : f_X5_holds T a X = some (decide (0 ≤ a.toInt ∧ a.toInt ≤ (k : Int) - 1)) := by
    unfold f_X5_holds
    rw [hx]
    have h0 : (0 : Int32).toInt = 0 := by decide
    have h1 : (nI k).toInt = (k : Int) := nI_toInt (by omega)
    simp only [Int32.lt_iff_toInt_lt, Int32.le_iff_toInt_le, h0, h1]
    split
    · rw [decide_eq_false (by omega)]
    · split
      · rw [decide_eq_false (by omega)]
      · rw [decide_eq_true (by omega)]
  refine sm_of hx1 (m_isIn _ _ _ M) ⟨?_, fun z => ?_⟩
  · have h0 : (0 : Int64).toInt = 0 := by decide
    rw [Int32.toInt_toInt64, Int32.toInt_toInt64, hm, nI_m1 hk, h0]
  · obtain ⟨z1, z2⟩ := of_decide_eq_true z
    obtain ⟨j, hj, e⟩ := nI_ofT z1 z2
    exact ⟨j, by omega, e⟩
