/-! LEVEL 2: the small words of both sides -/
section EV
variable {X M : um_S} {h n W m k : Nat} {s : Nat → Int32} {a b v : Int32}
theorem m_rd {e : Nat} (he : e < 3790) : (if um_ix (nI e) 3790 then (some (M.1 1 (nI e).toNatClampNeg)) else none) = some (M.1 1 e) := by
  rw [if_pos (um_ix_nI he (by omega)), nI_clamp (by omega)]
theorem m_manAt : f_X9_manAt (nI m) M = some (nI (50 + 14 * m)) := by
  unfold f_X9_manAt
  rw [lm_14, lb_50]
theorem m_masterAt : f_X9_masterAt (nI m) M = some (nI (250 + 4 * m)) := by
  unfold f_X9_masterAt
  rw [lm_4, lb_250]
theorem m_markAt : f_X9_markAt (nI m) M = some (nI (280 + 4 * m)) := by
  unfold f_X9_markAt
  rw [lm_4, lb_280]
theorem m_textAt : f_X9_textAt (nI m) M = some (nI (780 + 200 * m)) := by
  unfold f_X9_textAt
  rw [lm_200, lb_780]
theorem m_kindOf (hm : m < 14) : f_X9_kindOf (nI m) M = some (M.1 1 (50 + 14 * m + 5)) := by
  unfold f_X9_kindOf
  rw [m_manAt, Option.bind_some, la_5]
  exact m_rd (by omega)
theorem m_isDead (hm : m < 14) : f_X9_isDead (nI m) M = some (decide (M.1 1 (50 + 14 * m + 11) = 1)) := by
  unfold f_X9_isDead
  rw [m_manAt, Option.bind_some, la_11, if_pos (um_ix_nI (by omega) (by omega)), nI_clamp (by omega)]
  split
  · rename_i z; rw [decide_eq_true z]
  · rename_i z; rw [decide_eq_false z]
theorem m_hasLanded (hm : m < 14) : f_X9_hasLanded (nI m) M = some (decide (¬ M.1 1 (50 + 14 * m + 10) < 0)) := by
  unfold f_X9_hasLanded
  rw [m_manAt, Option.bind_some, la_10, if_pos (um_ix_nI (by omega) (by omega)), nI_clamp (by omega)]
  split
  · rename_i z; rw [decide_eq_false (fun y => y z)]
  · rename_i z; rw [decide_eq_true z]
theorem m_becomesOf (hm : m < 14) : f_X9_becomesOf (nI m) a b M = some (um_wr (um_wr (um_wr M 1 (50 + 14 * m + 5) a) 1 (50 + 14 * m + 6) b) 1 (50 + 14 * m + 7) (M.1 1 0)) := by
  unfold f_X9_becomesOf um_let
  rw [m_manAt, Option.bind_some, la_5, la_6, la_7]
  dsimp only
  rw [if_pos (um_ix_nI (by omega) (by omega)), if_pos (um_ix_nI (by omega) (by omega)), if_pos (um_ix_nI (by omega) (by omega)), nI_clamp (by omega), nI_clamp (by omega), nI_clamp (by omega), um_wr_an (by omega), um_wr_an (by omega)]
theorem x_become (hh : um_h h) (hm : m < 14) : f_X4_become h (nI m) a b X = some (um_wr (um_wr (um_wr X (20 * h + 1 + 100) (14 * m + 5) a) (20 * h + 1 + 100) (14 * m + 6) b) (20 * h + 1 + 100) (14 * m + 7) (X.1 h 12)) := by
  have h1 : 1 ≤ h ∧ h ≤ 3 := by rcases hh with z | z | z <;> omega
  unfold f_X4_become
  rw [show (5 : Int32) = nI 5 from rfl, show (6 : Int32) = nI 6 from rfl, show (7 : Int32) = nI 7 from rfl]
  rw [s_1 hh hm (by omega), Option.bind_some, s_1 hh hm (by omega), Option.bind_some, s_1 hh hm (by omega), Option.bind_some, um_wr_nk (by omega), um_wr_nk (by omega)]
theorem m_becomes {e : Nat} (he : e < 3790) : f_X9_becomes (nI e) v M = some (M.1 1 e, um_wr M 1 e v) := by
  unfold f_X9_becomes um_let
  dsimp only
  rw [if_pos (um_ix_nI he (by omega)), if_pos (um_ix_nI he (by omega)), nI_clamp (by omega)]
/-- a cell of a man on the class's side -/
theorem x_man (hc : sr_c X h s) (hh : um_h h) (hm : m < nn s 2) (hm14 : nn s 2 ≤ 14) {c : Nat} (hc14 : c < 14) (hc8 : c ≠ 8) : f_X5_get (20 * h + 1) (nI m) (nI c) X = some (ec c (s (50 + 14 * m + pc c))) := by
  rw [g_1 hh (by omega) hc14, hc.2.2.2.2.1 m c hm hc14 hc8]
theorem x_plain (hc : sr_c X h s) {t j : Nat} (ht : t < 11) (h1 : t ≠ 1) (h7 : t ≠ 7) (hj : j < tl s t) : X.1 (20 * h + t + 100) j = s (tb t + j) := hc.2.2.2.1 t j ht h1 h7 hj
theorem x_cnt (hc : sr_c X h s) {t : Nat} (ht : t < 7) : X.1 (20 * h + t) 2 = s (tk t) := hc.2.1 t ht
theorem eN_m : eN (-1) = -1000000005 := by decide
theorem eN_p (hk : k < 2 ^ 31) : eN (nI k) = nI k := if_neg (nI_nneg hk)
theorem eN_none (h : v = -1 ∨ ∃ l : Nat, l < 2 ^ 20 ∧ v = nI l) : eN v = -1000000005 ↔ v = -1 := by
  rcases h with rfl | ⟨l, hl, rfl⟩
  · exact ⟨fun _ => rfl, fun _ => eN_m⟩
  · rw [eN_p (by omega)]
    exact ⟨fun z => absurd z (nI_none (by omega)), fun z => absurd z (nI_nneg (by omega))⟩
theorem neg_m1 (h : v = -1 ∨ ∃ l : Nat, l < 2 ^ 20 ∧ v = nI l) : v < 0 ↔ v = -1 := by
  rcases h with rfl | ⟨l, hl, rfl⟩
  · decide
  · exact ⟨fun z => absurd z (nI_pos (by omega)), fun z => absurd z (nI_nneg (by omega))⟩
theorem pl_or (h : v = -1 ∨ pl v) : v = -1 ∨ ∃ l : Nat, l < 2 ^ 20 ∧ v = nI l := by
  rcases h with z | ⟨p, hp, z⟩
  · exact Or.inl z
  · exact Or.inr ⟨p, by omega, z⟩
/-- at a place: both tests are one -/
theorem at_pl (h : v = -1 ∨ pl v) : f_X8_isPlace (eN v) X = some (decide (v ≠ -1)) := by
  unfold f_X8_isPlace
  rw [x_within, Option.bind_some]
  congr 1
  have h0 : (0 : Int32).toInt = 0 := by decide
  have h5 : (5 : Int32).toInt = 5 := by decide
  rw [h0, h5]
  rcases h with rfl | ⟨p, hp, rfl⟩
  · rw [eN_m]; decide
  · rw [eN_p (by omega), nI_toInt (by omega), decide_eq_true (nI_nneg (by omega)), decide_eq_true (by omega)]
theorem x_isDead (hc : sr_c X h s) (hh : um_h h) (hm : m < nn s 2) (hm14 : nn s 2 ≤ 14) : f_X4_isDead h (nI m) X = some (decide (s (50 + 14 * m + 11) = 1)) := by
  unfold f_X4_isDead
  rw [show (11 : Int32) = nI 11 from rfl, x_man hc hh hm hm14 (by omega) (by omega), Option.bind_some]
  change (if s (50 + 14 * m + 11) = 1 then some true else some false) = _
  split
  · rename_i z; rw [decide_eq_true z]
  · rename_i z; rw [decide_eq_false z]
theorem x_hasLanded (hc : sr_c X h s) (hh : um_h h) (hm : m < nn s 2) (hm14 : nn s 2 ≤ 14) (ho : mo s m) : f_X4_hasLanded h (nI m) X = some (decide (¬ s (50 + 14 * m + 10) < 0)) := by
  unfold f_X4_hasLanded
  rw [show (10 : Int32) = nI 10 from rfl, x_man hc hh hm hm14 (by omega) (by omega), Option.bind_some]
  change (if eN (s (50 + 14 * m + 10)) = -1000000005 then some false else some true) = _
  have e := neg_m1 ho.2.2.1
  split
  · rename_i z; rw [decide_eq_false (fun y => y (e.mpr ((eN_none ho.2.2.1).mp z)))]
  · rename_i z; rw [decide_eq_true (p := ¬ s (50 + 14 * m + 10) < 0) (fun y => z ((eN_none ho.2.2.1).mpr (e.mp y)))]
theorem x_isAtPlace (hc : sr_c X h s) (hh : um_h h) (hm : m < nn s 2) (hm14 : nn s 2 ≤ 14) (ho : mo s m) : f_X4_isAtPlace h (nI m) X = some (decide (s (50 + 14 * m + 4) ≠ -1)) := by
  unfold f_X4_isAtPlace
  rw [show (4 : Int32) = nI 4 from rfl, x_man hc hh hm hm14 (by omega) (by omega), Option.bind_some]
  change (f_X8_isPlace (eN (s (50 + 14 * m + 4))) X).bind _ = _
  rw [at_pl ho.2.1, Option.bind_some]
theorem x_isServing (hc : sr_c X h s) (hh : um_h h) (hm : m < nn s 2) (hm14 : nn s 2 ≤ 14) : f_X4_isServing h (nI m) X = some (decide (1 ≤ (s (50 + 14 * m + 5)).toInt ∧ (s (50 + 14 * m + 5)).toInt ≤ 4)) := by
  unfold f_X4_isServing
  rw [show (5 : Int32) = nI 5 from rfl, x_man hc hh hm hm14 (by omega) (by omega), Option.bind_some]
  change (f_X8_within (s (50 + 14 * m + 5)) 1 4 X).bind _ = _
  rw [x_within, Option.bind_some]
  have h0 : (1 : Int32).toInt = 1 := by decide
  have h5 : (4 : Int32).toInt = 4 := by decide
  rw [h0, h5]
theorem m_isHeld (hm : m < 14) : f_X9_isHeld (nI m) M = some (decide (1 ≤ (M.1 1 (50 + 14 * m + 5)).toInt ∧ (M.1 1 (50 + 14 * m + 5)).toInt ≤ 4)) := by
  unfold f_X9_isHeld
  rw [m_kindOf hm, Option.bind_some, m_isIn, Option.bind_some]
  have h0 : (1 : Int64).toInt = 1 := by decide
  have h5 : (4 : Int64).toInt = 4 := by decide
  rw [Int32.toInt_toInt64, h0, h5]
theorem m_isOut (hm : m < 14) : f_X9_isOut (nI m) M = some (decide (M.1 1 (50 + 14 * m + 11) = 1 ∨ M.1 1 (50 + 14 * m + 10) < 0)) := by
  unfold f_X9_isOut
  rw [m_isDead hm, Option.bind_some, m_hasLanded hm, Option.bind_some]
  by_cases h1 : M.1 1 (50 + 14 * m + 11) = 1 <;> by_cases h2 : M.1 1 (50 + 14 * m + 10) < 0 <;> simp [h1, h2, um_b]
theorem held_k (h : ∃ k : Nat, 1 ≤ k ∧ k ≤ 7 ∧ v = nI k) : (1 ≤ v.toInt ∧ v.toInt ≤ 4) ↔ ∃ k : Nat, 1 ≤ k ∧ k ≤ 4 ∧ v = nI k := by
  obtain ⟨k, h1, h2, rfl⟩ := h
  rw [nI_toInt (by omega)]
  refine ⟨fun z => ⟨k, h1, by omega, rfl⟩, fun ⟨j, h3, h4, e⟩ => ?_⟩
  have := (nI_eq (by omega) (by omega)).mp e
  omega
/-- held, alive and landed: at a place -/
theorem out_pl (ho : mo s m) (hk : ∃ k : Nat, 1 ≤ k ∧ k ≤ 4 ∧ s (50 + 14 * m + 5) = nI k) : (s (50 + 14 * m + 11) = 1 ∨ s (50 + 14 * m + 10) < 0) ↔ s (50 + 14 * m + 4) = -1 := by
  obtain ⟨a1, a2, a3, a4, a5, a6, a7, a8, a9⟩ := ho
  rw [neg_m1 a3]
  constructor
  · rintro (z | z)
    · exact a4 z
    · by_cases e : s (50 + 14 * m + 4) = -1
      · exact e
      · exact absurd z (a5 e)
  · intro z
    by_cases e1 : s (50 + 14 * m + 11) = 1
    · exact Or.inl e1
    · by_cases e2 : s (50 + 14 * m + 10) = -1
      · exact Or.inr e2
      · exact absurd z (a6 hk e1 e2)
end EV
