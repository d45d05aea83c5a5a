/-! LEVEL 2: may, same -/
theorem on1_one {g : Nat} (hg : g < 16384) : on1 g 14 = 1 ↔ ∃ k, k < 14 ∧ g = 2 ^ k := by
  have h := one_bit (g / 128) (by omega) (g % 128) (by omega)
  rw [Nat.div_add_mod, beq_iff_eq] at h
  constructor
  · intro z
    rw [decide_eq_true z] at h
    obtain ⟨k, hk, e⟩ := List.any_eq_true.mp h.symm
    exact ⟨k, List.mem_range.mp hk, by simpa using e⟩
  · rintro ⟨k, hk, e⟩
    have h2 : ((List.range 14).any fun k => g == 2 ^ k) = true := List.any_eq_true.mpr ⟨k, List.mem_range.mpr hk, by simpa using e⟩
    rw [h2] at h
    exact of_decide_eq_true h
set_option maxRecDepth 20000 in
theorem ntz_ {X : um_S} : ∀ k, k < 14 → f_J6_numberOfTrailingZeros_0f7a4 (nI (2 ^ k)) X = some (nI k) := by
  intro k hk
  have hkk : k = 0 ∨ k = 1 ∨ k = 2 ∨ k = 3 ∨ k = 4 ∨ k = 5 ∨ k = 6 ∨ k = 7 ∨ k = 8 ∨ k = 9 ∨ k = 10 ∨ k = 11 ∨ k = 12 ∨ k = 13 := by omega
  rcases hkk with rfl | rfl | rfl | rfl | rfl | rfl | rfl | rfl | rfl | rfl | rfl | rfl | rfl | rfl <;> rfl
theorem pow_inj {a b : Nat} (h : 2 ^ a = 2 ^ b) : a = b := by
  rcases Nat.lt_trichotomy a b with z | z | z
  · have := (Nat.pow_lt_pow_iff_right (a := 2) (by omega)).mpr z
    omega
  · exact z
  · have := (Nat.pow_lt_pow_iff_right (a := 2) (by omega)).mpr z
    omega
section MAY
variable {X M : um_S} {n W l m g N : Nat} {a b d v1 v2 : Int32}
theorem lo_who (hs : sr X 1 (M.1 1) W n) (hl : l < nn (M.1 1) 6) : ∀ (k j g fx fm : Nat), j + k = nn (M.1 1) 2 → k < fx → k < fm → g < 2 ^ j → ∃ g' : Nat, g' < 2 ^ nn (M.1 1) 2 ∧ f_X4_menWhoMayBe_l4 1 (nI l) X fx (nI g) (nI j) = some (nI g') ∧ f_X9_whoMay_l4 (nI l) M fm (nI g) (nI j) = some (nI g') := by
  obtain ⟨e1, hn⟩ := si_men hs.2.1
  intro k
  induction k with
  | zero =>
    intro j g fx fm hj hfx hfm hg
    obtain ⟨fx, rfl⟩ : ∃ f, fx = f + 1 := ⟨fx - 1, by omega⟩
    obtain ⟨fm, rfl⟩ : ∃ f, fm = f + 1 := ⟨fm - 1, by omega⟩
    have e : j = nn (M.1 1) 2 := by omega
    rw [f_X4_menWhoMayBe_l4, f_X9_whoMay_l4]
    exact ⟨g, by rw [← e]; exact hg, if_pos (by rw [cnt_x hs]; exact nI_le (by omega) (by omega)), if_pos (by rw [e1]; exact nI_le (by omega) (by omega))⟩
  | succ k ih =>
    intro j g fx fm hj hfx hfm hg
    obtain ⟨fx, rfl⟩ : ∃ f, fx = f + 1 := ⟨fx - 1, by omega⟩
    obtain ⟨fm, rfl⟩ : ∃ f, fm = f + 1 := ⟨fm - 1, by omega⟩
    have hpow : 2 ^ (j + 1) = 2 * 2 ^ j := by rw [Nat.pow_succ, Nat.mul_comm]
    rw [f_X4_menWhoMayBe_l4, f_X9_whoMay_l4]
    rw [if_neg (by rw [cnt_x hs]; exact nI_ge (by omega) (by omega)), if_neg (by rw [e1]; exact nI_ge (by omega) (by omega))]
    rw [x_mayBe hs hl (by omega), m_mayBe hs.2.1 hl (by omega), Option.bind_some, Option.bind_some, nI_1]
    cases mbq (M.1 1) l j with
    | false =>
      obtain ⟨g', h1, h2, h3⟩ := ih (j + 1) g fx fm (by omega) (by omega) (by omega) (by omega)
      refine ⟨g', h1, h2, ?_⟩
      rw [show nI g ||| (0 : Int32) = nI g from Int32.or_zero]
      exact h3
    | true =>
      obtain ⟨g', h1, h2, h3⟩ := ih (j + 1) (g ||| 2 ^ j) fx fm (by omega) (by omega) (by omega) (Nat.or_lt_two_pow (by omega) (by rw [hpow]; have := Nat.two_pow_pos j; omega))
      refine ⟨g', h1, ?_, ?_⟩
      · rw [shl_ j (by omega), nI_or]
        exact h2
      · rw [shl_ j (by omega), nI_or]
        exact h3
theorem who_ (hs : sr X 1 (M.1 1) W n) (hl : l < nn (M.1 1) 6) : ∃ g : Nat, g < 2 ^ nn (M.1 1) 2 ∧ g < 16384 ∧ f_X4_menWhoMayBe 1 (nI l) X = some (nI g) ∧ f_X9_whoMay (nI l) M = some (nI g) := by
  have hn := (si_men hs.2.1).2
  obtain ⟨g, h1, h2, h3⟩ := lo_who hs hl (nn (M.1 1) 2) 0 0 um_N um_N (by omega) (by unfold um_N; omega) (by unfold um_N; omega) (by omega)
  have hle : 2 ^ nn (M.1 1) 2 ≤ 2 ^ 14 := Nat.pow_le_pow_right (by omega) hn
  unfold f_X4_menWhoMayBe f_X9_whoMay
  rw [bind_sm, bind_sm]
  exact ⟨g, h1, by omega, h2, h3⟩
theorem lo_sure (hi : sr_i (M.1 1) W) (hg : g < 16384) : ∀ (k j : Nat) (acc : Int32) (fm : Nat), j + k = nn (M.1 1) 2 → k < fm → ∃ r : Int32, f_X9_sure_l4 (nI g) M fm acc (nI j) = some r ∧ ((∃ i, j ≤ i ∧ i < nn (M.1 1) 2 ∧ g = 2 ^ i ∧ r = nI i) ∨ ((∀ i, j ≤ i → i < nn (M.1 1) 2 → g ≠ 2 ^ i) ∧ r = acc)) := by
  obtain ⟨e1, hn⟩ := si_men hi
  intro k
  induction k with
  | zero =>
    intro j acc fm hj hfm
    obtain ⟨fm, rfl⟩ : ∃ f, fm = f + 1 := ⟨fm - 1, by omega⟩
    rw [f_X9_sure_l4]
    exact ⟨acc, if_pos (by rw [e1]; exact nI_le (by omega) (by omega)), Or.inr ⟨fun i h1 h2 => by omega, rfl⟩⟩
  | succ k ih =>
    intro j acc fm hj hfm
    obtain ⟨fm, rfl⟩ : ∃ f, fm = f + 1 := ⟨fm - 1, by omega⟩
    have hp14 : 2 ^ j ≤ 2 ^ 14 := Nat.pow_le_pow_right (by omega) (by omega)
    rw [f_X9_sure_l4, if_neg (by rw [e1]; exact nI_ge (by omega) (by omega)), shl_ j (by omega), nI_1]
    by_cases hgj : g = 2 ^ j
    · rw [if_pos (by rw [hgj])]
      obtain ⟨r, h1, h2⟩ := ih (j + 1) (nI j) fm (by omega) (by omega)
      refine ⟨r, h1, Or.inl ?_⟩
      rcases h2 with ⟨i, q1, q2, q3, q4⟩ | ⟨q1, q2⟩
      · have := pow_inj (hgj.symm.trans q3)
        omega
      · exact ⟨j, by omega, by omega, hgj, q2⟩
    · rw [if_neg (fun z => hgj ((nI_eq (by omega) (by omega)).mp z))]
      obtain ⟨r, h1, h2⟩ := ih (j + 1) acc fm (by omega) (by omega)
      refine ⟨r, h1, ?_⟩
      rcases h2 with ⟨i, q1, q2, q3, q4⟩ | ⟨q1, q2⟩
      · exact Or.inl ⟨i, by omega, q2, q3, q4⟩
      · refine Or.inr ⟨fun i g1 g2 => ?_, q2⟩
        by_cases e : i = j
        · rw [e]; exact hgj
        · exact q1 i (by omega) g2
/-- the one man of a set -/
theorem sure_ (hi : sr_i (M.1 1) W) (hg : g < 2 ^ nn (M.1 1) 2) (hg2 : g < 16384) : (∃ i, i < 14 ∧ g = 2 ^ i ∧ on1 g 14 = 1 ∧ f_X9_sure (nI g) M = some (nI i)) ∨ (on1 g 14 ≠ 1 ∧ f_X9_sure (nI g) M = some (-1)) := by
  have hn := (si_men hi).2
  obtain ⟨r, h1, h2⟩ := lo_sure hi hg2 (nn (M.1 1) 2) 0 (-1) um_N (by omega) (by unfold um_N; omega)
  have h1' : f_X9_sure (nI g) M = some r := by
    unfold f_X9_sure
    rw [bind_sm]
    exact h1
  rcases h2 with ⟨i, q1, q2, q3, q4⟩ | ⟨q1, q2⟩
  · exact Or.inl ⟨i, by omega, q3, (on1_one hg2).mpr ⟨i, by omega, q3⟩, by rw [h1', q4]⟩
  · refine Or.inr ⟨fun z => ?_, by rw [h1', q2]⟩
    obtain ⟨i, hi14, e⟩ := (on1_one hg2).mp z
    refine q1 i (by omega) ?_ e
    rw [e] at hg
    exact (Nat.pow_lt_pow_iff_right (by omega)).mp hg
theorem low1 (x : Int32) : x &&& 1 = 0 ∨ x &&& 1 = 1 := by
  have h : (x &&& 1).toBitVec = x.toBitVec &&& 1#32 := by rw [Int32.toBitVec_and]; rfl
  have h2 : (x.toBitVec &&& 1#32).toNat = x.toBitVec.toNat % 2 := by
    rw [BitVec.toNat_and]
    exact Nat.and_one_is_mod _
  have h3 := Nat.mod_lt x.toBitVec.toNat (show 0 < 2 by omega)
  by_cases h4 : x.toBitVec.toNat % 2 = 0
  · left
    apply Int32.toBitVec_inj.mp
    rw [h]
    apply BitVec.eq_of_toNat_eq
    rw [h2, h4]
    rfl
  · right
    apply Int32.toBitVec_inj.mp
    rw [h]
    apply BitVec.eq_of_toNat_eq
    rw [h2]
    have : x.toBitVec.toNat % 2 = 1 := by omega
    rw [this]
    rfl
theorem and_low (x y : Int32) : (x &&& y) &&& 1 = (x &&& 1) &&& (y &&& 1) := by
  rw [Int32.and_assoc, Int32.and_assoc, ← Int32.and_assoc 1 y 1, Int32.and_comm 1 y, Int32.and_assoc y 1 1, Int32.and_self]
theorem lo_skin (hs : sr X 1 (M.1 1) W n) {bt : Nat} (hb : bt < 8) (hg : g < 16384) : ∀ (k j acc fx fm : Nat), j + k = nn (M.1 1) 2 → k < fx → k < fm → ∃ r : Nat, r ≤ acc + k ∧ f_X4_withSkin_l5 1 (nI g) (nI bt) X fx (nI acc) (nI j) = some (nI r) ∧ f_X9_partsMost_l29 (nI g) v1 v2 (nI bt) M fm (nI acc) (nI j) = some (nI r) := by
  have hi := hs.2.1
  have hc := hs.1
  have hh : um_h 1 := Or.inl rfl
  obtain ⟨e1, hn⟩ := si_men hi
  intro k
  induction k with
  | zero =>
    intro j acc fx fm hj hfx hfm
    obtain ⟨fx, rfl⟩ : ∃ f, fx = f + 1 := ⟨fx - 1, by omega⟩
    obtain ⟨fm, rfl⟩ : ∃ f, fm = f + 1 := ⟨fm - 1, by omega⟩
    rw [f_X4_withSkin_l5, f_X9_partsMost_l29]
    exact ⟨acc, by omega, if_pos (by rw [cnt_x hs]; exact nI_le (by omega) (by omega)), if_pos (by rw [e1]; exact nI_le (by omega) (by omega))⟩
  | succ k ih =>
    intro j acc fx fm hj hfx hfm
    obtain ⟨fx, rfl⟩ : ∃ f, fx = f + 1 := ⟨fx - 1, by omega⟩
    obtain ⟨fm, rfl⟩ : ∃ f, fm = f + 1 := ⟨fm - 1, by omega⟩
    obtain ⟨r0, hr0, i01, i02⟩ := ih (j + 1) acc fx fm (by omega) (by omega) (by omega)
    obtain ⟨r1, hr1, i11, i12⟩ := ih (j + 1) (acc + 1) fx fm (by omega) (by omega) (by omega)
    rw [f_X4_withSkin_l5, f_X9_partsMost_l29]
    rw [if_neg (by rw [cnt_x hs]; exact nI_ge (by omega) (by omega)), if_neg (by rw [e1]; exact nI_ge (by omega) (by omega)), x_m3 hc hi hh (by omega), Option.bind_some, m_manAt, Option.bind_some, la_3, if_pos (um_ix_3 (by omega)), cl_3 (by omega), and_low, nI_1, ad_0]
    unfold um_let
    have n01 : ¬ (0 : Int32) = 1 := by decide
    rcases low1 (nI g >>> (nI j &&& 31)) with h1 | h1
    · rw [h1, if_neg n01, show (0 : Int32) &&& (M.1 1 (50 + 14 * j + 3) >>> (nI bt &&& 31) &&& 1) = 0 from Int32.zero_and, ad_0]
      exact ⟨r0, by omega, i01, i02⟩
    · rw [h1, if_pos rfl]
      rcases low1 (M.1 1 (50 + 14 * j + 3) >>> (nI bt &&& 31)) with h2 | h2
      · rw [h2, if_neg n01, show (1 : Int32) &&& 0 = 0 from Int32.and_zero, ad_0]
        exact ⟨r0, by omega, i01, i02⟩
      · rw [h2, if_pos rfl, show (1 : Int32) &&& 1 = 1 by decide, nI_1]
        exact ⟨r1, by omega, i11, i12⟩
theorem lo_part (hs : sr X 1 (M.1 1) W n) (hg : g < 16384) (h2 : 2 ≤ on1 g 14) : ∀ (k j : Nat) (bx lx bm lm : Int32) (fx fm : Nat), j + k = 8 → k < fx → k < fm → (j = 0 ∧ bx = 0 ∧ lx = 15 ∧ bm = -1 ∧ lm = 99 ∨ ∃ b t : Nat, b < 8 ∧ t ≤ 14 ∧ bx = nI b ∧ bm = nI b ∧ lx = nI t ∧ lm = nI t) → ∃ b : Nat, b < 8 ∧ f_X4_partingBit_l8 1 (nI g) X fx bx lx (nI j) = some (nI b) ∧ (f_X9_partsMost_l8 (nI g) M fm bm lm (nI j) = some (nI b)) := by
  have hon := on1_le g 14
  have hn := (si_men hs.2.1).2
  intro k
  induction k with
  | zero =>
    intro j bx lx bm lm fx fm hj hfx hfm hb
    obtain ⟨fx, rfl⟩ : ∃ f, fx = f + 1 := ⟨fx - 1, by omega⟩
    obtain ⟨fm, rfl⟩ : ∃ f, fm = f + 1 := ⟨fm - 1, by omega⟩
    rw [f_X4_partingBit_l8, f_X9_partsMost_l8]
    rcases hb with ⟨z, _⟩ | ⟨b, t, h1, _, e1, e2, _⟩
    · omega
    · rw [e1, e2]
      exact ⟨b, h1, if_pos (nI_le (a := 8) (by omega) (by omega)), if_pos (nI_le (a := 8) (by omega) (by omega))⟩
  | succ k ih =>
    intro j bx lx bm lm fx fm hj hfx hfm hb
    obtain ⟨fx, rfl⟩ : ∃ f, fx = f + 1 := ⟨fx - 1, by omega⟩
    obtain ⟨fm, rfl⟩ : ∃ f, fm = f + 1 := ⟨fm - 1, by omega⟩
    obtain ⟨w, hw, w1, w2⟩ := lo_skin (v1 := bm) (v2 := lm) hs (bt := j) (by omega) hg (nn (M.1 1) 2) 0 0 um_N um_N (by omega) (by unfold um_N; omega) (by unfold um_N; omega)
    rw [f_X4_partingBit_l8, f_X9_partsMost_l8]
    rw [if_neg (show ¬ (8 : Int32) ≤ nI j from nI_ge (b := 8) (by omega) (by omega)), if_neg (show ¬ (8 : Int32) ≤ nI j from nI_ge (b := 8) (by omega) (by omega))]
    unfold f_X4_withSkin
    rw [bind_sm]
    have w1' : f_X4_withSkin_l5 1 (nI g) (nI j) X um_N 0 0 = some (nI w) := w1
    have w2' : f_X9_partsMost_l29 (nI g) bm lm (nI j) M um_N 0 0 = some (nI w) := w2
    rw [w1', w2', bitCount_ hg, ones_ (by omega)]
    simp only [Option.bind_some, um_let]
    rw [if_neg (show ¬ nI (on1 g 14) ≤ (1 : Int32) from nI_ge (a := 1) (by omega) (by omega)), nI_1]
    have e1 := nI_subI (a := on1 g 14) (r := w) (by omega) (by omega)
    -- the greater half
    obtain ⟨y, hy⟩ : ∃ y : Int32, y = (if nI w < nI (on1 g 14) - nI w then nI (on1 g 14) - nI w else nI w) := ⟨_, rfl⟩
    have hyn : ∃ t : Nat, t ≤ 14 ∧ y = nI t := by
      rw [hy]
      by_cases hlt : nI w < nI (on1 g 14) - nI w
      · rw [if_pos hlt]
        rw [Int32.lt_iff_toInt_lt, e1, nI_toInt (by omega)] at hlt
        exact ⟨on1 g 14 - w, by omega, nI_sub (by omega)⟩
      · rw [if_neg hlt]
        exact ⟨w, by omega, rfl⟩
    obtain ⟨t, ht, et⟩ := hyn
    have hm : ∀ (K : Int32 → Option Int32), (if nI w ≤ nI (on1 g 14) - nI w then K (nI (on1 g 14) - nI w) else K (nI w)) = K (nI t) := by
      intro K
      rw [← et, hy]
      by_cases hlt : nI w < nI (on1 g 14) - nI w
      · have hle : nI w ≤ nI (on1 g 14) - nI w := by rw [Int32.le_iff_toInt_le]; rw [Int32.lt_iff_toInt_lt] at hlt; omega
        rw [if_pos hlt, if_pos hle]
      · rw [if_neg hlt]
        by_cases hle : nI w ≤ nI (on1 g 14) - nI w
        · rw [if_pos hle]
          congr 1
          apply Int32.toInt_inj.mp
          rw [Int32.lt_iff_toInt_lt] at hlt
          rw [Int32.le_iff_toInt_le] at hle
          omega
        · rw [if_neg hle]
    rw [← hy, et]
    have hm2 := hm (fun x8 => if lm ≤ x8 then (f_X9_least lm x8 M).bind fun x12 => f_X9_partsMost_l8 (nI g) M fm bm x12 (nI (j + 1)) else (f_X9_least lm x8 M).bind fun x12 => f_X9_partsMost_l8 (nI g) M fm (nI j) x12 (nI (j + 1)))
    rw [hm2]
    have take := ih (j + 1) (nI j) (nI t) (nI j) (nI t) fx fm (by omega) (by omega) (by omega) (Or.inr ⟨j, t, by omega, ht, rfl, rfl, rfl, rfl⟩)
    unfold f_X9_least
    rcases hb with ⟨z0, rfl, rfl, rfl, rfl⟩ | ⟨b, t0, h1, h3, rfl, rfl, rfl, rfl⟩
    · rw [if_neg (show ¬ (15 : Int32) ≤ nI t from nI_ge (b := 15) (by omega) (by omega)), if_neg (show ¬ (99 : Int32) ≤ nI t from nI_ge (b := 99) (by omega) (by omega)), if_pos (show nI t ≤ (99 : Int32) from nI_le (b := 99) (by omega) (by omega)), Option.bind_some]
      exact take
    · by_cases hle : t0 ≤ t
      · rw [if_pos (nI_le hle (by omega)), if_pos (nI_le hle (by omega))]
        have skip := ih (j + 1) (nI b) (nI t0) (nI b) (nI t0) fx fm (by omega) (by omega) (by omega) (Or.inr ⟨b, t0, h1, h3, rfl, rfl, rfl, rfl⟩)
        by_cases he : t = t0
        · subst he
          rw [if_pos (nI_le (Nat.le_refl _) (by omega)), Option.bind_some]
          exact skip
        · rw [if_neg (nI_ge (by omega) (by omega)), Option.bind_some]
          exact skip
      · rw [if_neg (nI_ge (by omega) (by omega)), if_neg (nI_ge (by omega) (by omega)), if_pos (nI_le (by omega) (by omega)), Option.bind_some]
        exact take
end MAY
theorem sim_mayR : sim_may RR := by
  intro n X M a1 a2 hR
  refine sm_ouv ?_ hR
  have hs := hR.1
  unfold f_X8_may f_X9_may
  refine sm_chk (ho_look hs.1 hs.2.1) (sm_ret rfl) (fun ⟨l, hl, el⟩ => ?_)
  subst el
  obtain ⟨g, hg1, hg2, w1, w2⟩ := who_ hs hl
  have hon := on1_le g 14
  rw [w1, w2, Option.bind_some, m_isIn, Int32.toInt_toInt64]
  have h0 : (0 : Int64).toInt = 0 := by decide
  have h2 : (2 : Int64).toInt = 2 := by decide
  have h032 : (0 : Int32).toInt = 0 := by decide
  rw [h0, h2]
  by_cases hc : 0 ≤ a2.toInt ∧ a2.toInt ≤ 2
  · obtain ⟨c, hc2, ec⟩ := nI_ofT hc.1 hc.2
    subst ec
    rw [decide_eq_true hc]
    refine sm_mb rfl (sm_mT (sm_mb rfl ?_))
    unfold f_X9_orNone
    have hcc : c = 0 ∨ c = 1 ∨ c = 2 := by omega
    rcases hcc with rfl | rfl | rfl
    · exact sm_xt rfl (sm_mt rfl (sm_ret rfl))
    · refine sm_xf (by decide) (sm_xt rfl (sm_mf (by decide) (sm_mt rfl ?_)))
      refine sm_xb (bitCount_ hg2) ?_
      rcases sure_ hs.2.1 hg1 hg2 with ⟨i, hi, ei, e1, e2⟩ | ⟨e1, e2⟩
      · rw [e1, e2]
        refine sm_xt rfl (sm_mb rfl ?_)
        rw [if_pos (nI_pos' (by omega))]
        rw [ei]
        exact sm_xb (ntz_ i hi) (sm_mb rfl (sm_ret rfl))
      · rw [e2]
        exact sm_xf (fun z => e1 ((nI_eq (b := 1) (by omega) (by omega)).mp z)) (sm_mb rfl (sm_mb rfl (sm_ret rfl)))
    · refine sm_xf (by decide) (sm_xf (by decide) (sm_xt rfl (sm_mf (by decide) (sm_mf (by decide) ?_))))
      refine sm_xb (bitCount_ hg2) ?_
      by_cases h14 : 2 ≤ on1 g 14
      · refine sm_xt (nI_le (a := 2) h14 (by omega)) ?_
        obtain ⟨b, hb, p1, p2⟩ := lo_part hs hg2 h14 8 0 0 15 (-1) 99 um_N um_N (by omega) (by unfold um_N; omega) (by unfold um_N; omega) (Or.inl ⟨rfl, rfl, rfl, rfl, rfl⟩)
        unfold f_X4_partingBit f_X9_partsMost
        simp only [bind_sm]
        have p1' : f_X4_partingBit_l8 1 (nI g) X um_N 0 15 0 = some (nI b) := p1
        have p2' : f_X9_partsMost_l8 (nI g) M um_N (-1) 99 0 = some (nI b) := p2
        rw [p1', p2', Option.bind_some, if_pos (nI_pos' (by omega))]
        exact sm_ret rfl
      · refine sm_xf (nI_ge (b := 2) (by omega) (by omega)) ?_
        have e : f_X9_partsMost (nI g) M = some (-1) := by
          unfold f_X9_partsMost
          rw [bind_sm, show um_N = 4095 + 1 from rfl, f_X9_partsMost_l8, if_neg (by decide), ones_ (by omega), Option.bind_some]
          exact if_pos (nI_le (b := 1) (by omega) (by omega))
        exact sm_mb e (sm_mb rfl (sm_ret rfl))
  · rw [decide_eq_false hc]
    refine sm_mb rfl (sm_mF ?_)
    have e0 : (1 : Int32).toInt = 1 := by decide
    have e22 : (2 : Int32).toInt = 2 := by decide
    exact sm_xf (fun z => hc (by rw [z, h032]; omega)) (sm_xf (fun z => hc (by rw [z, e0]; omega)) (sm_xf (fun z => hc (by rw [z, e22]; omega)) (sm_ret rfl)))
theorem sim_sameR : sim_same RR := by
  intro n X M a1 a2 hR
  refine sm_ouv ?_ hR
  have hs := hR.1
  unfold f_X8_same f_X9_same
  refine sm_chk (ho_look hs.1 hs.2.1) (sm_ret rfl) (fun ⟨l, hl, el⟩ => ?_)
  subst el
  refine sm_chk (ho_look hs.1 hs.2.1) (sm_ret rfl) (fun ⟨l2, hl2, el2⟩ => ?_)
  subst el2
  refine sm_if Iff.rfl (fun _ => sm_ret rfl) (fun _ => ?_)
  obtain ⟨g, hg1, hg2, w1, w2⟩ := who_ hs hl
  obtain ⟨g', hg1', hg2', w1', w2'⟩ := who_ hs hl2
  have hon := on1_le g 14
  refine sm_xb w1 (sm_xb w1' (sm_mb w2 (sm_mb w2' ?_)))
  have hk : sm_S (if (nI g &&& nI g') = 0 then some (0 : Int32) else some (1 : Int32)) (if (nI g &&& nI g') = 0 then some (0 : Int32) else some (1 : Int32)) (fun a b => a = b) := sm_if Iff.rfl (fun _ => sm_ret rfl) (fun _ => sm_ret rfl)
  rcases sure_ hs.2.1 hg1 hg2 with ⟨i, hi, ei, e1, e2⟩ | ⟨e1, e2⟩
  · refine sm_mb e2 (sm_xl (sm_ml (sm_mf (nI_pos (by omega)) (sm_if Iff.rfl (fun _ => ?_) (fun _ => hk)))))
    refine sm_xb (bitCount_ hg2) ?_
    rw [e1]
    exact sm_xt rfl (sm_ret rfl)
  · refine sm_mb e2 (sm_xl (sm_ml (sm_mt (by decide) (sm_xi (fun _ => ?_) (fun _ => hk)))))
    refine sm_xb (bitCount_ hg2) ?_
    exact sm_xf (fun z => e1 ((nI_eq (b := 1) (by omega) (by omega)).mp z)) hk
