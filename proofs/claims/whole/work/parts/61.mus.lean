/-! LEVEL 2: musters -/
theorem sxn (x : BitVec 32) {v : Nat} (h : v ≤ 32) : x.signExtend v = x.setWidth v := by
  apply BitVec.eq_of_getLsbD_eq
  intro i hi
  rw [BitVec.getLsbD_signExtend, BitVec.getLsbD_setWidth, if_pos (by omega)]
theorem sxs (x : BitVec 32) {v w : Nat} (hw : w + v = 32) (hv : 0 < v) : (x <<< w).sshiftRight w = (x.setWidth v).signExtend 32 := by
  apply BitVec.eq_of_getLsbD_eq
  intro i hi
  rw [BitVec.getLsbD_sshiftRight, BitVec.getLsbD_signExtend]
  have hm : (x.setWidth v).msb = x.getLsbD (v - 1) := by
    rw [BitVec.msb_eq_getLsbD_last, BitVec.getLsbD_setWidth]
    simp [show v - 1 < v by omega]
  have hm2 : (x <<< w).msb = x.getLsbD (v - 1) := by
    rw [BitVec.msb_eq_getLsbD_last, BitVec.getLsbD_shiftLeft]
    simp [show ¬ 31 < w by omega, show 31 - w = v - 1 by omega]
  rw [hm, hm2]
  by_cases h8 : i < v
  · rw [if_pos (by omega), if_pos h8, BitVec.getLsbD_shiftLeft, BitVec.getLsbD_setWidth]
    simp [show ¬ 32 ≤ i by omega, h8, hi, show w + i < 32 by omega]
  · rw [if_neg (by omega), if_neg h8]
    simp [show ¬ 32 ≤ i by omega, hi]
theorem sx8 (a : Int32) : (a <<< ((24 : Int32) &&& 31)) >>> ((24 : Int32) &&& 31) = a.toInt8.toInt32 := by
  apply Int32.toBitVec_inj.mp
  have e1 : ((a <<< ((24 : Int32) &&& 31)) >>> ((24 : Int32) &&& 31)).toBitVec = (a.toBitVec <<< 24).sshiftRight 24 := rfl
  rw [e1, Int8.toBitVec_toInt32, Int32.toBitVec_toInt8, sxn _ (by omega)]
  exact sxs _ (by omega) (by omega)
theorem sx16 (a : Int32) : (a <<< ((16 : Int32) &&& 31)) >>> ((16 : Int32) &&& 31) = a.toInt16.toInt32 := by
  apply Int32.toBitVec_inj.mp
  have e1 : ((a <<< ((16 : Int32) &&& 31)) >>> ((16 : Int32) &&& 31)).toBitVec = (a.toBitVec <<< 16).sshiftRight 16 := rfl
  rw [e1, Int16.toBitVec_toInt32, Int32.toBitVec_toInt16, sxn _ (by omega)]
  exact sxs _ (by omega) (by omega)
/-- what holds of musters -/
def mu (X M : um_S) : Prop := (∀ k, k < 4 → X.1 13 k = M.1 4 k ∧ (M.1 4 k = -1 ∨ M.1 4 k = 0 ∨ M.1 4 k = 1) ∧ ∃ z : Nat, z ≤ 24 ∧ X.1 114 k = nI z ∧ M.1 5 k = nI z) ∧ (∀ j, j < 96 → X.1 115 j = M.1 6 j)
section MUS
variable {X X' M M' : um_S} {n k p z : Nat} {a b d : Int32}
theorem RR_mu (hR : RR n X M) (hx : ∀ k j, k ≠ 13 → k ≠ 114 → k ≠ 115 → k ≠ 16 → X'.1 k j = X.1 k j) (hx2 : X'.2 = X.2) (hm : ∀ k j, k ≠ 4 → k ≠ 5 → k ≠ 6 → k ≠ 14 → M'.1 k j = M.1 k j) (h : mu X' M') : RR n X' M' := by
  obtain ⟨r1, r2, r2b, ⟨y, b1, b2, b3, b4⟩, ⟨w, c1, c2, c3, c4⟩⟩ := hR.2
  refine RR_nx hR ⟨fun k j hk => hx k j (by omega) (by omega) (by omega) (by omega), hx2⟩ ⟨fun k j hk => hx k j (by omega) (by omega) (by omega) (by omega), hx2⟩ (funext fun j => hm _ j (by omega) (by omega) (by omega) (by omega)) (funext fun j => hm _ j (by omega) (by omega) (by omega) (by omega)) (hx _ _ (by omega) (by omega) (by omega) (by omega)) (hm _ _ (by omega) (by omega) (by omega) (by omega)) h ⟨y, b1, ?_, ?_, ?_⟩ ⟨w, c1, ?_, ?_, ?_⟩
  · rw [hx _ _ (by omega) (by omega) (by omega) (by omega)]; exact b2
  · rw [hm _ _ (by omega) (by omega) (by omega) (by omega)]; exact b3
  · intro j hj
    rw [hx _ _ (by omega) (by omega) (by omega) (by omega), hm _ _ (by omega) (by omega) (by omega) (by omega)]; exact b4 j hj
  · rw [hx _ _ (by omega) (by omega) (by omega) (by omega)]; exact c2
  · rw [hm _ _ (by omega) (by omega) (by omega) (by omega)]; exact c3
  · intro j hj
    rw [hx _ _ (by omega) (by omega) (by omega) (by omega), hm _ _ (by omega) (by omega) (by omega) (by omega)]; exact c4 j hj
theorem x_isOne : f_X2_isOne a X = some (decide (0 ≤ a.toInt ∧ a.toInt ≤ 3)) := by
  unfold f_X2_isOne
  have h0 : (0 : Int32).toInt = 0 := by decide
  have h4 : (nI 4).toInt = 4 := by decide
  simp only [Int32.lt_iff_toInt_lt, Int32.le_iff_toInt_le, h0, h4]
  split
  · rw [decide_eq_false (by omega)]
  · split
    · rw [decide_eq_false (by omega)]
    · rw [decide_eq_true (by omega)]
theorem m_isMuster : f_X9_isMuster a M = some (decide (0 ≤ a.toInt ∧ a.toInt ≤ 3)) := by
  unfold f_X9_isMuster
  rw [bind_sm, m_isIn, Int32.toInt_toInt64, show (0 : Int64).toInt = 0 by decide, show (3 : Int64).toInt = 3 by decide]
theorem mu_one : sm_S (f_X2_isOne a X) (f_X9_isMuster a M) (fun x y => x = y ∧ (x = true → ∃ k : Nat, k < 4 ∧ a = nI k)) := by
  refine sm_of x_isOne m_isMuster ⟨rfl, fun h => ?_⟩
  obtain ⟨h1, h2⟩ := of_decide_eq_true h
  obtain ⟨k, hk, e⟩ := nI_ofT h1 h2
  exact ⟨k, by omega, e⟩
theorem x_sortOf (hk : k < 4) : f_X2_sortOf (nI k) X = some (X.1 13 k) := by
  unfold f_X2_sortOf
  rw [if_neg (nI_pos (by omega)), if_neg (nI_ge hk (by omega)), if_pos (um_ix_nI hk (by omega)), nI_clamp (by omega)]
theorem x_isMissing (hk : k < 4) : f_X2_isMissing (nI k) X = some (decide (X.1 13 k = -1)) := by
  unfold f_X2_isMissing
  rw [x_sortOf hk, Option.bind_some]
  split
  · rename_i h; rw [decide_eq_true h]
  · rename_i h; rw [decide_eq_false h]
theorem x_hasRow (hk : k < 4) (hz : z ≤ 24) (ez : X.1 114 k = nI z) : f_X2_hasRow (nI k) a b X = some (decide (0 ≤ a.toInt ∧ 0 ≤ b.toInt ∧ a.toInt + b.toInt ≤ z)) := by
  unfold f_X2_hasRow
  rw [g_14 hk, Option.bind_some, ez]
  have h0 : (0 : Int32).toInt = 0 := by decide
  have hz2 : (nI z).toInt = (z : Int) := nI_toInt (by omega)
  simp only [Int32.lt_iff_toInt_lt, h0, hz2]
  by_cases h1 : a.toInt < 0
  · rw [if_pos h1, decide_eq_false (by omega)]
  · rw [if_neg h1]
    by_cases h2 : b.toInt < 0
    · rw [if_pos h2, decide_eq_false (by omega)]
    · rw [if_neg h2]
      by_cases h3 : (z : Int) < a.toInt
      · rw [if_pos h3, decide_eq_false (by omega)]
      · rw [if_neg h3]
        have e : (nI z - a).toInt = (z : Int) - a.toInt := by
          rw [Int32.toInt_sub, hz2, Int.bmod_def]
          split <;> omega
        rw [e]
        by_cases h4 : (z : Int) - a.toInt < b.toInt
        · rw [if_pos h4, decide_eq_false (by omega)]
        · rw [if_neg h4, decide_eq_true (by omega)]
/-- there is such a place -/
def hp (M : um_S) (a b : Int32) : Prop := ∃ k p z : Nat, k < 4 ∧ p < z ∧ z ≤ 24 ∧ a = nI k ∧ b = nI p ∧ M.1 5 k = nI z ∧ (M.1 4 k = 0 ∨ M.1 4 k = 1)
theorem mu_find (h : mu X M) : sm_S (f_X2_finding a b X) (f_X9_lacks a b M) (fun x y => x = y ∧ (x = 0 → hp M a b)) := by
  unfold f_X2_finding f_X9_lacks
  refine sm_chk mu_one (sm_ret ⟨rfl, fun z => absurd z (by decide)⟩) (fun ⟨k, hk, ek⟩ => ?_)
  subst ek
  obtain ⟨e1, e2, z, hz, ex, em⟩ := h.1 k hk
  refine sm_mt (um_ix_nI hk (by omega)) ?_
  rw [x_isMissing hk, e1, nI_clamp (by omega)]
  rcases e2 with e2 | e2
  · rw [e2]
    exact sm_xb rfl (sm_mf (by decide) (sm_ret ⟨rfl, fun z => absurd z (by decide)⟩))
  · have hn1 : M.1 4 k ≠ -1 := by rcases e2 with e2 | e2 <;> rw [e2] <;> decide
    have hn0 : 0 ≤ M.1 4 k := by rcases e2 with e2 | e2 <;> rw [e2] <;> decide
    rw [decide_eq_false hn1]
    refine sm_xb rfl (sm_xF (sm_mt hn0 (sm_mt (um_ix_nI hk (by omega)) ?_)))
    rw [x_hasRow hk hz ex, m_isIn, Int32.toInt_toInt64, Int32.toInt_toInt64, em, nI_m1 (by omega), show (0 : Int64).toInt = 0 by decide, show (1 : Int32).toInt = 1 by decide]
    refine sm_xb rfl (sm_mb rfl ?_)
    by_cases hb : 0 ≤ b.toInt ∧ b.toInt ≤ (z : Int) - 1
    · rw [decide_eq_true hb, decide_eq_true (show 0 ≤ b.toInt ∧ (0 : Int) ≤ 1 ∧ b.toInt + 1 ≤ z by omega)]
      obtain ⟨p, hpp, ep⟩ := nI_ofT hb.1 hb.2
      exact sm_xT (sm_mT (sm_ret ⟨rfl, fun _ => ⟨k, p, z, hk, by omega, hz, rfl, ep, em, e2⟩⟩))
    · rw [decide_eq_false hb, decide_eq_false (show ¬ (0 ≤ b.toInt ∧ (0 : Int) ≤ 1 ∧ b.toInt + 1 ≤ z) by omega)]
      exact sm_xF (sm_mF (sm_ret ⟨rfl, fun z => absurd z (by decide)⟩))
theorem mu_of (hR : RR n X M) : mu X M := ⟨hR.2.2.1, hR.2.2.2.1⟩
theorem lb24 {x y : Nat} : (24 : Int32) * nI x + nI y = nI (24 * x + y) := by rw [lm_24, nI_add]
end MUS
theorem sim_putR : sim_put RR := by
  intro n X M a1 a2 a3 hR
  refine sm_out ?_
  have hmu := mu_of hR
  unfold f_X8_put f_X9_put
  refine sm_bind (mu_find hmu) (fun x y ⟨e, hx⟩ => ?_)
  subst e
  refine sm_if Iff.rfl (fun h0 => ?_) (fun _ => sm_ret ⟨rfl, hR⟩)
  obtain ⟨k, p, z, hk, hp, hz, e1, e2, e3, e4⟩ := hx h0
  subst e1
  subst e2
  unfold f_X2_write
  rw [x_sortOf hk, Option.bind_some, (hmu.1 k hk).1, lb24]
  refine sm_mt (um_ix_nI hk (by omega)) ?_
  rw [nI_clamp (n := k) (by omega)]
  have fin : ∀ v : Int32, RR n (um_wr X 115 (24 * k + p) v) (um_wr M 6 (24 * k + p) v) := by
    intro v
    refine RR_mu hR (fun q j h1 h2 h3 h4 => um_wr_nk h3) rfl (fun q j h1 h2 h3 h4 => um_wr_nk h3) ⟨fun q hq => ?_, fun j hj => ?_⟩
    · rw [um_wr_nk (by omega), um_wr_nk (by omega), um_wr_nk (by omega), um_wr_nk (by omega)]
      exact hmu.1 q hq
    · by_cases e : j = 24 * k + p
      · subst e
        rw [um_wr_at, um_wr_at]
      · rw [um_wr_an e, um_wr_an e]
        exact hmu.2 j hj
  rw [s_15 hk (by omega), s_15 hk (by omega), sx8, sx16, nI_clamp (n := 24 * k + p) (by omega)]
  by_cases h : M.1 4 k = 0
  · rw [if_pos h]
    exact sm_mt h (sm_mt (um_ix_nI (by omega) (by omega)) (sm_ml (sm_ret ⟨rfl, fin _⟩)))
  · rw [if_neg h]
    exact sm_mf h (sm_mt (um_ix_nI (by omega) (by omega)) (sm_ml (sm_ret ⟨rfl, fin _⟩)))
