/-! LEVEL 2: trim, tell, as, runs, assign, mark -/
section CAL
variable {X X' M M' : um_S} {h n W m q : Nat} {s : Nat → Int32} {v : Int32}
theorem RR_nx (hR : RR n X M) (h1 : xa 1 X X') (h2 : xa 2 X X') (e1 : M'.1 1 = M.1 1) (e2 : M'.1 2 = M.1 2) (e3 : X'.1 0 3 = X.1 0 3) (e4 : M'.1 0 3 = M.1 0 3)
    (r2 : (∀ k, k < 4 → X'.1 13 k = M'.1 4 k ∧ (M'.1 4 k = -1 ∨ M'.1 4 k = 0 ∨ M'.1 4 k = 1) ∧ ∃ z : Nat, z ≤ 24 ∧ X'.1 114 k = nI z ∧ M'.1 5 k = nI z) ∧ (∀ j, j < 96 → X'.1 115 j = M'.1 6 j))
    (r3 : ∃ z : Nat, z ≤ 60 ∧ X'.1 0 8 = nI z ∧ M'.1 0 27 = nI z ∧ ∀ j, j < z → X'.1 7 j = M'.1 15 j)
    (r4 : ∃ z : Nat, z ≤ 96 ∧ X'.1 4 1 = nI z ∧ M'.1 0 8 = nI z ∧ ∀ j, j < z → X'.1 8 j &&& 255 = M'.1 7 j ∧ ∃ b : Nat, b ≤ 255 ∧ M'.1 7 j = nI b) : RR n X' M' := by
  refine ⟨?_, ⟨?_, ?_⟩, r2.1, r2.2, r3, r4⟩
  · rw [e1]; exact sr_xa (Or.inl rfl) h1 hR.1
  · rw [e3, e4]; exact hR.2.1.1
  · rw [e4, e2]
    exact fun z => sr_xa (Or.inr (Or.inl rfl)) h2 (hR.2.1.2 z)
theorem xa_wr {k i : Nat} (hk : ¬ (k = h ∨ (20 * h ≤ k ∧ k < 20 * h + 20) ∨ (20 * h + 100 ≤ k ∧ k < 20 * h + 120) ∨ (300 ≤ k ∧ k % 3 ≠ 2))) : xa h X (um_wr X k i v) := ⟨fun k2 j hk2 => um_wr_nk (fun z => by subst z; exact hk hk2), rfl⟩
theorem xa_trans {X2 : um_S} (a : xa h X X') (b : xa h X' X2) : xa h X X2 := ⟨fun k j hk => by rw [b.1 k j hk, a.1 k j hk], by rw [b.2, a.2]⟩
theorem sim_trimR : sim_trim RR := by
  intro n X M a1 hR
  refine sm_out ?_
  obtain ⟨r1, r2, r2b, r3, ⟨z, c1, c2, c3, c4⟩⟩ := hR.2
  unfold f_X8_trim f_X9_trim
  refine sm_chk (wi_ (by decide) (by rw [c2, c3, Int32.toInt_toInt64])) (sm_ret ⟨rfl, hR⟩) (fun hw => ?_)
  rw [c2, nI_toInt (by omega)] at hw
  obtain ⟨y, hy, ey⟩ := nI_ofT (a := a1) (u := z) (by have : (0 : Int32).toInt = 0 := by decide
                                                      omega) hw.2
  refine sm_xl (sm_ml (sm_ret ⟨rfl, RR_nx hR (xa_wr (by omega)) (xa_wr (by omega)) (um_wr_ne (by omega)) (um_wr_ne (by omega)) (um_wr_nk (by omega)) (um_wr_an (by omega)) ⟨?_, ?_⟩ ?_ ?_⟩))
  · intro k hk
    rw [um_wr_nk (by omega), um_wr_nk (by omega), um_wr_nk (by omega), um_wr_nk (by omega)]
    exact r2 k hk
  · intro j hj
    rw [um_wr_nk (by omega), um_wr_nk (by omega)]
    exact r2b j hj
  · obtain ⟨z2, b1, b2, b3, b4⟩ := r3
    refine ⟨z2, b1, ?_, ?_, fun j hj => ?_⟩
    · rw [um_wr_nk (by omega)]; exact b2
    · rw [um_wr_an (by omega)]; exact b3
    · rw [um_wr_nk (by omega), um_wr_nk (by omega)]; exact b4 j hj
  · refine ⟨y, by omega, ?_, ?_, fun j hj => ?_⟩
    · rw [um_wr_at]; exact ey
    · rw [um_wr_at]; exact ey
    · rw [um_wr_nk (by omega), um_wr_nk (by omega)]; exact c4 j (by omega)
theorem sim_tellR : sim_tell RR := by
  intro n X M a1 hR
  refine sm_out ?_
  obtain ⟨r1, r2, r2b, ⟨z, b1, b2, b3, b4⟩, r4⟩ := hR.2
  unfold f_X8_tell f_X9_tell
  refine sm_xf (by rw [b2]; exact nI_pos (by omega)) ?_
  by_cases hz : z = 60
  · refine sm_xf (by rw [b2, hz]; exact nI_nlt (by omega) (by omega)) (sm_mt (by rw [b3, hz]; rfl) (sm_ret ⟨rfl, hR⟩))
  · refine sm_xt (by rw [b2]; exact nI_lt (by omega) (by omega)) (sm_xt (by rw [b2]; exact um_ix_nI (by omega) (by omega)) (sm_mf (by rw [b3]; exact fun y => hz ((nI_eq (b := 60) (by omega) (by omega)).mp y)) (sm_mt (by rw [b3]; exact um_ix_nI (by omega) (by omega)) ?_)))
    rw [b2, b3, nI_clamp (by omega)]
    refine sm_xl (sm_ml ?_)
    rw [um_wr_nk (by omega), um_wr_nk (by omega), b2, b3, nI_1]
    refine sm_xl (sm_ml ?_)
    rw [um_wr_at, um_wr_at]
    refine sm_ret ⟨rfl, RR_nx hR (xa_trans (xa_wr (by omega)) (xa_wr (by omega))) (xa_trans (xa_wr (by omega)) (xa_wr (by omega))) ?_ ?_ ?_ ?_ ⟨?_, ?_⟩ ?_ ?_⟩
    · rw [um_wr_ne (by omega), um_wr_ne (by omega)]
    · rw [um_wr_ne (by omega), um_wr_ne (by omega)]
    · rw [um_wr_an (by omega), um_wr_nk (by omega)]
    · rw [um_wr_an (by omega), um_wr_nk (by omega)]
    · intro k hk
      rw [um_wr_nk (by omega), um_wr_nk (by omega), um_wr_nk (by omega), um_wr_nk (by omega), um_wr_nk (by omega), um_wr_nk (by omega), um_wr_nk (by omega), um_wr_nk (by omega)]
      exact r2 k hk
    · intro j hj
      rw [um_wr_nk (by omega), um_wr_nk (by omega), um_wr_nk (by omega), um_wr_nk (by omega)]
      exact r2b j hj
    · refine ⟨z + 1, by omega, um_wr_at _ _ _ _, um_wr_at _ _ _ _, fun j hj => ?_⟩
      change (um_wr (um_wr X 7 z a1) 0 8 (nI (z + 1))).1 7 j = (um_wr (um_wr M 15 z a1) 0 27 (nI (z + 1))).1 15 j
      rw [um_wr_nk (show (7 : Nat) ≠ 0 by omega), um_wr_nk (show (15 : Nat) ≠ 0 by omega)]
      by_cases e : j = z
      · subst e
        rw [um_wr_at, um_wr_at]
      · rw [um_wr_an e, um_wr_an e]
        exact b4 j (by omega)
    · obtain ⟨z2, c1, c2, c3, c4⟩ := r4
      refine ⟨z2, c1, ?_, ?_, fun j hj => ?_⟩
      · rw [um_wr_nk (by omega), um_wr_nk (by omega)]; exact c2
      · rw [um_wr_an (by omega), um_wr_nk (by omega)]; exact c3
      · rw [um_wr_nk (by omega), um_wr_nk (by omega), um_wr_nk (by omega), um_wr_nk (by omega)]; exact c4 j hj
/-- kinds under one another -/
def und (k w : Nat) : Bool := decide (w = 0 ∨ w = k ∨ (w = 1 ∧ (k ≤ 4 ∨ k = 7)))
set_option maxRecDepth 20000 in
theorem x_isUnder {k w : Nat} (h1 : 1 ≤ k) (h2 : k ≤ 7) (hw : w ≤ 7) : f_X8_isUnder (nI k) (nI w) X = some (und k w) := by
  have hk : k = 1 ∨ k = 2 ∨ k = 3 ∨ k = 4 ∨ k = 5 ∨ k = 6 ∨ k = 7 := by omega
  have hw' : w = 0 ∨ w = 1 ∨ w = 2 ∨ w = 3 ∨ w = 4 ∨ w = 5 ∨ w = 6 ∨ w = 7 := by omega
  have e : um_N = 4092 + 4 := rfl
  unfold f_X8_isUnder
  rw [e]
  rcases hk with rfl | rfl | rfl | rfl | rfl | rfl | rfl <;> rcases hw' with rfl | rfl | rfl | rfl | rfl | rfl | rfl | rfl <;> rfl
theorem sim_asR : sim_as RR := by
  intro n X M a1 a2 hR
  refine sm_ouv ?_ hR
  have hi := hR.1.2.1
  have hc := hR.1.1
  have hh : um_h 1 := Or.inl rfl
  have hn := (si_men hi).2
  unfold f_X8_as f_X9_as
  refine sm_chk (ho_man hc hi) (sm_ret rfl) (fun ⟨m, hm, em⟩ => ?_)
  subst em
  refine sm_chk (wi_0 (n := 7) (by decide) (by decide)) (sm_ret rfl) (fun ⟨w, hw, ew⟩ => ?_)
  subst ew
  obtain ⟨⟨k, hk1, hk2, ek⟩, _⟩ := si_man hi m hm
  rw [x_m5 hc hi hh hm, x_m6 hc hi hh hm, m_kindOf (by omega)]
  simp only [Option.bind_some]
  rw [ek, x_isUnder hk1 hk2 hw, m_isIn, m_manAt]
  have e1 : (1 : Int64).toInt = 1 := by decide
  have e4 : (4 : Int64).toInt = 4 := by decide
  rw [Int32.toInt_toInt64, nI_toInt (by omega), e1, e4]
  simp (disch := omega) only [um_let, Option.bind_some, la_6, um_ix_3, cl_3, if_true]
  have hk : k = 1 ∨ k = 2 ∨ k = 3 ∨ k = 4 ∨ k = 5 ∨ k = 6 ∨ k = 7 := by omega
  have hw' : w = 0 ∨ w = 1 ∨ w = 2 ∨ w = 3 ∨ w = 4 ∨ w = 5 ∨ w = 6 ∨ w = 7 := by omega
  rcases hk with rfl | rfl | rfl | rfl | rfl | rfl | rfl <;> rcases hw' with rfl | rfl | rfl | rfl | rfl | rfl | rfl | rfl <;> exact ⟨_, _, rfl, rfl, rfl⟩
theorem sim_runsR : sim_runs RR := by
  intro n X M a1 hR
  refine sm_out ?_
  have hi := hR.1.2.1
  have hc := hR.1.1
  have hh : um_h 1 := Or.inl rfl
  have hm14 := (si_men hi).2
  unfold f_X8_runs f_X9_runs
  refine sm_chk (ho_man hc hi) (sm_ret ⟨rfl, hR⟩) (fun ⟨m, hm, em⟩ => ?_)
  subst em
  have ho := si_man hi m hm
  refine sm_dec (x_isServing hc hh hm hm14) (m_isHeld (by omega)) (fun _ => sm_ret ⟨rfl, hR⟩) (fun hs => ?_)
  have hk := (held_k ho.1).mp (of_decide_eq_true hs)
  have hop := out_pl ho hk
  refine sm_xb (x_isAtPlace hc hh hm hm14 ho) (sm_mb (m_isOut (by omega)) ?_)
  by_cases hp : M.1 1 (50 + 14 * m + 4) = -1
  · rw [decide_eq_false (fun z => z hp), decide_eq_true (hop.mpr hp)]
    exact sm_ret ⟨rfl, hR⟩
  · rw [decide_eq_true hp, decide_eq_false (fun z => hp (hop.mp z))]
    have e2 : ∀ (Y : um_S) (v : Int32), f_X5_set (20 * 1 + 1) (nI m) (4 : Int32) v Y = some (um_wr Y (20 * 1 + 1 + 100) (14 * m + 4) v) := fun Y v => s_1 (c := 4) hh (by omega) (by omega)
    have en : eN (M.1 1 (50 + 14 * m + 4)) = M.1 1 (50 + 14 * m + 4) := if_neg hp
    refine sm_xT (sm_mF ?_)
    rw [x_m4 hc hi hh hm, Option.bind_some, en, x_become hh (by omega), Option.bind_some, e2, Option.bind_some]
    simp (disch := omega) only [um_let, Option.bind_some, m_manAt, la_4, um_ix_3, cl_3, if_true, m_becomesOf]
    refine sm_ret ⟨rfl, RR_of hR ?_ (xf_trans bec_xf (xf_wr (by omega))) (mf_trans bec_mf (mf_wr 1 (Or.inl rfl)))⟩
    rw [um_wr_eq, bec_s1]
    obtain ⟨o1, o2, o3, o4, o5, o6, o7, o8, o9⟩ := ho
    refine sr_man hR.1 (sc_wm (c := 4) (w := -1) (sc_bec hc (si_sb hi) hh hm) (sb_up (sb_up (sb_up (si_sb hi) (by omega)) (by omega)) (by omega)) hh (m := m) (by rw [nn_up (by omega), nn_up (by omega), nn_up (by omega)]; exact hm) (by omega) eN_m) (fun k j hk h3 => by rw [um_wr_nk (by omega)]; exact bec_hX hh k j hk h3) rfl hm (fun b hb => by rw [up_ne (by omega), up_ne (by omega), up_ne (by omega), up_ne (by omega)]) (fun z => by rw [up_ne (by omega), up_ne (by omega), up_ne (by omega), up_ne (by omega)]; exact z) ?_
    have hpl : pl (M.1 1 (50 + 14 * m + 4)) := by
      rcases o2 with z | z
      · exact absurd z hp
      · exact z
    change mo (up (up (up (up (M.1 1) (50 + 14 * m + 5) 7) (50 + 14 * m + 6) (M.1 1 (50 + 14 * m + 4))) (50 + 14 * m + 7) (M.1 1 0)) (50 + 14 * m + 4) (-1)) m
    refine mo_of (K := nn (M.1 1) 3) (f2 := M.1 1 (50 + 14 * m + 2)) (f4 := -1) (f5 := 7) (f6 := M.1 1 (50 + 14 * m + 4)) (f10 := M.1 1 (50 + 14 * m + 10)) (f11 := M.1 1 (50 + 14 * m + 11)) ?_ ?_ ?_ ?_ ?_ ?_ ?_ ⟨⟨7, by omega, by omega, rfl⟩, Or.inl rfl, o3, fun _ => rfl, fun z => absurd rfl z, fun ⟨k, z1, z2, z3⟩ => ?_, fun _ => ⟨o5 hp, hpl⟩, fun z => absurd z (by decide), o9⟩
    · rw [up_ne (by omega), up_ne (by omega), up_ne (by omega), up_ne (by omega)]
    · rw [up_eq]
    · rw [up_ne (by omega), up_ne (by omega), up_ne (by omega), up_eq]
    · rw [up_ne (by omega), up_ne (by omega), up_eq]
    · rw [up_ne (by omega), up_ne (by omega), up_ne (by omega), up_ne (by omega)]
    · rw [up_ne (by omega), up_ne (by omega), up_ne (by omega), up_ne (by omega)]
    · rw [nn_up (by omega), nn_up (by omega), nn_up (by omega), nn_up (by omega)]
    · have := (nI_eq (a := 7) (by omega) (by omega)).mp z3
      omega
/-- whom a master wants -/
def wn (s : Nat → Int32) (m q : Nat) : Bool := decide (s (250 + 4 * q) = s (50 + 14 * m + 4)) && decide (((s (250 + 4 * q + 1) >>> (s (50 + 14 * m + 1) &&& 31)) &&& 1) = 1)
theorem wn_pl (h : wn s m q = true) : s (250 + 4 * q) = s (50 + 14 * m + 4) := by
  unfold wn at h
  rw [Bool.and_eq_true] at h
  exact of_decide_eq_true h.1
theorem m_wants (hm : m < 14) (hq : q < 6) : f_X9_wants (nI q) (nI m) M = some (wn (M.1 1) m q) := by
  unfold f_X9_wants wn
  rw [m_masterAt]
  simp (disch := omega) only [Option.bind_some, m_manAt, la_4, la_1, um_ix_3, cl_3, if_true]
  by_cases h1 : M.1 1 (250 + 4 * q) = M.1 1 (50 + 14 * m + 4)
  · rw [if_pos h1, decide_eq_true h1, Bool.true_and]
    by_cases h2 : ((M.1 1 (250 + 4 * q + 1) >>> (M.1 1 (50 + 14 * m + 1) &&& 31)) &&& 1) = 1
    · rw [if_pos h2, decide_eq_true h2]
    · rw [if_neg h2, decide_eq_false h2]
  · rw [if_neg h1, decide_eq_false h1, Bool.false_and]
theorem wn_no (hi : sr_i s W) (hq : q < nn s 3) (h0 : s (50 + 14 * m + 4) = -1) : wn s m q = false := by
  obtain ⟨p, hp, ep⟩ := (si_master hi q hq).1
  rw [Bool.eq_false_iff]
  intro z
  have := wn_pl z
  rw [h0, ep] at this
  exact nI_nneg (by omega) this
theorem x_isWantedBy (hc : sr_c X h s) (hi : sr_i s W) (hh : um_h h) (hm : m < nn s 2) (hq : q < nn s 3) : f_X4_isWantedBy h (nI m) (nI q) X = some (wn s m q) := by
  have hm14 := (si_men hi).2
  have ho := si_man hi m hm
  unfold f_X4_isWantedBy
  rw [x_isAtPlace hc hh hm hm14 ho, Option.bind_some]
  by_cases h0 : s (50 + 14 * m + 4) = -1
  · rw [decide_eq_false (fun z => z h0), wn_no hi hq h0]
    exact if_pos (by decide)
  · rw [decide_eq_true h0, if_neg (by decide), x_m4 hc hi hh hm, x_p2_0 hc hi hh hq, x_p2_1 hc hi hh hq, x_m1 hc hi hh hm]
    simp only [Option.bind_some]
    rw [show eN (s (50 + 14 * m + 4)) = s (50 + 14 * m + 4) from if_neg h0]
    unfold wn
    by_cases h1 : s (50 + 14 * m + 4) = s (250 + 4 * q)
    · rw [if_pos h1, decide_eq_true h1.symm, Bool.true_and]
      by_cases h2 : ((s (250 + 4 * q + 1) >>> (s (50 + 14 * m + 1) &&& 31)) &&& 1) = 1
      · rw [if_pos h2, decide_eq_true h2]
      · rw [if_neg h2, decide_eq_false h2]
    · rw [if_neg h1, decide_eq_false (fun z => h1 z.symm), Bool.false_and]
theorem nI_subI {a r : Nat} (ha : a < 2 ^ 20) (hr : r < 2 ^ 20) : (nI a - nI r).toInt = (a : Int) - r := by
  rw [Int32.toInt_sub, nI_toInt (by omega), nI_toInt (by omega), Int.bmod_def]
  split <;> omega
end CAL
theorem sim_assignR : sim_assign RR := by
  intro n X M a1 a2 hR
  refine sm_out ?_
  have hi := hR.1.2.1
  have hc := hR.1.1
  have hh : um_h 1 := Or.inl rfl
  have hm14 := (si_men hi).2
  have hq6 := (si_masters hi).2
  unfold f_X8_assign f_X9_assign
  refine sm_chk (ho_man hc hi) (sm_ret ⟨rfl, hR⟩) (fun ⟨m, hm, em⟩ => ?_)
  subst em
  refine sm_chk (ho_master hc hi) (sm_ret ⟨rfl, hR⟩) (fun ⟨q, hq, eq⟩ => ?_)
  subst eq
  have ho := si_man hi m hm
  rw [x_m5 hc hi hh hm, m_kindOf (by omega), Option.bind_some, Option.bind_some]
  refine sm_if Iff.rfl (fun hk => ?_) (fun _ => sm_ret ⟨rfl, hR⟩)
  have hk4 : ∃ k : Nat, 1 ≤ k ∧ k ≤ 4 ∧ M.1 1 (50 + 14 * m + 5) = nI k := ⟨1, by omega, by omega, hk⟩
  have hop := out_pl ho hk4
  obtain ⟨⟨p, hp, ep⟩, a, ha, ea⟩ := si_master hi q hq
  refine sm_xb (x_isWantedBy hc hi hh hm hq) (sm_mb (m_isOut (by omega)) ?_)
  by_cases hp0 : M.1 1 (50 + 14 * m + 4) = -1
  · rw [decide_eq_true (hop.mpr hp0), wn_no hi hq hp0]
    exact sm_ret ⟨rfl, hR⟩
  · rw [decide_eq_false (fun z => hp0 (hop.mp z))]
    refine sm_mF (sm_mb (m_wants (by omega) (by omega)) ?_)
    cases hw : wn (M.1 1) m q with
    | false => exact sm_ret ⟨rfl, hR⟩
    | true =>
      refine sm_xT (sm_mT ?_)
      obtain ⟨r, hr, r1, r2⟩ := assignedTo_ (v := nI q) hc hi hh
      unfold f_X4_freeHands
      rw [x_p2_2 hc hi hh hq, r1, r2, m_masterAt]
      simp (disch := omega) only [Option.bind_some, la_2, um_ix_3, cl_3, if_true]
      rw [ea]
      have hiff : 0 < nI a - nI r ↔ nI r < nI a := by
        have h0 : (0 : Int32).toInt = 0 := by decide
        rw [Int32.lt_iff_toInt_lt, Int32.lt_iff_toInt_lt, nI_subI (by omega) (by omega), nI_toInt (by omega), nI_toInt (by omega), h0]
        omega
      refine sm_if hiff (fun _ => ?_) (fun _ => sm_ret ⟨rfl, hR⟩)
      obtain ⟨o1, o2, o3, o4, o5, o6, o7, o8, o9⟩ := ho
      refine sm_bind (become_ hR.1 hh hm ⟨⟨2, by omega, by omega, rfl⟩, o2, o3, o4, o5, fun _ z1 z2 => o6 hk4 z1 z2, fun z => absurd z (by decide), fun _ => ⟨q, hq, rfl⟩, o9⟩) (fun X' M' ⟨q1, q2, q3, q4⟩ => ?_)
      exact sm_ret ⟨rfl, RR_of hR q1 q2 q3⟩
