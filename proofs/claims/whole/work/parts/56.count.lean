/-! LEVEL 2: counts -/
section CNT
variable {X X' X2 M M' M2 : um_S} {h n W m i q : Nat} {s : Nat → Int32} {v : Int32}
theorem lo_all (hi : sr_i (M.1 1) W) : ∀ (k j acc fm : Nat), j + k = nn (M.1 1) 2 → k < fm → f_X9_men_l4 0 M fm (nI acc) (nI j) = some (nI (acc + k)) := by
  obtain ⟨e1, hn⟩ := si_men hi
  intro k
  induction k with
  | zero =>
    intro j acc fm hj hfm
    obtain ⟨fm, rfl⟩ : ∃ f, fm = f + 1 := ⟨fm - 1, by omega⟩
    rw [f_X9_men_l4]
    exact if_pos (by rw [e1]; exact nI_le (by omega) (by omega))
  | succ k ih =>
    intro j acc fm hj hfm
    obtain ⟨fm, rfl⟩ : ∃ f, fm = f + 1 := ⟨fm - 1, by omega⟩
    rw [f_X9_men_l4, if_neg (by rw [e1]; exact nI_ge (by omega) (by omega))]
    unfold um_let
    dsimp only
    rw [if_pos rfl, nI_1, nI_1, ih (j + 1) (acc + 1) fm (by omega) (by omega), show acc + 1 + k = acc + (k + 1) by omega]
theorem lo_dead (hs : sr X h (M.1 1) W n) (hh : um_h h) : ∀ (k j : Nat) (acc : Int32) (fx fm : Nat), j + k = nn (M.1 1) 2 → k < fx → k < fm → sm_S (f_X4_deadMen_l4 h X fx acc (nI j)) (f_X9_men_l4 1 M fm acc (nI j)) (fun a b => a = b) := by
  have hi := hs.2.1
  have hc := hs.1
  obtain ⟨e1, hn⟩ := si_men hi
  intro k
  induction k with
  | zero =>
    intro j acc fx fm hj hfx hfm
    obtain ⟨fx, rfl⟩ : ∃ f, fx = f + 1 := ⟨fx - 1, by omega⟩
    obtain ⟨fm, rfl⟩ : ∃ f, fm = f + 1 := ⟨fm - 1, by omega⟩
    rw [f_X4_deadMen_l4, f_X9_men_l4]
    exact sm_xt (by rw [cnt_x hs]; exact nI_le (by omega) (by omega)) (sm_mt (by rw [e1]; exact nI_le (by omega) (by omega)) (sm_ret rfl))
  | succ k ih =>
    intro j acc fx fm hj hfx hfm
    obtain ⟨fx, rfl⟩ : ∃ f, fx = f + 1 := ⟨fx - 1, by omega⟩
    obtain ⟨fm, rfl⟩ : ∃ f, fm = f + 1 := ⟨fm - 1, by omega⟩
    have ih2 := fun a => ih (j + 1) a fx fm (by omega) (by omega) (by omega)
    have ho := si_man hi j (by omega)
    rw [f_X4_deadMen_l4, f_X9_men_l4]
    refine sm_xf (by rw [cnt_x hs]; exact nI_ge (by omega) (by omega)) (sm_mf (by rw [e1]; exact nI_ge (by omega) (by omega)) ?_)
    rw [nI_1]
    refine sm_ml ?_
    refine sm_mf (by decide) (sm_mt rfl ?_)
    refine sm_dec (x_isDead hc hh (by omega) hn) (m_isDead (by omega)) (fun _ => ?_) (fun _ => ih2 _)
    rw [ad_0]
    exact sm_ml (ih2 acc)
theorem lo_aboard (hs : sr X h (M.1 1) W n) (hh : um_h h) : ∀ (k j : Nat) (acc : Int32) (fx fm : Nat), j + k = nn (M.1 1) 2 → k < fx → k < fm → sm_S (f_X4_menAboard_l4 h X fx acc (nI j)) (f_X9_men_l4 2 M fm acc (nI j)) (fun a b => a = b) := by
  have hi := hs.2.1
  have hc := hs.1
  obtain ⟨e1, hn⟩ := si_men hi
  intro k
  induction k with
  | zero =>
    intro j acc fx fm hj hfx hfm
    obtain ⟨fx, rfl⟩ : ∃ f, fx = f + 1 := ⟨fx - 1, by omega⟩
    obtain ⟨fm, rfl⟩ : ∃ f, fm = f + 1 := ⟨fm - 1, by omega⟩
    rw [f_X4_menAboard_l4, f_X9_men_l4]
    exact sm_xt (by rw [cnt_x hs]; exact nI_le (by omega) (by omega)) (sm_mt (by rw [e1]; exact nI_le (by omega) (by omega)) (sm_ret rfl))
  | succ k ih =>
    intro j acc fx fm hj hfx hfm
    obtain ⟨fx, rfl⟩ : ∃ f, fx = f + 1 := ⟨fx - 1, by omega⟩
    obtain ⟨fm, rfl⟩ : ∃ f, fm = f + 1 := ⟨fm - 1, by omega⟩
    have ih2 := fun a => ih (j + 1) a fx fm (by omega) (by omega) (by omega)
    have ho := si_man hi j (by omega)
    rw [f_X4_menAboard_l4, f_X9_men_l4]
    refine sm_xf (by rw [cnt_x hs]; exact nI_ge (by omega) (by omega)) (sm_mf (by rw [e1]; exact nI_ge (by omega) (by omega)) ?_)
    rw [nI_1]
    refine sm_ml ?_
    refine sm_mf (by decide) (sm_mf (by decide) ?_)
    unfold f_X4_isAboard
    rw [x_isDead hc hh (by omega) hn, m_isDead (by omega), x_hasLanded hc hh (by omega) hn ho, m_hasLanded (by omega), ad_0]
    cases decide (M.1 1 (50 + 14 * j + 11) = 1) with
    | true => exact ih2 acc
    | false =>
      cases decide (¬ M.1 1 (50 + 14 * j + 10) < 0) with
      | true => exact ih2 acc
      | false => exact ih2 (acc + 1)
theorem lo_kind (hq : q ≤ 7) (hs : sr X h (M.1 1) W n) (hh : um_h h) : ∀ (k j : Nat) (acc : Int32) (fx fm : Nat), j + k = nn (M.1 1) 2 → k < fx → k < fm → sm_S (f_X4_livingOfKind_l4 h (nI q) X fx acc (nI j)) (f_X9_men_l4 (nI (3 + q)) M fm acc (nI j)) (fun a b => a = b) := by
  have hi := hs.2.1
  have hc := hs.1
  obtain ⟨e1, hn⟩ := si_men hi
  intro k
  induction k with
  | zero =>
    intro j acc fx fm hj hfx hfm
    obtain ⟨fx, rfl⟩ : ∃ f, fx = f + 1 := ⟨fx - 1, by omega⟩
    obtain ⟨fm, rfl⟩ : ∃ f, fm = f + 1 := ⟨fm - 1, by omega⟩
    rw [f_X4_livingOfKind_l4, f_X9_men_l4]
    exact sm_xt (by rw [cnt_x hs]; exact nI_le (by omega) (by omega)) (sm_mt (by rw [e1]; exact nI_le (by omega) (by omega)) (sm_ret rfl))
  | succ k ih =>
    intro j acc fx fm hj hfx hfm
    obtain ⟨fx, rfl⟩ : ∃ f, fx = f + 1 := ⟨fx - 1, by omega⟩
    obtain ⟨fm, rfl⟩ : ∃ f, fm = f + 1 := ⟨fm - 1, by omega⟩
    have ih2 := fun a => ih (j + 1) a fx fm (by omega) (by omega) (by omega)
    have ho := si_man hi j (by omega)
    rw [f_X4_livingOfKind_l4, f_X9_men_l4]
    refine sm_xf (by rw [cnt_x hs]; exact nI_ge (by omega) (by omega)) (sm_mf (by rw [e1]; exact nI_ge (by omega) (by omega)) ?_)
    rw [nI_1]
    refine sm_ml ?_
    have n0 : nI (3 + q) ≠ 0 := fun z => by have := (nI_eq (b := 0) (by omega) (by omega)).mp z; omega
    have n1 : nI (3 + q) ≠ 1 := fun z => by have := (nI_eq (b := 1) (by omega) (by omega)).mp z; omega
    have n2 : nI (3 + q) ≠ 2 := fun z => by have := (nI_eq (b := 2) (by omega) (by omega)).mp z; omega
    have e3 : nI (3 + q) - 3 = nI q := by
      rw [show (3 : Int32) = nI 3 from rfl, nI_sub (by omega), show 3 + q - 3 = q by omega]
    refine sm_mf n0 (sm_mf n1 ?_)
    rw [e3, ad_0]
    refine sm_dec (x_isDead hc hh (by omega) hn) (m_isDead (by omega)) (fun _ => ?_) (fun _ => sm_ml (ih2 acc))
    refine sm_mf n2 (sm_xb (x_m5 hc hi hh (by omega)) (sm_mb (m_kindOf (by omega)) ?_))
    exact sm_if Iff.rfl (fun _ => ih2 _) (fun _ => sm_ml (ih2 acc))
end CNT
theorem sim_countR : sim_count RR := by
  intro n X M a1 hR
  refine sm_ouv ?_ hR
  have hs := hR.1
  have hi := hs.2.1
  have hc := hs.1
  have hh : um_h 1 := Or.inl rfl
  have hn := (si_men hi).2
  have h0 : (0 : Int32).toInt = 0 := by decide
  unfold f_X8_count f_X9_count
  rw [x_within, m_isIn, Int32.toInt_toInt64, show (4 : Int32).toInt = 4 by decide, show (11 : Int32).toInt = 11 by decide, show (1 : Int64).toInt = 1 by decide, show (11 : Int64).toInt = 11 by decide]
  obtain ⟨z, z1, z2, z3, z4⟩ := hR.2.2.2.2.1
  obtain ⟨y, y1, y2, y3, y4⟩ := hR.2.2.2.2.2
  have hx0 : X.1 (20 * 1 + 0) 2 = M.1 1 1 := x_cnt hc (t := 0) (by omega)
  have hx1 : X.1 (20 * 1 + 1) 2 = M.1 1 2 := x_cnt hc (t := 1) (by omega)
  have hx2 : X.1 (20 * 1 + 2) 2 = M.1 1 3 := x_cnt hc (t := 2) (by omega)
  have hx3 : X.1 (20 * 1 + 3) 2 = M.1 1 4 := x_cnt hc (t := 3) (by omega)
  have hx4 : X.1 (20 * 1 + 4) 2 = M.1 1 8 := x_cnt hc (t := 4) (by omega)
  have hx5 : X.1 (20 * 1 + 5) 2 = M.1 1 6 := x_cnt hc (t := 5) (by omega)
  have hx6 : X.1 (20 * 1 + 6) 2 = M.1 1 7 := x_cnt hc (t := 6) (by omega)
  have hx11 : X.1 (20 * 1 + 11) 1 = M.1 1 5 := hc.2.2.1
  have hfu : nn (M.1 1) 2 < um_N := by unfold um_N; omega
  by_cases hr : 0 ≤ a1.toInt ∧ a1.toInt ≤ 22
  · obtain ⟨c, hc22, ec⟩ := nI_ofT hr.1 hr.2
    subst ec
    rw [nI_toInt (by omega)]
    have hcc : c = 0 ∨ c = 1 ∨ c = 2 ∨ c = 3 ∨ c = 4 ∨ c = 5 ∨ c = 6 ∨ c = 7 ∨ c = 8 ∨ c = 9 ∨ c = 10 ∨ c = 11 ∨ c = 12 ∨ c = 13 ∨ c = 14 ∨ c = 15 ∨ c = 16 ∨ c = 17 ∨ c = 18 ∨ c = 19 ∨ c = 20 ∨ c = 21 ∨ c = 22 := by omega
    rcases hcc with rfl | rfl | rfl | rfl | rfl | rfl | rfl | rfl | rfl | rfl | rfl | rfl | rfl | rfl | rfl | rfl | rfl | rfl | rfl | rfl | rfl | rfl | rfl
    · refine sm_xb rfl (sm_mb rfl ?_)
      rw [decide_eq_false (show ¬ ((4 : Int) ≤ ((0 : Nat) : Int) ∧ ((0 : Nat) : Int) ≤ 11) by omega), decide_eq_false (show ¬ ((1 : Int) ≤ ((0 : Nat) : Int) ∧ ((0 : Nat) : Int) ≤ 11) by omega)]
      exact sm_xF (sm_mF (sm_xt rfl (sm_mt rfl (sm_ret hx0))))
    · refine sm_xb rfl (sm_mb rfl ?_)
      rw [decide_eq_false (show ¬ ((4 : Int) ≤ ((1 : Nat) : Int) ∧ ((1 : Nat) : Int) ≤ 11) by omega), decide_eq_true (show ((1 : Int) ≤ ((1 : Nat) : Int) ∧ ((1 : Nat) : Int) ≤ 11) by omega)]
      refine sm_xF (sm_mT ?_)
      rw [show nI 1 - (1 : Int32) = 0 by decide]
      refine sm_xf (by decide) (sm_xt rfl ?_)
      unfold f_X9_men
      rw [bind_sm, hx1, show (0 : Int32) = nI 0 from rfl]
      have e := lo_all hi (nn (M.1 1) 2) 0 0 um_N (by omega) hfu
      change f_X9_men_l4 (nI 0) M um_N (nI 0) (nI 0) = _ at e
      rw [e, Nat.zero_add]
      exact sm_ret (si_men hi).1
    · refine sm_xb rfl (sm_mb rfl ?_)
      rw [decide_eq_false (show ¬ ((4 : Int) ≤ ((2 : Nat) : Int) ∧ ((2 : Nat) : Int) ≤ 11) by omega), decide_eq_true (show ((1 : Int) ≤ ((2 : Nat) : Int) ∧ ((2 : Nat) : Int) ≤ 11) by omega)]
      refine sm_xF (sm_mT ?_)
      rw [show nI 2 - (1 : Int32) = 1 by decide]
      refine sm_xf (by decide) (sm_xf (by decide) (sm_xt rfl ?_))
      unfold f_X9_men f_X4_deadMen
      simp only [bind_sm]
      exact lo_dead hs hh (nn (M.1 1) 2) 0 0 um_N um_N (by omega) hfu hfu
    · refine sm_xb rfl (sm_mb rfl ?_)
      rw [decide_eq_false (show ¬ ((4 : Int) ≤ ((3 : Nat) : Int) ∧ ((3 : Nat) : Int) ≤ 11) by omega), decide_eq_true (show ((1 : Int) ≤ ((3 : Nat) : Int) ∧ ((3 : Nat) : Int) ≤ 11) by omega)]
      refine sm_xF (sm_mT ?_)
      rw [show nI 3 - (1 : Int32) = 2 by decide]
      refine sm_xf (by decide) (sm_xf (by decide) (sm_xf (by decide) (sm_xt rfl ?_)))
      unfold f_X9_men f_X4_menAboard
      simp only [bind_sm]
      exact lo_aboard hs hh (nn (M.1 1) 2) 0 0 um_N um_N (by omega) hfu hfu
    · refine sm_xb rfl (sm_mb rfl ?_)
      rw [decide_eq_true (show ((4 : Int) ≤ ((4 : Nat) : Int) ∧ ((4 : Nat) : Int) ≤ 11) by omega), decide_eq_true (show ((1 : Int) ≤ ((4 : Nat) : Int) ∧ ((4 : Nat) : Int) ≤ 11) by omega)]
      refine sm_xT (sm_mT ?_)
      rw [show nI 4 - (4 : Int32) = nI 0 by decide, show nI 4 - (1 : Int32) = nI (3 + 0) by decide]
      unfold f_X4_livingOfKind f_X9_men
      simp only [bind_sm]
      exact lo_kind (q := 0) (by omega) hs hh (nn (M.1 1) 2) 0 0 um_N um_N (by omega) hfu hfu
    · refine sm_xb rfl (sm_mb rfl ?_)
      rw [decide_eq_true (show ((4 : Int) ≤ ((5 : Nat) : Int) ∧ ((5 : Nat) : Int) ≤ 11) by omega), decide_eq_true (show ((1 : Int) ≤ ((5 : Nat) : Int) ∧ ((5 : Nat) : Int) ≤ 11) by omega)]
      refine sm_xT (sm_mT ?_)
      rw [show nI 5 - (4 : Int32) = nI 1 by decide, show nI 5 - (1 : Int32) = nI (3 + 1) by decide]
      unfold f_X4_livingOfKind f_X9_men
      simp only [bind_sm]
      exact lo_kind (q := 1) (by omega) hs hh (nn (M.1 1) 2) 0 0 um_N um_N (by omega) hfu hfu
    · refine sm_xb rfl (sm_mb rfl ?_)
      rw [decide_eq_true (show ((4 : Int) ≤ ((6 : Nat) : Int) ∧ ((6 : Nat) : Int) ≤ 11) by omega), decide_eq_true (show ((1 : Int) ≤ ((6 : Nat) : Int) ∧ ((6 : Nat) : Int) ≤ 11) by omega)]
      refine sm_xT (sm_mT ?_)
      rw [show nI 6 - (4 : Int32) = nI 2 by decide, show nI 6 - (1 : Int32) = nI (3 + 2) by decide]
      unfold f_X4_livingOfKind f_X9_men
      simp only [bind_sm]
      exact lo_kind (q := 2) (by omega) hs hh (nn (M.1 1) 2) 0 0 um_N um_N (by omega) hfu hfu
    · refine sm_xb rfl (sm_mb rfl ?_)
      rw [decide_eq_true (show ((4 : Int) ≤ ((7 : Nat) : Int) ∧ ((7 : Nat) : Int) ≤ 11) by omega), decide_eq_true (show ((1 : Int) ≤ ((7 : Nat) : Int) ∧ ((7 : Nat) : Int) ≤ 11) by omega)]
      refine sm_xT (sm_mT ?_)
      rw [show nI 7 - (4 : Int32) = nI 3 by decide, show nI 7 - (1 : Int32) = nI (3 + 3) by decide]
      unfold f_X4_livingOfKind f_X9_men
      simp only [bind_sm]
      exact lo_kind (q := 3) (by omega) hs hh (nn (M.1 1) 2) 0 0 um_N um_N (by omega) hfu hfu
    · refine sm_xb rfl (sm_mb rfl ?_)
      rw [decide_eq_true (show ((4 : Int) ≤ ((8 : Nat) : Int) ∧ ((8 : Nat) : Int) ≤ 11) by omega), decide_eq_true (show ((1 : Int) ≤ ((8 : Nat) : Int) ∧ ((8 : Nat) : Int) ≤ 11) by omega)]
      refine sm_xT (sm_mT ?_)
      rw [show nI 8 - (4 : Int32) = nI 4 by decide, show nI 8 - (1 : Int32) = nI (3 + 4) by decide]
      unfold f_X4_livingOfKind f_X9_men
      simp only [bind_sm]
      exact lo_kind (q := 4) (by omega) hs hh (nn (M.1 1) 2) 0 0 um_N um_N (by omega) hfu hfu
    · refine sm_xb rfl (sm_mb rfl ?_)
      rw [decide_eq_true (show ((4 : Int) ≤ ((9 : Nat) : Int) ∧ ((9 : Nat) : Int) ≤ 11) by omega), decide_eq_true (show ((1 : Int) ≤ ((9 : Nat) : Int) ∧ ((9 : Nat) : Int) ≤ 11) by omega)]
      refine sm_xT (sm_mT ?_)
      rw [show nI 9 - (4 : Int32) = nI 5 by decide, show nI 9 - (1 : Int32) = nI (3 + 5) by decide]
      unfold f_X4_livingOfKind f_X9_men
      simp only [bind_sm]
      exact lo_kind (q := 5) (by omega) hs hh (nn (M.1 1) 2) 0 0 um_N um_N (by omega) hfu hfu
    · refine sm_xb rfl (sm_mb rfl ?_)
      rw [decide_eq_true (show ((4 : Int) ≤ ((10 : Nat) : Int) ∧ ((10 : Nat) : Int) ≤ 11) by omega), decide_eq_true (show ((1 : Int) ≤ ((10 : Nat) : Int) ∧ ((10 : Nat) : Int) ≤ 11) by omega)]
      refine sm_xT (sm_mT ?_)
      rw [show nI 10 - (4 : Int32) = nI 6 by decide, show nI 10 - (1 : Int32) = nI (3 + 6) by decide]
      unfold f_X4_livingOfKind f_X9_men
      simp only [bind_sm]
      exact lo_kind (q := 6) (by omega) hs hh (nn (M.1 1) 2) 0 0 um_N um_N (by omega) hfu hfu
    · refine sm_xb rfl (sm_mb rfl ?_)
      rw [decide_eq_true (show ((4 : Int) ≤ ((11 : Nat) : Int) ∧ ((11 : Nat) : Int) ≤ 11) by omega), decide_eq_true (show ((1 : Int) ≤ ((11 : Nat) : Int) ∧ ((11 : Nat) : Int) ≤ 11) by omega)]
      refine sm_xT (sm_mT ?_)
      rw [show nI 11 - (4 : Int32) = nI 7 by decide, show nI 11 - (1 : Int32) = nI (3 + 7) by decide]
      unfold f_X4_livingOfKind f_X9_men
      simp only [bind_sm]
      exact lo_kind (q := 7) (by omega) hs hh (nn (M.1 1) 2) 0 0 um_N um_N (by omega) hfu hfu
    · refine sm_xb rfl (sm_mb rfl ?_)
      rw [decide_eq_false (show ¬ ((4 : Int) ≤ ((12 : Nat) : Int) ∧ ((12 : Nat) : Int) ≤ 11) by omega), decide_eq_false (show ¬ ((1 : Int) ≤ ((12 : Nat) : Int) ∧ ((12 : Nat) : Int) ≤ 11) by omega)]
      exact sm_xF (sm_mF (sm_xf (by decide) (sm_xf (by decide) (sm_xf (by decide) (sm_xf (by decide) (sm_xf (by decide) (sm_xf (by decide) (sm_xf (by decide) (sm_xf (by decide) (sm_xf (by decide) (sm_xf (by decide) (sm_xf (by decide) (sm_xf (by decide) (sm_xt rfl (sm_mf (by decide) (sm_mf (by decide) (sm_mf (by decide) (sm_mf (by decide) (sm_mf (by decide) (sm_mf (by decide) (sm_mf (by decide) (sm_mf (by decide) (sm_mf (by decide) (sm_mf (by decide) (sm_mf (by decide) (sm_mf (by decide) (sm_mt rfl (sm_ret hx2))))))))))))))))))))))))))))
    · refine sm_xb rfl (sm_mb rfl ?_)
      rw [decide_eq_false (show ¬ ((4 : Int) ≤ ((13 : Nat) : Int) ∧ ((13 : Nat) : Int) ≤ 11) by omega), decide_eq_false (show ¬ ((1 : Int) ≤ ((13 : Nat) : Int) ∧ ((13 : Nat) : Int) ≤ 11) by omega)]
      exact sm_xF (sm_mF (sm_xf (by decide) (sm_xf (by decide) (sm_xf (by decide) (sm_xf (by decide) (sm_xf (by decide) (sm_xf (by decide) (sm_xf (by decide) (sm_xf (by decide) (sm_xf (by decide) (sm_xf (by decide) (sm_xf (by decide) (sm_xf (by decide) (sm_xf (by decide) (sm_xt rfl (sm_mf (by decide) (sm_mf (by decide) (sm_mf (by decide) (sm_mf (by decide) (sm_mf (by decide) (sm_mf (by decide) (sm_mf (by decide) (sm_mf (by decide) (sm_mf (by decide) (sm_mf (by decide) (sm_mf (by decide) (sm_mf (by decide) (sm_mf (by decide) (sm_mt rfl (sm_ret hx3))))))))))))))))))))))))))))))
    · refine sm_xb rfl (sm_mb rfl ?_)
      rw [decide_eq_false (show ¬ ((4 : Int) ≤ ((14 : Nat) : Int) ∧ ((14 : Nat) : Int) ≤ 11) by omega), decide_eq_false (show ¬ ((1 : Int) ≤ ((14 : Nat) : Int) ∧ ((14 : Nat) : Int) ≤ 11) by omega)]
      exact sm_xF (sm_mF (sm_xf (by decide) (sm_xf (by decide) (sm_xf (by decide) (sm_xf (by decide) (sm_xf (by decide) (sm_xf (by decide) (sm_xf (by decide) (sm_xf (by decide) (sm_xf (by decide) (sm_xf (by decide) (sm_xf (by decide) (sm_xf (by decide) (sm_xf (by decide) (sm_xf (by decide) (sm_xt rfl (sm_mf (by decide) (sm_mf (by decide) (sm_mf (by decide) (sm_mf (by decide) (sm_mf (by decide) (sm_mf (by decide) (sm_mf (by decide) (sm_mf (by decide) (sm_mf (by decide) (sm_mf (by decide) (sm_mf (by decide) (sm_mf (by decide) (sm_mf (by decide) (sm_mf (by decide) (sm_mt rfl (sm_ret hx11))))))))))))))))))))))))))))))))
    · refine sm_xb rfl (sm_mb rfl ?_)
      rw [decide_eq_false (show ¬ ((4 : Int) ≤ ((15 : Nat) : Int) ∧ ((15 : Nat) : Int) ≤ 11) by omega), decide_eq_false (show ¬ ((1 : Int) ≤ ((15 : Nat) : Int) ∧ ((15 : Nat) : Int) ≤ 11) by omega)]
      exact sm_xF (sm_mF (sm_xf (by decide) (sm_xf (by decide) (sm_xf (by decide) (sm_xf (by decide) (sm_xf (by decide) (sm_xf (by decide) (sm_xf (by decide) (sm_xf (by decide) (sm_xf (by decide) (sm_xf (by decide) (sm_xf (by decide) (sm_xf (by decide) (sm_xf (by decide) (sm_xf (by decide) (sm_xf (by decide) (sm_xt rfl (sm_mf (by decide) (sm_mf (by decide) (sm_mf (by decide) (sm_mf (by decide) (sm_mf (by decide) (sm_mf (by decide) (sm_mf (by decide) (sm_mf (by decide) (sm_mf (by decide) (sm_mf (by decide) (sm_mf (by decide) (sm_mf (by decide) (sm_mf (by decide) (sm_mf (by decide) (sm_mf (by decide) (sm_mt rfl (sm_ret hx5))))))))))))))))))))))))))))))))))
    · refine sm_xb rfl (sm_mb rfl ?_)
      rw [decide_eq_false (show ¬ ((4 : Int) ≤ ((16 : Nat) : Int) ∧ ((16 : Nat) : Int) ≤ 11) by omega), decide_eq_false (show ¬ ((1 : Int) ≤ ((16 : Nat) : Int) ∧ ((16 : Nat) : Int) ≤ 11) by omega)]
      exact sm_xF (sm_mF (sm_xf (by decide) (sm_xf (by decide) (sm_xf (by decide) (sm_xf (by decide) (sm_xf (by decide) (sm_xf (by decide) (sm_xf (by decide) (sm_xf (by decide) (sm_xf (by decide) (sm_xf (by decide) (sm_xf (by decide) (sm_xf (by decide) (sm_xf (by decide) (sm_xf (by decide) (sm_xf (by decide) (sm_xf (by decide) (sm_xt rfl (sm_mf (by decide) (sm_mf (by decide) (sm_mf (by decide) (sm_mf (by decide) (sm_mf (by decide) (sm_mf (by decide) (sm_mf (by decide) (sm_mf (by decide) (sm_mf (by decide) (sm_mf (by decide) (sm_mf (by decide) (sm_mf (by decide) (sm_mf (by decide) (sm_mf (by decide) (sm_mf (by decide) (sm_mf (by decide) (sm_mt rfl (sm_ret hx6))))))))))))))))))))))))))))))))))))
    · refine sm_xb rfl (sm_mb rfl ?_)
      rw [decide_eq_false (show ¬ ((4 : Int) ≤ ((17 : Nat) : Int) ∧ ((17 : Nat) : Int) ≤ 11) by omega), decide_eq_false (show ¬ ((1 : Int) ≤ ((17 : Nat) : Int) ∧ ((17 : Nat) : Int) ≤ 11) by omega)]
      exact sm_xF (sm_mF (sm_xf (by decide) (sm_xf (by decide) (sm_xf (by decide) (sm_xf (by decide) (sm_xf (by decide) (sm_xf (by decide) (sm_xf (by decide) (sm_xf (by decide) (sm_xf (by decide) (sm_xf (by decide) (sm_xf (by decide) (sm_xf (by decide) (sm_xf (by decide) (sm_xf (by decide) (sm_xf (by decide) (sm_xf (by decide) (sm_xf (by decide) (sm_xt rfl (sm_mf (by decide) (sm_mf (by decide) (sm_mf (by decide) (sm_mf (by decide) (sm_mf (by decide) (sm_mf (by decide) (sm_mf (by decide) (sm_mf (by decide) (sm_mf (by decide) (sm_mf (by decide) (sm_mf (by decide) (sm_mf (by decide) (sm_mf (by decide) (sm_mf (by decide) (sm_mf (by decide) (sm_mf (by decide) (sm_mf (by decide) (sm_mt rfl (sm_ret hx4))))))))))))))))))))))))))))))))))))))
    · refine sm_xb rfl (sm_mb rfl ?_)
      rw [decide_eq_false (show ¬ ((4 : Int) ≤ ((18 : Nat) : Int) ∧ ((18 : Nat) : Int) ≤ 11) by omega), decide_eq_false (show ¬ ((1 : Int) ≤ ((18 : Nat) : Int) ∧ ((18 : Nat) : Int) ≤ 11) by omega)]
      exact sm_xF (sm_mF (sm_xf (by decide) (sm_xf (by decide) (sm_xf (by decide) (sm_xf (by decide) (sm_xf (by decide) (sm_xf (by decide) (sm_xf (by decide) (sm_xf (by decide) (sm_xf (by decide) (sm_xf (by decide) (sm_xf (by decide) (sm_xf (by decide) (sm_xf (by decide) (sm_xf (by decide) (sm_xf (by decide) (sm_xf (by decide) (sm_xf (by decide) (sm_xf (by decide) (sm_xt rfl (sm_mf (by decide) (sm_mf (by decide) (sm_mf (by decide) (sm_mf (by decide) (sm_mf (by decide) (sm_mf (by decide) (sm_mf (by decide) (sm_mf (by decide) (sm_mf (by decide) (sm_mf (by decide) (sm_mf (by decide) (sm_mf (by decide) (sm_mf (by decide) (sm_mf (by decide) (sm_mf (by decide) (sm_mf (by decide) (sm_mf (by decide) (sm_mf (by decide) (sm_mt rfl (sm_ret hc.1.2.2))))))))))))))))))))))))))))))))))))))))
    · refine sm_xb rfl (sm_mb rfl ?_)
      rw [decide_eq_false (show ¬ ((4 : Int) ≤ ((19 : Nat) : Int) ∧ ((19 : Nat) : Int) ≤ 11) by omega), decide_eq_false (show ¬ ((1 : Int) ≤ ((19 : Nat) : Int) ∧ ((19 : Nat) : Int) ≤ 11) by omega)]
      exact sm_xF (sm_mF (sm_xf (by decide) (sm_xf (by decide) (sm_xf (by decide) (sm_xf (by decide) (sm_xf (by decide) (sm_xf (by decide) (sm_xf (by decide) (sm_xf (by decide) (sm_xf (by decide) (sm_xf (by decide) (sm_xf (by decide) (sm_xf (by decide) (sm_xf (by decide) (sm_xf (by decide) (sm_xf (by decide) (sm_xf (by decide) (sm_xf (by decide) (sm_xf (by decide) (sm_xf (by decide) (sm_xt rfl (sm_mf (by decide) (sm_mf (by decide) (sm_mf (by decide) (sm_mf (by decide) (sm_mf (by decide) (sm_mf (by decide) (sm_mf (by decide) (sm_mf (by decide) (sm_mf (by decide) (sm_mf (by decide) (sm_mf (by decide) (sm_mf (by decide) (sm_mf (by decide) (sm_mf (by decide) (sm_mf (by decide) (sm_mf (by decide) (sm_mf (by decide) (sm_mf (by decide) (sm_mf (by decide) (sm_mt rfl (sm_ret (by rw [z2, z3])))))))))))))))))))))))))))))))))))))))))))
    · refine sm_xb rfl (sm_mb rfl ?_)
      rw [decide_eq_false (show ¬ ((4 : Int) ≤ ((20 : Nat) : Int) ∧ ((20 : Nat) : Int) ≤ 11) by omega), decide_eq_false (show ¬ ((1 : Int) ≤ ((20 : Nat) : Int) ∧ ((20 : Nat) : Int) ≤ 11) by omega)]
      exact sm_xF (sm_mF (sm_xf (by decide) (sm_xf (by decide) (sm_xf (by decide) (sm_xf (by decide) (sm_xf (by decide) (sm_xf (by decide) (sm_xf (by decide) (sm_xf (by decide) (sm_xf (by decide) (sm_xf (by decide) (sm_xf (by decide) (sm_xf (by decide) (sm_xf (by decide) (sm_xf (by decide) (sm_xf (by decide) (sm_xf (by decide) (sm_xf (by decide) (sm_xf (by decide) (sm_xf (by decide) (sm_xf (by decide) (sm_xt rfl (sm_mf (by decide) (sm_mf (by decide) (sm_mf (by decide) (sm_mf (by decide) (sm_mf (by decide) (sm_mf (by decide) (sm_mf (by decide) (sm_mf (by decide) (sm_mf (by decide) (sm_mf (by decide) (sm_mf (by decide) (sm_mf (by decide) (sm_mf (by decide) (sm_mf (by decide) (sm_mf (by decide) (sm_mf (by decide) (sm_mf (by decide) (sm_mf (by decide) (sm_mf (by decide) (sm_mf (by decide) (sm_mt rfl (sm_ret (by rw [y2, y3])))))))))))))))))))))))))))))))))))))))))))))
    · refine sm_xb rfl (sm_mb rfl ?_)
      rw [decide_eq_false (show ¬ ((4 : Int) ≤ ((21 : Nat) : Int) ∧ ((21 : Nat) : Int) ≤ 11) by omega), decide_eq_false (show ¬ ((1 : Int) ≤ ((21 : Nat) : Int) ∧ ((21 : Nat) : Int) ≤ 11) by omega)]
      exact sm_xF (sm_mF (sm_xf (by decide) (sm_xf (by decide) (sm_xf (by decide) (sm_xf (by decide) (sm_xf (by decide) (sm_xf (by decide) (sm_xf (by decide) (sm_xf (by decide) (sm_xf (by decide) (sm_xf (by decide) (sm_xf (by decide) (sm_xf (by decide) (sm_xf (by decide) (sm_xf (by decide) (sm_xf (by decide) (sm_xf (by decide) (sm_xf (by decide) (sm_xf (by decide) (sm_xf (by decide) (sm_xf (by decide) (sm_xf (by decide) (sm_xt rfl (sm_mf (by decide) (sm_mf (by decide) (sm_mf (by decide) (sm_mf (by decide) (sm_mf (by decide) (sm_mf (by decide) (sm_mf (by decide) (sm_mf (by decide) (sm_mf (by decide) (sm_mf (by decide) (sm_mf (by decide) (sm_mf (by decide) (sm_mf (by decide) (sm_mf (by decide) (sm_mf (by decide) (sm_mf (by decide) (sm_mf (by decide) (sm_mf (by decide) (sm_mf (by decide) (sm_mf (by decide) (sm_mf (by decide) (sm_mt rfl (sm_ret hc.1.1))))))))))))))))))))))))))))))))))))))))))))))
    · refine sm_xb rfl (sm_mb rfl ?_)
      rw [decide_eq_false (show ¬ ((4 : Int) ≤ ((22 : Nat) : Int) ∧ ((22 : Nat) : Int) ≤ 11) by omega), decide_eq_false (show ¬ ((1 : Int) ≤ ((22 : Nat) : Int) ∧ ((22 : Nat) : Int) ≤ 11) by omega)]
      exact sm_xF (sm_mF (sm_xf (by decide) (sm_xf (by decide) (sm_xf (by decide) (sm_xf (by decide) (sm_xf (by decide) (sm_xf (by decide) (sm_xf (by decide) (sm_xf (by decide) (sm_xf (by decide) (sm_xf (by decide) (sm_xf (by decide) (sm_xf (by decide) (sm_xf (by decide) (sm_xf (by decide) (sm_xf (by decide) (sm_xf (by decide) (sm_xf (by decide) (sm_xf (by decide) (sm_xf (by decide) (sm_xf (by decide) (sm_xf (by decide) (sm_xf (by decide) (sm_xt rfl (sm_mf (by decide) (sm_mf (by decide) (sm_mf (by decide) (sm_mf (by decide) (sm_mf (by decide) (sm_mf (by decide) (sm_mf (by decide) (sm_mf (by decide) (sm_mf (by decide) (sm_mf (by decide) (sm_mf (by decide) (sm_mf (by decide) (sm_mf (by decide) (sm_mf (by decide) (sm_mf (by decide) (sm_mf (by decide) (sm_mf (by decide) (sm_mf (by decide) (sm_mf (by decide) (sm_mf (by decide) (sm_mf (by decide) (sm_mf (by decide) (sm_mt rfl (sm_ret hc.1.2.1))))))))))))))))))))))))))))))))))))))))))))))))
  · have hne : ∀ k : Nat, k ≤ 22 → a1 ≠ nI k := fun k hk z => hr (by rw [z, nI_toInt (by omega)]; omega)
    rw [decide_eq_false (show ¬ ((4 : Int) ≤ a1.toInt ∧ a1.toInt ≤ 11) by omega), decide_eq_false (show ¬ ((1 : Int) ≤ a1.toInt ∧ a1.toInt ≤ 11) by omega)]
    refine sm_xb rfl (sm_mb rfl (sm_xF (sm_mF ?_)))
    exact sm_xf (hne 0 (by omega)) (sm_xf (hne 1 (by omega)) (sm_xf (hne 2 (by omega)) (sm_xf (hne 3 (by omega)) (sm_xf (hne 4 (by omega)) (sm_xf (hne 5 (by omega)) (sm_xf (hne 6 (by omega)) (sm_xf (hne 7 (by omega)) (sm_xf (hne 8 (by omega)) (sm_xf (hne 9 (by omega)) (sm_xf (hne 10 (by omega)) (sm_xf (hne 11 (by omega)) (sm_xf (hne 12 (by omega)) (sm_xf (hne 13 (by omega)) (sm_xf (hne 14 (by omega)) (sm_xf (hne 15 (by omega)) (sm_xf (hne 16 (by omega)) (sm_xf (hne 17 (by omega)) (sm_xf (hne 18 (by omega)) (sm_xf (hne 19 (by omega)) (sm_xf (hne 20 (by omega)) (sm_xf (hne 21 (by omega)) (sm_xf (hne 22 (by omega)) (sm_mf (hne 0 (by omega)) (sm_mf (hne 1 (by omega)) (sm_mf (hne 2 (by omega)) (sm_mf (hne 3 (by omega)) (sm_mf (hne 4 (by omega)) (sm_mf (hne 5 (by omega)) (sm_mf (hne 6 (by omega)) (sm_mf (hne 7 (by omega)) (sm_mf (hne 8 (by omega)) (sm_mf (hne 9 (by omega)) (sm_mf (hne 10 (by omega)) (sm_mf (hne 11 (by omega)) (sm_mf (hne 12 (by omega)) (sm_mf (hne 13 (by omega)) (sm_mf (hne 14 (by omega)) (sm_mf (hne 15 (by omega)) (sm_mf (hne 16 (by omega)) (sm_mf (hne 17 (by omega)) (sm_mf (hne 18 (by omega)) (sm_mf (hne 19 (by omega)) (sm_mf (hne 20 (by omega)) (sm_mf (hne 21 (by omega)) (sm_mf (hne 22 (by omega)) (sm_ret rfl))))))))))))))))))))))))))))))))))))))))))))))
