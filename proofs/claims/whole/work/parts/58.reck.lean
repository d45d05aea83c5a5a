/-! LEVEL 2: means, harsh judges, plans, votes -/
section REC
variable {X M : um_S} {n W j q N : Nat} {a b d v1 v2 : Int32}
/-- of the one judge (1 and 0), or of all others (0 and 1) -/
theorem lo_mean (hs : sr X 1 (M.1 1) W n) {o o' : Int32} (ho : (o = 1 ∧ o' = 0) ∨ (o = 0 ∧ o' = 1)) : ∀ (k j sm c fx fm : Nat), j + k = nn (M.1 1) 7 → k < fx → k < fm → ∃ sm' c' : Nat, sm' ≤ sm + 300 * k ∧ c' ≤ c + k ∧ f_X3_meanLashes_l9 (20 * 1 + 6) a b o X fx (nI sm) (nI c) (nI j) = some (nI sm', nI c') ∧ f_X9_meanOf_l9 a b o' M fm (nI sm) (nI c) (nI j) = some (nI sm', nI c') := by
  have hi := hs.2.1
  have hc := hs.1
  have hh : um_h 1 := Or.inl rfl
  obtain ⟨e1, hn⟩ := si_sents hi
  have ex1 : X.1 (20 * 1 + 6) 2 = nI (nn (M.1 1) 7) := by rw [x_cnt hc (t := 6) (by omega)]; exact e1
  intro k
  induction k with
  | zero =>
    intro j sm c fx fm hj hfx hfm
    obtain ⟨fx, rfl⟩ : ∃ f, fx = f + 1 := ⟨fx - 1, by omega⟩
    obtain ⟨fm, rfl⟩ : ∃ f, fm = f + 1 := ⟨fm - 1, by omega⟩
    rw [f_X3_meanLashes_l9, f_X9_meanOf_l9]
    exact ⟨sm, c, by omega, by omega, if_pos (by rw [ex1]; exact nI_le (by omega) (by omega)), if_pos (by rw [e1]; exact nI_le (by omega) (by omega))⟩
  | succ k ih =>
    intro j sm c fx fm hj hfx hfm
    obtain ⟨fx, rfl⟩ : ∃ f, fx = f + 1 := ⟨fx - 1, by omega⟩
    obtain ⟨fm, rfl⟩ : ∃ f, fm = f + 1 := ⟨fm - 1, by omega⟩
    obtain ⟨l, hl, el⟩ := si_sent hi j (by omega)
    obtain ⟨s0, c0, h01, h02, i01, i02⟩ := ih (j + 1) sm c fx fm (by omega) (by omega) (by omega)
    obtain ⟨s1, c1, h11, h12, i11, i12⟩ := ih (j + 1) (sm + l) (c + 1) fx fm (by omega) (by omega) (by omega)
    rw [f_X3_meanLashes_l9, f_X9_meanOf_l9]
    rw [if_neg (by rw [ex1]; exact nI_ge (by omega) (by omega)), if_neg (by rw [e1]; exact nI_ge (by omega) (by omega))]
    rw [x_p6_0 hc hi hh (by omega), x_p6_1 hc hi hh (by omega), x_p6_2 hc hi hh (by omega), el]
    simp (disch := omega) only [um_let, Option.bind_some, lm_3, lb_480, la_1, la_2, um_ix_3, cl_3, if_true, nI_1, el, nI_add]
    have n10 : (1 : Int32) ≠ 0 := by decide
    have n01 : (0 : Int32) ≠ 1 := by decide
    by_cases hd : M.1 1 (480 + 3 * j + 1) = b
    · by_cases hj1 : M.1 1 (480 + 3 * j) = a
      · rcases ho with ⟨rfl, rfl⟩ | ⟨rfl, rfl⟩
        · exact ⟨s1, c1, by omega, by omega, by simp [hd, hj1, i11], by simp [hd, hj1, i12]⟩
        · exact ⟨s0, c0, by omega, by omega, by simp [hd, hj1, i01], by simp [hd, hj1, i02]⟩
      · rcases ho with ⟨rfl, rfl⟩ | ⟨rfl, rfl⟩
        · exact ⟨s0, c0, by omega, by omega, by simp [hd, hj1, i01], by simp [hd, hj1, i02]⟩
        · exact ⟨s1, c1, by omega, by omega, by simp [hd, hj1, i11], by simp [hd, hj1, i12]⟩
    · refine ⟨s0, c0, by omega, by omega, ?_, by simp [hd, i02]⟩
      by_cases hj1 : M.1 1 (480 + 3 * j) = a
      · rcases ho with ⟨rfl, rfl⟩ | ⟨rfl, rfl⟩
        · simp [hd, hj1, i01]
        · simp [hj1, i01]
      · rcases ho with ⟨rfl, rfl⟩ | ⟨rfl, rfl⟩
        · simp [hj1, i01]
        · simp [hd, hj1, i01]
/-- a mean, or none -/
theorem mean_ (hs : sr X 1 (M.1 1) W n) {o o' : Int32} (ho : (o = 1 ∧ o' = 0) ∨ (o = 0 ∧ o' = 1)) : (f_X3_meanLashes (20 * 1 + 6) a b o X = some (-1000000005) ∧ f_X9_meanOf a b o' M = some (-1)) ∨ ∃ t : Nat, t ≤ 9000 ∧ f_X3_meanLashes (20 * 1 + 6) a b o X = some (nI t) ∧ f_X9_meanOf a b o' M = some (nI t) := by
  have hn := (si_sents hs.2.1).2
  obtain ⟨sm, c, h1, h2, e1, e2⟩ := lo_mean (a := a) (b := b) hs ho (nn (M.1 1) 7) 0 0 0 um_N um_N (by omega) (by unfold um_N; omega) (by unfold um_N; omega)
  unfold f_X3_meanLashes f_X9_meanOf
  rw [show (0 : Int32) = nI 0 from rfl, e1, e2, um_b2_some, um_b2_some]
  by_cases hc : c = 0
  · left
    subst hc
    exact ⟨if_pos rfl, if_pos rfl⟩
  · right
    have hc0 : nI c ≠ nI 0 := fun z => hc ((nI_eq (by omega) (by omega)).mp z)
    have hle : sm / c ≤ sm := Nat.div_le_self sm c
    refine ⟨sm / c, by omega, ?_, ?_⟩
    · rw [if_neg hc0, if_neg hc0, nI_div (by omega) (by omega)]
    · rw [if_neg hc0, if_neg hc0, nI_div (by omega) (by omega)]
theorem lo_harsh (hs : sr X 1 (M.1 1) W n) : ∀ (k j : Nat) (acc : Int32) (fx fm : Nat), j + k = 4 → k < fx → k < fm → sm_S (f_X3_harshJudges_l4 (20 * 1 + 6) b X fx acc (nI j)) (f_X9_harsh_l19 b M fm acc (nI j)) (fun a b => a = b) := by
  intro k
  induction k with
  | zero =>
    intro j acc fx fm hj hfx hfm
    obtain ⟨fx, rfl⟩ : ∃ f, fx = f + 1 := ⟨fx - 1, by omega⟩
    obtain ⟨fm, rfl⟩ : ∃ f, fm = f + 1 := ⟨fm - 1, by omega⟩
    rw [f_X3_harshJudges_l4, f_X9_harsh_l19]
    exact sm_xt (nI_le (a := 4) (by omega) (by omega)) (sm_mt (nI_le (a := 4) (by omega) (by omega)) (sm_ret rfl))
  | succ k ih =>
    intro j acc fx fm hj hfx hfm
    obtain ⟨fx, rfl⟩ : ∃ f, fx = f + 1 := ⟨fx - 1, by omega⟩
    obtain ⟨fm, rfl⟩ : ∃ f, fm = f + 1 := ⟨fm - 1, by omega⟩
    have ih2 := fun a => ih (j + 1) a fx fm (by omega) (by omega) (by omega)
    rw [f_X3_harshJudges_l4, f_X9_harsh_l19]
    refine sm_xf (nI_ge (b := 4) (by omega) (by omega)) (sm_mf (nI_ge (b := 4) (by omega) (by omega)) ?_)
    rw [nI_1, show acc ||| (0 : Int32) = acc from Int32.or_zero]
    have m1 := mean_ (a := nI j) (b := b) hs (o := 1) (o' := 0) (Or.inl ⟨rfl, rfl⟩)
    have m2 := mean_ (a := nI j) (b := b) hs (o := 0) (o' := 1) (Or.inr ⟨rfl, rfl⟩)
    rcases m1 with ⟨p1, p2⟩ | ⟨t, ht, p1, p2⟩
    · rcases m2 with ⟨q1, q2⟩ | ⟨u, hu, q1, q2⟩
      · exact sm_xb p1 (sm_xb q1 (sm_mb p2 (sm_mb q2 (sm_xt rfl (sm_mt (by decide) (ih2 acc))))))
      · exact sm_xb p1 (sm_xb q1 (sm_mb p2 (sm_mb q2 (sm_xt rfl (sm_mt (by decide) (ih2 acc))))))
    · rcases m2 with ⟨q1, q2⟩ | ⟨u, hu, q1, q2⟩
      · exact sm_xb p1 (sm_xb q1 (sm_mb p2 (sm_mb q2 (sm_xf (nI_none (by omega)) (sm_xt rfl (sm_mf (nI_pos (by omega)) (sm_mt (by decide) (ih2 acc))))))))
      · refine sm_xb p1 (sm_xb q1 (sm_mb p2 (sm_mb q2 (sm_xf (nI_none (by omega)) (sm_xf (nI_none (by omega)) (sm_mf (nI_pos (by omega)) (sm_mf (nI_pos (by omega)) ?_)))))))
        exact sm_if Iff.rfl (fun _ => ih2 acc) (fun _ => ih2 _)
end REC
theorem sim_meanR : sim_mean RR := by
  intro n X M a1 a2 hR
  refine sm_ouv ?_ hR
  unfold f_X8_mean f_X9_mean
  refine sm_chk (wi_0 (n := 3) (by decide) (by decide)) (sm_ret rfl) (fun _ => ?_)
  refine sm_chk (wi_0 (n := 7) (by decide) (by decide)) (sm_ret rfl) (fun _ => ?_)
  unfold f_X9_orNone
  rcases mean_ (a := a1) (b := a2) hR.1 (o := 1) (o' := 0) (Or.inl ⟨rfl, rfl⟩) with ⟨p1, p2⟩ | ⟨t, ht, p1, p2⟩
  · exact sm_xb p1 (sm_mb p2 (sm_ret rfl))
  · refine sm_xb p1 (sm_mb p2 ?_)
    rw [if_pos (nI_pos' (by omega))]
    exact sm_ret rfl
theorem sim_harshR : sim_harsh RR := by
  intro n X M a1 hR
  refine sm_ouv ?_ hR
  unfold f_X8_harsh f_X9_harsh
  refine sm_chk (wi_0 (n := 7) (by decide) (by decide)) (sm_ret rfl) (fun _ => ?_)
  unfold f_X3_harshJudges
  simp only [bind_sm]
  exact lo_harsh hR.1 4 0 0 um_N um_N (by omega) (by unfold um_N; omega) (by unfold um_N; omega)
section PLN
variable {X M : um_S} {n W q N F : Nat} {a b d v1 v2 : Int32}
theorem lo_sum (hs : sr X 1 (M.1 1) W n) {w : Nat} (hw : w ≤ 1) : ∀ (y r acc fx fm : Nat), y ≤ 6 → r < 2 ^ 20 → y < fx → y < fm → ∃ t : Nat, t ≤ acc + 99 * y ∧ f_X3_planSum_l11 (20 * 1 + 10) (nI w) X fx (nI acc) (nI r) (nI y + (-1)) = some (nI t) ∧ f_X9_sumOf_l11 (nI w) M fm (nI acc) (nI r) (nI y + (-1)) = some (nI t) := by
  have hi := hs.2.1
  have hc := hs.1
  have hh : um_h 1 := Or.inl rfl
  intro y
  induction y with
  | zero =>
    intro r acc fx fm hy hr hfx hfm
    obtain ⟨fx, rfl⟩ : ∃ f, fx = f + 1 := ⟨fx - 1, by omega⟩
    obtain ⟨fm, rfl⟩ : ∃ f, fm = f + 1 := ⟨fm - 1, by omega⟩
    rw [f_X3_planSum_l11, f_X9_sumOf_l11]
    exact ⟨acc, by omega, if_pos (by decide), if_pos (by decide)⟩
  | succ y ih =>
    intro r acc fx fm hy hr hfx hfm
    obtain ⟨fx, rfl⟩ : ∃ f, fx = f + 1 := ⟨fx - 1, by omega⟩
    obtain ⟨fm, rfl⟩ : ∃ f, fm = f + 1 := ⟨fm - 1, by omega⟩
    have hm3 : r % 3 < 3 := Nat.mod_lt _ (by omega)
    obtain ⟨v, hv, ev⟩ := si_way hi (6 * y + (r % 3 * 2 + w)) (by omega)
    have e3 := x_plain hc (t := 10) (j := 6 * y + (r % 3 * 2 + w)) (by omega) (by omega) (by omega) (by change 6 * y + (r % 3 * 2 + w) < 36; omega)
    change X.1 (20 * 1 + 10 + 100) _ = M.1 1 (740 + (6 * y + (r % 3 * 2 + w))) at e3
    obtain ⟨t, ht, i1, i2⟩ := ih (r / 3) (acc + v) fx fm (by omega) (by omega) (by omega) (by omega)
    have d3 : nI r / 3 = nI (r / 3) := nI_div (b := 3) (by omega) (by omega)
    rw [f_X3_planSum_l11, f_X9_sumOf_l11, nI_am, nI_d3 (by omega), d3]
    rw [if_neg (nI_pos (by omega)), if_neg (nI_pos (by omega)), lr_2, nI_add, g_10 hh (by omega) (by omega), Option.bind_some, e3, ev]
    unfold f_X9_wayAt um_let
    dsimp only
    rw [lm_6, lb_740, lm_2, nI_add (740 + 6 * y) (2 * (r % 3)), Option.bind_some, nI_add (740 + 6 * y + 2 * (r % 3)) w, if_pos (um_ix_3 (by omega)), cl_3 (by omega), show 740 + 6 * y + 2 * (r % 3) + w = 740 + (6 * y + (r % 3 * 2 + w)) by omega, ev, nI_add acc v]
    exact ⟨t, by omega, i1, i2⟩
theorem sum_ (hs : sr X 1 (M.1 1) W n) {w : Nat} (hw : w ≤ 1) (hN : 1 ≤ N) (hN6 : N ≤ 6) {r : Nat} (hr : r < 2 ^ 20) : ∃ t : Nat, t ≤ 594 ∧ f_X3_planSum (20 * 1 + 10) (nI N) (nI r) (nI w) X = some (nI t) ∧ f_X9_sumOf (nI r) (nI N) (nI w) M = some (nI t) := by
  obtain ⟨t, ht, i1, i2⟩ := lo_sum hs hw N r 0 um_N um_N (by omega) hr (by unfold um_N; omega) (by unfold um_N; omega)
  unfold f_X3_planSum f_X9_sumOf um_let
  dsimp only
  rw [bind_sm, bind_sm, show nI N - (1 : Int32) = nI N + (-1) from Int32.sub_eq_add_neg _ _]
  exact ⟨t, by omega, i1, i2⟩
theorem lo_pow {f3 : Int32} (hN6 : N ≤ 6) : ∀ (k j acc fx fm : Nat), j + k = N → k < fx → k < fm → f_X3_bestPlan_l5 (20 * 1 + 10) (nI N) a X fx (nI acc) (nI j) = some (nI (acc * 3 ^ k)) ∧ f_X9_plan_l45 (nI N) a f3 M fm (nI acc) (nI j) = some (nI (acc * 3 ^ k)) := by
  intro k
  induction k with
  | zero =>
    intro j acc fx fm hj hfx hfm
    obtain ⟨fx, rfl⟩ : ∃ f, fx = f + 1 := ⟨fx - 1, by omega⟩
    obtain ⟨fm, rfl⟩ : ∃ f, fm = f + 1 := ⟨fm - 1, by omega⟩
    have hle : nI N ≤ nI j := nI_le (by omega) (by omega)
    rw [f_X3_bestPlan_l5, f_X9_plan_l45, if_pos hle, if_pos hle]
    simp
  | succ k ih =>
    intro j acc fx fm hj hfx hfm
    obtain ⟨fx, rfl⟩ : ∃ f, fx = f + 1 := ⟨fx - 1, by omega⟩
    obtain ⟨fm, rfl⟩ : ∃ f, fm = f + 1 := ⟨fm - 1, by omega⟩
    rw [f_X3_bestPlan_l5, f_X9_plan_l45, if_neg (nI_ge (by omega) (by omega)), if_neg (nI_ge (by omega) (by omega)), lr_3, nI_1, show acc * 3 ^ (k + 1) = acc * 3 * 3 ^ k by rw [Nat.pow_succ, Nat.mul_assoc, Nat.mul_comm (3 ^ k) 3]]
    exact ih (j + 1) (acc * 3) fx fm (by omega) (by omega) (by omega)
theorem lo_best {f3 : Int32} {P : Nat} (hs : sr X 1 (M.1 1) W n) (hN : 1 ≤ N) (hN6 : N ≤ 6) (hP : P ≤ 729) : ∀ (k j : Nat) (bx lx bm : Int32) (fx fm : Nat), j + k = P → k < fx → k < fm → (bx = -1000000005 ∧ lx = 1000000 ∧ bm = -1 ∨ ∃ b t : Nat, b < 729 ∧ t ≤ 594 ∧ bx = nI b ∧ bm = nI b ∧ lx = nI t ∧ f_X9_sumOf (nI b) (nI N) (0 : Int32) M = some (nI t)) →
    sm_S (f_X3_bestPlan_l32 (20 * 1 + 10) (nI N) a (nI P) X fx bx lx (nI j)) (f_X9_plan_l69 (nI N) a f3 (nI P) M fm bm (nI j)) (fun x y => x = -1000000005 ∧ y = -1 ∨ ∃ b : Nat, b < 729 ∧ x = nI b ∧ y = nI b) := by
  intro k
  induction k with
  | zero =>
    intro j bx lx bm fx fm hj hfx hfm hb
    obtain ⟨fx, rfl⟩ : ∃ f, fx = f + 1 := ⟨fx - 1, by omega⟩
    obtain ⟨fm, rfl⟩ : ∃ f, fm = f + 1 := ⟨fm - 1, by omega⟩
    rw [f_X3_bestPlan_l32, f_X9_plan_l69]
    refine sm_xt (nI_le (by omega) (by omega)) (sm_mt (nI_le (by omega) (by omega)) (sm_ret ?_))
    rcases hb with ⟨h1, _, h3⟩ | ⟨b, t, h1, _, h2, h3, _⟩
    · exact Or.inl ⟨h1, h3⟩
    · exact Or.inr ⟨b, h1, h2, h3⟩
  | succ k ih =>
    intro j bx lx bm fx fm hj hfx hfm hb
    obtain ⟨fx, rfl⟩ : ∃ f, fx = f + 1 := ⟨fx - 1, by omega⟩
    obtain ⟨fm, rfl⟩ : ∃ f, fm = f + 1 := ⟨fm - 1, by omega⟩
    obtain ⟨t0, ht0, x0, y0⟩ := sum_ hs (w := 0) (by omega) hN hN6 (r := j) (by omega)
    obtain ⟨t1, ht1, x1, y1⟩ := sum_ hs (w := 1) (by omega) hN hN6 (r := j) (by omega)
    change f_X3_planSum _ _ _ (0 : Int32) X = _ at x0
    change f_X3_planSum _ _ _ (1 : Int32) X = _ at x1
    change f_X9_sumOf _ _ (0 : Int32) M = _ at y0
    change f_X9_sumOf _ _ (1 : Int32) M = _ at y1
    have skip := ih (j + 1) bx lx bm fx fm (by omega) (by omega) (by omega) hb
    have take := ih (j + 1) (nI j) (nI t0) (nI j) fx fm (by omega) (by omega) (by omega) (Or.inr ⟨j, t0, by omega, ht0, rfl, rfl, rfl, y0⟩)
    rw [f_X3_bestPlan_l32, f_X9_plan_l69]
    refine sm_xf (nI_ge (by omega) (by omega)) (sm_mf (nI_ge (by omega) (by omega)) ?_)
    rw [nI_1]
    refine sm_xb x0 (sm_mb y1 ?_)
    rcases hb with ⟨h1, h2, h3⟩ | ⟨b, t, hb1, hb2, h1, h3, h2, h4⟩
    · subst h2
      refine sm_xf (nI_ge (b := 1000000) (by omega) (by omega)) (sm_xb x1 ?_)
      refine sm_if Iff.rfl (fun _ => skip) (fun _ => ?_)
      exact sm_mt (by rw [h3]; decide) take
    · subst h2
      by_cases ht : t ≤ t0
      · refine sm_xt (nI_le ht (by omega)) (sm_mi (fun _ => skip) (fun _ => ?_))
        rw [h3]
        refine sm_mf (nI_pos (by omega)) (sm_mb y0 (sm_mb h4 (sm_mt (nI_le ht (by omega)) ?_)))
        rw [← h3]
        exact skip
      · refine sm_xf (nI_ge (by omega) (by omega)) (sm_xb x1 (sm_if Iff.rfl (fun _ => skip) (fun _ => ?_)))
        rw [h3]
        exact sm_mf (nI_pos (by omega)) (sm_mb y0 (sm_mb h4 (sm_mf (nI_ge (by omega) (by omega)) take)))
end PLN
theorem sim_planR : sim_plan RR := by
  intro n X M a1 a2 a3 hR
  refine sm_ouv ?_ hR
  unfold f_X8_plan f_X9_plan
  refine sm_chk (wi_ (by decide) (by decide)) (sm_ret rfl) (fun hN => ?_)
  have h1 : (1 : Int32).toInt = 1 := by decide
  have h6 : (6 : Int32).toInt = 6 := by decide
  obtain ⟨N, hN2, eN⟩ := nI_ofT (a := a1) (u := 6) (by omega) (by omega)
  subst eN
  rw [nI_toInt (by omega), h1] at hN
  refine sm_chk (wi_0 (n := 999) (by decide) (by decide)) (sm_ret rfl) (fun _ => ?_)
  refine sm_chk (wi_0 (n := 2) (by decide) (by decide)) (sm_ret rfl) (fun ⟨w, hw, ew⟩ => ?_)
  subst ew
  have hP : 1 * 3 ^ N ≤ 729 := by
    have : N = 1 ∨ N = 2 ∨ N = 3 ∨ N = 4 ∨ N = 5 ∨ N = 6 := by omega
    rcases this with rfl | rfl | rfl | rfl | rfl | rfl <;> decide
  obtain ⟨p1, p2⟩ := lo_pow (X := X) (M := M) (N := N) (a := a2) (f3 := nI w) (by omega) N 0 1 um_N um_N (by omega) (by unfold um_N; omega) (by unfold um_N; omega)
  unfold f_X3_bestPlan
  refine sm_mb p2 ?_
  refine sm_bind (Q := fun x y => x = -1000000005 ∧ y = -1 ∨ ∃ b : Nat, b < 729 ∧ x = nI b ∧ y = nI b) ?_ (fun x y hxy => ?_)
  · refine sm_xb p1 ?_
    rw [bind_sm]
    exact lo_best hR.1 (by omega) (by omega) hP (1 * 3 ^ N) 0 (-1000000005) 1000000 (-1) um_N um_N (by omega) (by unfold um_N; omega) (by unfold um_N; omega) (Or.inl ⟨rfl, rfl, rfl⟩)
  · rcases hxy with ⟨rfl, rfl⟩ | ⟨b, hb, rfl, rfl⟩
    · exact sm_xt rfl (sm_mf (by decide) (sm_ret rfl))
    · refine sm_xf (nI_none (by omega)) (sm_mt (nI_pos' (by omega)) (sm_if Iff.rfl (fun _ => sm_ret rfl) (fun hw2 => ?_)))
      have hw1 : w ≤ 1 := by
        by_cases e : w = 2
        · exact absurd (by rw [e]; rfl) hw2
        · omega
      obtain ⟨t, _, i1, i2⟩ := sum_ hR.1 hw1 (N := N) (by omega) (by omega) (r := b) (by omega)
      exact sm_xb i1 (sm_mb i2 (sm_ret rfl))
