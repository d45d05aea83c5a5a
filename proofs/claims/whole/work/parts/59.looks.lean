/-! LEVEL 2: carries; who may be whom -/
theorem on1_8 : ∀ g, g < 256 → on1 g 14 ≤ 8 := by decide +kernel
section CAR
variable {X M : um_S} {n W q N : Nat} {a b d v1 v2 : Int32}
theorem lo_yes (hs : sr X 1 (M.1 1) W n) : ∀ (k j acc fx fm : Nat), j + k = 7 → k < fx → k < fm → ∃ t : Nat, t ≤ acc + 99 * k ∧ f_X3_yesVotes_l4 (20 * 1 + 9) a X fx (nI acc) (nI j) = some (nI t) ∧ f_X9_votesFor_l4 a M fm (nI acc) (nI j) = some (nI t) := by
  have hi := hs.2.1
  have hc := hs.1
  have hh : um_h 1 := Or.inl rfl
  intro k
  induction k with
  | zero =>
    intro j acc fx fm hj hfx hfm
    obtain ⟨fx, rfl⟩ : ∃ f, fx = f + 1 := ⟨fx - 1, by omega⟩
    obtain ⟨fm, rfl⟩ : ∃ f, fm = f + 1 := ⟨fm - 1, by omega⟩
    rw [f_X3_yesVotes_l4, f_X9_votesFor_l4]
    exact ⟨acc, by omega, if_pos (nI_le (a := 7) (by omega) (by omega)), if_pos (nI_le (a := 7) (by omega) (by omega))⟩
  | succ k ih =>
    intro j acc fx fm hj hfx hfm
    obtain ⟨fx, rfl⟩ : ∃ f, fx = f + 1 := ⟨fx - 1, by omega⟩
    obtain ⟨fm, rfl⟩ : ∃ f, fm = f + 1 := ⟨fm - 1, by omega⟩
    obtain ⟨v, hv, ev⟩ := si_party hi j (by omega)
    obtain ⟨t0, ht0, i01, i02⟩ := ih (j + 1) acc fx fm (by omega) (by omega) (by omega)
    obtain ⟨t1, ht1, i11, i12⟩ := ih (j + 1) (acc + v) fx fm (by omega) (by omega) (by omega)
    have r0 : f_X5_get (20 * 1 + 9) (nI j) (0 : Int32) X = some (M.1 1 (710 + 3 * j)) := by
      have e := g_9 (h := 1) (r := j) (c := 0) (X := X) hh (by omega) (by omega)
      rw [x_plain hc (t := 9) (by omega) (by omega) (by omega) (by change 3 * j + 0 < 21; omega)] at e
      exact e
    have r1 : f_X5_get (20 * 1 + 9) (nI j) (1 : Int32) X = some (M.1 1 (710 + 3 * j + 1)) := by
      have e := g_9 (h := 1) (r := j) (c := 1) (X := X) hh (by omega) (by omega)
      rw [x_plain hc (t := 9) (by omega) (by omega) (by omega) (by change 3 * j + 1 < 21; omega)] at e
      exact e
    have r2 : f_X5_get (20 * 1 + 9) (nI j) (2 : Int32) X = some (M.1 1 (710 + 3 * j + 2)) := by
      have e := g_9 (h := 1) (r := j) (c := 2) (X := X) hh (by omega) (by omega)
      rw [x_plain hc (t := 9) (by omega) (by omega) (by omega) (by change 3 * j + 2 < 21; omega)] at e
      exact e
    rw [f_X3_yesVotes_l4, f_X9_votesFor_l4, if_neg (show ¬ (7 : Int32) ≤ nI j from nI_ge (b := 7) (by omega) (by omega)), if_neg (show ¬ (7 : Int32) ≤ nI j from nI_ge (b := 7) (by omega) (by omega)), r0, r1, r2]
    simp (disch := omega) only [um_let, Option.bind_some, lm_3, lb_710, la_1, la_2, um_ix_3, cl_3, if_true, nI_1, ad_0, ev, nI_add]
    have hsa := sub_and (M.1 1 (710 + 3 * j + 1)) a
    by_cases c1 : M.1 1 (710 + 3 * j + 1) &&& a = M.1 1 (710 + 3 * j + 1)
    · have c1' := hsa.mp c1
      by_cases c2 : M.1 1 (710 + 3 * j + 2) &&& a = 0
      · exact ⟨t1, by omega, by simp only [if_pos c1, if_pos c2, if_neg (show ¬ (1 : Int32) = 0 by decide)]; exact i11, by simp only [if_pos c1', if_pos c2]; exact i12⟩
      · exact ⟨t0, by omega, by simp only [if_pos c1, if_neg c2, if_pos (show (0 : Int32) = 0 from rfl)]; exact i01, by simp only [if_pos c1', if_neg c2]; exact i02⟩
    · have c1' : ¬ (M.1 1 (710 + 3 * j + 1) &&& (a ^^^ (-1))) = 0 := fun z => c1 (hsa.mpr z)
      exact ⟨t0, by omega, by simp only [if_neg c1, if_pos (show (0 : Int32) = 0 from rfl)]; exact i01, by simp only [if_neg c1']; exact i02⟩
theorem yes_ (hs : sr X 1 (M.1 1) W n) : ∃ t : Nat, f_X3_yesVotes (20 * 1 + 9) a X = some (nI t) ∧ f_X9_votesFor a M = some (nI t) := by
  obtain ⟨t, _, i1, i2⟩ := lo_yes (a := a) hs 7 0 0 um_N um_N (by omega) (by unfold um_N; omega) (by unfold um_N; omega)
  unfold f_X3_yesVotes f_X9_votesFor
  rw [bind_sm, bind_sm]
  exact ⟨t, i1, i2⟩
theorem lo_carry (hs : sr X 1 (M.1 1) W n) : ∀ (k j : Nat) (bx fw bm : Int32) (fx fm : Nat), j + k = 256 → k < fx → k < fm → (bx = -1000000005 ∧ fw = 9 ∧ bm = -1 ∨ ∃ g : Nat, g < 256 ∧ bx = nI g ∧ bm = nI g ∧ fw = nI (on1 g 14)) → sm_S (f_X3_carryingSet_l9 (20 * 1 + 9) a X fx bx fw (nI j)) (f_X9_carries_l19 a M fm bm (nI j)) (fun x y => x = -1000000005 ∧ y = -1 ∨ ∃ g : Nat, g < 256 ∧ x = nI g ∧ y = nI g) := by
  intro k
  induction k with
  | zero =>
    intro j bx fw bm fx fm hj hfx hfm hb
    obtain ⟨fx, rfl⟩ : ∃ f, fx = f + 1 := ⟨fx - 1, by omega⟩
    obtain ⟨fm, rfl⟩ : ∃ f, fm = f + 1 := ⟨fm - 1, by omega⟩
    rw [f_X3_carryingSet_l9, f_X9_carries_l19]
    refine sm_xt (nI_lt (a := 255) (by omega) (by omega)) (sm_mt (nI_le (a := 256) (by omega) (by omega)) (sm_ret ?_))
    rcases hb with ⟨h1, _, h3⟩ | ⟨g, h1, h2, h3, _⟩
    · exact Or.inl ⟨h1, h3⟩
    · exact Or.inr ⟨g, h1, h2, h3⟩
  | succ k ih =>
    intro j bx fw bm fx fm hj hfx hfm hb
    obtain ⟨fx, rfl⟩ : ∃ f, fx = f + 1 := ⟨fx - 1, by omega⟩
    obtain ⟨fm, rfl⟩ : ∃ f, fm = f + 1 := ⟨fm - 1, by omega⟩
    obtain ⟨t, y1, y2⟩ := yes_ (a := nI j) hs
    have skip := ih (j + 1) bx fw bm fx fm (by omega) (by omega) (by omega) hb
    have take := ih (j + 1) (nI j) (nI (on1 j 14)) (nI j) fx fm (by omega) (by omega) (by omega) (Or.inr ⟨j, by omega, rfl, rfl, rfl⟩)
    have hon := on1_8 j (by omega)
    rw [f_X3_carryingSet_l9, f_X9_carries_l19]
    refine sm_xf (show ¬ (255 : Int32) < nI j from nI_nlt (a := 255) (by omega) (by omega)) (sm_mf (nI_ge (b := 256) (by omega) (by omega)) ?_)
    rw [nI_1]
    refine sm_xb (bitCount_ (by omega)) (sm_mb y2 ?_)
    rcases hb with ⟨h1, h2, h3⟩ | ⟨g, hg, h1, h3, h2⟩
    · subst h2
      refine sm_xf (nI_ge (b := 9) (by omega) (by omega)) (sm_xb y1 (sm_if Iff.rfl (fun _ => skip) (fun _ => ?_)))
      exact sm_mt (by rw [h3]; decide) take
    · subst h2
      have hog := on1_8 g hg
      by_cases hle : on1 g 14 ≤ on1 j 14
      · refine sm_xt (nI_le hle (by omega)) (sm_mi (fun _ => skip) (fun _ => ?_))
        rw [h3]
        refine sm_mf (nI_pos (by omega)) (sm_mb (ones_ (by omega)) (sm_mb (ones_ (by omega)) (sm_mt (nI_le hle (by omega)) ?_)))
        rw [← h3]
        exact skip
      · refine sm_xf (nI_ge (by omega) (by omega)) (sm_xb y1 (sm_if Iff.rfl (fun _ => skip) (fun _ => ?_)))
        rw [h3]
        exact sm_mf (nI_pos (by omega)) (sm_mb (ones_ (by omega)) (sm_mb (ones_ (by omega)) (sm_mf (nI_ge (by omega) (by omega)) take)))
end CAR
theorem sim_carriesR : sim_carries RR := by
  intro n X M a1 hR
  refine sm_ouv ?_ hR
  unfold f_X8_carries f_X9_carries f_X3_carryingSet
  refine sm_chk (wi_ (by decide) (by decide)) (sm_ret rfl) (fun _ => ?_)
  simp only [bind_sm]
  obtain ⟨x, y, h1, h2, h3⟩ := lo_carry (a := a1) hR.1 256 0 (-1000000005) 9 (-1) um_N um_N (by omega) (by unfold um_N; omega) (by unfold um_N; omega) (Or.inl ⟨rfl, rfl, rfl⟩)
  have h1' : f_X3_carryingSet_l9 (20 * 1 + 9) a1 X um_N (-1000000005) 9 0 = some x := h1
  have h2' : f_X9_carries_l19 a1 M um_N (-1) 0 = some y := h2
  rw [h1', h2', Option.bind_some]
  unfold f_X9_orNone
  rcases h3 with ⟨rfl, rfl⟩ | ⟨g, hg, rfl, rfl⟩
  · exact sm_ret rfl
  · rw [if_pos (nI_pos' (by omega))]
    exact sm_ret rfl
theorem if_or {α : Type} {c d : Prop} {i : Decidable c} {j : Decidable d} (k z : α) : (@ite α c i k (@ite α d j k z)) = if c ∨ d then k else z := by
  by_cases hc : c <;> by_cases hd : d <;> simp [hc, hd]
section LKS
variable {X M : um_S} {n W l m g N : Nat} {a b d v1 v2 : Int32}
def mbq (s : Nat → Int32) (l m : Nat) : Bool := decide (s (440 + 4 * l) = 8 ∨ s (440 + 4 * l) = s (50 + 14 * m + 0)) && (decide (s (440 + 4 * l + 1) = 6 ∨ s (440 + 4 * l + 1) = s (50 + 14 * m + 1)) && (decide (s (440 + 4 * l + 2) = 0 ∨ (-2 ≤ (s (50 + 14 * m + 2)).toInt - (s (440 + 4 * l + 2)).toInt ∧ (s (50 + 14 * m + 2)).toInt - (s (440 + 4 * l + 2)).toInt ≤ 2)) && decide (s (440 + 4 * l + 3) &&& s (50 + 14 * m + 3) = s (440 + 4 * l + 3))))
theorem x_mayBe (hs : sr X 1 (M.1 1) W n) (hl : l < nn (M.1 1) 6) (hm : m < nn (M.1 1) 2) : f_X4_mayBe 1 (nI l) (nI m) X = some (mbq (M.1 1) l m) := by
  have hi := hs.2.1
  have hc := hs.1
  have hh : um_h 1 := Or.inl rfl
  obtain ⟨la, hla, ela⟩ := si_look hi l hl
  obtain ⟨ma, hma, ema⟩ := (si_man hi m hm).2.2.2.2.2.2.2.2
  unfold f_X4_mayBe mbq
  rw [x_p5_0 hc hi hh hl, x_p5_1 hc hi hh hl, x_p5_2 hc hi hh hl, x_p5_3 hc hi hh hl, x_m0 hc hi hh hm, x_m1 hc hi hh hm, x_m2 hc hi hh hm, x_m3 hc hi hh hm]
  simp only [um_let, Option.bind_some]
  rw [ela, ema]
  have hage : ((if 0 ≤ nI la - nI ma then nI la - nI ma else 0 - (nI la - nI ma)) ≤ (2 : Int32)) ↔ (-2 ≤ (nI ma).toInt - (nI la).toInt ∧ (nI ma).toInt - (nI la).toInt ≤ 2) := by
    have e1 := nI_subI (a := la) (r := ma) (by omega) (by omega)
    have h0 : (0 : Int32).toInt = 0 := by decide
    have h2 : (2 : Int32).toInt = 2 := by decide
    rw [nI_toInt (n := ma) (by omega), nI_toInt (n := la) (by omega)]
    by_cases hp : 0 ≤ nI la - nI ma
    · rw [if_pos hp]
      rw [Int32.le_iff_toInt_le, e1, h0] at hp
      rw [Int32.le_iff_toInt_le, e1, h2]
      omega
    · rw [if_neg hp]
      rw [Int32.le_iff_toInt_le, e1, h0] at hp
      have e3 : (0 - (nI la - nI ma)).toInt = (ma : Int) - la := by
        rw [Int32.toInt_sub, e1, h0, Int.bmod_def]
        split <;> omega
      rw [Int32.le_iff_toInt_le, e3, h2]
      omega
  rw [if_or, if_or, if_or]
  simp only [hage]
  by_cases p1 : M.1 1 (440 + 4 * l) = 8 ∨ M.1 1 (440 + 4 * l) = M.1 1 (50 + 14 * m + 0)
  · rw [if_pos p1, decide_eq_true p1, Bool.true_and]
    by_cases p2 : M.1 1 (440 + 4 * l + 1) = 6 ∨ M.1 1 (440 + 4 * l + 1) = M.1 1 (50 + 14 * m + 1)
    · rw [if_pos p2, decide_eq_true p2, Bool.true_and]
      by_cases p3 : nI la = 0 ∨ (-2 ≤ (nI ma).toInt - (nI la).toInt ∧ (nI ma).toInt - (nI la).toInt ≤ 2)
      · rw [if_pos p3, decide_eq_true p3, Bool.true_and]
        by_cases p4 : M.1 1 (440 + 4 * l + 3) &&& M.1 1 (50 + 14 * m + 3) = M.1 1 (440 + 4 * l + 3)
        · rw [if_pos p4, decide_eq_true p4]
        · rw [if_neg p4, decide_eq_false p4]
      · rw [if_neg p3, decide_eq_false p3, Bool.false_and]
    · rw [if_neg p2, decide_eq_false p2, Bool.false_and]
  · rw [if_neg p1, decide_eq_false p1, Bool.false_and]
theorem ev_let {A C : Type} {K : C} {F : C → A} {r : A} (h : ∀ k, k = K → F k = r) : um_let K F = r := h K rfl
theorem m_mayBe (hi : sr_i (M.1 1) W) (hl : l < nn (M.1 1) 6) (hm : m < nn (M.1 1) 2) : f_X9_mayBe (nI l) (nI m) M = some (mbq (M.1 1) l m) := by
  have hm14 := (si_men hi).2
  have hl10 := (si_looks hi).2
  obtain ⟨la, hla, ela⟩ := si_look hi l hl
  obtain ⟨ma, hma, ema⟩ := (si_man hi m hm).2.2.2.2.2.2.2.2
  have e1 := nI_subI (a := ma) (r := la) (by omega) (by omega)
  have hsa := sub_and (M.1 1 (440 + 4 * l + 3)) (M.1 1 (50 + 14 * m + 3))
  unfold f_X9_mayBe mbq
  rw [lm_4, lb_440]
  refine ev_let (fun x1 hx1 => ?_)
  subst hx1
  rw [m_manAt, Option.bind_some, la_0, la_1, la_2, la_3, la_1, la_2, la_3]
  refine (if_pos (um_ix_3 (by omega))).trans (ev_let (fun k6 hk6 => ?_))
  have T6 : ∀ v7 : Int32, k6 v7 = some (decide (v7 ≠ 0) && (decide (M.1 1 (440 + 4 * l + 1) = 6 ∨ M.1 1 (440 + 4 * l + 1) = M.1 1 (50 + 14 * m + 1)) && (decide (M.1 1 (440 + 4 * l + 2) = 0 ∨ (-2 ≤ (M.1 1 (50 + 14 * m + 2)).toInt - (M.1 1 (440 + 4 * l + 2)).toInt ∧ (M.1 1 (50 + 14 * m + 2)).toInt - (M.1 1 (440 + 4 * l + 2)).toInt ≤ 2)) && decide (M.1 1 (440 + 4 * l + 3) &&& M.1 1 (50 + 14 * m + 3) = M.1 1 (440 + 4 * l + 3))))) := by
    intro v7
    rw [hk6]
    refine (if_pos (um_ix_3 (by omega))).trans (ev_let (fun k9 hk9 => ?_))
    have T9 : ∀ v10 : Int32, k9 v10 = some (decide (v7 ≠ 0) && (decide (v10 ≠ 0) && (decide (M.1 1 (440 + 4 * l + 2) = 0 ∨ (-2 ≤ (M.1 1 (50 + 14 * m + 2)).toInt - (M.1 1 (440 + 4 * l + 2)).toInt ∧ (M.1 1 (50 + 14 * m + 2)).toInt - (M.1 1 (440 + 4 * l + 2)).toInt ≤ 2)) && decide (M.1 1 (440 + 4 * l + 3) &&& M.1 1 (50 + 14 * m + 3) = M.1 1 (440 + 4 * l + 3))))) := by
      intro v10
      rw [hk9]
      refine (if_pos (um_ix_3 (by omega))).trans (ev_let (fun k12 hk12 => ?_))
      have T12 : ∀ v13 : Int32, k12 v13 = some (decide (v7 ≠ 0) && (decide (v10 ≠ 0) && (decide (v13 ≠ 0) && decide (M.1 1 (440 + 4 * l + 3) &&& M.1 1 (50 + 14 * m + 3) = M.1 1 (440 + 4 * l + 3))))) := by
        intro v13
        rw [hk12]
        dsimp only
        by_cases h7 : v7 = 0
        · rw [if_pos h7, decide_eq_false (fun z => z h7), Bool.false_and]
        · rw [if_neg h7, decide_eq_true h7, Bool.true_and]
          by_cases h10 : v10 = 0
          · rw [if_pos h10, decide_eq_false (fun z => z h10), Bool.false_and]
          · rw [if_neg h10, decide_eq_true h10, Bool.true_and]
            by_cases h13 : v13 = 0
            · rw [if_pos h13, decide_eq_false (fun z => z h13), Bool.false_and]
            · rw [if_neg h13, decide_eq_true h13, Bool.true_and, if_pos (um_ix_3 (by omega)), if_pos (um_ix_3 (by omega)), cl_3 (by omega), cl_3 (by omega)]
              by_cases p4 : M.1 1 (440 + 4 * l + 3) &&& M.1 1 (50 + 14 * m + 3) = M.1 1 (440 + 4 * l + 3)
              · rw [if_pos (hsa.mp p4), decide_eq_true p4]
              · rw [if_neg (fun z => p4 (hsa.mpr z)), decide_eq_false p4]
      refine ev_let (fun k16 hk16 => ?_)
      have h16 : k16 () = k12 1 := by rw [hk16]
      have n1 : (1 : Int32) ≠ 0 := by decide
      rw [cl_3 (n := 440 + 4 * l + 2) (by omega)]
      by_cases c3 : M.1 1 (440 + 4 * l + 2) = 0
      · rw [if_pos c3, h16, T12 1, decide_eq_true n1, decide_eq_true (Or.inl c3)]
      · rw [if_neg c3, if_pos (um_ix_3 (by omega)), if_pos (um_ix_3 (by omega)), cl_3 (by omega), m_isIn, Option.bind_some, Int32.toInt_toInt64, ela, ema, e1, nI_toInt (n := ma) (by omega), nI_toInt (n := la) (by omega), show (-2 : Int64).toInt = -2 by decide, show (2 : Int64).toInt = 2 by decide]
        rw [ela] at c3
        by_cases c4 : -2 ≤ (ma : Int) - la ∧ (ma : Int) - la ≤ 2
        · rw [decide_eq_true c4, if_neg (by decide), h16, T12 1, decide_eq_true n1, decide_eq_true (Or.inr c4)]
        · rw [decide_eq_false c4, if_pos (by decide), T12 0, decide_eq_false (p := (0 : Int32) ≠ 0) (fun z => z rfl), decide_eq_false (p := nI la = 0 ∨ (-2 ≤ (ma : Int) - la ∧ (ma : Int) - la ≤ 2)) (fun z => z.elim c3 c4)]
    refine ev_let (fun k21 hk21 => ?_)
    have h21 : k21 () = k9 1 := by rw [hk21]
    have n1 : (1 : Int32) ≠ 0 := by decide
    rw [cl_3 (n := 440 + 4 * l + 1) (by omega)]
    by_cases c2 : M.1 1 (440 + 4 * l + 1) = 6
    · rw [if_pos c2, h21, T9 1, decide_eq_true n1, decide_eq_true (Or.inl c2)]
    · rw [if_neg c2, if_pos (um_ix_3 (by omega)), if_pos (um_ix_3 (by omega)), cl_3 (by omega)]
      by_cases c2' : M.1 1 (440 + 4 * l + 1) = M.1 1 (50 + 14 * m + 1)
      · rw [if_pos c2', h21, T9 1, decide_eq_true n1, decide_eq_true (Or.inr c2')]
      · rw [if_neg c2', T9 0, decide_eq_false (p := (0 : Int32) ≠ 0) (fun z => z rfl), decide_eq_false (p := M.1 1 (440 + 4 * l + 1) = 6 ∨ M.1 1 (440 + 4 * l + 1) = M.1 1 (50 + 14 * m + 1)) (fun z => z.elim c2 c2')]
  refine ev_let (fun k24 hk24 => ?_)
  have h24 : k24 () = k6 1 := by rw [hk24]
  have n1 : (1 : Int32) ≠ 0 := by decide
  rw [cl_3 (n := 440 + 4 * l) (by omega)]
  by_cases c1 : M.1 1 (440 + 4 * l) = 8
  · rw [if_pos c1, h24, T6 1, decide_eq_true n1, decide_eq_true (Or.inl c1)]
  · rw [if_neg c1, if_pos (um_ix_3 (by omega)), if_pos (um_ix_3 (by omega)), cl_3 (by omega)]
    by_cases c1' : M.1 1 (440 + 4 * l) = M.1 1 (50 + 14 * m + 0)
    · rw [if_pos c1', h24, T6 1, decide_eq_true n1, decide_eq_true (Or.inr c1')]
    · rw [if_neg c1', T6 0, decide_eq_false (p := (0 : Int32) ≠ 0) (fun z => z rfl), decide_eq_false (p := M.1 1 (440 + 4 * l) = 8 ∨ M.1 1 (440 + 4 * l) = M.1 1 (50 + 14 * m + 0)) (fun z => z.elim c1 c1')]
end LKS
