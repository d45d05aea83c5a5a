/-! LEVEL 2: a week, to its end; run, caught -/
section WKC
variable {X X' X2 X3 M M' M2 M3 : um_S} {h n W m i p q key w : Nat} {s : Nat → Int32} {l r v a b d off : Int32}
/-- serves, and is at a place -/
def thq (s : Nat → Int32) (m : Nat) : Bool := decide (s (50 + 14 * m + 4) ≠ -1) && decide (1 ≤ (s (50 + 14 * m + 5)).toInt ∧ (s (50 + 14 * m + 5)).toInt ≤ 4)
theorem thq_f (hp : s (50 + 14 * m + 4) = -1) : thq s m = false := by
  unfold thq
  rw [decide_eq_false (fun z => z hp), Bool.false_and]
theorem thq_k (hk : ¬ (1 ≤ (s (50 + 14 * m + 5)).toInt ∧ (s (50 + 14 * m + 5)).toInt ≤ 4)) : thq s m = false := by
  unfold thq
  rw [decide_eq_false hk, Bool.and_false]
theorem thq_t (hp : s (50 + 14 * m + 4) ≠ -1) (hk : 1 ≤ (s (50 + 14 * m + 5)).toInt ∧ (s (50 + 14 * m + 5)).toInt ≤ 4) : thq s m = true := by
  unfold thq
  rw [decide_eq_true hp, decide_eq_true hk]
  rfl
theorem m_isThere (hm : m < 14) (ho : mo (M.1 1) m) : f_X9_isThere (nI m) M = some (thq (M.1 1) m) := by
  unfold f_X9_isThere
  have e := neg_m1 (pl_or ho.2.1)
  rw [m_isDead hm, Option.bind_some, m_manAt, Option.bind_some, la_4, if_pos (um_ix_3 (by omega)), cl_3 (by omega), m_isHeld hm, Option.bind_some]
  by_cases hp : M.1 1 (50 + 14 * m + 4) = -1
  · rw [thq_f hp, if_pos (e.mpr hp)]
    by_cases hd : M.1 1 (50 + 14 * m + 11) = 1
    · rw [decide_eq_true hd]; exact if_neg (by decide)
    · rw [decide_eq_false hd]; exact if_pos (by decide)
  · have hd : ¬ M.1 1 (50 + 14 * m + 11) = 1 := fun z => hp (ho.2.2.2.1 z)
    rw [decide_eq_false hd, if_pos (by decide), if_neg (fun z => hp (e.mp z))]
    by_cases hk : 1 ≤ (M.1 1 (50 + 14 * m + 5)).toInt ∧ (M.1 1 (50 + 14 * m + 5)).toInt ≤ 4
    · rw [decide_eq_true hk, thq_t hp hk]; exact if_neg (by decide)
    · rw [decide_eq_false hk, thq_k hk]; exact if_pos (by decide)
theorem cnt_x (hs : sr X h (M.1 1) W n) : X.1 (20 * h + 1) 2 = nI (nn (M.1 1) 2) := by
  rw [x_cnt hs.1 (t := 1) (by omega)]
  exact (si_men hs.2.1).1
theorem lo_tempt (hh : um_h h) : ∀ (k j fx fm : Nat) (X M : um_S), sr X h (M.1 1) W n → j + k = nn (M.1 1) 2 → k < fx → k < fm → sm_S (f_X4_passWeek_l25 h fx (nI j) X) (f_X9_oneWeek_l10 fm (nI j) M) (wk h W n X M) := by
  intro k
  induction k with
  | zero =>
    intro j fx fm X M hs hj hfx hfm
    obtain ⟨e1, hn⟩ := si_men hs.2.1
    obtain ⟨fx, rfl⟩ : ∃ f, fx = f + 1 := ⟨fx - 1, by omega⟩
    obtain ⟨fm, rfl⟩ : ∃ f, fm = f + 1 := ⟨fm - 1, by omega⟩
    rw [f_X4_passWeek_l25, f_X9_oneWeek_l10]
    exact sm_xt (by rw [cnt_x hs]; exact nI_le (by omega) (by omega)) (sm_mt (by rw [e1]; exact nI_le (by omega) (by omega)) (sm_ret (wk_refl hs)))
  | succ k ih =>
    intro j fx fm X M hs hj hfx hfm
    have hi := hs.2.1
    have hc := hs.1
    obtain ⟨e1, hn⟩ := si_men hi
    obtain ⟨fx, rfl⟩ : ∃ f, fx = f + 1 := ⟨fx - 1, by omega⟩
    obtain ⟨fm, rfl⟩ : ∃ f, fm = f + 1 := ⟨fm - 1, by omega⟩
    have ih0 := ih (j + 1) fx fm X M hs (by omega) (by omega) (by omega)
    have ho := si_man hi j (by omega)
    rw [f_X4_passWeek_l25, f_X9_oneWeek_l10]
    refine sm_xf (by rw [cnt_x hs]; exact nI_ge (by omega) (by omega)) (sm_mf (by rw [e1]; exact nI_ge (by omega) (by omega)) ?_)
    rw [nI_1]
    refine sm_xb (x_isAtPlace hc hh (by omega) hn ho) (sm_mb (m_isThere (by omega) ho) ?_)
    by_cases hp : M.1 1 (50 + 14 * j + 4) = -1
    · rw [decide_eq_false (p := M.1 1 (50 + 14 * j + 4) ≠ -1) (fun z => z hp), thq_f hp]
      exact ih0
    · rw [decide_eq_true (p := M.1 1 (50 + 14 * j + 4) ≠ -1) hp]
      refine sm_xT (sm_xb (x_isServing hc hh (by omega) hn) ?_)
      by_cases hk : 1 ≤ (M.1 1 (50 + 14 * j + 5)).toInt ∧ (M.1 1 (50 + 14 * j + 5)).toInt ≤ 4
      · rw [decide_eq_true hk, thq_t hp hk]
        refine sm_xT (sm_mT (sm_bind (tempt_ hs hh (by omega) hp) (fun X1 M1 w1 => ?_)))
        exact sm_wk (ih (j + 1) fx fm X1 M1 w1.1 (by rw [wk_nn w1 (by omega) (by omega)]; omega) (by omega) (by omega)) (fun X' M' z => wk_trans w1 z)
      · rw [decide_eq_false hk, thq_k hk]
        exact ih0
theorem earn_no (hs : sr X h (M.1 1) W n) (hh : um_h h) (hm : m < nn (M.1 1) 2) (hk : ¬ (1 ≤ (M.1 1 (50 + 14 * m + 5)).toInt ∧ (M.1 1 (50 + 14 * m + 5)).toInt ≤ 4)) : f_X4_earn h (nI m) X = some X := by
  unfold f_X4_earn um_let
  rw [x_m5 hs.1 hs.2.1 hh hm, Option.bind_some]
  dsimp only
  have h2 : (2 : Int32).toInt = 2 := by decide
  have h4 : (4 : Int32).toInt = 4 := by decide
  rw [if_neg (fun z => hk (by rw [z, h2]; omega)), if_neg (fun z => hk (by rw [z, h4]; omega))]
theorem lo_earn (hh : um_h h) : ∀ (k j fx fm : Nat) (X M : um_S), sr X h (M.1 1) W n → j + k = nn (M.1 1) 2 → k < fx → k < fm → sm_S (f_X4_passWeek_l65 h fx (nI j) X) (f_X9_oneWeek_l41 fm (nI j) M) (wk h W n X M) := by
  intro k
  induction k with
  | zero =>
    intro j fx fm X M hs hj hfx hfm
    obtain ⟨e1, hn⟩ := si_men hs.2.1
    obtain ⟨fx, rfl⟩ : ∃ f, fx = f + 1 := ⟨fx - 1, by omega⟩
    obtain ⟨fm, rfl⟩ : ∃ f, fm = f + 1 := ⟨fm - 1, by omega⟩
    rw [f_X4_passWeek_l65, f_X9_oneWeek_l41]
    exact sm_xt (by rw [cnt_x hs]; exact nI_le (by omega) (by omega)) (sm_mt (by rw [e1]; exact nI_le (by omega) (by omega)) (sm_ret (wk_refl hs)))
  | succ k ih =>
    intro j fx fm X M hs hj hfx hfm
    have hi := hs.2.1
    have hc := hs.1
    obtain ⟨e1, hn⟩ := si_men hi
    obtain ⟨fx, rfl⟩ : ∃ f, fx = f + 1 := ⟨fx - 1, by omega⟩
    obtain ⟨fm, rfl⟩ : ∃ f, fm = f + 1 := ⟨fm - 1, by omega⟩
    have ih0 := ih (j + 1) fx fm X M hs (by omega) (by omega) (by omega)
    have ho := si_man hi j (by omega)
    rw [f_X4_passWeek_l65, f_X9_oneWeek_l41]
    refine sm_xf (by rw [cnt_x hs]; exact nI_ge (by omega) (by omega)) (sm_mf (by rw [e1]; exact nI_ge (by omega) (by omega)) ?_)
    rw [nI_1]
    refine sm_xb (x_isAtPlace hc hh (by omega) hn ho) (sm_mb (m_isThere (by omega) ho) ?_)
    by_cases hp : M.1 1 (50 + 14 * j + 4) = -1
    · rw [decide_eq_false (p := M.1 1 (50 + 14 * j + 4) ≠ -1) (fun z => z hp), thq_f hp]
      exact ih0
    · rw [decide_eq_true (p := M.1 1 (50 + 14 * j + 4) ≠ -1) hp]
      by_cases hk : 1 ≤ (M.1 1 (50 + 14 * j + 5)).toInt ∧ (M.1 1 (50 + 14 * j + 5)).toInt ≤ 4
      · rw [thq_t hp hk]
        refine sm_xT (sm_mT (sm_bind (earn_ hs hh (by omega)) (fun X1 M1 w1 => ?_)))
        exact sm_wk (ih (j + 1) fx fm X1 M1 w1.1 (by rw [wk_nn w1 (by omega) (by omega)]; omega) (by omega) (by omega)) (fun X' M' z => wk_trans w1 z)
      · rw [thq_k hk]
        exact sm_xT (sm_mF (sm_xb (earn_no hs hh (by omega) hk) ih0))
/-- the second half of a release, both sides; one at a place -/
theorem rel2 {A B : Type} {Q : A → B → Prop} {F : um_S → Option A} {K : um_S → Option B} (hs : sr X h (M.1 1) W n) (hh : um_h h) (hm : m < nn (M.1 1) 2) (hp : M.1 1 (50 + 14 * m + 4) ≠ -1) (kk : ∀ X' M', wk h W n X M X' M' → sm_S (F X') (K M') Q) : sm_S (((f_X5_get (20 * h + 1) (nI m) (10 : Int32) X).bind fun x6 => (f_X5_get (20 * h + 1) (nI m) (13 : Int32) X).bind fun x8 => um_let (fun (x10 : Int32) => if x10 = 0 then some X else (f_X4_isServing h (nI m) X).bind fun x12 => if um_b x12 = 0 then some X else (f_X4_become h (nI m) (6 : Int32) (0 : Int32) X).bind fun σ14 => some σ14) fun k9 => if (((X.1 h 12) + (1 : Int32)) - x6) < x8 then k9 (0 : Int32) else k9 (1 : Int32)).bind fun σ => F σ)
    ((f_X9_isThere (nI m) M).bind fun x8 => if um_b x8 = 0 then K M else if um_ix (nI (50 + 14 * m) + (10 : Int32)) 3790 then if um_ix (nI (50 + 14 * m) + (12 : Int32)) 3790 then if (((M.1 1 0) + (1 : Int32)) - (M.1 1 (nI (50 + 14 * m) + (10 : Int32)).toNatClampNeg)) < (M.1 1 (nI (50 + 14 * m) + (12 : Int32)).toNatClampNeg) then K M else (f_X9_becomesOf (nI m) (6 : Int32) (0 : Int32) M).bind fun σ12 => K σ12 else none else none) Q := by
  have hi := hs.2.1
  have hc := hs.1
  have hn := (si_men hi).2
  have ho := si_man hi m hm
  have hl := ho.2.2.2.2.1 hp
  have k0 := kk X M (wk_refl hs)
  rw [x_m10 hc hi hh hm, x_m13 hc hi hh hm, Option.bind_some, Option.bind_some, hc.1.1, show eN (M.1 1 (50 + 14 * m + 10)) = M.1 1 (50 + 14 * m + 10) from if_neg hl, la_10, la_12]
  refine sm_mb (m_isThere (by omega) ho) ?_
  unfold um_let
  dsimp only
  by_cases hk : 1 ≤ (M.1 1 (50 + 14 * m + 5)).toInt ∧ (M.1 1 (50 + 14 * m + 5)).toInt ≤ 4
  · rw [thq_t hp hk]
    refine sm_mT (sm_mt (um_ix_3 (by omega)) (sm_mt (um_ix_3 (by omega)) ?_))
    rw [cl_3 (by omega), cl_3 (by omega)]
    by_cases ht : M.1 1 0 + 1 - M.1 1 (50 + 14 * m + 10) < M.1 1 (50 + 14 * m + 12)
    · rw [if_pos ht, if_pos ht, if_pos rfl]
      exact k0
    · rw [if_neg ht, if_neg ht, if_neg (by decide), x_isServing hc hh hm hn, Option.bind_some, decide_eq_true hk, if_neg (by decide), bind_sm]
      obtain ⟨o1, o2, o3, o4, o5, o6, o7, o8, o9⟩ := ho
      exact sm_bind (become_w hs hh hm ⟨⟨6, by omega, by omega, rfl⟩, o2, o3, o4, o5, fun ⟨k, w1, w2, w3⟩ _ _ => absurd ((nI_eq (a := 6) (by omega) (by omega)).mp w3) (by omega), fun z => absurd z (by decide), fun z => absurd z (by decide), o9⟩) (fun X4 M4 z => kk X4 M4 z.1)
  · rw [thq_k hk]
    refine sm_mF ?_
    by_cases ht : M.1 1 0 + 1 - M.1 1 (50 + 14 * m + 10) < M.1 1 (50 + 14 * m + 12)
    · rw [if_pos ht, if_pos rfl]
      exact k0
    · rw [if_neg ht, if_neg (by decide), x_isServing hc hh hm hn, Option.bind_some, decide_eq_false hk, if_pos (by decide)]
      exact k0
theorem lo_rel (hh : um_h h) : ∀ (k j fx fm : Nat) (X M : um_S), sr X h (M.1 1) W n → j + k = nn (M.1 1) 2 → k < fx → k < fm → sm_S (f_X4_passWeek_l97 h fx (nI j) X) (f_X9_oneWeek_l72 fm (nI j) M) (wk h W n X M) := by
  intro k
  induction k with
  | zero =>
    intro j fx fm X M hs hj hfx hfm
    obtain ⟨e1, hn⟩ := si_men hs.2.1
    obtain ⟨fx, rfl⟩ : ∃ f, fx = f + 1 := ⟨fx - 1, by omega⟩
    obtain ⟨fm, rfl⟩ : ∃ f, fm = f + 1 := ⟨fm - 1, by omega⟩
    rw [f_X4_passWeek_l97, f_X9_oneWeek_l72]
    exact sm_xt (by rw [cnt_x hs]; exact nI_le (by omega) (by omega)) (sm_mt (by rw [e1]; exact nI_le (by omega) (by omega)) (sm_ret (wk_refl hs)))
  | succ k ih =>
    intro j fx fm X M hs hj hfx hfm
    have hi := hs.2.1
    have hc := hs.1
    obtain ⟨e1, hn⟩ := si_men hi
    obtain ⟨fx, rfl⟩ : ∃ f, fx = f + 1 := ⟨fx - 1, by omega⟩
    obtain ⟨fm, rfl⟩ : ∃ f, fm = f + 1 := ⟨fm - 1, by omega⟩
    have ih0 := ih (j + 1) fx fm X M hs (by omega) (by omega) (by omega)
    have ihw := fun X1 M1 (w1 : wk h W n X M X1 M1) => sm_wk (ih (j + 1) fx fm X1 M1 w1.1 (by rw [wk_nn w1 (by omega) (by omega)]; omega) (by omega) (by omega)) (fun X' M' z => wk_trans w1 z)
    have ho := si_man hi j (by omega)
    rw [f_X4_passWeek_l97, f_X9_oneWeek_l72]
    refine sm_xf (by rw [cnt_x hs]; exact nI_ge (by omega) (by omega)) (sm_mf (by rw [e1]; exact nI_ge (by omega) (by omega)) ?_)
    rw [nI_1]
    refine sm_xb (x_isAtPlace hc hh (by omega) hn ho) (sm_mb m_manAt (sm_mb (m_isThere (by omega) ho) (sm_ml ?_)))
    by_cases hp : M.1 1 (50 + 14 * j + 4) = -1
    · rw [decide_eq_false (p := M.1 1 (50 + 14 * j + 4) ≠ -1) (fun z => z hp), thq_f hp]
      refine sm_xF (sm_mF ?_)
      refine sm_mb (m_isThere (by omega) ho) ?_
      rw [thq_f hp]
      exact ih0
    · rw [decide_eq_true (p := M.1 1 (50 + 14 * j + 4) ≠ -1) hp]
      refine sm_xT ?_
      unfold f_X4_release
      rw [x_m5 hc hi hh (by omega), Option.bind_some, x_m6 hc hi hh (by omega)]
      by_cases hk : 1 ≤ (M.1 1 (50 + 14 * j + 5)).toInt ∧ (M.1 1 (50 + 14 * j + 5)).toInt ≤ 4
      · rw [thq_t hp hk]
        refine sm_mT (sm_mb (m_kindOf (by omega)) ?_)
        by_cases h3 : M.1 1 (50 + 14 * j + 5) = 3
        · refine sm_mt h3 ?_
          rw [la_6]
          refine sm_mt (um_ix_3 (by omega)) ?_
          rw [cl_3 (n := 50 + 14 * j + 6) (by omega)]
          by_cases hA : M.1 1 (50 + 14 * j + 6) = M.1 1 0 + 1
          · refine sm_mt hA ?_
            obtain ⟨o1, o2, o3, o4, o5, o6, o7, o8, o9⟩ := ho
            obtain ⟨X1, M1, q1, q2, w1, es⟩ := become_w (a := 1) (b := 0) hs hh (m := j) (by omega) ⟨⟨1, by omega, by omega, rfl⟩, o2, o3, o4, o5, fun _ _ _ => hp, fun z => absurd z (by decide), fun z => absurd z (by decide), o9⟩
            refine sm_mb q2 ?_
            have hp1 : M1.1 1 (50 + 14 * j + 4) ≠ -1 := by rw [es, up_ne (by omega), up_ne (by omega), up_ne (by omega)]; exact hp
            have g := rel2 (F := fun σ => f_X4_passWeek_l97 h fx (nI (j + 1)) σ) (K := fun σ => f_X9_oneWeek_l72 fm (nI (j + 1)) σ) (Q := wk h W n X M) w1.1 hh (m := j) (by rw [wk_nn w1 (by omega) (by omega)]; omega) hp1 (fun X2 M2 w2 => ihw X2 M2 (wk_trans w1 w2))
            rw [hc.1.1]
            simp only [um_let, if_pos h3, if_pos hA, q1, Option.bind_some] at g ⊢
            exact g
          · refine sm_mf hA ?_
            have g := rel2 (F := fun σ => f_X4_passWeek_l97 h fx (nI (j + 1)) σ) (K := fun σ => f_X9_oneWeek_l72 fm (nI (j + 1)) σ) (Q := wk h W n X M) hs hh (m := j) (by omega) hp ihw
            rw [hc.1.1]
            simp only [um_let, if_pos h3, if_neg hA, Option.bind_some, hc.1.1] at g ⊢
            exact g
        · refine sm_mf h3 ?_
          have g := rel2 (F := fun σ => f_X4_passWeek_l97 h fx (nI (j + 1)) σ) (K := fun σ => f_X9_oneWeek_l72 fm (nI (j + 1)) σ) (Q := wk h W n X M) hs hh (m := j) (by omega) hp ihw
          simp only [um_let, if_neg h3, Option.bind_some, hc.1.1] at g ⊢
          exact g
      · rw [thq_k hk]
        refine sm_mF ?_
        have h3 : ¬ M.1 1 (50 + 14 * j + 5) = 3 := fun z => hk (by rw [z]; decide)
        have g := rel2 (F := fun σ => f_X4_passWeek_l97 h fx (nI (j + 1)) σ) (K := fun σ => f_X9_oneWeek_l72 fm (nI (j + 1)) σ) (Q := wk h W n X M) hs hh (m := j) (by omega) hp ihw
        simp only [um_let, if_neg h3, Option.bind_some, hc.1.1] at g ⊢
        exact g
theorem lo_letters (hh : um_h h) : ∀ (k j fx fm : Nat) (X M : um_S), sr X h (M.1 1) W n → j + k = nn (M.1 1) 8 → k < fx → k < fm → sm_S (f_X4_bringLetters_l2 h fx (nI j) X) (f_X9_oneWeek_l186 fm (nI j) M) (wk h W n X M) := by
  have h13 : 1 ≤ h ∧ h ≤ 3 := by rcases hh with z | z | z <;> omega
  intro k
  induction k with
  | zero =>
    intro j fx fm X M hs hj hfx hfm
    obtain ⟨e1, hn⟩ := si_letters hs.2.1
    obtain ⟨fx, rfl⟩ : ∃ f, fx = f + 1 := ⟨fx - 1, by omega⟩
    obtain ⟨fm, rfl⟩ : ∃ f, fm = f + 1 := ⟨fm - 1, by omega⟩
    rw [f_X4_bringLetters_l2, f_X9_oneWeek_l186]
    exact sm_xt (by rw [x_cnt hs.1 (t := 4) (by omega)]; change M.1 1 8 ≤ _; rw [e1]; exact nI_le (by omega) (by omega)) (sm_mt (by rw [e1]; exact nI_le (by omega) (by omega)) (sm_ret (wk_refl hs)))
  | succ k ih =>
    intro j fx fm X M hs hj hfx hfm
    have hi := hs.2.1
    have hc := hs.1
    obtain ⟨e1, hn⟩ := si_letters hi
    have hm14 := (si_men hi).2
    obtain ⟨fx, rfl⟩ : ∃ f, fx = f + 1 := ⟨fx - 1, by omega⟩
    obtain ⟨fm, rfl⟩ : ∃ f, fm = f + 1 := ⟨fm - 1, by omega⟩
    obtain ⟨m, hm, em⟩ := si_letter hi j (by omega)
    rw [f_X4_bringLetters_l2, f_X9_oneWeek_l186]
    refine sm_xf (by rw [x_cnt hc (t := 4) (by omega)]; change ¬ M.1 1 8 ≤ _; rw [e1]; exact nI_ge (by omega) (by omega)) (sm_mf (by rw [e1]; exact nI_ge (by omega) (by omega)) ?_)
    rw [x_p4_2 hc hi hh (by omega), Option.bind_some, nI_1, lm_5, lb_570, hc.1.1]
    refine sm_ml ?_
    rw [la_2, la_3, la_4]
    refine sm_mt (um_ix_3 (by omega)) ?_
    rw [cl_3 (n := 570 + 5 * j + 2) (by omega)]
    refine sm_if Iff.rfl (fun _ => ?_) (fun _ => ih (j + 1) fx fm X M hs (by omega) (by omega) (by omega))
    refine sm_xb (s_4 (c := 3) hh (by omega) (by omega)) (sm_mt (um_ix_3 (by omega)) ?_)
    rw [cl_3 (n := 570 + 5 * j + 3) (by omega), cl_3 (n := 570 + 5 * j) (by omega), cl_3 (n := 570 + 5 * j + 4) (by omega)]
    refine sm_ml (sm_mt (um_ix_3 (by omega)) ?_)
    have w1 : wk h W n X M (um_wr X (20 * h + 4 + 100) (5 * j + 3) 1) (um_wr M 1 (570 + 5 * j + 3) 1) := by
      refine ⟨?_, xf_wr (by omega), mf_wr 1 (Or.inl rfl), fun b h8 h4 => um_wr_an (by omega)⟩
      rw [um_wr_eq]
      exact sr_wp hs hh (t := 4) (j := 5 * j + 3) (by omega) (by omega) (by omega) (by change 5 * j + 3 < 5 * nn (M.1 1) 8; omega) (si_fr hi (by change fr (570 + (5 * j + 3)); unfold fr; omega))
    have hn1 : nn ((um_wr M 1 (570 + 5 * j + 3) 1).1 1) 8 = nn (M.1 1) 8 := wk_nn w1 (by omega) (by omega)
    have hn2 : nn ((um_wr M 1 (570 + 5 * j + 3) 1).1 1) 2 = nn (M.1 1) 2 := wk_nn w1 (by omega) (by omega)
    rw [x_p4_0 w1.1.1 w1.1.2.1 hh (by rw [hn1]; omega), Option.bind_some, um_wr_an (by omega), em]
    rw [x_isDead w1.1.1 hh (by rw [hn2]; exact hm) (by rw [hn2]; exact hm14), Option.bind_some, m_isDead (by omega), Option.bind_some]
    have fin : ∀ v : Int32, sm_S ((f_X5_set (20 * h + 4) (nI j) (4 : Int32) v (um_wr X (20 * h + 4 + 100) (5 * j + 3) 1)).bind fun σ12 => f_X4_bringLetters_l2 h fx (nI (j + 1)) σ12) (if um_ix (nI (570 + 5 * j + 4)) 3790 then um_let (um_wr (um_wr M 1 (570 + 5 * j + 3) 1) 1 (570 + 5 * j + 4) v) fun σ11 => f_X9_oneWeek_l186 fm (nI (j + 1)) σ11 else none) (wk h W n X M) := by
      intro v
      refine sm_xb (s_4 (c := 4) hh (by omega) (by omega)) (sm_mt (um_ix_3 (by omega)) (sm_ml ?_))
      have w2 : wk h W n (um_wr X (20 * h + 4 + 100) (5 * j + 3) 1) (um_wr M 1 (570 + 5 * j + 3) 1) (um_wr (um_wr X (20 * h + 4 + 100) (5 * j + 3) 1) (20 * h + 4 + 100) (5 * j + 4) v) (um_wr (um_wr M 1 (570 + 5 * j + 3) 1) 1 (570 + 5 * j + 4) v) := by
        refine ⟨?_, xf_wr (by omega), mf_wr 1 (Or.inl rfl), fun b h8 h4 => um_wr_an (by omega)⟩
        rw [um_wr_eq (um_wr M 1 (570 + 5 * j + 3) 1)]
        exact sr_wp w1.1 hh (t := 4) (j := 5 * j + 4) (by omega) (by omega) (by omega) (by change 5 * j + 4 < 5 * nn ((um_wr M 1 (570 + 5 * j + 3) 1).1 1) 8; rw [hn1]; omega) (si_fr w1.1.2.1 (by change fr (570 + (5 * j + 4)); unfold fr; omega))
      have w3 := wk_trans w1 w2
      exact sm_wk (ih (j + 1) fx fm _ _ w3.1 (by rw [wk_nn w3 (by omega) (by omega)]; omega) (by omega) (by omega)) (fun X' M' z => wk_trans w3 z)
    refine sm_xl ?_
    cases decide ((um_wr M 1 (570 + 5 * j + 3) 1).1 1 (50 + 14 * m + 11) = 1) with
    | false => exact fin 0
    | true => exact fin 1
/-- a week -/
theorem week_ (hs : sr X h (M.1 1) W n) (hh : um_h h) (hW : W ≤ 2999) : sm_S (f_X4_passWeek h X) (f_X9_oneWeek M) (fun X' M' => sr X' h (M'.1 1) (W + 1) n ∧ xf h X X' ∧ mf M M' ∧ M'.1 1 0 = nI (nn (M.1 1) 0 + 1)) := by
  have h13 : 1 ≤ h ∧ h ≤ 3 := by rcases hh with z | z | z <;> omega
  have b1 := (si_ships hs.2.1).2
  have b2 := (si_men hs.2.1).2
  have b8 := (si_letters hs.2.1).2
  unfold f_X4_passWeek f_X9_oneWeek f_X4_landShips f_X9_lands f_X9_eat f_X4_bringLetters
  simp only [bind_sm]
  refine sm_bind (lo_lands hh (by omega) (nn (M.1 1) 1) 0 um_N um_N X M hs (by omega) (by unfold um_N; omega) (by unfold um_N; omega)) (fun X1 M1 w1 => ?_)
  refine sm_bind (lo_eats hh 6 0 um_N um_N X1 M1 w1.1 (by omega) (by unfold um_N; omega) (by unfold um_N; omega)) (fun X2 M2 z2 => ?_)
  have w2 := wk_trans w1 z2
  refine sm_bind (lo_tempt hh (nn (M2.1 1) 2) 0 um_N um_N X2 M2 w2.1 (by omega) (by rw [wk_nn w2 (by omega) (by omega)]; unfold um_N; omega) (by rw [wk_nn w2 (by omega) (by omega)]; unfold um_N; omega)) (fun X3 M3 z3 => ?_)
  have w3 := wk_trans w2 z3
  refine sm_bind (lo_earn hh (nn (M3.1 1) 2) 0 um_N um_N X3 M3 w3.1 (by omega) (by rw [wk_nn w3 (by omega) (by omega)]; unfold um_N; omega) (by rw [wk_nn w3 (by omega) (by omega)]; unfold um_N; omega)) (fun X4 M4 z4 => ?_)
  have w4 := wk_trans w3 z4
  refine sm_bind (lo_rel hh (nn (M4.1 1) 2) 0 um_N um_N X4 M4 w4.1 (by omega) (by rw [wk_nn w4 (by omega) (by omega)]; unfold um_N; omega) (by rw [wk_nn w4 (by omega) (by omega)]; unfold um_N; omega)) (fun X5 M5 z5 => ?_)
  have w5 := wk_trans w4 z5
  refine sm_bind (lo_letters hh (nn (M5.1 1) 8) 0 um_N um_N X5 M5 w5.1 (by omega) (by rw [wk_nn w5 (by omega) (by omega)]; unfold um_N; omega) (by rw [wk_nn w5 (by omega) (by omega)]; unfold um_N; omega)) (fun X6 M6 z6 => ?_)
  have w6 := wk_trans w5 z6
  obtain ⟨ew, hw⟩ := si_week w6.1.2.1
  have e0 : nn (M6.1 1) 0 = nn (M.1 1) 0 := wk_nn w6 (by omega) (by omega)
  rw [w6.1.1.1.1, ew, nI_1, e0]
  refine sm_xl (sm_ml (sm_ret ⟨⟨?_, ?_, ?_⟩, xf_trans w6.2.1 (xf_wr (by omega)), mf_trans w6.2.2.1 (mf_wr 1 (Or.inl rfl)), um_wr_at _ _ _ _⟩))
  · rw [um_wr_eq]; exact sc_wh w6.1.1 hh (Or.inl ⟨rfl, rfl⟩)
  · rw [um_wr_eq]; exact si_wk w6.1.2.1 (by omega) (by omega)
  · exact st_fr (fun k i hk _ => um_wr_nk (by omega)) rfl (fun b hb => um_wr_an (by omega)) (um_wr_an (by omega)) w6.1.2.2
theorem sr_W (hs : sr X h s W n) {W' : Nat} (hw : nn s 0 ≤ W') : sr X h s W' n := ⟨hs.1, ⟨⟨hs.2.1.1.1, hw⟩, hs.2.1.2⟩, hs.2.2⟩
end WKC
