/-! LEVEL 2: a week -/
section WKB
variable {X X' X2 X3 M M' M2 M3 : um_S} {h n W m i p q key w : Nat} {s : Nat → Int32} {l r v a b d off : Int32}
/-- one lands -/
theorem land1 {A B : Type} {Q : A → B → Prop} {F : um_S → Option A} {K : um_S → Option B} (hs : sr X h (M.1 1) W n) (hW : W ≤ 3000) (hh : um_h h) (hm : m < nn (M.1 1) 2) (hp : p < nn (M.1 1) 1) (hd : M.1 1 (50 + 14 * m + 11) ≠ 1) (hl : M.1 1 (50 + 14 * m + 10) = -1) (kk : ∀ X' M', wk h W n X M X' M' → sm_S (F X') (K M') Q) : sm_S ((f_X5_get (20 * h + 0) (nI p) (0 : Int32) X).bind fun x6 => (f_X5_set (20 * h + 1) (nI m) (4 : Int32) x6 X).bind fun σ8 => (f_X5_set (20 * h + 1) (nI m) (10 : Int32) (σ8.1 h 12) σ8).bind fun σ10 => (f_X4_become h (nI m) (1 : Int32) (0 : Int32) σ10).bind fun σ12 => F σ12)
    (if um_ix (nI (30 + 2 * p)) 3790 then if um_ix (nI (50 + 14 * m) + (4 : Int32)) 3790 then um_let (um_wr M 1 (nI (50 + 14 * m) + (4 : Int32)).toNatClampNeg (M.1 1 (nI (30 + 2 * p)).toNatClampNeg)) fun σ10 => if um_ix (nI (50 + 14 * m) + (10 : Int32)) 3790 then um_let (um_wr σ10 1 (nI (50 + 14 * m) + (10 : Int32)).toNatClampNeg (σ10.1 1 0)) fun σ13 => (f_X9_becomesOf (nI m) (1 : Int32) (0 : Int32) σ13).bind fun σ16 => K σ16 else none else none else none) Q := by
  have hi := hs.2.1
  have hc := hs.1
  have hm14 := (si_men hi).2
  have hp8 := (si_ships hi).2
  have h13 : 1 ≤ h ∧ h ≤ 3 := by rcases hh with z | z | z <;> omega
  obtain ⟨ew, hw⟩ := si_week hi
  obtain ⟨pp, hpp, epp⟩ := si_ship hi p hp
  rw [x_p0_0 hc hi hh hp, Option.bind_some, la_4, la_10]
  refine sm_xb (s_1 (c := 4) hh (by omega) (by omega)) ?_
  rw [um_wr_nk (by omega), hc.1.1]
  refine sm_xb (s_1 (c := 10) hh (by omega) (by omega)) ?_
  refine sm_mt (um_ix_3 (by omega)) (sm_mt (um_ix_3 (by omega)) ?_)
  rw [cl_3 (by omega), cl_3 (by omega), cl_3 (by omega)]
  refine sm_ml (sm_mt (um_ix_3 (by omega)) ?_)
  rw [um_wr_an (by omega)]
  refine sm_ml ?_
  obtain ⟨o1, o2, o3, o4, o5, o6, o7, o8, o9⟩ := si_man hi m hm
  have es : (um_wr (um_wr M 1 (50 + 14 * m + 4) (M.1 1 (30 + 2 * p))) 1 (50 + 14 * m + 10) (M.1 1 0)).1 1 = up (up (M.1 1) (50 + 14 * m + 4) (M.1 1 (30 + 2 * p))) (50 + 14 * m + 10) (M.1 1 0) := by rw [um_wr_eq, um_wr_eq]
  have w1 : wk h W n X M (um_wr (um_wr X (20 * h + 1 + 100) (14 * m + 4) (M.1 1 (30 + 2 * p))) (20 * h + 1 + 100) (14 * m + 10) (M.1 1 0)) (um_wr (um_wr M 1 (50 + 14 * m + 4) (M.1 1 (30 + 2 * p))) 1 (50 + 14 * m + 10) (M.1 1 0)) := by
    refine ⟨?_, xf_trans (xf_wr (by omega)) (xf_wr (by omega)), mf_trans (mf_wr 1 (Or.inl rfl)) (mf_wr 1 (Or.inl rfl)), fun b h8 h4 => by rw [um_wr_an (by omega), um_wr_an (by omega)]⟩
    rw [es]
    refine sr_man hs (sc_wm (c := 10) (w := M.1 1 0) (sc_wm (c := 4) (w := M.1 1 (30 + 2 * p)) hc (si_sb hi) hh hm (by omega) ?_) (sb_up (si_sb hi) (by omega)) hh (m := m) (by change m < nn (up (M.1 1) (50 + 14 * m + 4) _) 2; rw [nn_up (by omega)]; exact hm) (by omega) ?_) (fun k j hk _ => by rw [um_wr_nk (by omega), um_wr_nk (by omega)]) rfl hm (fun b hb => by rw [up_ne (by omega), up_ne (by omega)]) (fun z => absurd hl z) ?_
    · change eN (M.1 1 (30 + 2 * p)) = _
      rw [epp, eN_p (by omega)]
    · change eN (M.1 1 0) = _
      rw [ew, eN_p (by omega)]
    · refine mo_of (K := nn (M.1 1) 3) (f2 := M.1 1 (50 + 14 * m + 2)) (f4 := M.1 1 (30 + 2 * p)) (f5 := M.1 1 (50 + 14 * m + 5)) (f6 := M.1 1 (50 + 14 * m + 6)) (f10 := M.1 1 0) (f11 := M.1 1 (50 + 14 * m + 11)) ?_ ?_ ?_ ?_ ?_ ?_ ?_ ⟨o1, Or.inr ⟨pp, hpp, epp⟩, Or.inr ⟨_, by omega, ew⟩, fun z => absurd z hd, fun _ => by rw [ew]; exact nI_nneg (by omega), fun _ _ _ => by rw [epp]; exact nI_nneg (by omega), fun z => absurd hl (o7 z).1, o8, o9⟩
      · rw [up_ne (by omega), up_ne (by omega)]
      · rw [up_ne (by omega), up_eq]
      · rw [up_ne (by omega), up_ne (by omega)]
      · rw [up_ne (by omega), up_ne (by omega)]
      · rw [up_eq]
      · rw [up_ne (by omega), up_ne (by omega)]
      · rw [nn_up (by omega), nn_up (by omega)]
  have hm1 : m < nn ((um_wr (um_wr M 1 (50 + 14 * m + 4) (M.1 1 (30 + 2 * p))) 1 (50 + 14 * m + 10) (M.1 1 0)).1 1) 2 := by rw [wk_nn w1 (by omega) (by omega)]; exact hm
  obtain ⟨u1, u2, u3, u4, u5, u6, u7, u8, u9⟩ := si_man w1.1.2.1 m hm1
  refine sm_bind (become_w w1.1 hh hm1 ⟨⟨1, by omega, by omega, rfl⟩, u2, u3, u4, u5, fun _ _ _ => ?_, fun z => absurd z (by decide), fun z => absurd z (by decide), u9⟩) (fun X4 M4 z => kk X4 M4 (wk_trans w1 z.1))
  rw [um_wr_an (by omega), um_wr_at, epp]
  exact nI_nneg (by omega)
theorem lo_landm (hh : um_h h) (hW : W ≤ 3000) : ∀ (k j fx fm : Nat) (X M : um_S), sr X h (M.1 1) W n → p < nn (M.1 1) 1 → j + k = nn (M.1 1) 2 → k < fx → k < fm → sm_S (f_X4_landFrom_l2 h (nI p) fx (nI j) X) (f_X9_lands_l39 (nI p) fm (nI j) M) (wk h W n X M) := by
  intro k
  induction k with
  | zero =>
    intro j fx fm X M hs hp hj hfx hfm
    obtain ⟨e1, hn⟩ := si_men hs.2.1
    obtain ⟨fx, rfl⟩ : ∃ f, fx = f + 1 := ⟨fx - 1, by omega⟩
    obtain ⟨fm, rfl⟩ : ∃ f, fm = f + 1 := ⟨fm - 1, by omega⟩
    rw [f_X4_landFrom_l2, f_X9_lands_l39]
    exact sm_xt (by rw [x_cnt hs.1 (t := 1) (by omega)]; change M.1 1 2 ≤ _; rw [e1]; exact nI_le (by omega) (by omega)) (sm_mt (by rw [e1]; exact nI_le (by omega) (by omega)) (sm_ret (wk_refl hs)))
  | succ k ih =>
    intro j fx fm X M hs hp hj hfx hfm
    have hi := hs.2.1
    have hc := hs.1
    obtain ⟨e1, hn⟩ := si_men hi
    have hp8 := (si_ships hi).2
    obtain ⟨fx, rfl⟩ : ∃ f, fx = f + 1 := ⟨fx - 1, by omega⟩
    obtain ⟨fm, rfl⟩ : ∃ f, fm = f + 1 := ⟨fm - 1, by omega⟩
    have ih0 := ih (j + 1) fx fm X M hs hp (by omega) (by omega) (by omega)
    have ho := si_man hi j (by omega)
    have e3 := neg_m1 ho.2.2.1
    rw [f_X4_landFrom_l2, f_X9_lands_l39]
    refine sm_xf (by rw [x_cnt hc (t := 1) (by omega)]; change ¬ M.1 1 2 ≤ _; rw [e1]; exact nI_ge (by omega) (by omega)) (sm_mf (by rw [e1]; exact nI_ge (by omega) (by omega)) ?_)
    rw [x_m12 hc hi hh (by omega), Option.bind_some, nI_1, m_manAt, Option.bind_some, la_13, lm_2, lb_30]
    refine sm_mt (um_ix_3 (by omega)) ?_
    rw [cl_3 (n := 50 + 14 * j + 13) (by omega)]
    refine sm_if Iff.rfl (fun _ => ?_) (fun _ => ih0)
    unfold f_X4_isAboard
    rw [x_isDead hc hh (by omega) hn, Option.bind_some, m_isDead (by omega), Option.bind_some]
    by_cases hd : M.1 1 (50 + 14 * j + 11) = 1
    · rw [decide_eq_true hd]
      exact ih0
    · rw [decide_eq_false hd]
      rw [x_hasLanded hc hh (by omega) hn ho, m_hasLanded (by omega)]
      by_cases hl : M.1 1 (50 + 14 * j + 10) < 0
      · rw [decide_eq_false (fun z => z hl)]
        refine sm_xb (c := true) rfl (sm_xT (sm_mF (sm_mb rfl (sm_mF ?_))))
        refine land1 hs hW hh (by omega) hp hd (e3.mp hl) (fun X1 M1 w1 => ?_)
        exact sm_wk (ih (j + 1) fx fm X1 M1 w1.1 (by rw [wk_nn w1 (by omega) (by omega)]; exact hp) (by rw [wk_nn w1 (by omega) (by omega)]; omega) (by omega) (by omega)) (fun X' M' z => wk_trans w1 z)
      · rw [decide_eq_true hl]
        exact ih0
theorem lo_lands (hh : um_h h) (hW : W ≤ 3000) : ∀ (k j fx fm : Nat) (X M : um_S), sr X h (M.1 1) W n → j + k = nn (M.1 1) 1 → k < fx → k < fm → sm_S (f_X4_landShips_l2 h fx (nI j) X) (f_X9_lands_l2 fm (nI j) M) (wk h W n X M) := by
  intro k
  induction k with
  | zero =>
    intro j fx fm X M hs hj hfx hfm
    obtain ⟨e1, hn⟩ := si_ships hs.2.1
    obtain ⟨fx, rfl⟩ : ∃ f, fx = f + 1 := ⟨fx - 1, by omega⟩
    obtain ⟨fm, rfl⟩ : ∃ f, fm = f + 1 := ⟨fm - 1, by omega⟩
    rw [f_X4_landShips_l2, f_X9_lands_l2]
    exact sm_xt (by rw [x_cnt hs.1 (t := 0) (by omega)]; change M.1 1 1 ≤ _; rw [e1]; exact nI_le (by omega) (by omega)) (sm_mt (by rw [e1]; exact nI_le (by omega) (by omega)) (sm_ret (wk_refl hs)))
  | succ k ih =>
    intro j fx fm X M hs hj hfx hfm
    have hi := hs.2.1
    have hc := hs.1
    obtain ⟨e1, hn⟩ := si_ships hi
    have hm14 := (si_men hi).2
    obtain ⟨fx, rfl⟩ : ∃ f, fx = f + 1 := ⟨fx - 1, by omega⟩
    obtain ⟨fm, rfl⟩ : ∃ f, fm = f + 1 := ⟨fm - 1, by omega⟩
    rw [f_X4_landShips_l2, f_X9_lands_l2]
    refine sm_xf (by rw [x_cnt hc (t := 0) (by omega)]; change ¬ M.1 1 1 ≤ _; rw [e1]; exact nI_ge (by omega) (by omega)) (sm_mf (by rw [e1]; exact nI_ge (by omega) (by omega)) ?_)
    rw [x_p0_1 hc hi hh (by omega), Option.bind_some, nI_1, lm_2, lb_30, la_1, hc.1.1]
    refine sm_mt (um_ix_3 (by omega)) ?_
    rw [cl_3 (by omega)]
    refine sm_if Iff.rfl (fun _ => ?_) (fun _ => ih (j + 1) fx fm X M hs (by omega) (by omega) (by omega))
    unfold f_X4_landFrom
    rw [bind_sm]
    refine sm_bind (lo_landm hh hW (nn (M.1 1) 2) 0 um_N um_N X M hs (by omega) (by omega) (by unfold um_N; omega) (by unfold um_N; omega)) (fun X1 M1 w1 => ?_)
    exact sm_wk (ih (j + 1) fx fm X1 M1 w1.1 (by rw [wk_nn w1 (by omega) (by omega)]; omega) (by omega) (by omega)) (fun X' M' z => wk_trans w1 z)
/-- what is eaten at a place -/
theorem lo_eat (hs : sr X h (M.1 1) W n) (hh : um_h h) (hp : p < 6) : ∀ (k j acc fx fm : Nat), j + k = nn (M.1 1) 2 → k < fx → k < fm → ∃ r : Nat, r ≤ acc + 2 * k ∧ f_X4_eatAt_l4 h (nI p) X fx (nI acc) (nI j) = some (nI r) ∧ f_X9_eat_l12 (nI p) M fm (nI acc) (nI j) = some (nI r) := by
  have hi := hs.2.1
  have hc := hs.1
  obtain ⟨e1, hn⟩ := si_men hi
  have ex1 : X.1 (20 * h + 1) 2 = nI (nn (M.1 1) 2) := by rw [x_cnt hc (t := 1) (by omega)]; exact e1
  intro k
  induction k with
  | zero =>
    intro j acc fx fm hj hfx hfm
    obtain ⟨fx, rfl⟩ : ∃ f, fx = f + 1 := ⟨fx - 1, by omega⟩
    obtain ⟨fm, rfl⟩ : ∃ f, fm = f + 1 := ⟨fm - 1, by omega⟩
    rw [f_X4_eatAt_l4, f_X9_eat_l12]
    exact ⟨acc, by omega, if_pos (by rw [ex1]; exact nI_le (by omega) (by omega)), if_pos (by rw [e1]; exact nI_le (by omega) (by omega))⟩
  | succ k ih =>
    intro j acc fx fm hj hfx hfm
    obtain ⟨fx, rfl⟩ : ∃ f, fx = f + 1 := ⟨fx - 1, by omega⟩
    obtain ⟨fm, rfl⟩ : ∃ f, fm = f + 1 := ⟨fm - 1, by omega⟩
    obtain ⟨r0, hr0, i01, i02⟩ := ih (j + 1) acc fx fm (by omega) (by omega) (by omega)
    obtain ⟨r1, hr1, i11, i12⟩ := ih (j + 1) (acc + 1) fx fm (by omega) (by omega) (by omega)
    obtain ⟨r2, hr2, i21, i22⟩ := ih (j + 1) (acc + 2) fx fm (by omega) (by omega) (by omega)
    have ho := si_man hi j (by omega)
    rw [f_X4_eatAt_l4, f_X9_eat_l12]
    rw [if_neg (by rw [ex1]; exact nI_ge (by omega) (by omega)), if_neg (by rw [e1]; exact nI_ge (by omega) (by omega))]
    rw [x_m4 hc hi hh (by omega), x_m5 hc hi hh (by omega), m_kindOf (by omega), m_isDead (by omega)]
    simp (disch := omega) only [um_let, Option.bind_some, m_manAt, la_4, um_ix_3, cl_3, if_true, ad_0, nI_1, la_2]
    by_cases c1 : M.1 1 (50 + 14 * j + 4) = nI p
    · have c1' : eN (M.1 1 (50 + 14 * j + 4)) = nI p := by rw [c1, eN_p (by omega)]
      have c2 : ¬ M.1 1 (50 + 14 * j + 11) = 1 := fun z => by
        have := ho.2.2.2.1 z
        rw [c1] at this
        exact nI_nneg (by omega) this
      by_cases c3 : M.1 1 (50 + 14 * j + 5) = 3
      · exact ⟨r1, by omega, by simp [c1', c3, i11], by simp [c1, c2, c3, um_b, i12]⟩
      · exact ⟨r2, by omega, by simp [c1', c3, i21], by simp [c1, c2, c3, um_b, i22]⟩
    · have c1' : ¬ eN (M.1 1 (50 + 14 * j + 4)) = nI p := fun z => by
        rcases ho.2.1 with y | ⟨pp, hpp, y⟩
        · rw [y, eN_m] at z
          exact nI_none (by omega) z.symm
        · rw [y, eN_p (by omega)] at z
          exact c1 (by rw [y]; exact z)
      by_cases c2 : M.1 1 (50 + 14 * j + 11) = 1
      · exact ⟨r0, by omega, by simp [c1', i01], by simp [c2, um_b, i02]⟩
      · exact ⟨r0, by omega, by simp [c1', i01], by simp [c1, c2, um_b, i02]⟩
theorem lo_eats (hh : um_h h) : ∀ (k j fx fm : Nat) (X M : um_S), sr X h (M.1 1) W n → j + k = 6 → k < fx → k < fm → sm_S (f_X4_passWeek_l6 h fx (nI j) X) (f_X9_eat_l2 fm (nI j) M) (wk h W n X M) := by
  have h13 : 1 ≤ h ∧ h ≤ 3 := by rcases hh with z | z | z <;> omega
  intro k
  induction k with
  | zero =>
    intro j fx fm X M hs hj hfx hfm
    obtain ⟨fx, rfl⟩ : ∃ f, fx = f + 1 := ⟨fx - 1, by omega⟩
    obtain ⟨fm, rfl⟩ : ∃ f, fm = f + 1 := ⟨fm - 1, by omega⟩
    rw [f_X4_passWeek_l6, f_X9_eat_l2]
    exact sm_xt (nI_le (a := 6) (by omega) (by omega)) (sm_mt (nI_le (a := 6) (by omega) (by omega)) (sm_ret (wk_refl hs)))
  | succ k ih =>
    intro j fx fm X M hs hj hfx hfm
    have hi := hs.2.1
    have hc := hs.1
    have hm14 := (si_men hi).2
    obtain ⟨fx, rfl⟩ : ∃ f, fx = f + 1 := ⟨fx - 1, by omega⟩
    obtain ⟨fm, rfl⟩ : ∃ f, fm = f + 1 := ⟨fm - 1, by omega⟩
    rw [f_X4_passWeek_l6, f_X9_eat_l2]
    refine sm_xf (nI_ge (b := 6) (by omega) (by omega)) (sm_mf (nI_ge (b := 6) (by omega) (by omega)) ?_)
    obtain ⟨r, hr, i1, i2⟩ := lo_eat (p := j) hs hh (by omega) (nn (M.1 1) 2) 0 0 um_N um_N (by omega) (by unfold um_N; omega) (by unfold um_N; omega)
    obtain ⟨v, hv, ev⟩ := si_store hi j (by omega)
    have e1 : f_X5_get (20 * h + 7) (nI j) (0 : Int32) X = some (X.1 (20 * h + 7 + 100) (2 * j)) := g_7 (c := 0) hh (by omega) (by omega)
    have s0 : ∀ (Y : um_S) (v : Int32), f_X5_set (20 * h + 7) (nI j) (0 : Int32) v Y = some (um_wr Y (20 * h + 7 + 100) (2 * j) v) := fun Y v => s_7 (c := 0) hh (by omega) (by omega)
    have s1 : ∀ (Y : um_S) (v : Int32), f_X5_set (20 * h + 7) (nI j) (1 : Int32) v Y = some (um_wr Y (20 * h + 7 + 100) (2 * j + 1) v) := fun Y v => s_7 (c := 1) hh (by omega) (by omega)
    unfold f_X4_eatAt
    rw [show (0 : Int32) = nI 0 from rfl] at e1 s0 ⊢
    rw [i1, i2, Option.bind_some, Option.bind_some, e1, Option.bind_some, (hc.2.2.2.2.2.1 j (by omega)).1, ev, nI_1, lb_11, lb_17]
    refine sm_mt (um_ix_3 (by omega)) ?_
    rw [cl_3 (n := 11 + j) (by omega), ev]
    have go : ∀ hu : Int32, sm_S (((f_X5_set (20 * h + 7) (nI j) (1 : Int32) hu X).bind fun σ8 => (f_X5_set (20 * h + 7) (nI j) (nI 0) (if nI 0 < nI v - nI r then nI v - nI r else nI 0) σ8).bind fun σ10 => some σ10).bind fun σ2 => f_X4_passWeek_l6 h fx (nI (j + 1)) σ2)
        (if um_ix (nI (17 + j)) 3790 then um_let (um_wr M 1 (nI (17 + j)).toNatClampNeg hu) fun σ7 => if um_ix (nI (11 + j)) 3790 then if um_ix (nI (11 + j)) 3790 then (f_X9_least (nI r) (σ7.1 1 (nI (11 + j)).toNatClampNeg) σ7).bind fun x12 => if um_ix (nI (11 + j)) 3790 then um_let (um_wr σ7 1 (nI (11 + j)).toNatClampNeg ((σ7.1 1 (nI (11 + j)).toNatClampNeg) - x12)) fun σ14 => f_X9_eat_l2 fm (nI (j + 1)) σ14 else none else none else none else none) (wk h W n X M) := by
      intro hu
      rw [s1, Option.bind_some, s0, Option.bind_some, Option.bind_some, cl_3 (n := 17 + j) (by omega), cl_3 (n := 11 + j) (by omega)]
      refine sm_mt (um_ix_3 (by omega)) (sm_ml (sm_mt (um_ix_3 (by omega)) (sm_mt (um_ix_3 (by omega)) ?_)))
      rw [um_wr_an (by omega), ev]
      have hval : ∃ y : Nat, y ≤ 9999 ∧ (if nI 0 < nI v - nI r then nI v - nI r else nI 0) = nI y ∧ f_X9_least (nI r) (nI v) (um_wr M 1 (17 + j) hu) = some (nI (v - y)) ∧ y ≤ v := by
        unfold f_X9_least
        by_cases hvr : v ≤ r
        · refine ⟨0, by omega, ?_, ?_, by omega⟩
          · rw [if_neg]
            rw [Int32.lt_iff_toInt_lt, nI_subI (by omega) (by omega), nI_toInt (by omega)]
            omega
          · rw [if_pos (nI_le hvr (by omega)), Nat.sub_zero]
        · refine ⟨v - r, by omega, ?_, ?_, by omega⟩
          · rw [if_pos, nI_sub (by omega)]
            rw [Int32.lt_iff_toInt_lt, nI_subI (by omega) (by omega), nI_toInt (by omega)]
            omega
          · rw [if_neg (nI_ge (by omega) (by omega)), show v - (v - r) = r by omega]
      obtain ⟨y, hy, ey1, ey2, hyv⟩ := hval
      rw [ey1, ey2, Option.bind_some]
      refine sm_mt (um_ix_3 (by omega)) (sm_ml ?_)
      rw [nI_sub (by omega), show v - (v - y) = y by omega]
      have es : (um_wr (um_wr M 1 (17 + j) hu) 1 (11 + j) (nI y)).1 1 = up (up (M.1 1) (17 + j) hu) (11 + j) (nI y) := by rw [um_wr_eq, um_wr_eq]
      have hi1 : sr_i (up (M.1 1) (17 + j) hu) W := si_fr hi (by unfold fr; omega)
      have w1 : wk h W n X M (um_wr (um_wr X (20 * h + 7 + 100) (2 * j + 1) hu) (20 * h + 7 + 100) (2 * j) (nI y)) (um_wr (um_wr M 1 (17 + j) hu) 1 (11 + j) (nI y)) := by
        refine ⟨⟨?_, ?_, ?_⟩, xf_trans (xf_wr (by omega)) (xf_wr (by omega)), mf_trans (mf_wr 1 (Or.inl rfl)) (mf_wr 1 (Or.inl rfl)), fun b h8 h4 => by rw [um_wr_an (by omega), um_wr_an (by omega)]⟩
        · rw [es]
          exact (sc_w7 (sc_w7 hc (si_sb hi) hh (by omega)).2 (si_sb hi1) hh (by omega)).1
        · rw [es]
          exact si_up hi1 (by omega) (fun q hq e => ⟨y, hy, rfl⟩) (by omega) (fun _ _ => by omega) (fun _ _ _ => by omega) (fun _ _ => by omega)
        · exact st_fr (X := X) (s := M.1 1) (fun k i hk _ => by rw [um_wr_nk (by omega), um_wr_nk (by omega)]) rfl (fun b hb => by rw [um_wr_an (by omega), um_wr_an (by omega)]) (by rw [um_wr_an (by omega), um_wr_an (by omega)]) hs.2.2
      exact sm_wk (ih (j + 1) fx fm _ _ w1.1 (by omega) (by omega) (by omega)) (fun X' M' z => wk_trans w1 z)
    have c11 : (nI (11 + j)).toNatClampNeg = 11 + j := cl_3 (by omega)
    refine sm_ml ?_
    by_cases hle : nI r ≤ nI v
    · refine sm_mt hle ?_
      have g0 := go (nI 0)
      simp only [um_let, if_pos hle, c11] at g0 ⊢
      exact g0
    · refine sm_mf hle ?_
      have g1 := go 1
      simp only [um_let, if_neg hle, c11] at g1 ⊢
      exact g1
end WKB
