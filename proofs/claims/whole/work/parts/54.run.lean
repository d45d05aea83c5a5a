/-! LEVEL 2: run, caught, keep, again -/
section RNN
variable {X X' X2 M M' M2 : um_S} {h n W m i z : Nat} {s : Nat → Int32} {v : Int32}
theorem lo_run {N : Nat} (hN : N ≤ 60) : ∀ (k j fx fm : Nat) (X M : um_S), sr X 1 (M.1 1) 1999 n → nn (M.1 1) 0 + k ≤ 1999 → j + k = N → k < fx → k < fm → sm_S (f_X8_run_l33 (nI N) fx (nI j) X) (f_X9_run_l34 (nI N) fm (nI j) M) (fun X' M' => sr X' 1 (M'.1 1) 1999 n ∧ xf 1 X X' ∧ mf M M') := by
  intro k
  induction k with
  | zero =>
    intro j fx fm X M hs hw hj hfx hfm
    obtain ⟨fx, rfl⟩ : ∃ f, fx = f + 1 := ⟨fx - 1, by omega⟩
    obtain ⟨fm, rfl⟩ : ∃ f, fm = f + 1 := ⟨fm - 1, by omega⟩
    rw [f_X8_run_l33, f_X9_run_l34]
    exact sm_xt (nI_le (by omega) (by omega)) (sm_mt (nI_le (by omega) (by omega)) (sm_ret ⟨hs, xf_refl, mf_refl⟩))
  | succ k ih =>
    intro j fx fm X M hs hw hj hfx hfm
    obtain ⟨fx, rfl⟩ : ∃ f, fx = f + 1 := ⟨fx - 1, by omega⟩
    obtain ⟨fm, rfl⟩ : ∃ f, fm = f + 1 := ⟨fm - 1, by omega⟩
    rw [f_X8_run_l33, f_X9_run_l34]
    refine sm_xf (nI_ge (by omega) (by omega)) (sm_mf (nI_ge (by omega) (by omega)) ?_)
    rw [nI_1]
    refine sm_bind (week_ (W := nn (M.1 1) 0) (sr_W hs (Nat.le_refl _)) (Or.inl rfl) (by omega)) (fun X1 M1 ⟨q1, q2, q3, q4⟩ => ?_)
    have e0 : nn (M1.1 1) 0 = nn (M.1 1) 0 + 1 := by unfold nn at q4 ⊢; rw [q4, nI_clamp (by have := (si_week hs.2.1).2; unfold nn at this; omega)]
    exact sm_wk (ih (j + 1) fx fm X1 M1 (sr_W q1 (by omega)) (by omega) (by omega) (by omega) (by omega)) (fun X' M' z => ⟨z.1, xf_trans q2 z.2.1, mf_trans q3 z.2.2⟩)
end RNN
theorem sim_runR : sim_run RR := by
  intro n X M a1 hR
  refine sm_out ?_
  obtain ⟨ew, hw⟩ := si_week hR.1.2.1
  unfold f_X8_run f_X9_run
  refine sm_chk (wi_ (by decide) (by decide)) (sm_ret ⟨rfl, hR⟩) (fun hN => ?_)
  have h1 : (1 : Int32).toInt = 1 := by decide
  have h60 : (60 : Int32).toInt = 60 := by decide
  obtain ⟨N, hN2, eN⟩ := nI_ofT (a := a1) (u := 60) (by omega) (by omega)
  subst eN
  rw [hR.1.1.1.1]
  refine sm_if Iff.rfl (fun hle => ?_) (fun _ => sm_ret ⟨rfl, hR⟩)
  rw [ew, nI_add, Int32.le_iff_toInt_le, nI_toInt (by omega), show (1999 : Int32).toInt = 1999 by decide] at hle
  refine sm_bind (lo_run (N := N) (by omega) N 0 um_N um_N X M hR.1 (by omega) (by omega) (by unfold um_N; omega) (by unfold um_N; omega)) (fun X1 M1 ⟨q1, q2, q3⟩ => ?_)
  exact sm_ret ⟨q1.1.1.1, RR_of hR q1 q2 q3⟩
theorem sim_caughtR : sim_caught RR := by
  intro n X M a1 hR
  refine sm_out ?_
  have hi := hR.1.2.1
  have hc := hR.1.1
  have hh : um_h 1 := Or.inl rfl
  have hm14 := (si_men hi).2
  unfold f_X8_caught f_X9_caught
  refine sm_chk (ho_man hc hi) (sm_ret ⟨rfl, hR⟩) (fun ⟨m, hm, em⟩ => ?_)
  subst em
  have ho := si_man hi m hm
  rw [x_m5 hc hi hh hm, m_kindOf (by omega), Option.bind_some, Option.bind_some]
  refine sm_if Iff.rfl (fun hk => ?_) (fun _ => sm_ret ⟨rfl, hR⟩)
  refine sm_dec (x_isDead hc hh hm hm14) (m_isDead (by omega)) (fun hd => ?_) (fun _ => sm_ret ⟨rfl, hR⟩)
  have hd2 := of_decide_eq_false hd
  obtain ⟨o1, o2, o3, o4, o5, o6, o7, o8, o9⟩ := ho
  obtain ⟨hl, p, hp, ep⟩ := o7 hk
  obtain ⟨A, hA⟩ : ∃ A, M.1 1 (50 + 14 * m + 6) = A := ⟨_, rfl⟩
  rw [hA] at ep
  rw [x_m6 hc hi hh hm, Option.bind_some, hA]
  refine sm_xb (s_1 (c := 4) hh (by omega) (by omega)) ?_
  have s1 : sr (um_wr X (20 * 1 + 1 + 100) (14 * m + 4) A) 1 (up (M.1 1) (50 + 14 * m + 4) A) 1999 n := by
    refine sr_man hR.1 (sc_wm (c := 4) (w := A) hc (si_sb hi) hh hm (by omega) (by change eN A = A; rw [ep, eN_p (by omega)])) (fun k j hk _ => um_wr_nk (by omega)) rfl hm (fun b hb => up_ne (by change b ≠ 50 + 14 * m + 4; omega)) (fun z => by change up (M.1 1) (50 + 14 * m + 4) A _ ≠ -1; rw [up_ne (by omega)]; exact z) ?_
    change mo (up (M.1 1) (50 + 14 * m + 4) A) m
    refine mo_of (K := nn (M.1 1) 3) (f2 := M.1 1 (50 + 14 * m + 2)) (f4 := A) (f5 := M.1 1 (50 + 14 * m + 5)) (f6 := M.1 1 (50 + 14 * m + 6)) (f10 := M.1 1 (50 + 14 * m + 10)) (f11 := M.1 1 (50 + 14 * m + 11)) ?_ ?_ ?_ ?_ ?_ ?_ ?_ ⟨o1, Or.inr ⟨p, hp, ep⟩, o3, fun z => absurd z hd2, fun _ => hl, fun _ _ _ => by rw [ep]; exact nI_nneg (by omega), o7, o8, o9⟩
    · rw [up_ne (by omega)]
    · rw [up_eq]
    · rw [up_ne (by omega)]
    · rw [up_ne (by omega)]
    · rw [up_ne (by omega)]
    · rw [up_ne (by omega)]
    · rw [nn_up (by omega)]
  obtain ⟨X1, hX1⟩ : ∃ Y, Y = um_wr X (20 * 1 + 1 + 100) (14 * m + 4) A := ⟨_, rfl⟩
  have hXf : xf 1 X X1 := by rw [hX1]; exact xf_wr (by omega)
  have hXk : ∀ k j, k ≠ 20 * 1 + 1 + 100 → X1.1 k j = X.1 k j := fun k j hk => by rw [hX1]; exact um_wr_nk hk
  have hX2 : X1.2 = X.2 := by rw [hX1]; rfl
  rw [← hX1] at s1
  rw [← hX1]
  clear hX1
  have r1 : rm X1 1 (M.1 1) := by
    obtain ⟨z1, z2, z3⟩ := rm_of hc hi
    exact ⟨by rw [hXk _ _ (by omega)]; exact z1, z2, fun j hj => by rw [hXk _ _ (by omega)]; exact z3 j hj⟩
  have t1 : rt X1 1 (M.1 1) n := by
    obtain ⟨z1, z2, z3⟩ := rt_of hR.1
    exact ⟨by rw [hXk _ _ (by omega)]; exact z1, z2, st_fr (fun k j hk _ => hXk k j (by omega)) hX2 (fun _ _ => rfl) rfl z3⟩
  unfold f_X4_ironsForOneMore
  obtain ⟨r, r', g1, g2, e⟩ := marksOf_r (v := nI m) r1 hh
  subst e
  rw [g1, g2, Option.bind_some, Option.bind_some, hXk 1 12 (by omega), hc.1.1]
  obtain ⟨⟨x, X3⟩, ⟨y, M3⟩, e1, e2, z1, z2, z3⟩ := rule_2 (a := 3) (b := r + 1) (d := 0) t1 hh
  dsimp only at z1 z2 z3
  subst z1
  rw [e1, e2]
  refine sm_mb2 rfl (sm_mb m_manAt (sm_mb m_manAt ?_))
  rw [la_6, la_4]
  refine sm_mt (um_ix_3 (by omega)) (sm_mt (um_ix_3 (by omega)) ?_)
  rw [cl_3 (by omega), cl_3 (by omega), mq_1 z3, hA]
  refine sm_ml ?_
  have s3 : sr X3 1 ((um_wr M3 1 (50 + 14 * m + 4) A).1 1) 1999 n := by
    rw [um_wr_eq, mq_1 z3]
    exact sr_xa hh (xq_xa hh z2) s1
  have hxf3 : xf 1 X X3 := xf_trans hXf (xq_xf z2)
  obtain ⟨M4, hM4⟩ : ∃ Y, Y = um_wr M3 1 (50 + 14 * m + 4) A := ⟨_, rfl⟩
  have hM4o : ∀ b, b ≠ 50 + 14 * m + 4 → M4.1 1 b = M.1 1 b := fun b hb => by rw [hM4, um_wr_an hb, mq_1 z3]
  have hM4p : M4.1 1 (50 + 14 * m + 4) = A := by rw [hM4, um_wr_at]
  have hmf4 : mf M M4 := by rw [hM4]; exact mf_trans (mq_mf z3) (mf_wr 1 (Or.inl rfl))
  rw [← hM4] at s3
  rw [← hM4]
  clear hM4
  have hm4 : m < nn (M4.1 1) 2 := by rw [nn_congr (hM4o 2 (by omega))]; exact hm
  have fin : ∀ X5 M5 : um_S, sr X5 1 (M5.1 1) 1999 n → xf 1 X X5 → mf M M5 → (∀ b, b ≠ 4 → (b < 280 ∨ 440 ≤ b) → M5.1 1 b = M4.1 1 b) → sm_S (um_let (if (1 : Int32) < x then x else (1 : Int32)) fun x14 => (f_X4_become 1 (nI m) (3 : Int32) ((X5.1 1 12) + x14) X5).bind fun σ17 => some ((σ17.1 1 12) + x14, σ17)) (um_let (fun (x23 : Int32) => (f_X9_becomesOf (nI m) (3 : Int32) ((M5.1 1 0) + x23) M5).bind fun σ25 => (f_X9_manAt (nI m) σ25).bind fun x27 => if um_ix (x27 + (6 : Int32)) 3790 then some (σ25.1 1 (x27 + (6 : Int32)).toNatClampNeg, σ25) else none) fun k22 => if (1 : Int32) ≤ x then k22 x else k22 (1 : Int32)) (fun a b => a.1 = b.1 ∧ RR n a.2 b.2) := by
    intro X5 M5 s5 f5 mf5 hag
    have hm5 : m < nn (M5.1 1) 2 := by rw [nn_congr (hag 2 (by omega) (by omega))]; exact hm4
    have hfl : ∀ b, b ≠ 4 → b ≠ 50 + 14 * m + 4 → b < 280 → M5.1 1 b = M.1 1 b := fun b h4 hb hb2 => by rw [hag b h4 (by omega), hM4o b hb]
    have go : ∀ y : Int32, sm_S ((f_X4_become 1 (nI m) (3 : Int32) ((X5.1 1 12) + y) X5).bind fun σ17 => some ((σ17.1 1 12) + y, σ17)) ((f_X9_becomesOf (nI m) (3 : Int32) ((M5.1 1 0) + y) M5).bind fun σ25 => (f_X9_manAt (nI m) σ25).bind fun x27 => if um_ix (x27 + (6 : Int32)) 3790 then some (σ25.1 1 (x27 + (6 : Int32)).toNatClampNeg, σ25) else none) (fun a b => a.1 = b.1 ∧ RR n a.2 b.2) := by
      intro y
      rw [s5.1.1.1]
      obtain ⟨u1, u2, u3, u4, u5, u6, u7, u8, u9⟩ := si_man s5.2.1 m hm5
      refine sm_bind (become_ s5 hh hm5 ⟨⟨3, by omega, by omega, rfl⟩, u2, u3, u4, u5, fun _ _ _ => ?_, fun z => absurd z (by decide), fun z => absurd z (by decide), u9⟩) (fun X6 M6 ⟨q1, q2, q3, q4⟩ => ?_)
      · rw [hag _ (by omega) (by omega), hM4p, ep]
        exact nI_nneg (by omega)
      · refine sm_mb m_manAt ?_
        rw [la_6]
        refine sm_mt (um_ix_3 (by omega)) ?_
        rw [cl_3 (by omega), q1.1.1.1]
        refine sm_ret ⟨?_, RR_of hR q1 (xf_trans f5 q2) (mf_trans mf5 q3)⟩
        change M6.1 1 0 + y = M6.1 1 (50 + 14 * m + 6)
        rw [q4, up_ne (by omega), up_ne (by omega), up_ne (by omega), up_ne (by omega), up_eq]
    refine sm_xl (sm_ml ?_)
    have h1 : (1 : Int32).toInt = 1 := by decide
    by_cases hx : (1 : Int32) < x
    · rw [if_pos hx]
      exact sm_mt (by rw [Int32.le_iff_toInt_le]; rw [Int32.lt_iff_toInt_lt] at hx; omega) (go x)
    · rw [if_neg hx]
      by_cases hx2 : (1 : Int32) ≤ x
      · refine sm_mt hx2 ?_
        have e : x = 1 := Int32.toInt_inj.mp (by rw [Int32.lt_iff_toInt_lt] at hx; rw [Int32.le_iff_toInt_le] at hx2; omega)
        rw [e]
        exact go 1
      · exact sm_mf hx2 (go 1)
  by_cases hf : nn (M4.1 1) 4 = 40
  · obtain ⟨f1, f2⟩ := marksF (m := m) (off := 3) s3 hh hf
    refine sm_xb2 (x := um_b2 _ _) (c := x) (d := X3) (by rw [um_b2_some, f1]; rfl) (sm_mb f2 ?_)
    exact fin X3 M4 s3 hxf3 hmf4 (fun _ _ _ => rfl)
  · obtain ⟨X5, M5, q1, q2, q3, q4, q5, q6, q7⟩ := marksN (off := 3) s3 hh hm4 (by rw [hM4o _ (by omega)]; exact hl) hf
    refine sm_xb2 (x := um_b2 _ _) (c := x) (d := X5) (by rw [um_b2_some, q1]; rfl) (sm_mb q2 ?_)
    exact fin X5 M5 q3 (xf_trans hxf3 q4) (mf_trans hmf4 q5) q6
/-- all but the shores and their flag -/
def r3 (X M : um_S) : Prop :=
  (∀ k, k < 4 → X.1 13 k = M.1 4 k ∧ (M.1 4 k = -1 ∨ M.1 4 k = 0 ∨ M.1 4 k = 1) ∧ ∃ z : Nat, z ≤ 24 ∧ X.1 114 k = nI z ∧ M.1 5 k = nI z) ∧ (∀ j, j < 96 → X.1 115 j = M.1 6 j) ∧
  (∃ z : Nat, z ≤ 60 ∧ X.1 0 8 = nI z ∧ M.1 0 27 = nI z ∧ ∀ j, j < z → X.1 7 j = M.1 15 j) ∧
  (∃ z : Nat, z ≤ 96 ∧ X.1 4 1 = nI z ∧ M.1 0 8 = nI z ∧ ∀ j, j < z → X.1 8 j &&& 255 = M.1 7 j ∧ ∃ b : Nat, b ≤ 255 ∧ M.1 7 j = nI b)
theorem r3_fr {X M X' M' : um_S} (hx : ∀ k j, k = 13 ∨ k = 114 ∨ k = 115 ∨ k = 7 ∨ k = 4 ∨ k = 8 ∨ (k = 0 ∧ j = 8) → X'.1 k j = X.1 k j) (hm : ∀ k j, k = 4 ∨ k = 5 ∨ k = 6 ∨ k = 7 ∨ k = 15 ∨ (k = 0 ∧ (j = 8 ∨ j = 27)) → M'.1 k j = M.1 k j) (h : r3 X M) : r3 X' M' := by
  obtain ⟨a3, a4, ⟨z, b1, b2, b3, b4⟩, ⟨y, c1, c2, c3, c4⟩⟩ := h
  refine ⟨?_, ?_, ⟨z, b1, ?_, ?_, ?_⟩, ⟨y, c1, ?_, ?_, ?_⟩⟩
  · intro k hk
    rw [hx _ _ (by omega), hx _ _ (by omega), hm _ _ (by omega), hm _ _ (by omega)]
    exact a3 k hk
  · intro j hj
    rw [hx _ _ (by omega), hm _ _ (by omega)]
    exact a4 j hj
  · rw [hx _ _ (by omega)]; exact b2
  · rw [hm _ _ (by omega)]; exact b3
  · intro j hj
    rw [hx _ _ (by omega), hm _ _ (by omega)]
    exact b4 j hj
  · rw [hx _ _ (by omega)]; exact c2
  · rw [hm _ _ (by omega)]; exact c3
  · intro j hj
    rw [hx _ _ (by omega), hm _ _ (by omega)]
    exact c4 j hj
theorem sim_keepR : sim_keep RR := by
  intro n X M hR
  refine sm_out ?_
  have hh1 : um_h 1 := Or.inl rfl
  have hh2 : um_h 2 := Or.inr (Or.inl rfl)
  obtain ⟨X1, q1, q2, q3, q4, q5, q6, q7, q8, q9, q10⟩ := becomeAs_ hh2 hh1 (by omega) X
  obtain ⟨M1, p1, p2, p3, p4⟩ := aside_ (a := 1) (b := 2) (by omega) (um_wr M 0 3 (um_b true))
  unfold f_X8_keep f_X9_keep
  refine sm_xb q1 (sm_xl (sm_ml (sm_mb p1 (sm_ret ⟨?_, ?_, ⟨?_, fun _ => ?_⟩, ?_⟩))))
  · change (um_wr X1 0 3 (um_b true)).1 1 12 = M1.1 1 0
    rw [um_wr_nk (by omega), q2 _ _ (by omega) (by omega) (by omega), p3 _ _ (by omega), um_wr_nk (by omega)]
    exact hR.1.1.1.1
  · change sr (um_wr X1 0 3 (um_b true)) 1 (M1.1 1) 1999 n
    have e1 : M1.1 1 = M.1 1 := funext fun j => by rw [p3 _ _ (by omega), um_wr_nk (by omega)]
    have hk : ∀ k j, k ≠ 0 → k ≠ 2 → ¬ (40 ≤ k ∧ k < 60) → ¬ (140 ≤ k ∧ k < 160) → (um_wr X1 0 3 (um_b true)).1 k j = X.1 k j := fun k j h0 h2 h3 h4 => by rw [um_wr_nk h0, q2 _ _ (by omega) (by omega) (by omega)]
    refine sr_cp hh1 hh1 hR.1 (fun k j h3 _ => hk k j (by omega) (by omega) (by omega) (by omega)) q3 (fun t ht => ⟨hk _ _ (by omega) (by omega) (by omega) (by omega), fun j _ => hk _ _ (by omega) (by omega) (by omega) (by omega)⟩) (fun i _ => ?_) (hk _ _ (by omega) (by omega) (by omega) (by omega)) (hk _ _ (by omega) (by omega) (by omega) (by omega)) (hk _ _ (by omega) (by omega) (by omega) (by omega)) (hk _ _ (by omega) (by omega) (by omega) (by omega)) (fun b _ => by rw [e1])
    change X1.2.1 _ i = _
    rw [q4 _ (by omega)]
  · change (um_wr X1 0 3 (um_b true)).1 0 3 = M1.1 0 3
    rw [um_wr_at, p3 _ _ (by omega), um_wr_at]
  · change sr (um_wr X1 0 3 (um_b true)) 2 (M1.1 2) 1999 n
    refine sr_cp hh2 hh1 hR.1 (fun k j h3 _ => by rw [um_wr_nk (by omega), q2 _ _ (by omega) (by omega) (by omega)]) q3 (fun t ht => ⟨by rw [um_wr_nk (by omega)]; exact (q5 t ht).1, fun j hj => by rw [um_wr_nk (by omega)]; exact (q5 t ht).2 j hj⟩) q6 (by rw [um_wr_nk (by omega)]; exact q7) (by rw [um_wr_nk (by omega)]; exact q8) (by rw [um_wr_nk (by omega)]; exact q9) (by rw [um_wr_nk (by omega)]; exact q10) (fun b hb => by rw [p4 b hb, um_wr_nk (by omega)])
  · refine r3_fr (X := X) (M := M) (fun k j hk => ?_) (fun k j hk => ?_) hR.2.2
    · by_cases e : k = 0
      · subst e
        change (um_wr X1 0 3 (um_b true)).1 0 j = _
        rw [um_wr_an (by omega), q2 _ _ (by omega) (by omega) (by omega)]
      · change (um_wr X1 0 3 (um_b true)).1 k j = _
        rw [um_wr_nk e, q2 _ _ (by omega) (by omega) (by omega)]
    · by_cases e : k = 0
      · subst e
        rw [p3 _ _ (by omega), um_wr_an (by omega)]
      · rw [p3 _ _ (by omega), um_wr_nk e]
theorem sim_againR : sim_again RR := by
  intro n X M hR
  refine sm_out ?_
  have hh1 : um_h 1 := Or.inl rfl
  have hh2 : um_h 2 := Or.inr (Or.inl rfl)
  unfold f_X8_again f_X9_again
  refine sm_if (by rw [hR.2.1.1]) (fun _ => sm_ret ⟨rfl, hR⟩) (fun h0 => ?_)
  rw [hR.2.1.1] at h0
  have hs2 := hR.2.1.2 h0
  obtain ⟨X1, q1, q2, q3, q4, q5, q6, q7, q8, q9, q10⟩ := becomeAs_ hh1 hh2 (by omega) X
  obtain ⟨M1, p1, p2, p3, p4⟩ := aside_ (a := 2) (b := 1) (by omega) M
  have s1 : sr X1 1 (M1.1 1) 1999 n := sr_cp hh1 hh2 hs2 (fun k j h3 _ => q2 _ _ (by omega) (by omega) (by omega)) q3 q5 q6 q7 q8 q9 q10 (fun b hb => p4 b hb)
  refine sm_xb q1 (sm_mb p1 (sm_ret ⟨s1.1.1.1, s1, ⟨?_, fun _ => ?_⟩, ?_⟩))
  · rw [q2 _ _ (by omega) (by omega) (by omega), p3 _ _ (by omega)]
    exact hR.2.1.1
  · have hk : ∀ k j, k ≠ 1 → ¬ (20 ≤ k ∧ k < 40) → ¬ (120 ≤ k ∧ k < 140) → X1.1 k j = X.1 k j := fun k j h2 h3 h4 => q2 _ _ (by omega) (by omega) (by omega)
    refine sr_cp hh2 hh2 hs2 (fun k j h3 _ => hk k j (by omega) (by omega) (by omega)) q3 (fun t ht => ⟨hk _ _ (by omega) (by omega) (by omega), fun j _ => hk _ _ (by omega) (by omega) (by omega)⟩) (fun i _ => by rw [q4 _ (by omega)]) (hk _ _ (by omega) (by omega) (by omega)) (hk _ _ (by omega) (by omega) (by omega)) (hk _ _ (by omega) (by omega) (by omega)) (hk _ _ (by omega) (by omega) (by omega)) (fun b _ => p3 _ _ (by omega))
  · exact r3_fr (X := X) (M := M) (fun k j hk => q2 _ _ (by omega) (by omega) (by omega)) (fun k j hk => p3 _ _ (by omega)) hR.2.2
