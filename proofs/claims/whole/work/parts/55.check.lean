/-! LEVEL 2: check -/
section CHK
variable {X X' X2 M M' M2 : um_S} {h n W m i z N : Nat} {s : Nat → Int32} {v v1 v2 : Int32}
theorem lo_live (hh : um_h h) (hi30 : i < 30) : ∀ (k j : Nat) (acc : Int32) (fx fm : Nat) (M : um_S), rm X h (M.1 1) → j + k = nn (M.1 1) 4 → k < fx → k < fm → M.1 16 (2 * i) = acc → ∃ r M', f_X4_liveMarks_l4 h X fx acc (nI j) = some r ∧ f_X9_check_l93 v1 v2 (nI i) fm (nI j) M = some M' ∧ M'.1 16 (2 * i) = r ∧ ∀ a b, ¬ (a = 16 ∧ b = 2 * i) → M'.1 a b = M.1 a b := by
  intro k
  induction k with
  | zero =>
    intro j acc fx fm M hr hj hfx hfm ha
    obtain ⟨e1, hn⟩ := hr.2.1
    obtain ⟨fx, rfl⟩ : ∃ f, fx = f + 1 := ⟨fx - 1, by omega⟩
    obtain ⟨fm, rfl⟩ : ∃ f, fm = f + 1 := ⟨fm - 1, by omega⟩
    rw [f_X4_liveMarks_l4, f_X9_check_l93]
    exact ⟨acc, M, if_pos (by rw [hr.1, e1]; exact nI_le (by omega) (by omega)), if_pos (by rw [e1]; exact nI_le (by omega) (by omega)), ha, fun _ _ _ => rfl⟩
  | succ k ih =>
    intro j acc fx fm M hr hj hfx hfm ha
    obtain ⟨e1, hn⟩ := hr.2.1
    obtain ⟨fx, rfl⟩ : ∃ f, fx = f + 1 := ⟨fx - 1, by omega⟩
    obtain ⟨fm, rfl⟩ : ∃ f, fm = f + 1 := ⟨fm - 1, by omega⟩
    rw [f_X4_liveMarks_l4, f_X9_check_l93]
    rw [if_neg (by rw [hr.1, e1]; exact nI_ge (by omega) (by omega)), if_neg (by rw [e1]; exact nI_ge (by omega) (by omega)), r_p3_3 hr hh (by omega), Option.bind_some, m_markAt, Option.bind_some, la_3, lm_2]
    rw [if_pos (um_ix_nI (n := 2 * i) (by omega) (by omega)), if_pos (um_ix_3 (by omega)), cl_3 (n := 280 + 4 * j + 3) (by omega), if_pos (um_ix_nI (n := 2 * i) (by omega) (by omega)), if_pos (um_ix_nI (n := 2 * i) (by omega) (by omega)), nI_clamp (n := 2 * i) (by omega), nI_1]
    have step : ∀ (x : Int32), ∃ r M', f_X4_liveMarks_l4 h X fx x (nI (j + 1)) = some r ∧ f_X9_check_l93 v1 v2 (nI i) fm (nI (j + 1)) (um_wr M 16 (2 * i) x) = some M' ∧ M'.1 16 (2 * i) = r ∧ ∀ a b, ¬ (a = 16 ∧ b = 2 * i) → M'.1 a b = M.1 a b := by
      intro x
      have e1' : (um_wr M 16 (2 * i) x).1 1 = M.1 1 := um_wr_ne (by omega)
      obtain ⟨r, M', q1, q2, q3, q4⟩ := ih (j + 1) x fx fm (um_wr M 16 (2 * i) x) (by rw [e1']; exact hr) (by rw [e1']; omega) (by omega) (by omega) (um_wr_at _ _ _ _)
      refine ⟨r, M', q1, q2, q3, fun a b hab => ?_⟩
      rw [q4 a b hab]
      by_cases e : a = 16
      · subst e
        exact um_wr_an (fun z => hab ⟨rfl, z⟩)
      · exact um_wr_nk e
    by_cases hv : M.1 1 (280 + 4 * j + 3) = 0
    · rw [if_pos hv, if_pos hv, ha]
      exact step _
    · rw [if_neg hv, if_neg hv, ha]
      have := step acc
      rw [ad_0]
      exact this
theorem lo_banks (hh : um_h h) (hi30 : i < 30) : ∀ (k j : Nat) (acc : Int32) (fx fm : Nat) (M : um_S), sr X h (M.1 1) W n → j + k = nn (M.1 1) 2 → k < fx → k < fm → M.1 16 (2 * i + 1) = acc → ∃ r M', f_X4_inBanks_l4 h X fx acc (nI j) = some r ∧ f_X9_check_l145 v1 v2 (nI i) fm (nI j) M = some M' ∧ M'.1 16 (2 * i + 1) = r ∧ ∀ a b, ¬ (a = 16 ∧ b = 2 * i + 1) → M'.1 a b = M.1 a b := by
  intro k
  induction k with
  | zero =>
    intro j acc fx fm M hs hj hfx hfm ha
    obtain ⟨e1, hn⟩ := si_men hs.2.1
    obtain ⟨fx, rfl⟩ : ∃ f, fx = f + 1 := ⟨fx - 1, by omega⟩
    obtain ⟨fm, rfl⟩ : ∃ f, fm = f + 1 := ⟨fm - 1, by omega⟩
    rw [f_X4_inBanks_l4, f_X9_check_l145]
    exact ⟨acc, M, if_pos (by rw [cnt_x hs]; exact nI_le (by omega) (by omega)), if_pos (by rw [e1]; exact nI_le (by omega) (by omega)), ha, fun _ _ _ => rfl⟩
  | succ k ih =>
    intro j acc fx fm M hs hj hfx hfm ha
    obtain ⟨e1, hn⟩ := si_men hs.2.1
    obtain ⟨fx, rfl⟩ : ∃ f, fx = f + 1 := ⟨fx - 1, by omega⟩
    obtain ⟨fm, rfl⟩ : ∃ f, fm = f + 1 := ⟨fm - 1, by omega⟩
    rw [f_X4_inBanks_l4, f_X9_check_l145]
    rw [if_neg (by rw [cnt_x hs]; exact nI_ge (by omega) (by omega)), if_neg (by rw [e1]; exact nI_ge (by omega) (by omega)), x_m9 hs.1 hs.2.1 hh (by omega), Option.bind_some, m_manAt, Option.bind_some, la_9, lm_2, la_1 (x := 2 * i)]
    rw [if_pos (um_ix_nI (n := 2 * i + 1) (by omega) (by omega)), if_pos (um_ix_3 (by omega)), if_pos (um_ix_nI (n := 2 * i + 1) (by omega) (by omega)), cl_3 (n := 50 + 14 * j + 9) (by omega), nI_clamp (n := 2 * i + 1) (by omega), nI_1, ha]
    have e1' : (um_wr M 16 (2 * i + 1) (acc + M.1 1 (50 + 14 * j + 9))).1 1 = M.1 1 := um_wr_ne (by omega)
    obtain ⟨r, M', q1, q2, q3, q4⟩ := ih (j + 1) (acc + M.1 1 (50 + 14 * j + 9)) fx fm (um_wr M 16 (2 * i + 1) (acc + M.1 1 (50 + 14 * j + 9))) (by rw [e1']; exact hs) (by rw [e1']; omega) (by omega) (by omega) (um_wr_at _ _ _ _)
    refine ⟨r, M', q1, q2, q3, fun a b hab => ?_⟩
    rw [q4 a b hab]
    by_cases e : a = 16
    · subst e
      exact um_wr_an (fun z => hab ⟨rfl, z⟩)
    · exact um_wr_nk e
theorem x_waited {idx : Nat} (hidx : idx < 2 ^ 20) (hz : z ≤ 60) : f_X8_waited (nI idx) (nI z) v X = some (decide (idx < z ∧ X.1 7 idx = v)) := by
  unfold f_X8_waited
  rw [if_neg (nI_pos (by omega))]
  by_cases h1 : idx < z
  · rw [if_neg (nI_ge h1 (by omega)), if_neg (nI_ge (by omega) (by omega)), if_pos (um_ix_nI (by omega) (by omega)), nI_clamp (by omega)]
    by_cases h2 : X.1 7 idx = v
    · rw [if_pos h2, decide_eq_true ⟨h1, h2⟩]
    · rw [if_neg h2, decide_eq_false (fun y => h2 y.2)]
  · rw [if_pos (nI_le (by omega) (by omega)), decide_eq_false (fun y => h1 y.1)]
theorem lb_2 {x : Nat} : (2 : Int32) + nI x = nI (2 + x) := nI_add 2 x
/-- from the i-th week on: what the class finds, what the reference lays down -/
theorem lo_check (hN : N ≤ 30) (hz : z ≤ 60) : ∀ (k i fx fm : Nat) (X M : um_S), sr X 3 (M.1 1) (1999 + i) n → i + k = N → k < fx → k < fm → ∃ out M', f_X8_check_l46 (nI N) (nI z) fx (nI i) X = some out ∧ f_X9_check_l61 (nI N) v2 fm (nI i) M = some M' ∧ (∀ a b, a ≠ 1 → a ≠ 8 → a ≠ 9 → ¬ (a = 16 ∧ 2 * i ≤ b) → M'.1 a b = M.1 a b) ∧
    ((∃ (kk : Nat) (X' : um_S), 2 * i ≤ kk ∧ kk < 2 * N ∧ (∀ j, 2 * i ≤ j → j < kk → j < z ∧ X.1 7 j = M'.1 16 j) ∧ ¬ (kk < z ∧ X.1 7 kk = M'.1 16 kk) ∧ out = .inl (nI (1 + kk), X') ∧ xf 3 X X') ∨ ((∀ j, 2 * i ≤ j → j < 2 * N → j < z ∧ X.1 7 j = M'.1 16 j) ∧ ∃ X', out = .inr X' ∧ xf 3 X X')) := by
  have hh : um_h 3 := Or.inr (Or.inr rfl)
  intro k
  induction k with
  | zero =>
    intro i fx fm X M hs hi hfx hfm
    obtain ⟨fx, rfl⟩ : ∃ f, fx = f + 1 := ⟨fx - 1, by omega⟩
    obtain ⟨fm, rfl⟩ : ∃ f, fm = f + 1 := ⟨fm - 1, by omega⟩
    rw [f_X8_check_l46, f_X9_check_l61]
    exact ⟨_, M, if_pos (nI_le (by omega) (by omega)), if_pos (nI_le (by omega) (by omega)), fun _ _ _ _ _ _ => rfl, Or.inr ⟨fun j h1 h2 => by omega, X, rfl, xf_refl⟩⟩
  | succ k ih =>
    intro i fx fm X M hs hi hfx hfm
    obtain ⟨fx, rfl⟩ : ∃ f, fx = f + 1 := ⟨fx - 1, by omega⟩
    obtain ⟨fm, rfl⟩ : ∃ f, fm = f + 1 := ⟨fm - 1, by omega⟩
    obtain ⟨X1, M1, g1, g2, s1, xf1, mf1, _⟩ := week_ hs hh (by omega)
    have b4 := (si_marks s1.2.1).2
    have b2 := (si_men s1.2.1).2
    obtain ⟨M2, hM2⟩ : ∃ Y, Y = um_wr (um_wr M1 16 (2 * i) 0) 16 (2 * i + 1) 0 := ⟨_, rfl⟩
    have e2 : M2.1 1 = M1.1 1 := by rw [hM2, um_wr_ne (by omega), um_wr_ne (by omega)]
    have e2a : M2.1 16 (2 * i) = 0 := by rw [hM2, um_wr_an (by omega), um_wr_at]
    have e2b : M2.1 16 (2 * i + 1) = 0 := by rw [hM2, um_wr_at]
    have e2c : ∀ a b, ¬ (a = 16 ∧ (b = 2 * i ∨ b = 2 * i + 1)) → M2.1 a b = M1.1 a b := fun a b hab => by
      rw [hM2]
      by_cases e : a = 16
      · subst e
        rw [um_wr_an (by omega), um_wr_an (by omega)]
      · rw [um_wr_nk e, um_wr_nk e]
    have s2 : sr X1 3 (M2.1 1) (1999 + i + 1) n := by rw [e2]; exact s1
    obtain ⟨r, M3, l1, l2, l3, l4⟩ := lo_live (X := X1) (v1 := nI N) (v2 := v2) (i := i) hh (by omega) (nn (M2.1 1) 4) 0 0 um_N um_N M2 (rm_of s2.1 s2.2.1) (by omega) (by rw [e2]; unfold um_N; omega) (by rw [e2]; unfold um_N; omega) e2a
    have e3 : M3.1 1 = M2.1 1 := funext fun j => l4 1 j (by omega)
    have s3 : sr X1 3 (M3.1 1) (1999 + i + 1) n := by rw [e3]; exact s2
    obtain ⟨t, M4, k1, k2, k3, k4⟩ := lo_banks (X := X1) (v1 := nI N) (v2 := v2) (i := i) hh (by omega) (nn (M3.1 1) 2) 0 0 um_N um_N M3 s3 (by omega) (by rw [e3, e2]; unfold um_N; omega) (by rw [e3, e2]; unfold um_N; omega) (by rw [l4 _ _ (by omega)]; exact e2b)
    have e4 : M4.1 1 = M3.1 1 := funext fun j => k4 1 j (by omega)
    have s4 : sr X1 3 (M4.1 1) (1999 + (i + 1)) n := by rw [e4]; exact s3
    obtain ⟨out, M5, c1, c2, c3, c4⟩ := ih (i + 1) fx fm X1 M4 s4 (by omega) (by omega) (by omega)
    have d1 : M5.1 16 (2 * i) = r := by rw [c3 _ _ (by omega) (by omega) (by omega) (by omega), k4 _ _ (by omega)]; exact l3
    have d2 : M5.1 16 (2 * i + 1) = t := by rw [c3 _ _ (by omega) (by omega) (by omega) (by omega)]; exact k3
    have e7 : ∀ j, X1.1 7 j = X.1 7 j := fun j => xf1.1 7 j (by omega) (by omega) (by omega) (by omega)
    have hM : f_X9_check_l61 (nI N) v2 (fm + 1) (nI i) M = some M5 := by
      rw [f_X9_check_l61, if_neg (nI_ge (by omega) (by omega)), g2, Option.bind_some, lm_2, la_1, if_pos (um_ix_nI (n := 2 * i) (by omega) (by omega)), nI_clamp (n := 2 * i) (by omega)]
      unfold um_let
      dsimp only
      rw [if_pos (um_ix_nI (n := 2 * i + 1) (by omega) (by omega)), nI_clamp (n := 2 * i + 1) (by omega), ← hM2, show (0 : Int32) = nI 0 from rfl, l2, Option.bind_some, k2, Option.bind_some, nI_1]
      exact c2
    have hfr : ∀ a b, a ≠ 1 → a ≠ 8 → a ≠ 9 → ¬ (a = 16 ∧ 2 * i ≤ b) → M5.1 a b = M.1 a b := fun a b h1 h8 h9 h16 => by
      rw [c3 a b h1 h8 h9 (by omega), k4 a b (by omega), l4 a b (by omega), e2c a b (by omega), mf1 a b h1 h8 h9]
    have hX0 : f_X8_check_l46 (nI N) (nI z) (fx + 1) (nI i) X = (f_X8_waited (nI (2 * i)) (nI z) r X1).bind fun x6 => if um_b x6 = 0 then some (.inl (nI (1 + 2 * i), X1)) else (f_X8_waited (nI (2 * i + 1)) (nI z) t X1).bind fun x10 => if um_b x10 = 0 then some (.inl (nI (2 + 2 * i), X1)) else f_X8_check_l46 (nI N) (nI z) fx (nI (i + 1)) X1 := by
      rw [f_X8_check_l46, if_neg (nI_ge (by omega) (by omega)), g1, Option.bind_some]
      unfold f_X4_liveMarks f_X4_inBanks
      have l1' : f_X4_liveMarks_l4 3 X1 um_N 0 0 = some r := l1
      have k1' : f_X4_inBanks_l4 3 X1 um_N 0 0 = some t := k1
      rw [bind_sm, bind_sm, l1', k1', Option.bind_some, lm_2, la_1 (x := 2 * i), lb_1, lb_2, nI_1]
      rfl
    rw [x_waited (by omega) hz, x_waited (by omega) hz, Option.bind_some, Option.bind_some, e7, e7] at hX0
    by_cases w1 : 2 * i < z ∧ X.1 7 (2 * i) = r
    · rw [decide_eq_true w1, if_neg (by decide)] at hX0
      by_cases w2 : 2 * i + 1 < z ∧ X.1 7 (2 * i + 1) = t
      · rw [decide_eq_true w2, if_neg (by decide), c1] at hX0
        refine ⟨out, M5, hX0, hM, hfr, ?_⟩
        have hall : ∀ j, 2 * i ≤ j → j < 2 * (i + 1) → j < z ∧ X.1 7 j = M5.1 16 j := fun j h1 h2 => by
          have hj : j = 2 * i ∨ j = 2 * i + 1 := by omega
          rcases hj with rfl | rfl
          · rw [d1]; exact w1
          · rw [d2]; exact w2
        rcases c4 with ⟨kk, X', f1, f2, f3, f4, f5, f6⟩ | ⟨f1, X', f2, f3⟩
        · refine Or.inl ⟨kk, X', by omega, f2, fun j h1 h2 => ?_, by rw [e7] at f4; exact f4, f5, xf_trans xf1 f6⟩
          by_cases hj : j < 2 * (i + 1)
          · exact hall j h1 hj
          · have := f3 j (by omega) h2
            rw [e7] at this
            exact this
        · refine Or.inr ⟨fun j h1 h2 => ?_, X', f2, xf_trans xf1 f3⟩
          by_cases hj : j < 2 * (i + 1)
          · exact hall j h1 hj
          · have := f1 j (by omega) h2
            rw [e7] at this
            exact this
      · rw [decide_eq_false w2, if_pos (by decide)] at hX0
        refine ⟨_, M5, hX0, hM, hfr, Or.inl ⟨2 * i + 1, X1, by omega, by omega, fun j h1 h2 => ?_, by rw [d2]; exact w2, by rw [show 1 + (2 * i + 1) = 2 + 2 * i by omega], xf1⟩⟩
        have hj : j = 2 * i := by omega
        subst hj
        rw [d1]; exact w1
    · rw [decide_eq_false w1, if_pos (by decide)] at hX0
      exact ⟨_, M5, hX0, hM, hfr, Or.inl ⟨2 * i, X1, by omega, by omega, fun j h1 h2 => by omega, by rw [d1]; exact w1, rfl, xf1⟩⟩
/-- how far the rows agree -/
theorem lo_same (hN : N ≤ 30) (hz : z ≤ 60) {kk : Nat} (hkN : kk ≤ 2 * N) (h1 : ∀ j, j < kk → j < z ∧ M.1 15 j = M.1 16 j) (h2 : kk = 2 * N ∨ ¬ (kk < z ∧ M.1 15 kk = M.1 16 kk)) : ∀ (k j fm : Nat), j + k = kk → k < fm → f_X9_check_l209 (nI N) (nI z) M fm (nI j) = some (nI kk) := by
  intro k
  induction k with
  | zero =>
    intro j fm hj hfm
    obtain ⟨fm, rfl⟩ : ∃ f, fm = f + 1 := ⟨fm - 1, by omega⟩
    have e : j = kk := by omega
    subst e
    rw [f_X9_check_l209, lm_2]
    by_cases hjz : j < z
    · rw [if_neg (nI_ge hjz (by omega))]
      by_cases hjN : j = 2 * N
      · rw [if_pos (nI_le (by omega) (by omega))]
      · have h3 := h2.resolve_left hjN
        rw [if_neg (nI_ge (by omega) (by omega)), if_pos (um_ix_nI (by omega) (by omega)), if_pos (um_ix_nI (by omega) (by omega)), nI_clamp (by omega), if_neg (fun y => h3 ⟨hjz, y⟩)]
    · rw [if_pos (nI_le (by omega) (by omega))]
  | succ k ih =>
    intro j fm hj hfm
    obtain ⟨fm, rfl⟩ : ∃ f, fm = f + 1 := ⟨fm - 1, by omega⟩
    obtain ⟨g1, g2⟩ := h1 j (by omega)
    rw [f_X9_check_l209, lm_2, if_neg (nI_ge g1 (by omega)), if_neg (nI_ge (by omega) (by omega)), if_pos (um_ix_nI (by omega) (by omega)), if_pos (um_ix_nI (by omega) (by omega)), nI_clamp (by omega), if_pos g2, nI_1]
    exact ih (j + 1) fm (by omega) (by omega)
end CHK
theorem sim_checkR : sim_check RR := by
  intro n X M a1 hR
  refine sm_out ?_
  have hh1 : um_h 1 := Or.inl rfl
  have hh2 : um_h 2 := Or.inr (Or.inl rfl)
  have hh3 : um_h 3 := Or.inr (Or.inr rfl)
  obtain ⟨r1, r2, r2b, ⟨z, b1, b2, b3, b4⟩, r4⟩ := hR.2
  have hR0 : RR n (um_wr X 0 8 0) (um_wr M 0 27 0) := by
    refine RR_nx hR (xa_wr (by omega)) (xa_wr (by omega)) (um_wr_ne (by omega)) (um_wr_ne (by omega)) (um_wr_an (by omega)) (um_wr_an (by omega)) ⟨?_, ?_⟩ ⟨0, by omega, um_wr_at _ _ _ _, um_wr_at _ _ _ _, fun j hj => by omega⟩ ?_
    · intro k hk
      rw [um_wr_nk (by omega), um_wr_nk (by omega), um_wr_nk (by omega), um_wr_nk (by omega)]
      exact r2 k hk
    · intro j hj
      rw [um_wr_nk (by omega), um_wr_nk (by omega)]
      exact r2b j hj
    · obtain ⟨z2, c1, c2, c3, c4⟩ := r4
      refine ⟨z2, c1, ?_, ?_, fun j hj => ?_⟩
      · rw [um_wr_nk (by omega)]; exact c2
      · rw [um_wr_an (by omega)]; exact c3
      · rw [um_wr_nk (by omega), um_wr_nk (by omega)]; exact c4 j hj
  have w7 : ∀ j, (um_wr X 0 8 0).1 7 j = X.1 7 j := fun j => um_wr_nk (by omega)
  have w15 : ∀ j, (um_wr M 0 27 0).1 15 j = M.1 15 j := fun j => um_wr_nk (by omega)
  unfold f_X8_check f_X9_check
  rw [b2, b3]
  refine sm_xl (sm_xl (sm_ml (sm_ml ?_)))
  obtain ⟨X0, hX0⟩ : ∃ Y, Y = um_wr X 0 8 0 := ⟨_, rfl⟩
  obtain ⟨M0, hM0⟩ : ∃ Y, Y = um_wr M 0 27 0 := ⟨_, rfl⟩
  rw [← hX0] at hR0 w7
  rw [← hM0] at hR0 w15
  rw [← hX0, ← hM0]
  clear hX0 hM0
  refine sm_chk (wi_ (by decide) (by decide)) (sm_ret ⟨rfl, hR0⟩) (fun hN => ?_)
  have h1 : (1 : Int32).toInt = 1 := by decide
  have h30 : (30 : Int32).toInt = 30 := by decide
  obtain ⟨N, hN2, eN⟩ := nI_ofT (a := a1) (u := 30) (by omega) (by omega)
  subst eN
  refine sm_if (by rw [hR0.2.1.1]) (fun _ => sm_ret ⟨rfl, hR0⟩) (fun h0 => ?_)
  rw [hR0.2.1.1] at h0
  have hs2 := hR0.2.1.2 h0
  obtain ⟨X1, q1, q2, q3, q4, q5, q6, q7, q8, q9, q10⟩ := becomeAs_ hh3 hh2 (by omega) X0
  obtain ⟨M1, p1, p2, p3, p4⟩ := aside_ (a := 1) (b := 3) (by omega) M0
  obtain ⟨M2, u1, u2, u3, u4⟩ := aside_ (a := 2) (b := 1) (by omega) M1
  have s3 : sr X1 3 (M2.1 1) (1999 + 0) n := sr_cp hh3 hh2 hs2 (fun k j h3 _ => q2 _ _ (by omega) (by omega) (by omega)) q3 q5 q6 q7 q8 q9 q10 (fun b hb => by rw [u4 b hb, p3 _ _ (by omega)])
  obtain ⟨out, M3, c1, c2, c3, c4⟩ := lo_check (v2 := nI z) (N := N) (z := z) (by omega) b1 N 0 um_N um_N X1 M2 s3 (by omega) (by unfold um_N; omega) (by unfold um_N; omega)
  obtain ⟨M4, v1, v2, v3, v4⟩ := aside_ (a := 3) (b := 1) (by omega) M3
  have e7 : ∀ j, X1.1 7 j = X.1 7 j := fun j => by rw [q2 _ _ (by omega) (by omega) (by omega), w7]
  have e15 : ∀ j, M4.1 15 j = M.1 15 j := fun j => by rw [v3 _ _ (by omega), c3 _ _ (by omega) (by omega) (by omega) (by omega), u3 _ _ (by omega), p3 _ _ (by omega), w15]
  have e16 : ∀ j, M4.1 16 j = M3.1 16 j := fun j => v3 _ _ (by omega)
  have hM4 : ∀ b, b < 3790 → M4.1 1 b = M0.1 1 b := fun b hb => by rw [v4 b hb, c3 _ _ (by omega) (by omega) (by omega) (by omega), u3 _ _ (by omega), p4 b hb]
  have hMo : ∀ a b, a ≠ 1 → a ≠ 3 → a ≠ 8 → a ≠ 9 → a ≠ 16 → M4.1 a b = M0.1 a b := fun a b h1 h3 h8 h9 h16 => by rw [v3 _ _ h1, c3 _ _ h1 h8 h9 (by omega), u3 _ _ h1, p3 _ _ h3]
  have fin : ∀ X2, xf 3 X1 X2 → RR n X2 M4 := by
    intro X2 hx
    have hk : ∀ k j, k ≠ 3 → ¬ (60 ≤ k ∧ k < 80) → ¬ (160 ≤ k ∧ k < 180) → ¬ (300 ≤ k ∧ k % 3 = 2) → X2.1 k j = X0.1 k j := fun k j h3 h4 h5 h6 => by rw [hx.1 k j h3 (by omega) (by omega) (by omega), q2 k j h3 (by omega) (by omega)]
    have h22 : X2.2.2 = X0.2.2 := by rw [hx.2, q3]
    have h21 : ∀ k, k ≠ 171 → X2.2.1 k = X0.2.1 k := fun k hk => by rw [hx.2, q4 k (by omega)]
    refine ⟨?_, ⟨?_, fun _ => ?_⟩, ?_⟩
    · exact sr_cp hh1 hh1 hR0.1 (fun k j h3 h4 => hk k j (by omega) (by omega) (by omega) (by omega)) h22 (fun t ht => ⟨hk _ _ (by omega) (by omega) (by omega) (by omega), fun j _ => hk _ _ (by omega) (by omega) (by omega) (by omega)⟩) (fun i _ => by rw [h21 _ (by omega)]) (hk _ _ (by omega) (by omega) (by omega) (by omega)) (hk _ _ (by omega) (by omega) (by omega) (by omega)) (hk _ _ (by omega) (by omega) (by omega) (by omega)) (hk _ _ (by omega) (by omega) (by omega) (by omega)) hM4
    · rw [hk _ _ (by omega) (by omega) (by omega) (by omega), hMo _ _ (by omega) (by omega) (by omega) (by omega) (by omega)]
      exact hR0.2.1.1
    · exact sr_cp hh2 hh2 hs2 (fun k j h3 h4 => hk k j (by omega) (by omega) (by omega) (by omega)) h22 (fun t ht => ⟨hk _ _ (by omega) (by omega) (by omega) (by omega), fun j _ => hk _ _ (by omega) (by omega) (by omega) (by omega)⟩) (fun i _ => by rw [h21 _ (by omega)]) (hk _ _ (by omega) (by omega) (by omega) (by omega)) (hk _ _ (by omega) (by omega) (by omega) (by omega)) (hk _ _ (by omega) (by omega) (by omega) (by omega)) (hk _ _ (by omega) (by omega) (by omega) (by omega)) (fun b _ => hMo _ _ (by omega) (by omega) (by omega) (by omega) (by omega))
    · exact r3_fr (X := X0) (M := M0) (fun k j hk2 => hk _ _ (by omega) (by omega) (by omega) (by omega)) (fun k j hk2 => hMo _ _ (by omega) (by omega) (by omega) (by omega) (by omega)) hR0.2.2
  refine sm_xb q1 (sm_mb p1 (sm_mb u1 (sm_mb c2 (sm_mb v1 ?_))))
  rw [show (0 : Int32) = nI 0 from rfl, c1]
  rcases c4 with ⟨kk, X2, f1, f2, f3, f4, f5, f6⟩ | ⟨f1, X2, f2, f3⟩
  · have hsame := lo_same (M := M4) (N := N) (z := z) (kk := kk) (by omega) b1 (by omega) (fun j hj => by
      obtain ⟨g1, g2⟩ := f3 j (by omega) hj
      refine ⟨g1, ?_⟩
      rw [e15, e16, ← g2, e7]
      exact (b4 j g1).symm) (Or.inr (fun y => f4 ⟨y.1, by rw [e7, b4 kk y.1, ← e15, ← e16]; exact y.2⟩)) kk 0 um_N (by omega) (by unfold um_N; omega)
    refine sm_mb hsame ?_
    rw [f5]
    change sm_S (some (nI (1 + kk), X2)) _ _
    have R1 := fin X2 f6
    rw [lm_2, lb_1]
    by_cases hkz : kk = z
    · refine sm_mt (by rw [hkz]) (sm_mf (fun y => ?_) (sm_ret ⟨rfl, R1⟩))
      have := (nI_eq (by omega) (by omega)).mp y
      omega
    · exact sm_mf (fun y => hkz ((nI_eq (by omega) (by omega)).mp y)) (sm_ret ⟨rfl, R1⟩)
  · have hsame := lo_same (M := M4) (N := N) (z := z) (kk := 2 * N) (by omega) b1 (Nat.le_refl _) (fun j hj => by
      obtain ⟨g1, g2⟩ := f1 j (by omega) hj
      refine ⟨g1, ?_⟩
      rw [e15, e16, ← g2, e7]
      exact (b4 j g1).symm) (Or.inl rfl) (2 * N) 0 um_N (by omega) (by unfold um_N; omega)
    refine sm_mb hsame ?_
    rw [f2]
    have R1 := fin X2 f3
    rw [lm_2, lb_1]
    change sm_S (if nI z = nI (2 * N) then some (nI 0, X2) else some (nI (1 + 2 * N), X2)) _ _
    by_cases hkz : z = 2 * N
    · exact sm_xt (by rw [hkz]) (sm_mt (by rw [hkz]) (sm_mt rfl (sm_ret ⟨rfl, R1⟩)))
    · refine sm_xf (fun y => hkz ((nI_eq (by omega) (by omega)).mp y)) (sm_mf (fun y => hkz ((nI_eq (by omega) (by omega)).mp y).symm) (sm_ret ⟨rfl, R1⟩))
