/-! LEVEL 2: images -/
section IMG
variable {X X' Y M M' : um_S} {h h0 h1 n W T : Nat} {s s' : Nat → Int32}
theorem tc_xl (hh : um_h h) : ∀ t, t < 11 → xl (20 * h + t) = tc t := by
  intro t ht
  have ht2 : t = 0 ∨ t = 1 ∨ t = 2 ∨ t = 3 ∨ t = 4 ∨ t = 5 ∨ t = 6 ∨ t = 7 ∨ t = 8 ∨ t = 9 ∨ t = 10 := by omega
  rcases ht2 with rfl | rfl | rfl | rfl | rfl | rfl | rfl | rfl | rfl | rfl | rfl <;> rcases hh with rfl | rfl | rfl <;> decide
theorem tc_lt : ∀ t, t < 11 → tc t ≤ 196 := by decide
/-- the first T tables are copied -/
def cpI (h0 h1 T : Nat) (X Y : um_S) : Prop := (∀ k j, ¬ (20 * h0 ≤ k ∧ k < 20 * h0 + T) → ¬ (20 * h0 + 100 ≤ k ∧ k < 20 * h0 + 100 + T) → Y.1 k j = X.1 k j) ∧ (∀ t, t < T → Y.1 (20 * h0 + t) 2 = X.1 (20 * h1 + t) 2 ∧ ∀ j, j < tc t → Y.1 (20 * h0 + t + 100) j = X.1 (20 * h1 + t + 100) j) ∧ Y.2 = X.2
theorem um_cp_at {σ : um_S} {k k2 n j : Nat} (h : j < n) : (um_cp σ k k2 n).1 k j = σ.1 k2 j := by simp [um_cp, h]
theorem um_cp_nk {σ : um_S} {k k2 n k3 j : Nat} (h : k3 ≠ k) : (um_cp σ k k2 n).1 k3 j = σ.1 k3 j := by rw [um_cp_ne h]
theorem cp_step (hh0 : um_h h0) (hh1 : um_h h1) (hne : h0 ≠ h1) (hT : T < 11) (hc : cpI h0 h1 T X Y) : ∃ Y', f_X5_becomeAs (20 * h0 + T) (20 * h1 + T) Y = some Y' ∧ cpI h0 h1 (T + 1) X Y' := by
  have a0 : 1 ≤ h0 ∧ h0 ≤ 3 := by rcases hh0 with z | z | z <;> omega
  have a1 : 1 ≤ h1 ∧ h1 ≤ 3 := by rcases hh1 with z | z | z <;> omega
  have hl := tc_lt T hT
  obtain ⟨c1, c2, c3⟩ := hc
  refine ⟨um_wr (um_cp Y (20 * h0 + T + 100) (20 * h1 + T + 100) (tc T)) (20 * h0 + T) 2 (Y.1 (20 * h1 + T) 2), ?_, ?_, ?_, ?_⟩
  · unfold f_X5_becomeAs um_let
    rw [tc_xl hh0 T hT, tc_xl hh1 T hT, if_neg (show ¬ nI (tc T) < nI (tc T) from nI_nlt (Nat.le_refl _) (by omega))]
    dsimp only
    rw [nI_clamp (by omega), um_cp_nk (by omega)]
    refine if_pos ?_
    unfold um_cpk
    rw [nI_clamp (by omega)]
    exact decide_eq_true ⟨nI_pos (by omega), Nat.le_refl _, Nat.le_refl _⟩
  · intro k j h2 h3
    rw [um_wr_nk (by omega), um_cp_nk (by omega)]
    exact c1 k j (by omega) (by omega)
  · intro t ht
    by_cases e : t = T
    · subst e
      refine ⟨?_, fun j hj => ?_⟩
      · rw [um_wr_at]
        exact c1 _ _ (by omega) (by omega)
      · rw [um_wr_nk (by omega), um_cp_at hj]
        exact c1 _ _ (by omega) (by omega)
    · obtain ⟨d1, d2⟩ := c2 t (by omega)
      refine ⟨?_, fun j hj => ?_⟩
      · rw [um_wr_nk (by omega), um_cp_nk (by omega)]; exact d1
      · rw [um_wr_nk (by omega), um_cp_nk (by omega)]; exact d2 j hj
  · exact c3
theorem lo_refs : ∀ (k j fx : Nat) (Y : um_S), j + k = 14 → k < fx → ∃ Y', f_X1_becomeAs_l2 h0 h1 fx (nI j) Y = some Y' ∧ Y'.1 = Y.1 ∧ Y'.2.2 = Y.2.2 ∧ (h0 ≠ h1 → (∀ kk, kk ≠ 20 * h0 + 111 → Y'.2.1 kk = Y.2.1 kk) ∧ (∀ i, j ≤ i → i < 14 → Y'.2.1 (20 * h0 + 111) i = Y.2.1 (20 * h1 + 111) i) ∧ ∀ i, i < j → Y'.2.1 (20 * h0 + 111) i = Y.2.1 (20 * h0 + 111) i) := by
  intro k
  induction k with
  | zero =>
    intro j fx Y hj hfx
    obtain ⟨fx, rfl⟩ : ∃ f, fx = f + 1 := ⟨fx - 1, by omega⟩
    rw [f_X1_becomeAs_l2]
    exact ⟨Y, if_pos (nI_le (by omega) (by omega)), rfl, rfl, fun _ => ⟨fun _ _ => rfl, fun i h1 h2 => by omega, fun _ _ => rfl⟩⟩
  | succ k ih =>
    intro j fx Y hj hfx
    obtain ⟨fx, rfl⟩ : ∃ f, fx = f + 1 := ⟨fx - 1, by omega⟩
    rw [f_X1_becomeAs_l2, if_neg (nI_ge (by omega) (by omega)), if_neg (nI_ge (by omega) (by omega)), if_pos (um_ix_nI (by omega) (by omega)), if_pos (um_ix_nI (by omega) (by omega)), nI_clamp (by omega), nI_1]
    obtain ⟨Y', e1, e2, e3, e4⟩ := ih (j + 1) fx (um_wt Y (20 * h0 + 111) j (Y.2.1 (20 * h1 + 111) j)) (by omega) (by omega)
    refine ⟨Y', e1, e2, e3, fun hne => ?_⟩
    obtain ⟨g1, g2, g3⟩ := e4 hne
    have hn : 20 * h1 + 111 ≠ 20 * h0 + 111 := by omega
    refine ⟨fun kk hk => ?_, fun i hi1 hi2 => ?_, fun i hi => ?_⟩
    · rw [g1 kk hk, um_wt_ne hk]
    · by_cases e : i = j
      · subst e
        rw [g3 i (by omega)]
        simp [um_wt]
      · rw [g2 i (by omega) hi2, um_wt_ne hn]
    · rw [g3 i (by omega)]
      simp [um_wt, show i ≠ j by omega]
/-- one shore becomes as another -/
theorem becomeAs_ (hh0 : um_h h0) (hh1 : um_h h1) (hne : h0 ≠ h1) (X : um_S) : ∃ X', f_X4_becomeAs h0 h1 X = some X' ∧ (∀ k j, k ≠ h0 → ¬ (20 * h0 ≤ k ∧ k < 20 * h0 + 20) → ¬ (20 * h0 + 100 ≤ k ∧ k < 20 * h0 + 120) → X'.1 k j = X.1 k j) ∧ X'.2.2 = X.2.2 ∧ (∀ k, k ≠ 20 * h0 + 111 → X'.2.1 k = X.2.1 k) ∧
    (∀ t, t < 11 → X'.1 (20 * h0 + t) 2 = X.1 (20 * h1 + t) 2 ∧ ∀ j, j < tc t → X'.1 (20 * h0 + t + 100) j = X.1 (20 * h1 + t + 100) j) ∧ (∀ i, i < 14 → X'.2.1 (20 * h0 + 111) i = X.2.1 (20 * h1 + 111) i) ∧ X'.1 (20 * h0 + 11) 1 = X.1 (20 * h1 + 11) 1 ∧ X'.1 h0 12 = X.1 h1 12 ∧ X'.1 h0 13 = X.1 h1 13 ∧ X'.1 h0 14 = X.1 h1 14 := by
  have a0 : 1 ≤ h0 ∧ h0 ≤ 3 := by rcases hh0 with z | z | z <;> omega
  have a1 : 1 ≤ h1 ∧ h1 ≤ 3 := by rcases hh1 with z | z | z <;> omega
  have c0 : cpI h0 h1 0 X X := ⟨fun _ _ _ _ => rfl, fun t ht => by omega, rfl⟩
  obtain ⟨Y1, q1, c1⟩ := cp_step hh0 hh1 hne (by omega) c0
  obtain ⟨Y2, q2, c2⟩ := cp_step hh0 hh1 hne (by omega) c1
  obtain ⟨Y3, q3, c3⟩ := cp_step hh0 hh1 hne (by omega) c2
  obtain ⟨Y4, q4, c4⟩ := cp_step hh0 hh1 hne (by omega) c3
  obtain ⟨Y5, q5, c5⟩ := cp_step hh0 hh1 hne (by omega) c4
  obtain ⟨Y6, q6, c6⟩ := cp_step hh0 hh1 hne (by omega) c5
  obtain ⟨Y7, q7, c7⟩ := cp_step hh0 hh1 hne (by omega) c6
  obtain ⟨Y8, q8, c8⟩ := cp_step hh0 hh1 hne (by omega) c7
  obtain ⟨Y9, q9, c9⟩ := cp_step hh0 hh1 hne (by omega) c8
  obtain ⟨Y10, q10, c10⟩ := cp_step hh0 hh1 hne (by omega) c9
  obtain ⟨Y11, q11, c11⟩ := cp_step hh0 hh1 hne (by omega) c10
  obtain ⟨Z, r1, r2, r3, r4⟩ := lo_refs (h0 := h0) (h1 := h1) 14 0 um_N Y11 (by omega) (by unfold um_N; omega)
  obtain ⟨r5, r6, r7⟩ := r4 hne
  obtain ⟨g1, g2, g3⟩ := c11
  refine ⟨um_wr (um_wr (um_wr (um_wr Z (20 * h0 + 11) 1 (X.1 (20 * h1 + 11) 1)) h0 12 (X.1 h1 12)) h0 13 (X.1 h1 13)) h0 14 (X.1 h1 14), ?_, ?_, ?_, ?_, ?_, ?_, ?_, ?_, ?_, ?_⟩
  · unfold f_X4_becomeAs
    rw [q1, Option.bind_some, q2, Option.bind_some, q3, Option.bind_some, q4, Option.bind_some, q5, Option.bind_some, q6, Option.bind_some, q7, Option.bind_some, q8, Option.bind_some, q9, Option.bind_some, q10, Option.bind_some, q11, Option.bind_some]
    unfold f_X1_becomeAs
    rw [show (0 : Int32) = nI 0 from rfl, r1, Option.bind_some]
    unfold um_let
    rw [Option.bind_some]
    have eZ : ∀ k j, Z.1 k j = Y11.1 k j := fun k j => by rw [r2]
    dsimp only
    have e1 : Y11.1 (20 * h1 + 11) 1 = X.1 (20 * h1 + 11) 1 := g1 _ _ (by omega) (by omega)
    have e2 : ∀ j, Y11.1 h1 j = X.1 h1 j := fun j => g1 _ _ (by omega) (by omega)
    simp (disch := omega) only [um_wr_nk, eZ, e1, e2]
  · intro k j k1 k2 k3
    rw [um_wr_nk k1, um_wr_nk k1, um_wr_nk k1, um_wr_nk (by omega), r2]
    exact g1 k j (by omega) (by omega)
  · change Z.2.2 = X.2.2
    rw [r3, g3]
  · intro k hk
    change Z.2.1 k = X.2.1 k
    rw [r5 k hk, g3]
  · intro t ht
    obtain ⟨d1, d2⟩ := g2 t ht
    refine ⟨?_, fun j hj => ?_⟩
    · rw [um_wr_nk (by omega), um_wr_nk (by omega), um_wr_nk (by omega), um_wr_nk (by omega), r2]; exact d1
    · rw [um_wr_nk (by omega), um_wr_nk (by omega), um_wr_nk (by omega), um_wr_nk (by omega), r2]; exact d2 j hj
  · intro i hi
    change Z.2.1 _ i = _
    rw [r6 i (by omega) hi, g3]
  · rw [um_wr_nk (by omega), um_wr_nk (by omega), um_wr_nk (by omega), um_wr_at]
  · rw [um_wr_an (by omega), um_wr_an (by omega), um_wr_at]
  · rw [um_wr_an (by omega), um_wr_at]
  · rw [um_wr_at]
theorem st_fr2 (ha : ∀ k j, 300 ≤ k → k % 3 ≠ 2 → X'.1 k j = X.1 k j) (h2 : X'.2.2 = X.2.2) (h3 : ∀ i, i < 14 → X'.2.1 (20 * h0 + 111) i = X.2.1 (20 * h1 + 111) i) (hs : ∀ b, 780 ≤ b → b < 3790 → s' b = s b) (h5 : s' 5 = s 5) (h14 : nn s 5 ≤ 14) (ht : sr_t X h1 s n) : sr_t X' h0 s' n := by
  intro i hi
  rw [nn_congr h5] at hi
  obtain ⟨q, b1, b2, b3, b4, kk, L, P, t1, t2, t3, ⟨w, c1, c2, c3⟩, t5, t6, t7, t8, t9, t10, t11, t12⟩ := ht i hi
  have e1 : X'.1 (q + 1) = X.1 (q + 1) := funext fun j => ha _ j (by omega) (by omega)
  refine ⟨q, by rw [h3 i (by omega)]; exact b1, b2, b3, b4, kk, L, P, t1, ?_, ?_, ⟨w, c1, ?_, ?_⟩, ?_, ?_, ?_, t8, ?_, t10, fun j hj => ?_, ?_⟩
  · rw [ha _ _ b2 (by omega)]; exact t2
  · rw [hs _ (by omega) (by omega)]; exact t3
  · rw [ha _ _ b2 (by omega)]; exact c2
  · rw [hs _ (by omega) (by omega)]; exact c3
  · rw [ha _ _ b2 (by omega), hs _ (by omega) (by omega)]; exact t5
  · rw [h2]; exact t6
  · rw [hs _ (by omega) (by omega)]; exact t7
  · rw [h2]; exact t9
  · rw [e1, hs _ (by omega) (by omega), hs _ (by omega) (by omega)]; exact t11 j hj
  · rw [e1]; exact t12
/-- a shore and a row, copied -/
theorem sr_cp (hh0 : um_h h0) (hh1 : um_h h1) (hs : sr X h1 s W n) (ha : ∀ k j, 300 ≤ k → k % 3 ≠ 2 → X'.1 k j = X.1 k j) (h2 : X'.2.2 = X.2.2)
    (b4 : ∀ t, t < 11 → X'.1 (20 * h0 + t) 2 = X.1 (20 * h1 + t) 2 ∧ ∀ j, j < tc t → X'.1 (20 * h0 + t + 100) j = X.1 (20 * h1 + t + 100) j) (b5 : ∀ i, i < 14 → X'.2.1 (20 * h0 + 111) i = X.2.1 (20 * h1 + 111) i) (b6 : X'.1 (20 * h0 + 11) 1 = X.1 (20 * h1 + 11) 1) (b7 : X'.1 h0 12 = X.1 h1 12) (b8 : X'.1 h0 13 = X.1 h1 13) (b9 : X'.1 h0 14 = X.1 h1 14) (hss : ∀ b, b < 3790 → s' b = s b) : sr X' h0 s' W n := by
  obtain ⟨⟨a1, a2, a3, a4, a5, a6, a7, a8⟩, hi, ht⟩ := hs
  have hn : ∀ b, b < 3790 → nn s' b = nn s b := fun b hb => nn_congr (hss b hb)
  have hm14 := (si_men hi).2
  have hl20 := (si_letters hi).2
  refine ⟨⟨?_, ?_, ?_, ?_, ?_, ?_, ?_, ?_⟩, ?_, st_fr2 ha h2 b5 (fun b _ hb => hss b hb) (hss 5 (by omega)) (si_texts hi).2 ht⟩
  · rw [b7, b8, b9, hss 0 (by omega), hss 9 (by omega), hss 10 (by omega)]; exact a1
  · intro t ht
    have := tk_lt t ht
    rw [(b4 t (by omega)).1, hss _ (by omega)]; exact a2 t ht
  · rw [b6, hss 5 (by omega)]; exact a3
  · intro t j ht h1 h7 hj
    have e : tl s' t = tl s t := by
      unfold tl
      split
      · rename_i z
        have := tk_lt t z
        rw [hn _ (by omega)]
      · rfl
    rw [e] at hj
    have := tl_le hi ht
    have := tb_ge t ht h7
    rw [(b4 t ht).2 j (by omega), hss _ (by omega)]; exact a4 t j ht h1 h7 hj
  · intro m c hm hc hc8
    rw [hn 2 (by omega)] at hm
    have := pc_lt hc
    rw [(b4 1 (by omega)).2 _ (by change _ < 196; omega), hss _ (by omega)]; exact a5 m c hm hc hc8
  · intro p hp
    rw [(b4 7 (by omega)).2 _ (by change _ < 12; omega), (b4 7 (by omega)).2 _ (by change _ < 12; omega), hss _ (by omega), hss _ (by omega)]; exact a6 p hp
  · intro j hj hj2
    rw [hn 2 (by omega)] at hj
    rw [(b4 1 (by omega)).2 j hj2]; exact a7 j hj hj2
  · intro j hj hj2
    rw [hn 8 (by omega)] at hj
    rw [(b4 4 (by omega)).2 j hj2]; exact a8 j hj hj2
  · obtain ⟨i1, i2, i3, i4, i5, i6, i7, i8, i9⟩ := hi
    refine ⟨?_, ?_, ?_, ?_, ?_, ?_, ?_, ?_, ?_⟩
    · rw [hn 0 (by omega), hss 0 (by omega)]; exact i1
    · rw [hn 9 (by omega), hss 9 (by omega)]; exact i2
    · intro t ht
      have := tk_lt t ht
      rw [hn _ (by omega), hss _ (by omega)]; exact i3 t ht
    · rw [hn 5 (by omega), hss 5 (by omega)]; exact i4
    · intro p hp
      rw [hss _ (by omega)]; exact i5 p hp
    · intro t k ht hk
      have := tk_lt t ht
      rw [hn _ (by omega)] at hk
      have hb := tb_ge t (by omega) (by omega)
      refine rp_mono ht (fun c hc => hss _ ?_) (by rw [hn 2 (by omega)]; omega) (by rw [hn 3 (by omega)]; omega) (fun m hm z => by rw [hss _ (by omega)]; exact z) (i6 t k ht hk)
      have := row_lt ⟨i1, i2, i3, i4, i5, i6, i7, i8, i9⟩ ht hk hc
      omega
    · intro j hj
      rw [hss _ (by omega)]; exact i7 j hj
    · intro j hj
      rw [hss _ (by omega)]; exact i8 j hj
    · intro j hj
      rw [hss _ (by omega)]; exact i9 j hj
theorem sr_s (hh : um_h h) (hs : sr X h s W n) (hss : ∀ b, b < 3790 → s' b = s b) : sr X h s' W n := sr_cp hh hh hs (fun _ _ _ _ => rfl) rfl (fun _ _ => ⟨rfl, fun _ _ => rfl⟩) (fun _ _ => rfl) rfl rfl rfl rfl hss
/-- a row is set aside -/
theorem lo_aside {a b : Nat} (hab : a ≠ b) : ∀ (k j fm : Nat) (M : um_S), j + k = 3790 → k < fm → ∃ M', f_X9_setAside_l2 a b fm (nI j) M = some M' ∧ M'.2 = M.2 ∧ (∀ kk i, kk ≠ b → M'.1 kk i = M.1 kk i) ∧ (∀ i, j ≤ i → i < 3790 → M'.1 b i = M.1 a i) ∧ ∀ i, i < j → M'.1 b i = M.1 b i := by
  intro k
  induction k with
  | zero =>
    intro j fm M hj hfm
    obtain ⟨fm, rfl⟩ : ∃ f, fm = f + 1 := ⟨fm - 1, by omega⟩
    rw [f_X9_setAside_l2]
    exact ⟨M, if_pos (nI_le (a := 3790) (by omega) (by omega)), rfl, fun _ _ _ => rfl, fun i h1 h2 => by omega, fun _ _ => rfl⟩
  | succ k ih =>
    intro j fm M hj hfm
    obtain ⟨fm, rfl⟩ : ∃ f, fm = f + 1 := ⟨fm - 1, by omega⟩
    rw [f_X9_setAside_l2, if_neg (show ¬ (3790 : Int32) ≤ nI j from nI_ge (b := 3790) (by omega) (by omega)), if_pos (um_ix_3 (by omega)), if_pos (um_ix_3 (by omega)), cl_3 (by omega), nI_1]
    obtain ⟨M', e1, e2, e3, e4, e5⟩ := ih (j + 1) fm (um_wr M b j (M.1 a j)) (by omega) (by omega)
    refine ⟨M', e1, e2, fun kk i hk => ?_, fun i h1 h2 => ?_, fun i hi => ?_⟩
    · rw [e3 kk i hk, um_wr_nk hk]
    · by_cases e : i = j
      · subst e
        rw [e5 i (by omega), um_wr_at]
      · rw [e4 i (by omega) h2, um_wr_nk hab]
    · rw [e5 i (by omega), um_wr_an (by omega)]
theorem aside_ {a b : Nat} (hab : a ≠ b) (M : um_S) : ∃ M', f_X9_setAside a b M = some M' ∧ M'.2 = M.2 ∧ (∀ kk i, kk ≠ b → M'.1 kk i = M.1 kk i) ∧ ∀ i, i < 3790 → M'.1 b i = M.1 a i := by
  obtain ⟨M', e1, e2, e3, e4, _⟩ := lo_aside hab 3790 0 um_N M (by omega) (by unfold um_N; omega)
  refine ⟨M', ?_, e2, e3, fun i hi => e4 i (by omega) hi⟩
  unfold f_X9_setAside
  rw [bind_sm]
  exact e1
end IMG
