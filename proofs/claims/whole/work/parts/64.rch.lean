/-! LEVEL 2: reach -/
/-- the same but for one array -/
def xo (k0 : Nat) (X0 X : um_S) : Prop := (∀ k j, k ≠ k0 → X.1 k j = X0.1 k j) ∧ X.2 = X0.2
def dx (k0 L : Nat) (X : um_S) (d : Nat → Nat) : Prop := ∀ j, j < 6 → X.1 k0 j = nI (d j) ∧ d j ≤ L
section REA
variable {X0 M0 X X' M M' : um_S} {n k p z f L k0 : Nat} {w : Nat → Nat → Nat} {d e : Nat → Nat} {v : Int32}
theorem xo_wr {i : Nat} (h : xo k0 X0 X) : xo k0 X0 (um_wr X k0 i v) := ⟨fun k j hk => by rw [um_wr_nk hk, h.1 k j hk], h.2⟩
theorem dx_r (hL : L < 2 ^ 30) (h : dx k0 L X d) {a b : Nat} (ha : a < 6) (hb : b < 6) (hx : 0 < w a b ∧ d a + w a b < d b) : dx k0 L (um_wr X k0 b (nI (d a + w a b))) (bf_r w a b d) := by
  intro j hj
  unfold bf_r
  rw [if_pos hx]
  have h1 := h j hj
  have h2 := h b hb
  by_cases e : j = b
  · subst e
    rw [um_wr_at, if_pos rfl]
    exact ⟨rfl, by omega⟩
  · rw [um_wr_an e, if_neg e]
    exact h1
theorem lx_row (hw : ∀ a b, a < 6 → b < 6 → X0.1 (20 * 1 + 8 + 100) (6 * a + b) = nI (w a b) ∧ w a b ≤ 99) {a : Nat} (ha : a < 6) : ∀ (i j f : Nat) (X : um_S) (d : Nat → Nat), j + i = 6 → i < f → xo 200 X0 X → dx 200 1000000 X d → ∃ X', f_X3_shorten_l10 (20 * 1 + 8) 200 (nI a) f (nI j) X = some X' ∧ xo 200 X0 X' ∧ dx 200 1000000 X' (bf_row w a i j d) := by
  intro i
  induction i with
  | zero =>
    intro j f X d hj hf h1 h2
    obtain ⟨f, rfl⟩ : ∃ g, f = g + 1 := ⟨f - 1, by omega⟩
    exact ⟨X, by rw [f_X3_shorten_l10, if_pos (nI_le (by omega) (by omega))], h1, h2⟩
  | succ i ih =>
    intro j f X d hj hf h1 h2
    obtain ⟨f, rfl⟩ : ∃ g, f = g + 1 := ⟨f - 1, by omega⟩
    obtain ⟨hwe, hwl⟩ := hw a j ha (by omega)
    rw [f_X3_shorten_l10, if_neg (nI_ge (by omega) (by omega)), g_8 (Or.inl rfl) ha (by omega), Option.bind_some, h1.1 _ _ (by omega), hwe, nI_1]
    rw [show bf_row w a (i + 1) j d = bf_row w a i (j + 1) (bf_r w a j d) from rfl]
    obtain ⟨ea, la⟩ := h2 a ha
    obtain ⟨ej, lj⟩ := h2 j (by omega)
    by_cases h0 : 0 < w a j
    · rw [if_neg (nI_nle h0 (by omega)), if_pos (um_ix_nI ha (by omega)), if_pos (um_ix_nI (by omega) (by omega)), nI_clamp (by omega), nI_clamp (by omega), ea, ej, nI_add]
      by_cases h3 : d a + w a j < d j
      · rw [if_neg (nI_ge h3 (by omega)), if_pos (um_ix_nI ha (by omega)), if_pos (um_ix_nI (by omega) (by omega))]
        exact ih (j + 1) f _ _ (by omega) (by omega) (xo_wr h1) (dx_r (by omega) h2 ha (by omega) ⟨h0, h3⟩)
      · rw [if_pos (nI_le (by omega) (by omega))]
        have e : bf_r w a j d = d := if_neg (fun z => h3 z.2)
        rw [e]
        exact ih (j + 1) f _ _ (by omega) (by omega) h1 h2
    · have e : bf_r w a j d = d := if_neg (fun z => h0 z.1)
      have e0 : nI (w a j) ≤ 0 := nI_le (b := 0) (by omega) (by omega)
      rw [if_pos e0, e]
      exact ih (j + 1) f _ _ (by omega) (by omega) h1 h2
theorem lx_rnd (hw : ∀ a b, a < 6 → b < 6 → X0.1 (20 * 1 + 8 + 100) (6 * a + b) = nI (w a b) ∧ w a b ≤ 99) : ∀ (i j f : Nat) (X : um_S) (d : Nat → Nat), j + i = 6 → i < f → xo 200 X0 X → dx 200 1000000 X d → ∃ X', f_X3_shorten_l2 (20 * 1 + 8) 200 f (nI j) X = some X' ∧ xo 200 X0 X' ∧ dx 200 1000000 X' (bf_rnd w i j d) := by
  intro i
  induction i with
  | zero =>
    intro j f X d hj hf h1 h2
    obtain ⟨f, rfl⟩ : ∃ g, f = g + 1 := ⟨f - 1, by omega⟩
    exact ⟨X, by rw [f_X3_shorten_l2, if_pos (nI_le (by omega) (by omega))], h1, h2⟩
  | succ i ih =>
    intro j f X d hj hf h1 h2
    obtain ⟨f, rfl⟩ : ∃ g, f = g + 1 := ⟨f - 1, by omega⟩
    obtain ⟨X1, e1, e2, e3⟩ := lx_row hw (a := j) (by omega) 6 0 um_N X d (by omega) (by unfold um_N; omega) h1 h2
    rw [f_X3_shorten_l2, if_neg (nI_ge (by omega) (by omega)), nI_1]
    rw [show f_X3_shorten_l10 (20 * 1 + 8) 200 (nI j) um_N (0 : Int32) X = some X1 from e1, Option.bind_some]
    exact ih (j + 1) f X1 _ (by omega) (by omega) e2 e3
theorem lx_go (hw : ∀ a b, a < 6 → b < 6 → X0.1 (20 * 1 + 8 + 100) (6 * a + b) = nI (w a b) ∧ w a b ≤ 99) {v : Int32} : ∀ (i j f : Nat) (X : um_S) (d : Nat → Nat), j + i = 6 → i < f → xo 200 X0 X → dx 200 1000000 X d → ∃ X', f_X3_reached_l40 (20 * 1 + 8) v f (nI j) X = some X' ∧ xo 200 X0 X' ∧ dx 200 1000000 X' (bf_go w i d) := by
  intro i
  induction i with
  | zero =>
    intro j f X d hj hf h1 h2
    obtain ⟨f, rfl⟩ : ∃ g, f = g + 1 := ⟨f - 1, by omega⟩
    have e : (6 : Int32) ≤ nI j := nI_le (a := 6) (by omega) (by omega)
    exact ⟨X, by rw [f_X3_reached_l40, if_pos e], h1, h2⟩
  | succ i ih =>
    intro j f X d hj hf h1 h2
    obtain ⟨f, rfl⟩ : ∃ g, f = g + 1 := ⟨f - 1, by omega⟩
    have e : ¬ (6 : Int32) ≤ nI j := nI_ge (b := 6) (by omega) (by omega)
    obtain ⟨X1, e1, e2, e3⟩ := lx_rnd hw 6 0 um_N X d (by omega) (by unfold um_N; omega) h1 h2
    rw [f_X3_reached_l40, if_neg e, nI_1]
    unfold f_X3_shorten
    rw [show f_X3_shorten_l2 (20 * 1 + 8) 200 um_N (0 : Int32) X = some X1 from e1, Option.bind_some, Option.bind_some]
    exact ih (j + 1) f X1 _ (by omega) (by omega) e2 e3
theorem lm_row (hw : ∀ a b, a < 6 → b < 6 → M0.1 1 (670 + 6 * a + b) = nI (w a b) ∧ w a b ≤ 99) {a : Nat} (ha : a < 6) {v2 v3 : Int32} : ∀ (i j f : Nat) (M : um_S) (d : Nat → Nat), j + i = 6 → i < f → xo 10 M0 M → dx 10 100000 M d → ∃ M', f_X9_reach_l75 v2 v3 (nI a) f (nI j) M = some M' ∧ xo 10 M0 M' ∧ dx 10 100000 M' (bf_row w a i j d) := by
  intro i
  induction i with
  | zero =>
    intro j f M d hj hf h1 h2
    obtain ⟨f, rfl⟩ : ∃ g, f = g + 1 := ⟨f - 1, by omega⟩
    have e : (6 : Int32) ≤ nI j := nI_le (a := 6) (by omega) (by omega)
    exact ⟨M, by rw [f_X9_reach_l75, if_pos e], h1, h2⟩
  | succ i ih =>
    intro j f M d hj hf h1 h2
    obtain ⟨f, rfl⟩ : ∃ g, f = g + 1 := ⟨f - 1, by omega⟩
    obtain ⟨hwe, hwl⟩ := hw a j ha (by omega)
    have e : ¬ (6 : Int32) ≤ nI j := nI_ge (b := 6) (by omega) (by omega)
    have hix : um_ix (nI j) 6 = true := um_ix_nI (by omega) (by omega)
    rw [f_X9_reach_l75, if_neg e, lm_6, lb_670, nI_add, if_pos (um_ix_nI (by omega) (by omega))]
    unfold um_let
    dsimp only
    rw [nI_clamp (by omega), nI_clamp (by omega), nI_clamp (by omega), h1.1 _ _ (by omega), hwe, nI_1, if_pos hix, if_pos hix, if_pos hix, if_pos (um_ix_nI ha (by omega))]
    rw [show bf_row w a (i + 1) j d = bf_row w a i (j + 1) (bf_r w a j d) from rfl]
    obtain ⟨ea, la⟩ := h2 a ha
    obtain ⟨ej, lj⟩ := h2 j (by omega)
    by_cases h0 : 0 < w a j
    · rw [if_neg (nI_nle h0 (by omega)), ea, ej, nI_add]
      unfold f_X9_least
      by_cases h3 : d a + w a j < d j
      · rw [if_pos (nI_le (by omega) (by omega)), Option.bind_some, if_pos hix]
        exact ih (j + 1) f _ _ (by omega) (by omega) (xo_wr h1) (dx_r (by omega) h2 ha (by omega) ⟨h0, h3⟩)
      · have e : bf_r w a j d = d := if_neg (fun z => h3 z.2)
        rw [e]
        have same : dx 10 100000 (um_wr M 10 j (nI (d j))) d := by
          intro t ht
          by_cases et : t = j
          · subst et
            rw [um_wr_at]
            exact ⟨rfl, lj⟩
          · rw [um_wr_an et]
            exact h2 t ht
        by_cases h4 : d a + w a j = d j
        · rw [h4, if_pos (nI_le (by omega) (by omega)), Option.bind_some, if_pos hix]
          exact ih (j + 1) f _ _ (by omega) (by omega) (xo_wr h1) same
        · rw [if_neg (nI_ge (by omega) (by omega)), Option.bind_some, if_pos hix]
          exact ih (j + 1) f _ _ (by omega) (by omega) (xo_wr h1) same
    · have e : bf_r w a j d = d := if_neg (fun z => h0 z.1)
      have e0 : nI (w a j) ≤ 0 := nI_le (b := 0) (by omega) (by omega)
      rw [if_pos e0, e, ej]
      refine ih (j + 1) f _ _ (by omega) (by omega) (xo_wr h1) ?_
      intro t ht
      by_cases et : t = j
      · subst et
        rw [um_wr_at]
        exact ⟨rfl, lj⟩
      · rw [um_wr_an et]
        exact h2 t ht
theorem lm_rnd (hw : ∀ a b, a < 6 → b < 6 → M0.1 1 (670 + 6 * a + b) = nI (w a b) ∧ w a b ≤ 99) {v2 v3 : Int32} : ∀ (i j f : Nat) (M : um_S) (d : Nat → Nat), j + i = 6 → i < f → xo 10 M0 M → dx 10 100000 M d → ∃ M', f_X9_reach_l65 v2 v3 f (nI j) M = some M' ∧ xo 10 M0 M' ∧ dx 10 100000 M' (bf_rnd w i j d) := by
  intro i
  induction i with
  | zero =>
    intro j f M d hj hf h1 h2
    obtain ⟨f, rfl⟩ : ∃ g, f = g + 1 := ⟨f - 1, by omega⟩
    have e : (6 : Int32) ≤ nI j := nI_le (a := 6) (by omega) (by omega)
    exact ⟨M, by rw [f_X9_reach_l65, if_pos e], h1, h2⟩
  | succ i ih =>
    intro j f M d hj hf h1 h2
    obtain ⟨f, rfl⟩ : ∃ g, f = g + 1 := ⟨f - 1, by omega⟩
    have e : ¬ (6 : Int32) ≤ nI j := nI_ge (b := 6) (by omega) (by omega)
    obtain ⟨M1, e1, e2, e3⟩ := lm_row hw (a := j) (by omega) (v2 := v2) (v3 := v3) 6 0 um_N M d (by omega) (by unfold um_N; omega) h1 h2
    rw [f_X9_reach_l65, if_neg e, nI_1]
    rw [show f_X9_reach_l75 v2 v3 (nI j) um_N (0 : Int32) M = some M1 from e1, Option.bind_some]
    exact ih (j + 1) f M1 _ (by omega) (by omega) e2 e3
theorem lm_go (hw : ∀ a b, a < 6 → b < 6 → M0.1 1 (670 + 6 * a + b) = nI (w a b) ∧ w a b ≤ 99) {v : Int32} : ∀ (i j f : Nat) (M : um_S) (d : Nat → Nat), j + i = 6 → i < f → xo 10 M0 M → dx 10 100000 M d → ∃ M', f_X9_reach_l56 v f (nI j) M = some M' ∧ xo 10 M0 M' ∧ dx 10 100000 M' (bf_go w i d) := by
  intro i
  induction i with
  | zero =>
    intro j f M d hj hf h1 h2
    obtain ⟨f, rfl⟩ : ∃ g, f = g + 1 := ⟨f - 1, by omega⟩
    have e : (6 : Int32) ≤ nI j := nI_le (a := 6) (by omega) (by omega)
    exact ⟨M, by rw [f_X9_reach_l56, if_pos e], h1, h2⟩
  | succ i ih =>
    intro j f M d hj hf h1 h2
    obtain ⟨f, rfl⟩ : ∃ g, f = g + 1 := ⟨f - 1, by omega⟩
    have e : ¬ (6 : Int32) ≤ nI j := nI_ge (b := 6) (by omega) (by omega)
    obtain ⟨M1, e1, e2, e3⟩ := lm_rnd hw (v2 := v) (v3 := nI j) 6 0 um_N M d (by omega) (by unfold um_N; omega) h1 h2
    rw [f_X9_reach_l56, if_neg e, nI_1]
    rw [show f_X9_reach_l65 v (nI j) um_N (0 : Int32) M = some M1 from e1, Option.bind_some]
    exact ih (j + 1) f M1 _ (by omega) (by omega) e2 e3
/-- far, or near and the same -/
def nr (K : Nat) (d e : Nat → Nat) : Prop := ∀ j, j < 6 → (d j = e j ∧ d j ≤ K) ∨ (d j = 1000000 ∧ e j = 100000)
theorem nr_r {K a b : Nat} (hw : ∀ a b, a < 6 → b < 6 → w a b ≤ 99) (h : nr K d e) (hK : K + 99 < 100000) (ha : a < 6) (hb : b < 6) : nr (K + 99) (bf_r w a b d) (bf_r w a b e) := by
  have h1 := h a ha
  have h2 := h b hb
  have h3 := hw a b ha hb
  unfold bf_r
  by_cases hx : 0 < w a b ∧ d a + w a b < d b
  · rw [if_pos hx, if_pos (by omega)]
    intro j hj
    have h4 := h j hj
    dsimp only
    by_cases ej : j = b
    · rw [if_pos ej, if_pos ej]
      omega
    · rw [if_neg ej, if_neg ej]
      omega
  · rw [if_neg hx, if_neg (by omega)]
    intro j hj
    have h4 := h j hj
    omega
theorem nr_row {a : Nat} (hw : ∀ a b, a < 6 → b < 6 → w a b ≤ 99) (ha : a < 6) : ∀ (i j K : Nat) (d e : Nat → Nat), j + i = 6 → nr K d e → K + 99 * i < 100000 → nr (K + 99 * i) (bf_row w a i j d) (bf_row w a i j e) := by
  intro i
  induction i with
  | zero => intro j K d e hj h hK; exact h
  | succ i ih =>
    intro j K d e hj h hK
    have := ih (j + 1) (K + 99) _ _ (by omega) (nr_r hw h (by omega) ha (by omega : j < 6)) (by omega)
    rw [show K + 99 * (i + 1) = K + 99 + 99 * i by omega]
    exact this
theorem nr_rnd (hw : ∀ a b, a < 6 → b < 6 → w a b ≤ 99) : ∀ (i j K : Nat) (d e : Nat → Nat), j + i = 6 → nr K d e → K + 594 * i < 100000 → nr (K + 594 * i) (bf_rnd w i j d) (bf_rnd w i j e) := by
  intro i
  induction i with
  | zero => intro j K d e hj h hK; exact h
  | succ i ih =>
    intro j K d e hj h hK
    have hj6 : j < 6 := by omega
    have hK6 : K + 99 * 6 < 100000 := Nat.lt_of_le_of_lt (Nat.add_le_add_left (by rw [Nat.mul_succ]; exact Nat.le_add_left _ _) K) hK
    have hr := nr_row hw hj6 6 0 K d e (by omega) h hK6
    rw [show K + 99 * 6 = K + 594 by omega] at hr
    have := ih (j + 1) (K + 594) _ _ (by omega) hr (by omega)
    rw [show K + 594 * (i + 1) = K + 594 + 594 * i by omega]
    exact this
theorem nr_go (hw : ∀ a b, a < 6 → b < 6 → w a b ≤ 99) : ∀ (i K : Nat) (d e : Nat → Nat), nr K d e → K + 3564 * i < 100000 → nr (K + 3564 * i) (bf_go w i d) (bf_go w i e) := by
  intro i
  induction i with
  | zero => intro K d e h hK; exact h
  | succ i ih =>
    intro K d e h hK
    have hK6 : K + 594 * 6 < 100000 := Nat.lt_of_le_of_lt (Nat.add_le_add_left (by rw [Nat.mul_succ]; exact Nat.le_add_left _ _) K) hK
    have hr := nr_rnd hw 6 0 K d e (by omega) h hK6
    rw [show K + 594 * 6 = K + 3564 by omega] at hr
    have := ih (K + 3564) _ _ hr (by omega)
    rw [show K + 3564 * (i + 1) = K + 3564 + 3564 * i by omega]
    exact this
/-- at first -/
theorem lx_ini {a : Nat} (ha : a < 6) {v : Int32} : ∀ (i j f : Nat) (X : um_S), j + i = 6 → i < f → xo 200 X0 X → (∀ t, t < j → X.1 200 t = nI (if t = a then 0 else 1000000)) → ∃ X', f_X3_reached_l8 (20 * 1 + 8) (nI a) v f (nI j) X = some X' ∧ xo 200 X0 X' ∧ dx 200 1000000 X' (fun t => if t = a then 0 else 1000000) := by
  intro i
  induction i with
  | zero =>
    intro j f X hj hf h1 h2
    obtain ⟨f, rfl⟩ : ∃ g, f = g + 1 := ⟨f - 1, by omega⟩
    refine ⟨X, by rw [f_X3_reached_l8, if_pos (nI_le (by omega) (by omega))], h1, fun t ht => ⟨h2 t (by omega), ?_⟩⟩
    dsimp only
    split <;> omega
  | succ i ih =>
    intro j f X hj hf h1 h2
    obtain ⟨f, rfl⟩ : ∃ g, f = g + 1 := ⟨f - 1, by omega⟩
    have hix : um_ix (nI j) 6 = true := um_ix_nI (by omega) (by omega)
    rw [f_X3_reached_l8, if_neg (nI_ge (by omega) (by omega)), nI_1, if_pos hix, if_pos hix, nI_clamp (by omega)]
    have nx : ∀ u : Int32, u = nI (if j = a then 0 else 1000000) → ∃ X', f_X3_reached_l8 (20 * 1 + 8) (nI a) v f (nI (j + 1)) (um_wr X 200 j u) = some X' ∧ xo 200 X0 X' ∧ dx 200 1000000 X' (fun t => if t = a then 0 else 1000000) := by
      intro u eu
      refine ih (j + 1) f _ (by omega) (by omega) (xo_wr h1) (fun t ht => ?_)
      by_cases et : t = j
      · subst et
        rw [um_wr_at, eu]
      · rw [um_wr_an et]
        exact h2 t (by omega)
    by_cases ej : j = a
    · rw [if_pos (by rw [ej])]
      exact nx 0 (by rw [if_pos ej]; rfl)
    · rw [if_neg (fun z => ej ((nI_eq (by omega) (by omega)).mp z))]
      exact nx 1000000 (by rw [if_neg ej]; rfl)
theorem lm_ini {a : Nat} (ha : a < 6) {v : Int32} : ∀ (i j f : Nat) (M : um_S), j + i = 6 → i < f → xo 10 M0 M → (∀ t, t < j → M.1 10 t = nI (if t = a then 0 else 100000)) → ∃ M', f_X9_reach_l24 (nI a) v f (nI j) M = some M' ∧ xo 10 M0 M' ∧ dx 10 100000 M' (fun t => if t = a then 0 else 100000) := by
  intro i
  induction i with
  | zero =>
    intro j f M hj hf h1 h2
    obtain ⟨f, rfl⟩ : ∃ g, f = g + 1 := ⟨f - 1, by omega⟩
    have e : (6 : Int32) ≤ nI j := nI_le (a := 6) (by omega) (by omega)
    refine ⟨M, by rw [f_X9_reach_l24, if_pos e], h1, fun t ht => ⟨h2 t (by omega), ?_⟩⟩
    dsimp only
    split <;> omega
  | succ i ih =>
    intro j f M hj hf h1 h2
    obtain ⟨f, rfl⟩ : ∃ g, f = g + 1 := ⟨f - 1, by omega⟩
    have e : ¬ (6 : Int32) ≤ nI j := nI_ge (b := 6) (by omega) (by omega)
    have hix : um_ix (nI j) 6 = true := um_ix_nI (by omega) (by omega)
    rw [f_X9_reach_l24, if_neg e, nI_1, if_pos hix, if_pos hix, nI_clamp (by omega)]
    have nx : ∀ u : Int32, u = nI (if j = a then 0 else 100000) → ∃ M', f_X9_reach_l24 (nI a) v f (nI (j + 1)) (um_wr M 10 j u) = some M' ∧ xo 10 M0 M' ∧ dx 10 100000 M' (fun t => if t = a then 0 else 100000) := by
      intro u eu
      refine ih (j + 1) f _ (by omega) (by omega) (xo_wr h1) (fun t ht => ?_)
      by_cases et : t = j
      · subst et
        rw [um_wr_at, eu]
      · rw [um_wr_an et]
        exact h2 t (by omega)
    by_cases ej : j = a
    · rw [if_pos (by rw [ej])]
      exact nx 0 (by rw [if_pos ej]; rfl)
    · rw [if_neg (fun z => ej ((nI_eq (by omega) (by omega)).mp z))]
      exact nx 100000 (by rw [if_neg ej]; rfl)
/-- the end -/
theorem lo_end {q K : Nat} (hq : q ≤ 99) (hd : dx 200 1000000 X d) (he : dx 10 100000 M e) (h : nr K d e) : ∀ (i j fx fm : Nat) (acc : Int32), j + i = 6 → i < fx → i < fm → sm_S (f_X3_reached_l64 (20 * 1 + 8) (nI (q * 7)) X fx acc (nI j)) (f_X9_reach_l166 (nI q) M fm acc (nI j)) (fun a b => a = b) := by
  intro i
  induction i with
  | zero =>
    intro j fx fm acc hj hfx hfm
    obtain ⟨fx, rfl⟩ : ∃ f, fx = f + 1 := ⟨fx - 1, by omega⟩
    obtain ⟨fm, rfl⟩ : ∃ f, fm = f + 1 := ⟨fm - 1, by omega⟩
    rw [f_X3_reached_l64, f_X9_reach_l166]
    have e : nI 6 ≤ nI j := nI_le (by omega) (by omega)
    exact sm_xt e (sm_mt e (sm_ret rfl))
  | succ i ih =>
    intro j fx fm acc hj hfx hfm
    obtain ⟨fx, rfl⟩ : ∃ f, fx = f + 1 := ⟨fx - 1, by omega⟩
    obtain ⟨fm, rfl⟩ : ∃ f, fm = f + 1 := ⟨fm - 1, by omega⟩
    have ih2 := fun a => ih (j + 1) fx fm a (by omega) (by omega) (by omega)
    rw [f_X3_reached_l64, f_X9_reach_l166]
    have e : ¬ nI 6 ≤ nI j := nI_ge (by omega) (by omega)
    have hix : um_ix (nI j) 6 = true := um_ix_nI (by omega) (by omega)
    refine sm_xf e (sm_mf e (sm_xt hix (sm_mt hix ?_)))
    obtain ⟨ed, ld⟩ := hd j (by omega)
    obtain ⟨ee, le⟩ := he j (by omega)
    have hn := h j (by omega)
    have e7 : (7 : Int32) * nI q = nI (q * 7) := (nI_mul 7 q).trans (by rw [Nat.mul_comm])
    rw [nI_clamp (by omega), ed, ee, nI_1, e7]
    have e0 : acc ||| (0 : Int32) = acc := by
      apply Int32.toBitVec_inj.mp
      rw [Int32.toBitVec_or]
      exact BitVec.or_zero
    rw [e0]
    refine sm_if ?_ (fun _ => sm_ml (ih2 _)) (fun _ => sm_xl (sm_ml (ih2 _)))
    rw [nI_ltI (by omega) (by omega), nI_ltI (by omega) (by omega)]
    omega
end REA
theorem sim_reachR : sim_reach RR := by
  intro n X M a1 a2 hR
  refine sm_out ?_
  have hi := hR.1.2.1
  have hc := hR.1.1
  unfold f_X8_reach f_X9_reach
  refine sm_chk pl_ (sm_ret ⟨rfl, hR⟩) (fun ⟨p, hp, ep⟩ => ?_)
  subst ep
  refine sm_chk (wi_0 (n := 99) (by decide) (by decide)) (sm_ret ⟨rfl, hR⟩) (fun ⟨q, hq, eq⟩ => ?_)
  subst eq
  have e7 : nI q * (7 : Int32) = nI (q * 7) := nI_mul q 7
  rw [e7]
  let w : Nat → Nat → Nat := fun a b => nn (M.1 1) (670 + (6 * a + b))
  have hwn : ∀ a b, a < 6 → b < 6 → M.1 1 (670 + (6 * a + b)) = nI (w a b) ∧ w a b ≤ 99 := by
    intro a b ha hb
    obtain ⟨v, hv, ev⟩ := si_path hi (6 * a + b) (by omega)
    have e : w a b = v := by
      change ((M.1 1) (670 + (6 * a + b))).toNatClampNeg = v
      rw [ev, nI_clamp (by omega)]
    rw [e]
    exact ⟨ev, hv⟩
  have hwm : ∀ a b, a < 6 → b < 6 → M.1 1 (670 + 6 * a + b) = nI (w a b) ∧ w a b ≤ 99 := fun a b ha hb => by
    rw [show 670 + 6 * a + b = 670 + (6 * a + b) by omega]; exact hwn a b ha hb
  have hwx : ∀ a b, a < 6 → b < 6 → (um_zr X 200).1 (20 * 1 + 8 + 100) (6 * a + b) = nI (w a b) ∧ w a b ≤ 99 := fun a b ha hb => by
    have e : (um_zr X 200).1 (20 * 1 + 8 + 100) (6 * a + b) = X.1 (20 * 1 + 8 + 100) (6 * a + b) := by
      unfold um_zr
      dsimp only
      rw [if_neg (by omega)]
    have e3 := x_plain hc (t := 8) (j := 6 * a + b) (by omega) (by omega) (by omega) (by change 6 * a + b < 36; omega)
    rw [e, e3]
    exact hwn a b ha hb
  obtain ⟨X1, x1, x2, x3⟩ := lx_ini (X0 := um_zr X 200) hp (v := nI (q * 7)) 6 0 um_N (um_zr X 200) (by omega) (by unfold um_N; omega) ⟨fun _ _ _ => rfl, rfl⟩ (fun t ht => absurd ht (by omega))
  obtain ⟨M1, m1, m2, m3⟩ := lm_ini (M0 := M) hp (v := nI q) 6 0 um_N M (by omega) (by unfold um_N; omega) ⟨fun _ _ _ => rfl, rfl⟩ (fun t ht => absurd ht (by omega))
  obtain ⟨X2, x4, x5, x6⟩ := lx_go hwx (v := nI (q * 7)) 5 1 um_N X1 _ (by omega) (by unfold um_N; omega) x2 x3
  obtain ⟨M2, m4, m5, m6⟩ := lm_go hwm (v := nI q) 6 0 um_N M1 _ (by omega) (by unfold um_N; omega) m2 m3
  rw [bf_six] at m6
  have hnr := nr_go (w := w) (fun a b ha hb => (hwn a b ha hb).2) 5 0 (fun t => if t = p then 0 else 1000000) (fun t => if t = p then 0 else 100000) (fun j hj => by
    dsimp only
    by_cases e : j = p
    · rw [if_pos e, if_pos e]; exact Or.inl ⟨rfl, Nat.le_refl _⟩
    · rw [if_neg e, if_neg e]; exact Or.inr ⟨rfl, rfl⟩) (by omega)
  obtain ⟨a, b, y1, y2, y3⟩ := lo_end hq x6 m6 hnr 6 0 um_N um_N (0 : Int32) (by omega) (by unfold um_N; omega) (by unfold um_N; omega)
  subst y3
  have ex : f_X3_reached (20 * 1 + 8) (nI p) (nI (q * 7)) (um_zr X 200) = some (a, X2) := by
    unfold f_X3_reached
    exact (congrArg (fun o => Option.bind o _) x1).trans ((congrArg (fun o => Option.bind o _) x4).trans ((congrArg (fun o => Option.bind o _) y1).trans rfl))
  refine sm_xb2 ex (sm_mb m1 (sm_mb m4 (sm_mb y2 (sm_ret ⟨rfl, ?_⟩))))
  have hx : ∀ k j, k ≠ 200 → X2.1 k j = X.1 k j := fun k j hk => (x5.1 k j hk).trans (if_neg hk)
  have xa_ : ∀ h, h = 1 ∨ h = 2 → xa h X X2 := fun h hh => ⟨fun k j hk => hx k j (by omega), x5.2⟩
  obtain ⟨r1, r2, r2b, ⟨y, b1, b2, b3, b4⟩, ⟨z, c1, c2, c3, c4⟩⟩ := hR.2
  refine RR_nx hR (xa_ 1 (Or.inl rfl)) (xa_ 2 (Or.inr rfl)) (funext fun j => m5.1 _ j (by omega)) (funext fun j => m5.1 _ j (by omega)) (hx _ _ (by omega)) (m5.1 _ _ (by omega)) ⟨fun k hk => ?_, fun j hj => ?_⟩ ⟨y, b1, ?_, ?_, fun j hj => ?_⟩ ⟨z, c1, ?_, ?_, fun j hj => ?_⟩
  · rw [hx _ _ (by omega), hx _ _ (by omega), m5.1 _ _ (by omega), m5.1 _ _ (by omega)]
    exact r2 k hk
  · rw [hx _ _ (by omega), m5.1 _ _ (by omega)]
    exact r2b j hj
  · rw [hx _ _ (by omega)]; exact b2
  · rw [m5.1 _ _ (by omega)]; exact b3
  · rw [hx _ _ (by omega), m5.1 _ _ (by omega)]; exact b4 j hj
  · rw [hx _ _ (by omega)]; exact c2
  · rw [m5.1 _ _ (by omega)]; exact c3
  · rw [hx _ _ (by omega), m5.1 _ _ (by omega)]; exact c4 j hj
