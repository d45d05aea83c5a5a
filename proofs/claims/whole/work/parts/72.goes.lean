/-! LEVEL 2: goes -/
/-- one place less with a master -/
def hd (h : Nat → Nat) (q : Nat) : Nat → Nat := fun x => if x = q then h q - 1 else h x
section GOE
variable {X X0 X' X2 M M0 M' M2 : um_S} {n N Q W u q m f v L : Nat} {s : Nat → Int32} {G h C : Nat → Nat} {op : Nat → Nat → Bool}
theorem lo_set (hk : kx s N Q op C) (e1 : M.1 1 = s) (hks : ks M N v) (hg : ∀ u, u < N → u < v → M.1 11 u = nI (G u) + (-1)) (hG : ∀ u, u < N → u < v → G u ≤ Q) (hq : q < 6) : ∀ (i j fu : Nat), j + i = N → i < fu → f_X9_settledTo_l4 (nI q) M fu (nI (cnp (fun u => decide (u < v) && decide (G u = q + 1)) j)) (nI j) = some (nI (st N v G q)) := by
  have hN := hk.1
  have hQ := hk.2.1
  have k2 := hk.2.2.1
  intro i
  induction i with
  | zero =>
    intro j fu hj hfu
    obtain ⟨fu, rfl⟩ : ∃ g, fu = g + 1 := ⟨fu - 1, by omega⟩
    rw [f_X9_settledTo_l4, e1, k2, if_pos (nI_le (by omega) (by omega)), show j = N by omega]
    rfl
  | succ i ih =>
    intro j fu hj hfu
    obtain ⟨fu, rfl⟩ : ∃ g, fu = g + 1 := ⟨fu - 1, by omega⟩
    have nx := ih (j + 1) fu (by omega) (by omega)
    have es : cnp (fun u => decide (u < v) && decide (G u = q + 1)) (j + 1) = cnp (fun u => decide (u < v) && decide (G u = q + 1)) j + (if (decide (j < v) && decide (G j = q + 1)) = true then 1 else 0) := rfl
    rw [f_X9_settledTo_l4, e1, k2, if_neg (nI_ge (by omega) (by omega)), if_pos (um_ix_nI (by omega) (by omega)), if_pos (um_ix_nI (by omega) (by omega)), nI_clamp (by omega), hks j (by omega)]
    unfold um_let
    try dsimp only
    rw [nI_1, nI_1, ad_0]
    by_cases hj : j < v
    · rw [if_pos hj, if_neg (by decide), hg j (by omega) hj]
      have hle := hG j (by omega) hj
      by_cases e : G j = q + 1
      · rw [decide_eq_true hj, decide_eq_true e, if_pos (by rfl)] at es
        rw [es] at nx
        rw [if_pos ((g_eq (by omega) (by omega)).mpr e)]
        exact nx
      · rw [decide_eq_false e, Bool.and_false, if_neg (by decide), Nat.add_zero] at es
        rw [es] at nx
        rw [if_neg (fun z => e ((g_eq (by omega) (by omega)).mp z))]
        exact nx
    · rw [if_neg hj, if_pos rfl]
      rw [decide_eq_false hj, Bool.false_and, if_neg (by decide), Nat.add_zero] at es
      rw [es] at nx
      exact nx
theorem m_settledTo (hk : kx s N Q op C) (e1 : M.1 1 = s) (hks : ks M N v) (hg : ∀ u, u < N → u < v → M.1 11 u = nI (G u) + (-1)) (hG : ∀ u, u < N → u < v → G u ≤ Q) (hq : q < 6) : f_X9_settledTo (nI q) M = some (nI (st N v G q)) := by
  unfold f_X9_settledTo
  have := lo_set hk e1 hks hg hG hq N 0 um_N (by omega) (by have := hk.1; unfold um_N; omega)
  exact (congrArg (fun o => Option.bind o _) this).trans rfl
/-- those before him are settled -/
def kw (M : um_S) (N v : Nat) (G : Nat → Nat) : Prop := (∀ u, u < N → u ≠ v → M.1 12 u = if u < v then 1 else 0) ∧ ∀ u, u < N → u < v → M.1 11 u = nI (G u) + (-1)
theorem st_gq (hv : v < N) {p : Nat} : st N (v + 1) (gq G v q) p = st N v G p + (if p = q then 1 else 0) := by
  have hcg : ∀ x, x ≠ v → (decide (x < v + 1) && decide (gq G v q x = p + 1)) = (decide (x < v) && decide (G x = p + 1)) := by
    intro x hx
    unfold gq
    rw [if_neg hx]
    by_cases e : x < v
    · rw [decide_eq_true e, decide_eq_true (show x < v + 1 by omega)]
    · rw [decide_eq_false e, decide_eq_false (show ¬ x < v + 1 by omega)]
  unfold st
  by_cases e : p = q
  · rw [if_pos e]
    refine cnp_add N (fun x _ hx => (hcg x hx).symm) hv ?_ ?_
    · rw [decide_eq_false (by omega), Bool.false_and]
    · unfold gq
      rw [if_pos rfl, e, decide_eq_true (show v < v + 1 by omega)]
      exact decide_eq_true rfl
  · rw [if_neg e, Nat.add_zero]
    refine cnp_congr N (fun x _ => ?_)
    by_cases hx : x = v
    · subst hx
      unfold gq
      rw [if_pos rfl, decide_eq_false (show ¬ x < x by omega), Bool.false_and, decide_eq_false (show ¬ q + 1 = p + 1 by omega), Bool.and_false]
    · exact hcg x hx
theorem sg_gq (hv : v < N) : sg N (v + 1) (gq G v q) = sg N v G + 1 := by
  unfold sg
  refine cnp_add N (fun x _ hx => ?_) hv ?_ ?_
  · unfold gq
    rw [if_neg hx]
    by_cases e : x < v
    · rw [decide_eq_true e, decide_eq_true (show x < v + 1 by omega)]
    · rw [decide_eq_false e, decide_eq_false (show ¬ x < v + 1 by omega)]
  · rw [decide_eq_false (by omega), Bool.false_and]
  · unfold gq
    rw [if_pos rfl, decide_eq_true (show v < v + 1 by omega), Bool.true_and]
    exact decide_eq_true (by omega)
theorem st_g0 {p : Nat} : st N (v + 1) (g0 G v) p = st N v G p := by
  unfold st
  refine cnp_congr N (fun x _ => ?_)
  unfold g0
  by_cases hx : x = v
  · subst hx
    rw [if_pos rfl, decide_eq_false (show ¬ x < x by omega), Bool.false_and, decide_eq_false (show ¬ 0 = p + 1 by omega), Bool.and_false]
  · rw [if_neg hx]
    by_cases e : x < v
    · rw [decide_eq_true e, decide_eq_true (show x < v + 1 by omega)]
    · rw [decide_eq_false e, decide_eq_false (show ¬ x < v + 1 by omega)]
theorem sg_g0 : sg N (v + 1) (g0 G v) = sg N v G := by
  unfold sg
  refine cnp_congr N (fun x _ => ?_)
  unfold g0
  by_cases hx : x = v
  · subst hx
    rw [if_pos rfl, decide_eq_false (show ¬ x < x by omega), Bool.false_and, decide_eq_false (show ¬ (0 : Nat) ≠ 0 by omega), Bool.and_false]
  · rw [if_neg hx]
    by_cases e : x < v
    · rw [decide_eq_true e, decide_eq_true (show x < v + 1 by omega)]
    · rw [decide_eq_false e, decide_eq_false (show ¬ x < v + 1 by omega)]
/-- what is so when one is settled -/
def tK (X0 M0 : um_S) (N Q v : Nat) (op : Nat → Nat → Bool) (G h : Nat → Nat) (L : Nat) (out : (Int32 × um_S) ⊕ um_S) (M' : um_S) : Prop :=
  ke M0 M' ∧ ((∃ X', out = .inr X' ∧ xk X0 X' ∧ ky X' N Q op h ∧ ks M' N (v + 1) ∧ ∀ u, u < N → u < v + 1 → M'.1 11 u = nI (g0 G v u) + (-1)) ∨ ∃ q X', q < Q ∧ 0 < h q ∧ 0 < L ∧ out = .inl (nI q, X') ∧ xk X0 X' ∧ ky X' N Q op (hd h q) ∧ ks M' N (v + 1) ∧ ∀ u, u < N → u < v + 1 → M'.1 11 u = nI (gq G v q u) + (-1))
theorem l22_done {v1 v2 : Int32} {fu j : Nat} : f_X9_assignAll_l22 v1 v2 (fu + 1) (1 : Int32) (nI j) M = some M := by
  rw [f_X9_assignAll_l22]
  split
  · rfl
  · rw [if_neg (by decide)]
theorem x_tk {fx j : Nat} (hN : N ≤ 14) (hQ : Q ≤ 6) (hvN : v < N) (hjQ : j < Q) (y1 : X.1 5 2 = nI N) (y2 : X.1 5 3 = nI Q) (y3 : ∀ q, q < Q → X.1 12 q = nI (h q) ∧ h q ≤ 9) (y4 : ∀ u, u < N → X.1 11 u = nI (om (op u) Q)) : f_X0_take_l18 (nI v) (nI L) (fx + 1) (nI j) X = if op v j = true then (if h j = 0 then f_X0_take_l18 (nI v) (nI L) fx (nI (j + 1)) X else
        ((f_X0_greatest (nI (v + 1)) (um_wr X 12 j (nI (h j) - 1))).bind fun x8 => if x8 + 1 = nI L then some (.inl (nI j, um_wr X 12 j (nI (h j) - 1))) else f_X0_take_l18 (nI v) (nI L) fx (nI (j + 1)) (um_wr (um_wr X 12 j (nI (h j) - 1)) 12 j (nI (h j) - 1 + 1)))) else f_X0_take_l18 (nI v) (nI L) fx (nI (j + 1)) X := by
  have hix : um_ix (nI v) 14 = true := um_ix_nI (by omega) (by omega)
  have hcl : (nI v).toNatClampNeg = v := nI_clamp (by omega)
  have hjx : um_ix (nI j) 6 = true := um_ix_nI (by omega) (by omega)
  have hjc : (nI j).toNatClampNeg = j := nI_clamp (by omega)
  have eb : nI (om (op v) Q / 2 ^ j % 2) = 1 ↔ op v j = true := by
    refine Iff.trans (nI_eq (b := 1) (by omega) (by omega)) ?_
    rw [← decide_eq_true_iff (p := om (op v) Q / 2 ^ j % 2 = 1), ← tb_, om_bit, decide_eq_true hjQ, Bool.true_and]
  have hol : om (op v) Q < 2 ^ 20 := Nat.lt_of_lt_of_le (om_lt _ Q) (Nat.pow_le_pow_right (by omega) (by omega))
  rw [f_X0_take_l18, y2, if_neg (nI_ge (by omega) (by omega)), if_neg (nI_ge (by omega) (by omega)), if_pos hix, hcl, y4 v hvN, shr_ (by omega) (by omega), and_1, hjc, (y3 j hjQ).1, nI_1, nI_1]
  unfold um_let
  try dsimp only
  simp only [hjx, if_true, um_wr_at]
  by_cases ho : op v j = true
  · rw [if_pos (eb.mpr ho), if_pos ho]
    by_cases h0 : h j = 0
    · rw [if_pos h0, if_pos (by rw [h0]; decide)]
    · rw [if_neg h0, if_neg (nI_nle (by omega) (by have := (y3 j hjQ).2; omega))]
  · rw [if_neg (fun z => ho (eb.mp z)), if_neg ho]
theorem m_tk {fm j r : Nat} (hk : kx s N Q op C) (hvN : v < N) (hjQ : j < Q) (hG : ∀ u, u < N → u < v → G u ≤ Q) (hhj : h j + st N v G j = C j) (eM : M.1 1 3 = nI Q) (r7 : (um_wr (um_wr M 11 v (-1)) 12 v ((0 : Int32) &&& 1)).1 1 = s) (ks7 : ks (um_wr (um_wr M 11 v (-1)) 12 v ((0 : Int32) &&& 1)) N v) (g7 : ∀ u, u < N → u < v → (um_wr (um_wr M 11 v (-1)) 12 v ((0 : Int32) &&& 1)).1 11 u = nI (G u) + (-1)) (r1 : f_X9_assignedTo (nI j) (um_wr (um_wr M 11 v (-1)) 12 v ((0 : Int32) &&& 1)) = some (nI r)) (r2 : ∀ x : Nat, x ≤ 14 → ((s (250 + 4 * j + 2) - nI r) ≤ nI x ↔ C j ≤ x)) : f_X9_assignAll_l22 (nI (sg N v G + L)) (nI v) (fm + 1 + 1) (0 : Int32) (nI j) M = if op v j = true then (if h j = 0 then f_X9_assignAll_l22 (nI (sg N v G + L)) (nI v) (fm + 1) (0 : Int32) (nI (j + 1)) (um_wr (um_wr M 11 v (-1)) 12 v ((0 : Int32) &&& 1)) else
        (um_b2 (f_X9_fill (um_wr (um_wr (um_wr (um_wr M 11 v (-1)) 12 v ((0 : Int32) &&& 1)) 11 v (nI j)) 12 v ((1 : Int32) &&& 1))) fun x20 σ19 => if x20 = nI (sg N v G + L) then f_X9_assignAll_l22 (nI (sg N v G + L)) (nI v) (fm + 1) (1 : Int32) (nI (j + 1)) σ19 else f_X9_assignAll_l22 (nI (sg N v G + L)) (nI v) (fm + 1) (0 : Int32) (nI (j + 1)) σ19)) else f_X9_assignAll_l22 (nI (sg N v G + L)) (nI v) (fm + 1) (0 : Int32) (nI (j + 1)) (um_wr (um_wr M 11 v (-1)) 12 v ((0 : Int32) &&& 1)) := by
  have hN := hk.1
  have hQ := hk.2.1
  have kc := hk.2.2.2.2.1
  have hix : um_ix (nI v) 14 = true := um_ix_nI (by omega) (by omega)
  have hcl : (nI v).toNatClampNeg = v := nI_clamp (by omega)
  have hst : st N v G j ≤ 14 := Nat.le_trans (cnp_le _ N) hN
  have hne : ¬ nI j = nI Q := fun z => by
    have := (nI_eq (by omega) (by omega)).mp z
    omega
  rw [f_X9_assignAll_l22, eM, if_neg (nI_nlt (by omega) (by omega)), if_pos rfl]
  unfold um_let
  try dsimp only
  rw [if_neg hne, hcl, if_pos hix]
  simp only [hix, if_true, nI_1]
  rw [kc _ v j r7 hvN hjQ, Option.bind_some, m_settledTo hk r7 ks7 g7 hG (by omega), m_masterAt, r1]
  simp (disch := omega) only [Option.bind_some, la_2, um_ix_3, cl_3, if_true]
  rw [r7]
  have hcap : (s (250 + 4 * j + 2) - nI r ≤ nI (st N v G j)) ↔ h j = 0 := by
    rw [r2 _ hst]
    omega
  cases ho : op v j with
  | false =>
    have hft : ¬ (false = true) := by decide
    rw [show um_b false = 0 from rfl, if_pos rfl, if_neg hft]
  | true =>
    rw [if_neg (by decide), if_pos rfl]
    by_cases h0 : h j = 0
    · rw [if_pos h0, if_pos (hcap.mpr h0)]
    · rw [if_neg h0, if_neg (fun z => h0 (hcap.mp z))]
theorem lo_tk (hk : kx s N Q op C) (e1 : M0.1 1 = s) (hvN : v < N) (hL : L ≤ 100) (hG : ∀ u, u < N → u < v → G u ≤ Q) (hh : ∀ q, q < Q → h q + st N v G q = C q) : ∀ (i j fx fm : Nat) (X M : um_S), j + i = Q → i < fx → i + 1 < fm → xk X0 X → ky X N Q op h → ke M0 M → kw M N v G → ∃ out M', f_X0_take_l18 (nI v) (nI L) fx (nI j) X = some out ∧ f_X9_assignAll_l22 (nI (sg N v G + L)) (nI v) fm (0 : Int32) (nI j) M = some M' ∧ tK X0 M0 N Q v op G h L out M' := by
  have hN := hk.1
  have hQ := hk.2.1
  have k3 := hk.2.2.2.1
  have kc := hk.2.2.2.2.1
  have ka := hk.2.2.2.2.2
  have hix : um_ix (nI v) 14 = true := um_ix_nI (by omega) (by omega)
  have hcl : (nI v).toNatClampNeg = v := nI_clamp (by omega)
  have hS : sg N v G ≤ 14 := Nat.le_trans (cnp_le _ N) hN
  intro i
  induction i with
  | zero =>
    intro j fx fm X M hj hfx hfm x1 x2 m1 m2
    obtain ⟨fx, rfl⟩ : ∃ g, fx = g + 1 := ⟨fx - 1, by omega⟩
    obtain ⟨fm, rfl⟩ : ∃ g, fm = g + 1 + 1 := ⟨fm - 2, by omega⟩
    have eM : M.1 1 3 = nI Q := by rw [m1 1 3 (by omega) (by omega) (by omega), e1, k3]
    obtain rfl : j = Q := by omega
    have ex : f_X0_take_l18 (nI v) (nI L) (fx + 1) (nI j) X = some (.inr X) := by
      rw [f_X0_take_l18, x2.2.1, if_pos (nI_le (by omega) (by omega))]
    have em : f_X9_assignAll_l22 (nI (sg N v G + L)) (nI v) (fm + 1 + 1) (0 : Int32) (nI j) M = some (um_wr (um_wr (um_wr (um_wr M 11 v (-1)) 12 v ((0 : Int32) &&& 1)) 11 v (-1)) 12 v ((1 : Int32) &&& 1)) := by
      rw [f_X9_assignAll_l22, eM, if_neg (nI_nlt (by omega) (by omega)), if_pos rfl]
      unfold um_let
      try dsimp only
      have h10 : ((1 : Int32) = 0) = False := eq_false (by decide)
      rw [if_pos rfl, hcl]
      simp only [hix, if_true, h10, if_false, nI_1, l22_done]
    refine ⟨_, _, ex, em, ke_wr (Or.inr (Or.inl rfl)) (ke_wr (Or.inl rfl) (ke_wr (Or.inr (Or.inl rfl)) (ke_wr (Or.inl rfl) m1))), Or.inl ⟨X, rfl, x1, x2, fun u hu => ?_, fun u hu huv => ?_⟩⟩
    · by_cases e : u = v
      · subst e
        rw [um_wr_at, if_pos (by omega)]
        rfl
      · rw [um_wr_an e, um_wr_nk (by omega), um_wr_an e, um_wr_nk (by omega), m2.1 u hu e]
        by_cases z : u < v
        · rw [if_pos z, if_pos (by omega)]
        · rw [if_neg z, if_neg (by omega)]
    · rw [um_wr_nk (by omega)]
      unfold g0
      by_cases e : u = v
      · subst e
        rw [um_wr_at, if_pos rfl]
        decide
      · rw [um_wr_an e, um_wr_nk (by omega), um_wr_an e, if_neg e]
        exact m2.2 u hu (by omega)
  | succ i ih =>
    intro j fx fm X M hj hfx hfm x1 x2 m1 m2
    obtain ⟨fx, rfl⟩ : ∃ g, fx = g + 1 := ⟨fx - 1, by omega⟩
    obtain ⟨fm, rfl⟩ : ∃ g, fm = g + 1 + 1 := ⟨fm - 2, by omega⟩
    have hjQ : j < Q := by omega
    have eM : M.1 1 3 = nI Q := by rw [m1 1 3 (by omega) (by omega) (by omega), e1, k3]
    obtain ⟨y1, y2, y3, y4⟩ := x2
    have hjx : um_ix (nI j) 6 = true := um_ix_nI (by omega) (by omega)
    have hjc : (nI j).toNatClampNeg = j := nI_clamp (by omega)
    -- the state in which it is tried
    have m7 : ke M0 (um_wr (um_wr M 11 v (-1)) 12 v ((0 : Int32) &&& 1)) := ke_wr (Or.inr (Or.inl rfl)) (ke_wr (Or.inl rfl) m1)
    have r7 : (um_wr (um_wr M 11 v (-1)) 12 v ((0 : Int32) &&& 1)).1 1 = s := (ke_row m7).trans e1
    have ks7 : ks (um_wr (um_wr M 11 v (-1)) 12 v ((0 : Int32) &&& 1)) N v := by
      intro u hu
      by_cases e : u = v
      · subst e
        rw [um_wr_at, if_neg (by omega)]
        rfl
      · rw [um_wr_an e, um_wr_nk (by omega)]
        exact m2.1 u hu e
    have g7 : ∀ u, u < N → u < v → (um_wr (um_wr M 11 v (-1)) 12 v ((0 : Int32) &&& 1)).1 11 u = nI (G u) + (-1) := by
      intro u hu huv
      rw [um_wr_nk (by omega), um_wr_an (by omega)]
      exact m2.2 u hu huv
    have w7 : kw (um_wr (um_wr M 11 v (-1)) 12 v ((0 : Int32) &&& 1)) N v G := ⟨fun u hu _ => ks7 u hu, g7⟩
    obtain ⟨r, r1, r2⟩ := ka _ j r7 hjQ
    have hst : st N v G j ≤ 14 := Nat.le_trans (cnp_le _ N) hN
    have hhj := hh j hjQ
    have eb : nI (om (op v) Q / 2 ^ j % 2) = 1 ↔ op v j = true := by
      refine Iff.trans (nI_eq (b := 1) (by omega) (by omega)) ?_
      rw [← decide_eq_true_iff (p := om (op v) Q / 2 ^ j % 2 = 1), ← tb_, om_bit, decide_eq_true hjQ, Bool.true_and]
    have hol : om (op v) Q < 2 ^ 20 := Nat.lt_of_lt_of_le (om_lt _ Q) (Nat.pow_le_pow_right (by omega) (by omega))
    have xstep := x_tk (fx := fx) (L := L) hN hQ hvN hjQ y1 y2 y3 y4
    have mstep := m_tk (fm := fm) (L := L) hk hvN hjQ hG hhj eM r7 ks7 g7 r1 r2
    have cont : ∃ out M', f_X0_take_l18 (nI v) (nI L) fx (nI (j + 1)) X = some out ∧ f_X9_assignAll_l22 (nI (sg N v G + L)) (nI v) (fm + 1) (0 : Int32) (nI (j + 1)) (um_wr (um_wr M 11 v (-1)) 12 v ((0 : Int32) &&& 1)) = some M' ∧ tK X0 M0 N Q v op G h L out M' :=
      ih (j + 1) fx (fm + 1) X _ (by omega) (by omega) (by omega) x1 ⟨y1, y2, y3, y4⟩ m7 w7
    rw [xstep, mstep]
    by_cases ho : op v j = true
    · rw [if_pos ho, if_pos ho]
      by_cases h0 : h j = 0
      · rw [if_pos h0, if_pos h0]
        exact cont
      · rw [if_neg h0, if_neg h0]
        have hhe : ∀ q, q < Q → hd h j q + st N (v + 1) (gq G v j) q = C q := by
          intro q hq
          have h1 := hh q hq
          rw [st_gq hvN]
          unfold hd
          by_cases e : q = j
          · subst e
            rw [if_pos rfl, if_pos rfl]
            omega
          · rw [if_neg e, if_neg e]
            omega
        have h9 := (y3 j hjQ).2
        have esub : nI (h j) - 1 = nI (h j - 1) := nI_sub (b := 1) (by omega)
        have m16 : ke M0 (um_wr (um_wr (um_wr (um_wr M 11 v (-1)) 12 v ((0 : Int32) &&& 1)) 11 v (nI j)) 12 v ((1 : Int32) &&& 1)) := ke_wr (Or.inr (Or.inl rfl)) (ke_wr (Or.inl rfl) m7)
        have ks16 : ks (um_wr (um_wr (um_wr (um_wr M 11 v (-1)) 12 v ((0 : Int32) &&& 1)) 11 v (nI j)) 12 v ((1 : Int32) &&& 1)) N (v + 1) := by
          intro u hu
          by_cases e : u = v
          · subst e
            rw [um_wr_at, if_pos (by omega)]
            rfl
          · rw [um_wr_an e, um_wr_nk (by omega), ks7 u hu]
            by_cases z : u < v
            · rw [if_pos z, if_pos (by omega)]
            · rw [if_neg z, if_neg (by omega)]
        have g16 : ∀ u, u < N → u < v + 1 → (um_wr (um_wr (um_wr (um_wr M 11 v (-1)) 12 v ((0 : Int32) &&& 1)) 11 v (nI j)) 12 v ((1 : Int32) &&& 1)).1 11 u = nI (gq G v j u) + (-1) := by
          intro u hu huv
          rw [um_wr_nk (by omega)]
          unfold gq
          by_cases e : u = v
          · subst e
            rw [um_wr_at, if_pos rfl, nI_am]
          · rw [um_wr_an e, if_neg e]
            exact g7 u hu (by omega)
        obtain ⟨V, M19, G19, b1, b2, b3, b4, b5⟩ := m_fill (h := hd h j) (G := gq G v j) hk ((ke_row m16).trans e1) ks16 g16 (fun u hu huv => by
          unfold gq
          by_cases e : u = v
          · rw [if_pos e]; omega
          · rw [if_neg e]; exact hG u hu (by omega)) hhe
        have ky5 : ky (um_wr X 12 j (nI (h j) - 1)) N Q op (hd h j) := by
          refine ⟨by rw [um_wr_nk (by omega)]; exact y1, by rw [um_wr_nk (by omega)]; exact y2, fun q hq => ?_, fun u hu => by rw [um_wr_nk (by omega)]; exact y4 u hu⟩
          unfold hd
          by_cases e : q = j
          · subst e
            rw [um_wr_at, if_pos rfl, esub]
            exact ⟨rfl, by omega⟩
          · rw [um_wr_an e, if_neg e]
            exact y3 q hq
        have hV : V ≤ 100 := Nat.le_trans (b2.1 (fun _ => false)) (ps_le hQ hN (fun q hq => (ky5.2.2.1 q hq).2))
        rw [x_greatest hQ hN ky5 (by omega) b2, b1, Option.bind_some, um_b2_some, nI_1, sg_gq hvN]
        have e19 : ke M0 M19 := ke_kf m16 b3
        have ks19 : ks M19 N (v + 1) := fun u hu => by rw [b3 12 u (by omega) (by omega)]; exact ks16 u hu
        have g19 : ∀ u, u < N → u < v + 1 → M19.1 11 u = nI (gq G v j u) + (-1) := fun u hu huv => by rw [b4 u hu, b5 u huv]
        by_cases hVL : V + 1 = L
        · rw [if_pos (by rw [hVL]), if_pos (by rw [show sg N v G + 1 + V = sg N v G + L by omega]), l22_done]
          exact ⟨_, _, rfl, rfl, e19, Or.inr ⟨j, _, hjQ, by omega, by omega, rfl, xk_wr (Or.inr (Or.inr rfl)) x1, ky5, ks19, g19⟩⟩
        · rw [if_neg (fun z => hVL ((nI_eq (by omega) (by omega)).mp z)), if_neg (fun z => hVL (by
            have := (nI_eq (by omega) (by omega)).mp z
            omega))]
          refine ih (j + 1) fx (fm + 1) _ _ (by omega) (by omega) (by omega) (xk_wr (Or.inr (Or.inr rfl)) (xk_wr (Or.inr (Or.inr rfl)) x1)) ?_ e19 ⟨fun u hu hne => ?_, fun u hu huv => ?_⟩
          · refine ⟨by rw [um_wr_nk (by omega), um_wr_nk (by omega)]; exact y1, by rw [um_wr_nk (by omega), um_wr_nk (by omega)]; exact y2, fun q hq => ?_, fun u hu => by rw [um_wr_nk (by omega), um_wr_nk (by omega)]; exact y4 u hu⟩
            by_cases e : q = j
            · subst e
              rw [um_wr_at, esub, nI_1, show h q - 1 + 1 = h q by omega]
              exact ⟨rfl, h9⟩
            · rw [um_wr_an e, um_wr_an e]
              exact y3 q hq
          · rw [ks19 u hu]
            by_cases z : u < v
            · rw [if_pos z, if_pos (by omega)]
            · rw [if_neg z, if_neg (by omega)]
          · rw [g19 u hu (by omega)]
            unfold gq
            rw [if_neg (by omega)]
    · rw [if_neg ho, if_neg ho]
      exact cont
end GOE
