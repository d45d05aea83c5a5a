/-! LEVEL 2: who goes to whom: the class asks -/
def oq (s : Nat → Int32) (u q : Nat) : Bool := decide (s (50 + 14 * u + 5) = 1) && wn s u q
/-- how many are with a master -/
noncomputable def rq (M : um_S) (q : Nat) : Nat := ((f_X9_assignedTo (nI q) M).getD 0).toNatClampNeg
noncomputable def cq (M : um_S) (q : Nat) : Nat := nn (M.1 1) (250 + 4 * q + 2) - rq M q
def xk (X X' : um_S) : Prop := (∀ k j, k ≠ 5 → k ≠ 11 → k ≠ 12 → X'.1 k j = X.1 k j) ∧ X'.2 = X.2
section ASK
variable {X X' X2 M M' : um_S} {n W u q m : Nat} {s : Nat → Int32}
theorem xk_refl : xk X X := ⟨fun _ _ _ _ _ => rfl, rfl⟩
theorem xk_trans (a : xk X X') (b : xk X' X2) : xk X X2 := ⟨fun k j h1 h2 h3 => by rw [b.1 k j h1 h2 h3, a.1 k j h1 h2 h3], by rw [b.2, a.2]⟩
theorem xk_wr {k i : Nat} {w : Int32} (hk : k = 5 ∨ k = 11 ∨ k = 12) (a : xk X X') : xk X (um_wr X' k i w) := ⟨fun k2 j h1 h2 h3 => by rw [um_wr_nk (by omega), a.1 k2 j h1 h2 h3], a.2⟩
theorem xk_sr (a : xk X X') (hs : sr X 1 s W n) : sr X' 1 s W n := sr_xa (Or.inl rfl) ⟨fun k j hk => a.1 k j (by omega) (by omega) (by omega), a.2⟩ hs
theorem rq_ (hs : sr X 1 (M.1 1) W n) : rq M q ≤ 14 ∧ (∀ X', sr X' 1 (M.1 1) W n → f_X4_assignedTo 1 (nI q) X' = some (nI (rq M q))) ∧ ∀ M', M'.1 1 = M.1 1 → f_X9_assignedTo (nI q) M' = some (nI (rq M q)) := by
  obtain ⟨r, hr, r1, r2⟩ := assignedTo_ (v := nI q) hs.1 hs.2.1 (Or.inl rfl)
  have e : rq M q = r := by
    unfold rq
    rw [r2]
    exact nI_clamp (by omega)
  rw [e]
  refine ⟨hr, fun X' h' => ?_, fun M' hM => ?_⟩
  · obtain ⟨r', hr', a1, a2⟩ := assignedTo_ (v := nI q) (M := M) h'.1 h'.2.1 (Or.inl rfl)
    rw [r2] at a2
    rw [a1, ← a2]
  · obtain ⟨r', hr', a1, a2⟩ := assignedTo_ (X := X) (v := nI q) (M := M') (h := 1) (by rw [hM]; exact hs.1) (W := W) (by rw [hM]; exact hs.2.1) (Or.inl rfl)
    rw [r1] at a1
    rw [a2, ← a1]
theorem cq_ (hs : sr X 1 (M.1 1) W n) (hq : q < nn (M.1 1) 3) : cq M q ≤ 9 ∧ ∃ a : Nat, a ≤ 9 ∧ M.1 1 (250 + 4 * q + 2) = nI a ∧ cq M q = a - rq M q := by
  obtain ⟨⟨p, hp, ep⟩, a, ha, ea⟩ := si_master hs.2.1 q hq
  have e : cq M q = a - rq M q := by
    unfold cq nn
    rw [ea, nI_clamp (by omega)]
  rw [e]
  exact ⟨by omega, a, ha, ea, rfl⟩
theorem m_canGo (hi : sr_i s W) (e1 : M.1 1 = s) (hu : u < nn s 2) (hq : q < nn s 3) : f_X9_canGo (nI u) (nI q) M = some (oq s u q) := by
  have hm14 := (si_men hi).2
  have hq6 := (si_masters hi).2
  have ho := si_man hi u hu
  unfold f_X9_canGo oq
  rw [m_kindOf (by omega), Option.bind_some, e1]
  by_cases hk : s (50 + 14 * u + 5) = 1
  · have hk4 : ∃ k : Nat, 1 ≤ k ∧ k ≤ 4 ∧ s (50 + 14 * u + 5) = nI k := ⟨1, by omega, by omega, hk⟩
    have hop := out_pl ho hk4
    rw [if_pos hk, decide_eq_true hk, Bool.true_and, m_isOut (by omega), Option.bind_some, e1]
    by_cases hp0 : s (50 + 14 * u + 4) = -1
    · rw [decide_eq_true (hop.mpr hp0), if_neg (by decide), wn_no hi hq hp0]
    · rw [decide_eq_false (fun z => hp0 (hop.mp z)), show um_b false = 0 from rfl, if_pos rfl, m_wants (by omega) (by omega), Option.bind_some, e1]
      cases wn s u q <;> rfl
  · rw [if_neg hk, decide_eq_false hk, Bool.false_and]
theorem kx_ (hs : sr X 1 (M.1 1) W n) : kx (M.1 1) (nn (M.1 1) 2) (nn (M.1 1) 3) (oq (M.1 1)) (cq M) := by
  have hi := hs.2.1
  refine ⟨(si_men hi).2, (si_masters hi).2, (si_men hi).1, (si_masters hi).1, fun M' u q e hu hq => m_canGo hi e hu hq, fun M' q e hq => ⟨rq M q, (rq_ hs).2.2 M' e, fun x hx => ?_⟩⟩
  obtain ⟨h9, a, ha, ea, ec⟩ := cq_ hs hq
  have hr := (rq_ (q := q) hs).1
  rw [ea, ec, Int32.le_iff_toInt_le, nI_subI (by omega) (by omega), nI_toInt (by omega)]
  omega
theorem om_or (a : Nat → Bool) (n : Nat) : om a n ||| 2 ^ n = om a n + 2 ^ n := by
  have := Nat.two_pow_add_eq_or_of_lt (om_lt a n) 1
  rw [Nat.mul_one] at this
  rw [Nat.or_comm, ← this, Nat.add_comm]
theorem om_0 {a : Nat → Bool} : ∀ n, (∀ q, q < n → a q = false) → om a n = 0
  | 0, _ => rfl
  | n + 1, h => by
    unfold om
    rw [om_0 n (fun q hq => h q (by omega)), h n (by omega), if_neg (by decide)]
theorem om_congr {a b : Nat → Bool} : ∀ n, (∀ q, q < n → a q = b q) → om a n = om b n
  | 0, _ => rfl
  | n + 1, h => by
    unfold om
    rw [om_congr n (fun q hq => h q (by omega)), h n (by omega)]
theorem lo_open (hs : sr X 1 s W n) (h3 : X.1 5 3 = nI (nn s 3)) (hu : u < nn s 2) : ∀ (i j fu : Nat), j + i = nn s 3 → i < fu → f_X0_openFor_l20 1 (nI u) X fu (nI (om (wn s u) j)) (nI j) = some (nI (om (wn s u) (nn s 3))) := by
  have hQ := (si_masters hs.2.1).2
  intro i
  induction i with
  | zero =>
    intro j fu hj hfu
    obtain ⟨fu, rfl⟩ : ∃ g, fu = g + 1 := ⟨fu - 1, by omega⟩
    rw [f_X0_openFor_l20, h3, if_pos (nI_le (by omega) (by omega)), show j = nn s 3 by omega]
  | succ i ih =>
    intro j fu hj hfu
    obtain ⟨fu, rfl⟩ : ∃ g, fu = g + 1 := ⟨fu - 1, by omega⟩
    have nx := ih (j + 1) fu (by omega) (by omega)
    have es : om (wn s u) (j + 1) = om (wn s u) j + (if wn s u j = true then 2 ^ j else 0) := rfl
    rw [f_X0_openFor_l20, h3, if_neg (nI_ge (by omega) (by omega)), x_isWantedBy hs.1 hs.2.1 (Or.inl rfl) hu (by omega), Option.bind_some, shl_ j (by omega), nI_or, om_or, nI_1]
    cases hw : wn s u j with
    | false =>
      rw [hw, if_neg (by decide), Nat.add_zero] at es
      rw [es] at nx
      exact nx
    | true =>
      rw [hw, if_pos rfl] at es
      rw [es] at nx
      exact nx
theorem x_openFor (hs : sr X 1 s W n) (h3 : X.1 5 3 = nI (nn s 3)) (hu : u < nn s 2) : f_X0_openFor 1 (nI u) X = some (nI (om (oq s u) (nn s 3))) := by
  have hQ := (si_masters hs.2.1).2
  unfold f_X0_openFor
  rw [x_m5 hs.1 hs.2.1 (Or.inl rfl) hu, Option.bind_some]
  by_cases hk : s (50 + 14 * u + 5) = 1
  · have e : f_X0_openFor_l20 1 (nI u) X um_N (0 : Int32) (0 : Int32) = some (nI (om (wn s u) (nn s 3))) := lo_open hs h3 hu (nn s 3) 0 um_N (by omega) (by unfold um_N; omega)
    rw [if_pos hk, e, Option.bind_some]
    rw [om_congr (a := oq s u) (b := wn s u) _ (fun q _ => by unfold oq; rw [decide_eq_true hk, Bool.true_and])]
  · rw [if_neg hk, om_0 _ (fun q _ => by unfold oq; rw [decide_eq_false hk, Bool.false_and])]
    rfl
theorem x_freeHands (hs : sr X 1 (M.1 1) W n) (h' : sr X' 1 (M.1 1) W n) (hq : q < nn (M.1 1) 3) : ∃ x : Int32, f_X4_freeHands 1 (nI q) X' = some x ∧ (if (0 : Int32) < x then x else (0 : Int32)) = nI (cq M q) := by
  obtain ⟨h9, a, ha, ea, ec⟩ := cq_ hs hq
  obtain ⟨hr, r1, r2⟩ := rq_ (q := q) hs
  refine ⟨nI a - nI (rq M q), ?_, ?_⟩
  · unfold f_X4_freeHands
    rw [x_p2_2 h'.1 h'.2.1 (Or.inl rfl) hq, r1 X' h', Option.bind_some, Option.bind_some, ea]
  · rw [ec]
    have h0 : (0 : Int32).toInt = 0 := by decide
    by_cases hlt : rq M q < a
    · rw [if_pos (by rw [Int32.lt_iff_toInt_lt, nI_subI (by omega) (by omega), h0]; omega), nI_sub (by omega)]
    · rw [if_neg (by rw [Int32.lt_iff_toInt_lt, nI_subI (by omega) (by omega), h0]; omega), show a - rq M q = 0 by omega]
      rfl
theorem lo_a40 (hs : sr X 1 (M.1 1) W n) : ∀ (i j fu : Nat) (X' : um_S), j + i = nn (M.1 1) 3 → i < fu → xk X X' → X'.1 5 2 = nI (nn (M.1 1) 2) → X'.1 5 3 = nI (nn (M.1 1) 3) → (∀ q, q < j → X'.1 12 q = nI (cq M q)) → ∃ X2, f_X0_ask_l40 1 fu (nI j) X' = some X2 ∧ xk X X2 ∧ X2.1 5 2 = nI (nn (M.1 1) 2) ∧ X2.1 5 3 = nI (nn (M.1 1) 3) ∧ ∀ q, q < nn (M.1 1) 3 → X2.1 12 q = nI (cq M q) := by
  have hQ := (si_masters hs.2.1).2
  intro i
  induction i with
  | zero =>
    intro j fu X' hj hfu h1 h2 h3 h4
    obtain ⟨fu, rfl⟩ : ∃ g, fu = g + 1 := ⟨fu - 1, by omega⟩
    exact ⟨X', by rw [f_X0_ask_l40, h3, if_pos (nI_le (by omega) (by omega))], h1, h2, h3, fun q hq => h4 q (by omega)⟩
  | succ i ih =>
    intro j fu X' hj hfu h1 h2 h3 h4
    obtain ⟨fu, rfl⟩ : ∃ g, fu = g + 1 := ⟨fu - 1, by omega⟩
    obtain ⟨x, x1, x2⟩ := x_freeHands (q := j) hs (xk_sr h1 hs) (by omega)
    rw [f_X0_ask_l40, h3, if_neg (nI_ge (by omega) (by omega)), x1, Option.bind_some, if_pos (um_ix_nI (by omega) (by omega)), nI_clamp (by omega), x2, nI_1]
    refine ih (j + 1) fu _ (by omega) (by omega) (xk_wr (Or.inr (Or.inr rfl)) h1) (by rw [um_wr_nk (by omega)]; exact h2) (by rw [um_wr_nk (by omega)]; exact h3) (fun q hq => ?_)
    by_cases e : q = j
    · subst e
      rw [um_wr_at]
    · rw [um_wr_an e]
      exact h4 q (by omega)
theorem lo_a71 (hs : sr X 1 (M.1 1) W n) : ∀ (i j fu : Nat) (X' : um_S), j + i = nn (M.1 1) 2 → i < fu → xk X X' → X'.1 5 2 = nI (nn (M.1 1) 2) → X'.1 5 3 = nI (nn (M.1 1) 3) → (∀ q, q < nn (M.1 1) 3 → X'.1 12 q = nI (cq M q)) → (∀ u, u < j → X'.1 11 u = nI (om (oq (M.1 1) u) (nn (M.1 1) 3))) → ∃ X2, f_X0_ask_l71 1 fu (nI j) X' = some X2 ∧ xk X X2 ∧ ky X2 (nn (M.1 1) 2) (nn (M.1 1) 3) (oq (M.1 1)) (cq M) := by
  have hN := (si_men hs.2.1).2
  intro i
  induction i with
  | zero =>
    intro j fu X' hj hfu h1 h2 h3 h4 h5
    obtain ⟨fu, rfl⟩ : ∃ g, fu = g + 1 := ⟨fu - 1, by omega⟩
    exact ⟨X', by rw [f_X0_ask_l71, h2, if_pos (nI_le (by omega) (by omega))], h1, h2, h3, fun q hq => ⟨h4 q hq, (cq_ hs hq).1⟩, fun u hu => h5 u (by omega)⟩
  | succ i ih =>
    intro j fu X' hj hfu h1 h2 h3 h4 h5
    obtain ⟨fu, rfl⟩ : ∃ g, fu = g + 1 := ⟨fu - 1, by omega⟩
    rw [f_X0_ask_l71, h2, if_neg (nI_ge (by omega) (by omega)), x_openFor (xk_sr h1 hs) h3 (by omega), Option.bind_some, if_pos (um_ix_nI (by omega) (by omega)), nI_clamp (by omega), nI_1]
    refine ih (j + 1) fu _ (by omega) (by omega) (xk_wr (Or.inr (Or.inl rfl)) h1) (by rw [um_wr_nk (by omega)]; exact h2) (by rw [um_wr_nk (by omega)]; exact h3) (fun q hq => by rw [um_wr_nk (by omega)]; exact h4 q hq) (fun u hu => ?_)
    by_cases e : u = j
    · subst e
      rw [um_wr_at]
    · rw [um_wr_an e]
      exact h5 u (by omega)
theorem x_ask (hs : sr X 1 (M.1 1) W n) : ∃ X', f_X0_ask 1 X = some X' ∧ xk X X' ∧ ky X' (nn (M.1 1) 2) (nn (M.1 1) 3) (oq (M.1 1)) (cq M) := by
  have hN := si_men hs.2.1
  have hQ := si_masters hs.2.1
  have eN : X.1 (20 * 1 + 1) 2 = nI (nn (M.1 1) 2) := (hs.1.2.1 1 (by omega)).trans hN.1
  have eQ : X.1 (20 * 1 + 2) 2 = nI (nn (M.1 1) 3) := (hs.1.2.1 2 (by omega)).trans hQ.1
  unfold f_X0_ask um_let
  try dsimp only
  rw [eN, if_neg (nI_nlt hN.2 (by omega)), um_wr_nk (k2 := 20 * 1 + 2) (k := 5) (by omega), eQ, if_neg (nI_nlt hQ.2 (by omega))]
  obtain ⟨X1, a1, a2, a3, a4, a5⟩ := lo_a40 (M := M) hs (nn (M.1 1) 3) 0 um_N (um_wr (um_wr X 5 2 (nI (nn (M.1 1) 2))) 5 3 (nI (nn (M.1 1) 3))) (by omega) (by unfold um_N; omega) (xk_wr (Or.inl rfl) (xk_wr (Or.inl rfl) xk_refl)) (by rw [um_wr_an (by omega), um_wr_at]) (um_wr_at _ _ _ _) (fun q hq => absurd hq (by omega))
  obtain ⟨X2, b1, b2, b3⟩ := lo_a71 (M := M) hs (nn (M.1 1) 2) 0 um_N X1 (by omega) (by unfold um_N; omega) a2 a3 a4 a5 (fun q hq => absurd hq (by omega))
  exact ⟨X2, (congrArg (fun o => Option.bind o _) a1).trans ((congrArg (fun o => Option.bind o _) b1).trans rfl), b2, b3⟩
end ASK
