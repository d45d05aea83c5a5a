/-! LEVEL 2: who goes to whom: the class's least -/
/-- a mask -/
def om (a : Nat → Bool) : Nat → Nat
  | 0 => 0
  | n + 1 => om a n + (if a n = true then 2 ^ n else 0)
theorem om_lt (a : Nat → Bool) : ∀ n, om a n < 2 ^ n
  | 0 => Nat.one_pos
  | n + 1 => by
    have := om_lt a n
    unfold om
    rw [Nat.pow_succ]
    split <;> omega
theorem om_bit (a : Nat → Bool) : ∀ n q, (om a n).testBit q = (decide (q < n) && a q)
  | 0, q => by
    unfold om
    rw [Nat.zero_testBit, decide_eq_false (by omega), Bool.false_and]
  | n + 1, q => by
    have hl := om_lt a n
    have ih := om_bit a n q
    unfold om
    by_cases han : a n = true
    · rw [if_pos han, Nat.add_comm]
      by_cases e : q = n
      · subst e
        rw [Nat.testBit_two_pow_add_eq, ih, decide_eq_false (by omega), Bool.false_and, decide_eq_true (by omega), han]
        rfl
      · by_cases hq : q < n
        · rw [Nat.testBit_two_pow_add_gt hq, ih, decide_eq_true hq, decide_eq_true (by omega)]
        · rw [decide_eq_false (by omega), Bool.false_and]
          refine Nat.testBit_lt_two_pow (Nat.lt_of_lt_of_le (show 2 ^ n + om a n < 2 ^ (n + 1) by rw [Nat.pow_succ]; omega) (Nat.pow_le_pow_right (by omega) (by omega)))
    · rw [if_neg han, Nat.add_zero, ih]
      by_cases e : q = n
      · subst e
        rw [decide_eq_false (by omega), Bool.false_and]
        cases h : a q with
        | false => rw [Bool.and_false]
        | true => exact absurd h han
      · congr 1
        by_cases hq : q < n
        · rw [decide_eq_true hq, decide_eq_true (by omega)]
        · rw [decide_eq_false hq, decide_eq_false (by omega)]
theorem tb_ (g q : Nat) : g.testBit q = decide (g / 2 ^ q % 2 = 1) := Nat.testBit_eq_decide_div_mod_eq
theorem om_and {a : Nat → Bool} {Q g : Nat} : om a Q &&& g = om a Q ↔ nb a (fun q => g.testBit q) Q = false := by
  constructor
  · intro h
    cases hn : nb a (fun q => g.testBit q) Q with
    | false => rfl
    | true =>
      obtain ⟨q, hq, h1, h2⟩ := (nb_iff Q).mp hn
      have := congrArg (fun x => x.testBit q) h
      try dsimp only at this
      try dsimp only at h2
      rw [Nat.testBit_and, om_bit, h1, h2, decide_eq_true hq] at this
      cases this
  · intro h
    refine Nat.eq_of_testBit_eq (fun q => ?_)
    rw [Nat.testBit_and, om_bit]
    by_cases hq : q < Q
    · rw [decide_eq_true hq, Bool.true_and]
      cases h1 : a q with
      | false => rfl
      | true =>
        cases h2 : g.testBit q with
        | true => rfl
        | false =>
          rw [(nb_iff Q).mpr ⟨q, hq, h1, h2⟩] at h
          cases h
    · rw [decide_eq_false hq, Bool.false_and, Bool.false_and]
theorem sq_bd {F : Nat → Nat} {b : Nat} : ∀ n, (∀ q, q < n → F q ≤ b) → sq F n ≤ b * n
  | 0, _ => Nat.le_refl _
  | n + 1, h => by
    have h1 := sq_bd n (fun q hq => h q (by omega))
    have h2 := h n (by omega)
    unfold sq
    rw [Nat.mul_succ]
    omega
theorem nb_congr {a S S' : Nat → Bool} : ∀ n, (∀ q, q < n → S q = S' q) → nb a S n = nb a S' n
  | 0, _ => rfl
  | n + 1, h => by
    unfold nb
    rw [nb_congr n (fun q hq => h q (by omega)), h n (by omega)]
/-- what the class holds of it -/
def ky (X : um_S) (N Q : Nat) (op : Nat → Nat → Bool) (h : Nat → Nat) : Prop := X.1 5 2 = nI N ∧ X.1 5 3 = nI Q ∧ (∀ q, q < Q → X.1 12 q = nI (h q) ∧ h q ≤ 9) ∧ ∀ u, u < N → X.1 11 u = nI (om (op u) Q)
section GRE
variable {X : um_S} {N Q f v q d u g : Nat} {op : Nat → Nat → Bool} {h : Nat → Nat} {S S' T : Nat → Bool}
theorem ps_congr (hs : ∀ q, q < Q → S q = S' q) : ps N Q f op h S = ps N Q f op h S' := by
  unfold ps
  rw [sq_congr Q (fun q hq => by rw [hs q hq])]
  congr 1
  exact cnp_congr N (fun u _ => by rw [nb_congr Q hs])
theorem ps_le (hQ : Q ≤ 6) (hN : N ≤ 14) (hh : ∀ q, q < Q → h q ≤ 9) : ps N Q f op h S ≤ 100 := by
  unfold ps
  have h1 := sq_bd (F := fun q => if S q = true then h q else 0) (b := 9) Q (fun q hq => by
    try dsimp only
    split
    · exact hh q hq
    · omega)
  have h2 := cnp_le (fun u => decide (f ≤ u) && nb (op u) S Q) N
  omega
theorem lo_p5 (hQ : Q ≤ 6) (hk : ky X N Q op h) (hg : g < 2 ^ 20) {v2 : Int32} : ∀ (i j fu : Nat), j + i = Q → i < fu → f_X0_passing_l5 (nI g) v2 X fu (nI (sq (fun q => if g.testBit q = true then h q else 0) j)) (nI j) = some (nI (sq (fun q => if g.testBit q = true then h q else 0) Q)) := by
  obtain ⟨k1, k2, k3, k4⟩ := hk
  intro i
  induction i with
  | zero =>
    intro j fu hj hfu
    obtain ⟨fu, rfl⟩ : ∃ g, fu = g + 1 := ⟨fu - 1, by omega⟩
    rw [f_X0_passing_l5, k2, if_pos (nI_le (by omega) (by omega)), show j = Q by omega]
  | succ i ih =>
    intro j fu hj hfu
    obtain ⟨fu, rfl⟩ : ∃ g, fu = g + 1 := ⟨fu - 1, by omega⟩
    have nx := ih (j + 1) fu (by omega) (by omega)
    have es : sq (fun q => if g.testBit q = true then h q else 0) (j + 1) = sq (fun q => if g.testBit q = true then h q else 0) j + (if g.testBit j = true then h j else 0) := rfl
    rw [f_X0_passing_l5, k2, if_neg (nI_ge (by omega) (by omega)), if_neg (nI_ge (by omega) (by omega)), shr_ (by omega) (by omega), and_1, nI_1]
    have eb : nI (g / 2 ^ j % 2) = 1 ↔ g.testBit j = true := by
      rw [tb_, decide_eq_true_iff]
      exact nI_eq (b := 1) (by omega) (by omega)
    by_cases hb : g.testBit j = true
    · rw [if_pos hb] at es
      rw [es] at nx
      rw [if_pos (eb.mpr hb), if_pos (um_ix_nI (by omega) (by omega)), nI_clamp (by omega), (k3 j (by omega)).1, nI_add]
      exact nx
    · rw [if_neg hb, Nat.add_zero] at es
      rw [es] at nx
      rw [if_neg (fun z => hb (eb.mp z))]
      exact nx
theorem lo_p57 (hQ : Q ≤ 6) (hN : N ≤ 14) (hk : ky X N Q op h) (hg : g < 2 ^ 20) {b : Nat} : ∀ (i j fu : Nat), j + i = N → f ≤ j → i < fu → f_X0_passing_l57 (nI g) X fu (nI (b + cnp (fun u => decide (f ≤ u) && nb (op u) (fun q => g.testBit q) Q) j)) (nI j) = some (nI (b + cnp (fun u => decide (f ≤ u) && nb (op u) (fun q => g.testBit q) Q) N)) := by
  obtain ⟨k1, k2, k3, k4⟩ := hk
  intro i
  induction i with
  | zero =>
    intro j fu hj hfj hfu
    obtain ⟨fu, rfl⟩ : ∃ g, fu = g + 1 := ⟨fu - 1, by omega⟩
    rw [f_X0_passing_l57, k1, if_pos (nI_le (by omega) (by omega)), show j = N by omega]
  | succ i ih =>
    intro j fu hj hfj hfu
    obtain ⟨fu, rfl⟩ : ∃ g, fu = g + 1 := ⟨fu - 1, by omega⟩
    have nx := ih (j + 1) fu (by omega) (by omega) (by omega)
    have es : cnp (fun u => decide (f ≤ u) && nb (op u) (fun q => g.testBit q) Q) (j + 1) = cnp (fun u => decide (f ≤ u) && nb (op u) (fun q => g.testBit q) Q) j + (if (decide (f ≤ j) && nb (op j) (fun q => g.testBit q) Q) = true then 1 else 0) := rfl
    have hol : om (op j) Q < 2 ^ 20 := Nat.lt_of_lt_of_le (om_lt _ Q) (Nat.pow_le_pow_right (by omega) (by omega))
    rw [f_X0_passing_l57, k1, if_neg (nI_ge (by omega) (by omega)), if_neg (nI_ge (by omega) (by omega)), if_pos (um_ix_nI (by omega) (by omega)), nI_clamp (by omega), k4 j (by omega), nI_1, nI_1]
    have eb : (nI (om (op j) Q) &&& (nI g ^^^ (-1))) = 0 ↔ nb (op j) (fun q => g.testBit q) Q = false := by
      rw [← sub_and, nI_and, nI_eq (Nat.lt_of_le_of_lt Nat.and_le_left (by omega)) (by omega)]
      exact om_and
    rw [decide_eq_true hfj, Bool.true_and] at es
    by_cases hb : nb (op j) (fun q => g.testBit q) Q = false
    · rw [hb, if_neg (by decide), Nat.add_zero] at es
      rw [es] at nx
      rw [if_pos (eb.mpr hb)]
      exact nx
    · rw [if_pos (by cases hz : nb (op j) (fun q => g.testBit q) Q with
        | false => exact absurd hz hb
        | true => rfl)] at es
      rw [es] at nx
      rw [if_neg (fun z => hb (eb.mp z))]
      exact nx
theorem x_passing (hQ : Q ≤ 6) (hN : N ≤ 14) (hk : ky X N Q op h) (hg : g < 2 ^ 20) (hf : f ≤ N) : f_X0_passing (nI g) (nI f) X = some (nI (ps N Q f op h (fun q => g.testBit q))) := by
  unfold f_X0_passing
  have a := lo_p5 hQ hk hg (v2 := nI f) Q 0 um_N (by omega) (by unfold um_N; omega)
  have b := lo_p57 hQ hN hk hg (f := f) (b := sq (fun q => if g.testBit q = true then h q else 0) Q) (N - f) f um_N (by omega) (by omega) (by unfold um_N; omega)
  rw [cnp_none f (fun x hx => by rw [decide_eq_false (by omega), Bool.false_and]), Nat.add_zero] at b
  have e0 : (if (0 : Int32) < nI f then nI f else (0 : Int32)) = nI f := by
    by_cases z : f = 0
    · subst z
      rfl
    · rw [if_pos]
      exact nI_lt (a := 0) (by omega) (by omega)
  refine (congrArg (fun o => Option.bind o _) a).trans ?_
  rw [Option.bind_some]
  unfold um_let
  try dsimp only
  rw [e0, b, Option.bind_some]
  rfl
theorem lo_gr {V : Nat} (hQ : Q ≤ 6) (hN : N ≤ 14) (hk : ky X N Q op h) (hf : f ≤ N) (hV : ∀ S, V ≤ ps N Q f op h S) : ∀ (i j fu acc : Nat), j + i = 2 ^ Q → i < fu → V ≤ acc → acc ≤ 100 → (acc = V ∨ ∃ g, j ≤ g ∧ g < 2 ^ Q ∧ ps N Q f op h (fun q => g.testBit q) = V) → f_X0_greatest_l7 (nI f) X fu (nI acc) (nI j) = some (nI V) := by
  have h2Q : 2 ^ Q ≤ 64 := (Nat.pow_le_pow_right (show 0 < 2 by omega) hQ : 2 ^ Q ≤ 2 ^ 6)
  intro i
  induction i with
  | zero =>
    intro j fu acc hj hfu h1 h2 h3
    obtain ⟨fu, rfl⟩ : ∃ g, fu = g + 1 := ⟨fu - 1, by omega⟩
    rw [f_X0_greatest_l7, hk.2.1, shl_ Q (by omega), if_pos (nI_le (by omega) (by omega))]
    rcases h3 with h3 | ⟨g, g1, g2, g3⟩
    · rw [h3]
    · omega
  | succ i ih =>
    intro j fu acc hj hfu h1 h2 h3
    obtain ⟨fu, rfl⟩ : ∃ g, fu = g + 1 := ⟨fu - 1, by omega⟩
    have hb : ps N Q f op h (fun q => j.testBit q) ≤ 100 := ps_le hQ hN (fun q hq => (hk.2.2.1 q hq).2)
    have hVj := hV (fun q => j.testBit q)
    rw [f_X0_greatest_l7, hk.2.1, shl_ Q (by omega), if_neg (nI_ge (by omega) (by omega)), x_passing hQ hN hk (by omega) hf, Option.bind_some, nI_1]
    unfold um_let
    try dsimp only
    by_cases hlt : ps N Q f op h (fun q => j.testBit q) < acc
    · rw [if_pos (nI_lt hlt (by omega))]
      refine ih (j + 1) fu _ (by omega) (by omega) hVj hb ?_
      rcases h3 with h3 | ⟨g, g1, g2, g3⟩
      · omega
      · by_cases e : g = j
        · subst e
          exact Or.inl g3
        · exact Or.inr ⟨g, by omega, g2, g3⟩
    · rw [if_neg (nI_nlt (by omega) (by omega))]
      refine ih (j + 1) fu _ (by omega) (by omega) h1 h2 ?_
      rcases h3 with h3 | ⟨g, g1, g2, g3⟩
      · exact Or.inl h3
      · by_cases e : g = j
        · subst e
          exact Or.inl (by omega)
        · exact Or.inr ⟨g, by omega, g2, g3⟩
theorem x_greatest {V : Nat} (hQ : Q ≤ 6) (hN : N ≤ 14) (hk : ky X N Q op h) (hf : f ≤ N) (hV : mn N Q f op h V) : f_X0_greatest (nI f) X = some (nI V) := by
  have hVN : V ≤ N := by
    refine Nat.le_trans (hV.1 (fun _ => false)) ?_
    unfold ps
    have e : sq (fun q => if (fun _ : Nat => false) q = true then h q else 0) Q ≤ 0 * Q := sq_bd Q (fun q _ => by
      try dsimp only
      rw [if_neg (by decide)]
      omega)
    have := cnp_le (fun u => decide (f ≤ u) && nb (op u) (fun _ => false) Q) N
    omega
  obtain ⟨T, hT⟩ := hV.2
  have := lo_gr hQ hN hk hf hV.1 (2 ^ Q) 0 um_N N (by omega) (by
    have h2Q : 2 ^ Q ≤ 64 := (Nat.pow_le_pow_right (show 0 < 2 by omega) hQ : 2 ^ Q ≤ 2 ^ 6)
    unfold um_N
    omega) hVN (by omega) (Or.inr ⟨om T Q, Nat.zero_le _, om_lt T Q, by
      rw [hT]
      refine ps_congr (fun q hq => ?_)
      rw [om_bit, decide_eq_true hq, Bool.true_and]⟩)
  unfold f_X0_greatest um_let
  rw [hk.1]
  exact (congrArg (fun o => Option.bind o _) this).trans rfl
end GRE
