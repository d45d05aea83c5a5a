/-! LEVEL 2: texts: values -/
section VAL
variable {X X' M : um_S} {z st en t k pt nd nt : Nat} {b : Nat → Nat} {v : Int32} {R : List Int32} {S : List Nat}
theorem nv_lt (hd : ∀ j, st ≤ j → j < en → so z b j = 2) : ∀ k, st + k ≤ en → nv b st k < 10 ^ k
  | 0, _ => Nat.one_pos
  | k + 1, h => by
    have ih := nv_lt hd k (by omega)
    have hs := so_2.mp (hd (st + k) (by omega) (by omega))
    unfold nv
    rw [Nat.pow_succ]
    omega
theorem lo_num (ht : tp X M z b) (h3 : X.1 4 3 = nI en) (hez : en ≤ z) (hd : ∀ j, st ≤ j → j < en → so z b j = 2) : ∀ (i p fu : Nat), p + i = en → st ≤ p → i < fu → f_X6_numberHere_l7 X fu (nI (nv b st (p - st))) (nI p) = some (nI (nv b st (en - st))) := by
  have hz := ht.2.2.1
  intro i
  induction i with
  | zero =>
    intro p fu hp hst hfu
    obtain ⟨fu, rfl⟩ : ∃ g, fu = g + 1 := ⟨fu - 1, by omega⟩
    rw [f_X6_numberHere_l7, h3, if_pos (nI_le (by omega) (by omega)), show p = en by omega]
  | succ i ih =>
    intro p fu hp hst hfu
    obtain ⟨fu, rfl⟩ : ∃ g, fu = g + 1 := ⟨fu - 1, by omega⟩
    have hs := so_2.mp (hd p hst (by omega))
    have nx := ih (p + 1) fu (by omega) (by omega) (by omega)
    rw [f_X6_numberHere_l7, h3, if_neg (nI_ge (by omega) (by omega)), x_byteAt ht (by omega), Option.bind_some, if_pos (show p < z by omega), nI_1]
    have ev : nI (nv b st (p - st)) * 10 + nI (b p) - 48 = nI (nv b st (p + 1 - st)) := by
      rw [show p + 1 - st = (p - st) + 1 by omega, show nv b st (p - st + 1) = 10 * nv b st (p - st) + (b (st + (p - st)) - 48) from rfl, show st + (p - st) = p by omega]
      refine (congrArg (fun y => y + nI (b p) - (48 : Int32)) (nI_mul (nv b st (p - st)) 10)).trans ?_
      try dsimp only
      rw [nI_add]
      exact (nI_sub (b := 48) (by omega)).trans (by rw [show nv b st (p - st) * 10 + b p - 48 = 10 * nv b st (p - st) + (b p - 48) by omega])
    unfold um_let
    rw [ev]
    exact nx
theorem x_number (ht : tp X M z b) (h2 : X.1 4 2 = nI st) (h3 : X.1 4 3 = nI en) (hse : st ≤ en) (hez : en ≤ z) (hd : ∀ j, st ≤ j → j < en → so z b j = 2) : f_X6_numberHere X = some (nI (nv b st (en - st))) := by
  have hz := ht.2.2.1
  have := lo_num ht h3 hez hd (en - st) st um_N (by omega) (Nat.le_refl _) (by unfold um_N; omega)
  rw [show st - st = 0 by omega] at this
  unfold f_X6_numberHere um_let
  rw [h2]
  exact (congrArg (fun o => Option.bind o _) this).trans rfl
theorem x_takesValue {k : Nat} (hS : hn S) (h : ce X R (List.replicate k 33 ++ S)) (h12 : X.1 4 12 = nI pt) (h14 : X.1 4 14 = nI nt) (hk : k ≤ nt) (hnt : nt ≤ 8) (hl : R.length + (k + S.length) ≤ 93) : ∃ X', f_X6_takesValue v X = some (true, X') ∧ ce X' (List.replicate k (-33) ++ (v :: R)) S ∧ X'.1 4 14 = nI (nt - k) ∧ X'.1 4 6 = 0 ∧ X'.1 4 12 = nI (pt + 1) ∧ X'.1 4 13 = X.1 4 13 ∧ xE X X' := by
  have hlen : (List.replicate k 33 ++ S).length = k + S.length := by rw [List.length_append, List.length_replicate]
  obtain ⟨X1, a1, a2, a3⟩ := x_write (v := v) h (by omega)
  have e12 : X1.1 4 12 = nI pt := by rw [a3.1 4 12 (by omega) (by omega) (by omega)]; exact h12
  obtain ⟨X2, b1, b2, b3, b4, ⟨b5, b6⟩, b7⟩ := x_endPart (X := um_wr X1 4 12 (nI (pt + 1))) (nt := nt) hS (ce_wr a2 (by omega) (by omega)) (by rw [um_wr_an (by omega), a3.1 4 14 (by omega) (by omega) (by omega)]; exact h14) hk hnt (by change R.length + 1 + (k + S.length) ≤ 94; omega)
  refine ⟨X2, ?_, b2, b3, b4, ?_, ?_, xE_trans (xW_xE a3) (xE_trans (xE_wr (by omega)) b7)⟩
  · unfold f_X6_takesValue
    rw [a1, Option.bind_some, e12, nI_1]
    unfold um_let
    try dsimp only
    rw [b1, Option.bind_some]
  · rw [b5, um_wr_at]
  · rw [b6, um_wr_an (by omega), a3.1 4 13 (by omega) (by omega) (by omega)]
end VAL
