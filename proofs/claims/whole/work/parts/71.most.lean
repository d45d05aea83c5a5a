/-! LEVEL 2: most -/
/-- nothing but who goes, is settled and is met -/
def ke (M M' : um_S) : Prop := ∀ k j, k ≠ 11 → k ≠ 12 → k ≠ 13 → M'.1 k j = M.1 k j
section MOS
variable {X X' X2 M M' M2 : um_S} {n N W u q m f : Nat} {s : Nat → Int32} {G : Nat → Nat}
theorem ke_refl : ke M M := fun _ _ _ _ _ => rfl
theorem ke_trans (a : ke M M') (b : ke M' M2) : ke M M2 := fun k j h1 h2 h3 => by rw [b k j h1 h2 h3, a k j h1 h2 h3]
theorem ke_wr {k i : Nat} {w : Int32} (hk : k = 11 ∨ k = 12 ∨ k = 13) (a : ke M M') : ke M (um_wr M' k i w) := fun k2 j h1 h2 h3 => by rw [um_wr_nk (by omega), a k2 j h1 h2 h3]
theorem ke_kf (a : ke M M') (b : kf M' M2) : ke M M2 := fun k j h1 h2 h3 => by rw [b k j h1 h3, a k j h1 h2 h3]
theorem ke_row (a : ke M M') : M'.1 1 = M.1 1 := funext fun j => a 1 j (by omega) (by omega) (by omega)
/-- who goes to whom is no part of what holds -/
theorem RR_go (hR : RR n X M) (a : xk X X') (b : ke M M') : RR n X' M' := by
  obtain ⟨r1, r2, r2b, ⟨y, b1, b2, b3, b4⟩, ⟨w, c1, c2, c3, c4⟩⟩ := hR.2
  have hx := a.1
  have hm := b
  refine RR_nx hR ⟨fun k j hk => hx k j (by omega) (by omega) (by omega), a.2⟩ ⟨fun k j hk => hx k j (by omega) (by omega) (by omega), a.2⟩ (funext fun j => hm _ j (by omega) (by omega) (by omega)) (funext fun j => hm _ j (by omega) (by omega) (by omega)) (hx _ _ (by omega) (by omega) (by omega)) (hm _ _ (by omega) (by omega) (by omega)) ⟨fun k hk => ?_, fun j hj => ?_⟩ ⟨y, b1, ?_, ?_, fun j hj => ?_⟩ ⟨w, c1, ?_, ?_, fun j hj => ?_⟩
  · rw [hx _ _ (by omega) (by omega) (by omega), hx _ _ (by omega) (by omega) (by omega), hm _ _ (by omega) (by omega) (by omega), hm _ _ (by omega) (by omega) (by omega)]
    exact r2 k hk
  · rw [hx _ _ (by omega) (by omega) (by omega), hm _ _ (by omega) (by omega) (by omega)]
    exact r2b j hj
  · rw [hx _ _ (by omega) (by omega) (by omega)]; exact b2
  · rw [hm _ _ (by omega) (by omega) (by omega)]; exact b3
  · rw [hx _ _ (by omega) (by omega) (by omega), hm _ _ (by omega) (by omega) (by omega)]; exact b4 j hj
  · rw [hx _ _ (by omega) (by omega) (by omega)]; exact c2
  · rw [hm _ _ (by omega) (by omega) (by omega)]; exact c3
  · rw [hx _ _ (by omega) (by omega) (by omega), hm _ _ (by omega) (by omega) (by omega)]; exact c4 j hj
theorem lo_g2 : ∀ (i j fu : Nat) (M' : um_S), j + i = 14 → i < fu → ke M M' → (∀ u, u < j → M'.1 12 u = 0) → ∃ M2, f_X9_mostGo_l2 fu (nI j) M' = some M2 ∧ ke M M2 ∧ ∀ u, u < 14 → M2.1 12 u = 0 := by
  intro i
  induction i with
  | zero =>
    intro j fu M' hj hfu h1 h2
    obtain ⟨fu, rfl⟩ : ∃ g, fu = g + 1 := ⟨fu - 1, by omega⟩
    have e : (14 : Int32) ≤ nI j := nI_le (a := 14) (by omega) (by omega)
    exact ⟨M', by rw [f_X9_mostGo_l2, if_pos e], h1, fun u hu => h2 u (by omega)⟩
  | succ i ih =>
    intro j fu M' hj hfu h1 h2
    obtain ⟨fu, rfl⟩ : ∃ g, fu = g + 1 := ⟨fu - 1, by omega⟩
    have e : ¬ (14 : Int32) ≤ nI j := nI_ge (b := 14) (by omega) (by omega)
    rw [f_X9_mostGo_l2, if_neg e, if_pos (um_ix_nI (by omega) (by omega)), nI_clamp (by omega), nI_1]
    refine ih (j + 1) fu _ (by omega) (by omega) (ke_wr (Or.inr (Or.inl rfl)) h1) (fun u hu => ?_)
    by_cases e : u = j
    · subst e
      rw [um_wr_at]
      rfl
    · rw [um_wr_an e]
      exact h2 u (by omega)
theorem st_0 : st N 0 G q = 0 := cnp_none N (fun u _ => by rw [decide_eq_false (by omega), Bool.false_and])
theorem sg_0 : sg N 0 G = 0 := cnp_none N (fun u _ => by rw [decide_eq_false (by omega), Bool.false_and])
theorem m_mostGo (hs : sr X 1 (M.1 1) W n) : ∃ V M', f_X9_mostGo M = some (nI V, M') ∧ mn (nn (M.1 1) 2) (nn (M.1 1) 3) 0 (oq (M.1 1)) (cq M) V ∧ ke M M' ∧ ks M' (nn (M.1 1) 2) 0 := by
  have hk := kx_ hs
  have hN := hk.1
  obtain ⟨M1, a1, a2, a3⟩ := lo_g2 (M := M) 14 0 um_N M (by omega) (by unfold um_N; omega) ke_refl (fun u hu => absurd hu (by omega))
  have hks : ks M1 (nn (M.1 1) 2) 0 := fun u hu => by
    rw [a3 u (by omega), if_neg (by omega)]
  obtain ⟨V, M2, G2, b1, b2, b3, b4, b5⟩ := m_fill (h := cq M) (G := fun _ => 0) hk (ke_row a2) hks (fun u _ hu => absurd hu (by omega)) (fun u _ hu => absurd hu (by omega)) (fun q hq => by rw [st_0]; omega)
  rw [sg_0, Nat.zero_add] at b1
  refine ⟨V, M2, ?_, b2, ke_kf a2 b3, fun u hu => ?_⟩
  · unfold f_X9_mostGo
    refine (congrArg (fun o => Option.bind o _) a1).trans ?_
    rw [Option.bind_some, b1]
    rfl
  · rw [b3 12 u (by omega) (by omega)]
    exact hks u hu
end MOS
theorem sim_mostR : sim_most RR := by
  intro n X M hR
  refine sm_out ?_
  have hs := hR.1
  have hk := kx_ hs
  obtain ⟨X1, a1, a2, a3⟩ := x_ask hs
  obtain ⟨V, M1, b1, b2, b3, b4⟩ := m_mostGo hs
  have g := x_greatest hk.2.1 hk.1 a3 (Nat.zero_le _) b2
  unfold f_X8_most f_X9_most
  refine sm_xb a1 (sm_xb g (sm_mb2 b1 (sm_ret ⟨rfl, RR_go hR a2 b3⟩)))
