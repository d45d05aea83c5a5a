/-! LEVEL 2: goes, whole -/
def oN (g : Nat) : Int32 := if g = 0 then -1000000005 else nI (g - 1)
section GOB
variable {X X0 X' X2 M M0 M' M2 : um_S} {n N Q W u q m f v L : Nat} {s : Nat → Int32} {G h C : Nat → Nat} {op : Nat → Nat → Bool}
/-- one man: the class and the model alike -/
theorem tk_one (hk : kx s N Q op C) (e1 : M0.1 1 = s) (hvN : v < N) (hL : L ≤ 100) (hG : ∀ u, u < N → u < v → G u ≤ Q) (hh : ∀ q, q < Q → h q + st N v G q = C q) (x1 : xk X0 X) (x2 : ky X N Q op h) (m1 : ke M0 M) (m2 : kw M N v G) : ∃ (G' h' : Nat → Nat) (L' : Nat) (X' M' : um_S), f_X0_take (nI v) (nI L) X = some (oN (G' v), X') ∧ f_X9_assignAll_l22 (nI (sg N v G + L)) (nI v) um_N (0 : Int32) (0 : Int32) M = some M' ∧ xk X0 X' ∧ ky X' N Q op h' ∧ ke M0 M' ∧ ks M' N (v + 1) ∧ (∀ u, u < N → u < v + 1 → M'.1 11 u = nI (G' u) + (-1)) ∧ (∀ u, u < v → G' u = G u) ∧ (∀ u, u < N → u < v + 1 → G' u ≤ Q) ∧ (∀ q, q < Q → h' q + st N (v + 1) G' q = C q) ∧ sg N (v + 1) G' + L' = sg N v G + L ∧ (if oN (G' v) = -1000000005 then L' = L else L = L' + 1) ∧ L' ≤ 100 := by
  have hN := hk.1
  have hQ := hk.2.1
  obtain ⟨out, M', a1, a2, a3, a4⟩ := lo_tk hk e1 hvN hL hG hh Q 0 um_N um_N X M (by omega) (by unfold um_N; omega) (by unfold um_N; omega) x1 x2 m1 m2
  have a1' : f_X0_take_l18 (nI v) (nI L) um_N (0 : Int32) X = some out := a1
  have n5 : ∀ k : Nat, k < 100 → nI k ≠ -1000000005 := fun k hk => nI_none (by omega)
  rcases a4 with ⟨X', p1, p2, p3, p4, p5⟩ | ⟨q, X', p0, ph, pL, p1, p2, p3, p4, p5⟩
  · subst p1
    refine ⟨g0 G v, h, L, X', M', ?_, a2, p2, p3, a3, p4, p5, fun u hu => if_neg (by omega), fun u hu huv => ?_, fun q hq => by rw [st_g0]; exact hh q hq, by rw [sg_g0], ?_, hL⟩
    · unfold f_X0_take um_s1
      rw [if_neg (nI_pos (by omega)), if_pos (nI_lt (by omega) (by omega)), a1', Option.bind_some]
      have e : g0 G v v = 0 := if_pos rfl
      rw [e]
      rfl
    · unfold g0
      by_cases e : u = v
      · rw [if_pos e]; omega
      · rw [if_neg e]; exact hG u hu (by omega)
    · have e : oN (g0 G v v) = -1000000005 := by
        have e : g0 G v v = 0 := if_pos rfl
        rw [e]
        rfl
      rw [if_pos e]
  · subst p1
    have e : gq G v q v = q + 1 := if_pos rfl
    have eo : oN (gq G v q v) = nI q := by
      rw [e]
      unfold oN
      rw [if_neg (by omega), Nat.add_sub_cancel]
    refine ⟨gq G v q, hd h q, L - 1, X', M', ?_, a2, p2, p3, a3, p4, p5, fun u hu => if_neg (by omega), fun u hu huv => ?_, fun p hp => ?_, by rw [sg_gq hvN]; omega, ?_, by omega⟩
    · unfold f_X0_take um_s1
      rw [if_neg (nI_pos (by omega)), if_pos (nI_lt (by omega) (by omega)), a1', Option.bind_some, eo]
    · unfold gq
      by_cases e : u = v
      · rw [if_pos e]; omega
      · rw [if_neg e]; exact hG u hu (by omega)
    · have h1 := hh p hp
      rw [st_gq hvN]
      unfold hd
      by_cases e : p = q
      · subst e
        rw [if_pos rfl, if_pos rfl]
        omega
      · rw [if_neg e, if_neg e]
        omega
    · rw [eo, if_neg (n5 q (by omega))]
      omega
theorem lo_all7 {a T : Nat} (hk : kx s N Q op C) (e1 : M0.1 1 = s) (ha : a < N) : ∀ (i v fx fm : Nat) (X M : um_S) (G h : Nat → Nat) (L : Nat) (w : Int32), v + i = N → i < fx → i < fm → L ≤ 100 → sg N v G + L = T → (∀ u, u < N → u < v → G u ≤ Q) → (∀ q, q < Q → h q + st N v G q = C q) → xk X0 X → ky X N Q op h → ke M0 M → ks M N v → (∀ u, u < N → u < v → M.1 11 u = nI (G u) + (-1)) →
    ∃ (G' : Nat → Nat) (M' : um_S), f_X9_assignAll_l7 (nI T) fm (nI v) M = some M' ∧ ke M0 M' ∧ (∀ u, u < N → M'.1 11 u = nI (G' u) + (-1)) ∧ (∀ u, u < N → G' u ≤ Q) ∧ (∀ u, u < v → G' u = G u) ∧ (v ≤ a → ∃ X', f_X0_masterFor_l12 (nI a) fx (nI L) w (nI v) X = some (oN (G' a), X') ∧ xk X0 X') := by
  have hN := hk.1
  have hQ := hk.2.1
  have k2 := hk.2.2.1
  intro i
  induction i with
  | zero =>
    intro v fx fm X M G h L w hv hfx hfm hL hT hG hh x1 x2 m1 m2 m3
    obtain ⟨fm, rfl⟩ : ∃ g, fm = g + 1 := ⟨fm - 1, by omega⟩
    have eM : M.1 1 2 = nI N := by rw [m1 1 2 (by omega) (by omega) (by omega), e1, k2]
    refine ⟨G, M, ?_, m1, fun u hu => m3 u hu (by omega), fun u hu => hG u hu (by omega), fun _ _ => rfl, fun hva => absurd hva (by omega)⟩
    rw [f_X9_assignAll_l7, eM, if_pos (nI_le (by omega) (by omega))]
  | succ i ih =>
    intro v fx fm X M G h L w hv hfx hfm hL hT hG hh x1 x2 m1 m2 m3
    obtain ⟨fx, rfl⟩ : ∃ g, fx = g + 1 := ⟨fx - 1, by omega⟩
    obtain ⟨fm, rfl⟩ : ∃ g, fm = g + 1 := ⟨fm - 1, by omega⟩
    have eM : M.1 1 2 = nI N := by rw [m1 1 2 (by omega) (by omega) (by omega), e1, k2]
    obtain ⟨G1, h1, L1, X1, M1, t1, t2, t3, t4, t5, t6, t7, t8, t9, t10, t11, t12, t13⟩ := tk_one hk e1 (by omega : v < N) hL hG hh x1 x2 m1 ⟨fun u hu _ => m2 u hu, m3⟩
    obtain ⟨G2, M2, a1, a2, a3, a4, a5, a6⟩ := ih (v + 1) fx fm X1 M1 G1 h1 L1 (oN (G1 v)) (by omega) (by omega) (by omega) t13 (by omega) t9 t10 t3 t4 t5 t6 t7
    rw [hT] at t2
    refine ⟨G2, M2, ?_, a2, a3, a4, fun u hu => by rw [a5 u (by omega), t8 u hu], fun hva => ?_⟩
    · rw [f_X9_assignAll_l7, eM, if_neg (nI_ge (by omega) (by omega)), t2, Option.bind_some, nI_1]
      exact a1
    · have hstep : f_X0_masterFor_l12 (nI a) (fx + 1) (nI L) w (nI v) X = f_X0_masterFor_l12 (nI a) fx (nI L1) (oN (G1 v)) (nI (v + 1)) X1 := by
        rw [f_X0_masterFor_l12, if_neg (nI_nlt hva (by omega)), x2.1, if_neg (nI_ge (by omega) (by omega)), t1, um_b2_some, nI_1]
        by_cases hz : oN (G1 v) = -1000000005
        · rw [if_pos hz] at t12
          rw [if_pos hz, t12]
        · rw [if_neg hz] at t12
          rw [if_neg hz, t12, nI_am]
      rw [hstep]
      by_cases e : v = a
      · subst e
        obtain ⟨fx, rfl⟩ : ∃ g, fx = g + 1 := ⟨fx - 1, by omega⟩
        refine ⟨X1, ?_, t3⟩
        rw [f_X0_masterFor_l12, if_pos (nI_lt (by omega) (by omega)), a5 v (by omega)]
      · exact a6 (by omega)
theorem oN_ {g : Nat} (hg : g ≤ 6) : f_X9_orNone (nI g + (-1)) M = some (oN g) := by
  unfold f_X9_orNone oN
  cases g with
  | zero =>
    have e : ¬ (0 : Int32) ≤ nI 0 + (-1) := by decide
    rw [if_neg e, if_pos rfl]
  | succ g => rw [nI_am, if_pos (nI_pos' (by omega)), if_neg (by omega), Nat.add_sub_cancel]
end GOB
theorem sim_goesR : sim_goes RR := by
  intro n X M a1 hR
  refine sm_out ?_
  have hs := hR.1
  have hk := kx_ hs
  have hN := hk.1
  have hQ := hk.2.1
  unfold f_X8_goes f_X9_goes
  refine sm_chk (ho_man hs.1 hs.2.1) (sm_ret ⟨rfl, hR⟩) (fun ⟨a, ha, ea⟩ => ?_)
  subst ea
  obtain ⟨X1, x1, x2, x3⟩ := x_ask hs
  obtain ⟨V, M1, b1, b2, b3, b4⟩ := m_mostGo hs
  have g := x_greatest hQ hN x3 (Nat.zero_le _) b2
  have hV : V ≤ 100 := Nat.le_trans (b2.1 (fun _ => false)) (ps_le hQ hN (fun q hq => (x3.2.2.1 q hq).2))
  obtain ⟨G', M', c1, c2, c3, c4, c5, c6⟩ := lo_all7 (X0 := X) (M0 := M) (T := V) hk rfl ha (nn (M.1 1) 2) 0 um_N um_N X1 M1 (fun _ => 0) (cq M) V (-1000000005 : Int32) (by omega) (by unfold um_N; omega) (by unfold um_N; omega) hV (by rw [sg_0, Nat.zero_add]) (fun u _ hu => absurd hu (by omega)) (fun q hq => by rw [st_0]; omega) x2 x3 b3 b4 (fun u _ hu => absurd hu (by omega))
  obtain ⟨X2, d1, d2⟩ := c6 (Nat.zero_le _)
  have ex : f_X0_masterFor (nI a) X1 = some (oN (G' a), X2) := by
    unfold f_X0_masterFor
    refine (congrArg (fun o => Option.bind o _) g).trans ?_
    rw [Option.bind_some]
    exact (congrArg (fun o => um_b2 o _) d1).trans rfl
  have em : f_X9_assignAll M = some M' := by
    unfold f_X9_assignAll
    rw [b1, um_b2_some]
    exact (congrArg (fun o => Option.bind o _) c1).trans rfl
  refine sm_xb x1 (sm_xb2 ex (sm_mb em (sm_mt (um_ix_nI (by omega) (by omega)) ?_)))
  rw [nI_clamp (by omega), c3 a ha]
  have hGa := c4 a ha
  exact sm_mb (oN_ (by omega)) (sm_ret ⟨rfl, RR_go hR d2 c2⟩)
