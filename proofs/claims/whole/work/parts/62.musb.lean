/-! LEVEL 2: musters, more -/
section MUT
variable {X X' M M' : um_S} {n k p z : Nat} {a b d : Int32}
theorem lo_zero (hk : k < 4) (v : Int32) : ∀ (i j fx fm : Nat) (X M : um_S), j + i = 24 → i < fx → i < fm → sm_S (f_X2_shape_l33 (nI k) v fx (nI j) X) (f_X9_muster_l69 (nI k) fm (nI j) M) (fun X' M' => X'.2 = X.2 ∧ (∀ q t, q ≠ 115 → X'.1 q t = X.1 q t) ∧ (∀ q t, q ≠ 6 → M'.1 q t = M.1 q t) ∧ (∀ t, X.1 115 t = M.1 6 t → X'.1 115 t = M'.1 6 t)) := by
  intro i
  induction i with
  | zero =>
    intro j fx fm X M hj hfx hfm
    obtain ⟨fx, rfl⟩ : ∃ f, fx = f + 1 := ⟨fx - 1, by omega⟩
    obtain ⟨fm, rfl⟩ : ∃ f, fm = f + 1 := ⟨fm - 1, by omega⟩
    rw [f_X2_shape_l33, f_X9_muster_l69]
    have e : (24 : Int32) ≤ nI j := nI_le (a := 24) (by omega) (by omega)
    exact sm_xt e (sm_mt e (sm_ret ⟨rfl, fun _ _ _ => rfl, fun _ _ _ => rfl, fun _ h => h⟩))
  | succ i ih =>
    intro j fx fm X M hj hfx hfm
    obtain ⟨fx, rfl⟩ : ∃ f, fx = f + 1 := ⟨fx - 1, by omega⟩
    obtain ⟨fm, rfl⟩ : ∃ f, fm = f + 1 := ⟨fm - 1, by omega⟩
    rw [f_X2_shape_l33, f_X9_muster_l69]
    have e : ¬ (24 : Int32) ≤ nI j := nI_ge (b := 24) (by omega) (by omega)
    refine sm_xf e (sm_mf e ?_)
    rw [lb24, nI_1, nI_clamp (by omega)]
    refine sm_xb (s_15 hk (by omega)) (sm_mt (um_ix_nI (by omega) (by omega)) (sm_ml ?_))
    refine sm_wk (ih (j + 1) fx fm _ _ (by omega) (by omega) (by omega)) (fun X' M' ⟨h1, h2, h3, h4⟩ => ⟨h1, fun q t hq => ?_, fun q t hq => ?_, fun t ht => h4 t ?_⟩)
    · rw [h2 q t hq, um_wr_nk hq]
    · rw [h3 q t hq, um_wr_nk hq]
    · by_cases e : t = 24 * k + j
      · subst e
        rw [um_wr_at, um_wr_at]
      · rw [um_wr_an e, um_wr_an e]
        exact ht
/-- a muster made anew -/
theorem mu_shape (hR : RR n X M) (hk : k < 4) (hz : z ≤ 24) {v : Int32} (hv : v = -1 ∨ v = 0 ∨ v = 1) : sm_S (f_X2_shape (nI k) v (nI z) X) ((f_X9_muster_l69 (nI k) um_N (0 : Int32) (um_wr (um_wr M 4 k v) 5 k (nI z))).bind fun σ15 => some (σ15.1 5 k, σ15)) (fun x y => x.1 = y.1 ∧ RR n x.2 y.2) := by
  have hmu := mu_of hR
  unfold f_X2_shape
  refine sm_xl (sm_xf (nI_pos (by omega)) (sm_xf (nI_ge hk (by omega)) (sm_xt (um_ix_nI hk (by omega)) (sm_xl ?_))))
  rw [nI_clamp (by omega)]
  refine sm_xb (s_14 hk) (sm_bind (lo_zero hk _ 24 0 um_N um_N _ _ (by omega) (by unfold um_N; omega) (by unfold um_N; omega)) (fun X' M' ⟨h1, h2, h3, h4⟩ => sm_ret ⟨?_, ?_⟩))
  · rw [h3 5 k (by omega), um_wr_at]
  · refine RR_mu hR (fun q j e1 e2 e3 e4 => ?_) (by rw [h1]; rfl) (fun q j e1 e2 e3 e4 => ?_) ⟨fun q hq => ?_, fun j hj => ?_⟩
    · rw [h2 q j e3, um_wr_nk e2, um_wr_nk e1]
    · rw [h3 q j e3, um_wr_nk e2, um_wr_nk e1]
    · rw [h2 13 q (by omega), h2 114 q (by omega), h3 4 q (by omega), h3 5 q (by omega), um_wr_nk (k2 := 13) (k := 114) (by omega), um_wr_nk (k2 := 4) (k := 5) (by omega)]
      by_cases e : q = k
      · subst e
        rw [um_wr_at, um_wr_at, um_wr_at, um_wr_at]
        exact ⟨rfl, hv, z, hz, rfl, rfl⟩
      · rw [um_wr_an e, um_wr_an e, um_wr_an e, um_wr_an e, um_wr_nk (by omega), um_wr_nk (by omega)]
        exact hmu.1 q hq
    · apply h4
      rw [um_wr_nk (by omega), um_wr_nk (by omega), um_wr_nk (by omega), um_wr_nk (by omega)]
      exact hmu.2 j hj
theorem i3 {a : Int32} (h1 : (-1 : Int32).toInt ≤ a.toInt) (h2 : a.toInt ≤ (1 : Int32).toInt) : a = -1 ∨ a = 0 ∨ a = 1 := by
  have e1 : (-1 : Int32).toInt = -1 := by decide
  have e2 : (1 : Int32).toInt = 1 := by decide
  rw [e1] at h1
  rw [e2] at h2
  rcases (show a.toInt = -1 ∨ a.toInt = 0 ∨ a.toInt = 1 by omega) with h | h | h
  · exact Or.inl (Int32.toInt_inj.mp h)
  · exact Or.inr (Or.inl (Int32.toInt_inj.mp h))
  · exact Or.inr (Or.inr (Int32.toInt_inj.mp h))
end MUT
theorem sim_musterR : sim_muster RR := by
  intro n X M a1 a2 a3 hR
  refine sm_out ?_
  unfold f_X8_muster f_X9_muster
  refine sm_chk mu_one (sm_ret ⟨rfl, hR⟩) (fun ⟨k, hk, ek⟩ => ?_)
  subst ek
  refine sm_chk (wi_ (by decide) (by decide)) (sm_ret ⟨rfl, hR⟩) (fun ⟨h1, h2⟩ => ?_)
  have hv := i3 h1 h2
  have hix := um_ix_nI hk (show 4 < 2 ^ 31 by omega)
  have hcl := nI_clamp (n := k) (by omega)
  refine sm_ml (sm_ml ?_)
  by_cases hm : a2 = -1
  · have n1 : a2 < 0 := by rw [hm]; decide
    have n2 : ¬ (0 : Int32) ≤ a2 := by rw [hm]; decide
    refine sm_xt hm (sm_mt n1 (sm_mt n1 (sm_mt hix (sm_ml (sm_ml (sm_mf n2 (sm_mt hix (sm_ml ?_))))))))
    rw [hcl]
    have h := mu_shape (z := 0) (v := -1) hR hk (by omega) (Or.inl rfl)
    obtain ⟨x, y, e1, e2, hq⟩ := h
    rw [← hm] at e2
    refine sm_xb2 (c := x.1) (d := x.2) e1 ?_
    obtain ⟨M', e3, e4⟩ := Option.bind_eq_some_iff.mp e2
    refine sm_mb e3 (sm_mt hix ?_)
    rw [e4]
    exact sm_ret hq
  · have hn : ¬ a2 < 0 := by rcases hv with h | h | h <;> subst h <;> first | exact absurd rfl hm | decide
    have hp : 0 ≤ a2 := by rcases hv with h | h | h <;> subst h <;> first | exact absurd rfl hm | decide
    refine sm_xf hm (sm_mf hn ?_)
    refine sm_if Iff.rfl (fun ha => ?_) (fun _ => sm_ret ⟨rfl, hR⟩)
    refine sm_mf hn ?_
    refine sm_if Iff.rfl (fun hb => ?_) (fun _ => sm_ret ⟨rfl, hR⟩)
    obtain ⟨z, hz, ez⟩ := nI_of2 (n := 24) (by decide) (fun h => absurd hb (by rw [Int32.le_iff_toInt_le]; rw [Int32.lt_iff_toInt_lt] at h; omega)) ha
    subst ez
    refine sm_mt hix (sm_ml (sm_ml (sm_mt hp (sm_mt hix (sm_ml ?_)))))
    rw [hcl]
    have h := mu_shape (z := z) hR hk hz hv
    obtain ⟨x, y, e1, e2, hq⟩ := h
    refine sm_xb2 (c := x.1) (d := x.2) e1 ?_
    obtain ⟨M', e3, e4⟩ := Option.bind_eq_some_iff.mp e2
    refine sm_mb e3 (sm_mt hix ?_)
    rw [e4]
    exact sm_ret hq
section MUV
variable {X X' M M' : um_S} {n k p z : Nat} {a b d : Int32}
theorem mu_must (h : mu X M) (hk : k < 4) (hp : p < 24) (e0 : f_X9_lacks (nI k) (nI p) M = some 0) : sm_S (f_X2_isMustered (nI k) (nI p) X) (f_X9_isMustered (nI k) (nI p) M) (fun x y => x = y) := by
  unfold f_X2_isMustered f_X9_isMustered
  rw [g_15 hk hp, x_sortOf hk, (h.1 k hk).1, h.2 _ (by omega), lb24, nI_clamp (by omega), nI_clamp (by omega)]
  refine sm_xb rfl (sm_xb rfl (sm_mb e0 (sm_mt rfl (sm_mt (um_ix_nI (by omega) (by omega)) (sm_mt (um_ix_nI hk (by omega)) (sm_xl (sm_ml ?_)))))))
  refine sm_if Iff.rfl (fun _ => ?_) (fun _ => ?_)
  · exact sm_if Iff.rfl (fun _ => sm_ret rfl) (fun _ => sm_ret rfl)
  · exact sm_if Iff.rfl (fun _ => sm_ret rfl) (fun _ => sm_ret rfl)
theorem mu_near (h : mu X M) (hp : p < 24) : ∀ (k fx fm : Nat), k ≤ 4 → k < fx → k < fm → sm_S (f_X2_nearest_l2 (nI p) X fx (nI k + (-1))) (f_X9_read_l16 (nI p) M fm (nI k + (-1))) (fun x y => (x = .inr () ∧ y = -1) ∨ ∃ j : Nat, j < 4 ∧ y = nI j ∧ x = .inl (M.1 6 (24 * j + p))) := by
  intro k
  induction k with
  | zero =>
    intro fx fm hk hfx hfm
    obtain ⟨fx, rfl⟩ : ∃ f, fx = f + 1 := ⟨fx - 1, by omega⟩
    obtain ⟨fm, rfl⟩ : ∃ f, fm = f + 1 := ⟨fm - 1, by omega⟩
    rw [f_X2_nearest_l2, f_X9_read_l16]
    have n1 : nI 0 + (-1 : Int32) < 0 := by decide
    exact sm_xt n1 (sm_mt n1 (sm_ret (Or.inl ⟨rfl, by decide⟩)))
  | succ k ih =>
    intro fx fm hk hfx hfm
    obtain ⟨fx, rfl⟩ : ∃ f, fx = f + 1 := ⟨fx - 1, by omega⟩
    obtain ⟨fm, rfl⟩ : ∃ f, fm = f + 1 := ⟨fm - 1, by omega⟩
    have ih2 := ih fx fm (by omega) (by omega) (by omega)
    rw [f_X2_nearest_l2, f_X9_read_l16, nI_am]
    have n1 : ¬ nI k < 0 := nI_pos (by omega)
    refine sm_xf n1 (sm_mf n1 ?_)
    obtain ⟨x, y, e1, e2, e3, e4⟩ := mu_find (a := nI k) (b := nI p) h
    subst e3
    refine sm_xb e1 ?_
    by_cases h0 : x = 0
    · subst h0
      refine sm_xt rfl (sm_bind (mu_must h (by omega) hp e2) (fun u v e => ?_))
      subst e
      cases u with
      | false => exact sm_xF (sm_mF ih2)
      | true =>
        refine sm_xT (sm_mT (sm_xb (g_15 (by omega) hp) (sm_ret (Or.inr ⟨k, by omega, rfl, ?_⟩))))
        rw [h.2 _ (by omega)]
    · refine sm_xf h0 (sm_mb (c := false) ?_ (sm_mF ih2))
      unfold f_X9_isMustered
      rw [e2, Option.bind_some, if_neg h0]
end MUV
theorem sim_readR : sim_read RR := by
  intro n X M a1 a2 hR
  refine sm_ouv ?_ hR
  have hmu := mu_of hR
  unfold f_X8_read f_X9_read
  refine sm_bind (mu_find hmu) (fun x y ⟨e, hx⟩ => ?_)
  subst e
  refine sm_if Iff.rfl (fun h0 => ?_) (fun _ => sm_ret rfl)
  obtain ⟨k, p, z, hk, hp, hz, e1, e2, e3, e4⟩ := hx h0
  subst e1
  subst e2
  unfold f_X2_nearest
  obtain ⟨x, y, h1, h2, h3⟩ := mu_near hmu (p := p) (by omega) (k + 1) um_N um_N (by omega) (by unfold um_N; omega) (by unfold um_N; omega)
  rw [nI_am] at h1 h2
  refine sm_mb h2 ?_
  rw [h1]
  rcases h3 with ⟨e5, e6⟩ | ⟨j, hj, e5, e6⟩
  · subst e5
    subst e6
    have n1 : ¬ (0 : Int32) ≤ -1 := by decide
    exact sm_xb rfl (sm_mf n1 (sm_ret rfl))
  · subst e5
    subst e6
    rw [lb24, nI_clamp (by omega)]
    exact sm_xb rfl (sm_mt (nI_pos' (by omega)) (sm_mt (um_ix_nI (by omega) (by omega)) (sm_ret rfl)))
section MUW
variable {X X' M M' : um_S} {n k p z : Nat} {a b d : Int32}
theorem lo_take (hk : k < 4) {w k2 : Nat} (hp : p + w ≤ 24) (v3 v4 : Int32) : ∀ (i j fx fm : Nat) (X M : um_S), j + i = w → i < fx → i < fm → mu X M → (∀ t, t < j → X.1 16 t = M.1 14 t) → sm_S (f_X2_move_l3 (nI k) (nI p) v3 v4 (nI w) fx (nI j) X) (f_X9_copy_l113 (nI k) (nI p) v3 v4 (nI w) fm (nI j) M) (fun X' M' => X'.2 = X.2 ∧ (∀ q t, q ≠ 16 → X'.1 q t = X.1 q t) ∧ (∀ q t, q ≠ 14 → M'.1 q t = M.1 q t) ∧ (∀ t, t < w → X'.1 16 t = M'.1 14 t)) := by
  intro i
  induction i with
  | zero =>
    intro j fx fm X M hj hfx hfm hmu hb
    obtain ⟨fx, rfl⟩ : ∃ f, fx = f + 1 := ⟨fx - 1, by omega⟩
    obtain ⟨fm, rfl⟩ : ∃ f, fm = f + 1 := ⟨fm - 1, by omega⟩
    rw [f_X2_move_l3, f_X9_copy_l113]
    have e : nI w ≤ nI j := nI_le (by omega) (by omega)
    exact sm_xt e (sm_mt e (sm_ret ⟨rfl, fun _ _ _ => rfl, fun _ _ _ => rfl, fun t h => hb t (by omega)⟩))
  | succ i ih =>
    intro j fx fm X M hj hfx hfm hmu hb
    obtain ⟨fx, rfl⟩ : ∃ f, fx = f + 1 := ⟨fx - 1, by omega⟩
    obtain ⟨fm, rfl⟩ : ∃ f, fm = f + 1 := ⟨fm - 1, by omega⟩
    rw [f_X2_move_l3, f_X9_copy_l113]
    have e : ¬ nI w ≤ nI j := nI_ge (by omega) (by omega)
    refine sm_xf e (sm_mf e (sm_xf (nI_ge (by omega) (by omega)) ?_))
    rw [nI_add p j, lb24, nI_add (24 * k + p) j, nI_1, nI_clamp (n := 24 * k + p + j) (by omega), nI_clamp (n := j) (by omega)]
    have hix := um_ix_nI (n := j) (N := 24) (by omega) (by omega)
    refine sm_xb (g_15 hk (by omega)) (sm_xt hix (sm_xl (sm_mt (um_ix_nI (by omega) (by omega)) (sm_mt hix (sm_ml ?_)))))
    have ev : X.1 115 (24 * k + (p + j)) = M.1 6 (24 * k + p + j) := by
      rw [hmu.2 _ (by omega), show 24 * k + (p + j) = 24 * k + p + j by omega]
    rw [ev]
    refine sm_wk (ih (j + 1) fx fm _ _ (by omega) (by omega) (by omega) ⟨fun q hq => ?_, fun q hq => ?_⟩ (fun t ht => ?_)) (fun X' M' ⟨h1, h2, h3, h4⟩ => ⟨h1, fun q t hq => ?_, fun q t hq => ?_, h4⟩)
    · rw [um_wr_nk (by omega), um_wr_nk (by omega), um_wr_nk (by omega), um_wr_nk (by omega)]
      exact hmu.1 q hq
    · rw [um_wr_nk (by omega), um_wr_nk (by omega)]
      exact hmu.2 q hq
    · by_cases e : t = j
      · subst e
        rw [um_wr_at, um_wr_at]
      · rw [um_wr_an e, um_wr_an e]
        exact hb t (by omega)
    · rw [h2 q t hq, um_wr_nk hq]
    · rw [h3 q t hq, um_wr_nk hq]
theorem lo_give (hk : k < 4) {w : Nat} (hp : p + w ≤ 24) : ∀ (i j fx fm : Nat) (X M : um_S), j + i = w → i < fx → i < fm → (∀ t, t < w → X.1 16 t = M.1 14 t) → sm_S (f_X2_move_l48 (nI k) (nI p) (nI w) fx (nI j) X) (f_X9_copy_l150 (nI k) (nI p) (nI w) fm (nI j) M) (fun X' M' => X'.2 = X.2 ∧ (∀ q t, q ≠ 115 → X'.1 q t = X.1 q t) ∧ (∀ q t, q ≠ 6 → M'.1 q t = M.1 q t) ∧ (∀ t, X.1 115 t = M.1 6 t → X'.1 115 t = M'.1 6 t)) := by
  intro i
  induction i with
  | zero =>
    intro j fx fm X M hj hfx hfm hb
    obtain ⟨fx, rfl⟩ : ∃ f, fx = f + 1 := ⟨fx - 1, by omega⟩
    obtain ⟨fm, rfl⟩ : ∃ f, fm = f + 1 := ⟨fm - 1, by omega⟩
    rw [f_X2_move_l48, f_X9_copy_l150]
    have e : nI w ≤ nI j := nI_le (by omega) (by omega)
    exact sm_xt e (sm_mt e (sm_ret ⟨rfl, fun _ _ _ => rfl, fun _ _ _ => rfl, fun t h => h⟩))
  | succ i ih =>
    intro j fx fm X M hj hfx hfm hb
    obtain ⟨fx, rfl⟩ : ∃ f, fx = f + 1 := ⟨fx - 1, by omega⟩
    obtain ⟨fm, rfl⟩ : ∃ f, fm = f + 1 := ⟨fm - 1, by omega⟩
    rw [f_X2_move_l48, f_X9_copy_l150]
    have e : ¬ nI w ≤ nI j := nI_ge (by omega) (by omega)
    refine sm_xf e (sm_mf e (sm_xf (nI_ge (by omega) (by omega)) ?_))
    rw [nI_add p j, lb24, nI_add (24 * k + p) j, nI_1, nI_clamp (n := 24 * k + p + j) (by omega), nI_clamp (n := j) (by omega)]
    have hix := um_ix_nI (n := j) (N := 24) (by omega) (by omega)
    refine sm_xt hix (sm_xb (s_15 hk (by omega)) (sm_mt hix (sm_mt (um_ix_nI (by omega) (by omega)) (sm_ml ?_))))
    rw [hb j (by omega), show 24 * k + (p + j) = 24 * k + p + j by omega]
    refine sm_wk (ih (j + 1) fx fm _ _ (by omega) (by omega) (by omega) (fun t ht => ?_)) (fun X' M' ⟨h1, h2, h3, h4⟩ => ⟨h1, fun q t hq => ?_, fun q t hq => ?_, fun t ht => h4 t ?_⟩)
    · rw [um_wr_nk (by omega), um_wr_nk (by omega)]
      exact hb t ht
    · rw [h2 q t hq, um_wr_nk hq]
    · rw [h3 q t hq, um_wr_nk hq]
    · by_cases e : t = 24 * k + p + j
      · subst e
        rw [um_wr_at, um_wr_at]
      · rw [um_wr_an e, um_wr_an e]
        exact ht
theorem cp_i {a b : Int32} : (a.toInt64 + b.toInt64).toInt = a.toInt + b.toInt := by
  have h1 := Int32.toInt_lt a
  have h2 := Int32.le_toInt a
  have h3 := Int32.toInt_lt b
  have h4 := Int32.le_toInt b
  rw [Int64.toInt_add, Int32.toInt_toInt64, Int32.toInt_toInt64, Int.bmod_def]
  split <;> omega
theorem cp_le (hz : z ≤ 24) : lg_cmp (a.toInt64 + b.toInt64) ((nI z).toInt64) ≤ 0 ↔ a.toInt + b.toInt ≤ z := by
  rw [lg_cmp_le, Int64.le_iff_toInt_le, cp_i, Int32.toInt_toInt64, nI_toInt (by omega)]
theorem cp_gt (hz : z ≤ 24) : 0 < lg_cmp (a.toInt64 + b.toInt64) ((nI z).toInt64) ↔ ¬ a.toInt + b.toInt ≤ z := by
  rw [lg_cmp_gt, Int64.lt_iff_toInt_lt, cp_i, Int32.toInt_toInt64, nI_toInt (by omega)]
  omega
end MUW
theorem sim_copyR : sim_copy RR := by
  intro n X M a1 a2 a3 a4 a5 hR
  refine sm_out ?_
  have hmu := mu_of hR
  unfold f_X8_copy f_X9_copy
  refine sm_chk mu_one (sm_ret ⟨rfl, hR⟩) (fun ⟨k, hk, ek⟩ => ?_)
  subst ek
  refine sm_chk mu_one (sm_ret ⟨rfl, hR⟩) (fun ⟨r, hr, er⟩ => ?_)
  subst er
  have hix := um_ix_nI hk (show 4 < 2 ^ 31 by omega)
  have hcl := nI_clamp (n := k) (by omega)
  have hiy := um_ix_nI hr (show 4 < 2 ^ 31 by omega)
  have hcm := nI_clamp (n := r) (by omega)
  obtain ⟨f1, f2, z, hz, ex, em⟩ := hmu.1 k hk
  obtain ⟨g1, g2, y, hy, ey, en⟩ := hmu.1 r hr
  have h0 : (0 : Int32).toInt = 0 := by decide
  rw [hcl, hcm]
  refine sm_mt hix ?_
  rw [x_isMissing hk, x_isMissing hr, f1, g1]
  refine sm_xb rfl ?_
  rcases f2 with f2 | f2
  · rw [decide_eq_true f2]
    exact sm_xT (sm_mt (by rw [f2]; decide) (sm_ret ⟨rfl, hR⟩))
  · have fn1 : M.1 4 k ≠ -1 := by rcases f2 with e | e <;> rw [e] <;> decide
    have fn0 : ¬ M.1 4 k < 0 := by rcases f2 with e | e <;> rw [e] <;> decide
    rw [decide_eq_false fn1]
    refine sm_xF (sm_xb rfl (sm_mf fn0 (sm_mt hiy ?_)))
    rcases g2 with g2 | g2
    · rw [decide_eq_true g2]
      exact sm_xT (sm_mf (by rw [g2]; decide) (sm_ret ⟨rfl, hR⟩))
    · have gn1 : M.1 4 r ≠ -1 := by rcases g2 with e | e <;> rw [e] <;> decide
      have gn0 : 0 ≤ M.1 4 r := by rcases g2 with e | e <;> rw [e] <;> decide
      rw [decide_eq_false gn1]
      refine sm_xF (sm_mt gn0 (sm_mt hix (sm_mt hiy ?_)))
      unfold f_X2_alike
      rw [x_sortOf hk, x_sortOf hr, f1, g1]
      by_cases hs : M.1 4 k = M.1 4 r
      · refine sm_mt hs (sm_xb (c := true) (by rw [Option.bind_some, Option.bind_some, if_pos hs]) (sm_xT ?_))
        rw [x_hasRow hk hz ex, x_hasRow hr hy ey, em, en]
        by_cases p1 : a2 < 0
        · refine sm_mt p1 (sm_xb rfl ?_)
          rw [Int32.lt_iff_toInt_lt, h0] at p1
          rw [decide_eq_false (by omega)]
          exact sm_xF (sm_ret ⟨rfl, hR⟩)
        · refine sm_mf p1 ?_
          by_cases p2 : a4 < 0
          · refine sm_mt p2 (sm_xb rfl ?_)
            rw [Int32.lt_iff_toInt_lt, h0] at p2
            refine sm_xi (fun _ => sm_ret ⟨rfl, hR⟩) (fun _ => sm_xb rfl ?_)
            rw [decide_eq_false (by omega)]
            exact sm_xF (sm_ret ⟨rfl, hR⟩)
          · refine sm_mf p2 ?_
            by_cases p3 : a5 < 0
            · refine sm_mt p3 (sm_xb rfl ?_)
              rw [Int32.lt_iff_toInt_lt, h0] at p3
              rw [decide_eq_false (by omega)]
              exact sm_xF (sm_ret ⟨rfl, hR⟩)
            · refine sm_mf p3 (sm_mt hix ?_)
              rw [Int32.lt_iff_toInt_lt, h0] at p1 p2 p3
              by_cases p4 : a2.toInt + a5.toInt ≤ z
              · refine sm_mf (fun h => (cp_gt hz).mp h p4) (sm_mt hiy (sm_xb rfl ?_))
                rw [decide_eq_true (by omega)]
                refine sm_xT (sm_xb rfl ?_)
                by_cases p5 : a4.toInt + a5.toInt ≤ y
                · refine sm_mt ((cp_le hy).mpr p5) ?_
                  rw [decide_eq_true (by omega)]
                  refine sm_xT ?_
                  obtain ⟨b, hb, eb⟩ := nI_ofT (a := a2) (u := 24) (by omega) (by omega)
                  obtain ⟨c, hc, ec⟩ := nI_ofT (a := a4) (u := 24) (by omega) (by omega)
                  obtain ⟨w, hw, ew⟩ := nI_ofT (a := a5) (u := 24) (by omega) (by omega)
                  subst eb
                  subst ec
                  subst ew
                  rw [nI_toInt (by omega), nI_toInt (by omega)] at p4 p5
                  have T := lo_take hk (k2 := 0) (p := b) (w := w) (by omega) (nI r) (nI c) w 0 um_N um_N X M (by omega) (by unfold um_N; omega) (by unfold um_N; omega) hmu (fun t ht => absurd ht (by omega))
                  obtain ⟨X1, M1, t1, t2, t3, t4, t5, t6⟩ := T
                  have G := lo_give hr (p := c) (w := w) (by omega) w 0 um_N um_N X1 M1 (by omega) (by unfold um_N; omega) (by unfold um_N; omega) t6
                  obtain ⟨X2, M2, s1, s2, s3, s4, s5, s6⟩ := G
                  refine sm_mb t2 (sm_mb s2 (sm_xb (c := X2) ?_ (sm_ret ⟨rfl, ?_⟩)))
                  · unfold f_X2_move
                    exact (congrArg (fun o => Option.bind o _) t1).trans ((congrArg (fun o => Option.bind o _) s1).trans rfl)
                  · refine RR_mu hR (fun q j e1 e2 e3 e4 => ?_) (by rw [s3, t3]) (fun q j e1 e2 e3 e4 => ?_) ⟨fun q hq => ?_, fun j hj => ?_⟩
                    · rw [s4 q j e3, t4 q j e4]
                    · rw [s5 q j e3, t5 q j e4]
                    · rw [s4 13 q (by omega), t4 13 q (by omega), s4 114 q (by omega), t4 114 q (by omega), s5 4 q (by omega), t5 4 q (by omega), s5 5 q (by omega), t5 5 q (by omega)]
                      exact hmu.1 q hq
                    · apply s6
                      rw [t4 115 j (by omega), t5 6 j (by omega)]
                      exact hmu.2 j hj
                · refine sm_mf (fun h => p5 ((cp_le hy).mp h)) ?_
                  rw [decide_eq_false (by omega)]
                  exact sm_xF (sm_ret ⟨rfl, hR⟩)
              · refine sm_mt ((cp_gt hz).mpr p4) (sm_xb rfl ?_)
                rw [decide_eq_false (by omega)]
                exact sm_xF (sm_ret ⟨rfl, hR⟩)
      · refine sm_mf hs (sm_xb (c := false) (by rw [Option.bind_some, Option.bind_some, if_neg hs]) (sm_xF (sm_ret ⟨rfl, hR⟩)))
