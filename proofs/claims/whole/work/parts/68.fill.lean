/-! LEVEL 2: who goes to whom: the model fills -/
/-- the settled alone -/
def gz (f : Nat) (G : Nat → Nat) : Nat → Nat := fun u => if u < f then G u else 0
/-- how many of the settled go -/
def sg (N f : Nat) (G : Nat → Nat) : Nat := cnp (fun u => decide (u < f) && decide (G u ≠ 0)) N
/-- the least of all that can pass -/
def mn (N Q f : Nat) (op : Nat → Nat → Bool) (h : Nat → Nat) (V : Nat) : Prop := (∀ S, V ≤ ps N Q f op h S) ∧ ∃ T, V = ps N Q f op h T
section FIL
variable {M0 M M' : um_S} {N Q f v q d u : Nat} {op : Nat → Nat → Bool} {C G G' G2 h : Nat → Nat} {met met0 met' met2 T : Nat → Bool} {s : Nat → Int32} {w : Int32}
theorem st_gz : st N f (gz f G) q = st N f G q := by
  unfold st gz
  refine cnp_congr N (fun u _ => ?_)
  by_cases e : u < f
  · rw [if_pos e]
  · rw [decide_eq_false e, Bool.false_and, Bool.false_and]
theorem cg_gz : cg (gz f G) N q = st N f G q := by
  unfold cg st gz
  refine cnp_congr N (fun u _ => ?_)
  by_cases e : u < f
  · rw [if_pos e, decide_eq_true e, Bool.true_and]
  · rw [if_neg e, decide_eq_false e, Bool.false_and]
    exact decide_eq_false (by omega)
theorem st_congr (hg : ∀ u, u < f → G' u = G u) : st N f G' q = st N f G q := by
  unfold st
  refine cnp_congr N (fun u _ => ?_)
  by_cases e : u < f
  · rw [hg u e]
  · rw [decide_eq_false e, Bool.false_and, Bool.false_and]
theorem sg_congr (hg : ∀ u, u < f → G' u = G u) : sg N f G' = sg N f G := by
  unfold sg
  refine cnp_congr N (fun u _ => ?_)
  by_cases e : u < f
  · rw [hg u e]
  · rw [decide_eq_false e, Bool.false_and, Bool.false_and]
theorem tot_ : cnp (fun u => decide (G u ≠ 0)) N = sg N f G + mu_ N f G := by
  unfold sg mu_
  rw [cnp_split _ (fun u => decide (u < f)) N]
  congr 1
  · exact cnp_congr N (fun u _ => Bool.and_comm _ _)
  · refine cnp_congr N (fun u _ => ?_)
    rw [Bool.and_comm]
    congr 1
    by_cases e : u < f
    · rw [decide_eq_true e, decide_eq_false (p := f ≤ u) (by omega)]; rfl
    · rw [decide_eq_false e, decide_eq_true (p := f ≤ u) (by omega)]; rfl
theorem lo_f4 (hk : kx s N Q op C) (e1 : M0.1 1 = s) (hks : ks M0 N f) : ∀ (i j fu : Nat) (M : um_S), j + i = N → i < fu → kf M0 M → (∀ u, u < N → u < j ∨ u < f → M.1 11 u = nI (gz f G u) + (-1)) → ∃ M', f_X9_fill_l4 w fu (nI j) M = some M' ∧ kf M0 M' ∧ kg M' N (gz f G) := by
  have hN := hk.1
  have k2 := hk.2.2.1
  intro i
  induction i with
  | zero =>
    intro j fu M hj hfu h1 h2
    obtain ⟨fu, rfl⟩ : ∃ g, fu = g + 1 := ⟨fu - 1, by omega⟩
    have eM : M.1 1 2 = nI N := by rw [h1 1 2 (by omega) (by omega), e1, k2]
    refine ⟨M, ?_, h1, fun u hu => h2 u hu (Or.inl (by omega))⟩
    rw [f_X9_fill_l4, eM, if_pos (nI_le (by omega) (by omega))]
  | succ i ih =>
    intro j fu M hj hfu h1 h2
    obtain ⟨fu, rfl⟩ : ∃ g, fu = g + 1 := ⟨fu - 1, by omega⟩
    have eM : M.1 1 2 = nI N := by rw [h1 1 2 (by omega) (by omega), e1, k2]
    have hix : um_ix (nI j) 14 = true := um_ix_nI (by omega) (by omega)
    have eS : M.1 12 j = if j < f then 1 else 0 := by rw [h1 12 j (by omega) (by omega)]; exact hks j (by omega)
    have nx : ∀ x : Int32, x = nI (gz f G j) + (-1) → ∃ M', f_X9_fill_l4 w fu (nI (j + 1)) (um_wr M 11 j x) = some M' ∧ kf M0 M' ∧ kg M' N (gz f G) := by
      intro x ex
      refine ih (j + 1) fu _ (by omega) (by omega) (kf_wr h1 (Or.inl rfl)) (fun u hu hd => ?_)
      by_cases e : u = j
      · subst e
        rw [um_wr_at, ex]
      · rw [um_wr_an e]
        exact h2 u hu (by omega)
    rw [f_X9_fill_l4, eM, if_neg (nI_ge (by omega) (by omega)), if_pos hix, if_pos hix, if_pos hix, nI_clamp (n := j) (by omega), eS, nI_1]
    by_cases hjf : j < f
    · rw [if_pos hjf, if_neg (by decide), if_pos hix]
      exact nx _ (h2 j (by omega) (Or.inr hjf))
    · rw [if_neg hjf, if_pos rfl]
      refine nx _ ?_
      unfold gz
      rw [if_neg hjf]
      decide
theorem lo_f68 {v1 v2 : Int32} : ∀ (i j fu : Nat) (M : um_S), j + i = 6 → i < fu → kf M0 M → kg M N G → (∀ q, q < j → M.1 13 q = 0) → ∃ M', f_X9_fill_l68 v1 v2 fu (nI j) M = some M' ∧ kf M0 M' ∧ kg M' N G ∧ km M' (fun _ => false) := by
  intro i
  induction i with
  | zero =>
    intro j fu M hj hfu h1 h2 h3
    obtain ⟨fu, rfl⟩ : ∃ g, fu = g + 1 := ⟨fu - 1, by omega⟩
    have e : (6 : Int32) ≤ nI j := nI_le (a := 6) (by omega) (by omega)
    refine ⟨M, ?_, h1, h2, fun q hq => ?_⟩
    · rw [f_X9_fill_l68, if_pos e]
    · rw [h3 q (by omega)]
      rfl
  | succ i ih =>
    intro j fu M hj hfu h1 h2 h3
    obtain ⟨fu, rfl⟩ : ∃ g, fu = g + 1 := ⟨fu - 1, by omega⟩
    have e : ¬ (6 : Int32) ≤ nI j := nI_ge (b := 6) (by omega) (by omega)
    rw [f_X9_fill_l68, if_neg e, if_pos (um_ix_nI (by omega) (by omega)), nI_clamp (n := j) (by omega), nI_1]
    refine ih (j + 1) fu _ (by omega) (by omega) (kf_wr h1 (Or.inr rfl)) (kg_13 h2) (fun q hq => ?_)
    by_cases e : q = j
    · subst e
      rw [um_wr_at]
      rfl
    · rw [um_wr_an e]
      exact h3 q (by omega)
theorem lo_f47 {v1 : Int32} {G0 : Nat → Nat} (hk : kx s N Q op C) (e1 : M0.1 1 = s) (hks : ks M0 N f) : ∀ (i j fu : Nat) (M : um_S) (G : Nat → Nat) (T : Nat → Bool), j + i = N → i < fu → kf M0 M → kg M N G → va N Q f op C G → (∀ u, j ≤ u → f ≤ u → u < N → G u = 0) → (∀ u, u < f → G u = G0 u) → ti N Q f j op C G T → ∃ M' G' T', f_X9_fill_l47 v1 fu (nI j) M = some M' ∧ kf M0 M' ∧ kg M' N G' ∧ va N Q f op C G' ∧ (∀ u, u < f → G' u = G0 u) ∧ ti N Q f N op C G' T' := by
  have hN := hk.1
  have hQ := hk.2.1
  have k2 := hk.2.2.1
  intro i
  induction i with
  | zero =>
    intro j fu M G T hj hfu h1 h2 h3 h4 h5 h6
    obtain ⟨fu, rfl⟩ : ∃ g, fu = g + 1 := ⟨fu - 1, by omega⟩
    have eM : M.1 1 2 = nI N := by rw [h1 1 2 (by omega) (by omega), e1, k2]
    refine ⟨M, G, T, ?_, h1, h2, h3, h5, by rw [show j = N by omega] at h6; exact h6⟩
    rw [f_X9_fill_l47, eM, if_pos (nI_le (by omega) (by omega))]
  | succ i ih =>
    intro j fu M G T hj hfu h1 h2 h3 h4 h5 h6
    obtain ⟨fu, rfl⟩ : ∃ g, fu = g + 1 := ⟨fu - 1, by omega⟩
    have eM : M.1 1 2 = nI N := by rw [h1 1 2 (by omega) (by omega), e1, k2]
    have hix : um_ix (nI j) 14 = true := um_ix_nI (by omega) (by omega)
    have eS : M.1 12 j = if j < f then 1 else 0 := by rw [h1 12 j (by omega) (by omega)]; exact hks j (by omega)
    rw [f_X9_fill_l47, eM, if_neg (nI_ge (by omega) (by omega)), if_pos hix, nI_clamp (n := j) (by omega), eS, nI_1]
    by_cases hjf : j < f
    · rw [if_pos hjf, if_neg (by decide)]
      exact ih (j + 1) fu M G T (by omega) (by omega) h1 h2 h3 (fun u hu => h4 u (by omega)) h5 ⟨h6.1, fun u hu huj huN => h6.2 u hu (by omega) huN⟩
    · rw [if_neg hjf, if_pos rfl]
      obtain ⟨M2, a1, a2, a3, a4⟩ := lo_f68 (v1 := v1) (v2 := nI j) 6 0 um_N M (by omega) (by unfold um_N; omega) h1 h2 (fun q hq => absurd hq (by omega))
      have a0 : f_X9_fill_l68 v1 (nI j) um_N (0 : Int32) M = some M2 := a1
      have hcn : cnp (fun q => !(fun _ : Nat => false) q) Q < 8 := Nat.lt_of_le_of_lt (cnp_le _ Q) (by omega)
      obtain ⟨b, M5, G5, met5, c1, c2, c3, c4, c5, c6⟩ := cs_all (f := f) hk 8 M0 M2 G (fun _ => false) j e1 hks a2 a3 a4 h3 (by omega) (by omega) (h4 j (Nat.le_refl j) (by omega) (by omega)) hcn
      rw [a0, Option.bind_some, c1, um_b2_some]
      cases b with
      | false =>
        obtain ⟨d1, d2⟩ := c5 rfl
        subst d1
        exact ih (j + 1) fu M5 G5 _ (by omega) (by omega) c2 c3 h3 (fun u hu => h4 u (by omega)) h5 (ti_fail h3 h6 d2)
      | true =>
        have d := c6 rfl
        refine ih (j + 1) fu M5 G5 T (by omega) (by omega) c2 c3 d.2.2.2 (fun u hu hf huN => ?_) (fun u hu => by rw [d.1 u hu]; exact h5 u hu) (ti_come (by omega) (by omega) h3 (fun u hu huN => h4 u hu (by omega) huN) h6 d)
        refine Decidable.byContradiction (fun z => ?_)
        rcases (d.2.1 u huN).mp z with z | z
        · exact z (h4 u (by omega) hf huN)
        · omega
theorem g_neg {a : Nat} (ha : a < 2 ^ 20) : nI a + (-1) < 0 ↔ a = 0 := by
  cases a with
  | zero => exact ⟨fun _ => rfl, fun _ => by decide⟩
  | succ a =>
    rw [nI_am]
    exact ⟨fun z => absurd z (nI_pos (by omega)), fun z => by omega⟩
theorem lo_f101 (hk : kx s N Q op C) (e1 : M.1 1 = s) (hG : ∀ u, u < N → G u ≤ Q) (h : kg M N G) : ∀ (i j fu : Nat), j + i = N → i < fu → f_X9_fill_l101 M fu (nI (cnp (fun u => decide (G u ≠ 0)) j)) (nI j) = some (nI (cnp (fun u => decide (G u ≠ 0)) N)) := by
  have hN := hk.1
  have hQ := hk.2.1
  have k2 := hk.2.2.1
  intro i
  induction i with
  | zero =>
    intro j fu hj hfu
    obtain ⟨fu, rfl⟩ : ∃ g, fu = g + 1 := ⟨fu - 1, by omega⟩
    rw [f_X9_fill_l101, e1, k2, if_pos (nI_le (by omega) (by omega)), show j = N by omega]
  | succ i ih =>
    intro j fu hj hfu
    obtain ⟨fu, rfl⟩ : ∃ g, fu = g + 1 := ⟨fu - 1, by omega⟩
    rw [f_X9_fill_l101, e1, k2, if_neg (nI_ge (by omega) (by omega)), if_pos (um_ix_nI (by omega) (by omega)), nI_clamp (by omega), h j (by omega)]
    have hle := hG j (by omega)
    have nx := ih (j + 1) fu (by omega) (by omega)
    unfold um_let
    try dsimp only
    rw [nI_1, nI_1, ad_0]
    have es : cnp (fun u => decide (G u ≠ 0)) (j + 1) = cnp (fun u => decide (G u ≠ 0)) j + (if decide (G j ≠ 0) = true then 1 else 0) := rfl
    by_cases e : G j = 0
    · rw [decide_eq_false (fun z => z e), if_neg (by decide)] at es
      rw [es] at nx
      rw [if_pos ((g_neg (by omega)).mpr e)]
      exact nx
    · rw [decide_eq_true e, if_pos rfl] at es
      rw [es] at nx
      rw [if_neg (fun z => e ((g_neg (by omega)).mp z))]
      exact nx
theorem m_fill (hk : kx s N Q op C) (e1 : M.1 1 = s) (hks : ks M N f) (hg : ∀ u, u < N → u < f → M.1 11 u = nI (G u) + (-1)) (hG : ∀ u, u < N → u < f → G u ≤ Q) (hh : ∀ q, q < Q → h q + st N f G q = C q) : ∃ V M' G', f_X9_fill M = some (nI (sg N f G + V), M') ∧ mn N Q f op h V ∧ kf M M' ∧ kg M' N G' ∧ ∀ u, u < f → G' u = G u := by
  have hN := hk.1
  have hv : va N Q f op C (gz f G) := by
    refine ⟨fun u hu => ?_, fun u q hu _ hq => ?_, fun q hq => ?_⟩
    · unfold gz
      split
      · rename_i z
        exact hG u hu z
      · omega
    · unfold gz at hq
      rw [if_neg (by omega)] at hq
      omega
    · rw [cg_gz]
      have := hh q hq
      omega
  obtain ⟨M1, a1, a2, a3⟩ := lo_f4 (w := 0) (G := G) hk e1 hks N 0 um_N M (by omega) (by unfold um_N; omega) (fun _ _ _ _ => rfl) (fun u hu hd => by
    rw [hg u hu (by omega)]
    unfold gz
    rw [if_pos (by omega)])
  obtain ⟨M2, G2, T2, b1, b2, b3, b4, b5, b6⟩ := lo_f47 (v1 := 0) (G0 := gz f G) hk e1 hks N 0 um_N M1 (gz f G) (fun _ => false) (by omega) (by unfold um_N; omega) a2 a3 hv (fun u _ hu _ => by unfold gz; rw [if_neg (by omega)]) (fun _ _ => rfl) ⟨fun q _ z => (by cases z), fun u _ z => absurd z (by omega)⟩
  have eR : M2.1 1 = s := by rw [← e1]; exact funext fun x => b2 1 x (by omega) (by omega)
  have c1 := lo_f101 hk eR b4.1 b3 N 0 um_N (by omega) (by unfold um_N; omega)
  have b7 : ∀ u, u < f → G2 u = G u := fun u hu => by
    rw [b5 u hu]
    unfold gz
    rw [if_pos hu]
  have hh2 : ∀ q, q < Q → h q + st N f G2 q = C q := fun q hq => by rw [st_congr b7]; exact hh q hq
  refine ⟨mu_ N f G2, M2, G2, ?_, ⟨fun S => mu_le b4 hh2 S, T2, mu_eq b4 hh2 b6⟩, b2, b3, b7⟩
  have et : cnp (fun u => decide (G2 u ≠ 0)) N = sg N f G + mu_ N f G2 := by rw [tot_ (f := f), sg_congr b7]
  rw [← et]
  unfold f_X9_fill
  exact (congrArg (fun o => Option.bind o _) a1).trans ((congrArg (fun o => Option.bind o _) b1).trans ((congrArg (fun o => Option.bind o _) c1).trans rfl))
theorem mn_uniq {V V' : Nat} (h1 : mn N Q f op h V) (h2 : mn N Q f op h V') : V = V' := by
  obtain ⟨a1, T1, a2⟩ := h1
  obtain ⟨b1, T2, b2⟩ := h2
  have := a1 T2
  have := b1 T1
  omega
end FIL
