/-! LEVEL 2: texts: a new text; text -/
section TXN
variable {X X1 X3 M M1 : um_S} {k kq kk z base n i q w L Pm : Nat} {a1 : Int32} {R : List Int32} {P : List (Int32 × Int32)}
theorem al_st : ∀ {R : List Int32} {P : List (Int32 × Int32)}, pile kq X R → pil2 M base P → al k R P → ∀ j, j < R.length → tx_st k (X.1 kq j) (M.1 1 (base + 2 * j)) (M.1 1 (base + 2 * j + 1))
  | [], _, _, _, _, j, hj => absurd hj (Nat.not_lt_zero _)
  | _ :: _, [], _, _, h, _, _ => h.elim
  | x :: R, p :: P, h1, h2, h3, j, hj => by
    have hl : (x :: R).length = R.length + 1 := rfl
    by_cases e : j = R.length
    · subst e
      rw [h1.1, al_len h3.2, h2.1, h2.2.1]
      exact h3.1
    · exact al_st h1.2 h2.2.2 h3.2 j (by omega)
theorem pile_hg : ∀ {R : List Int32} {h : Nat}, pile kq X R → hg R = some h → hgt (X.1 kq) R.length = h ∧ (∀ j, j < R.length → (X.1 kq j = -33 → 1 ≤ hgt (X.1 kq) j) ∧ (X.1 kq j < -3 → X.1 kq j ≠ -33 → 2 ≤ hgt (X.1 kq) j)) ∧ (∀ j, j ≤ R.length → hgt (X.1 kq) j ≤ cv R)
  | [], h, _, e => by
    have e0 : 0 = h := Option.some.inj e
    subst e0
    refine ⟨rfl, fun j hj => absurd hj (Nat.not_lt_zero _), fun j hj => ?_⟩
    have : j = 0 := Nat.le_zero.mp hj
    subst this
    exact Nat.le_refl _
  | x :: R, h, p, e => by
    have hl : (x :: R).length = R.length + 1 := rfl
    cases hR : hg R with
    | none =>
      unfold hg at e
      rw [hR] at e
      cases e
    | some h' =>
      obtain ⟨i1, i2, i3⟩ := pile_hg p.2 hR
      have e' : (if x < (-3 : Int32) then (if x = -33 then (if 1 ≤ h' then some h' else none) else (if 2 ≤ h' then some (h' - 1) else none)) else some (h' + 1)) = some h := by
        unfold hg at e
        rw [hR] at e
        exact e
      have ec : cv (x :: R) = cv R + (if x < (-3 : Int32) then 0 else 1) := rfl
      have es : hgt (X.1 kq) (R.length + 1) = if x < (-3 : Int32) then (if x = -33 then h' else h' - 1) else h' + 1 := by
        change (if X.1 kq R.length < (-3 : Int32) then (if X.1 kq R.length = -33 then hgt (X.1 kq) R.length else hgt (X.1 kq) R.length - 1) else hgt (X.1 kq) R.length + 1) = _
        rw [p.1, i1]
      have ih3 := i3 R.length (Nat.le_refl _)
      rw [i1] at ih3
      have main : hgt (X.1 kq) (R.length + 1) = h ∧ h ≤ cv (x :: R) ∧ (x = -33 → 1 ≤ h') ∧ (x < -3 → x ≠ -33 → 2 ≤ h') := by
        rw [es, ec]
        by_cases c1 : x < (-3 : Int32)
        · rw [if_pos c1] at e' ⊢
          rw [if_pos c1]
          by_cases c2 : x = -33
          · rw [if_pos c2] at e' ⊢
            by_cases c3 : 1 ≤ h'
            · rw [if_pos c3] at e'
              have := Option.some.inj e'
              exact ⟨this, by omega, fun _ => c3, fun _ z => absurd c2 z⟩
            · rw [if_neg c3] at e'
              cases e'
          · rw [if_neg c2] at e' ⊢
            by_cases c3 : 2 ≤ h'
            · rw [if_pos c3] at e'
              have := Option.some.inj e'
              exact ⟨this, by omega, fun z => absurd z c2, fun _ _ => c3⟩
            · rw [if_neg c3] at e'
              cases e'
        · rw [if_neg c1] at e' ⊢
          rw [if_neg c1]
          have := Option.some.inj e'
          exact ⟨this, by omega, fun z => absurd (show x < -3 by rw [z]; decide) c1, fun z => absurd z c1⟩
      obtain ⟨m1, m2, m3, m4⟩ := main
      have hcv : cv R ≤ cv (x :: R) := by rw [ec]; omega
      refine ⟨m1, fun j hj => ?_, fun j hj => ?_⟩
      · by_cases ej : j = R.length
        · subst ej
          rw [p.1, i1]
          exact ⟨m3, m4⟩
        · exact i2 j (by omega)
      · by_cases ej : j = R.length + 1
        · subst ej
          rw [m1]; exact m2
        · exact Nat.le_trans (i3 j (by omega)) hcv
theorem cv_le : ∀ (R : List Int32), cv R ≤ R.length
  | [] => Nat.le_refl _
  | x :: R => by
    have := cv_le R
    change cv R + (if x < (-3 : Int32) then 0 else 1) ≤ R.length + 1
    split <;> omega
theorem pile_cp : ∀ {R : List Int32}, (∀ j, j < R.length → X1.1 kq j = X.1 k j) → pile k X R → pile kq X1 R
  | [], _, _ => trivial
  | x :: R, h, p => by
    have hl : (x :: R).length = R.length + 1 := rfl
    exact ⟨(h R.length (by omega)).trans p.1, pile_cp (fun j hj => h j (by omega)) p.2⟩
theorem ut_ot {j : Nat} (h0 : k ≠ q) (h1 : k ≠ q + 1) (h2 : k ≠ q + 2) : (um_tx X q a1 L Pm).1 k j = X.1 k j := by
  unfold um_tx
  rw [um_wr_nk h0, um_wr_nk h0, um_wr_nk h0, um_zl_ne h2, um_cp_nk h1, um_zl_ne h1]
theorem ut_0 : (um_tx X q a1 L Pm).1 q 0 = X.1 4 11 := by
  unfold um_tx
  rw [um_wr_an (by omega), um_wr_an (by omega), um_wr_at]
theorem ut_1 : (um_tx X q a1 L Pm).1 q 1 = a1 := by
  unfold um_tx
  rw [um_wr_an (by omega), um_wr_at]
theorem ut_2 : (um_tx X q a1 L Pm).1 q 2 = X.1 4 12 := by
  unfold um_tx
  rw [um_wr_at]
theorem ut_ar {j : Nat} (hq : 300 ≤ q) (hj : j < L) : (um_tx X q a1 L Pm).1 (q + 1) j = X.1 9 j := by
  unfold um_tx
  rw [um_wr_nk (by omega), um_wr_nk (by omega), um_wr_nk (by omega), um_zl_ne (by omega), um_cp_at hj, um_zl_ne (by omega)]
theorem ut_l1 : (um_tx X q a1 L Pm).2.2 (q + 1) = L := by
  change (um_zl (um_cp (um_zl X (q + 1) L) (q + 1) 9 L) (q + 2) Pm).2.2 (q + 1) = L
  rw [um_zl_ln (by omega)]
  change (um_zl X (q + 1) L).2.2 (q + 1) = L
  exact um_zl_le
theorem ut_l2 : (um_tx X q a1 L Pm).2.2 (q + 2) = Pm := by
  change (um_zl (um_cp (um_zl X (q + 1) L) (q + 1) 9 L) (q + 2) Pm).2.2 (q + 2) = Pm
  exact um_zl_le
theorem ut_lo (h1 : k ≠ q + 1) (h2 : k ≠ q + 2) : (um_tx X q a1 L Pm).2.2 k = X.2.2 k := by
  change (um_zl (um_cp (um_zl X (q + 1) L) (q + 1) 9 L) (q + 2) Pm).2.2 k = _
  rw [um_zl_ln h2]
  change (um_zl X (q + 1) L).2.2 k = _
  exact um_zl_ln h1
/-- the class makes a text of what it has read -/
theorem as_ (hq : q = 300 + 3 * n) (hgo : goo kk base X1 M1) : ∃ X3, f_X6_asText q a1 (um_wr X1 4 1 0) = some X3 ∧ (∀ k j, k ≠ 4 → k ≠ 9 → k ≠ 10 → k < 300 + 3 * n → X3.1 k j = X1.1 k j) ∧ X3.1 4 1 = 0 ∧ X3.2.1 = X1.2.1 ∧ (∀ k, k < 300 + 3 * n → X3.2.2 k = X1.2.2 k) ∧ X3.1 q 0 = nI kk ∧ X3.1 q 1 = a1 ∧ ∃ R P, X3.1 q 2 = nI (cv R) ∧ M1.1 0 18 = nI (cv R) ∧ X3.2.2 (q + 1) = R.length ∧ X3.2.2 (q + 2) = (if 1 < cv R then cv R else 1) ∧ pile (q + 1) X3 R ∧ mP M1 base P ∧ al kk R P ∧ hg R = some 1 ∧ R.length ≤ 93 := by
  obtain ⟨g11, T, R1, P, gce, gT, gmP, gal, ghg, g12, g18, gl⟩ := hgo
  obtain ⟨Xs, s1, s2, s3⟩ := x_settle (L := 1) (by omega) (ce_wr (i := 1) (v := 0) gce (by omega) (by omega)) (by omega)
  have ef : fl 1 T R1 = ([], wt T R1) := by
    have := fl_wt T [] R1 gT (fun c S' e => by cases e)
    rw [List.append_nil] at this
    exact this
  rw [ef] at s2
  have s2' : ce Xs (wt T R1) [] := s2
  have hw := wt_len T R1
  have hcv := cv_wt T R1 gT
  have hcl := cv_le (wt T R1)
  have x9 : Xs.1 4 9 = nI (wt T R1).length := s2'.1
  have x12 : Xs.1 4 12 = nI (cv (wt T R1)) := by
    rw [s3.1 4 12 (by omega) (by omega) (by omega), um_wr_an (by omega), hcv]
    exact g12
  have eL : (if (0 : Int32) < Xs.1 4 9 then Xs.1 4 9 else 0).toNatClampNeg = (wt T R1).length := by
    rw [x9]
    by_cases h : 0 < (wt T R1).length
    · have : (0 : Int32) < nI (wt T R1).length := nI_lt (a := 0) h (by omega)
      rw [if_pos this]
      exact nI_clamp (by omega)
    · rw [show (wt T R1).length = 0 by omega]
      rfl
  have eP : (if (1 : Int32) < Xs.1 4 12 then Xs.1 4 12 else 1).toNatClampNeg = if 1 < cv (wt T R1) then cv (wt T R1) else 1 := by
    rw [x12]
    have h1 : ((1 : Int32) < nI (cv (wt T R1))) ↔ 1 < cv (wt T R1) := nI_ltI (a := 1) (by omega) (by omega)
    by_cases h : 1 < cv (wt T R1)
    · rw [if_pos (h1.mpr h), if_pos h]
      exact nI_clamp (by omega)
    · rw [if_neg (fun z => h (h1.mp z)), if_neg h]
      rfl
  refine ⟨um_tx Xs q a1 (wt T R1).length (if 1 < cv (wt T R1) then cv (wt T R1) else 1), ?_, fun k j h4 h9 h10 hk => ?_, ?_, ?_, fun k hk => ?_, ?_, ut_1, wt T R1, P, ?_, ?_, ut_l1, ut_l2, ?_, gmP, gal, ghg, by omega⟩
  · have s1' : f_X6_settle (1 : Int32) (um_wr X1 4 1 0) = some Xs := s1
    unfold f_X6_asText
    rw [s1', Option.bind_some, eL, eP, if_pos ⟨by omega, by split <;> omega⟩]
  · rw [ut_ot (by omega) (by omega) (by omega), s3.1 k j h9 h10 (by omega), um_wr_nk h4]
  · rw [ut_ot (by omega) (by omega) (by omega), s3.1 4 1 (by omega) (by omega) (by omega), um_wr_at]
  · change Xs.2.1 = X1.2.1
    rw [s3.2]
    rfl
  · rw [ut_lo (by omega) (by omega), s3.2]
    rfl
  · rw [ut_0, s3.1 4 11 (by omega) (by omega) (by omega), um_wr_an (by omega)]
    exact g11
  · rw [ut_2]; exact x12
  · rw [hcv]; exact g18
  · exact pile_cp (fun j hj => ut_ar (by omega) hj) s2'.2.1
/-- such a text is the reference's -/
theorem tx_nw {s : Nat → Int32} (hk : kk < 5) (hw : w ≤ 1999) (h0 : X3.1 q 0 = nI kk) (h1 : X3.1 q 1 = nI w) (h2 : X3.1 q 2 = nI (cv R)) (hl1 : X3.2.2 (q + 1) = R.length) (hl2 : X3.2.2 (q + 2) = (if 1 < cv R then cv R else 1)) (hp : pile (q + 1) X3 R) (hal : al kk R P) (hhg : hg R = some 1) (hR : R.length ≤ 93) (hm : pil2 M1 (780 + 200 * i + 4) P) (hs : ∀ j, j < 2 * R.length → s (780 + 200 * i + 4 + j) = M1.1 1 (780 + 200 * i + 4 + j)) (s0 : s (780 + 200 * i) = nI kk) (s1 : s (780 + 200 * i + 1) = nI w) (s2 : s (780 + 200 * i + 2) = nI (cv R)) (s3 : s (780 + 200 * i + 3) = nI R.length) : tx_ok X3 q s i := by
  have hcl := cv_le R
  obtain ⟨p1, p2, p3⟩ := pile_hg hp hhg
  refine ⟨kk, R.length, _, by omega, h0, s0, ⟨w, hw, h1, s1⟩, h2.trans s2.symm, hl1, s3, by omega, hl2, by split <;> omega, fun j hj => ?_, p2, fun j hj => ?_, by rw [p1]; exact Nat.le_refl _⟩
  · rw [hs (2 * j) (by omega), show 780 + 200 * i + 4 + 2 * j + 1 = 780 + 200 * i + 4 + (2 * j + 1) by omega, hs (2 * j + 1) (by omega)]
    exact al_st hp hm hal j hj
  · have := p3 j hj
    split <;> omega
theorem sim_textR : sim_text RR := by
  intro n X M a1 hR
  have hRR := hR
  obtain ⟨⟨r1, r2, r3⟩, _, _, _, _, ⟨z, z1, z2, z3, z4⟩⟩ := hR
  obtain ⟨t1, t2⟩ := si_texts r2
  obtain ⟨i, hi⟩ : ∃ i, nn (M.1 1) 5 = i := ⟨_, rfl⟩
  rw [hi] at t1 t2
  have x31 : X.1 31 1 = nI i := r1.2.2.1.trans t1
  have htp : tp X M z (fun j => (M.1 7 j).toNatClampNeg) := by
    refine ⟨z2, z3, z1, fun j hj => ?_⟩
    obtain ⟨u1, b, u2, u3⟩ := z4 j hj
    have e : (M.1 7 j).toNatClampNeg = b := by rw [u3]; exact nI_clamp (by omega)
    dsimp only
    rw [e, u1]
    exact ⟨u3, u3, u2⟩
  obtain ⟨base, hb⟩ : ∃ base : Nat, base = if 14 ≤ i then 3590 else 780 + 200 * i + 4 := ⟨_, rfl⟩
  have hb1 : 780 + 200 * i ≤ base := by
    rw [hb]
    split <;> omega
  obtain ⟨r, X1, x, M1, e1, e2, e3, e4, e5, e6⟩ := fp_ htp t1 t2 hb
  have m15 : M1.1 1 5 = nI i := by rw [e4 1 5 (by omega) (by omega)]; exact t1
  have k31 : X1.1 31 1 = nI i := by rw [e3.1 31 1 (by omega) (by omega) (by omega)]; exact x31
  have RF : RR n (um_wr X1 4 1 0) M1 := by
    refine RR_to (c := i) (Nat.le_refl n) hRR hi (fun k j h1 h2 h3 h4 h5 => ?_) (fun k j h => ?_) (fun k hk => ?_) (fun j h1 h2 => ?_) (fun k j h1 h2 => ?_) (um_wr_at _ _ _ _) e5 ?_ m15 t2 (by omega) (fun h => by omega)
    · rw [um_wr_nk h2]; exact e3.1 k j h3 h4 (by omega)
    · change X1.2.1 k j = _
      rw [e3.2]
    · change X1.2.2 k = _
      rw [e3.2]
    · exact e4 1 j (by omega) (by omega)
    · exact e4 k j h1 (by omega)
    · rw [um_wr_nk (by omega)]; exact k31
  have hw8 := x_within a1 (0 : Int32) (1999 : Int32) (um_wr X1 4 1 0)
  have hw9 := m_isIn a1.toInt64 (0 : Int64) (1999 : Int64) M
  rw [Int32.toInt_toInt64] at hw9
  have i0 : (0 : Int32).toInt = 0 := by decide
  have i1 : (1999 : Int32).toInt = 1999 := by decide
  have i2 : (0 : Int64).toInt = 0 := by decide
  have i3 : (1999 : Int64).toInt = 1999 := by decide
  rw [i0, i1] at hw8
  rw [i2, i3] at hw9
  by_cases hin : 0 ≤ a1.toInt ∧ a1.toInt ≤ 1999
  · rw [decide_eq_true hin] at hw8 hw9
    obtain ⟨w, w1, w2⟩ := nI_ofT (u := 1999) hin.1 hin.2
    have hw : w ≤ 1999 := by omega
    have f1 : ¬ um_b true = 0 := by decide
    rcases e6 with ⟨st, s1, s2, s3, s4⟩ | ⟨s1, kk, s2, s3, s4⟩
    · refine ⟨-100 - nI st, um_wr X1 4 1 0, M1, false, ?_, ?_, RF⟩
      · unfold f_X8_text
        rw [e1, um_b2_some, hw8, Option.bind_some, if_pos f1, s2, if_neg (nI_pos (by omega))]
      · have n1 : ¬ (0 : Int32) ≤ -1 := by decide
        unfold f_X9_text
        rw [hw9, Option.bind_some, e2]
        unfold um_let
        try dsimp only
        rw [um_b2_some, if_neg f1, s3, if_neg n1, s4]
    · obtain ⟨X3, a2, a3, a4, a5, a6, a7, a8, R, P, a9, a10, a11, a12, a13, a14, a15, a16, a17⟩ := as_ (n := n) (q := 300 + 3 * n) (a1 := a1) rfl s4
      have p0 : (0 : Int32) ≤ nI kk := nI_pos' (by omega)
      have n0 : (-1 : Int32) < 0 := by decide
      have x331 : X3.1 31 1 = nI i := by rw [a3 31 1 (by omega) (by omega) (by omega) (by omega)]; exact k31
      have go8 : ∀ r2 X4, f_X1_add 1 (300 + 3 * n) X3 = some (r2, X4) → f_X8_text (300 + 3 * n) a1 X = some (r2, X4, true) := fun r2 X4 h => by
        unfold f_X8_text
        rw [e1, um_b2_some, hw8, Option.bind_some, if_pos f1, s1, if_pos n0, a2, Option.bind_some, h, um_b2_some]
      have hk1 : ∀ k j, k < 300 + 3 * n → k ≠ 4 → k ≠ 9 → k ≠ 10 → X3.1 k j = X.1 k j := fun k j h1 h2 h3 h4 => by
        rw [a3 k j h2 h3 h4 h1]
        exact e3.1 k j h3 h4 (by omega)
      by_cases h14 : i = 14
      · have q14 : nI i = (14 : Int32) := by rw [h14]; rfl
        refine ⟨-1000000003, X3, M1, true, go8 _ _ ?_, ?_, ?_⟩
        · have q1 : ¬ nI i < 0 := nI_pos (by omega)
          have q2 : ¬ nI i < nI 14 := nI_nlt (by omega) (by omega)
          unfold f_X1_add um_let
          try dsimp only
          rw [show X3.1 (20 * 1 + 11) 1 = nI i from x331, if_neg q1, if_neg q2]
        · unfold f_X9_text
          rw [hw9, Option.bind_some, e2]
          unfold um_let
          try dsimp only
          rw [um_b2_some, if_neg f1, s3, if_pos p0, m15, if_pos q14]
        · refine RR_to (n' := n + 1) (c := i) (by omega) hRR hi (fun k j h1 h2 h3 h4 h5 => hk1 k j h1 h2 h3 h4) (fun k j h => ?_) (fun k hk => ?_) (fun j h1 h2 => ?_) (fun k j h1 h2 => ?_) a4 e5 x331 m15 t2 (by omega) (fun h => by omega)
          · rw [a5, e3.2]
          · rw [a6 k hk, e3.2]
          · exact e4 1 j (by omega) (by omega)
          · exact e4 k j h1 (by omega)
      · have hi13 : i < 14 := by omega
        have q14 : ¬ nI i = (14 : Int32) := fun h => h14 ((nI_eq (b := 14) (by omega) (by omega)).mp h)
        rw [if_neg (by omega)] at hb
        have lP := al_len a15
        obtain ⟨p17, p16, pp, pl1, pl2⟩ := a14
        rw [hb] at pp
        have go9 : f_X9_text a1 M = some (nI i, um_wr (um_wr (um_wr (um_wr (um_wr M1 1 (780 + 200 * i) (nI kk)) 1 (780 + 200 * i + 1) a1) 1 (780 + 200 * i + 2) (nI (cv R))) 1 (780 + 200 * i + 3) (nI R.length)) 1 5 (nI (i + 1))) := by
          unfold f_X9_text
          rw [hw9, Option.bind_some, e2]
          unfold um_let
          try dsimp only
          rw [um_b2_some, if_neg f1, s3, if_pos p0, m15, if_neg q14]
          unfold f_X9_textAt
          rw [Option.bind_some, lm_200, lb_780, la_0, la_1, la_2, la_3, if_pos (um_ix_nI (by omega) (by omega)), if_pos (um_ix_nI (by omega) (by omega)), if_pos (um_ix_nI (by omega) (by omega)), if_pos (um_ix_nI (by omega) (by omega)), nI_clamp (by omega), nI_clamp (by omega), nI_clamp (by omega), nI_clamp (by omega)]
          rw [um_wr_nk (k2 := 0) (k := 1) (by omega), um_wr_nk (k2 := 0) (k := 1) (by omega), um_wr_nk (k2 := 0) (k := 1) (by omega), um_wr_nk (k2 := 0) (k := 1) (by omega), um_wr_nk (k2 := 0) (k := 1) (by omega), a10, p16, ← lP]
          rw [um_wr_an (i := 780 + 200 * i + 3) (j := 5) (by omega), um_wr_an (i := 780 + 200 * i + 2) (j := 5) (by omega), um_wr_an (i := 780 + 200 * i + 1) (j := 5) (by omega), um_wr_an (i := 780 + 200 * i + 0) (j := 5) (by omega), m15, nI_1, um_wr_at]
          rw [show nI (i + 1) - 1 = nI i from nI_sub (a := i + 1) (b := 1) (by omega)]
          rfl
        have hadd : f_X1_add 1 (300 + 3 * n) X3 = some (nI i, um_wr (um_wt X3 131 i (some (300 + 3 * n))) 31 1 (nI (i + 1))) := by
          have q1 : ¬ nI i < 0 := nI_pos (by omega)
          have q2 : nI i < nI 14 := nI_lt (by omega) (by omega)
          unfold f_X1_add um_let
          try dsimp only
          rw [show X3.1 (20 * 1 + 11) 1 = nI i from x331, if_neg q1, if_pos q2, if_pos (um_ix_nI (by omega) (by omega)), nI_clamp (by omega)]
          rw [show (um_wt X3 (20 * 1 + 111) i (some (300 + 3 * n))).1 (20 * 1 + 11) 1 = nI i from x331, nI_1]
        refine ⟨nI i, _, _, true, go8 _ _ hadd, go9, ?_⟩
        have hMr : ∀ j, j ≠ 5 → j ≠ 780 + 200 * i → j ≠ 780 + 200 * i + 1 → j ≠ 780 + 200 * i + 2 → j ≠ 780 + 200 * i + 3 → (um_wr (um_wr (um_wr (um_wr (um_wr M1 1 (780 + 200 * i) (nI kk)) 1 (780 + 200 * i + 1) a1) 1 (780 + 200 * i + 2) (nI (cv R))) 1 (780 + 200 * i + 3) (nI R.length)) 1 5 (nI (i + 1))).1 1 j = M1.1 1 j := fun j h0 h1 h2 h3 h4 => by
          rw [um_wr_an h0, um_wr_an h4, um_wr_an h3, um_wr_an h2, um_wr_an h1]
        refine RR_to (n' := n + 1) (c := i + 1) (by omega) hRR hi (fun k j h1 h2 h3 h4 h5 => ?_) (fun k j h => ?_) (fun k hk => ?_) (fun j h1 h2 => ?_) (fun k j h1 h2 => ?_) ?_ ?_ (um_wr_at _ _ _ _) (um_wr_at _ _ _ _) (by omega) (by omega) (fun _ => ⟨300 + 3 * n, ?_, by omega, by omega, by omega, ?_⟩)
        · have : (um_wr (um_wt X3 131 i (some (300 + 3 * n))) 31 1 (nI (i + 1))).1 k j = X3.1 k j := by
            by_cases e : k = 31
            · subst e
              rw [um_wr_an (by omega)]
              rfl
            · rw [um_wr_nk e]
              rfl
          rw [this]
          exact hk1 k j h1 h2 h3 h4
        · change (if k = 131 then (if j = i then some (300 + 3 * n) else X3.2.1 k j) else X3.2.1 k j) = X.2.1 k j
          have e0 : X3.2.1 k j = X.2.1 k j := by rw [a5, e3.2]
          by_cases e : k = 131
          · rw [if_pos e, if_neg (by omega)]; exact e0
          · rw [if_neg e]; exact e0
        · change X3.2.2 k = X.2.2 k
          rw [a6 k hk, e3.2]
        · rw [hMr j h2 (by omega) (by omega) (by omega) (by omega)]
          exact e4 1 j (by omega) (by omega)
        · rw [um_wr_nk h2, um_wr_nk h2, um_wr_nk h2, um_wr_nk h2, um_wr_nk h2]
          exact e4 k j h1 (by omega)
        · rw [um_wr_nk (by omega)]; exact a4
        · rw [um_wr_nk (by omega), um_wr_nk (by omega), um_wr_nk (by omega), um_wr_nk (by omega), um_wr_nk (by omega)]; exact e5
        · change (if (131 : Nat) = 131 then (if i = i then some (300 + 3 * n) else X3.2.1 131 i) else X3.2.1 131 i) = _
          rw [if_pos rfl, if_pos rfl]
        · have hq1 : ∀ k j, 300 ≤ k → (um_wr (um_wt X3 131 i (some (300 + 3 * n))) 31 1 (nI (i + 1))).1 k j = X3.1 k j := fun k j h => by
            rw [um_wr_nk (by omega)]
            rfl
          refine tx_nw (kk := kk) (w := w) (R := R) (P := P) (M1 := M1) s2 hw ?_ ?_ ?_ a11 a12 (pile_cp (fun j hj => hq1 _ j (by omega)) a13) a15 a16 a17 pp (fun j hj => ?_) ?_ ?_ ?_ ?_
          · rw [hq1 _ _ (by omega)]; exact a7
          · rw [hq1 _ _ (by omega)]; exact a8.trans w2
          · rw [hq1 _ _ (by omega)]; exact a9
          · exact hMr _ (by omega) (by omega) (by omega) (by omega) (by omega)
          · rw [um_wr_an (by omega), um_wr_an (by omega), um_wr_an (by omega), um_wr_an (by omega), um_wr_at]
          · rw [um_wr_an (by omega), um_wr_an (by omega), um_wr_an (by omega), um_wr_at]; exact w2
          · rw [um_wr_an (by omega), um_wr_an (by omega), um_wr_at]
          · rw [um_wr_an (by omega), um_wr_at]
  · rw [decide_eq_false hin] at hw8 hw9
    have f0 : um_b false = 0 := rfl
    have f1 : ¬ um_b false ≠ 0 := fun h => h rfl
    refine ⟨-1000000001, um_wr X1 4 1 0, M1, false, ?_, ?_, RF⟩
    · unfold f_X8_text
      rw [e1, um_b2_some, hw8, Option.bind_some, if_neg f1]
    · unfold f_X9_text
      rw [hw9, Option.bind_some, e2]
      unfold um_let
      try dsimp only
      rw [um_b2_some, if_pos f0]
end TXN
