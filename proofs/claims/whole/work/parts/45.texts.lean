/-! LEVEL 2: which text counts -/
/-- what texts rest on -/
def rt (X : um_S) (h : Nat) (s : Nat → Int32) (n : Nat) : Prop := X.1 (20 * h + 11) 1 = s 5 ∧ (s 5 = nI (nn s 5) ∧ nn s 5 ≤ 14) ∧ sr_t X h s n
theorem rt_of {X : um_S} {h W n : Nat} {s : Nat → Int32} (hs : sr X h s W n) : rt X h s n := ⟨hs.1.2.2.1, si_texts hs.2.1, hs.2.2⟩
section TXT
variable {X X' M M' : um_S} {h n W m i : Nat} {s : Nat → Int32} {v key : Int32}
theorem x_textAt (hs : rt X h s n) (hi5 : i < nn s 5) : f_X1_textAt h (nI i) X = some (X.2.1 (20 * h + 111) i) := by
  obtain ⟨e, hn⟩ := hs.2.1
  unfold f_X1_textAt
  rw [hs.1, e, if_neg (nI_pos (by omega)), if_neg (nI_ge hi5 (by omega)), if_neg (nI_ge (by omega) (by omega)), if_pos (um_ix_nI (by omega) (by omega)), nI_clamp (by omega)]
theorem x_textNo : f_X1_textAt h (-1) X = some none := by
  unfold f_X1_textAt
  exact if_pos (by decide)
/-- the text that counts: none, or one of this key -/
def ct (s : Nat → Int32) (key : Int32) (r : Int32) : Prop := r = -1 ∨ ∃ b : Nat, b < nn s 5 ∧ r = nI b ∧ s (780 + 200 * b) = key
theorem lo_count (hs : rt X h (M.1 1) n) : ∀ (k j : Nat) (best lat : Int32) (fx fm : Nat), j + k = nn (M.1 1) 5 → k < fx → k < fm → (best = -1 ∧ lat = 0 ∨ ∃ b : Nat, b < j ∧ best = nI b ∧ lat = M.1 1 (780 + 200 * b + 1) ∧ M.1 1 (780 + 200 * b) = key) →
    sm_S (f_X1_counting_l8 h key (M.1 1 0) X fx best lat (nI j)) (f_X9_counts_l4 key M fm best (nI j)) (fun a b => a = b ∧ ct (M.1 1) key a) := by
  obtain ⟨e1, hn⟩ := hs.2.1
  have ex1 : X.1 (20 * h + 11) 1 = nI (nn (M.1 1) 5) := by rw [hs.1]; exact e1
  intro k
  induction k with
  | zero =>
    intro j best lat fx fm hj hfx hfm hb
    obtain ⟨fx, rfl⟩ : ∃ f, fx = f + 1 := ⟨fx - 1, by omega⟩
    obtain ⟨fm, rfl⟩ : ∃ f, fm = f + 1 := ⟨fm - 1, by omega⟩
    rw [f_X1_counting_l8, f_X9_counts_l4]
    refine sm_xt (by rw [ex1]; exact nI_le (by omega) (by omega)) (sm_mt (by rw [e1]; exact nI_le (by omega) (by omega)) (sm_ret ⟨rfl, ?_⟩))
    rcases hb with ⟨z, _⟩ | ⟨b, hb, eb, _, ek⟩
    · exact Or.inl z
    · exact Or.inr ⟨b, by omega, eb, ek⟩
  | succ k ih =>
    intro j best lat fx fm hj hfx hfm hb
    obtain ⟨fx, rfl⟩ : ∃ f, fx = f + 1 := ⟨fx - 1, by omega⟩
    obtain ⟨fm, rfl⟩ : ∃ f, fm = f + 1 := ⟨fm - 1, by omega⟩
    obtain ⟨q, q1, q2, q3, q4, kk, L, P, t1, t2, t3, ⟨w, w1, w2, w3⟩, _⟩ := hs.2.2 j (by omega)
    have hold : best = -1 ∧ lat = 0 ∨ ∃ b : Nat, b < j + 1 ∧ best = nI b ∧ lat = M.1 1 (780 + 200 * b + 1) ∧ M.1 1 (780 + 200 * b) = key := by
      rcases hb with z | ⟨b, hb, z⟩
      · exact Or.inl z
      · exact Or.inr ⟨b, by omega, z⟩
    have ihO := ih (j + 1) best lat fx fm (by omega) (by omega) (by omega) hold
    have ihN := fun hkey => ih (j + 1) (nI j) (nI w) fx fm (by omega) (by omega) (by omega) (Or.inr ⟨j, by omega, rfl, w3.symm, hkey⟩)
    rw [f_X1_counting_l8, f_X9_counts_l4]
    refine sm_xf (by rw [ex1]; exact nI_ge (by omega) (by omega)) (sm_mf (by rw [e1]; exact nI_ge (by omega) (by omega)) ?_)
    rw [x_textAt hs (by omega), q1, Option.bind_some]
    change sm_S (if (X.1 q 0) = key then _ else _) _ _
    rw [t2, w2]
    simp (disch := omega) only [um_let, Option.bind_some, m_textAt, la_0, la_1, um_ix_3, cl_3, if_true, nI_1]
    rw [show 780 + 200 * j + 0 = 780 + 200 * j from rfl, t3, w3]
    refine sm_if Iff.rfl (fun hkey => ?_) (fun _ => ihO)
    have hkey2 : M.1 1 (780 + 200 * j) = key := by rw [t3]; exact hkey
    refine sm_if Iff.rfl (fun _ => ihO) (fun _ => ?_)
    refine sm_mf (by decide) ?_
    rcases hb with ⟨z1, z2⟩ | ⟨b, hb, eb, el, ek⟩
    · rw [z1, z2]
      refine sm_mt (by decide) (sm_xf (nI_pos (by omega)) (ihN hkey2))
    · rw [eb]
      refine sm_mf (nI_pos (by omega)) ?_
      rw [m_textAt, Option.bind_some, la_1]
      refine sm_mt (um_ix_3 (by omega)) ?_
      rw [cl_3 (by omega), ← el]
      refine sm_if Iff.rfl (fun _ => ?_) (fun _ => ihN hkey2)
      rw [← eb]
      exact ihO
theorem counts_ (hs : rt X h (M.1 1) n) : sm_S (f_X1_counting h key (M.1 1 0) X) (f_X9_counts key M) (fun a b => a = b ∧ ct (M.1 1) key a) := by
  have hn := hs.2.1.2
  unfold f_X1_counting f_X9_counts
  rw [bind_sm, bind_sm]
  exact lo_count hs (nn (M.1 1) 5) 0 (-1) 0 um_N um_N (by omega) (by unfold um_N; omega) (by unfold um_N; omega) (Or.inl ⟨rfl, rfl⟩)
end TXT
theorem sim_whyR : sim_why RR := by
  intro n X M a1 hR
  refine sm_ouv ?_ hR
  unfold f_X8_why f_X9_why
  refine sm_chk (wi_0 (n := 4) (by decide) (by decide)) (sm_ret rfl) (fun _ => ?_)
  rw [hR.1.1.1.1]
  refine sm_bind (counts_ (rt_of hR.1)) (fun a b ⟨e, hct⟩ => ?_)
  subst e
  unfold f_X9_orNone
  have hn := (si_texts hR.1.2.1).2
  rcases hct with rfl | ⟨b, hb, rfl, _⟩
  · exact sm_ret rfl
  · rw [if_pos (nI_pos' (by omega))]
    exact sm_ret rfl
theorem sim_ofR : sim_of RR := by
  intro n X M a1 a2 hR
  refine sm_ouv ?_ hR
  have hs := hR.1
  obtain ⟨e1, hn⟩ := si_texts hs.2.1
  unfold f_X8_of f_X9_of f_X9_isText
  rw [bind_sm, m_isIn]
  have h0 : (0 : Int64).toInt = 0 := by decide
  have h032 : (0 : Int32).toInt = 0 := by decide
  rw [Int32.toInt_toInt64, Int32.toInt_toInt64, e1, nI_m1 (by omega), h0]
  by_cases hr : 0 ≤ a1.toInt ∧ a1.toInt ≤ (nn (M.1 1) 5 : Int) - 1
  · obtain ⟨i, hi, ei⟩ := nI_ofT hr.1 hr.2
    subst ei
    rw [decide_eq_true hr]
    obtain ⟨q, q1, q2, q3, q4, kk, L, P, t1, t2, t3, ⟨w, w1, w2, w3⟩, t5, _⟩ := hs.2.2 i (by omega)
    refine sm_xb (x_textAt (rt_of hs) (by omega)) (sm_mb rfl (sm_mT ?_))
    rw [q1]
    change sm_S (if a2 = 0 then _ else _) _ _
    rw [m_isIn, m_textAt, Int32.toInt_toInt64]
    have h2 : (2 : Int64).toInt = 2 := by decide
    rw [h0, h2]
    by_cases hc : 0 ≤ a2.toInt ∧ a2.toInt ≤ 2
    · obtain ⟨c, hc2, ec⟩ := nI_ofT hc.1 hc.2
      subst ec
      rw [decide_eq_true hc]
      refine sm_mb rfl (sm_mT ?_)
      rw [Option.bind_some, nI_add, m_rd (by omega)]
      have hcc : c = 0 ∨ c = 1 ∨ c = 2 := by omega
      rcases hcc with rfl | rfl | rfl
      · exact sm_xt rfl (sm_ret (by rw [t2]; exact t3.symm))
      · exact sm_xf (by decide) (sm_xt rfl (sm_ret (by rw [w2]; exact w3.symm)))
      · exact sm_xf (by decide) (sm_xf (by decide) (sm_xt rfl (sm_ret t5)))
    · rw [decide_eq_false hc]
      refine sm_mb rfl (sm_mF ?_)
      have e0 : (1 : Int32).toInt = 1 := by decide
      have e22 : (2 : Int32).toInt = 2 := by decide
      exact sm_xf (fun z => hc (by rw [z, h032]; omega)) (sm_xf (fun z => hc (by rw [z, e0]; omega)) (sm_xf (fun z => hc (by rw [z, e22]; omega)) (sm_ret rfl)))
  · rw [decide_eq_false hr]
    refine sm_mb rfl (sm_mF ?_)
    have hx : f_X1_textAt 1 a1 X = some none := by
      unfold f_X1_textAt
      rw [hs.1.2.2.1, e1]
      by_cases h1 : a1 < 0
      · exact if_pos h1
      · rw [if_neg h1]
        refine if_pos ?_
        rw [Int32.lt_iff_toInt_lt, h032] at h1
        rw [Int32.le_iff_toInt_le, nI_toInt (by omega)]
        omega
    exact sm_xb hx (sm_ret rfl)
