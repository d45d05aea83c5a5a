/-! LEVEL 2: more calls that add a row (written by wip/whole/adds.py) -/
theorem sm_k {A B : Type} {Q : A → B → Prop} {K : Unit → Option A} {K' : Unit → Option B} {F : (Unit → Option A) → Option A} {G : (Unit → Option B) → Option B} (hk : sm_S (K ()) (K' ()) Q) (hF : ∀ k k', sm_S (k ()) (k' ()) Q → sm_S (F k) (G k') Q) : sm_S (um_let K F) (um_let K' G) Q := hF K K' hk
theorem sm_eqr {A B : Type} {Q : A → B → Prop} {o : Option A} {p p' : Option B} (e : p = p') (h : sm_S o p' Q) : sm_S o p Q := by rw [e]; exact h
theorem bind_sm {A : Type} (o : Option A) : (o.bind fun x => some x) = o := by cases o <;> rfl
theorem ho_man {X M : um_S} {h W : Nat} {a : Int32} (hc : sr_c X h (M.1 1)) (hi : sr_i (M.1 1) W) : sm_S (f_X5_holds (20 * h + 1) a X) (f_X9_isMan a M) (fun x y => x = y ∧ (x = true → ∃ j : Nat, j < nn (M.1 1) 2 ∧ a = nI j)) := by
  unfold f_X9_isMan
  rw [bind_sm]
  obtain ⟨e, hn⟩ := si_men hi
  exact ho_ (by rw [x_cnt hc (t := 1) (by omega)]; exact e) e (by omega)
theorem ho_master {X M : um_S} {h W : Nat} {a : Int32} (hc : sr_c X h (M.1 1)) (hi : sr_i (M.1 1) W) : sm_S (f_X5_holds (20 * h + 2) a X) (f_X9_isMaster a M) (fun x y => x = y ∧ (x = true → ∃ j : Nat, j < nn (M.1 1) 3 ∧ a = nI j)) := by
  unfold f_X9_isMaster
  rw [bind_sm]
  obtain ⟨e, hn⟩ := si_masters hi
  exact ho_ (by rw [x_cnt hc (t := 2) (by omega)]; exact e) e (by omega)
theorem ho_mark {X M : um_S} {h W : Nat} {a : Int32} (hc : sr_c X h (M.1 1)) (hi : sr_i (M.1 1) W) : sm_S (f_X5_holds (20 * h + 3) a X) (f_X9_isMark a M) (fun x y => x = y ∧ (x = true → ∃ j : Nat, j < nn (M.1 1) 4 ∧ a = nI j)) := by
  unfold f_X9_isMark
  rw [bind_sm]
  obtain ⟨e, hn⟩ := si_marks hi
  exact ho_ (by rw [x_cnt hc (t := 3) (by omega)]; exact e) e (by omega)
theorem ho_look {X M : um_S} {h W : Nat} {a : Int32} (hc : sr_c X h (M.1 1)) (hi : sr_i (M.1 1) W) : sm_S (f_X5_holds (20 * h + 5) a X) (f_X9_isLook a M) (fun x y => x = y ∧ (x = true → ∃ j : Nat, j < nn (M.1 1) 6 ∧ a = nI j)) := by
  unfold f_X9_isLook
  rw [bind_sm]
  obtain ⟨e, hn⟩ := si_looks hi
  exact ho_ (by rw [x_cnt hc (t := 5) (by omega)]; exact e) e (by omega)
theorem sim_masterR : sim_master RR := by
  intro n X M a1 a2 a3 a4 hR
  refine sm_out ?_
  have hi := hR.1.2.1
  have hc := hR.1.1
  have hh : um_h 1 := Or.inl rfl
  obtain ⟨e1, hn⟩ := si_masters hi
  obtain ⟨k, hk⟩ : ∃ k, nn (M.1 1) 3 = k := ⟨_, rfl⟩
  rw [hk] at e1 hn
  have ex1 : X.1 (20 * 1 + 2) 2 = nI k := by rw [x_cnt hc (t := 2) (by omega)]; exact e1
  unfold f_X8_master f_X9_master
  refine sm_chk pl_ (sm_ret ⟨rfl, hR⟩) (fun ⟨p, hp, ea⟩ => ?_)
  refine sm_chk (wi_0 (n := 63) (by decide) (by decide)) (sm_ret ⟨rfl, hR⟩) (fun ⟨x2, hx2, ex2⟩ => ?_)
  refine sm_chk (wi_0 (n := 9) (by decide) (by decide)) (sm_ret ⟨rfl, hR⟩) (fun ⟨x3, hx3, ex3⟩ => ?_)
  refine sm_chk (wi_0 (n := 99) (by decide) (by decide)) (sm_ret ⟨rfl, hR⟩) (fun ⟨x4, hx4, ex4⟩ => ?_)
  by_cases hf : k = 6
  · refine sm_xb2 (x_addF (xw_2 hh) (xl_2 hh) ex1 (by omega) (by omega)) ?_
    refine sm_mt (by rw [e1, hf]; rfl) (sm_ret ⟨rfl, hR⟩)
  · obtain ⟨X', ex, b1, b2, b3, b4, b5, b6, b7, b8⟩ := x_add (a := a1) (b := a2) (c := a3) (d := a4) (xw_2 hh) (xl_2 hh) ex1 (by omega) (by omega) (by omega) (by omega)
    refine sm_xb2 ex ?_
    refine sm_mf (by rw [e1]; exact fun z => hf ((nI_eq (by omega) (by omega)).mp z)) ?_
    simp (disch := omega) only [um_let, Option.bind_some, m_masterAt, m_markAt, e1, lm_4, lb_250, la_1, la_2, la_3, la_4, um_ix_3, cl_3, um_wr_an, um_wr_at, nI_pred, if_true]
    refine sm_ret ⟨rfl, RR_of hR (sr_add hR.1 hh (t := 2) (by omega) (by omega) hk.symm (by change 4 * (k + 1) ≤ 24; omega) b1 b2 b3 (fun j hj => b4 j (by change j < 4 * k ∨ _ at hj; omega)) ?_ ?_ ?_ ?_) ⟨fun q j h1 h2 h3 _ => b2 q j (by omega) (by omega), b1⟩ ?_⟩
    · intro c hc2
      change c < 4 at hc2
      change X'.1 _ (4 * k + c) = (um_wr (um_wr (um_wr (um_wr (um_wr M 1 (250 + 4 * k) a1) 1 (250 + 4 * k + 1) a2) 1 (250 + 4 * k + 2) a3) 1 (250 + 4 * k + 3) a4) 1 3 (nI (k + 1))).1 1 (250 + (4 * k + c))
      have hcc : c = 0 ∨ c = 1 ∨ c = 2 ∨ c = 3 := by omega
      rcases hcc with rfl | rfl | rfl | rfl
      · rw [um_wr_an (by omega), um_wr_an (by omega), um_wr_an (by omega), um_wr_an (by omega), show 250 + (4 * k + 0) = 250 + 4 * k by omega, um_wr_at, show 4 * k + 0 = k * 4 by omega, b5]
      · rw [um_wr_an (by omega), um_wr_an (by omega), um_wr_an (by omega), show 250 + (4 * k + 1) = 250 + 4 * k + 1 by omega, um_wr_at, show 4 * k + 1 = k * 4 + 1 by omega, b6]
      · rw [um_wr_an (by omega), um_wr_an (by omega), show 250 + (4 * k + 2) = 250 + 4 * k + 2 by omega, um_wr_at, show 4 * k + 2 = k * 4 + 2 by omega, b7 (by omega)]
      · rw [um_wr_an (by omega), show 250 + (4 * k + 3) = 250 + 4 * k + 3 by omega, um_wr_at, show 4 * k + 3 = k * 4 + 3 by omega, b8 (by omega)]
    · intro b hb hb2
      change b ≠ 3 at hb
      change ¬ (250 + 4 * k ≤ b ∧ b < 250 + 4 * k + 4) at hb2
      rw [um_wr_an hb, um_wr_an (by omega), um_wr_an (by omega), um_wr_an (by omega), um_wr_an (by omega)]
    · exact um_wr_at _ _ _ _
    · change pl ((um_wr (um_wr (um_wr (um_wr (um_wr M 1 (250 + 4 * k) a1) 1 (250 + 4 * k + 1) a2) 1 (250 + 4 * k + 2) a3) 1 (250 + 4 * k + 3) a4) 1 3 (nI (k + 1))).1 1 (250 + 4 * k)) ∧ ∃ a : Nat, a ≤ 9 ∧ (um_wr (um_wr (um_wr (um_wr (um_wr M 1 (250 + 4 * k) a1) 1 (250 + 4 * k + 1) a2) 1 (250 + 4 * k + 2) a3) 1 (250 + 4 * k + 3) a4) 1 3 (nI (k + 1))).1 1 (250 + 4 * k + 2) = nI a
      refine ⟨?_, x3, hx3, ?_⟩
      · rw [um_wr_an (by omega), um_wr_an (by omega), um_wr_an (by omega), um_wr_an (by omega), um_wr_at]
        exact ⟨p, hp, ea⟩
      · rw [um_wr_an (by omega), um_wr_an (by omega), um_wr_at]
        exact ex3
    · exact (mf_trans (mf_trans (mf_trans (mf_trans (mf_wr 1 (Or.inl rfl)) (mf_wr 1 (Or.inl rfl))) (mf_wr 1 (Or.inl rfl))) (mf_wr 1 (Or.inl rfl))) (mf_wr 1 (Or.inl rfl)))
theorem sim_lookR : sim_look RR := by
  intro n X M a1 a2 a3 a4 hR
  refine sm_out ?_
  have hi := hR.1.2.1
  have hc := hR.1.1
  have hh : um_h 1 := Or.inl rfl
  obtain ⟨e1, hn⟩ := si_looks hi
  obtain ⟨k, hk⟩ : ∃ k, nn (M.1 1) 6 = k := ⟨_, rfl⟩
  rw [hk] at e1 hn
  have ex1 : X.1 (20 * 1 + 5) 2 = nI k := by rw [x_cnt hc (t := 5) (by omega)]; exact e1
  unfold f_X8_look f_X9_look
  refine sm_chk (wi_0 (n := 8) (by decide) (by decide)) (sm_ret ⟨rfl, hR⟩) (fun ⟨x1, hx1, ex1b⟩ => ?_)
  refine sm_chk (wi_0 (n := 6) (by decide) (by decide)) (sm_ret ⟨rfl, hR⟩) (fun ⟨x2, hx2, ex2⟩ => ?_)
  refine sm_chk (wi_0 (n := 70) (by decide) (by decide)) (sm_ret ⟨rfl, hR⟩) (fun ⟨x3, hx3, ex3⟩ => ?_)
  refine sm_chk (wi_0 (n := 255) (by decide) (by decide)) (sm_ret ⟨rfl, hR⟩) (fun ⟨x4, hx4, ex4⟩ => ?_)
  by_cases hf : k = 10
  · refine sm_xb2 (x_addF (xw_5 hh) (xl_5 hh) ex1 (by omega) (by omega)) ?_
    refine sm_mt (by rw [e1, hf]; rfl) (sm_ret ⟨rfl, hR⟩)
  · obtain ⟨X', ex, b1, b2, b3, b4, b5, b6, b7, b8⟩ := x_add (a := a1) (b := a2) (c := a3) (d := a4) (xw_5 hh) (xl_5 hh) ex1 (by omega) (by omega) (by omega) (by omega)
    refine sm_xb2 ex ?_
    refine sm_mf (by rw [e1]; exact fun z => hf ((nI_eq (by omega) (by omega)).mp z)) ?_
    simp (disch := omega) only [um_let, Option.bind_some, m_masterAt, m_markAt, e1, lm_4, lb_440, la_1, la_2, la_3, la_4, um_ix_3, cl_3, um_wr_an, um_wr_at, nI_pred, if_true]
    refine sm_ret ⟨rfl, RR_of hR (sr_add hR.1 hh (t := 5) (by omega) (by omega) hk.symm (by change 4 * (k + 1) ≤ 40; omega) b1 b2 b3 (fun j hj => b4 j (by change j < 4 * k ∨ _ at hj; omega)) ?_ ?_ ?_ ?_) ⟨fun q j h1 h2 h3 _ => b2 q j (by omega) (by omega), b1⟩ ?_⟩
    · intro c hc2
      change c < 4 at hc2
      change X'.1 _ (4 * k + c) = (um_wr (um_wr (um_wr (um_wr (um_wr M 1 (440 + 4 * k) a1) 1 (440 + 4 * k + 1) a2) 1 (440 + 4 * k + 2) a3) 1 (440 + 4 * k + 3) a4) 1 6 (nI (k + 1))).1 1 (440 + (4 * k + c))
      have hcc : c = 0 ∨ c = 1 ∨ c = 2 ∨ c = 3 := by omega
      rcases hcc with rfl | rfl | rfl | rfl
      · rw [um_wr_an (by omega), um_wr_an (by omega), um_wr_an (by omega), um_wr_an (by omega), show 440 + (4 * k + 0) = 440 + 4 * k by omega, um_wr_at, show 4 * k + 0 = k * 4 by omega, b5]
      · rw [um_wr_an (by omega), um_wr_an (by omega), um_wr_an (by omega), show 440 + (4 * k + 1) = 440 + 4 * k + 1 by omega, um_wr_at, show 4 * k + 1 = k * 4 + 1 by omega, b6]
      · rw [um_wr_an (by omega), um_wr_an (by omega), show 440 + (4 * k + 2) = 440 + 4 * k + 2 by omega, um_wr_at, show 4 * k + 2 = k * 4 + 2 by omega, b7 (by omega)]
      · rw [um_wr_an (by omega), show 440 + (4 * k + 3) = 440 + 4 * k + 3 by omega, um_wr_at, show 4 * k + 3 = k * 4 + 3 by omega, b8 (by omega)]
    · intro b hb hb2
      change b ≠ 6 at hb
      change ¬ (440 + 4 * k ≤ b ∧ b < 440 + 4 * k + 4) at hb2
      rw [um_wr_an hb, um_wr_an (by omega), um_wr_an (by omega), um_wr_an (by omega), um_wr_an (by omega)]
    · exact um_wr_at _ _ _ _
    · change ∃ a : Nat, a ≤ 70 ∧ (um_wr (um_wr (um_wr (um_wr (um_wr M 1 (440 + 4 * k) a1) 1 (440 + 4 * k + 1) a2) 1 (440 + 4 * k + 2) a3) 1 (440 + 4 * k + 3) a4) 1 6 (nI (k + 1))).1 1 (440 + 4 * k + 2) = nI a
      refine ⟨x3, hx3, ?_⟩
      rw [um_wr_an (by omega), um_wr_an (by omega), um_wr_at]
      exact ex3
    · exact (mf_trans (mf_trans (mf_trans (mf_trans (mf_wr 1 (Or.inl rfl)) (mf_wr 1 (Or.inl rfl))) (mf_wr 1 (Or.inl rfl))) (mf_wr 1 (Or.inl rfl))) (mf_wr 1 (Or.inl rfl)))
theorem sim_sentenceR : sim_sentence RR := by
  intro n X M a1 a2 a3 hR
  refine sm_out ?_
  have hi := hR.1.2.1
  have hc := hR.1.1
  have hh : um_h 1 := Or.inl rfl
  obtain ⟨e1, hn⟩ := si_sents hi
  obtain ⟨k, hk⟩ : ∃ k, nn (M.1 1) 7 = k := ⟨_, rfl⟩
  rw [hk] at e1 hn
  have ex1 : X.1 (20 * 1 + 6) 2 = nI k := by rw [x_cnt hc (t := 6) (by omega)]; exact e1
  unfold f_X8_sentence f_X9_sentence
  refine sm_chk (wi_0 (n := 3) (by decide) (by decide)) (sm_ret ⟨rfl, hR⟩) (fun ⟨x1, hx1, ex1b⟩ => ?_)
  refine sm_chk (wi_0 (n := 7) (by decide) (by decide)) (sm_ret ⟨rfl, hR⟩) (fun ⟨x2, hx2, ex2⟩ => ?_)
  refine sm_chk (wi_0 (n := 300) (by decide) (by decide)) (sm_ret ⟨rfl, hR⟩) (fun ⟨x3, hx3, ex3⟩ => ?_)
  by_cases hf : k = 30
  · refine sm_xb2 (x_addF (xw_6 hh) (xl_6 hh) ex1 (by omega) (by omega)) ?_
    refine sm_mt (by rw [e1, hf]; rfl) (sm_ret ⟨rfl, hR⟩)
  · obtain ⟨X', ex, b1, b2, b3, b4, b5, b6, b7, b8⟩ := x_add (a := a1) (b := a2) (c := a3) (d := 0) (xw_6 hh) (xl_6 hh) ex1 (by omega) (by omega) (by omega) (by omega)
    refine sm_xb2 ex ?_
    refine sm_mf (by rw [e1]; exact fun z => hf ((nI_eq (by omega) (by omega)).mp z)) ?_
    simp (disch := omega) only [um_let, Option.bind_some, m_masterAt, m_markAt, e1, lm_3, lb_480, la_1, la_2, la_3, la_4, um_ix_3, cl_3, um_wr_an, um_wr_at, nI_pred, if_true]
    refine sm_ret ⟨rfl, RR_of hR (sr_add hR.1 hh (t := 6) (by omega) (by omega) hk.symm (by change 3 * (k + 1) ≤ 90; omega) b1 b2 b3 (fun j hj => b4 j (by change j < 3 * k ∨ _ at hj; omega)) ?_ ?_ ?_ ?_) ⟨fun q j h1 h2 h3 _ => b2 q j (by omega) (by omega), b1⟩ ?_⟩
    · intro c hc2
      change c < 3 at hc2
      change X'.1 _ (3 * k + c) = (um_wr (um_wr (um_wr (um_wr M 1 (480 + 3 * k) a1) 1 (480 + 3 * k + 1) a2) 1 (480 + 3 * k + 2) a3) 1 7 (nI (k + 1))).1 1 (480 + (3 * k + c))
      have hcc : c = 0 ∨ c = 1 ∨ c = 2 := by omega
      rcases hcc with rfl | rfl | rfl
      · rw [um_wr_an (by omega), um_wr_an (by omega), um_wr_an (by omega), show 480 + (3 * k + 0) = 480 + 3 * k by omega, um_wr_at, show 3 * k + 0 = k * 3 by omega, b5]
      · rw [um_wr_an (by omega), um_wr_an (by omega), show 480 + (3 * k + 1) = 480 + 3 * k + 1 by omega, um_wr_at, show 3 * k + 1 = k * 3 + 1 by omega, b6]
      · rw [um_wr_an (by omega), show 480 + (3 * k + 2) = 480 + 3 * k + 2 by omega, um_wr_at, show 3 * k + 2 = k * 3 + 2 by omega, b7 (by omega)]
    · intro b hb hb2
      change b ≠ 7 at hb
      change ¬ (480 + 3 * k ≤ b ∧ b < 480 + 3 * k + 3) at hb2
      rw [um_wr_an hb, um_wr_an (by omega), um_wr_an (by omega), um_wr_an (by omega)]
    · exact um_wr_at _ _ _ _
    · change ∃ a : Nat, a ≤ 300 ∧ (um_wr (um_wr (um_wr (um_wr M 1 (480 + 3 * k) a1) 1 (480 + 3 * k + 1) a2) 1 (480 + 3 * k + 2) a3) 1 7 (nI (k + 1))).1 1 (480 + 3 * k + 2) = nI a
      refine ⟨x3, hx3, ?_⟩
      rw [um_wr_an (by omega), um_wr_at]
      exact ex3
    · exact (mf_trans (mf_trans (mf_trans (mf_wr 1 (Or.inl rfl)) (mf_wr 1 (Or.inl rfl))) (mf_wr 1 (Or.inl rfl))) (mf_wr 1 (Or.inl rfl)))
theorem sim_letterR : sim_letter RR := by
  intro n X M a1 a2 a3 hR
  refine sm_out ?_
  have hi := hR.1.2.1
  have hc := hR.1.1
  have hh : um_h 1 := Or.inl rfl
  obtain ⟨e1, hn⟩ := si_letters hi
  obtain ⟨k, hk⟩ : ∃ k, nn (M.1 1) 8 = k := ⟨_, rfl⟩
  rw [hk] at e1 hn
  have ex1 : X.1 (20 * 1 + 4) 2 = nI k := by rw [x_cnt hc (t := 4) (by omega)]; exact e1
  unfold f_X8_letter f_X9_letter
  obtain ⟨em2, hm2⟩ := si_men hi
  refine sm_chk (ho_man hc hi) (sm_ret ⟨rfl, hR⟩) (fun ⟨m, hm, em⟩ => ?_)
  refine sm_chk (wi_0 (n := 1) (by decide) (by decide)) (sm_ret ⟨rfl, hR⟩) (fun ⟨x2, hx2, ex2⟩ => ?_)
  refine sm_chk (wi_ (by decide) (by decide)) (sm_ret ⟨rfl, hR⟩) (fun hw => ?_)
  refine sm_k ?_ (fun k7 k7' hk7 => ?_)
  · have ewk : X.1 1 12 = M.1 1 0 := hc.1.1
    rw [ewk]
    by_cases hf : k = 20
    · refine sm_xb2 (x_addF (xw_4 hh) (xl_4 hh) ex1 (by omega) (by omega)) ?_
      refine sm_mt (by rw [e1, hf]; rfl) (sm_ret ⟨rfl, hR⟩)
    · obtain ⟨X', ex, b1, b2, b3, b4, b5, b6, b7, b8⟩ := x_add (a := a1) (b := a2) (c := (M.1 1 0 + a3)) (d := 0) (xw_4 hh) (xl_4 hh) ex1 (by omega) (by omega) (by omega) (by omega)
      refine sm_xb2 ex ?_
      refine sm_mf (by rw [e1]; exact fun z => hf ((nI_eq (by omega) (by omega)).mp z)) ?_
      simp (disch := omega) only [um_let, Option.bind_some, m_masterAt, m_markAt, e1, lm_5, lb_570, la_1, la_2, la_3, la_4, um_ix_3, cl_3, um_wr_an, um_wr_at, nI_pred, if_true]
      refine sm_ret ⟨rfl, RR_of hR (sr_add hR.1 hh (t := 4) (by omega) (by omega) hk.symm (by change 5 * (k + 1) ≤ 100; omega) b1 b2 b3 (fun j hj => b4 j (by change j < 5 * k ∨ _ at hj; omega)) ?_ ?_ ?_ ?_) ⟨fun q j h1 h2 h3 _ => b2 q j (by omega) (by omega), b1⟩ ?_⟩
      · intro c hc2
        change c < 5 at hc2
        change X'.1 _ (5 * k + c) = (um_wr (um_wr (um_wr (um_wr (um_wr (um_wr M 1 (570 + 5 * k) a1) 1 (570 + 5 * k + 1) a2) 1 (570 + 5 * k + 2) (M.1 1 0 + a3)) 1 (570 + 5 * k + 3) 0) 1 (570 + 5 * k + 4) 0) 1 8 (nI (k + 1))).1 1 (570 + (5 * k + c))
        have hcc : c = 0 ∨ c = 1 ∨ c = 2 ∨ c = 3 ∨ c = 4 := by omega
        rcases hcc with rfl | rfl | rfl | rfl | rfl
        · rw [um_wr_an (by omega), um_wr_an (by omega), um_wr_an (by omega), um_wr_an (by omega), um_wr_an (by omega), show 570 + (5 * k + 0) = 570 + 5 * k by omega, um_wr_at, show 5 * k + 0 = k * 5 by omega, b5]
        · rw [um_wr_an (by omega), um_wr_an (by omega), um_wr_an (by omega), um_wr_an (by omega), show 570 + (5 * k + 1) = 570 + 5 * k + 1 by omega, um_wr_at, show 5 * k + 1 = k * 5 + 1 by omega, b6]
        · rw [um_wr_an (by omega), um_wr_an (by omega), um_wr_an (by omega), show 570 + (5 * k + 2) = 570 + 5 * k + 2 by omega, um_wr_at, show 5 * k + 2 = k * 5 + 2 by omega, b7 (by omega)]
        · rw [um_wr_an (by omega), um_wr_an (by omega), show 570 + (5 * k + 3) = 570 + 5 * k + 3 by omega, um_wr_at, show 5 * k + 3 = k * 5 + 3 by omega, b8 (by omega)]
        · rw [um_wr_an (by omega), show 570 + (5 * k + 4) = 570 + 5 * k + 4 by omega, um_wr_at, b4 _ (by omega)]
          exact hc.2.2.2.2.2.2.2 _ (by omega) (by omega)
      · intro b hb hb2
        change b ≠ 8 at hb
        change ¬ (570 + 5 * k ≤ b ∧ b < 570 + 5 * k + 5) at hb2
        rw [um_wr_an hb, um_wr_an (by omega), um_wr_an (by omega), um_wr_an (by omega), um_wr_an (by omega), um_wr_an (by omega)]
      · exact um_wr_at _ _ _ _
      · change ∃ m : Nat, m < nn ((um_wr (um_wr (um_wr (um_wr (um_wr (um_wr M 1 (570 + 5 * k) a1) 1 (570 + 5 * k + 1) a2) 1 (570 + 5 * k + 2) (M.1 1 0 + a3)) 1 (570 + 5 * k + 3) 0) 1 (570 + 5 * k + 4) 0) 1 8 (nI (k + 1))).1 1) 2 ∧ (um_wr (um_wr (um_wr (um_wr (um_wr (um_wr M 1 (570 + 5 * k) a1) 1 (570 + 5 * k + 1) a2) 1 (570 + 5 * k + 2) (M.1 1 0 + a3)) 1 (570 + 5 * k + 3) 0) 1 (570 + 5 * k + 4) 0) 1 8 (nI (k + 1))).1 1 (570 + 5 * k) = nI m
        refine ⟨m, ?_, ?_⟩
        · rw [nn_congr (s := M.1 1) (by rw [um_wr_an (by omega), um_wr_an (by omega), um_wr_an (by omega), um_wr_an (by omega), um_wr_an (by omega), um_wr_an (by omega)])]
          exact hm
        · rw [um_wr_an (by omega), um_wr_an (by omega), um_wr_an (by omega), um_wr_an (by omega), um_wr_an (by omega), um_wr_at]
          exact em
      · exact (mf_trans (mf_trans (mf_trans (mf_trans (mf_trans (mf_wr 1 (Or.inl rfl)) (mf_wr 1 (Or.inl rfl))) (mf_wr 1 (Or.inl rfl))) (mf_wr 1 (Or.inl rfl))) (mf_wr 1 (Or.inl rfl))) (mf_wr 1 (Or.inl rfl)))
  · refine sm_if Iff.rfl (fun _ => ?_) (fun _ => hk7)
    subst em
    rw [x_isDead hc hh hm hm2, m_isDead (by omega)]
    cases decide (M.1 1 (50 + 14 * m + 11) = 1) with
    | false => exact hk7
    | true => exact sm_ret ⟨rfl, hR⟩
