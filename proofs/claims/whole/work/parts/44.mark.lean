/-! LEVEL 2: marks, a man more, counts -/
section MRK
variable {X X' M M' : um_S} {h n W m q : Nat} {s : Nat → Int32} {v off : Int32}
theorem marksF (hs : sr X h (M.1 1) W n) (hh : um_h h) (hf : nn (M.1 1) 4 = 40) : f_X5_add (20 * h + 3) (nI m) (X.1 h 12) off 0 X = some (-1000000003, X) ∧ f_X9_marks (nI m) off M = some M := by
  obtain ⟨e1, hn⟩ := si_marks hs.2.1
  have ex1 : X.1 (20 * h + 3) 2 = nI (nn (M.1 1) 4) := by rw [x_cnt hs.1 (t := 3) (by omega)]; exact e1
  refine ⟨x_addF (xw_3 hh) (xl_3 hh) ex1 (by omega) (by omega), ?_⟩
  unfold f_X9_marks
  exact if_pos (by rw [e1, hf]; exact nI_le (a := 40) (by omega) (by omega))
theorem marksN (hs : sr X h (M.1 1) W n) (hh : um_h h) (hm : m < nn (M.1 1) 2) (hl : M.1 1 (50 + 14 * m + 10) ≠ -1) (hf : nn (M.1 1) 4 ≠ 40) : ∃ X' M' : um_S, f_X5_add (20 * h + 3) (nI m) (X.1 h 12) off 0 X = some (nI (nn (M.1 1) 4), X') ∧ f_X9_marks (nI m) off M = some M' ∧ sr X' h (M'.1 1) W n ∧ xf h X X' ∧ mf M M' ∧ (∀ b, b ≠ 4 → (b < 280 ∨ 440 ≤ b) → M'.1 1 b = M.1 1 b) ∧ M'.1 1 4 = nI (nn (M.1 1) 4 + 1) := by
  have hi := hs.2.1
  obtain ⟨e1, hn⟩ := si_marks hi
  obtain ⟨k, hk⟩ : ∃ k, nn (M.1 1) 4 = k := ⟨_, rfl⟩
  rw [hk] at e1 hn hf
  rw [hk]
  have hh2 : 1 ≤ h ∧ h ≤ 3 := by rcases hh with z | z | z <;> omega
  have ex1 : X.1 (20 * h + 3) 2 = nI k := by rw [x_cnt hs.1 (t := 3) (by omega)]; exact e1
  have hm14 := (si_men hi).2
  obtain ⟨X', ex, b1, b2, b3, b4, b5, b6, b7, b8⟩ := x_add (a := nI m) (b := X.1 h 12) (c := off) (d := 0) (xw_3 hh) (xl_3 hh) ex1 (by omega) (by omega) (by omega) (by omega)
  have hM : f_X9_marks (nI m) off M = some (um_wr (um_wr (um_wr (um_wr (um_wr M 1 (280 + 4 * k) (nI m)) 1 (280 + 4 * k + 1) (M.1 1 0)) 1 (280 + 4 * k + 2) off) 1 (280 + 4 * k + 3) 0) 1 4 (nI (k + 1))) := by
    unfold f_X9_marks
    rw [if_neg (by rw [e1]; exact nI_ge (b := 40) (by omega) (by omega)), e1]
    simp (disch := omega) only [um_let, Option.bind_some, m_markAt, e1, la_1, la_2, la_3, um_ix_3, cl_3, um_wr_an, um_wr_at, if_true]
  refine ⟨X', _, ex, hM, ?_, ⟨fun q j h1 h2 h3 _ => b2 q j (by omega) (by omega), b1⟩, mf_trans (mf_trans (mf_trans (mf_trans (mf_wr 1 (Or.inl rfl)) (mf_wr 1 (Or.inl rfl))) (mf_wr 1 (Or.inl rfl))) (mf_wr 1 (Or.inl rfl))) (mf_wr 1 (Or.inl rfl)), ?_, um_wr_at _ _ _ _⟩
  · refine sr_add hs hh (t := 3) (by omega) (by omega) hk.symm (by change 4 * (k + 1) ≤ 160; omega) b1 b2 b3 (fun j hj => b4 j (by change j < 4 * k ∨ _ at hj; omega)) ?_ ?_ ?_ ?_
    · intro c hc2
      change c < 4 at hc2
      change X'.1 _ (4 * k + c) = (um_wr (um_wr (um_wr (um_wr (um_wr M 1 (280 + 4 * k) (nI m)) 1 (280 + 4 * k + 1) (M.1 1 0)) 1 (280 + 4 * k + 2) off) 1 (280 + 4 * k + 3) 0) 1 4 (nI (k + 1))).1 1 (280 + (4 * k + c))
      have hcc : c = 0 ∨ c = 1 ∨ c = 2 ∨ c = 3 := by omega
      rcases hcc with rfl | rfl | rfl | rfl
      · rw [um_wr_an (by omega), um_wr_an (by omega), um_wr_an (by omega), um_wr_an (by omega), show 280 + (4 * k + 0) = 280 + 4 * k by omega, um_wr_at, show 4 * k + 0 = k * 4 by omega, b5]
      · rw [um_wr_an (by omega), um_wr_an (by omega), um_wr_an (by omega), show 280 + (4 * k + 1) = 280 + 4 * k + 1 by omega, um_wr_at, show 4 * k + 1 = k * 4 + 1 by omega, b6]
        exact hs.1.1.1
      · rw [um_wr_an (by omega), um_wr_an (by omega), show 280 + (4 * k + 2) = 280 + 4 * k + 2 by omega, um_wr_at, show 4 * k + 2 = k * 4 + 2 by omega, b7 (by omega)]
      · rw [um_wr_an (by omega), show 280 + (4 * k + 3) = 280 + 4 * k + 3 by omega, um_wr_at, show 4 * k + 3 = k * 4 + 3 by omega, b8 (by omega)]
    · intro b hb hb2
      change b ≠ 4 at hb
      change ¬ (280 + 4 * k ≤ b ∧ b < 280 + 4 * k + 4) at hb2
      rw [um_wr_an hb, um_wr_an (by omega), um_wr_an (by omega), um_wr_an (by omega), um_wr_an (by omega)]
    · exact um_wr_at _ _ _ _
    · refine ⟨m, ?_, ?_, ?_⟩
      · rw [nn_congr (s := M.1 1) (by rw [um_wr_an (by omega), um_wr_an (by omega), um_wr_an (by omega), um_wr_an (by omega), um_wr_an (by omega)])]
        exact hm
      · rw [um_wr_an (by omega), um_wr_an (by omega), um_wr_an (by omega), um_wr_an (by omega), um_wr_at]
      · rw [um_wr_an (by omega), um_wr_an (by omega), um_wr_an (by omega), um_wr_an (by omega), um_wr_an (by omega)]
        exact hl
  · intro b hb hb2
    rw [um_wr_an hb, um_wr_an (by omega), um_wr_an (by omega), um_wr_an (by omega), um_wr_an (by omega)]
end MRK
theorem sim_markR : sim_mark RR := by
  intro n X M a1 a2 hR
  refine sm_out ?_
  have hi := hR.1.2.1
  have hc := hR.1.1
  have hh : um_h 1 := Or.inl rfl
  have hm14 := (si_men hi).2
  unfold f_X8_mark f_X9_mark
  refine sm_chk (ho_man hc hi) (sm_ret ⟨rfl, hR⟩) (fun ⟨m, hm, em⟩ => ?_)
  subst em
  refine sm_chk (wi_0 (n := 3) (by decide) (by decide)) (sm_ret ⟨rfl, hR⟩) (fun ⟨x, hx, ex⟩ => ?_)
  have ho := si_man hi m hm
  have e3 := neg_m1 ho.2.2.1
  refine sm_xb (x_isDead hc hh hm hm14) (sm_mb (m_isOut (by omega)) ?_)
  by_cases hd : M.1 1 (50 + 14 * m + 11) = 1
  · rw [decide_eq_true hd, decide_eq_true (Or.inl hd)]
    exact sm_ret ⟨rfl, hR⟩
  · rw [decide_eq_false hd]
    refine sm_xF (sm_xb (x_hasLanded hc hh hm hm14 ho) ?_)
    by_cases hl : M.1 1 (50 + 14 * m + 10) < 0
    · rw [decide_eq_true (Or.inr hl), decide_eq_false (fun z => z hl)]
      exact sm_ret ⟨rfl, hR⟩
    · rw [decide_eq_false (p := M.1 1 (50 + 14 * m + 11) = 1 ∨ M.1 1 (50 + 14 * m + 10) < 0) (fun z => z.elim hd hl), decide_eq_true hl]
      refine sm_xT (sm_mF ?_)
      obtain ⟨e1, hn⟩ := si_marks hi
      by_cases hf : nn (M.1 1) 4 = 40
      · refine sm_xb2 (marksF hR.1 hh hf).1 (sm_mt (by rw [e1, hf]; rfl) (sm_ret ⟨rfl, hR⟩))
      · obtain ⟨X', M', q1, q2, q3, q4, q5, q6, q7⟩ := marksN (off := a2) hR.1 hh hm (fun z => hl (e3.mpr z)) hf
        refine sm_xb2 q1 (sm_mf (by rw [e1]; exact fun z => hf ((nI_eq (b := 40) (by omega) (by omega)).mp z)) (sm_mb q2 ?_))
        rw [q7, nI_pred]
        exact sm_ret ⟨rfl, RR_of hR q3 q4 q5⟩
theorem sm_mw {A B : Type} {Q : A → B → Prop} {o : Option A} {F : um_S → Option B} {M : um_S} {x v : Int32} {e : Nat} (hx : x = nI e) (he : e < 3790) (k : sm_S o (F (um_wr M 1 e v)) Q) : sm_S o (if um_ix x 3790 then um_let (um_wr M 1 x.toNatClampNeg v) F else none) Q := by
  subst hx
  rw [if_pos (um_ix_3 he), cl_3 he]
  exact k
theorem man_fin {n p k : Nat} {X X' X2 M M2 : um_S} {a2 a3 a4 a5 : Int32} (hR : RR n X M) (hk : nn (M.1 1) 2 = k) (hlt : k < 14) (hage2 : ∃ a : Nat, a ≤ 70 ∧ a4 = nI a) (b2 : ∀ q j, q ≠ 20 * 1 + 1 → q ≠ 20 * 1 + 1 + 100 → X'.1 q j = X.1 q j) (b3 : X'.1 (20 * 1 + 1) 2 = nI (k + 1))
    (hXo : ∀ j, j < 14 * k ∨ 14 * k + 14 ≤ j → X2.1 (20 * 1 + 1 + 100) j = X.1 (20 * 1 + 1 + 100) j) (hXk : ∀ q j, q ≠ (20 * 1 + 1 + 100) → X2.1 q j = X'.1 q j) (hx2 : X2.2 = X.2)
    (hMo : ∀ b, b ≠ 2 → ¬ (50 + 14 * k ≤ b ∧ b < 50 + 14 * k + 14) → M2.1 1 b = M.1 1 b) (hM2 : M2.1 1 2 = nI (k + 1)) (hmf : mf M M2)
    (hX_0 : X2.1 (20 * 1 + 1 + 100) (14 * k + 0) = a2) (hX_1 : X2.1 (20 * 1 + 1 + 100) (14 * k + 1) = a3) (hX_2 : X2.1 (20 * 1 + 1 + 100) (14 * k + 2) = a4) (hX_3 : X2.1 (20 * 1 + 1 + 100) (14 * k + 3) = a5) (hX_4 : X2.1 (20 * 1 + 1 + 100) (14 * k + 4) = -1000000005) (hX_5 : X2.1 (20 * 1 + 1 + 100) (14 * k + 5) = 1) (hX_6 : X2.1 (20 * 1 + 1 + 100) (14 * k + 6) = 0) (hX_7 : X2.1 (20 * 1 + 1 + 100) (14 * k + 7) = M.1 1 0) (hX_9 : X2.1 (20 * 1 + 1 + 100) (14 * k + 9) = 0) (hX_10 : X2.1 (20 * 1 + 1 + 100) (14 * k + 10) = -1000000005) (hX_11 : X2.1 (20 * 1 + 1 + 100) (14 * k + 11) = 0) (hX_12 : X2.1 (20 * 1 + 1 + 100) (14 * k + 12) = nI p) (hX_13 : X2.1 (20 * 1 + 1 + 100) (14 * k + 13) = 364)
    (hM_0 : M2.1 1 (50 + 14 * k + 0) = a2) (hM_1 : M2.1 1 (50 + 14 * k + 1) = a3) (hM_2 : M2.1 1 (50 + 14 * k + 2) = a4) (hM_3 : M2.1 1 (50 + 14 * k + 3) = a5) (hM_4 : M2.1 1 (50 + 14 * k + 4) = -1) (hM_5 : M2.1 1 (50 + 14 * k + 5) = 1) (hM_6 : M2.1 1 (50 + 14 * k + 6) = 0) (hM_7 : M2.1 1 (50 + 14 * k + 7) = M.1 1 0) (hM_9 : M2.1 1 (50 + 14 * k + 9) = 0) (hM_10 : M2.1 1 (50 + 14 * k + 10) = -1) (hM_11 : M2.1 1 (50 + 14 * k + 11) = 0) (hM_12 : M2.1 1 (50 + 14 * k + 12) = 364) (hM_13 : M2.1 1 (50 + 14 * k + 13) = nI p) : RR n X2 M2 := by
  have hi := hR.1.2.1
  have hc := hR.1.1
  have hh : um_h 1 := Or.inl rfl
  have hn2 : ∀ b, b ≠ 2 → b ≤ 9 → nn (M2.1 1) b = nn (M.1 1) b := fun b hb hb2 => nn_congr (hMo b hb (by omega))
  refine RR_of hR ⟨sc_addm hc hi hh hk.symm hlt (fun q j h1 h2 => by rw [hXk q j h2]; exact b2 q j h1 h2) (by rw [hXk _ _ (by omega)]; exact b3) hXo ?_ hMo hM2, si_add hi (t := 1) (by omega) hk.symm (by change 14 * (k + 1) ≤ 196; omega) hMo hM2 ?_, st_fr (fun q j h1 h2 => by rw [hXk q j (by omega)]; exact b2 q j (by omega) (by omega)) hx2 (fun b hb => hMo b (by omega) (by omega)) (hMo 5 (by omega) (by omega)) hR.1.2.2⟩ ⟨fun q j h1 h2 h3 _ => by rw [hXk q j (by omega)]; exact b2 q j (by omega) (by omega), hx2⟩ hmf
  · intro c hc14 hc8
    have hcc : c = 0 ∨ c = 1 ∨ c = 2 ∨ c = 3 ∨ c = 4 ∨ c = 5 ∨ c = 6 ∨ c = 7 ∨ c = 9 ∨ c = 10 ∨ c = 11 ∨ c = 12 ∨ c = 13 := by omega
    rcases hcc with rfl | rfl | rfl | rfl | rfl | rfl | rfl | rfl | rfl | rfl | rfl | rfl | rfl
    · rw [hX_0]
      change _ = M2.1 1 (50 + 14 * k + 0)
      rw [hM_0]
    · rw [hX_1]
      change _ = M2.1 1 (50 + 14 * k + 1)
      rw [hM_1]
    · rw [hX_2]
      change _ = M2.1 1 (50 + 14 * k + 2)
      rw [hM_2]
    · rw [hX_3]
      change _ = M2.1 1 (50 + 14 * k + 3)
      rw [hM_3]
    · rw [hX_4]
      change _ = eN (M2.1 1 (50 + 14 * k + 4))
      rw [hM_4, eN_m]
    · rw [hX_5]
      change _ = M2.1 1 (50 + 14 * k + 5)
      rw [hM_5]
    · rw [hX_6]
      change _ = M2.1 1 (50 + 14 * k + 6)
      rw [hM_6]
    · rw [hX_7]
      change _ = M2.1 1 (50 + 14 * k + 7)
      rw [hM_7]
    · rw [hX_9]
      change _ = M2.1 1 (50 + 14 * k + 9)
      rw [hM_9]
    · rw [hX_10]
      change _ = eN (M2.1 1 (50 + 14 * k + 10))
      rw [hM_10, eN_m]
    · rw [hX_11]
      change _ = M2.1 1 (50 + 14 * k + 11)
      rw [hM_11]
    · rw [hX_12]
      change _ = M2.1 1 (50 + 14 * k + 13)
      rw [hM_13]
    · rw [hX_13]
      change _ = M2.1 1 (50 + 14 * k + 12)
      rw [hM_12]
  · change mo (M2.1 1) k
    refine mo_of hM_2 hM_4 hM_5 hM_6 hM_10 hM_11 rfl ⟨⟨1, by omega, by omega, rfl⟩, Or.inl rfl, Or.inl rfl, fun _ => rfl, fun z => absurd rfl z, fun _ _ z => absurd rfl z, fun z => absurd z (by decide), fun z => absurd z (by decide), hage2⟩
theorem man_tail {n p k : Nat} {X M : um_S} {a2 a3 a4 a5 : Int32} (hR : RR n X M) (hk : nn (M.1 1) 2 = k) (hn : k ≤ 14) (e1 : M.1 1 2 = nI k) (ex1 : X.1 (20 * 1 + 1) 2 = nI k) (hage2 : ∃ a : Nat, a ≤ 70 ∧ a4 = nI a) : sm_S (um_b2 (f_X5_add (20 * 1 + 1) a2 a3 a4 a5 X) fun x15 σ14 => (if x15 = (-1000000003 : Int32) then (some (x15, σ14)) else ((f_X4_embark 1 x15 (nI p) σ14).bind fun σ17 => (some (x15, σ17))))) (if (M.1 1 2) = (14 : Int32) then (some ((-1000000003 : Int32), M)) else ((f_X9_manAt (M.1 1 2) M).bind fun x14 => (if um_ix (x14 + (0 : Int32)) 3790 then (um_let (um_wr M 1 (x14 + (0 : Int32)).toNatClampNeg a2) fun σ16 => (if um_ix (x14 + (1 : Int32)) 3790 then (um_let (um_wr σ16 1 (x14 + (1 : Int32)).toNatClampNeg a3) fun σ19 => (if um_ix (x14 + (2 : Int32)) 3790 then (um_let (um_wr σ19 1 (x14 + (2 : Int32)).toNatClampNeg a4) fun σ22 => (if um_ix (x14 + (3 : Int32)) 3790 then (um_let (um_wr σ22 1 (x14 + (3 : Int32)).toNatClampNeg a5) fun σ25 => (if um_ix (x14 + (4 : Int32)) 3790 then (um_let (um_wr σ25 1 (x14 + (4 : Int32)).toNatClampNeg (-1 : Int32)) fun σ28 => (if um_ix (x14 + (9 : Int32)) 3790 then (um_let (um_wr σ28 1 (x14 + (9 : Int32)).toNatClampNeg (0 : Int32)) fun σ31 => (if um_ix (x14 + (10 : Int32)) 3790 then (um_let (um_wr σ31 1 (x14 + (10 : Int32)).toNatClampNeg (-1 : Int32)) fun σ34 => (if um_ix (x14 + (11 : Int32)) 3790 then (um_let (um_wr σ34 1 (x14 + (11 : Int32)).toNatClampNeg (0 : Int32)) fun σ37 => (if um_ix (x14 + (12 : Int32)) 3790 then (um_let (um_wr σ37 1 (x14 + (12 : Int32)).toNatClampNeg (364 : Int32)) fun σ40 => (if um_ix (x14 + (13 : Int32)) 3790 then (um_let (um_wr σ40 1 (x14 + (13 : Int32)).toNatClampNeg (nI p)) fun σ43 => ((f_X9_becomesOf (σ43.1 1 2) (1 : Int32) (0 : Int32) σ43).bind fun σ46 => (um_let (um_wr σ46 1 2 ((σ46.1 1 2) + (1 : Int32))) fun σ47 => (some ((σ47.1 1 2) - (1 : Int32), σ47))))) else none)) else none)) else none)) else none)) else none)) else none)) else none)) else none)) else none)) else none))) (fun a b => a.1 = b.1 ∧ RR n a.2 b.2) := by
  have hi := hR.1.2.1
  have hc := hR.1.1
  have hh : um_h 1 := Or.inl rfl
  by_cases hf : k = 14
  · refine sm_xb2 (x_addF (xw_1 hh) (xl_1 hh) ex1 (by omega) (by omega)) ?_
    exact sm_xt rfl (sm_mt (by rw [e1, hf]; rfl) (sm_ret ⟨rfl, hR⟩))
  · obtain ⟨X', ex, b1, b2, b3, b4, b5, b6, b7, b8⟩ := x_add (a := a2) (b := a3) (c := a4) (d := a5) (xw_1 hh) (xl_1 hh) ex1 (by omega) (by omega) (by omega) (by omega)
    refine sm_xb2 ex ?_
    have hne : nI k ≠ -1000000003 := fun z => by
      have h1 := nI_toInt (n := k) (by omega)
      rw [z] at h1
      have h2 : (-1000000003 : Int32).toInt = -1000000003 := by decide
      omega
    refine sm_xf hne (sm_mf (by rw [e1]; exact fun z => hf ((nI_eq (b := 14) (by omega) (by omega)).mp z)) ?_)
    have e4 : ∀ (Y : um_S) (v : Int32), f_X5_set (20 * 1 + 1) (nI k) (4 : Int32) v Y = some (um_wr Y (20 * 1 + 1 + 100) (14 * k + 4) v) := fun Y v => s_1 (c := 4) hh (by omega) (by omega)
    have e10 : ∀ (Y : um_S) (v : Int32), f_X5_set (20 * 1 + 1) (nI k) (10 : Int32) v Y = some (um_wr Y (20 * 1 + 1 + 100) (14 * k + 10) v) := fun Y v => s_1 (c := 10) hh (by omega) (by omega)
    have e12 : ∀ (Y : um_S) (v : Int32), f_X5_set (20 * 1 + 1) (nI k) (12 : Int32) v Y = some (um_wr Y (20 * 1 + 1 + 100) (14 * k + 12) v) := fun Y v => s_1 (c := 12) hh (by omega) (by omega)
    have e13 : ∀ (Y : um_S) (v : Int32), f_X5_set (20 * 1 + 1) (nI k) (13 : Int32) v Y = some (um_wr Y (20 * 1 + 1 + 100) (14 * k + 13) v) := fun Y v => s_1 (c := 13) hh (by omega) (by omega)
    unfold f_X4_embark
    rw [x_become hh (by omega), Option.bind_some, e4, Option.bind_some, e10, Option.bind_some, e12, Option.bind_some, e13, Option.bind_some, Option.bind_some, b2 1 12 (by omega) (by omega), hc.1.1]
    rw [e1, m_manAt]
    refine sm_mb rfl (sm_mw (e := 50 + 14 * k + 0) la_0 (by omega) ?_)
    refine sm_mw (e := 50 + 14 * k + 1) la_1 (by omega) ?_
    refine sm_mw (e := 50 + 14 * k + 2) la_2 (by omega) ?_
    refine sm_mw (e := 50 + 14 * k + 3) la_3 (by omega) ?_
    refine sm_mw (e := 50 + 14 * k + 4) la_4 (by omega) ?_
    refine sm_mw (e := 50 + 14 * k + 9) la_9 (by omega) ?_
    refine sm_mw (e := 50 + 14 * k + 10) la_10 (by omega) ?_
    refine sm_mw (e := 50 + 14 * k + 11) la_11 (by omega) ?_
    refine sm_mw (e := 50 + 14 * k + 12) la_12 (by omega) ?_
    refine sm_mw (e := 50 + 14 * k + 13) la_13 (by omega) ?_
    obtain ⟨Y, hY⟩ : ∃ Y, Y = (um_wr (um_wr (um_wr (um_wr (um_wr (um_wr (um_wr (um_wr (um_wr (um_wr M 1 (50 + 14 * k + 0) a2) 1 (50 + 14 * k + 1) a3) 1 (50 + 14 * k + 2) a4) 1 (50 + 14 * k + 3) a5) 1 (50 + 14 * k + 4) (-1)) 1 (50 + 14 * k + 9) 0) 1 (50 + 14 * k + 10) (-1)) 1 (50 + 14 * k + 11) 0) 1 (50 + 14 * k + 12) 364) 1 (50 + 14 * k + 13) (nI p)) := ⟨_, rfl⟩
    rw [← hY]
    have hYo : ∀ b, ¬ (50 + 14 * k ≤ b ∧ b < 50 + 14 * k + 14) → Y.1 1 b = M.1 1 b := fun b hb2 => by
      rw [hY, um_wr_an (by omega), um_wr_an (by omega), um_wr_an (by omega), um_wr_an (by omega), um_wr_an (by omega), um_wr_an (by omega), um_wr_an (by omega), um_wr_an (by omega), um_wr_an (by omega), um_wr_an (by omega)]
    have hY_0 : Y.1 1 (50 + 14 * k + 0) = a2 := by
      rw [hY, um_wr_an (by omega), um_wr_an (by omega), um_wr_an (by omega), um_wr_an (by omega), um_wr_an (by omega), um_wr_an (by omega), um_wr_an (by omega), um_wr_an (by omega), um_wr_an (by omega), um_wr_at]
    have hY_1 : Y.1 1 (50 + 14 * k + 1) = a3 := by
      rw [hY, um_wr_an (by omega), um_wr_an (by omega), um_wr_an (by omega), um_wr_an (by omega), um_wr_an (by omega), um_wr_an (by omega), um_wr_an (by omega), um_wr_an (by omega), um_wr_at]
    have hY_2 : Y.1 1 (50 + 14 * k + 2) = a4 := by
      rw [hY, um_wr_an (by omega), um_wr_an (by omega), um_wr_an (by omega), um_wr_an (by omega), um_wr_an (by omega), um_wr_an (by omega), um_wr_an (by omega), um_wr_at]
    have hY_3 : Y.1 1 (50 + 14 * k + 3) = a5 := by
      rw [hY, um_wr_an (by omega), um_wr_an (by omega), um_wr_an (by omega), um_wr_an (by omega), um_wr_an (by omega), um_wr_an (by omega), um_wr_at]
    have hY_4 : Y.1 1 (50 + 14 * k + 4) = (-1) := by
      rw [hY, um_wr_an (by omega), um_wr_an (by omega), um_wr_an (by omega), um_wr_an (by omega), um_wr_an (by omega), um_wr_at]
    have hY_9 : Y.1 1 (50 + 14 * k + 9) = 0 := by
      rw [hY, um_wr_an (by omega), um_wr_an (by omega), um_wr_an (by omega), um_wr_an (by omega), um_wr_at]
    have hY_10 : Y.1 1 (50 + 14 * k + 10) = (-1) := by
      rw [hY, um_wr_an (by omega), um_wr_an (by omega), um_wr_an (by omega), um_wr_at]
    have hY_11 : Y.1 1 (50 + 14 * k + 11) = 0 := by
      rw [hY, um_wr_an (by omega), um_wr_an (by omega), um_wr_at]
    have hY_12 : Y.1 1 (50 + 14 * k + 12) = 364 := by
      rw [hY, um_wr_an (by omega), um_wr_at]
    have hY_13 : Y.1 1 (50 + 14 * k + 13) = (nI p) := by
      rw [hY, um_wr_at]
    have hYf : mf M Y := by
      intro q j h1 h2 h3
      rw [hY, um_wr_nk h1, um_wr_nk h1, um_wr_nk h1, um_wr_nk h1, um_wr_nk h1, um_wr_nk h1, um_wr_nk h1, um_wr_nk h1, um_wr_nk h1, um_wr_nk h1]
    clear hY
    rw [hYo 2 (by omega), e1, m_becomesOf (by omega), Option.bind_some, hYo 0 (by omega)]
    refine sm_ml ?_
    rw [um_wr_at, um_wr_an (by omega), um_wr_an (by omega), um_wr_an (by omega), hYo 2 (by omega), e1, la_1, nI_pred]
    have hMo : ∀ b, b ≠ 2 → ¬ (50 + 14 * k ≤ b ∧ b < 50 + 14 * k + 14) → (um_wr (um_wr (um_wr (um_wr Y 1 (50 + 14 * k + 5) 1) 1 (50 + 14 * k + 6) 0) 1 (50 + 14 * k + 7) (M.1 1 0)) 1 2 (nI (k + 1))).1 1 b = M.1 1 b := fun b hb hb2 => by
      rw [um_wr_an hb, um_wr_an (by omega), um_wr_an (by omega), um_wr_an (by omega)]
      exact hYo b hb2
    have hM2 : (um_wr (um_wr (um_wr (um_wr Y 1 (50 + 14 * k + 5) 1) 1 (50 + 14 * k + 6) 0) 1 (50 + 14 * k + 7) (M.1 1 0)) 1 2 (nI (k + 1))).1 1 2 = nI (k + 1) := um_wr_at _ _ _ _
    have hmf : mf M (um_wr (um_wr (um_wr (um_wr Y 1 (50 + 14 * k + 5) 1) 1 (50 + 14 * k + 6) 0) 1 (50 + 14 * k + 7) (M.1 1 0)) 1 2 (nI (k + 1))) := mf_trans hYf (mf_trans bec_mf (mf_wr 1 (Or.inl rfl)))
    have hM_2 : (um_wr (um_wr (um_wr (um_wr Y 1 (50 + 14 * k + 5) 1) 1 (50 + 14 * k + 6) 0) 1 (50 + 14 * k + 7) (M.1 1 0)) 1 2 (nI (k + 1))).1 1 (50 + 14 * k + 2) = a4 := by
      rw [um_wr_an (by omega), um_wr_an (by omega), um_wr_an (by omega), um_wr_an (by omega)]
      exact hY_2
    have hM_4 : (um_wr (um_wr (um_wr (um_wr Y 1 (50 + 14 * k + 5) 1) 1 (50 + 14 * k + 6) 0) 1 (50 + 14 * k + 7) (M.1 1 0)) 1 2 (nI (k + 1))).1 1 (50 + 14 * k + 4) = (-1) := by
      rw [um_wr_an (by omega), um_wr_an (by omega), um_wr_an (by omega), um_wr_an (by omega)]
      exact hY_4
    have hM_5 : (um_wr (um_wr (um_wr (um_wr Y 1 (50 + 14 * k + 5) 1) 1 (50 + 14 * k + 6) 0) 1 (50 + 14 * k + 7) (M.1 1 0)) 1 2 (nI (k + 1))).1 1 (50 + 14 * k + 5) = 1 := by
      rw [um_wr_an (by omega), um_wr_an (by omega), um_wr_an (by omega), um_wr_at]
    have hM_6 : (um_wr (um_wr (um_wr (um_wr Y 1 (50 + 14 * k + 5) 1) 1 (50 + 14 * k + 6) 0) 1 (50 + 14 * k + 7) (M.1 1 0)) 1 2 (nI (k + 1))).1 1 (50 + 14 * k + 6) = 0 := by
      rw [um_wr_an (by omega), um_wr_an (by omega), um_wr_at]
    have hM_10 : (um_wr (um_wr (um_wr (um_wr Y 1 (50 + 14 * k + 5) 1) 1 (50 + 14 * k + 6) 0) 1 (50 + 14 * k + 7) (M.1 1 0)) 1 2 (nI (k + 1))).1 1 (50 + 14 * k + 10) = (-1) := by
      rw [um_wr_an (by omega), um_wr_an (by omega), um_wr_an (by omega), um_wr_an (by omega)]
      exact hY_10
    have hM_11 : (um_wr (um_wr (um_wr (um_wr Y 1 (50 + 14 * k + 5) 1) 1 (50 + 14 * k + 6) 0) 1 (50 + 14 * k + 7) (M.1 1 0)) 1 2 (nI (k + 1))).1 1 (50 + 14 * k + 11) = 0 := by
      rw [um_wr_an (by omega), um_wr_an (by omega), um_wr_an (by omega), um_wr_an (by omega)]
      exact hY_11
    have hM_0 : (um_wr (um_wr (um_wr (um_wr Y 1 (50 + 14 * k + 5) 1) 1 (50 + 14 * k + 6) 0) 1 (50 + 14 * k + 7) (M.1 1 0)) 1 2 (nI (k + 1))).1 1 (50 + 14 * k + 0) = a2 := by
      rw [um_wr_an (by omega), um_wr_an (by omega), um_wr_an (by omega), um_wr_an (by omega)]
      exact hY_0
    have hM_1 : (um_wr (um_wr (um_wr (um_wr Y 1 (50 + 14 * k + 5) 1) 1 (50 + 14 * k + 6) 0) 1 (50 + 14 * k + 7) (M.1 1 0)) 1 2 (nI (k + 1))).1 1 (50 + 14 * k + 1) = a3 := by
      rw [um_wr_an (by omega), um_wr_an (by omega), um_wr_an (by omega), um_wr_an (by omega)]
      exact hY_1
    have hM_3 : (um_wr (um_wr (um_wr (um_wr Y 1 (50 + 14 * k + 5) 1) 1 (50 + 14 * k + 6) 0) 1 (50 + 14 * k + 7) (M.1 1 0)) 1 2 (nI (k + 1))).1 1 (50 + 14 * k + 3) = a5 := by
      rw [um_wr_an (by omega), um_wr_an (by omega), um_wr_an (by omega), um_wr_an (by omega)]
      exact hY_3
    have hM_7 : (um_wr (um_wr (um_wr (um_wr Y 1 (50 + 14 * k + 5) 1) 1 (50 + 14 * k + 6) 0) 1 (50 + 14 * k + 7) (M.1 1 0)) 1 2 (nI (k + 1))).1 1 (50 + 14 * k + 7) = M.1 1 0 := by
      rw [um_wr_an (by omega), um_wr_at]
    have hM_9 : (um_wr (um_wr (um_wr (um_wr Y 1 (50 + 14 * k + 5) 1) 1 (50 + 14 * k + 6) 0) 1 (50 + 14 * k + 7) (M.1 1 0)) 1 2 (nI (k + 1))).1 1 (50 + 14 * k + 9) = 0 := by
      rw [um_wr_an (by omega), um_wr_an (by omega), um_wr_an (by omega), um_wr_an (by omega)]
      exact hY_9
    have hM_12 : (um_wr (um_wr (um_wr (um_wr Y 1 (50 + 14 * k + 5) 1) 1 (50 + 14 * k + 6) 0) 1 (50 + 14 * k + 7) (M.1 1 0)) 1 2 (nI (k + 1))).1 1 (50 + 14 * k + 12) = 364 := by
      rw [um_wr_an (by omega), um_wr_an (by omega), um_wr_an (by omega), um_wr_an (by omega)]
      exact hY_12
    have hM_13 : (um_wr (um_wr (um_wr (um_wr Y 1 (50 + 14 * k + 5) 1) 1 (50 + 14 * k + 6) 0) 1 (50 + 14 * k + 7) (M.1 1 0)) 1 2 (nI (k + 1))).1 1 (50 + 14 * k + 13) = (nI p) := by
      rw [um_wr_an (by omega), um_wr_an (by omega), um_wr_an (by omega), um_wr_an (by omega)]
      exact hY_13
    have hXo : ∀ j, j < 14 * k ∨ 14 * k + 14 ≤ j → (um_wr (um_wr (um_wr (um_wr (um_wr (um_wr (um_wr X' (20 * 1 + 1 + 100) (14 * k + 5) 1) (20 * 1 + 1 + 100) (14 * k + 6) 0) (20 * 1 + 1 + 100) (14 * k + 7) (M.1 1 0)) (20 * 1 + 1 + 100) (14 * k + 4) (-1000000005)) (20 * 1 + 1 + 100) (14 * k + 10) (-1000000005)) (20 * 1 + 1 + 100) (14 * k + 12) (nI p)) (20 * 1 + 1 + 100) (14 * k + 13) 364).1 (20 * 1 + 1 + 100) j = X.1 (20 * 1 + 1 + 100) j := fun j hj => by
      rw [um_wr_an (by omega), um_wr_an (by omega), um_wr_an (by omega), um_wr_an (by omega), um_wr_an (by omega), um_wr_an (by omega), um_wr_an (by omega)]
      exact b4 j (by omega)
    have hXk : ∀ q j, q ≠ (20 * 1 + 1 + 100) → (um_wr (um_wr (um_wr (um_wr (um_wr (um_wr (um_wr X' (20 * 1 + 1 + 100) (14 * k + 5) 1) (20 * 1 + 1 + 100) (14 * k + 6) 0) (20 * 1 + 1 + 100) (14 * k + 7) (M.1 1 0)) (20 * 1 + 1 + 100) (14 * k + 4) (-1000000005)) (20 * 1 + 1 + 100) (14 * k + 10) (-1000000005)) (20 * 1 + 1 + 100) (14 * k + 12) (nI p)) (20 * 1 + 1 + 100) (14 * k + 13) 364).1 q j = X'.1 q j := fun q j hq => by
      rw [um_wr_nk hq, um_wr_nk hq, um_wr_nk hq, um_wr_nk hq, um_wr_nk hq, um_wr_nk hq, um_wr_nk hq]
    have hz : ∀ j, 14 * k ≤ j → j < 196 → X.1 (20 * 1 + 1 + 100) j = 0 := fun j h1 h2 => hc.2.2.2.2.2.2.1 j (by rw [hk]; exact h1) h2
    have hX_0 : (um_wr (um_wr (um_wr (um_wr (um_wr (um_wr (um_wr X' (20 * 1 + 1 + 100) (14 * k + 5) 1) (20 * 1 + 1 + 100) (14 * k + 6) 0) (20 * 1 + 1 + 100) (14 * k + 7) (M.1 1 0)) (20 * 1 + 1 + 100) (14 * k + 4) (-1000000005)) (20 * 1 + 1 + 100) (14 * k + 10) (-1000000005)) (20 * 1 + 1 + 100) (14 * k + 12) (nI p)) (20 * 1 + 1 + 100) (14 * k + 13) 364).1 (20 * 1 + 1 + 100) (14 * k + 0) = a2 := by
      rw [um_wr_an (by omega), um_wr_an (by omega), um_wr_an (by omega), um_wr_an (by omega), um_wr_an (by omega), um_wr_an (by omega), um_wr_an (by omega)]
      rw [show 14 * k + 0 = k * 14 by omega]; exact b5
    have hX_1 : (um_wr (um_wr (um_wr (um_wr (um_wr (um_wr (um_wr X' (20 * 1 + 1 + 100) (14 * k + 5) 1) (20 * 1 + 1 + 100) (14 * k + 6) 0) (20 * 1 + 1 + 100) (14 * k + 7) (M.1 1 0)) (20 * 1 + 1 + 100) (14 * k + 4) (-1000000005)) (20 * 1 + 1 + 100) (14 * k + 10) (-1000000005)) (20 * 1 + 1 + 100) (14 * k + 12) (nI p)) (20 * 1 + 1 + 100) (14 * k + 13) 364).1 (20 * 1 + 1 + 100) (14 * k + 1) = a3 := by
      rw [um_wr_an (by omega), um_wr_an (by omega), um_wr_an (by omega), um_wr_an (by omega), um_wr_an (by omega), um_wr_an (by omega), um_wr_an (by omega)]
      rw [show 14 * k + 1 = k * 14 + 1 by omega]; exact b6
    have hX_2 : (um_wr (um_wr (um_wr (um_wr (um_wr (um_wr (um_wr X' (20 * 1 + 1 + 100) (14 * k + 5) 1) (20 * 1 + 1 + 100) (14 * k + 6) 0) (20 * 1 + 1 + 100) (14 * k + 7) (M.1 1 0)) (20 * 1 + 1 + 100) (14 * k + 4) (-1000000005)) (20 * 1 + 1 + 100) (14 * k + 10) (-1000000005)) (20 * 1 + 1 + 100) (14 * k + 12) (nI p)) (20 * 1 + 1 + 100) (14 * k + 13) 364).1 (20 * 1 + 1 + 100) (14 * k + 2) = a4 := by
      rw [um_wr_an (by omega), um_wr_an (by omega), um_wr_an (by omega), um_wr_an (by omega), um_wr_an (by omega), um_wr_an (by omega), um_wr_an (by omega)]
      rw [show 14 * k + 2 = k * 14 + 2 by omega]; exact b7 (by omega)
    have hX_3 : (um_wr (um_wr (um_wr (um_wr (um_wr (um_wr (um_wr X' (20 * 1 + 1 + 100) (14 * k + 5) 1) (20 * 1 + 1 + 100) (14 * k + 6) 0) (20 * 1 + 1 + 100) (14 * k + 7) (M.1 1 0)) (20 * 1 + 1 + 100) (14 * k + 4) (-1000000005)) (20 * 1 + 1 + 100) (14 * k + 10) (-1000000005)) (20 * 1 + 1 + 100) (14 * k + 12) (nI p)) (20 * 1 + 1 + 100) (14 * k + 13) 364).1 (20 * 1 + 1 + 100) (14 * k + 3) = a5 := by
      rw [um_wr_an (by omega), um_wr_an (by omega), um_wr_an (by omega), um_wr_an (by omega), um_wr_an (by omega), um_wr_an (by omega), um_wr_an (by omega)]
      rw [show 14 * k + 3 = k * 14 + 3 by omega]; exact b8 (by omega)
    have hX_4 : (um_wr (um_wr (um_wr (um_wr (um_wr (um_wr (um_wr X' (20 * 1 + 1 + 100) (14 * k + 5) 1) (20 * 1 + 1 + 100) (14 * k + 6) 0) (20 * 1 + 1 + 100) (14 * k + 7) (M.1 1 0)) (20 * 1 + 1 + 100) (14 * k + 4) (-1000000005)) (20 * 1 + 1 + 100) (14 * k + 10) (-1000000005)) (20 * 1 + 1 + 100) (14 * k + 12) (nI p)) (20 * 1 + 1 + 100) (14 * k + 13) 364).1 (20 * 1 + 1 + 100) (14 * k + 4) = -1000000005 := by
      rw [um_wr_an (by omega), um_wr_an (by omega), um_wr_an (by omega), um_wr_at]
    have hX_5 : (um_wr (um_wr (um_wr (um_wr (um_wr (um_wr (um_wr X' (20 * 1 + 1 + 100) (14 * k + 5) 1) (20 * 1 + 1 + 100) (14 * k + 6) 0) (20 * 1 + 1 + 100) (14 * k + 7) (M.1 1 0)) (20 * 1 + 1 + 100) (14 * k + 4) (-1000000005)) (20 * 1 + 1 + 100) (14 * k + 10) (-1000000005)) (20 * 1 + 1 + 100) (14 * k + 12) (nI p)) (20 * 1 + 1 + 100) (14 * k + 13) 364).1 (20 * 1 + 1 + 100) (14 * k + 5) = 1 := by
      rw [um_wr_an (by omega), um_wr_an (by omega), um_wr_an (by omega), um_wr_an (by omega), um_wr_an (by omega), um_wr_an (by omega), um_wr_at]
    have hX_6 : (um_wr (um_wr (um_wr (um_wr (um_wr (um_wr (um_wr X' (20 * 1 + 1 + 100) (14 * k + 5) 1) (20 * 1 + 1 + 100) (14 * k + 6) 0) (20 * 1 + 1 + 100) (14 * k + 7) (M.1 1 0)) (20 * 1 + 1 + 100) (14 * k + 4) (-1000000005)) (20 * 1 + 1 + 100) (14 * k + 10) (-1000000005)) (20 * 1 + 1 + 100) (14 * k + 12) (nI p)) (20 * 1 + 1 + 100) (14 * k + 13) 364).1 (20 * 1 + 1 + 100) (14 * k + 6) = 0 := by
      rw [um_wr_an (by omega), um_wr_an (by omega), um_wr_an (by omega), um_wr_an (by omega), um_wr_an (by omega), um_wr_at]
    have hX_7 : (um_wr (um_wr (um_wr (um_wr (um_wr (um_wr (um_wr X' (20 * 1 + 1 + 100) (14 * k + 5) 1) (20 * 1 + 1 + 100) (14 * k + 6) 0) (20 * 1 + 1 + 100) (14 * k + 7) (M.1 1 0)) (20 * 1 + 1 + 100) (14 * k + 4) (-1000000005)) (20 * 1 + 1 + 100) (14 * k + 10) (-1000000005)) (20 * 1 + 1 + 100) (14 * k + 12) (nI p)) (20 * 1 + 1 + 100) (14 * k + 13) 364).1 (20 * 1 + 1 + 100) (14 * k + 7) = M.1 1 0 := by
      rw [um_wr_an (by omega), um_wr_an (by omega), um_wr_an (by omega), um_wr_an (by omega), um_wr_at]
    have hX_9 : (um_wr (um_wr (um_wr (um_wr (um_wr (um_wr (um_wr X' (20 * 1 + 1 + 100) (14 * k + 5) 1) (20 * 1 + 1 + 100) (14 * k + 6) 0) (20 * 1 + 1 + 100) (14 * k + 7) (M.1 1 0)) (20 * 1 + 1 + 100) (14 * k + 4) (-1000000005)) (20 * 1 + 1 + 100) (14 * k + 10) (-1000000005)) (20 * 1 + 1 + 100) (14 * k + 12) (nI p)) (20 * 1 + 1 + 100) (14 * k + 13) 364).1 (20 * 1 + 1 + 100) (14 * k + 9) = 0 := by
      rw [um_wr_an (by omega), um_wr_an (by omega), um_wr_an (by omega), um_wr_an (by omega), um_wr_an (by omega), um_wr_an (by omega), um_wr_an (by omega)]
      rw [b4 _ (by omega)]; exact hz _ (by omega) (by omega)
    have hX_10 : (um_wr (um_wr (um_wr (um_wr (um_wr (um_wr (um_wr X' (20 * 1 + 1 + 100) (14 * k + 5) 1) (20 * 1 + 1 + 100) (14 * k + 6) 0) (20 * 1 + 1 + 100) (14 * k + 7) (M.1 1 0)) (20 * 1 + 1 + 100) (14 * k + 4) (-1000000005)) (20 * 1 + 1 + 100) (14 * k + 10) (-1000000005)) (20 * 1 + 1 + 100) (14 * k + 12) (nI p)) (20 * 1 + 1 + 100) (14 * k + 13) 364).1 (20 * 1 + 1 + 100) (14 * k + 10) = -1000000005 := by
      rw [um_wr_an (by omega), um_wr_an (by omega), um_wr_at]
    have hX_11 : (um_wr (um_wr (um_wr (um_wr (um_wr (um_wr (um_wr X' (20 * 1 + 1 + 100) (14 * k + 5) 1) (20 * 1 + 1 + 100) (14 * k + 6) 0) (20 * 1 + 1 + 100) (14 * k + 7) (M.1 1 0)) (20 * 1 + 1 + 100) (14 * k + 4) (-1000000005)) (20 * 1 + 1 + 100) (14 * k + 10) (-1000000005)) (20 * 1 + 1 + 100) (14 * k + 12) (nI p)) (20 * 1 + 1 + 100) (14 * k + 13) 364).1 (20 * 1 + 1 + 100) (14 * k + 11) = 0 := by
      rw [um_wr_an (by omega), um_wr_an (by omega), um_wr_an (by omega), um_wr_an (by omega), um_wr_an (by omega), um_wr_an (by omega), um_wr_an (by omega)]
      rw [b4 _ (by omega)]; exact hz _ (by omega) (by omega)
    have hX_12 : (um_wr (um_wr (um_wr (um_wr (um_wr (um_wr (um_wr X' (20 * 1 + 1 + 100) (14 * k + 5) 1) (20 * 1 + 1 + 100) (14 * k + 6) 0) (20 * 1 + 1 + 100) (14 * k + 7) (M.1 1 0)) (20 * 1 + 1 + 100) (14 * k + 4) (-1000000005)) (20 * 1 + 1 + 100) (14 * k + 10) (-1000000005)) (20 * 1 + 1 + 100) (14 * k + 12) (nI p)) (20 * 1 + 1 + 100) (14 * k + 13) 364).1 (20 * 1 + 1 + 100) (14 * k + 12) = nI p := by
      rw [um_wr_an (by omega), um_wr_at]
    have hX_13 : (um_wr (um_wr (um_wr (um_wr (um_wr (um_wr (um_wr X' (20 * 1 + 1 + 100) (14 * k + 5) 1) (20 * 1 + 1 + 100) (14 * k + 6) 0) (20 * 1 + 1 + 100) (14 * k + 7) (M.1 1 0)) (20 * 1 + 1 + 100) (14 * k + 4) (-1000000005)) (20 * 1 + 1 + 100) (14 * k + 10) (-1000000005)) (20 * 1 + 1 + 100) (14 * k + 12) (nI p)) (20 * 1 + 1 + 100) (14 * k + 13) 364).1 (20 * 1 + 1 + 100) (14 * k + 13) = 364 := by
      rw [um_wr_at]
    have hx2 : (um_wr (um_wr (um_wr (um_wr (um_wr (um_wr (um_wr X' (20 * 1 + 1 + 100) (14 * k + 5) 1) (20 * 1 + 1 + 100) (14 * k + 6) 0) (20 * 1 + 1 + 100) (14 * k + 7) (M.1 1 0)) (20 * 1 + 1 + 100) (14 * k + 4) (-1000000005)) (20 * 1 + 1 + 100) (14 * k + 10) (-1000000005)) (20 * 1 + 1 + 100) (14 * k + 12) (nI p)) (20 * 1 + 1 + 100) (14 * k + 13) 364).2 = X.2 := b1
    exact sm_ret ⟨rfl, man_fin hR hk (by omega) hage2 b2 b3 hXo hXk hx2 hMo hM2 hmf hX_0 hX_1 hX_2 hX_3 hX_4 hX_5 hX_6 hX_7 hX_9 hX_10 hX_11 hX_12 hX_13 hM_0 hM_1 hM_2 hM_3 hM_4 hM_5 hM_6 hM_7 hM_9 hM_10 hM_11 hM_12 hM_13⟩
theorem sim_manR : sim_man RR := by
  intro n X M a1 a2 a3 a4 a5 hR
  refine sm_out ?_
  have hi := hR.1.2.1
  have hc := hR.1.1
  have hh : um_h 1 := Or.inl rfl
  obtain ⟨es, hns⟩ := si_ships hi
  obtain ⟨e1, hn⟩ := si_men hi
  obtain ⟨k, hk⟩ : ∃ k, nn (M.1 1) 2 = k := ⟨_, rfl⟩
  rw [hk] at e1 hn
  have ex1 : X.1 (20 * 1 + 1) 2 = nI k := by rw [x_cnt hc (t := 1) (by omega)]; exact e1
  unfold f_X8_man f_X9_man
  obtain ⟨x, y, hx, hy, rfl, hxy⟩ := ho_ (T := 20 * 1 + 0) (a := a1) (X := X) (M := M) (k := nn (M.1 1) 1) (by rw [x_cnt hc (t := 0) (by omega)]; exact es) es (by omega)
  cases x with
  | false => exact sm_xb hx (sm_mb hy (sm_ret ⟨rfl, hR⟩))
  | true =>
    obtain ⟨p, hp, ep⟩ := hxy rfl
    subst ep
    refine sm_xb hx (sm_xT (sm_mb hy (sm_ml (sm_ml (sm_mT ?_)))))
    rw [x_p0_1 hc hi hh hp, lm_2, lb_30, la_1]
    refine sm_mt (um_ix_3 (by omega)) ?_
    rw [cl_3 (by omega), hc.1.1]
    refine sm_xi (fun hw => sm_mf ?_ ?_) (fun hw => sm_mt ?_ (sm_ret ⟨rfl, hR⟩))
    · rw [Int32.lt_iff_toInt_lt]
      rw [Int32.le_iff_toInt_le] at hw
      omega
    · change sm_S _ ((f_X9_isIn (a2.toInt64) (0 : Int64) (7 : Int64) M).bind _) _
      refine sm_chk (wi_0 (n := 7) (by decide) (by decide)) (sm_ret ⟨rfl, hR⟩) (fun _ => ?_)
      refine sm_chk (wi_0 (n := 5) (by decide) (by decide)) (sm_ret ⟨rfl, hR⟩) (fun _ => ?_)
      refine sm_chk (wi_ (by decide) (by decide)) (sm_ret ⟨rfl, hR⟩) (fun hage => ?_)
      refine sm_chk (wi_0 (n := 255) (by decide) (by decide)) (sm_ret ⟨rfl, hR⟩) (fun _ => ?_)
      have hage2 : ∃ a : Nat, a ≤ 70 ∧ a4 = nI a := by
        have h1 : (10 : Int32).toInt = 10 := by decide
        have h2 : (70 : Int32).toInt = 70 := by decide
        obtain ⟨a, ha, ea⟩ := nI_ofT (a := a4) (u := 70) (by omega) (by omega)
        exact ⟨a, by omega, ea⟩
      exact man_tail hR hk hn e1 ex1 hage2
    · rw [Int32.lt_iff_toInt_lt]
      rw [Int32.le_iff_toInt_le] at hw
      omega
