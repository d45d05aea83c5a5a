/-! LEVEL 2: what a text gives -/
theorem nI_am (x : Nat) : nI (x + 1) + (-1) = nI x := by
  rw [nI_succ, Int32.add_assoc, show (1 : Int32) + -1 = 0 by decide, Int32.add_zero]
theorem div_m1 (x : Int32) : x / (-1) = -x := by
  apply Int32.toBitVec_inj.mp
  rw [Int32.toBitVec_div, Int32.toBitVec_neg, Int32.toBitVec_neg]
  have e : -(1 : Int32).toBitVec = -1#32 := by decide
  rw [e]
  unfold BitVec.sdiv
  have e2 : (-1#32).msb = true := by decide
  have e3 : (-1#32).neg = 1#32 := by decide
  rw [e2, e3]
  cases x.toBitVec.msb
  · show -(x.toBitVec / 1#32) = -x.toBitVec
    simp
  · show (-x.toBitVec) / 1#32 = -x.toBitVec
    simp
section VAL
variable {X X' X0 M M' M0 : um_S} {h n W m i q c L P key : Nat} {s : Nat → Int32} {l r v a b d : Int32}
theorem joined_ (hc : c ∈ sgL) : ∃ w, f_X7_joined (nI c) l r X = some w ∧ f_X9_joined (nI c) l r M = some w := by
  have hcc : c = 38 ∨ c = 42 ∨ c = 43 ∨ c = 45 ∨ c = 47 ∨ c = 60 ∨ c = 61 ∨ c = 62 ∨ c = 124 := by simpa [sgL] using hc
  rcases hcc with rfl | rfl | rfl | rfl | rfl | rfl | rfl | rfl | rfl
  · have e : f_X9_joined (nI 38) l r M = f_X7_joined (nI 38) l r X := rfl
    have e1 : f_X7_joined (nI 38) l r X = if l = 0 then some 0 else if r = 0 then some 0 else some 1 := rfl
    rw [e, e1]
    split
    · exact ⟨_, rfl, rfl⟩
    · split <;> exact ⟨_, rfl, rfl⟩
  · exact ⟨l * r, rfl, rfl⟩
  · exact ⟨l + r, rfl, rfl⟩
  · exact ⟨l - r, rfl, rfl⟩
  · have e : f_X9_joined (nI 47) l r M = if r = 0 then some 0 else if r = -1 then some (-l) else if r = 0 then none else some (l / r) := rfl
    have e1 : f_X7_joined (nI 47) l r X = if r = 0 then some 0 else if r = 0 then none else some (l / r) := rfl
    rw [e, e1]
    by_cases h0 : r = 0
    · rw [if_pos h0, if_pos h0]; exact ⟨_, rfl, rfl⟩
    · rw [if_neg h0, if_neg h0, if_neg h0]
      by_cases h1 : r = -1
      · rw [if_pos h1, h1, div_m1]; exact ⟨_, rfl, rfl⟩
      · rw [if_neg h1]; exact ⟨_, rfl, rfl⟩
  · have e : f_X9_joined (nI 60) l r M = f_X7_joined (nI 60) l r X := rfl
    have e1 : f_X7_joined (nI 60) l r X = if r ≤ l then some 0 else some 1 := rfl
    rw [e, e1]
    split <;> exact ⟨_, rfl, rfl⟩
  · have e : f_X9_joined (nI 61) l r M = f_X7_joined (nI 61) l r X := rfl
    have e1 : f_X7_joined (nI 61) l r X = if l = r then some 1 else some 0 := rfl
    rw [e, e1]
    split <;> exact ⟨_, rfl, rfl⟩
  · have e : f_X9_joined (nI 62) l r M = f_X7_joined (nI 62) l r X := rfl
    have e1 : f_X7_joined (nI 62) l r X = if l ≤ r then some 0 else some 1 := rfl
    rw [e, e1]
    split <;> exact ⟨_, rfl, rfl⟩
  · have e : f_X9_joined (nI 124) l r M = f_X7_joined (nI 124) l r X := rfl
    have e1 : f_X7_joined (nI 124) l r X = if l = 0 then (if r = 0 then some 0 else some 1) else some 1 := rfl
    rw [e, e1]
    split
    · split <;> exact ⟨_, rfl, rfl⟩
    · exact ⟨_, rfl, rfl⟩
/-- an argument by its number -/
def ag (a b d : Int32) (j : Nat) : Int32 := if j = 0 then a else if j = 1 then b else d
/-- nothing but the pile has changed -/
def xp (q : Nat) (X X' : um_S) : Prop := (∀ k j, k ≠ q + 2 → X'.1 k j = X.1 k j) ∧ X'.2 = X.2
def mp (M M' : um_S) : Prop := ∀ k j, k ≠ 9 → M'.1 k j = M.1 k j
theorem xp_wr (hp : xp q X0 X) {j : Nat} {v : Int32} : xp q X0 (um_wr X (q + 2) j v) := ⟨fun k i hk => by rw [um_wr_nk hk]; exact hp.1 k i hk, hp.2⟩
theorem mp_wr (hp : mp M0 M) {j : Nat} {v : Int32} : mp M0 (um_wr M 9 j v) := fun k i hk => by rw [um_wr_nk hk]; exact hp k i hk
theorem nmL_lt {jj : Nat} (h : (nmL key)[jj]? = some c) : jj < 3 ∧ c < 128 ∧ key ≤ 4 := by
  have hk : key ≤ 4 := by
    by_cases hk : key ≤ 4
    · exact hk
    · have : nmL key = [] := by
        unfold nmL
        rw [List.getD_eq_getElem?_getD, List.getElem?_eq_none (by simp; omega)]
        rfl
      rw [this] at h
      cases h
  have hkk : key = 0 ∨ key = 1 ∨ key = 2 ∨ key = 3 ∨ key = 4 := by omega
  refine ⟨?_, ?_, hk⟩
  · have := (List.getElem?_eq_some_iff.mp h).1
    rcases hkk with rfl | rfl | rfl | rfl | rfl <;> (change jj < _ at this; simp [nmL] at this; omega)
  · have hm := List.mem_of_getElem? h
    rcases hkk with rfl | rfl | rfl | rfl | rfl <;> (simp [nmL] at hm; omega)
theorem lo_val (hq : 300 ≤ q) (hi14 : i < 14) (hL : X0.2.2 (q + 1) = L) (hsL : M0.1 1 (780 + 200 * i + 3) = nI L) (hL96 : L ≤ 96) (hP : X0.2.2 (q + 2) = P) (hP96 : P ≤ 96)
    (hst : ∀ j, j < L → tx_st key (X0.1 (q + 1) j) (M0.1 1 (780 + 200 * i + 4 + 2 * j)) (M0.1 1 (780 + 200 * i + 4 + 2 * j + 1))) (hwf : tx_wf (X0.1 (q + 1)) L P)
    (hnm : ∀ jj c, (nmL key)[jj]? = some c → M0.1 8 c = ag a b d jj) :
    ∀ (k j t fx fm : Nat) (X M : um_S), j + k = L → k < fx → k < fm → hgt (X0.1 (q + 1)) j = t → xp q X0 X → mp M0 M → (∀ p, p < t → X.1 (q + 2) p = M.1 9 p) →
    sm_S (f_X7_value_l6 q a b d fx (nI t) (nI j) X) (f_X9_worked_l4 (nI i) fm (nI t) (nI j) M) (fun X' M' => xp q X0 X' ∧ mp M0 M' ∧ X'.1 (q + 2) 0 = M'.1 9 0) := by
  obtain ⟨wf1, wf2, wf3⟩ := hwf
  intro k
  induction k with
  | zero =>
    intro j t fx fm X M hj hfx hfm ht hx hm hp
    obtain ⟨fx, rfl⟩ : ∃ f, fx = f + 1 := ⟨fx - 1, by omega⟩
    obtain ⟨fm, rfl⟩ : ∃ f, fm = f + 1 := ⟨fm - 1, by omega⟩
    have hjL : j = L := by omega
    subst hjL
    have em : M.1 1 (780 + 200 * i + 3) = nI j := by rw [hm _ _ (by omega)]; exact hsL
    rw [f_X7_value_l6, f_X9_worked_l4, hx.2, hL]
    refine sm_xt (nI_le (by omega) (by omega)) (sm_mb m_textAt ?_)
    rw [la_3]
    refine sm_mt (um_ix_3 (by omega)) ?_
    rw [cl_3 (by omega), em]
    exact sm_mt (nI_le (by omega) (by omega)) (sm_ret ⟨hx, hm, hp 0 (by omega)⟩)
  | succ k ih =>
    intro j t fx fm X M hj hfx hfm ht hx hm hp
    obtain ⟨fx, rfl⟩ : ∃ f, fx = f + 1 := ⟨fx - 1, by omega⟩
    obtain ⟨fm, rfl⟩ : ∃ f, fm = f + 1 := ⟨fm - 1, by omega⟩
    have em : M.1 1 (780 + 200 * i + 3) = nI L := by rw [hm _ _ (by omega)]; exact hsL
    have em1 : M.1 1 (780 + 200 * i + 4 + 2 * j) = M0.1 1 (780 + 200 * i + 4 + 2 * j) := hm _ _ (by omega)
    have em2 : M.1 1 (780 + 200 * i + 4 + 2 * j + 1) = M0.1 1 (780 + 200 * i + 4 + 2 * j + 1) := hm _ _ (by omega)
    have ex : X.1 (q + 1) j = X0.1 (q + 1) j := hx.1 _ _ (by omega)
    have hP2 : X.2.2 (q + 2) = P := by rw [hx.2]; exact hP
    have htP : t ≤ P := by rw [← ht]; exact wf2 j (by omega)
    have ht1 : hgt (X0.1 (q + 1)) (j + 1) ≤ P := wf2 (j + 1) (by omega)
    have hwj := wf1 j (by omega)
    have hT : hgt (X0.1 (q + 1)) (j + 1) = if X0.1 (q + 1) j < -3 then (if X0.1 (q + 1) j = -33 then t else t - 1) else t + 1 := by rw [hgt, ht]
    rw [f_X7_value_l6, f_X9_worked_l4]
    rw [show X.2.2 (q + 1) = L by rw [hx.2]; exact hL, hP2]
    refine sm_xf (nI_ge (by omega) (by omega)) (sm_xt (um_ix_nI (by omega) (by omega)) ?_)
    rw [nI_clamp (n := j) (by omega), ex]
    refine sm_xl (sm_mb m_textAt ?_)
    rw [la_3]
    refine sm_mt (um_ix_3 (by omega)) ?_
    rw [cl_3 (n := 780 + 200 * i + 3) (by omega), em]
    refine sm_mf (nI_ge (by omega) (by omega)) (sm_mb m_textAt ?_)
    rw [la_4, lm_2, nI_add]
    refine sm_mt (um_ix_3 (by omega)) ?_
    rw [cl_3 (n := 780 + 200 * i + 4 + 2 * j) (by omega), em1]
    refine sm_ml (sm_mb m_textAt ?_)
    rw [la_4, nI_add, la_1 (x := 780 + 200 * i + 4 + 2 * j)]
    refine sm_mt (um_ix_3 (by omega)) ?_
    rw [cl_3 (n := 780 + 200 * i + 4 + 2 * j + 1) (by omega), em2]
    refine sm_ml ?_
    rw [nI_1]
    have push : ∀ w : Int32, ¬ X0.1 (q + 1) j < -3 → sm_S (f_X7_value_l6 q a b d fx (nI (t + 1)) (nI (j + 1)) (um_wr X (q + 2) t w)) (f_X9_worked_l4 (nI i) fm (nI (t + 1)) (nI (j + 1)) (um_wr M 9 t w)) (fun X' M' => xp q X0 X' ∧ mp M0 M' ∧ X'.1 (q + 2) 0 = M'.1 9 0) := by
      intro w hw
      refine ih (j + 1) (t + 1) fx fm _ _ (by omega) (by omega) (by omega) (by rw [hT, if_neg hw]) (xp_wr hx) (mp_wr hm) (fun p hpt => ?_)
      by_cases e : p = t
      · subst e
        rw [um_wr_at, um_wr_at]
      · rw [um_wr_an e, um_wr_an e]
        exact hp p (by omega)
    have hlit3 : (-3 : Int32).toInt = -3 := by decide
    rcases hst j (by omega) with ⟨nn1, hn1, e1, e2, e3⟩ | ⟨jj, c, hj1, e1, e2, e3⟩ | ⟨e1, e2, e3⟩ | ⟨c, hc, e1, e2, e3⟩
    · have hnl : ¬ nI nn1 < -3 := by
        rw [Int32.lt_iff_toInt_lt, nI_toInt (by omega), hlit3]
        omega
      rw [e1] at hT push
      rw [if_neg hnl] at hT
      rw [e1, e2, e3]
      refine sm_xf hnl (sm_xf (nI_ge (by omega) (by omega)) (sm_xf (nI_pos (by omega)) (sm_xt (um_ix_nI (by omega) (by omega)) ?_)))
      refine sm_mf (by decide) (sm_mt rfl (sm_mt (um_ix_nI (by omega) (by omega)) ?_))
      rw [nI_clamp (n := t) (by omega), nI_1]
      exact sm_xl (sm_ml (push (nI nn1) hnl))
    · obtain ⟨hj3, hc128, _⟩ := nmL_lt hj1
      have hm8 : M.1 8 c = ag a b d jj := by rw [hm _ _ (by omega)]; exact hnm jj c hj1
      rw [e1] at hT push
      rw [e1, e2, e3]
      have hjj : jj = 0 ∨ jj = 1 ∨ jj = 2 := by omega
      rcases hjj with rfl | rfl | rfl
      · rw [show (-1 : Int32) - nI 0 = -1 by decide] at hT push ⊢
        rw [if_neg (by decide)] at hT
        refine sm_xf (by decide) (sm_xf (nI_ge (by omega) (by omega)) (sm_xt (by decide) (sm_xt rfl (sm_xt (um_ix_nI (by omega) (by omega)) ?_))))
        refine sm_mf (by decide) (sm_mf (by decide) (sm_mt (um_ix_nI (by omega) (by omega)) (sm_mt (um_ix_nI (by omega) (by omega)) ?_)))
        rw [nI_clamp (n := t) (by omega), nI_clamp (n := c) (by omega), nI_1, hm8]
        exact sm_xl (sm_ml (push a (by decide)))
      · rw [show (-1 : Int32) - nI 1 = -2 by decide] at hT push ⊢
        rw [if_neg (by decide)] at hT
        refine sm_xf (by decide) (sm_xf (nI_ge (by omega) (by omega)) (sm_xt (by decide) (sm_xf (by decide) (sm_xt rfl (sm_xt (um_ix_nI (by omega) (by omega)) ?_)))))
        refine sm_mf (by decide) (sm_mf (by decide) (sm_mt (um_ix_nI (by omega) (by omega)) (sm_mt (um_ix_nI (by omega) (by omega)) ?_)))
        rw [nI_clamp (n := t) (by omega), nI_clamp (n := c) (by omega), nI_1, hm8]
        exact sm_xl (sm_ml (push b (by decide)))
      · rw [show (-1 : Int32) - nI 2 = -3 by decide] at hT push ⊢
        rw [if_neg (by decide)] at hT
        refine sm_xf (by decide) (sm_xf (nI_ge (by omega) (by omega)) (sm_xt (by decide) (sm_xf (by decide) (sm_xf (by decide) (sm_xt (um_ix_nI (by omega) (by omega)) ?_)))))
        refine sm_mf (by decide) (sm_mf (by decide) (sm_mt (um_ix_nI (by omega) (by omega)) (sm_mt (um_ix_nI (by omega) (by omega)) ?_)))
        rw [nI_clamp (n := t) (by omega), nI_clamp (n := c) (by omega), nI_1, hm8]
        exact sm_xl (sm_ml (push d (by decide)))
    · have ht0 := hwj.1 e1
      rw [ht] at ht0
      obtain ⟨t, rfl⟩ : ∃ f, t = f + 1 := ⟨t - 1, by omega⟩
      rw [e1] at hT
      rw [if_pos (by decide), if_pos rfl] at hT
      rw [e1, e2, e3]
      have keep : ∀ w : Int32, sm_S (f_X7_value_l6 q a b d fx (nI (t + 1)) (nI (j + 1)) (um_wr X (q + 2) t w)) (f_X9_worked_l4 (nI i) fm (nI (t + 1)) (nI (j + 1)) (um_wr M 9 t w)) (fun X' M' => xp q X0 X' ∧ mp M0 M' ∧ X'.1 (q + 2) 0 = M'.1 9 0) := by
        intro w
        refine ih (j + 1) (t + 1) fx fm _ _ (by omega) (by omega) (by omega) hT (xp_wr hx) (mp_wr hm) (fun p hpt => ?_)
        by_cases e : p = t
        · subst e
          rw [um_wr_at, um_wr_at]
        · rw [um_wr_an e, um_wr_an e]
          exact hp p (by omega)
      refine sm_xt (by decide) (sm_xt rfl (sm_xf (nI_nlt (b := 1) (by omega) (by omega)) (sm_xf (nI_nlt (by omega) (by omega)) ?_)))
      rw [nI_pred]
      refine sm_xt (um_ix_nI (by omega) (by omega)) (sm_mt rfl (sm_mt rfl (sm_mt (um_ix_nI (by omega) (by omega)) ?_)))
      rw [nI_clamp (n := t) (by omega), hp t (by omega)]
      refine sm_if Iff.rfl (fun _ => ?_) (fun _ => ?_)
      · exact sm_xt (um_ix_nI (by omega) (by omega)) (sm_mt (um_ix_nI (by omega) (by omega)) (sm_xl (sm_ml (keep 1))))
      · exact sm_xt (um_ix_nI (by omega) (by omega)) (sm_mt (um_ix_nI (by omega) (by omega)) (sm_xl (sm_ml (keep 0))))
    · have hcc : c = 38 ∨ c = 42 ∨ c = 43 ∨ c = 45 ∨ c = 47 ∨ c = 60 ∨ c = 61 ∨ c = 62 ∨ c = 124 := by simpa [sgL] using hc
      have hx3 : -(nI c) < -3 := by rcases hcc with rfl | rfl | rfl | rfl | rfl | rfl | rfl | rfl | rfl <;> decide
      have hx33 : -(nI c) ≠ -33 := by rcases hcc with rfl | rfl | rfl | rfl | rfl | rfl | rfl | rfl | rfl <;> decide
      have hc33 : nI c ≠ 33 := by rcases hcc with rfl | rfl | rfl | rfl | rfl | rfl | rfl | rfl | rfl <;> decide
      have ht0 := hwj.2 (by rw [e1]; exact hx3) (by rw [e1]; exact hx33)
      rw [ht] at ht0
      obtain ⟨t, rfl⟩ : ∃ f, t = f + 2 := ⟨t - 2, by omega⟩
      rw [e1] at hT
      rw [if_pos hx3, if_neg hx33] at hT
      rw [e1, e2, e3]
      refine sm_xt hx3 (sm_xf hx33 (sm_xf (nI_nlt (b := 2) (by omega) (by omega)) (sm_xf (nI_nlt (by omega) (by omega)) ?_)))
      rw [show t + 2 = t + 1 + 1 from rfl, nI_am, nI_pred]
      refine sm_xt (um_ix_nI (by omega) (by omega)) (sm_xt (um_ix_nI (by omega) (by omega)) (sm_mt rfl (sm_mf hc33 (sm_mt (um_ix_nI (by omega) (by omega)) (sm_mt (um_ix_nI (by omega) (by omega)) ?_)))))
      rw [nI_clamp (n := t) (by omega), nI_clamp (n := t + 1) (by omega), hp t (by omega), hp (t + 1) (by omega), Int32.neg_neg]
      obtain ⟨w, w1, w2⟩ := joined_ (X := X) (M := M) (l := M.1 9 t) (r := M.1 9 (t + 1)) hc
      refine sm_xb w1 (sm_mb w2 (sm_xt (um_ix_nI (by omega) (by omega)) (sm_mt (um_ix_nI (by omega) (by omega)) (sm_xl (sm_ml ?_)))))
      refine ih (j + 1) (t + 1) fx fm _ _ (by omega) (by omega) (by omega) hT (xp_wr hx) (mp_wr hm) (fun p hpt => ?_)
      by_cases e : p = t
      · subst e
        rw [um_wr_at, um_wr_at]
      · rw [um_wr_an e, um_wr_an e]
        exact hp p (by omega)
end VAL
