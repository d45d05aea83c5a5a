/-! LEVEL 2: the tape is fed -/
theorem b8 (a : Int32) : a.toInt8.toInt32 &&& 255 = a &&& 255 := by
  apply Int32.toBitVec_inj.mp
  rw [Int32.toBitVec_and, Int32.toBitVec_and, Int8.toBitVec_toInt32, Int32.toBitVec_toInt8, sxn _ (by omega)]
  have e : (255 : Int32).toBitVec = 255#32 := rfl
  rw [e]
  generalize a.toBitVec = x
  apply BitVec.eq_of_getLsbD_eq
  intro i hi
  rw [BitVec.getLsbD_and, BitVec.getLsbD_and]
  by_cases h8 : i < 8
  · rw [BitVec.getLsbD_signExtend, if_pos h8, BitVec.getLsbD_setWidth]
    simp [h8, hi]
  · have hz : ∀ i, i < 32 → ¬ i < 8 → (255#32).getLsbD i = false := by decide
    rw [hz i hi h8, Bool.and_false, Bool.and_false]
theorem b8n (a : Int32) : ∃ b : Nat, b ≤ 255 ∧ a &&& 255 = nI b := by
  refine ⟨(a.toBitVec &&& 255#32).toNat, ?_, ?_⟩
  · rw [BitVec.toNat_and]
    exact Nat.and_le_right
  · apply Int32.toBitVec_inj.mp
    rw [nI_bv, BitVec.ofNat_toNat, BitVec.setWidth_eq]
    rfl
/-- the tape so far -/
def fd (X0 M0 X M : um_S) (z : Nat) : Prop := (∀ k j, k ≠ 8 → (k ≠ 4 ∨ j ≠ 1) → X.1 k j = X0.1 k j) ∧ X.2 = X0.2 ∧ (∀ k j, k ≠ 7 → (k ≠ 0 ∨ j ≠ 8) → M.1 k j = M0.1 k j) ∧ X.1 4 1 = nI z ∧ M.1 0 8 = nI z ∧ ∀ j, j < z → X.1 8 j &&& 255 = M.1 7 j ∧ ∃ b : Nat, b ≤ 255 ∧ M.1 7 j = nI b
section FEE
variable {X0 M0 X X' M M' : um_S} {n k p z f : Nat} {a b d v v1 v2 v3 w : Int32}
theorem fd_step (h : fd X0 M0 X M z) (e : v &&& 255 = w &&& 255) : fd X0 M0 (um_wr (um_wr X 8 z v) 4 1 (nI (z + 1))) (um_wr (um_wr M 7 z (w &&& 255)) 0 8 (nI (z + 1))) (z + 1) := by
  obtain ⟨h1, h2, h3, h4, h5, h6⟩ := h
  refine ⟨fun k j hk hj => ?_, h2, fun k j hk hj => ?_, um_wr_at _ _ _ _, um_wr_at _ _ _ _, fun j hj => ?_⟩
  · rw [← h1 k j hk hj]
    by_cases e4 : k = 4
    · subst e4
      rw [um_wr_an (by omega), um_wr_nk (by omega)]
    · rw [um_wr_nk e4, um_wr_nk hk]
  · rw [← h3 k j hk hj]
    by_cases e4 : k = 0
    · subst e4
      rw [um_wr_an (by omega), um_wr_nk (by omega)]
    · rw [um_wr_nk e4, um_wr_nk hk]
  · rw [um_wr_nk (k2 := 8) (k := 4) (by omega), um_wr_nk (k2 := 7) (k := 0) (by omega)]
    by_cases ej : j = z
    · subst ej
      rw [um_wr_at, um_wr_at, e]
      exact ⟨rfl, b8n w⟩
    · rw [um_wr_an ej, um_wr_an ej]
      exact h6 j (by omega)
theorem ap_step (hs : ¬ d < 0) (hz : z < 96) (e : X.1 4 1 = nI z) : f_X6_appendOne_l3 v (f + 1) d X = f_X6_appendOne_l3 v f (d + (-8)) (um_wr (um_wr X 8 z ((v >>> (d &&& 31)).toInt8.toInt32).toInt8.toInt32) 4 1 (nI (z + 1))) := by
  rw [f_X6_appendOne_l3, if_neg hs]
  unfold um_let
  dsimp only
  rw [e, if_neg (nI_pos (by omega)), if_neg (nI_ge hz (by omega)), if_pos (um_ix_nI hz (by omega)), um_wr_nk (by omega), e, nI_1, nI_clamp (by omega)]
theorem fe_step {i : Nat} (hi : i < 12) (hz : z < 96) (e : M.1 0 8 = nI z) (hv : (if 4 ≤ i then (if 8 ≤ i then v3 else v2) else v1) = v) : f_X9_feed_l18 v1 v2 v3 (f + 1) (nI i) M = f_X9_feed_l18 v1 v2 v3 f (nI (i + 1)) (um_wr (um_wr M 7 z ((v >>> (((24 : Int32) - ((8 : Int32) * (nI i - nI i / (4 : Int32) * (4 : Int32)))) &&& 31)) &&& 255)) 0 8 (nI (z + 1))) := by
  have n12 : ¬ (12 : Int32) ≤ nI i := nI_ge (b := 12) hi (by omega)
  rw [f_X9_feed_l18, if_neg n12]
  unfold um_let
  dsimp only
  have e4 : ((4 : Int32) ≤ nI i) ↔ 4 ≤ i := nI_leI (a := 4) (by omega) (by omega)
  have e8 : ((8 : Int32) ≤ nI i) ↔ 8 ≤ i := nI_leI (a := 8) (by omega) (by omega)
  simp only [e4, e8, e]
  subst hv
  have hix := um_ix_nI hz (show 96 < 2 ^ 31 by omega)
  have hnk : ∀ w, (um_wr M 7 z w).1 0 8 = nI z := fun w => (um_wr_nk (by omega)).trans e
  simp only [hix, if_true, nI_clamp (show z < 2 ^ 31 by omega), hnk, nI_1]
  split
  · split
    · rfl
    · rfl
  · rfl
theorem sh_ {i : Nat} (hi : i < 12) : (24 : Int32) - ((8 : Int32) * (nI i - nI i / (4 : Int32) * (4 : Int32))) = nI (24 - 8 * (i % 4)) := by
  rw [nI_d4 (by omega)]
  exact (congrArg (fun x => (24 : Int32) - x) (nI_mul 8 (i % 4))).trans (nI_sub (a := 24) (by omega))
theorem fd_one {i : Nat} (h : fd X0 M0 X M z) (hz : z < 96) (hi : i < 12) (hv : (if 4 ≤ i then (if 8 ≤ i then v3 else v2) else v1) = v) : ∃ X' M', fd X0 M0 X' M' (z + 1) ∧ (∀ f, f_X6_appendOne_l3 v (f + 1) (nI (24 - 8 * (i % 4))) X = f_X6_appendOne_l3 v f (nI (24 - 8 * (i % 4)) + (-8)) X') ∧ (∀ f, f_X9_feed_l18 v1 v2 v3 (f + 1) (nI i) M = f_X9_feed_l18 v1 v2 v3 f (nI (i + 1)) M') := by
  refine ⟨_, _, fd_step (w := v >>> (nI (24 - 8 * (i % 4)) &&& 31)) h ?_, fun f => ap_step (nI_pos (by omega)) hz h.2.2.2.1, fun f => ?_⟩
  · rw [b8, b8]
  · rw [fe_step hi hz h.2.2.2.2.1 hv, sh_ hi]
theorem fd_word {q : Nat} (h : fd X0 M0 X M z) (hz : z + 4 ≤ 96) (hq : q < 3) (hv : (if 1 ≤ q then (if 2 ≤ q then v3 else v2) else v1) = v) : ∃ X' M', fd X0 M0 X' M' (z + 4) ∧ f_X6_appendOne v X = some X' ∧ (∀ f, f_X9_feed_l18 v1 v2 v3 (f + 4) (nI (4 * q)) M = f_X9_feed_l18 v1 v2 v3 f (nI (4 * q + 4)) M') := by
  have hv2 : ∀ i, i < 4 → (if 4 ≤ 4 * q + i then (if 8 ≤ 4 * q + i then v3 else v2) else v1) = v := by
    intro i hi
    rw [← hv]
    rcases (show q = 0 ∨ q = 1 ∨ q = 2 by omega) with e | e | e
    · subst e; rw [if_neg (by omega), if_neg (by omega)]
    · subst e; rw [if_pos (by omega), if_neg (by omega), if_pos (by omega), if_neg (by omega)]
    · subst e; rw [if_pos (by omega), if_pos (by omega), if_pos (by omega), if_pos (by omega)]
  obtain ⟨X1, M1, f1, p1, q1⟩ := fd_one h (by omega) (i := 4 * q) (by omega) (hv2 0 (by omega))
  obtain ⟨X2, M2, f2, p2, q2⟩ := fd_one f1 (by omega) (i := 4 * q + 1) (by omega) (hv2 1 (by omega))
  obtain ⟨X3, M3, f3, p3, q3⟩ := fd_one f2 (by omega) (i := 4 * q + 2) (by omega) (hv2 2 (by omega))
  obtain ⟨X4, M4, f4, p4, q4⟩ := fd_one f3 (by omega) (i := 4 * q + 3) (by omega) (hv2 3 (by omega))
  rw [show 24 - 8 * ((4 * q) % 4) = 24 by omega] at p1
  rw [show 24 - 8 * ((4 * q + 1) % 4) = 16 by omega] at p2
  rw [show 24 - 8 * ((4 * q + 2) % 4) = 8 by omega] at p3
  rw [show 24 - 8 * ((4 * q + 3) % 4) = 0 by omega] at p4
  refine ⟨X4, M4, f4, ?_, fun f => ?_⟩
  · unfold f_X6_appendOne
    have g1 : nI 24 + (-8 : Int32) = nI 16 := by decide
    have g2 : nI 16 + (-8 : Int32) = nI 8 := by decide
    have g3 : nI 8 + (-8 : Int32) = nI 0 := by decide
    have g4 : nI 0 + (-8 : Int32) = -8 := by decide
    have g5 : (-8 : Int32) < 0 := by decide
    have e : f_X6_appendOne_l3 v um_N (24 : Int32) X = some X4 := by
      refine (p1 4095).trans ?_
      rw [g1]
      refine (p2 4094).trans ?_
      rw [g2]
      refine (p3 4093).trans ?_
      rw [g3]
      refine (p4 4092).trans ?_
      rw [g4]
      exact if_pos g5
    rw [e, Option.bind_some]
  · rw [q1 (f + 3), q2 (f + 2), q3 (f + 1), q4 f]
end FEE
theorem sim_feedR : sim_feed RR := by
  intro n X M a1 a2 a3 hR
  refine sm_out ?_
  obtain ⟨r1, r2, r2b, r3, ⟨z, c1, c2, c3, c4⟩⟩ := hR.2
  unfold f_X8_feed f_X6_append f_X9_feed
  rw [c2, c3]
  rw [if_neg (nI_pos (by omega))]
  by_cases hz : z + 12 ≤ 96
  · have hz1 : nI z + 12 ≤ nI 96 := by rw [la_12]; exact nI_le hz (by omega)
    rw [if_pos hz1]
    refine sm_mt hz1 ?_
    have h0 : fd X M X M z := ⟨fun _ _ _ _ => rfl, rfl, fun _ _ _ _ => rfl, c2, c3, c4⟩
    obtain ⟨X1, M1, f1, p1, q1⟩ := fd_word (v := a1) (v1 := a1) (v2 := a2) (v3 := a3) h0 (by omega) (q := 0) (by omega) rfl
    obtain ⟨X2, M2, f2, p2, q2⟩ := fd_word (v := a2) (v1 := a1) (v2 := a2) (v3 := a3) f1 (by omega) (q := 1) (by omega) rfl
    obtain ⟨X3, M3, f3, p3, q3⟩ := fd_word (v := a3) (v1 := a1) (v2 := a2) (v3 := a3) f2 (by omega) (q := 2) (by omega) rfl
    rw [p1, Option.bind_some, p2, Option.bind_some, p3, Option.bind_some]
    have e : f_X9_feed_l18 a1 a2 a3 um_N (0 : Int32) M = some M3 := by
      refine (q1 4092).trans ((q2 4088).trans ((q3 4084).trans ?_))
      have g : (12 : Int32) ≤ nI (4 * 2 + 4) := by decide
      exact if_pos g
    obtain ⟨k1, k2, k3, k4, k5, k6⟩ := f3
    refine sm_xb2 rfl (sm_xT (sm_mb e (sm_ret ⟨by rw [k4, k5], ?_⟩)))
    have xa_ : ∀ h, h = 1 ∨ h = 2 → xa h X X3 := fun h hh => ⟨fun k j hk => k1 k j (by omega) (by omega), k2⟩
    refine RR_nx hR (xa_ 1 (Or.inl rfl)) (xa_ 2 (Or.inr rfl)) (funext fun j => k3 _ j (by omega) (by omega)) (funext fun j => k3 _ j (by omega) (by omega)) (k1 _ _ (by omega) (by omega)) (k3 _ _ (by omega) (by omega)) ⟨fun k hk => ?_, fun j hj => ?_⟩ ?_ ⟨z + 4 + 4 + 4, by omega, k4, k5, k6⟩
    · rw [k1 _ _ (by omega) (by omega), k1 _ _ (by omega) (by omega), k3 _ _ (by omega) (by omega), k3 _ _ (by omega) (by omega)]
      exact r2 k hk
    · rw [k1 _ _ (by omega) (by omega), k3 _ _ (by omega) (by omega)]
      exact r2b j hj
    · obtain ⟨y, b1, b2, b3, b4⟩ := r3
      refine ⟨y, b1, ?_, ?_, fun j hj => ?_⟩
      · rw [k1 _ _ (by omega) (by omega)]; exact b2
      · rw [k3 _ _ (by omega) (by omega)]; exact b3
      · rw [k1 _ _ (by omega) (by omega), k3 _ _ (by omega) (by omega)]; exact b4 j hj
  · have hz1 : ¬ nI z + 12 ≤ nI 96 := by rw [la_12]; exact nI_ge (by omega) (by omega)
    rw [if_neg hz1]
    exact sm_xb2 rfl (sm_xF (sm_mf hz1 (sm_ret ⟨rfl, hR⟩)))
