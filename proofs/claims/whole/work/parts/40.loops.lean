/-! LEVEL 2: loops that count -/
section LOO
variable {X M : um_S} {h n W m : Nat} {s : Nat → Int32} {v : Int32}
theorem x_m0 (hc : sr_c X h s) (hi : sr_i s W) (hh : um_h h) (hm : m < nn s 2) : f_X5_get (20 * h + 1) (nI m) (0 : Int32) X = some (s (50 + 14 * m + 0)) := x_man hc hh hm (si_men hi).2 (c := 0) (by omega) (by omega)
theorem x_m1 (hc : sr_c X h s) (hi : sr_i s W) (hh : um_h h) (hm : m < nn s 2) : f_X5_get (20 * h + 1) (nI m) (1 : Int32) X = some (s (50 + 14 * m + 1)) := x_man hc hh hm (si_men hi).2 (c := 1) (by omega) (by omega)
theorem x_m2 (hc : sr_c X h s) (hi : sr_i s W) (hh : um_h h) (hm : m < nn s 2) : f_X5_get (20 * h + 1) (nI m) (2 : Int32) X = some (s (50 + 14 * m + 2)) := x_man hc hh hm (si_men hi).2 (c := 2) (by omega) (by omega)
theorem x_m3 (hc : sr_c X h s) (hi : sr_i s W) (hh : um_h h) (hm : m < nn s 2) : f_X5_get (20 * h + 1) (nI m) (3 : Int32) X = some (s (50 + 14 * m + 3)) := x_man hc hh hm (si_men hi).2 (c := 3) (by omega) (by omega)
theorem x_m4 (hc : sr_c X h s) (hi : sr_i s W) (hh : um_h h) (hm : m < nn s 2) : f_X5_get (20 * h + 1) (nI m) (4 : Int32) X = some (eN (s (50 + 14 * m + 4))) := x_man hc hh hm (si_men hi).2 (c := 4) (by omega) (by omega)
theorem x_m5 (hc : sr_c X h s) (hi : sr_i s W) (hh : um_h h) (hm : m < nn s 2) : f_X5_get (20 * h + 1) (nI m) (5 : Int32) X = some (s (50 + 14 * m + 5)) := x_man hc hh hm (si_men hi).2 (c := 5) (by omega) (by omega)
theorem x_m6 (hc : sr_c X h s) (hi : sr_i s W) (hh : um_h h) (hm : m < nn s 2) : f_X5_get (20 * h + 1) (nI m) (6 : Int32) X = some (s (50 + 14 * m + 6)) := x_man hc hh hm (si_men hi).2 (c := 6) (by omega) (by omega)
theorem x_m7 (hc : sr_c X h s) (hi : sr_i s W) (hh : um_h h) (hm : m < nn s 2) : f_X5_get (20 * h + 1) (nI m) (7 : Int32) X = some (s (50 + 14 * m + 7)) := x_man hc hh hm (si_men hi).2 (c := 7) (by omega) (by omega)
theorem x_m9 (hc : sr_c X h s) (hi : sr_i s W) (hh : um_h h) (hm : m < nn s 2) : f_X5_get (20 * h + 1) (nI m) (9 : Int32) X = some (s (50 + 14 * m + 9)) := x_man hc hh hm (si_men hi).2 (c := 9) (by omega) (by omega)
theorem x_m10 (hc : sr_c X h s) (hi : sr_i s W) (hh : um_h h) (hm : m < nn s 2) : f_X5_get (20 * h + 1) (nI m) (10 : Int32) X = some (eN (s (50 + 14 * m + 10))) := x_man hc hh hm (si_men hi).2 (c := 10) (by omega) (by omega)
theorem x_m11 (hc : sr_c X h s) (hi : sr_i s W) (hh : um_h h) (hm : m < nn s 2) : f_X5_get (20 * h + 1) (nI m) (11 : Int32) X = some (s (50 + 14 * m + 11)) := x_man hc hh hm (si_men hi).2 (c := 11) (by omega) (by omega)
theorem x_m12 (hc : sr_c X h s) (hi : sr_i s W) (hh : um_h h) (hm : m < nn s 2) : f_X5_get (20 * h + 1) (nI m) (12 : Int32) X = some (s (50 + 14 * m + 13)) := x_man hc hh hm (si_men hi).2 (c := 12) (by omega) (by omega)
theorem x_m13 (hc : sr_c X h s) (hi : sr_i s W) (hh : um_h h) (hm : m < nn s 2) : f_X5_get (20 * h + 1) (nI m) (13 : Int32) X = some (s (50 + 14 * m + 12)) := x_man hc hh hm (si_men hi).2 (c := 13) (by omega) (by omega)
theorem x_p0_0 (hc : sr_c X h s) (hi : sr_i s W) (hh : um_h h) (hm : m < nn s 1) : f_X5_get (20 * h + 0) (nI m) (0 : Int32) X = some (s (30 + 2 * m)) := by
  have hb := (si_ships hi).2
  have e := g_0 (h := h) (r := m) (c := 0) (X := X) hh (by omega) (by omega)
  rw [x_plain hc (t := 0) (by omega) (by omega) (by omega) (by change 2 * m + 0 < 2 * nn s 1; omega)] at e
  exact e
theorem x_p0_1 (hc : sr_c X h s) (hi : sr_i s W) (hh : um_h h) (hm : m < nn s 1) : f_X5_get (20 * h + 0) (nI m) (1 : Int32) X = some (s (30 + 2 * m + 1)) := by
  have hb := (si_ships hi).2
  have e := g_0 (h := h) (r := m) (c := 1) (X := X) hh (by omega) (by omega)
  rw [x_plain hc (t := 0) (by omega) (by omega) (by omega) (by change 2 * m + 1 < 2 * nn s 1; omega)] at e
  exact e
theorem x_p2_0 (hc : sr_c X h s) (hi : sr_i s W) (hh : um_h h) (hm : m < nn s 3) : f_X5_get (20 * h + 2) (nI m) (0 : Int32) X = some (s (250 + 4 * m)) := by
  have hb := (si_masters hi).2
  have e := g_2 (h := h) (r := m) (c := 0) (X := X) hh (by omega) (by omega)
  rw [x_plain hc (t := 2) (by omega) (by omega) (by omega) (by change 4 * m + 0 < 4 * nn s 3; omega)] at e
  exact e
theorem x_p2_1 (hc : sr_c X h s) (hi : sr_i s W) (hh : um_h h) (hm : m < nn s 3) : f_X5_get (20 * h + 2) (nI m) (1 : Int32) X = some (s (250 + 4 * m + 1)) := by
  have hb := (si_masters hi).2
  have e := g_2 (h := h) (r := m) (c := 1) (X := X) hh (by omega) (by omega)
  rw [x_plain hc (t := 2) (by omega) (by omega) (by omega) (by change 4 * m + 1 < 4 * nn s 3; omega)] at e
  exact e
theorem x_p2_2 (hc : sr_c X h s) (hi : sr_i s W) (hh : um_h h) (hm : m < nn s 3) : f_X5_get (20 * h + 2) (nI m) (2 : Int32) X = some (s (250 + 4 * m + 2)) := by
  have hb := (si_masters hi).2
  have e := g_2 (h := h) (r := m) (c := 2) (X := X) hh (by omega) (by omega)
  rw [x_plain hc (t := 2) (by omega) (by omega) (by omega) (by change 4 * m + 2 < 4 * nn s 3; omega)] at e
  exact e
theorem x_p2_3 (hc : sr_c X h s) (hi : sr_i s W) (hh : um_h h) (hm : m < nn s 3) : f_X5_get (20 * h + 2) (nI m) (3 : Int32) X = some (s (250 + 4 * m + 3)) := by
  have hb := (si_masters hi).2
  have e := g_2 (h := h) (r := m) (c := 3) (X := X) hh (by omega) (by omega)
  rw [x_plain hc (t := 2) (by omega) (by omega) (by omega) (by change 4 * m + 3 < 4 * nn s 3; omega)] at e
  exact e
theorem x_p3_0 (hc : sr_c X h s) (hi : sr_i s W) (hh : um_h h) (hm : m < nn s 4) : f_X5_get (20 * h + 3) (nI m) (0 : Int32) X = some (s (280 + 4 * m)) := by
  have hb := (si_marks hi).2
  have e := g_3 (h := h) (r := m) (c := 0) (X := X) hh (by omega) (by omega)
  rw [x_plain hc (t := 3) (by omega) (by omega) (by omega) (by change 4 * m + 0 < 4 * nn s 4; omega)] at e
  exact e
theorem x_p3_1 (hc : sr_c X h s) (hi : sr_i s W) (hh : um_h h) (hm : m < nn s 4) : f_X5_get (20 * h + 3) (nI m) (1 : Int32) X = some (s (280 + 4 * m + 1)) := by
  have hb := (si_marks hi).2
  have e := g_3 (h := h) (r := m) (c := 1) (X := X) hh (by omega) (by omega)
  rw [x_plain hc (t := 3) (by omega) (by omega) (by omega) (by change 4 * m + 1 < 4 * nn s 4; omega)] at e
  exact e
theorem x_p3_2 (hc : sr_c X h s) (hi : sr_i s W) (hh : um_h h) (hm : m < nn s 4) : f_X5_get (20 * h + 3) (nI m) (2 : Int32) X = some (s (280 + 4 * m + 2)) := by
  have hb := (si_marks hi).2
  have e := g_3 (h := h) (r := m) (c := 2) (X := X) hh (by omega) (by omega)
  rw [x_plain hc (t := 3) (by omega) (by omega) (by omega) (by change 4 * m + 2 < 4 * nn s 4; omega)] at e
  exact e
theorem x_p3_3 (hc : sr_c X h s) (hi : sr_i s W) (hh : um_h h) (hm : m < nn s 4) : f_X5_get (20 * h + 3) (nI m) (3 : Int32) X = some (s (280 + 4 * m + 3)) := by
  have hb := (si_marks hi).2
  have e := g_3 (h := h) (r := m) (c := 3) (X := X) hh (by omega) (by omega)
  rw [x_plain hc (t := 3) (by omega) (by omega) (by omega) (by change 4 * m + 3 < 4 * nn s 4; omega)] at e
  exact e
theorem x_p4_0 (hc : sr_c X h s) (hi : sr_i s W) (hh : um_h h) (hm : m < nn s 8) : f_X5_get (20 * h + 4) (nI m) (0 : Int32) X = some (s (570 + 5 * m)) := by
  have hb := (si_letters hi).2
  have e := g_4 (h := h) (r := m) (c := 0) (X := X) hh (by omega) (by omega)
  rw [x_plain hc (t := 4) (by omega) (by omega) (by omega) (by change 5 * m + 0 < 5 * nn s 8; omega)] at e
  exact e
theorem x_p4_1 (hc : sr_c X h s) (hi : sr_i s W) (hh : um_h h) (hm : m < nn s 8) : f_X5_get (20 * h + 4) (nI m) (1 : Int32) X = some (s (570 + 5 * m + 1)) := by
  have hb := (si_letters hi).2
  have e := g_4 (h := h) (r := m) (c := 1) (X := X) hh (by omega) (by omega)
  rw [x_plain hc (t := 4) (by omega) (by omega) (by omega) (by change 5 * m + 1 < 5 * nn s 8; omega)] at e
  exact e
theorem x_p4_2 (hc : sr_c X h s) (hi : sr_i s W) (hh : um_h h) (hm : m < nn s 8) : f_X5_get (20 * h + 4) (nI m) (2 : Int32) X = some (s (570 + 5 * m + 2)) := by
  have hb := (si_letters hi).2
  have e := g_4 (h := h) (r := m) (c := 2) (X := X) hh (by omega) (by omega)
  rw [x_plain hc (t := 4) (by omega) (by omega) (by omega) (by change 5 * m + 2 < 5 * nn s 8; omega)] at e
  exact e
theorem x_p4_3 (hc : sr_c X h s) (hi : sr_i s W) (hh : um_h h) (hm : m < nn s 8) : f_X5_get (20 * h + 4) (nI m) (3 : Int32) X = some (s (570 + 5 * m + 3)) := by
  have hb := (si_letters hi).2
  have e := g_4 (h := h) (r := m) (c := 3) (X := X) hh (by omega) (by omega)
  rw [x_plain hc (t := 4) (by omega) (by omega) (by omega) (by change 5 * m + 3 < 5 * nn s 8; omega)] at e
  exact e
theorem x_p4_4 (hc : sr_c X h s) (hi : sr_i s W) (hh : um_h h) (hm : m < nn s 8) : f_X5_get (20 * h + 4) (nI m) (4 : Int32) X = some (s (570 + 5 * m + 4)) := by
  have hb := (si_letters hi).2
  have e := g_4 (h := h) (r := m) (c := 4) (X := X) hh (by omega) (by omega)
  rw [x_plain hc (t := 4) (by omega) (by omega) (by omega) (by change 5 * m + 4 < 5 * nn s 8; omega)] at e
  exact e
theorem x_p5_0 (hc : sr_c X h s) (hi : sr_i s W) (hh : um_h h) (hm : m < nn s 6) : f_X5_get (20 * h + 5) (nI m) (0 : Int32) X = some (s (440 + 4 * m)) := by
  have hb := (si_looks hi).2
  have e := g_5 (h := h) (r := m) (c := 0) (X := X) hh (by omega) (by omega)
  rw [x_plain hc (t := 5) (by omega) (by omega) (by omega) (by change 4 * m + 0 < 4 * nn s 6; omega)] at e
  exact e
theorem x_p5_1 (hc : sr_c X h s) (hi : sr_i s W) (hh : um_h h) (hm : m < nn s 6) : f_X5_get (20 * h + 5) (nI m) (1 : Int32) X = some (s (440 + 4 * m + 1)) := by
  have hb := (si_looks hi).2
  have e := g_5 (h := h) (r := m) (c := 1) (X := X) hh (by omega) (by omega)
  rw [x_plain hc (t := 5) (by omega) (by omega) (by omega) (by change 4 * m + 1 < 4 * nn s 6; omega)] at e
  exact e
theorem x_p5_2 (hc : sr_c X h s) (hi : sr_i s W) (hh : um_h h) (hm : m < nn s 6) : f_X5_get (20 * h + 5) (nI m) (2 : Int32) X = some (s (440 + 4 * m + 2)) := by
  have hb := (si_looks hi).2
  have e := g_5 (h := h) (r := m) (c := 2) (X := X) hh (by omega) (by omega)
  rw [x_plain hc (t := 5) (by omega) (by omega) (by omega) (by change 4 * m + 2 < 4 * nn s 6; omega)] at e
  exact e
theorem x_p5_3 (hc : sr_c X h s) (hi : sr_i s W) (hh : um_h h) (hm : m < nn s 6) : f_X5_get (20 * h + 5) (nI m) (3 : Int32) X = some (s (440 + 4 * m + 3)) := by
  have hb := (si_looks hi).2
  have e := g_5 (h := h) (r := m) (c := 3) (X := X) hh (by omega) (by omega)
  rw [x_plain hc (t := 5) (by omega) (by omega) (by omega) (by change 4 * m + 3 < 4 * nn s 6; omega)] at e
  exact e
theorem x_p6_0 (hc : sr_c X h s) (hi : sr_i s W) (hh : um_h h) (hm : m < nn s 7) : f_X5_get (20 * h + 6) (nI m) (0 : Int32) X = some (s (480 + 3 * m)) := by
  have hb := (si_sents hi).2
  have e := g_6 (h := h) (r := m) (c := 0) (X := X) hh (by omega) (by omega)
  rw [x_plain hc (t := 6) (by omega) (by omega) (by omega) (by change 3 * m + 0 < 3 * nn s 7; omega)] at e
  exact e
theorem x_p6_1 (hc : sr_c X h s) (hi : sr_i s W) (hh : um_h h) (hm : m < nn s 7) : f_X5_get (20 * h + 6) (nI m) (1 : Int32) X = some (s (480 + 3 * m + 1)) := by
  have hb := (si_sents hi).2
  have e := g_6 (h := h) (r := m) (c := 1) (X := X) hh (by omega) (by omega)
  rw [x_plain hc (t := 6) (by omega) (by omega) (by omega) (by change 3 * m + 1 < 3 * nn s 7; omega)] at e
  exact e
theorem x_p6_2 (hc : sr_c X h s) (hi : sr_i s W) (hh : um_h h) (hm : m < nn s 7) : f_X5_get (20 * h + 6) (nI m) (2 : Int32) X = some (s (480 + 3 * m + 2)) := by
  have hb := (si_sents hi).2
  have e := g_6 (h := h) (r := m) (c := 2) (X := X) hh (by omega) (by omega)
  rw [x_plain hc (t := 6) (by omega) (by omega) (by omega) (by change 3 * m + 2 < 3 * nn s 7; omega)] at e
  exact e
theorem ad_0 (a : Int32) : a + 0 = a := Int32.add_zero a
/-- what marks rest on -/
def rm (X : um_S) (h : Nat) (s : Nat → Int32) : Prop := X.1 (20 * h + 3) 2 = s 4 ∧ (s 4 = nI (nn s 4) ∧ nn s 4 ≤ 40) ∧ ∀ j, j < 4 * nn s 4 → X.1 (20 * h + 3 + 100) j = s (280 + j)
theorem rm_of (hc : sr_c X h s) (hi : sr_i s W) : rm X h s := ⟨x_cnt hc (t := 3) (by omega), si_marks hi, fun j hj => x_plain hc (t := 3) (by omega) (by omega) (by omega) hj⟩
theorem r_p3_0 (hr : rm X h s) (hh : um_h h) (hm : m < nn s 4) : f_X5_get (20 * h + 3) (nI m) (0 : Int32) X = some (s (280 + 4 * m)) := by
  have hb := hr.2.1.2
  have e := g_3 (h := h) (r := m) (c := 0) (X := X) hh (by omega) (by omega)
  rw [hr.2.2 _ (by omega)] at e
  exact e
theorem r_p3_3 (hr : rm X h s) (hh : um_h h) (hm : m < nn s 4) : f_X5_get (20 * h + 3) (nI m) (3 : Int32) X = some (s (280 + 4 * m + 3)) := by
  have hb := hr.2.1.2
  have e := g_3 (h := h) (r := m) (c := 3) (X := X) hh (by omega) (by omega)
  rw [hr.2.2 _ (by omega)] at e
  exact e
theorem lo_marks (hr : rm X h (M.1 1)) (hh : um_h h) : ∀ (k j : Nat) (acc : Int32) (fx fm : Nat), j + k = nn (M.1 1) 4 → k < fx → k < fm → sm_S (f_X4_marksOf_l4 h v X fx acc (nI j)) (f_X9_marksOf_l4 v M fm acc (nI j)) (fun a b => a = b) := by
  obtain ⟨e1, hn⟩ := hr.2.1
  have ex1 : X.1 (20 * h + 3) 2 = nI (nn (M.1 1) 4) := by rw [hr.1]; exact e1
  intro k
  induction k with
  | zero =>
    intro j acc fx fm hj hfx hfm
    obtain ⟨fx, rfl⟩ : ∃ f, fx = f + 1 := ⟨fx - 1, by omega⟩
    obtain ⟨fm, rfl⟩ : ∃ f, fm = f + 1 := ⟨fm - 1, by omega⟩
    rw [f_X4_marksOf_l4, f_X9_marksOf_l4]
    exact sm_xt (by rw [ex1]; exact nI_le (by omega) (by omega)) (sm_mt (by rw [e1]; exact nI_le (by omega) (by omega)) (sm_ret rfl))
  | succ k ih =>
    intro j acc fx fm hj hfx hfm
    obtain ⟨fx, rfl⟩ : ∃ f, fx = f + 1 := ⟨fx - 1, by omega⟩
    obtain ⟨fm, rfl⟩ : ∃ f, fm = f + 1 := ⟨fm - 1, by omega⟩
    have ih2 := fun a => ih (j + 1) a fx fm (by omega) (by omega) (by omega)
    rw [f_X4_marksOf_l4, f_X9_marksOf_l4]
    refine sm_xf (by rw [ex1]; exact nI_ge (by omega) (by omega)) (sm_mf (by rw [e1]; exact nI_ge (by omega) (by omega)) ?_)
    rw [r_p3_0 hr hh (by omega), r_p3_3 hr hh (by omega)]
    simp (disch := omega) only [um_let, Option.bind_some, m_markAt, la_3, um_ix_3, cl_3, if_true, ad_0, nI_1]
    refine sm_if Iff.rfl (fun _ => ?_) (fun _ => ih2 acc)
    exact sm_if Iff.rfl (fun _ => ih2 _) (fun _ => ih2 acc)
theorem marksOf_r (hr : rm X h (M.1 1)) (hh : um_h h) : sm_S (f_X4_marksOf h v X) (f_X9_marksOf v M) (fun a b => a = b) := by
  have hn := hr.2.1.2
  unfold f_X4_marksOf f_X9_marksOf
  rw [bind_sm, bind_sm]
  exact lo_marks hr hh (nn (M.1 1) 4) 0 0 um_N um_N (by omega) (by unfold um_N; omega) (by unfold um_N; omega)
theorem marksOf_ (hc : sr_c X h (M.1 1)) (hi : sr_i (M.1 1) W) (hh : um_h h) : sm_S (f_X4_marksOf h v X) (f_X9_marksOf v M) (fun a b => a = b) := marksOf_r (rm_of hc hi) hh
theorem lo_assigned (hc : sr_c X h (M.1 1)) (hi : sr_i (M.1 1) W) (hh : um_h h) : ∀ (k j : Nat) (acc fx fm : Nat), j + k = nn (M.1 1) 2 → k < fx → k < fm → ∃ r : Nat, r ≤ acc + k ∧ f_X4_assignedTo_l4 h v X fx (nI acc) (nI j) = some (nI r) ∧ f_X9_assignedTo_l4 v M fm (nI acc) (nI j) = some (nI r) := by
  obtain ⟨e1, hn⟩ := si_men hi
  have ex1 : X.1 (20 * h + 1) 2 = nI (nn (M.1 1) 2) := by rw [x_cnt hc (t := 1) (by omega)]; exact e1
  intro k
  induction k with
  | zero =>
    intro j acc fx fm hj hfx hfm
    obtain ⟨fx, rfl⟩ : ∃ f, fx = f + 1 := ⟨fx - 1, by omega⟩
    obtain ⟨fm, rfl⟩ : ∃ f, fm = f + 1 := ⟨fm - 1, by omega⟩
    rw [f_X4_assignedTo_l4, f_X9_assignedTo_l4]
    exact ⟨acc, by omega, if_pos (by rw [ex1]; exact nI_le (by omega) (by omega)), if_pos (by rw [e1]; exact nI_le (by omega) (by omega))⟩
  | succ k ih =>
    intro j acc fx fm hj hfx hfm
    obtain ⟨fx, rfl⟩ : ∃ f, fx = f + 1 := ⟨fx - 1, by omega⟩
    obtain ⟨fm, rfl⟩ : ∃ f, fm = f + 1 := ⟨fm - 1, by omega⟩
    obtain ⟨r, hr, ir1, ir2⟩ := ih (j + 1) acc fx fm (by omega) (by omega) (by omega)
    obtain ⟨q, hq, iq1, iq2⟩ := ih (j + 1) (acc + 1) fx fm (by omega) (by omega) (by omega)
    rw [f_X4_assignedTo_l4, f_X9_assignedTo_l4]
    rw [if_neg (by rw [ex1]; exact nI_ge (by omega) (by omega)), if_neg (by rw [e1]; exact nI_ge (by omega) (by omega))]
    rw [x_m5 hc hi hh (by omega), x_m6 hc hi hh (by omega), x_isDead hc hh (by omega) hn, m_kindOf (by omega), m_isDead (by omega)]
    simp (disch := omega) only [um_let, Option.bind_some, m_manAt, la_6, um_ix_3, cl_3, if_true, ad_0, nI_1]
    by_cases c1 : M.1 1 (50 + 14 * j + 5) = 2
    · by_cases c2 : M.1 1 (50 + 14 * j + 11) = 1
      · by_cases c3 : M.1 1 (50 + 14 * j + 6) = v
        · exact ⟨r, by omega, by simp [c1, c2, c3, um_b, ir1], by simp [c1, c2, um_b, ir2]⟩
        · exact ⟨r, by omega, by simp [c1, c2, c3, um_b, ir1], by simp [c1, c2, um_b, ir2]⟩
      · by_cases c3 : M.1 1 (50 + 14 * j + 6) = v
        · exact ⟨q, by omega, by simp [c1, c2, c3, um_b, iq1], by simp [c1, c2, c3, um_b, iq2]⟩
        · exact ⟨r, by omega, by simp [c1, c2, c3, um_b, ir1], by simp [c1, c2, c3, um_b, ir2]⟩
    · exact ⟨r, by omega, by simp [c1, ir1], by simp [c1, ir2]⟩
theorem assignedTo_ (hc : sr_c X h (M.1 1)) (hi : sr_i (M.1 1) W) (hh : um_h h) : ∃ r : Nat, r ≤ 14 ∧ f_X4_assignedTo h v X = some (nI r) ∧ f_X9_assignedTo v M = some (nI r) := by
  have hn := (si_men hi).2
  unfold f_X4_assignedTo f_X9_assignedTo
  rw [bind_sm, bind_sm]
  obtain ⟨r, h1, h2, h3⟩ := lo_assigned (v := v) hc hi hh (nn (M.1 1) 2) 0 0 um_N um_N (by omega) (by unfold um_N; omega) (by unfold um_N; omega)
  exact ⟨r, by omega, h2, h3⟩
end LOO
