/-! LEVEL 2: calls that change a man -/
/-- what holds of a man, by his numbers: age, place, kind, A, landed, dead -/
def mv (K : Nat) (f2 f4 f5 f6 f10 f11 : Int32) : Prop :=
  (∃ k : Nat, 1 ≤ k ∧ k ≤ 7 ∧ f5 = nI k) ∧ (f4 = -1 ∨ pl f4) ∧ (f10 = -1 ∨ ∃ l : Nat, l < 2 ^ 20 ∧ f10 = nI l) ∧ (f11 = 1 → f4 = -1) ∧ (f4 ≠ -1 → f10 ≠ -1) ∧
  ((∃ k : Nat, 1 ≤ k ∧ k ≤ 4 ∧ f5 = nI k) → f11 ≠ 1 → f10 ≠ -1 → f4 ≠ -1) ∧ (f5 = 7 → f10 ≠ -1 ∧ pl f6) ∧ (f5 = 2 → ∃ q : Nat, q < K ∧ f6 = nI q) ∧ (∃ a : Nat, a ≤ 70 ∧ f2 = nI a)
theorem sm_dec {A B : Type} {Q : A → B → Prop} {o p : Option Bool} {c : Bool} {a b : Option A} {a' b' : Option B} (ho : o = some c) (hp : p = some c) (k0 : c = false → sm_S a a' Q) (k1 : c = true → sm_S b b' Q) : sm_S (o.bind fun x => if um_b x = 0 then a else b) (p.bind fun x => if um_b x = 0 then a' else b') Q := by
  subst ho; subst hp
  cases c with
  | false => exact k0 rfl
  | true => exact k1 rfl
section MEN
variable {X X' M M' : um_S} {h n W m K : Nat} {s s' : Nat → Int32} {f2 f4 f5 f6 f10 f11 a b : Int32}
theorem mv_of (h : mo s m) : mv (nn s 3) (s (50 + 14 * m + 2)) (s (50 + 14 * m + 4)) (s (50 + 14 * m + 5)) (s (50 + 14 * m + 6)) (s (50 + 14 * m + 10)) (s (50 + 14 * m + 11)) := h
theorem mo_of (e2 : s' (50 + 14 * m + 2) = f2) (e4 : s' (50 + 14 * m + 4) = f4) (e5 : s' (50 + 14 * m + 5) = f5) (e6 : s' (50 + 14 * m + 6) = f6) (e10 : s' (50 + 14 * m + 10) = f10) (e11 : s' (50 + 14 * m + 11) = f11) (h3 : nn s' 3 = K) (h : mv K f2 f4 f5 f6 f10 f11) : mo s' m := by
  subst e2; subst e4; subst e5; subst e6; subst e10; subst e11; subst h3
  exact h
theorem si_wm1 (hi : sr_i s W) (hm : m < nn s 2) (hag : ∀ b, ¬ (50 + 14 * m ≤ b ∧ b < 50 + 14 * m + 14) → s' b = s b) (hl : s (50 + 14 * m + 10) ≠ -1 → s' (50 + 14 * m + 10) ≠ -1) (ho : mo s' m) : sr_i s' W := by
  have h14 := (si_men hi).2
  refine si_wm hi (fun b hb => hag b (by omega)) (fun m2 hm2 z => ?_) (fun m2 hm2 => ?_)
  · by_cases e : m2 = m
    · subst e; exact hl z
    · rw [hag _ (by omega)]; exact z
  · by_cases e : m2 = m
    · subst e; exact ho
    · exact mo_congr (fun c hc => hag _ (by omega)) (by rw [nn_congr (hag 3 (by omega))]; omega) (si_man hi m2 hm2)
theorem sr_man (hs : sr X h s W n) (hc' : sr_c X' h s') (hX : ∀ k j, 300 ≤ k → k % 3 ≠ 2 → X'.1 k j = X.1 k j) (hX2 : X'.2 = X.2) (hm : m < nn s 2) (hag : ∀ b, ¬ (50 + 14 * m ≤ b ∧ b < 50 + 14 * m + 14) → s' b = s b) (hl : s (50 + 14 * m + 10) ≠ -1 → s' (50 + 14 * m + 10) ≠ -1) (ho : mo s' m) : sr X' h s' W n := by
  have h14 := (si_men hs.2.1).2
  exact ⟨hc', si_wm1 hs.2.1 hm hag hl ho, st_fr hX hX2 (fun b hb => hag b (by omega)) (hag 5 (by omega)) hs.2.2⟩
/-- both become of a kind -/
theorem sc_bec (hc : sr_c X h s) (hi : sb s) (hh : um_h h) (hm : m < nn s 2) : sr_c (um_wr (um_wr (um_wr X (20 * h + 1 + 100) (14 * m + 5) a) (20 * h + 1 + 100) (14 * m + 6) b) (20 * h + 1 + 100) (14 * m + 7) (X.1 h 12)) h (up (up (up s (50 + 14 * m + 5) a) (50 + 14 * m + 6) b) (50 + 14 * m + 7) (s 0)) := by
  rw [hc.1.1]
  have h1 := sc_wm (c := 5) (w := a) hc hi hh hm (by omega) rfl
  have i1 := sb_up (i := 50 + 14 * m + 5) (v := a) hi (by omega)
  have h2 := sc_wm (c := 6) (w := b) h1 i1 hh (m := m) (by change m < nn (up s (50 + 14 * m + 5) a) 2; rw [nn_up (by omega)]; exact hm) (by omega) rfl
  have i2 := sb_up (i := 50 + 14 * m + 6) (v := b) i1 (by omega)
  exact sc_wm (c := 7) (w := s 0) h2 i2 hh (m := m) (by change m < nn (up (up s (50 + 14 * m + 5) a) (50 + 14 * m + 6) b) 2; rw [nn_up (by omega), nn_up (by omega)]; exact hm) (by omega) rfl
theorem bec_s1 : (um_wr (um_wr (um_wr M 1 (50 + 14 * m + 5) a) 1 (50 + 14 * m + 6) b) 1 (50 + 14 * m + 7) (M.1 1 0)).1 1 = up (up (up (M.1 1) (50 + 14 * m + 5) a) (50 + 14 * m + 6) b) (50 + 14 * m + 7) (M.1 1 0) := by
  rw [um_wr_eq, um_wr_eq, um_wr_eq]
theorem bec_mf {v : Int32} {i1 i2 i3 : Nat} : mf M (um_wr (um_wr (um_wr M 1 i1 a) 1 i2 b) 1 i3 v) := mf_trans (mf_trans (mf_wr 1 (Or.inl rfl)) (mf_wr 1 (Or.inl rfl))) (mf_wr 1 (Or.inl rfl))
theorem bec_xf {v : Int32} {i1 i2 i3 : Nat} : xf h X (um_wr (um_wr (um_wr X (20 * h + 1 + 100) i1 a) (20 * h + 1 + 100) i2 b) (20 * h + 1 + 100) i3 v) := xf_trans (xf_trans (xf_wr (by omega)) (xf_wr (by omega))) (xf_wr (by omega))
theorem bec_hX {v : Int32} {i1 i2 i3 : Nat} (hh : um_h h) : ∀ k j, 300 ≤ k → k % 3 ≠ 2 → (um_wr (um_wr (um_wr X (20 * h + 1 + 100) i1 a) (20 * h + 1 + 100) i2 b) (20 * h + 1 + 100) i3 v).1 k j = X.1 k j := fun k j hk _ => by
  have h1 : 1 ≤ h ∧ h ≤ 3 := by rcases hh with z | z | z <;> omega
  rw [um_wr_nk (by omega), um_wr_nk (by omega), um_wr_nk (by omega)]
/-- the whole of it -/
theorem become_ (hs : sr X h (M.1 1) W n) (hh : um_h h) (hm : m < nn (M.1 1) 2) (hv : mv (nn (M.1 1) 3) (M.1 1 (50 + 14 * m + 2)) (M.1 1 (50 + 14 * m + 4)) a b (M.1 1 (50 + 14 * m + 10)) (M.1 1 (50 + 14 * m + 11))) : sm_S (f_X4_become h (nI m) a b X) (f_X9_becomesOf (nI m) a b M) (fun X' M' => sr X' h (M'.1 1) W n ∧ xf h X X' ∧ mf M M' ∧ M'.1 1 = up (up (up (M.1 1) (50 + 14 * m + 5) a) (50 + 14 * m + 6) b) (50 + 14 * m + 7) (M.1 1 0)) := by
  have hm14 := (si_men hs.2.1).2
  refine sm_of (x_become hh (by omega)) (m_becomesOf (by omega)) ⟨?_, bec_xf, bec_mf, bec_s1⟩
  rw [bec_s1]
  refine sr_man hs (sc_bec hs.1 (si_sb hs.2.1) hh hm) (bec_hX hh) rfl hm (fun b hb => ?_) (fun z => ?_) ?_
  · rw [up_ne (by omega), up_ne (by omega), up_ne (by omega)]
  · rw [up_ne (by omega), up_ne (by omega), up_ne (by omega)]; exact z
  · refine mo_of ?_ ?_ ?_ ?_ ?_ ?_ ?_ hv
    · rw [up_ne (by omega), up_ne (by omega), up_ne (by omega)]
    · rw [up_ne (by omega), up_ne (by omega), up_ne (by omega)]
    · rw [up_ne (by omega), up_ne (by omega), up_eq]
    · rw [up_ne (by omega), up_eq]
    · rw [up_ne (by omega), up_ne (by omega), up_ne (by omega)]
    · rw [up_ne (by omega), up_ne (by omega), up_ne (by omega)]
    · rw [nn_up (by omega), nn_up (by omega), nn_up (by omega)]
/-- one cell of a man that nothing is said of -/
theorem cell_ {c : Nat} {w : Int32} (hs : sr X h (M.1 1) W n) (hh : um_h h) (hm : m < nn (M.1 1) 2) (hc : c = 7 ∨ c = 9 ∨ c = 12 ∨ c = 13) : sr (um_wr X (20 * h + 1 + 100) (14 * m + c) w) h ((um_wr M 1 (50 + 14 * m + pc c) w).1 1) W n := by
  have hm14 := (si_men hs.2.1).2
  have h1 : 1 ≤ h ∧ h ≤ 3 := by rcases hh with z | z | z <;> omega
  have hp : pc c = 7 ∨ pc c = 9 ∨ pc c = 12 ∨ pc c = 13 := by rcases hc with rfl | rfl | rfl | rfl <;> decide
  rw [um_wr_eq]
  refine sr_man hs (sc_wm hs.1 (si_sb hs.2.1) hh hm (by omega) ?_) (fun k j hk _ => um_wr_nk (by omega)) rfl hm (fun b hb => up_ne (by omega)) (fun z => by rw [up_ne (by omega)]; exact z) ?_
  · unfold ec
    rw [if_neg (by omega)]
  · refine mo_of ?_ ?_ ?_ ?_ ?_ ?_ ?_ (mv_of (si_man hs.2.1 m hm))
    · rw [up_ne (by omega)]
    · rw [up_ne (by omega)]
    · rw [up_ne (by omega)]
    · rw [up_ne (by omega)]
    · rw [up_ne (by omega)]
    · rw [up_ne (by omega)]
    · rw [nn_up (by omega)]
end MEN
theorem sim_termR : sim_term RR := by
  intro n X M a1 a2 hR
  refine sm_out ?_
  have hi := hR.1.2.1
  have hc := hR.1.1
  have hh : um_h 1 := Or.inl rfl
  have hm14 := (si_men hi).2
  unfold f_X8_term f_X9_term
  refine sm_chk (ho_man hc hi) (sm_ret ⟨rfl, hR⟩) (fun ⟨m, hm, em⟩ => ?_)
  subst em
  refine sm_chk (wi_ (by decide) (by decide)) (sm_ret ⟨rfl, hR⟩) (fun hw => ?_)
  refine sm_dec (x_hasLanded hc hh hm hm14 (si_man hi m hm)) (m_hasLanded (by omega)) (fun _ => ?_) (fun _ => sm_ret ⟨rfl, hR⟩)
  · unfold f_X5_swap
    rw [x_m13 hc hi hh hm, m_manAt, Option.bind_some, Option.bind_some, la_12, m_becomes (by omega), show (13 : Int32) = nI 13 from rfl, s_1 hh (by omega) (by omega), Option.bind_some]
    exact sm_ret ⟨rfl, RR_of hR (cell_ (c := 13) hR.1 hh hm (by omega)) (xf_wr (by omega)) (mf_wr 1 (Or.inl rfl))⟩
theorem sim_diesR : sim_dies RR := by
  intro n X M a1 hR
  refine sm_out ?_
  have hi := hR.1.2.1
  have hc := hR.1.1
  have hh : um_h 1 := Or.inl rfl
  have hm14 := (si_men hi).2
  unfold f_X8_dies f_X9_dies
  refine sm_chk (ho_man hc hi) (sm_ret ⟨rfl, hR⟩) (fun ⟨m, hm, em⟩ => ?_)
  subst em
  refine sm_dec (x_isDead hc hh hm hm14) (m_isDead (by omega)) (fun hd => ?_) (fun _ => sm_ret ⟨rfl, hR⟩)
  · have hd2 := of_decide_eq_false hd
    have e1 : ∀ (Y : um_S) (v : Int32), f_X5_set (20 * 1 + 1) (nI m) (11 : Int32) v Y = some (um_wr Y (20 * 1 + 1 + 100) (14 * m + 11) v) := fun Y v => s_1 (c := 11) hh (by omega) (by omega)
    have e2 : ∀ (Y : um_S) (v : Int32), f_X5_set (20 * 1 + 1) (nI m) (4 : Int32) v Y = some (um_wr Y (20 * 1 + 1 + 100) (14 * m + 4) v) := fun Y v => s_1 (c := 4) hh (by omega) (by omega)
    refine sm_xb (e1 _ _) (sm_xb (e2 _ _) ?_)
    simp (disch := omega) only [um_let, Option.bind_some, m_manAt, la_11, la_4, um_ix_3, cl_3, if_true]
    refine sm_ret ⟨rfl, RR_of hR ?_ (xf_trans (xf_wr (by omega)) (xf_wr (by omega))) (mf_trans (mf_wr 1 (Or.inl rfl)) (mf_wr 1 (Or.inl rfl)))⟩
    have es : (um_wr (um_wr M 1 (50 + 14 * m + 11) 1) 1 (50 + 14 * m + 4) (-1)).1 1 = up (up (M.1 1) (50 + 14 * m + 11) 1) (50 + 14 * m + 4) (-1) := by rw [um_wr_eq, um_wr_eq]
    rw [es]
    obtain ⟨o1, o2, o3, o4, o5, o6, o7, o8, o9⟩ := si_man hi m hm
    refine sr_man hR.1 (sc_wm (c := 4) (w := -1) (sc_wm (c := 11) (w := 1) hc (si_sb hi) hh hm (by omega) rfl) (sb_up (si_sb hi) (by omega)) hh (m := m) (by change m < nn (up (M.1 1) (50 + 14 * m + 11) 1) 2; rw [nn_up (by omega)]; exact hm) (by omega) eN_m) (fun k j hk _ => by rw [um_wr_nk (by omega), um_wr_nk (by omega)]) rfl hm (fun b hb => by rw [up_ne (by omega), up_ne (by omega)]) (fun z => by rw [up_ne (by omega), up_ne (by omega)]; exact z) ?_
    refine mo_of (K := nn (M.1 1) 3) (f4 := -1) (f11 := 1) (f2 := M.1 1 (50 + 14 * m + 2)) (f5 := M.1 1 (50 + 14 * m + 5)) (f6 := M.1 1 (50 + 14 * m + 6)) (f10 := M.1 1 (50 + 14 * m + 10)) ?_ ?_ ?_ ?_ ?_ ?_ ?_ ⟨o1, Or.inl rfl, o3, fun _ => rfl, fun z => absurd rfl z, fun _ z => absurd rfl z, o7, o8, o9⟩
    · rw [up_ne (by omega), up_ne (by omega)]
    · rw [up_eq]
    · rw [up_ne (by omega), up_ne (by omega)]
    · rw [up_ne (by omega), up_ne (by omega)]
    · rw [up_ne (by omega), up_ne (by omega)]
    · rw [up_ne (by omega), up_eq]
    · rw [nn_up (by omega), nn_up (by omega)]
theorem sim_backR : sim_back RR := by
  intro n X M a1 hR
  refine sm_out ?_
  have hi := hR.1.2.1
  have hc := hR.1.1
  have hh : um_h 1 := Or.inl rfl
  have hm14 := (si_men hi).2
  unfold f_X8_back f_X9_back
  refine sm_chk (ho_man hc hi) (sm_ret ⟨rfl, hR⟩) (fun ⟨m, hm, em⟩ => ?_)
  subst em
  rw [x_m5 hc hi hh hm, m_kindOf (by omega), Option.bind_some, Option.bind_some]
  refine sm_if Iff.rfl (fun hk => ?_) (fun _ => sm_ret ⟨rfl, hR⟩)
  refine sm_dec (x_isDead hc hh hm hm14) (m_isDead (by omega)) (fun hd => ?_) (fun _ => sm_ret ⟨rfl, hR⟩)
  · have hd2 := of_decide_eq_false hd
    rw [x_m6 hc hi hh hm, Option.bind_some]
    simp (disch := omega) only [um_let, Option.bind_some, m_manAt, la_6, um_ix_3, cl_3, if_true]
    obtain ⟨o1, o2, o3, o4, o5, o6, o7, o8, o9⟩ := si_man hi m hm
    refine sm_bind (become_ hR.1 hh hm ⟨⟨1, by omega, by omega, rfl⟩, o2, o3, o4, o5, fun _ z1 z2 => o6 ⟨2, by omega, by omega, hk⟩ z1 z2, fun z => absurd z (by decide), fun z => absurd z (by decide), o9⟩) (fun X' M' ⟨q1, q2, q3, q4⟩ => ?_)
    exact sm_ret ⟨rfl, RR_of hR q1 q2 q3⟩
