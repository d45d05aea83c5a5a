/-! LEVEL 2: calls that read or change a cell -/
section CEL
variable {X M : um_S} {h n W t j : Nat} {s : Nat → Int32} {v : Int32}
theorem sr_wp (hs : sr X h s W n) (hh : um_h h) (ht : t < 11) (h1 : t ≠ 1) (h7 : t ≠ 7) (hj : j < tl s t) (hi' : sr_i (up s (tb t + j) v) W) : sr (um_wr X (20 * h + t + 100) j v) h (up s (tb t + j) v) W n := by
  have hb := tb_ge t ht h7
  have hl := tl_le hs.2.1 ht
  have hh2 : 1 ≤ h ∧ h ≤ 3 := by rcases hh with z | z | z <;> omega
  exact ⟨sc_wp hs.1 (si_sb hs.2.1) hh ht h1 h7 hj, hi', st_fr (fun k i hk _ => um_wr_nk (by omega)) rfl (fun b hb => up_ne (by omega)) (up_ne (by omega)) hs.2.2⟩
theorem RR_wp {i : Nat} (hR : RR n X M) (ht : t < 11) (h1 : t ≠ 1) (h7 : t ≠ 7) (hj : j < tl (M.1 1) t) (hi' : sr_i (up (M.1 1) i v) 1999) (he : i = tb t + j) : RR n (um_wr X (20 * 1 + t + 100) j v) (um_wr M 1 i v) := by
  subst he
  refine RR_of hR ?_ (xf_wr (by omega)) (mf_wr 1 (Or.inl rfl))
  rw [um_wr_eq]
  exact sr_wp hR.1 (Or.inl rfl) ht h1 h7 hj hi'
end CEL
theorem sim_voidsR : sim_voids RR := by
  intro n X M a1 a2 hR
  refine sm_out ?_
  have hi := hR.1.2.1
  have hc := hR.1.1
  have hh : um_h 1 := Or.inl rfl
  have hn := (si_marks hi).2
  unfold f_X8_voids f_X9_voids
  refine sm_chk (ho_mark hc hi) (sm_ret ⟨rfl, hR⟩) (fun ⟨m, hm, em⟩ => ?_)
  subst em
  refine sm_chk (wi_0 (n := 1) (by decide) (by decide)) (sm_ret ⟨rfl, hR⟩) (fun _ => ?_)
  unfold f_X5_swap
  rw [x_p3_3 hc hi hh hm, m_markAt, Option.bind_some, Option.bind_some, la_3, m_becomes (by omega), show (3 : Int32) = nI 3 from rfl, s_3 hh (by omega) (by omega), Option.bind_some]
  exact sm_ret ⟨rfl, RR_wp (t := 3) hR (by omega) (by omega) (by omega) (by change 4 * m + 3 < 4 * nn (M.1 1) 4; omega) (si_fr hi (by unfold fr; omega)) (by change _ = 280 + (4 * m + 3); omega)⟩
theorem sim_storeR : sim_store RR := by
  intro n X M a1 a2 hR
  refine sm_out ?_
  have hi := hR.1.2.1
  have hc := hR.1.1
  have hh : um_h 1 := Or.inl rfl
  unfold f_X8_store f_X9_store
  refine sm_chk pl_ (sm_ret ⟨rfl, hR⟩) (fun ⟨p, hp, ep⟩ => ?_)
  subst ep
  refine sm_chk (wi_0 (n := 9999) (by decide) (by decide)) (sm_ret ⟨rfl, hR⟩) (fun ⟨x, hx, ex⟩ => ?_)
  unfold f_X5_swap
  have e1 : f_X5_get (20 * 1 + 7) (nI p) (0 : Int32) X = some (X.1 (20 * 1 + 7 + 100) (2 * p)) := g_7 (c := 0) hh hp (by omega)
  have e2 : f_X5_set (20 * 1 + 7) (nI p) (0 : Int32) a2 X = some (um_wr X (20 * 1 + 7 + 100) (2 * p) a2) := s_7 (c := 0) hh hp (by omega)
  rw [e1, e2, Option.bind_some, Option.bind_some, lb_11, m_becomes (by omega), (hc.2.2.2.2.2.1 p hp).1]
  refine sm_ret ⟨rfl, RR_of hR ⟨?_, ?_, ?_⟩ (xf_wr (by omega)) (mf_wr 1 (Or.inl rfl))⟩
  · rw [um_wr_eq]
    exact (sc_w7 hc (si_sb hi) hh hp).1
  · rw [um_wr_eq]
    exact si_up hi (by omega) (fun q hq e => ⟨x, hx, ex⟩) (by omega) (fun _ _ => by omega) (fun _ _ _ => by omega) (fun _ _ => by omega)
  · refine st_fr (fun k i hk _ => um_wr_nk (by omega)) rfl (fun b hb => um_wr_an (by omega)) (um_wr_an (by omega)) hR.1.2.2
theorem sim_hungryR : sim_hungry RR := by
  intro n X M a1 hR
  refine sm_ouv ?_ hR
  have hc := hR.1.1
  have hh : um_h 1 := Or.inl rfl
  unfold f_X8_hungry f_X9_hungry
  refine sm_chk pl_ (sm_ret rfl) (fun ⟨p, hp, ep⟩ => ?_)
  subst ep
  have e1 : f_X5_get (20 * 1 + 7) (nI p) (1 : Int32) X = some (X.1 (20 * 1 + 7 + 100) (2 * p + 1)) := g_7 (c := 1) hh hp (by omega)
  rw [e1, Option.bind_some, lb_17, m_rd (by omega), (hc.2.2.2.2.2.1 p hp).2]
  exact sm_ret rfl
theorem sim_pathR : sim_path RR := by
  intro n X M a1 a2 a3 hR
  refine sm_out ?_
  have hi := hR.1.2.1
  have hc := hR.1.1
  have hh : um_h 1 := Or.inl rfl
  unfold f_X8_path f_X9_path
  refine sm_chk pl_ (sm_ret ⟨rfl, hR⟩) (fun ⟨p, hp, ep⟩ => ?_)
  subst ep
  refine sm_chk pl_ (sm_ret ⟨rfl, hR⟩) (fun ⟨q, hq, eq⟩ => ?_)
  subst eq
  refine sm_if Iff.rfl (fun _ => sm_ret ⟨rfl, hR⟩) (fun hpq => ?_)
  have hpq2 : p ≠ q := fun z => hpq (by rw [z])
  refine sm_chk (wi_0 (n := 99) (by decide) (by decide)) (sm_ret ⟨rfl, hR⟩) (fun ⟨x, hx, ex⟩ => ?_)
  unfold f_X5_swap
  rw [s_8 hh hq hp, Option.bind_some, g_8 hh hp hq, s_8 hh hp hq, Option.bind_some, Option.bind_some]
  simp (disch := omega) only [um_let, lm_6, lb_670, nI_add, um_ix_3, cl_3, if_true]
  rw [m_becomes (by omega), um_wr_an (by omega), um_wr_an (by omega)]
  have R1 : RR n (um_wr X (20 * 1 + 8 + 100) (6 * q + p) a3) (um_wr M 1 (670 + 6 * q + p) a3) := RR_wp (t := 8) hR (by omega) (by omega) (by omega) (by change 6 * q + p < 36; omega) (si_up hi (by omega) (fun _ _ _ => by omega) (by omega) (fun _ _ => ⟨x, hx, ex⟩) (fun _ _ _ => by omega) (fun _ _ => by omega)) (by change _ = 670 + (6 * q + p); omega)
  refine sm_ret ⟨?_, RR_wp (t := 8) R1 (by omega) (by omega) (by omega) (by change 6 * p + q < 36; omega) (si_up R1.1.2.1 (by omega) (fun _ _ _ => by omega) (by omega) (fun _ _ => ⟨x, hx, ex⟩) (fun _ _ _ => by omega) (fun _ _ => by omega)) (by change _ = 670 + (6 * p + q); omega)⟩
  have e3 := x_plain hc (t := 8) (j := 6 * p + q) (by omega) (by omega) (by omega) (by change 6 * p + q < 36; omega)
  change X.1 (20 * 1 + 8 + 100) (6 * p + q) = M.1 1 (670 + (6 * p + q)) at e3
  rw [show 670 + 6 * p + q = 670 + (6 * p + q) by omega]
  exact e3
theorem sim_wayR : sim_way RR := by
  intro n X M a1 a2 a3 a4 hR
  refine sm_out ?_
  have hi := hR.1.2.1
  have hc := hR.1.1
  have hh : um_h 1 := Or.inl rfl
  unfold f_X8_way f_X9_way
  refine sm_chk (wi_0 (n := 5) (by decide) (by decide)) (sm_ret ⟨rfl, hR⟩) (fun ⟨y, hy, ey⟩ => ?_)
  subst ey
  refine sm_chk (wi_0 (n := 2) (by decide) (by decide)) (sm_ret ⟨rfl, hR⟩) (fun ⟨w, hw, ew⟩ => ?_)
  subst ew
  refine sm_chk (wi_0 (n := 1) (by decide) (by decide)) (sm_ret ⟨rfl, hR⟩) (fun ⟨u, hu, eu⟩ => ?_)
  subst eu
  refine sm_chk (wi_0 (n := 99) (by decide) (by decide)) (sm_ret ⟨rfl, hR⟩) (fun ⟨x, hx, ex⟩ => ?_)
  unfold f_X5_swap f_X9_wayAt
  rw [lr_2, nI_add, g_10 hh (by omega) (by omega), s_10 hh (by omega) (by omega), Option.bind_some, Option.bind_some, lm_6, lm_2, lb_740, nI_add, Option.bind_some, nI_add, m_becomes (by omega)]
  refine sm_ret ⟨?_, RR_wp (t := 10) hR (by omega) (by omega) (by omega) (by change 6 * y + (w * 2 + u) < 36; omega) (si_up hi (by omega) (fun _ _ _ => by omega) (by omega) (fun _ _ => by omega) (fun _ _ _ => by omega) (fun _ _ => ⟨x, hx, ex⟩)) (by change _ = 740 + (6 * y + (w * 2 + u)); omega)⟩
  have e3 := x_plain hc (t := 10) (j := 6 * y + (w * 2 + u)) (by omega) (by omega) (by omega) (by change 6 * y + (w * 2 + u) < 36; omega)
  change X.1 (20 * 1 + 10 + 100) (6 * y + (w * 2 + u)) = M.1 1 (740 + (6 * y + (w * 2 + u))) at e3
  rw [show 740 + 6 * y + 2 * w + u = 740 + (6 * y + (w * 2 + u)) by omega]
  exact e3
theorem sim_partyR : sim_party RR := by
  intro n X M a1 a2 a3 hR
  refine sm_out ?_
  have hi := hR.1.2.1
  have hc := hR.1.1
  have hh : um_h 1 := Or.inl rfl
  unfold f_X8_party f_X9_party
  refine sm_chk (wi_0 (n := 6) (by decide) (by decide)) (sm_ret ⟨rfl, hR⟩) (fun ⟨y, hy, ey⟩ => ?_)
  subst ey
  refine sm_chk (wi_0 (n := 2) (by decide) (by decide)) (sm_ret ⟨rfl, hR⟩) (fun ⟨u, hu, eu⟩ => ?_)
  subst eu
  have key : ∀ (hiX : Int32) (u64 : Int64) (b : Nat), u64.toInt = b → hiX.toInt = b → (u = 0 → b ≤ 99) → sm_S ((f_X8_within a3 (0 : Int32) hiX X).bind fun x8 => if um_b x8 = 0 then some ((-1000000001 : Int32), X) else um_b2 (f_X5_swap (20 * 1 + 9) (nI y) (nI u) a3 X) fun x11 σ10 => some (x11, σ10)) ((f_X9_isIn (a3.toInt64) (0 : Int64) u64 M).bind fun x8 => if um_b x8 = 0 then some ((-1000000001 : Int32), M) else um_b2 (f_X9_becomes (((710 : Int32) + ((3 : Int32) * nI y)) + nI u) a3 M) fun x11 σ10 => some (x11, σ10)) (fun a b => a.1 = b.1 ∧ RR n a.2 b.2) := by
    intro hiX u64 b h1 h2 h3
    refine sm_chk (wi_0 (n := b) h1 h2) (sm_ret ⟨rfl, hR⟩) (fun ⟨x, hx, ex⟩ => ?_)
    unfold f_X5_swap
    rw [g_9 hh (by omega) (by omega), s_9 hh (by omega) (by omega), Option.bind_some, Option.bind_some, lm_3, lb_710, nI_add, m_becomes (by omega)]
    refine sm_ret ⟨?_, RR_wp (t := 9) hR (by omega) (by omega) (by omega) (by change 3 * y + u < 21; omega) (si_up hi (by omega) (fun _ _ _ => by omega) (by omega) (fun _ _ => by omega) (fun _ _ hz => ⟨x, by have := h3 (by omega); omega, ex⟩) (fun _ _ => by omega)) (by change _ = 710 + (3 * y + u); omega)⟩
    have e3 := x_plain hc (t := 9) (j := 3 * y + u) (by omega) (by omega) (by omega) (by change 3 * y + u < 21; omega)
    change X.1 (20 * 1 + 9 + 100) (3 * y + u) = M.1 1 (710 + (3 * y + u)) at e3
    rw [show 710 + 3 * y + u = 710 + (3 * y + u) by omega]
    exact e3
  refine sm_xl (sm_ml (sm_if Iff.rfl (fun _ => key 99 99 99 (by decide) (by decide) (fun _ => by omega)) (fun hz => key 255 255 255 (by decide) (by decide) (fun z => absurd (by rw [z]; rfl) hz))))
theorem sim_seedR : sim_seed RR := by
  intro n X M a1 hR
  refine sm_out ?_
  have hi := hR.1.2.1
  have hc := hR.1.1
  have hh : um_h 1 := Or.inl rfl
  unfold f_X8_seed f_X9_seed
  refine sm_chk (wi_0 (n := 65535) (by decide) (by decide)) (sm_ret ⟨rfl, hR⟩) (fun ⟨x, hx, ex⟩ => ?_)
  subst ex
  rw [show (9 : Int32) = nI 9 from rfl, m_becomes (by omega)]
  refine sm_xl (sm_xl (sm_ret ⟨hc.1.2.1, RR_of hR ⟨?_, ?_, ?_⟩ (xf_wr (by omega)) (mf_wr 1 (Or.inl rfl))⟩))
  · rw [um_wr_eq]
    exact sc_wh hc hh (Or.inr (Or.inl ⟨rfl, rfl⟩))
  · rw [um_wr_eq]
    exact si_sd hi (by omega)
  · exact st_fr (fun k i hk _ => um_wr_nk (by omega)) rfl (fun b hb => um_wr_an (by omega)) (um_wr_an (by omega)) hR.1.2.2
theorem sim_markToldR : sim_markTold RR := by
  intro n X M a1 a2 hR
  refine sm_ouv ?_ hR
  have hi := hR.1.2.1
  have hc := hR.1.1
  have hh : um_h 1 := Or.inl rfl
  have hn := (si_marks hi).2
  unfold f_X8_markTold f_X9_markTold
  refine sm_chk (ho_mark hc hi) (sm_ret rfl) (fun ⟨m, hm, em⟩ => ?_)
  subst em
  refine sm_chk (wi_0 (n := 3) (by decide) (by decide)) (sm_ret rfl) (fun ⟨c, hc3, ec⟩ => ?_)
  subst ec
  rw [m_markAt, Option.bind_some, nI_add, m_rd (by omega), g_3 hh (by omega) (by omega), Option.bind_some, x_plain hc (t := 3) (by omega) (by omega) (by omega) (by change 4 * m + c < 4 * nn (M.1 1) 4; omega)]
  refine sm_ret ?_
  change M.1 1 (280 + (4 * m + c)) = _
  rw [show 280 + (4 * m + c) = 280 + 4 * m + c by omega]
theorem sim_letterToldR : sim_letterTold RR := by
  intro n X M a1 a2 hR
  refine sm_ouv ?_ hR
  have hi := hR.1.2.1
  have hc := hR.1.1
  have hh : um_h 1 := Or.inl rfl
  obtain ⟨e1, hn⟩ := si_letters hi
  unfold f_X8_letterTold f_X9_letterTold
  refine sm_chk (ho_ (by rw [x_cnt hc (t := 4) (by omega)]; exact e1) e1 (by omega)) (sm_ret rfl) (fun ⟨m, hm, em⟩ => ?_)
  subst em
  refine sm_chk (wi_0 (n := 4) (by decide) (by decide)) (sm_ret rfl) (fun ⟨c, hc3, ec⟩ => ?_)
  subst ec
  rw [lm_5, lb_570, nI_add, m_rd (by omega), g_4 hh (by omega) (by omega), Option.bind_some, x_plain hc (t := 4) (by omega) (by omega) (by omega) (by change 5 * m + c < 5 * nn (M.1 1) 8; omega)]
  refine sm_ret ?_
  change M.1 1 (570 + (5 * m + c)) = _
  rw [show 570 + (5 * m + c) = 570 + 5 * m + c by omega]
theorem sim_hasR : sim_has RR := by
  intro n X M a1 a2 hR
  refine sm_ouv ?_ hR
  have hi := hR.1.2.1
  have hc := hR.1.1
  have hh : um_h 1 := Or.inl rfl
  obtain ⟨e1, hn⟩ := si_masters hi
  unfold f_X8_has f_X9_has
  refine sm_chk (ho_master hc hi) (sm_ret rfl) (fun ⟨m, hm, em⟩ => ?_)
  subst em
  refine sm_chk (wi_0 (n := 4) (by decide) (by decide)) (sm_ret rfl) (fun ⟨c, hc3, ec⟩ => ?_)
  subst ec
  refine sm_if Iff.rfl (fun _ => ?_) (fun hz => ?_)
  · obtain ⟨r, _, h1, h2⟩ := assignedTo_ (v := nI m) hc hi hh
    rw [h1, h2]
    exact sm_ret rfl
  · have hc4 : c ≠ 4 := fun z => hz (by rw [z]; rfl)
    rw [m_masterAt, Option.bind_some, nI_add, m_rd (by omega), g_2 hh (by omega) (by omega), Option.bind_some, x_plain hc (t := 2) (by omega) (by omega) (by omega) (by change 4 * m + c < 4 * nn (M.1 1) 3; omega)]
    refine sm_ret ?_
    change M.1 1 (250 + (4 * m + c)) = _
    rw [show 250 + (4 * m + c) = 250 + 4 * m + c by omega]
theorem sim_toldR : sim_told RR := by
  intro n X M a1 a2 hR
  refine sm_ouv ?_ hR
  have hi := hR.1.2.1
  have hc := hR.1.1
  have hh : um_h 1 := Or.inl rfl
  have hn := (si_men hi).2
  unfold f_X8_told f_X9_told
  refine sm_chk (ho_man hc hi) (sm_ret rfl) (fun ⟨m, hm, em⟩ => ?_)
  subst em
  refine sm_chk (wi_0 (n := 11) (by decide) (by decide)) (sm_ret rfl) (fun ⟨c, hc3, ec⟩ => ?_)
  subst ec
  refine sm_if Iff.rfl (fun _ => ?_) (fun hz => ?_)
  · rw [bind_sm, bind_sm]
    exact marksOf_ hc hi hh
  · have hc8 : c ≠ 8 := fun z => hz (by rw [z]; rfl)
    rw [x_man hc hh hm hn (by omega) hc8, Option.bind_some, m_manAt, Option.bind_some, nI_add]
    refine sm_mt (um_ix_3 (by omega)) ?_
    rw [cl_3 (by omega)]
    have hpc : pc c = c := by unfold pc; rw [if_neg (by omega), if_neg (by omega)]
    rw [hpc]
    obtain ⟨o1, o2, o3, o4, o5, o6, o7, o8, o9⟩ := si_man hi m hm
    have orN : ∀ v : Int32, (v = -1 ∨ ∃ l : Nat, l < 2 ^ 20 ∧ v = nI l) → f_X9_orNone v M = some (eN v) := fun v hv => by
      unfold f_X9_orNone
      rcases hv with rfl | ⟨l, hl, rfl⟩
      · rw [if_neg (by decide), eN_m]
      · rw [if_pos (nI_pos' (by omega)), eN_p (by omega)]
    refine sm_ml (sm_ml ?_)
    by_cases h4 : c = 4
    · subst h4
      refine sm_mt rfl ?_
      rw [orN _ (pl_or o2)]
      exact sm_ret rfl
    · refine sm_mf (fun z => h4 ((nI_eq (b := 4) (by omega) (by omega)).mp z)) ?_
      by_cases h10 : c = 10
      · subst h10
        refine sm_mt rfl ?_
        rw [orN _ o3]
        exact sm_ret rfl
      · refine sm_mf (fun z => h10 ((nI_eq (b := 10) (by omega) (by omega)).mp z)) ?_
        unfold ec
        rw [if_neg (by omega)]
        exact sm_ret rfl
