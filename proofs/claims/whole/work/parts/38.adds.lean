/-! LEVEL 2: the calls that add a row -/
theorem um_ix_3 {n : Nat} (h : n < 3790) : um_ix (nI n) 3790 = true := um_ix_nI h (by omega)
theorem cl_3 {n : Nat} (h : n < 3790) : (nI n).toNatClampNeg = n := nI_clamp (by omega)
theorem RR_of {n : Nat} {X M X' M' : um_S} (hR : RR n X M) (hs : sr X' 1 (M'.1 1) 1999 n) (hx : xf 1 X X') (hm : mf M M') : RR n X' M' := ⟨hs, rr_fr hx hm hR.2⟩
section ADS
variable {X X' M M' : um_S} {h : Nat} {s s' : Nat → Int32} {W t k n : Nat}
theorem sr_add (hs : sr X h s W n) (hh : um_h h) (ht : t < 7) (h1 : t ≠ 1) (hk : k = nn s (tk t)) (hroom : tw t * (k + 1) ≤ tc t) (hX2 : X'.2 = X.2)
    (hagX : ∀ k j, k ≠ 20 * h + t → k ≠ 20 * h + t + 100 → X'.1 k j = X.1 k j) (hcx : X'.1 (20 * h + t) 2 = nI (k + 1)) (hold : ∀ j, j < tw t * k ∨ (t = 4 ∧ 5 * (k + 1) ≤ j) → X'.1 (20 * h + t + 100) j = X.1 (20 * h + t + 100) j)
    (hnew : ∀ c, c < tw t → X'.1 (20 * h + t + 100) (tw t * k + c) = s' (tb t + (tw t * k + c)))
    (hag : ∀ b, b ≠ tk t → ¬ (tb t + tw t * k ≤ b ∧ b < tb t + tw t * k + tw t) → s' b = s b) (hk1 : s' (tk t) = nI (k + 1)) (hrow : rp t s' k) : sr X' h s' W n := by
  have hh2 : 1 ≤ h ∧ h ≤ 3 := by rcases hh with z | z | z <;> omega
  have hkt := tk_lt t ht
  have hbt := tb_ge t (by omega) (by omega)
  have hms : tw t * (k + 1) = tw t * k + tw t := Nat.mul_succ _ _
  exact ⟨sc_add hs.1 hs.2.1 hh ht h1 hk hroom hagX hcx (fun j hj => hold j (Or.inl hj)) hnew (fun e j hj _ => by subst e; exact hold j (Or.inr ⟨rfl, hj⟩)) hag hk1, si_add hs.2.1 ht hk hroom hag hk1 hrow, st_fr (fun q j hq _ => hagX q j (by omega) (by omega)) hX2 (fun b hb => hag b (by omega) (by omega)) (hag 5 (by omega) (by omega)) hs.2.2⟩
end ADS
theorem sim_shipR : sim_ship RR := by
  intro n X M a1 a2 hR
  refine sm_out ?_
  have hi := hR.1.2.1
  have hc := hR.1.1
  have hh : um_h 1 := Or.inl rfl
  obtain ⟨e1, hn⟩ := si_ships hi
  obtain ⟨k, hk⟩ : ∃ k, nn (M.1 1) 1 = k := ⟨_, rfl⟩
  rw [hk] at e1 hn
  have ex1 : X.1 (20 * 1 + 0) 2 = nI k := by rw [x_cnt hc (t := 0) (by omega)]; exact e1
  unfold f_X8_ship f_X9_ship
  refine sm_chk pl_ (sm_ret ⟨rfl, hR⟩) (fun ⟨p, hp, ea⟩ => ?_)
  refine sm_chk (wi_ (by rw [hc.1.1, Int32.toInt_toInt64]) (by decide)) (sm_ret ⟨rfl, hR⟩) (fun hw => ?_)
  by_cases hf : k = 8
  · refine sm_xb2 (x_addF (xw_0 hh) (xl_0 hh) ex1 (by omega) (by omega)) ?_
    refine sm_mt (by rw [e1, hf]; rfl) (sm_ret ⟨rfl, hR⟩)
  · obtain ⟨X', ex, b1, b2, b3, b4, b5, b6, b7, b8⟩ := x_add (a := a1) (b := a2) (c := 0) (d := 0) (xw_0 hh) (xl_0 hh) ex1 (by omega) (by omega) (by omega) (by omega)
    refine sm_xb2 ex ?_
    refine sm_mf (by rw [e1]; exact fun z => hf ((nI_eq (by omega) (by omega)).mp z)) ?_
    simp (disch := omega) only [um_let, e1, lm_2, lb_30, la_1, um_ix_3, cl_3, um_wr_an, um_wr_at, nI_pred, if_true]
    refine sm_ret ⟨rfl, RR_of hR (sr_add hR.1 hh (t := 0) (by omega) (by omega) hk.symm (by change 2 * (k + 1) ≤ 16; omega) b1 b2 b3 (fun j hj => b4 j (by change j < 2 * k ∨ _ at hj; omega)) ?_ ?_ ?_ ?_) ⟨fun q j h1 h2 h3 _ => b2 q j (by omega) (by omega), b1⟩ ?_⟩
    · intro c hc2
      change c < 2 at hc2
      change X'.1 _ (2 * k + c) = (um_wr (um_wr (um_wr M 1 (30 + 2 * k) a1) 1 (30 + 2 * k + 1) a2) 1 1 (nI (k + 1))).1 1 (30 + (2 * k + c))
      have hcc : c = 0 ∨ c = 1 := by omega
      rcases hcc with rfl | rfl
      · rw [um_wr_an (by omega), um_wr_an (by omega), show 30 + (2 * k + 0) = 30 + 2 * k by omega, um_wr_at, show 2 * k + 0 = k * 2 by omega, b5]
      · rw [um_wr_an (by omega), show 30 + (2 * k + 1) = 30 + 2 * k + 1 by omega, um_wr_at, show 2 * k + 1 = k * 2 + 1 by omega, b6]
    · intro b hb hb2
      change b ≠ 1 at hb
      change ¬ (30 + 2 * k ≤ b ∧ b < 30 + 2 * k + 2) at hb2
      rw [um_wr_an hb, um_wr_an (by omega), um_wr_an (by omega)]
    · exact um_wr_at _ _ _ _
    · change pl ((um_wr (um_wr (um_wr M 1 (30 + 2 * k) a1) 1 (30 + 2 * k + 1) a2) 1 1 (nI (k + 1))).1 1 (30 + 2 * k))
      rw [um_wr_an (by omega), um_wr_an (by omega), um_wr_at]
      exact ⟨p, hp, ea⟩
    · exact mf_trans (mf_trans (mf_wr 1 (Or.inl rfl)) (mf_wr 1 (Or.inl rfl))) (mf_wr 1 (Or.inl rfl))
