/-! LEVEL 2: what holds of a row of the reference goes on holding -/
section INV
variable {s s' : Nat → Int32} {W i j t m k : Nat} {v : Int32}
theorem mo_congr (h : ∀ c, c < 14 → s' (50 + 14 * m + c) = s (50 + 14 * m + c)) (h3 : nn s 3 ≤ nn s' 3) (hm : mo s m) : mo s' m := by
  obtain ⟨a1, a2, a3, a4, a5, a6, a7, a8, a9⟩ := hm
  have e4 := h 4 (by omega)
  have e5 := h 5 (by omega)
  have e6 := h 6 (by omega)
  have e10 := h 10 (by omega)
  have e11 := h 11 (by omega)
  have e2 := h 2 (by omega)
  refine ⟨?_, ?_, ?_, ?_, ?_, ?_, ?_, ?_, ?_⟩
  · rw [e5]; exact a1
  · rw [e4]; exact a2
  · rw [e10]; exact a3
  · rw [e4, e11]; exact a4
  · rw [e4, e10]; exact a5
  · rw [e4, e5, e10, e11]; exact a6
  · rw [e5, e6, e10]; exact a7
  · rw [e5, e6]
    intro z
    obtain ⟨q, hq, e⟩ := a8 z
    exact ⟨q, by omega, e⟩
  · rw [e2]; exact a9
theorem rp_mono (ht : t < 7) (hag : ∀ c, c < tw t → s' (tb t + tw t * k + c) = s (tb t + tw t * k + c)) (h2 : nn s 2 ≤ nn s' 2) (h3 : nn s 3 ≤ nn s' 3) (hl : ∀ m, m < nn s 2 → s (50 + 14 * m + 10) ≠ -1 → s' (50 + 14 * m + 10) ≠ -1) (hr : rp t s k) : rp t s' k := by
  have ht2 : t = 0 ∨ t = 1 ∨ t = 2 ∨ t = 3 ∨ t = 4 ∨ t = 5 ∨ t = 6 := by omega
  rcases ht2 with rfl | rfl | rfl | rfl | rfl | rfl | rfl
  · have e := hag 0 (by decide)
    change pl (s' (30 + 2 * k))
    change s' (30 + 2 * k + 0) = s (30 + 2 * k + 0) at e
    rw [Nat.add_zero] at e
    rw [e]; exact hr
  · exact mo_congr (fun c hc => hag c hc) h3 hr
  · have e := hag 0 (by decide)
    have e2 := hag 2 (by decide)
    change s' (250 + 4 * k + 0) = s (250 + 4 * k + 0) at e
    change s' (250 + 4 * k + 2) = s (250 + 4 * k + 2) at e2
    rw [Nat.add_zero] at e
    change pl (s' (250 + 4 * k)) ∧ ∃ a : Nat, a ≤ 9 ∧ s' (250 + 4 * k + 2) = nI a
    rw [e, e2]; exact hr
  · have e := hag 0 (by decide)
    change s' (280 + 4 * k + 0) = s (280 + 4 * k + 0) at e
    rw [Nat.add_zero] at e
    change ∃ m : Nat, m < nn s' 2 ∧ s' (280 + 4 * k) = nI m ∧ s' (50 + 14 * m + 10) ≠ -1
    obtain ⟨m, hm, e1, e2⟩ := hr
    exact ⟨m, by omega, by rw [e, e1], hl m hm e2⟩
  · have e := hag 0 (by decide)
    change s' (570 + 5 * k + 0) = s (570 + 5 * k + 0) at e
    rw [Nat.add_zero] at e
    change ∃ m : Nat, m < nn s' 2 ∧ s' (570 + 5 * k) = nI m
    obtain ⟨m, hm, e1⟩ := hr
    exact ⟨m, by omega, by rw [e, e1]⟩
  · have e := hag 2 (by decide)
    change s' (440 + 4 * k + 2) = s (440 + 4 * k + 2) at e
    change ∃ a : Nat, a ≤ 70 ∧ s' (440 + 4 * k + 2) = nI a
    rw [e]; exact hr
  · have e := hag 2 (by decide)
    change s' (480 + 3 * k + 2) = s (480 + 3 * k + 2) at e
    change ∃ a : Nat, a ≤ 300 ∧ s' (480 + 3 * k + 2) = nI a
    rw [e]; exact hr
theorem tw_tc : ∀ t, t < 7 → 1 ≤ tw t ∧ tc t ≤ 196 := by decide
theorem row_lt (hi : sr_i s W) (ht : t < 7) (hk : k < nn s (tk t)) {c : Nat} (hc : c < tw t) : tw t * k + c < tc t := by
  have h1 := (hi.2.2.1 t ht).2
  have h2 : tw t * k + tw t ≤ tw t * nn s (tk t) := by
    rw [← Nat.mul_succ]
    exact Nat.mul_le_mul_left _ hk
  omega
theorem nn_congr (h : s' i = s i) : nn s' i = nn s i := by unfold nn; rw [h]
/-- a man changes -/
theorem si_wm (hi : sr_i s W) (hag : ∀ b, b < 50 ∨ 246 ≤ b → s' b = s b) (hl : ∀ m, m < nn s 2 → s (50 + 14 * m + 10) ≠ -1 → s' (50 + 14 * m + 10) ≠ -1) (hm : ∀ m, m < nn s 2 → mo s' m) : sr_i s' W := by
  have hn : ∀ b, b < 50 → nn s' b = nn s b := fun b hb => nn_congr (hag b (Or.inl hb))
  obtain ⟨a1, a2, a3, a4, a5, a6, a7, a8, a9⟩ := hi
  refine ⟨?_, ?_, ?_, ?_, ?_, ?_, ?_, ?_, ?_⟩
  · rw [hn 0 (by omega), hag 0 (by omega)]; exact a1
  · rw [hn 9 (by omega), hag 9 (by omega)]; exact a2
  · intro t ht
    have := tk_lt t ht
    rw [hn _ (by omega), hag _ (by omega)]; exact a3 t ht
  · rw [hn 5 (by omega), hag 5 (by omega)]; exact a4
  · intro p hp
    rw [hag _ (by omega)]; exact a5 p hp
  · intro t k ht hk
    have := tk_lt t ht
    rw [hn _ (by omega)] at hk
    by_cases e : t = 1
    · subst e
      exact hm k hk
    · have hd := tb_dis t (by omega) 1 (by omega) e (by omega) (by omega)
      have e1 : tb 1 = 50 := rfl
      have e2 : tc 1 = 196 := rfl
      refine rp_mono ht (fun c hc => hag _ ?_) (by rw [hn 2 (by omega)]; omega) (by rw [hn 3 (by omega)]; omega) hl (a6 t k ht hk)
      have := row_lt ⟨a1, a2, a3, a4, a5, a6, a7, a8, a9⟩ ht hk hc
      omega
  · intro j hj
    rw [hag _ (by omega)]; exact a7 j hj
  · intro j hj
    rw [hag _ (by omega)]; exact a8 j hj
  · intro j hj
    rw [hag _ (by omega)]; exact a9 j hj
/-- cells that nothing is said of -/
def fr (i : Nat) : Prop := i = 10 ∨ (17 ≤ i ∧ i ≤ 22) ∨ (280 ≤ i ∧ i < 440 ∧ (i - 280) % 4 ≠ 0) ∨ (570 ≤ i ∧ i < 670 ∧ (i - 570) % 5 ≠ 0) ∨ (710 ≤ i ∧ i < 731 ∧ (i - 710) % 3 ≠ 0) ∨ 780 ≤ i
/-- a cell changes that isn't a counter's, nor a man's, nor the head of a row -/
theorem si_up (hi : sr_i s W) (hc : 9 < i) (hst : ∀ p, p < 6 → i = 11 + p → ∃ x : Nat, x ≤ 9999 ∧ v = nI x) (hrow : ¬ (30 ≤ i ∧ i < 274) ∧ ¬ (440 ≤ i ∧ i < 570) ∧ ¬ (280 ≤ i ∧ i < 440 ∧ (i - 280) % 4 = 0) ∧ ¬ (570 ≤ i ∧ i < 670 ∧ (i - 570) % 5 = 0)) (hpa : 670 ≤ i → i < 706 → ∃ x : Nat, x ≤ 99 ∧ v = nI x) (hpt : 710 ≤ i → i < 731 → (i - 710) % 3 = 0 → ∃ x : Nat, x ≤ 99 ∧ v = nI x) (hwy : 740 ≤ i → i < 776 → ∃ x : Nat, x ≤ 99 ∧ v = nI x) : sr_i (up s i v) W := by
  have hI := hi
  obtain ⟨a1, a2, a3, a4, a5, a6, a7, a8, a9⟩ := hi
  have hcell : ∀ b, b ≠ i → up s i v b = s b := fun b hb => up_ne hb
  refine ⟨?_, ?_, ?_, ?_, ?_, ?_, ?_, ?_, ?_⟩
  · rw [nn_up (by omega), hcell 0 (by omega)]; exact a1
  · rw [nn_up (by omega), hcell 9 (by omega)]; exact a2
  · intro t ht
    have := tk_lt t ht
    rw [nn_up (by omega), hcell _ (by omega)]; exact a3 t ht
  · rw [nn_up (by omega), hcell 5 (by omega)]; exact a4
  · intro p hp
    by_cases e : i = 11 + p
    · subst e
      rw [up_eq]; exact hst p hp rfl
    · rw [hcell _ (by omega)]; exact a5 p hp
  · intro t k ht hk
    have := tk_lt t ht
    rw [nn_up (by omega)] at hk
    have ht2 : t = 0 ∨ t = 1 ∨ t = 2 ∨ t = 3 ∨ t = 4 ∨ t = 5 ∨ t = 6 := by omega
    clear hst hpa hpt hwy
    rcases ht2 with rfl | rfl | rfl | rfl | rfl | rfl | rfl
    · have := (si_ships hI).2
      change k < nn s 1 at hk
      change pl (up s i v (30 + 2 * k))
      rw [hcell _ (by omega)]; exact a6 0 k ht hk
    · have := (si_men hI).2
      change k < nn s 2 at hk
      exact mo_congr (fun c hc => hcell _ (by omega)) (by rw [nn_up (by omega)]; omega) (a6 1 k ht hk)
    · have := (si_masters hI).2
      change k < nn s 3 at hk
      change pl (up s i v (250 + 4 * k)) ∧ ∃ a : Nat, a ≤ 9 ∧ up s i v (250 + 4 * k + 2) = nI a
      rw [hcell _ (by omega), hcell _ (by omega)]; exact a6 2 k ht hk
    · have := (si_marks hI).2
      change k < nn s 4 at hk
      change ∃ m : Nat, m < nn (up s i v) 2 ∧ up s i v (280 + 4 * k) = nI m ∧ up s i v (50 + 14 * m + 10) ≠ -1
      obtain ⟨m, hm, e1, e2⟩ := a6 3 k ht hk
      have := (si_men hI).2
      exact ⟨m, by rw [nn_up (by omega)]; exact hm, by rw [hcell _ (by omega)]; exact e1, by rw [hcell _ (by omega)]; exact e2⟩
    · have := (si_letters hI).2
      change k < nn s 8 at hk
      change ∃ m : Nat, m < nn (up s i v) 2 ∧ up s i v (570 + 5 * k) = nI m
      obtain ⟨m, hm, e1⟩ := a6 4 k ht hk
      exact ⟨m, by rw [nn_up (by omega)]; exact hm, by rw [hcell _ (by omega)]; exact e1⟩
    · have := (si_looks hI).2
      change k < nn s 6 at hk
      change ∃ a : Nat, a ≤ 70 ∧ up s i v (440 + 4 * k + 2) = nI a
      rw [hcell _ (by omega)]; exact a6 5 k ht hk
    · have := (si_sents hI).2
      change k < nn s 7 at hk
      change ∃ a : Nat, a ≤ 300 ∧ up s i v (480 + 3 * k + 2) = nI a
      rw [hcell _ (by omega)]; exact a6 6 k ht hk
  · intro j hj
    by_cases e : i = 670 + j
    · subst e
      rw [up_eq]; exact hpa (by omega) (by omega)
    · rw [hcell _ (by omega)]; exact a7 j hj
  · intro j hj
    by_cases e : i = 710 + 3 * j
    · subst e
      rw [up_eq]; exact hpt (by omega) (by omega) (by omega)
    · rw [hcell _ (by omega)]; exact a8 j hj
  · intro j hj
    by_cases e : i = 740 + j
    · subst e
      rw [up_eq]; exact hwy (by omega) (by omega)
    · rw [hcell _ (by omega)]; exact a9 j hj
theorem si_fr (hi : sr_i s W) (hf : fr i) : sr_i (up s i v) W := by
  unfold fr at hf
  exact si_up hi (by omega) (fun p hp e => by omega) (by omega) (fun _ _ => by omega) (fun _ _ _ => by omega) (fun _ _ => by omega)
/-- the week, the seed -/
theorem si_wk {W' w : Nat} (hi : sr_i s W) (hw : w ≤ W') (hw2 : w < 2 ^ 31) : sr_i (up s 0 (nI w)) W' := by
  have hI := hi
  obtain ⟨a1, a2, a3, a4, a5, a6, a7, a8, a9⟩ := hi
  have hcell : ∀ b, b ≠ 0 → up s 0 (nI w) b = s b := fun b hb => up_ne hb
  refine ⟨?_, ?_, ?_, ?_, ?_, ?_, ?_, ?_, ?_⟩
  · rw [nn_at w hw2, up_eq]; exact ⟨rfl, hw⟩
  · rw [nn_up (by omega), hcell 9 (by omega)]; exact a2
  · intro t ht
    have := tk_lt t ht
    rw [nn_up (by omega), hcell _ (by omega)]; exact a3 t ht
  · rw [nn_up (by omega), hcell 5 (by omega)]; exact a4
  · intro p hp
    rw [hcell _ (by omega)]; exact a5 p hp
  · intro t k ht hk
    have := tk_lt t ht
    rw [nn_up (by omega)] at hk
    have := tb_ge t (by omega) (by omega)
    exact rp_mono ht (fun c hc => hcell _ (by omega)) (by rw [nn_up (by omega)]; omega) (by rw [nn_up (by omega)]; omega) (fun m hm z => by rw [hcell _ (by omega)]; exact z) (a6 t k ht hk)
  · intro j hj
    rw [hcell _ (by omega)]; exact a7 j hj
  · intro j hj
    rw [hcell _ (by omega)]; exact a8 j hj
  · intro j hj
    rw [hcell _ (by omega)]; exact a9 j hj
theorem si_sd {w : Nat} (hi : sr_i s W) (hw : w < 65536) : sr_i (up s 9 (nI w)) W := by
  have hI := hi
  obtain ⟨a1, a2, a3, a4, a5, a6, a7, a8, a9⟩ := hi
  have hcell : ∀ b, b ≠ 9 → up s 9 (nI w) b = s b := fun b hb => up_ne hb
  refine ⟨?_, ?_, ?_, ?_, ?_, ?_, ?_, ?_, ?_⟩
  · rw [nn_up (by omega), hcell 0 (by omega)]; exact a1
  · rw [nn_at w (by omega), up_eq]; exact ⟨rfl, hw⟩
  · intro t ht
    have := tk_lt t ht
    rw [nn_up (by omega), hcell _ (by omega)]; exact a3 t ht
  · rw [nn_up (by omega), hcell 5 (by omega)]; exact a4
  · intro p hp
    rw [hcell _ (by omega)]; exact a5 p hp
  · intro t k ht hk
    have := tk_lt t ht
    rw [nn_up (by omega)] at hk
    have := tb_ge t (by omega) (by omega)
    exact rp_mono ht (fun c hc => hcell _ (by omega)) (by rw [nn_up (by omega)]; omega) (by rw [nn_up (by omega)]; omega) (fun m hm z => by rw [hcell _ (by omega)]; exact z) (a6 t k ht hk)
  · intro j hj
    rw [hcell _ (by omega)]; exact a7 j hj
  · intro j hj
    rw [hcell _ (by omega)]; exact a8 j hj
  · intro j hj
    rw [hcell _ (by omega)]; exact a9 j hj
/-- a row more -/
theorem si_add {n : Nat} (hi : sr_i s W) (ht : t < 7) (hn : n = nn s (tk t)) (hroom : tw t * (n + 1) ≤ tc t) (hag : ∀ b, b ≠ tk t → ¬ (tb t + tw t * n ≤ b ∧ b < tb t + tw t * n + tw t) → s' b = s b) (hk1 : s' (tk t) = nI (n + 1)) (hnew : rp t s' n) : sr_i s' W := by
  have hI := hi
  obtain ⟨a1, a2, a3, a4, a5, a6, a7, a8, a9⟩ := hi
  have hkt := tk_lt t ht
  have hbt := tb_ge t (by omega) (by omega)
  have hwt := tw_tc t ht
  have hms : tw t * (n + 1) = tw t * n + tw t := Nat.mul_succ _ _
  have hnb : n + 1 ≤ tw t * (n + 1) := Nat.le_mul_of_pos_left _ (by omega)
  have hnt : nn s' (tk t) = n + 1 := by unfold nn; rw [hk1, nI_clamp (by omega)]
  have hn1 : ∀ b, b ≤ 9 → b ≠ tk t → nn s' b = nn s b := fun b hb hb2 => nn_congr (hag b hb2 (by omega))
  have hnle : ∀ b, b ≤ 9 → nn s b ≤ nn s' b := fun b hb => by
    by_cases e : b = tk t
    · subst e; omega
    · rw [hn1 b hb e]; omega
  refine ⟨?_, ?_, ?_, ?_, ?_, ?_, ?_, ?_, ?_⟩
  · rw [hn1 0 (by omega) (by omega), hag 0 (by omega) (by omega)]; exact a1
  · rw [hn1 9 (by omega) (by omega), hag 9 (by omega) (by omega)]; exact a2
  · intro u hu
    by_cases e : u = t
    · subst e
      rw [hnt]
      exact ⟨hk1, hroom⟩
    · have h1 := tk_inj u hu t ht e
      have h2 := tk_lt u hu
      rw [hn1 _ (by omega) h1, hag _ h1 (by omega)]
      exact a3 u hu
  · rw [hn1 5 (by omega) (by omega), hag 5 (by omega) (by omega)]; exact a4
  · intro p hp
    rw [hag _ (by omega) (by omega)]; exact a5 p hp
  · intro u k hu hk
    have hku := tk_lt u hu
    have hlm : ∀ m, m < nn s 2 → s (50 + 14 * m + 10) ≠ -1 → s' (50 + 14 * m + 10) ≠ -1 := fun m hm z => by
      have := (si_men hI).2
      by_cases e1 : t = 1
      · subst e1
        change n = nn s 2 at hn
        rw [hag _ (by omega) (by change ¬ (50 + 14 * n ≤ _ ∧ _); omega)]; exact z
      · have hd := tb_dis t (by omega) 1 (by omega) e1 (by omega) (by omega)
        have e2 : tb 1 = 50 := rfl
        have e3 : tc 1 = 196 := rfl
        rw [hag _ (by omega) (by omega)]; exact z
    by_cases e : u = t
    · subst e
      by_cases e2 : k = n
      · subst e2; exact hnew
      · have hk2 : k < nn s (tk u) := by omega
        have hkn : tw u * k + tw u ≤ tw u * n := by
          rw [← Nat.mul_succ]
          exact Nat.mul_le_mul_left _ (by omega)
        exact rp_mono hu (fun c hc => hag _ (by omega) (by omega)) (hnle 2 (by omega)) (hnle 3 (by omega)) hlm (a6 u k hu hk2)
    · have h1 := tk_inj u hu t ht e
      rw [hn1 _ (by omega) h1] at hk
      have hd := tb_dis u (by omega) t (by omega) e (by omega) (by omega)
      have hbu := tb_ge u (by omega) (by omega)
      refine rp_mono hu (fun c hc => hag _ (by omega) ?_) (hnle 2 (by omega)) (hnle 3 (by omega)) hlm (a6 u k hu hk)
      have := row_lt hI hu hk hc
      omega
  · intro j hj
    have hd := tb_dis t (by omega) 8 (by omega) (by omega) (by omega) (by omega)
    have e2 : tb 8 = 670 := rfl
    have e3 : tc 8 = 36 := rfl
    rw [hag _ (by omega) (by omega)]; exact a7 j hj
  · intro j hj
    have hd := tb_dis t (by omega) 9 (by omega) (by omega) (by omega) (by omega)
    have e2 : tb 9 = 710 := rfl
    have e3 : tc 9 = 21 := rfl
    rw [hag _ (by omega) (by omega)]; exact a8 j hj
  · intro j hj
    have hd := tb_dis t (by omega) 10 (by omega) (by omega) (by omega) (by omega)
    have e2 : tb 10 = 740 := rfl
    have e3 : tc 10 = 36 := rfl
    rw [hag _ (by omega) (by omega)]; exact a9 j hj
end INV
