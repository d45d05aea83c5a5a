/-! LEVEL 2: the relation of a shore of the class and a row of the reference -/
def tb (t : Nat) : Nat := ([30, 50, 250, 280, 570, 440, 480, 11, 670, 710, 740] : List Nat).getD t 0
def tc (t : Nat) : Nat := ([16, 196, 24, 160, 100, 40, 90, 12, 36, 21, 36] : List Nat).getD t 0
def tk (t : Nat) : Nat := ([1, 2, 3, 4, 8, 6, 7] : List Nat).getD t 0
def tw (t : Nat) : Nat := ([2, 14, 4, 4, 5, 4, 3] : List Nat).getD t 0
def tl (s : Nat → Int32) (t : Nat) : Nat := if t < 7 then tw t * nn s (tk t) else tc t
/-- a number that the class calls NONE -/
def eN (v : Int32) : Int32 := if v = -1 then -1000000005 else v
def pc (c : Nat) : Nat := if c = 12 then 13 else if c = 13 then 12 else c
def ec (c : Nat) (v : Int32) : Int32 := if c = 4 ∨ c = 10 then eN v else v
def pl (v : Int32) : Prop := ∃ p : Nat, p < 6 ∧ v = nI p
def sr_c (X : um_S) (h : Nat) (s : Nat → Int32) : Prop :=
  (X.1 h 12 = s 0 ∧ X.1 h 13 = s 9 ∧ X.1 h 14 = s 10) ∧ (∀ t, t < 7 → X.1 (20 * h + t) 2 = s (tk t)) ∧ X.1 (20 * h + 11) 1 = s 5 ∧
  (∀ t j, t < 11 → t ≠ 1 → t ≠ 7 → j < tl s t → X.1 (20 * h + t + 100) j = s (tb t + j)) ∧
  (∀ m c, m < nn s 2 → c < 14 → c ≠ 8 → X.1 (20 * h + 1 + 100) (14 * m + c) = ec c (s (50 + 14 * m + pc c))) ∧
  (∀ p, p < 6 → X.1 (20 * h + 7 + 100) (2 * p) = s (11 + p) ∧ X.1 (20 * h + 7 + 100) (2 * p + 1) = s (17 + p)) ∧
  (∀ j, 14 * nn s 2 ≤ j → j < 196 → X.1 (20 * h + 1 + 100) j = 0) ∧ (∀ j, 5 * nn s 8 ≤ j → j < 100 → X.1 (20 * h + 4 + 100) j = 0)
/-- what holds of a man -/
def mo (s : Nat → Int32) (m : Nat) : Prop :=
  (∃ k : Nat, 1 ≤ k ∧ k ≤ 7 ∧ s (50 + 14 * m + 5) = nI k) ∧ (s (50 + 14 * m + 4) = -1 ∨ pl (s (50 + 14 * m + 4))) ∧
  (s (50 + 14 * m + 10) = -1 ∨ ∃ l : Nat, l < 2 ^ 20 ∧ s (50 + 14 * m + 10) = nI l) ∧ (s (50 + 14 * m + 11) = 1 → s (50 + 14 * m + 4) = -1) ∧
  (s (50 + 14 * m + 4) ≠ -1 → s (50 + 14 * m + 10) ≠ -1) ∧
  ((∃ k : Nat, 1 ≤ k ∧ k ≤ 4 ∧ s (50 + 14 * m + 5) = nI k) → s (50 + 14 * m + 11) ≠ 1 → s (50 + 14 * m + 10) ≠ -1 → s (50 + 14 * m + 4) ≠ -1) ∧
  (s (50 + 14 * m + 5) = 7 → s (50 + 14 * m + 10) ≠ -1 ∧ pl (s (50 + 14 * m + 6))) ∧
  (s (50 + 14 * m + 5) = 2 → ∃ q : Nat, q < nn s 3 ∧ s (50 + 14 * m + 6) = nI q) ∧
  (∃ a : Nat, a ≤ 70 ∧ s (50 + 14 * m + 2) = nI a)
/-- what holds of a row -/
def rp (t : Nat) (s : Nat → Int32) (k : Nat) : Prop := match t with
  | 0 => pl (s (30 + 2 * k))
  | 1 => mo s k
  | 2 => pl (s (250 + 4 * k)) ∧ ∃ a : Nat, a ≤ 9 ∧ s (250 + 4 * k + 2) = nI a
  | 3 => ∃ m : Nat, m < nn s 2 ∧ s (280 + 4 * k) = nI m ∧ s (50 + 14 * m + 10) ≠ -1
  | 4 => ∃ m : Nat, m < nn s 2 ∧ s (570 + 5 * k) = nI m
  | 5 => ∃ a : Nat, a ≤ 70 ∧ s (440 + 4 * k + 2) = nI a
  | 6 => ∃ a : Nat, a ≤ 300 ∧ s (480 + 3 * k + 2) = nI a
  | _ => True
def sr_i (s : Nat → Int32) (W : Nat) : Prop :=
  (s 0 = nI (nn s 0) ∧ nn s 0 ≤ W) ∧ (s 9 = nI (nn s 9) ∧ nn s 9 < 65536) ∧
  (∀ t, t < 7 → s (tk t) = nI (nn s (tk t)) ∧ tw t * nn s (tk t) ≤ tc t) ∧ (s 5 = nI (nn s 5) ∧ nn s 5 ≤ 14) ∧
  (∀ p, p < 6 → ∃ v : Nat, v ≤ 9999 ∧ s (11 + p) = nI v) ∧
  (∀ t k, t < 7 → k < nn s (tk t) → rp t s k) ∧
  (∀ j, j < 36 → ∃ v : Nat, v ≤ 99 ∧ s (670 + j) = nI v) ∧
  (∀ k, k < 7 → ∃ v : Nat, v ≤ 99 ∧ s (710 + 3 * k) = nI v) ∧
  (∀ j, j < 36 → ∃ v : Nat, v ≤ 99 ∧ s (740 + j) = nI v)
section ACC
variable {s : Nat → Int32} {W : Nat}
theorem si_week (h : sr_i s W) : s 0 = nI (nn s 0) ∧ nn s 0 ≤ W := h.1
theorem si_seed (h : sr_i s W) : s 9 = nI (nn s 9) ∧ nn s 9 < 65536 := h.2.1
theorem si_ships (h : sr_i s W) : s 1 = nI (nn s 1) ∧ nn s 1 ≤ 8 := by
  have z := h.2.2.1 0 (by omega)
  exact ⟨z.1, by have := z.2; change 2 * nn s 1 ≤ 16 at this; omega⟩
theorem si_men (h : sr_i s W) : s 2 = nI (nn s 2) ∧ nn s 2 ≤ 14 := by
  have z := h.2.2.1 1 (by omega)
  exact ⟨z.1, by have := z.2; change 14 * nn s 2 ≤ 196 at this; omega⟩
theorem si_masters (h : sr_i s W) : s 3 = nI (nn s 3) ∧ nn s 3 ≤ 6 := by
  have z := h.2.2.1 2 (by omega)
  exact ⟨z.1, by have := z.2; change 4 * nn s 3 ≤ 24 at this; omega⟩
theorem si_marks (h : sr_i s W) : s 4 = nI (nn s 4) ∧ nn s 4 ≤ 40 := by
  have z := h.2.2.1 3 (by omega)
  exact ⟨z.1, by have := z.2; change 4 * nn s 4 ≤ 160 at this; omega⟩
theorem si_letters (h : sr_i s W) : s 8 = nI (nn s 8) ∧ nn s 8 ≤ 20 := by
  have z := h.2.2.1 4 (by omega)
  exact ⟨z.1, by have := z.2; change 5 * nn s 8 ≤ 100 at this; omega⟩
theorem si_looks (h : sr_i s W) : s 6 = nI (nn s 6) ∧ nn s 6 ≤ 10 := by
  have z := h.2.2.1 5 (by omega)
  exact ⟨z.1, by have := z.2; change 4 * nn s 6 ≤ 40 at this; omega⟩
theorem si_sents (h : sr_i s W) : s 7 = nI (nn s 7) ∧ nn s 7 ≤ 30 := by
  have z := h.2.2.1 6 (by omega)
  exact ⟨z.1, by have := z.2; change 3 * nn s 7 ≤ 90 at this; omega⟩
theorem si_texts (h : sr_i s W) : s 5 = nI (nn s 5) ∧ nn s 5 ≤ 14 := h.2.2.2.1
theorem si_store (h : sr_i s W) : ∀ p, p < 6 → ∃ v : Nat, v ≤ 9999 ∧ s (11 + p) = nI v := h.2.2.2.2.1
theorem si_row (h : sr_i s W) : ∀ t k, t < 7 → k < nn s (tk t) → rp t s k := h.2.2.2.2.2.1
theorem si_ship (h : sr_i s W) : ∀ k, k < nn s 1 → pl (s (30 + 2 * k)) := fun k hk => si_row h 0 k (by omega) hk
theorem si_man (h : sr_i s W) : ∀ m, m < nn s 2 → mo s m := fun k hk => si_row h 1 k (by omega) hk
theorem si_master (h : sr_i s W) : ∀ k, k < nn s 3 → pl (s (250 + 4 * k)) ∧ ∃ a : Nat, a ≤ 9 ∧ s (250 + 4 * k + 2) = nI a := fun k hk => si_row h 2 k (by omega) hk
theorem si_mark (h : sr_i s W) : ∀ k, k < nn s 4 → ∃ m : Nat, m < nn s 2 ∧ s (280 + 4 * k) = nI m ∧ s (50 + 14 * m + 10) ≠ -1 := fun k hk => si_row h 3 k (by omega) hk
theorem si_letter (h : sr_i s W) : ∀ k, k < nn s 8 → ∃ m : Nat, m < nn s 2 ∧ s (570 + 5 * k) = nI m := fun k hk => si_row h 4 k (by omega) hk
theorem si_look (h : sr_i s W) : ∀ k, k < nn s 6 → ∃ a : Nat, a ≤ 70 ∧ s (440 + 4 * k + 2) = nI a := fun k hk => si_row h 5 k (by omega) hk
theorem si_sent (h : sr_i s W) : ∀ k, k < nn s 7 → ∃ a : Nat, a ≤ 300 ∧ s (480 + 3 * k + 2) = nI a := fun k hk => si_row h 6 k (by omega) hk
theorem si_path (h : sr_i s W) : ∀ j, j < 36 → ∃ v : Nat, v ≤ 99 ∧ s (670 + j) = nI v := h.2.2.2.2.2.2.1
theorem si_party (h : sr_i s W) : ∀ k, k < 7 → ∃ v : Nat, v ≤ 99 ∧ s (710 + 3 * k) = nI v := h.2.2.2.2.2.2.2.1
theorem si_way (h : sr_i s W) : ∀ j, j < 36 → ∃ v : Nat, v ≤ 99 ∧ s (740 + j) = nI v := h.2.2.2.2.2.2.2.2
end ACC
theorem tk_lt : ∀ t, t < 7 → 1 ≤ tk t ∧ tk t ≤ 8 ∧ tk t ≠ 5 := by decide
theorem tk_inj : ∀ t, t < 7 → ∀ u, u < 7 → t ≠ u → tk t ≠ tk u := by decide
theorem tb_ge : ∀ t, t < 11 → t ≠ 7 → 30 ≤ tb t ∧ tb t + tc t ≤ 776 := by decide
theorem tb_disb : ((List.range 11).all fun t => (List.range 11).all fun u => decide (t = u ∨ t = 7 ∨ u = 7 ∨ tb t + tc t ≤ tb u ∨ tb u + tc u ≤ tb t)) = true := by decide
theorem tb_dis : ∀ t, t < 11 → ∀ u, u < 11 → t ≠ u → t ≠ 7 → u ≠ 7 → tb t + tc t ≤ tb u ∨ tb u + tc u ≤ tb t := by
  intro t ht u hu h1 h2 h3
  have a1 := List.all_eq_true.mp tb_disb t (List.mem_range.mpr ht)
  have a2 := of_decide_eq_true (List.all_eq_true.mp a1 u (List.mem_range.mpr hu))
  omega
/-- no table has more rows than it holds -/
def sb (s : Nat → Int32) : Prop := ∀ t, t < 7 → tw t * nn s (tk t) ≤ tc t
theorem si_sb {s : Nat → Int32} {W : Nat} (h : sr_i s W) : sb s := fun t ht => (h.2.2.1 t ht).2
theorem sb_men {s : Nat → Int32} (h : sb s) : nn s 2 ≤ 14 := by
  have := h 1 (by omega)
  change 14 * nn s 2 ≤ 196 at this
  omega
theorem tl_leb {s : Nat → Int32} {t : Nat} (h : sb s) (ht : t < 11) : tl s t ≤ tc t := by
  unfold tl
  split
  · rename_i z; exact h t z
  · exact Nat.le_refl _
theorem tl_le {s : Nat → Int32} {W t : Nat} (h : sr_i s W) (ht : t < 11) : tl s t ≤ tc t := tl_leb (si_sb h) ht
/-! writing one cell on both sides -/
section WRT
variable {X X' : um_S} {h : Nat} {s s' : Nat → Int32} {W i j t m c p : Nat} {v : Int32}
theorem nn_up (hi : i ≠ j) : nn (up s i v) j = nn s j := by
  unfold nn
  rw [up_ne (fun z => hi z.symm)]
theorem nn_at (k : Nat) (hk : k < 2 ^ 31) : nn (up s i (nI k)) i = k := by
  unfold nn
  rw [up_eq, nI_clamp hk]
theorem tl_up (hi : 9 ≤ i) : tl (up s i v) t = tl s t := by
  unfold tl
  split
  · rename_i z
    have := tk_lt t z
    rw [nn_up (by omega)]
  · rfl
/-- a cell of a plain table -/
theorem sb_up (h : sb s) (hi : 9 ≤ i) : sb (up s i v) := fun t ht => by
  have := tk_lt t ht
  rw [nn_up (by omega)]
  exact h t ht
theorem sc_wp (hc : sr_c X h s) (hi : sb s) (hh : um_h h) (ht : t < 11) (h1 : t ≠ 1) (h7 : t ≠ 7) (hj : j < tl s t) : sr_c (um_wr X (20 * h + t + 100) j v) h (up s (tb t + j) v) := by
  obtain ⟨a1, a2, a3, a4, a5, a6, a7, a8⟩ := hc
  have hb := tb_ge t ht h7
  have hl := tl_leb hi ht
  have hh2 : 1 ≤ h ∧ h ≤ 3 := by rcases hh with z | z | z <;> omega
  refine ⟨?_, ?_, ?_, ?_, ?_, ?_, ?_, ?_⟩
  · rw [um_wr_nk (by omega), um_wr_nk (by omega), um_wr_nk (by omega), up_ne (by omega), up_ne (by omega), up_ne (by omega)]
    exact a1
  · intro u hu
    have := tk_lt u hu
    rw [um_wr_nk (by omega), up_ne (by omega)]
    exact a2 u hu
  · rw [um_wr_nk (by omega), up_ne (by omega)]
    exact a3
  · intro u k hu hu1 hu7 hk
    rw [tl_up (by omega)] at hk
    have hlu := tl_leb hi hu
    by_cases e : u = t
    · subst e
      by_cases e2 : k = j
      · subst e2
        rw [um_wr_at, up_eq]
      · rw [um_wr_an e2, up_ne (by omega)]
        exact a4 u k hu hu1 hu7 hk
    · have := tb_dis u hu t ht e hu7 h7
      rw [um_wr_nk (by omega), up_ne (by omega)]
      exact a4 u k hu hu1 hu7 hk
  · intro m c hm hc hc8
    rw [nn_up (by omega)] at hm
    have hm14 := sb_men hi
    have := tb_dis t ht 1 (by omega) h1 h7 (by omega)
    have e1 : tb 1 = 50 := rfl
    have e2 : tc 1 = 196 := rfl
    have e3 : pc c < 14 := by unfold pc; (repeat' split) <;> omega
    rw [um_wr_nk (by omega), up_ne (by omega)]
    exact a5 m c hm hc hc8
  · intro p hp
    rw [um_wr_nk (by omega), um_wr_nk (by omega), up_ne (by omega), up_ne (by omega)]
    exact a6 p hp
  · intro k hk
    rw [nn_up (by omega)] at hk
    rw [um_wr_nk (by omega)]
    exact a7 k hk
  · intro k hk hk2
    rw [nn_up (by omega)] at hk
    by_cases e : t = 4
    · subst e
      have e3 : tl s 4 = 5 * nn s 8 := rfl
      rw [um_wr_an (by omega)]
      exact a8 k hk hk2
    · rw [um_wr_nk (by omega)]
      exact a8 k hk hk2
theorem pc_lt (hc : c < 14) : pc c < 14 := by unfold pc; (repeat' split) <;> omega
theorem pc_inj {d : Nat} (hc : c < 14) (hd : d < 14) (h : pc c = pc d) : c = d := by
  unfold pc at h
  split at h <;> split at h <;> (try split at h) <;> (try split at h) <;> omega
/-- a cell of a man -/
theorem sc_wm {w : Int32} (hc : sr_c X h s) (hi : sb s) (hh : um_h h) (hm : m < nn s 2) (hc14 : c < 14) (hv : ec c w = v) : sr_c (um_wr X (20 * h + 1 + 100) (14 * m + c) v) h (up s (50 + 14 * m + pc c) w) := by
  obtain ⟨a1, a2, a3, a4, a5, a6, a7, a8⟩ := hc
  have hh2 : 1 ≤ h ∧ h ≤ 3 := by rcases hh with z | z | z <;> omega
  have hm14 := sb_men hi
  have hp := pc_lt hc14
  refine ⟨?_, ?_, ?_, ?_, ?_, ?_, ?_, ?_⟩
  · rw [um_wr_nk (by omega), um_wr_nk (by omega), um_wr_nk (by omega), up_ne (by omega), up_ne (by omega), up_ne (by omega)]
    exact a1
  · intro u hu
    have := tk_lt u hu
    rw [um_wr_nk (by omega), up_ne (by omega)]
    exact a2 u hu
  · rw [um_wr_nk (by omega), up_ne (by omega)]
    exact a3
  · intro u k hu hu1 hu7 hk
    rw [tl_up (by omega)] at hk
    have hlu := tl_leb hi hu
    have := tb_dis u hu 1 (by omega) hu1 hu7 (by omega)
    have e1 : tb 1 = 50 := rfl
    have e2 : tc 1 = 196 := rfl
    rw [um_wr_nk (by omega), up_ne (by omega)]
    exact a4 u k hu hu1 hu7 hk
  · intro m2 c2 hm2 hc2 hc8
    rw [nn_up (by omega)] at hm2
    have hp2 := pc_lt hc2
    by_cases e : m2 = m
    · subst e
      by_cases e2 : c2 = c
      · subst e2
        rw [um_wr_at, up_eq, hv]
      · rw [um_wr_an (by omega), up_ne (fun z => e2 (pc_inj hc2 hc14 (by omega)))]
        exact a5 m2 c2 hm2 hc2 hc8
    · rw [um_wr_an (by omega), up_ne (by omega)]
      exact a5 m2 c2 hm2 hc2 hc8
  · intro p hp6
    rw [um_wr_nk (by omega), um_wr_nk (by omega), up_ne (by omega), up_ne (by omega)]
    exact a6 p hp6
  · intro k hk hk2
    rw [nn_up (by omega)] at hk
    rw [um_wr_an (by omega)]
    exact a7 k hk hk2
  · intro k hk hk2
    rw [nn_up (by omega)] at hk
    rw [um_wr_nk (by omega)]
    exact a8 k hk hk2
/-- a store, a hunger -/
theorem sc_w7 (hc : sr_c X h s) (hi : sb s) (hh : um_h h) (hp : p < 6) : sr_c (um_wr X (20 * h + 7 + 100) (2 * p) v) h (up s (11 + p) v) ∧ sr_c (um_wr X (20 * h + 7 + 100) (2 * p + 1) v) h (up s (17 + p) v) := by
  obtain ⟨a1, a2, a3, a4, a5, a6, a7, a8⟩ := hc
  have hh2 : 1 ≤ h ∧ h ≤ 3 := by rcases hh with z | z | z <;> omega
  refine ⟨⟨?_, ?_, ?_, ?_, ?_, ?_, ?_, ?_⟩, ⟨?_, ?_, ?_, ?_, ?_, ?_, ?_, ?_⟩⟩
  · rw [um_wr_nk (by omega), um_wr_nk (by omega), um_wr_nk (by omega), up_ne (by omega), up_ne (by omega), up_ne (by omega)]
    exact a1
  · intro u hu
    have := tk_lt u hu
    rw [um_wr_nk (by omega), up_ne (by omega)]
    exact a2 u hu
  · rw [um_wr_nk (by omega), up_ne (by omega)]
    exact a3
  · intro u k hu hu1 hu7 hk
    rw [tl_up (by omega)] at hk
    have := tb_ge u hu hu7
    rw [um_wr_nk (by omega), up_ne (by omega)]
    exact a4 u k hu hu1 hu7 hk
  · intro m2 c2 hm2 hc2 hc8
    rw [nn_up (by omega)] at hm2
    rw [um_wr_nk (by omega), up_ne (by omega)]
    exact a5 m2 c2 hm2 hc2 hc8
  · intro q hq
    by_cases e : q = p
    · subst e
      rw [um_wr_at, up_eq, um_wr_an (by omega), up_ne (by omega)]
      exact ⟨rfl, (a6 q hq).2⟩
    · rw [um_wr_an (by omega), um_wr_an (by omega), up_ne (by omega), up_ne (by omega)]
      exact a6 q hq
  · intro k hk hk2
    rw [nn_up (by omega)] at hk
    rw [um_wr_nk (by omega)]
    exact a7 k hk hk2
  · intro k hk hk2
    rw [nn_up (by omega)] at hk
    rw [um_wr_nk (by omega)]
    exact a8 k hk hk2
  · rw [um_wr_nk (by omega), um_wr_nk (by omega), um_wr_nk (by omega), up_ne (by omega), up_ne (by omega), up_ne (by omega)]
    exact a1
  · intro u hu
    have := tk_lt u hu
    rw [um_wr_nk (by omega), up_ne (by omega)]
    exact a2 u hu
  · rw [um_wr_nk (by omega), up_ne (by omega)]
    exact a3
  · intro u k hu hu1 hu7 hk
    rw [tl_up (by omega)] at hk
    have := tb_ge u hu hu7
    rw [um_wr_nk (by omega), up_ne (by omega)]
    exact a4 u k hu hu1 hu7 hk
  · intro m2 c2 hm2 hc2 hc8
    rw [nn_up (by omega)] at hm2
    rw [um_wr_nk (by omega), up_ne (by omega)]
    exact a5 m2 c2 hm2 hc2 hc8
  · intro q hq
    by_cases e : q = p
    · subst e
      rw [um_wr_at, up_eq, um_wr_an (by omega), up_ne (by omega)]
      exact ⟨(a6 q hq).1, rfl⟩
    · rw [um_wr_an (by omega), um_wr_an (by omega), up_ne (by omega), up_ne (by omega)]
      exact a6 q hq
  · intro k hk hk2
    rw [nn_up (by omega)] at hk
    rw [um_wr_nk (by omega)]
    exact a7 k hk hk2
  · intro k hk hk2
    rw [nn_up (by omega)] at hk
    rw [um_wr_nk (by omega)]
    exact a8 k hk hk2
/-- the week, the seed, the chest -/
theorem sc_wh (hc : sr_c X h s) (hh : um_h h) {f g : Nat} (hf : (f = 12 ∧ g = 0) ∨ (f = 13 ∧ g = 9) ∨ (f = 14 ∧ g = 10)) : sr_c (um_wr X h f v) h (up s g v) := by
  obtain ⟨a1, a2, a3, a4, a5, a6, a7, a8⟩ := hc
  have hh2 : 1 ≤ h ∧ h ≤ 3 := by rcases hh with z | z | z <;> omega
  have hg : g = 0 ∨ g = 9 ∨ g = 10 := by omega
  refine ⟨?_, ?_, ?_, ?_, ?_, ?_, ?_, ?_⟩
  · rcases hf with ⟨rfl, rfl⟩ | ⟨rfl, rfl⟩ | ⟨rfl, rfl⟩
    · rw [um_wr_at, up_eq, um_wr_an (by omega), um_wr_an (by omega), up_ne (by omega), up_ne (by omega)]; exact ⟨rfl, a1.2⟩
    · rw [um_wr_at, up_eq, um_wr_an (by omega), um_wr_an (by omega), up_ne (by omega), up_ne (by omega)]; exact ⟨a1.1, rfl, a1.2.2⟩
    · rw [um_wr_at, up_eq, um_wr_an (by omega), um_wr_an (by omega), up_ne (by omega), up_ne (by omega)]; exact ⟨a1.1, a1.2.1, rfl⟩
  · intro u hu
    have := tk_lt u hu
    rw [um_wr_nk (by omega), up_ne (by omega)]
    exact a2 u hu
  · rw [um_wr_nk (by omega), up_ne (by omega)]
    exact a3
  · intro u k hu hu1 hu7 hk
    have e : tl (up s g v) u = tl s u := by
      unfold tl
      split
      · rename_i z
        have := tk_lt u z
        rw [nn_up (by omega)]
      · rfl
    rw [e] at hk
    have := tb_ge u hu hu7
    rw [um_wr_nk (by omega), up_ne (by omega)]
    exact a4 u k hu hu1 hu7 hk
  · intro m2 c2 hm2 hc2 hc8
    rw [nn_up (by omega)] at hm2
    rw [um_wr_nk (by omega), up_ne (by omega)]
    exact a5 m2 c2 hm2 hc2 hc8
  · intro q hq
    rw [um_wr_nk (by omega), um_wr_nk (by omega), up_ne (by omega), up_ne (by omega)]
    exact a6 q hq
  · intro k hk hk2
    rw [nn_up (by omega)] at hk
    rw [um_wr_nk (by omega)]
    exact a7 k hk hk2
  · intro k hk hk2
    rw [nn_up (by omega)] at hk
    rw [um_wr_nk (by omega)]
    exact a8 k hk hk2
end WRT
