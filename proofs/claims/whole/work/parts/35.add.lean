/-! LEVEL 2: a row more -/
theorem x_sett {T r c w L : Nat} {v : Int32} {X : um_S} (hw : xw T = nI w) (hl : xl T = L) (hc : c < 4) (hr : r * w + w ≤ L) (hL : L < 2 ^ 31) (hw2 : w < 2 ^ 31) (hr2 : r < 2 ^ 31) : f_X5_set T (nI r) (nI c) v X = some (if c < w then um_wr X (T + 100) (r * w + c) v else X) := by
  by_cases h : c < w
  · rw [if_pos h]
    exact x_set hw hl h (by omega) hL hw2 hr2
  · rw [if_neg h]
    exact x_set0 (L := L) hw (by omega) (by omega) hr2
theorem x_add {T n w L : Nat} {a b c d : Int32} {X : um_S} (hw : xw T = nI w) (hl : xl T = L) (hn : X.1 T 2 = nI n) (hr : n * w + w ≤ L) (hL : L < 2 ^ 31) (hw1 : 2 ≤ w) (hn2 : n < 2 ^ 30) : ∃ X' : um_S, f_X5_add T a b c d X = some (nI n, X') ∧ X'.2 = X.2 ∧ (∀ k j, k ≠ T → k ≠ T + 100 → X'.1 k j = X.1 k j) ∧ X'.1 T 2 = nI (n + 1) ∧ (∀ j, j < n * w ∨ n * w + w ≤ j ∨ n * w + 4 ≤ j → X'.1 (T + 100) j = X.1 (T + 100) j) ∧ X'.1 (T + 100) (n * w) = a ∧ X'.1 (T + 100) (n * w + 1) = b ∧ (2 < w → X'.1 (T + 100) (n * w + 2) = c) ∧ (3 < w → X'.1 (T + 100) (n * w + 3) = d) := by
  have hsm : (n + 1) * w = n * w + w := Nat.succ_mul n w
  have h1 : ((nI n + (1 : Int32)) * (xw T)) ≤ (nI (xl T)) := by
    rw [hw, hl, nI_1, nI_mul, hsm]
    exact nI_le hr hL
  have hw2 : w < 2 ^ 31 := by omega
  have e0 : ∀ (X : um_S) (v : Int32), f_X5_set T (nI n) (0 : Int32) v X = some (um_wr X (T + 100) (n * w) v) := fun X v => by
    have := x_sett (c := 0) (v := v) (X := X) hw hl (by omega) hr hL hw2 (by omega)
    rw [if_pos (by omega)] at this
    exact this
  have e1 : ∀ (X : um_S) (v : Int32), f_X5_set T (nI n) (1 : Int32) v X = some (um_wr X (T + 100) (n * w + 1) v) := fun X v => by
    have := x_sett (c := 1) (v := v) (X := X) hw hl (by omega) hr hL hw2 (by omega)
    rw [if_pos (by omega)] at this
    exact this
  have e2 : ∀ (X : um_S) (v : Int32), f_X5_set T (nI n) (2 : Int32) v X = some (if 2 < w then um_wr X (T + 100) (n * w + 2) v else X) := fun X v => x_sett (c := 2) (v := v) (X := X) hw hl (by omega) hr hL hw2 (by omega)
  have e3 : ∀ (X : um_S) (v : Int32), f_X5_set T (nI n) (3 : Int32) v X = some (if 3 < w then um_wr X (T + 100) (n * w + 3) v else X) := fun X v => x_sett (c := 3) (v := v) (X := X) hw hl (by omega) hr hL hw2 (by omega)
  have hadd : f_X5_add T a b c d X = some (nI n, (if 3 < w then um_wr (if 2 < w then um_wr (um_wr (um_wr (um_wr X T 2 (nI n + 1)) (T + 100) (n * w) a) (T + 100) (n * w + 1) b) (T + 100) (n * w + 2) c else (um_wr (um_wr (um_wr X T 2 (nI n + 1)) (T + 100) (n * w) a) (T + 100) (n * w + 1) b)) (T + 100) (n * w + 3) d else (if 2 < w then um_wr (um_wr (um_wr (um_wr X T 2 (nI n + 1)) (T + 100) (n * w) a) (T + 100) (n * w + 1) b) (T + 100) (n * w + 2) c else (um_wr (um_wr (um_wr X T 2 (nI n + 1)) (T + 100) (n * w) a) (T + 100) (n * w + 1) b)))) := by
    dsimp only [f_X5_add, um_let]
    rw [hn, if_pos h1, e0, Option.bind_some, e1, Option.bind_some, e2, Option.bind_some, e3, Option.bind_some]
  refine ⟨_, hadd, ?_, ?_, ?_, ?_, ?_, ?_, ?_, ?_⟩
  · split <;> split <;> rfl
  · intro k j hk hk2
    split <;> split <;> simp only [um_wr_nk hk, um_wr_nk hk2]
  · rw [nI_1]
    split <;> split <;> simp only [um_wr_nk (show T ≠ T + 100 by omega), um_wr_at]
  · intro j hj
    have q0 : j ≠ n * w := by omega
    have q1 : j ≠ n * w + 1 := by omega
    have hT : T + 100 ≠ T := by omega
    split
    · rename_i z3
      have q3 : j ≠ n * w + 3 := by omega
      have q2 : j ≠ n * w + 2 := by omega
      rw [if_pos (by omega)]
      simp only [um_wr_an q3, um_wr_an q2, um_wr_an q1, um_wr_an q0, um_wr_nk hT]
    · split
      · have q2 : j ≠ n * w + 2 := by omega
        simp only [um_wr_an q2, um_wr_an q1, um_wr_an q0, um_wr_nk hT]
      · simp only [um_wr_an q1, um_wr_an q0, um_wr_nk hT]
  · split <;> split <;> simp only [um_wr_an (show n * w ≠ n * w + 3 by omega), um_wr_an (show n * w ≠ n * w + 2 by omega), um_wr_an (show n * w ≠ n * w + 1 by omega), um_wr_at]
  · split <;> split <;> simp only [um_wr_an (show n * w + 1 ≠ n * w + 3 by omega), um_wr_an (show n * w + 1 ≠ n * w + 2 by omega), um_wr_at]
  · intro z
    rw [if_pos z]
    split <;> simp only [um_wr_an (show n * w + 2 ≠ n * w + 3 by omega), um_wr_at]
  · intro z
    rw [if_pos z, um_wr_at]
theorem x_addF {T n w L : Nat} {a b c d : Int32} {X : um_S} (hw : xw T = nI w) (hl : xl T = L) (hn : X.1 T 2 = nI n) (hr : L < n * w + w) (hL : n * w + w < 2 ^ 31) : f_X5_add T a b c d X = some (-1000000003, X) := by
  have hsm : (n + 1) * w = n * w + w := Nat.succ_mul n w
  dsimp only [f_X5_add, um_let]
  rw [hn, hw, hl, nI_1, nI_mul, hsm, if_neg (nI_ge hr hL)]
section ADDS
variable {X X' : um_S} {h : Nat} {s s' : Nat → Int32} {W t n : Nat}
theorem sc_add (hc : sr_c X h s) (hi : sr_i s W) (hh : um_h h) (ht : t < 7) (h1 : t ≠ 1) (hn : n = nn s (tk t)) (hroom : tw t * (n + 1) ≤ tc t)
    (hagX : ∀ k j, k ≠ 20 * h + t → k ≠ 20 * h + t + 100 → X'.1 k j = X.1 k j) (hcx : X'.1 (20 * h + t) 2 = nI (n + 1)) (hold : ∀ j, j < tw t * n → X'.1 (20 * h + t + 100) j = X.1 (20 * h + t + 100) j)
    (hnew : ∀ c, c < tw t → X'.1 (20 * h + t + 100) (tw t * n + c) = s' (tb t + (tw t * n + c))) (hz : t = 4 → ∀ j, 5 * (n + 1) ≤ j → j < 100 → X'.1 (20 * h + 4 + 100) j = X.1 (20 * h + 4 + 100) j)
    (hag : ∀ b, b ≠ tk t → ¬ (tb t + tw t * n ≤ b ∧ b < tb t + tw t * n + tw t) → s' b = s b) (hk1 : s' (tk t) = nI (n + 1)) : sr_c X' h s' := by
  obtain ⟨a1, a2, a3, a4, a5, a6, a7, a8⟩ := hc
  have hh2 : 1 ≤ h ∧ h ≤ 3 := by rcases hh with z | z | z <;> omega
  have hkt := tk_lt t ht
  have hbt := tb_ge t (by omega) (by omega)
  have hwt := tw_tc t ht
  have hms : tw t * (n + 1) = tw t * n + tw t := Nat.mul_succ _ _
  have hnb : n + 1 ≤ tw t * (n + 1) := Nat.le_mul_of_pos_left _ (by omega)
  have hnt : nn s' (tk t) = n + 1 := by unfold nn; rw [hk1, nI_clamp (by omega)]
  have hn1 : ∀ b, b ≤ 9 → b ≠ tk t → nn s' b = nn s b := fun b hb hb2 => nn_congr (hag b hb2 (by omega))
  have hd1 := tb_dis t (by omega) 1 (by omega) h1 (by omega) (by omega)
  have e1 : tb 1 = 50 := rfl
  have e2 : tc 1 = 196 := rfl
  have hm14 := (si_men hi).2
  have htk2 : tk t ≠ 2 := fun z => (tk_inj t ht 1 (by omega) h1) z
  refine ⟨?_, ?_, ?_, ?_, ?_, ?_, ?_, ?_⟩
  · rw [hagX _ _ (by omega) (by omega), hagX _ _ (by omega) (by omega), hagX _ _ (by omega) (by omega), hag 0 (by omega) (by omega), hag 9 (by omega) (by omega), hag 10 (by omega) (by omega)]
    exact a1
  · intro u hu
    by_cases e : u = t
    · subst e
      rw [hcx, hk1]
    · have h3 := tk_inj u hu t ht e
      have h2 := tk_lt u hu
      rw [hagX _ _ (by omega) (by omega), hag _ h3 (by omega)]
      exact a2 u hu
  · rw [hagX _ _ (by omega) (by omega), hag 5 (by omega) (by omega)]
    exact a3
  · intro u k hu hu1 hu7 hk
    by_cases e : u = t
    · subst e
      unfold tl at hk
      rw [if_pos ht, hnt] at hk
      by_cases e3 : k < tw u * n
      · rw [hold k e3, hag _ (by omega) (by omega)]
        refine a4 u k hu hu1 hu7 ?_
        unfold tl
        rw [if_pos ht, ← hn]
        exact e3
      · obtain ⟨c, rfl⟩ : ∃ c, k = tw u * n + c := ⟨k - tw u * n, by omega⟩
        exact hnew c (by omega)
    · have hbu := tb_ge u hu hu7
      have hd := tb_dis u hu t (by omega) e hu7 (by omega)
      have hk2 : k < tl s u := by
        unfold tl at hk ⊢
        split at hk
        · rename_i z
          rw [if_pos z]
          have h2 := tk_lt u z
          rw [hn1 _ (by omega) (tk_inj u z t ht e)] at hk
          exact hk
        · rename_i z
          rw [if_neg z]
          exact hk
      have hlu := tl_le hi hu
      rw [hagX _ _ (by omega) (by omega), hag _ (by omega) (by omega)]
      exact a4 u k hu hu1 hu7 hk2
  · intro m c hm hc hc8
    rw [hn1 2 (by omega) (by omega)] at hm
    have hp := pc_lt hc
    rw [hagX _ _ (by omega) (by omega), hag _ (by omega) (by omega)]
    exact a5 m c hm hc hc8
  · intro p hp
    rw [hagX _ _ (by omega) (by omega), hagX _ _ (by omega) (by omega), hag _ (by omega) (by omega), hag _ (by omega) (by omega)]
    exact a6 p hp
  · intro j hj hj2
    rw [hn1 2 (by omega) (by omega)] at hj
    rw [hagX _ _ (by omega) (by omega)]
    exact a7 j hj hj2
  · intro j hj hj2
    by_cases e : t = 4
    · subst e
      change nn s' 8 = n + 1 at hnt
      change n = nn s 8 at hn
      rw [hnt] at hj
      rw [hz rfl j hj hj2]
      exact a8 j (by omega) hj2
    · have : tk t ≠ 8 := fun z => (tk_inj t ht 4 (by omega) e) z
      rw [hn1 8 (by omega) (by omega)] at hj
      rw [hagX _ _ (by omega) (by omega)]
      exact a8 j hj hj2
theorem sc_addm (hc : sr_c X h s) (hi : sr_i s W) (hh : um_h h) (hn : n = nn s 2) (hroom : n < 14)
    (hagX : ∀ k j, k ≠ 20 * h + 1 → k ≠ 20 * h + 1 + 100 → X'.1 k j = X.1 k j) (hcx : X'.1 (20 * h + 1) 2 = nI (n + 1)) (hold : ∀ j, j < 14 * n ∨ 14 * n + 14 ≤ j → X'.1 (20 * h + 1 + 100) j = X.1 (20 * h + 1 + 100) j)
    (hnew : ∀ c, c < 14 → c ≠ 8 → X'.1 (20 * h + 1 + 100) (14 * n + c) = ec c (s' (50 + 14 * n + pc c)))
    (hag : ∀ b, b ≠ 2 → ¬ (50 + 14 * n ≤ b ∧ b < 50 + 14 * n + 14) → s' b = s b) (hk1 : s' 2 = nI (n + 1)) : sr_c X' h s' := by
  obtain ⟨a1, a2, a3, a4, a5, a6, a7, a8⟩ := hc
  have hh2 : 1 ≤ h ∧ h ≤ 3 := by rcases hh with z | z | z <;> omega
  have hnt : nn s' 2 = n + 1 := by unfold nn; rw [hk1, nI_clamp (by omega)]
  have hn1 : ∀ b, b ≤ 9 → b ≠ 2 → nn s' b = nn s b := fun b hb hb2 => nn_congr (hag b hb2 (by omega))
  refine ⟨?_, ?_, ?_, ?_, ?_, ?_, ?_, ?_⟩
  · rw [hagX _ _ (by omega) (by omega), hagX _ _ (by omega) (by omega), hagX _ _ (by omega) (by omega), hag 0 (by omega) (by omega), hag 9 (by omega) (by omega), hag 10 (by omega) (by omega)]
    exact a1
  · intro u hu
    by_cases e : u = 1
    · subst e
      change X'.1 (20 * h + 1) 2 = s' 2
      rw [hcx, hk1]
    · have h3 := tk_inj u hu 1 (by omega) e
      change tk u ≠ 2 at h3
      have h2 := tk_lt u hu
      rw [hagX _ _ (by omega) (by omega), hag _ h3 (by omega)]
      exact a2 u hu
  · rw [hagX _ _ (by omega) (by omega), hag 5 (by omega) (by omega)]
    exact a3
  · intro u k hu hu1 hu7 hk
    have hd := tb_dis u hu 1 (by omega) hu1 hu7 (by omega)
    have hbu := tb_ge u hu hu7
    have e1 : tb 1 = 50 := rfl
    have e2 : tc 1 = 196 := rfl
    have hk2 : k < tl s u := by
      unfold tl at hk ⊢
      split at hk
      · rename_i z
        rw [if_pos z]
        have h2 := tk_lt u z
        rw [hn1 _ (by omega) (tk_inj u z 1 (by omega) hu1)] at hk
        exact hk
      · rename_i z
        rw [if_neg z]
        exact hk
    have hlu := tl_le hi hu
    rw [hagX _ _ (by omega) (by omega), hag _ (by omega) (by omega)]
    exact a4 u k hu hu1 hu7 hk2
  · intro m c hm hc hc8
    rw [hnt] at hm
    have hp := pc_lt hc
    by_cases e : m = n
    · subst e
      exact hnew c hc hc8
    · rw [hold _ (by omega), hag _ (by omega) (by omega)]
      exact a5 m c (by omega) hc hc8
  · intro p hp
    rw [hagX _ _ (by omega) (by omega), hagX _ _ (by omega) (by omega), hag _ (by omega) (by omega), hag _ (by omega) (by omega)]
    exact a6 p hp
  · intro j hj hj2
    rw [hnt] at hj
    rw [hold j (by omega)]
    exact a7 j (by omega) hj2
  · intro j hj hj2
    rw [hn1 8 (by omega) (by omega)] at hj
    rw [hagX _ _ (by omega) (by omega)]
    exact a8 j hj hj2
end ADDS
