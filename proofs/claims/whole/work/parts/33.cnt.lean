/-! LEVEL 2: counting, and the six places -/
def cnp (p : Nat → Bool) : Nat → Nat
  | 0 => 0
  | n + 1 => cnp p n + (if p n then 1 else 0)
theorem cnp_le (p : Nat → Bool) : ∀ n, cnp p n ≤ n
  | 0 => Nat.le_refl 0
  | n + 1 => by
    have := cnp_le p n
    unfold cnp
    split <;> omega
theorem cnp_mono {p q : Nat → Bool} : ∀ n, (∀ x, x < n → p x = true → q x = true) → cnp p n ≤ cnp q n
  | 0, _ => Nat.le_refl 0
  | n + 1, h => by
    have h1 := cnp_mono n (fun x hx => h x (by omega))
    have h2 := h n (by omega)
    unfold cnp
    split
    · rename_i z; rw [if_pos (h2 z)]; omega
    · omega
theorem cnp_congr {p q : Nat → Bool} (n : Nat) (h : ∀ x, x < n → p x = q x) : cnp p n = cnp q n :=
  Nat.le_antisymm (cnp_mono n (fun x hx z => by rw [← h x hx]; exact z)) (cnp_mono n (fun x hx z => by rw [h x hx]; exact z))
theorem cnp_strict {p q : Nat → Bool} {u : Nat} : ∀ n, (∀ x, x < n → p x = true → q x = true) → u < n → p u = false → q u = true → cnp p n + 1 ≤ cnp q n
  | 0, _, hu, _, _ => absurd hu (Nat.not_lt_zero u)
  | n + 1, h, hu, h1, h2 => by
    by_cases e : u = n
    · subst e
      have h3 := cnp_mono u (fun x hx => h x (by omega))
      unfold cnp
      rw [if_pos h2, if_neg (by rw [h1]; decide)]
      omega
    · have h3 := cnp_strict n (fun x hx => h x (by omega)) (by omega) h1 h2
      have h4 := h n (by omega)
      unfold cnp
      split
      · rename_i z; rw [if_pos (h4 z)]; omega
      · omega
theorem cnp_all : ∀ n, cnp (fun _ => true) n = n
  | 0 => rfl
  | n + 1 => by
    unfold cnp
    rw [cnp_all n]
    simp
theorem cnp_none {p : Nat → Bool} : ∀ n, (∀ x, x < n → p x = false) → cnp p n = 0
  | 0, _ => rfl
  | n + 1, h => by
    unfold cnp
    rw [cnp_none n (fun x hx => h x (by omega)), if_neg (by rw [h n (by omega)]; decide)]
theorem cnp_eqset {p q : Nat → Bool} {n : Nat} (h : ∀ x, x < n → p x = true → q x = true) (hc : cnp q n ≤ cnp p n) : ∀ x, x < n → q x = true → p x = true := by
  intro x hx hq
  cases hp : p x with
  | true => rfl
  | false =>
    have := cnp_strict n h hx hp hq
    omega
theorem cnp_split (p r : Nat → Bool) : ∀ n, cnp p n = cnp (fun x => p x && r x) n + cnp (fun x => p x && !r x) n
  | 0 => rfl
  | n + 1 => by
    have := cnp_split p r n
    unfold cnp
    cases p n <;> cases r n <;> simp <;> omega
/-- one more -/
theorem cnp_add {p q : Nat → Bool} {u : Nat} : ∀ n, (∀ x, x < n → x ≠ u → p x = q x) → u < n → p u = false → q u = true → cnp q n = cnp p n + 1
  | 0, _, hu, _, _ => absurd hu (Nat.not_lt_zero u)
  | n + 1, h, hu, h1, h2 => by
    by_cases e : u = n
    · subst e
      have h3 := cnp_congr u (fun x hx => h x (by omega) (by omega))
      unfold cnp
      rw [if_pos h2, if_neg (by rw [h1]; decide), h3]
    · have h3 := cnp_add n (fun x hx => h x (by omega)) (by omega) h1 h2
      have h4 := h n (by omega) (fun z => e z.symm)
      unfold cnp
      rw [h3, h4]
      omega
theorem cnp_two {p : Nat → Bool} {n u v : Nat} (hu : u < n) (hv : v < n) (huv : u ≠ v) (h1 : p u = false) (h2 : p v = false) : cnp p n + 2 ≤ n := by
  have a1 : cnp p n + 1 ≤ cnp (fun x => decide (x ≠ v)) n := cnp_strict n (fun x _ hp => decide_eq_true (fun z => by subst z; rw [h2] at hp; cases hp)) hu h1 (decide_eq_true huv)
  have a2 : cnp (fun x => decide (x ≠ v)) n + 1 ≤ cnp (fun _ => true) n := cnp_strict n (fun _ _ _ => rfl) hv (decide_eq_false (fun z => z rfl)) rfl
  rw [cnp_all] at a2
  omega
/-! the way from one place to all others -/
def bf_r (w : Nat → Nat → Nat) (a b : Nat) (d : Nat → Nat) : Nat → Nat := if 0 < w a b ∧ d a + w a b < d b then (fun x => if x = b then d a + w a b else d x) else d
def bf_x (w : Nat → Nat → Nat) (d : Nat → Nat) (u v : Nat) : Prop := 0 < w u v ∧ d u + w u v < d v
def bf_c (d : Nat → Nat) (c : Nat) : Nat := cnp (fun x => decide (d x < c)) 6
def bf_P (w : Nat → Nat → Nat) (k : Nat) (d : Nat → Nat) : Prop := ∀ u v, u < 6 → v < 6 → bf_x w d u v → k ≤ bf_c d (d u) + 1
/-- within a round that began with d0, the edges in E being gone over -/
def bf_I (w : Nat → Nat → Nat) (k : Nat) (d0 : Nat → Nat) (E : Nat → Nat → Prop) (d : Nat → Nat) : Prop :=
  (∀ x, x < 6 → d x ≤ d0 x) ∧ (∀ u, u < 6 → d u < d0 u → k ≤ bf_c d (d u)) ∧ ∀ u v, u < 6 → v < 6 → E u v → bf_x w d u v → d u < d0 u
theorem bf_c_mono {d d' : Nat → Nat} {c c' : Nat} (h : ∀ x, x < 6 → d x < c → d' x < c') : bf_c d c ≤ bf_c d' c' :=
  cnp_mono 6 (fun x hx z => decide_eq_true (h x hx (of_decide_eq_true z)))
theorem bf_c_strict {d d' : Nat → Nat} {c c' u : Nat} (h : ∀ x, x < 6 → d x < c → d' x < c') (hu : u < 6) (h1 : ¬ d u < c) (h2 : d' u < c') : bf_c d c + 1 ≤ bf_c d' c' :=
  cnp_strict 6 (fun x hx z => decide_eq_true (h x hx (of_decide_eq_true z))) hu (decide_eq_false h1) (decide_eq_true h2)
theorem bf_stepA {w : Nat → Nat → Nat} {k : Nat} {d0 d d' : Nat → Nat} {E : Nat → Nat → Prop} {a b : Nat} (hP : bf_P w k d0) (hI : bf_I w k d0 E d) (ha : a < 6) (hb : b < 6) (hx : bf_x w d a b) (hd1 : d' b = d a + w a b) (hd2 : ∀ x, x ≠ b → d' x = d x) : bf_I w k d0 (fun u v => E u v ∨ (u = a ∧ v = b)) d' := by
  obtain ⟨i1, i2, i3⟩ := hI
  obtain ⟨hx1, hx2⟩ := hx
  have hab : a ≠ b := fun z => by subst z; omega
  have hle : ∀ x, d' x ≤ d x := fun x => by
    by_cases e : x = b
    · subst e; omega
    · rw [hd2 x e]; omega
  refine ⟨fun x hx6 => Nat.le_trans (hle x) (i1 x hx6), fun u hu hlt => ?_, fun u v hu hv hE hux => ?_⟩
  · by_cases e : u = b
    · subst e
      by_cases hc : d a < d0 a
      · refine Nat.le_trans (i2 a ha hc) (bf_c_mono (fun x hx6 z => ?_))
        have := hle x
        omega
      · have e1 : d a = d0 a := Nat.le_antisymm (i1 a ha) (by omega)
        have h1 := hP a u ha hu ⟨hx1, by have := i1 u hu; omega⟩
        have h2 : bf_c d0 (d0 a) + 1 ≤ bf_c d' (d' u) := bf_c_strict (u := a) (fun x hx6 z => by
          have := hle x
          have := i1 x hx6
          omega) ha (by omega) (by rw [hd2 a hab]; omega)
        omega
    · rw [hd2 u e] at hlt ⊢
      refine Nat.le_trans (i2 u hu hlt) (bf_c_mono (fun x hx6 z => ?_))
      have := hle x
      omega
  · by_cases e : u = b
    · subst e
      have := i1 u hu
      omega
    · obtain ⟨x1, x2⟩ := hux
      rw [hd2 u e] at x2 ⊢
      rcases hE with hE | ⟨rfl, rfl⟩
      · have := hle v
        exact i3 u v hu hv hE ⟨x1, by omega⟩
      · omega
theorem bf_step {w : Nat → Nat → Nat} {k : Nat} {d0 d : Nat → Nat} {E : Nat → Nat → Prop} {a b : Nat} (hP : bf_P w k d0) (hI : bf_I w k d0 E d) (ha : a < 6) (hb : b < 6) : bf_I w k d0 (fun u v => E u v ∨ (u = a ∧ v = b)) (bf_r w a b d) := by
  by_cases hx : 0 < w a b ∧ d a + w a b < d b
  · refine bf_stepA hP hI ha hb hx ?_ ?_
    · unfold bf_r
      rw [if_pos hx]
      exact if_pos rfl
    · intro x hxb
      unfold bf_r
      rw [if_pos hx]
      exact if_neg hxb
  · obtain ⟨i1, i2, i3⟩ := hI
    have e : bf_r w a b d = d := if_neg hx
    rw [e]
    refine ⟨i1, i2, fun u v hu hv hE hux => ?_⟩
    rcases hE with hE | ⟨rfl, rfl⟩
    · exact i3 u v hu hv hE hux
    · exact absurd hux hx
/-- a row of a round, from b on; a round, from a on -/
def bf_row (w : Nat → Nat → Nat) (a : Nat) : Nat → Nat → (Nat → Nat) → (Nat → Nat)
  | 0, _, d => d
  | n + 1, b, d => bf_row w a n (b + 1) (bf_r w a b d)
def bf_rnd (w : Nat → Nat → Nat) : Nat → Nat → (Nat → Nat) → (Nat → Nat)
  | 0, _, d => d
  | n + 1, a, d => bf_rnd w n (a + 1) (bf_row w a 6 0 d)
def bf_go (w : Nat → Nat → Nat) : Nat → (Nat → Nat) → (Nat → Nat)
  | 0, d => d
  | n + 1, d => bf_go w n (bf_rnd w 6 0 d)
theorem bf_I_wk {w : Nat → Nat → Nat} {k : Nat} {d0 d : Nat → Nat} {E E' : Nat → Nat → Prop} (h : ∀ u v, u < 6 → v < 6 → E' u v → E u v) (hI : bf_I w k d0 E d) : bf_I w k d0 E' d := ⟨hI.1, hI.2.1, fun u v hu hv hE => hI.2.2 u v hu hv (h u v hu hv hE)⟩
theorem bf_rowI {w : Nat → Nat → Nat} {k a : Nat} {d0 : Nat → Nat} {E : Nat → Nat → Prop} (hP : bf_P w k d0) (ha : a < 6) : ∀ (n b : Nat) (d : Nat → Nat), b + n = 6 → bf_I w k d0 (fun u v => E u v ∨ (u = a ∧ v < b)) d → bf_I w k d0 (fun u v => E u v ∨ u = a) (bf_row w a n b d)
  | 0, b, d, hb, hI => bf_I_wk (fun u v hu hv z => by rcases z with z | z; exact Or.inl z; exact Or.inr ⟨z, by omega⟩) hI
  | n + 1, b, d, hb, hI => bf_rowI hP ha n (b + 1) _ (by omega) (bf_I_wk (fun u v hu hv z => by
      rcases z with z | ⟨z1, z2⟩
      · exact Or.inl (Or.inl z)
      · by_cases e : v = b
        · exact Or.inr ⟨z1, e⟩
        · exact Or.inl (Or.inr ⟨z1, by omega⟩)) (bf_step hP hI ha (by omega)))
theorem bf_rndI {w : Nat → Nat → Nat} {k : Nat} {d0 : Nat → Nat} (hP : bf_P w k d0) : ∀ (n a : Nat) (d : Nat → Nat), a + n = 6 → bf_I w k d0 (fun u _ => u < a) d → bf_I w k d0 (fun _ _ => True) (bf_rnd w n a d)
  | 0, a, d, ha, hI => bf_I_wk (fun u v hu hv z => by omega) hI
  | n + 1, a, d, ha, hI => bf_rndI hP n (a + 1) _ (by omega) (bf_I_wk (fun u v hu hv z => by
      by_cases e : u = a
      · exact Or.inr e
      · exact Or.inl (by omega)) (bf_rowI (E := fun u _ => u < a) hP (by omega) 6 0 d rfl (bf_I_wk (fun u v hu hv z => by
        rcases z with z | z
        · exact z
        · exact absurd z.2 (Nat.not_lt_zero v)) hI)))
theorem bf_round {w : Nat → Nat → Nat} {k : Nat} {d : Nat → Nat} (hP : bf_P w k d) : bf_P w (k + 1) (bf_rnd w 6 0 d) := by
  have hI := bf_rndI hP 6 0 d rfl ⟨fun _ _ => Nat.le_refl _, fun u _ z => absurd z (Nat.lt_irrefl _), fun u v _ _ z => absurd z (Nat.not_lt_zero u)⟩
  intro u v hu hv hx
  have := hI.2.1 u hu (hI.2.2 u v hu hv trivial hx)
  omega
theorem bf_five {w : Nat → Nat → Nat} {d : Nat → Nat} : ∀ u v, u < 6 → v < 6 → ¬ bf_x w (bf_go w 5 d) u v := by
  intro u v hu hv hx
  have h0 : bf_P w 1 d := fun u v _ _ _ => by omega
  have h5 : bf_P w 6 (bf_go w 5 d) := bf_round (bf_round (bf_round (bf_round (bf_round h0))))
  have h6 := h5 u v hu hv hx
  have huv : u ≠ v := fun z => by subst z; exact absurd hx.2 (by omega)
  have h7 : bf_c (bf_go w 5 d) (bf_go w 5 d u) + 2 ≤ 6 := cnp_two hu hv huv (decide_eq_false (Nat.lt_irrefl _)) (decide_eq_false (by have := hx.2; omega))
  omega
/-- where nothing can be shortened a round changes nothing -/
theorem bf_rowS {w : Nat → Nat → Nat} {a : Nat} {d : Nat → Nat} (h : ∀ u v, u < 6 → v < 6 → ¬ bf_x w d u v) (ha : a < 6) : ∀ n b, b + n = 6 → bf_row w a n b d = d
  | 0, _, _ => rfl
  | n + 1, b, hb => by
    unfold bf_row
    have e : bf_r w a b d = d := if_neg (h a b ha (by omega))
    rw [e]
    exact bf_rowS h ha n (b + 1) (by omega)
theorem bf_rndS {w : Nat → Nat → Nat} {d : Nat → Nat} (h : ∀ u v, u < 6 → v < 6 → ¬ bf_x w d u v) : ∀ n a, a + n = 6 → bf_rnd w n a d = d
  | 0, _, _ => rfl
  | n + 1, a, ha => by
    unfold bf_rnd
    rw [bf_rowS h (by omega) 6 0 rfl]
    exact bf_rndS h n (a + 1) (by omega)
theorem bf_go_s (w : Nat → Nat → Nat) : ∀ (n : Nat) (d : Nat → Nat), bf_go w (n + 1) d = bf_rnd w 6 0 (bf_go w n d)
  | 0, d => rfl
  | n + 1, d => bf_go_s w n (bf_rnd w 6 0 d)
theorem bf_six (w : Nat → Nat → Nat) (d : Nat → Nat) : bf_go w 6 d = bf_go w 5 d := by
  rw [bf_go_s w 5 d]
  exact bf_rndS bf_five 6 0 rfl
