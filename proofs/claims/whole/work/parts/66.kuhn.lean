/-! LEVEL 2: who goes to whom: numbers -/
def sq (F : Nat → Nat) : Nat → Nat
  | 0 => 0
  | n + 1 => sq F n + F n
theorem sq_mono {F H : Nat → Nat} : ∀ n, (∀ q, q < n → F q ≤ H q) → sq F n ≤ sq H n
  | 0, _ => Nat.le_refl 0
  | n + 1, h => by
    have h1 := sq_mono n (fun q hq => h q (by omega))
    have h2 := h n (by omega)
    unfold sq
    omega
theorem sq_eq {F H : Nat → Nat} : ∀ n, (∀ q, q < n → F q ≤ H q) → sq H n ≤ sq F n → ∀ q, q < n → F q = H q
  | 0, _, _, q, hq => absurd hq (Nat.not_lt_zero q)
  | n + 1, h, hs, q, hq => by
    have h1 := sq_mono n (fun q hq => h q (by omega))
    have h2 := h n (by omega)
    unfold sq at hs
    by_cases e : q = n
    · subst e
      omega
    · exact sq_eq n (fun q hq => h q (by omega)) (by omega) q (by omega)
theorem sq_congr {F H : Nat → Nat} (n : Nat) (h : ∀ q, q < n → F q = H q) : sq F n = sq H n :=
  Nat.le_antisymm (sq_mono n (fun q hq => Nat.le_of_eq (h q hq))) (sq_mono n (fun q hq => Nat.le_of_eq (h q hq).symm))
/-- some of these is not in that -/
def nb (a S : Nat → Bool) : Nat → Bool
  | 0 => false
  | n + 1 => nb a S n || (a n && !S n)
theorem nb_iff {a S : Nat → Bool} : ∀ n, nb a S n = true ↔ ∃ q, q < n ∧ a q = true ∧ S q = false
  | 0 => ⟨fun h => (by cases h), fun ⟨q, hq, _⟩ => absurd hq (Nat.not_lt_zero q)⟩
  | n + 1 => by
    unfold nb
    rw [Bool.or_eq_true, nb_iff n, Bool.and_eq_true, Bool.not_eq_true']
    constructor
    · rintro (⟨q, h1, h2⟩ | h)
      · exact ⟨q, by omega, h2⟩
      · exact ⟨n, by omega, h⟩
    · rintro ⟨q, h1, h2⟩
      by_cases e : q = n
      · subst e
        exact Or.inr h2
      · exact Or.inl ⟨q, by omega, h2⟩
/-- how many go there -/
def cg (G : Nat → Nat) (N q : Nat) : Nat := cnp (fun u => decide (G u = q + 1)) N
/-- who goes into that -/
def gi (G : Nat → Nat) (T : Nat → Bool) (u : Nat) : Bool := decide (G u ≠ 0) && T (G u - 1)
theorem gi_iff {G : Nat → Nat} {T : Nat → Bool} {u : Nat} : gi G T u = true ↔ ∃ q, G u = q + 1 ∧ T q = true := by
  unfold gi
  rw [Bool.and_eq_true, decide_eq_true_iff]
  constructor
  · rintro ⟨h1, h2⟩
    exact ⟨G u - 1, by omega, h2⟩
  · rintro ⟨q, h1, h2⟩
    rw [h1]
    exact ⟨by omega, h2⟩
theorem cnp_sum {G : Nat → Nat} {T r : Nat → Bool} (N : Nat) : ∀ Q, cnp (fun u => r u && (gi G T u && decide (G u ≤ Q))) N = sq (fun q => if T q = true then cnp (fun u => r u && decide (G u = q + 1)) N else 0) Q
  | 0 => cnp_none N (fun u _ => by
      unfold gi
      by_cases h : G u ≠ 0
      · rw [decide_eq_false (p := G u ≤ 0) (by omega), Bool.and_false, Bool.and_false]
      · rw [decide_eq_false (p := G u ≠ 0) h, Bool.false_and, Bool.false_and, Bool.and_false])
  | Q + 1 => by
    unfold sq
    rw [← cnp_sum N Q, cnp_split _ (fun u => decide (G u = Q + 1)) N, Nat.add_comm]
    congr 1
    · refine cnp_congr N (fun u _ => ?_)
      have hb : (decide (G u ≤ Q + 1) && !decide (G u = Q + 1)) = decide (G u ≤ Q) := by
        by_cases h1 : G u = Q + 1
        · rw [decide_eq_true h1, decide_eq_false (p := G u ≤ Q) (by omega), Bool.not_true, Bool.and_false]
        · rw [decide_eq_false h1, Bool.not_false, Bool.and_true]
          by_cases h2 : G u ≤ Q
          · rw [decide_eq_true h2, decide_eq_true (p := G u ≤ Q + 1) (by omega)]
          · rw [decide_eq_false h2, decide_eq_false (p := G u ≤ Q + 1) (by omega)]
      rw [← hb]
      cases r u <;> cases gi G T u <;> rfl
    · by_cases hT : T Q = true
      · rw [if_pos hT]
        refine cnp_congr N (fun u _ => ?_)
        by_cases e : G u = Q + 1
        · have hg : gi G T u = true := gi_iff.mpr ⟨Q, e, hT⟩
          rw [hg, decide_eq_true e, decide_eq_true (p := G u ≤ Q + 1) (by omega)]
          cases r u <;> rfl
        · rw [decide_eq_false e, Bool.and_false, Bool.and_false]
      · rw [if_neg hT]
        refine cnp_none N (fun u _ => ?_)
        by_cases e : G u = Q + 1
        · have hg : gi G T u = false := by
            cases h : gi G T u with
            | false => rfl
            | true =>
              obtain ⟨q, h1, h2⟩ := gi_iff.mp h
              rw [show q = Q by omega] at h2
              exact absurd h2 hT
          rw [hg, Bool.false_and, Bool.and_false, Bool.false_and]
        · rw [decide_eq_false e, Bool.and_false]
section KUH
variable {N Q f v : Nat} {op : Nat → Nat → Bool} {C h : Nat → Nat} {G G' : Nat → Nat} {T S met met' : Nat → Bool}
/-- each goes where he may, and no more than there is room for -/
def va (N Q f : Nat) (op : Nat → Nat → Bool) (C G : Nat → Nat) : Prop := (∀ u, u < N → G u ≤ Q) ∧ (∀ u q, f ≤ u → u < N → G u = q + 1 → op u q = true) ∧ ∀ q, q < Q → cg G N q ≤ C q
/-- full, and none beyond it is without -/
def ti (N Q f v : Nat) (op : Nat → Nat → Bool) (C G : Nat → Nat) (T : Nat → Bool) : Prop := (∀ q, q < Q → T q = true → C q ≤ cg G N q) ∧ ∀ u, f ≤ u → u < v → u < N → nb (op u) T Q = true → ∃ q, G u = q + 1 ∧ T q = false
/-- he does not come -/
def fa (N Q f v : Nat) (op : Nat → Nat → Bool) (C G : Nat → Nat) (met met' : Nat → Bool) : Prop := (∀ q, met q = true → met' q = true) ∧ (∀ q, q < Q → op v q = true → met' q = true) ∧ ∀ q, q < Q → met' q = true → met q = false → C q ≤ cg G N q ∧ ∀ u, f ≤ u → u < N → G u = q + 1 → ∀ q2, q2 < Q → op u q2 = true → met' q2 = true
/-- he comes -/
def su (N Q f v : Nat) (op : Nat → Nat → Bool) (C G G' : Nat → Nat) (met : Nat → Bool) : Prop := (∀ u, u < f → G' u = G u) ∧ (∀ u, u < N → (G' u ≠ 0 ↔ (G u ≠ 0 ∨ u = v))) ∧ (∀ q u, met q = true → (G' u = q + 1 ↔ G u = q + 1)) ∧ va N Q f op C G'
theorem ti_fail (hv : va N Q f op C G) (ht : ti N Q f v op C G T) (hf : fa N Q f v op C G (fun _ => false) met') : ti N Q f (v + 1) op C G (fun q => T q || met' q) := by
  obtain ⟨f1, f2, f3⟩ := hf
  refine ⟨fun q hq hT => ?_, fun u hu huv huN hn => ?_⟩
  · rcases Bool.or_eq_true _ _ ▸ hT with h | h
    · exact ht.1 q hq h
    · exact (f3 q hq h rfl).1
  · obtain ⟨q, hq, h1, h2⟩ := (nb_iff Q).mp hn
    rw [Bool.or_eq_false_iff] at h2
    by_cases e : u = v
    · subst e
      rw [f2 q hq h1] at h2
      cases h2.2
    · obtain ⟨p, hp, hTp⟩ := ht.2 u hu (by omega) huN ((nb_iff Q).mpr ⟨q, hq, h1, h2.1⟩)
      refine ⟨p, hp, ?_⟩
      dsimp only
      rw [hTp, Bool.false_or]
      cases hm : met' p with
      | false => rfl
      | true =>
        have hpQ : p < Q := by have := hv.1 u huN; omega
        have := (f3 p hpQ hm rfl).2 u hu huN hp q hq h1
        rw [this] at h2
        cases h2.2
theorem ti_come (hfv : f ≤ v) (hvN : v < N) (hv : va N Q f op C G) (h0 : ∀ u, v ≤ u → u < N → G u = 0) (ht : ti N Q f v op C G T) (hs : su N Q f v op C G G' met) : ti N Q f (v + 1) op C G' T := by
  obtain ⟨s1, s2, s3, s4⟩ := hs
  have inT : ∀ u, f ≤ u → u < N → ∀ q, G u = q + 1 → T q = true → ∀ q2, q2 < Q → op u q2 = true → T q2 = true := by
    intro u hu huN q hq hT q2 hq2 ho
    cases hT2 : T q2 with
    | true => rfl
    | false =>
      have huv : u < v := by
        refine Nat.lt_of_not_le (fun z => ?_)
        rw [h0 u z huN] at hq
        omega
      obtain ⟨p, hp, hTp⟩ := ht.2 u hu huv huN ((nb_iff Q).mpr ⟨q2, hq2, ho, hT2⟩)
      rw [show q = p by omega, hTp] at hT
      cases hT
  have hsub : ∀ u, u < N → gi G T u = true → gi G' T u = true := by
    intro u huN hg
    obtain ⟨q, hq, hT⟩ := gi_iff.mp hg
    by_cases hu : u < f
    · exact gi_iff.mpr ⟨q, by rw [s1 u hu]; exact hq, hT⟩
    · have hn : G' u ≠ 0 := (s2 u huN).mpr (Or.inl (by omega))
      have hle := s4.1 u huN
      have ho := s4.2.1 u (G' u - 1) (by omega) huN (by omega)
      exact gi_iff.mpr ⟨G' u - 1, by omega, inT u (by omega) huN q hq hT _ (by omega) ho⟩
  have eG : cnp (gi G T) N = sq (fun q => if T q = true then cg G N q else 0) Q := by
    have e := cnp_sum (G := G) (T := T) (r := fun _ => true) N Q
    refine Eq.trans (cnp_congr N (fun u hu => ?_)) (e.trans (sq_congr Q (fun q _ => ?_)))
    · rw [decide_eq_true (hv.1 u hu), Bool.and_true, Bool.true_and]
    · unfold cg
      split
      · exact cnp_congr N (fun u _ => by rw [Bool.true_and])
      · rfl
  have eG' : cnp (gi G' T) N = sq (fun q => if T q = true then cg G' N q else 0) Q := by
    have e := cnp_sum (G := G') (T := T) (r := fun _ => true) N Q
    refine Eq.trans (cnp_congr N (fun u hu => ?_)) (e.trans (sq_congr Q (fun q _ => ?_)))
    · rw [decide_eq_true (s4.1 u hu), Bool.and_true, Bool.true_and]
    · unfold cg
      split
      · exact cnp_congr N (fun u _ => by rw [Bool.true_and])
      · rfl
  have hle : ∀ q, q < Q → (if T q = true then cg G' N q else 0) ≤ (if T q = true then cg G N q else 0) := by
    intro q hq
    split
    · rename_i hT
      exact Nat.le_trans (s4.2.2 q hq) (ht.1 q hq hT)
    · exact Nat.le_refl _
  have hm := cnp_mono N hsub
  have hse := sq_eq Q hle (by rw [← eG, ← eG']; exact hm)
  have hset := cnp_eqset hsub (by rw [eG, eG']; exact sq_mono Q hle)
  refine ⟨fun q hq hT => ?_, fun u hu huv huN hn => ?_⟩
  · have h1 := hse q hq
    rw [if_pos hT, if_pos hT] at h1
    rw [h1]
    exact ht.1 q hq hT
  · have hz : G' u ≠ 0 := by
      refine (s2 u huN).mpr ?_
      by_cases e : u = v
      · exact Or.inr e
      · obtain ⟨p, hp, _⟩ := ht.2 u hu (by omega) huN hn
        exact Or.inl (by omega)
    refine ⟨G' u - 1, by omega, ?_⟩
    cases hT : T (G' u - 1) with
    | false => rfl
    | true =>
      have hg := hset u huN (gi_iff.mpr ⟨G' u - 1, by omega, hT⟩)
      obtain ⟨q, hq, hTq⟩ := gi_iff.mp hg
      by_cases e : u = v
      · rw [e, h0 v (Nat.le_refl v) hvN] at hq
        omega
      · obtain ⟨p, hp, hTp⟩ := ht.2 u hu (by omega) huN hn
        rw [show q = p by omega, hTp] at hTq
        cases hTq
/-- no more than so many can pass -/
def ps (N Q f : Nat) (op : Nat → Nat → Bool) (h : Nat → Nat) (S : Nat → Bool) : Nat := sq (fun q => if S q = true then h q else 0) Q + cnp (fun u => decide (f ≤ u) && nb (op u) S Q) N
/-- how many go, of those yet to be settled -/
def mu_ (N f : Nat) (G : Nat → Nat) : Nat := cnp (fun u => decide (f ≤ u) && decide (G u ≠ 0)) N
/-- how many of the settled go there -/
def st (N f : Nat) (G : Nat → Nat) (q : Nat) : Nat := cnp (fun u => decide (u < f) && decide (G u = q + 1)) N
theorem cg_st {q : Nat} : cg G N q = st N f G q + cnp (fun u => decide (f ≤ u) && decide (G u = q + 1)) N := by
  unfold cg st
  rw [cnp_split _ (fun u => decide (u < f)) N]
  congr 1
  · exact cnp_congr N (fun u _ => Bool.and_comm _ _)
  · refine cnp_congr N (fun u _ => ?_)
    rw [Bool.and_comm]
    congr 1
    by_cases e : u < f
    · rw [decide_eq_true e, decide_eq_false (p := f ≤ u) (by omega)]; rfl
    · rw [decide_eq_false e, decide_eq_true (p := f ≤ u) (by omega)]; rfl
theorem mu_split (hv : va N Q f op C G) (S : Nat → Bool) : mu_ N f G = sq (fun q => if S q = true then cnp (fun u => decide (f ≤ u) && decide (G u = q + 1)) N else 0) Q + cnp (fun u => decide (f ≤ u) && (decide (G u ≠ 0) && !gi G S u)) N := by
  unfold mu_
  rw [← cnp_sum N Q, cnp_split _ (fun u => gi G S u) N]
  congr 1
  · refine cnp_congr N (fun u hu => ?_)
    rw [decide_eq_true (hv.1 u hu), Bool.and_true]
    unfold gi
    cases decide (f ≤ u) <;> cases decide (G u ≠ 0) <;> rfl
  · refine cnp_congr N (fun u hu => ?_)
    rw [Bool.and_assoc]
theorem mu_le (hv : va N Q f op C G) (hh : ∀ q, q < Q → h q + st N f G q = C q) (S : Nat → Bool) : mu_ N f G ≤ ps N Q f op h S := by
  rw [mu_split hv S]
  refine Nat.add_le_add (sq_mono Q (fun q hq => ?_)) (cnp_mono N (fun u hu hx => ?_))
  · split
    · have h1 := hv.2.2 q hq
      have h2 := hh q hq
      rw [cg_st (f := f)] at h1
      omega
    · exact Nat.le_refl _
  · rw [Bool.and_eq_true, Bool.and_eq_true] at hx
    obtain ⟨h1, h2, h3⟩ := hx
    have hn := of_decide_eq_true h2
    have hle := hv.1 u hu
    rw [h1, Bool.true_and]
    refine (nb_iff Q).mpr ⟨G u - 1, by omega, hv.2.1 u _ (of_decide_eq_true h1) hu (by omega), ?_⟩
    cases hS : S (G u - 1) with
    | false => rfl
    | true =>
      rw [gi_iff.mpr ⟨G u - 1, by omega, hS⟩] at h3
      cases h3
theorem mu_eq (hv : va N Q f op C G) (hh : ∀ q, q < Q → h q + st N f G q = C q) (ht : ti N Q f N op C G T) : mu_ N f G = ps N Q f op h T := by
  refine Nat.le_antisymm (mu_le hv hh T) ?_
  rw [mu_split hv T]
  refine Nat.add_le_add (sq_mono Q (fun q hq => ?_)) (cnp_mono N (fun u hu hx => ?_))
  · split
    · rename_i hT
      have h1 := ht.1 q hq hT
      have h2 := hh q hq
      rw [cg_st (f := f)] at h1
      omega
    · exact Nat.le_refl _
  · rw [Bool.and_eq_true] at hx
    obtain ⟨q, hq, hTq⟩ := ht.2 u (of_decide_eq_true hx.1) hu hu hx.2
    rw [hx.1, Bool.true_and, decide_eq_true (p := G u ≠ 0) (by omega), Bool.true_and]
    cases hg : gi G T u with
    | false => rfl
    | true =>
      obtain ⟨p, hp, hTp⟩ := gi_iff.mp hg
      rw [show p = q by omega, hTq] at hTp
      cases hTp
end KUH
