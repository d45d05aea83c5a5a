/-! LEVEL 2: texts: signs that wait, and steps written -/
/-- the last one first -/
def pile (k : Nat) (X : um_S) : List Int32 → Prop
  | [] => True
  | c :: S => X.1 k S.length = c ∧ pile k X S
/-- the rank of a sign -/
def rk (c : Nat) : Nat := if c = 38 then 2 else if c = 42 then 5 else if c = 43 then 4 else if c = 45 then 4 else if c = 47 then 5 else if c = 60 then 3 else if c = 61 then 3 else if c = 62 then 3 else if c = 124 then 1 else 0
/-- what the class holds: steps written, signs that wait -/
def ce (X : um_S) (R : List Int32) (S : List Nat) : Prop := X.1 4 9 = nI R.length ∧ pile 9 X R ∧ X.1 4 10 = nI S.length ∧ pile 10 X (S.map nI) ∧ R.length + S.length ≤ 95 ∧ ∀ c, c ∈ S → c < 256
def xW (X X' : um_S) : Prop := (∀ k j, k ≠ 9 → k ≠ 10 → (k ≠ 4 ∨ (j ≠ 9 ∧ j ≠ 10)) → X'.1 k j = X.1 k j) ∧ X'.2 = X.2
/-- signs of that rank and above are written -/
def fl (L : Nat) : List Nat → List Int32 → List Nat × List Int32
  | [], R => ([], R)
  | c :: S, R => if L ≤ rk c then fl L S (-(nI c) :: R) else (c :: S, R)
section PIL
variable {X X' X2 : um_S} {k n L c : Nat} {v : Int32} {R : List Int32} {S : List Nat}
theorem pile_wr : ∀ {l : List Int32}, l.length ≤ n → pile k X l → pile k (um_wr X k n v) l
  | [], _, _ => trivial
  | c :: S, h, p => by
    have hl : S.length + 1 ≤ n := h
    exact ⟨by rw [um_wr_an (by omega)]; exact p.1, pile_wr (by omega) p.2⟩
theorem pile_of : ∀ {l : List Int32}, (∀ j, X'.1 k j = X.1 k j) → pile k X l → pile k X' l
  | [], _, _ => trivial
  | c :: S, h, p => ⟨by rw [h]; exact p.1, pile_of h p.2⟩
theorem xW_refl : xW X X := ⟨fun _ _ _ _ _ => rfl, rfl⟩
theorem xW_trans (a : xW X X') (b : xW X' X2) : xW X X2 := ⟨fun k j h1 h2 h3 => by rw [b.1 k j h1 h2 h3, a.1 k j h1 h2 h3], by rw [b.2, a.2]⟩
theorem xW_wr {k i : Nat} (h : k = 9 ∨ k = 10 ∨ (k = 4 ∧ (i = 9 ∨ i = 10))) : xW X (um_wr X k i v) := ⟨fun k2 j h1 h2 h3 => by
  by_cases e : k2 = k
  · subst e
    exact um_wr_an (by omega)
  · exact um_wr_nk e, rfl⟩
theorem rk_le : rk c ≤ 5 := by
  unfold rk
  repeat' split
  all_goals omega
theorem x_rankOf (hc : c < 256) : f_X6_rankOf (nI c) X = some (nI (rk c)) := by
  have e : ∀ d : Nat, d < 256 → (nI c = nI d ↔ c = d) := fun d hd => nI_eq (by omega) (by omega)
  unfold f_X6_rankOf rk
  have e38 : (nI c = (38 : Int32)) ↔ c = 38 := e 38 (by omega)
  have e42 : (nI c = (42 : Int32)) ↔ c = 42 := e 42 (by omega)
  have e43 : (nI c = (43 : Int32)) ↔ c = 43 := e 43 (by omega)
  have e45 : (nI c = (45 : Int32)) ↔ c = 45 := e 45 (by omega)
  have e47 : (nI c = (47 : Int32)) ↔ c = 47 := e 47 (by omega)
  have e60 : (nI c = (60 : Int32)) ↔ c = 60 := e 60 (by omega)
  have e61 : (nI c = (61 : Int32)) ↔ c = 61 := e 61 (by omega)
  have e62 : (nI c = (62 : Int32)) ↔ c = 62 := e 62 (by omega)
  have e124 : (nI c = (124 : Int32)) ↔ c = 124 := e 124 (by omega)
  simp only [e38, e42, e43, e45, e47, e60, e61, e62, e124]
  repeat' split
  all_goals rfl
theorem x_top (h : ce X R (c :: S)) : f_X6_topSign X = some (nI c) := by
  obtain ⟨h1, h2, h3, h4, h5, h6⟩ := h
  have hl : (c :: S).length = S.length + 1 := rfl
  rw [hl] at h3 h5
  unfold f_X6_topSign
  rw [h3, if_neg (nI_nle (by omega) (by omega)), if_neg (nI_nlt (by omega) (by omega)), show nI (S.length + 1) - 1 = nI S.length from nI_sub (a := S.length + 1) (b := 1) (by omega), if_pos (um_ix_nI (by omega) (by omega)), nI_clamp (by omega)]
  have := h4.1
  rw [List.length_map] at this
  rw [this]
theorem x_top0 (h : ce X R []) : f_X6_topSign X = some 0 := by
  unfold f_X6_topSign
  have e : X.1 4 10 ≤ 0 := by rw [h.2.2.1]; decide
  rw [if_pos e]
theorem x_take (h : ce X R (c :: S)) : ∃ X', f_X6_takeSign X = some (nI c, X') ∧ ce X' R S ∧ xW X X' := by
  have ht := x_top h
  obtain ⟨h1, h2, h3, h4, h5, h6⟩ := h
  have hl : (c :: S).length = S.length + 1 := rfl
  rw [hl] at h3 h5
  refine ⟨um_wr X 4 10 (nI S.length), ?_, ⟨by rw [um_wr_an (by omega)]; exact h1, pile_of (fun j => um_wr_nk (by omega)) h2, um_wr_at _ _ _ _, pile_of (fun j => um_wr_nk (by omega)) h4.2, by omega, fun d hd => h6 d (List.mem_cons_of_mem _ hd)⟩, xW_wr (by omega)⟩
  unfold f_X6_takeSign
  rw [ht, Option.bind_some, h3, show nI (S.length + 1) - 1 = nI S.length from nI_sub (a := S.length + 1) (b := 1) (by omega)]
  have e : (if (0 : Int32) < nI S.length then nI S.length else (0 : Int32)) = nI S.length := by
    by_cases z : S.length = 0
    · rw [z]; rfl
    · have hp : (0 : Int32) < nI S.length := nI_lt (a := 0) (by omega) (by omega)
      rw [if_pos hp]
  rw [e]
  rfl
theorem x_write (h : ce X R S) (hl : R.length + S.length ≤ 94) : ∃ X', f_X6_write v X = some X' ∧ ce X' (v :: R) S ∧ xW X X' := by
  obtain ⟨h1, h2, h3, h4, h5, h6⟩ := h
  refine ⟨um_wr (um_wr X 9 R.length v) 4 9 (nI (R.length + 1)), ?_, ⟨um_wr_at _ _ _ _, ⟨?_, ?_⟩, ?_, ?_, ?_, h6⟩, xW_trans (xW_wr (by omega)) (xW_wr (by omega))⟩
  · unfold f_X6_write
    rw [h1, if_neg (nI_pos (by omega)), if_pos (nI_lt (by omega) (by omega)), if_pos (um_ix_nI (by omega) (by omega)), nI_clamp (by omega)]
    unfold um_let
    try dsimp only
    rw [um_wr_nk (k2 := 4) (k := 9) (by omega), h1, nI_1]
  · rw [um_wr_nk (by omega), um_wr_at]
  · exact pile_of (fun j => um_wr_nk (by omega)) (pile_wr (Nat.le_refl _) h2)
  · rw [um_wr_an (by omega), um_wr_nk (by omega)]; exact h3
  · exact pile_of (fun j => by rw [um_wr_nk (by omega), um_wr_nk (by omega)]) h4
  · change R.length + 1 + S.length ≤ 95
    omega
theorem x_wait (h : ce X R S) (hl : R.length + S.length ≤ 94) (hc : c < 256) : ∃ X', f_X6_waitsWith (nI c) X = some (true, X') ∧ ce X' R (c :: S) ∧ xW X X' := by
  obtain ⟨h1, h2, h3, h4, h5, h6⟩ := h
  refine ⟨um_wr (um_wr X 10 S.length (nI c)) 4 10 (nI (S.length + 1)), ?_, ⟨?_, ?_, um_wr_at _ _ _ _, ⟨?_, ?_⟩, ?_, ?_⟩, xW_trans (xW_wr (by omega)) (xW_wr (by omega))⟩
  · unfold f_X6_waitsWith
    rw [h3, if_neg (nI_pos (by omega)), if_pos (nI_lt (by omega) (by omega)), if_pos (um_ix_nI (by omega) (by omega)), nI_clamp (by omega)]
    unfold um_let
    try dsimp only
    rw [um_wr_nk (k2 := 4) (k := 10) (by omega), h3, nI_1]
  · rw [um_wr_an (by omega), um_wr_nk (by omega)]; exact h1
  · exact pile_of (fun j => by rw [um_wr_nk (by omega), um_wr_nk (by omega)]) h2
  · rw [um_wr_nk (by omega), List.length_map, um_wr_at]
  · exact pile_of (fun j => um_wr_nk (by omega)) (pile_wr (by rw [List.length_map]; exact Nat.le_refl _) h4)
  · change R.length + (S.length + 1) ≤ 95
    omega
  · intro d hd
    rcases List.mem_cons.mp hd with z | z
    · rw [z]; exact hc
    · exact h6 d z
theorem lo_settle (hL : 1 ≤ L ∧ L ≤ 6) : ∀ (S : List Nat) (R : List Int32) (X : um_S) (j fu : Nat), ce X R S → j + S.length ≤ 95 → S.length < fu → R.length + S.length ≤ 94 → ∃ X', f_X6_settle_l2 (nI L) fu (nI j) X = some X' ∧ ce X' (fl L S R).2 (fl L S R).1 ∧ xW X X' := by
  intro S
  induction S with
  | nil =>
    intro R X j fu h hj hfu hl
    obtain ⟨fu, rfl⟩ : ∃ g, fu = g + 1 := ⟨fu - 1, by have : ([] : List Nat).length = 0 := rfl; omega⟩
    have n96 : ¬ (96 : Int32) ≤ nI j := nI_ge (b := 96) (by have : ([] : List Nat).length = 0 := rfl; omega) (by omega)
    have r0 : f_X6_rankOf 0 X = some (nI 0) := rfl
    refine ⟨X, ?_, h, xW_refl⟩
    rw [f_X6_settle_l2, if_neg n96, x_top0 h, Option.bind_some, r0, Option.bind_some, if_pos (nI_lt (by omega) (by omega))]
  | cons c S ih =>
    intro R X j fu h hj hfu hl
    have hlen : (c :: S).length = S.length + 1 := rfl
    rw [hlen] at hj hfu hl
    obtain ⟨fu, rfl⟩ : ∃ g, fu = g + 1 := ⟨fu - 1, by omega⟩
    have n96 : ¬ (96 : Int32) ≤ nI j := nI_ge (b := 96) (by omega) (by omega)
    have hc := h.2.2.2.2.2 c List.mem_cons_self
    have hr := rk_le (c := c)
    rw [f_X6_settle_l2, if_neg n96, x_top h, Option.bind_some, x_rankOf hc, Option.bind_some, nI_1]
    unfold fl
    by_cases hlr : L ≤ rk c
    · rw [if_neg (nI_nlt hlr (by omega)), if_pos hlr]
      obtain ⟨X1, a1, a2, a3⟩ := x_take h
      obtain ⟨X2, b1, b2, b3⟩ := x_write (v := -(nI c)) a2 (by omega)
      rw [a1, um_b2_some, b1, Option.bind_some]
      obtain ⟨X3, c1, c2, c3⟩ := ih (-(nI c) :: R) X2 (j + 1) fu b2 (by omega) (by omega) (by change R.length + 1 + S.length ≤ 94; omega)
      exact ⟨X3, c1, c2, xW_trans a3 (xW_trans b3 c3)⟩
    · rw [if_pos (nI_lt (by omega) (by omega)), if_neg hlr]
      exact ⟨X, rfl, h, xW_refl⟩
theorem x_settle (hL : 1 ≤ L ∧ L ≤ 6) (h : ce X R S) (hl : R.length + S.length ≤ 94) : ∃ X', f_X6_settle (nI L) X = some X' ∧ ce X' (fl L S R).2 (fl L S R).1 ∧ xW X X' := by
  obtain ⟨X', a1, a2, a3⟩ := lo_settle hL S R X 0 um_N h (by omega) (by unfold um_N; omega) hl
  refine ⟨X', ?_, a2, a3⟩
  unfold f_X6_settle
  exact (congrArg (fun o => Option.bind o _) a1).trans rfl
end PIL
