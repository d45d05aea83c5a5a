/-! LEVEL 2: texts: what both have written -/
/-- signs written, the top one first -/
def wt : List Nat → List Int32 → List Int32
  | [], R => R
  | c :: T, R => wt T (-(nI c) :: R)
/-- step by step alike -/
def al (k : Nat) : List Int32 → List (Int32 × Int32) → Prop
  | [], [] => True
  | x :: R, p :: P => tx_st k x p.1 p.2 ∧ al k R P
  | _, _ => False
/-- how high the pile stands behind these steps, if it holds -/
def hg : List Int32 → Option Nat
  | [] => some 0
  | x :: R => (hg R).bind fun h => if x < -3 then (if x = -33 then (if 1 ≤ h then some h else none) else (if 2 ≤ h then some (h - 1) else none)) else some (h + 1)
/-- how many values -/
def cv : List Int32 → Nat
  | [] => 0
  | x :: R => cv R + (if x < -3 then 0 else 1)
/-- what the model has written -/
def pil2 (M : um_S) (base : Nat) : List (Int32 × Int32) → Prop
  | [] => True
  | p :: P => M.1 1 (base + 2 * P.length) = p.1 ∧ M.1 1 (base + 2 * P.length + 1) = p.2 ∧ pil2 M base P
def mP (M : um_S) (base : Nat) (P : List (Int32 × Int32)) : Prop := M.1 0 17 = nI base ∧ M.1 0 16 = nI P.length ∧ pil2 M base P ∧ P.length ≤ 95 ∧ base + 196 ≤ 3790
/-- nothing but the reading, the counts and the row from there on -/
def mE (base : Nat) (M M' : um_S) : Prop := ∀ k j, (k ≠ 0 ∨ j < 9 ∨ 18 < j) → (k ≠ 1 ∨ j < base) → M'.1 k j = M.1 k j
section OUT
variable {M M' M2 : um_S} {base k c : Nat} {P : List (Int32 × Int32)} {a v : Int32} {R : List Int32} {T T2 : List Nat}
theorem mE_refl : mE base M M := fun _ _ _ _ => rfl
theorem mE_trans (a : mE base M M') (b : mE base M' M2) : mE base M M2 := fun k j h1 h2 => by rw [b k j h1 h2, a k j h1 h2]
theorem mr_mE (a : mr M M') : mE base M M' := fun k j h1 h2 => a k j (by omega)
theorem mE_wr {i : Nat} (hi : 9 ≤ i ∧ i ≤ 18) : mE base M (um_wr M 0 i v) := fun k j h1 h2 => by
  by_cases e : k = 0
  · subst e
    exact um_wr_an (by omega)
  · exact um_wr_nk e
theorem mE_row {i : Nat} (hi : base ≤ i) : mE base M (um_wr M 1 i v) := fun k j h1 h2 => by
  by_cases e : k = 1
  · subst e
    exact um_wr_an (by omega)
  · exact um_wr_nk e
theorem pil2_of : ∀ {P : List (Int32 × Int32)}, (∀ j, j < base + 2 * P.length → M'.1 1 j = M.1 1 j) → pil2 M base P → pil2 M' base P
  | [], _, _ => trivial
  | p :: P, h, q => by
    have hl : (p :: P).length = P.length + 1 := rfl
    rw [hl] at h
    exact ⟨by rw [h _ (by omega)]; exact q.1, by rw [h _ (by omega)]; exact q.2.1, pil2_of (fun j hj => h j (by omega)) q.2.2⟩
theorem m_step (h : mP M base P) (hl : P.length ≤ 94) : ∃ M', f_X9_step a v M = some M' ∧ mP M' base ((a, v) :: P) ∧ mE base M M' ∧ (∀ i, i ≠ 16 → M'.1 0 i = M.1 0 i) := by
  obtain ⟨h1, h2, h3, h4, h5⟩ := h
  have ea : nI base + (2 : Int32) * nI P.length = nI (base + 2 * P.length) := (congrArg (fun x => nI base + x) (nI_mul 2 P.length)).trans (nI_add _ _)
  refine ⟨um_wr (um_wr (um_wr M 1 (base + 2 * P.length) a) 1 (base + 2 * P.length + 1) v) 0 16 (nI (P.length + 1)), ?_, ⟨?_, um_wr_at _ _ _ _, ⟨?_, ?_, ?_⟩, by change P.length + 1 ≤ 95; omega, h5⟩, mE_trans (mE_row (by omega)) (mE_trans (mE_row (by omega)) (mE_wr (by omega))), fun i hi => ?_⟩
  · unfold f_X9_step um_let
    try dsimp only
    rw [h1, h2, ea, if_pos (um_ix_nI (by omega) (by omega)), nI_clamp (by omega)]
    rw [um_wr_nk (k2 := 0) (k := 1) (by omega), um_wr_nk (k2 := 0) (k := 1) (by omega), h1, h2, ea, nI_1, if_pos (um_ix_nI (by omega) (by omega)), nI_clamp (by omega), um_wr_nk (k2 := 0) (k := 1) (by omega), um_wr_nk (k2 := 0) (k := 1) (by omega), h2, nI_1]
  · rw [um_wr_an (by omega), um_wr_nk (by omega), um_wr_nk (by omega)]; exact h1
  · rw [um_wr_nk (by omega), um_wr_an (by omega), um_wr_at]
  · rw [um_wr_nk (by omega), um_wr_at]
  · refine pil2_of (fun j hj => ?_) h3
    rw [um_wr_nk (by omega), um_wr_an (by omega), um_wr_an (by omega)]
  · rw [um_wr_an hi, um_wr_nk (by omega), um_wr_nk (by omega)]
theorem wt_app : ∀ (T T2 : List Nat) (R : List Int32), wt (T ++ T2) R = wt T2 (wt T R)
  | [], _, _ => rfl
  | c :: T, T2, R => by
    change wt (T ++ T2) (-(nI c) :: R) = wt T2 (wt T (-(nI c) :: R))
    exact wt_app T T2 _
/-- signs of that rank or above, and then one below -/
theorem fl_wt {L : Nat} : ∀ (T S : List Nat) (R : List Int32), (∀ c, c ∈ T → L ≤ rk c) → (∀ c S', S = c :: S' → rk c < L) → fl L (T ++ S) R = (S, wt T R)
  | [], S, R, _, h => by
    cases S with
    | nil => rfl
    | cons c S' =>
      change (if L ≤ rk c then _ else _) = _
      rw [if_neg (by have := h c S' rfl; omega)]
      rfl
  | c :: T, S, R, h1, h2 => by
    change (if L ≤ rk c then fl L (T ++ S) (-(nI c) :: R) else _) = _
    rw [if_pos (h1 c List.mem_cons_self)]
    exact fl_wt T S _ (fun d hd => h1 d (List.mem_cons_of_mem _ hd)) h2
end OUT
