/-! LEVEL 2: texts: a part is refused by both, or it is one of four -/
section PCA
variable {X X' M : um_S} {z st en t n nd nt kk : Nat} {v1 : Int32} {b : Nat → Nat} {gl : Bool} {P : Int32 → um_S → Option (Bool × um_S)}
theorem bdy_ref (h : TK X M z b st en t gl) (h6 : X.1 4 6 = 1) (hp : t = 0 ∨ gl = true ∨ f_X6_takesPart X = some (false, X)) : bdy n v1 X = some (.inl (nI st, X)) := by
  obtain ⟨h1, h2, h3, ⟨h4, h4b, h4c, h4d⟩, _⟩ := h
  have hl := so_le (z := z) (b := b) (p := st)
  unfold bdy
  rw [h4c]
  by_cases t0 : t = 0
  · have e0 : nI t = 0 := by rw [t0]; rfl
    have n6 : ¬ X.1 4 6 = 0 := by rw [h6]; decide
    unfold f_X6_endsTooSoon
    rw [if_pos e0, if_neg n6, Option.bind_some, if_neg (by decide), h4]
  · have n0 : ¬ nI t = 0 := nI_ne0 (by omega) (by omega)
    rw [if_neg n0, h4d]
    cases gl with
    | true =>
      rw [if_neg (by decide), h4]
    | false =>
      have hq := (hp.resolve_left t0).resolve_left (by decide)
      have n6 : ¬ X.1 4 6 = 0 := by rw [h6]; decide
      have f0 : um_b false = 0 := rfl
      rw [if_pos f0, if_neg n6, hq, um_b2_some, if_pos f0, h4]
theorem x_ref2 (h2 : X.1 4 2 = nI st) (h3 : X.1 4 3 = nI en) (hse : st ≤ en) (he : en ≤ 96) (h4 : X.1 4 4 = nI 2) (hn4 : ¬ en - st ≤ 4) : f_X6_takesPart X = some (false, X) := by
  have e2 : nI 2 = (2 : Int32) := rfl
  have n4 : (4 : Int32) < nI (en - st) := nI_lt (a := 4) (by omega) (by omega)
  unfold f_X6_takesPart
  rw [h4, if_pos e2, h3, h2, nI_sub hse, if_pos n4]
theorem x_ref1 (ht : tp X M z b) (h2 : X.1 4 2 = nI st) (h3 : X.1 4 3 = nI en) (hse : st < en) (he : en ≤ z) (h4 : X.1 4 4 = nI 1) (hso : so z b st = 1) (h11 : X.1 4 11 = nI kk) (hkk : kk < 5) (hno : en = st + 1 → ¬ b st ∈ nmL kk) : f_X6_takesPart X = some (false, X) := by
  have hz := ht.2.2.1
  have hs1 := so_1.mp hso
  have e1 : nI 1 = (1 : Int32) := rfl
  have n2 : ¬ nI 1 = (2 : Int32) := by decide
  have m1 : (-1 : Int32) < 0 := by decide
  unfold f_X6_takesPart
  rw [h4, if_neg n2, if_pos e1, h3, h2, nI_sub (by omega)]
  unfold um_let
  try dsimp only
  by_cases hl : en = st + 1
  · have el : nI (en - st) = (1 : Int32) := by rw [hl, show st + 1 - st = 1 by omega]; rfl
    have en1 : nmi kk (b st) = -1 := if_neg (hno hl)
    rw [if_pos el, h11, x_names hkk, Option.bind_some, x_byteAt ht (by omega), Option.bind_some, if_pos (show st < z by omega), nam_x hkk hs1.2, Option.bind_some, en1, if_pos m1]
  · have nl : ¬ nI (en - st) = (1 : Int32) := fun z => hl (by
      have := (nI_eq (b := 1) (by omega) (by omega)).mp z
      omega)
    rw [if_neg nl, if_pos m1]
theorem x_ref3 (ht : tp X M z b) (h2 : X.1 4 2 = nI st) (hst : st < z) (h4 : X.1 4 4 = nI 3) (h13 : X.1 4 13 = nI nd) (h14 : X.1 4 14 = nI nt) (hnd : nd ≤ 8) (hnt : nt ≤ 8) (h33 : b st = 33 → nt = 8) (h40 : b st = 40 → nd = 8) : f_X6_takesPart X = some (false, X) := by
  have hz := ht.2.2.1
  have hb := (ht.2.2.2 st hst).2.2
  have n2 : ¬ nI 3 = (2 : Int32) := by decide
  have n1 : ¬ nI 3 = (1 : Int32) := by decide
  have e8 : ∀ m : Nat, m = 8 → (8 : Int32) ≤ nI m := fun m hm => by rw [hm]; decide
  unfold f_X6_takesPart
  rw [h4, if_neg n2, if_neg n1, h2, x_byteAt ht (by omega), Option.bind_some, if_pos hst]
  unfold um_let
  try dsimp only
  by_cases c33 : b st = 33
  · have e33 : nI (b st) = (33 : Int32) := by rw [c33]; rfl
    have n40 : ¬ nI (b st) = (40 : Int32) := by rw [c33]; decide
    rw [if_pos e33, h14, if_pos (e8 nt (h33 c33)), if_neg n40]
  · have n33 : ¬ nI (b st) = (33 : Int32) := fun z => c33 ((nI_eq (b := 33) (by omega) (by omega)).mp z)
    rw [if_neg n33]
    by_cases c40 : b st = 40
    · have e40 : nI (b st) = (40 : Int32) := by rw [c40]; rfl
      rw [if_pos e40, h13, if_pos (e8 nd (h40 c40))]
    · have n40 : ¬ nI (b st) = (40 : Int32) := fun z => c40 ((nI_eq (b := 40) (by omega) (by omega)).mp z)
      rw [if_neg n40]
theorem part_cases (ht : tp X M z b) (h : TK X M z b st en t gl) (h6 : X.1 4 6 = 1) (h11 : X.1 4 11 = nI kk) (hkk : kk < 5) (h13 : X.1 4 13 = nI nd) (h14 : X.1 4 14 = nI nt) (m14 : M.1 0 14 = nI nd) (m15 : M.1 0 15 = nI nt) (hnd : nd ≤ 8) (hnt : nt ≤ 8) :
    (bdy n v1 X = some (.inl (nI st, X)) ∧ fk_X9_part0 P (nI kk) M = some (false, M)) ∨ (gl = false ∧ ((t = 2 ∧ en - st ≤ 4) ∨ (t = 1 ∧ en = st + 1 ∧ b st ∈ nmL kk) ∨ (t = 3 ∧ b st = 40 ∧ nd < 8) ∨ (t = 3 ∧ b st = 33 ∧ nt < 8))) := by
  have hz := ht.2.2.1
  have hT := h
  obtain ⟨h1, h2, h3, ⟨x2, x3, x4, x5⟩, ⟨y9, y10⟩, q0, q3, q1, q2⟩ := h
  have hl := so_le (z := z) (b := b) (p := st)
  have hb3 : t = 3 → b st < 256 := fun e => by
    have : st < z := Nat.lt_of_not_le (fun hh => by have := (so_0 (z := z) (b := b) (p := st)).mpr hh; omega)
    have := (ht.2.2.2 st this).2.2
    omega
  rcases (show t = 0 ∨ t = 1 ∨ t = 2 ∨ t = 3 by omega) with e | e | e | e
  · refine Or.inl ⟨bdy_ref hT h6 (Or.inl e), m_ref hT hb3 (by rw [q0 e]; decide) (fun z => by rw [q0 e] at z; exact absurd z (by decide)) m14 m15 hnd hnt (fun z => by omega) (fun z => by omega)⟩
  · obtain ⟨r1, r2, r3, r4⟩ := q1 e
    have hso : so z b st = 1 := r4 st (Nat.le_refl _) r1
    have hs1 := so_1.mp hso
    cases hg : gl with
    | true =>
      rw [hg] at hT r2
      rw [if_pos rfl] at r2
      exact Or.inl ⟨bdy_ref hT h6 (Or.inr (Or.inl rfl)), m_ref hT hb3 (by rw [r2]; decide) (fun z => by rw [r2] at z; exact absurd z (by decide)) m14 m15 hnd hnt (fun z => by omega) (fun z => by omega)⟩
    | false =>
      by_cases hok : en = st + 1 ∧ b st ∈ nmL kk
      · exact Or.inr ⟨rfl, Or.inr (Or.inl ⟨e, hok.1, hok.2⟩)⟩
      · rw [hg] at hT r2
        rw [if_neg (by decide)] at r2
        refine Or.inl ⟨bdy_ref hT h6 (Or.inr (Or.inr (x_ref1 ht x2 x3 r1 h2 (by rw [x4, e]) hso h11 hkk (fun z1 z2 => hok ⟨z1, z2⟩)))), m_ref hT hb3 (by rw [r2]; decide) (fun _ => ?_) m14 m15 hnd hnt (fun z => by omega) (fun z => by omega)⟩
        by_cases hl1 : en - st = 1
        · rw [if_pos hl1] at r3
          rw [r3, nam_m hkk hs1.2, decide_eq_false (fun z => hok ⟨by omega, z⟩)]
          exact Or.inr rfl
        · rw [if_neg hl1] at r3
          exact Or.inl r3
  · obtain ⟨r1, r2, r3, r4⟩ := q2 e
    by_cases hok : gl = false ∧ en - st ≤ 4
    · exact Or.inr ⟨hok.1, Or.inl ⟨e, hok.2⟩⟩
    · have hc : gl = true ∨ 4 < en - st := by
        cases hg : gl with
        | true => exact Or.inl rfl
        | false => exact Or.inr (Nat.lt_of_not_le (fun z => hok ⟨hg, z⟩))
      rw [if_pos hc] at r2
      refine Or.inl ⟨bdy_ref hT h6 (Or.inr ?_), m_ref hT hb3 (by rw [r2]; decide) (fun z => by rw [r2] at z; exact absurd z (by decide)) m14 m15 hnd hnt (fun z => by omega) (fun z => by omega)⟩
      rcases hc with hc | hc
      · exact Or.inl hc
      · exact Or.inr (x_ref2 x2 x3 h1 (by omega) (by rw [x4, e]) (by omega))
  · obtain ⟨r1, r2, r3, r4⟩ := q3 e
    have hst : st < z := by omega
    by_cases hok : (b st = 40 ∧ nd < 8) ∨ (b st = 33 ∧ nt < 8)
    · rcases hok with hok | hok
      · exact Or.inr ⟨r1, Or.inr (Or.inr (Or.inl ⟨e, hok.1, hok.2⟩))⟩
      · exact Or.inr ⟨r1, Or.inr (Or.inr (Or.inr ⟨e, hok.1, hok.2⟩))⟩
    · exact Or.inl ⟨bdy_ref hT h6 (Or.inr (Or.inr (x_ref3 ht x2 hst (by rw [x4, e]) h13 h14 hnd hnt (fun z => by omega) (fun z => by omega)))), m_ref hT hb3 (by rw [r3]; decide) (fun z => by rw [r3] at z; exact absurd z (by decide)) m14 m15 hnd hnt (fun _ z => by omega) (fun _ z => by omega)⟩
end PCA
