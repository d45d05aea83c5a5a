/-! LEVEL 2: texts: a part is refused by both, or it is one of four -/
section PCA
variable {X X' M : um_S} {z st en t n nd nt kk : Nat} {v1 : Int32} {b : Nat → Nat} {gl : Bool} {P : Int32 → um_S → Option (Bool × um_S)}
theorem bdy_ref (h : TK X M z b st en t gl) (h6 : X.1 4 6 = 1) (hp : t = 0 ∨ gl = true ∨ f_X6_takesPart X = some (false, X)) : bdy n v1 X = some (.inl (nI st, X)) := by
  obtain ⟨h1, h2, h3, ⟨h4, h4b, h4c, h4d⟩, _⟩ := h
  have hl := so_le (z := z) (b := b) (p := st)
  unfold bdy
  rw [h4c]
  by_cases t0 : t = 0
  · have e0 : nI t = 0 := by rw [t0]; rfl
    have n6 : ¬ X.1 4 6 = 0 := by rw [h6]; decide
    unfold f_X6_endsTooSoon
    rw [if_pos e0, if_neg n6, Option.bind_some, if_neg (by decide), h4]
  · have n0 : ¬ nI t = 0 := nI_ne0 (by omega) (by omega)
    rw [if_neg n0, h4d]
    cases gl with
    | true =>
      rw [if_neg (by decide), h4]
    | false =>
      have hq := (hp.resolve_left t0).resolve_left (by decide)
      have n6 : ¬ X.1 4 6 = 0 := by rw [h6]; decide
      have f0 : um_b false = 0 := rfl
      rw [if_pos f0, if_neg n6, hq, um_b2_some, if_pos f0, h4]
end PCA
