/-! LEVEL 2: texts: one turn of the class's loop, behind the token -/
noncomputable def bdy (n : Nat) (v1 : Int32) (σ2 : um_S) : Option ((Int32 × um_S) ⊕ um_S) :=
  if (σ2.1 4 4) = 0 then ((f_X6_endsTooSoon σ2).bind fun x10 => (if (um_b x10) = 0 then (some (.inl ((-1 : Int32), σ2))) else (some (.inl (σ2.1 4 2, σ2)))))
  else (if (σ2.1 4 5) = 0 then (if (σ2.1 4 6) = 0 then
    (um_b2 (f_X6_takesJoin σ2) fun x5 σ4 => (if (um_b x5) = 0 then (some (.inl (σ4.1 4 2, σ4))) else (f_X6_faultPlace_l30 n (v1 + (1 : Int32)) σ4)))
    else (um_b2 (f_X6_takesPart σ2) fun x8 σ7 => (if (um_b x8) = 0 then (some (.inl (σ7.1 4 2, σ7))) else (f_X6_faultPlace_l30 n (v1 + (1 : Int32)) σ7))))
    else (some (.inl (σ2.1 4 2, σ2))))
section BDY
variable {X X' : um_S} {n j : Nat} {v1 : Int32}
theorem l30_bdy (hj : j ≤ 96) : f_X6_faultPlace_l30 (n + 1) (nI j) X = (f_X6_next X).bind (bdy n (nI j)) := by
  have h : ¬ (96 : Int32) < nI j := nI_nlt (a := 96) hj (by omega)
  rw [f_X6_faultPlace_l30, if_neg h]
  rfl
end BDY
