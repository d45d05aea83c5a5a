/-! LEVEL 2: texts: a text is read whole, both sides -/
/-- nothing but what reading a text changes -/
def xG (X X' : um_S) : Prop := (∀ k j, k ≠ 9 → k ≠ 10 → (k ≠ 4 ∨ j < 2 ∨ 14 < j) → X'.1 k j = X.1 k j) ∧ X'.2 = X.2
def mG (base : Nat) (M M' : um_S) : Prop := ∀ k j, (k ≠ 0 ∨ j < 8 ∨ 18 < j) → (k ≠ 1 ∨ j < base) → M'.1 k j = M.1 k j
/-- a text that holds -/
def goo (kk base : Nat) (X M : um_S) : Prop := X.1 4 11 = nI kk ∧ ∃ T R1 P, ce X R1 T ∧ (∀ c, c ∈ T → 1 ≤ rk c) ∧ mP M base P ∧ al kk (wt T R1) P ∧ hg (wt T R1) = some 1 ∧ X.1 4 12 = nI (cv R1) ∧ M.1 0 18 = nI (cv R1) ∧ R1.length + T.length + 3 ≤ 96
section FPL
variable {X X' X2 M M' M2 : um_S} {kk z base st en t n j i : Nat} {b : Nat → Nat} {gl : Bool} {v : Int32}
theorem xG_trans (a : xG X X') (b : xG X' X2) : xG X X2 := ⟨fun k j h1 h2 h3 => by rw [b.1 k j h1 h2 h3, a.1 k j h1 h2 h3], by rw [b.2, a.2]⟩
theorem mG_trans (a : mG base M M') (b : mG base M' M2) : mG base M M2 := fun k j h1 h2 => by rw [b k j h1 h2, a k j h1 h2]
theorem xF_xG (a : xF X X') : xG X X' := ⟨fun k j h1 h2 h3 => a.1 k j h1 h2 (by omega), a.2⟩
theorem mE_mG (a : mE base M M') : mG base M M' := fun k j h1 h2 => a k j (by omega) h2
theorem xG_wr (h : 2 ≤ i ∧ i ≤ 14) : xG X (um_wr X 4 i v) := ⟨fun k j h1 h2 h3 => by
  by_cases e : k = 4
  · subst e
    exact um_wr_an (by omega)
  · exact um_wr_nk e, rfl⟩
theorem mG_wr (h : 8 ≤ i ∧ i ≤ 18) : mG base M (um_wr M 0 i v) := fun k j h1 h2 => by
  by_cases e : k = 0
  · subst e
    exact um_wr_an (by omega)
  · exact um_wr_nk e
theorem tp_G (h : tp X M z b) (hx : xG X X') (hm : ∀ k j, (k ≠ 0 ∨ j < 9) → k ≠ 1 → M'.1 k j = M.1 k j) : tp X' M' z b := by
  obtain ⟨h1, h2, h3, h4⟩ := h
  refine ⟨by rw [hx.1 4 1 (by omega) (by omega) (by omega)]; exact h1, by rw [hm 0 8 (by omega) (by omega)]; exact h2, h3, fun j hj => ?_⟩
  rw [hx.1 8 j (by omega) (by omega) (by omega), hm 7 j (by omega) (by omega)]
  exact h4 j hj
/-- the class at its start -/
theorem x_begin : ∃ X1, f_X6_begin X = some X1 ∧ xG X X1 ∧ X1.1 4 3 = nI 0 ∧ X1.1 4 4 = 0 ∧ X1.1 4 6 = 1 ∧ ce X1 [] [] ∧ X1.1 4 12 = nI 0 ∧ X1.1 4 13 = nI 0 ∧ X1.1 4 14 = nI 0 := by
  refine ⟨_, rfl, ?_, ?_, ?_, ?_, ⟨?_, trivial, ?_, trivial, by decide, fun c hc => absurd hc List.not_mem_nil⟩, ?_, ?_, ?_⟩
  · exact xG_trans (xG_wr (by omega)) (xG_trans (xG_wr (by omega)) (xG_trans (xG_wr (by omega)) (xG_trans (xG_wr (by omega)) (xG_trans (xG_wr (by omega)) (xG_trans (xG_wr (by omega)) (xG_trans (xG_wr (by omega)) (xG_trans (xG_wr (by omega)) (xG_wr (by omega)))))))))
  · rw [um_wr_an (by omega), um_wr_an (by omega), um_wr_an (by omega), um_wr_an (by omega), um_wr_an (by omega), um_wr_an (by omega), um_wr_an (by omega), um_wr_at]; rfl
  · rw [um_wr_an (by omega), um_wr_an (by omega), um_wr_an (by omega), um_wr_an (by omega), um_wr_an (by omega), um_wr_an (by omega), um_wr_at]
  · rw [um_wr_an (by omega), um_wr_an (by omega), um_wr_an (by omega), um_wr_an (by omega), um_wr_an (by omega), um_wr_at]; rfl
  · rw [um_wr_an (by omega), um_wr_an (by omega), um_wr_an (by omega), um_wr_an (by omega), um_wr_at]; rfl
  · rw [um_wr_an (by omega), um_wr_an (by omega), um_wr_an (by omega), um_wr_at]; rfl
  · rw [um_wr_an (by omega), um_wr_an (by omega), um_wr_at]; rfl
  · rw [um_wr_an (by omega), um_wr_at]; rfl
  · rw [um_wr_at]; rfl
/-- the model at its start -/
def mB (M : um_S) (base : Nat) : um_S := um_wr (um_wr (um_wr (um_wr (um_wr (um_wr (um_wr M 0 10 (0 : Int32)) 0 11 (3 : Int32)) 0 14 (0 : Int32)) 0 15 (0 : Int32)) 0 16 (0 : Int32)) 0 18 (0 : Int32)) 0 17 (nI base)
noncomputable def mT (σ15 : um_S) : Option (Int32 × um_S) :=
    ((f_X9_next σ15).bind fun σ18 =>
    ((f_X9_key σ18).bind fun x20 =>
    (um_let (fun (x22 : Int32) =>
    (um_let (fun (x24 : Int32) (σ25 : um_S) =>
    (um_let (um_wr σ25 0 8 (0 : Int32)) fun σ26 =>
    (if x24 = 0 then
    (some ((-1 : Int32), σ26))
    else
    (some (x20, σ26))))) fun k23 =>
    (if x22 = 0 then
    (k23 x22 σ18)
    else
    ((f_X9_next σ18).bind fun σ29 =>
    (um_b2 (f_X9_either (f_X9_part0 20) x20 σ29) fun x32 σ31 =>
    (um_let (fun (x34 : Int32) =>
    (k23 x34 σ31)) fun k33 =>
    (um_let (fun (_u : Unit) =>
    (k33 (0 : Int32))) fun k35 =>
    (if (um_b x32) = 0 then
    (k35 ())
    else
    (if (σ31.1 0 11) = 0 then
    (k33 (1 : Int32))
    else
    (k35 ())))))))))) fun k21 =>
    (if x20 < 0 then
    (k21 (0 : Int32))
    else
    (k21 (1 : Int32))))))
theorem m_parse (h5 : M.1 1 5 = nI i) (hi : i ≤ 14) (hb : base = if 14 ≤ i then 3590 else 780 + 200 * i + 4) : f_X9_parse M = mT (mB M base) := by
  have e5 : (um_wr (um_wr (um_wr (um_wr (um_wr (um_wr M 0 10 (0 : Int32)) 0 11 (3 : Int32)) 0 14 (0 : Int32)) 0 15 (0 : Int32)) 0 16 (0 : Int32)) 0 18 (0 : Int32)).1 1 5 = nI i := by
    rw [um_wr_nk (by omega), um_wr_nk (by omega), um_wr_nk (by omega), um_wr_nk (by omega), um_wr_nk (by omega), um_wr_nk (by omega)]
    exact h5
  have go : f_X9_parse M = um_let (fun (x14 : Int32) => um_let (um_wr (um_wr (um_wr (um_wr (um_wr (um_wr (um_wr M 0 10 (0 : Int32)) 0 11 (3 : Int32)) 0 14 (0 : Int32)) 0 15 (0 : Int32)) 0 16 (0 : Int32)) 0 18 (0 : Int32)) 0 17 x14) fun σ15 => mT σ15) fun k13 => if (14 : Int32) ≤ ((um_wr (um_wr (um_wr (um_wr (um_wr (um_wr M 0 10 (0 : Int32)) 0 11 (3 : Int32)) 0 14 (0 : Int32)) 0 15 (0 : Int32)) 0 16 (0 : Int32)) 0 18 (0 : Int32)).1 1 5) then k13 (3590 : Int32) else ((f_X9_textAt ((um_wr (um_wr (um_wr (um_wr (um_wr (um_wr M 0 10 (0 : Int32)) 0 11 (3 : Int32)) 0 14 (0 : Int32)) 0 15 (0 : Int32)) 0 16 (0 : Int32)) 0 18 (0 : Int32)).1 1 5) (um_wr (um_wr (um_wr (um_wr (um_wr (um_wr M 0 10 (0 : Int32)) 0 11 (3 : Int32)) 0 14 (0 : Int32)) 0 15 (0 : Int32)) 0 16 (0 : Int32)) 0 18 (0 : Int32))).bind fun x37 => k13 (x37 + (4 : Int32))) := rfl
  rw [go, e5]
  unfold um_let
  try dsimp only
  by_cases h14 : 14 ≤ i
  · have e14 : (14 : Int32) ≤ nI i := nI_le (a := 14) h14 (by omega)
    rw [if_pos h14] at hb
    rw [if_pos e14, hb]
    rfl
  · have e14 : ¬ (14 : Int32) ≤ nI i := nI_ge (b := 14) (by omega) (by omega)
    rw [if_neg h14] at hb
    rw [if_neg e14]
    unfold f_X9_textAt
    rw [Option.bind_some, lm_200, lb_780, la_4, hb]
    rfl
theorem m_begin (hb : base + 196 ≤ 3790) : (∀ k j, (k ≠ 0 ∨ j < 9) → (mB M base).1 k j = M.1 k j) ∧ mG base M (mB M base) ∧ (mB M base).1 0 10 = nI 0 ∧ (mB M base).1 0 14 = nI 0 ∧ (mB M base).1 0 15 = nI 0 ∧ (mB M base).1 0 18 = nI 0 ∧ mP (mB M base) base [] := by
  unfold mB
  refine ⟨fun k j h => ?_, ?_, ?_, ?_, ?_, ?_, um_wr_at _ _ _ _, ?_, trivial, by decide, hb⟩
  · by_cases e : k = 0
    · subst e
      rw [um_wr_an (by omega), um_wr_an (by omega), um_wr_an (by omega), um_wr_an (by omega), um_wr_an (by omega), um_wr_an (by omega), um_wr_an (by omega)]
    · rw [um_wr_nk e, um_wr_nk e, um_wr_nk e, um_wr_nk e, um_wr_nk e, um_wr_nk e, um_wr_nk e]
  · exact mG_trans (mG_wr (by omega)) (mG_trans (mG_wr (by omega)) (mG_trans (mG_wr (by omega)) (mG_trans (mG_wr (by omega)) (mG_trans (mG_wr (by omega)) (mG_trans (mG_wr (by omega)) (mG_wr (by omega)))))))
  · rw [um_wr_an (by omega), um_wr_an (by omega), um_wr_an (by omega), um_wr_an (by omega), um_wr_an (by omega), um_wr_an (by omega), um_wr_at]; rfl
  · rw [um_wr_an (by omega), um_wr_an (by omega), um_wr_an (by omega), um_wr_an (by omega), um_wr_at]; rfl
  · rw [um_wr_an (by omega), um_wr_an (by omega), um_wr_an (by omega), um_wr_at]; rfl
  · rw [um_wr_an (by omega), um_wr_at]; rfl
  · rw [um_wr_an (by omega), um_wr_an (by omega), um_wr_at]; rfl
theorem mT_no (h1 : f_X9_next M = some M2) (h2 : f_X9_key M2 = some (-1)) : mT M = some (-1, um_wr M2 0 8 (0 : Int32)) := by
  unfold mT
  rw [h1, Option.bind_some, h2, Option.bind_some]
  rfl
theorem mT_f {M3 M4 : um_S} (h1 : f_X9_next M = some M2) (hk : kk < 5) (h2 : f_X9_key M2 = some (nI kk)) (h3 : f_X9_next M2 = some M3) (h4 : f_X9_either (f_X9_part0 20) (nI kk) M3 = some (false, M4)) : mT M = some (-1, um_wr M4 0 8 (0 : Int32)) := by
  have n0 : ¬ nI kk < 0 := nI_pos (by omega)
  unfold mT
  rw [h1, Option.bind_some, h2, Option.bind_some]
  unfold um_let
  try dsimp only
  rw [if_neg n0, if_neg (by decide), h3, Option.bind_some, h4, um_b2_some]
  rfl
theorem mT_t {M3 M4 : um_S} (h1 : f_X9_next M = some M2) (hk : kk < 5) (h2 : f_X9_key M2 = some (nI kk)) (h3 : f_X9_next M2 = some M3) (h4 : f_X9_either (f_X9_part0 20) (nI kk) M3 = some (true, M4)) : mT M = if M4.1 0 11 = 0 then some (nI kk, um_wr M4 0 8 (0 : Int32)) else some (-1, um_wr M4 0 8 (0 : Int32)) := by
  have n0 : ¬ nI kk < 0 := nI_pos (by omega)
  unfold mT
  rw [h1, Option.bind_some, h2, Option.bind_some]
  unfold um_let
  try dsimp only
  rw [if_neg n0, if_neg (by decide), h3, Option.bind_some, h4, um_b2_some, if_neg (by decide)]
  by_cases h : M4.1 0 11 = 0
  · rw [if_pos h, if_pos h, if_neg (by decide)]
  · rw [if_neg h, if_neg h, if_pos rfl]
/-- both read -/
theorem fp_ (ht : tp X M z b) (h5 : M.1 1 5 = nI i) (hi : i ≤ 14) (hb : base = if 14 ≤ i then 3590 else 780 + 200 * i + 4) : ∃ r X' x M', f_X6_faultPlace X = some (r, X') ∧ f_X9_parse M = some (x, M') ∧ xG X X' ∧ mG base M M' ∧ M'.1 0 8 = 0 ∧ ((∃ st : Nat, st ≤ 96 ∧ r = nI st ∧ x = -1 ∧ M'.1 0 9 = nI st) ∨ (r = -1 ∧ ∃ kk : Nat, kk < 5 ∧ x = nI kk ∧ goo kk base X' M')) := by
  have hbase : base + 196 ≤ 3790 := by
    rw [hb]
    split <;> omega
  obtain ⟨X1, x1, x2, x3, x4, x5, x6, x7, x8, x9⟩ := x_begin (X := X)
  obtain ⟨m1, m2, m3, m4, m5, m6, m7⟩ := m_begin (M := M) hbase
  have ht1 : tp X1 (mB M base) z b := tp_G ht x2 (fun k j h1 h2 => m1 k j h1)
  have hz := ht.2.2.1
  have q1 : ¬ (0 : Int32) = 1 := by decide
  have q2 : ¬ (0 : Int32) = 2 := by decide
  have q3 : nI 0 ≤ (0 : Int32) := by decide
  obtain ⟨X2, M2, r1, r2, st, en, t, gl, r3, r4, r5, r6, r7⟩ := nx_ (pr := false) (e := 0) ht1 (by omega) x3 m3 (by rw [x4]; exact ⟨fun z => z.elim (fun z => absurd z q1) (fun z => absurd z q2), fun z => by cases z⟩) (by rw [m3]; exact ⟨fun z => absurd q3 z.1, fun z => by cases z⟩)
  have hgl : gl = false := by
    cases gl with
    | false => rfl
    | true => cases r4 rfl
  subst hgl
  have ht2 := tp_of ht1 r6 r7
  obtain ⟨x, k1, k2, k3⟩ := key_ ht2 r5
  have hez := r5.2.1
  have hse := r5.1
  rw [m_parse h5 hi hb]
  have fp0 : ∀ v : Int32, f_X6_keyHere X2 = some v → f_X6_faultPlace X = if 0 ≤ v then um_s1 (f_X6_faultPlace_l30 um_N (0 : Int32) (um_wr X2 4 11 v)) (fun σ9 => some (σ9.1 4 2, σ9)) else some (nI st, um_wr X2 4 11 v) := fun v hv => by
    unfold f_X6_faultPlace
    rw [x1, Option.bind_some, r1, Option.bind_some, hv, Option.bind_some]
    unfold um_let
    try dsimp only
    rw [um_wr_at, um_wr_an (i := 11) (j := 2) (by omega), r5.2.2.2.1.1]
  have xG2 : ∀ v : Int32, xG X (um_wr X2 4 11 v) := fun v => xG_trans x2 (xG_trans (xF_xG (xr_xF r6)) (xG_wr (by omega)))
  have mG2 : mG base M M2 := mG_trans m2 (mE_mG (mr_mE r7))
  rcases k3 with e | ⟨kk, k4, k5, k6, k7⟩
  · subst e
    have n1 : ¬ (0 : Int32) ≤ -1 := by decide
    refine ⟨nI st, um_wr X2 4 11 (-1), -1, um_wr M2 0 8 (0 : Int32), by rw [fp0 _ k1, if_neg n1], mT_no r2 k2, xG2 _, mG_trans mG2 (mG_wr (by omega)), um_wr_at _ _ _ _, Or.inl ⟨st, by omega, rfl, rfl, ?_⟩⟩
    rw [um_wr_an (by omega)]
    exact r5.2.2.2.2.1.1
  · subst k5
    have p0 : (0 : Int32) ≤ nI kk := nI_pos' (by omega)
    have C1 : CO kk z base b (um_wr X2 4 11 (nI kk)) M2 0 0 0 1 [] [] [] en := by
      refine ⟨tp_G ht2 (xG_wr (by omega)) (fun _ _ _ _ => rfl), ?_, um_wr_at _ _ _ _, ⟨?_, ?_, by omega⟩, ⟨?_, ?_, by omega, by omega⟩, ce_wr (ce_r x6 r6) (by omega) (by omega), mP_r m7 r7, ⟨?_, ?_⟩, ?_⟩
      · rw [um_wr_an (by omega), r6.1 4 6 (by omega)]; exact x5
      · rw [um_wr_an (by omega), r6.1 4 13 (by omega)]; exact x8
      · rw [r7 0 14 (by omega)]; exact m4
      · rw [um_wr_an (by omega), r6.1 4 14 (by omega)]; exact x9
      · rw [r7 0 15 (by omega)]; exact m5
      · rw [um_wr_an (by omega), r6.1 4 12 (by omega)]; exact x7
      · rw [r7 0 18 (by omega)]; exact m6
      · change 0 + 0 + 3 ≤ en
        omega
    obtain ⟨X3, M3, st3, en3, t3, gl3, s1, s2, s3, s4, s5, s6⟩ := nxt (X1 := um_wr X2 4 11 (nI kk)) C1.1 r5 (by omega) (fun e => by omega) (by rw [um_wr_an (by omega)]) (by rw [um_wr_an (by omega)]) rfl rfl
    have l30 : f_X6_faultPlace_l30 um_N (0 : Int32) (um_wr X2 4 11 (nI kk)) = bdy 4095 (nI 0) X3 := by
      refine Eq.trans (l30_bdy (n := 4095) (j := 0) (by omega)) ?_
      rw [s1]
      rfl
    have fp1 : f_X6_faultPlace X = um_s1 (bdy 4095 (nI 0) X3) (fun σ9 => some (σ9.1 4 2, σ9)) := by rw [fp0 _ k1, if_pos p0, l30]
    obtain ⟨ok, M4, e1, e2, e3⟩ := lev_top (z := z) (base := base) (b := b) (show kk < 5 by omega) X3 M3 st3 en3 t3 gl3 0 0 [] [] [] 4095 0 (CO_r C1 s5 s6 s3) s4 trivial (fun c S' e => by cases e) (by omega) (by omega) (by omega)
    have xG3 : xG X X3 := xG_trans (xG2 _) (xF_xG (xr_xF s5))
    have mG4 : mG base M M4 := mG_trans mG2 (mG_trans (mE_mG (mr_mE s6)) (mE_mG e2))
    rcases e3 with ⟨e, st', X', f1, f2, f3, f4⟩ | ⟨e, st', X', en', t', gl', T, R1, P', n', j', f1, f2, f3, f4, f5, f6, f7, f8, f9, f10, f11⟩
    · subst e
      refine ⟨nI st', X', -1, um_wr M4 0 8 (0 : Int32), by rw [fp1, f2]; rfl, mT_f r2 (by omega) k2 s2 e1, xG_trans xG3 (xF_xG f4), mG_trans mG4 (mG_wr (by omega)), um_wr_at _ _ _ _, Or.inl ⟨st', f1, rfl, rfl, ?_⟩⟩
      rw [um_wr_an (by omega)]
      exact f3
    · subst e
      have htt := tn_t f3
      have hz' := f2.1.2.2.1
      have hez' := f3.2.1
      have hse' := f3.1
      by_cases t0 : t' = 0
      · have e11 : M4.1 0 11 = 0 := f3.2.2.2.2.2.1 t0
        have y4 : X'.1 4 4 = 0 := by rw [f3.2.2.2.1.2.2.1, t0]; rfl
        obtain ⟨u1, u2, u3, ⟨u4, u5, u6⟩, ⟨v1, v2, v3, v4⟩, u8, u9, ⟨u10, u11⟩, u12⟩ := f2
        rw [List.append_nil] at u8 u12
        have hbd : bdy n' (nI j') X' = some (.inl (-1, X')) := by
          have q0 : nI 0 ≤ (0 : Int32) := by decide
          unfold bdy f_X6_endsTooSoon
          rw [if_pos y4, if_pos u2, u4, if_pos q0, Option.bind_some, if_pos (show um_b false = 0 from rfl)]
        refine ⟨-1, X', nI kk, um_wr M4 0 8 (0 : Int32), by rw [fp1, f1, hbd]; rfl, by rw [mT_t r2 (by omega) k2 s2 e1, if_pos e11], xG_trans xG3 (xF_xG f10), mG_trans mG4 (mG_wr (by omega)), um_wr_at _ _ _ _, Or.inr ⟨rfl, kk, by omega, rfl, u3, T, R1, P', u8, f5, mP_wr u9 (by omega) (by omega), f4, f6 0 rfl, u10, ?_, by omega⟩⟩
        rw [um_wr_an (by omega)]
        exact u11
      · have n11 : ¬ M4.1 0 11 = 0 := by
          rcases htt with e | e | e | e
          · exact absurd e t0
          · rw [(f3.2.2.2.2.2.2.2.1 e).2.1]
            split <;> decide
          · rw [(f3.2.2.2.2.2.2.2.2 e).2.1]
            split <;> decide
          · rw [(f3.2.2.2.2.2.2.1 e).2.2.1]
            decide
        obtain ⟨X4, b1, b2⟩ := join_ref (n := n') (v1 := nI j') f3 f2 f11 (fun z => by omega) (fun z => absurd z t0)
        refine ⟨nI st', X4, -1, um_wr M4 0 8 (0 : Int32), by rw [fp1, f1, b1]; rfl, by rw [mT_t r2 (by omega) k2 s2 e1, if_neg n11], xG_trans xG3 (xG_trans (xF_xG f10) (xF_xG b2)), mG_trans mG4 (mG_wr (by omega)), um_wr_at _ _ _ _, Or.inl ⟨st', by omega, rfl, rfl, ?_⟩⟩
        rw [um_wr_an (by omega)]
        exact f3.2.2.2.2.1.1
end FPL
