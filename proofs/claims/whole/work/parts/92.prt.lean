/-! LEVEL 2: texts: a part, both sides -/
def xi6 (kk z base : Nat) (b : Nat → Nat) (X M' : um_S) (n j st nd nt k : Nat) (R : List Int32) (S : List Nat) : Prop :=
  ∃ X' st' en' t' gl' R2 P' n' j', bdy n (nI j) X = bdy n' (nI j') X' ∧ CO kk z base b X' M' nd (nt - k) nt 0 (List.replicate k (-33) ++ R2) S P' st' ∧ TK X' M' z b st' en' t' gl' ∧ al kk R2 P' ∧ hH R R2 ∧ 97 ≤ n' + st' ∧ j' ≤ st' ∧ st < st' ∧ xF X X'
def lev6 (kk z base : Nat) (b : Nat → Nat) (D : Nat) (F : um_S → Option (Bool × um_S)) : Prop :=
  ∀ (X M : um_S) (st en t : Nat) (gl : Bool) (nd nt : Nat) (R : List Int32) (S : List Nat) (P : List (Int32 × Int32)) (k n j : Nat), CO kk z base b X M nd nt nt 1 R (List.replicate k 33 ++ S) P st → TK X M z b st en t gl → al kk R P → hn S → k ≤ nt → 97 ≤ n + st → j ≤ st → 17 ≤ D + nd + nt →
  ∃ ok M', F M = some (ok, M') ∧ mE base M M' ∧ ((ok = false ∧ fal X M' n j) ∨ (ok = true ∧ xi6 kk z base b X M' n j st nd nt k R S))
section PRT
variable {X X1 M M1 : um_S} {kk z base st en t n j nd nx nt k D e : Nat} {b : Nat → Nat} {gl : Bool} {w v : Int32} {R : List Int32} {S : List Nat} {P : List (Int32 × Int32)} {F : um_S → Option (Bool × um_S)} {Pp : Int32 → um_S → Option (Bool × um_S)} {a : Int32}
theorem cv_33 : ∀ (k : Nat) (R : List Int32), cv (List.replicate k (-33) ++ R) = cv R
  | 0, R => rfl
  | k + 1, R => by
    change cv (List.replicate k (-33) ++ R) + (if (-33 : Int32) < -3 then 0 else 1) = cv R
    rw [if_pos (by decide), Nat.add_zero]
    exact cv_33 k R
theorem cv_v (h : ¬ v < (-3 : Int32)) : cv (v :: R) = cv R + 1 := by
  change cv R + (if v < (-3 : Int32) then 0 else 1) = _
  rw [if_neg h]
theorem hg_v (h : ¬ v < (-3 : Int32)) : hH R (v :: R) := fun i e => by
  unfold hg
  rw [e, Option.bind_some, if_neg h]
theorem hg_33 {R2 : List Int32} (h : hH R R2) : hH R (-33 :: R2) := fun i e => by
  have e2 := h i e
  have q1 : (-33 : Int32) < -3 := by decide
  unfold hg
  rw [e2, Option.bind_some, if_pos q1, if_pos rfl, if_pos (by omega)]
theorem mP_wr {i : Nat} (h : mP M base P) (h1 : i ≠ 16) (h2 : i ≠ 17) : mP (um_wr M 0 i v) base P := by
  obtain ⟨a1, a2, a3, a4, a5⟩ := h
  exact ⟨by rw [um_wr_an (fun z => h2 z.symm)]; exact a1, by rw [um_wr_an (fun z => h1 z.symm)]; exact a2, pil2_of (fun j _ => um_wr_nk (by omega)) a3, a4, a5⟩
theorem lev6_lev (h : lev6 kk z base b D F) : lev kk z base b D 6 F := by
  intro X M st en t gl nd nt R S P n j hC hK ha hS hn hj hD
  obtain ⟨ok, M', e1, e2, e3⟩ := h X M st en t gl nd nt R S P 0 n j hC hK ha (fun c S' e => (hS c S' e).2) (by omega) hn hj hD
  refine ⟨ok, M', e1, e2, ?_⟩
  rcases e3 with e3 | ⟨e, X', st', en', t', gl', R2, P', n', j', f1, f2, f3, f4, f5, f6, f7, f8, f9⟩
  · exact Or.inl e3
  · exact Or.inr ⟨e, st', X', en', t', gl', [], R2, P', n', j', f1, f2, f3, f4, fun c hc => absurd hc (List.not_mem_nil), f5, f6, f7, f8, f9, fun _ => Or.inl (by have := rk_le (c := b st'); omega)⟩
/-- a value -/
theorem pv_val {a v' : Int32} (hC : CO kk z base b X M nd nt nt 1 R (List.replicate k 33 ++ S) P st) (hK : TK X M z b st en t false) (t0 : t ≠ 0) (h2 : t = 2 → en - st ≤ 4) (ha : al kk R P) (hn : 97 ≤ n + st) (hj : j ≤ st) (hv : ¬ v < (-3 : Int32)) (hx : tx_st kk v a v') (a1 : f_X6_takesPart X = some (true, X1)) (a2 : ce X1 (List.replicate k (-33) ++ (v :: R)) S) (a3 : X1.1 4 14 = nI (nt - k)) (a4 : X1.1 4 6 = 0) (a5 : X1.1 4 12 = nI (cv R + 1)) (a6 : X1.1 4 13 = X.1 4 13) (a7 : xE X X1) :
    ∃ M3, ((f_X9_step a v' M).bind fun σ34 => um_let (um_wr σ34 0 18 (σ34.1 0 18 + (1 : Int32))) fun σ35 => (f_X9_next σ35).bind fun σ38 => some (true, σ38)) = some (true, M3) ∧ mE base M M3 ∧ xi6 kk z base b X M3 n j st nd nt k R S := by
  obtain ⟨c1, c2, c3, ⟨c4, c5, c6⟩, ⟨d1, d2, d3, d4⟩, c8, c9, ⟨c10, c11⟩, c12⟩ := hC
  have hz := c1.2.2.1
  have hez := hK.2.1
  have hlt := tn_lt hK t0
  have l1 : (List.replicate k 33 ++ S).length = k + S.length := by rw [List.length_append, List.length_replicate]
  have l2 : (List.replicate k (-33 : Int32) ++ (v :: R)).length = k + (R.length + 1) := by rw [List.length_append, List.length_replicate]; rfl
  have l3 := al_len ha
  obtain ⟨M1, m1, m2, m3, m4⟩ := m_step (a := a) (v := v') c9 (by omega)
  have e18 : M1.1 0 18 + 1 = nI (cv R + 1) := by rw [m4 18 (by omega), c11, nI_1]
  have mm : mE base M (um_wr M1 0 18 (nI (cv R + 1))) := mE_trans m3 (mE_wr (by omega))
  have ecv : cv (List.replicate k (-33) ++ (v :: R)) = cv R + 1 := by rw [cv_33, cv_v hv]
  have C1 : CO kk z base b X1 (um_wr M1 0 18 (nI (cv R + 1))) nd (nt - k) nt 0 (List.replicate k (-33) ++ (v :: R)) S ((a, v') :: P) en := ⟨tp_M (tp_E c1 a7) mm, a4, by rw [a7.1 4 11 (by omega) (by omega) (by omega)]; exact c3, ⟨a6.trans c4, by rw [um_wr_an (by omega), m4 14 (by omega)]; exact c5, c6⟩, ⟨a3, by rw [um_wr_an (by omega), m4 15 (by omega)]; exact d2, by omega, d4⟩, a2, mP_wr m2 (by omega) (by omega), ⟨by rw [ecv]; exact a5, by rw [ecv]; exact um_wr_at _ _ _ _⟩, by omega⟩
  obtain ⟨X2, M2, st2, en2, t2, gl2, r1, r2, r3, r4, r5, r6⟩ := nxt C1.1 hK t0 h2 (a7.1 4 3 (by omega) (by omega) (by omega)) (a7.1 4 4 (by omega) (by omega) (by omega)) (by rw [um_wr_an (by omega), m4 10 (by omega)]) (by rw [um_wr_an (by omega), m4 11 (by omega)])
  obtain ⟨n1, rfl⟩ : ∃ g, n = g + 1 := ⟨n - 1, by omega⟩
  have hb := bdy_part (n := n1) (j := j) hK t0 c2 a1 (by omega) r1
  refine ⟨M2, ?_, mE_trans mm (mr_mE r6), X2, st2, en2, t2, gl2, v :: R, (a, v') :: P, n1, j + 1, hb, CO_r C1 r5 r6 r3, r4, ⟨hx, ha⟩, hg_v hv, by omega, by omega, by omega, xF_trans (xE_xF a7) (xr_xF r5)⟩
  rw [m1, Option.bind_some]
  unfold um_let
  rw [e18]
  dsimp only
  rw [r2]
  rfl
theorem fk_num (h : M.1 0 11 = 2) : fk_X9_part0 Pp a M = (f_X9_step (0 : Int32) (M.1 0 12) M).bind fun σ34 => um_let (um_wr σ34 0 18 (σ34.1 0 18 + (1 : Int32))) fun σ35 => (f_X9_next σ35).bind fun σ38 => some (true, σ38) := by
  unfold fk_X9_part0
  rw [if_pos h]
theorem fk_name (h : M.1 0 11 = 1) (h0 : ¬ M.1 0 13 = 0) (hn : f_X9_isName a (M.1 0 13) M = some true) : fk_X9_part0 Pp a M = (f_X9_step (1 : Int32) (M.1 0 13) M).bind fun σ34 => um_let (um_wr σ34 0 18 (σ34.1 0 18 + (1 : Int32))) fun σ35 => (f_X9_next σ35).bind fun σ38 => some (true, σ38) := by
  have n2 : ¬ M.1 0 11 = 2 := by rw [h]; decide
  unfold fk_X9_part0
  rw [if_neg n2]
  refine (if_pos h).trans ((if_neg h0).trans ?_)
  rw [hn, Option.bind_some]
  exact if_neg (by decide)
theorem fk_open (ht : tp X M z b) (hK : TK X M z b st en t gl) (t3 : t = 3) (hb : b st = 40) (m14 : M.1 0 14 = nI nd) (hnd : nd < 8) : fk_X9_part0 Pp a M = (f_X9_next (um_wr M 0 14 (nI (nd + 1)))).bind fun σ10 => um_b2 (f_X9_either Pp a σ10) fun x13 σ12 => if um_b x13 = 0 then some (false, σ12) else (f_X9_isSign (41 : Int32) σ12).bind fun x15 => if um_b x15 = 0 then some (false, σ12) else um_let (um_wr σ12 0 14 ((σ12.1 0 14) - (1 : Int32))) fun σ16 => (f_X9_next σ16).bind fun σ19 => some (true, σ19) := by
  have h11 := (hK.2.2.2.2.2.2.1 t3).2.2.1
  have n2 : ¬ M.1 0 11 = 2 := by rw [h11]; decide
  have n1 : ¬ M.1 0 11 = 1 := by rw [h11]; decide
  have n8 : ¬ nI nd = (8 : Int32) := fun z => by
    have := (nI_eq (b := 8) (by omega) (by omega)).mp z
    omega
  have s33 := sg_n (x := 33) (c := 33) ht hK rfl (by omega)
  have s40 := sg_n (x := 40) (c := 40) ht hK rfl (by omega)
  rw [decide_eq_false (fun z => by omega)] at s33
  rw [decide_eq_true ⟨t3, hb⟩] at s40
  unfold fk_X9_part0
  rw [if_neg n2]
  refine (if_neg n1).trans ?_
  rw [s33, Option.bind_some]
  unfold um_let
  try dsimp only
  rw [if_pos (show um_b false = 0 from rfl), s40, Option.bind_some, if_neg (show ¬ um_b true = 0 by decide), m14, if_neg n8, nI_1]
theorem fk_not (ht : tp X M z b) (hK : TK X M z b st en t gl) (t3 : t = 3) (hb : b st = 33) (m15 : M.1 0 15 = nI nt) (hnt : nt < 8) : fk_X9_part0 Pp a M = (f_X9_next (um_wr M 0 15 (nI (nt + 1)))).bind fun σ23 => um_b2 (Pp a σ23) fun x26 σ25 => if um_b x26 = 0 then some (false, σ25) else um_let (um_wr σ25 0 15 ((σ25.1 0 15) - (1 : Int32))) fun σ27 => (f_X9_step (2 : Int32) (33 : Int32) σ27).bind fun σ30 => some (true, σ30) := by
  have h11 := (hK.2.2.2.2.2.2.1 t3).2.2.1
  have n2 : ¬ M.1 0 11 = 2 := by rw [h11]; decide
  have n1 : ¬ M.1 0 11 = 1 := by rw [h11]; decide
  have n8 : ¬ (8 : Int32) ≤ nI nt := nI_ge (b := 8) (by omega) (by omega)
  have s33 := sg_n (x := 33) (c := 33) ht hK rfl (by omega)
  rw [decide_eq_true ⟨t3, hb⟩] at s33
  unfold fk_X9_part0
  rw [if_neg n2]
  refine (if_neg n1).trans ?_
  rw [s33, Option.bind_some]
  unfold um_let
  try dsimp only
  rw [if_neg (show ¬ um_b true = 0 by decide), m15, if_neg n8, nI_1]
/-- '(' -/
theorem pv_open (hE : lev kk z base b D 1 (f_X9_either Pp a)) (hC : CO kk z base b X M nd nt nt 1 R (List.replicate k 33 ++ S) P st) (hK : TK X M z b st en t false) (ha : al kk R P) (hS : hn S) (hk : k ≤ nt) (hn : 97 ≤ n + st) (hj : j ≤ st) (hD : 17 ≤ D + 1 + nd + nt) (t3 : t = 3) (hb : b st = 40) (hnd : nd < 8) : ∃ ok M', fk_X9_part0 Pp a M = some (ok, M') ∧ mE base M M' ∧ ((ok = false ∧ fal X M' n j) ∨ (ok = true ∧ xi6 kk z base b X M' n j st nd nt k R S)) := by
  obtain ⟨c1, c2, c3, ⟨c4, c5, c6⟩, ⟨d1, d2, d3, d4⟩, c8, c9, ⟨c10, c11⟩, c12⟩ := hC
  have hz := c1.2.2.1
  have hez := hK.2.1
  have t0 : t ≠ 0 := by omega
  have hlt := tn_lt hK t0
  have l1 : (List.replicate k 33 ++ S).length = k + S.length := by rw [List.length_append, List.length_replicate]
  have l2 : (40 :: (List.replicate k 33 ++ S)).length = k + S.length + 1 := by
    change (List.replicate k 33 ++ S).length + 1 = _
    rw [l1]
  obtain ⟨X1, a1, a2, a3, ⟨a4, a5, a6⟩, a7⟩ := x_open c1 hK.2.2.2.1.1 (show st < z by omega) (by rw [hK.2.2.2.1.2.2.1, t3]) hb c8 c4 hnd (by omega)
  have mm : mE base M (um_wr M 0 14 (nI (nd + 1))) := mE_wr (by omega)
  have C1 : CO kk z base b X1 (um_wr M 0 14 (nI (nd + 1))) (nd + 1) nt nt 1 R (40 :: (List.replicate k 33 ++ S)) P en := ⟨tp_M (tp_E c1 a7) mm, a4.trans c2, by rw [a7.1 4 11 (by omega) (by omega) (by omega)]; exact c3, ⟨a3, um_wr_at _ _ _ _, by omega⟩, ⟨a6.trans d1, by rw [um_wr_an (by omega)]; exact d2, d3, d4⟩, a2, mP_wr c9 (by omega) (by omega), ⟨a5.trans c10, by rw [um_wr_an (by omega)]; exact c11⟩, by omega⟩
  obtain ⟨X2, M2, st2, en2, t2, gl2, r1, r2, r3, r4, r5, r6⟩ := nxt C1.1 hK t0 (fun e => by omega) (a7.1 4 3 (by omega) (by omega) (by omega)) (a7.1 4 4 (by omega) (by omega) (by omega)) (by rw [um_wr_an (by omega)]) (by rw [um_wr_an (by omega)])
  obtain ⟨n1, rfl⟩ : ∃ g, n = g + 1 := ⟨n - 1, by omega⟩
  have hb1 := bdy_part (n := n1) (j := j) hK t0 c2 a1 (by omega) r1
  obtain ⟨ok, M3, e1, e2, e3⟩ := hE X2 M2 st2 en2 t2 gl2 (nd + 1) nt R (40 :: (List.replicate k 33 ++ S)) P n1 (j + 1) (CO_r C1 r5 r6 r3) r4 ha (fun c S' e => by
    rw [← (List.cons.inj e).1]
    decide) (by omega) (by omega) (by omega)
  have xx : xF X X2 := xF_trans (xE_xF a7) (xr_xF r5)
  have mm3 : mE base M M3 := mE_trans mm (mE_trans (mr_mE r6) e2)
  rw [fk_open c1 hK t3 hb c5 hnd, r2, Option.bind_some, e1, um_b2_some]
  rcases e3 with ⟨e, g⟩ | ⟨e, st', X3, en3, t3', gl3, T, R1, P2, n3, j3, f1, f2, f3, f4, f5, f6, f7, f8, f9, f10, f11⟩
  · subst e
    exact ⟨false, M3, rfl, mm3, Or.inl ⟨rfl, fal_of hb1 xx g⟩⟩
  · subst e
    have s41 := sg_n (x := 41) (c := 41) f2.1 f3 rfl (by omega)
    rw [if_neg (by decide), s41, Option.bind_some]
    have hez3 := f3.2.1
    have hse3 := f3.1
    by_cases h41 : t3' = 3 ∧ b st' = 41
    · rw [decide_eq_true h41, if_neg (by decide)]
      have hg3 := ((f3.2.2.2.2.2.2.1) h41.1).1
      subst hg3
      have hlt3 := tn_lt f3 (by omega)
      obtain ⟨u1, u2, u3, ⟨u4, u5, u6⟩, ⟨v1, v2, v3, v4⟩, u8, u9, ⟨u10, u11⟩, u12⟩ := f2
      have l4 : (T ++ 40 :: (List.replicate k 33 ++ S)).length = T.length + (k + S.length + 1) := by rw [List.length_append, l2]
      have hT1 : ∀ c, c ∈ T → 1 ≤ rk c := f5
      obtain ⟨X4, b1, b2, b3, b4, b5, b6, b7⟩ := x_close u1 f3.2.2.2.1.1 (show st' < z by omega) h41.2 hS hT1 u8 u4 (by omega) v1 hk v4 (by omega)
      have e14 : M3.1 0 14 - 1 = nI nd := by
        rw [u5]
        exact nI_sub (a := nd + 1) (b := 1) (by omega)
      have mm4 : mE base M3 (um_wr M3 0 14 (nI nd)) := mE_wr (by omega)
      have w1 := wt_len T R1
      have l5 : (List.replicate k (-33 : Int32) ++ wt T R1).length = k + (T.length + R1.length) := by rw [List.length_append, List.length_replicate, w1]
      have ecv : cv (List.replicate k (-33) ++ wt T R1) = cv R1 := by rw [cv_33, cv_wt T R1 hT1]
      have C4 : CO kk z base b X4 (um_wr M3 0 14 (nI nd)) nd (nt - k) nt 0 (List.replicate k (-33) ++ wt T R1) S P2 en3 := ⟨tp_M (tp_E u1 b7) mm4, b5, by rw [b7.1 4 11 (by omega) (by omega) (by omega)]; exact u3, ⟨b4, um_wr_at _ _ _ _, by omega⟩, ⟨b3, by rw [um_wr_an (by omega)]; exact v2, by omega, v4⟩, b2, mP_wr u9 (by omega) (by omega), ⟨by rw [ecv]; exact b6.trans u10, by rw [ecv, um_wr_an (by omega)]; exact u11⟩, by omega⟩
      obtain ⟨X5, M5, st5, en5, t5, gl5, o1, o2, o3, o4, o5, o6⟩ := nxt C4.1 f3 (by omega) (fun e => by omega) (b7.1 4 3 (by omega) (by omega) (by omega)) (b7.1 4 4 (by omega) (by omega) (by omega)) (by rw [um_wr_an (by omega)]) (by rw [um_wr_an (by omega)])
      obtain ⟨n4, rfl⟩ : ∃ g, n3 = g + 1 := ⟨n3 - 1, by omega⟩
      have hb4 := bdy_join (n := n4) (j := j3) f3 (by omega) u2 b1 (by omega) o1
      refine ⟨true, M5, ?_, mE_trans mm3 (mE_trans mm4 (mr_mE o6)), Or.inr ⟨rfl, X5, st5, en5, t5, gl5, wt T R1, P2, n4, j3 + 1, hb1.trans (f1.trans hb4), CO_r C4 o5 o6 o3, o4, f4, f6, by omega, by omega, by omega, xF_trans xx (xF_trans f10 (xF_trans (xE_xF b7) (xr_xF o5)))⟩⟩
      unfold um_let
      rw [e14]
      dsimp only
      rw [o2]
      rfl
    · rw [decide_eq_false h41, if_pos (show um_b false = 0 from rfl)]
      obtain ⟨X4, b1, b2⟩ := join_ref (n := n3) (v1 := nI j3) f3 f2 f11 (fun z => h41 ⟨z.1, z.2.1⟩) (fun _ => by omega)
      have hz3 := f2.1.2.2.1
      exact ⟨false, M3, rfl, mm3, Or.inl ⟨rfl, fal_of (hb1.trans f1) (xF_trans xx f10) ⟨st', X4, by omega, b1, f3.2.2.2.2.1.1, b2⟩⟩⟩
/-- '!' -/
theorem pv_not (hP : lev6 kk z base b D (Pp a)) (hC : CO kk z base b X M nd nt nt 1 R (List.replicate k 33 ++ S) P st) (hK : TK X M z b st en t false) (ha : al kk R P) (hS : hn S) (hk : k ≤ nt) (hn : 97 ≤ n + st) (hj : j ≤ st) (hD : 17 ≤ D + 1 + nd + nt) (t3 : t = 3) (hb : b st = 33) (hnt : nt < 8) : ∃ ok M', fk_X9_part0 Pp a M = some (ok, M') ∧ mE base M M' ∧ ((ok = false ∧ fal X M' n j) ∨ (ok = true ∧ xi6 kk z base b X M' n j st nd nt k R S)) := by
  obtain ⟨c1, c2, c3, ⟨c4, c5, c6⟩, ⟨d1, d2, d3, d4⟩, c8, c9, ⟨c10, c11⟩, c12⟩ := hC
  have hz := c1.2.2.1
  have hez := hK.2.1
  have t0 : t ≠ 0 := by omega
  have hlt := tn_lt hK t0
  have l1 : (List.replicate k 33 ++ S).length = k + S.length := by rw [List.length_append, List.length_replicate]
  have l2 : (List.replicate (k + 1) 33 ++ S).length = k + 1 + S.length := by rw [List.length_append, List.length_replicate]
  obtain ⟨X1, a1, a2, a3, ⟨a4, a5, a6⟩, a7⟩ := x_not c1 hK.2.2.2.1.1 (show st < z by omega) (by rw [hK.2.2.2.1.2.2.1, t3]) hb c8 d1 hnt (by omega)
  have a2' : ce X1 R (List.replicate (k + 1) 33 ++ S) := a2
  have mm : mE base M (um_wr M 0 15 (nI (nt + 1))) := mE_wr (by omega)
  have C1 : CO kk z base b X1 (um_wr M 0 15 (nI (nt + 1))) nd (nt + 1) (nt + 1) 1 R (List.replicate (k + 1) 33 ++ S) P en := ⟨tp_M (tp_E c1 a7) mm, a4.trans c2, by rw [a7.1 4 11 (by omega) (by omega) (by omega)]; exact c3, ⟨a6.trans c4, by rw [um_wr_an (by omega)]; exact c5, c6⟩, ⟨a3, um_wr_at _ _ _ _, by omega, by omega⟩, a2', mP_wr c9 (by omega) (by omega), ⟨a5.trans c10, by rw [um_wr_an (by omega)]; exact c11⟩, by omega⟩
  obtain ⟨X2, M2, st2, en2, t2, gl2, r1, r2, r3, r4, r5, r6⟩ := nxt C1.1 hK t0 (fun e => by omega) (a7.1 4 3 (by omega) (by omega) (by omega)) (a7.1 4 4 (by omega) (by omega) (by omega)) (by rw [um_wr_an (by omega)]) (by rw [um_wr_an (by omega)])
  obtain ⟨n1, rfl⟩ : ∃ g, n = g + 1 := ⟨n - 1, by omega⟩
  have hb1 := bdy_part (n := n1) (j := j) hK t0 c2 a1 (by omega) r1
  obtain ⟨ok, M3, e1, e2, e3⟩ := hP X2 M2 st2 en2 t2 gl2 nd (nt + 1) R S P (k + 1) n1 (j + 1) (CO_r C1 r5 r6 r3) r4 ha hS (by omega) (by omega) (by omega) (by omega)
  have xx : xF X X2 := xF_trans (xE_xF a7) (xr_xF r5)
  have mm3 : mE base M M3 := mE_trans mm (mE_trans (mr_mE r6) e2)
  rw [fk_not c1 hK t3 hb d2 hnt, r2, Option.bind_some, e1, um_b2_some]
  rcases e3 with ⟨e, g⟩ | ⟨e, X3, st', en3, t3', gl3, R2, P2, n3, j3, f1, f2, f3, f4, f5, f6, f7, f8, f9⟩
  · subst e
    exact ⟨false, M3, rfl, mm3, Or.inl ⟨rfl, fal_of hb1 xx g⟩⟩
  · subst e
    have er : List.replicate (k + 1) (-33 : Int32) ++ R2 = List.replicate k (-33) ++ (-33 :: R2) := by
      rw [List.replicate_succ', List.append_assoc]
      rfl
    rw [er, show nt + 1 - (k + 1) = nt - k by omega] at f2
    obtain ⟨u1, u2, u3, ⟨u4, u5, u6⟩, ⟨v1, v2, v3, v4⟩, u8, u9, ⟨u10, u11⟩, u12⟩ := f2
    have e15 : M3.1 0 15 - 1 = nI nt := by
      rw [v2]
      exact nI_sub (a := nt + 1) (b := 1) (by omega)
    have mm4 : mE base M3 (um_wr M3 0 15 (nI nt)) := mE_wr (by omega)
    have hez3 := f3.2.1
    have hse3 := f3.1
    have l3 := al_len f4
    have l5 : (List.replicate k (-33 : Int32) ++ (-33 :: R2)).length = k + (R2.length + 1) := by rw [List.length_append, List.length_replicate]; rfl
    have C4 : CO kk z base b X3 (um_wr M3 0 15 (nI nt)) nd (nt - k) nt 0 (List.replicate k (-33) ++ (-33 :: R2)) S P2 st' := ⟨tp_M u1 mm4, u2, u3, ⟨u4, by rw [um_wr_an (by omega)]; exact u5, u6⟩, ⟨v1, um_wr_at _ _ _ _, v3, by omega⟩, u8, mP_wr u9 (by omega) (by omega), ⟨u10, by rw [um_wr_an (by omega)]; exact u11⟩, u12⟩
    obtain ⟨M5, m1, m2, m3, m4⟩ := CO_step (a := 2) (v := 33) C4 (by omega)
    refine ⟨true, M5, ?_, mE_trans mm3 (mE_trans mm4 m3), Or.inr ⟨rfl, X3, st', en3, t3', gl3, -33 :: R2, (2, 33) :: P2, n3, j3, hb1.trans f1, m2, TK_m f3 (fun i hi => by rw [m4 i (by omega), um_wr_an (by omega)]), ⟨Or.inr (Or.inr (Or.inl ⟨rfl, rfl, rfl⟩)), f4⟩, hg_33 f5, f6, f7, by omega, xF_trans xx f9⟩⟩
    rw [if_neg (by decide)]
    unfold um_let
    rw [e15]
    dsimp only
    rw [m1]
    rfl
theorem lev6_s (hkk : kk < 5) (hP : lev6 kk z base b D (Pp (nI kk))) : lev6 kk z base b (D + 1) (fk_X9_part0 Pp (nI kk)) := by
  intro X M st en t gl nd nt R S P k n j hC hK ha hS hk hn hj hD
  have hCC := hC
  obtain ⟨c1, c2, c3, ⟨c4, c5, c6⟩, ⟨d1, d2, d3, d4⟩, c8, c9, ⟨c10, c11⟩, c12⟩ := hC
  have hz := c1.2.2.1
  have hez := hK.2.1
  have hse := hK.1
  have l1 : (List.replicate k 33 ++ S).length = k + S.length := by rw [List.length_append, List.length_replicate]
  rcases part_cases (n := n) (v1 := nI j) (P := Pp) c1 hK c2 c3 hkk c4 d1 c5 d2 c6 d4 with ⟨u1, u2⟩ | ⟨hg, u⟩
  · exact ⟨false, M, u2, mE_refl, Or.inl ⟨rfl, st, X, by omega, u1, hK.2.2.2.2.1.1, xF_refl⟩⟩
  · subst hg
    have hKK := hK
    obtain ⟨_, _, _, ⟨y2, y3, y4, y5⟩, ⟨y9, y10⟩, q0, q3, q1, q2⟩ := hK
    rcases u with ⟨t2, hl⟩ | ⟨t1, e1, hm⟩ | ⟨t3, hb, hd⟩ | ⟨t3, hb, hd⟩
    · have hlt := tn_lt hKK (by omega)
      obtain ⟨p1, p2, p3, p4⟩ := q2 t2
      rw [if_neg (fun z => z.elim (fun z => by cases z) (fun z => by omega))] at p2
      obtain ⟨X1, a1, a2, a3, a4, a5, a6, a7⟩ := x_num c1 y2 y3 hse hez (by rw [y4, t2]) p4 hl hS c8 c10 d1 hk d4 (by omega)
      have hnv := nv_lt p4 (en - st) (by omega)
      have hp : 10 ^ (en - st) ≤ 10 ^ 4 := Nat.pow_le_pow_right (by omega) hl
      have hv : ¬ nI (nv b st (en - st)) < (-3 : Int32) := fun z => by
        rw [Int32.lt_iff_toInt_lt, nI_toInt (by omega)] at z
        have : (-3 : Int32).toInt = -3 := by decide
        omega
      obtain ⟨M3, w1, w2, w3⟩ := pv_val (n := n) (j := j) (a := 0) (v' := M.1 0 12) hCC hKK (by omega) (fun _ => hl) ha hn hj hv (Or.inl ⟨nv b st (en - st), by omega, rfl, rfl, p3 hl⟩) a1 a2 a3 a4 a5 a6 a7
      exact ⟨true, M3, (fk_num p2).trans w1, w2, Or.inr ⟨rfl, w3⟩⟩
    · have hlt := tn_lt hKK (by omega)
      obtain ⟨p1, p2, p3, p4⟩ := q1 t1
      rw [if_neg (by decide)] at p2
      rw [if_pos (by omega)] at p3
      have hso : so z b st = 1 := p4 st (Nat.le_refl _) p1
      have hs1 := so_1.mp hso
      obtain ⟨X1, a1, a2, a3, a4, a5, a6, a7⟩ := x_name c1 y2 y3 e1 hez (by rw [y4, t1]) hso c3 hkk hm hS c8 c10 d1 hk d4 (by omega)
      have hi := nam_i hkk hm
      have hv : ¬ (-1 - nI ((nmL kk).idxOf (b st))) < (-3 : Int32) := by
        have hi2 := hi.2
        rcases (show (nmL kk).idxOf (b st) = 0 ∨ (nmL kk).idxOf (b st) = 1 ∨ (nmL kk).idxOf (b st) = 2 by omega) with e | e | e <;> rw [e] <;> decide
      have h13 : ¬ M.1 0 13 = 0 := by rw [p3]; exact nI_ne0 (by omega) (by omega)
      have hnm : f_X9_isName (nI kk) (M.1 0 13) M = some true := by
        rw [p3, nam_m hkk hs1.2, decide_eq_true hm]
      obtain ⟨M3, w1, w2, w3⟩ := pv_val (n := n) (j := j) (a := 1) (v' := M.1 0 13) hCC hKK (by omega) (fun _ => by omega) ha hn hj hv (Or.inr (Or.inl ⟨(nmL kk).idxOf (b st), b st, hi.1, rfl, rfl, p3⟩)) a1 a2 a3 a4 a5 a6 a7
      exact ⟨true, M3, (fk_name p2 h13 hnm).trans w1, w2, Or.inr ⟨rfl, w3⟩⟩
    · exact pv_open (lev_all (lev6_lev hP)) hCC hKK ha hS hk hn hj hD t3 hb hd
    · exact pv_not hP hCC hKK ha hS hk hn hj hD t3 hb hd
theorem lev6_ (hkk : kk < 5) : ∀ D, lev6 kk z base b D (f_X9_part0 D (nI kk))
  | 0 => by
    intro X M st en t gl nd nt R S P k n j hC hK ha hS hk hn hj hD
    have h1 := hC.2.2.2.1.2.2
    have h2 := hC.2.2.2.2.1.2.2.2
    omega
  | D + 1 => lev6_s hkk (lev6_ hkk D)
theorem lev_top (hkk : kk < 5) : lev kk z base b 20 1 (f_X9_either (f_X9_part0 20) (nI kk)) := lev_all (lev6_lev (lev6_ hkk 20))
end PRT
