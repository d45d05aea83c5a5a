/-! LEVEL 2: texts: the next token -/
section NXT
variable {A : Type} {X X' X2 M M' M2 : um_S} {z p e : Nat} {b : Nat → Nat} {v w : Int32}
theorem br_x {K : Int32 → Option A} {a : Int32} {pr : Bool} (h : (a = 1 ∨ a = 2) ↔ pr = true) : (um_let K fun k1 => um_let (fun (_u : Unit) => k1 (1 : Int32)) fun k25 => if a = (1 : Int32) then k25 () else (if a = (2 : Int32) then k25 () else k1 (0 : Int32))) = K (um_b pr) := by
  unfold um_let
  try dsimp only
  by_cases h1 : a = 1
  · rw [if_pos h1, h.mp (Or.inl h1)]
    rfl
  · rw [if_neg h1]
    by_cases h2 : a = 2
    · rw [if_pos h2, h.mp (Or.inr h2)]
      rfl
    · rw [if_neg h2]
      cases pr with
      | false => rfl
      | true =>
        rcases h.mpr rfl with z | z
        · exact absurd z h1
        · exact absurd z h2
theorem br_m {K : Int32 → Option A} {a c : Int32} {pr : Bool} (h : (¬ c ≤ 0 ∧ (a = 1 ∨ a = 2)) ↔ pr = true) : (um_let K fun k1 => um_let (fun (_u : Unit) => k1 (0 : Int32)) fun k46 => if c ≤ 0 then k46 () else (um_let (fun (_u : Unit) => k1 (1 : Int32)) fun k47 => if a = (1 : Int32) then k47 () else (if a = (2 : Int32) then k47 () else k46 ()))) = K (um_b pr) := by
  unfold um_let
  try dsimp only
  by_cases hc : c ≤ 0
  · rw [if_pos hc]
    cases pr with
    | false => rfl
    | true => exact absurd hc (h.mpr rfl).1
  · rw [if_neg hc]
    by_cases h1 : a = 1
    · rw [if_pos h1, h.mp ⟨hc, Or.inl h1⟩]
      rfl
    · rw [if_neg h1]
      by_cases h2 : a = 2
      · rw [if_pos h2, h.mp ⟨hc, Or.inr h2⟩]
        rfl
      · rw [if_neg h2]
        cases pr with
        | false => rfl
        | true =>
          rcases (h.mpr rfl).2 with z | z
          · exact absurd z h1
          · exact absurd z h2
theorem br_x2 {K : Bool → Option A} {pr : Bool} {a c : Int32} {o : Option Int32} {q t : Nat} (ha : a = nI q) (hc : c = nI e) (hq : q < 2 ^ 20) (he : e < 2 ^ 20) (ho : o = some (nI t)) (ht : t < 2 ^ 20) : (um_let K fun k7 => um_let (fun (_u : Unit) => k7 false) fun k22 => if um_b pr = 0 then k22 () else (if a = c then (o.bind fun x24 => if x24 = (3 : Int32) then k22 () else k7 true) else k22 ())) = K (pr && decide (q = e) && decide (t ≠ 3)) := by
  unfold um_let
  try dsimp only
  cases pr with
  | false => rfl
  | true =>
    rw [if_neg (by decide), ha, hc, ho, Option.bind_some, Bool.true_and]
    have e3 : nI t = 3 ↔ t = 3 := nI_eq (b := 3) (by omega) (by omega)
    by_cases h1 : q = e
    · rw [if_pos (by rw [h1]), decide_eq_true h1, Bool.true_and]
      by_cases h2 : t = 3
      · rw [if_pos (e3.mpr h2), decide_eq_false (fun z => z h2)]
      · rw [if_neg (fun z => h2 (e3.mp z)), decide_eq_true h2]
    · rw [if_neg (fun z => h1 ((nI_eq (by omega) (by omega)).mp z)), decide_eq_false h1, Bool.false_and]
theorem br_m2 {K : Int32 → Option A} {pr : Bool} {a c : Int32} {q : Nat} (ha : a = nI q) (hc : c = nI e) (hq : q < 2 ^ 20) (he : e < 2 ^ 20) : (um_let K fun k7 => um_let (fun (_u : Unit) => k7 (0 : Int32)) fun k45 => if um_b pr = 0 then k45 () else (if c = a then k7 (1 : Int32) else k45 ())) = K (um_b (pr && decide (q = e))) := by
  unfold um_let
  try dsimp only
  cases pr with
  | false => rfl
  | true =>
    rw [if_neg (by decide), ha, hc, Bool.true_and]
    by_cases h1 : q = e
    · rw [if_pos (by rw [h1]), decide_eq_true h1]
      rfl
    · rw [if_neg (fun z => h1 ((nI_eq (by omega) (by omega)).mp z).symm), decide_eq_false h1]
      rfl
/-- a token: where it starts and ends, its sort, and whether it stands too near -/
def TK (X M : um_S) (z : Nat) (b : Nat → Nat) (st en t : Nat) (gl : Bool) : Prop :=
  st ≤ en ∧ en ≤ z ∧ t = so z b st ∧ (X.1 4 2 = nI st ∧ X.1 4 3 = nI en ∧ X.1 4 4 = nI t ∧ X.1 4 5 = um_b gl) ∧ (M.1 0 9 = nI st ∧ M.1 0 10 = nI en) ∧
  (t = 0 → M.1 0 11 = 0) ∧ (t = 3 → gl = false ∧ en = st + 1 ∧ M.1 0 11 = 3 ∧ M.1 0 13 = nI (b st)) ∧
  (t = 1 → st < en ∧ M.1 0 11 = (if gl = true then 4 else 1) ∧ M.1 0 13 = (if en - st = 1 then nI (b st) else 0) ∧ ∀ j, st ≤ j → j < en → so z b j = 1) ∧
  (t = 2 → st < en ∧ M.1 0 11 = (if gl = true ∨ 4 < en - st then 4 else 2) ∧ (en - st ≤ 4 → M.1 0 12 = nI (nv b st (en - st))) ∧ ∀ j, st ≤ j → j < en → so z b j = 2)
theorem l128_step {st : Nat} (ht : tp X M z b) (hs : so z b st = 1) (h10 : M.1 0 10 = nI st) : f_X9_next_l128 w um_N M = f_X9_next_l128 w 4095 (um_wr M 0 10 (nI (st + 1))) := by
  have hl := (so_1.mp hs).1
  have := ht.2.2.1
  rw [show um_N = 4095 + 1 from rfl, f_X9_next_l128, h10, m_isLetter ht (by omega), Option.bind_some, decide_eq_true hs, if_neg (by decide), nI_1]
  rfl
theorem l214_step {st : Nat} (ht : tp X M z b) (hs : so z b st = 2) (h10 : M.1 0 10 = nI st) (h9 : M.1 0 9 = nI st) (h12 : M.1 0 12 = 0) : f_X9_next_l214 w um_N M = f_X9_next_l214 w 4095 (um_wr (um_wr M 0 12 (nI (nv b st 1))) 0 10 (nI (st + 1))) := by
  have hl := so_2.mp hs
  have hz := ht.2.2.1
  have hb := ht.2.2.2 st hl.1
  have n4 : ¬ (4 : Int32) ≤ nI (st - st) := nI_ge (b := 4) (by omega) (by omega)
  have ev : (10 : Int32) * 0 + nI (b st) - 48 = nI (nv b st 1) := by
    have e0 : (10 : Int32) * 0 = nI 0 := by decide
    rw [e0, nI_add, Nat.zero_add]
    exact (nI_sub (b := 48) (by omega)).trans (by rw [show nv b st 1 = 10 * 0 + (b (st + 0) - 48) from rfl, Nat.add_zero, Nat.mul_zero, Nat.zero_add])
  rw [show um_N = 4095 + 1 from rfl, f_X9_next_l214, h10, m_isDigit ht (by omega), Option.bind_some, decide_eq_true hs, if_neg (by decide), h9, nI_sub (Nat.le_refl st)]
  unfold um_let
  try dsimp only
  rw [if_neg n4, if_pos (um_ix_nI (by omega) (by omega)), nI_clamp (by omega), hb.2.1, h12, ev, um_wr_an (i := 12) (j := 10) (by omega), h10, nI_1]
theorem nx_ {pr : Bool} (ht : tp X M z b) (he : e ≤ z) (h3 : X.1 4 3 = nI e) (h10 : M.1 0 10 = nI e) (hx : (X.1 4 4 = 1 ∨ X.1 4 4 = 2) ↔ pr = true) (hm : (¬ M.1 0 10 ≤ 0 ∧ (M.1 0 11 = 1 ∨ M.1 0 11 = 2)) ↔ pr = true) : sm_S (f_X6_next X) (f_X9_next M) (fun X' M' => ∃ st en t gl, e ≤ st ∧ (gl = true → pr = true) ∧ TK X' M' z b st en t gl ∧ xr X X' ∧ mr M M') := by
  have hz := ht.2.2.1
  unfold f_X6_next f_X9_next
  rw [br_x hx, br_m hm]
  refine sm_xl (sm_ml ?_)
  rw [h3, h10]
  refine sm_bind (lo_sk (z - e) e um_N um_N (um_wr X 4 2 (nI e)) M (by omega) (by unfold um_N; omega) (by unfold um_N; omega) (tp_of ht (x1_xr (x1_wr 2) (by omega)) (fun _ _ _ => rfl)) (um_wr_at _ _ _ _) h10) (fun X5 M5 ⟨st, q1, q2, q3, q4, q5, q6, q7⟩ => ?_)
  have fx5 : xr X X5 := xr_trans (x1_xr (x1_wr 2) (by omega)) (x1_xr q6 (by omega))
  have fm5 : mr M M5 := m1_mr q7 (by omega)
  have ht5 := tp_of ht fx5 fm5
  have e3 : X5.1 4 3 = nI e := by rw [q6.1 4 3 (by omega), um_wr_an (by omega)]; exact h3
  have hsl := so_le (z := z) (b := b) (p := st)
  rw [br_x2 (q := st) (e := e) (t := so z b st) q4 e3 (by omega) (by omega) (by rw [q4]; exact x_sortAt ht5 (by omega)) (by omega), br_m2 (q := st) (e := e) q5 rfl (by omega) (by omega)]
  refine sm_xl (sm_ml ?_)
  rw [q5]
  generalize hgl : (pr && decide (st = e) && decide (so z b st ≠ 3)) = gl
  generalize hgm : (pr && decide (st = e)) = gm at hgl
  have hgp : gl = true → pr = true := fun h => by
    rw [← hgl, ← hgm] at h
    cases pr with
    | true => rfl
    | false => cases h
  have fx9 : xr X (um_wr X5 4 5 (um_b gl)) := xr_trans fx5 (x1_xr (x1_wr 5) (by omega))
  have fm9 : mr M (um_wr M5 0 9 (nI st)) := mr_trans fm5 (m1_mr (m1_wr 9) (by omega))
  have ht9 := tp_of ht fx9 fm9
  have a2 : (um_wr X5 4 5 (um_b gl)).1 4 2 = nI st := by rw [um_wr_an (by omega)]; exact q4
  have b8 : (um_wr M5 0 9 (nI st)).1 0 8 = nI z := ht9.2.1
  have b9 : (um_wr M5 0 9 (nI st)).1 0 9 = nI st := um_wr_at _ _ _ _
  have b10 : (um_wr M5 0 9 (nI st)).1 0 10 = nI st := by rw [um_wr_an (by omega)]; exact q5
  generalize hX9 : um_wr X5 4 5 (um_b gl) = X9 at *
  have a5 : X9.1 4 5 = um_b gl := by rw [← hX9]; exact um_wr_at _ _ _ _
  generalize hM9 : um_wr M5 0 9 (nI st) = M9 at *
  clear hX9 hM9 fx5 fm5 ht5 q4 q5 q6 q7 e3
  rw [a2, b9, b8]
  refine sm_xb (x_sortAt ht9 (by omega)) (sm_xl ?_)
  have f13 : ∀ x : Int32, xr X (um_wr (um_wr X9 4 4 (nI (so z b st))) 4 3 x) := fun x => xr_trans fx9 (xr_trans (x1_xr (x1_wr 4) (by omega)) (x1_xr (x1_wr 3) (by omega)))
  have c2 : (um_wr X9 4 4 (nI (so z b st))).1 4 2 = nI st := by rw [um_wr_an (by omega)]; exact a2
  have c4 : (um_wr X9 4 4 (nI (so z b st))).1 4 4 = nI (so z b st) := um_wr_at _ _ _ _
  have d2 : ∀ x : Int32, (um_wr (um_wr X9 4 4 (nI (so z b st))) 4 3 x).1 4 2 = nI st := fun x => by rw [um_wr_an (by omega)]; exact c2
  have d4 : ∀ x : Int32, (um_wr (um_wr X9 4 4 (nI (so z b st))) 4 3 x).1 4 4 = nI (so z b st) := fun x => by rw [um_wr_an (by omega)]; exact c4
  have d5 : ∀ x : Int32, (um_wr (um_wr X9 4 4 (nI (so z b st))) 4 3 x).1 4 5 = um_b gl := fun x => by rw [um_wr_an (by omega), um_wr_an (by omega)]; exact a5
  have d3 : ∀ x : Int32, (um_wr (um_wr X9 4 4 (nI (so z b st))) 4 3 x).1 4 3 = x := fun x => um_wr_at _ _ _ _
  rw [c4, c2, nI_1]
  generalize hX13 : um_wr X9 4 4 (nI (so z b st)) = X13 at *
  clear hX13
  have tt : so z b st = 0 ∨ so z b st = 1 ∨ so z b st = 2 ∨ so z b st = 3 := by omega
  have no : ∀ {x : Nat} {y : Int32} {c : Nat}, so z b st = x → y = nI c → x ≠ c → c < 2 ^ 20 → ¬ nI (so z b st) = y := fun h1 h2 h3 h4 h5 => h3 (by
    rw [h2] at h5
    have := (nI_eq (by omega) (by omega)).mp h5
    omega)
  rcases tt with tt | tt | tt | tt
  · have hst : st = z := by
      have := so_0.mp tt
      omega
    refine sm_xl (sm_xt (by rw [tt]; decide) (sm_xl (sm_xl ?_)))
    rw [d4]
    refine sm_xf (no tt (c := 1) rfl (by omega) (by omega)) (sm_xf (no tt (c := 2) rfl (by omega) (by omega)) (sm_mt (by rw [hst]) (sm_ml (sm_ret ⟨st, st, so z b st, gl, q1, hgp, ⟨Nat.le_refl _, q2, rfl, ⟨d2 _, d3 _, d4 _, d5 _⟩, ⟨?_, ?_⟩, fun _ => um_wr_at _ _ _ _, fun z => absurd z (by omega), fun z => absurd z (by omega), fun z => absurd z (by omega)⟩, f13 _, mr_trans fm9 (m1_mr (m1_wr 11) (by omega))⟩))))
    · rw [um_wr_an (by omega)]; exact b9
    · rw [um_wr_an (by omega)]; exact b10
  · have hs1 := so_1.mp tt
    have hglm : gl = gm := by
      rw [← hgl, decide_eq_true (show so z b st ≠ 3 by omega), Bool.and_true]
    refine sm_xl (sm_xf (no tt (c := 0) rfl (by omega) (by omega)) (sm_xl (sm_xl ?_)))
    rw [d4]
    refine sm_xt (by rw [tt]; decide) (sm_mf (fun z => by have := (nI_eq (by omega) (by omega)).mp z; omega) (sm_mb (m_isLetter ht9 (by omega)) ?_))
    rw [decide_eq_true tt, l128_step ht9 tt b10]
    refine sm_mT (sm_bind (lo_let (z - (st + 1)) (st + 1) um_N 4095 _ _ (by omega) (by unfold um_N; omega) (by omega) (tp_of ht (f13 _) (mr_trans fm9 (m1_mr (m1_wr 10) (by omega)))) (d3 _) (by rw [d4, tt]) (um_wr_at _ _ _ _)) (fun X' M' ⟨en, r1, r2, r3, r4, r5, r6, r7⟩ => ?_))
    have g9 : M'.1 0 9 = nI st := by rw [r7 0 9 (by omega), um_wr_an (by omega)]; exact b9
    have fM : mr M M' := mr_trans fm9 (mr_trans (m1_mr (m1_wr 10) (by omega)) (m1_mr r7 (by omega)))
    have fX : xr X X' := xr_trans (f13 _) (x1_xr r6 (by omega))
    have ht' := tp_of ht fX fM
    have hb := ht'.2.2.2 st (by omega)
    have cX : X'.1 4 2 = nI st ∧ X'.1 4 3 = nI en ∧ X'.1 4 4 = nI (so z b st) ∧ X'.1 4 5 = um_b gl := by
      refine ⟨?_, r4, ?_, ?_⟩
      · rw [r6.1 4 2 (by omega)]; exact d2 _
      · rw [r6.1 4 4 (by omega)]; exact d4 _
      · rw [r6.1 4 5 (by omega)]; exact d5 _
    have hru : ∀ j, st ≤ j → j < en → so z b j = 1 := by
      intro j hj hje
      by_cases ej : j = st
      · rw [ej]; exact tt
      · exact r3 j (by omega) hje
    have fin : ∀ x35 : Int32, x35 = (if gl = true then 4 else 1) → sm_S (some X') (um_let (um_wr M' 0 11 x35) fun σ36 => if ((σ36.1 0 10) - (σ36.1 0 9)) = (1 : Int32) then (if um_ix (σ36.1 0 9) 96 then (um_let (um_wr σ36 0 13 (σ36.1 7 (σ36.1 0 9).toNatClampNeg)) fun σ41 => (some σ41)) else none) else (um_let (um_wr σ36 0 13 (0 : Int32)) fun σ38 => (some σ38))) (fun X' M' => ∃ st en t gl, e ≤ st ∧ (gl = true → pr = true) ∧ TK X' M' z b st en t gl ∧ xr X X' ∧ mr M M') := by
      intro x35 e35
      have h9' : (um_wr M' 0 11 x35).1 0 9 = nI st := by rw [um_wr_an (by omega)]; exact g9
      have h10' : (um_wr M' 0 11 x35).1 0 10 = nI en := by rw [um_wr_an (by omega)]; exact r5
      have h7' : (um_wr M' 0 11 x35).1 7 st = nI (b st) := by rw [um_wr_nk (by omega)]; exact hb.2.1
      refine sm_ml ?_
      rw [h9', h10', nI_sub (by omega), nI_clamp (by omega), h7']
      have e1 : nI (en - st) = 1 ↔ en - st = 1 := nI_eq (b := 1) (by omega) (by omega)
      have fr : ∀ y : Int32, mr M (um_wr (um_wr M' 0 11 x35) 0 13 y) := fun y => mr_trans fM (mr_trans (m1_mr (m1_wr 11) (by omega)) (m1_mr (m1_wr 13) (by omega)))
      have tk : ∀ y : Int32, y = (if en - st = 1 then nI (b st) else 0) → TK X' (um_wr (um_wr M' 0 11 x35) 0 13 y) z b st en (so z b st) gl := by
        intro y ey
        refine ⟨by omega, r2, rfl, cX, ⟨?_, ?_⟩, fun z => absurd z (by omega), fun z => absurd z (by omega), fun _ => ⟨by omega, ?_, ?_, hru⟩, fun z => absurd z (by omega)⟩
        · rw [um_wr_an (by omega)]; exact h9'
        · rw [um_wr_an (by omega)]; exact h10'
        · rw [um_wr_an (by omega), um_wr_at]; exact e35
        · rw [um_wr_at]; exact ey
      by_cases hl : en - st = 1
      · exact sm_mt (e1.mpr hl) (sm_mt (um_ix_nI (by omega) (by omega)) (sm_ml (sm_ret ⟨st, en, so z b st, gl, q1, hgp, tk _ (if_pos hl).symm, fX, fr _⟩)))
      · exact sm_mf (fun z => hl (e1.mp z)) (sm_ml (sm_ret ⟨st, en, so z b st, gl, q1, hgp, tk _ (if_neg hl).symm, fX, fr _⟩))
    refine sm_ml ?_
    cases hg : gm with
    | false => exact sm_mt rfl (fin 1 (by rw [hglm, hg]; rfl))
    | true => exact sm_mf (by decide) (fin 4 (by rw [hglm, hg]; rfl))
  · have hs1 := so_2.mp tt
    have hglm : gl = gm := by
      rw [← hgl, decide_eq_true (show so z b st ≠ 3 by omega), Bool.and_true]
    refine sm_xl (sm_xf (no tt (c := 0) rfl (by omega) (by omega)) (sm_xl (sm_xl ?_)))
    rw [d4]
    refine sm_xf (no tt (c := 1) rfl (by omega) (by omega)) (sm_xt (by rw [tt]; decide) (sm_mf (fun z => by have := (nI_eq (by omega) (by omega)).mp z; omega) (sm_mb (m_isLetter ht9 (by omega)) ?_)))
    rw [decide_eq_false (show ¬ so z b st = 1 by omega)]
    refine sm_mF (sm_mb (m_isDigit ht9 (by omega)) ?_)
    rw [decide_eq_true tt]
    refine sm_mT (sm_ml ?_)
    have fm22 : mr M (um_wr M9 0 12 (0 : Int32)) := mr_trans fm9 (m1_mr (m1_wr 12) (by omega))
    rw [l214_step (tp_of ht fx9 fm22) tt (by rw [um_wr_an (by omega)]; exact b10) (by rw [um_wr_an (by omega)]; exact b9) (um_wr_at _ _ _ _)]
    have fm23 : mr M (um_wr (um_wr (um_wr M9 0 12 (0 : Int32)) 0 12 (nI (nv b st 1))) 0 10 (nI (st + 1))) := mr_trans fm22 (mr_trans (m1_mr (m1_wr 12) (by omega)) (m1_mr (m1_wr 10) (by omega)))
    refine sm_bind (lo_dig (st := st) (z - (st + 1)) (st + 1) um_N 4095 _ _ (by omega) (by omega) (by unfold um_N; omega) (by omega) (tp_of ht (f13 _) fm23) (d3 _) (by rw [d4, tt]) (by rw [um_wr_an (by omega), um_wr_an (by omega), um_wr_an (by omega)]; exact b9) (um_wr_at _ _ _ _) (fun j h1 h2 => by rw [show j = st by omega]; exact tt) (by rw [um_wr_an (by omega), um_wr_at, if_pos (by omega), show st + 1 - st = 1 by omega])) (fun X' M' ⟨en, r1, r2, r3, r4, r5, r5b, r5c, r6, r7⟩ => ?_)
    have fM : mr M M' := mr_trans fm23 r7
    have fX : xr X X' := xr_trans (f13 _) (x1_xr r6 (by omega))
    have cX : X'.1 4 2 = nI st ∧ X'.1 4 3 = nI en ∧ X'.1 4 4 = nI (so z b st) ∧ X'.1 4 5 = um_b gl := by
      refine ⟨?_, r4, ?_, ?_⟩
      · rw [r6.1 4 2 (by omega)]; exact d2 _
      · rw [r6.1 4 4 (by omega)]; exact d4 _
      · rw [r6.1 4 5 (by omega)]; exact d5 _
    have tk : ∀ y : Int32, y = (if gl = true ∨ 4 < en - st then 4 else 2) → sm_S (some X') (um_let (um_wr M' 0 11 y) fun σ28 => some σ28) (fun X' M' => ∃ st en t gl, e ≤ st ∧ (gl = true → pr = true) ∧ TK X' M' z b st en t gl ∧ xr X X' ∧ mr M M') := by
      intro y ey
      refine sm_ml (sm_ret ⟨st, en, so z b st, gl, q1, hgp, ⟨by omega, r2, rfl, cX, ⟨?_, ?_⟩, fun z => absurd z (by omega), fun z => absurd z (by omega), fun z => absurd z (by omega), fun _ => ⟨by omega, ?_, fun h4 => ?_, r3⟩⟩, fX, mr_trans fM (m1_mr (m1_wr 11) (by omega))⟩)
      · rw [um_wr_an (by omega)]; exact r5b
      · rw [um_wr_an (by omega)]; exact r5
      · rw [um_wr_at]; exact ey
      · rw [um_wr_an (by omega), r5c, if_pos h4]
    cases hg : gm with
    | false =>
      have hgf : ¬ gl = true := by rw [hglm, hg]; decide
      refine sm_mt rfl ?_
      rw [r5, r5b, nI_sub (by omega)]
      have e4 : nI (en - st) ≤ (4 : Int32) ↔ en - st ≤ 4 := nI_leI (b := 4) (by omega) (by omega)
      by_cases h4 : en - st ≤ 4
      · exact sm_mt (e4.mpr h4) (tk 2 (if_neg (fun z => z.elim hgf (fun z => by omega))).symm)
      · exact sm_mf (fun z => h4 (e4.mp z)) (tk 4 (if_pos (Or.inr (by omega))).symm)
    | true => exact sm_mf (by decide) (tk 4 (if_pos (Or.inl (by rw [hglm, hg]))).symm)
  · have hst : st < z := Nat.lt_of_not_le (fun hh => by have := (so_0 (z := z) (b := b) (p := st)).mpr hh; omega)
    have hglf : gl = false := by
      rw [← hgl, decide_eq_false (show ¬ so z b st ≠ 3 by omega), Bool.and_false]
    refine sm_xl (sm_xf (no tt (c := 0) rfl (by omega) (by omega)) (sm_xl (sm_xl ?_)))
    rw [d4]
    refine sm_xf (no tt (c := 1) rfl (by omega) (by omega)) (sm_xf (no tt (c := 2) rfl (by omega) (by omega)) (sm_mf (fun z => by have := (nI_eq (by omega) (by omega)).mp z; omega) (sm_mb (m_isLetter ht9 (by omega)) ?_)))
    rw [decide_eq_false (show ¬ so z b st = 1 by omega)]
    refine sm_mF (sm_mb (m_isDigit ht9 (by omega)) ?_)
    rw [decide_eq_false (show ¬ so z b st = 2 by omega)]
    refine sm_mF (sm_ml ?_)
    have h9' : (um_wr M9 0 11 (3 : Int32)).1 0 9 = nI st := by rw [um_wr_an (by omega)]; exact b9
    have h10' : (um_wr M9 0 11 (3 : Int32)).1 0 10 = nI st := by rw [um_wr_an (by omega)]; exact b10
    have h7' : (um_wr M9 0 11 (3 : Int32)).1 7 st = nI (b st) := by rw [um_wr_nk (by omega)]; exact (ht9.2.2.2 st hst).2.1
    rw [h9']
    refine sm_mt (um_ix_nI (by omega) (by omega)) (sm_ml (sm_ml ?_))
    rw [nI_clamp (by omega), h7', um_wr_an (i := 13) (j := 10) (by omega), h10', nI_1]
    refine sm_ret ⟨st, st + 1, so z b st, gl, q1, hgp, ⟨by omega, by omega, rfl, ⟨d2 _, d3 _, d4 _, d5 _⟩, ⟨?_, um_wr_at _ _ _ _⟩, fun z => absurd z (by omega), fun _ => ⟨hglf, rfl, ?_, ?_⟩, fun z => absurd z (by omega), fun z => absurd z (by omega)⟩, f13 _, mr_trans fm9 (mr_trans (m1_mr (m1_wr 11) (by omega)) (mr_trans (m1_mr (m1_wr 13) (by omega)) (m1_mr (m1_wr 10) (by omega))))⟩
    · rw [um_wr_an (by omega), um_wr_an (by omega)]; exact h9'
    · rw [um_wr_an (by omega), um_wr_an (by omega), um_wr_at]
    · rw [um_wr_an (by omega), um_wr_at]
end NXT
