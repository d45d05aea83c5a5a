/-! LEVEL 2: texts: levels of joins -/
/-- a loop of the model, turn by turn -/
def lpq (g : Nat → Prop) (F : um_S → Option (Bool × um_S)) (lp : Nat → um_S → Option ((Bool × um_S) ⊕ um_S)) : Prop :=
  ∀ (n : Nat) (X M : um_S) (z : Nat) (b : Nat → Nat) (st en t : Nat) (gl : Bool), tp X M z b → TK X M z b st en t gl → (¬ (t = 3 ∧ g (b st)) → lp (n + 1) M = some (.inr M)) ∧ (t = 3 → g (b st) → lp (n + 1) M = (f_X9_next M).bind fun M1 => um_b2 (F M1) fun ok M2 => if um_b ok = 0 then some (.inl (false, M2)) else (f_X9_step 2 (nI (b st)) M2).bind fun M3 => lp n M3)
section LVL
variable {X X0 X' M M' : um_S} {kk z base st en t n j nd nx nt L D n0 j0 s0 c : Nat} {b : Nat → Nat} {gl : Bool} {R R1 : List Int32} {S T T2 : List Nat} {P : List (Int32 × Int32)} {F : um_S → Option (Bool × um_S)} {lp : Nat → um_S → Option ((Bool × um_S) ⊕ um_S)} {Pp : Int32 → um_S → Option (Bool × um_S)} {a : Int32}
theorem tn_ca (h : tn_c T) : tn_c (T ++ T2) := by
  obtain ⟨T4, c, T5, e, h1, h2⟩ := h
  exact ⟨T4, c, T5 ++ T2, by rw [e, List.append_assoc]; rfl, h1, h2⟩
theorem stp_ (hL : 1 ≤ L ∧ L ≤ 5) (hF : lev kk z base b D (L + 1) F) (hS : ∀ c S', S = c :: S' → rk c < L ∧ c ≠ 33) (hD : 17 ≤ D + nd + nt) (he : bdy n0 (nI j0) X0 = bdy n (nI j) X) (hC : CO kk z base b X M nd nt nt 0 R1 (T ++ S) P st) (hK : TK X M z b st en t gl) (ha : al kk (wt T R1) P) (hT : ∀ c, c ∈ T → L ≤ rk c) (hh : hH R (wt T R1)) (hn : 97 ≤ n + st) (hj : j ≤ st) (hs : s0 < st) (hx : xF X0 X) (t3 : t = 3) (hr : rk (b st) = L) (h3 : L = 3 → ∀ c, c ∈ T → 4 ≤ rk c) :
    ∃ M2 ok M3, f_X9_next M = some M2 ∧ F M2 = some (ok, M3) ∧ mE base M M3 ∧ ((ok = false ∧ fal X0 M3 n0 j0) ∨ (ok = true ∧ ∃ M4 st', f_X9_step 2 (nI (b st)) M3 = some M4 ∧ mE base M M4 ∧ st < st' ∧ exi kk z base b L (L + 1) X0 M4 n0 j0 s0 nd nt R S st' ∧ (L = 3 → exi kk z base b L L X0 M4 n0 j0 s0 nd nt R S st'))) := by
  have hKK := hK
  obtain ⟨h1, hez, h3', ⟨y2, y3, y4, y5⟩, ⟨y9, y10⟩, q0, q3, q1, q2⟩ := hK
  obtain ⟨g1, g2, g3, g4⟩ := q3 t3
  subst g1
  obtain ⟨c1, c2, c3, ⟨c4, c5, c6⟩, ⟨d1, d2, d3, d4⟩, c8, c9, ⟨c10, c11⟩, c12⟩ := hC
  have hz := c1.2.2.1
  have hlen : (T ++ S).length = T.length + S.length := List.length_append
  have hT1 : ∀ c, c ∈ T → 1 ≤ rk c := fun c hc => by have := hT c hc; omega
  obtain ⟨X1, a1, a2, a3, ⟨a4, a5, a6⟩, a7⟩ := x_join c1 y2 (show st < z by omega) rfl (show 1 ≤ rk (b st) by omega) c8 (by omega) (fun e d S' hf => by
    rw [fl_wt T S R1 (h3 (by omega)) (fun c S' e => by have := (hS c S' e).1; omega)] at hf
    have := (hS d S' hf).1
    omega)
  rw [hr, fl_wt T S R1 hT (fun c S' e => (hS c S' e).1)] at a2
  have a2' : ce X1 (wt T R1) (b st :: S) := a2
  have w1 := wt_len T R1
  have hl1 : (b st :: S).length = S.length + 1 := rfl
  have C1 : CO kk z base b X1 M nd nt nt 1 (wt T R1) (b st :: S) P en := ⟨tp_E c1 a7, a3, by rw [a7.1 4 11 (by omega) (by omega) (by omega)]; exact c3, ⟨a5.trans c4, c5, c6⟩, ⟨a6.trans d1, d2, d3, d4⟩, a2', c9, ⟨by rw [cv_wt T R1 hT1]; exact a4.trans c10, by rw [cv_wt T R1 hT1]; exact c11⟩, by omega⟩
  obtain ⟨X2, M2, st2, en2, t2, gl2, r1, r2, r3, r4, r5, r6⟩ := nxt C1.1 hKK (by omega) (fun e => by omega) (a7.1 4 3 (by omega) (by omega) (by omega)) (a7.1 4 4 (by omega) (by omega) (by omega)) rfl rfl
  obtain ⟨n1, rfl⟩ : ∃ g, n = g + 1 := ⟨n - 1, by omega⟩
  have hb := bdy_join (n := n1) (j := j) hKK (by omega) c2 a1 (by omega) r1
  obtain ⟨ok, M3, e1, e2, e3⟩ := hF X2 M2 st2 en2 t2 gl2 nd nt (wt T R1) (b st :: S) P n1 (j + 1) (CO_r C1 r5 r6 r3) r4 ha (fun c S' e => by
    have ec := (List.cons.inj e).1
    refine ⟨by rw [← ec]; omega, fun z => ?_⟩
    rw [ec, z] at hr
    have : rk 33 = 0 := by decide
    omega) (by omega) (by omega) hD
  have xx : xF X0 X2 := xF_trans hx (xF_trans (xE_xF a7) (xr_xF r5))
  have mm : mE base M M3 := mE_trans (mr_mE r6) e2
  refine ⟨M2, ok, M3, r2, e1, mm, ?_⟩
  rcases e3 with ⟨e, g⟩ | ⟨e, st', X3, en3, t3', gl3, T2, R2, P2, n3, j3, f1, f2, f3, f4, f5, f6, f7, f8, f9, f10, f11⟩
  · exact Or.inl ⟨e, fal_of (he.trans hb) xx g⟩
  · have l4 := al_len f4
    have l5 := wt_len T2 R2
    have l6 : (T2 ++ b st :: S).length = T2.length + (S.length + 1) := List.length_append
    have l7 := f2.2.2.2.2.2.2.2.2
    have l8 := f3.1
    have l9 := f3.2.1
    obtain ⟨M4, m1, m2, m3, m4⟩ := CO_step (a := 2) (v := nI (b st)) f2 (by omega)
    have hex : ∀ Lt, tn_o Lt b t3' st' (T2 ++ [b st]) → exi kk z base b L Lt X0 M4 n0 j0 s0 nd nt R S st' := fun Lt ht => ⟨X3, en3, t3', gl3, T2 ++ [b st], R2, (2, nI (b st)) :: P2, n3, j3, he.trans (hb.trans f1), by rw [List.append_assoc]; exact m2, TK_m f3 (fun i hi => m4 i (by omega)), by rw [wt_sn]; exact ⟨tx_sg (by omega), f4⟩, fun c hc => by
      rcases List.mem_append.mp hc with u | u
      · have := f5 c u; omega
      · rw [List.mem_singleton.mp u]; omega, fun h e => by rw [wt_sn]; exact hg_sg (by omega) (f6 (h + 1) (hh h e)), f7, f8, by omega, xF_trans xx f10, ht⟩
    refine Or.inr ⟨e, M4, st', m1, mE_trans mm m3, by omega, hex _ (fun e => (f11 e).imp id (fun u => ⟨u.1, tn_ca u.2⟩)), fun e3 => hex _ (fun e => ?_)⟩
    rcases f11 e with u | u
    · by_cases h : rk (b st') = 3
      · exact Or.inr ⟨h, T2, b st, [], rfl, fun d hd => by have := f5 d hd; omega, by omega⟩
      · exact Or.inl (by omega)
    · exact Or.inr ⟨u.1, tn_ca u.2⟩
theorem lp_ (hL : 1 ≤ L ∧ L ≤ 5) (hL3 : L ≠ 3) (hF : lev kk z base b D (L + 1) F) (hq : lpq (fun c => rk c = L) F lp) (hS : ∀ c S', S = c :: S' → rk c < L ∧ c ≠ 33) (hD : 17 ≤ D + nd + nt) : ∀ (i : Nat) (M : um_S) (st fu : Nat), z - st < i → i ≤ fu → exi kk z base b L (L + 1) X0 M n0 j0 s0 nd nt R S st → ∃ o M', lp fu M = some o ∧ mE base M M' ∧ ((o = .inl (false, M') ∧ fal X0 M' n0 j0) ∨ (o = .inr M' ∧ ∃ st', exi kk z base b L L X0 M' n0 j0 s0 nd nt R S st')) := by
  intro i
  induction i with
  | zero =>
    intro M st fu h
    omega
  | succ i ih =>
    intro M st fu hi hfu he
    obtain ⟨fu, rfl⟩ : ∃ g, fu = g + 1 := ⟨fu - 1, by omega⟩
    obtain ⟨X, en, t, gl, T, R1, P, n, j, f1, f2, f3, f4, f5, f6, f7, f8, f9, f10, f11⟩ := he
    obtain ⟨qa, qb⟩ := hq fu X M z b st en t gl f2.1 f3
    by_cases ht : t = 3 ∧ rk (b st) = L
    · obtain ⟨M2, ok, M3, g1, g2, g3, g4⟩ := stp_ hL hF hS hD f1 f2 f3 f4 f5 f6 f7 f8 f9 f10 ht.1 ht.2 (fun z => absurd z hL3)
      have l1 := tn_lt f3 (by omega)
      have l2 := f3.2.1
      rw [qb ht.1 ht.2, g1, Option.bind_some, g2, um_b2_some]
      rcases g4 with ⟨e, g5⟩ | ⟨e, M4, st', g5, g6, g7, g8, g9⟩
      · subst e
        exact ⟨_, M3, rfl, g3, Or.inl ⟨rfl, g5⟩⟩
      · subst e
        rw [if_neg (by decide), g5, Option.bind_some]
        obtain ⟨o, M', r1, r2, r3⟩ := ih M4 st' fu (by omega) (by omega) g8
        exact ⟨o, M', r1, mE_trans g6 r2, r3⟩
    · refine ⟨_, M, qa ht, mE_refl, Or.inr ⟨rfl, st, X, en, t, gl, T, R1, P, n, j, f1, f2, f3, f4, f5, f6, f7, f8, f9, f10, fun e => ?_⟩⟩
      rcases f11 e with u | u
      · exact Or.inl (by omega)
      · exact Or.inr u
theorem exi_w (h : exi kk z base b (L + 1) (L + 1) X M n j s0 nd nt R S st) : exi kk z base b L (L + 1) X M n j s0 nd nt R S st := by
  obtain ⟨X', en, t, gl, T, R1, P, n', j', f1, f2, f3, f4, f5, f6⟩ := h
  exact ⟨X', en, t, gl, T, R1, P, n', j', f1, f2, f3, f4, fun c hc => by have := f5 c hc; omega, f6⟩
theorem lev_lp (hL : 1 ≤ L ∧ L ≤ 5) (hL3 : L ≠ 3) (hF : lev kk z base b D (L + 1) F) (hq : lpq (fun c => rk c = L) F lp) : lev kk z base b D L (fun M => um_b2 (F M) fun x3 σ2 => if um_b x3 = 0 then some (false, σ2) else um_s1 (lp um_N σ2) fun σ4 => some (true, σ4)) := by
  intro X M st en t gl nd nt R S P n j hC hK ha hS hn hj hD
  obtain ⟨ok, M', e1, e2, e3⟩ := hF X M st en t gl nd nt R S P n j hC hK ha (fun c S' e => ⟨by have := (hS c S' e).1; omega, (hS c S' e).2⟩) hn hj hD
  have hz := hC.1.2.2.1
  dsimp only
  rw [e1, um_b2_some]
  rcases e3 with ⟨e, g⟩ | ⟨e, st', g⟩
  · subst e
    exact ⟨false, M', rfl, e2, Or.inl ⟨rfl, g⟩⟩
  · subst e
    obtain ⟨o, M2, r1, r2, r3⟩ := lp_ hL hL3 hF hq hS hD 97 M' st' um_N (by omega) (by unfold um_N; omega) (exi_w g)
    rw [if_neg (by decide), r1]
    rcases r3 with ⟨e, r⟩ | ⟨e, r⟩
    · subst e
      exact ⟨false, M2, rfl, mE_trans e2 r2, Or.inl ⟨rfl, r⟩⟩
    · subst e
      exact ⟨true, M2, rfl, mE_trans e2 r2, Or.inr ⟨rfl, r⟩⟩
theorem rk_5 (h : rk c = 5) : c = 42 ∨ c = 47 := by
  have : ∀ c, c ∈ sgL → rk c = 5 → c = 42 ∨ c = 47 := by decide
  exact this c (rk_sg (by omega)) h
theorem rk_4 (h : rk c = 4) : c = 43 ∨ c = 45 := by
  have : ∀ c, c ∈ sgL → rk c = 4 → c = 43 ∨ c = 45 := by decide
  exact this c (rk_sg (by omega)) h
theorem rk_3 (h : rk c = 3) : c = 60 ∨ c = 61 ∨ c = 62 := by
  have : ∀ c, c ∈ sgL → rk c = 3 → c = 60 ∨ c = 61 ∨ c = 62 := by decide
  exact this c (rk_sg (by omega)) h
theorem rk_2 (h : rk c = 2) : c = 38 := by
  have : ∀ c, c ∈ sgL → rk c = 2 → c = 38 := by decide
  exact this c (rk_sg (by omega)) h
theorem rk_1 (h : rk c = 1) : c = 124 := by
  have : ∀ c, c ∈ sgL → rk c = 1 → c = 124 := by decide
  exact this c (rk_sg (by omega)) h
theorem tn_b (ht : tp X M z b) (h : TK X M z b st en t gl) : t = 3 → b st < 256 := fun e => by
  have h1 := tn_lt h (by omega)
  have h2 := h.2.1
  have := (ht.2.2.2 st (by omega)).2.2
  omega
theorem sg_n {c : Nat} {x : Int32} (ht : tp X M z b) (h : TK X M z b st en t gl) (hx : x = nI c) (hc : c < 256) : f_X9_isSign x M = some (decide (t = 3 ∧ b st = c)) := by
  rw [hx]
  exact m_sign h (tn_b ht h) hc
theorem lq_term : lpq (fun c => rk c = 5) (Pp a) (f_X9_term__l10 Pp a) := by
  intro n X M z b st en t gl ht hK
  have s1 := sg_n (x := 42) (c := 42) ht hK rfl (by omega)
  have s2 := sg_n (x := 47) (c := 47) ht hK rfl (by omega)
  refine ⟨fun hno => ?_, fun t3 hr => ?_⟩
  · rw [f_X9_term__l10, s1, decide_eq_false (fun z => hno ⟨z.1, by rw [z.2]; decide⟩), Option.bind_some, s2, decide_eq_false (fun z => hno ⟨z.1, by rw [z.2]; decide⟩)]
    rfl
  · have h13 := (hK.2.2.2.2.2.2.1 t3).2.2.2
    rw [f_X9_term__l10, s1, Option.bind_some]
    unfold um_let
    try dsimp only
    rw [h13]
    by_cases h : b st = 42
    · rw [decide_eq_true ⟨t3, h⟩, if_neg (by decide)]
    · have h2 : b st = 47 := (rk_5 hr).resolve_left h
      rw [decide_eq_false (fun z => h z.2), if_pos (show um_b false = 0 from rfl), s2, decide_eq_true ⟨t3, h2⟩, Option.bind_some, if_neg (by decide)]
theorem lq_sum : lpq (fun c => rk c = 4) (f_X9_term_ Pp a) (f_X9_sum_l10 Pp a) := by
  intro n X M z b st en t gl ht hK
  have s1 := sg_n (x := 43) (c := 43) ht hK rfl (by omega)
  have s2 := sg_n (x := 45) (c := 45) ht hK rfl (by omega)
  refine ⟨fun hno => ?_, fun t3 hr => ?_⟩
  · rw [f_X9_sum_l10, s1, decide_eq_false (fun z => hno ⟨z.1, by rw [z.2]; decide⟩), Option.bind_some, s2, decide_eq_false (fun z => hno ⟨z.1, by rw [z.2]; decide⟩)]
    rfl
  · have h13 := (hK.2.2.2.2.2.2.1 t3).2.2.2
    rw [f_X9_sum_l10, s1, Option.bind_some]
    unfold um_let
    try dsimp only
    rw [h13]
    by_cases h : b st = 43
    · rw [decide_eq_true ⟨t3, h⟩, if_neg (by decide)]
    · have h2 : b st = 45 := (rk_4 hr).resolve_left h
      rw [decide_eq_false (fun z => h z.2), if_pos (show um_b false = 0 from rfl), s2, decide_eq_true ⟨t3, h2⟩, Option.bind_some, if_neg (by decide)]
theorem lq_both : lpq (fun c => rk c = 2) (f_X9_test Pp a) (f_X9_both_l10 Pp a) := by
  intro n X M z b st en t gl ht hK
  have s1 := sg_n (x := 38) (c := 38) ht hK rfl (by omega)
  refine ⟨fun hno => ?_, fun t3 hr => ?_⟩
  · rw [f_X9_both_l10, s1, decide_eq_false (fun z => hno ⟨z.1, by rw [z.2]; decide⟩), Option.bind_some]
    rfl
  · have h : b st = 38 := rk_2 hr
    have e : nI (b st) = (38 : Int32) := by rw [h]; rfl
    rw [f_X9_both_l10, s1, Option.bind_some, decide_eq_true ⟨t3, h⟩, if_neg (by decide), e]
theorem lq_either : lpq (fun c => rk c = 1) (f_X9_both Pp a) (f_X9_either_l10 Pp a) := by
  intro n X M z b st en t gl ht hK
  have s1 := sg_n (x := 124) (c := 124) ht hK rfl (by omega)
  refine ⟨fun hno => ?_, fun t3 hr => ?_⟩
  · rw [f_X9_either_l10, s1, decide_eq_false (fun z => hno ⟨z.1, by rw [z.2]; decide⟩), Option.bind_some]
    rfl
  · have h : b st = 124 := rk_1 hr
    have e : nI (b st) = (124 : Int32) := by rw [h]; rfl
    rw [f_X9_either_l10, s1, Option.bind_some, decide_eq_true ⟨t3, h⟩, if_neg (by decide), e]
theorem te_no (e1 : f_X9_sum Pp a M = some (true, M')) (ht : tp X M' z b) (hK : TK X M' z b st en t gl) (hno : ¬ (t = 3 ∧ rk (b st) = 3)) : f_X9_test Pp a M = some (true, M') := by
  have s1 := sg_n (x := 60) (c := 60) ht hK rfl (by omega)
  have s2 := sg_n (x := 61) (c := 61) ht hK rfl (by omega)
  have s3 := sg_n (x := 62) (c := 62) ht hK rfl (by omega)
  unfold f_X9_test
  rw [e1, um_b2_some, if_neg (by decide), s1, decide_eq_false (fun z => hno ⟨z.1, by rw [z.2]; decide⟩), Option.bind_some, s2, decide_eq_false (fun z => hno ⟨z.1, by rw [z.2]; decide⟩), s3, decide_eq_false (fun z => hno ⟨z.1, by rw [z.2]; decide⟩)]
  rfl
theorem te_yes (e1 : f_X9_sum Pp a M = some (true, M')) (ht : tp X M' z b) (hK : TK X M' z b st en t gl) (t3 : t = 3) (hr : rk (b st) = 3) : f_X9_test Pp a M = (f_X9_next M').bind fun M2 => um_b2 (f_X9_sum Pp a M2) fun ok M3 => if um_b ok = 0 then some (false, M3) else (f_X9_step 2 (nI (b st)) M3).bind fun M4 => some (true, M4) := by
  have s1 := sg_n (x := 60) (c := 60) ht hK rfl (by omega)
  have s2 := sg_n (x := 61) (c := 61) ht hK rfl (by omega)
  have s3 := sg_n (x := 62) (c := 62) ht hK rfl (by omega)
  have h13 := (hK.2.2.2.2.2.2.1 t3).2.2.2
  unfold f_X9_test
  rw [e1, um_b2_some, if_neg (by decide), s1, Option.bind_some]
  unfold um_let
  try dsimp only
  rw [h13]
  by_cases h : b st = 60
  · rw [decide_eq_true ⟨t3, h⟩, if_neg (by decide)]
  · rw [decide_eq_false (fun z => h z.2), if_pos (show um_b false = 0 from rfl), s2, Option.bind_some]
    by_cases h2 : b st = 61
    · rw [decide_eq_true ⟨t3, h2⟩, if_neg (by decide)]
    · have h3 : b st = 62 := ((rk_3 hr).resolve_left h).resolve_left h2
      rw [decide_eq_false (fun z => h2 z.2), if_pos (show um_b false = 0 from rfl), s3, Option.bind_some, decide_eq_true ⟨t3, h3⟩, if_neg (by decide)]
theorem lev_test (hF : lev kk z base b D 4 (f_X9_sum Pp a)) : lev kk z base b D 3 (f_X9_test Pp a) := by
  intro X M st en t gl nd nt R S P n j hC hK ha hS hn hj hD
  obtain ⟨ok, M', e1, e2, e3⟩ := hF X M st en t gl nd nt R S P n j hC hK ha (fun c S' e => ⟨by have := (hS c S' e).1; omega, (hS c S' e).2⟩) hn hj hD
  rcases e3 with ⟨e, g⟩ | ⟨e, st', g⟩
  · subst e
    refine ⟨false, M', ?_, e2, Or.inl ⟨rfl, g⟩⟩
    unfold f_X9_test
    rw [e1, um_b2_some]
    rfl
  · subst e
    obtain ⟨X', en', t', gl', T, R1, P', n', j', f1, f2, f3, f4, f5, f6, f7, f8, f9, f10, f11⟩ := g
    by_cases ht : t' = 3 ∧ rk (b st') = 3
    · obtain ⟨M2, ok, M3, g1, g2, g3, g4⟩ := stp_ (L := 3) (by omega) hF hS hD f1 f2 f3 f4 (fun c hc => by have := f5 c hc; omega) f6 f7 f8 f9 f10 ht.1 ht.2 (fun _ => f5)
      rw [te_yes e1 f2.1 f3 ht.1 ht.2, g1, Option.bind_some, g2, um_b2_some]
      rcases g4 with ⟨e, g5⟩ | ⟨e, M4, st2, g5, g6, g7, g8, g9⟩
      · subst e
        exact ⟨false, M3, rfl, mE_trans e2 g3, Or.inl ⟨rfl, g5⟩⟩
      · subst e
        rw [if_neg (by decide), g5, Option.bind_some]
        exact ⟨true, M4, rfl, mE_trans e2 g6, Or.inr ⟨rfl, st2, g9 rfl⟩⟩
    · refine ⟨true, M', te_no e1 f2.1 f3 ht, e2, Or.inr ⟨rfl, st', X', en', t', gl', T, R1, P', n', j', f1, f2, f3, f4, fun c hc => by have := f5 c hc; omega, f6, f7, f8, f9, f10, fun e => ?_⟩⟩
      rcases f11 e with u | u
      · exact Or.inl (by omega)
      · exact Or.inr u
/-- from a part to the whole -/
theorem lev_all (h6 : lev kk z base b D 6 (Pp a)) : lev kk z base b D 1 (f_X9_either Pp a) := by
  have h5 : lev kk z base b D 5 (f_X9_term_ Pp a) := lev_lp (by omega) (by omega) h6 lq_term
  have h4 : lev kk z base b D 4 (f_X9_sum Pp a) := lev_lp (by omega) (by omega) h5 lq_sum
  have h3 : lev kk z base b D 3 (f_X9_test Pp a) := lev_test h4
  have h2 : lev kk z base b D 2 (f_X9_both Pp a) := lev_lp (by omega) (by omega) h3 lq_both
  exact lev_lp (by omega) (by omega) h2 lq_either
end LVL
