/-! LEVEL 2: who goes to whom: the model's search -/
/-- what a row says of men and masters -/
def kx (s : Nat → Int32) (N Q : Nat) (op : Nat → Nat → Bool) (C : Nat → Nat) : Prop :=
  N ≤ 14 ∧ Q ≤ 6 ∧ s 2 = nI N ∧ s 3 = nI Q ∧
  (∀ (M : um_S) (u q : Nat), M.1 1 = s → u < N → q < Q → f_X9_canGo (nI u) (nI q) M = some (op u q)) ∧
  (∀ (M : um_S) (q : Nat), M.1 1 = s → q < Q → ∃ r : Nat, f_X9_assignedTo (nI q) M = some (nI r) ∧ ∀ x : Nat, x ≤ 14 → ((s (250 + 4 * q + 2) - nI r) ≤ nI x ↔ C q ≤ x))
def kf (M0 M : um_S) : Prop := ∀ k j, k ≠ 11 → k ≠ 13 → M.1 k j = M0.1 k j
def kg (M : um_S) (N : Nat) (G : Nat → Nat) : Prop := ∀ u, u < N → M.1 11 u = nI (G u) + (-1)
def km (M : um_S) (met : Nat → Bool) : Prop := ∀ q, q < 6 → M.1 13 q = if met q = true then 1 else 0
/-- who is settled -/
def ks (M : um_S) (N f : Nat) : Prop := ∀ u, u < N → M.1 12 u = if u < f then 1 else 0
theorem g_eq {a q : Nat} (ha : a < 2 ^ 20) (hq : q < 2 ^ 20) : nI a + (-1) = nI q ↔ a = q + 1 := by
  cases a with
  | zero =>
    constructor
    · intro h
      exact absurd h.symm (nI_nneg (by omega))
    · intro h
      omega
  | succ a =>
    rw [nI_am, nI_eq (by omega) (by omega)]
    omega
/-- he goes nowhere -/
def g0 (G : Nat → Nat) (u : Nat) : Nat → Nat := fun x => if x = u then 0 else G x
def gq (G : Nat → Nat) (u q : Nat) : Nat → Nat := fun x => if x = u then q + 1 else G x
section COM
variable {M0 M M' : um_S} {N Q f v q d u : Nat} {op : Nat → Nat → Bool} {C G G' G2 : Nat → Nat} {met met0 met' met2 : Nat → Bool} {s : Nat → Int32}
theorem kf_wr {k i : Nat} {w : Int32} (h : kf M0 M) (hk : k = 11 ∨ k = 13) : kf M0 (um_wr M k i w) := fun k2 j h1 h2 => by rw [um_wr_nk (by omega), h k2 j h1 h2]
theorem kg_wr {a : Nat} {w : Int32} (h : kg M N G) (e : w = nI a + (-1)) : kg (um_wr M 11 u w) N (fun x => if x = u then a else G x) := by
  intro x hx
  try dsimp only
  by_cases ex : x = u
  · subst ex
    rw [um_wr_at, if_pos rfl, e]
  · rw [um_wr_an ex, if_neg ex]
    exact h x hx
theorem kg_13 {i : Nat} {w : Int32} (h : kg M N G) : kg (um_wr M 13 i w) N G := fun u hu => by rw [um_wr_nk (by omega)]; exact h u hu
theorem km_11 {i : Nat} {w : Int32} (h : km M met) : km (um_wr M 11 i w) met := fun u hu => by rw [um_wr_nk (by omega)]; exact h u hu
theorem km_wr (h : km M met) : km (um_wr M 13 q ((1 : Int32) &&& 1)) (fun x => if x = q then true else met x) := by
  intro x hx
  try dsimp only
  by_cases e : x = q
  · have e2 : (if x = q then true else met x) = true := if_pos e
    refine Eq.trans ?_ (if_pos e2).symm
    subst e
    rw [um_wr_at]
    rfl
  · have e2 : (if x = q then true else met x) = met x := if_neg e
    rw [um_wr_an e]
    refine (h x hx).trans ?_
    simp only [e2]
theorem lo_going (hk : kx s N Q op C) (e1 : M.1 1 = s) (hG : ∀ u, u < N → G u ≤ Q) (h : kg M N G) (hq : q < 6) : ∀ (i j fu : Nat), j + i = N → i < fu → f_X9_goingTo_l4 (nI q) M fu (nI (cg G j q)) (nI j) = some (nI (cg G N q)) := by
  obtain ⟨hN, hQ, k2, k3, k4, k5⟩ := hk
  intro i
  induction i with
  | zero =>
    intro j fu hj hfu
    obtain ⟨fu, rfl⟩ : ∃ g, fu = g + 1 := ⟨fu - 1, by omega⟩
    rw [f_X9_goingTo_l4, e1, k2, if_pos (nI_le (by omega) (by omega)), show j = N by omega]
  | succ i ih =>
    intro j fu hj hfu
    obtain ⟨fu, rfl⟩ : ∃ g, fu = g + 1 := ⟨fu - 1, by omega⟩
    rw [f_X9_goingTo_l4, e1, k2, if_neg (nI_ge (by omega) (by omega)), if_pos (um_ix_nI (by omega) (by omega)), nI_clamp (by omega), h j (by omega)]
    have hle := hG j (by omega)
    have nx := ih (j + 1) fu (by omega) (by omega)
    unfold um_let
    try dsimp only
    rw [nI_1, nI_1, ad_0]
    have es : cg G (j + 1) q = cg G j q + (if decide (G j = q + 1) = true then 1 else 0) := rfl
    by_cases e : G j = q + 1
    · rw [decide_eq_true e, if_pos rfl] at es
      rw [es] at nx
      rw [if_pos ((g_eq (by omega) (by omega)).mpr e)]
      exact nx
    · rw [decide_eq_false e, if_neg (by decide)] at es
      rw [es] at nx
      rw [if_neg (fun z => e ((g_eq (by omega) (by omega)).mp z))]
      exact nx
theorem m_goingTo (hk : kx s N Q op C) (e1 : M.1 1 = s) (hG : ∀ u, u < N → G u ≤ Q) (h : kg M N G) (hq : q < 6) : f_X9_goingTo (nI q) M = some (nI (cg G N q)) := by
  unfold f_X9_goingTo
  rw [show f_X9_goingTo_l4 (nI q) M um_N (0 : Int32) (0 : Int32) = some (nI (cg G N q)) from lo_going hk e1 hG h hq N 0 um_N (by omega) (by have := hk.1; unfold um_N; omega), Option.bind_some]
/-- what was met, is closed -/
def cl (N Q f : Nat) (op : Nat → Nat → Bool) (C G : Nat → Nat) (met0 met : Nat → Bool) : Prop := ∀ q, q < Q → met q = true → met0 q = false → C q ≤ cg G N q ∧ ∀ u, f ≤ u → u < N → G u = q + 1 → ∀ q2, q2 < Q → op u q2 = true → met q2 = true
theorem cl_trans (hm : ∀ q, met q = true → met' q = true) (h1 : cl N Q f op C G met0 met) (h2 : cl N Q f op C G met met') : cl N Q f op C G met0 met' := by
  intro q hq hq1 hq0
  cases hmq : met q with
  | false => exact h2 q hq hq1 hmq
  | true =>
    obtain ⟨c1, c2⟩ := h1 q hq hmq hq0
    exact ⟨c1, fun u hu huN hGu q2 hq2 ho => hm _ (c2 u hu huN hGu q2 hq2 ho)⟩
theorem cg_g0 (hu : u < N) (hG : G u = q + 1) : cg G N q = cg (g0 G u) N q + 1 := by
  unfold cg g0
  refine cnp_add N (fun x hx hne => ?_) hu ?_ ?_
  · try dsimp only
    rw [if_neg hne]
  · try dsimp only
    rw [if_pos rfl]
    exact decide_eq_false (by omega)
  · exact decide_eq_true hG
theorem cg_g0_le {p : Nat} : cg (g0 G u) N p ≤ cg G N p := by
  unfold cg g0
  refine cnp_mono N (fun x hx h => ?_)
  have h := of_decide_eq_true h
  try dsimp only at h
  by_cases e : x = u
  · rw [if_pos e] at h
    omega
  · rw [if_neg e] at h
    exact decide_eq_true h
theorem cg_gq (hv : v < N) (h0 : G v = 0) : cg (gq G v q) N q = cg G N q + 1 := by
  unfold cg gq
  refine cnp_add N (fun x hx hne => ?_) hv ?_ ?_
  · try dsimp only
    rw [if_neg hne]
  · exact decide_eq_false (by omega)
  · try dsimp only
    rw [if_pos rfl]
    exact decide_eq_true rfl
theorem cg_gq_le {p : Nat} (hp : p ≠ q) : cg (gq G v q) N p ≤ cg G N p := by
  unfold cg gq
  refine cnp_mono N (fun x hx h => ?_)
  have h := of_decide_eq_true h
  try dsimp only at h
  by_cases e : x = v
  · rw [if_pos e] at h
    omega
  · rw [if_neg e] at h
    exact decide_eq_true h
theorem va_g0 (h : va N Q f op C G) : va N Q f op C (g0 G u) := by
  refine ⟨fun x hx => ?_, fun x p hx hxN hG => ?_, fun p hp => Nat.le_trans cg_g0_le (h.2.2 p hp)⟩
  · unfold g0
    try dsimp only
    split
    · omega
    · exact h.1 x hx
  · unfold g0 at hG
    try dsimp only at hG
    split at hG
    · omega
    · exact h.2.1 x p hx hxN hG
/-- there is room -/
theorem su_room (hv : va N Q f op C G) (hfv : f ≤ v) (hvN : v < N) (hq : q < Q) (h0 : G v = 0) (ho : op v q = true) (hr : ¬ C q ≤ cg G N q) (hm : met0 q = false) : su N Q f v op C G (gq G v q) met0 := by
  refine ⟨fun u hu => ?_, fun u hu => ?_, fun p u hp => ?_, ⟨fun x hx => ?_, fun x p hx hxN hG => ?_, fun p hp => ?_⟩⟩
  · unfold gq
    try dsimp only
    rw [if_neg (by omega)]
  · unfold gq
    try dsimp only
    by_cases e : u = v
    · rw [if_pos e]
      exact ⟨fun _ => Or.inr e, fun _ => by omega⟩
    · rw [if_neg e]
      exact ⟨fun z => Or.inl z, fun z => z.resolve_right e⟩
  · unfold gq
    try dsimp only
    by_cases e : u = v
    · subst e
      rw [if_pos rfl, h0]
      have : p ≠ q := fun z => by subst z; rw [hm] at hp; cases hp
      omega
    · rw [if_neg e]
  · unfold gq
    try dsimp only
    split
    · omega
    · exact hv.1 x hx
  · unfold gq at hG
    try dsimp only at hG
    split at hG
    · rename_i e
      subst e
      rw [show p = q by omega]
      exact ho
    · exact hv.2.1 x p hx hxN hG
  · by_cases e : p = q
    · subst e
      rw [cg_gq hvN h0]
      omega
    · exact Nat.le_trans (cg_gq_le e) (hv.2.2 p hp)
/-- another makes room -/
theorem su_lift (hv : va N Q f op C G) (hfv : f ≤ v) (hvN : v < N) (hq : q < Q) (h0 : G v = 0) (ho : op v q = true) (hm : met0 q = false) (hsub : ∀ p, met0 p = true → met p = true) (hmq : met q = true) (hfu : f ≤ u) (huN : u < N) (hGu : G u = q + 1) (hs : su N Q f u op C (g0 G u) G2 met) : su N Q f v op C G (gq G2 v q) met0 := by
  obtain ⟨s1, s2, s3, s4⟩ := hs
  have huv : v ≠ u := fun z => by rw [z] at h0; omega
  have g0u : g0 G u u = 0 := if_pos rfl
  have g0n : ∀ x, x ≠ u → g0 G u x = G x := fun x hx => if_neg hx
  have hG2v : G2 v = 0 := by
    refine Decidable.byContradiction (fun z => ?_)
    rcases (s2 v hvN).mp z with z | z
    · rw [g0n v huv] at z
      exact z h0
    · exact huv z
  refine ⟨fun x hx => ?_, fun x hx => ?_, fun p x hp => ?_, ⟨fun x hx => ?_, fun x p hx hxN hG => ?_, fun p hp => ?_⟩⟩
  · unfold gq
    try dsimp only
    rw [if_neg (by omega), s1 x hx, g0n x (by omega)]
  · unfold gq
    try dsimp only
    by_cases e : x = v
    · rw [if_pos e]
      exact ⟨fun _ => Or.inr e, fun _ => by omega⟩
    · rw [if_neg e, s2 x hx]
      by_cases eu : x = u
      · subst eu
        exact ⟨fun _ => Or.inl (by omega), fun _ => Or.inr rfl⟩
      · rw [g0n x eu]
        exact ⟨fun z => Or.inl (z.resolve_right eu), fun z => Or.inl (z.resolve_right e)⟩
  · have hpq : p ≠ q := fun z => by subst z; rw [hm] at hp; cases hp
    unfold gq
    try dsimp only
    by_cases e : x = v
    · subst e
      rw [if_pos rfl, h0]
      omega
    · rw [if_neg e, s3 p x (hsub p hp)]
      by_cases eu : x = u
      · subst eu
        rw [g0u, hGu]
        omega
      · rw [g0n x eu]
  · unfold gq
    try dsimp only
    split
    · omega
    · exact s4.1 x hx
  · unfold gq at hG
    try dsimp only at hG
    split at hG
    · rename_i e
      subst e
      rw [show p = q by omega]
      exact ho
    · exact s4.2.1 x p hx hxN hG
  · by_cases e : p = q
    · subst e
      have e2 : cg G2 N p = cg (g0 G u) N p := cnp_congr N (fun x hx => decide_eq_decide.mpr (s3 p x hmq))
      rw [cg_gq hvN hG2v, e2, ← cg_g0 huN hGu]
      exact hv.2.2 p hp
    · exact Nat.le_trans (cg_gq_le e) (s4.2.2 p hp)
/-- what the search does -/
def cs (s : Nat → Int32) (N Q f : Nat) (op : Nat → Nat → Bool) (C : Nat → Nat) (d : Nat) : Prop := ∀ (M0 M : um_S) (G : Nat → Nat) (met : Nat → Bool) (v : Nat), M0.1 1 = s → ks M0 N f → kf M0 M → kg M N G → km M met → va N Q f op C G → f ≤ v → v < N → G v = 0 → cnp (fun q => !met q) Q < d →
  ∃ (b : Bool) (M' : um_S) (G' : Nat → Nat) (met' : Nat → Bool), f_X9_comes d (nI v) M = some (b, M') ∧ kf M0 M' ∧ kg M' N G' ∧ km M' met' ∧ (b = false → G' = G ∧ fa N Q f v op C G met met') ∧ (b = true → su N Q f v op C G G' met)
theorem lc_77 (hk : kx s N Q op C) (hcs : cs s N Q f op C d) (e1 : M0.1 1 = s) (hks : ks M0 N f) (hv : va N Q f op C G) (hfv : f ≤ v) (hvN : v < N) (hq : q < Q) (h0 : G v = 0) (ho : op v q = true) (hm0 : met0 q = false) : ∀ (i j fu : Nat) (M : um_S) (met : Nat → Bool), j + i = N → i < fu → kf M0 M → kg M N G → km M met → (∀ p, met0 p = true → met p = true) → met q = true → cnp (fun q => !met q) Q < d →
    ∃ (out : (Bool × um_S) ⊕ um_S), f_X9_comes_l77 (f_X9_comes d) (nI v) (nI q) fu (nI j) M = some out ∧
      ((∃ M' met', out = .inr M' ∧ kf M0 M' ∧ kg M' N G ∧ km M' met' ∧ (∀ p, met p = true → met' p = true) ∧ cl N Q f op C G met met' ∧ ∀ u, j ≤ u → f ≤ u → u < N → G u = q + 1 → ∀ q2, q2 < Q → op u q2 = true → met' q2 = true) ∨
       (∃ M' G' met', out = .inl (true, M') ∧ kf M0 M' ∧ kg M' N G' ∧ km M' met' ∧ su N Q f v op C G G' met0)) := by
  have hN := hk.1
  have hQ := hk.2.1
  have k2 := hk.2.2.1
  intro i
  induction i with
  | zero =>
    intro j fu M met hj hfu h1 h2 h3 h4 h5 h6
    obtain ⟨fu, rfl⟩ : ∃ g, fu = g + 1 := ⟨fu - 1, by omega⟩
    have eM : M.1 1 2 = nI N := by rw [h1 1 2 (by omega) (by omega), e1, k2]
    refine ⟨.inr M, ?_, Or.inl ⟨M, met, rfl, h1, h2, h3, fun _ z => z, fun p _ z1 z2 => (by rw [z1] at z2; cases z2), fun u hu _ huN => absurd huN (by omega)⟩⟩
    rw [f_X9_comes_l77, eM, if_pos (nI_le (by omega) (by omega))]
  | succ i ih =>
    intro j fu M met hj hfu h1 h2 h3 h4 h5 h6
    obtain ⟨fu, rfl⟩ : ∃ g, fu = g + 1 := ⟨fu - 1, by omega⟩
    have eM : M.1 1 2 = nI N := by rw [h1 1 2 (by omega) (by omega), e1, k2]
    have hjN : j < N := by omega
    have hix : um_ix (nI j) 14 = true := um_ix_nI (by omega) (by omega)
    have hGj := hv.1 j hjN
    have eS : M.1 12 j = if j < f then 1 else 0 := by rw [h1 12 j (by omega) (by omega)]; exact hks j hjN
    rw [f_X9_comes_l77, eM, if_neg (nI_ge (by omega) (by omega)), if_pos hix, if_pos hix, if_pos hix, nI_clamp (n := j) (by omega), h2 j hjN, nI_1]
    have skip : (G j = q + 1 → j < f) → ∃ (out : (Bool × um_S) ⊕ um_S), f_X9_comes_l77 (f_X9_comes d) (nI v) (nI q) fu (nI (j + 1)) M = some out ∧
      ((∃ M' met', out = .inr M' ∧ kf M0 M' ∧ kg M' N G ∧ km M' met' ∧ (∀ p, met p = true → met' p = true) ∧ cl N Q f op C G met met' ∧ ∀ u, j ≤ u → f ≤ u → u < N → G u = q + 1 → ∀ q2, q2 < Q → op u q2 = true → met' q2 = true) ∨
       (∃ M' G' met', out = .inl (true, M') ∧ kf M0 M' ∧ kg M' N G' ∧ km M' met' ∧ su N Q f v op C G G' met0)) := by
      intro hsk
      obtain ⟨out, o1, o2⟩ := ih (j + 1) fu M met (by omega) (by omega) h1 h2 h3 h4 h5 h6
      refine ⟨out, o1, ?_⟩
      rcases o2 with ⟨M', met', p1, p2, p3, p4, p5, p6, p7⟩ | o2
      · refine Or.inl ⟨M', met', p1, p2, p3, p4, p5, p6, fun u hu hfu huN hGu => ?_⟩
        by_cases e : u = j
        · subst e
          exact absurd (hsk hGu) (by omega)
        · exact p7 u (by omega) hfu huN hGu
      · exact Or.inr o2
    by_cases eG : G j = q + 1
    · rw [if_pos ((g_eq (by omega) (by omega)).mpr eG), eS]
      by_cases hjf : j < f
      · rw [if_pos hjf, if_neg (by decide)]
        exact skip (fun _ => hjf)
      · rw [if_neg hjf, if_pos rfl]
        have hg4 : kg (um_wr M 11 j (-1)) N (g0 G j) := kg_wr (a := 0) h2 (by decide)
        obtain ⟨b, M7, G7, met7, c1, c2, c3, c4, c5, c6⟩ := hcs M0 (um_wr M 11 j (-1)) (g0 G j) met j e1 hks (kf_wr h1 (Or.inl rfl)) hg4 (km_11 h3) (va_g0 hv) (by omega) hjN (if_pos rfl) h6
        unfold um_let
        try dsimp only
        rw [c1, um_b2_some]
        cases b with
        | false =>
          obtain ⟨d1, d2, d3, d4⟩ := c5 rfl
          subst d1
          rw [show um_b false = 0 from rfl, if_pos rfl]
          have hg10 : kg (um_wr M7 11 j (nI q)) N G := by
            intro x hx
            have := kg_wr (u := j) (a := q + 1) c3 (nI_am q).symm x hx
            rw [this]
            try dsimp only
            by_cases e : x = j
            · rw [if_pos e, e, eG]
            · rw [if_neg e]
              unfold g0
              rw [if_neg e]
          obtain ⟨out, o1, o2⟩ := ih (j + 1) fu (um_wr M7 11 j (nI q)) met7 (by omega) (by omega) (kf_wr c2 (Or.inl rfl)) hg10 (km_11 c4) (fun p hp => d2 p (h4 p hp)) (d2 q h5) (Nat.lt_of_le_of_lt (cnp_mono Q (fun p _ hp => by
            cases hmp : met p with
            | false => rfl
            | true => rw [d2 p hmp] at hp; cases hp)) h6)
          refine ⟨out, (if_pos hix).trans o1, ?_⟩
          rcases o2 with ⟨M', met', p1, p2, p3, p4, p5, p6, p7⟩ | o2
          · have hcl : cl N Q f op C G met met7 := by
              intro p hp hp1 hp0
              obtain ⟨a1, a2⟩ := d4 p hp hp1 hp0
              refine ⟨Nat.le_trans a1 cg_g0_le, fun u hu huN hGu => a2 u hu huN ?_⟩
              have : u ≠ j := fun z => by
                subst z
                rw [show p = q by omega, h5] at hp0
                cases hp0
              unfold g0
              rw [if_neg this]
              exact hGu
            refine Or.inl ⟨M', met', p1, p2, p3, p4, fun p hp => p5 p (d2 p hp), cl_trans p5 hcl p6, fun u hu hfu huN hGu q2 hq2 hoq => ?_⟩
            by_cases e : u = j
            · subst e
              exact p5 _ (d3 q2 hq2 hoq)
            · exact p7 u (by omega) hfu huN hGu q2 hq2 hoq
          · exact Or.inr o2
        | true =>
          rw [if_neg (by decide), if_pos (um_ix_nI (n := v) (by omega) (by omega)), nI_clamp (n := v) (by omega)]
          refine ⟨_, rfl, Or.inr ⟨um_wr M7 11 v (nI q), gq G7 v q, met7, rfl, kf_wr c2 (Or.inl rfl), kg_wr (a := q + 1) c3 (nI_am q).symm, km_11 c4, ?_⟩⟩
          exact su_lift hv hfv hvN hq h0 ho hm0 h4 h5 (by omega) hjN eG (c6 rfl)
    · rw [if_neg (fun z => eG ((g_eq (by omega) (by omega)).mp z))]
      exact skip (fun z => absurd z eG)
end COM
