/-! LEVEL 2: texts: both at a token -/
/-- what both hold between two tokens -/
def CO (kk z base : Nat) (b : Nat → Nat) (X M : um_S) (nd nx nt : Nat) (w : Int32) (R : List Int32) (S : List Nat) (P : List (Int32 × Int32)) (e : Nat) : Prop :=
  tp X M z b ∧ X.1 4 6 = w ∧ X.1 4 11 = nI kk ∧ (X.1 4 13 = nI nd ∧ M.1 0 14 = nI nd ∧ nd ≤ 8) ∧ (X.1 4 14 = nI nx ∧ M.1 0 15 = nI nt ∧ nx ≤ 8 ∧ nt ≤ 8) ∧ ce X R S ∧ mP M base P ∧ (X.1 4 12 = nI (cv R) ∧ M.1 0 18 = nI (cv R)) ∧ R.length + S.length + 3 ≤ e
/-- nothing but what reading a text changes -/
def xF (X X' : um_S) : Prop := (∀ k j, k ≠ 9 → k ≠ 10 → (k ≠ 4 ∨ j < 2 ∨ j = 11 ∨ 14 < j) → X'.1 k j = X.1 k j) ∧ X'.2 = X.2
/-- one value more -/
def hH (R R' : List Int32) : Prop := ∀ h, hg R = some h → hg R' = some (h + 1)
/-- a compare under signs of a higher rank -/
def tn_c (T : List Nat) : Prop := ∃ T4 c T5, T = T4 ++ c :: T5 ∧ (∀ d, d ∈ T4 → 4 ≤ rk d) ∧ rk c = 3
def tn_o (L : Nat) (b : Nat → Nat) (t st : Nat) (T : List Nat) : Prop := t = 3 → rk (b st) < L ∨ (rk (b st) = 3 ∧ tn_c T)
/-- both refuse, at the same place -/
def fal (X M' : um_S) (n j : Nat) : Prop := ∃ st' X', st' ≤ 96 ∧ bdy n (nI j) X = some (.inl (nI st', X')) ∧ M'.1 0 9 = nI st' ∧ xF X X'
/-- both have read a part of that level -/
def exi (kk z base : Nat) (b : Nat → Nat) (L Lt : Nat) (X M' : um_S) (n j s0 nd nt : Nat) (R : List Int32) (S : List Nat) (st' : Nat) : Prop :=
  ∃ X' en' t' gl' T R1 P' n' j', bdy n (nI j) X = bdy n' (nI j') X' ∧ CO kk z base b X' M' nd nt nt 0 R1 (T ++ S) P' st' ∧ TK X' M' z b st' en' t' gl' ∧ al kk (wt T R1) P' ∧ (∀ c, c ∈ T → L ≤ rk c) ∧ hH R (wt T R1) ∧ 97 ≤ n' + st' ∧ j' ≤ st' ∧ s0 < st' ∧ xF X X' ∧ tn_o Lt b t' st' T
def lev (kk z base : Nat) (b : Nat → Nat) (D L : Nat) (F : um_S → Option (Bool × um_S)) : Prop :=
  ∀ (X M : um_S) (st en t : Nat) (gl : Bool) (nd nt : Nat) (R : List Int32) (S : List Nat) (P : List (Int32 × Int32)) (n j : Nat), CO kk z base b X M nd nt nt 1 R S P st → TK X M z b st en t gl → al kk R P → (∀ c S', S = c :: S' → rk c < L ∧ c ≠ 33) → 97 ≤ n + st → j ≤ st → 17 ≤ D + nd + nt →
  ∃ ok M', F M = some (ok, M') ∧ mE base M M' ∧ ((ok = false ∧ fal X M' n j) ∨ (ok = true ∧ ∃ st', exi kk z base b L L X M' n j st nd nt R S st'))
section LEV
variable {X X' X1 X2 M M' M1 M2 : um_S} {kk z base st en t n j nd nx nt e e' L c k : Nat} {b : Nat → Nat} {gl : Bool} {w v1 : Int32} {R R' : List Int32} {S T : List Nat} {P : List (Int32 × Int32)}
theorem xF_refl : xF X X := ⟨fun _ _ _ _ _ => rfl, rfl⟩
theorem xF_trans (a : xF X X') (b : xF X' X2) : xF X X2 := ⟨fun k j h1 h2 h3 => by rw [b.1 k j h1 h2 h3, a.1 k j h1 h2 h3], by rw [b.2, a.2]⟩
theorem xr_xF (a : xr X X') : xF X X' := ⟨fun k j h1 h2 h3 => a.1 k j (by omega), a.2⟩
theorem xE_xF (a : xE X X') : xF X X' := ⟨fun k j h1 h2 h3 => a.1 k j h1 h2 (by omega), a.2⟩
theorem tp_E (h : tp X M z b) (hx : xE X X') : tp X' M z b := by
  obtain ⟨h1, h2, h3, h4⟩ := h
  refine ⟨by rw [hx.1 4 1 (by omega) (by omega) (by omega)]; exact h1, h2, h3, fun j hj => ?_⟩
  rw [hx.1 8 j (by omega) (by omega) (by omega)]
  exact h4 j hj
theorem tp_M (h : tp X M z b) (hm : mE base M M') : tp X M' z b := by
  obtain ⟨h1, h2, h3, h4⟩ := h
  refine ⟨h1, by rw [hm 0 8 (by omega) (by omega)]; exact h2, h3, fun j hj => ?_⟩
  rw [hm 7 j (by omega) (by omega)]
  exact h4 j hj
theorem TK_m (h : TK X M z b st en t gl) (hm : ∀ i, i ≤ 13 → M'.1 0 i = M.1 0 i) : TK X M' z b st en t gl := by
  obtain ⟨h1, h2, h3, h4, h5, h6, h7, h8, h9⟩ := h
  unfold TK
  rw [hm 9 (by omega), hm 10 (by omega), hm 11 (by omega), hm 12 (by omega), hm 13 (by omega)]
  exact ⟨h1, h2, h3, h4, h5, h6, h7, h8, h9⟩
theorem tn_t (h : TK X M z b st en t gl) : t = 0 ∨ t = 1 ∨ t = 2 ∨ t = 3 := by
  have hl := so_le (z := z) (b := b) (p := st)
  have := h.2.2.1
  omega
theorem tn_lt (h : TK X M z b st en t gl) (t0 : t ≠ 0) : st < en := by
  have ht := tn_t h
  obtain ⟨h1, h2, h3, h4, h5, h6, h7, h8, h9⟩ := h
  rcases ht with e | e | e | e
  · exact absurd e t0
  · exact (h8 e).1
  · exact (h9 e).1
  · have := (h7 e).2.1
    omega
theorem ce_r (h : ce X R S) (hx : xr X X') : ce X' R S := by
  obtain ⟨h1, h2, h3, h4, h5, h6⟩ := h
  exact ⟨by rw [hx.1 4 9 (by omega)]; exact h1, pile_of (fun j => hx.1 9 j (by omega)) h2, by rw [hx.1 4 10 (by omega)]; exact h3, pile_of (fun j => hx.1 10 j (by omega)) h4, h5, h6⟩
theorem mP_r (h : mP M base P) (hm : mr M M') : mP M' base P := by
  obtain ⟨h1, h2, h3, h4, h5⟩ := h
  exact ⟨by rw [hm 0 17 (by omega)]; exact h1, by rw [hm 0 16 (by omega)]; exact h2, pil2_of (fun j _ => hm 1 j (by omega)) h3, h4, h5⟩
theorem CO_r (h : CO kk z base b X M nd nx nt w R S P e) (hx : xr X X') (hm : mr M M') (he : e ≤ e') : CO kk z base b X' M' nd nx nt w R S P e' := by
  obtain ⟨h1, h2, h3, ⟨a1, a2, a3⟩, ⟨b1, b2, b3, b4⟩, h6, h7, ⟨c1, c2⟩, h9⟩ := h
  exact ⟨tp_of h1 hx hm, by rw [hx.1 4 6 (by omega)]; exact h2, by rw [hx.1 4 11 (by omega)]; exact h3, ⟨by rw [hx.1 4 13 (by omega)]; exact a1, by rw [hm 0 14 (by omega)]; exact a2, a3⟩, ⟨by rw [hx.1 4 14 (by omega)]; exact b1, by rw [hm 0 15 (by omega)]; exact b2, b3, b4⟩, ce_r h6 hx, mP_r h7 hm, ⟨by rw [hx.1 4 12 (by omega)]; exact c1, by rw [hm 0 18 (by omega)]; exact c2⟩, by omega⟩
/-- behind a token that both have taken -/
theorem nxt (ht : tp X1 M1 z b) (h : TK X M z b st en t false) (t0 : t ≠ 0) (h2 : t = 2 → en - st ≤ 4) (x3 : X1.1 4 3 = X.1 4 3) (x4 : X1.1 4 4 = X.1 4 4) (m10 : M1.1 0 10 = M.1 0 10) (m11 : M1.1 0 11 = M.1 0 11) : ∃ X2 M2 st' en' t' gl', f_X6_next X1 = some X2 ∧ f_X9_next M1 = some M2 ∧ en ≤ st' ∧ TK X2 M2 z b st' en' t' gl' ∧ xr X1 X2 ∧ mr M1 M2 := by
  have hlt := tn_lt h t0
  have htt := tn_t h
  obtain ⟨h1, hez, h3, ⟨y2, y3, y4, y5⟩, ⟨y9, y10⟩, q0, q3, q1, q2⟩ := h
  have hz := ht.2.2.1
  have e1 : nI t = 1 ↔ t = 1 := nI_eq (b := 1) (by omega) (by omega)
  have e2 : nI t = 2 ↔ t = 2 := nI_eq (b := 2) (by omega) (by omega)
  have hx : (X1.1 4 4 = 1 ∨ X1.1 4 4 = 2) ↔ decide (t = 1 ∨ t = 2) = true := by
    rw [x4, y4, e1, e2, decide_eq_true_iff]
  have p10 : ¬ M1.1 0 10 ≤ 0 := by rw [m10, y10]; exact nI_nle (by omega) (by omega)
  have hm : (¬ M1.1 0 10 ≤ 0 ∧ (M1.1 0 11 = 1 ∨ M1.1 0 11 = 2)) ↔ decide (t = 1 ∨ t = 2) = true := by
    rw [decide_eq_true_iff, m11]
    rcases htt with e | e | e | e
    · exact absurd e t0
    · have := (q1 e).2.1
      rw [if_neg (by decide)] at this
      exact ⟨fun _ => Or.inl e, fun _ => ⟨p10, Or.inl this⟩⟩
    · have := (q2 e).2.1
      rw [if_neg (fun z => z.elim (fun z => by cases z) (fun z => by have := h2 e; omega))] at this
      exact ⟨fun _ => Or.inr e, fun _ => ⟨p10, Or.inr this⟩⟩
    · have := (q3 e).2.2.1
      rw [this]
      exact ⟨fun z => absurd z.2 (by decide), fun z => by omega⟩
  obtain ⟨X2, M2, r1, r2, st', en', t', gl', r3, r4, r5, r6, r7⟩ := nx_ ht hez (by rw [x3]; exact y3) (by rw [m10]; exact y10) hx hm
  exact ⟨X2, M2, st', en', t', gl', r1, r2, r3, r5, r6, r7⟩
theorem bdy_part (h : TK X M z b st en t false) (t0 : t ≠ 0) (w1 : X.1 4 6 = 1) (hp : f_X6_takesPart X = some (true, X1)) (hj : j + 1 ≤ 96) (hn : f_X6_next X1 = some X2) : bdy (n + 1) (nI j) X = bdy n (nI (j + 1)) X2 := by
  have htt := tn_t h
  have n0 : ¬ nI t = 0 := nI_ne0 (by omega) (by omega)
  have n6 : ¬ X.1 4 6 = 0 := by rw [w1]; decide
  have f0 : um_b false = 0 := rfl
  have f1 : ¬ um_b true = 0 := by decide
  refine Eq.trans (b := f_X6_faultPlace_l30 (n + 1) (nI (j + 1)) X1) ?_ ?_
  · unfold bdy
    rw [h.2.2.2.1.2.2.1, if_neg n0, h.2.2.2.1.2.2.2, if_pos f0, if_neg n6, hp, um_b2_some, if_neg f1, nI_1]
  · rw [l30_bdy hj, hn]
    rfl
theorem bdy_join (h : TK X M z b st en t false) (t0 : t ≠ 0) (w0 : X.1 4 6 = 0) (hp : f_X6_takesJoin X = some (true, X1)) (hj : j + 1 ≤ 96) (hn : f_X6_next X1 = some X2) : bdy (n + 1) (nI j) X = bdy n (nI (j + 1)) X2 := by
  have htt := tn_t h
  have n0 : ¬ nI t = 0 := nI_ne0 (by omega) (by omega)
  have f0 : um_b false = 0 := rfl
  have f1 : ¬ um_b true = 0 := by decide
  refine Eq.trans (b := f_X6_faultPlace_l30 (n + 1) (nI (j + 1)) X1) ?_ ?_
  · unfold bdy
    rw [h.2.2.2.1.2.2.1, if_neg n0, h.2.2.2.1.2.2.2, if_pos f0, if_pos w0, hp, um_b2_some, if_neg f1, nI_1]
  · rw [l30_bdy hj, hn]
    rfl
theorem bdy_jf (h : TK X M z b st en t false) (t0 : t ≠ 0) (w0 : X.1 4 6 = 0) (hp : f_X6_takesJoin X = some (false, X1)) (h2 : X1.1 4 2 = nI st) : bdy n v1 X = some (.inl (nI st, X1)) := by
  have htt := tn_t h
  have n0 : ¬ nI t = 0 := nI_ne0 (by omega) (by omega)
  have f0 : um_b false = 0 := rfl
  unfold bdy
  rw [h.2.2.2.1.2.2.1, if_neg n0, h.2.2.2.1.2.2.2, if_pos f0, if_pos w0, hp, um_b2_some, if_pos f0, h2]
theorem rk_0 (h : so z b st = 1 ∨ so z b st = 2) : rk (b st) = 0 ∧ b st ≠ 41 := by
  have h1 : (97 ≤ b st ∧ b st ≤ 122) ∨ (48 ≤ b st ∧ b st ≤ 57) := by
    rcases h with h | h
    · exact Or.inl (so_1.mp h).2
    · exact Or.inr (so_2.mp h).2
  refine ⟨?_, by omega⟩
  unfold rk
  repeat' split
  all_goals omega
/-- in a join's place: the class refuses -/
theorem join_ref (h : TK X M z b st en t gl) (hC : CO kk z base b X M nd nx nt 0 R (T ++ S) P st) (hk : tn_o 1 b t st T) (h41 : ¬ (t = 3 ∧ b st = 41 ∧ 0 < nd)) (h0 : t = 0 → 0 < nd) : ∃ X', bdy n v1 X = some (.inl (nI st, X')) ∧ xF X X' := by
  have htt := tn_t h
  have hT := h
  obtain ⟨h1, hez, h3, ⟨y2, y3, y4, y5⟩, ⟨y9, y10⟩, q0, q3, q1, q2⟩ := h
  obtain ⟨c1, c2, c3, ⟨c4, c5, c6⟩, c7, c8, c9, c10, c11⟩ := hC
  have hz := c1.2.2.1
  by_cases t0 : t = 0
  · have e0 : nI t = 0 := by rw [t0]; rfl
    have np : ¬ nI nd ≤ 0 := nI_nle (h0 t0) (by omega)
    refine ⟨X, ?_, xF_refl⟩
    unfold bdy f_X6_endsTooSoon
    rw [y4, if_pos e0, if_pos c2, c4, if_neg np, Option.bind_some, if_neg (by decide), y2]
  · have n0 : ¬ nI t = 0 := nI_ne0 (by omega) (by omega)
    have hlt := tn_lt hT t0
    have hst : st < z := by omega
    cases hg : gl with
    | true =>
      refine ⟨X, ?_, xF_refl⟩
      unfold bdy
      rw [y4, if_neg n0, y5, hg, if_neg (by decide), y2]
    | false =>
      rw [hg] at hT
      by_cases e41 : b st = 41
      · have t3 : t = 3 := by
          rcases htt with e | e | e | e
          · exact absurd e t0
          · exact absurd e41 (rk_0 (z := z) (by omega)).2
          · exact absurd e41 (rk_0 (z := z) (by omega)).2
          · exact e
        have nd0 : nd = 0 := by
          rcases Nat.eq_zero_or_pos nd with e | e
          · exact e
          · exact absurd ⟨t3, e41, e⟩ h41
        refine ⟨X, bdy_jf hT t0 c2 ?_ y2, xF_refl⟩
        have b41 : nI (b st) = (41 : Int32) := by rw [e41]; rfl
        have p0 : ¬ (0 : Int32) < nI 0 := by decide
        unfold f_X6_takesJoin f_X6_takesClosing
        rw [y2, x_byteAt c1 (by omega), Option.bind_some, if_pos hst, if_pos b41, c4, nd0, if_neg p0, um_b2_some]
      · by_cases r0 : rk (b st) = 0
        · exact ⟨X, bdy_jf hT t0 c2 (x_nojoin c1 y2 hst e41 r0) y2, xF_refl⟩
        · have t3 : t = 3 := by
            rcases htt with e | e | e | e
            · exact absurd e t0
            · exact absurd (rk_0 (z := z) (by omega)).1 r0
            · exact absurd (rk_0 (z := z) (by omega)).1 r0
            · exact e
          rcases hk t3 with hr | ⟨hr, T4, c, T5, eT, hT4, hc3⟩
          · omega
          · have ef : (fl 4 (T ++ S) R).1 = c :: (T5 ++ S) := by
              rw [eT, List.append_assoc, fl_wt T4 ((c :: T5) ++ S) R hT4 (fun d S' e => by
                have := (List.cons.inj e).1
                rw [← this]; omega)]
              rfl
            obtain ⟨X1, a1, a2⟩ := x_join3 c1 y2 hst rfl hr c8 (by omega) ef hc3
            exact ⟨X1, bdy_jf hT t0 c2 a1 (by rw [a2.1 4 2 (by omega) (by omega) (by omega)]; exact y2), xE_xF a2⟩
theorem wt_len : ∀ (T : List Nat) (R : List Int32), (wt T R).length = T.length + R.length
  | [], R => by
    change R.length = 0 + R.length
    omega
  | c :: T, R => by
    change (wt T (-(nI c) :: R)).length = T.length + 1 + R.length
    rw [wt_len T]
    change T.length + (R.length + 1) = _
    omega
theorem al_len : ∀ {R : List Int32} {P : List (Int32 × Int32)}, al k R P → R.length = P.length
  | [], [], _ => rfl
  | x :: R, p :: P, h => congrArg (· + 1) (al_len h.2)
  | [], _ :: _, h => h.elim
  | _ :: _, [], h => h.elim
theorem rk_sg (h : 1 ≤ rk c) : c ∈ sgL := by
  unfold rk at h
  have : c = 38 ∨ c = 42 ∨ c = 43 ∨ c = 45 ∨ c = 47 ∨ c = 60 ∨ c = 61 ∨ c = 62 ∨ c = 124 := by
    by_cases e : c = 38 ∨ c = 42 ∨ c = 43 ∨ c = 45 ∨ c = 47 ∨ c = 60 ∨ c = 61 ∨ c = 62 ∨ c = 124
    · exact e
    · rw [if_neg (by omega), if_neg (by omega), if_neg (by omega), if_neg (by omega), if_neg (by omega), if_neg (by omega), if_neg (by omega), if_neg (by omega), if_neg (by omega)] at h
      omega
  rcases this with e | e | e | e | e | e | e | e | e <;> subst e <;> decide
theorem sg_v (h : c ∈ sgL) : -(nI c) < (-3 : Int32) ∧ -(nI c) ≠ -33 := by
  have : ∀ c, c ∈ sgL → -(nI c) < (-3 : Int32) ∧ -(nI c) ≠ -33 := by decide
  exact this c h
theorem cv_wt : ∀ (T : List Nat) (R : List Int32), (∀ c, c ∈ T → 1 ≤ rk c) → cv (wt T R) = cv R
  | [], R, _ => rfl
  | c :: T, R, h => by
    change cv (wt T (-(nI c) :: R)) = cv R
    rw [cv_wt T _ (fun d hd => h d (List.mem_cons_of_mem _ hd))]
    change cv R + (if -(nI c) < (-3 : Int32) then 0 else 1) = cv R
    rw [if_pos (sg_v (rk_sg (h c List.mem_cons_self))).1, Nat.add_zero]
theorem wt_sn (T : List Nat) (R : List Int32) (c : Nat) : wt (T ++ [c]) R = -(nI c) :: wt T R := by
  rw [wt_app]
  rfl
theorem hg_sg {h : Nat} (hc : 1 ≤ rk c) (e : hg R = some (h + 2)) : hg (-(nI c) :: R) = some (h + 1) := by
  have s := sg_v (rk_sg hc)
  unfold hg
  rw [e, Option.bind_some, if_pos s.1, if_neg s.2, if_pos (by omega)]
  rfl
theorem tx_sg (hc : 1 ≤ rk c) : tx_st k (-(nI c)) 2 (nI c) := Or.inr (Or.inr (Or.inr ⟨c, rk_sg hc, rfl, rfl, rfl⟩))
theorem fal_of {n' j' : Nat} (he : bdy n (nI j) X = bdy n' (nI j') X') (hx : xF X X') (h : fal X' M' n' j') : fal X M' n j := by
  obtain ⟨st', X3, a1, a2, a3, a4⟩ := h
  exact ⟨st', X3, a1, he.trans a2, a3, xF_trans hx a4⟩
theorem CO_step {a v : Int32} (h : CO kk z base b X M nd nx nt w R S P e) (hl : P.length ≤ 94) : ∃ M', f_X9_step a v M = some M' ∧ CO kk z base b X M' nd nx nt w R S ((a, v) :: P) e ∧ mE base M M' ∧ (∀ i, i ≠ 16 → M'.1 0 i = M.1 0 i) := by
  obtain ⟨h1, h2, h3, ⟨a1, a2, a3⟩, ⟨b1, b2, b3, b4⟩, h6, h7, ⟨c1, c2⟩, h9⟩ := h
  obtain ⟨M', m1, m2, m3, m4⟩ := m_step (a := a) (v := v) h7 hl
  exact ⟨M', m1, ⟨tp_M h1 m3, h2, h3, ⟨a1, by rw [m4 14 (by omega)]; exact a2, a3⟩, ⟨b1, by rw [m4 15 (by omega)]; exact b2, b3, b4⟩, h6, m2, ⟨c1, by rw [m4 18 (by omega)]; exact c2⟩, h9⟩, m3, m4⟩
end LEV
