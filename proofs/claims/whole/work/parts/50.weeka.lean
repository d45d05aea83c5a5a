/-! LEVEL 2: caught; what a week does to one man -/
def wk (h W n : Nat) (X M X' M' : um_S) : Prop := sr X' h (M'.1 1) W n ∧ xf h X X' ∧ mf M M' ∧ ∀ b, b ≤ 8 → b ≠ 4 → M'.1 1 b = M.1 1 b
theorem um_b2_some {A B C : Type} (a : A) (b : B) (F : A → B → Option C) : um_b2 (some (a, b)) F = F a b := rfl
section WKA
variable {A B : Type} {Q : A → B → Prop} {X X' X2 X3 M M' M2 M3 : um_S} {h n W m i q key w : Nat} {s : Nat → Int32} {l r v a b d off : Int32}
theorem wk_refl (hs : sr X h (M.1 1) W n) : wk h W n X M X M := ⟨hs, xf_refl, mf_refl, fun _ _ _ => rfl⟩
theorem wk_trans (a : wk h W n X M X' M') (b : wk h W n X' M' X2 M2) : wk h W n X M X2 M2 := ⟨b.1, xf_trans a.2.1 b.2.1, mf_trans a.2.2.1 b.2.2.1, fun c h1 h2 => by rw [b.2.2.2 c h1 h2, a.2.2.2 c h1 h2]⟩
theorem wk_q (hs : sr X h (M.1 1) W n) (hh : um_h h) (z2 : xq X X') (z3 : mq M M') : wk h W n X M X' M' := ⟨sr_q hh z2 z3 hs, xq_xf z2, mq_mf z3, fun b _ _ => by rw [mq_1 z3]⟩
theorem wk_nn (a : wk h W n X M X' M') {t : Nat} (h8 : t ≤ 8) (h4 : t ≠ 4) : nn (M'.1 1) t = nn (M.1 1) t := nn_congr (a.2.2.2 t h8 h4)
theorem become_w (hs : sr X h (M.1 1) W n) (hh : um_h h) (hm : m < nn (M.1 1) 2) (hv : mv (nn (M.1 1) 3) (M.1 1 (50 + 14 * m + 2)) (M.1 1 (50 + 14 * m + 4)) a b (M.1 1 (50 + 14 * m + 10)) (M.1 1 (50 + 14 * m + 11))) : sm_S (f_X4_become h (nI m) a b X) (f_X9_becomesOf (nI m) a b M) (fun X' M' => wk h W n X M X' M' ∧ M'.1 1 = up (up (up (M.1 1) (50 + 14 * m + 5) a) (50 + 14 * m + 6) b) (50 + 14 * m + 7) (M.1 1 0)) :=
  sm_wk (become_ hs hh hm hv) (fun X' M' z => ⟨⟨z.1, z.2.1, z.2.2.1, fun b h8 h4 => by rw [z.2.2.2, up_ne (by omega), up_ne (by omega), up_ne (by omega)]⟩, z.2.2.2⟩)
/-- the rule of irons, and the mark -/
theorem irons_ {F : Int32 → um_S → Option A} {K : Int32 → um_S → Option B} (hs : sr X h (M.1 1) W n) (hh : um_h h) (hm : m < nn (M.1 1) 2) (hl : M.1 1 (50 + 14 * m + 10) ≠ -1) (k : ∀ x X' M', wk h W n X M X' M' → (∀ b, b ≠ 4 → (b < 280 ∨ 440 ≤ b) → M'.1 1 b = M.1 1 b) → sm_S (F x X') (K x M') Q) : sm_S (um_b2 (f_X4_ironsForOneMore h (nI m) off X) F) ((f_X9_marksOf (nI m) M).bind fun x17 => um_b2 (f_X9_ruleOf (2 : Int32) off (x17 + (1 : Int32)) (0 : Int32) M) fun x20 σ19 => (f_X9_marks (nI m) off σ19).bind fun σ22 => K x20 σ22) Q := by
  unfold f_X4_ironsForOneMore
  obtain ⟨r, r', h1, h2, e⟩ := marksOf_ (v := nI m) hs.1 hs.2.1 hh
  subst e
  rw [h1, h2, Option.bind_some, Option.bind_some, hs.1.1.1]
  obtain ⟨⟨x, X1⟩, ⟨y, M1⟩, e1, e2, z1, z2, z3⟩ := rule_2 (a := off) (b := r + 1) (d := 0) (rt_of hs) hh
  dsimp only at z1 z2 z3
  subst z1
  rw [e1, e2]
  refine sm_mb2 rfl ?_
  have w1 := wk_q hs hh z2 z3
  have hm1 : m < nn (M1.1 1) 2 := by rw [mq_1 z3]; exact hm
  have hl1 : M1.1 1 (50 + 14 * m + 10) ≠ -1 := by rw [mq_1 z3]; exact hl
  by_cases hf : nn (M1.1 1) 4 = 40
  · obtain ⟨f1, f2⟩ := marksF (m := m) (off := off) w1.1 hh hf
    refine sm_xb2 (x := um_b2 _ _) (c := x) (d := X1) (by
      rw [um_b2_some, f1]; rfl) (sm_mb f2 ?_)
    exact k x X1 M1 w1 (fun b _ _ => by rw [mq_1 z3])
  · obtain ⟨X2, M2, q1, q2, q3, q4, q5, q6, q7⟩ := marksN (off := off) w1.1 hh hm1 hl1 hf
    refine sm_xb2 (x := um_b2 _ _) (c := x) (d := X2) (by
      rw [um_b2_some, q1]; rfl) (sm_mb q2 ?_)
    refine k x X2 M2 (wk_trans w1 ⟨q3, q4, q5, fun b h8 h4 => q6 b h4 (by omega)⟩) (fun b hb hb2 => ?_)
    rw [q6 b hb hb2, mq_1 z3]
/-- a week passes over one who serves and is at a place -/
theorem tempt_ (hs : sr X h (M.1 1) W n) (hh : um_h h) (hm : m < nn (M.1 1) 2) (hp : M.1 1 (50 + 14 * m + 4) ≠ -1) : sm_S (f_X4_tempt h (nI m) X) (f_X9_offend (nI m) M) (wk h W n X M) := by
  have hi := hs.2.1
  have hc := hs.1
  have hm14 := (si_men hi).2
  have h13 : 1 ≤ h ∧ h ≤ 3 := by rcases hh with z | z | z <;> omega
  obtain ⟨es, hsd⟩ := si_seed hi
  obtain ⟨sd, hsd2⟩ : ∃ k, nn (M.1 1) 9 = k := ⟨_, rfl⟩
  rw [hsd2] at es hsd
  have hE : 25173 * sd + 13849 < 2 ^ 31 := by omega
  have ho := si_man hi m hm
  have hl := ho.2.2.2.2.1 hp
  have e25 : (25173 : Int32) * nI sd + 13849 = nI (25173 * sd + 13849) := by
    rw [show (25173 : Int32) = nI 25173 from rfl, show (13849 : Int32) = nI 13849 from rfl, nI_mul, nI_add]
  obtain ⟨t, ht⟩ : ∃ t, (25173 * sd + 13849) % 65536 = t := ⟨_, rfl⟩
  have ht6 : t < 65536 := by rw [← ht]; exact Nat.mod_lt _ (by omega)
  unfold f_X4_tempt f_X9_offend f_X9_draw
  rw [hc.1.2.1, es, e25, nI_m16 hE, nI_d16 hE, ht]
  refine sm_xl (sm_mb m_manAt (sm_mb2 rfl ?_))
  have w0 : wk h W n X M (um_wr X h 13 (nI t)) (um_wr M 1 9 (nI t)) := by
    refine ⟨⟨?_, ?_, ?_⟩, xf_wr (by omega), mf_wr 1 (Or.inl rfl), fun b h8 h4 => um_wr_an (by omega)⟩
    · rw [um_wr_eq]; exact sc_wh hc hh (Or.inr (Or.inl ⟨rfl, rfl⟩))
    · rw [um_wr_eq]; exact si_sd hi ht6
    · exact st_fr (fun k i hk _ => um_wr_nk (by omega)) rfl (fun b hb => um_wr_an (by omega)) (um_wr_an (by omega)) hs.2.2
  have e9 : (um_wr M 1 9 (nI t)).1 1 9 = nI t := um_wr_at _ _ _ _
  have hM1 : ∀ b, b ≠ 9 → (um_wr M 1 9 (nI t)).1 1 b = M.1 1 b := fun b hb => um_wr_an hb
  obtain ⟨X1, hX1⟩ : ∃ Y, Y = um_wr X h 13 (nI t) := ⟨_, rfl⟩
  obtain ⟨M1, hMM1⟩ : ∃ Y, Y = um_wr M 1 9 (nI t) := ⟨_, rfl⟩
  rw [← hX1, ← hMM1] at w0
  rw [← hMM1] at e9 hM1
  rw [← hX1, ← hMM1]
  clear hX1 hMM1
  have hm1 : m < nn (M1.1 1) 2 := by rw [wk_nn w0 (by omega) (by omega)]; exact hm
  have hs1 := w0.1
  rw [x_m5 hs1.1 hs1.2.1 hh hm1, x_m4 hs1.1 hs1.2.1 hh hm1, Option.bind_some, e9]
  refine sm_mb (m_kindOf (by omega)) ?_
  obtain ⟨r, r', h1, h2, e⟩ := marksOf_ (v := nI m) hs1.1 hs1.2.1 hh
  subst e
  rw [h1, h2, Option.bind_some, Option.bind_some, Option.bind_some, la_4]
  refine sm_mt (um_ix_3 (by omega)) ?_
  rw [cl_3 (by omega), hs1.1.1.1, show eN (M1.1 1 (50 + 14 * m + 4)) = M1.1 1 (50 + 14 * m + 4) from if_neg (by rw [hM1 _ (by omega)]; exact hp)]
  refine sm_b2 (rule_3 (rt_of hs1) hh) (fun x X2 y M2 ⟨z1, z2, z3⟩ => ?_)
  dsimp only at z1 z2 z3
  subst z1
  have w1 := wk_trans w0 (wk_q hs1 hh z2 z3)
  have e13 : X2.1 h 13 = nI t := by rw [z2.1 _ _ (by omega), hs1.1.1.2.1, e9]
  have hM2 : ∀ b, b ≠ 9 → M2.1 1 b = M.1 1 b := fun b hb => by rw [mq_1 z3, hM1 b hb]
  rw [e13, nI_d100 (by omega), show (100 : Int32) = nI 100 from rfl, nI_div (by omega) (by omega), nI_d4 (by omega)]
  refine sm_if Iff.rfl (fun _ => ?_) (fun _ => sm_ret w1)
  refine sm_ml ?_
  refine irons_ w1.1 hh (by rw [wk_nn w1 (by omega) (by omega)]; exact hm) (by rw [hM2 _ (by omega)]; exact hl) (fun x2 X3 M3 w2 hag => ?_)
  have w3 := wk_trans w1 w2
  refine sm_if Iff.rfl (fun _ => sm_ret w3) (fun _ => ?_)
  rw [w2.1.1.1.1]
  have hM3 : ∀ b, b ≠ 9 → b ≠ 4 → (b < 280 ∨ 440 ≤ b) → M3.1 1 b = M.1 1 b := fun b h9 h4 h28 => by rw [hag b h4 h28, hM2 b h9]
  obtain ⟨o1, o2, o3, o4, o5, o6, o7, o8, o9⟩ := si_man w3.1.2.1 m (by rw [wk_nn w3 (by omega) (by omega)]; exact hm)
  refine sm_bind (become_w w3.1 hh (by rw [wk_nn w3 (by omega) (by omega)]; exact hm) ⟨⟨3, by omega, by omega, rfl⟩, o2, o3, o4, o5, fun _ _ _ => by rw [hM3 _ (by omega) (by omega) (by omega)]; exact hp, fun z => absurd z (by decide), fun z => absurd z (by decide), o9⟩) (fun X4 M4 ⟨z, _⟩ => sm_ret (wk_trans w3 z))
theorem ad_sub (a b c : Int32) : a + (b - c) = a + b - c := by
  rw [Int32.sub_eq_add_neg, Int32.sub_eq_add_neg, Int32.add_assoc]
/-- what one earns -/
theorem earn_ (hs : sr X h (M.1 1) W n) (hh : um_h h) (hm : m < nn (M.1 1) 2) : sm_S (f_X4_earn h (nI m) X) (f_X9_earn (nI m) M) (wk h W n X M) := by
  have hi := hs.2.1
  have hc := hs.1
  have hm14 := (si_men hi).2
  have hq6 := (si_masters hi).2
  have h13 : 1 ≤ h ∧ h ≤ 3 := by rcases hh with z | z | z <;> omega
  have ho := si_man hi m hm
  unfold f_X4_earn f_X9_earn
  have go : ∀ e : Int32, sm_S ((f_X5_get (20 * h + 1) (nI m) (0 : Int32) X).bind fun x7 => um_b2 (f_X1_rule h (4 : Int32) (X.1 h 12) e x7 (0 : Int32) X) fun x10 σ9 => um_let (um_wr σ9 h 14 ((σ9.1 h 14) + x10)) fun σ11 => (f_X5_get (20 * h + 1) (nI m) (9 : Int32) σ11).bind fun x14 => (f_X5_set (20 * h + 1) (nI m) (9 : Int32) ((x14 + e) - x10) σ11).bind fun σ16 => some σ16)
      (if um_ix (nI (50 + 14 * m) + (0 : Int32)) 3790 then um_b2 (f_X9_ruleOf (4 : Int32) e (M.1 1 (nI (50 + 14 * m) + (0 : Int32)).toNatClampNeg) (0 : Int32) M) fun x13 σ12 => um_let (um_wr σ12 1 10 ((σ12.1 1 10) + x13)) fun σ14 => if um_ix (nI (50 + 14 * m) + (9 : Int32)) 3790 then if um_ix (nI (50 + 14 * m) + (9 : Int32)) 3790 then um_let (um_wr σ14 1 (nI (50 + 14 * m) + (9 : Int32)).toNatClampNeg ((σ14.1 1 (nI (50 + 14 * m) + (9 : Int32)).toNatClampNeg) + (e - x13))) fun σ18 => some σ18 else none else none else none) (wk h W n X M) := by
    intro e
    rw [x_m0 hc hi hh hm, Option.bind_some, la_0, la_9]
    refine sm_mt (um_ix_3 (by omega)) ?_
    rw [cl_3 (by omega), cl_3 (by omega), hc.1.1]
    refine sm_b2 (rule_4 (rt_of hs) hh) (fun x X2 y M2 ⟨z1, z2, z3⟩ => ?_)
    dsimp only at z1 z2 z3
    subst z1
    have w1 := wk_q hs hh z2 z3
    rw [w1.1.1.1.2.2]
    refine sm_xl (sm_ml (sm_mt (um_ix_3 (by omega)) (sm_mt (um_ix_3 (by omega)) ?_)))
    have w2 : wk h W n X2 M2 (um_wr X2 h 14 (M2.1 1 10 + x)) (um_wr M2 1 10 (M2.1 1 10 + x)) := by
      refine ⟨⟨?_, ?_, ?_⟩, xf_wr (by omega), mf_wr 1 (Or.inl rfl), fun b h8 h4 => um_wr_an (by omega)⟩
      · rw [um_wr_eq]; exact sc_wh w1.1.1 hh (Or.inr (Or.inr ⟨rfl, rfl⟩))
      · rw [um_wr_eq]; exact si_fr w1.1.2.1 (Or.inl rfl)
      · exact st_fr (fun k i hk _ => um_wr_nk (by omega)) rfl (fun b hb => um_wr_an (by omega)) (um_wr_an (by omega)) w1.1.2.2
    have w3 := wk_trans w1 w2
    have hm3 : m < nn ((um_wr M2 1 10 (M2.1 1 10 + x)).1 1) 2 := by rw [wk_nn w3 (by omega) (by omega)]; exact hm
    rw [x_m9 w2.1.1 w2.1.2.1 hh hm3, Option.bind_some]
    refine sm_xb (s_1 (c := 9) hh (by omega) (by omega)) (sm_ml (sm_ret ?_))
    rw [ad_sub]
    exact wk_trans w3 ⟨cell_ (c := 9) w2.1 hh hm3 (by omega), xf_wr (by omega), mf_wr 1 (Or.inl rfl), fun b h8 h4 => um_wr_an (by omega)⟩
  rw [x_m5 hc hi hh hm, Option.bind_some, m_manAt, Option.bind_some, m_kindOf (by omega), Option.bind_some]
  refine sm_xl (sm_ml ?_)
  by_cases c2 : M.1 1 (50 + 14 * m + 5) = 2
  · refine sm_xt c2 (sm_mt c2 ?_)
    refine sm_xl (sm_mb rfl (sm_ml ?_))
    refine sm_xf (by rw [c2]; decide) (sm_mf (by rw [c2]; decide) ?_)
    obtain ⟨q, hq, eq⟩ := ho.2.2.2.2.2.2.2.1 c2
    rw [x_m6 hc hi hh hm, Option.bind_some, la_6]
    refine sm_mt (um_ix_3 (by omega)) ?_
    rw [cl_3 (by omega), eq, x_p2_3 hc hi hh hq, Option.bind_some, m_masterAt, Option.bind_some, la_3]
    refine sm_mt (um_ix_3 (by omega)) ?_
    rw [cl_3 (by omega)]
    exact go _
  · refine sm_xf c2 (sm_mf c2 (sm_mb rfl ?_))
    refine sm_if Iff.rfl (fun c4 => ?_) (fun _ => sm_ret (wk_refl hs))
    refine sm_xl (sm_mb rfl (sm_ml ?_))
    exact sm_xt c4 (sm_mt c4 (go 5))
end WKA
