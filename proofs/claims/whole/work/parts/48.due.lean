/-! LEVEL 2: due, moves, ticket, pardon, caught -/
section DUE
variable {X X' X2 M M' M2 : um_S} {h n W m i q key w : Nat} {s : Nat → Int32} {l r v a b d mk : Int32}
/-- ends of a loop: both with an answer, or both behind it -/
def eQ (X M : um_S) (x : (Int32 × um_S) ⊕ um_S) (y : (Int32 × um_S) ⊕ um_S) : Prop := match x, y with
  | .inl a, .inl b => a.1 = b.1 ∧ xq X a.2 ∧ mq M b.2
  | .inr a, .inr b => xq X a ∧ mq M b
  | _, _ => False
theorem lo_due (hs : rt X h (M.1 1) n) (hh : um_h h) (hm : m < 14) (hw : M.1 1 0 = nI w) (hw3 : w ≤ 3000) (hx : X.1 h 12 = nI w) {x2 : Int32} {x4 : Option Nat} (hx2 : f_X1_counting h 0 (M.1 1 0) X = some x2) (hct : ct (M.1 1) 0 x2) (hx4 : f_X1_textAt h x2 X = some x4) :
    ∀ (k i fx fm : Nat) (X' M' : um_S), i + k = 600 → k < fx → k < fm → xq X X' → mq M M' → sm_S (f_X4_ticketWeek_l50 h mk x4 (M.1 1 (50 + 14 * m + 10)) (M.1 1 (50 + 14 * m + 12)) fx (nI (w + i)) X') (f_X9_dueBy_l9 mk (nI (50 + 14 * m)) fm (nI i) M') (eQ X M) := by
  have h1 : 1 ≤ h ∧ h ≤ 3 := by rcases hh with z | z | z <;> omega
  have h14 := hs.2.1.2
  intro k
  induction k with
  | zero =>
    intro i fx fm X' M' hi hfx hfm hX hM
    obtain ⟨fx, rfl⟩ : ∃ f, fx = f + 1 := ⟨fx - 1, by omega⟩
    obtain ⟨fm, rfl⟩ : ∃ f, fm = f + 1 := ⟨fm - 1, by omega⟩
    rw [f_X4_ticketWeek_l50, f_X9_dueBy_l9, hX.1 _ _ (by omega), hx, la_600]
    exact sm_xt (nI_le (by omega) (by omega)) (sm_mt (nI_le (a := 600) (by omega) (by omega)) (sm_ret ⟨hX, hM⟩))
  | succ k ih =>
    intro i fx fm X' M' hi hfx hfm hX hM
    obtain ⟨fx, rfl⟩ : ∃ f, fx = f + 1 := ⟨fx - 1, by omega⟩
    obtain ⟨fm, rfl⟩ : ∃ f, fm = f + 1 := ⟨fm - 1, by omega⟩
    have hsM : rt X h (M'.1 1) n := rt_q xq_refl hM hh hs
    have hcnt : f_X9_counts 0 M' = some x2 := by
      obtain ⟨c1, c2, e1, e2, e3, _⟩ := counts_ (key := 0) hsM
      rw [mq_1 hM, hx2] at e1
      rw [e2, ← e3]
      exact e1.symm
    have ih2 := fun X2 M2 (z1 : xq X X2) (z2 : mq M M2) => ih (i + 1) fx fm X2 M2 (by omega) (by omega) (by omega) z1 z2
    rw [f_X4_ticketWeek_l50, f_X9_dueBy_l9, hX.1 _ _ (by omega), hx, la_600]
    refine sm_xf (nI_ge (by omega) (by omega)) (sm_mf (nI_ge (b := 600) (by omega) (by omega)) ?_)
    rw [la_10, la_12]
    refine sm_xl (sm_mt (um_ix_3 (by omega)) (sm_mt (um_ix_3 (by omega)) ?_))
    rw [cl_3 (by omega), cl_3 (by omega), mq_1 hM, hw, nI_add, nI_1, nI_1]
    unfold f_X9_ruleOf
    rw [hcnt]
    refine sm_eqr (p' := um_b2 (if x2 < 0 then (if nI (w + i) - M.1 1 (50 + 14 * m + 10) ≤ 208 then some (0, um_wr (um_wr (um_wr M' 8 119 (nI (w + i) - M.1 1 (50 + 14 * m + 10))) 8 109 mk) 8 116 (M.1 1 (50 + 14 * m + 12))) else some (1, um_wr (um_wr (um_wr M' 8 119 (nI (w + i) - M.1 1 (50 + 14 * m + 10))) 8 109 mk) 8 116 (M.1 1 (50 + 14 * m + 12)))) else um_b2 (f_X9_worked x2 (um_wr (um_wr (um_wr M' 8 119 (nI (w + i) - M.1 1 (50 + 14 * m + 10))) 8 109 mk) 8 116 (M.1 1 (50 + 14 * m + 12)))) fun x49 σ48 => some (x49, σ48)) fun x5 σ4 => if x5 = 0 then f_X9_dueBy_l9 mk (nI (50 + 14 * m)) fm (nI (i + 1)) σ4 else some (.inl (σ4.1 1 0 + nI i, σ4))) rfl ?_
    have hmq : mq M' (um_wr (um_wr (um_wr M' 8 119 (nI (w + i) - M.1 1 (50 + 14 * m + 10))) 8 109 mk) 8 116 (M.1 1 (50 + 14 * m + 12))) := mq_trans (mq_trans mq_wr mq_wr) mq_wr
    have fin : ∀ (X2 M2 : um_S) (x : Int32), xq X X2 → mq M M2 → sm_S (if x = 0 then f_X4_ticketWeek_l50 h mk x4 (M.1 1 (50 + 14 * m + 10)) (M.1 1 (50 + 14 * m + 12)) fx (nI (w + (i + 1))) X2 else some (.inl (nI (w + i), X2))) (if x = 0 then f_X9_dueBy_l9 mk (nI (50 + 14 * m)) fm (nI (i + 1)) M2 else some (.inl (M2.1 1 0 + nI i, M2))) (eQ X M) := by
      intro X2 M2 x z1 z2
      refine sm_if Iff.rfl (fun _ => ih2 X2 M2 z1 z2) (fun _ => ?_)
      rw [mq_1 z2, hw, nI_add]
      exact sm_ret ⟨rfl, z1, z2⟩
    rcases hct with rfl | ⟨t, ht, rfl, hkey⟩
    · rw [x_textNo] at hx4
      cases hx4
      refine sm_on ?_
      unfold f_X1_unwritten
      rw [if_pos rfl, if_pos (show (-1 : Int32) < 0 by decide)]
      by_cases h208 : nI (w + i) - M.1 1 (50 + 14 * m + 10) ≤ 208
      · rw [if_pos h208, if_pos h208]
        exact sm_xb rfl (sm_mb2 rfl (fin X' _ 0 hX (mq_trans hM hmq)))
      · rw [if_neg h208, if_neg h208]
        exact sm_xb rfl (sm_mb2 rfl (fin X' _ 1 hX (mq_trans hM hmq)))
    · have hsX : rt X' h (M'.1 1) n := rt_q hX hM hh hs
      obtain ⟨qq, q1, q2⟩ := value_ (key := 0) (a := nI (w + i) - M.1 1 (50 + 14 * m + 10)) (b := mk) (d := M.1 1 (50 + 14 * m + 12)) (M := um_wr (um_wr (um_wr M' 8 119 (nI (w + i) - M.1 1 (50 + 14 * m + 10))) 8 109 mk) 8 116 (M.1 1 (50 + 14 * m + 12))) (i := t) (rt_q xq_refl hmq hh hsX) (by rw [mq_1 hmq, mq_1 hM]; exact ht) (by rw [mq_1 hmq, mq_1 hM]; exact hkey) (by omega) names_0
      have e4 : x4 = some qq := by
        rw [x_textAt hs ht] at hx4
        rw [← Option.some.inj hx4, ← q1, hX.2]
      rw [e4, if_neg (nI_pos (by omega))]
      refine sm_os ?_
      refine sm_b2 (Q := fun x y => x.1 = y.1 ∧ xq X x.2 ∧ mq M y.2) ?_ (fun x X2 y M2 ⟨z1, z2, z3⟩ => ?_)
      · obtain ⟨⟨x, X2⟩, ⟨y, M2⟩, e1, e2, z1, z2, z3⟩ := q2
        exact sm_of e1 (by rw [e2]; rfl) ⟨z1, xq_trans hX z2, mq_trans hM (mq_trans hmq z3)⟩
      · dsimp only at z1 z2 z3
        subst z1
        have := fin X2 M2 x z2 z3
        rw [e4] at this
        exact this
theorem dueBy_ (hs : rt X h (M.1 1) n) (hh : um_h h) (hc : sr_c X h (M.1 1)) (hi : sr_i (M.1 1) W) (hW : W ≤ 3000) (hm : m < nn (M.1 1) 2) (hl : M.1 1 (50 + 14 * m + 10) ≠ -1) : sm_S (f_X4_ticketWeek h (nI m) mk X) (f_X9_dueBy (nI m) mk M) (fun x y => x.1 = y.1 ∧ xq X x.2 ∧ mq M y.2) := by
  have hm14 := (si_men hi).2
  obtain ⟨ew, hw⟩ := si_week hi
  unfold f_X4_ticketWeek f_X9_dueBy
  obtain ⟨x2, y2, e1, e2, e3, hct⟩ := counts_ (key := 0) hs
  rw [hc.1.1, e1, Option.bind_some]
  have h14 := hs.2.1.2
  obtain ⟨x4, e4⟩ : ∃ x4, f_X1_textAt h x2 X = some x4 := by
    rcases hct with rfl | ⟨t, ht, rfl, _⟩
    · exact ⟨_, x_textNo⟩
    · exact ⟨_, x_textAt hs ht⟩
  rw [e4, Option.bind_some, x_m10 hc hi hh hm, Option.bind_some, x_m13 hc hi hh hm, Option.bind_some, m_manAt, Option.bind_some, show eN (M.1 1 (50 + 14 * m + 10)) = M.1 1 (50 + 14 * m + 10) from if_neg hl]
  refine sm_xl ?_
  have key := lo_due (mk := mk) (m := m) hs hh (by omega) ew (by omega) (by rw [hc.1.1]; exact ew) e1 hct e4 600 0 um_N um_N X M (by omega) (by unfold um_N; omega) (by unfold um_N; omega) xq_refl mq_refl
  have e0 : nI (nn (M.1 1) 0 + 0) = M.1 1 0 := ew.symm
  rw [e0] at key
  exact sm_s1 key (fun a b z => z) (fun a b z => sm_ret ⟨rfl, z.1, z.2⟩) (fun a b z => z) (fun a b z => z)
end DUE
theorem RR_q {n : Nat} {X M X' M' : um_S} (hR : RR n X M) (z2 : xq X X') (z3 : mq M M') : RR n X' M' := RR_of hR (sr_q (Or.inl rfl) z2 z3 hR.1) (xq_xf z2) (mq_mf z3)
theorem sim_dueR : sim_due RR := by
  intro n X M a1 hR
  refine sm_out ?_
  have hi := hR.1.2.1
  have hc := hR.1.1
  have hh : um_h 1 := Or.inl rfl
  have hm14 := (si_men hi).2
  unfold f_X8_due f_X9_due
  refine sm_chk (ho_man hc hi) (sm_ret ⟨rfl, hR⟩) (fun ⟨m, hm, em⟩ => ?_)
  subst em
  have ho := si_man hi m hm
  have e3 := neg_m1 ho.2.2.1
  refine sm_xb (x_isDead hc hh hm hm14) (sm_mb (m_isOut (by omega)) ?_)
  by_cases hd : M.1 1 (50 + 14 * m + 11) = 1
  · rw [decide_eq_true hd, decide_eq_true (Or.inl hd)]
    exact sm_ret ⟨rfl, hR⟩
  · rw [decide_eq_false hd]
    refine sm_xF (sm_xb (x_hasLanded hc hh hm hm14 ho) ?_)
    by_cases hl : M.1 1 (50 + 14 * m + 10) < 0
    · rw [decide_eq_true (Or.inr hl), decide_eq_false (fun z => z hl)]
      exact sm_ret ⟨rfl, hR⟩
    · rw [decide_eq_false (p := M.1 1 (50 + 14 * m + 11) = 1 ∨ M.1 1 (50 + 14 * m + 10) < 0) (fun z => z.elim hd hl), decide_eq_true hl]
      refine sm_xT (sm_mF ?_)
      refine sm_bind (marksOf_ hc hi hh) (fun a b e => ?_)
      subst e
      refine sm_b2 (dueBy_ (rt_of hR.1) hh hc hi (by omega) hm (fun z => hl (e3.mpr z))) (fun x X' y M' ⟨z1, z2, z3⟩ => sm_ret ⟨z1, RR_q hR z2 z3⟩)
theorem sim_movesR : sim_moves RR := by
  intro n X M a1 hR
  refine sm_out ?_
  have hi := hR.1.2.1
  have hc := hR.1.1
  have hh : um_h 1 := Or.inl rfl
  have hm14 := (si_men hi).2
  have hn40 := (si_marks hi).2
  unfold f_X8_moves f_X9_moves
  refine sm_chk (ho_mark hc hi) (sm_ret ⟨rfl, hR⟩) (fun ⟨k, hk, ek⟩ => ?_)
  subst ek
  obtain ⟨m, hm, em, hl⟩ := si_mark hi k hk
  rw [x_p3_0 hc hi hh hk, x_p3_3 hc hi hh hk, em]
  simp (disch := omega) only [um_let, Option.bind_some, m_markAt, la_3, um_ix_3, cl_3, if_true]
  rw [em]
  refine sm_if Iff.rfl (fun _ => sm_ret ⟨rfl, hR⟩) (fun _ => ?_)
  refine sm_dec (x_isDead hc hh hm hm14) (m_isDead (by omega)) (fun hd => ?_) (fun _ => sm_ret ⟨rfl, hR⟩)
  obtain ⟨r, r', h1, h2, e⟩ := marksOf_ (v := nI m) hc hi hh
  subst e
  rw [h1, h2, Option.bind_some, Option.bind_some]
  refine sm_b2 (dueBy_ (rt_of hR.1) hh hc hi (by omega) hm hl) (fun x X' y M' ⟨z1, z2, z3⟩ => ?_)
  dsimp only at z1 z2 z3
  subst z1
  have R1 := RR_q hR z2 z3
  have h3 : f_X9_marksOf (nI m) M' = some r := by
    have hc2 : sr_c X 1 (M'.1 1) := by rw [mq_1 z3]; exact hc
    have hi2 : sr_i (M'.1 1) 1999 := R1.1.2.1
    obtain ⟨r2, r3, g1, g2, e⟩ := marksOf_ (v := nI m) hc2 hi2 hh
    rw [h1] at g1
    rw [g2, ← e]
    exact g1.symm
  rw [h3, Option.bind_some]
  refine sm_b2 (dueBy_ (rt_of R1.1) hh R1.1.1 R1.1.2.1 (by omega) (by rw [mq_1 z3]; exact hm) (by rw [mq_1 z3]; exact hl)) (fun x2 X2 y2 M2 ⟨w1, w2, w3⟩ => ?_)
  dsimp only at w1 w2 w3
  subst w1
  have R2 := RR_q R1 w2 w3
  refine sm_if Iff.rfl (fun _ => sm_ret ⟨rfl, R2⟩) (fun _ => ?_)
  exact sm_if Iff.rfl (fun _ => sm_ret ⟨rfl, R2⟩) (fun _ => sm_ret ⟨rfl, R2⟩)
section MER
variable {X X' X2 M M' M2 : um_S} {h n W m i q key w : Nat} {s : Nat → Int32} {l r v a b d mk : Int32}
theorem mercy_ (hs : sr X h (M.1 1) W n) (hh : um_h h) (hk : key ≤ 4) (hm : m < nn (M.1 1) 2) (hl : M.1 1 (50 + 14 * m + 10) ≠ -1) : sm_S (f_X4_mercy h (nI key) (nI m) X) (f_X9_ruleFor (nI key) (nI m) M) (fun x y => x.1 = y.1 ∧ xq X x.2 ∧ mq M y.2) := by
  have hi := hs.2.1
  have hc := hs.1
  have hm14 := (si_men hi).2
  unfold f_X4_mercy f_X9_ruleFor
  rw [x_m10 hc hi hh hm, Option.bind_some, m_manAt, Option.bind_some, la_10, la_12, x_m13 hc hi hh hm, show eN (M.1 1 (50 + 14 * m + 10)) = M.1 1 (50 + 14 * m + 10) from if_neg hl]
  refine sm_mt (um_ix_3 (by omega)) ?_
  refine sm_bind (marksOf_ hc hi hh) (fun a b e => ?_)
  subst e
  refine sm_mt (um_ix_3 (by omega)) ?_
  rw [cl_3 (by omega), cl_3 (by omega), Option.bind_some, hc.1.1]
  exact sm_b2 (rule_ (rt_of hs) hh hk) (fun x X' y M' z => sm_ret z)
end MER
theorem sim_ticketR : sim_ticket RR := by
  intro n X M a1 hR
  refine sm_out ?_
  have hi := hR.1.2.1
  have hc := hR.1.1
  have hh : um_h 1 := Or.inl rfl
  have hm14 := (si_men hi).2
  unfold f_X8_ticket f_X9_ticket
  refine sm_chk (ho_man hc hi) (sm_ret ⟨rfl, hR⟩) (fun ⟨m, hm, em⟩ => ?_)
  subst em
  have ho := si_man hi m hm
  rw [x_m5 hc hi hh hm, m_kindOf (by omega), Option.bind_some, Option.bind_some, x_within]
  obtain ⟨k, hk1, hk2, ek⟩ := ho.1
  rw [ek, nI_toInt (by omega), show (1 : Int32).toInt = 1 by decide, show (2 : Int32).toInt = 2 by decide]
  have tail : k ≤ 2 → sm_S ((f_X4_isAtPlace 1 (nI m) X).bind fun x8 => if um_b x8 = 0 then some ((-1000000002 : Int32), X) else um_b2 (f_X4_mercy 1 (0 : Int32) (nI m) X) fun x11 σ10 => if x11 = 0 then some ((-1000000002 : Int32), σ10) else (f_X5_get (20 * 1 + 1) (nI m) (4 : Int32) σ10).bind fun x13 => (f_X4_become 1 (nI m) (4 : Int32) x13 σ10).bind fun σ15 => some ((1 : Int32), σ15)) ((f_X9_isOut (nI m) M).bind fun x7 => if um_b x7 = 0 then um_b2 (f_X9_ruleFor (0 : Int32) (nI m) M) fun x10 σ9 => if x10 = 0 then some ((-1000000002 : Int32), σ9) else (f_X9_manAt (nI m) σ9).bind fun x12 => if um_ix (x12 + (4 : Int32)) 3790 then (f_X9_becomesOf (nI m) (4 : Int32) (σ9.1 1 (x12 + (4 : Int32)).toNatClampNeg) σ9).bind fun σ15 => some ((1 : Int32), σ15) else none else some ((-1000000002 : Int32), M)) (fun a b => a.1 = b.1 ∧ RR n a.2 b.2) := by
    intro hk
    have hk4 : ∃ k : Nat, 1 ≤ k ∧ k ≤ 4 ∧ M.1 1 (50 + 14 * m + 5) = nI k := ⟨k, hk1, by omega, ek⟩
    have hop := out_pl ho hk4
    refine sm_xb (x_isAtPlace hc hh hm hm14 ho) (sm_mb (m_isOut (by omega)) ?_)
    by_cases hp : M.1 1 (50 + 14 * m + 4) = -1
    · rw [decide_eq_false (fun z => z hp), decide_eq_true (hop.mpr hp)]
      exact sm_ret ⟨rfl, hR⟩
    · rw [decide_eq_true hp, decide_eq_false (fun z => hp (hop.mp z))]
      refine sm_xT (sm_mF ?_)
      refine sm_b2 (mercy_ (key := 0) hR.1 hh (by omega) hm (ho.2.2.2.2.1 hp)) (fun x X' y M' ⟨z1, z2, z3⟩ => ?_)
      dsimp only at z1 z2 z3
      subst z1
      have R1 := RR_q hR z2 z3
      refine sm_if Iff.rfl (fun _ => sm_ret ⟨rfl, R1⟩) (fun _ => ?_)
      have e1 := mq_1 z3
      have hm' : m < nn (M'.1 1) 2 := by rw [e1]; exact hm
      rw [x_m4 R1.1.1 R1.1.2.1 hh hm', Option.bind_some, m_manAt, Option.bind_some, la_4]
      refine sm_mt (um_ix_3 (by omega)) ?_
      rw [cl_3 (by omega), e1, show eN (M.1 1 (50 + 14 * m + 4)) = M.1 1 (50 + 14 * m + 4) from if_neg hp]
      obtain ⟨o1, o2, o3, o4, o5, o6, o7, o8, o9⟩ := si_man R1.1.2.1 m hm'
      refine sm_bind (become_ R1.1 hh hm' ⟨⟨4, by omega, by omega, rfl⟩, o2, o3, o4, o5, fun _ z1 z2 => o6 (by rw [e1]; exact hk4) z1 z2, fun z => absurd z (by decide), fun z => absurd z (by decide), o9⟩) (fun X2 M2 ⟨q1, q2, q3, q4⟩ => ?_)
      exact sm_ret ⟨rfl, RR_of R1 q1 q2 q3⟩
  refine sm_xb rfl ?_
  refine sm_ml ?_
  by_cases hk : k ≤ 2
  · rw [decide_eq_true (show (1 : Int) ≤ (k : Int) ∧ (k : Int) ≤ 2 by omega)]
    refine sm_xT ?_
    have hk12 : k = 1 ∨ k = 2 := by omega
    rcases hk12 with rfl | rfl
    · exact sm_mt rfl (tail hk)
    · refine sm_mf (by decide) ?_
      refine sm_mb rfl ?_
      exact sm_mt rfl (tail hk)
  · rw [decide_eq_false (show ¬ ((1 : Int) ≤ (k : Int) ∧ (k : Int) ≤ 2) by omega)]
    refine sm_xF ?_
    refine sm_mf (fun z => hk (by have := (nI_eq (b := 1) (by omega) (by omega)).mp z; omega)) ?_
    refine sm_mb rfl ?_
    exact sm_mf (fun z => hk (by have := (nI_eq (b := 2) (by omega) (by omega)).mp z; omega)) (sm_ret ⟨rfl, hR⟩)
theorem sim_pardonR : sim_pardon RR := by
  intro n X M a1 a2 hR
  refine sm_out ?_
  have hi := hR.1.2.1
  have hc := hR.1.1
  have hh : um_h 1 := Or.inl rfl
  have hm14 := (si_men hi).2
  unfold f_X8_pardon f_X9_pardon
  refine sm_chk (ho_man hc hi) (sm_ret ⟨rfl, hR⟩) (fun ⟨m, hm, em⟩ => ?_)
  subst em
  refine sm_chk (wi_0 (n := 1) (by decide) (by decide)) (sm_ret ⟨rfl, hR⟩) (fun _ => ?_)
  have ho := si_man hi m hm
  refine sm_dec (x_isServing hc hh hm hm14) (m_isHeld (by omega)) (fun _ => sm_ret ⟨rfl, hR⟩) (fun hs => ?_)
  have hk4 := (held_k ho.1).mp (of_decide_eq_true hs)
  have hop := out_pl ho hk4
  refine sm_xb (x_isAtPlace hc hh hm hm14 ho) (sm_mb (m_isOut (by omega)) ?_)
  by_cases hp : M.1 1 (50 + 14 * m + 4) = -1
  · rw [decide_eq_false (fun z => z hp), decide_eq_true (hop.mpr hp)]
    exact sm_ret ⟨rfl, hR⟩
  · rw [decide_eq_true hp, decide_eq_false (fun z => hp (hop.mp z))]
    refine sm_xT (sm_mF ?_)
    refine sm_b2 (mercy_ (key := 1) hR.1 hh (by omega) hm (ho.2.2.2.2.1 hp)) (fun x X' y M' ⟨z1, z2, z3⟩ => ?_)
    dsimp only at z1 z2 z3
    subst z1
    have R1 := RR_q hR z2 z3
    refine sm_if Iff.rfl (fun _ => sm_ret ⟨rfl, R1⟩) (fun _ => ?_)
    have e1 := mq_1 z3
    have hm' : m < nn (M'.1 1) 2 := by rw [e1]; exact hm
    obtain ⟨o1, o2, o3, o4, o5, o6, o7, o8, o9⟩ := si_man R1.1.2.1 m hm'
    refine sm_bind (become_ R1.1 hh hm' ⟨⟨5, by omega, by omega, rfl⟩, o2, o3, o4, o5, fun ⟨k, w1, w2, w3⟩ _ _ => absurd ((nI_eq (a := 5) (by omega) (by omega)).mp w3) (by omega), fun z => absurd z (by decide), fun z => absurd z (by decide), o9⟩) (fun X2 M2 ⟨q1, q2, q3, q4⟩ => ?_)
    exact sm_ret ⟨rfl, RR_of R1 q1 q2 q3⟩
