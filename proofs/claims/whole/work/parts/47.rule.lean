/-! LEVEL 2: a rule -/
/-- nothing but piles has changed; nothing but names and pile has changed -/
def xq (X X' : um_S) : Prop := (∀ k j, ¬ (300 ≤ k ∧ k % 3 = 2) → X'.1 k j = X.1 k j) ∧ X'.2 = X.2
def mq (M M' : um_S) : Prop := ∀ k j, k ≠ 8 → k ≠ 9 → M'.1 k j = M.1 k j
theorem sm_on {A B : Type} {Q : A → B → Prop} {a : Option A} {F : Nat → Option A} {p : Option B} (k : sm_S a p Q) : sm_S (um_opt none a F) p Q := k
theorem sm_os {A B : Type} {Q : A → B → Prop} {a : Option A} {F : Nat → Option A} {p : Option B} {q : Nat} (k : sm_S (F q) p Q) : sm_S (um_opt (some q) a F) p Q := k
section RUL
variable {X X' X2 M M' M2 : um_S} {h n W m i q c L P key : Nat} {s : Nat → Int32} {l r v a b d : Int32}
theorem xq_refl : xq X X := ⟨fun _ _ _ => rfl, rfl⟩
theorem mq_refl : mq M M := fun _ _ _ _ => rfl
theorem xq_trans (a : xq X X') (b : xq X' X2) : xq X X2 := ⟨fun k j h => by rw [b.1 k j h, a.1 k j h], by rw [b.2, a.2]⟩
theorem mq_trans (a : mq M M') (b : mq M' M2) : mq M M2 := fun k j h1 h2 => by rw [b k j h1 h2, a k j h1 h2]
theorem xq_xf (a : xq X X') : xf h X X' := ⟨fun k j _ _ _ h4 => a.1 k j h4, a.2⟩
theorem mq_mf (a : mq M M') : mf M M' := fun k j _ h2 h3 => a k j h2 h3
theorem mq_1 (a : mq M M') : M'.1 1 = M.1 1 := funext fun j => a 1 j (by omega) (by omega)
theorem xq_xa (hh : um_h h) (a : xq X X') : xa h X X' := by
  have h1 : 1 ≤ h ∧ h ≤ 3 := by rcases hh with z | z | z <;> omega
  exact ⟨fun k j hk => a.1 k j (by omega), a.2⟩
theorem sr_q (hh : um_h h) (a : xq X X') (b : mq M M') (hs : sr X h (M.1 1) W n) : sr X' h (M'.1 1) W n := by
  rw [mq_1 b]
  exact sr_xa hh (xq_xa hh a) hs
theorem mq_wr {j : Nat} : mq M (um_wr M 8 j v) := fun k i h8 _ => um_wr_nk h8
theorem xp_xq (hq : 300 ≤ q) (hq3 : q % 3 = 0) (hp : xp q X X') : xq X X' := ⟨fun k j hk => hp.1 k j (by omega), hp.2⟩
theorem mp_mq (hp : mp M M') : mq M M' := fun k j _ h9 => hp k j h9
theorem rt_q (a : xq X X') (b : mq M M') (hh : um_h h) (hs : rt X h (M.1 1) n) : rt X' h (M'.1 1) n := by
  have h1 : 1 ≤ h ∧ h ≤ 3 := by rcases hh with z | z | z <;> omega
  rw [mq_1 b]
  exact ⟨by rw [a.1 _ _ (by omega)]; exact hs.1, hs.2.1, st_fr (fun k j h1 h2 => a.1 k j (by omega)) a.2 (fun _ _ => rfl) rfl hs.2.2⟩
theorem value_ (hs : rt X h (M.1 1) n) (hi5 : i < nn (M.1 1) 5) (hkey : M.1 1 (780 + 200 * i) = nI key) (hk4 : key ≤ 4) (hnm : ∀ jj c, (nmL key)[jj]? = some c → M.1 8 c = ag a b d jj) : ∃ q, X.2.1 (20 * h + 111) i = some q ∧ sm_S (f_X7_value q a b d X) (f_X9_worked (nI i) M) (fun x y => x.1 = y.1 ∧ xq X x.2 ∧ mq M y.2) := by
  have h14 := hs.2.1.2
  obtain ⟨q, q1, q2, q3, q4, kk, L, P, t1, t2, t3, ⟨w, w1, w2, w3⟩, t5, t6, t7, t8, t9, t10, t11, t12⟩ := hs.2.2 i hi5
  have ek : kk = key := by
    rw [t3] at hkey
    exact (nI_eq (by omega) (by omega)).mp hkey
  subst ek
  refine ⟨q, q1, ?_⟩
  have hP1 : 1 ≤ P := Nat.le_trans t12.2.2 (t12.2.1 L (Nat.le_refl L))
  unfold f_X7_value f_X9_worked
  refine sm_bind (lo_val (X0 := X) (M0 := M) q2 (by omega) t6 t7 t8 t9 t10 t11 t12 hnm L 0 0 um_N um_N X M (by omega) (by unfold um_N; omega) (by unfold um_N; omega) rfl ⟨fun _ _ _ => rfl, rfl⟩ (fun _ _ _ => rfl) (fun p hp => by omega)) (fun X' M' ⟨z1, z2, z3⟩ => ?_)
  have eP : X'.2.2 (q + 2) = P := by rw [z1.2]; exact t9
  rw [eP]
  refine sm_xf (fun z => ?_) (sm_xt ?_ (sm_ret ⟨z3, xp_xq q2 q4 z1, mp_mq z2⟩))
  · rw [Int32.le_iff_toInt_le, nI_toInt (by omega), show (0 : Int32).toInt = 0 by decide] at z
    omega
  · exact um_ix_nI (n := 0) (by omega) (by omega)
theorem held_ (v g : Int32) (X M : um_S) : ∃ w, f_X1_held v g X = some w ∧ f_X9_heldIn v g M = some w := by
  unfold f_X1_held f_X9_heldIn um_let
  dsimp only
  have h0 : (0 : Int32).toInt = 0 := by decide
  by_cases h1 : v ≤ g
  · have h2 : ¬ g < v := by rw [Int32.lt_iff_toInt_lt]; rw [Int32.le_iff_toInt_le] at h1; omega
    rw [if_pos h1, if_neg h2]
    by_cases h3 : 0 ≤ v
    · rw [if_pos h3]
      by_cases h4 : 0 < v
      · rw [if_pos h4]; exact ⟨_, rfl, rfl⟩
      · rw [if_neg h4]
        have e : v = 0 := Int32.toInt_inj.mp (by rw [Int32.lt_iff_toInt_lt] at h4; rw [Int32.le_iff_toInt_le] at h3; omega)
        rw [e]; exact ⟨_, rfl, rfl⟩
    · have h4 : ¬ 0 < v := by rw [Int32.lt_iff_toInt_lt]; rw [Int32.le_iff_toInt_le] at h3; omega
      rw [if_neg h3, if_neg h4]; exact ⟨_, rfl, rfl⟩
  · have h2 : g < v := by rw [Int32.lt_iff_toInt_lt]; rw [Int32.le_iff_toInt_le] at h1; omega
    rw [if_neg h1, if_pos h2]
    by_cases h3 : 0 ≤ g
    · rw [if_pos h3]
      by_cases h4 : 0 < g
      · rw [if_pos h4]; exact ⟨_, rfl, rfl⟩
      · rw [if_neg h4]
        have e : g = 0 := Int32.toInt_inj.mp (by rw [Int32.lt_iff_toInt_lt] at h4; rw [Int32.le_iff_toInt_le] at h3; omega)
        rw [e]; exact ⟨_, rfl, rfl⟩
    · have h4 : ¬ 0 < g := by rw [Int32.lt_iff_toInt_lt]; rw [Int32.le_iff_toInt_le] at h3; omega
      rw [if_neg h3, if_neg h4]; exact ⟨_, rfl, rfl⟩
theorem names_0 : ∀ jj c, (nmL 0)[jj]? = some c → (um_wr (um_wr (um_wr M 8 119 a) 8 109 b) 8 116 d).1 8 c = ag a b d jj := by
  intro jj c hc
  obtain ⟨h3, _, _⟩ := nmL_lt hc
  have hjj : jj = 0 ∨ jj = 1 ∨ jj = 2 := by omega
  rcases hjj with rfl | rfl | rfl
  · have e : c = 119 := (Option.some.inj hc).symm
    subst e
    rw [um_wr_an (by omega), um_wr_an (by omega), um_wr_at]
    rfl
  · have e : c = 109 := (Option.some.inj hc).symm
    subst e
    rw [um_wr_an (by omega), um_wr_at]
    rfl
  · have e : c = 116 := (Option.some.inj hc).symm
    subst e
    rw [um_wr_at]
    rfl
theorem rule_0 (hs : rt X h (M.1 1) n) (hh : um_h h) : sm_S (f_X1_rule h (0 : Int32) (M.1 1 0) a b d X) (f_X9_ruleOf (0 : Int32) a b d M) (fun x y => x.1 = y.1 ∧ xq X x.2 ∧ mq M y.2) := by
  have h14 := hs.2.1.2
  unfold f_X1_rule f_X9_ruleOf
  refine sm_bind (counts_ hs) (fun r r' ⟨e, hct⟩ => ?_)
  subst e
  refine sm_mf (by decide) (sm_mf (by decide) (sm_mf (by decide) (sm_ml (sm_ml (sm_ml ?_)))))
  have hmq : mq M (um_wr (um_wr (um_wr M 8 119 a) 8 109 b) 8 116 d) := (mq_trans (mq_trans mq_wr mq_wr) mq_wr)
  rcases hct with rfl | ⟨t, ht, rfl, hkey⟩
  · refine sm_xb x_textNo ?_
    refine sm_on ?_
    unfold f_X1_unwritten
    refine sm_mt (by decide) (sm_mt rfl ?_)
    rw [if_pos rfl]
    by_cases h208 : a ≤ 208
    · rw [if_pos h208, if_pos h208]
      refine sm_xb rfl ?_
      exact sm_xf (by decide) (sm_xf (by decide) (sm_xf (by decide) (sm_ret ⟨rfl, xq_refl, hmq⟩)))
    · rw [if_neg h208, if_neg h208]
      refine sm_xb rfl ?_
      exact sm_xf (by decide) (sm_xf (by decide) (sm_xf (by decide) (sm_ret ⟨rfl, xq_refl, hmq⟩)))
  · refine sm_mf (nI_pos (by omega)) ?_
    refine sm_xb (x_textAt hs ht) ?_
    obtain ⟨q, q1, q2⟩ := value_ (key := 0) (a := a) (b := b) (d := d) (M := (um_wr (um_wr (um_wr M 8 119 a) 8 109 b) 8 116 d)) (i := t) (rt_q xq_refl hmq hh hs) (by rw [mq_1 hmq]; exact ht) (by rw [mq_1 hmq]; exact hkey) (by omega) names_0
    rw [q1]
    refine sm_os (sm_b2 q2 (fun x X' y M' ⟨z1, z2, z3⟩ => ?_))
    exact sm_xf (by decide) (sm_xf (by decide) (sm_xf (by decide) (sm_ret ⟨z1, z2, mq_trans hmq z3⟩)))
theorem names_1 : ∀ jj c, (nmL 1)[jj]? = some c → (um_wr (um_wr (um_wr M 8 119 a) 8 109 b) 8 116 d).1 8 c = ag a b d jj := by
  intro jj c hc
  obtain ⟨h3, _, _⟩ := nmL_lt hc
  have hjj : jj = 0 ∨ jj = 1 ∨ jj = 2 := by omega
  rcases hjj with rfl | rfl | rfl
  · have e : c = 119 := (Option.some.inj hc).symm
    subst e
    rw [um_wr_an (by omega), um_wr_an (by omega), um_wr_at]
    rfl
  · have e : c = 109 := (Option.some.inj hc).symm
    subst e
    rw [um_wr_an (by omega), um_wr_at]
    rfl
  · have e : c = 116 := (Option.some.inj hc).symm
    subst e
    rw [um_wr_at]
    rfl
theorem rule_1 (hs : rt X h (M.1 1) n) (hh : um_h h) : sm_S (f_X1_rule h (1 : Int32) (M.1 1 0) a b d X) (f_X9_ruleOf (1 : Int32) a b d M) (fun x y => x.1 = y.1 ∧ xq X x.2 ∧ mq M y.2) := by
  have h14 := hs.2.1.2
  unfold f_X1_rule f_X9_ruleOf
  refine sm_bind (counts_ hs) (fun r r' ⟨e, hct⟩ => ?_)
  subst e
  refine sm_mf (by decide) (sm_mf (by decide) (sm_mf (by decide) (sm_ml (sm_ml (sm_ml ?_)))))
  have hmq : mq M (um_wr (um_wr (um_wr M 8 119 a) 8 109 b) 8 116 d) := (mq_trans (mq_trans mq_wr mq_wr) mq_wr)
  rcases hct with rfl | ⟨t, ht, rfl, hkey⟩
  · refine sm_xb x_textNo ?_
    refine sm_on ?_
    refine sm_mt (by decide) (sm_mf (by decide) ?_)
    refine sm_xb (c := 0) rfl ?_
    exact sm_xf (by decide) (sm_xf (by decide) (sm_xf (by decide) (sm_ret ⟨rfl, xq_refl, hmq⟩)))
  · refine sm_mf (nI_pos (by omega)) ?_
    refine sm_xb (x_textAt hs ht) ?_
    obtain ⟨q, q1, q2⟩ := value_ (key := 1) (a := a) (b := b) (d := d) (M := (um_wr (um_wr (um_wr M 8 119 a) 8 109 b) 8 116 d)) (i := t) (rt_q xq_refl hmq hh hs) (by rw [mq_1 hmq]; exact ht) (by rw [mq_1 hmq]; exact hkey) (by omega) names_1
    rw [q1]
    refine sm_os (sm_b2 q2 (fun x X' y M' ⟨z1, z2, z3⟩ => ?_))
    exact sm_xf (by decide) (sm_xf (by decide) (sm_xf (by decide) (sm_ret ⟨z1, z2, mq_trans hmq z3⟩)))
theorem names_2 : ∀ jj c, (nmL 2)[jj]? = some c → (um_wr (um_wr M 8 111 a) 8 109 b).1 8 c = ag a b d jj := by
  intro jj c hc
  obtain ⟨h3, _, _⟩ := nmL_lt hc
  have hjj : jj = 0 ∨ jj = 1 ∨ jj = 2 := by omega
  rcases hjj with rfl | rfl | rfl
  · have e : c = 111 := (Option.some.inj hc).symm
    subst e
    rw [um_wr_an (by omega), um_wr_at]
    rfl
  · have e : c = 109 := (Option.some.inj hc).symm
    subst e
    rw [um_wr_at]
    rfl
  · cases hc
theorem rule_2 (hs : rt X h (M.1 1) n) (hh : um_h h) : sm_S (f_X1_rule h (2 : Int32) (M.1 1 0) a b d X) (f_X9_ruleOf (2 : Int32) a b d M) (fun x y => x.1 = y.1 ∧ xq X x.2 ∧ mq M y.2) := by
  have h14 := hs.2.1.2
  unfold f_X1_rule f_X9_ruleOf
  refine sm_bind (counts_ hs) (fun r r' ⟨e, hct⟩ => ?_)
  subst e
  refine sm_mt rfl (sm_ml (sm_ml (sm_ml ?_)))
  have hmq : mq M (um_wr (um_wr M 8 111 a) 8 109 b) := (mq_trans mq_wr mq_wr)
  rcases hct with rfl | ⟨t, ht, rfl, hkey⟩
  · refine sm_xb x_textNo ?_
    refine sm_mf (by decide) ?_
    obtain ⟨w, w1, w2⟩ := held_ (4) (99) X (um_wr (um_wr M 8 111 a) 8 109 b)
    refine sm_on ?_
    refine sm_xb (c := 4) rfl ?_
    exact sm_xt rfl (sm_xb w1 (sm_mb w2 (sm_ret ⟨rfl, xq_refl, hmq⟩)))
  · refine sm_mt (nI_pos' (by omega)) ?_
    refine sm_xb (x_textAt hs ht) ?_
    obtain ⟨q, q1, q2⟩ := value_ (key := 2) (a := a) (b := b) (d := d) (M := (um_wr (um_wr M 8 111 a) 8 109 b)) (i := t) (rt_q xq_refl hmq hh hs) (by rw [mq_1 hmq]; exact ht) (by rw [mq_1 hmq]; exact hkey) (by omega) names_2
    rw [q1]
    refine sm_os (sm_b2 q2 (fun x X' y M' ⟨z1, z2, z3⟩ => ?_))
    dsimp only at z1 z2 z3
    subst z1
    obtain ⟨w, w1, w2⟩ := held_ x (99) X' M'
    exact sm_xt rfl (sm_xb w1 (sm_mb w2 (sm_ret ⟨rfl, z2, mq_trans hmq z3⟩)))
theorem names_3 : ∀ jj c, (nmL 3)[jj]? = some c → (um_wr (um_wr (um_wr M 8 107 a) 8 109 b) 8 112 d).1 8 c = ag a b d jj := by
  intro jj c hc
  obtain ⟨h3, _, _⟩ := nmL_lt hc
  have hjj : jj = 0 ∨ jj = 1 ∨ jj = 2 := by omega
  rcases hjj with rfl | rfl | rfl
  · have e : c = 107 := (Option.some.inj hc).symm
    subst e
    rw [um_wr_an (by omega), um_wr_an (by omega), um_wr_at]
    rfl
  · have e : c = 109 := (Option.some.inj hc).symm
    subst e
    rw [um_wr_an (by omega), um_wr_at]
    rfl
  · have e : c = 112 := (Option.some.inj hc).symm
    subst e
    rw [um_wr_at]
    rfl
theorem rule_3 (hs : rt X h (M.1 1) n) (hh : um_h h) : sm_S (f_X1_rule h (3 : Int32) (M.1 1 0) a b d X) (f_X9_ruleOf (3 : Int32) a b d M) (fun x y => x.1 = y.1 ∧ xq X x.2 ∧ mq M y.2) := by
  have h14 := hs.2.1.2
  unfold f_X1_rule f_X9_ruleOf
  refine sm_bind (counts_ hs) (fun r r' ⟨e, hct⟩ => ?_)
  subst e
  refine sm_mf (by decide) (sm_mt rfl (sm_ml (sm_ml (sm_ml (sm_ml ?_)))))
  have hmq : mq M (um_wr (um_wr (um_wr M 8 107 a) 8 109 b) 8 112 d) := (mq_trans (mq_trans mq_wr mq_wr) mq_wr)
  rcases hct with rfl | ⟨t, ht, rfl, hkey⟩
  · refine sm_xb x_textNo ?_
    refine sm_mf (by decide) ?_
    obtain ⟨w, w1, w2⟩ := held_ (0) (100) X (um_wr (um_wr (um_wr M 8 107 a) 8 109 b) 8 112 d)
    refine sm_on ?_
    refine sm_xb (c := 0) rfl ?_
    exact sm_xf (by decide) (sm_xt rfl (sm_xb w1 (sm_mb w2 (sm_ret ⟨rfl, xq_refl, hmq⟩))))
  · refine sm_mt (nI_pos' (by omega)) ?_
    refine sm_xb (x_textAt hs ht) ?_
    obtain ⟨q, q1, q2⟩ := value_ (key := 3) (a := a) (b := b) (d := d) (M := (um_wr (um_wr (um_wr M 8 107 a) 8 109 b) 8 112 d)) (i := t) (rt_q xq_refl hmq hh hs) (by rw [mq_1 hmq]; exact ht) (by rw [mq_1 hmq]; exact hkey) (by omega) names_3
    rw [q1]
    refine sm_os (sm_b2 q2 (fun x X' y M' ⟨z1, z2, z3⟩ => ?_))
    dsimp only at z1 z2 z3
    subst z1
    obtain ⟨w, w1, w2⟩ := held_ x (100) X' M'
    exact sm_xf (by decide) (sm_xt rfl (sm_xb w1 (sm_mb w2 (sm_ret ⟨rfl, z2, mq_trans hmq z3⟩))))
theorem names_4 : ∀ jj c, (nmL 4)[jj]? = some c → (um_wr (um_wr M 8 101 a) 8 100 b).1 8 c = ag a b d jj := by
  intro jj c hc
  obtain ⟨h3, _, _⟩ := nmL_lt hc
  have hjj : jj = 0 ∨ jj = 1 ∨ jj = 2 := by omega
  rcases hjj with rfl | rfl | rfl
  · have e : c = 101 := (Option.some.inj hc).symm
    subst e
    rw [um_wr_an (by omega), um_wr_at]
    rfl
  · have e : c = 100 := (Option.some.inj hc).symm
    subst e
    rw [um_wr_at]
    rfl
  · cases hc
theorem rule_4 (hs : rt X h (M.1 1) n) (hh : um_h h) : sm_S (f_X1_rule h (4 : Int32) (M.1 1 0) a b d X) (f_X9_ruleOf (4 : Int32) a b d M) (fun x y => x.1 = y.1 ∧ xq X x.2 ∧ mq M y.2) := by
  have h14 := hs.2.1.2
  unfold f_X1_rule f_X9_ruleOf
  refine sm_bind (counts_ hs) (fun r r' ⟨e, hct⟩ => ?_)
  subst e
  refine sm_mf (by decide) (sm_mf (by decide) (sm_mt rfl (sm_ml (sm_ml (sm_ml ?_)))))
  have hmq : mq M (um_wr (um_wr M 8 101 a) 8 100 b) := (mq_trans mq_wr mq_wr)
  rcases hct with rfl | ⟨t, ht, rfl, hkey⟩
  · refine sm_xb x_textNo ?_
    refine sm_mf (by decide) ?_
    obtain ⟨w, w1, w2⟩ := held_ (0) (a) X (um_wr (um_wr M 8 101 a) 8 100 b)
    refine sm_on ?_
    refine sm_xb (c := 0) rfl ?_
    exact sm_xf (by decide) (sm_xf (by decide) (sm_xt rfl (sm_xb w1 (sm_mb w2 (sm_ret ⟨rfl, xq_refl, hmq⟩)))))
  · refine sm_mt (nI_pos' (by omega)) ?_
    refine sm_xb (x_textAt hs ht) ?_
    obtain ⟨q, q1, q2⟩ := value_ (key := 4) (a := a) (b := b) (d := d) (M := (um_wr (um_wr M 8 101 a) 8 100 b)) (i := t) (rt_q xq_refl hmq hh hs) (by rw [mq_1 hmq]; exact ht) (by rw [mq_1 hmq]; exact hkey) (by omega) names_4
    rw [q1]
    refine sm_os (sm_b2 q2 (fun x X' y M' ⟨z1, z2, z3⟩ => ?_))
    dsimp only at z1 z2 z3
    subst z1
    obtain ⟨w, w1, w2⟩ := held_ x (a) X' M'
    exact sm_xf (by decide) (sm_xf (by decide) (sm_xt rfl (sm_xb w1 (sm_mb w2 (sm_ret ⟨rfl, z2, mq_trans hmq z3⟩)))))
theorem rule_ (hs : rt X h (M.1 1) n) (hh : um_h h) (hk : key ≤ 4) : sm_S (f_X1_rule h (nI key) (M.1 1 0) a b d X) (f_X9_ruleOf (nI key) a b d M) (fun x y => x.1 = y.1 ∧ xq X x.2 ∧ mq M y.2) := by
  have hkk : key = 0 ∨ key = 1 ∨ key = 2 ∨ key = 3 ∨ key = 4 := by omega
  rcases hkk with rfl | rfl | rfl | rfl | rfl
  · exact rule_0 hs hh
  · exact rule_1 hs hh
  · exact rule_2 hs hh
  · exact rule_3 hs hh
  · exact rule_4 hs hh
end RUL
theorem sim_rulesR : sim_rules RR := by
  intro n X M a1 a2 a3 a4 hR
  refine sm_out ?_
  unfold f_X8_rules f_X9_rules
  refine sm_chk (wi_0 (n := 4) (by decide) (by decide)) (sm_ret ⟨rfl, hR⟩) (fun ⟨k, hk, ek⟩ => ?_)
  subst ek
  rw [hR.1.1.1.1]
  refine sm_b2 (rule_ (rt_of hR.1) (Or.inl rfl) hk) (fun x X' y M' ⟨z1, z2, z3⟩ => sm_ret ⟨z1, ?_⟩)
  exact RR_of hR (sr_q (Or.inl rfl) z2 z3 hR.1) (xq_xf z2) (mq_mf z3)
