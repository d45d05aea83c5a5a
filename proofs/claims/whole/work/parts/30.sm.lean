/-! LEVEL 2: two programs side by side; the words of both -/
def sm_S {A B : Type} (o : Option A) (p : Option B) (Q : A → B → Prop) : Prop := ∃ a b, o = some a ∧ p = some b ∧ Q a b
section SM
variable {A B C D A2 B2 : Type} {o : Option A} {p : Option B} {Q : A → B → Prop} {Q2 : C → D → Prop}
theorem sm_ret {a : A} {b : B} (h : Q a b) : sm_S (some a) (some b) Q := ⟨a, b, rfl, rfl, h⟩
theorem sm_of {a : A} {b : B} (h1 : o = some a) (h2 : p = some b) (h : Q a b) : sm_S o p Q := ⟨a, b, h1, h2, h⟩
theorem sm_wk {Q3 : A → B → Prop} (h : sm_S o p Q) (k : ∀ a b, Q a b → Q3 a b) : sm_S o p Q3 := by
  obtain ⟨a, b, h1, h2, h3⟩ := h
  exact ⟨a, b, h1, h2, k a b h3⟩
theorem sm_bind {F : A → Option C} {G : B → Option D} (h : sm_S o p Q) (k : ∀ a b, Q a b → sm_S (F a) (G b) Q2) : sm_S (o.bind F) (p.bind G) Q2 := by
  obtain ⟨a, b, rfl, rfl, h3⟩ := h
  exact k a b h3
theorem sm_xb {x : Option C} {c : C} {F : C → Option A} (h : x = some c) (k : sm_S (F c) p Q) : sm_S (x.bind F) p Q := by
  subst h; exact k
theorem sm_mb {x : Option C} {c : C} {F : C → Option B} (h : x = some c) (k : sm_S o (F c) Q) : sm_S o (x.bind F) Q := by
  subst h; exact k
theorem sm_b2 {o : Option (A × A2)} {p : Option (B × B2)} {Q : A × A2 → B × B2 → Prop} {F : A → A2 → Option C} {G : B → B2 → Option D} (h : sm_S o p Q) (k : ∀ a a2 b b2, Q (a, a2) (b, b2) → sm_S (F a a2) (G b b2) Q2) : sm_S (um_b2 o F) (um_b2 p G) Q2 := by
  obtain ⟨⟨a, a2⟩, ⟨b, b2⟩, rfl, rfl, h3⟩ := h
  exact k a a2 b b2 h3
theorem sm_xb2 {x : Option (C × D)} {c : C} {d : D} {F : C → D → Option A} (h : x = some (c, d)) (k : sm_S (F c d) p Q) : sm_S (um_b2 x F) p Q := by
  subst h; exact k
theorem sm_mb2 {x : Option (C × D)} {c : C} {d : D} {F : C → D → Option B} (h : x = some (c, d)) (k : sm_S o (F c d) Q) : sm_S o (um_b2 x F) Q := by
  subst h; exact k
theorem sm_xl {v : C} {F : C → Option A} (k : sm_S (F v) p Q) : sm_S (um_let v F) p Q := k
theorem sm_ml {v : C} {F : C → Option B} (k : sm_S o (F v) Q) : sm_S o (um_let v F) Q := k
theorem sm_xt {c : Prop} {i : Decidable c} {a b : Option A} (h : c) (k : sm_S a p Q) : sm_S (@ite (Option A) c i a b) p Q := by rw [if_pos h]; exact k
theorem sm_xf {c : Prop} {i : Decidable c} {a b : Option A} (h : ¬ c) (k : sm_S b p Q) : sm_S (@ite (Option A) c i a b) p Q := by rw [if_neg h]; exact k
theorem sm_mt {c : Prop} {i : Decidable c} {a b : Option B} (h : c) (k : sm_S o a Q) : sm_S o (@ite (Option B) c i a b) Q := by rw [if_pos h]; exact k
theorem sm_mf {c : Prop} {i : Decidable c} {a b : Option B} (h : ¬ c) (k : sm_S o b Q) : sm_S o (@ite (Option B) c i a b) Q := by rw [if_neg h]; exact k
theorem sm_if {c d : Prop} {i : Decidable c} {j : Decidable d} {a b : Option A} {a' b' : Option B} (h : c ↔ d) (k1 : c → sm_S a a' Q) (k2 : ¬ c → sm_S b b' Q) : sm_S (@ite (Option A) c i a b) (@ite (Option B) d j a' b') Q := by
  by_cases hc : c
  · rw [if_pos hc, if_pos (h.mp hc)]; exact k1 hc
  · rw [if_neg hc, if_neg (fun z => hc (h.mpr z))]; exact k2 hc
theorem sm_xi {c : Prop} {i : Decidable c} {a b : Option A} (k1 : c → sm_S a p Q) (k2 : ¬ c → sm_S b p Q) : sm_S (@ite (Option A) c i a b) p Q := by
  by_cases hc : c
  · rw [if_pos hc]; exact k1 hc
  · rw [if_neg hc]; exact k2 hc
theorem sm_mi {c : Prop} {i : Decidable c} {a b : Option B} (k1 : c → sm_S o a Q) (k2 : ¬ c → sm_S o b Q) : sm_S o (@ite (Option B) c i a b) Q := by
  by_cases hc : c
  · rw [if_pos hc]; exact k1 hc
  · rw [if_neg hc]; exact k2 hc
theorem um_b_0 {b : Bool} : um_b b = 0 ↔ b = false := by cases b <;> decide
/-- a check that both make: what fails, what goes on -/
theorem sm_chk {o p : Option Bool} {R : Prop} {a b : Option A} {a' b' : Option B} (h : sm_S o p (fun x y => x = y ∧ (x = true → R))) (k0 : sm_S a a' Q) (k : R → sm_S b b' Q) : sm_S (o.bind fun x => if um_b x = 0 then a else b) (p.bind fun x => if um_b x = 0 then a' else b') Q := by
  obtain ⟨x, y, rfl, rfl, rfl, h3⟩ := h
  cases x with
  | false => exact k0
  | true => exact k (h3 rfl)
/-- a test that both make -/
theorem sm_tst {o p : Option Bool} {R R' : Prop} {a b : Option A} {a' b' : Option B} (h : sm_S o p (fun x y => x = y ∧ (x = true → R) ∧ (x = false → R'))) (k0 : R' → sm_S a a' Q) (k : R → sm_S b b' Q) : sm_S (o.bind fun x => if um_b x = 0 then a else b) (p.bind fun x => if um_b x = 0 then a' else b') Q := by
  obtain ⟨x, y, rfl, rfl, rfl, h3, h4⟩ := h
  cases x with
  | false => exact k0 (h4 rfl)
  | true => exact k (h3 rfl)
theorem sm_xT {a b : Option A} (k : sm_S b p Q) : sm_S (if um_b true = 0 then a else b) p Q := k
theorem sm_xF {a b : Option A} (k : sm_S a p Q) : sm_S (if um_b false = 0 then a else b) p Q := k
theorem sm_mT {a b : Option B} (k : sm_S o b Q) : sm_S o (if um_b true = 0 then a else b) Q := k
theorem sm_mF {a b : Option B} (k : sm_S o a Q) : sm_S o (if um_b false = 0 then a else b) Q := k
theorem sm_out {R : um_S → um_S → Prop} {x m : Option (Int32 × um_S)} (h : sm_S x m (fun a b => a.1 = b.1 ∧ R a.2 b.2)) : ∃ (r : Int32) (σx' σm' : um_S), x = some (r, σx') ∧ m = some (r, σm') ∧ R σx' σm' := by
  obtain ⟨⟨a, X⟩, ⟨b, M⟩, h1, h2, h3, h4⟩ := h
  exact ⟨a, X, M, h1, by rw [h2]; exact congrArg some (congrArg (fun z => (z, M)) h3.symm), h4⟩
theorem sm_ouv {R : Prop} {x m : Option Int32} (h : sm_S x m (fun a b => a = b)) (hR : R) : ∃ (r : Int32), x = some r ∧ m = some r ∧ R := by
  obtain ⟨a, b, h1, h2, rfl⟩ := h
  exact ⟨a, h1, h2, hR⟩
theorem sm_s1 {o : Option (A ⊕ A2)} {p : Option (B ⊕ B2)} {Q0 : A ⊕ A2 → B ⊕ B2 → Prop} {F : A2 → Option A} {G : B2 → Option B} (h : sm_S o p Q0) (h1 : ∀ a b, Q0 (.inl a) (.inl b) → Q a b) (h2 : ∀ a b, Q0 (.inr a) (.inr b) → sm_S (F a) (G b) Q) (h3 : ∀ a b, ¬ Q0 (.inl a) (.inr b)) (h4 : ∀ a b, ¬ Q0 (.inr a) (.inl b)) : sm_S (um_s1 o F) (um_s1 p G) Q := by
  obtain ⟨a, b, rfl, rfl, hq⟩ := h
  cases a <;> cases b
  · exact ⟨_, _, rfl, rfl, h1 _ _ hq⟩
  · exact absurd hq (h3 _ _)
  · exact absurd hq (h4 _ _)
  · exact h2 _ _ hq
end SM
/-! numbers -/
theorem nI_mul (a b : Nat) : nI a * nI b = nI (a * b) := (Int32.ofNat_mul a b).symm
theorem nI_sub {a b : Nat} (h : b ≤ a) : nI a - nI b = nI (a - b) := by
  have : nI a = nI (a - b) + nI b := by rw [nI_add, Nat.sub_add_cancel h]
  rw [this, Int32.add_sub_cancel]
theorem nI_nneg {n : Nat} (h : n < 2 ^ 31) : nI n ≠ -1 := by
  intro z
  have h1 := nI_toInt h
  rw [z] at h1
  have h2 : (-1 : Int32).toInt = -1 := by decide
  omega
theorem nI_none {n : Nat} (h : n < 2 ^ 31) : nI n ≠ -1000000005 := by
  intro z
  have h1 := nI_toInt h
  rw [z] at h1
  have h2 : (-1000000005 : Int32).toInt = -1000000005 := by decide
  omega
theorem nI_ofT {a : Int32} {u : Int} (h0 : 0 ≤ a.toInt) (h : a.toInt ≤ u) : ∃ n : Nat, (n : Int) ≤ u ∧ a = nI n := by
  have hx := Int32.toInt_lt a
  refine ⟨a.toInt.toNat, by omega, Int32.toInt_inj.mp ?_⟩
  rw [nI_toInt (by omega)]
  omega
def nn (s : Nat → Int32) (i : Nat) : Nat := (s i).toNatClampNeg
theorem um_ix_nI {n N : Nat} (h : n < N) (hN : N < 2 ^ 31) : um_ix (nI n) N = true := um_ix_of (vp_in_nI h hN)
/-- one cell of a row -/
def up (s : Nat → Int32) (i : Nat) (v : Int32) : Nat → Int32 := fun b => if b = i then v else s b
theorem up_eq (s : Nat → Int32) (i : Nat) (v : Int32) : up s i v i = v := if_pos rfl
theorem up_ne {s : Nat → Int32} {i j : Nat} {v : Int32} (h : j ≠ i) : up s i v j = s j := if_neg h
theorem um_wr_eq (σ : um_S) (k i : Nat) (v : Int32) : (um_wr σ k i v).1 k = up (σ.1 k) i v := by
  funext b
  simp [um_wr, up]
theorem um_wr_2 (σ : um_S) (k i : Nat) (v : Int32) : (um_wr σ k i v).2 = σ.2 := rfl
theorem um_wr_at (σ : um_S) (k i : Nat) (v : Int32) : (um_wr σ k i v).1 k i = v := by
  rw [um_wr_eq, up_eq]
theorem um_wr_an {σ : um_S} {k i j : Nat} {v : Int32} (h : j ≠ i) : (um_wr σ k i v).1 k j = σ.1 k j := by
  rw [um_wr_eq, up_ne h]
theorem um_wr_nk {σ : um_S} {k i k2 j : Nat} {v : Int32} (h : k2 ≠ k) : (um_wr σ k i v).1 k2 j = σ.1 k2 j := by
  rw [um_wr_ne h]
/-! checks of numbers -/
theorem x_within (a lo hi : Int32) (X : um_S) : f_X8_within a lo hi X = some (decide (lo.toInt ≤ a.toInt ∧ a.toInt ≤ hi.toInt)) := by
  unfold f_X8_within
  simp only [Int32.lt_iff_toInt_lt]
  split
  · rw [decide_eq_false (by omega)]
  · split
    · rw [decide_eq_false (by omega)]
    · rw [decide_eq_true (by omega)]
theorem m_isIn (a lo hi : Int64) (M : um_S) : f_X9_isIn a lo hi M = some (decide (lo.toInt ≤ a.toInt ∧ a.toInt ≤ hi.toInt)) := by
  unfold f_X9_isIn
  simp only [lg_cmp_lt, lg_cmp_gt, Int64.lt_iff_toInt_lt]
  split
  · rw [decide_eq_false (by omega)]
  · split
    · rw [decide_eq_false (by omega)]
    · rw [decide_eq_true (by omega)]
theorem wi_ {a lo hi : Int32} {l u : Int64} {X M : um_S} (hl : l.toInt = lo.toInt) (hu : u.toInt = hi.toInt) : sm_S (f_X8_within a lo hi X) (f_X9_isIn a.toInt64 l u M) (fun x y => x = y ∧ (x = true → lo.toInt ≤ a.toInt ∧ a.toInt ≤ hi.toInt)) := by
  refine sm_of (x_within a lo hi X) (m_isIn _ _ _ M) ⟨?_, fun z => of_decide_eq_true z⟩
  rw [Int32.toInt_toInt64, hl, hu]
/-- within 0 and a number -/
theorem wi_0 {a hi : Int32} {u : Int64} {n : Nat} {X M : um_S} (hu : u.toInt = n) (hh : hi.toInt = n) : sm_S (f_X8_within a (0 : Int32) hi X) (f_X9_isIn a.toInt64 (0 : Int64) u M) (fun x y => x = y ∧ (x = true → ∃ k : Nat, k ≤ n ∧ a = nI k)) :=
  sm_wk (wi_ (by decide) (by rw [hu, hh])) (fun x y h => ⟨h.1, fun z => by
    obtain ⟨h1, h2⟩ := h.2 z
    rw [hh] at h2
    obtain ⟨k, hk, e⟩ := nI_ofT (a := a) (u := n) (by have : (0 : Int32).toInt = 0 := by decide
                                                      omega) h2
    exact ⟨k, by omega, e⟩⟩)
theorem pl_ {a : Int32} {X M : um_S} : sm_S (f_X8_isPlace a X) (f_X9_isPlace a M) (fun x y => x = y ∧ (x = true → ∃ p : Nat, p < 6 ∧ a = nI p)) := by
  unfold f_X8_isPlace f_X9_isPlace
  refine sm_bind (wi_0 (n := 5) (by decide) (by decide)) (fun x y h => sm_ret ⟨h.1, fun z => ?_⟩)
  obtain ⟨k, hk, e⟩ := h.2 z
  exact ⟨k, by omega, e⟩
