/-! LEVEL 2: bits -/
theorem sh_k : ∀ k, k < 32 → ((nI k &&& 31).toBitVec.smod 32).toNat = k := by decide +kernel
theorem shr_ {g k : Nat} (hg : g < 2 ^ 31) (hk : k < 32) : nI g >>> (nI k &&& 31) = nI (g / 2 ^ k) := pk_shrN hg _ k (sh_k k hk)
theorem shl_ : ∀ k, k < 31 → (1 : Int32) <<< (nI k &&& 31) = nI (2 ^ k) := by decide +kernel
theorem and_1 (g : Nat) : nI g &&& 1 = nI (g % 2) := by
  rw [show (1 : Int32) = nI 1 from rfl, nI_and, Nat.and_one_is_mod]
/-- how many of the first bits are set -/
def on1 (g : Nat) : Nat → Nat
  | 0 => 0
  | k + 1 => on1 g k + g / 2 ^ k % 2
theorem on1_le (g : Nat) : ∀ k, on1 g k ≤ k
  | 0 => Nat.le_refl 0
  | k + 1 => by
    have := on1_le g k
    have := Nat.mod_lt (g / 2 ^ k) (show 0 < 2 by omega)
    unfold on1
    omega
theorem lo_ones {M : um_S} {g : Nat} (hg : g < 2 ^ 31) : ∀ (k j fm : Nat), j + k = 14 → k < fm → f_X9_ones_l4 (nI g) M fm (nI (on1 g j)) (nI j) = some (nI (on1 g 14)) := by
  intro k
  induction k with
  | zero =>
    intro j fm hj hfm
    obtain ⟨fm, rfl⟩ : ∃ f, fm = f + 1 := ⟨fm - 1, by omega⟩
    have e : j = 14 := by omega
    subst e
    rw [f_X9_ones_l4]
    exact if_pos (by decide)
  | succ k ih =>
    intro j fm hj hfm
    obtain ⟨fm, rfl⟩ : ∃ f, fm = f + 1 := ⟨fm - 1, by omega⟩
    rw [f_X9_ones_l4, if_neg (show ¬ (14 : Int32) ≤ nI j from nI_ge (b := 14) (by omega) (by omega))]
    unfold um_let
    rw [shr_ hg (by omega), and_1, nI_add, nI_1]
    exact ih (j + 1) fm (by omega) (by omega)
theorem ones_ {M : um_S} {g : Nat} (hg : g < 2 ^ 31) : f_X9_ones (nI g) M = some (nI (on1 g 14)) := by
  unfold f_X9_ones
  rw [bind_sm]
  exact lo_ones hg 14 0 um_N (by omega) (by unfold um_N; omega)
def bcN (g : Nat) : Nat :=
  let a := g - (g / 2 &&& 1431655765)
  let b := (a &&& 858993459) + (a / 4 &&& 858993459)
  let c := (b + b / 16) &&& 252645135
  let d := c + c / 256
  let e := d + d / 65536
  e &&& 63
theorem ush_ {g : Nat} (hg : g < 2 ^ 31) : ((nI g).toUInt32 >>> ((1 : Int32).toUInt32 &&& Int32.toUInt32 31)).toInt32 = nI (g / 2) ∧ ((nI g).toUInt32 >>> ((2 : Int32).toUInt32 &&& Int32.toUInt32 31)).toInt32 = nI (g / 4) ∧ ((nI g).toUInt32 >>> ((4 : Int32).toUInt32 &&& Int32.toUInt32 31)).toInt32 = nI (g / 16) ∧ ((nI g).toUInt32 >>> ((8 : Int32).toUInt32 &&& Int32.toUInt32 31)).toInt32 = nI (g / 256) ∧ ((nI g).toUInt32 >>> ((16 : Int32).toUInt32 &&& Int32.toUInt32 31)).toInt32 = nI (g / 65536) :=
  ⟨pk_ushrN (by omega) 1 1 (by decide), pk_ushrN (by omega) 2 2 (by decide), pk_ushrN (by omega) 4 4 (by decide), pk_ushrN (by omega) 8 8 (by decide), pk_ushrN (by omega) 16 16 (by decide)⟩
theorem bcI {g : Nat} {X : um_S} (hg : g < 2 ^ 20) : f_J6_bitCount_0f7a4 (nI g) X = some (nI (bcN g)) := by
  unfold f_J6_bitCount_0f7a4 um_let bcN
  dsimp only
  have l1 : g / 2 &&& 1431655765 ≤ g / 2 := Nat.and_le_left
  rw [(ush_ (g := g) (by omega)).1, show (1431655765 : Int32) = nI 1431655765 from rfl, nI_and, nI_sub (by omega)]
  obtain ⟨a, ha⟩ : ∃ a, a = g - (g / 2 &&& 1431655765) := ⟨_, rfl⟩
  have ha2 : a ≤ g := by omega
  rw [← ha, (ush_ (g := a) (by omega)).2.1, show (858993459 : Int32) = nI 858993459 from rfl, nI_and, nI_and, nI_add]
  have l2 : a &&& 858993459 ≤ a := Nat.and_le_left
  have l3 : a / 4 &&& 858993459 ≤ a / 4 := Nat.and_le_left
  obtain ⟨b, hb⟩ : ∃ b, b = (a &&& 858993459) + (a / 4 &&& 858993459) := ⟨_, rfl⟩
  have hb2 : b ≤ 2 * a := by omega
  rw [← hb, (ush_ (g := b) (by omega)).2.2.1, nI_add, show (252645135 : Int32) = nI 252645135 from rfl, nI_and]
  have l4 : (b + b / 16) &&& 252645135 ≤ b + b / 16 := Nat.and_le_left
  obtain ⟨c, hc⟩ : ∃ c, c = (b + b / 16) &&& 252645135 := ⟨_, rfl⟩
  have hc2 : c ≤ 2 * b := by omega
  rw [← hc, (ush_ (g := c) (by omega)).2.2.2.1, nI_add]
  obtain ⟨d, hd⟩ : ∃ d, d = c + c / 256 := ⟨_, rfl⟩
  rw [← hd, (ush_ (g := d) (by omega)).2.2.2.2, nI_add, show (63 : Int32) = nI 63 from rfl, nI_and]
theorem bc_on : ∀ a, a < 128 → ∀ b, b < 128 → bcN (128 * a + b) = on1 (128 * a + b) 14 := by decide +kernel
theorem bitCount_ {g : Nat} {X : um_S} (hg : g < 16384) : f_J6_bitCount_0f7a4 (nI g) X = some (nI (on1 g 14)) := by
  rw [bcI (by omega)]
  have h := bc_on (g / 128) (by omega) (g % 128) (by omega)
  rw [Nat.div_add_mod] at h
  rw [h]
theorem xor_m1 (b : Int32) : b ^^^ (-1) = ~~~b := by
  apply Int32.toBitVec_inj.mp
  rw [Int32.toBitVec_xor, Int32.toBitVec_not]
  apply BitVec.eq_of_getLsbD_eq
  intro i hi
  rw [BitVec.getLsbD_xor, BitVec.getLsbD_not]
  have e : (-1 : Int32).toBitVec = BitVec.allOnes 32 := by decide
  rw [e, BitVec.getLsbD_allOnes]
  simp [hi]
theorem sub_and (a b : Int32) : (a &&& b) = a ↔ (a &&& (b ^^^ (-1))) = 0 := by
  rw [xor_m1, ← Int32.toBitVec_inj, ← Int32.toBitVec_inj, Int32.toBitVec_and, Int32.toBitVec_and, Int32.toBitVec_not]
  generalize a.toBitVec = x
  generalize b.toBitVec = y
  constructor
  · intro h
    apply BitVec.eq_of_getLsbD_eq
    intro i hi
    have h2 : (x &&& y).getLsbD i = x.getLsbD i := by rw [h]
    rw [BitVec.getLsbD_and] at h2 ⊢
    rw [BitVec.getLsbD_not]
    cases hx : x.getLsbD i <;> cases hy : y.getLsbD i <;> simp_all
  · intro h
    apply BitVec.eq_of_getLsbD_eq
    intro i hi
    have h2 : (x &&& ~~~y).getLsbD i = (0 : Int32).toBitVec.getLsbD i := by rw [h]
    rw [BitVec.getLsbD_and, BitVec.getLsbD_not] at h2
    rw [BitVec.getLsbD_and]
    cases hx : x.getLsbD i <;> cases hy : y.getLsbD i <;> simp_all
