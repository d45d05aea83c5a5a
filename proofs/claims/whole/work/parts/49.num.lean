/-! LEVEL 2: numbers, once more -/
theorem nI_div {a b : Nat} (ha : a < 2 ^ 31) (hb : b < 2 ^ 31) : nI a / nI b = nI (a / b) := by
  have hq : a / b < 2 ^ 31 := Nat.lt_of_le_of_lt (Nat.div_le_self a b) ha
  apply Int32.toInt_inj.mp
  rw [Int32.toInt_div, nI_toInt ha, nI_toInt hb, nI_toInt hq, ← Int.ofNat_tdiv]
  generalize a / b = c at hq ⊢
  rw [Int.bmod_def]
  split <;> omega
theorem nI_bv (a : Nat) : (nI a).toBitVec = BitVec.ofNat 32 a := rfl
theorem nI_and (a b : Nat) : nI a &&& nI b = nI (a &&& b) := by
  apply Int32.toBitVec_inj.mp
  rw [Int32.toBitVec_and, nI_bv, nI_bv, nI_bv, BitVec.ofNat_and]
theorem nI_or (a b : Nat) : nI a ||| nI b = nI (a ||| b) := by
  apply Int32.toBitVec_inj.mp
  rw [Int32.toBitVec_or, nI_bv, nI_bv, nI_bv, BitVec.ofNat_or]
theorem nI_mod {a b : Nat} (ha : a < 2 ^ 31) (hb : b < 2 ^ 31) : nI a - nI a / nI b * nI b = nI (a % b) := by
  rw [nI_div ha hb, nI_mul, nI_sub (Nat.div_mul_le_self a b)]
  congr 1
  have := Nat.div_add_mod a b
  have h2 : a / b * b = b * (a / b) := Nat.mul_comm _ _
  omega
theorem nI_m16 {a : Nat} (ha : a < 2 ^ 31) : nI a &&& 65535 = nI (a % 65536) := by
  rw [show (65535 : Int32) = nI 65535 from rfl, nI_and]
  congr 1
  exact Nat.and_two_pow_sub_one_eq_mod a 16
theorem nI_d16 {a : Nat} (ha : a < 2 ^ 31) : nI a - nI a / 65536 * 65536 = nI (a % 65536) := nI_mod (b := 65536) ha (by omega)
theorem nI_d100 {a : Nat} (ha : a < 2 ^ 31) : nI a - nI a / 100 * 100 = nI (a % 100) := nI_mod (b := 100) ha (by omega)
theorem nI_d4 {a : Nat} (ha : a < 2 ^ 31) : nI a - nI a / 4 * 4 = nI (a % 4) := nI_mod (b := 4) ha (by omega)
theorem nI_d3 {a : Nat} (ha : a < 2 ^ 31) : nI a - nI a / 3 * 3 = nI (a % 3) := nI_mod (b := 3) ha (by omega)
