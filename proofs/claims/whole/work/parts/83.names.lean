/-! LEVEL 2: texts: names -/
/-- the word that holds a key's names -/
def nq (k : Nat) : Nat := if k = 0 then 5 else if k = 1 then 5 else if k = 2 then 6 else if k = 3 then 7 else 8
def nmi (k c : Nat) : Int32 := if c ∈ nmL k then nI ((nmL k).idxOf c) else -1
section NAM
variable {X M : um_S} {k c : Nat}
theorem nam_x (hk : k < 5) (hc : 97 ≤ c ∧ c ≤ 122) : f_J0_indexOf_0f7a4 (nq k) (((nI c).toUInt32 % 65536).toInt32) X = some (nmi k c) := by
  obtain ⟨d, rfl⟩ : ∃ d, c = 97 + d := ⟨c - 97, by omega⟩
  have hd : d < 26 := by omega
  clear hc
  rcases (show k = 0 ∨ k = 1 ∨ k = 2 ∨ k = 3 ∨ k = 4 by omega) with h | h | h | h | h <;> subst h <;> clear hk <;>
  rcases (show d = 0 ∨ d = 1 ∨ d = 2 ∨ d = 3 ∨ d = 4 ∨ d = 5 ∨ d = 6 ∨ d = 7 ∨ d = 8 ∨ d = 9 ∨ d = 10 ∨ d = 11 ∨ d = 12 ∨ d = 13 ∨ d = 14 ∨ d = 15 ∨ d = 16 ∨ d = 17 ∨ d = 18 ∨ d = 19 ∨ d = 20 ∨ d = 21 ∨ d = 22 ∨ d = 23 ∨ d = 24 ∨ d = 25 by omega) with h | h | h | h | h | h | h | h | h | h | h | h | h | h | h | h | h | h | h | h | h | h | h | h | h | h <;> subst h <;> rfl
theorem nam_m (hk : k < 5) (hc : 97 ≤ c ∧ c ≤ 122) : f_X9_isName (nI k) (nI c) M = some (decide (c ∈ nmL k)) := by
  obtain ⟨d, rfl⟩ : ∃ d, c = 97 + d := ⟨c - 97, by omega⟩
  have hd : d < 26 := by omega
  clear hc
  rcases (show k = 0 ∨ k = 1 ∨ k = 2 ∨ k = 3 ∨ k = 4 by omega) with h | h | h | h | h <;> subst h <;> clear hk <;>
  rcases (show d = 0 ∨ d = 1 ∨ d = 2 ∨ d = 3 ∨ d = 4 ∨ d = 5 ∨ d = 6 ∨ d = 7 ∨ d = 8 ∨ d = 9 ∨ d = 10 ∨ d = 11 ∨ d = 12 ∨ d = 13 ∨ d = 14 ∨ d = 15 ∨ d = 16 ∨ d = 17 ∨ d = 18 ∨ d = 19 ∨ d = 20 ∨ d = 21 ∨ d = 22 ∨ d = 23 ∨ d = 24 ∨ d = 25 by omega) with h | h | h | h | h | h | h | h | h | h | h | h | h | h | h | h | h | h | h | h | h | h | h | h | h | h <;> subst h <;> rfl
theorem nam_i (hk : k < 5) (hc : c ∈ nmL k) : (nmL k)[(nmL k).idxOf c]? = some c ∧ (nmL k).idxOf c < 3 := by
  have h : ∀ k, k < 5 → ∀ c ∈ nmL k, (nmL k)[(nmL k).idxOf c]? = some c ∧ (nmL k).idxOf c < 3 := by decide
  exact h k hk c hc
theorem x_names (hk : k < 5) : f_X6_namesOf (nI k) X = some (nq k) := by
  rcases (show k = 0 ∨ k = 1 ∨ k = 2 ∨ k = 3 ∨ k = 4 by omega) with h | h | h | h | h <;> subst h <;> rfl
end NAM
