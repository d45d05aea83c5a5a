/-! THE LAW'S LOOP: its worlds; what a simulation of the two programs is (written by wip/whole/law.py) -/
def xshn : Nat → Nat → Option um_Sh
  | 0 => xsh
  | n + 1 => um_sq (xshn n) (300 + 3 * n)
theorem xsh_hi {k : Nat} (h : 172 ≤ k) : xsh k = none := by
  unfold xsh
  have h1 : xT k = false := by
    rw [Bool.eq_false_iff]
    intro z
    simp only [xT, Bool.or_eq_true, Bool.and_eq_true, Nat.beq_eq, Nat.ble_eq] at z
    omega
  have h2 : xT (k - 100) = false := by
    rw [Bool.eq_false_iff]
    intro z
    simp only [xT, Bool.or_eq_true, Bool.and_eq_true, Nat.beq_eq, Nat.ble_eq] at z
    omega
  rw [h1, h2, Bool.and_false]
  simp only [Bool.false_eq_true, if_false]
  split <;> first | omega | rfl
theorem xshn_hi : ∀ (n k : Nat), 300 + 3 * n ≤ k → xshn n k = none
  | 0, k, h => xsh_hi (by omega)
  | n + 1, k, h => by
    show um_sq (xshn n) (300 + 3 * n) k = none
    rw [um_sq_ne (by omega)]
    exact xshn_hi n k (by omega)
theorem xshn_fr (n : Nat) : um_fr (xshn n) (300 + 3 * n) := ⟨xshn_hi n _ (by omega), xshn_hi n _ (by omega), xshn_hi n _ (by omega)⟩
theorem xshn_200 : ∀ n : Nat, xshn n 200 = none
  | 0 => xsh_hi (by omega)
  | n + 1 => by
    show um_sq (xshn n) (300 + 3 * n) 200 = none
    rw [um_sq_ne (by omega)]
    exact xshn_200 n
theorem xshn_X : ∀ n : Nat, um_X (xshn n)
  | 0 => fun _ _ h => h
  | n + 1 => um_sq_X (xshn_X n) (xshn_fr n)
def xIds : List Nat := (List.range 172).filter (fun k => (xsh k).isSome)
theorem xsh_ids {k : Nat} {t : um_Sh} (h : xsh k = some t) : k ∈ xIds := by
  refine List.mem_filter.mpr ⟨List.mem_range.mpr (Nat.lt_of_not_le (fun z => ?_)), by rw [h]; rfl⟩
  rw [xsh_hi z] at h
  cases h
theorem xsh_cl : um_cl xsh := fun k ci fl hk q hq => by
  have h1 : um_cl (shP xIds) := shP_cl (by decide +kernel)
  obtain ⟨t, ht⟩ := h1 k ci fl (shP_of (xsh_ids hk) hk) q hq
  exact ⟨t, (shP_in ht).2⟩
theorem xshn_cl : ∀ n : Nat, um_cl (xshn n)
  | 0 => xsh_cl
  | n + 1 => um_sq_cl (xshn_cl n) (xshn_fr n)
/-- the two worlds -/
def lw_I (Z : um_Z) (n : Nat) (αx αm : Nat → Nat) (σx σm : um_S) (H : Heap) : Prop := um_W Z (xshn n) αx σx H ∧ um_W Z msh αm σm H ∧ ∀ i j u v, xshn n i = some u → msh j = some v → αx i ≠ αm j
theorem lw_I.sx {Z : um_Z} {n : Nat} {αx αm : Nat → Nat} {σx σm σx' : um_S} {H H1 : Heap} (h : lw_I Z n αx αm σx σm H) (hW : um_W Z (xshn n) αx σx' H1) (o : ∀ q, q < H.size → ¬ um_D (xshn n) αx q → H1[q]? = H[q]?) : lw_I Z n αx αm σx' σm H1 :=
  ⟨hW, h.2.1.kept (fun i u hi => o _ (h.2.1.lt hi) (fun ⟨j, v, hj, e⟩ => h.2.2 j i v u hj hi e.symm)), h.2.2⟩
theorem lw_I.sm {Z : um_Z} {n : Nat} {αx αm : Nat → Nat} {σx σm σm' : um_S} {H H1 : Heap} (h : lw_I Z n αx αm σx σm H) (hW : um_W Z msh αm σm' H1) (o : ∀ q, q < H.size → ¬ um_D msh αm q → H1[q]? = H[q]?) : lw_I Z n αx αm σx σm' H1 :=
  ⟨h.1.kept (fun i u hi => o _ (h.1.lt hi) (fun ⟨j, v, hj, e⟩ => h.2.2 i j u v hi hj e)), hW, h.2.2⟩
/-- the x world may grow -/
theorem lw_I.gx {Z : um_Z} {n n' : Nat} {αx αx' αm : Nat → Nat} {σx σm σx' : um_S} {H H1 : Heap} (h : lw_I Z n αx αm σx σm H) (hW : um_W Z (xshn n') αx' σx' H1) (o : ∀ q, q < H.size → ¬ um_DA (xshn n) αx H.size q → H1[q]? = H[q]?) (g1 : ∀ i u, xshn n i = some u → αx' i = αx i) (g2 : ∀ i u, xshn n' i = some u → xshn n i = none → H.size ≤ αx' i) : lw_I Z n' αx' αm σx' σm H1 := by
  have hn : ∀ j v, msh j = some v → ¬ um_DA (xshn n) αx H.size (αm j) := fun j v hj z => by
    rcases z with ⟨i, u, hi, e⟩ | z
    · exact h.2.2 i j u v hi hj e.symm
    · have := h.2.1.lt hj
      omega
  refine ⟨hW, h.2.1.kept (fun i u hi => o _ (h.2.1.lt hi) (hn i u hi)), fun i j u v hi hj e => ?_⟩
  cases hs : xshn n i with
  | some t =>
    rw [g1 i t hs] at e
    exact h.2.2 i j t v hs hj e
  | none =>
    have h1 := g2 i u hi hs
    have h2 := h.2.1.lt hj
    omega
/-! A SIMULATION: the relation R (by the number of Texts) holds of the two stores; every call of both answers alike, and keeps it -/
def sim_ship (R : Nat → um_S → um_S → Prop) : Prop := ∀ (n : Nat) (σx σm : um_S) (a1 a2 : Int32), R n σx σm → ∃ (r : Int32) (σx' σm' : um_S), f_X8_ship a1 a2 σx = some (r, σx') ∧ f_X9_ship a1 a2 σm = some (r, σm') ∧ R n σx' σm'
def sim_man (R : Nat → um_S → um_S → Prop) : Prop := ∀ (n : Nat) (σx σm : um_S) (a1 a2 a3 a4 a5 : Int32), R n σx σm → ∃ (r : Int32) (σx' σm' : um_S), f_X8_man a1 a2 a3 a4 a5 σx = some (r, σx') ∧ f_X9_man a1 a2 a3 a4 a5 σm = some (r, σm') ∧ R n σx' σm'
def sim_term (R : Nat → um_S → um_S → Prop) : Prop := ∀ (n : Nat) (σx σm : um_S) (a1 a2 : Int32), R n σx σm → ∃ (r : Int32) (σx' σm' : um_S), f_X8_term a1 a2 σx = some (r, σx') ∧ f_X9_term a1 a2 σm = some (r, σm') ∧ R n σx' σm'
def sim_told (R : Nat → um_S → um_S → Prop) : Prop := ∀ (n : Nat) (σx σm : um_S) (a1 a2 : Int32), R n σx σm → ∃ (r : Int32), f_X8_told a1 a2 σx = some r ∧ f_X9_told a1 a2 σm = some r ∧ R n σx σm
def sim_as (R : Nat → um_S → um_S → Prop) : Prop := ∀ (n : Nat) (σx σm : um_S) (a1 a2 : Int32), R n σx σm → ∃ (r : Int32), f_X8_as a1 a2 σx = some r ∧ f_X9_as a1 a2 σm = some r ∧ R n σx σm
def sim_dies (R : Nat → um_S → um_S → Prop) : Prop := ∀ (n : Nat) (σx σm : um_S) (a1 : Int32), R n σx σm → ∃ (r : Int32) (σx' σm' : um_S), f_X8_dies a1 σx = some (r, σx') ∧ f_X9_dies a1 σm = some (r, σm') ∧ R n σx' σm'
def sim_master (R : Nat → um_S → um_S → Prop) : Prop := ∀ (n : Nat) (σx σm : um_S) (a1 a2 a3 a4 : Int32), R n σx σm → ∃ (r : Int32) (σx' σm' : um_S), f_X8_master a1 a2 a3 a4 σx = some (r, σx') ∧ f_X9_master a1 a2 a3 a4 σm = some (r, σm') ∧ R n σx' σm'
def sim_has (R : Nat → um_S → um_S → Prop) : Prop := ∀ (n : Nat) (σx σm : um_S) (a1 a2 : Int32), R n σx σm → ∃ (r : Int32), f_X8_has a1 a2 σx = some r ∧ f_X9_has a1 a2 σm = some r ∧ R n σx σm
def sim_store (R : Nat → um_S → um_S → Prop) : Prop := ∀ (n : Nat) (σx σm : um_S) (a1 a2 : Int32), R n σx σm → ∃ (r : Int32) (σx' σm' : um_S), f_X8_store a1 a2 σx = some (r, σx') ∧ f_X9_store a1 a2 σm = some (r, σm') ∧ R n σx' σm'
def sim_hungry (R : Nat → um_S → um_S → Prop) : Prop := ∀ (n : Nat) (σx σm : um_S) (a1 : Int32), R n σx σm → ∃ (r : Int32), f_X8_hungry a1 σx = some r ∧ f_X9_hungry a1 σm = some r ∧ R n σx σm
def sim_feed (R : Nat → um_S → um_S → Prop) : Prop := ∀ (n : Nat) (σx σm : um_S) (a1 a2 a3 : Int32), R n σx σm → ∃ (r : Int32) (σx' σm' : um_S), f_X8_feed a1 a2 a3 σx = some (r, σx') ∧ f_X9_feed a1 a2 a3 σm = some (r, σm') ∧ R n σx' σm'
def sim_trim (R : Nat → um_S → um_S → Prop) : Prop := ∀ (n : Nat) (σx σm : um_S) (a1 : Int32), R n σx σm → ∃ (r : Int32) (σx' σm' : um_S), f_X8_trim a1 σx = some (r, σx') ∧ f_X9_trim a1 σm = some (r, σm') ∧ R n σx' σm'
def sim_text (R : Nat → um_S → um_S → Prop) : Prop := ∀ (n : Nat) (σx σm : um_S) (a1 : Int32), R n σx σm → ∃ (r : Int32) (σx' σm' : um_S) (b : Bool), f_X8_text (300 + 3 * n) a1 σx = some (r, σx', b) ∧ f_X9_text a1 σm = some (r, σm') ∧ R (if b then n + 1 else n) σx' σm'
def sim_of (R : Nat → um_S → um_S → Prop) : Prop := ∀ (n : Nat) (σx σm : um_S) (a1 a2 : Int32), R n σx σm → ∃ (r : Int32), f_X8_of a1 a2 σx = some r ∧ f_X9_of a1 a2 σm = some r ∧ R n σx σm
def sim_why (R : Nat → um_S → um_S → Prop) : Prop := ∀ (n : Nat) (σx σm : um_S) (a1 : Int32), R n σx σm → ∃ (r : Int32), f_X8_why a1 σx = some r ∧ f_X9_why a1 σm = some r ∧ R n σx σm
def sim_rules (R : Nat → um_S → um_S → Prop) : Prop := ∀ (n : Nat) (σx σm : um_S) (a1 a2 a3 a4 : Int32), R n σx σm → ∃ (r : Int32) (σx' σm' : um_S), f_X8_rules a1 a2 a3 a4 σx = some (r, σx') ∧ f_X9_rules a1 a2 a3 a4 σm = some (r, σm') ∧ R n σx' σm'
def sim_mark (R : Nat → um_S → um_S → Prop) : Prop := ∀ (n : Nat) (σx σm : um_S) (a1 a2 : Int32), R n σx σm → ∃ (r : Int32) (σx' σm' : um_S), f_X8_mark a1 a2 σx = some (r, σx') ∧ f_X9_mark a1 a2 σm = some (r, σm') ∧ R n σx' σm'
def sim_voids (R : Nat → um_S → um_S → Prop) : Prop := ∀ (n : Nat) (σx σm : um_S) (a1 a2 : Int32), R n σx σm → ∃ (r : Int32) (σx' σm' : um_S), f_X8_voids a1 a2 σx = some (r, σx') ∧ f_X9_voids a1 a2 σm = some (r, σm') ∧ R n σx' σm'
def sim_markTold (R : Nat → um_S → um_S → Prop) : Prop := ∀ (n : Nat) (σx σm : um_S) (a1 a2 : Int32), R n σx σm → ∃ (r : Int32), f_X8_markTold a1 a2 σx = some r ∧ f_X9_markTold a1 a2 σm = some r ∧ R n σx σm
def sim_due (R : Nat → um_S → um_S → Prop) : Prop := ∀ (n : Nat) (σx σm : um_S) (a1 : Int32), R n σx σm → ∃ (r : Int32) (σx' σm' : um_S), f_X8_due a1 σx = some (r, σx') ∧ f_X9_due a1 σm = some (r, σm') ∧ R n σx' σm'
def sim_moves (R : Nat → um_S → um_S → Prop) : Prop := ∀ (n : Nat) (σx σm : um_S) (a1 : Int32), R n σx σm → ∃ (r : Int32) (σx' σm' : um_S), f_X8_moves a1 σx = some (r, σx') ∧ f_X9_moves a1 σm = some (r, σm') ∧ R n σx' σm'
def sim_assign (R : Nat → um_S → um_S → Prop) : Prop := ∀ (n : Nat) (σx σm : um_S) (a1 a2 : Int32), R n σx σm → ∃ (r : Int32) (σx' σm' : um_S), f_X8_assign a1 a2 σx = some (r, σx') ∧ f_X9_assign a1 a2 σm = some (r, σm') ∧ R n σx' σm'
def sim_back (R : Nat → um_S → um_S → Prop) : Prop := ∀ (n : Nat) (σx σm : um_S) (a1 : Int32), R n σx σm → ∃ (r : Int32) (σx' σm' : um_S), f_X8_back a1 σx = some (r, σx') ∧ f_X9_back a1 σm = some (r, σm') ∧ R n σx' σm'
def sim_ticket (R : Nat → um_S → um_S → Prop) : Prop := ∀ (n : Nat) (σx σm : um_S) (a1 : Int32), R n σx σm → ∃ (r : Int32) (σx' σm' : um_S), f_X8_ticket a1 σx = some (r, σx') ∧ f_X9_ticket a1 σm = some (r, σm') ∧ R n σx' σm'
def sim_pardon (R : Nat → um_S → um_S → Prop) : Prop := ∀ (n : Nat) (σx σm : um_S) (a1 a2 : Int32), R n σx σm → ∃ (r : Int32) (σx' σm' : um_S), f_X8_pardon a1 a2 σx = some (r, σx') ∧ f_X9_pardon a1 a2 σm = some (r, σm') ∧ R n σx' σm'
def sim_runs (R : Nat → um_S → um_S → Prop) : Prop := ∀ (n : Nat) (σx σm : um_S) (a1 : Int32), R n σx σm → ∃ (r : Int32) (σx' σm' : um_S), f_X8_runs a1 σx = some (r, σx') ∧ f_X9_runs a1 σm = some (r, σm') ∧ R n σx' σm'
def sim_caught (R : Nat → um_S → um_S → Prop) : Prop := ∀ (n : Nat) (σx σm : um_S) (a1 : Int32), R n σx σm → ∃ (r : Int32) (σx' σm' : um_S), f_X8_caught a1 σx = some (r, σx') ∧ f_X9_caught a1 σm = some (r, σm') ∧ R n σx' σm'
def sim_seed (R : Nat → um_S → um_S → Prop) : Prop := ∀ (n : Nat) (σx σm : um_S) (a1 : Int32), R n σx σm → ∃ (r : Int32) (σx' σm' : um_S), f_X8_seed a1 σx = some (r, σx') ∧ f_X9_seed a1 σm = some (r, σm') ∧ R n σx' σm'
def sim_run (R : Nat → um_S → um_S → Prop) : Prop := ∀ (n : Nat) (σx σm : um_S) (a1 : Int32), R n σx σm → ∃ (r : Int32) (σx' σm' : um_S), f_X8_run a1 σx = some (r, σx') ∧ f_X9_run a1 σm = some (r, σm') ∧ R n σx' σm'
def sim_path (R : Nat → um_S → um_S → Prop) : Prop := ∀ (n : Nat) (σx σm : um_S) (a1 a2 a3 : Int32), R n σx σm → ∃ (r : Int32) (σx' σm' : um_S), f_X8_path a1 a2 a3 σx = some (r, σx') ∧ f_X9_path a1 a2 a3 σm = some (r, σm') ∧ R n σx' σm'
def sim_reach (R : Nat → um_S → um_S → Prop) : Prop := ∀ (n : Nat) (σx σm : um_S) (a1 a2 : Int32), R n σx σm → ∃ (r : Int32) (σx' σm' : um_S), f_X8_reach a1 a2 σx = some (r, σx') ∧ f_X9_reach a1 a2 σm = some (r, σm') ∧ R n σx' σm'
def sim_look (R : Nat → um_S → um_S → Prop) : Prop := ∀ (n : Nat) (σx σm : um_S) (a1 a2 a3 a4 : Int32), R n σx σm → ∃ (r : Int32) (σx' σm' : um_S), f_X8_look a1 a2 a3 a4 σx = some (r, σx') ∧ f_X9_look a1 a2 a3 a4 σm = some (r, σm') ∧ R n σx' σm'
def sim_may (R : Nat → um_S → um_S → Prop) : Prop := ∀ (n : Nat) (σx σm : um_S) (a1 a2 : Int32), R n σx σm → ∃ (r : Int32), f_X8_may a1 a2 σx = some r ∧ f_X9_may a1 a2 σm = some r ∧ R n σx σm
def sim_same (R : Nat → um_S → um_S → Prop) : Prop := ∀ (n : Nat) (σx σm : um_S) (a1 a2 : Int32), R n σx σm → ∃ (r : Int32), f_X8_same a1 a2 σx = some r ∧ f_X9_same a1 a2 σm = some r ∧ R n σx σm
def sim_goes (R : Nat → um_S → um_S → Prop) : Prop := ∀ (n : Nat) (σx σm : um_S) (a1 : Int32), R n σx σm → ∃ (r : Int32) (σx' σm' : um_S), f_X8_goes a1 σx = some (r, σx') ∧ f_X9_goes a1 σm = some (r, σm') ∧ R n σx' σm'
def sim_most (R : Nat → um_S → um_S → Prop) : Prop := ∀ (n : Nat) (σx σm : um_S), R n σx σm → ∃ (r : Int32) (σx' σm' : um_S), f_X8_most σx = some (r, σx') ∧ f_X9_most σm = some (r, σm') ∧ R n σx' σm'
def sim_sentence (R : Nat → um_S → um_S → Prop) : Prop := ∀ (n : Nat) (σx σm : um_S) (a1 a2 a3 : Int32), R n σx σm → ∃ (r : Int32) (σx' σm' : um_S), f_X8_sentence a1 a2 a3 σx = some (r, σx') ∧ f_X9_sentence a1 a2 a3 σm = some (r, σm') ∧ R n σx' σm'
def sim_mean (R : Nat → um_S → um_S → Prop) : Prop := ∀ (n : Nat) (σx σm : um_S) (a1 a2 : Int32), R n σx σm → ∃ (r : Int32), f_X8_mean a1 a2 σx = some r ∧ f_X9_mean a1 a2 σm = some r ∧ R n σx σm
def sim_harsh (R : Nat → um_S → um_S → Prop) : Prop := ∀ (n : Nat) (σx σm : um_S) (a1 : Int32), R n σx σm → ∃ (r : Int32), f_X8_harsh a1 σx = some r ∧ f_X9_harsh a1 σm = some r ∧ R n σx σm
def sim_letter (R : Nat → um_S → um_S → Prop) : Prop := ∀ (n : Nat) (σx σm : um_S) (a1 a2 a3 : Int32), R n σx σm → ∃ (r : Int32) (σx' σm' : um_S), f_X8_letter a1 a2 a3 σx = some (r, σx') ∧ f_X9_letter a1 a2 a3 σm = some (r, σm') ∧ R n σx' σm'
def sim_letterTold (R : Nat → um_S → um_S → Prop) : Prop := ∀ (n : Nat) (σx σm : um_S) (a1 a2 : Int32), R n σx σm → ∃ (r : Int32), f_X8_letterTold a1 a2 σx = some r ∧ f_X9_letterTold a1 a2 σm = some r ∧ R n σx σm
def sim_party (R : Nat → um_S → um_S → Prop) : Prop := ∀ (n : Nat) (σx σm : um_S) (a1 a2 a3 : Int32), R n σx σm → ∃ (r : Int32) (σx' σm' : um_S), f_X8_party a1 a2 a3 σx = some (r, σx') ∧ f_X9_party a1 a2 a3 σm = some (r, σm') ∧ R n σx' σm'
def sim_carries (R : Nat → um_S → um_S → Prop) : Prop := ∀ (n : Nat) (σx σm : um_S) (a1 : Int32), R n σx σm → ∃ (r : Int32), f_X8_carries a1 σx = some r ∧ f_X9_carries a1 σm = some r ∧ R n σx σm
def sim_way (R : Nat → um_S → um_S → Prop) : Prop := ∀ (n : Nat) (σx σm : um_S) (a1 a2 a3 a4 : Int32), R n σx σm → ∃ (r : Int32) (σx' σm' : um_S), f_X8_way a1 a2 a3 a4 σx = some (r, σx') ∧ f_X9_way a1 a2 a3 a4 σm = some (r, σm') ∧ R n σx' σm'
def sim_plan (R : Nat → um_S → um_S → Prop) : Prop := ∀ (n : Nat) (σx σm : um_S) (a1 a2 a3 : Int32), R n σx σm → ∃ (r : Int32), f_X8_plan a1 a2 a3 σx = some r ∧ f_X9_plan a1 a2 a3 σm = some r ∧ R n σx σm
def sim_muster (R : Nat → um_S → um_S → Prop) : Prop := ∀ (n : Nat) (σx σm : um_S) (a1 a2 a3 : Int32), R n σx σm → ∃ (r : Int32) (σx' σm' : um_S), f_X8_muster a1 a2 a3 σx = some (r, σx') ∧ f_X9_muster a1 a2 a3 σm = some (r, σm') ∧ R n σx' σm'
def sim_put (R : Nat → um_S → um_S → Prop) : Prop := ∀ (n : Nat) (σx σm : um_S) (a1 a2 a3 : Int32), R n σx σm → ∃ (r : Int32) (σx' σm' : um_S), f_X8_put a1 a2 a3 σx = some (r, σx') ∧ f_X9_put a1 a2 a3 σm = some (r, σm') ∧ R n σx' σm'
def sim_read (R : Nat → um_S → um_S → Prop) : Prop := ∀ (n : Nat) (σx σm : um_S) (a1 a2 : Int32), R n σx σm → ∃ (r : Int32), f_X8_read a1 a2 σx = some r ∧ f_X9_read a1 a2 σm = some r ∧ R n σx σm
def sim_copy (R : Nat → um_S → um_S → Prop) : Prop := ∀ (n : Nat) (σx σm : um_S) (a1 a2 a3 a4 a5 : Int32), R n σx σm → ∃ (r : Int32) (σx' σm' : um_S), f_X8_copy a1 a2 a3 a4 a5 σx = some (r, σx') ∧ f_X9_copy a1 a2 a3 a4 a5 σm = some (r, σm') ∧ R n σx' σm'
def sim_tell (R : Nat → um_S → um_S → Prop) : Prop := ∀ (n : Nat) (σx σm : um_S) (a1 : Int32), R n σx σm → ∃ (r : Int32) (σx' σm' : um_S), f_X8_tell a1 σx = some (r, σx') ∧ f_X9_tell a1 σm = some (r, σm') ∧ R n σx' σm'
def sim_check (R : Nat → um_S → um_S → Prop) : Prop := ∀ (n : Nat) (σx σm : um_S) (a1 : Int32), R n σx σm → ∃ (r : Int32) (σx' σm' : um_S), f_X8_check a1 σx = some (r, σx') ∧ f_X9_check a1 σm = some (r, σm') ∧ R n σx' σm'
def sim_keep (R : Nat → um_S → um_S → Prop) : Prop := ∀ (n : Nat) (σx σm : um_S), R n σx σm → ∃ (r : Int32) (σx' σm' : um_S), f_X8_keep σx = some (r, σx') ∧ f_X9_keep σm = some (r, σm') ∧ R n σx' σm'
def sim_again (R : Nat → um_S → um_S → Prop) : Prop := ∀ (n : Nat) (σx σm : um_S), R n σx σm → ∃ (r : Int32) (σx' σm' : um_S), f_X8_again σx = some (r, σx') ∧ f_X9_again σm = some (r, σm') ∧ R n σx' σm'
def sim_count (R : Nat → um_S → um_S → Prop) : Prop := ∀ (n : Nat) (σx σm : um_S) (a1 : Int32), R n σx σm → ∃ (r : Int32), f_X8_count a1 σx = some r ∧ f_X9_count a1 σm = some r ∧ R n σx σm
def um_Sim (R : Nat → um_S → um_S → Prop) : Prop := sim_ship R ∧ sim_man R ∧ sim_term R ∧ sim_told R ∧ sim_as R ∧ sim_dies R ∧ sim_master R ∧ sim_has R ∧ sim_store R ∧ sim_hungry R ∧ sim_feed R ∧ sim_trim R ∧ sim_text R ∧ sim_of R ∧ sim_why R ∧ sim_rules R ∧ sim_mark R ∧ sim_voids R ∧ sim_markTold R ∧ sim_due R ∧ sim_moves R ∧ sim_assign R ∧ sim_back R ∧ sim_ticket R ∧ sim_pardon R ∧ sim_runs R ∧ sim_caught R ∧ sim_seed R ∧ sim_run R ∧ sim_path R ∧ sim_reach R ∧ sim_look R ∧ sim_may R ∧ sim_same R ∧ sim_goes R ∧ sim_most R ∧ sim_sentence R ∧ sim_mean R ∧ sim_harsh R ∧ sim_letter R ∧ sim_letterTold R ∧ sim_party R ∧ sim_carries R ∧ sim_way R ∧ sim_plan R ∧ sim_muster R ∧ sim_put R ∧ sim_read R ∧ sim_copy R ∧ sim_tell R ∧ sim_check R ∧ sim_keep R ∧ sim_again R ∧ sim_count R
theorem kV_X8_ship : um_kV yX8_ship RX8 cX8_ship 3 (some FieldType.int) 2 := ⟨qI_X8_ship, qS_X8_ship, qN_X8, qK_X8_ship, by decide +kernel⟩
theorem kV_X8_man : um_kV yX8_man RX8 cX8_man 7 (some FieldType.int) 5 := ⟨qI_X8_man, qS_X8_man, qN_X8, qK_X8_man, by decide +kernel⟩
theorem kV_X8_term : um_kV yX8_term RX8 cX8_term 3 (some FieldType.int) 2 := ⟨qI_X8_term, qS_X8_term, qN_X8, qK_X8_term, by decide +kernel⟩
theorem kV_X8_told : um_kV yX8_told RX8 cX8_told 3 (some FieldType.int) 2 := ⟨qI_X8_told, qS_X8_told, qN_X8, qK_X8_told, by decide +kernel⟩
theorem kV_X8_as : um_kV yX8_as RX8 cX8_as 3 (some FieldType.int) 2 := ⟨qI_X8_as, qS_X8_as, qN_X8, qK_X8_as, by decide +kernel⟩
theorem kV_X8_dies : um_kV yX8_dies RX8 cX8_dies 2 (some FieldType.int) 1 := ⟨qI_X8_dies, qS_X8_dies, qN_X8, qK_X8_dies, by decide +kernel⟩
theorem kV_X8_master : um_kV yX8_master RX8 cX8_master 5 (some FieldType.int) 4 := ⟨qI_X8_master, qS_X8_master, qN_X8, qK_X8_master, by decide +kernel⟩
theorem kV_X8_has : um_kV yX8_has RX8 cX8_has 3 (some FieldType.int) 2 := ⟨qI_X8_has, qS_X8_has, qN_X8, qK_X8_has, by decide +kernel⟩
theorem kV_X8_store : um_kV yX8_store RX8 cX8_store 3 (some FieldType.int) 2 := ⟨qI_X8_store, qS_X8_store, qN_X8, qK_X8_store, by decide +kernel⟩
theorem kV_X8_hungry : um_kV yX8_hungry RX8 cX8_hungry 2 (some FieldType.int) 1 := ⟨qI_X8_hungry, qS_X8_hungry, qN_X8, qK_X8_hungry, by decide +kernel⟩
theorem kV_X8_feed : um_kV yX8_feed RX8 cX8_feed 4 (some FieldType.int) 3 := ⟨qI_X8_feed, qS_X8_feed, qN_X8, qK_X8_feed, by decide +kernel⟩
theorem kV_X8_trim : um_kV yX8_trim RX8 cX8_trim 2 (some FieldType.int) 1 := ⟨qI_X8_trim, qS_X8_trim, qN_X8, qK_X8_trim, by decide +kernel⟩
theorem kV_X8_text : um_kV yX8_text RX8 cX8_text 3 (some FieldType.int) 1 := ⟨qI_X8_text, qS_X8_text, qN_X8, qK_X8_text, by decide +kernel⟩
theorem kV_X8_of : um_kV yX8_of RX8 cX8_of 4 (some FieldType.int) 2 := ⟨qI_X8_of, qS_X8_of, qN_X8, qK_X8_of, by decide +kernel⟩
theorem kV_X8_why : um_kV yX8_why RX8 cX8_why 3 (some FieldType.int) 1 := ⟨qI_X8_why, qS_X8_why, qN_X8, qK_X8_why, by decide +kernel⟩
theorem kV_X8_rules : um_kV yX8_rules RX8 cX8_rules 5 (some FieldType.int) 4 := ⟨qI_X8_rules, qS_X8_rules, qN_X8, qK_X8_rules, by decide +kernel⟩
theorem kV_X8_mark : um_kV yX8_mark RX8 cX8_mark 3 (some FieldType.int) 2 := ⟨qI_X8_mark, qS_X8_mark, qN_X8, qK_X8_mark, by decide +kernel⟩
theorem kV_X8_voids : um_kV yX8_voids RX8 cX8_voids 3 (some FieldType.int) 2 := ⟨qI_X8_voids, qS_X8_voids, qN_X8, qK_X8_voids, by decide +kernel⟩
theorem kV_X8_markTold : um_kV yX8_markTold RX8 cX8_markTold 3 (some FieldType.int) 2 := ⟨qI_X8_markTold, qS_X8_markTold, qN_X8, qK_X8_markTold, by decide +kernel⟩
theorem kV_X8_due : um_kV yX8_due RX8 cX8_due 2 (some FieldType.int) 1 := ⟨qI_X8_due, qS_X8_due, qN_X8, qK_X8_due, by decide +kernel⟩
theorem kV_X8_moves : um_kV yX8_moves RX8 cX8_moves 6 (some FieldType.int) 1 := ⟨qI_X8_moves, qS_X8_moves, qN_X8, qK_X8_moves, by decide +kernel⟩
theorem kV_X8_assign : um_kV yX8_assign RX8 cX8_assign 3 (some FieldType.int) 2 := ⟨qI_X8_assign, qS_X8_assign, qN_X8, qK_X8_assign, by decide +kernel⟩
theorem kV_X8_back : um_kV yX8_back RX8 cX8_back 3 (some FieldType.int) 1 := ⟨qI_X8_back, qS_X8_back, qN_X8, qK_X8_back, by decide +kernel⟩
theorem kV_X8_ticket : um_kV yX8_ticket RX8 cX8_ticket 2 (some FieldType.int) 1 := ⟨qI_X8_ticket, qS_X8_ticket, qN_X8, qK_X8_ticket, by decide +kernel⟩
theorem kV_X8_pardon : um_kV yX8_pardon RX8 cX8_pardon 3 (some FieldType.int) 2 := ⟨qI_X8_pardon, qS_X8_pardon, qN_X8, qK_X8_pardon, by decide +kernel⟩
theorem kV_X8_runs : um_kV yX8_runs RX8 cX8_runs 2 (some FieldType.int) 1 := ⟨qI_X8_runs, qS_X8_runs, qN_X8, qK_X8_runs, by decide +kernel⟩
theorem kV_X8_caught : um_kV yX8_caught RX8 cX8_caught 3 (some FieldType.int) 1 := ⟨qI_X8_caught, qS_X8_caught, qN_X8, qK_X8_caught, by decide +kernel⟩
theorem kV_X8_seed : um_kV yX8_seed RX8 cX8_seed 3 (some FieldType.int) 1 := ⟨qI_X8_seed, qS_X8_seed, qN_X8, qK_X8_seed, by decide +kernel⟩
theorem kV_X8_run : um_kV yX8_run RX8 cX8_run 3 (some FieldType.int) 1 := ⟨qI_X8_run, qS_X8_run, qN_X8, qK_X8_run, by decide +kernel⟩
theorem kV_X8_path : um_kV yX8_path RX8 cX8_path 4 (some FieldType.int) 3 := ⟨qI_X8_path, qS_X8_path, qN_X8, qK_X8_path, by decide +kernel⟩
theorem kV_X8_reach : um_kV yX8_reach RX8 cX8_reach 3 (some FieldType.int) 2 := ⟨qI_X8_reach, qS_X8_reach, qN_X8, qK_X8_reach, by decide +kernel⟩
theorem kV_X8_look : um_kV yX8_look RX8 cX8_look 5 (some FieldType.int) 4 := ⟨qI_X8_look, qS_X8_look, qN_X8, qK_X8_look, by decide +kernel⟩
theorem kV_X8_may : um_kV yX8_may RX8 cX8_may 4 (some FieldType.int) 2 := ⟨qI_X8_may, qS_X8_may, qN_X8, qK_X8_may, by decide +kernel⟩
theorem kV_X8_same : um_kV yX8_same RX8 cX8_same 5 (some FieldType.int) 2 := ⟨qI_X8_same, qS_X8_same, qN_X8, qK_X8_same, by decide +kernel⟩
theorem kV_X8_goes : um_kV yX8_goes RX8 cX8_goes 2 (some FieldType.int) 1 := ⟨qI_X8_goes, qS_X8_goes, qN_X8, qK_X8_goes, by decide +kernel⟩
theorem kV_X8_most : um_kV yX8_most RX8 cX8_most 1 (some FieldType.int) 0 := ⟨qI_X8_most, qS_X8_most, qN_X8, qK_X8_most, by decide +kernel⟩
theorem kV_X8_sentence : um_kV yX8_sentence RX8 cX8_sentence 4 (some FieldType.int) 3 := ⟨qI_X8_sentence, qS_X8_sentence, qN_X8, qK_X8_sentence, by decide +kernel⟩
theorem kV_X8_mean : um_kV yX8_mean RX8 cX8_mean 3 (some FieldType.int) 2 := ⟨qI_X8_mean, qS_X8_mean, qN_X8, qK_X8_mean, by decide +kernel⟩
theorem kV_X8_harsh : um_kV yX8_harsh RX8 cX8_harsh 2 (some FieldType.int) 1 := ⟨qI_X8_harsh, qS_X8_harsh, qN_X8, qK_X8_harsh, by decide +kernel⟩
theorem kV_X8_letter : um_kV yX8_letter RX8 cX8_letter 4 (some FieldType.int) 3 := ⟨qI_X8_letter, qS_X8_letter, qN_X8, qK_X8_letter, by decide +kernel⟩
theorem kV_X8_letterTold : um_kV yX8_letterTold RX8 cX8_letterTold 3 (some FieldType.int) 2 := ⟨qI_X8_letterTold, qS_X8_letterTold, qN_X8, qK_X8_letterTold, by decide +kernel⟩
theorem kV_X8_party : um_kV yX8_party RX8 cX8_party 4 (some FieldType.int) 3 := ⟨qI_X8_party, qS_X8_party, qN_X8, qK_X8_party, by decide +kernel⟩
theorem kV_X8_carries : um_kV yX8_carries RX8 cX8_carries 2 (some FieldType.int) 1 := ⟨qI_X8_carries, qS_X8_carries, qN_X8, qK_X8_carries, by decide +kernel⟩
theorem kV_X8_way : um_kV yX8_way RX8 cX8_way 5 (some FieldType.int) 4 := ⟨qI_X8_way, qS_X8_way, qN_X8, qK_X8_way, by decide +kernel⟩
theorem kV_X8_plan : um_kV yX8_plan RX8 cX8_plan 5 (some FieldType.int) 3 := ⟨qI_X8_plan, qS_X8_plan, qN_X8, qK_X8_plan, by decide +kernel⟩
theorem kV_X8_muster : um_kV yX8_muster RX8 cX8_muster 4 (some FieldType.int) 3 := ⟨qI_X8_muster, qS_X8_muster, qN_X8, qK_X8_muster, by decide +kernel⟩
theorem kV_X8_put : um_kV yX8_put RX8 cX8_put 5 (some FieldType.int) 3 := ⟨qI_X8_put, qS_X8_put, qN_X8, qK_X8_put, by decide +kernel⟩
theorem kV_X8_read : um_kV yX8_read RX8 cX8_read 4 (some FieldType.int) 2 := ⟨qI_X8_read, qS_X8_read, qN_X8, qK_X8_read, by decide +kernel⟩
theorem kV_X8_copy : um_kV yX8_copy RX8 cX8_copy 6 (some FieldType.int) 5 := ⟨qI_X8_copy, qS_X8_copy, qN_X8, qK_X8_copy, by decide +kernel⟩
theorem kV_X8_tell : um_kV yX8_tell RX8 cX8_tell 2 (some FieldType.int) 1 := ⟨qI_X8_tell, qS_X8_tell, qN_X8, qK_X8_tell, by decide +kernel⟩
theorem kV_X8_check : um_kV yX8_check RX8 cX8_check 4 (some FieldType.int) 1 := ⟨qI_X8_check, qS_X8_check, qN_X8, qK_X8_check, by decide +kernel⟩
theorem kV_X8_keep : um_kV yX8_keep RX8 cX8_keep 1 (some FieldType.int) 0 := ⟨qI_X8_keep, qS_X8_keep, qN_X8, qK_X8_keep, by decide +kernel⟩
theorem kV_X8_again : um_kV yX8_again RX8 cX8_again 1 (some FieldType.int) 0 := ⟨qI_X8_again, qS_X8_again, qN_X8, qK_X8_again, by decide +kernel⟩
theorem kV_X8_count : um_kV yX8_count RX8 cX8_count 2 (some FieldType.int) 1 := ⟨qI_X8_count, qS_X8_count, qN_X8, qK_X8_count, by decide +kernel⟩
theorem kV_X9_ship : um_kV yX9_ship RX9 cX9_ship 3 (some FieldType.int) 2 := ⟨qI_X9_ship, qS_X9_ship, qN_X9, qK_X9_ship, by decide +kernel⟩
theorem kV_X9_man : um_kV yX9_man RX9 cX9_man 8 (some FieldType.int) 5 := ⟨qI_X9_man, qS_X9_man, qN_X9, qK_X9_man, by decide +kernel⟩
theorem kV_X9_term : um_kV yX9_term RX9 cX9_term 3 (some FieldType.int) 2 := ⟨qI_X9_term, qS_X9_term, qN_X9, qK_X9_term, by decide +kernel⟩
theorem kV_X9_told : um_kV yX9_told RX9 cX9_told 4 (some FieldType.int) 2 := ⟨qI_X9_told, qS_X9_told, qN_X9, qK_X9_told, by decide +kernel⟩
theorem kV_X9_as : um_kV yX9_as RX9 cX9_as 5 (some FieldType.int) 2 := ⟨qI_X9_as, qS_X9_as, qN_X9, qK_X9_as, by decide +kernel⟩
theorem kV_X9_dies : um_kV yX9_dies RX9 cX9_dies 2 (some FieldType.int) 1 := ⟨qI_X9_dies, qS_X9_dies, qN_X9, qK_X9_dies, by decide +kernel⟩
theorem kV_X9_master : um_kV yX9_master RX9 cX9_master 6 (some FieldType.int) 4 := ⟨qI_X9_master, qS_X9_master, qN_X9, qK_X9_master, by decide +kernel⟩
theorem kV_X9_has : um_kV yX9_has RX9 cX9_has 3 (some FieldType.int) 2 := ⟨qI_X9_has, qS_X9_has, qN_X9, qK_X9_has, by decide +kernel⟩
theorem kV_X9_store : um_kV yX9_store RX9 cX9_store 3 (some FieldType.int) 2 := ⟨qI_X9_store, qS_X9_store, qN_X9, qK_X9_store, by decide +kernel⟩
theorem kV_X9_hungry : um_kV yX9_hungry RX9 cX9_hungry 2 (some FieldType.int) 1 := ⟨qI_X9_hungry, qS_X9_hungry, qN_X9, qK_X9_hungry, by decide +kernel⟩
theorem kV_X9_feed : um_kV yX9_feed RX9 cX9_feed 6 (some FieldType.int) 3 := ⟨qI_X9_feed, qS_X9_feed, qN_X9, qK_X9_feed, by decide +kernel⟩
theorem kV_X9_trim : um_kV yX9_trim RX9 cX9_trim 2 (some FieldType.int) 1 := ⟨qI_X9_trim, qS_X9_trim, qN_X9, qK_X9_trim, by decide +kernel⟩
theorem kV_X9_text : um_kV yX9_text RX9 cX9_text 5 (some FieldType.int) 1 := ⟨qI_X9_text, qS_X9_text, qN_X9, qK_X9_text, by decide +kernel⟩
theorem kV_X9_of : um_kV yX9_of RX9 cX9_of 3 (some FieldType.int) 2 := ⟨qI_X9_of, qS_X9_of, qN_X9, qK_X9_of, by decide +kernel⟩
theorem kV_X9_why : um_kV yX9_why RX9 cX9_why 2 (some FieldType.int) 1 := ⟨qI_X9_why, qS_X9_why, qN_X9, qK_X9_why, by decide +kernel⟩
theorem kV_X9_rules : um_kV yX9_rules RX9 cX9_rules 5 (some FieldType.int) 4 := ⟨qI_X9_rules, qS_X9_rules, qN_X9, qK_X9_rules, by decide +kernel⟩
theorem kV_X9_mark : um_kV yX9_mark RX9 cX9_mark 3 (some FieldType.int) 2 := ⟨qI_X9_mark, qS_X9_mark, qN_X9, qK_X9_mark, by decide +kernel⟩
theorem kV_X9_voids : um_kV yX9_voids RX9 cX9_voids 3 (some FieldType.int) 2 := ⟨qI_X9_voids, qS_X9_voids, qN_X9, qK_X9_voids, by decide +kernel⟩
theorem kV_X9_markTold : um_kV yX9_markTold RX9 cX9_markTold 3 (some FieldType.int) 2 := ⟨qI_X9_markTold, qS_X9_markTold, qN_X9, qK_X9_markTold, by decide +kernel⟩
theorem kV_X9_due : um_kV yX9_due RX9 cX9_due 2 (some FieldType.int) 1 := ⟨qI_X9_due, qS_X9_due, qN_X9, qK_X9_due, by decide +kernel⟩
theorem kV_X9_moves : um_kV yX9_moves RX9 cX9_moves 5 (some FieldType.int) 1 := ⟨qI_X9_moves, qS_X9_moves, qN_X9, qK_X9_moves, by decide +kernel⟩
theorem kV_X9_assign : um_kV yX9_assign RX9 cX9_assign 3 (some FieldType.int) 2 := ⟨qI_X9_assign, qS_X9_assign, qN_X9, qK_X9_assign, by decide +kernel⟩
theorem kV_X9_back : um_kV yX9_back RX9 cX9_back 3 (some FieldType.int) 1 := ⟨qI_X9_back, qS_X9_back, qN_X9, qK_X9_back, by decide +kernel⟩
theorem kV_X9_ticket : um_kV yX9_ticket RX9 cX9_ticket 2 (some FieldType.int) 1 := ⟨qI_X9_ticket, qS_X9_ticket, qN_X9, qK_X9_ticket, by decide +kernel⟩
theorem kV_X9_pardon : um_kV yX9_pardon RX9 cX9_pardon 3 (some FieldType.int) 2 := ⟨qI_X9_pardon, qS_X9_pardon, qN_X9, qK_X9_pardon, by decide +kernel⟩
theorem kV_X9_runs : um_kV yX9_runs RX9 cX9_runs 2 (some FieldType.int) 1 := ⟨qI_X9_runs, qS_X9_runs, qN_X9, qK_X9_runs, by decide +kernel⟩
theorem kV_X9_caught : um_kV yX9_caught RX9 cX9_caught 3 (some FieldType.int) 1 := ⟨qI_X9_caught, qS_X9_caught, qN_X9, qK_X9_caught, by decide +kernel⟩
theorem kV_X9_seed : um_kV yX9_seed RX9 cX9_seed 2 (some FieldType.int) 1 := ⟨qI_X9_seed, qS_X9_seed, qN_X9, qK_X9_seed, by decide +kernel⟩
theorem kV_X9_run : um_kV yX9_run RX9 cX9_run 3 (some FieldType.int) 1 := ⟨qI_X9_run, qS_X9_run, qN_X9, qK_X9_run, by decide +kernel⟩
theorem kV_X9_path : um_kV yX9_path RX9 cX9_path 4 (some FieldType.int) 3 := ⟨qI_X9_path, qS_X9_path, qN_X9, qK_X9_path, by decide +kernel⟩
theorem kV_X9_reach : um_kV yX9_reach RX9 cX9_reach 7 (some FieldType.int) 2 := ⟨qI_X9_reach, qS_X9_reach, qN_X9, qK_X9_reach, by decide +kernel⟩
theorem kV_X9_look : um_kV yX9_look RX9 cX9_look 6 (some FieldType.int) 4 := ⟨qI_X9_look, qS_X9_look, qN_X9, qK_X9_look, by decide +kernel⟩
theorem kV_X9_may : um_kV yX9_may RX9 cX9_may 4 (some FieldType.int) 2 := ⟨qI_X9_may, qS_X9_may, qN_X9, qK_X9_may, by decide +kernel⟩
theorem kV_X9_same : um_kV yX9_same RX9 cX9_same 5 (some FieldType.int) 2 := ⟨qI_X9_same, qS_X9_same, qN_X9, qK_X9_same, by decide +kernel⟩
theorem kV_X9_goes : um_kV yX9_goes RX9 cX9_goes 2 (some FieldType.int) 1 := ⟨qI_X9_goes, qS_X9_goes, qN_X9, qK_X9_goes, by decide +kernel⟩
theorem kV_X9_most : um_kV yX9_most RX9 cX9_most 1 (some FieldType.int) 0 := ⟨qI_X9_most, qS_X9_most, qN_X9, qK_X9_most, by decide +kernel⟩
theorem kV_X9_sentence : um_kV yX9_sentence RX9 cX9_sentence 5 (some FieldType.int) 3 := ⟨qI_X9_sentence, qS_X9_sentence, qN_X9, qK_X9_sentence, by decide +kernel⟩
theorem kV_X9_mean : um_kV yX9_mean RX9 cX9_mean 3 (some FieldType.int) 2 := ⟨qI_X9_mean, qS_X9_mean, qN_X9, qK_X9_mean, by decide +kernel⟩
theorem kV_X9_harsh : um_kV yX9_harsh RX9 cX9_harsh 6 (some FieldType.int) 1 := ⟨qI_X9_harsh, qS_X9_harsh, qN_X9, qK_X9_harsh, by decide +kernel⟩
theorem kV_X9_letter : um_kV yX9_letter RX9 cX9_letter 5 (some FieldType.int) 3 := ⟨qI_X9_letter, qS_X9_letter, qN_X9, qK_X9_letter, by decide +kernel⟩
theorem kV_X9_letterTold : um_kV yX9_letterTold RX9 cX9_letterTold 3 (some FieldType.int) 2 := ⟨qI_X9_letterTold, qS_X9_letterTold, qN_X9, qK_X9_letterTold, by decide +kernel⟩
theorem kV_X9_party : um_kV yX9_party RX9 cX9_party 4 (some FieldType.int) 3 := ⟨qI_X9_party, qS_X9_party, qN_X9, qK_X9_party, by decide +kernel⟩
theorem kV_X9_carries : um_kV yX9_carries RX9 cX9_carries 4 (some FieldType.int) 1 := ⟨qI_X9_carries, qS_X9_carries, qN_X9, qK_X9_carries, by decide +kernel⟩
theorem kV_X9_way : um_kV yX9_way RX9 cX9_way 5 (some FieldType.int) 4 := ⟨qI_X9_way, qS_X9_way, qN_X9, qK_X9_way, by decide +kernel⟩
theorem kV_X9_plan : um_kV yX9_plan RX9 cX9_plan 7 (some FieldType.int) 3 := ⟨qI_X9_plan, qS_X9_plan, qN_X9, qK_X9_plan, by decide +kernel⟩
theorem kV_X9_muster : um_kV yX9_muster RX9 cX9_muster 5 (some FieldType.int) 3 := ⟨qI_X9_muster, qS_X9_muster, qN_X9, qK_X9_muster, by decide +kernel⟩
theorem kV_X9_put : um_kV yX9_put RX9 cX9_put 5 (some FieldType.int) 3 := ⟨qI_X9_put, qS_X9_put, qN_X9, qK_X9_put, by decide +kernel⟩
theorem kV_X9_read : um_kV yX9_read RX9 cX9_read 5 (some FieldType.int) 2 := ⟨qI_X9_read, qS_X9_read, qN_X9, qK_X9_read, by decide +kernel⟩
theorem kV_X9_copy : um_kV yX9_copy RX9 cX9_copy 7 (some FieldType.int) 5 := ⟨qI_X9_copy, qS_X9_copy, qN_X9, qK_X9_copy, by decide +kernel⟩
theorem kV_X9_tell : um_kV yX9_tell RX9 cX9_tell 2 (some FieldType.int) 1 := ⟨qI_X9_tell, qS_X9_tell, qN_X9, qK_X9_tell, by decide +kernel⟩
theorem kV_X9_check : um_kV yX9_check RX9 cX9_check 5 (some FieldType.int) 1 := ⟨qI_X9_check, qS_X9_check, qN_X9, qK_X9_check, by decide +kernel⟩
theorem kV_X9_keep : um_kV yX9_keep RX9 cX9_keep 1 (some FieldType.int) 0 := ⟨qI_X9_keep, qS_X9_keep, qN_X9, qK_X9_keep, by decide +kernel⟩
theorem kV_X9_again : um_kV yX9_again RX9 cX9_again 1 (some FieldType.int) 0 := ⟨qI_X9_again, qS_X9_again, qN_X9, qK_X9_again, by decide +kernel⟩
theorem kV_X9_count : um_kV yX9_count RX9 cX9_count 2 (some FieldType.int) 1 := ⟨qI_X9_count, qS_X9_count, qN_X9, qK_X9_count, by decide +kernel⟩
