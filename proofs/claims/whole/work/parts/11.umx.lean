/-! the shapes of both sides; calls by what they answer; loops with ends of their own -/
/-- the reference: its object 0 and its arrays -/
def msh (k : Nat) : Option um_Sh := match k with
  | 0 => some (.inr (8, [some (.inl 1), some (.inl 2), some (.inl 3), none, some (.inl 4), some (.inl 5), some (.inl 6), some (.inl 7), none, none, none, none, none, none, none, none, none, none, none, some (.inl 8), some (.inl 9), some (.inl 10), some (.inl 11), some (.inl 12), some (.inl 13), some (.inl 14), some (.inl 15), none, some (.inl 16)]))
  | 1 => some (.inl (0, some 3790))
  | 2 => some (.inl (0, some 3790))
  | 3 => some (.inl (0, some 3790))
  | 4 => some (.inl (0, some 4))
  | 5 => some (.inl (0, some 4))
  | 6 => some (.inl (0, some 96))
  | 7 => some (.inl (0, some 96))
  | 8 => some (.inl (0, some 128))
  | 9 => some (.inl (0, some 100))
  | 10 => some (.inl (0, some 6))
  | 11 => some (.inl (0, some 14))
  | 12 => some (.inl (2, some 14))
  | 13 => some (.inl (2, some 6))
  | 14 => some (.inl (0, some 24))
  | 15 => some (.inl (0, some 60))
  | 16 => some (.inl (0, some 60))
  | _ => none
/-- the class: 0 itself, 1 2 3 its shores h, their tables 20 h + j with cells at 100 more, their laws 20 h + 11; 4 the tape, 5 the assigning, 6 the musters, 7 who waits -/
def xT (t : Nat) : Bool := Nat.beq t 14 || Nat.beq t 15 || (Nat.ble 20 t && Nat.ble t 30) || (Nat.ble 40 t && Nat.ble t 50) || (Nat.ble 60 t && Nat.ble t 70)
def xw (t : Nat) : Int32 := if t = 14 then 1 else if t = 15 then 24 else ([2, 14, 4, 4, 5, 4, 3, 2, 6, 3, 6] : List Int32).getD (t % 20) 0
def xl (t : Nat) : Nat := if t = 14 then 4 else if t = 15 then 96 else ([16, 196, 24, 160, 100, 40, 90, 12, 36, 21, 36] : List Nat).getD (t % 20) 0
def xsh (k : Nat) : Option um_Sh :=
  if xT k then some (.inr (4, [some (.inr (xw k)), some (.inl (k + 100)), none]))
  else if Nat.ble 100 k && xT (k - 100) then some (.inl (0, some (xl (k - 100))))
  else match k with
  | 0 => some (.inr (7, [some (.inl 1), some (.inl 2), some (.inl 3), none, some (.inl 4), some (.inl 5), some (.inl 6), some (.inl 7), none]))
  | 1 => some (.inr (3, [some (.inl (20 * 1 + 0)), some (.inl (20 * 1 + 1)), some (.inl (20 * 1 + 2)), some (.inl (20 * 1 + 3)), some (.inl (20 * 1 + 4)), some (.inl (20 * 1 + 5)), some (.inl (20 * 1 + 6)), some (.inl (20 * 1 + 7)), some (.inl (20 * 1 + 8)), some (.inl (20 * 1 + 9)), some (.inl (20 * 1 + 10)), some (.inl (20 * 1 + 11)), none, none, none]))
  | 2 => some (.inr (3, [some (.inl (20 * 2 + 0)), some (.inl (20 * 2 + 1)), some (.inl (20 * 2 + 2)), some (.inl (20 * 2 + 3)), some (.inl (20 * 2 + 4)), some (.inl (20 * 2 + 5)), some (.inl (20 * 2 + 6)), some (.inl (20 * 2 + 7)), some (.inl (20 * 2 + 8)), some (.inl (20 * 2 + 9)), some (.inl (20 * 2 + 10)), some (.inl (20 * 2 + 11)), none, none, none]))
  | 3 => some (.inr (3, [some (.inl (20 * 3 + 0)), some (.inl (20 * 3 + 1)), some (.inl (20 * 3 + 2)), some (.inl (20 * 3 + 3)), some (.inl (20 * 3 + 4)), some (.inl (20 * 3 + 5)), some (.inl (20 * 3 + 6)), some (.inl (20 * 3 + 7)), some (.inl (20 * 3 + 8)), some (.inl (20 * 3 + 9)), some (.inl (20 * 3 + 10)), some (.inl (20 * 3 + 11)), none, none, none]))
  | 4 => some (.inr (5, [some (.inl 8), none, none, none, none, none, none, some (.inl 9), some (.inl 10), none, none, none, none, none, none]))
  | 5 => some (.inr (0, [some (.inl 11), some (.inl 12), none, none]))
  | 6 => some (.inr (2, [some (.inl 13), some (.inl 14), some (.inl 15), some (.inl 16)]))
  | 7 => some (.inl (0, some 60))
  | 8 => some (.inl (1, some 96))
  | 9 => some (.inl (0, some 96))
  | 10 => some (.inl (0, some 96))
  | 11 => some (.inl (0, some 14))
  | 12 => some (.inl (0, some 6))
  | 13 => some (.inl (0, some 4))
  | 16 => some (.inl (0, some 24))
  | 31 => some (.inr (1, [some (.inl (20 * 1 + 111)), none]))
  | 51 => some (.inr (1, [some (.inl (20 * 2 + 111)), none]))
  | 71 => some (.inr (1, [some (.inl (20 * 3 + 111)), none]))
  | 131 => some (.inl (3, some 14))
  | 151 => some (.inl (3, some 14))
  | 171 => some (.inl (3, some 14))
  | _ => none
/-- a world that has all of the class's own cells -/
def um_X (sh : Nat → Option um_Sh) : Prop := ∀ (k : Nat) (t : um_Sh), xsh k = some t → sh k = some t
def um_h (h : Nat) : Prop := h = 1 ∨ h = 2 ∨ h = 3
section SHP
variable {sh : Nat → Option um_Sh} {h t : Nat}
theorem xs_shore (hX : um_X sh) (hh : um_h h) : sh h = some (.inr (3, [some (.inl (20 * h + 0)), some (.inl (20 * h + 1)), some (.inl (20 * h + 2)), some (.inl (20 * h + 3)), some (.inl (20 * h + 4)), some (.inl (20 * h + 5)), some (.inl (20 * h + 6)), some (.inl (20 * h + 7)), some (.inl (20 * h + 8)), some (.inl (20 * h + 9)), some (.inl (20 * h + 10)), some (.inl (20 * h + 11)), none, none, none])) := by
  rcases hh with rfl | rfl | rfl <;> exact hX _ _ rfl
theorem xs_law (hX : um_X sh) (hh : um_h h) : sh (20 * h + 11) = some (.inr (1, [some (.inl (20 * h + 111)), none])) := by
  rcases hh with rfl | rfl | rfl <;> exact hX _ _ rfl
theorem xs_txs (hX : um_X sh) (hh : um_h h) : sh (20 * h + 111) = some (.inl (3, some 14)) := by
  rcases hh with rfl | rfl | rfl <;> exact hX _ _ rfl
theorem xs_tab (hX : um_X sh) (ht : xT t = true) : sh t = some (.inr (4, [some (.inr (xw t)), some (.inl (t + 100)), none])) := hX _ _ (by unfold xsh; rw [if_pos ht])
theorem xs_cel (hX : um_X sh) (ht : xT t = true) : sh (t + 100) = some (.inl (0, some (xl t))) := by
  refine hX _ _ ?_
  unfold xsh
  have h1 : ¬ xT (t + 100) = true := by
    intro z
    simp only [xT, Bool.or_eq_true, Bool.and_eq_true, Nat.beq_eq, Nat.ble_eq] at z
    omega
  have h2 : (Nat.ble 100 (t + 100) && xT (t + 100 - 100)) = true := by
    rw [Nat.add_sub_cancel, ht, Bool.and_true, Nat.ble_eq]
    omega
  rw [if_neg h1, if_pos h2, Nat.add_sub_cancel]
theorem xs_ht (hh : um_h h) (j : Nat) (hj : Nat.ble j 10 = true) : xT (20 * h + j) = true := by
  have hj : j ≤ 10 := Nat.le_of_ble_eq_true hj
  simp only [xT, Bool.or_eq_true, Bool.and_eq_true, Nat.beq_eq, Nat.ble_eq]
  rcases hh with rfl | rfl | rfl <;> omega
end SHP
/-- the goal of a walk within a method -/
abbrev um_G (p : Program) (l : Launch) (e : Env) (F L : Nat) (s : State) (m : MethodId) (args : Array Value) (below : List Frame) (meth : Method) (c : Code) (Z : um_Z) (sh : Nat → Option um_Sh) (α : Nat → Nat) (σ' : um_S) (rv : Option Value) (H : Heap) (locs : List Loc) (g : JFrame) : Prop :=
  W p l e { frames := F, cells := 0, slots := 0, locals := L } s m args below meth c H locs 0 0 (MQ below (um_Post Z sh α σ' rv) args s 0 0 (um_D sh α)) g
section UMD
variable {p : Program} {l : Launch} {e : Env} {R : Room} {s : State} {m : MethodId} {args : Array Value} {below : List Frame} {meth : Method} {c : Code} {H : Heap} {locs : List Loc} {cells slots : Nat} {Q : State → Prop}
variable {cc : ByteArray} {nL pc : Nat} {ret : Option FieldType} {own : String} {Z : um_Z} {sh : Nat → Option um_Sh} {α : Nat → Nat} {σ σ' : um_S} {ls : Array Slot} {rest st : List Value}
variable {y : MethodName} {bytes : ByteArray} {maxL n index F L : Nat} {ret' : Option FieldType} {As : List Value} {lv : List (Nat × Value)}
theorem um_top {x y : Int32} (h : y = x) (k : W p l e R s m args below meth c H locs cells slots Q (F0 m pc ls (.int y :: rest))) : W p l e R s m args below meth c H locs cells slots Q (F0 m pc ls (.int x :: rest)) := h ▸ k
theorem um_cVi {C : String} {T : u_T} {N ci k : Nat} {fl : List um_F} {r : Int32} (Cx : um_C p s m meth c args cc nL ret own Z) (hM : um_M l y bytes maxL ret' F L Z sh α σ (.ref (α k) :: As) (some (.int r)) σ') (hk : um_kV y C bytes maxL ret' n) (hl : Cond.methodLink own index y ∈ WG ∨ ∃ host, Cond.methodLinkNest own index y host ∈ um_nest)
    (hW : um_W Z sh α σ H) (hS : va_S (um_D sh α) s.heap H locs) (hs : sh k = some (.inr (ci, fl))) (hc : vwCl[ci]? = some (C, T, N)) (hn : As.length = n) (hl0 : lv_has ls nL lv) (hst : st = As.reverse ++ .ref (α k) :: rest) (hrm : (rest.map fun v => v.category).sum ≤ 8) (hR1 : F + 1 ≤ R.frames) (hR2 : 8 + (maxL + 11) + L ≤ R.locals) (hdg : decode cc pc = .ok (.invokevirtual index, 3)) (hcs : cells ≤ R.cells) (hss : slots ≤ R.slots)
    (kk : ∀ (H1 : Heap) (locs1 : List Loc), um_W Z sh α σ' H1 → va_S (um_D sh α) s.heap H1 locs1 → W p l e R s m args below meth c H1 locs1 cells slots Q (F0 m (pc + 3) ls (.int r :: rest))) : W p l e R s m args below meth c H locs cells slots Q (F0 m pc ls st) :=
  um_callV Cx hM hk hl hW hS hs hc hn hl0 hst hrm ⟨hR1, hR2⟩ hdg ⟨hcs, hss⟩ kk
theorem um_cVv {C : String} {T : u_T} {N ci k : Nat} {fl : List um_F} (Cx : um_C p s m meth c args cc nL ret own Z) (hM : um_M l y bytes maxL ret' F L Z sh α σ (.ref (α k) :: As) none σ') (hk : um_kV y C bytes maxL ret' n) (hl : Cond.methodLink own index y ∈ WG ∨ ∃ host, Cond.methodLinkNest own index y host ∈ um_nest)
    (hW : um_W Z sh α σ H) (hS : va_S (um_D sh α) s.heap H locs) (hs : sh k = some (.inr (ci, fl))) (hc : vwCl[ci]? = some (C, T, N)) (hn : As.length = n) (hl0 : lv_has ls nL lv) (hst : st = As.reverse ++ .ref (α k) :: rest) (hrm : (rest.map fun v => v.category).sum ≤ 8) (hR1 : F + 1 ≤ R.frames) (hR2 : 8 + (maxL + 11) + L ≤ R.locals) (hdg : decode cc pc = .ok (.invokevirtual index, 3)) (hcs : cells ≤ R.cells) (hss : slots ≤ R.slots)
    (kk : ∀ (H1 : Heap) (locs1 : List Loc), um_W Z sh α σ' H1 → va_S (um_D sh α) s.heap H1 locs1 → W p l e R s m args below meth c H1 locs1 cells slots Q (F0 m (pc + 3) ls rest)) : W p l e R s m args below meth c H locs cells slots Q (F0 m pc ls st) :=
  um_callV Cx hM hk hl hW hS hs hc hn hl0 hst hrm ⟨hR1, hR2⟩ hdg ⟨hcs, hss⟩ kk
theorem um_cVr {C : String} {T : u_T} {N ci k : Nat} {fl : List um_F} {v : Value} (Cx : um_C p s m meth c args cc nL ret own Z) (hM : um_M l y bytes maxL ret' F L Z sh α σ (.ref (α k) :: As) (some v) σ') (hk : um_kV y C bytes maxL ret' n) (hl : Cond.methodLink own index y ∈ WG ∨ ∃ host, Cond.methodLinkNest own index y host ∈ um_nest)
    (hW : um_W Z sh α σ H) (hS : va_S (um_D sh α) s.heap H locs) (hs : sh k = some (.inr (ci, fl))) (hc : vwCl[ci]? = some (C, T, N)) (hn : As.length = n) (hl0 : lv_has ls nL lv) (hst : st = As.reverse ++ .ref (α k) :: rest) (hrm : (rest.map fun v => v.category).sum ≤ 8) (hR1 : F + 1 ≤ R.frames) (hR2 : 8 + (maxL + 11) + L ≤ R.locals) (hdg : decode cc pc = .ok (.invokevirtual index, 3)) (hcs : cells ≤ R.cells) (hss : slots ≤ R.slots)
    (kk : ∀ (H1 : Heap) (locs1 : List Loc), um_W Z sh α σ' H1 → va_S (um_D sh α) s.heap H1 locs1 → W p l e R s m args below meth c H1 locs1 cells slots Q (F0 m (pc + 3) ls (v :: rest))) : W p l e R s m args below meth c H locs cells slots Q (F0 m pc ls st) :=
  um_callV Cx hM hk hl hW hS hs hc hn hl0 hst hrm ⟨hR1, hR2⟩ hdg ⟨hcs, hss⟩ kk
theorem um_cSi {r : Int32} (Cx : um_C p s m meth c args cc nL ret own Z) (hM : um_M l y bytes maxL ret' F L Z sh α σ As (some (.int r)) σ') (hk : um_kS y bytes maxL ret' n) (hl : Cond.methodLink own index y ∈ WG ∨ ∃ host, Cond.methodLinkNest own index y host ∈ um_nest)
    (hW : um_W Z sh α σ H) (hS : va_S (um_D sh α) s.heap H locs) (hn : As.length = n) (hl0 : lv_has ls nL lv) (hst : st = As.reverse ++ rest) (hrm : (rest.map fun v => v.category).sum ≤ 8) (hR1 : F + 1 ≤ R.frames) (hR2 : 8 + (maxL + 11) + L ≤ R.locals) (hdg : decode cc pc = .ok (.invokestatic index, 3)) (hcs : cells ≤ R.cells) (hss : slots ≤ R.slots)
    (kk : ∀ (H1 : Heap) (locs1 : List Loc), um_W Z sh α σ' H1 → va_S (um_D sh α) s.heap H1 locs1 → W p l e R s m args below meth c H1 locs1 cells slots Q (F0 m (pc + 3) ls (.int r :: rest))) : W p l e R s m args below meth c H locs cells slots Q (F0 m pc ls st) :=
  um_callS Cx hM hk hl hW hS hn hl0 hst hrm ⟨hR1, hR2⟩ hdg ⟨hcs, hss⟩ kk
theorem um_cSv (Cx : um_C p s m meth c args cc nL ret own Z) (hM : um_M l y bytes maxL ret' F L Z sh α σ As none σ') (hk : um_kS y bytes maxL ret' n) (hl : Cond.methodLink own index y ∈ WG ∨ ∃ host, Cond.methodLinkNest own index y host ∈ um_nest)
    (hW : um_W Z sh α σ H) (hS : va_S (um_D sh α) s.heap H locs) (hn : As.length = n) (hl0 : lv_has ls nL lv) (hst : st = As.reverse ++ rest) (hrm : (rest.map fun v => v.category).sum ≤ 8) (hR1 : F + 1 ≤ R.frames) (hR2 : 8 + (maxL + 11) + L ≤ R.locals) (hdg : decode cc pc = .ok (.invokestatic index, 3)) (hcs : cells ≤ R.cells) (hss : slots ≤ R.slots)
    (kk : ∀ (H1 : Heap) (locs1 : List Loc), um_W Z sh α σ' H1 → va_S (um_D sh α) s.heap H1 locs1 → W p l e R s m args below meth c H1 locs1 cells slots Q (F0 m (pc + 3) ls rest)) : W p l e R s m args below meth c H locs cells slots Q (F0 m pc ls st) :=
  um_callS Cx hM hk hl hW hS hn hl0 hst hrm ⟨hR1, hR2⟩ hdg ⟨hcs, hss⟩ kk
/-- fields by what they hold -/
theorem um_getN {ref C : String} {T : u_T} {N ci k : Nat} {fl : List um_F} (Cx : um_C p s m meth c args cc nL ret own Z) (hW : um_W Z sh α σ H) (hin : ∀ w ∈ u_ws C T N, w ∈ WG) (hc : vwCl[ci]? = some (C, T, N)) (hs : sh k = some (.inr (ci, fl))) (j : Nat) (hj : j < N) (hf : fl[j]? = some none)
    (hlink : Cond.fieldLink own index ref (T j).2.1 (T j).2.2.1 ∈ WG ∨ ∃ host, Cond.fieldLinkNest own index ref (T j).2.1 (T j).2.2.1 host ∈ um_nest) (href : (T j).1 = ref) (hdg : decode cc pc = .ok (.getfield index, 3))
    (kk : W p l e R s m args below meth c H locs cells slots Q (F0 m (pc + 3) ls (.int (σ.1 k j) :: rest))) : W p l e R s m args below meth c H locs cells slots Q (F0 m pc ls (.ref (α k) :: rest)) := um_get Cx hW hin hc hs j hj hf hlink href hdg kk
theorem um_getP {ref C : String} {T : u_T} {N ci k q : Nat} {fl : List um_F} (Cx : um_C p s m meth c args cc nL ret own Z) (hW : um_W Z sh α σ H) (hin : ∀ w ∈ u_ws C T N, w ∈ WG) (hc : vwCl[ci]? = some (C, T, N)) (hs : sh k = some (.inr (ci, fl))) (j : Nat) (hj : j < N) (hf : fl[j]? = some (some (.inl q)))
    (hlink : Cond.fieldLink own index ref (T j).2.1 (T j).2.2.1 ∈ WG ∨ ∃ host, Cond.fieldLinkNest own index ref (T j).2.1 (T j).2.2.1 host ∈ um_nest) (href : (T j).1 = ref) (hdg : decode cc pc = .ok (.getfield index, 3))
    (kk : W p l e R s m args below meth c H locs cells slots Q (F0 m (pc + 3) ls (.ref (α q) :: rest))) : W p l e R s m args below meth c H locs cells slots Q (F0 m pc ls (.ref (α k) :: rest)) := um_get Cx hW hin hc hs j hj hf hlink href hdg kk
theorem um_getC {ref C : String} {T : u_T} {N ci k : Nat} {v : Int32} {fl : List um_F} (Cx : um_C p s m meth c args cc nL ret own Z) (hW : um_W Z sh α σ H) (hin : ∀ w ∈ u_ws C T N, w ∈ WG) (hc : vwCl[ci]? = some (C, T, N)) (hs : sh k = some (.inr (ci, fl))) (j : Nat) (hj : j < N) (hf : fl[j]? = some (some (.inr v)))
    (hlink : Cond.fieldLink own index ref (T j).2.1 (T j).2.2.1 ∈ WG ∨ ∃ host, Cond.fieldLinkNest own index ref (T j).2.1 (T j).2.2.1 host ∈ um_nest) (href : (T j).1 = ref) (hdg : decode cc pc = .ok (.getfield index, 3))
    (kk : W p l e R s m args below meth c H locs cells slots Q (F0 m (pc + 3) ls (.int v :: rest))) : W p l e R s m args below meth c H locs cells slots Q (F0 m pc ls (.ref (α k) :: rest)) := um_get Cx hW hin hc hs j hj hf hlink href hdg kk
end UMD
/-- loops with ends of their own, by how many values go on -/
def um_s0 {γ : Type} (o : Option (γ ⊕ Unit)) (f : Option γ) : Option γ := o.bind fun q => match q with | .inl r => some r | .inr _ => f
def um_s1 {A γ : Type} (o : Option (γ ⊕ A)) (f : A → Option γ) : Option γ := o.bind fun q => match q with | .inl r => some r | .inr a => f a
def um_s2 {A B γ : Type} (o : Option (γ ⊕ (A × B))) (f : A → B → Option γ) : Option γ := o.bind fun q => match q with | .inl r => some r | .inr a => f a.1 a.2
def um_s3 {A B C γ : Type} (o : Option (γ ⊕ (A × B × C))) (f : A → B → C → Option γ) : Option γ := o.bind fun q => match q with | .inl r => some r | .inr a => f a.1 a.2.1 a.2.2
def um_t0 {δ γ : Type} (o : Option (δ ⊕ Unit)) (f : Option (δ ⊕ γ)) : Option (δ ⊕ γ) := o.bind fun q => match q with | .inl r => some (.inl r) | .inr _ => f
def um_t1 {A δ γ : Type} (o : Option (δ ⊕ A)) (f : A → Option (δ ⊕ γ)) : Option (δ ⊕ γ) := o.bind fun q => match q with | .inl r => some (.inl r) | .inr a => f a
def um_t2 {A B δ γ : Type} (o : Option (δ ⊕ (A × B))) (f : A → B → Option (δ ⊕ γ)) : Option (δ ⊕ γ) := o.bind fun q => match q with | .inl r => some (.inl r) | .inr a => f a.1 a.2
def um_t3 {A B C δ γ : Type} (o : Option (δ ⊕ (A × B × C))) (f : A → B → C → Option (δ ⊕ γ)) : Option (δ ⊕ γ) := o.bind fun q => match q with | .inl r => some (.inl r) | .inr a => f a.1 a.2.1 a.2.2
theorem um_si0 {γ : Type} {o : Option (γ ⊕ Unit)} {f : Option γ} {z : γ} (hf : um_s0 o f = some z) : ∃ q, o = some q ∧ (∀ r, q = .inl r → some r = some z) ∧ (q = .inr () → f = some z) := by
  obtain ⟨q, h1, h2⟩ := um_bi hf
  exact ⟨q, h1, fun r h => by subst h; exact h2, fun h => by subst h; exact h2⟩
theorem um_si1 {A γ : Type} {o : Option (γ ⊕ A)} {f : A → Option γ} {z : γ} (hf : um_s1 o f = some z) : ∃ q, o = some q ∧ (∀ r, q = .inl r → some r = some z) ∧ ∀ a, q = .inr a → f a = some z := by
  obtain ⟨q, h1, h2⟩ := um_bi hf
  exact ⟨q, h1, fun r h => by subst h; exact h2, fun a h => by subst h; exact h2⟩
theorem um_si2 {A B γ : Type} {o : Option (γ ⊕ (A × B))} {f : A → B → Option γ} {z : γ} (hf : um_s2 o f = some z) : ∃ q, o = some q ∧ (∀ r, q = .inl r → some r = some z) ∧ ∀ a b, q = .inr (a, b) → f a b = some z := by
  obtain ⟨q, h1, h2⟩ := um_bi hf
  exact ⟨q, h1, fun r h => by subst h; exact h2, fun a b h => by subst h; exact h2⟩
theorem um_si3 {A B C γ : Type} {o : Option (γ ⊕ (A × B × C))} {f : A → B → C → Option γ} {z : γ} (hf : um_s3 o f = some z) : ∃ q, o = some q ∧ (∀ r, q = .inl r → some r = some z) ∧ ∀ a b c, q = .inr (a, b, c) → f a b c = some z := by
  obtain ⟨q, h1, h2⟩ := um_bi hf
  exact ⟨q, h1, fun r h => by subst h; exact h2, fun a b c h => by subst h; exact h2⟩
theorem um_ti0 {δ γ : Type} {o : Option (δ ⊕ Unit)} {f : Option (δ ⊕ γ)} {z : δ ⊕ γ} (hf : um_t0 o f = some z) : ∃ q, o = some q ∧ (∀ r, q = .inl r → z = .inl r) ∧ (q = .inr () → f = some z) := by
  obtain ⟨q, h1, h2⟩ := um_bi hf
  exact ⟨q, h1, fun r h => by subst h; exact (Option.some.inj h2).symm, fun h => by subst h; exact h2⟩
theorem um_ti1 {A δ γ : Type} {o : Option (δ ⊕ A)} {f : A → Option (δ ⊕ γ)} {z : δ ⊕ γ} (hf : um_t1 o f = some z) : ∃ q, o = some q ∧ (∀ r, q = .inl r → z = .inl r) ∧ ∀ a, q = .inr a → f a = some z := by
  obtain ⟨q, h1, h2⟩ := um_bi hf
  exact ⟨q, h1, fun r h => by subst h; exact (Option.some.inj h2).symm, fun a h => by subst h; exact h2⟩
theorem um_ti2 {A B δ γ : Type} {o : Option (δ ⊕ (A × B))} {f : A → B → Option (δ ⊕ γ)} {z : δ ⊕ γ} (hf : um_t2 o f = some z) : ∃ q, o = some q ∧ (∀ r, q = .inl r → z = .inl r) ∧ ∀ a b, q = .inr (a, b) → f a b = some z := by
  obtain ⟨q, h1, h2⟩ := um_bi hf
  exact ⟨q, h1, fun r h => by subst h; exact (Option.some.inj h2).symm, fun a b h => by subst h; exact h2⟩
theorem um_ti3 {A B C δ γ : Type} {o : Option (δ ⊕ (A × B × C))} {f : A → B → C → Option (δ ⊕ γ)} {z : δ ⊕ γ} (hf : um_t3 o f = some z) : ∃ q, o = some q ∧ (∀ r, q = .inl r → z = .inl r) ∧ ∀ a b c, q = .inr (a, b, c) → f a b c = some z := by
  obtain ⟨q, h1, h2⟩ := um_bi hf
  exact ⟨q, h1, fun r h => by subst h; exact (Option.some.inj h2).symm, fun a b c h => by subst h; exact h2⟩
/-- switches -/
theorem um_tabO {x : Int32} {lo hi : Int} (h : ∀ z : Int, lo ≤ z → z ≤ hi → ¬ x = Int32.ofInt z) : x.toInt < lo ∨ hi < x.toInt := by
  by_cases h1 : x.toInt < lo
  · exact Or.inl h1
  · by_cases h2 : hi < x.toInt
    · exact Or.inr h2
    · exact absurd (Int32.ofInt_toInt x).symm (h x.toInt (by omega) (by omega))
theorem um_oN {γ : Type} {a z : γ} {f : Nat → γ} (hf : um_opt none a f = z) : a = z := hf
theorem um_oS {γ : Type} {a z : γ} {f : Nat → γ} {k : Nat} (hf : um_opt (some k) a f = z) : f k = z := hf
section UME
variable {p : Program} {l : Launch} {e : Env} {R : Room} {s : State} {m : MethodId} {args : Array Value} {below : List Frame} {meth : Method} {c : Code} {H : Heap} {locs : List Loc} {cells slots : Nat} {Q : State → Prop}
variable {cc : ByteArray} {nL pc : Nat} {ret : Option FieldType} {own : String} {Z : um_Z} {sh : Nat → Option um_Sh} {α : Nat → Nat} {σ : um_S} {ls : Array Slot} {rest : List Value}
/-- array rows at a place j -/
theorem um_iaj {k n : Nat} {N : Option Nat} {i : Int32} (j : Nat) (hj : i.toNatClampNeg = j) (Cx : um_C p s m meth c args cc nL ret own Z) (hW : um_W Z sh α σ H) (hs : sh k = some (.inl (0, N))) (hn : um_len σ k N = n) (hin : vp_in i n) (hdg : decode cc pc = .ok (.iaload, 1))
    (kk : W p l e R s m args below meth c H locs cells slots Q (F0 m (pc + 1) ls (.int (σ.1 k j) :: rest))) : W p l e R s m args below meth c H locs cells slots Q (F0 m pc ls (.int i :: .ref (α k) :: rest)) := by
  subst hj
  exact um_iald Cx hW hs hn hin hdg kk
theorem um_isj {k n : Nat} {N : Option Nat} {i x : Int32} {H0 : Heap} (j : Nat) (hj : i.toNatClampNeg = j) (Cx : um_C p s m meth c args cc nL ret own Z) (hW : um_W Z sh α σ H) (hS : va_S (um_D sh α) H0 H locs) (hs : sh k = some (.inl (0, N))) (hn : um_len σ k N = n) (hin : vp_in i n) (hdg : decode cc pc = .ok (.iastore, 1))
    (kk : ∀ (H1 : Heap) (locs1 : List Loc), um_W Z sh α (um_wr σ k j x) H1 → va_S (um_D sh α) H0 H1 locs1 → W p l e R s m args below meth c H1 locs1 cells slots Q (F0 m (pc + 1) ls rest)) : W p l e R s m args below meth c H locs cells slots Q (F0 m pc ls (.int x :: .int i :: .ref (α k) :: rest)) := by
  subst hj
  exact um_iast Cx hW hS hs hn hin hdg kk
end UME
