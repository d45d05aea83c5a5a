/-! CALLS over the uniform memory, and how a residual is taken apart -/
def um_kV (y : MethodName) (C : String) (bytes : ByteArray) (maxL : Nat) (ret : Option FieldType) (n : Nat) : Prop :=
  Cond.instanceMethod y ∈ WG ∧ Cond.selects C y y ∈ WG ∧ Cond.initialized C ∈ WG ∧ Cond.code y bytes maxL ret ∈ WG ∧ (y.cls = C ∧ y.cls ≠ "java/lang/invoke/MethodHandle" ∧ y.cls ≠ "java/lang/invoke/VarHandle" ∧ (parseMethodDescriptor y.desc).map (fun d => d.parameters.length) = some n)
def um_kS (y : MethodName) (bytes : ByteArray) (maxL : Nat) (ret : Option FieldType) (n : Nat) : Prop :=
  Cond.static y ∈ WG ∧ Cond.initialized y.cls ∈ WG ∧ Cond.code y bytes maxL ret ∈ WG ∧ (y.cls ≠ "java/lang/invoke/MethodHandle" ∧ y.cls ≠ "java/lang/invoke/VarHandle" ∧ (parseMethodDescriptor y.desc).map (fun d => d.parameters.length) = some n)
theorem um_goodIn {w : Cond} (h : w ∈ WG) : GoodIn WG (w :: WG) := fun v hv => by
  have hm : v ∈ WG := (List.mem_cons.mp hv).elim (fun e => by rw [e]; exact h) id
  exact ⟨hm, um_gd v hm⟩
theorem um_blind {Z : um_Z} {sh : Nat → Option um_Sh} {α : Nat → Nat} {σ : um_S} {av : List Value} : FrameBlind (um_Pre Z sh α σ av) := fun a U g mk h =>
  ⟨h.1, um_En.same (s := U) (U := U.calling g mk a) rfl h.2.1, um_St.same (s := U) (U := U.calling g mk a) rfl rfl h.2.2.1, h.2.2.2⟩
theorem um_pre {p : Program} {s : State} {m : MethodId} {meth : Method} {c : Code} {args : Array Value} {cc : ByteArray} {nL : Nat} {ret : Option FieldType} {own : String} {Z : um_Z} {sh : Nat → Option um_Sh} {α : Nat → Nat} {σ : um_S} {H : Heap} {locs : List Loc} {av : List Value}
    (Cx : um_C p s m meth c args cc nL ret own Z) (hW : um_W Z sh α σ H) (hS : va_S (um_D sh α) s.heap H locs) : ∀ U : State, U.heap = H → s.WarmedH U.vm → um_Pre Z sh α σ av av.toArray U := fun U hU hWm =>
  ⟨rfl, um_En.warm hWm Cx.2.2.2.2.2.2.2.1, um_St.warm hWm (fun a h1 h2 => by rw [hU]; exact hS.2.1 a h1 (fun z => h2 (hW.old a z))) Cx.2.2.2.2.2.2.2.2, by rw [hU]; exact hW⟩
section UMC
variable {p : Program} {l : Launch} {e : Env} {R : Room} {s : State} {m : MethodId} {args : Array Value} {below : List Frame} {meth : Method} {c : Code} {H : Heap} {locs : List Loc} {cells slots : Nat} {Q : State → Prop}
variable {cc : ByteArray} {nL pc : Nat} {ret : Option FieldType} {own : String} {Z : um_Z} {sh : Nat → Option um_Sh} {α : Nat → Nat} {σ σ' : um_S} {ls : Array Slot} {rest st : List Value}
variable {y : MethodName} {bytes : ByteArray} {maxL n index F L : Nat} {ret' : Option FieldType} {As : List Value} {rv : Option Value} {lv : List (Nat × Value)}
theorem um_go {H0 : Heap} {a : Array Value} (hr : va_Run p l e R s m args below meth c H locs cells slots 0 0 (F0 m pc ls st) rest (um_Post Z sh α σ' rv a) (um_D sh α)) (hS : va_S (um_D sh α) H0 H locs)
    (kk : ∀ (H1 : Heap) (locs1 : List Loc), um_W Z sh α σ' H1 → va_S (um_D sh α) H0 H1 locs1 → W p l e R s m args below meth c H1 locs1 cells slots Q (F0 m (pc + 3) ls (rv.toList ++ rest))) : W p l e R s m args below meth c H locs cells slots Q (F0 m pc ls st) := by
  intro T hT X
  obtain ⟨v, st₀, t, T', L, h0, X', hL, e1, e2, ⟨hv, hw, hz, hk⟩, stp⟩ := hr T hT X
  cases hv
  rw [h0] at hz hk
  obtain ⟨t2, a1, b1⟩ := kk T'.heap (locs ++ L) (by rw [e1]; exact hw) ⟨Nat.le_trans hS.1 (by rw [e1]; exact hz), fun q h1 h2 => by rw [e1, hk q (Nat.lt_of_lt_of_le h1 hS.1) h2]; exact hS.2.1 q h1 h2, fun q hq => by
      rcases List.mem_append.mp hq with h | h
      · exact hS.2.2 q h
      · exact hL q h⟩ T' rfl X'
  exact ⟨t2, stp t2 a1, b1⟩
theorem um_callV {C : String} {T : u_T} {N ci k : Nat} {fl : List um_F} (Cx : um_C p s m meth c args cc nL ret own Z) (hM : um_M l y bytes maxL ret' F L Z sh α σ (.ref (α k) :: As) rv σ') (hk : um_kV y C bytes maxL ret' n) (hl : Cond.methodLink own index y ∈ WG ∨ ∃ host, Cond.methodLinkNest own index y host ∈ um_nest)
    (hW : um_W Z sh α σ H) (hS : va_S (um_D sh α) s.heap H locs) (hs : sh k = some (.inr (ci, fl))) (hc : vwCl[ci]? = some (C, T, N)) (hn : As.length = n) (hl0 : lv_has ls nL lv) (hst : st = As.reverse ++ .ref (α k) :: rest) (hrm : (rest.map fun v => v.category).sum ≤ 8) (hR : F + 1 ≤ R.frames ∧ 8 + (maxL + 11) + L ≤ R.locals) (hdg : decode cc pc = .ok (.invokevirtual index, 3)) (hcs : cells ≤ R.cells ∧ slots ≤ R.slots)
    (kk : ∀ (H1 : Heap) (locs1 : List Loc), um_W Z sh α σ' H1 → va_S (um_D sh α) s.heap H1 locs1 → W p l e R s m args below meth c H1 locs1 cells slots Q (F0 m (pc + 3) ls (rv.toList ++ rest))) : W p l e R s m args below meth c H locs cells slots Q (F0 m pc ls st) := by
  obtain ⟨k1, k2, k3, k4, hcl, hd⟩ := hk
  obtain ⟨hx, hb, hr, hml, hown, hts, hlk, hE, hSt⟩ := id Cx
  subst hcl
  have hp : PreV s H y.cls (α k) (um_Pre Z sh α σ (.ref (α k) :: As)) As := ⟨um_blind, va_recv hE.1 (um_P1 hW hs) hc (q0 := 0) rfl, um_pre Cx hW hS⟩
  rcases hl with hl | ⟨host, hl⟩
  · exact um_go (va_runV (As := As) (rest := rest) (Ts := WG) (own := own) ⟨hx, hb, hml, hown, hts⟩ hM ⟨callB_of n hts (um_goodIn k4) rfl rfl rfl (hts _ k3) (hts _ hl) hd hR, hts _ k1, hts _ k2⟩ hp rfl hn hl0.1 hst (lv_room hrm) hdg hcs) hS kk
  · exact um_go (va_runVN (As := As) (rest := rest) (Ts := WG) (own := own) ⟨hx, hb, hml, hown, hts⟩ hM ⟨va_cnB n hts (um_goodIn k4) rfl rfl rfl (hE.2.1 _ hl) (hts _ k3) hd hR, hts _ k1, hts _ k2⟩ hp rfl hn hl0.1 hst (lv_room hrm) hdg hcs) hS kk
theorem um_callS (Cx : um_C p s m meth c args cc nL ret own Z) (hM : um_M l y bytes maxL ret' F L Z sh α σ As rv σ') (hk : um_kS y bytes maxL ret' n) (hl : Cond.methodLink own index y ∈ WG ∨ ∃ host, Cond.methodLinkNest own index y host ∈ um_nest)
    (hW : um_W Z sh α σ H) (hS : va_S (um_D sh α) s.heap H locs) (hn : As.length = n) (hl0 : lv_has ls nL lv) (hst : st = As.reverse ++ rest) (hrm : (rest.map fun v => v.category).sum ≤ 8) (hR : F + 1 ≤ R.frames ∧ 8 + (maxL + 11) + L ≤ R.locals) (hdg : decode cc pc = .ok (.invokestatic index, 3)) (hcs : cells ≤ R.cells ∧ slots ≤ R.slots)
    (kk : ∀ (H1 : Heap) (locs1 : List Loc), um_W Z sh α σ' H1 → va_S (um_D sh α) s.heap H1 locs1 → W p l e R s m args below meth c H1 locs1 cells slots Q (F0 m (pc + 3) ls (rv.toList ++ rest))) : W p l e R s m args below meth c H locs cells slots Q (F0 m pc ls st) := by
  obtain ⟨k1, k3, k4, hd⟩ := hk
  obtain ⟨hx, hb, hr, hml, hown, hts, hlk, hE, hSt⟩ := id Cx
  have hp : PreS s H (um_Pre Z sh α σ As) As := ⟨um_blind, um_pre Cx hW hS⟩
  rcases hl with hl | ⟨host, hl⟩
  · exact um_go (va_runS (As := As) (rest := rest) (Ts := WG) (own := own) ⟨hx, hb, hml, hown, hts⟩ hM ⟨callB_of n hts (um_goodIn k4) rfl rfl rfl (hts _ k3) (hts _ hl) hd hR, hts _ k1⟩ hp rfl hn hl0.1 hst (lv_room hrm) hdg hcs) hS kk
  · exact um_go (va_runSN (As := As) (rest := rest) (Ts := WG) (own := own) ⟨hx, hb, hml, hown, hts⟩ hM ⟨va_cnB n hts (um_goodIn k4) rfl rfl rfl (hE.2.1 _ hl) (hts _ k3) hd hR, hts _ k1, trivial⟩ hp rfl hn hl0.1 hst (lv_room hrm) hdg hcs) hS kk
end UMC
/-- the residual -/
theorem um_it {β : Type} {c : Prop} {i : Decidable c} {a b z : β} (h : c) (hf : @ite β c i a b = z) : a = z := by rw [if_pos h] at hf; exact hf
theorem um_ie {β : Type} {c : Prop} {i : Decidable c} {a b z : β} (h : ¬ c) (hf : @ite β c i a b = z) : b = z := by rw [if_neg h] at hf; exact hf
theorem um_gu {β : Type} {c : Prop} {i : Decidable c} {a : Option β} {z : β} (hf : @ite (Option β) c i a none = some z) : c ∧ a = some z := by
  by_cases h : c
  · rw [if_pos h] at hf; exact ⟨h, hf⟩
  · rw [if_neg h] at hf; cases hf
theorem um_bi {β γ : Type} {x : Option β} {f : β → Option γ} {z : γ} (hf : x.bind f = some z) : ∃ y, x = some y ∧ f y = some z := by
  cases x with
  | none => cases hf
  | some y => exact ⟨y, rfl, hf⟩
theorem um_gn {β : Type} {c : Prop} {i : Decidable c} {a : Option β} {z : β} (hf : @ite (Option β) c i none a = some z) : ¬ c ∧ a = some z := by
  by_cases h : c
  · rw [if_pos h] at hf; cases hf
  · rw [if_neg h] at hf; exact ⟨h, hf⟩
/-- an index is within -/
def um_ix (i : Int32) (n : Nat) : Bool := decide (0 ≤ i.toInt ∧ i.toInt < (n : Int))
theorem um_ix_in {i : Int32} {n : Nat} (h : um_ix i n = true) : vp_in i n := vp_in_iff.mpr (of_decide_eq_true h)
theorem um_ix_of {i : Int32} {n : Nat} (h : vp_in i n) : um_ix i n = true := decide_eq_true (vp_in_iff.mp h)
/-- a value that is named -/
def um_let {β γ : Type} (v : β) (f : β → γ) : γ := f v
theorem um_le {β γ : Type} {v : β} {f : β → γ} {z : γ} (hf : um_let v f = z) : ∃ x, x = v ∧ f x = z := ⟨v, rfl, hf⟩
/-- a join: what goes on behind a branch, named -/
theorem um_j1 {A γ : Type} {K : A → γ} {f : (A → γ) → γ} {z : γ} (hf : um_let K f = z) : ∃ k, (∀ a, k a = K a) ∧ f k = z := ⟨K, fun _ => rfl, hf⟩
theorem um_j2 {A B γ : Type} {K : A → B → γ} {f : (A → B → γ) → γ} {z : γ} (hf : um_let K f = z) : ∃ k, (∀ a b, k a b = K a b) ∧ f k = z := ⟨K, fun _ _ => rfl, hf⟩
theorem um_j3 {A B C γ : Type} {K : A → B → C → γ} {f : (A → B → C → γ) → γ} {z : γ} (hf : um_let K f = z) : ∃ k, (∀ a b c, k a b c = K a b c) ∧ f k = z := ⟨K, fun _ _ _ => rfl, hf⟩
theorem um_j4 {A B C D γ : Type} {K : A → B → C → D → γ} {f : (A → B → C → D → γ) → γ} {z : γ} (hf : um_let K f = z) : ∃ k, (∀ a b c d, k a b c d = K a b c d) ∧ f k = z := ⟨K, fun _ _ _ _ => rfl, hf⟩
theorem um_j5 {A B C D E γ : Type} {K : A → B → C → D → E → γ} {f : (A → B → C → D → E → γ) → γ} {z : γ} (hf : um_let K f = z) : ∃ k, (∀ a b c d e, k a b c d e = K a b c d e) ∧ f k = z := ⟨K, fun _ _ _ _ _ => rfl, hf⟩
/-- several values come back -/
def um_b2 {A B γ : Type} (o : Option (A × B)) (f : A → B → Option γ) : Option γ := o.bind fun q => f q.1 q.2
def um_b3 {A B C γ : Type} (o : Option (A × B × C)) (f : A → B → C → Option γ) : Option γ := o.bind fun q => f q.1 q.2.1 q.2.2
def um_b4 {A B C D γ : Type} (o : Option (A × B × C × D)) (f : A → B → C → D → Option γ) : Option γ := o.bind fun q => f q.1 q.2.1 q.2.2.1 q.2.2.2
def um_b5 {A B C D E γ : Type} (o : Option (A × B × C × D × E)) (f : A → B → C → D → E → Option γ) : Option γ := o.bind fun q => f q.1 q.2.1 q.2.2.1 q.2.2.2.1 q.2.2.2.2
theorem um_bi2 {A B γ : Type} {o : Option (A × B)} {f : A → B → Option γ} {z : γ} (hf : um_b2 o f = some z) : ∃ a b, o = some (a, b) ∧ f a b = some z := by
  obtain ⟨⟨a, b⟩, h1, h2⟩ := um_bi hf
  exact ⟨a, b, h1, h2⟩
theorem um_bi3 {A B C γ : Type} {o : Option (A × B × C)} {f : A → B → C → Option γ} {z : γ} (hf : um_b3 o f = some z) : ∃ a b c, o = some (a, b, c) ∧ f a b c = some z := by
  obtain ⟨⟨a, b, c⟩, h1, h2⟩ := um_bi hf
  exact ⟨a, b, c, h1, h2⟩
theorem um_bi4 {A B C D γ : Type} {o : Option (A × B × C × D)} {f : A → B → C → D → Option γ} {z : γ} (hf : um_b4 o f = some z) : ∃ a b c d, o = some (a, b, c, d) ∧ f a b c d = some z := by
  obtain ⟨⟨a, b, c, d⟩, h1, h2⟩ := um_bi hf
  exact ⟨a, b, c, d, h1, h2⟩
theorem um_bi5 {A B C D E γ : Type} {o : Option (A × B × C × D × E)} {f : A → B → C → D → E → Option γ} {z : γ} (hf : um_b5 o f = some z) : ∃ a b c d e, o = some (a, b, c, d, e) ∧ f a b c d e = some z := by
  obtain ⟨⟨a, b, c, d, e⟩, h1, h2⟩ := um_bi hf
  exact ⟨a, b, c, d, e, h1, h2⟩
/-- a loop with ends of its own: inl the method's answer, inr what goes on behind it -/
def um_bs {A γ : Type} (o : Option (γ ⊕ A)) (f : A → Option γ) : Option γ := o.bind fun q => match q with
  | .inl r => some r
  | .inr a => f a
def um_bt {A δ γ : Type} (o : Option (δ ⊕ A)) (f : A → Option (δ ⊕ γ)) : Option (δ ⊕ γ) := o.bind fun q => match q with
  | .inl r => some (.inl r)
  | .inr a => f a
theorem um_bsi {A γ : Type} {o : Option (γ ⊕ A)} {f : A → Option γ} {z : γ} (hf : um_bs o f = some z) : ∃ q, o = some q ∧ (∀ r, q = .inl r → some r = some z) ∧ ∀ a, q = .inr a → f a = some z := by
  obtain ⟨q, h1, h2⟩ := um_bi hf
  exact ⟨q, h1, fun r h => by subst h; exact h2, fun a h => by subst h; exact h2⟩
theorem um_bti {A δ γ : Type} {o : Option (δ ⊕ A)} {f : A → Option (δ ⊕ γ)} {z : δ ⊕ γ} (hf : um_bt o f = some z) : ∃ q, o = some q ∧ (∀ r, q = .inl r → some (Sum.inl r) = some z) ∧ ∀ a, q = .inr a → f a = some z := by
  obtain ⟨q, h1, h2⟩ := um_bi hf
  exact ⟨q, h1, fun r h => by subst h; exact h2, fun a h => by subst h; exact h2⟩
/-- a reference that may be null -/
def um_opt {γ : Type} (o : Option Nat) (a : γ) (f : Nat → γ) : γ := match o with
  | none => a
  | some k => f k
/-- how often a loop may go round -/
def um_N : Nat := 4096
