/-! THE UNIFORM MEMORY: a world is a table of shapes (which cells there are, of which kind), an address for each, and one store of numbers. Every contract speaks of the whole world of its side. -/
/-- a field: none a number that changes, inl the cell that it always holds, inr the number that it always holds -/
abbrev um_F : Type := Option (Nat ⊕ Int32)
/-- a shape: inl an array (0 int, 1 byte, 2 boolean, 3 Text) with its length (none: as the store says), inr an object with its fields -/
abbrev um_Sh : Type := (Nat × Option Nat) ⊕ (Nat × List um_F)
/-- a store: numbers, references, lengths -/
abbrev um_S : Type := (Nat → Nat → Int32) × (Nat → Nat → Option Nat) × (Nat → Nat)
def um_fv (α : Nat → Nat) (σ : um_S) (k j : Nat) (f : um_F) : Value := match f with
  | none => .int (σ.1 k j)
  | some (.inl q) => .ref (α q)
  | some (.inr v) => .int v
def um_fs (α : Nat → Nat) (σ : um_S) (k : Nat) : Nat → List um_F → List Value
  | _, [] => []
  | j, f :: fl => um_fv α σ k j f :: um_fs α σ k (j + 1) fl
def um_len (σ : um_S) (k : Nat) (n : Option Nat) : Nat := match n with
  | some n => n
  | none => σ.2.2 k
def um_row (α : Nat → Nat) (σ : um_S) (k t : Nat) : (Nat → Int32) ⊕ (Nat → Int64) ⊕ (Nat → UInt32) ⊕ (Nat → UInt64) ⊕ (Nat → Option Nat) := if t = 3 then .inr (.inr (.inr (.inr fun j => (σ.2.1 k j).map α))) else .inl (σ.1 k)
def um_E (cy : Nat → ClassId) (α : Nat → Nat) (σ : um_S) (k : Nat) (sh : um_Sh) : va_E := match sh with
  | .inl a => .inl (cy a.1, um_len σ k a.2, um_row α σ k a.1)
  | .inr o => .inr (o.1, um_fs α σ k 0 o.2)
/-- what is fixed of a launch: the classes' numbers, the array classes' numbers, from where on cells are new, the static array, the String constants -/
abbrev um_Z : Type := va_G × (Nat → ClassId) × Nat × Nat × (Nat → Nat) × (Nat → Nat)
/-- a Text: the object q, its steps q + 1, its pile q + 2 -/
def um_txt (sh : Nat → Option um_Sh) (q : Nat) : Prop := sh q = some (.inr (6, [none, none, none, some (.inl (q + 1)), some (.inl (q + 2))])) ∧ sh (q + 1) = some (.inl (0, none)) ∧ sh (q + 2) = some (.inl (0, none))
def um_W (Z : um_Z) (sh : Nat → Option um_Sh) (α : Nat → Nat) (σ : um_S) (H : Heap) : Prop :=
  (∀ (k : Nat) (t : um_Sh), sh k = some t → va_at Z.1 vwCl (α k, um_E Z.2.1 α σ k t) H) ∧ (∀ (i j : Nat) (a b : um_Sh), sh i = some a → sh j = some b → α i = α j → i = j) ∧ (∀ (k : Nat) (t : um_Sh), sh k = some t → Z.2.2.1 ≤ α k) ∧ ∀ (k j q : Nat), σ.2.1 k j = some q → um_txt sh q
def um_D (sh : Nat → Option um_Sh) (α : Nat → Nat) : Nat → Prop := fun q => ∃ (k : Nat) (t : um_Sh), sh k = some t ∧ q = α k
/-- writing a number, a reference -/
def um_wr (σ : um_S) (k i : Nat) (x : Int32) : um_S := (fun a b => if a = k then (if b = i then x else σ.1 a b) else σ.1 a b, σ.2)
def um_wt (σ : um_S) (k i : Nat) (x : Option Nat) : um_S := (σ.1, fun a b => if a = k then (if b = i then x else σ.2.1 a b) else σ.2.1 a b, σ.2.2)
def um_b (b : Bool) : Int32 := if b then 1 else 0
theorem um_b_nar (b : Bool) : narrow .boolean (.int (um_b b)) = .int (um_b b) := by cases b <;> rfl
/-- the array classes that are used -/
def um_tys (cy : Nat → ClassId) : List (ClassId × FieldType) := [(cy 0, .int), (cy 1, .byte), (cy 2, .boolean), (cy 3, .object RX7)]
/-- KIND_ABOVE; the String constants: entries, texts, lengths, bytes -/
def um_ka : List Int32 := [-1, 0, 1, 1, 1, 0, 0, 1]
def um_kIdx : List Nat := [127, 129, 131, 133, 135, 137, 139, 141, 143]
def um_kTx : List String := ["ticket", "pardon", "irons", "fear", "stop", "wmt", "om", "kmp", "ed"]
def um_kLen : List Nat := [6, 6, 5, 4, 4, 3, 2, 3, 2]
def um_kByt : List (List Int32) := [[116, 105, 99, 107, 101, 116], [112, 97, 114, 100, 111, 110], [105, 114, 111, 110, 115], [102, 101, 97, 114], [115, 116, 111, 112], [119, 109, 116], [111, 109], [107, 109, 112], [101, 100]]
def um_old (Z : um_Z) : Nat → Prop := fun q => Z.2.2.1 ≤ q
/-- what holds of the tables in every state -/
def um_En (Z : um_Z) (U : State) : Prop := va_K Z.1 vwCl (um_tys Z.2.1) U ∧ (∀ w ∈ um_nest, va_Nw w U) ∧ va_AO RX7 U
/-- what old cells hold in every state -/
def um_St (Z : um_Z) (U : State) : Prop := va_Z "TicketShore" "KIND_ABOVE" "[I" (.ref Z.2.2.2.1) (um_old Z) U U.heap ∧ va_T .int Z.2.2.2.1 8 (fun j => .int (um_ka.getD j 0)) (um_old Z) U U.heap ∧ va_Z "java/lang/String" "COMPACT_STRINGS" "Z" (.int 1) (um_old Z) U U.heap ∧ vk_S 9 um_kLen um_kByt Z.2.2.2.2.1 Z.2.2.2.2.2 (um_old Z) U U.heap ∧ (∀ i : Nat, i < 9 → vk_R RX6 (um_kIdx.getD i 0) (um_kTx.getD i "") (Z.2.2.2.2.1 i) U) ∧ ∃ v : Value, va_Z "jdk/internal/util/Preconditions" "SIOOBE_FORMATTER" "Ljava/util/function/BiFunction;" v (um_old Z) U U.heap ∧ (v = .null ∨ ∃ a, v = .ref a)
theorem um_nest_w : ∀ w ∈ um_nest, (∃ a i b n d h, w = .fieldLinkNest a i b n d h) ∨ ∃ a i x h, w = .methodLinkNest a i x h := by
  intro w hw
  have h : um_nest.all (fun w => match w with | .fieldLinkNest .. => true | .methodLinkNest .. => true | _ => false) = true := by decide +kernel
  have h1 := List.all_eq_true.mp h w hw
  cases w <;> first | (exact Or.inl ⟨_, _, _, _, _, _, rfl⟩) | (exact Or.inr ⟨_, _, _, _, rfl⟩) | (exact absurd h1 (by simp))
theorem um_En.warm {Z : um_Z} {s U : State} (hW : s.WarmedH U.vm) (h : um_En Z s) : um_En Z U := by
  refine ⟨va_K.moved hW.alike h.1, fun w hw => ?_, va_AO.moved hW.alike h.2.2⟩
  have h2 := h.2.1 w hw
  rcases um_nest_w w hw with ⟨a, i, b, n, d, q, rfl⟩ | ⟨a, i, x, q, rfl⟩
  · exact va_Nw.warmF hW h2
  · exact va_Nw.warmM hW h2
theorem um_nest_on : ∀ w ∈ um_nest, w.onTables = true := by
  intro w hw
  rcases um_nest_w w hw with ⟨a, i, b, n, d, q, rfl⟩ | ⟨a, i, x, q, rfl⟩ <;> rfl
theorem um_En.same {Z : um_Z} {s U : State} (hv : s.vm = U.vm) (h : um_En Z s) : um_En Z U :=
  ⟨va_K.moved (by rw [hv]; exact Vm.Alike.refl U.vm) h.1, fun w hw => va_Nw.same (um_nest_on w hw) hv (h.2.1 w hw), va_AO.moved (by rw [hv]; exact Vm.Alike.refl U.vm) h.2.2⟩
theorem um_St.warm {Z : um_Z} {s U : State} (hW : s.WarmedH U.vm) (hq : ∀ a : Nat, a < s.heap.size → ¬ um_old Z a → U.heap[a]? = s.heap[a]?) (h : um_St Z s) : um_St Z U :=
  ⟨(h.1.kept hq).moved hW.alike, (h.2.1.kept hq).moved hW.alike, (h.2.2.1.kept hq).moved hW.alike, (h.2.2.2.1.kept hq).moved hW.alike, fun i hi => (h.2.2.2.2.1 i hi).warm hW, h.2.2.2.2.2.elim fun v hv => ⟨v, (hv.1.kept hq).moved hW.alike, hv.2⟩⟩
theorem um_St.same {Z : um_Z} {s U : State} (hv : s.vm = U.vm) (hh : U.heap = s.heap) (h : um_St Z s) : um_St Z U := by
  have ha : s.vm.Alike U.vm := by rw [hv]; exact Vm.Alike.refl U.vm
  unfold um_St
  rw [hh]
  exact ⟨h.1.moved ha, h.2.1.moved ha, h.2.2.1.moved ha, h.2.2.2.1.moved ha, fun i hi => (h.2.2.2.2.1 i hi).same hv.symm, h.2.2.2.2.2.elim fun v hv => ⟨v, hv.1.moved ha, hv.2⟩⟩
theorem um_W.old {Z : um_Z} {sh : Nat → Option um_Sh} {α : Nat → Nat} {σ : um_S} {H : Heap} (h : um_W Z sh α σ H) : ∀ q, um_D sh α q → um_old Z q := by
  rintro q ⟨k, t, hk, rfl⟩
  exact h.2.2.1 k t hk
theorem um_fs_get {α : Nat → Nat} {σ : um_S} {k : Nat} : ∀ (fl : List um_F) (a j : Nat), (um_fs α σ k a fl)[j]? = (fl[j]?).map (um_fv α σ k (a + j))
  | [], a, j => by simp [um_fs]
  | f :: fl, a, 0 => by simp [um_fs]
  | f :: fl, a, j + 1 => by
    have h := um_fs_get (α := α) (σ := σ) (k := k) fl (a + 1) j
    simp only [um_fs, List.getElem?_cons_succ]
    rw [h, Nat.add_assoc, Nat.add_comm 1 j]
theorem um_fs_congr {α : Nat → Nat} {σ σ' : um_S} {k : Nat} (h : σ'.1 k = σ.1 k) : ∀ (fl : List um_F) (a : Nat), um_fs α σ' k a fl = um_fs α σ k a fl
  | [], a => rfl
  | f :: fl, a => by
    simp only [um_fs]
    rw [um_fs_congr h fl (a + 1)]
    congr 1
    cases f with
    | none => simp only [um_fv, h]
    | some x => cases x <;> rfl
theorem um_E_congr {cy : Nat → ClassId} {α : Nat → Nat} {σ σ' : um_S} {k : Nat} {t : um_Sh} (h1 : σ'.1 k = σ.1 k) (h2 : σ'.2.1 k = σ.2.1 k) (h3 : σ'.2.2 k = σ.2.2 k) : um_E cy α σ' k t = um_E cy α σ k t := by
  cases t with
  | inl a =>
    have hl : um_len σ' k a.2 = um_len σ k a.2 := by
      cases ha : a.2 with
      | none => simp only [um_len, h3]
      | some n => rfl
    have hr : um_row α σ' k a.1 = um_row α σ k a.1 := by
      unfold um_row
      rw [h1, h2]
    simp only [um_E, hl, hr]
  | inr o => simp only [um_E, um_fs_congr h1]
theorem um_wr_ne {σ : um_S} {k i j : Nat} {x : Int32} (h : j ≠ k) : (um_wr σ k i x).1 j = σ.1 j := by
  funext b
  simp [um_wr, h]
theorem um_wt_ne {σ : um_S} {k i j : Nat} {x : Option Nat} (h : j ≠ k) : (um_wt σ k i x).2.1 j = σ.2.1 j := by
  funext b
  simp [um_wt, h]
/-- one cell changes -/
theorem um_W.set {Z : um_Z} {sh : Nat → Option um_Sh} {α : Nat → Nat} {σ σ' : um_S} {H H1 : Heap} {k : Nat} {t : um_Sh} (h : um_W Z sh α σ H) (hk : sh k = some t) (o : ∀ q : Nat, q ≠ α k → H1[q]? = H[q]?) (he : va_at Z.1 vwCl (α k, um_E Z.2.1 α σ' k t) H1) (hc : ∀ (j : Nat) (u : um_Sh), j ≠ k → um_E Z.2.1 α σ' j u = um_E Z.2.1 α σ j u) (hr : ∀ (k j q : Nat), σ'.2.1 k j = some q → um_txt sh q) : um_W Z sh α σ' H1 := by
  refine ⟨fun j u hj => ?_, h.2.1, h.2.2.1, hr⟩
  by_cases hjk : j = k
  · subst hjk
    cases hk.symm.trans hj
    exact he
  · rw [hc j u hjk]
    exact (h.1 j u hj).kept (o (α j) (fun z => hjk (h.2.1 j k u t hj hk z)))
theorem um_P1 {Z : um_Z} {sh : Nat → Option um_Sh} {α : Nat → Nat} {σ : um_S} {H : Heap} {k : Nat} {t : um_Sh} (h : um_W Z sh α σ H) (hk : sh k = some t) : va_P Z.1 vwCl [(α k, um_E Z.2.1 α σ k t)] H := by
  intro i q hi
  have hz : i < 1 := (List.getElem?_eq_some_iff.mp hi).1
  rw [show i = 0 by omega] at hi
  cases hi
  exact h.1 k t hk
/-- a method's body: what is fixed -/
def um_C (p : Program) (s : State) (m : MethodId) (meth : Method) (c : Code) (args : Array Value) (cc : ByteArray) (nL : Nat) (ret : Option FieldType) (own : String) (Z : um_Z) : Prop :=
  p.tables.exec = Jvm.exec ∧ c.code = cc ∧ meth.sig.returnType = ret ∧ c.maxLocals = nL ∧ s.vm.findClass own = some m.cls ∧ (∀ w ∈ WG, w.before args s = true) ∧ meth.locks = false ∧ um_En Z s ∧ um_St Z s
def um_Pre (Z : um_Z) (sh : Nat → Option um_Sh) (α : Nat → Nat) (σ : um_S) (av : List Value) : Array Value → State → Prop := fun v U => v = av.toArray ∧ um_En Z U ∧ um_St Z U ∧ um_W Z sh α σ U.heap
def um_Post (Z : um_Z) (sh : Nat → Option um_Sh) (α : Nat → Nat) (σ : um_S) (rv : Option Value) : Array Value → State → Outcome → State → Prop := fun _ st oc t => oc = .returned rv ∧ um_W Z sh α σ t.heap ∧ va_F (um_D sh α) st t
/-- A CONTRACT: with the arguments av, in a world with the store σ, the method answers rv, and the store is σ' -/
def um_M (l : Launch) (y : MethodName) (cc : ByteArray) (nL : Nat) (ret : Option FieldType) (F L : Nat) (Z : um_Z) (sh : Nat → Option um_Sh) (α : Nat → Nat) (σ : um_S) (av : List Value) (rv : Option Value) (σ' : um_S) : Prop :=
  Met l y (Cond.code y cc nL ret :: WG) { frames := F, cells := 0, slots := 0, locals := L } (um_Pre Z sh α σ av) (um_Post Z sh α σ' rv) 0 0 (um_D sh α)
theorem um_start {l : Launch} {y : MethodName} {cc : ByteArray} {nL : Nat} {ret : Option FieldType} {F L : Nat} {Z : um_Z} {sh : Nat → Option um_Sh} {α : Nat → Nat} {σ σ' : um_S} {av : List Value} {rv : Option Value} (hy : plainName y.cls = true) (hn : (lg_sl av).length ≤ nL)
    (body : ∀ (p : Program) (e : Env) (s : State) (m : MethodId) (below : List Frame) (meth : Method) (c : Code) (ls : Array Slot), um_C p s m meth c av.toArray cc nL ret y.cls Z → um_W Z sh α σ s.heap → va_S (um_D sh α) s.heap s.heap [] → lv_has ls nL (lv_args 0 av) →
      W p l e { frames := F, cells := 0, slots := 0, locals := L } s m av.toArray below meth c s.heap [] 0 0 (MQ below (um_Post Z sh α σ' rv) av.toArray s 0 0 (um_D sh α)) (F0 m 0 ls [])) : um_M l y cc nL ret F L Z sh α σ av rv σ' := by
  refine Met.ofW (cc := cc) (maxL := nL) (ret := ret) hy rfl ?_
  intro p e s m args below meth c s₁ B hml hv
  obtain ⟨rfl, hE, hSt, hW⟩ := hv
  have hts := atoms_spec (ws := Cond.code y cc nL ret :: WG) B.pre
  have hown : s.vm.findClass y.cls = some m.cls := findClass_of_methodNamed B.named
  have hl := lv_entry av (n := nL) hn
  rw [lg_entry_eq]
  exact body p e s m below meth c _ ⟨B.exec, B.bytes, B.returns, hml, hown, fun w hw => hts w (List.mem_cons_of_mem _ hw), B.notSynchronized, hE, hSt⟩ hW va_S.rf hl
section UM
variable {p : Program} {l : Launch} {e : Env} {R : Room} {s : State} {m : MethodId} {args : Array Value} {below : List Frame} {meth : Method} {c : Code} {H : Heap} {locs : List Loc} {cells slots : Nat} {Q : State → Prop}
variable {cc : ByteArray} {nL pc : Nat} {ret : Option FieldType} {own : String} {Z : um_Z} {sh : Nat → Option um_Sh} {α : Nat → Nat} {σ σ' : um_S} {ls : Array Slot} {rest : List Value}
/-- the ends -/
theorem um_iret {v r : Int32} (Cx : um_C p s m meth c args cc nL (some .int) own Z) (hW : um_W Z sh α σ H) (hS : va_S (um_D sh α) s.heap H locs) (hf : some (v, σ) = some (r, σ')) (hdg : decode cc pc = .ok (.ireturn, 1)) :
    W p l e R s m args below meth c H locs 0 0 (MQ below (um_Post Z sh α σ' (some (.int r))) args s 0 0 (um_D sh α)) (F0 m pc ls [.int v]) := by
  cases hf
  exact W.iret Cx.1 Cx.2.1 Cx.2.2.1 (fun t ht hw => ⟨rfl, by rw [ht]; exact hW, hS.F ht⟩) hS.2.2 hdg Cx.2.2.2.2.2.2.1
theorem um_zret {v : Int32} {b r : Bool} (Cx : um_C p s m meth c args cc nL (some .boolean) own Z) (hW : um_W Z sh α σ H) (hS : va_S (um_D sh α) s.heap H locs) (hf : some (b, σ) = some (r, σ')) (hv : v = um_b b) (hdg : decode cc pc = .ok (.ireturn, 1)) :
    W p l e R s m args below meth c H locs 0 0 (MQ below (um_Post Z sh α σ' (some (.int (um_b r)))) args s 0 0 (um_D sh α)) (F0 m pc ls [.int v]) := by
  cases hf
  subst hv
  exact W.zret Cx.1 Cx.2.1 Cx.2.2.1 (um_b_nar b) (fun t ht hw => ⟨rfl, by rw [ht]; exact hW, hS.F ht⟩) hS.2.2 hdg Cx.2.2.2.2.2.2.1
theorem um_vret (Cx : um_C p s m meth c args cc nL none own Z) (hW : um_W Z sh α σ H) (hS : va_S (um_D sh α) s.heap H locs) (hf : some σ = some σ') (hdg : decode cc pc = .ok (.return_, 1)) :
    W p l e R s m args below meth c H locs 0 0 (MQ below (um_Post Z sh α σ' none) args s 0 0 (um_D sh α)) (F0 m pc ls []) := by
  cases hf
  exact W.vret Cx.1 Cx.2.1 Cx.2.2.1 (fun t ht hw => ⟨rfl, by rw [ht]; exact hW, hS.F ht⟩) hS.2.2 hdg Cx.2.2.2.2.2.2.1
/-- methods that only read: the answer alone -/
theorem um_iretR {v r : Int32} (Cx : um_C p s m meth c args cc nL (some .int) own Z) (hW : um_W Z sh α σ H) (hS : va_S (um_D sh α) s.heap H locs) (hf : some v = some r) (hdg : decode cc pc = .ok (.ireturn, 1)) :
    W p l e R s m args below meth c H locs 0 0 (MQ below (um_Post Z sh α σ (some (.int r))) args s 0 0 (um_D sh α)) (F0 m pc ls [.int v]) := by
  cases hf
  exact um_iret Cx hW hS rfl hdg
theorem um_zretR {v : Int32} {b r : Bool} (Cx : um_C p s m meth c args cc nL (some .boolean) own Z) (hW : um_W Z sh α σ H) (hS : va_S (um_D sh α) s.heap H locs) (hf : some b = some r) (hv : v = um_b b) (hdg : decode cc pc = .ok (.ireturn, 1)) :
    W p l e R s m args below meth c H locs 0 0 (MQ below (um_Post Z sh α σ (some (.int (um_b r)))) args s 0 0 (um_D sh α)) (F0 m pc ls [.int v]) := by
  cases hf
  exact um_zret Cx hW hS rfl hv hdg
theorem um_aretR {r0 r : Option Nat} {rt : FieldType} (Cx : um_C p s m meth c args cc nL (some rt) own Z) (hrt : (∃ n, rt = .object n) ∨ ∃ t, rt = .array t) (hW : um_W Z sh α σ H) (hS : va_S (um_D sh α) s.heap H locs) (hf : some r0 = some r) (hdg : decode cc pc = .ok (.areturn, 1)) :
    W p l e R s m args below meth c H locs 0 0 (MQ below (um_Post Z sh α σ (some (va_rf (r.map α)))) args s 0 0 (um_D sh α)) (F0 m pc ls [va_rf (r0.map α)]) := by
  cases hf
  refine W.aret Cx.1 Cx.2.1 Cx.2.2.1 hrt ?_ (fun t ht hw => ⟨rfl, by rw [ht]; exact hW, hS.F ht⟩) hS.2.2 hdg Cx.2.2.2.2.2.2.1
  cases r0 with
  | none => exact Or.inl rfl
  | some a => exact Or.inr ⟨_, rfl⟩
/-- fields -/
theorem um_get {ref C : String} {T : u_T} {N ci index k : Nat} {fl : List um_F} {f : um_F} (Cx : um_C p s m meth c args cc nL ret own Z) (hW : um_W Z sh α σ H) (hin : ∀ w ∈ u_ws C T N, w ∈ WG) (hc : vwCl[ci]? = some (C, T, N)) (hs : sh k = some (.inr (ci, fl))) (j : Nat) (hj : j < N) (hf : fl[j]? = some f)
    (hlink : Cond.fieldLink own index ref (T j).2.1 (T j).2.2.1 ∈ WG ∨ ∃ host, Cond.fieldLinkNest own index ref (T j).2.1 (T j).2.2.1 host ∈ um_nest) (href : (T j).1 = ref) (hdg : decode cc pc = .ok (.getfield index, 3))
    (kk : W p l e R s m args below meth c H locs cells slots Q (F0 m (pc + 3) ls (um_fv α σ k j f :: rest))) : W p l e R s m args below meth c H locs cells slots Q (F0 m pc ls (.ref (α k) :: rest)) := by
  obtain ⟨hx, hb, -, -, hown, hts, -, hE, -⟩ := Cx
  have hv : (um_fs α σ k 0 fl)[j]? = some (um_fv α σ k j f) := by
    rw [um_fs_get, hf, Nat.zero_add]
    rfl
  rcases hlink with hlink | ⟨host, hlink⟩
  · exact va_get hx hb hts hin hown hE.1 (um_P1 hW hs) 0 rfl hc j hj (hts _ hlink) (fun x h => by rw [← href]; exact h) hv hdg kk
  · exact va_getN hx hb hts hin hown hE.1 (um_P1 hW hs) 0 rfl hc j hj (va_Nw.use rfl (hE.2.1 _ hlink)) (fun x h => by rw [← href]; exact h) hv hdg kk
theorem um_put {ref C : String} {T : u_T} {N ci index k : Nat} {fl : List um_F} {x : Int32} {ty : FieldType} {H0 : Heap} (Cx : um_C p s m meth c args cc nL ret own Z) (hW : um_W Z sh α σ H) (hS : va_S (um_D sh α) H0 H locs) (hin : ∀ w ∈ u_ws C T N, w ∈ WG) (ty0 : Nat → FieldType) (hty : ∀ k, k < N → parseFieldDescriptor (T k).2.2.1 = some (ty0 k)) (hnm : ∀ a, a < N → ∀ b, b < N → a ≠ b → (T a).2.1 ≠ (T b).2.1) (hc : vwCl[ci]? = some (C, T, N)) (hs : sh k = some (.inr (ci, fl))) (j : Nat) (hj : j < N) (hf : fl[j]? = some none)
    (hlink : Cond.fieldLink own index ref (T j).2.1 (T j).2.2.1 ∈ WG ∨ ∃ host, Cond.fieldLinkNest own index ref (T j).2.1 (T j).2.2.1 host ∈ um_nest) (href : (T j).1 = ref) (hfin : (T j).2.2.2 = false) (hd : parseFieldDescriptor (T j).2.2.1 = some ty) (hn : narrow ty (.int x) = .int x) (hfit : fits ty (.int x) = true) (hdg : decode cc pc = .ok (.putfield index, 3))
    (kk : ∀ (H1 : Heap) (locs1 : List Loc), um_W Z sh α (um_wr σ k j x) H1 → va_S (um_D sh α) H0 H1 locs1 → W p l e R s m args below meth c H1 locs1 cells slots Q (F0 m (pc + 3) ls rest)) : W p l e R s m args below meth c H locs cells slots Q (F0 m pc ls (.int x :: .ref (α k) :: rest)) := by
  obtain ⟨hx, hb, -, -, hown, hts, -, hE, -⟩ := Cx
  have hK := hE.1
  have hap := va_apart (own := own) hts hin ty0 hty hnm hK hc
  obtain ⟨r, h1, cell, q1, q2, q3, q4⟩ := hW.1 k _ hs
  have hr : r = (C, T, N) := Option.some.inj (h1.symm.trans hc)
  subst hr
  obtain ⟨hSl, hfc, kC, hkC, hkind⟩ := hK.1 ci _ hc
  obtain ⟨cf, kf, fi, f, hi, hsl⟩ := hSl j hj
  have hlay := hts _ (hin _ (u_in_lay hj))
  unfold u_lay at hlay
  rw [if_neg (by rw [hfin]; decide)] at hlay
  have hst := (u_facts hfc hkC (u_lays hts hin hj) hi).1
  have h6 := u_store hfc hkC hkind hlay hi hd hn hfit
  have hi' : s.fieldFound? ref (T j).2.1 (T j).2.2.1 = some (cf, kf, fi, f) := by rw [← href]; exact hi
  have fin : ∀ H' : Heap, H'[α k]? = some (cell.setSlot f.slot (.int x)) → H'.size = H.size → (∀ q, q ≠ α k → H'[q]? = H[q]?) → W p l e R s m args below meth c H' (locs ++ [⟨α k, f.slot⟩]) cells slots Q (F0 m (pc + 3) ls rest) := by
    intro H' e1 e2 e3
    rw [hsl] at e1 ⊢
    refine kk H' _ (hW.set hs e3 ⟨_, hc, t_OB.to (V := updV (vp_V (um_fs α σ k 0 fl)) j (.int x)) ⟨_, e1, q2, q3, t_set q4 hap hj (.int x)⟩ (fun i _ => ?_)⟩ (fun i u hik => um_E_congr (um_wr_ne hik) rfl rfl) hW.2.2.2) (hS.put e2 e3 ⟨k, _, hs, rfl⟩)
    show updV (vp_V (um_fs α σ k 0 fl)) j (.int x) i = vp_V (um_fs α (um_wr σ k j x) k 0 fl) i
    unfold updV vp_V
    rw [List.getD_eq_getElem?_getD, List.getD_eq_getElem?_getD, um_fs_get, um_fs_get, Nat.zero_add]
    by_cases hij : i = j
    · subst hij
      rw [if_pos rfl, hf]
      simp [um_fv, um_wr]
    · rw [if_neg hij]
      cases hfi : fl[i]? with
      | none => rfl
      | some g =>
        cases g with
        | none => simp [um_fv, um_wr, hij]
        | some y => cases y <;> rfl
  rcases hlink with hlink | ⟨host, hlink⟩
  · exact W.putK hx hb (f := f) ⟨hown, hts _ hlink, ⟨_, _, _, hi'⟩, hst⟩ (by rw [q2]; exact h6) q1 q3 (by rw [hsl]; exact k2_hasslot (q4 j hj)) rfl rfl hdg fin
  · exact va_WputK hx hb (f := f) hown (va_Nw.use rfl (hE.2.1 _ hlink)) hi' hst (by rw [q2]; exact h6) q1 q3 (by rw [hsl]; exact k2_hasslot (q4 j hj)) rfl rfl hdg fin
/-- arrays -/
theorem um_ta {U : State} {n : Nat} {z : Nat → Value} (hE : um_En Z U) (t : Nat) {ty : FieldType} (ht : (um_tys Z.2.1)[t]? = some (Z.2.1 t, ty)) : U.isArrayOf (arrV (Z.2.1 t) n z) ty := (hE.1.2 t _ ht).1 n z
theorem um_cell {k t n : Nat} {N : Option Nat} (hW : um_W Z sh α σ H) (hs : sh k = some (.inl (t, N))) (ht : t ≠ 3) (hn : um_len σ k N = n) : H[α k]? = some (arrV (Z.2.1 t) n (fun j => .int (σ.1 k j))) := by
  have h := hW.1 k _ hs
  simp only [va_at, um_E, um_row, if_neg ht, hn] at h
  exact h
theorem um_cell3 {k n : Nat} {N : Option Nat} (hW : um_W Z sh α σ H) (hs : sh k = some (.inl (3, N))) (hn : um_len σ k N = n) : H[α k]? = some (arrV (Z.2.1 3) n (fun j => va_rf ((σ.2.1 k j).map α))) := by
  have h := hW.1 k _ hs
  simp only [va_at, um_E, um_row, if_pos, hn] at h
  exact h
theorem um_alen {k t n : Nat} {N : Option Nat} (Cx : um_C p s m meth c args cc nL ret own Z) (hW : um_W Z sh α σ H) (hs : sh k = some (.inl (t, N))) (hn : um_len σ k N = n) (ht : t < 4) (hdg : decode cc pc = .ok (.arraylength, 1))
    (kk : W p l e R s m args below meth c H locs cells slots Q (F0 m (pc + 1) ls (.int (nI n) :: rest))) : W p l e R s m args below meth c H locs cells slots Q (F0 m pc ls (.ref (α k) :: rest)) := by
  by_cases h3 : t = 3
  · subst h3
    exact W.alen (n := nI n) Cx.1 Cx.2.1 (um_cell3 hW hs hn) (um_ta Cx.2.2.2.2.2.2.2.1 3 rfl) (by rw [arrV_size]; rfl) rfl rfl hdg kk
  · rcases (show t = 0 ∨ t = 1 ∨ t = 2 by omega) with rfl | rfl | rfl
    · exact W.alen (n := nI n) Cx.1 Cx.2.1 (um_cell hW hs h3 hn) (um_ta Cx.2.2.2.2.2.2.2.1 0 rfl) (by rw [arrV_size]; rfl) rfl rfl hdg kk
    · exact W.alen (n := nI n) Cx.1 Cx.2.1 (um_cell hW hs h3 hn) (um_ta Cx.2.2.2.2.2.2.2.1 1 rfl) (by rw [arrV_size]; rfl) rfl rfl hdg kk
    · exact W.alen (n := nI n) Cx.1 Cx.2.1 (um_cell hW hs h3 hn) (um_ta Cx.2.2.2.2.2.2.2.1 2 rfl) (by rw [arrV_size]; rfl) rfl rfl hdg kk
theorem um_iald {k n : Nat} {N : Option Nat} {i : Int32} (Cx : um_C p s m meth c args cc nL ret own Z) (hW : um_W Z sh α σ H) (hs : sh k = some (.inl (0, N))) (hn : um_len σ k N = n) (hin : vp_in i n) (hdg : decode cc pc = .ok (.iaload, 1))
    (kk : W p l e R s m args below meth c H locs cells slots Q (F0 m (pc + 1) ls (.int (σ.1 k i.toNatClampNeg) :: rest))) : W p l e R s m args below meth c H locs cells slots Q (F0 m pc ls (.int i :: .ref (α k) :: rest)) := by
  have hlt : i.toNatClampNeg < n := Nat.not_le.mp fun q => hin (Or.inr q)
  exact W.iald (v := .int (σ.1 k i.toNatClampNeg)) Cx.1 Cx.2.1 (um_cell hW hs (by decide) hn) (um_ta Cx.2.2.2.2.2.2.2.1 0 rfl) (fun q => by cases q) (by rw [arrV_size]; exact hin) (by rw [arrV_read _ _ hlt]) rfl rfl hdg kk
theorem um_bald {k n : Nat} {N : Option Nat} {i : Int32} (Cx : um_C p s m meth c args cc nL ret own Z) (hW : um_W Z sh α σ H) (hs : sh k = some (.inl (1, N))) (hn : um_len σ k N = n) (hin : vp_in i n) (hdg : decode cc pc = .ok (.baload, 1))
    (kk : W p l e R s m args below meth c H locs cells slots Q (F0 m (pc + 1) ls (.int (σ.1 k i.toNatClampNeg) :: rest))) : W p l e R s m args below meth c H locs cells slots Q (F0 m pc ls (.int i :: .ref (α k) :: rest)) := by
  have hlt : i.toNatClampNeg < n := Nat.not_le.mp fun q => hin (Or.inr q)
  exact W.bald (v := .int (σ.1 k i.toNatClampNeg)) Cx.1 Cx.2.1 (um_cell hW hs (by decide) hn) (um_ta Cx.2.2.2.2.2.2.2.1 1 rfl) (fun q => by cases q) (by rw [arrV_size]; exact hin) (by rw [arrV_read _ _ hlt]) rfl rfl hdg kk
theorem um_zald {k n : Nat} {N : Option Nat} {i : Int32} (Cx : um_C p s m meth c args cc nL ret own Z) (hW : um_W Z sh α σ H) (hs : sh k = some (.inl (2, N))) (hn : um_len σ k N = n) (hin : vp_in i n) (hdg : decode cc pc = .ok (.baload, 1))
    (kk : W p l e R s m args below meth c H locs cells slots Q (F0 m (pc + 1) ls (.int (σ.1 k i.toNatClampNeg) :: rest))) : W p l e R s m args below meth c H locs cells slots Q (F0 m pc ls (.int i :: .ref (α k) :: rest)) := by
  have hlt : i.toNatClampNeg < n := Nat.not_le.mp fun q => hin (Or.inr q)
  exact W.zald (v := .int (σ.1 k i.toNatClampNeg)) Cx.1 Cx.2.1 (um_cell hW hs (by decide) hn) (um_ta Cx.2.2.2.2.2.2.2.1 2 rfl) (fun q => by cases q) (by rw [arrV_size]; exact hin) (by rw [arrV_read _ _ hlt]) rfl rfl hdg kk
theorem um_aald {k n : Nat} {N : Option Nat} {i : Int32} (Cx : um_C p s m meth c args cc nL ret own Z) (hW : um_W Z sh α σ H) (hs : sh k = some (.inl (3, N))) (hn : um_len σ k N = n) (hin : vp_in i n) (hdg : decode cc pc = .ok (.aaload, 1))
    (kk : W p l e R s m args below meth c H locs cells slots Q (F0 m (pc + 1) ls (va_rf ((σ.2.1 k i.toNatClampNeg).map α) :: rest))) : W p l e R s m args below meth c H locs cells slots Q (F0 m pc ls (.int i :: .ref (α k) :: rest)) := by
  have hlt : i.toNatClampNeg < n := Nat.not_le.mp fun q => hin (Or.inr q)
  exact W.aald (v := va_rf ((σ.2.1 k i.toNatClampNeg).map α)) (ty := .object RX7) Cx.1 Cx.2.1 (um_cell3 hW hs hn) (um_ta Cx.2.2.2.2.2.2.2.1 3 rfl) rfl (fun q => by cases q) (by rw [arrV_size]; exact hin) (by rw [arrV_read _ _ hlt]) rfl rfl hdg kk
theorem um_stn {k t n i : Nat} {N : Option Nat} {x : Int32} {H1 : Heap} (hW : um_W Z sh α σ H) (hs : sh k = some (.inl (t, N))) (ht : t ≠ 3) (hn : um_len σ k N = n) (e : H1[α k]? = some ((arrV (Z.2.1 t) n (fun j => .int (σ.1 k j))).setSlot i (.int x))) (oq : ∀ q : Nat, q ≠ α k → H1[q]? = H[q]?) : um_W Z sh α (um_wr σ k i x) H1 := by
  refine hW.set hs oq ?_ (fun j u hjk => um_E_congr (um_wr_ne hjk) rfl rfl) hW.2.2.2
  have hl : um_len (um_wr σ k i x) k N = n := by
    cases N <;> exact hn
  simp only [va_at, um_E, um_row, if_neg ht, hl]
  rw [vp_cell_i, e, arrV_store]
  congr 2
  funext q
  by_cases hq : q = i
  · subst hq
    simp [updV, um_wr]
  · simp [updV, um_wr, hq]
theorem um_iast {k n : Nat} {N : Option Nat} {i x : Int32} {H0 : Heap} (Cx : um_C p s m meth c args cc nL ret own Z) (hW : um_W Z sh α σ H) (hS : va_S (um_D sh α) H0 H locs) (hs : sh k = some (.inl (0, N))) (hn : um_len σ k N = n) (hin : vp_in i n) (hdg : decode cc pc = .ok (.iastore, 1))
    (kk : ∀ (H1 : Heap) (locs1 : List Loc), um_W Z sh α (um_wr σ k i.toNatClampNeg x) H1 → va_S (um_D sh α) H0 H1 locs1 → W p l e R s m args below meth c H1 locs1 cells slots Q (F0 m (pc + 1) ls rest)) : W p l e R s m args below meth c H locs cells slots Q (F0 m pc ls (.int x :: .int i :: .ref (α k) :: rest)) := by
  refine W.iast Cx.1 Cx.2.1 (um_cell hW hs (by decide) hn) (um_ta Cx.2.2.2.2.2.2.2.1 0 rfl) (fun q => by cases q) (by rw [arrV_size]; exact hin) rfl rfl hdg fun H1 e z oq => ?_
  exact kk H1 _ (um_stn hW hs (by decide) hn e oq) (hS.put z oq ⟨k, _, hs, rfl⟩)
theorem um_bast {k n : Nat} {N : Option Nat} {i x : Int32} {H0 : Heap} (Cx : um_C p s m meth c args cc nL ret own Z) (hW : um_W Z sh α σ H) (hS : va_S (um_D sh α) H0 H locs) (hs : sh k = some (.inl (1, N))) (hn : um_len σ k N = n) (hin : vp_in i n) (hdg : decode cc pc = .ok (.bastore, 1))
    (kk : ∀ (H1 : Heap) (locs1 : List Loc), um_W Z sh α (um_wr σ k i.toNatClampNeg x.toInt8.toInt32) H1 → va_S (um_D sh α) H0 H1 locs1 → W p l e R s m args below meth c H1 locs1 cells slots Q (F0 m (pc + 1) ls rest)) : W p l e R s m args below meth c H locs cells slots Q (F0 m pc ls (.int x :: .int i :: .ref (α k) :: rest)) := by
  refine W.bast Cx.1 Cx.2.1 (um_cell hW hs (by decide) hn) (um_ta Cx.2.2.2.2.2.2.2.1 1 rfl) (fun q => by cases q) (by rw [arrV_size]; exact hin) rfl rfl hdg fun H1 e z oq => ?_
  exact kk H1 _ (um_stn hW hs (by decide) hn e oq) (hS.put z oq ⟨k, _, hs, rfl⟩)
theorem um_zast {k n : Nat} {N : Option Nat} {i x : Int32} {H0 : Heap} (Cx : um_C p s m meth c args cc nL ret own Z) (hW : um_W Z sh α σ H) (hS : va_S (um_D sh α) H0 H locs) (hs : sh k = some (.inl (2, N))) (hn : um_len σ k N = n) (hin : vp_in i n) (hdg : decode cc pc = .ok (.bastore, 1))
    (kk : ∀ (H1 : Heap) (locs1 : List Loc), um_W Z sh α (um_wr σ k i.toNatClampNeg (x &&& 1)) H1 → va_S (um_D sh α) H0 H1 locs1 → W p l e R s m args below meth c H1 locs1 cells slots Q (F0 m (pc + 1) ls rest)) : W p l e R s m args below meth c H locs cells slots Q (F0 m pc ls (.int x :: .int i :: .ref (α k) :: rest)) := by
  refine W.zast Cx.1 Cx.2.1 (um_cell hW hs (by decide) hn) (um_ta Cx.2.2.2.2.2.2.2.1 2 rfl) (fun q => by cases q) (by rw [arrV_size]; exact hin) rfl rfl hdg fun H1 e z oq => ?_
  exact kk H1 _ (um_stn hW hs (by decide) hn e oq) (hS.put z oq ⟨k, _, hs, rfl⟩)
end UM
