/-! CONSTRUCTORS: the object that is being made stands beside the world of what it has made; at the end it joins it -/
theorem qI_objInit : Cond.instanceMethod Lib.objectInit ∈ WG := um_q 124 (by decide +kernel) (by decide +kernel)
theorem qK_objInit : Cond.code Lib.objectInit ⟨#[0xb1]⟩ 1 none ∈ WG := um_q 125 (by decide +kernel) (by decide +kernel)
def um_df (f : um_F) : Value := match f with
  | none => .int 0
  | some (.inl _) => .null
  | some (.inr _) => .int 0
/-- its fields: the first n as they will be, the others as they began -/
def um_bf (α : Nat → Nat) (σ : um_S) (k : Nat) (fl : List um_F) (n : Nat) : List Value := fl.mapIdx (fun i f => if i < n then um_fv α σ k i f else um_df f)
theorem um_bf_get {α : Nat → Nat} {σ : um_S} {k : Nat} {fl : List um_F} {n i : Nat} : (um_bf α σ k fl n)[i]? = (fl[i]?).map (fun f => if i < n then um_fv α σ k i f else um_df f) := by
  unfold um_bf
  rw [List.getElem?_mapIdx]
theorem um_bf_len {α : Nat → Nat} {σ : um_S} {k : Nat} {fl : List um_F} {n : Nat} : (um_bf α σ k fl n).length = fl.length := by
  unfold um_bf
  rw [List.length_mapIdx]
theorem um_bf_set {α : Nat → Nat} {σ : um_S} {k : Nat} {fl : List um_F} {n : Nat} {f : um_F} (h : fl[n]? = some f) : (um_bf α σ k fl n).set n (um_fv α σ k n f) = um_bf α σ k fl (n + 1) := by
  have hl : n < fl.length := (List.getElem?_eq_some_iff.mp h).1
  apply List.ext_getElem?
  intro i
  by_cases hi : i = n
  · subst hi
    rw [List.getElem?_set_self (by rw [um_bf_len]; exact hl), um_bf_get, h]
    simp
  · rw [List.getElem?_set_ne (Ne.symm hi), um_bf_get, um_bf_get]
    cases fl[i]? with
    | none => rfl
    | some g =>
      simp only [Option.map_some]
      by_cases h1 : i < n
      · rw [if_pos h1, if_pos (by omega)]
      · rw [if_neg h1, if_neg (by omega)]
theorem um_bf_skip {α : Nat → Nat} {σ : um_S} {k : Nat} {fl : List um_F} {n : Nat} (h : fl[n]? = some none) (hz : σ.1 k n = 0) : um_bf α σ k fl n = um_bf α σ k fl (n + 1) := by
  apply List.ext_getElem?
  intro i
  rw [um_bf_get, um_bf_get]
  cases hg : fl[i]? with
  | none => rfl
  | some g =>
    simp only [Option.map_some]
    by_cases hi : i = n
    · subst hi
      rw [h] at hg
      cases hg
      simp [um_fv, um_df, hz]
    · by_cases h1 : i < n
      · rw [if_pos h1, if_pos (by omega)]
      · rw [if_neg h1, if_neg (by omega)]
theorem um_bf_full {α : Nat → Nat} {σ : um_S} {k : Nat} {fl : List um_F} {n : Nat} (h : fl.length ≤ n) : um_bf α σ k fl n = um_fs α σ k 0 fl := by
  apply List.ext_getElem?
  intro i
  rw [um_bf_get, um_fs_get]
  cases hg : fl[i]? with
  | none => rfl
  | some g =>
    have : i < fl.length := (List.getElem?_eq_some_iff.mp hg).1
    simp only [Option.map_some, Nat.zero_add]
    rw [if_pos (by omega)]
/-- the pointers among the first n fields -/
def um_pin (sh : Nat → Option um_Sh) (fl : List um_F) (n : Nat) : Prop := ∀ i q, i < n → fl[i]? = some (some (.inl q)) → ∃ u, sh q = some u
theorem um_bf_al {α α' : Nat → Nat} {σ : um_S} {k : Nat} {fl : List um_F} {n : Nat} (h : ∀ i q, i < n → fl[i]? = some (some (.inl q)) → α' q = α q) : um_bf α' σ k fl n = um_bf α σ k fl n := by
  apply List.ext_getElem?
  intro i
  rw [um_bf_get, um_bf_get]
  cases hg : fl[i]? with
  | none => rfl
  | some g =>
    simp only [Option.map_some]
    by_cases h1 : i < n
    · rw [if_pos h1, if_pos h1]
      cases g with
      | none => rfl
      | some x =>
        cases x with
        | inl q => simp only [um_fv, h i q h1 hg]
        | inr v => rfl
    · rw [if_neg h1, if_neg h1]
def um_B (Z : um_Z) (h0 ci k : Nat) (fl : List um_F) (n : Nat) (σ : um_S) (sz : Nat) (sh : Nat → Option um_Sh) (α : Nat → Nat) (H : Heap) : Prop :=
  va_at Z.1 vwCl (h0, .inr (ci, um_bf α σ k fl n)) H ∧ um_W Z sh α σ H ∧ (∀ i u, sh i = some u → sz ≤ α i) ∧ h0 < sz ∧ um_cl sh ∧ um_pin sh fl n
section UMB
variable {Z : um_Z} {h0 ci k n sz : Nat} {fl : List um_F} {σ : um_S} {sh sh' : Nat → Option um_Sh} {α α' : Nat → Nat} {H H1 : Heap}
theorem um_B.ne (h : um_B Z h0 ci k fl n σ sz sh α H) {i : Nat} {u : um_Sh} (hi : sh i = some u) : α i ≠ h0 := fun e => by
  have h1 := h.2.2.1 i u hi
  have h2 := h.2.2.2.1
  omega
theorem um_B.put (h : um_B Z h0 ci k fl n σ sz sh α H) {f : um_F} (hf : fl[n]? = some f) (hp : ∀ q, f = some (.inl q) → ∃ u, sh q = some u) (he : va_at Z.1 vwCl (h0, .inr (ci, (um_bf α σ k fl n).set n (um_fv α σ k n f))) H1) (o : ∀ q, q ≠ h0 → H1[q]? = H[q]?) : um_B Z h0 ci k fl (n + 1) σ sz sh α H1 := by
  refine ⟨by rw [← um_bf_set hf]; exact he, h.2.1.kept (fun i u hi => o _ (h.ne hi)), h.2.2.1, h.2.2.2.1, h.2.2.2.2.1, fun i q hi hq => ?_⟩
  by_cases h1 : i = n
  · subst h1
    rw [hf] at hq
    exact hp q (Option.some.inj hq)
  · exact h.2.2.2.2.2 i q (by omega) hq
theorem um_B.skip (h : um_B Z h0 ci k fl n σ sz sh α H) (hf : fl[n]? = some none) (hz : σ.1 k n = 0) : um_B Z h0 ci k fl (n + 1) σ sz sh α H := by
  refine ⟨by rw [← um_bf_skip hf hz]; exact h.1, h.2.1, h.2.2.1, h.2.2.2.1, h.2.2.2.2.1, fun i q hi hq => ?_⟩
  by_cases h1 : i = n
  · subst h1
    rw [hf] at hq
    cases hq
  · exact h.2.2.2.2.2 i q (by omega) hq
/-- the world beside it grows -/
theorem um_B.grow (h : um_B Z h0 ci k fl n σ sz sh α H) (hh : H1[h0]? = H[h0]?) (hW : um_W Z sh' α' σ H1) (hs : ∀ i u, sh i = some u → sh' i = some u ∧ α' i = α i) (hge : ∀ i u, sh' i = some u → sz ≤ α' i) (hcl : um_cl sh') : um_B Z h0 ci k fl n σ sz sh' α' H1 := by
  refine ⟨?_, hW, hge, h.2.2.2.1, hcl, fun i q hi hq => ?_⟩
  · rw [um_bf_al (fun i q hi hq => by
      obtain ⟨u, hu⟩ := h.2.2.2.2.2 i q hi hq
      exact (hs q u hu).2)]
    exact h.1.kept hh
  · obtain ⟨u, hu⟩ := h.2.2.2.2.2 i q hi hq
    exact ⟨u, (hs q u hu).1⟩
theorem um_B.fin (h : um_B Z h0 ci k fl n σ sz sh α H) (hn : fl.length ≤ n) (hk : sh k = none) (hb : Z.2.2.1 ≤ h0) : um_W Z (um_sx sh k (.inr (ci, fl))) (um_ax α k h0) σ H ∧ um_cl (um_sx sh k (.inr (ci, fl))) := by
  have ne : ∀ {i u}, sh i = some u → i ≠ k := fun {i u} hi e => by rw [e, hk] at hi; cases hi
  refine ⟨h.2.1.add h.2.2.2.2.1 hk hb (fun i u hi => h.ne hi) (fun _ _ _ => rfl) rfl (fun _ _ _ => rfl) ?_, fun i c' fl' hi q hq => ?_⟩
  · have e : um_E Z.2.1 (um_ax α k h0) σ k (.inr (ci, fl)) = .inr (ci, um_bf α σ k fl n) := by
      simp only [um_E]
      rw [um_bf_full hn, um_fs_al fl 0 (fun q hq => ?_)]
      obtain ⟨i, hi⟩ := List.getElem?_of_mem hq
      obtain ⟨u, hu⟩ := h.2.2.2.2.2 i q (by have := (List.getElem?_eq_some_iff.mp hi).1; omega) hi
      exact um_ax_ne (ne hu)
    rw [e]
    exact h.1
  · by_cases hik : i = k
    · rw [hik, um_sx_eq] at hi
      cases hi
      obtain ⟨i, hi⟩ := List.getElem?_of_mem hq
      obtain ⟨u, hu⟩ := h.2.2.2.2.2 i q (by have := (List.getElem?_eq_some_iff.mp hi).1; omega) hi
      exact ⟨u, by rw [um_sx_ne (ne hu)]; exact hu⟩
    · rw [um_sx_ne hik] at hi
      obtain ⟨t, ht⟩ := h.2.2.2.2.1 i c' fl' hi q hq
      exact ⟨t, by rw [um_sx_ne (ne ht)]; exact ht⟩
end UMB
/-- two worlds side by side -/
def um_sj (sh1 sh2 : Nat → Option um_Sh) : Nat → Option um_Sh := fun k => match sh1 k with
  | some t => some t
  | none => sh2 k
def um_aj (sh1 : Nat → Option um_Sh) (α1 α2 : Nat → Nat) : Nat → Nat := fun k => match sh1 k with
  | some _ => α1 k
  | none => α2 k
theorem um_sj_l {sh1 sh2 : Nat → Option um_Sh} {k : Nat} {t : um_Sh} (h : sh1 k = some t) : um_sj sh1 sh2 k = some t := by simp [um_sj, h]
theorem um_sj_r {sh1 sh2 : Nat → Option um_Sh} {k : Nat} (h : sh1 k = none) : um_sj sh1 sh2 k = sh2 k := by simp [um_sj, h]
theorem um_aj_l {sh1 : Nat → Option um_Sh} {α1 α2 : Nat → Nat} {k : Nat} {t : um_Sh} (h : sh1 k = some t) : um_aj sh1 α1 α2 k = α1 k := by simp [um_aj, h]
theorem um_aj_r {sh1 : Nat → Option um_Sh} {α1 α2 : Nat → Nat} {k : Nat} (h : sh1 k = none) : um_aj sh1 α1 α2 k = α2 k := by simp [um_aj, h]
theorem um_W.join {Z : um_Z} {sh1 sh2 : Nat → Option um_Sh} {α1 α2 : Nat → Nat} {σ : um_S} {H : Heap} (h1 : um_W Z sh1 α1 σ H) (h2 : um_W Z sh2 α2 σ H) (c1 : um_cl sh1) (c2 : um_cl sh2) (hd : ∀ k t u, sh1 k = some t → sh2 k = some u → False) (hn : ∀ i j t u, sh1 i = some t → sh2 j = some u → α1 i ≠ α2 j) (hr : ∀ a b, σ.2.1 a b = none) : um_W Z (um_sj sh1 sh2) (um_aj sh1 α1 α2) σ H ∧ um_cl (um_sj sh1 sh2) := by
  have n2 : ∀ {k u}, sh2 k = some u → sh1 k = none := fun {k u} h => by
    cases hs : sh1 k with
    | none => rfl
    | some t => exact absurd h (fun z => hd k t u hs z)
  have m1 : um_W Z sh1 (um_aj sh1 α1 α2) σ H := h1.mono (fun _ _ q => q) c1 (fun k t hk => um_aj_l hk) (fun _ _ _ => rfl) (fun _ _ _ => rfl) (fun _ _ _ => rfl) (fun a b q hq => by rw [hr] at hq; cases hq)
  have m2 : um_W Z sh2 (um_aj sh1 α1 α2) σ H := h2.mono (fun _ _ q => q) c2 (fun k t hk => um_aj_r (n2 hk)) (fun _ _ _ => rfl) (fun _ _ _ => rfl) (fun _ _ _ => rfl) (fun a b q hq => by rw [hr] at hq; cases hq)
  have sp : ∀ {k t}, um_sj sh1 sh2 k = some t → sh1 k = some t ∨ (sh1 k = none ∧ sh2 k = some t) := fun {k t} h => by
    cases hs : sh1 k with
    | none => rw [um_sj_r hs] at h; exact Or.inr ⟨rfl, h⟩
    | some u => rw [um_sj_l hs] at h; exact Or.inl h
  refine ⟨⟨fun k t hk => ?_, fun i j a b hi hj e => ?_, fun k t hk => ?_, fun a b q hq => by rw [hr] at hq; cases hq⟩, fun k ci fl hk q hq => ?_⟩
  · rcases sp hk with h | ⟨-, h⟩
    · exact m1.1 k t h
    · exact m2.1 k t h
  · rcases sp hi with h | ⟨g, h⟩ <;> rcases sp hj with h' | ⟨g', h'⟩
    · exact m1.2.1 i j a b h h' e
    · rw [um_aj_l h, um_aj_r g'] at e
      exact absurd e (hn i j a b h h')
    · rw [um_aj_r g, um_aj_l h'] at e
      exact absurd e.symm (hn j i b a h' h)
    · exact m2.2.1 i j a b h h' e
  · rcases sp hk with h | ⟨-, h⟩
    · exact m1.2.2.1 k t h
    · exact m2.2.2.1 k t h
  · rcases sp hk with h | ⟨-, h⟩
    · obtain ⟨t, ht⟩ := c1 k ci fl h q hq
      exact ⟨t, um_sj_l ht⟩
    · obtain ⟨t, ht⟩ := c2 k ci fl h q hq
      exact ⟨t, by rw [um_sj_r (n2 ht)]; exact ht⟩
/-- a constructor's contract -/
def um_KD (h0 sz : Nat) : Nat → Prop := fun q => q = h0 ∨ sz ≤ q
def um_KPre (Z : um_Z) (h0 ci : Nat) (fs av : List Value) (sz : Nat) : Array Value → State → Prop := fun v U => v = (Value.ref h0 :: av).toArray ∧ um_En Z U ∧ um_St Z U ∧ U.heap.size = sz ∧ Z.2.2.1 ≤ h0 ∧ Z.2.2.1 ≤ sz ∧ va_at Z.1 vwCl (h0, .inr (ci, fs)) U.heap
def um_KPost (h0 sz : Nat) (B : Heap → Prop) : Array Value → State → Outcome → State → Prop := fun _ st oc t => oc = .returned none ∧ B t.heap ∧ va_F (um_KD h0 sz) st t
def um_K (l : Launch) (y : MethodName) (cc : ByteArray) (nL F L mc ms : Nat) (Z : um_Z) (h0 ci : Nat) (fs av : List Value) (sz : Nat) (B : Heap → Prop) : Prop :=
  Met l y (Cond.code y cc nL none :: WG) { frames := F, cells := mc, slots := ms, locals := L } (um_KPre Z h0 ci fs av sz) (um_KPost h0 sz B) mc ms (um_KD h0 sz)
/-- what it leaves: a world, its own object at its address, all else new -/
def um_KB (Z : um_Z) (sh : Nat → Option um_Sh) (k h0 sz : Nat) (σ : um_S) : Heap → Prop := fun H => ∃ α : Nat → Nat, α k = h0 ∧ um_W Z sh α σ H ∧ ∀ i u, sh i = some u → i ≠ k → sz ≤ α i
theorem um_kstart {l : Launch} {y : MethodName} {cc : ByteArray} {nL F L mc ms : Nat} {Z : um_Z} {h0 ci : Nat} {fs av : List Value} {sz : Nat} {B : Heap → Prop} (hy : plainName y.cls = true) (hyn : y.name = "<init>") (hn : (lg_sl (Value.ref h0 :: av)).length ≤ nL)
    (body : ∀ (p : Program) (e : Env) (s : State) (m : MethodId) (below : List Frame) (meth : Method) (c : Code) (ls : Array Slot), um_C p s m meth c (Value.ref h0 :: av).toArray cc nL none y.cls Z → meth.name = "<init>" → s.heap.size = sz → Z.2.2.1 ≤ h0 → Z.2.2.1 ≤ sz → va_at Z.1 vwCl (h0, .inr (ci, fs)) s.heap → lv_has ls nL (lv_args 0 (Value.ref h0 :: av)) →
      W p l e { frames := F, cells := mc, slots := ms, locals := L } s m (Value.ref h0 :: av).toArray below meth c s.heap [] 0 0 (MQ below (um_KPost h0 sz B) (Value.ref h0 :: av).toArray s mc ms (um_KD h0 sz)) (F0 m 0 ls [])) : um_K l y cc nL F L mc ms Z h0 ci fs av sz B := by
  refine Met.ofW (cc := cc) (maxL := nL) (ret := none) hy rfl ?_
  intro p e s m args below meth c s₁ B hml hv
  obtain ⟨rfl, hE, hSt, hsz, hb0, hbs, hat⟩ := hv
  have hts := atoms_spec (ws := Cond.code y cc nL none :: WG) B.pre
  have hown : s.vm.findClass y.cls = some m.cls := findClass_of_methodNamed B.named
  have hl := lv_entry (Value.ref h0 :: av) (n := nL) hn
  rw [lg_entry_eq]
  exact body p e s m below meth c _ ⟨B.exec, B.bytes, B.returns, hml, hown, fun w hw => hts w (List.mem_cons_of_mem _ hw), B.notSynchronized, hE, hSt⟩ ((name_of_methodNamed B.named B.method).1.trans hyn) hsz hb0 hbs hat hl
section UMK
variable {p : Program} {l : Launch} {e : Env} {R : Room} {s : State} {m : MethodId} {args : Array Value} {below : List Frame} {meth : Method} {c : Code} {H : Heap} {locs : List Loc} {cells slots : Nat} {Q : State → Prop}
variable {cc : ByteArray} {nL pc : Nat} {ret : Option FieldType} {own : String} {Z : um_Z} {ls : Array Slot} {rest st : List Value} {lv : List (Nat × Value)}
theorem um_kret {h0 sz : Nat} {B : Heap → Prop} (Cx : um_C p s m meth c args cc nL none own Z) (hB : B H) (hS : va_S (um_KD h0 sz) s.heap H locs) (hdg : decode cc pc = .ok (.return_, 1)) : W p l e R s m args below meth c H locs cells slots (MQ below (um_KPost h0 sz B) args s cells slots (um_KD h0 sz)) (F0 m pc ls []) :=
  W.vret Cx.1 Cx.2.1 Cx.2.2.1 (fun t ht hw => ⟨rfl, by rw [ht]; exact hB, hS.F ht⟩) hS.2.2 hdg Cx.2.2.2.2.2.2.1
theorem um_kobj {a idx : Nat} (Cx : um_C p s m meth c args cc nL ret own Z) (hl0 : lv_has ls nL lv) (hlink : Cond.methodLink own idx Lib.objectInit ∈ WG) (hframes : 1 ≤ R.frames) (hlocals : 2 * (F0 m pc ls (.ref a :: rest)).monitorRoom + (rest.map fun v => v.category).sum + 12 ≤ R.locals) (hdg : decode cc pc = .ok (.invokespecial idx, 3))
    (kk : W p l e R s m args below meth c H locs cells slots Q (F0 m (pc + 3) ls rest)) : W p l e R s m args below meth c H locs cells slots Q (F0 m pc ls (.ref a :: rest)) :=
  W.objInit Cx.1 Cx.2.1 Cx.2.2.2.2.1 (Cx.2.2.2.2.2.1 _ hlink) (Cx.2.2.2.2.2.1 _ qI_objInit) (Cx.2.2.2.2.2.1 _ qK_objInit) rfl (by rw [Cx.2.2.2.1]; exact hl0.1) rfl hdg hframes hlocals kk
def um_kI (y : MethodName) (bytes : ByteArray) (maxL n : Nat) : Prop := Cond.instanceMethod y ∈ WG ∧ Cond.initialized y.cls ∈ WG ∧ Cond.code y bytes maxL none ∈ WG ∧ y.name = "<init>" ∧ (y.cls ≠ "java/lang/invoke/MethodHandle" ∧ y.cls ≠ "java/lang/invoke/VarHandle" ∧ (parseMethodDescriptor y.desc).map (fun d => d.parameters.length) = some n)
theorem um_kcall {y : MethodName} {bytes : ByteArray} {maxL n index F L mc ms q ci sz : Nat} {fs As : List Value} {B : Heap → Prop} {A : Nat → Prop} (Cx : um_C p s m meth c args cc nL ret own Z) (hM : um_K l y bytes maxL F L mc ms Z q ci fs As sz B) (hk : um_kI y bytes maxL n) (hl : Cond.methodLink own index y ∈ WG ∨ ∃ host, Cond.methodLinkNest own index y host ∈ um_nest)
    (hat : va_at Z.1 vwCl (q, .inr (ci, fs)) H) (hsz : H.size = sz) (hb0 : Z.2.2.1 ≤ q) (hbs : Z.2.2.1 ≤ sz) (hS : va_S A s.heap H locs) (hA : ∀ x, A x → um_old Z x) (hAK : ∀ x, um_KD q sz x → A x) (hn : As.length = n) (hl0 : lv_has ls nL lv) (hst : st = As.reverse ++ .ref q :: rest) (hrm : (rest.map fun v => v.category).sum ≤ 8) (hR1 : F + 1 ≤ R.frames) (hR2 : 8 + (maxL + 11) + L ≤ R.locals) (hdg : decode cc pc = .ok (.invokespecial index, 3)) (hcs : cells + mc ≤ R.cells) (hss : slots + ms ≤ R.slots)
    (kk : ∀ (H1 : Heap) (locs1 : List Loc), B H1 → H.size ≤ H1.size → (∀ x, x < H.size → x ≠ q → H1[x]? = H[x]?) → va_S A s.heap H1 locs1 → W p l e R s m args below meth c H1 locs1 (cells + mc) (slots + ms) Q (F0 m (pc + 3) ls rest)) : W p l e R s m args below meth c H locs cells slots Q (F0 m pc ls st) := by
  obtain ⟨k1, k3, k4, hyn, hd⟩ := hk
  obtain ⟨hx, hb, hr, hml, hown, hts, hlk, hE, hSt⟩ := id Cx
  have hp : PreS s H (um_KPre Z q ci fs As sz) (.ref q :: As) := ⟨fun a U g mk h => ⟨h.1, um_En.same (s := U) (U := U.calling g mk a) rfl h.2.1, um_St.same (s := U) (U := U.calling g mk a) rfl rfl h.2.2.1, h.2.2.2⟩, fun U hU hWm => ⟨rfl, um_En.warm hWm hE, um_St.warm hWm (fun a h1 h2 => by rw [hU]; exact hS.2.1 a h1 (fun z => h2 (hA a z))) hSt, by rw [hU]; exact hsz, hb0, hbs, by rw [hU]; exact hat⟩⟩
  have go : va_Run p l e R s m args below meth c H locs cells slots mc ms (F0 m pc ls st) rest (um_KPost q sz B (Value.ref q :: As).toArray) (um_KD q sz) := by
    rcases hl with hl | ⟨host, hl⟩
    · exact va_runI (As := As) (rest := rest) (Ts := WG) (own := own) ⟨hx, hb, hml, hown, hts⟩ hM ⟨callB_of n hts (um_goodIn k4) rfl rfl rfl (hts _ k3) (hts _ hl) hd ⟨hR1, hR2⟩, hyn, hts _ k1⟩ hp rfl hn hl0.1 hst (lv_room hrm) hdg ⟨hcs, hss⟩
    · exact va_runIN (As := As) (rest := rest) (Ts := WG) (own := own) ⟨hx, hb, hml, hown, hts⟩ hM ⟨va_cnB n hts (um_goodIn k4) rfl rfl rfl (hE.2.1 _ hl) (hts _ k3) hd ⟨hR1, hR2⟩, hyn, hts _ k1⟩ hp rfl hn hl0.1 hst (lv_room hrm) hdg ⟨hcs, hss⟩
  intro T hT X
  obtain ⟨v, st₀, t, T', L, h0, X', hL, e1, e2, ⟨hv, hw, hz, hkp⟩, stp⟩ := go T hT X
  cases hv
  rw [h0] at hz hkp
  obtain ⟨t2, a1, b1⟩ := kk T'.heap (locs ++ L) (by rw [e1]; exact hw) (by rw [e1]; exact hz) (fun x h1 h2 => by rw [e1]; exact hkp x h1 (fun z => z.elim h2 (fun z => by omega))) ⟨Nat.le_trans hS.1 (by rw [e1]; exact hz), fun x h1 h2 => by rw [e1, hkp x (Nat.lt_of_lt_of_le h1 hS.1) (fun z => h2 (hAK x z))]; exact hS.2.1 x h1 h2, fun x hq => by
      rcases List.mem_append.mp hq with h | h
      · exact hS.2.2 x h
      · exact hAK _ (hL x h)⟩ T' rfl X'
  exact ⟨t2, stp t2 a1, b1⟩
end UMK
