/-! MAKING CELLS: worlds that grow; contracts of methods that make cells -/
def um_DA (sh : Nat → Option um_Sh) (α : Nat → Nat) (sz : Nat) : Nat → Prop := fun q => um_D sh α q ∨ sz ≤ q
/-- a shape more, its address, its row of zeros -/
def um_sx (sh : Nat → Option um_Sh) (k : Nat) (t : um_Sh) : Nat → Option um_Sh := fun i => if i = k then some t else sh i
def um_ax (α : Nat → Nat) (k a : Nat) : Nat → Nat := fun i => if i = k then a else α i
def um_zr (σ : um_S) (k : Nat) : um_S := (fun a b => if a = k then 0 else σ.1 a b, σ.2)
theorem um_ax_eq (α : Nat → Nat) (k a : Nat) : um_ax α k a k = a := if_pos rfl
theorem um_ax_ne {α : Nat → Nat} {k a i : Nat} (h : i ≠ k) : um_ax α k a i = α i := if_neg h
theorem um_sx_eq (sh : Nat → Option um_Sh) (k : Nat) (t : um_Sh) : um_sx sh k t k = some t := if_pos rfl
theorem um_sx_ne {sh : Nat → Option um_Sh} {k i : Nat} {t : um_Sh} (h : i ≠ k) : um_sx sh k t i = sh i := if_neg h
theorem um_fs_al {α α' : Nat → Nat} {σ : um_S} {k : Nat} : ∀ (fl : List um_F) (a : Nat), (∀ q, some (Sum.inl q) ∈ fl → α' q = α q) → um_fs α' σ k a fl = um_fs α σ k a fl
  | [], a, _ => rfl
  | f :: fl, a, h => by
    simp only [um_fs]
    rw [um_fs_al fl (a + 1) (fun q hq => h q (List.mem_cons_of_mem _ hq))]
    congr 1
    cases f with
    | none => rfl
    | some x =>
      cases x with
      | inl q => simp only [um_fv, h q List.mem_cons_self]
      | inr v => rfl
/-- a shape speaks of cells that are there -/
def um_cl (sh : Nat → Option um_Sh) : Prop := ∀ (k ci : Nat) (fl : List um_F), sh k = some (.inr (ci, fl)) → ∀ q, some (Sum.inl q) ∈ fl → ∃ t, sh q = some t
/-- the same world by other addresses of cells that aren't there, and another store for them -/
theorem um_W.mono {Z : um_Z} {sh sh' : Nat → Option um_Sh} {α α' : Nat → Nat} {σ σ' : um_S} {H : Heap} (h : um_W Z sh α σ H) (hs : ∀ k t, sh' k = some t → sh k = some t) (hcl : um_cl sh') (ha : ∀ k t, sh' k = some t → α' k = α k) (h1 : ∀ k t, sh' k = some t → σ'.1 k = σ.1 k) (h2 : ∀ k t, sh' k = some t → σ'.2.1 k = σ.2.1 k) (h3 : ∀ k t, sh' k = some t → σ'.2.2 k = σ.2.2 k) (hr : ∀ (k j q : Nat), σ'.2.1 k j = some q → um_txt sh' q) : um_W Z sh' α' σ' H := by
  refine ⟨fun k t hk => ?_, fun i j a b hi hj e => ?_, fun k t hk => ?_, hr⟩
  · have hc := h.1 k t (hs k t hk)
    rw [ha k t hk]
    have e : um_E Z.2.1 α' σ' k t = um_E Z.2.1 α σ k t := by
      rw [um_E_congr (h1 k t hk) (h2 k t hk) (h3 k t hk)]
      cases t with
      | inl a =>
        by_cases h3' : a.1 = 3
        · have : ∀ j, (σ.2.1 k j).map α' = (σ.2.1 k j).map α := by
            intro j
            cases hj : σ.2.1 k j with
            | none => rfl
            | some q =>
              have hq : um_txt sh' q := hr k j q (by rw [h2 k _ hk]; exact hj)
              simp only [Option.map_some, ha q _ hq.1]
          simp only [um_E, um_row, h3', if_true, this]
        · simp only [um_E, um_row, if_neg h3']
      | inr o => 
        simp only [um_E]
        rw [um_fs_al o.2 0 (fun q hq => by
          obtain ⟨t, ht⟩ := hcl k o.1 o.2 hk q hq
          exact ha q t ht)]
    rw [e]
    exact hc
  · rw [ha i a hi, ha j b hj] at e
    exact h.2.1 i j a b (hs i a hi) (hs j b hj) e
  · rw [ha k t hk]
    exact h.2.2.1 k t (hs k t hk)
theorem um_W.kept {Z : um_Z} {sh : Nat → Option um_Sh} {α : Nat → Nat} {σ : um_S} {H H1 : Heap} (h : um_W Z sh α σ H) (o : ∀ k t, sh k = some t → H1[α k]? = H[α k]?) : um_W Z sh α σ H1 := ⟨fun k t hk => (h.1 k t hk).kept (o k t hk), h.2.1, h.2.2⟩
theorem um_W.lt {Z : um_Z} {sh : Nat → Option um_Sh} {α : Nat → Nat} {σ : um_S} {H : Heap} (h : um_W Z sh α σ H) {k : Nat} {t : um_Sh} (hk : sh k = some t) : α k < H.size := (h.1 k t hk).lt
/-- a world and one cell more -/
theorem um_W.add {Z : um_Z} {sh : Nat → Option um_Sh} {α : Nat → Nat} {σ σ' : um_S} {H : Heap} {k a : Nat} {t : um_Sh} (h : um_W Z sh α σ H) (hcl : um_cl sh) (hk : sh k = none) (hb : Z.2.2.1 ≤ a) (hn : ∀ i u, sh i = some u → α i ≠ a) (h1 : ∀ j u, sh j = some u → σ'.1 j = σ.1 j) (h2 : σ'.2.1 = σ.2.1) (h3 : ∀ j u, sh j = some u → σ'.2.2 j = σ.2.2 j) (hc : va_at Z.1 vwCl (a, um_E Z.2.1 (um_ax α k a) σ' k t) H) : um_W Z (um_sx sh k t) (um_ax α k a) σ' H := by
  have ne : ∀ {i u}, sh i = some u → i ≠ k := fun {i u} hi e => by rw [e, hk] at hi; cases hi
  have hr : ∀ (a b q : Nat), σ'.2.1 a b = some q → um_txt (um_sx sh k t) q := by
    intro a b q hq
    rw [h2] at hq
    obtain ⟨g1, g2, g3⟩ := h.2.2.2 a b q hq
    exact ⟨by rw [um_sx_ne (ne g1)]; exact g1, by rw [um_sx_ne (ne g2)]; exact g2, by rw [um_sx_ne (ne g3)]; exact g3⟩
  have hm : um_W Z sh (um_ax α k a) σ' H := h.mono (fun _ _ q => q) hcl (fun i u hi => um_ax_ne (ne hi)) h1 (fun _ _ _ => by rw [h2]) h3 (fun a b q hq => h.2.2.2 a b q (by rw [← h2]; exact hq))
  refine ⟨fun i u hi => ?_, fun i j x y hi hj e => ?_, fun i u hi => ?_, hr⟩
  · by_cases hik : i = k
    · subst hik
      rw [um_sx_eq] at hi
      cases hi
      rw [um_ax_eq]
      exact hc
    · rw [um_sx_ne hik] at hi
      exact hm.1 i u hi
  · by_cases hik : i = k
    · by_cases hjk : j = k
      · rw [hik, hjk]
      · rw [um_sx_ne hjk] at hj
        rw [hik, um_ax_eq, um_ax_ne hjk] at e
        exact absurd e.symm (hn j y hj)
    · rw [um_sx_ne hik] at hi
      by_cases hjk : j = k
      · rw [hjk, um_ax_eq, um_ax_ne hik] at e
        exact absurd e (hn i x hi)
      · rw [um_sx_ne hjk] at hj
        exact hm.2.1 i j x y hi hj e
  · by_cases hik : i = k
    · rw [hik, um_ax_eq]
      exact hb
    · rw [um_sx_ne hik] at hi
      exact hm.2.2.1 i u hi
theorem va_S.weak {A B : Nat → Prop} {H0 H : Heap} {locs : List Loc} (h : va_S A H0 H locs) (hAB : ∀ q, A q → B q) : va_S B H0 H locs := ⟨h.1, fun q h1 h2 => h.2.1 q h1 (fun z => h2 (hAB q z)), fun l hl => hAB _ (h.2.2 l hl)⟩
theorem va_S.push {A : Nat → Prop} {H0 H H1 : Heap} {locs : List Loc} (h : va_S A H0 H locs) (z : H.size ≤ H1.size) (o : ∀ q, q < H.size → H1[q]? = H[q]?) : va_S A H0 H1 locs := ⟨Nat.le_trans h.1 z, fun q h1 h2 => (o q (Nat.lt_of_lt_of_le h1 h.1)).trans (h.2.1 q h1 h2), h.2.2⟩
section UMN
variable {p : Program} {l : Launch} {e : Env} {R : Room} {s : State} {m : MethodId} {args : Array Value} {below : List Frame} {meth : Method} {c : Code} {H : Heap} {locs : List Loc} {cells slots : Nat} {Q : State → Prop}
variable {cc : ByteArray} {nL pc : Nat} {ret : Option FieldType} {own : String} {Z : um_Z} {sh : Nat → Option um_Sh} {α : Nat → Nat} {σ : um_S} {ls : Array Slot} {rest : List Value}
/-- an array of numbers -/
theorem um_vnewa {atype : ArrayType} {t N : Nat} {n : Int32} (Cx : um_C p s m meth c args cc nL ret own Z) (hw : Cond.arrayClass (newarray.typeOf atype) ∈ WG) (ht : (um_tys Z.2.1)[t]? = some (Z.2.1 t, newarray.typeOf atype)) (hd : defaultValue (newarray.typeOf atype) = .int 0) (hfind : ∀ cA, va_RA s cA (newarray.typeOf atype) → s.vm.findClass ("[" ++ (newarray.typeOf atype).toString) = some cA)
    (hn : ¬ n < 0) (hN : n.toNatClampNeg = N) (hbytes : N * componentBytes (newarray.typeOf atype) ≤ 536870912) (hcells : cells + 1 ≤ R.cells) (hslots : slots + N ≤ R.slots) (hdg : decode cc pc = .ok (.newarray atype, 2))
    (kk : ∀ H1 : Heap, H1[H.size]? = some (vp_cell (Z.2.1 t) (N, .inl (fun _ => 0))) → H1.size = H.size + 1 → (∀ q, q < H.size → H1[q]? = H[q]?) → W p l e R s m args below meth c H1 locs (cells + 1) (slots + N) Q (F0 m (pc + 2) ls (.ref H.size :: rest))) : W p l e R s m args below meth c H locs cells slots Q (F0 m pc ls (.int n :: rest)) := by
  refine va_newaK Cx.1 Cx.2.1 (Cx.2.2.2.2.2.1 _ hw) rfl hdg rfl hn hN hbytes hcells hslots rfl fun H1 cA e1 z1 o1 hAr hNm => ?_
  have hcA : cA = Z.2.1 t := Option.some.inj (hNm.symm.trans (hfind _ (Cx.2.2.2.2.2.2.2.1.1.2 t _ ht).2))
  subst hcA
  refine kk H1 ?_ z1 o1
  rw [e1, vp_cell_i, hd]
theorem um_vnewi {N : Nat} {n : Int32} (Cx : um_C p s m meth c args cc nL ret own Z) (hn : ¬ n < 0) (hN : n.toNatClampNeg = N) (hbytes : N * 4 ≤ 536870912) (hcells : cells + 1 ≤ R.cells) (hslots : slots + N ≤ R.slots) (hdg : decode cc pc = .ok (.newarray .int, 2))
    (kk : ∀ H1 : Heap, H1[H.size]? = some (vp_cell (Z.2.1 0) (N, .inl (fun _ => 0))) → H1.size = H.size + 1 → (∀ q, q < H.size → H1[q]? = H[q]?) → W p l e R s m args below meth c H1 locs (cells + 1) (slots + N) Q (F0 m (pc + 2) ls (.ref H.size :: rest))) : W p l e R s m args below meth c H locs cells slots Q (F0 m pc ls (.int n :: rest)) :=
  um_vnewa (atype := .int) (t := 0) Cx qA_int rfl rfl (fun _ h => h) hn hN hbytes hcells hslots hdg kk
theorem um_vnewb {N : Nat} {n : Int32} (Cx : um_C p s m meth c args cc nL ret own Z) (hn : ¬ n < 0) (hN : n.toNatClampNeg = N) (hbytes : N * 1 ≤ 536870912) (hcells : cells + 1 ≤ R.cells) (hslots : slots + N ≤ R.slots) (hdg : decode cc pc = .ok (.newarray .byte, 2))
    (kk : ∀ H1 : Heap, H1[H.size]? = some (vp_cell (Z.2.1 1) (N, .inl (fun _ => 0))) → H1.size = H.size + 1 → (∀ q, q < H.size → H1[q]? = H[q]?) → W p l e R s m args below meth c H1 locs (cells + 1) (slots + N) Q (F0 m (pc + 2) ls (.ref H.size :: rest))) : W p l e R s m args below meth c H locs cells slots Q (F0 m pc ls (.int n :: rest)) :=
  um_vnewa (atype := .byte) (t := 1) Cx qA_byte rfl rfl (fun _ h => h) hn hN hbytes hcells hslots hdg kk
theorem um_vnewz {N : Nat} {n : Int32} (Cx : um_C p s m meth c args cc nL ret own Z) (hn : ¬ n < 0) (hN : n.toNatClampNeg = N) (hbytes : N * 1 ≤ 536870912) (hcells : cells + 1 ≤ R.cells) (hslots : slots + N ≤ R.slots) (hdg : decode cc pc = .ok (.newarray .boolean, 2))
    (kk : ∀ H1 : Heap, H1[H.size]? = some (vp_cell (Z.2.1 2) (N, .inl (fun _ => 0))) → H1.size = H.size + 1 → (∀ q, q < H.size → H1[q]? = H[q]?) → W p l e R s m args below meth c H1 locs (cells + 1) (slots + N) Q (F0 m (pc + 2) ls (.ref H.size :: rest))) : W p l e R s m args below meth c H locs cells slots Q (F0 m pc ls (.int n :: rest)) :=
  um_vnewa (atype := .boolean) (t := 2) Cx qA_boolean rfl rfl (fun _ h => h) hn hN hbytes hcells hslots hdg kk
/-- an object, all of its fields as they begin -/
theorem um_vnew {C : String} {T : u_T} {N ci index : Nat} {fs : List Value} (Cx : um_C p s m meth c args cc nL ret own Z) (hin : ∀ w ∈ u_ws C T N, w ∈ WG) (ty : Nat → FieldType) (hty : ∀ k, k < N → parseFieldDescriptor (T k).2.2.1 = some (ty k)) (hcl : Cond.classLink own index C ∈ WG) (hins : Cond.instantiable C N ∈ WG) (hini : Cond.initialized C ∈ WG) (hc : vwCl[ci]? = some (C, T, N)) (hfs : ∀ j, j < N → defaultValue (ty j) = vp_V fs j) (hcells : cells + 1 ≤ R.cells) (hslots : slots + N ≤ R.slots) (hdg : decode cc pc = .ok (.new index, 3))
    (kk : ∀ H1 : Heap, va_at Z.1 vwCl (H.size, .inr (ci, fs)) H1 → H1.size = H.size + 1 → (∀ q, q < H.size → H1[q]? = H[q]?) → W p l e R s m args below meth c H1 locs (cells + 1) (slots + N) Q (F0 m (pc + 3) ls (.ref H.size :: rest))) : W p l e R s m args below meth c H locs cells slots Q (F0 m pc ls rest) := by
  obtain ⟨hx, hb, -, -, hown, hts, -, hE, -⟩ := Cx
  have hKn := hE.1.1 ci _ hc
  refine W.newcK hx hb hown (hts _ hcl) (hts _ hins) (hts _ hini) rfl hdg hcells hslots hKn.2.1 rfl fun H1 kC hkC e1 z1 o1 => ?_
  exact kk H1 ⟨_, hc, (u_born ty hts hin hKn hkC e1 hty).to hfs⟩ z1 o1
/-- a final field of the object that is being made -/
theorem um_vput {ref C : String} {T : u_T} {N ci index h0 : Nat} {fs : List Value} {v : Value} {ty : FieldType} (Cx : um_C p s m meth c args cc nL ret own Z) (hat : va_at Z.1 vwCl (h0, .inr (ci, fs)) H) (hin : ∀ w ∈ u_ws C T N, w ∈ WG) (ty0 : Nat → FieldType) (hty : ∀ k, k < N → parseFieldDescriptor (T k).2.2.1 = some (ty0 k)) (hnm : ∀ a, a < N → ∀ b, b < N → a ≠ b → (T a).2.1 ≠ (T b).2.1) (hc : vwCl[ci]? = some (C, T, N)) (j : Nat) (hj : j < N)
    (hlink : Cond.fieldLink own index ref (T j).2.1 (T j).2.2.1 ∈ WG) (href : (T j).1 = ref) (hfin : (T j).2.2.2 = true) (hin2 : meth.name = "<init>") (hdecl : (T j).1 = own) (hd : parseFieldDescriptor (T j).2.2.1 = some ty) (hn : narrow ty v = v) (hfit : fits ty v = true) (hl : j < fs.length) (hdg : decode cc pc = .ok (.putfield index, 3))
    (kk : ∀ (H1 : Heap) (i : Nat), va_at Z.1 vwCl (h0, .inr (ci, fs.set j v)) H1 → H1.size = H.size → (∀ q, q ≠ h0 → H1[q]? = H[q]?) → W p l e R s m args below meth c H1 (locs ++ [⟨h0, i⟩]) cells slots Q (F0 m (pc + 3) ls rest)) : W p l e R s m args below meth c H locs cells slots Q (F0 m pc ls (v :: .ref h0 :: rest)) := by
  obtain ⟨hx, hb, -, -, hown, hts, -, hE, -⟩ := Cx
  have hK := hE.1
  have hap := va_apart (own := own) hts hin ty0 hty hnm hK hc
  obtain ⟨r, h1, cell, q1, q2, q3, q4⟩ := hat
  have hr : r = (C, T, N) := Option.some.inj (h1.symm.trans hc)
  subst hr
  obtain ⟨hSl, hfc, kC, hkC, hkind⟩ := hK.1 ci _ hc
  obtain ⟨cf, kf, fi, f, hi, hsl⟩ := hSl j hj
  have hlay := hts _ (hin _ (u_in_lay hj))
  unfold u_lay at hlay
  rw [if_pos hfin] at hlay
  have hst := (u_facts hfc hkC (u_lays hts hin hj) hi).1
  have hcf : m.cls = cf := by
    obtain ⟨_, _, c', _, _, _, -, -, hf', -, -, -, hown2, -⟩ := Cond.laysFinal_spec hlay
    have e1 : c' = cf := by have := hi.symm.trans hf'; simp at this; exact this.1.symm
    rw [hdecl] at hown2
    rw [← e1]; exact Option.some.inj (hown.symm.trans hown2)
  have h6 := u_fits hfc hkC hkind (Or.inr hlay) hi hd hn hfit
  have hi' : s.fieldFound? ref (T j).2.1 (T j).2.2.1 = some (cf, kf, fi, f) := by rw [← href]; exact hi
  refine W.putFinK hx hb hown (hts _ hlink) hi' hst hcf hin2 (by rw [q2]; exact h6) q1 q3 (by rw [hsl]; exact k2_hasslot (q4 j hj)) rfl rfl hdg fun H' e1 e2 e3 => ?_
  rw [hsl] at e1 ⊢
  exact kk H' _ ⟨_, hc, t_OB.to (V := updV (vp_V fs) j v) ⟨_, e1, q2, q3, t_set q4 hap hj v⟩ (fun i _ => vp_updV_set hl v i)⟩ e2 e3
end UMN
