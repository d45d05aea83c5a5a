/-! CONTRACTS OF METHODS THAT MAKE CELLS; reach -/
def um_PreA (Z : um_Z) (sh : Nat → Option um_Sh) (α : Nat → Nat) (σ : um_S) (av : List Value) (sz : Nat) : Array Value → State → Prop := fun v U => um_Pre Z sh α σ av v U ∧ U.heap.size = sz ∧ Z.2.2.1 ≤ sz
def um_PostA (Z : um_Z) (sh : Nat → Option um_Sh) (α : Nat → Nat) (σ : um_S) (rv : Option Value) (sz : Nat) : Array Value → State → Outcome → State → Prop := fun _ st oc t => oc = .returned rv ∧ um_W Z sh α σ t.heap ∧ va_F (um_DA sh α sz) st t
def um_MA (l : Launch) (y : MethodName) (cc : ByteArray) (nL : Nat) (ret : Option FieldType) (F L mc ms : Nat) (Z : um_Z) (sh : Nat → Option um_Sh) (α : Nat → Nat) (σ : um_S) (av : List Value) (rv : Option Value) (σ' : um_S) (sz : Nat) : Prop :=
  Met l y (Cond.code y cc nL ret :: WG) { frames := F, cells := mc, slots := ms, locals := L } (um_PreA Z sh α σ av sz) (um_PostA Z sh α σ' rv sz) mc ms (um_DA sh α sz)
theorem um_startA {l : Launch} {y : MethodName} {cc : ByteArray} {nL : Nat} {ret : Option FieldType} {F L mc ms : Nat} {Z : um_Z} {sh : Nat → Option um_Sh} {α : Nat → Nat} {σ : um_S} {av : List Value} {sz : Nat} {Qc : Array Value → State → Outcome → State → Prop} {fr : Nat → Prop} (hy : plainName y.cls = true) (hn : (lg_sl av).length ≤ nL)
    (body : ∀ (p : Program) (e : Env) (s : State) (m : MethodId) (below : List Frame) (meth : Method) (c : Code) (ls : Array Slot), um_C p s m meth c av.toArray cc nL ret y.cls Z → s.heap.size = sz → Z.2.2.1 ≤ sz → um_W Z sh α σ s.heap → lv_has ls nL (lv_args 0 av) →
      W p l e { frames := F, cells := mc, slots := ms, locals := L } s m av.toArray below meth c s.heap [] 0 0 (MQ below Qc av.toArray s mc ms fr) (F0 m 0 ls [])) : Met l y (Cond.code y cc nL ret :: WG) { frames := F, cells := mc, slots := ms, locals := L } (um_PreA Z sh α σ av sz) Qc mc ms fr := by
  refine Met.ofW (cc := cc) (maxL := nL) (ret := ret) hy rfl ?_
  intro p e s m args below meth c s₁ B hml hv
  obtain ⟨⟨rfl, hE, hSt, hW⟩, hsz, hbs⟩ := hv
  have hts := atoms_spec (ws := Cond.code y cc nL ret :: WG) B.pre
  have hown : s.vm.findClass y.cls = some m.cls := findClass_of_methodNamed B.named
  have hl := lv_entry av (n := nL) hn
  rw [lg_entry_eq]
  exact body p e s m below meth c _ ⟨B.exec, B.bytes, B.returns, hml, hown, fun w hw => hts w (List.mem_cons_of_mem _ hw), B.notSynchronized, hE, hSt⟩ hsz hbs hW hl
theorem um_zr_ne {σ : um_S} {k j : Nat} (h : j ≠ k) : (um_zr σ k).1 j = σ.1 j := by
  funext b
  simp [um_zr, h]
theorem um_zr_eq {σ : um_S} {k : Nat} : (um_zr σ k).1 k = fun _ => 0 := by
  funext b
  simp [um_zr]
section GFN
variable {p : Program} {l : Launch} {e : Env} {R : Room} {s : State} {m : MethodId} {args : Array Value} {below : List Frame} {meth : Method} {c : Code} {H : Heap} {locs : List Loc} {cells slots : Nat} {Q : State → Prop}
variable {cc : ByteArray} {nL pc : Nat} {ret : Option FieldType} {Z : um_Z} {sh : Nat → Option um_Sh} {α : Nat → Nat} {σ : um_S} {ls : Array Slot} {rest : List Value}
end GFN
theorem kS_X3_shorten : um_kS yX3_shorten cX3_shorten 5 none 2 := ⟨qT_X3_shorten, qN_X3, qK_X3_shorten, by decide +kernel⟩
section TTR
variable {p : Program} {l : Launch} {e : Env} {s : State} {m : MethodId} {args : Array Value} {below : List Frame} {meth : Method} {c : Code} {Z : um_Z} {α : Nat → Nat} {sh : Nat → Option um_Sh}
noncomputable def f_X3_reached_l8 (h0 : Nat) (v1 : Int32) (v2 : Int32) : Nat → Int32 → um_S → Option (um_S)
  | 0, _, _ => none
  | n + 1, v4, σ =>
    if (nI 6) ≤ v4 then
    (some σ)
    else
    (if v4 = v1 then
    (if um_ix v4 6 then
    (um_let (um_wr σ 200 v4.toNatClampNeg (0 : Int32)) fun σ5 =>
    (f_X3_reached_l8 h0 v1 v2 n (v4 + (1 : Int32)) σ5)) else none)
    else
    (if um_ix v4 6 then
    (um_let (um_wr σ 200 v4.toNatClampNeg (1000000 : Int32)) fun σ2 =>
    (f_X3_reached_l8 h0 v1 v2 n (v4 + (1 : Int32)) σ2)) else none))
noncomputable def f_X3_reached_l40 (h0 : Nat) (v2 : Int32) : Nat → Int32 → um_S → Option (um_S)
  | 0, _, _ => none
  | n + 1, v4, σ =>
    if (6 : Int32) ≤ v4 then
    (some σ)
    else
    ((f_X3_shorten h0 200 σ).bind fun σ2 =>
    (f_X3_reached_l40 h0 v2 n (v4 + (1 : Int32)) σ2))
noncomputable def f_X3_reached_l64 (h0 : Nat) (v2 : Int32) (σ : um_S) : Nat → Int32 → Int32 → Option (Int32)
  | 0, _, _ => none
  | n + 1, v4, v5 =>
    if (nI 6) ≤ v5 then
    (some v4)
    else
    (if um_ix v5 6 then
    (if v2 < (σ.1 200 v5.toNatClampNeg) then
    (f_X3_reached_l64 h0 v2 σ n v4 (v5 + (1 : Int32)))
    else
    (um_let (v4 ||| ((1 : Int32) <<< (v5 &&& 31))) fun x2 =>
    (f_X3_reached_l64 h0 v2 σ n x2 (v5 + (1 : Int32))))) else none)
noncomputable def f_X3_reached (h0 : Nat) (a1 : Int32) (a2 : Int32) (σ : um_S) : Option (Int32 × um_S) :=
    (f_X3_reached_l8 h0 a1 a2 um_N (0 : Int32) σ).bind fun σ1 =>
    ((f_X3_reached_l40 h0 a2 um_N (1 : Int32) σ1).bind fun σ3 =>
    ((f_X3_reached_l64 h0 a2 σ3 um_N (0 : Int32) (0 : Int32)).bind fun x5 =>
    (some (x5, σ3))))
set_option maxRecDepth 100000 in
set_option maxHeartbeats 4000000 in
theorem t_X3_reached_l8 {Q : State → Prop} {σo : um_S} (h0 : Nat) (v1 : Int32) (v2 : Int32) (hh0 : xT h0 = true) (hh3 : sh 200 = some (.inl (0, some 6))) (hX : um_X sh) (Cx : um_C p s m meth c args cX3_reached 6 (some FieldType.int) RX3 Z) (hE : ∀ (H : Heap) (locs : List Loc) (ls : Array Slot), um_W Z sh α σo H → va_S (um_D sh α) s.heap H locs → lv_has ls 6 [(0, .ref (α h0)), (2, .int v2), (3, .ref (α 200))] → W p l e { frames := 2, cells := 1, slots := 6, locals := 48 } s m args below meth c H locs (0 + 1) (0 + 6) Q (F0 m 37 ls [])) : ∀ (n : Nat) (v4 : Int32) (σ : um_S) (H : Heap) (locs : List Loc) (ls : Array Slot), f_X3_reached_l8 h0 v1 v2 n v4 σ = some σo → um_W Z sh α σ H → va_S (um_D sh α) s.heap H locs → lv_has ls 6 [(0, .ref (α h0)), (1, .int v1), (2, .int v2), (3, .ref (α 200)), (4, .int v4)] → W p l e { frames := 2, cells := 1, slots := 6, locals := 48 } s m args below meth c H locs (0 + 1) (0 + 6) Q (F0 m 8 ls []) := by
  have hx := Cx.1
  have hb := Cx.2.1
  have hown := Cx.2.2.2.2.1
  have hts := Cx.2.2.2.2.2.1
  intro n
  induction n with
  | zero =>
    intro v4 σ H locs ls hf hW hS hl
    cases hf
  | succ n ih =>
    intro v4 σ H locs ls hf hW hS hl
    rw [f_X3_reached_l8] at hf
    refine lv_iload (pc := 8) hx hb dX3_reached_8 (lv_at hl 4 rfl) ?_
    refine lv_aload_n (pc := 10) hx hb dX3_reached_10 rfl (lv_at hl 3 rfl) ?_
    refine um_alen (pc := 11) (n := 6) Cx hW hh3 rfl (by decide) dX3_reached_11 ?_
    refine lv_icmp_ge (pc := 12) (tgt := 37) hx hb dX3_reached_12 (by decide) (fun c1 => ?_) (fun c1 => ?_)
    · have hf := um_it c1 hf
      clear c1
      cases hf
      exact hE _ _ _ hW hS (lv_sub hl [0, 2, 3] rfl)
    · have hf := um_ie c1 hf
      clear c1
      refine lv_aload_n (pc := 15) hx hb dX3_reached_15 rfl (lv_at hl 3 rfl) ?_
      refine lv_iload (pc := 16) hx hb dX3_reached_16 (lv_at hl 4 rfl) ?_
      refine lv_iload (pc := 18) hx hb dX3_reached_18 (lv_at hl 4 rfl) ?_
      refine lv_iload_n (pc := 20) hx hb dX3_reached_20 rfl (lv_at hl 1 rfl) ?_
      refine lv_icmp_ne (pc := 21) (tgt := 28) hx hb dX3_reached_21 (by decide) (fun c1 => ?_) (fun c1 => ?_)
      · have hf := um_ie c1 hf
        clear c1
        refine lv_ldc (pc := 28) hx hb hown (hts _ qC_X3_11) dX3_reached_28 ?_
        obtain ⟨g1, hf⟩ := um_gu hf
        refine um_iast (pc := 30) Cx hW hS hh3 rfl (um_ix_in g1) dX3_reached_30 ?_
        clear hW hS
        intro H locs hW hS
        obtain ⟨σ2, e3, hf⟩ := um_le hf
        rw [← e3] at hW
        clear e3
        refine lv_iinc (pc := 31) (v := v4 + (1 : Int32)) (lv' := [(4, .int (v4 + (1 : Int32))), (0, .ref (α h0)), (1, .int v1), (2, .int v2), (3, .ref (α 200))]) hx hb dX3_reached_31 hl (k := 4) rfl rfl (by decide) rfl ?_
        clear hl
        intro ls hl
        refine lv_goto (pc := 34) (tgt := 8) hx hb dX3_reached_34 (by decide) ?_
        exact ih _ _ _ _ _ hf hW hS (lv_sub hl [1, 2, 3, 4, 0] rfl)
      · have hf := um_it c1 hf
        clear c1
        refine lv_iconst (pc := 24) (v := (0 : Int32)) hx hb dX3_reached_24 (by decide) ?_
        refine lv_goto (pc := 25) (tgt := 30) hx hb dX3_reached_25 (by decide) ?_
        obtain ⟨g4, hf⟩ := um_gu hf
        refine um_iast (pc := 30) Cx hW hS hh3 rfl (um_ix_in g4) dX3_reached_30 ?_
        clear hW hS
        intro H locs hW hS
        obtain ⟨σ5, e6, hf⟩ := um_le hf
        rw [← e6] at hW
        clear e6
        refine lv_iinc (pc := 31) (v := v4 + (1 : Int32)) (lv' := [(4, .int (v4 + (1 : Int32))), (0, .ref (α h0)), (1, .int v1), (2, .int v2), (3, .ref (α 200))]) hx hb dX3_reached_31 hl (k := 4) rfl rfl (by decide) rfl ?_
        clear hl
        intro ls hl
        refine lv_goto (pc := 34) (tgt := 8) hx hb dX3_reached_34 (by decide) ?_
        exact ih _ _ _ _ _ hf hW hS (lv_sub hl [1, 2, 3, 4, 0] rfl)
set_option maxRecDepth 100000 in
set_option maxHeartbeats 4000000 in
theorem t_X3_reached_l40 {Q : State → Prop} {σo : um_S} (h0 : Nat) (v2 : Int32) (hh0 : xT h0 = true) (hh3 : sh 200 = some (.inl (0, some 6))) (hX : um_X sh) (Cx : um_C p s m meth c args cX3_reached 6 (some FieldType.int) RX3 Z) (hE : ∀ (H : Heap) (locs : List Loc) (ls : Array Slot), um_W Z sh α σo H → va_S (um_D sh α) s.heap H locs → lv_has ls 6 [(2, .int v2), (3, .ref (α 200))] → W p l e { frames := 2, cells := 1, slots := 6, locals := 48 } s m args below meth c H locs (0 + 1) (0 + 6) Q (F0 m 58 ls [])) : ∀ (n : Nat) (v4 : Int32) (σ : um_S) (H : Heap) (locs : List Loc) (ls : Array Slot), f_X3_reached_l40 h0 v2 n v4 σ = some σo → um_W Z sh α σ H → va_S (um_D sh α) s.heap H locs → lv_has ls 6 [(0, .ref (α h0)), (2, .int v2), (3, .ref (α 200)), (4, .int v4)] → W p l e { frames := 2, cells := 1, slots := 6, locals := 48 } s m args below meth c H locs (0 + 1) (0 + 6) Q (F0 m 40 ls []) := by
  have hx := Cx.1
  have hb := Cx.2.1
  have hown := Cx.2.2.2.2.1
  have hts := Cx.2.2.2.2.2.1
  intro n
  induction n with
  | zero =>
    intro v4 σ H locs ls hf hW hS hl
    cases hf
  | succ n ih =>
    intro v4 σ H locs ls hf hW hS hl
    rw [f_X3_reached_l40] at hf
    refine lv_iload (pc := 40) hx hb dX3_reached_40 (lv_at hl 3 rfl) ?_
    refine lv_bipush (pc := 42) (v := (6 : Int32)) hx hb dX3_reached_42 (by decide) ?_
    refine lv_icmp_ge (pc := 44) (tgt := 58) hx hb dX3_reached_44 (by decide) (fun c1 => ?_) (fun c1 => ?_)
    · have hf := um_it c1 hf
      clear c1
      cases hf
      exact hE _ _ _ hW hS (lv_sub hl [1, 2] rfl)
    · have hf := um_ie c1 hf
      clear c1
      refine lv_aload_n (pc := 47) hx hb dX3_reached_47 rfl (lv_at hl 0 rfl) ?_
      refine lv_aload_n (pc := 48) hx hb dX3_reached_48 rfl (lv_at hl 2 rfl) ?_
      obtain ⟨σ2, hc1, hf⟩ := um_bi hf
      refine um_cSv (pc := 49) (As := [.ref (α h0), .ref (α 200)]) (rest := []) Cx (c_X3_shorten h0 200 hh0 hh3 hX hc1) kS_X3_shorten (Or.inl qM_X3_12) hW hS rfl hl rfl (Nat.le_of_ble_eq_true rfl) (Nat.le_of_ble_eq_true rfl) (Nat.le_of_ble_eq_true rfl) dX3_reached_49 (Nat.le_refl _) (Nat.le_refl _) ?_
      clear hW hS hc1
      intro H locs hW hS
      refine lv_iinc (pc := 52) (v := v4 + (1 : Int32)) (lv' := [(4, .int (v4 + (1 : Int32))), (0, .ref (α h0)), (2, .int v2), (3, .ref (α 200))]) hx hb dX3_reached_52 hl (k := 3) rfl rfl (by decide) rfl ?_
      clear hl
      intro ls hl
      refine lv_goto (pc := 55) (tgt := 40) hx hb dX3_reached_55 (by decide) ?_
      exact ih _ _ _ _ _ hf hW hS (lv_sub hl [1, 2, 3, 0] rfl)
set_option maxRecDepth 100000 in
set_option maxHeartbeats 4000000 in
theorem t_X3_reached_l64 {Q : State → Prop} {o4 : Int32} {σ : um_S} (h0 : Nat) (v2 : Int32) (hh0 : xT h0 = true) (hh3 : sh 200 = some (.inl (0, some 6))) (hX : um_X sh) (Cx : um_C p s m meth c args cX3_reached 6 (some FieldType.int) RX3 Z) (hE : ∀ (H : Heap) (locs : List Loc) (ls : Array Slot), um_W Z sh α σ H → va_S (um_D sh α) s.heap H locs → lv_has ls 6 [(4, .int o4)] → W p l e { frames := 2, cells := 1, slots := 6, locals := 48 } s m args below meth c H locs (0 + 1) (0 + 6) Q (F0 m 94 ls [])) : ∀ (n : Nat) (v4 : Int32) (v5 : Int32) (H : Heap) (locs : List Loc) (ls : Array Slot), f_X3_reached_l64 h0 v2 σ n v4 v5 = some o4 → um_W Z sh α σ H → va_S (um_D sh α) s.heap H locs → lv_has ls 6 [(2, .int v2), (3, .ref (α 200)), (4, .int v4), (5, .int v5)] → W p l e { frames := 2, cells := 1, slots := 6, locals := 48 } s m args below meth c H locs (0 + 1) (0 + 6) Q (F0 m 64 ls []) := by
  have hx := Cx.1
  have hb := Cx.2.1
  have hown := Cx.2.2.2.2.1
  have hts := Cx.2.2.2.2.2.1
  intro n
  induction n with
  | zero =>
    intro v4 v5 H locs ls hf hW hS hl
    cases hf
  | succ n ih =>
    intro v4 v5 H locs ls hf hW hS hl
    rw [f_X3_reached_l64] at hf
    refine lv_iload (pc := 64) hx hb dX3_reached_64 (lv_at hl 3 rfl) ?_
    refine lv_aload_n (pc := 66) hx hb dX3_reached_66 rfl (lv_at hl 1 rfl) ?_
    refine um_alen (pc := 67) (n := 6) Cx hW hh3 rfl (by decide) dX3_reached_67 ?_
    refine lv_icmp_ge (pc := 68) (tgt := 94) hx hb dX3_reached_68 (by decide) (fun c1 => ?_) (fun c1 => ?_)
    · have hf := um_it c1 hf
      clear c1
      cases hf
      exact hE _ _ _ hW hS (lv_sub hl [2] rfl)
    · have hf := um_ie c1 hf
      clear c1
      refine lv_aload_n (pc := 71) hx hb dX3_reached_71 rfl (lv_at hl 1 rfl) ?_
      refine lv_iload (pc := 72) hx hb dX3_reached_72 (lv_at hl 3 rfl) ?_
      obtain ⟨g1, hf⟩ := um_gu hf
      refine um_iald (pc := 74) Cx hW hh3 rfl (um_ix_in g1) dX3_reached_74 ?_
      refine lv_iload_n (pc := 75) hx hb dX3_reached_75 rfl (lv_at hl 0 rfl) ?_
      refine lv_icmp_gt (pc := 76) (tgt := 88) hx hb dX3_reached_76 (by decide) (fun c1 => ?_) (fun c1 => ?_)
      · have hf := um_it c1 hf
        clear c1
        refine lv_iinc (pc := 88) (v := v5 + (1 : Int32)) (lv' := [(5, .int (v5 + (1 : Int32))), (2, .int v2), (3, .ref (α 200)), (4, .int v4)]) hx hb dX3_reached_88 hl (k := 3) rfl rfl (by decide) rfl ?_
        clear hl
        intro ls hl
        refine lv_goto (pc := 91) (tgt := 64) hx hb dX3_reached_91 (by decide) ?_
        exact ih _ _ _ _ _ hf hW hS (lv_sub hl [1, 2, 3, 0] rfl)
      · have hf := um_ie c1 hf
        clear c1
        refine lv_iload (pc := 79) hx hb dX3_reached_79 (lv_at hl 2 rfl) ?_
        refine lv_iconst (pc := 81) (v := (1 : Int32)) hx hb dX3_reached_81 (by decide) ?_
        refine lv_iload (pc := 82) hx hb dX3_reached_82 (lv_at hl 3 rfl) ?_
        refine lv_ishl (pc := 84) hx hb dX3_reached_84 ?_
        refine lv_ior (pc := 85) hx hb dX3_reached_85 ?_
        obtain ⟨x2, e3, hf⟩ := um_le hf
        refine um_top e3 ?_
        clear e3
        refine lv_istore (pc := 86) (lv' := [(4, .int x2), (2, .int v2), (3, .ref (α 200)), (5, .int v5)]) hx hb dX3_reached_86 hl (by decide) rfl ?_
        clear hl
        intro ls hl
        refine lv_iinc (pc := 88) (v := v5 + (1 : Int32)) (lv' := [(5, .int (v5 + (1 : Int32))), (4, .int x2), (2, .int v2), (3, .ref (α 200))]) hx hb dX3_reached_88 hl (k := 3) rfl rfl (by decide) rfl ?_
        clear hl
        intro ls hl
        refine lv_goto (pc := 91) (tgt := 64) hx hb dX3_reached_91 (by decide) ?_
        exact ih _ _ _ _ _ hf hW hS (lv_sub hl [2, 3, 1, 0] rfl)
set_option maxRecDepth 100000 in
set_option maxHeartbeats 4000000 in
theorem tt_X3_reached {Q : State → Prop} {H : Heap} {locs : List Loc} {ls : Array Slot} {σ σo : um_S} {r : Int32} (h0 : Nat) (a1 : Int32) (a2 : Int32) (hh0 : xT h0 = true) (hh3 : sh 200 = some (.inl (0, some 6))) (hX : um_X sh) (hf : f_X3_reached h0 a1 a2 σ = some (r, σo)) (Cx : um_C p s m meth c args cX3_reached 6 (some FieldType.int) RX3 Z) (hE : ∀ (H : Heap) (locs : List Loc) (ls : Array Slot), um_W Z sh α σo H → va_S (um_D sh α) s.heap H locs → lv_has ls 6 [(4, .int r)] → W p l e { frames := 2, cells := 1, slots := 6, locals := 48 } s m args below meth c H locs (0 + 1) (0 + 6) Q (F0 m 94 ls [])) (hW : um_W Z sh α σ H) (hS : va_S (um_D sh α) s.heap H locs) (hl : lv_has ls 6 [(0, .ref (α h0)), (1, .int a1), (2, .int a2), (3, .ref (α 200))]) : W p l e { frames := 2, cells := 1, slots := 6, locals := 48 } s m args below meth c H locs (0 + 1) (0 + 6) Q (F0 m 5 ls []) := by
  have hx := Cx.1
  have hb := Cx.2.1
  have hown := Cx.2.2.2.2.1
  have hts := Cx.2.2.2.2.2.1
  rw [f_X3_reached] at hf
  refine lv_iconst (pc := 5) (v := (0 : Int32)) hx hb dX3_reached_5 (by decide) ?_
  refine lv_istore (pc := 6) (lv' := [(4, .int (0 : Int32)), (0, .ref (α h0)), (1, .int a1), (2, .int a2), (3, .ref (α 200))]) hx hb dX3_reached_6 hl (by decide) rfl ?_
  clear hl
  intro ls hl
  obtain ⟨σ1, hc2, hf⟩ := um_bi hf
  refine t_X3_reached_l8 h0 a1 a2 hh0 hh3 hX Cx ?_ um_N _ _ _ _ _ hc2 hW hS (lv_sub hl [1, 2, 3, 4, 0] rfl)
  clear hW hS hl hc2
  intro H locs ls hW hS hl
  refine lv_iconst (pc := 37) (v := (1 : Int32)) hx hb dX3_reached_37 (by decide) ?_
  refine lv_istore (pc := 38) (lv' := [(4, .int (1 : Int32)), (0, .ref (α h0)), (2, .int a2), (3, .ref (α 200))]) hx hb dX3_reached_38 hl (by decide) rfl ?_
  clear hl
  intro ls hl
  obtain ⟨σ3, hc4, hf⟩ := um_bi hf
  refine t_X3_reached_l40 h0 a2 hh0 hh3 hX Cx ?_ um_N _ _ _ _ _ hc4 hW hS (lv_sub hl [1, 2, 3, 0] rfl)
  clear hW hS hl hc4
  intro H locs ls hW hS hl
  refine lv_iconst (pc := 58) (v := (0 : Int32)) hx hb dX3_reached_58 (by decide) ?_
  refine lv_istore (pc := 59) (lv' := [(4, .int (0 : Int32)), (2, .int a2), (3, .ref (α 200))]) hx hb dX3_reached_59 hl (by decide) rfl ?_
  clear hl
  intro ls hl
  refine lv_iconst (pc := 61) (v := (0 : Int32)) hx hb dX3_reached_61 (by decide) ?_
  refine lv_istore (pc := 62) (lv' := [(5, .int (0 : Int32)), (4, .int (0 : Int32)), (2, .int a2), (3, .ref (α 200))]) hx hb dX3_reached_62 hl (by decide) rfl ?_
  clear hl
  intro ls hl
  obtain ⟨x5, hc6, hf⟩ := um_bi hf
  refine t_X3_reached_l64 h0 a2 hh0 hh3 hX Cx ?_ um_N _ _ _ _ _ hc6 hW hS (lv_sub hl [2, 3, 1, 0] rfl)
  clear hW hS hl hc6
  intro H locs ls hW hS hl
  cases hf
  exact hE _ _ _ hW hS hl
end TTR

section RCH
variable {l : Launch} {Z : um_Z} {sh : Nat → Option um_Sh} {α : Nat → Nat} {σ σo : um_S} {sz : Nat} {r : Int32}
set_option maxRecDepth 100000 in
set_option maxHeartbeats 4000000 in
theorem c_X3_reached (h0 : Nat) (a1 a2 : Int32) (hh0 : xT h0 = true) (hX : um_X sh) (hcl : um_cl sh) (h200 : sh 200 = none) (hf : f_X3_reached h0 a1 a2 (um_zr σ 200) = some (r, σo)) : um_MA l yX3_reached cX3_reached 6 (some .int) 2 48 1 6 Z sh α σ [.ref (α h0), .int a1, .int a2] (some (.int r)) σo sz := by
  refine um_startA (by decide) (Nat.le_of_ble_eq_true rfl) ?_
  intro p e s m below meth c ls Cx hsz hbs hW hl
  have hx := Cx.1
  have hb := Cx.2.1
  have hl : lv_has ls 6 [(0, .ref (α h0)), (1, .int a1), (2, .int a2)] := hl
  have hne : h0 ≠ 200 := fun h => by rw [h] at hh0; exact absurd hh0 (by decide)
  have ne : ∀ {i u}, sh i = some u → i ≠ 200 := fun {i u} hi e => by rw [e, h200] at hi; cases hi
  refine lv_bipush (pc := 0) (v := (6 : Int32)) hx hb dX3_reached_0 (by decide) ?_
  refine um_vnewi (pc := 2) (N := 6) Cx (by decide) (by decide) (by decide) (Nat.le_of_ble_eq_true rfl) (Nat.le_of_ble_eq_true rfl) dX3_reached_2 (fun H1 hc z o => ?_)
  have hW1 : um_W Z (um_sx sh 200 (.inl (0, some 6))) (um_ax α 200 s.heap.size) (um_zr σ 200) H1 := (hW.kept (fun i u hi => o _ (hW.lt hi))).add hcl h200 (by omega) (fun i u hi e => by have := hW.lt hi; omega) (fun j u hj => um_zr_ne (ne hj)) rfl (fun _ _ _ => rfl) (by
    simp only [um_E, um_len, um_row, um_zr_eq]
    exact hc)
  have hS : va_S (um_D (um_sx sh 200 (.inl (0, some 6))) (um_ax α 200 s.heap.size)) s.heap H1 [] := va_S.rf.push (by omega) o
  refine lv_astore_n (pc := 4) (lv' := [(3, .ref s.heap.size), (0, .ref (α h0)), (1, .int a1), (2, .int a2)]) hx hb dX3_reached_4 rfl hl (by decide) rfl ?_
  clear hl
  intro ls hl
  have e1 : um_ax α 200 s.heap.size h0 = α h0 := um_ax_ne hne
  have e2 : um_ax α 200 s.heap.size 200 = s.heap.size := um_ax_eq _ _ _
  have e3 : ∀ i u, sh i = some u → um_ax α 200 s.heap.size i = α i := fun i u hi => um_ax_ne (ne hi)
  have hl : lv_has ls 6 [(3, .ref (um_ax α 200 s.heap.size 200)), (0, .ref (um_ax α 200 s.heap.size h0)), (1, .int a1), (2, .int a2)] := by rw [e1, e2]; exact hl
  have hX1 : um_X (um_sx sh 200 (.inl (0, some 6))) := fun k t hk => by
    have h1 := hX k t hk
    rw [um_sx_ne (ne h1)]
    exact h1
  refine tt_X3_reached h0 a1 a2 hh0 (um_sx_eq _ _ _) hX1 hf Cx ?_ hW1 hS (lv_sub hl [1, 2, 3, 0] rfl)
  intro H locs ls hW2 hS2 hl
  have hW3 : um_W Z sh α σo H := hW2.mono (fun i u hi => by rw [um_sx_ne (ne hi)]; exact hi) hcl (fun i u hi => (e3 i u hi).symm) (fun _ _ _ => rfl) (fun _ _ _ => rfl) (fun _ _ _ => rfl) (fun a b q hq => by
    obtain ⟨g1, g2, g3⟩ := hW2.2.2.2 a b q hq
    have n1 : q ≠ 200 := fun e => by rw [e, um_sx_eq] at g1; cases g1
    have n2 : q + 1 ≠ 200 := fun e => by rw [e, um_sx_eq] at g2; cases g2
    have n3 : q + 2 ≠ 200 := fun e => by rw [e, um_sx_eq] at g3; cases g3
    rw [um_sx_ne n1] at g1
    rw [um_sx_ne n2] at g2
    rw [um_sx_ne n3] at g3
    exact ⟨g1, g2, g3⟩)
  have hS3 : va_S (um_DA sh α sz) s.heap H locs := hS2.weak (fun q hq => by
    obtain ⟨k, u, hk, rfl⟩ := hq
    by_cases h2 : k = 200
    · rw [h2, e2, hsz]
      exact Or.inr (Nat.le_refl _)
    · rw [um_sx_ne h2] at hk
      rw [e3 k u hk]
      exact Or.inl ⟨k, u, hk, rfl⟩)
  refine lv_iload (pc := 94) hx hb dX3_reached_94 (lv_at hl 0 rfl) ?_
  exact W.iret Cx.1 Cx.2.1 Cx.2.2.1 (fun t ht hw => ⟨rfl, by rw [ht]; exact hW3, hS3.F ht⟩) hS3.2.2 dX3_reached_96 Cx.2.2.2.2.2.2.1
end RCH
