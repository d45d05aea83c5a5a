/-! calls of methods that make cells; X8_reach -/
theorem um_preA {p : Program} {s : State} {m : MethodId} {meth : Method} {c : Code} {args : Array Value} {cc : ByteArray} {nL : Nat} {ret : Option FieldType} {own : String} {Z : um_Z} {sh : Nat → Option um_Sh} {α : Nat → Nat} {σ : um_S} {H : Heap} {locs : List Loc} {av : List Value} {A : Nat → Prop}
    (Cx : um_C p s m meth c args cc nL ret own Z) (hW : um_W Z sh α σ H) (hS : va_S A s.heap H locs) (hAo : ∀ q, A q → um_old Z q) : ∀ U : State, U.heap = H → s.WarmedH U.vm → um_Pre Z sh α σ av av.toArray U := fun U hU hWm =>
  ⟨rfl, um_En.warm hWm Cx.2.2.2.2.2.2.2.1, um_St.warm hWm (fun a h1 h2 => by rw [hU]; exact hS.2.1 a h1 (fun z => h2 (hAo a z))) Cx.2.2.2.2.2.2.2.2, by rw [hU]; exact hW⟩
section UCA
variable {p : Program} {l : Launch} {e : Env} {R : Room} {s : State} {m : MethodId} {args : Array Value} {below : List Frame} {meth : Method} {c : Code} {H : Heap} {locs : List Loc} {cells slots : Nat} {Q : State → Prop}
variable {cc : ByteArray} {nL pc : Nat} {ret : Option FieldType} {own : String} {Z : um_Z} {sh : Nat → Option um_Sh} {α : Nat → Nat} {σ σ' : um_S} {ls : Array Slot} {rest st : List Value} {lv : List (Nat × Value)}
variable {y : MethodName} {bytes : ByteArray} {maxL n index F L mc ms sz : Nat} {ret' : Option FieldType} {As : List Value} {A fr : Nat → Prop} {Qc : Array Value → State → Outcome → State → Prop}
/-- any contract over a world, run: what it says, and the frame -/
theorem um_goX {H0 : Heap} {a : Array Value} {C : Option Value → Heap → Prop} (hr : va_Run p l e R s m args below meth c H locs cells slots mc ms (F0 m pc ls st) rest (Qc a) fr) (hS : va_S A H0 H locs) (hfr : ∀ q, fr q → A q) (hQ : ∀ (st₀ t : State) (v : Option Value), st₀.heap = H → Qc a st₀ (.returned v) t → C v t.heap ∧ va_F fr st₀ t)
    (kk : ∀ (v : Option Value) (H1 : Heap) (locs1 : List Loc), C v H1 → H.size ≤ H1.size → (∀ q, q < H.size → ¬ fr q → H1[q]? = H[q]?) → va_S A H0 H1 locs1 → W p l e R s m args below meth c H1 locs1 (cells + mc) (slots + ms) Q (F0 m (pc + 3) ls (v.toList ++ rest))) : W p l e R s m args below meth c H locs cells slots Q (F0 m pc ls st) := by
  intro T hT X
  obtain ⟨v, st₀, t, T', L, h0, X', hL, e1, e2, hq, stp⟩ := hr T hT X
  obtain ⟨hw, hz, hk⟩ := hQ st₀ t v h0 hq
  rw [h0] at hz hk
  obtain ⟨t2, a1, b1⟩ := kk v T'.heap (locs ++ L) (by rw [e1]; exact hw) (by rw [e1]; exact hz) (fun q h1 h2 => by rw [e1]; exact hk q h1 h2) ⟨Nat.le_trans hS.1 (by rw [e1]; exact hz), fun q h1 h2 => by rw [e1, hk q (Nat.lt_of_lt_of_le h1 hS.1) (fun z => h2 (hfr q z))]; exact hS.2.1 q h1 h2, fun q hq => by
      rcases List.mem_append.mp hq with h | h
      · exact hS.2.2 q h
      · exact hfr _ (hL q h)⟩ T' rfl X'
  exact ⟨t2, stp t2 a1, b1⟩
theorem um_blindA {av : List Value} : FrameBlind (um_PreA Z sh α σ av sz) := fun a U g mk h => ⟨um_blind a U g mk h.1, h.2⟩
theorem um_cSiA {r : Int32} (Cx : um_C p s m meth c args cc nL ret own Z) (hM : um_MA l y bytes maxL ret' F L mc ms Z sh α σ As (some (.int r)) σ' sz) (hk : um_kS y bytes maxL ret' n) (hl : Cond.methodLink own index y ∈ WG ∨ ∃ host, Cond.methodLinkNest own index y host ∈ um_nest)
    (hW : um_W Z sh α σ H) (hsz : H.size = sz) (hbs : Z.2.2.1 ≤ sz) (hS : va_S A s.heap H locs) (hAo : ∀ q, A q → um_old Z q) (hA : ∀ q, um_DA sh α sz q → A q) (hn : As.length = n) (hl0 : lv_has ls nL lv) (hst : st = As.reverse ++ rest) (hrm : (rest.map fun v => v.category).sum ≤ 8) (hR1 : F + 1 ≤ R.frames) (hR2 : 8 + (maxL + 11) + L ≤ R.locals) (hdg : decode cc pc = .ok (.invokestatic index, 3)) (hcs : cells + mc ≤ R.cells) (hss : slots + ms ≤ R.slots)
    (kk : ∀ (H1 : Heap) (locs1 : List Loc), um_W Z sh α σ' H1 → H.size ≤ H1.size → (∀ q, q < H.size → ¬ um_DA sh α sz q → H1[q]? = H[q]?) → va_S A s.heap H1 locs1 → W p l e R s m args below meth c H1 locs1 (cells + mc) (slots + ms) Q (F0 m (pc + 3) ls (.int r :: rest))) : W p l e R s m args below meth c H locs cells slots Q (F0 m pc ls st) := by
  obtain ⟨k1, k3, k4, hd⟩ := hk
  obtain ⟨hx, hb, hr, hml, hown, hts, hlk, hE, hSt⟩ := id Cx
  have hp : PreS s H (um_PreA Z sh α σ As sz) As := ⟨um_blindA, fun U hU hWm => ⟨um_preA Cx hW hS hAo U hU hWm, by rw [hU]; exact hsz, hbs⟩⟩
  have hQ : ∀ (st₀ t : State) (v : Option Value), st₀.heap = H → um_PostA Z sh α σ' (some (.int r)) sz As.toArray st₀ (.returned v) t → (v = some (.int r) ∧ um_W Z sh α σ' t.heap) ∧ va_F (um_DA sh α sz) st₀ t := fun st₀ t v _ h => ⟨⟨by have := h.1; cases this; rfl, h.2.1⟩, h.2.2⟩
  have kk' : ∀ (v : Option Value) (H1 : Heap) (locs1 : List Loc), (v = some (.int r) ∧ um_W Z sh α σ' H1) → H.size ≤ H1.size → (∀ q, q < H.size → ¬ um_DA sh α sz q → H1[q]? = H[q]?) → va_S A s.heap H1 locs1 → W p l e R s m args below meth c H1 locs1 (cells + mc) (slots + ms) Q (F0 m (pc + 3) ls (v.toList ++ rest)) := fun v H1 locs1 hv h1 h2 h3 => by
    obtain ⟨rfl, hw⟩ := hv
    exact kk H1 locs1 hw h1 h2 h3
  rcases hl with hl | ⟨host, hl⟩
  · exact um_goX (C := fun v H1 => v = some (.int r) ∧ um_W Z sh α σ' H1) (va_runS (As := As) (rest := rest) (Ts := WG) (own := own) ⟨hx, hb, hml, hown, hts⟩ hM ⟨callB_of n hts (um_goodIn k4) rfl rfl rfl (hts _ k3) (hts _ hl) hd ⟨hR1, hR2⟩, hts _ k1⟩ hp rfl hn hl0.1 hst (lv_room hrm) hdg ⟨hcs, hss⟩) hS hA hQ kk'
  · exact um_goX (C := fun v H1 => v = some (.int r) ∧ um_W Z sh α σ' H1) (va_runSN (As := As) (rest := rest) (Ts := WG) (own := own) ⟨hx, hb, hml, hown, hts⟩ hM ⟨va_cnB n hts (um_goodIn k4) rfl rfl rfl (hE.2.1 _ hl) (hts _ k3) hd ⟨hR1, hR2⟩, hts _ k1, trivial⟩ hp rfl hn hl0.1 hst (lv_room hrm) hdg ⟨hcs, hss⟩) hS hA hQ kk'
theorem um_iretA {v : Int32} (Cx : um_C p s m meth c args cc nL (some .int) own Z) (hW : um_W Z sh α σ H) (hS : va_S (um_DA sh α sz) s.heap H locs) (hdg : decode cc pc = .ok (.ireturn, 1)) : W p l e R s m args below meth c H locs cells slots (MQ below (um_PostA Z sh α σ (some (.int v)) sz) args s cells slots (um_DA sh α sz)) (F0 m pc ls [.int v]) :=
  W.iret Cx.1 Cx.2.1 Cx.2.2.1 (fun t ht hw => ⟨rfl, by rw [ht]; exact hW, hS.F ht⟩) hS.2.2 hdg Cx.2.2.2.2.2.2.1
end UCA
theorem kS_X3_reached : um_kS yX3_reached cX3_reached 6 (some .int) 3 := ⟨qT_X3_reached, qN_X3, qK_X3_reached, by decide +kernel⟩
noncomputable def f_X8_reach (a1 a2 : Int32) (σ : um_S) : Option (Int32 × um_S) :=
  (f_X8_isPlace a1 σ).bind fun x =>
  if um_b x = 0 then some ((-1000000001 : Int32), σ) else
  (f_X8_within a2 (0 : Int32) (99 : Int32) σ).bind fun x2 =>
  if um_b x2 = 0 then some ((-1000000001 : Int32), σ) else
  um_b2 (f_X3_reached (20 * 1 + 8) a1 (a2 * (7 : Int32)) (um_zr σ 200)) fun r σo => some (r, σo)
section RCB
variable {l : Launch} {Z : um_Z} {sh : Nat → Option um_Sh} {α : Nat → Nat} {σ σ' : um_S} {sz : Nat} {r : Int32}
set_option maxRecDepth 100000 in
set_option maxHeartbeats 4000000 in
theorem c_X8_reach (a1 a2 : Int32) (hX : um_X sh) (hcl : um_cl sh) (h200 : sh 200 = none) (hf : f_X8_reach a1 a2 σ = some (r, σ')) : um_MA l yX8_reach cX8_reach 3 (some .int) 4 90 1 6 Z sh α σ [.ref (α 0), .int a1, .int a2] (some (.int r)) σ' sz := by
  refine um_startA (by decide) (Nat.le_of_ble_eq_true rfl) ?_
  intro p e s m below meth c ls Cx hsz hbs hW hl
  have hx := Cx.1
  have hb := Cx.2.1
  have hown := Cx.2.2.2.2.1
  have hts := Cx.2.2.2.2.2.1
  have hl : lv_has ls 3 [(0, .ref (α 0)), (1, .int a1), (2, .int a2)] := hl
  have hS : va_S (um_D sh α) s.heap s.heap [] := va_S.rf
  have hold := hW.old
  have hz : sz ≤ s.heap.size := Nat.le_of_eq hsz.symm
  obtain ⟨H, hHe⟩ : ∃ H, H = s.heap := ⟨_, rfl⟩
  have hS : va_S (um_D sh α) s.heap H [] := by rw [hHe]; exact va_S.rf
  rw [← hHe] at hW ⊢
  rw [f_X8_reach] at hf
  refine lv_iload_n (pc := 0) hx hb dX8_reach_0 rfl (lv_at hl 1 rfl) ?_
  obtain ⟨x1, hc1, hf⟩ := um_bi hf
  refine um_cSi (pc := 1) (As := [.int a1]) (rest := []) Cx (c_X8_isPlace a1 hX hc1) kS_X8_isPlace (Or.inl qM_X8_47) hW hS rfl hl rfl (Nat.le_of_ble_eq_true rfl) (Nat.le_of_ble_eq_true rfl) (Nat.le_of_ble_eq_true rfl) dX8_reach_1 (Nat.zero_le _) (Nat.zero_le _) ?_
  clear hW hS hc1
  intro H locs hW hS
  have bad : ∀ (H : Heap) (locs : List Loc), um_W Z sh α σ H → va_S (um_D sh α) s.heap H locs → some ((-1000000001 : Int32), σ) = some (r, σ') → W p l e { frames := 4, cells := 1, slots := 6, locals := 90 } s m ([.ref (α 0), .int a1, .int a2] : List Value).toArray below meth c H locs 0 0 (MQ below (um_PostA Z sh α σ' (some (.int r)) sz) ([.ref (α 0), .int a1, .int a2] : List Value).toArray s 1 6 (um_DA sh α sz)) (F0 m 17 ls []) := by
    intro H locs hW hS hf
    cases hf
    refine lv_ldc (pc := 17) hx hb hown (hts _ qC_X8_59) dX8_reach_17 ?_
    refine W.widen (k := 1) (n := 6) (by omega) (by omega) ?_
    exact um_iretA (pc := 19) Cx hW (hS.weak (fun q h => Or.inl h)) dX8_reach_19
  refine lv_if_eq (pc := 4) (tgt := 17) hx hb dX8_reach_4 (by decide) (fun c1 => ?_) (fun c1 => ?_)
  · exact bad H locs hW hS (um_it c1 hf)
  have hf := um_ie c1 hf
  refine lv_iload_n (pc := 7) hx hb dX8_reach_7 rfl (lv_at hl 2 rfl) ?_
  refine lv_iconst (pc := 8) (v := (0 : Int32)) hx hb dX8_reach_8 (by decide) ?_
  refine lv_bipush (pc := 9) (v := (99 : Int32)) hx hb dX8_reach_9 (by decide) ?_
  obtain ⟨x2, hc2, hf⟩ := um_bi hf
  refine um_cSi (pc := 11) (As := [.int a2, .int (0 : Int32), .int (99 : Int32)]) (rest := []) Cx (c_X8_within a2 (0 : Int32) (99 : Int32) hX hc2) kS_X8_within (Or.inl qM_X8_55) hW hS rfl hl rfl (Nat.le_of_ble_eq_true rfl) (Nat.le_of_ble_eq_true rfl) (Nat.le_of_ble_eq_true rfl) dX8_reach_11 (Nat.zero_le _) (Nat.zero_le _) ?_
  clear hW hS hc2
  intro H locs hW hS
  refine lv_if_ne (pc := 14) (tgt := 20) hx hb dX8_reach_14 (by decide) (fun c2 => ?_) (fun c2 => ?_)
  · have hf := um_ie c2 hf
    refine lv_aload_n (pc := 20) hx hb dX8_reach_20 rfl (lv_at hl 0 rfl) ?_
    refine gF_X8_10 (pc := 21) Cx hW (hX 0 _ rfl) rfl dX8_reach_21 ?_
    refine gF_X8_200 (pc := 24) Cx hW (xs_shore hX (Or.inl rfl)) rfl dX8_reach_24 ?_
    refine lv_iload_n (pc := 27) hx hb dX8_reach_27 rfl (lv_at hl 1 rfl) ?_
    refine lv_iload_n (pc := 28) hx hb dX8_reach_28 rfl (lv_at hl 2 rfl) ?_
    refine lv_bipush (pc := 29) (v := (7 : Int32)) hx hb dX8_reach_29 (by decide) ?_
    refine lv_imul (pc := 31) hx hb dX8_reach_31 ?_
    obtain ⟨x3, σ3, hc3, hf⟩ := um_bi2 hf
    cases hf
    have hsz2 : sz ≤ H.size := Nat.le_trans hz hS.1
    refine um_cSiA (pc := 32) (As := [.ref (α (20 * 1 + 8)), .int a1, .int (a2 * (7 : Int32))]) (rest := []) (A := um_DA sh α sz) Cx (c_X3_reached (20 * 1 + 8) a1 (a2 * (7 : Int32)) rfl hX hcl h200 hc3) kS_X3_reached (Or.inl qM_X8_203) hW rfl (Nat.le_trans hbs hsz2) (hS.weak (fun q h => Or.inl h)) (fun q h => h.elim (hold q) (fun h => Nat.le_trans hbs h)) (fun q h => h.elim Or.inl (fun h => Or.inr (Nat.le_trans hsz2 h))) rfl hl rfl (Nat.le_of_ble_eq_true rfl) (Nat.le_of_ble_eq_true rfl) (Nat.le_of_ble_eq_true rfl) dX8_reach_32 (Nat.le_of_ble_eq_true rfl) (Nat.le_of_ble_eq_true rfl) (fun H1 locs1 hW1 h1 h2 hS1 => ?_)
    exact um_iretA (pc := 35) Cx hW1 hS1 dX8_reach_35
  · exact bad H locs hW hS (um_it c2 hf)
end RCB
