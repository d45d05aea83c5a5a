/-! asText, text; calls of any contract over a world -/
section UCX
variable {p : Program} {l : Launch} {e : Env} {R : Room} {s : State} {m : MethodId} {args : Array Value} {below : List Frame} {meth : Method} {c : Code} {H : Heap} {locs : List Loc} {cells slots : Nat} {Q : State → Prop}
variable {cc : ByteArray} {nL pc : Nat} {ret : Option FieldType} {own : String} {Z : um_Z} {sh : Nat → Option um_Sh} {α : Nat → Nat} {σ σ' : um_S} {ls : Array Slot} {rest st : List Value} {lv : List (Nat × Value)}
variable {y : MethodName} {bytes : ByteArray} {maxL n index F L mc ms sz a : Nat} {ret' : Option FieldType} {As : List Value} {A fr : Nat → Prop} {P : Array Value → State → Prop} {Qc : Array Value → State → Outcome → State → Prop}
theorem um_psA (Cx : um_C p s m meth c args cc nL ret own Z) (hW : um_W Z sh α σ H) (hsz : H.size = sz) (hbs : Z.2.2.1 ≤ sz) (hS : va_S A s.heap H locs) (hAo : ∀ q, A q → um_old Z q) : PreS s H (um_PreA Z sh α σ As sz) As :=
  ⟨um_blindA, fun U hU hWm => ⟨um_preA Cx hW hS hAo U hU hWm, by rw [hU]; exact hsz, hbs⟩⟩
theorem um_ps (Cx : um_C p s m meth c args cc nL ret own Z) (hW : um_W Z sh α σ H) (hS : va_S A s.heap H locs) (hAo : ∀ q, A q → um_old Z q) : PreS s H (um_Pre Z sh α σ As) As :=
  ⟨um_blind, um_preA Cx hW hS hAo⟩
theorem um_pvA {C : String} {T : u_T} {N ci k : Nat} {fl : List um_F} (Cx : um_C p s m meth c args cc nL ret own Z) (hW : um_W Z sh α σ H) (hs : sh k = some (.inr (ci, fl))) (hc : vwCl[ci]? = some (C, T, N)) (hsz : H.size = sz) (hbs : Z.2.2.1 ≤ sz) (hS : va_S A s.heap H locs) (hAo : ∀ q, A q → um_old Z q) : PreV s H C (α k) (um_PreA Z sh α σ (.ref (α k) :: As) sz) As :=
  ⟨um_blindA, va_recv Cx.2.2.2.2.2.2.2.1.1 (um_P1 hW hs) hc (q0 := 0) rfl, fun U hU hWm => ⟨um_preA Cx hW hS hAo U hU hWm, by rw [hU]; exact hsz, hbs⟩⟩
theorem um_pv {C : String} {T : u_T} {N ci k : Nat} {fl : List um_F} (Cx : um_C p s m meth c args cc nL ret own Z) (hW : um_W Z sh α σ H) (hs : sh k = some (.inr (ci, fl))) (hc : vwCl[ci]? = some (C, T, N)) (hS : va_S A s.heap H locs) (hAo : ∀ q, A q → um_old Z q) : PreV s H C (α k) (um_Pre Z sh α σ (.ref (α k) :: As)) As :=
  ⟨um_blind, va_recv Cx.2.2.2.2.2.2.2.1.1 (um_P1 hW hs) hc (q0 := 0) rfl, um_preA Cx hW hS hAo⟩
theorem um_cSX {C : Option Value → Heap → Prop} (Cx : um_C p s m meth c args cc nL ret own Z) (hM : Met l y (Cond.code y bytes maxL ret' :: WG) { frames := F, cells := mc, slots := ms, locals := L } P Qc mc ms fr) (hk : um_kS y bytes maxL ret' n) (hl : Cond.methodLink own index y ∈ WG ∨ ∃ host, Cond.methodLinkNest own index y host ∈ um_nest)
    (hp : PreS s H P As) (hS : va_S A s.heap H locs) (hA : ∀ q, fr q → A q) (hn : As.length = n) (hl0 : lv_has ls nL lv) (hst : st = As.reverse ++ rest) (hrm : (rest.map fun v => v.category).sum ≤ 8) (hR1 : F + 1 ≤ R.frames) (hR2 : 8 + (maxL + 11) + L ≤ R.locals) (hdg : decode cc pc = .ok (.invokestatic index, 3)) (hcs : cells + mc ≤ R.cells) (hss : slots + ms ≤ R.slots)
    (hQ : ∀ (st₀ t : State) (v : Option Value), st₀.heap = H → Qc As.toArray st₀ (.returned v) t → C v t.heap ∧ va_F fr st₀ t)
    (kk : ∀ (v : Option Value) (H1 : Heap) (locs1 : List Loc), C v H1 → H.size ≤ H1.size → (∀ q, q < H.size → ¬ fr q → H1[q]? = H[q]?) → va_S A s.heap H1 locs1 → W p l e R s m args below meth c H1 locs1 (cells + mc) (slots + ms) Q (F0 m (pc + 3) ls (v.toList ++ rest))) : W p l e R s m args below meth c H locs cells slots Q (F0 m pc ls st) := by
  obtain ⟨k1, k3, k4, hd⟩ := hk
  obtain ⟨hx, hb, hr, hml, hown, hts, hlk, hE, hSt⟩ := id Cx
  rcases hl with hl | ⟨host, hl⟩
  · exact um_goX (C := C) (va_runS (As := As) (rest := rest) (Ts := WG) (own := own) ⟨hx, hb, hml, hown, hts⟩ hM ⟨callB_of n hts (um_goodIn k4) rfl rfl rfl (hts _ k3) (hts _ hl) hd ⟨hR1, hR2⟩, hts _ k1⟩ hp rfl hn hl0.1 hst (lv_room hrm) hdg ⟨hcs, hss⟩) hS hA hQ kk
  · exact um_goX (C := C) (va_runSN (As := As) (rest := rest) (Ts := WG) (own := own) ⟨hx, hb, hml, hown, hts⟩ hM ⟨va_cnB n hts (um_goodIn k4) rfl rfl rfl (hE.2.1 _ hl) (hts _ k3) hd ⟨hR1, hR2⟩, hts _ k1, trivial⟩ hp rfl hn hl0.1 hst (lv_room hrm) hdg ⟨hcs, hss⟩) hS hA hQ kk
theorem um_cVX {C : Option Value → Heap → Prop} {Cn : String} (Cx : um_C p s m meth c args cc nL ret own Z) (hM : Met l y (Cond.code y bytes maxL ret' :: WG) { frames := F, cells := mc, slots := ms, locals := L } P Qc mc ms fr) (hk : um_kV y Cn bytes maxL ret' n) (hl : Cond.methodLink own index y ∈ WG ∨ ∃ host, Cond.methodLinkNest own index y host ∈ um_nest)
    (hp : PreV s H Cn a P As) (hS : va_S A s.heap H locs) (hA : ∀ q, fr q → A q) (hn : As.length = n) (hl0 : lv_has ls nL lv) (hst : st = As.reverse ++ .ref a :: rest) (hrm : (rest.map fun v => v.category).sum ≤ 8) (hR1 : F + 1 ≤ R.frames) (hR2 : 8 + (maxL + 11) + L ≤ R.locals) (hdg : decode cc pc = .ok (.invokevirtual index, 3)) (hcs : cells + mc ≤ R.cells) (hss : slots + ms ≤ R.slots)
    (hQ : ∀ (st₀ t : State) (v : Option Value), st₀.heap = H → Qc (Value.ref a :: As).toArray st₀ (.returned v) t → C v t.heap ∧ va_F fr st₀ t)
    (kk : ∀ (v : Option Value) (H1 : Heap) (locs1 : List Loc), C v H1 → H.size ≤ H1.size → (∀ q, q < H.size → ¬ fr q → H1[q]? = H[q]?) → va_S A s.heap H1 locs1 → W p l e R s m args below meth c H1 locs1 (cells + mc) (slots + ms) Q (F0 m (pc + 3) ls (v.toList ++ rest))) : W p l e R s m args below meth c H locs cells slots Q (F0 m pc ls st) := by
  obtain ⟨k1, k2, k3, k4, hcl, hd⟩ := hk
  obtain ⟨hx, hb, hr, hml, hown, hts, hlk, hE, hSt⟩ := id Cx
  subst hcl
  rcases hl with hl | ⟨host, hl⟩
  · exact um_goX (C := C) (va_runV (As := As) (rest := rest) (Ts := WG) (own := own) ⟨hx, hb, hml, hown, hts⟩ hM ⟨callB_of n hts (um_goodIn k4) rfl rfl rfl (hts _ k3) (hts _ hl) hd ⟨hR1, hR2⟩, hts _ k1, hts _ k2⟩ hp rfl hn hl0.1 hst (lv_room hrm) hdg ⟨hcs, hss⟩) hS hA hQ kk
  · exact um_goX (C := C) (va_runVN (As := As) (rest := rest) (Ts := WG) (own := own) ⟨hx, hb, hml, hown, hts⟩ hM ⟨va_cnB n hts (um_goodIn k4) rfl rfl rfl (hE.2.1 _ hl) (hts _ k3) hd ⟨hR1, hR2⟩, hts _ k1, hts _ k2⟩ hp rfl hn hl0.1 hst (lv_room hrm) hdg ⟨hcs, hss⟩) hS hA hQ kk
/-- a contract that makes nothing, over a world within A -/
theorem um_cVM {C : String} {T : u_T} {N ci k : Nat} {fl : List um_F} {r : Int32} (Cx : um_C p s m meth c args cc nL ret own Z) (hM : um_M l y bytes maxL ret' F L Z sh α σ (.ref (α k) :: As) (some (.int r)) σ') (hk : um_kV y C bytes maxL ret' n) (hl : Cond.methodLink own index y ∈ WG ∨ ∃ host, Cond.methodLinkNest own index y host ∈ um_nest)
    (hW : um_W Z sh α σ H) (hS : va_S A s.heap H locs) (hAo : ∀ q, A q → um_old Z q) (hA : ∀ q, um_D sh α q → A q) (hs : sh k = some (.inr (ci, fl))) (hc : vwCl[ci]? = some (C, T, N)) (hn : As.length = n) (hl0 : lv_has ls nL lv) (hst : st = As.reverse ++ .ref (α k) :: rest) (hrm : (rest.map fun v => v.category).sum ≤ 8) (hR1 : F + 1 ≤ R.frames) (hR2 : 8 + (maxL + 11) + L ≤ R.locals) (hdg : decode cc pc = .ok (.invokevirtual index, 3)) (hcs : cells ≤ R.cells) (hss : slots ≤ R.slots)
    (kk : ∀ (H1 : Heap) (locs1 : List Loc), um_W Z sh α σ' H1 → H.size ≤ H1.size → (∀ q, q < H.size → ¬ um_D sh α q → H1[q]? = H[q]?) → va_S A s.heap H1 locs1 → W p l e R s m args below meth c H1 locs1 cells slots Q (F0 m (pc + 3) ls (.int r :: rest))) : W p l e R s m args below meth c H locs cells slots Q (F0 m pc ls st) := by
  refine um_cVX (C := fun v H1 => v = some (.int r) ∧ um_W Z sh α σ' H1) (mc := 0) (ms := 0) Cx hM hk hl (um_pv Cx hW hs hc hS hAo) hS hA hn hl0 hst hrm hR1 hR2 hdg hcs hss (fun st₀ t v _ h => ⟨⟨by have := h.1; cases this; rfl, h.2.1⟩, h.2.2⟩) (fun v H1 locs1 hv h1 h2 h3 => ?_)
  obtain ⟨rfl, hw⟩ := hv
  exact kk H1 locs1 hw h1 h2 h3
end UCX
/-- a Text more -/
def um_sq (sh : Nat → Option um_Sh) (q : Nat) : Nat → Option um_Sh := um_sx (um_sx (um_sx sh (q + 1) (.inl (0, none))) (q + 2) (.inl (0, none))) q (.inr (6, [none, none, none, some (.inl (q + 1)), some (.inl (q + 2))]))
def um_fr (sh : Nat → Option um_Sh) (q : Nat) : Prop := sh q = none ∧ sh (q + 1) = none ∧ sh (q + 2) = none
theorem um_sq_ne {sh : Nat → Option um_Sh} {q i : Nat} (h : i ≠ q ∧ i ≠ q + 1 ∧ i ≠ q + 2) : um_sq sh q i = sh i := by
  unfold um_sq
  rw [um_sx_ne h.1, um_sx_ne h.2.2, um_sx_ne h.2.1]
theorem um_sq_txt {sh : Nat → Option um_Sh} {q : Nat} : um_txt (um_sq sh q) q := by
  unfold um_sq
  refine ⟨um_sx_eq _ _ _, ?_, ?_⟩
  · rw [um_sx_ne (by omega), um_sx_ne (by omega), um_sx_eq]
  · rw [um_sx_ne (by omega), um_sx_eq]
theorem um_fr.ne {sh : Nat → Option um_Sh} {q i : Nat} {u : um_Sh} (h : um_fr sh q) (hi : sh i = some u) : i ≠ q ∧ i ≠ q + 1 ∧ i ≠ q + 2 :=
  ⟨fun e => (by rw [e, h.1] at hi; cases hi), fun e => (by rw [e, h.2.1] at hi; cases hi), fun e => (by rw [e, h.2.2] at hi; cases hi)⟩
theorem um_sq_X {sh : Nat → Option um_Sh} {q : Nat} (hX : um_X sh) (h : um_fr sh q) : um_X (um_sq sh q) := fun i u hi => by
  rw [um_sq_ne (h.ne (hX i u hi))]
  exact hX i u hi
theorem um_sq_cl {sh : Nat → Option um_Sh} {q : Nat} (hcl : um_cl sh) (h : um_fr sh q) : um_cl (um_sq sh q) := fun i ci fl hi x hx => by
  by_cases hiq : i = q
  · subst hiq
    have := um_sq_txt (sh := sh) (q := i)
    rw [this.1] at hi
    cases hi
    simp only [List.mem_cons, Option.some.injEq, Sum.inl.injEq, reduceCtorEq, List.not_mem_nil, or_false, false_or] at hx
    rcases hx with rfl | rfl
    · exact ⟨_, this.2.1⟩
    · exact ⟨_, this.2.2⟩
  · by_cases h1 : i = q + 1
    · rw [h1, um_sq_txt.2.1] at hi
      cases hi
    · by_cases h2 : i = q + 2
      · rw [h2, um_sq_txt.2.2] at hi
        cases hi
      · rw [um_sq_ne ⟨hiq, h1, h2⟩] at hi
        obtain ⟨t, ht⟩ := hcl i ci fl hi x hx
        exact ⟨t, by rw [um_sq_ne (h.ne ht)]; exact ht⟩
/-- a contract whose world may grow -/
def um_PostG (Z : um_Z) (sh : Nat → Option um_Sh) (α : Nat → Nat) (sz : Nat) (sh' : Nat → Option um_Sh) (σ : um_S) (rv : (Nat → Nat) → Value) : Array Value → State → Outcome → State → Prop := fun _ st oc t => ∃ α' : Nat → Nat, (∀ i u, sh i = some u → α' i = α i) ∧ (∀ i u, sh' i = some u → sh i = none → sz ≤ α' i) ∧ oc = .returned (some (rv α')) ∧ um_W Z sh' α' σ t.heap ∧ va_F (um_DA sh α sz) st t
def um_tx (σ : um_S) (q : Nat) (week : Int32) (n pm : Nat) : um_S := um_wr (um_wr (um_wr (um_zl (um_cp (um_zl σ (q + 1) n) (q + 1) 9 n) (q + 2) pm) q 0 (σ.1 4 11)) q 1 week) q 2 (σ.1 4 12)
noncomputable def f_X6_asText (q : Nat) (week : Int32) (σ : um_S) : Option um_S :=
  (f_X6_settle (1 : Int32) σ).bind fun σ1 =>
  if (if (0 : Int32) < σ1.1 4 9 then σ1.1 4 9 else 0).toNatClampNeg < 96 ∧ (if (1 : Int32) < σ1.1 4 12 then σ1.1 4 12 else 1).toNatClampNeg ≤ 96 then
  some (um_tx σ1 q week (if (0 : Int32) < σ1.1 4 9 then σ1.1 4 9 else 0).toNatClampNeg (if (1 : Int32) < σ1.1 4 12 then σ1.1 4 12 else 1).toNatClampNeg)
  else none
theorem um_mx {a x : Int32} (ha : (0 : Int32) ≤ a) : ¬ (if a < x then x else a) < 0 := by
  rw [Int32.lt_iff_toInt_lt]
  rw [Int32.le_iff_toInt_le] at ha
  split
  · rename_i h
    rw [Int32.lt_iff_toInt_lt] at h
    omega
  · omega
section AST
variable {l : Launch} {Z : um_Z} {sh : Nat → Option um_Sh} {α : Nat → Nat} {σ σ' : um_S} {sz : Nat}
set_option maxRecDepth 100000 in
set_option maxHeartbeats 4000000 in
theorem c_X6_asText (q : Nat) (week : Int32) (hX : um_X sh) (hcl : um_cl sh) (hq : um_fr sh q) (hf : f_X6_asText q week σ = some σ') : Met l yX6_asText (Cond.code yX6_asText cX6_asText 2 (some (FieldType.object "TicketShore$Text")) :: WG) { frames := 3, cells := 3, slots := 197, locals := 73 } (um_PreA Z sh α σ [.ref (α 4), .int week] sz) (um_PostG Z sh α sz (um_sq sh q) σ' (fun α' => .ref (α' q))) 3 197 (um_DA sh α sz) := by
  refine um_startA (by decide) (Nat.le_of_ble_eq_true rfl) ?_
  intro p e s m below meth c ls Cx hsz hbs hW hl
  have hx := Cx.1
  have hb := Cx.2.1
  have hown := Cx.2.2.2.2.1
  have hts := Cx.2.2.2.2.2.1
  have hl : lv_has ls 2 [(0, .ref (α 4)), (1, .int week)] := hl
  have hold := hW.old
  obtain ⟨H, hHe⟩ : ∃ H, H = s.heap := ⟨_, rfl⟩
  have hS : va_S (um_D sh α) s.heap H [] := by rw [hHe]; exact va_S.rf
  rw [← hHe] at hW ⊢
  rw [f_X6_asText] at hf
  obtain ⟨σ1, hc1, hf⟩ := um_bi hf
  refine lv_aload_n (pc := 0) hx hb dX6_asText_0 rfl (lv_at hl 0 rfl) ?_
  refine lv_iconst (pc := 1) (v := (1 : Int32)) hx hb dX6_asText_1 (by decide) ?_
  refine um_cVv (pc := 2) (As := [.int (1 : Int32)]) (rest := []) Cx (c_X6_settle (1 : Int32) hX hc1) kV_X6_settle (Or.inl qM_X6_66) hW hS (hX 4 _ rfl) rfl rfl hl rfl (Nat.le_of_ble_eq_true rfl) (Nat.le_of_ble_eq_true rfl) (Nat.le_of_ble_eq_true rfl) dX6_asText_2 (Nat.zero_le _) (Nat.zero_le _) ?_
  clear hW hS hc1
  intro H locs hW hS
  by_cases hg : (if (0 : Int32) < σ1.1 4 9 then σ1.1 4 9 else 0).toNatClampNeg < 96 ∧ (if (1 : Int32) < σ1.1 4 12 then σ1.1 4 12 else 1).toNatClampNeg ≤ 96
  case neg => rw [if_neg hg] at hf; cases hf
  rw [if_pos hg] at hf
  cases hf
  have hsz1 : sz ≤ H.size := by have := hS.1; omega
  refine um_vnew (pc := 5) (ci := 6) (fs := [.int 0, .int 0, .int 0, .null, .null]) Cx iX7 tyX7 tyX7_ok qCL_X6_69 qB_X7 qN_X7 rfl (fun j hj => by rcases (show j = 0 ∨ j = 1 ∨ j = 2 ∨ j = 3 ∨ j = 4 by omega) with rfl | rfl | rfl | rfl | rfl <;> rfl) (Nat.le_of_ble_eq_true rfl) (Nat.le_of_ble_eq_true rfl) dX6_asText_5 (fun H1 hat z o => ?_)
  have hlt0 : ∀ i u, sh i = some u → α i < H.size := fun i u hi => hW.lt hi
  have hW1 := hW.kept (fun i u hi => o _ (hW.lt hi))
  have hSA : va_S (um_DA sh α sz) s.heap H1 locs := (hS.weak (fun q h => Or.inl h)).push (by omega) o
  have hAo : ∀ q, um_DA sh α sz q → um_old Z q := fun q h => h.elim (hold q) (fun h => Nat.le_trans hbs h)
  have h4 := hX 4 _ rfl
  refine lv_dup (pc := 8) hx hb dX6_asText_8 rfl ?_
  refine lv_aload_n (pc := 9) hx hb dX6_asText_9 rfl (lv_at hl 0 rfl) ?_
  refine gF_X6_40 (pc := 10) Cx hW1 h4 rfl dX6_asText_10 ?_
  refine lv_iload_n (pc := 13) hx hb dX6_asText_13 rfl (lv_at hl 1 rfl) ?_
  refine lv_aload_n (pc := 14) hx hb dX6_asText_14 rfl (lv_at hl 0 rfl) ?_
  refine gF_X6_71 (pc := 15) Cx hW1 h4 rfl dX6_asText_15 ?_
  refine lv_aload_n (pc := 18) hx hb dX6_asText_18 rfl (lv_at hl 0 rfl) ?_
  refine gF_X6_15 (pc := 19) Cx hW1 h4 rfl dX6_asText_19 ?_
  refine lv_iconst (pc := 22) (v := (0 : Int32)) hx hb dX6_asText_22 (by decide) ?_
  refine lv_aload_n (pc := 23) hx hb dX6_asText_23 rfl (lv_at hl 0 rfl) ?_
  refine gF_X6_74 (pc := 24) Cx hW1 h4 rfl dX6_asText_24 ?_
  refine va_mmax (pc := 27) hx hb (Cx.2.2.2.1.trans hl.1.symm) hown (hts _ qM_X6_77) (hts _ qT_J9_max_7cf53) (hts _ qN_J9) (hts _ qK_J9_max_7cf53) (Nat.le_of_ble_eq_true rfl) (Nat.le_of_ble_eq_true rfl) (Nat.le_of_ble_eq_true rfl) (Nat.le_of_ble_eq_true rfl) dX6_asText_27 ?_
  refine um_cSX (pc := 30) (As := [.ref (α 9), .int (if (0 : Int32) < σ1.1 4 9 then σ1.1 4 9 else 0)]) (rest := [.int (σ1.1 4 12), .int week, .int (σ1.1 4 11), .ref H.size, .ref H.size]) (mc := 1) (ms := 96) (C := fun v H2 => ∃ a, H1.size ≤ a ∧ v = some (.ref a) ∧ um_W Z (um_sx sh (q + 1) (.inl (0, none))) (um_ax α (q + 1) a) (um_cp (um_zl σ1 (q + 1) (if (0 : Int32) < σ1.1 4 9 then σ1.1 4 9 else 0).toNatClampNeg) (q + 1) 9 (if (0 : Int32) < σ1.1 4 9 then σ1.1 4 9 else 0).toNatClampNeg) H2) (fr := um_DA sh α H1.size) Cx (c_J7_copyOf (q + 1) _ hX hcl hq.2.1 (um_mx (by decide)) rfl hg.1) kS_J7_copyOf (Or.inl qM_X6_83) (um_psA Cx hW1 rfl (by omega) hSA hAo) hSA (fun x h => h.elim Or.inl (fun h => Or.inr (by omega))) rfl hl rfl (Nat.le_of_ble_eq_true rfl) (Nat.le_of_ble_eq_true rfl) (Nat.le_of_ble_eq_true rfl) dX6_asText_30 (Nat.le_of_ble_eq_true rfl) (Nat.le_of_ble_eq_true rfl) (fun st₀ t v _ h => by
    obtain ⟨a, g1, g2, g3, g4⟩ := h
    cases g2
    exact ⟨⟨a, g1, rfl, g3⟩, g4⟩) (fun v H2 locs2 hv z2 o2 hS2 => ?_)
  obtain ⟨a, ha, rfl, hW2⟩ := hv
  have hat2 := hat.kept (o2 _ hat.lt (fun h => h.elim (fun ⟨i, u, hi, e⟩ => by have := hlt0 i u hi; simp only at e; omega) (fun h => by simp only at h; omega)))
  refine um_kcall (pc := 33) (As := [.int (σ1.1 4 11), .int week, .int (σ1.1 4 12), .ref a]) (rest := [.ref H.size]) (q := H.size) (mc := 1) (ms := 96) Cx (c_X7_init (σ1.1 4 11) week (σ1.1 4 12) rfl (um_mx (by decide)) hg.2) kI_X7 (Or.inl qM_X6_89) hat2 rfl (by omega) (by omega) hS2 hAo (fun x h => h.elim (fun h => Or.inr (by omega)) (fun h => Or.inr (by omega))) rfl hl rfl (Nat.le_of_ble_eq_true rfl) (Nat.le_of_ble_eq_true rfl) (Nat.le_of_ble_eq_true rfl) dX6_asText_33 (Nat.le_of_ble_eq_true rfl) (Nat.le_of_ble_eq_true rfl) (fun H3 locs3 hB z3 o3 hS3 => ?_)
  obtain ⟨a2, ha2, hat3, hce⟩ := hB
  have nq : ∀ {i u}, sh i = some u → i ≠ q ∧ i ≠ q + 1 ∧ i ≠ q + 2 := fun {i u} hi => hq.ne hi
  have hne0 : ∀ i u, um_sx sh (q + 1) (.inl (0, none)) i = some u → um_ax α (q + 1) a i ≠ H.size := fun i u hi => by
    by_cases h1 : i = q + 1
    · rw [h1, um_ax_eq]
      omega
    · rw [um_sx_ne h1] at hi
      rw [um_ax_ne h1]
      have := hlt0 i u hi
      omega
  have hW3 := hW2.kept (fun i u hi => o3 _ (hW2.lt hi) (hne0 i u hi))
  have hcl1 : um_cl (um_sx sh (q + 1) (.inl (0, none))) := hcl.arr hq.2.1
  have hk2 : um_sx sh (q + 1) (.inl (0, none)) (q + 2) = none := by rw [um_sx_ne (by omega)]; exact hq.2.2
  have hW4 := hW3.addz (k := q + 2) (a := a2) hcl1 hk2 (by omega) (fun i u hi e => by have := hW2.lt hi; omega) hce
  have hcl2 : um_cl (um_sx (um_sx sh (q + 1) (.inl (0, none))) (q + 2) (.inl (0, none))) := hcl1.arr hk2
  have hk3 : um_sx (um_sx sh (q + 1) (.inl (0, none))) (q + 2) (.inl (0, none)) q = none := by rw [um_sx_ne (by omega), um_sx_ne (by omega)]; exact hq.1
  have hW5 : um_W Z (um_sq sh q) (um_ax (um_ax (um_ax α (q + 1) a) (q + 2) a2) q H.size) (um_tx σ1 q week (if (0 : Int32) < σ1.1 4 9 then σ1.1 4 9 else 0).toNatClampNeg (if (1 : Int32) < σ1.1 4 12 then σ1.1 4 12 else 1).toNatClampNeg) H3 := by
    refine hW4.add (k := q) (a := H.size) hcl2 hk3 (by omega) (fun i u hi => ?_) (fun j u hj => ?_) rfl (fun _ _ _ => rfl) ?_
    · by_cases h1 : i = q + 2
      · rw [h1, um_ax_eq]
        omega
      · rw [um_sx_ne h1] at hi
        rw [um_ax_ne h1]
        exact hne0 i u hi
    · have hj' : j ≠ q := fun e => by rw [e, hk3] at hj; cases hj
      unfold um_tx
      rw [um_wr_ne hj', um_wr_ne hj', um_wr_ne hj']
    · have e1 : um_ax (um_ax (um_ax α (q + 1) a) (q + 2) a2) q H.size (q + 1) = a := by rw [um_ax_ne (by omega), um_ax_ne (by omega), um_ax_eq]
      have e2 : um_ax (um_ax (um_ax α (q + 1) a) (q + 2) a2) q H.size (q + 2) = a2 := by rw [um_ax_ne (by omega), um_ax_eq]
      simp only [um_E, um_fs, um_fv, e1, e2]
      simp only [um_tx, um_wr, if_true]
      exact hat3
  refine W.aret Cx.1 Cx.2.1 Cx.2.2.1 (Or.inl ⟨_, rfl⟩) (Or.inr ⟨_, rfl⟩) (fun t ht hw => ⟨um_ax (um_ax (um_ax α (q + 1) a) (q + 2) a2) q H.size, fun i u hi => ?_, fun i u hi hn => ?_, by simp only [um_ax_eq], by rw [ht]; exact hW5, hS3.F ht⟩) hS3.2.2 dX6_asText_36 Cx.2.2.2.2.2.2.1
  · rw [um_ax_ne (nq hi).1, um_ax_ne (nq hi).2.2, um_ax_ne (nq hi).2.1]
  · by_cases h0 : i = q
    · rw [h0, um_ax_eq]
      exact hsz1
    · by_cases h1 : i = q + 1
      · rw [h1, um_ax_ne (by omega), um_ax_ne (by omega), um_ax_eq]
        omega
      · by_cases h2 : i = q + 2
        · rw [h2, um_ax_ne (by omega), um_ax_eq]
          omega
        · rw [um_sq_ne ⟨h0, h1, h2⟩, hn] at hi
          cases hi
end AST
theorem kV_X6_asText : um_kV yX6_asText RX6 cX6_asText 2 (some (FieldType.object "TicketShore$Text")) 1 := ⟨qI_X6_asText, qS_X6_asText, qN_X6, qK_X6_asText, by decide +kernel⟩
theorem kV_X6_faultPlace : um_kV yX6_faultPlace RX6 cX6_faultPlace 2 (some FieldType.int) 0 := ⟨qI_X6_faultPlace, qS_X6_faultPlace, qN_X6, qK_X6_faultPlace, by decide +kernel⟩
theorem kV_X1_add : um_kV yX1_add RX1 cX1_add 3 (some FieldType.int) 1 := ⟨qI_X1_add, qS_X1_add, qN_X1, qK_X1_add, by decide +kernel⟩
/-- text: the answer, the store, whether a Text was made -/
noncomputable def f_X8_text (q : Nat) (a1 : Int32) (σ : um_S) : Option (Int32 × um_S × Bool) :=
  um_b2 (f_X6_faultPlace σ) fun r σ1 =>
  (f_X8_within a1 (0 : Int32) (1999 : Int32) (um_wr σ1 4 1 0)).bind fun b =>
  if um_b b ≠ 0 then
  if r < 0 then
  (f_X6_asText q a1 (um_wr σ1 4 1 0)).bind fun σ3 =>
  um_b2 (f_X1_add 1 q σ3) fun r2 σ4 => some (r2, σ4, true)
  else some ((-100 : Int32) - r, um_wr σ1 4 1 0, false)
  else some ((-1000000001 : Int32), um_wr σ1 4 1 0, false)
section TXT
variable {l : Launch} {Z : um_Z} {sh : Nat → Option um_Sh} {α : Nat → Nat} {σ σ' : um_S} {sz : Nat} {r : Int32} {b : Bool}
set_option maxRecDepth 100000 in
set_option maxHeartbeats 4000000 in
theorem c_X8_text (q : Nat) (a1 : Int32) (hX : um_X sh) (hcl : um_cl sh) (hq : um_fr sh q) (hf : f_X8_text q a1 σ = some (r, σ', b)) : Met l yX8_text (Cond.code yX8_text cX8_text 3 (some FieldType.int) :: WG) { frames := 7, cells := 3, slots := 197, locals := 149 } (um_PreA Z sh α σ [.ref (α 0), .int a1] sz) (um_PostG Z sh α sz (if b then um_sq sh q else sh) σ' (fun _ => .int r)) 3 197 (um_DA sh α sz) := by
  refine um_startA (by decide) (Nat.le_of_ble_eq_true rfl) ?_
  intro p e s m below meth c ls Cx hsz hbs hW hl
  have hx := Cx.1
  have hb := Cx.2.1
  have hown := Cx.2.2.2.2.1
  have hts := Cx.2.2.2.2.2.1
  have hl : lv_has ls 3 [(0, .ref (α 0)), (1, .int a1)] := hl
  have hold := hW.old
  obtain ⟨H, hHe⟩ : ∃ H, H = s.heap := ⟨_, rfl⟩
  have hS : va_S (um_D sh α) s.heap H [] := by rw [hHe]; exact va_S.rf
  rw [← hHe] at hW ⊢
  rw [f_X8_text] at hf
  obtain ⟨x1, σ1, hc1, hf⟩ := um_bi2 hf
  refine lv_aload_n (pc := 0) hx hb dX8_text_0 rfl (lv_at hl 0 rfl) ?_
  refine gF_X8_25 (pc := 1) Cx hW (hX 0 _ rfl) rfl dX8_text_1 ?_
  refine um_cVi (pc := 4) (As := []) (rest := []) Cx (c_X6_faultPlace hX hc1) kV_X6_faultPlace (Or.inl qM_X8_125) hW hS (hX 4 _ rfl) rfl rfl hl rfl (Nat.le_of_ble_eq_true rfl) (Nat.le_of_ble_eq_true rfl) (Nat.le_of_ble_eq_true rfl) dX8_text_4 (Nat.zero_le _) (Nat.zero_le _) ?_
  clear hW hS hc1
  intro H locs hW hS
  refine lv_istore_n (pc := 7) (lv' := [(2, .int x1), (0, .ref (α 0)), (1, .int a1)]) hx hb dX8_text_7 rfl hl (by decide) rfl ?_
  clear hl
  intro ls hl
  refine lv_aload_n (pc := 8) hx hb dX8_text_8 rfl (lv_at hl 1 rfl) ?_
  refine gF_X8_25 (pc := 9) Cx hW (hX 0 _ rfl) rfl dX8_text_9 ?_
  refine lv_iconst (pc := 12) (v := (0 : Int32)) hx hb dX8_text_12 (by decide) ?_
  refine gP_X8_122 (pc := 13) Cx hW hS (hX 4 _ rfl) rfl dX8_text_13 ?_
  clear hW hS
  intro H locs hW hS
  refine lv_iload_n (pc := 16) hx hb dX8_text_16 rfl (lv_at hl 2 rfl) ?_
  refine lv_iconst (pc := 17) (v := (0 : Int32)) hx hb dX8_text_17 (by decide) ?_
  refine lv_sipush (pc := 18) (v := (1999 : Int32)) hx hb dX8_text_18 (by decide) ?_
  obtain ⟨b2, hc2, hf⟩ := um_bi hf
  refine um_cSi (pc := 21) (As := [.int a1, .int (0 : Int32), .int (1999 : Int32)]) (rest := []) Cx (c_X8_within a1 (0 : Int32) (1999 : Int32) hX hc2) kS_X8_within (Or.inl qM_X8_55) hW hS rfl hl rfl (Nat.le_of_ble_eq_true rfl) (Nat.le_of_ble_eq_true rfl) (Nat.le_of_ble_eq_true rfl) dX8_text_21 (Nat.zero_le _) (Nat.zero_le _) ?_
  clear hW hS hc2
  intro H locs hW hS
  have hSA : va_S (um_DA sh α sz) s.heap H locs := hS.weak (fun q h => Or.inl h)
  have hAo : ∀ q, um_DA sh α sz q → um_old Z q := fun q h => h.elim (hold q) (fun h => Nat.le_trans hbs h)
  refine lv_if_ne (pc := 24) (tgt := 30) hx hb dX8_text_24 (by decide) (fun c1 => ?_) (fun c1 => ?_)
  case refine_2 =>
    have hf := um_ie (fun h => h c1) hf
    cases hf
    refine lv_ldc (pc := 27) hx hb hown (hts _ qC_X8_59) dX8_text_27 ?_
    refine W.widen (k := 3) (n := 197) (by omega) (by omega) ?_
    exact W.iret Cx.1 Cx.2.1 Cx.2.2.1 (fun t ht hw => ⟨α, fun _ _ _ => rfl, fun i u hi hn => (by rw [if_neg (by decide), hn] at hi; cases hi), rfl, by rw [ht]; exact hW, hSA.F ht⟩) hSA.2.2 dX8_text_29 Cx.2.2.2.2.2.2.1
  have hf := um_it c1 hf
  refine lv_iload_n (pc := 30) hx hb dX8_text_30 rfl (lv_at hl 0 rfl) ?_
  refine lv_if_lt (pc := 31) (tgt := 39) hx hb dX8_text_31 (by decide) (fun c2 => ?_) (fun c2 => ?_)
  case refine_2 =>
    have hf := um_ie c2 hf
    obtain ⟨v, hv⟩ : ∃ v : Int32, (-100 : Int32) - x1 = v := ⟨_, rfl⟩
    rw [hv] at hf
    cases hf
    refine lv_bipush (pc := 34) (v := (-100 : Int32)) hx hb dX8_text_34 (by decide) ?_
    refine lv_iload_n (pc := 36) hx hb dX8_text_36 rfl (lv_at hl 0 rfl) ?_
    refine lv_isub (pc := 37) hx hb dX8_text_37 ?_
    rw [hv]
    refine W.widen (k := 3) (n := 197) (by omega) (by omega) ?_
    exact W.iret Cx.1 Cx.2.1 Cx.2.2.1 (fun t ht hw => ⟨α, fun _ _ _ => rfl, fun i u hi hn => (by rw [if_neg (by decide), hn] at hi; cases hi), rfl, by rw [ht]; exact hW, hSA.F ht⟩) hSA.2.2 dX8_text_38 Cx.2.2.2.2.2.2.1
  have hf := um_it c2 hf
  obtain ⟨σ3, hc3, hf⟩ := um_bi hf
  obtain ⟨x4, σ4, hc4, hf⟩ := um_bi2 hf
  cases hf
  refine lv_aload_n (pc := 39) hx hb dX8_text_39 rfl (lv_at hl 1 rfl) ?_
  refine gF_X8_10 (pc := 40) Cx hW (hX 0 _ rfl) rfl dX8_text_40 ?_
  refine gF_X8_129 (pc := 43) Cx hW (xs_shore hX (Or.inl rfl)) rfl dX8_text_43 ?_
  refine lv_aload_n (pc := 46) hx hb dX8_text_46 rfl (lv_at hl 1 rfl) ?_
  refine gF_X8_25 (pc := 47) Cx hW (hX 0 _ rfl) rfl dX8_text_47 ?_
  refine lv_iload_n (pc := 50) hx hb dX8_text_50 rfl (lv_at hl 2 rfl) ?_
  have hsz1 : sz ≤ H.size := by have := hS.1; omega
  refine um_cVX (pc := 51) (a := α 4) (As := [.int a1]) (rest := [.ref (α (20 * 1 + 11))]) (mc := 3) (ms := 197) (C := fun v H2 => ∃ α' : Nat → Nat, (∀ i u, sh i = some u → α' i = α i) ∧ (∀ i u, um_sq sh q i = some u → sh i = none → H.size ≤ α' i) ∧ v = some (.ref (α' q)) ∧ um_W Z (um_sq sh q) α' σ3 H2) (fr := um_DA sh α H.size) Cx (c_X6_asText q a1 hX hcl hq hc3) kV_X6_asText (Or.inl qM_X8_133) (um_pvA (k := 4) Cx hW (hX 4 _ rfl) rfl rfl (by omega) hSA hAo) hSA (fun x h => h.elim Or.inl (fun h => Or.inr (by omega))) rfl hl rfl (Nat.le_of_ble_eq_true rfl) (Nat.le_of_ble_eq_true rfl) (Nat.le_of_ble_eq_true rfl) dX8_text_51 (Nat.le_of_ble_eq_true rfl) (Nat.le_of_ble_eq_true rfl) (fun st₀ t v _ h => by
    obtain ⟨α', g1, g2, g3, g4, g5⟩ := h
    cases g3
    exact ⟨⟨α', g1, g2, rfl, g4⟩, g5⟩) (fun v H2 locs2 hv z2 o2 hS2 => ?_)
  obtain ⟨α', g1, g2, rfl, hW2⟩ := hv
  have e31 : α (20 * 1 + 11) = α' (20 * 1 + 11) := (g1 _ _ (xs_law hX (Or.inl rfl))).symm
  rw [e31]
  have hD : ∀ x, um_D (um_sq sh q) α' x → um_DA sh α sz x := fun x hx => by
    obtain ⟨i, u, hi, rfl⟩ := hx
    cases hs : sh i with
    | some t =>
      rw [g1 i t hs]
      exact Or.inl ⟨i, t, hs, rfl⟩
    | none =>
      have := g2 i u hi hs
      exact Or.inr (by omega)
  refine um_cVM (pc := 54) (As := [.ref (α' q)]) (k := 20 * 1 + 11) (rest := []) Cx (c_X1_add 1 q (Or.inl rfl) um_sq_txt (um_sq_X hX hq) hc4) kV_X1_add (Or.inl qM_X8_137) hW2 hS2 hAo hD (xs_law (um_sq_X hX hq) (Or.inl rfl)) rfl rfl hl rfl (Nat.le_of_ble_eq_true rfl) (Nat.le_of_ble_eq_true rfl) (Nat.le_of_ble_eq_true rfl) dX8_text_54 (Nat.le_of_ble_eq_true rfl) (Nat.le_of_ble_eq_true rfl) (fun H3 locs3 hW3 z3 o3 hS3 => ?_)
  exact W.iret Cx.1 Cx.2.1 Cx.2.2.1 (fun t ht hw => ⟨α', g1, fun i u hi hn => (by rw [if_pos rfl] at hi; have := g2 i u hi hn; omega), rfl, by rw [ht, if_pos rfl]; exact hW3, hS3.F ht⟩) hS3.2.2 dX8_text_57 Cx.2.2.2.2.2.2.1
end TXT
