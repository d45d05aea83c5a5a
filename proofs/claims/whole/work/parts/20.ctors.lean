/-- a part of the class's cells -/
def shP (ids : List Nat) : Nat → Option um_Sh := fun i => if ids.contains i then xsh i else none
theorem shP_in {ids : List Nat} {i : Nat} {u : um_Sh} (h : shP ids i = some u) : i ∈ ids ∧ xsh i = some u := by
  unfold shP at h
  by_cases hi : ids.contains i = true
  · rw [if_pos hi] at h
    exact ⟨List.contains_iff_mem.mp hi, h⟩
  · rw [if_neg hi] at h
    cases h
theorem shP_of {ids : List Nat} {i : Nat} {u : um_Sh} (hi : i ∈ ids) (h : xsh i = some u) : shP ids i = some u := by
  unfold shP
  rw [if_pos (List.contains_iff_mem.mpr hi)]
  exact h
def clB (ids : List Nat) : Bool := ids.all (fun k => (xsh k).isSome && match xsh k with
  | some (.inr (_, fl)) => fl.all (fun f => match f with
    | some (.inl q) => ids.contains q
    | _ => true)
  | _ => true)
theorem shP_cl {ids : List Nat} (h : clB ids = true) : um_cl (shP ids) := fun k ci fl hk q hq => by
  obtain ⟨hm, hx⟩ := shP_in hk
  have h1 := List.all_eq_true.mp h k hm
  rw [hx] at h1
  simp only [Option.isSome_some, Bool.true_and] at h1
  have h2 := List.all_eq_true.mp h1 _ hq
  have hm2 := List.contains_iff_mem.mp h2
  have h3 := List.all_eq_true.mp h q hm2
  rw [Bool.and_eq_true] at h3
  obtain ⟨t, ht⟩ := Option.isSome_iff_exists.mp h3.1
  exact ⟨t, shP_of hm2 ht⟩
theorem shP_F {ids : List Nat} {acc : Nat → Option um_Sh} (h : ids.all (fun i => decide (acc i = xsh i)) = true) : ∀ i u, shP ids i = some u → acc i = some u := fun i u hi => by
  obtain ⟨hm, hx⟩ := shP_in hi
  rw [of_decide_eq_true (List.all_eq_true.mp h i hm)]
  exact hx
theorem shP_D {ids : List Nat} {acc : Nat → Option um_Sh} (h : ids.all (fun i => (acc i).isNone) = true) : ∀ i t u, acc i = some t → shP ids i = some u → False := fun i t u h1 h2 => by
  have h3 := List.all_eq_true.mp h i (shP_in h2).1
  rw [h1] at h3
  cases h3
theorem shT_dom {t i : Nat} {u : um_Sh} (h : shT t i = some u) : i = t ∨ i = t + 100 := by
  unfold shT at h
  by_cases h1 : i = t
  · exact Or.inl h1
  · rw [um_sx_ne h1] at h
    by_cases h2 : i = t + 100
    · exact Or.inr h2
    · rw [um_sx_ne h2] at h
      cases h
theorem shT_D {t : Nat} {acc : Nat → Option um_Sh} (h1 : acc t = none) (h2 : acc (t + 100) = none) : ∀ i a u, acc i = some a → shT t i = some u → False := fun i a u ha hu => by
  rcases shT_dom hu with rfl | rfl
  · rw [h1] at ha; cases ha
  · rw [h2] at ha; cases ha
section AQ
variable {p : Program} {l : Launch} {e : Env} {R : Room} {s : State} {m : MethodId} {args : Array Value} {below : List Frame} {meth : Method} {c : Code} {H : Heap} {locs : List Loc} {cells slots : Nat} {Q : State → Prop}
variable {cc : ByteArray} {nL pc : Nat} {ret : Option FieldType} {own : String} {Z : um_Z} {ls : Array Slot} {rest : List Value}
theorem um_vnewq {index N : Nat} {n : Int32} (Cx : um_C p s m meth c args cc nL ret own Z) (hcl : Cond.classLink own index RX7 ∈ WG) (hn : ¬ n < 0) (hN : n.toNatClampNeg = N) (hbytes : N * 4 ≤ 536870912) (hcells : cells + 1 ≤ R.cells) (hslots : slots + N ≤ R.slots) (hdg : decode cc pc = .ok (.anewarray index, 3))
    (kk : ∀ H1 : Heap, H1[H.size]? = some (vp_cell (Z.2.1 3) (N, .inr (.inr (.inr (.inr (fun _ => none)))))) → H1.size = H.size + 1 → (∀ q, q < H.size → H1[q]? = H[q]?) → W p l e R s m args below meth c H1 locs (cells + 1) (slots + N) Q (F0 m (pc + 3) ls (.ref H.size :: rest))) : W p l e R s m args below meth c H locs cells slots Q (F0 m pc ls (.int n :: rest)) := by
  subst hN
  obtain ⟨hx, hb, -, -, hown, hts, -, hE, -⟩ := Cx
  refine W.anew hx hb hown (hts _ hcl) (va_AO.use hE.2.2) rfl hdg rfl hn hbytes hcells hslots fun cA kA comp f1 f2 f3 f4 => ?_
  obtain ⟨kA', comp', g1, g2, g3, g4⟩ := (hE.1.2 3 _ rfl).2
  have hcA : cA = Z.2.1 3 := Option.some.inj (f1.symm.trans g4)
  subst hcA
  refine kk _ ?_ (by simp) (fun q hq => by rw [Array.getElem?_push, if_neg (Nat.ne_of_lt hq)])
  rw [Array.getElem?_push_size, vp_cell_q, ← arrV_new]
  rfl
theorem um_kst {h0 ci k n' sz q n j : Nat} {fl : List um_F} {σ : um_S} {sh : Nat → Option um_Sh} {α : Nat → Nat} {i x : Int32} (hB : um_B Z h0 ci k fl n' σ sz sh α H) (hS : va_S (um_KD h0 sz) s.heap H locs) (hkq : k ≠ q) (Cx : um_C p s m meth c args cc nL ret own Z) (hs : sh q = some (.inl (0, some n))) (hin : vp_in i n) (hj : i.toNatClampNeg = j) (hdg : decode cc pc = .ok (.iastore, 1))
    (kk : ∀ (H1 : Heap) (locs1 : List Loc), um_B Z h0 ci k fl n' (um_wr σ q j x) sz sh α H1 → va_S (um_KD h0 sz) s.heap H1 locs1 → H1.size = H.size → W p l e R s m args below meth c H1 locs1 cells slots Q (F0 m (pc + 1) ls rest)) : W p l e R s m args below meth c H locs cells slots Q (F0 m pc ls (.int x :: .int i :: .ref (α q) :: rest)) := by
  subst hj
  refine W.iast Cx.1 Cx.2.1 (um_cell hB.2.1 hs (by decide) rfl) (um_ta Cx.2.2.2.2.2.2.2.1 0 rfl) (fun q => by cases q) (by rw [arrV_size]; exact hin) rfl rfl hdg fun H1 e z oq => ?_
  exact kk H1 _ (hB.wr hkq (um_stn hB.2.1 hs (by decide) rfl e oq) (oq h0 (Ne.symm (hB.ne hs)))) (hS.put z oq (Or.inr (hB.2.2.1 q _ hs))) z
end AQ
theorem um_B.arrq {Z : um_Z} {h0 ci k n sz : Nat} {fl : List um_F} {σ : um_S} {sh : Nat → Option um_Sh} {α : Nat → Nat} {H H1 : Heap} {q N : Nat} (h : um_B Z h0 ci k fl n σ sz sh α H) (hq : sh q = none) (hb : Z.2.2.1 ≤ sz) (hsz : sz ≤ H.size) (hr : ∀ a b, σ.2.1 a b = none) (hc : H1[H.size]? = some (vp_cell (Z.2.1 3) (N, .inr (.inr (.inr (.inr (fun _ => none))))))) (o : ∀ x, x < H.size → H1[x]? = H[x]?) : um_B Z h0 ci k fl n σ sz (um_sx sh q (.inl (3, some N))) (um_ax α q H.size) H1 :=
  h.cell hq hb hsz (by simp only [um_E, um_len, um_row, if_true, hr, Option.map_none]; exact hc) o

section CTS
variable {l : Launch} {Z : um_Z} {h0 sz : Nat}
theorem kI_X1 : um_kI yX1_init cX1_init 1 0 := ⟨qI_X1_init, qN_X1, qK_X1_init, rfl, by decide +kernel⟩
theorem kI_X4 : um_kI yX4_init cX4_init 1 0 := ⟨qI_X4_init, qN_X4, qK_X4_init, rfl, by decide +kernel⟩
theorem kI_X6 : um_kI yX6_init cX6_init 1 0 := ⟨qI_X6_init, qN_X6, qK_X6_init, rfl, by decide +kernel⟩
theorem kI_X0 : um_kI yX0_init cX0_init 1 0 := ⟨qI_X0_init, qN_X0, qK_X0_init, rfl, by decide +kernel⟩
theorem kI_X2 : um_kI yX2_init cX2_init 1 0 := ⟨qI_X2_init, qN_X2, qK_X2_init, rfl, by decide +kernel⟩
theorem kI_X8 : um_kI yX8_init cX8_init 1 0 := ⟨qI_X8_init, qN_X8, qK_X8_init, rfl, by decide +kernel⟩
theorem kI_X9 : um_kI yX9_init cX9_init 2 0 := ⟨qI_X9_init, qN_X9, qK_X9_init, rfl, by decide +kernel⟩
set_option maxRecDepth 100000 in
set_option maxHeartbeats 4000000 in
theorem c_X1_init_31 : um_K l yX1_init cX1_init 1 1 30 1 14 Z h0 1 [.null, .int 0] [] sz (um_KB Z (shP [31, 131]) 31 h0 sz um_x0) := by
  refine um_kstart (by decide) rfl (Nat.le_of_ble_eq_true rfl) ?_
  intro p e s m below meth c ls Cx hin hsz hb0 hbs hat hl
  have hx := Cx.1
  have hb := Cx.2.1
  have hl : lv_has ls 1 [(0, .ref h0)] := hl
  have hlt : h0 < sz := hsz ▸ hat.lt
  have hAo : ∀ x, um_KD h0 sz x → um_old Z x := fun x hx => hx.elim (fun h => h ▸ hb0) (fun h => Nat.le_trans hbs h)
  have hB : um_B Z h0 1 31 [some (.inl (20 * 1 + 111)), none] 0 um_x0 sz (fun _ => none) (fun _ => 0) s.heap := um_B.nil hat rfl hlt um_x0_ref
  have hz : sz ≤ s.heap.size := Nat.le_of_eq hsz.symm
  clear hat
  obtain ⟨H0, hHe⟩ : ∃ H, H = s.heap := ⟨_, rfl⟩
  have hS : va_S (um_KD h0 sz) s.heap H0 [] := by rw [hHe]; exact va_S.rf
  rw [← hHe] at hB hz ⊢
  generalize ([] : List Loc) = locs at hS ⊢
  generalize (fun _ => 0 : Nat → Nat) = α at hB
  refine lv_aload_n (pc := 0) hx hb dX1_init_0 rfl (lv_at hl 0 rfl) ?_
  refine um_kobj (pc := 1) Cx hl qM_X1_3 (Nat.le_of_ble_eq_true rfl) (Nat.le_of_ble_eq_true rfl) dX1_init_1 ?_
  refine lv_aload_n (pc := 4) hx hb dX1_init_4 rfl (lv_at hl 0 rfl) ?_
  refine lv_bipush (pc := 5) (v := (14 : Int32)) hx hb dX1_init_5 (by decide) ?_
  refine um_vnewq (pc := 7) (N := 14) Cx qCL_X1_9 (by decide) (by decide) (by decide) (Nat.le_of_ble_eq_true rfl) (Nat.le_of_ble_eq_true rfl) dX1_init_7 (fun Ha1 hc z o => ?_)
  have hB := hB.arrq (q := 131) (N := 14) rfl hbs hz um_x0_ref hc o
  have hS := hS.push (by omega) o
  have hz : sz ≤ Ha1.size := by omega
  have ea : um_ax α 131 H0.size 131 = H0.size := um_ax_eq _ _ _
  generalize um_ax α 131 H0.size = α at hB ea
  clear hc o
  refine um_vput (pc := 10) (v := .ref H0.size) Cx hB.1 iX1 tyX1 tyX1_ok nmX1 rfl 0 (by decide) qF_X1_11 rfl rfl hin rfl (tyX1_ok 0 (by decide)) rfl rfl (by rw [um_bf_len]; exact Nat.le_of_ble_eq_true rfl) dX1_init_10 (fun Ha2 i he z2 o2 => ?_)
  have hB := hB.put (f := some (.inl 131)) rfl (fun q h => by cases h; exact ⟨_, rfl⟩) (by simp only [um_fv, ea]; exact he) o2
  have hS := hS.put (k := i) z2 o2 (Or.inl rfl)
  have hz : sz ≤ Ha2.size := by omega
  clear he o2 ea
  have hB := hB.skip rfl (by first | rfl | (rw [um_x0_row (by decide)]))
  refine W.widen (k := 1) (n := 14) (Nat.le_of_ble_eq_true rfl) (Nat.le_of_ble_eq_true rfl) ?_
  exact um_kret (pc := 13) Cx (hB.out (Nat.le_refl _) rfl hb0 um_x0_ref (shP_F (by decide)) (shP_cl (by decide))) hS dX1_init_13
set_option maxRecDepth 100000 in
set_option maxHeartbeats 4000000 in
theorem c_X1_init_51 : um_K l yX1_init cX1_init 1 1 30 1 14 Z h0 1 [.null, .int 0] [] sz (um_KB Z (shP [51, 151]) 51 h0 sz um_x0) := by
  refine um_kstart (by decide) rfl (Nat.le_of_ble_eq_true rfl) ?_
  intro p e s m below meth c ls Cx hin hsz hb0 hbs hat hl
  have hx := Cx.1
  have hb := Cx.2.1
  have hl : lv_has ls 1 [(0, .ref h0)] := hl
  have hlt : h0 < sz := hsz ▸ hat.lt
  have hAo : ∀ x, um_KD h0 sz x → um_old Z x := fun x hx => hx.elim (fun h => h ▸ hb0) (fun h => Nat.le_trans hbs h)
  have hB : um_B Z h0 1 51 [some (.inl (20 * 2 + 111)), none] 0 um_x0 sz (fun _ => none) (fun _ => 0) s.heap := um_B.nil hat rfl hlt um_x0_ref
  have hz : sz ≤ s.heap.size := Nat.le_of_eq hsz.symm
  clear hat
  obtain ⟨H0, hHe⟩ : ∃ H, H = s.heap := ⟨_, rfl⟩
  have hS : va_S (um_KD h0 sz) s.heap H0 [] := by rw [hHe]; exact va_S.rf
  rw [← hHe] at hB hz ⊢
  generalize ([] : List Loc) = locs at hS ⊢
  generalize (fun _ => 0 : Nat → Nat) = α at hB
  refine lv_aload_n (pc := 0) hx hb dX1_init_0 rfl (lv_at hl 0 rfl) ?_
  refine um_kobj (pc := 1) Cx hl qM_X1_3 (Nat.le_of_ble_eq_true rfl) (Nat.le_of_ble_eq_true rfl) dX1_init_1 ?_
  refine lv_aload_n (pc := 4) hx hb dX1_init_4 rfl (lv_at hl 0 rfl) ?_
  refine lv_bipush (pc := 5) (v := (14 : Int32)) hx hb dX1_init_5 (by decide) ?_
  refine um_vnewq (pc := 7) (N := 14) Cx qCL_X1_9 (by decide) (by decide) (by decide) (Nat.le_of_ble_eq_true rfl) (Nat.le_of_ble_eq_true rfl) dX1_init_7 (fun Ha1 hc z o => ?_)
  have hB := hB.arrq (q := 151) (N := 14) rfl hbs hz um_x0_ref hc o
  have hS := hS.push (by omega) o
  have hz : sz ≤ Ha1.size := by omega
  have ea : um_ax α 151 H0.size 151 = H0.size := um_ax_eq _ _ _
  generalize um_ax α 151 H0.size = α at hB ea
  clear hc o
  refine um_vput (pc := 10) (v := .ref H0.size) Cx hB.1 iX1 tyX1 tyX1_ok nmX1 rfl 0 (by decide) qF_X1_11 rfl rfl hin rfl (tyX1_ok 0 (by decide)) rfl rfl (by rw [um_bf_len]; exact Nat.le_of_ble_eq_true rfl) dX1_init_10 (fun Ha2 i he z2 o2 => ?_)
  have hB := hB.put (f := some (.inl 151)) rfl (fun q h => by cases h; exact ⟨_, rfl⟩) (by simp only [um_fv, ea]; exact he) o2
  have hS := hS.put (k := i) z2 o2 (Or.inl rfl)
  have hz : sz ≤ Ha2.size := by omega
  clear he o2 ea
  have hB := hB.skip rfl (by first | rfl | (rw [um_x0_row (by decide)]))
  refine W.widen (k := 1) (n := 14) (Nat.le_of_ble_eq_true rfl) (Nat.le_of_ble_eq_true rfl) ?_
  exact um_kret (pc := 13) Cx (hB.out (Nat.le_refl _) rfl hb0 um_x0_ref (shP_F (by decide)) (shP_cl (by decide))) hS dX1_init_13
set_option maxRecDepth 100000 in
set_option maxHeartbeats 4000000 in
theorem c_X1_init_71 : um_K l yX1_init cX1_init 1 1 30 1 14 Z h0 1 [.null, .int 0] [] sz (um_KB Z (shP [71, 171]) 71 h0 sz um_x0) := by
  refine um_kstart (by decide) rfl (Nat.le_of_ble_eq_true rfl) ?_
  intro p e s m below meth c ls Cx hin hsz hb0 hbs hat hl
  have hx := Cx.1
  have hb := Cx.2.1
  have hl : lv_has ls 1 [(0, .ref h0)] := hl
  have hlt : h0 < sz := hsz ▸ hat.lt
  have hAo : ∀ x, um_KD h0 sz x → um_old Z x := fun x hx => hx.elim (fun h => h ▸ hb0) (fun h => Nat.le_trans hbs h)
  have hB : um_B Z h0 1 71 [some (.inl (20 * 3 + 111)), none] 0 um_x0 sz (fun _ => none) (fun _ => 0) s.heap := um_B.nil hat rfl hlt um_x0_ref
  have hz : sz ≤ s.heap.size := Nat.le_of_eq hsz.symm
  clear hat
  obtain ⟨H0, hHe⟩ : ∃ H, H = s.heap := ⟨_, rfl⟩
  have hS : va_S (um_KD h0 sz) s.heap H0 [] := by rw [hHe]; exact va_S.rf
  rw [← hHe] at hB hz ⊢
  generalize ([] : List Loc) = locs at hS ⊢
  generalize (fun _ => 0 : Nat → Nat) = α at hB
  refine lv_aload_n (pc := 0) hx hb dX1_init_0 rfl (lv_at hl 0 rfl) ?_
  refine um_kobj (pc := 1) Cx hl qM_X1_3 (Nat.le_of_ble_eq_true rfl) (Nat.le_of_ble_eq_true rfl) dX1_init_1 ?_
  refine lv_aload_n (pc := 4) hx hb dX1_init_4 rfl (lv_at hl 0 rfl) ?_
  refine lv_bipush (pc := 5) (v := (14 : Int32)) hx hb dX1_init_5 (by decide) ?_
  refine um_vnewq (pc := 7) (N := 14) Cx qCL_X1_9 (by decide) (by decide) (by decide) (Nat.le_of_ble_eq_true rfl) (Nat.le_of_ble_eq_true rfl) dX1_init_7 (fun Ha1 hc z o => ?_)
  have hB := hB.arrq (q := 171) (N := 14) rfl hbs hz um_x0_ref hc o
  have hS := hS.push (by omega) o
  have hz : sz ≤ Ha1.size := by omega
  have ea : um_ax α 171 H0.size 171 = H0.size := um_ax_eq _ _ _
  generalize um_ax α 171 H0.size = α at hB ea
  clear hc o
  refine um_vput (pc := 10) (v := .ref H0.size) Cx hB.1 iX1 tyX1 tyX1_ok nmX1 rfl 0 (by decide) qF_X1_11 rfl rfl hin rfl (tyX1_ok 0 (by decide)) rfl rfl (by rw [um_bf_len]; exact Nat.le_of_ble_eq_true rfl) dX1_init_10 (fun Ha2 i he z2 o2 => ?_)
  have hB := hB.put (f := some (.inl 171)) rfl (fun q h => by cases h; exact ⟨_, rfl⟩) (by simp only [um_fv, ea]; exact he) o2
  have hS := hS.put (k := i) z2 o2 (Or.inl rfl)
  have hz : sz ≤ Ha2.size := by omega
  clear he o2 ea
  have hB := hB.skip rfl (by first | rfl | (rw [um_x0_row (by decide)]))
  refine W.widen (k := 1) (n := 14) (Nat.le_of_ble_eq_true rfl) (Nat.le_of_ble_eq_true rfl) ?_
  exact um_kret (pc := 13) Cx (hB.out (Nat.le_refl _) rfl hb0 um_x0_ref (shP_F (by decide)) (shP_cl (by decide))) hS dX1_init_13
set_option maxRecDepth 100000 in
set_option maxHeartbeats 4000000 in
theorem c_X4_init_1 : um_K l yX4_init cX4_init 1 2 52 24 780 Z h0 3 [.null, .null, .null, .null, .null, .null, .null, .null, .null, .null, .null, .null, .int 0, .int 0, .int 0] [] sz (um_KB Z (shP [1, 20, 21, 22, 23, 24, 25, 26, 27, 28, 29, 30, 31, 120, 121, 122, 123, 124, 125, 126, 127, 128, 129, 130, 131]) 1 h0 sz um_x0) := by
  refine um_kstart (by decide) rfl (Nat.le_of_ble_eq_true rfl) ?_
  intro p e s m below meth c ls Cx hin hsz hb0 hbs hat hl
  have hx := Cx.1
  have hb := Cx.2.1
  have hl : lv_has ls 1 [(0, .ref h0)] := hl
  have hlt : h0 < sz := hsz ▸ hat.lt
  have hAo : ∀ x, um_KD h0 sz x → um_old Z x := fun x hx => hx.elim (fun h => h ▸ hb0) (fun h => Nat.le_trans hbs h)
  have hB : um_B Z h0 3 1 [some (.inl (20 * 1 + 0)), some (.inl (20 * 1 + 1)), some (.inl (20 * 1 + 2)), some (.inl (20 * 1 + 3)), some (.inl (20 * 1 + 4)), some (.inl (20 * 1 + 5)), some (.inl (20 * 1 + 6)), some (.inl (20 * 1 + 7)), some (.inl (20 * 1 + 8)), some (.inl (20 * 1 + 9)), some (.inl (20 * 1 + 10)), some (.inl (20 * 1 + 11)), none, none, none] 0 um_x0 sz (fun _ => none) (fun _ => 0) s.heap := um_B.nil hat rfl hlt um_x0_ref
  have hz : sz ≤ s.heap.size := Nat.le_of_eq hsz.symm
  clear hat
  obtain ⟨H0, hHe⟩ : ∃ H, H = s.heap := ⟨_, rfl⟩
  have hS : va_S (um_KD h0 sz) s.heap H0 [] := by rw [hHe]; exact va_S.rf
  rw [← hHe] at hB hz ⊢
  generalize ([] : List Loc) = locs at hS ⊢
  generalize (fun _ => 0 : Nat → Nat) = α at hB
  refine lv_aload_n (pc := 0) hx hb dX4_init_0 rfl (lv_at hl 0 rfl) ?_
  refine um_kobj (pc := 1) Cx hl qM_X4_3 (Nat.le_of_ble_eq_true rfl) (Nat.le_of_ble_eq_true rfl) dX4_init_1 ?_
  refine lv_aload_n (pc := 4) hx hb dX4_init_4 rfl (lv_at hl 0 rfl) ?_
  refine um_vnew (pc := 5) (ci := 4) (fs := [.int 0, .null, .int 0]) Cx iX5 tyX5 tyX5_ok qCL_X4_9 qB_X5 qN_X5 rfl (fun j hj => by rcases (show j = 0 ∨ j = 1 ∨ j = 2 by omega) with rfl | rfl | rfl <;> rfl) (Nat.le_of_ble_eq_true rfl) (Nat.le_of_ble_eq_true rfl) dX4_init_5 (fun Ha1 hat2 zb ob => ?_)
  have hBb := hB.same ob
  have hSb := hS.push (by omega) ob
  have hz0 := hz
  have hzb : sz ≤ Ha1.size := by omega
  refine lv_dup (pc := 8) hx hb dX4_init_8 rfl ?_
  refine lv_iconst (pc := 9) (v := (2 : Int32)) hx hb dX4_init_9 (by decide) ?_
  refine lv_bipush (pc := 10) (v := (8 : Int32)) hx hb dX4_init_10 (by decide) ?_
  refine um_kcall (pc := 12) (As := [.int (2 : Int32), .int (8 : Int32)]) (rest := [.ref H0.size, .ref h0]) Cx (c_X5_init 20 (2 : Int32) (8 : Int32) ⟨by decide, by decide⟩ (by decide) (by decide) (by decide) (by decide)) kI_X5 (Or.inl qM_X4_11) hat2 rfl (Nat.le_trans hbs hz0) (by omega) hSb hAo (fun x hx => Or.inr (by rcases hx with rfl | hx <;> omega)) rfl hl rfl (Nat.le_of_ble_eq_true rfl) (Nat.le_of_ble_eq_true rfl) (Nat.le_of_ble_eq_true rfl) dX4_init_12 (Nat.le_of_ble_eq_true rfl) (Nat.le_of_ble_eq_true rfl) (fun Ha2 locs hKB zc oc hS => ?_)
  obtain ⟨α, ea, hB⟩ := hBb.sub hKB (shT_cl 20) hz0 (by omega) hB.lt (by omega) oc rfl ⟨_, rfl⟩ (shT_D rfl rfl) um_x0_ref
  have hz : sz ≤ Ha2.size := by omega
  clear hBb hKB oc hat2 ob
  refine um_vput (pc := 15) (v := .ref H0.size) Cx hB.1 iX4 tyX4 tyX4_ok nmX4 rfl 0 (by decide) qF_X4_14 rfl rfl hin rfl (tyX4_ok 0 (by decide)) rfl rfl (by rw [um_bf_len]; exact Nat.le_of_ble_eq_true rfl) dX4_init_15 (fun Ha3 i he z2 o2 => ?_)
  have hB := hB.put (f := some (.inl 20)) rfl (fun q h => by cases h; exact ⟨_, rfl⟩) (by simp only [um_fv, ea]; exact he) o2
  have hS := hS.put (k := i) z2 o2 (Or.inl rfl)
  have hz : sz ≤ Ha3.size := by omega
  clear he o2 ea
  refine lv_aload_n (pc := 18) hx hb dX4_init_18 rfl (lv_at hl 0 rfl) ?_
  refine um_vnew (pc := 19) (ci := 4) (fs := [.int 0, .null, .int 0]) Cx iX5 tyX5 tyX5_ok qCL_X4_9 qB_X5 qN_X5 rfl (fun j hj => by rcases (show j = 0 ∨ j = 1 ∨ j = 2 by omega) with rfl | rfl | rfl <;> rfl) (Nat.le_of_ble_eq_true rfl) (Nat.le_of_ble_eq_true rfl) dX4_init_19 (fun Ha4 hat2 zb ob => ?_)
  have hBb := hB.same ob
  have hSb := hS.push (by omega) ob
  have hz0 := hz
  have hzb : sz ≤ Ha4.size := by omega
  refine lv_dup (pc := 22) hx hb dX4_init_22 rfl ?_
  refine lv_bipush (pc := 23) (v := (14 : Int32)) hx hb dX4_init_23 (by decide) ?_
  refine lv_bipush (pc := 25) (v := (14 : Int32)) hx hb dX4_init_25 (by decide) ?_
  refine um_kcall (pc := 27) (As := [.int (14 : Int32), .int (14 : Int32)]) (rest := [.ref Ha3.size, .ref h0]) Cx (c_X5_init 21 (14 : Int32) (14 : Int32) ⟨by decide, by decide⟩ (by decide) (by decide) (by decide) (by decide)) kI_X5 (Or.inl qM_X4_11) hat2 rfl (Nat.le_trans hbs hz0) (by omega) hSb hAo (fun x hx => Or.inr (by rcases hx with rfl | hx <;> omega)) rfl hl rfl (Nat.le_of_ble_eq_true rfl) (Nat.le_of_ble_eq_true rfl) (Nat.le_of_ble_eq_true rfl) dX4_init_27 (Nat.le_of_ble_eq_true rfl) (Nat.le_of_ble_eq_true rfl) (fun Ha5 locs hKB zc oc hS => ?_)
  obtain ⟨α, ea, hB⟩ := hBb.sub hKB (shT_cl 21) hz0 (by omega) hB.lt (by omega) oc rfl ⟨_, rfl⟩ (shT_D rfl rfl) um_x0_ref
  have hz : sz ≤ Ha5.size := by omega
  clear hBb hKB oc hat2 ob
  refine um_vput (pc := 30) (v := .ref Ha3.size) Cx hB.1 iX4 tyX4 tyX4_ok nmX4 rfl 1 (by decide) qF_X4_20 rfl rfl hin rfl (tyX4_ok 1 (by decide)) rfl rfl (by rw [um_bf_len]; exact Nat.le_of_ble_eq_true rfl) dX4_init_30 (fun Ha6 i he z2 o2 => ?_)
  have hB := hB.put (f := some (.inl 21)) rfl (fun q h => by cases h; exact ⟨_, rfl⟩) (by simp only [um_fv, ea]; exact he) o2
  have hS := hS.put (k := i) z2 o2 (Or.inl rfl)
  have hz : sz ≤ Ha6.size := by omega
  clear he o2 ea
  refine lv_aload_n (pc := 33) hx hb dX4_init_33 rfl (lv_at hl 0 rfl) ?_
  refine um_vnew (pc := 34) (ci := 4) (fs := [.int 0, .null, .int 0]) Cx iX5 tyX5 tyX5_ok qCL_X4_9 qB_X5 qN_X5 rfl (fun j hj => by rcases (show j = 0 ∨ j = 1 ∨ j = 2 by omega) with rfl | rfl | rfl <;> rfl) (Nat.le_of_ble_eq_true rfl) (Nat.le_of_ble_eq_true rfl) dX4_init_34 (fun Ha7 hat2 zb ob => ?_)
  have hBb := hB.same ob
  have hSb := hS.push (by omega) ob
  have hz0 := hz
  have hzb : sz ≤ Ha7.size := by omega
  refine lv_dup (pc := 37) hx hb dX4_init_37 rfl ?_
  refine lv_iconst (pc := 38) (v := (4 : Int32)) hx hb dX4_init_38 (by decide) ?_
  refine lv_bipush (pc := 39) (v := (6 : Int32)) hx hb dX4_init_39 (by decide) ?_
  refine um_kcall (pc := 41) (As := [.int (4 : Int32), .int (6 : Int32)]) (rest := [.ref Ha6.size, .ref h0]) Cx (c_X5_init 22 (4 : Int32) (6 : Int32) ⟨by decide, by decide⟩ (by decide) (by decide) (by decide) (by decide)) kI_X5 (Or.inl qM_X4_11) hat2 rfl (Nat.le_trans hbs hz0) (by omega) hSb hAo (fun x hx => Or.inr (by rcases hx with rfl | hx <;> omega)) rfl hl rfl (Nat.le_of_ble_eq_true rfl) (Nat.le_of_ble_eq_true rfl) (Nat.le_of_ble_eq_true rfl) dX4_init_41 (Nat.le_of_ble_eq_true rfl) (Nat.le_of_ble_eq_true rfl) (fun Ha8 locs hKB zc oc hS => ?_)
  obtain ⟨α, ea, hB⟩ := hBb.sub hKB (shT_cl 22) hz0 (by omega) hB.lt (by omega) oc rfl ⟨_, rfl⟩ (shT_D rfl rfl) um_x0_ref
  have hz : sz ≤ Ha8.size := by omega
  clear hBb hKB oc hat2 ob
  refine um_vput (pc := 44) (v := .ref Ha6.size) Cx hB.1 iX4 tyX4 tyX4_ok nmX4 rfl 2 (by decide) qF_X4_23 rfl rfl hin rfl (tyX4_ok 2 (by decide)) rfl rfl (by rw [um_bf_len]; exact Nat.le_of_ble_eq_true rfl) dX4_init_44 (fun Ha9 i he z2 o2 => ?_)
  have hB := hB.put (f := some (.inl 22)) rfl (fun q h => by cases h; exact ⟨_, rfl⟩) (by simp only [um_fv, ea]; exact he) o2
  have hS := hS.put (k := i) z2 o2 (Or.inl rfl)
  have hz : sz ≤ Ha9.size := by omega
  clear he o2 ea
  refine lv_aload_n (pc := 47) hx hb dX4_init_47 rfl (lv_at hl 0 rfl) ?_
  refine um_vnew (pc := 48) (ci := 4) (fs := [.int 0, .null, .int 0]) Cx iX5 tyX5 tyX5_ok qCL_X4_9 qB_X5 qN_X5 rfl (fun j hj => by rcases (show j = 0 ∨ j = 1 ∨ j = 2 by omega) with rfl | rfl | rfl <;> rfl) (Nat.le_of_ble_eq_true rfl) (Nat.le_of_ble_eq_true rfl) dX4_init_48 (fun Ha10 hat2 zb ob => ?_)
  have hBb := hB.same ob
  have hSb := hS.push (by omega) ob
  have hz0 := hz
  have hzb : sz ≤ Ha10.size := by omega
  refine lv_dup (pc := 51) hx hb dX4_init_51 rfl ?_
  refine lv_iconst (pc := 52) (v := (4 : Int32)) hx hb dX4_init_52 (by decide) ?_
  refine lv_bipush (pc := 53) (v := (40 : Int32)) hx hb dX4_init_53 (by decide) ?_
  refine um_kcall (pc := 55) (As := [.int (4 : Int32), .int (40 : Int32)]) (rest := [.ref Ha9.size, .ref h0]) Cx (c_X5_init 23 (4 : Int32) (40 : Int32) ⟨by decide, by decide⟩ (by decide) (by decide) (by decide) (by decide)) kI_X5 (Or.inl qM_X4_11) hat2 rfl (Nat.le_trans hbs hz0) (by omega) hSb hAo (fun x hx => Or.inr (by rcases hx with rfl | hx <;> omega)) rfl hl rfl (Nat.le_of_ble_eq_true rfl) (Nat.le_of_ble_eq_true rfl) (Nat.le_of_ble_eq_true rfl) dX4_init_55 (Nat.le_of_ble_eq_true rfl) (Nat.le_of_ble_eq_true rfl) (fun Ha11 locs hKB zc oc hS => ?_)
  obtain ⟨α, ea, hB⟩ := hBb.sub hKB (shT_cl 23) hz0 (by omega) hB.lt (by omega) oc rfl ⟨_, rfl⟩ (shT_D rfl rfl) um_x0_ref
  have hz : sz ≤ Ha11.size := by omega
  clear hBb hKB oc hat2 ob
  refine um_vput (pc := 58) (v := .ref Ha9.size) Cx hB.1 iX4 tyX4 tyX4_ok nmX4 rfl 3 (by decide) qF_X4_26 rfl rfl hin rfl (tyX4_ok 3 (by decide)) rfl rfl (by rw [um_bf_len]; exact Nat.le_of_ble_eq_true rfl) dX4_init_58 (fun Ha12 i he z2 o2 => ?_)
  have hB := hB.put (f := some (.inl 23)) rfl (fun q h => by cases h; exact ⟨_, rfl⟩) (by simp only [um_fv, ea]; exact he) o2
  have hS := hS.put (k := i) z2 o2 (Or.inl rfl)
  have hz : sz ≤ Ha12.size := by omega
  clear he o2 ea
  refine lv_aload_n (pc := 61) hx hb dX4_init_61 rfl (lv_at hl 0 rfl) ?_
  refine um_vnew (pc := 62) (ci := 4) (fs := [.int 0, .null, .int 0]) Cx iX5 tyX5 tyX5_ok qCL_X4_9 qB_X5 qN_X5 rfl (fun j hj => by rcases (show j = 0 ∨ j = 1 ∨ j = 2 by omega) with rfl | rfl | rfl <;> rfl) (Nat.le_of_ble_eq_true rfl) (Nat.le_of_ble_eq_true rfl) dX4_init_62 (fun Ha13 hat2 zb ob => ?_)
  have hBb := hB.same ob
  have hSb := hS.push (by omega) ob
  have hz0 := hz
  have hzb : sz ≤ Ha13.size := by omega
  refine lv_dup (pc := 65) hx hb dX4_init_65 rfl ?_
  refine lv_iconst (pc := 66) (v := (5 : Int32)) hx hb dX4_init_66 (by decide) ?_
  refine lv_bipush (pc := 67) (v := (20 : Int32)) hx hb dX4_init_67 (by decide) ?_
  refine um_kcall (pc := 69) (As := [.int (5 : Int32), .int (20 : Int32)]) (rest := [.ref Ha12.size, .ref h0]) Cx (c_X5_init 24 (5 : Int32) (20 : Int32) ⟨by decide, by decide⟩ (by decide) (by decide) (by decide) (by decide)) kI_X5 (Or.inl qM_X4_11) hat2 rfl (Nat.le_trans hbs hz0) (by omega) hSb hAo (fun x hx => Or.inr (by rcases hx with rfl | hx <;> omega)) rfl hl rfl (Nat.le_of_ble_eq_true rfl) (Nat.le_of_ble_eq_true rfl) (Nat.le_of_ble_eq_true rfl) dX4_init_69 (Nat.le_of_ble_eq_true rfl) (Nat.le_of_ble_eq_true rfl) (fun Ha14 locs hKB zc oc hS => ?_)
  obtain ⟨α, ea, hB⟩ := hBb.sub hKB (shT_cl 24) hz0 (by omega) hB.lt (by omega) oc rfl ⟨_, rfl⟩ (shT_D rfl rfl) um_x0_ref
  have hz : sz ≤ Ha14.size := by omega
  clear hBb hKB oc hat2 ob
  refine um_vput (pc := 72) (v := .ref Ha12.size) Cx hB.1 iX4 tyX4 tyX4_ok nmX4 rfl 4 (by decide) qF_X4_29 rfl rfl hin rfl (tyX4_ok 4 (by decide)) rfl rfl (by rw [um_bf_len]; exact Nat.le_of_ble_eq_true rfl) dX4_init_72 (fun Ha15 i he z2 o2 => ?_)
  have hB := hB.put (f := some (.inl 24)) rfl (fun q h => by cases h; exact ⟨_, rfl⟩) (by simp only [um_fv, ea]; exact he) o2
  have hS := hS.put (k := i) z2 o2 (Or.inl rfl)
  have hz : sz ≤ Ha15.size := by omega
  clear he o2 ea
  refine lv_aload_n (pc := 75) hx hb dX4_init_75 rfl (lv_at hl 0 rfl) ?_
  refine um_vnew (pc := 76) (ci := 4) (fs := [.int 0, .null, .int 0]) Cx iX5 tyX5 tyX5_ok qCL_X4_9 qB_X5 qN_X5 rfl (fun j hj => by rcases (show j = 0 ∨ j = 1 ∨ j = 2 by omega) with rfl | rfl | rfl <;> rfl) (Nat.le_of_ble_eq_true rfl) (Nat.le_of_ble_eq_true rfl) dX4_init_76 (fun Ha16 hat2 zb ob => ?_)
  have hBb := hB.same ob
  have hSb := hS.push (by omega) ob
  have hz0 := hz
  have hzb : sz ≤ Ha16.size := by omega
  refine lv_dup (pc := 79) hx hb dX4_init_79 rfl ?_
  refine lv_iconst (pc := 80) (v := (4 : Int32)) hx hb dX4_init_80 (by decide) ?_
  refine lv_bipush (pc := 81) (v := (10 : Int32)) hx hb dX4_init_81 (by decide) ?_
  refine um_kcall (pc := 83) (As := [.int (4 : Int32), .int (10 : Int32)]) (rest := [.ref Ha15.size, .ref h0]) Cx (c_X5_init 25 (4 : Int32) (10 : Int32) ⟨by decide, by decide⟩ (by decide) (by decide) (by decide) (by decide)) kI_X5 (Or.inl qM_X4_11) hat2 rfl (Nat.le_trans hbs hz0) (by omega) hSb hAo (fun x hx => Or.inr (by rcases hx with rfl | hx <;> omega)) rfl hl rfl (Nat.le_of_ble_eq_true rfl) (Nat.le_of_ble_eq_true rfl) (Nat.le_of_ble_eq_true rfl) dX4_init_83 (Nat.le_of_ble_eq_true rfl) (Nat.le_of_ble_eq_true rfl) (fun Ha17 locs hKB zc oc hS => ?_)
  obtain ⟨α, ea, hB⟩ := hBb.sub hKB (shT_cl 25) hz0 (by omega) hB.lt (by omega) oc rfl ⟨_, rfl⟩ (shT_D rfl rfl) um_x0_ref
  have hz : sz ≤ Ha17.size := by omega
  clear hBb hKB oc hat2 ob
  refine um_vput (pc := 86) (v := .ref Ha15.size) Cx hB.1 iX4 tyX4 tyX4_ok nmX4 rfl 5 (by decide) qF_X4_32 rfl rfl hin rfl (tyX4_ok 5 (by decide)) rfl rfl (by rw [um_bf_len]; exact Nat.le_of_ble_eq_true rfl) dX4_init_86 (fun Ha18 i he z2 o2 => ?_)
  have hB := hB.put (f := some (.inl 25)) rfl (fun q h => by cases h; exact ⟨_, rfl⟩) (by simp only [um_fv, ea]; exact he) o2
  have hS := hS.put (k := i) z2 o2 (Or.inl rfl)
  have hz : sz ≤ Ha18.size := by omega
  clear he o2 ea
  refine lv_aload_n (pc := 89) hx hb dX4_init_89 rfl (lv_at hl 0 rfl) ?_
  refine um_vnew (pc := 90) (ci := 4) (fs := [.int 0, .null, .int 0]) Cx iX5 tyX5 tyX5_ok qCL_X4_9 qB_X5 qN_X5 rfl (fun j hj => by rcases (show j = 0 ∨ j = 1 ∨ j = 2 by omega) with rfl | rfl | rfl <;> rfl) (Nat.le_of_ble_eq_true rfl) (Nat.le_of_ble_eq_true rfl) dX4_init_90 (fun Ha19 hat2 zb ob => ?_)
  have hBb := hB.same ob
  have hSb := hS.push (by omega) ob
  have hz0 := hz
  have hzb : sz ≤ Ha19.size := by omega
  refine lv_dup (pc := 93) hx hb dX4_init_93 rfl ?_
  refine lv_iconst (pc := 94) (v := (3 : Int32)) hx hb dX4_init_94 (by decide) ?_
  refine lv_bipush (pc := 95) (v := (30 : Int32)) hx hb dX4_init_95 (by decide) ?_
  refine um_kcall (pc := 97) (As := [.int (3 : Int32), .int (30 : Int32)]) (rest := [.ref Ha18.size, .ref h0]) Cx (c_X5_init 26 (3 : Int32) (30 : Int32) ⟨by decide, by decide⟩ (by decide) (by decide) (by decide) (by decide)) kI_X5 (Or.inl qM_X4_11) hat2 rfl (Nat.le_trans hbs hz0) (by omega) hSb hAo (fun x hx => Or.inr (by rcases hx with rfl | hx <;> omega)) rfl hl rfl (Nat.le_of_ble_eq_true rfl) (Nat.le_of_ble_eq_true rfl) (Nat.le_of_ble_eq_true rfl) dX4_init_97 (Nat.le_of_ble_eq_true rfl) (Nat.le_of_ble_eq_true rfl) (fun Ha20 locs hKB zc oc hS => ?_)
  obtain ⟨α, ea, hB⟩ := hBb.sub hKB (shT_cl 26) hz0 (by omega) hB.lt (by omega) oc rfl ⟨_, rfl⟩ (shT_D rfl rfl) um_x0_ref
  have hz : sz ≤ Ha20.size := by omega
  clear hBb hKB oc hat2 ob
  refine um_vput (pc := 100) (v := .ref Ha18.size) Cx hB.1 iX4 tyX4 tyX4_ok nmX4 rfl 6 (by decide) qF_X4_35 rfl rfl hin rfl (tyX4_ok 6 (by decide)) rfl rfl (by rw [um_bf_len]; exact Nat.le_of_ble_eq_true rfl) dX4_init_100 (fun Ha21 i he z2 o2 => ?_)
  have hB := hB.put (f := some (.inl 26)) rfl (fun q h => by cases h; exact ⟨_, rfl⟩) (by simp only [um_fv, ea]; exact he) o2
  have hS := hS.put (k := i) z2 o2 (Or.inl rfl)
  have hz : sz ≤ Ha21.size := by omega
  clear he o2 ea
  refine lv_aload_n (pc := 103) hx hb dX4_init_103 rfl (lv_at hl 0 rfl) ?_
  refine um_vnew (pc := 104) (ci := 4) (fs := [.int 0, .null, .int 0]) Cx iX5 tyX5 tyX5_ok qCL_X4_9 qB_X5 qN_X5 rfl (fun j hj => by rcases (show j = 0 ∨ j = 1 ∨ j = 2 by omega) with rfl | rfl | rfl <;> rfl) (Nat.le_of_ble_eq_true rfl) (Nat.le_of_ble_eq_true rfl) dX4_init_104 (fun Ha22 hat2 zb ob => ?_)
  have hBb := hB.same ob
  have hSb := hS.push (by omega) ob
  have hz0 := hz
  have hzb : sz ≤ Ha22.size := by omega
  refine lv_dup (pc := 107) hx hb dX4_init_107 rfl ?_
  refine lv_iconst (pc := 108) (v := (2 : Int32)) hx hb dX4_init_108 (by decide) ?_
  refine lv_bipush (pc := 109) (v := (6 : Int32)) hx hb dX4_init_109 (by decide) ?_
  refine um_kcall (pc := 111) (As := [.int (2 : Int32), .int (6 : Int32)]) (rest := [.ref Ha21.size, .ref h0]) Cx (c_X5_init 27 (2 : Int32) (6 : Int32) ⟨by decide, by decide⟩ (by decide) (by decide) (by decide) (by decide)) kI_X5 (Or.inl qM_X4_11) hat2 rfl (Nat.le_trans hbs hz0) (by omega) hSb hAo (fun x hx => Or.inr (by rcases hx with rfl | hx <;> omega)) rfl hl rfl (Nat.le_of_ble_eq_true rfl) (Nat.le_of_ble_eq_true rfl) (Nat.le_of_ble_eq_true rfl) dX4_init_111 (Nat.le_of_ble_eq_true rfl) (Nat.le_of_ble_eq_true rfl) (fun Ha23 locs hKB zc oc hS => ?_)
  obtain ⟨α, ea, hB⟩ := hBb.sub hKB (shT_cl 27) hz0 (by omega) hB.lt (by omega) oc rfl ⟨_, rfl⟩ (shT_D rfl rfl) um_x0_ref
  have hz : sz ≤ Ha23.size := by omega
  clear hBb hKB oc hat2 ob
  refine um_vput (pc := 114) (v := .ref Ha21.size) Cx hB.1 iX4 tyX4 tyX4_ok nmX4 rfl 7 (by decide) qF_X4_38 rfl rfl hin rfl (tyX4_ok 7 (by decide)) rfl rfl (by rw [um_bf_len]; exact Nat.le_of_ble_eq_true rfl) dX4_init_114 (fun Ha24 i he z2 o2 => ?_)
  have hB := hB.put (f := some (.inl 27)) rfl (fun q h => by cases h; exact ⟨_, rfl⟩) (by simp only [um_fv, ea]; exact he) o2
  have hS := hS.put (k := i) z2 o2 (Or.inl rfl)
  have hz : sz ≤ Ha24.size := by omega
  clear he o2 ea
  refine lv_aload_n (pc := 117) hx hb dX4_init_117 rfl (lv_at hl 0 rfl) ?_
  refine um_vnew (pc := 118) (ci := 4) (fs := [.int 0, .null, .int 0]) Cx iX5 tyX5 tyX5_ok qCL_X4_9 qB_X5 qN_X5 rfl (fun j hj => by rcases (show j = 0 ∨ j = 1 ∨ j = 2 by omega) with rfl | rfl | rfl <;> rfl) (Nat.le_of_ble_eq_true rfl) (Nat.le_of_ble_eq_true rfl) dX4_init_118 (fun Ha25 hat2 zb ob => ?_)
  have hBb := hB.same ob
  have hSb := hS.push (by omega) ob
  have hz0 := hz
  have hzb : sz ≤ Ha25.size := by omega
  refine lv_dup (pc := 121) hx hb dX4_init_121 rfl ?_
  refine lv_bipush (pc := 122) (v := (6 : Int32)) hx hb dX4_init_122 (by decide) ?_
  refine lv_bipush (pc := 124) (v := (6 : Int32)) hx hb dX4_init_124 (by decide) ?_
  refine um_kcall (pc := 126) (As := [.int (6 : Int32), .int (6 : Int32)]) (rest := [.ref Ha24.size, .ref h0]) Cx (c_X5_init 28 (6 : Int32) (6 : Int32) ⟨by decide, by decide⟩ (by decide) (by decide) (by decide) (by decide)) kI_X5 (Or.inl qM_X4_11) hat2 rfl (Nat.le_trans hbs hz0) (by omega) hSb hAo (fun x hx => Or.inr (by rcases hx with rfl | hx <;> omega)) rfl hl rfl (Nat.le_of_ble_eq_true rfl) (Nat.le_of_ble_eq_true rfl) (Nat.le_of_ble_eq_true rfl) dX4_init_126 (Nat.le_of_ble_eq_true rfl) (Nat.le_of_ble_eq_true rfl) (fun Ha26 locs hKB zc oc hS => ?_)
  obtain ⟨α, ea, hB⟩ := hBb.sub hKB (shT_cl 28) hz0 (by omega) hB.lt (by omega) oc rfl ⟨_, rfl⟩ (shT_D rfl rfl) um_x0_ref
  have hz : sz ≤ Ha26.size := by omega
  clear hBb hKB oc hat2 ob
  refine um_vput (pc := 129) (v := .ref Ha24.size) Cx hB.1 iX4 tyX4 tyX4_ok nmX4 rfl 8 (by decide) qF_X4_41 rfl rfl hin rfl (tyX4_ok 8 (by decide)) rfl rfl (by rw [um_bf_len]; exact Nat.le_of_ble_eq_true rfl) dX4_init_129 (fun Ha27 i he z2 o2 => ?_)
  have hB := hB.put (f := some (.inl 28)) rfl (fun q h => by cases h; exact ⟨_, rfl⟩) (by simp only [um_fv, ea]; exact he) o2
  have hS := hS.put (k := i) z2 o2 (Or.inl rfl)
  have hz : sz ≤ Ha27.size := by omega
  clear he o2 ea
  refine lv_aload_n (pc := 132) hx hb dX4_init_132 rfl (lv_at hl 0 rfl) ?_
  refine um_vnew (pc := 133) (ci := 4) (fs := [.int 0, .null, .int 0]) Cx iX5 tyX5 tyX5_ok qCL_X4_9 qB_X5 qN_X5 rfl (fun j hj => by rcases (show j = 0 ∨ j = 1 ∨ j = 2 by omega) with rfl | rfl | rfl <;> rfl) (Nat.le_of_ble_eq_true rfl) (Nat.le_of_ble_eq_true rfl) dX4_init_133 (fun Ha28 hat2 zb ob => ?_)
  have hBb := hB.same ob
  have hSb := hS.push (by omega) ob
  have hz0 := hz
  have hzb : sz ≤ Ha28.size := by omega
  refine lv_dup (pc := 136) hx hb dX4_init_136 rfl ?_
  refine lv_iconst (pc := 137) (v := (3 : Int32)) hx hb dX4_init_137 (by decide) ?_
  refine lv_bipush (pc := 138) (v := (7 : Int32)) hx hb dX4_init_138 (by decide) ?_
  refine um_kcall (pc := 140) (As := [.int (3 : Int32), .int (7 : Int32)]) (rest := [.ref Ha27.size, .ref h0]) Cx (c_X5_init 29 (3 : Int32) (7 : Int32) ⟨by decide, by decide⟩ (by decide) (by decide) (by decide) (by decide)) kI_X5 (Or.inl qM_X4_11) hat2 rfl (Nat.le_trans hbs hz0) (by omega) hSb hAo (fun x hx => Or.inr (by rcases hx with rfl | hx <;> omega)) rfl hl rfl (Nat.le_of_ble_eq_true rfl) (Nat.le_of_ble_eq_true rfl) (Nat.le_of_ble_eq_true rfl) dX4_init_140 (Nat.le_of_ble_eq_true rfl) (Nat.le_of_ble_eq_true rfl) (fun Ha29 locs hKB zc oc hS => ?_)
  obtain ⟨α, ea, hB⟩ := hBb.sub hKB (shT_cl 29) hz0 (by omega) hB.lt (by omega) oc rfl ⟨_, rfl⟩ (shT_D rfl rfl) um_x0_ref
  have hz : sz ≤ Ha29.size := by omega
  clear hBb hKB oc hat2 ob
  refine um_vput (pc := 143) (v := .ref Ha27.size) Cx hB.1 iX4 tyX4 tyX4_ok nmX4 rfl 9 (by decide) qF_X4_44 rfl rfl hin rfl (tyX4_ok 9 (by decide)) rfl rfl (by rw [um_bf_len]; exact Nat.le_of_ble_eq_true rfl) dX4_init_143 (fun Ha30 i he z2 o2 => ?_)
  have hB := hB.put (f := some (.inl 29)) rfl (fun q h => by cases h; exact ⟨_, rfl⟩) (by simp only [um_fv, ea]; exact he) o2
  have hS := hS.put (k := i) z2 o2 (Or.inl rfl)
  have hz : sz ≤ Ha30.size := by omega
  clear he o2 ea
  refine lv_aload_n (pc := 146) hx hb dX4_init_146 rfl (lv_at hl 0 rfl) ?_
  refine um_vnew (pc := 147) (ci := 4) (fs := [.int 0, .null, .int 0]) Cx iX5 tyX5 tyX5_ok qCL_X4_9 qB_X5 qN_X5 rfl (fun j hj => by rcases (show j = 0 ∨ j = 1 ∨ j = 2 by omega) with rfl | rfl | rfl <;> rfl) (Nat.le_of_ble_eq_true rfl) (Nat.le_of_ble_eq_true rfl) dX4_init_147 (fun Ha31 hat2 zb ob => ?_)
  have hBb := hB.same ob
  have hSb := hS.push (by omega) ob
  have hz0 := hz
  have hzb : sz ≤ Ha31.size := by omega
  refine lv_dup (pc := 150) hx hb dX4_init_150 rfl ?_
  refine lv_bipush (pc := 151) (v := (6 : Int32)) hx hb dX4_init_151 (by decide) ?_
  refine lv_bipush (pc := 153) (v := (6 : Int32)) hx hb dX4_init_153 (by decide) ?_
  refine um_kcall (pc := 155) (As := [.int (6 : Int32), .int (6 : Int32)]) (rest := [.ref Ha30.size, .ref h0]) Cx (c_X5_init 30 (6 : Int32) (6 : Int32) ⟨by decide, by decide⟩ (by decide) (by decide) (by decide) (by decide)) kI_X5 (Or.inl qM_X4_11) hat2 rfl (Nat.le_trans hbs hz0) (by omega) hSb hAo (fun x hx => Or.inr (by rcases hx with rfl | hx <;> omega)) rfl hl rfl (Nat.le_of_ble_eq_true rfl) (Nat.le_of_ble_eq_true rfl) (Nat.le_of_ble_eq_true rfl) dX4_init_155 (Nat.le_of_ble_eq_true rfl) (Nat.le_of_ble_eq_true rfl) (fun Ha32 locs hKB zc oc hS => ?_)
  obtain ⟨α, ea, hB⟩ := hBb.sub hKB (shT_cl 30) hz0 (by omega) hB.lt (by omega) oc rfl ⟨_, rfl⟩ (shT_D rfl rfl) um_x0_ref
  have hz : sz ≤ Ha32.size := by omega
  clear hBb hKB oc hat2 ob
  refine um_vput (pc := 158) (v := .ref Ha30.size) Cx hB.1 iX4 tyX4 tyX4_ok nmX4 rfl 10 (by decide) qF_X4_47 rfl rfl hin rfl (tyX4_ok 10 (by decide)) rfl rfl (by rw [um_bf_len]; exact Nat.le_of_ble_eq_true rfl) dX4_init_158 (fun Ha33 i he z2 o2 => ?_)
  have hB := hB.put (f := some (.inl 30)) rfl (fun q h => by cases h; exact ⟨_, rfl⟩) (by simp only [um_fv, ea]; exact he) o2
  have hS := hS.put (k := i) z2 o2 (Or.inl rfl)
  have hz : sz ≤ Ha33.size := by omega
  clear he o2 ea
  refine lv_aload_n (pc := 161) hx hb dX4_init_161 rfl (lv_at hl 0 rfl) ?_
  refine um_vnew (pc := 162) (ci := 1) (fs := [.null, .int 0]) Cx iX1 tyX1 tyX1_ok qCL_X4_50 qB_X1 qN_X1 rfl (fun j hj => by rcases (show j = 0 ∨ j = 1 by omega) with rfl | rfl <;> rfl) (Nat.le_of_ble_eq_true rfl) (Nat.le_of_ble_eq_true rfl) dX4_init_162 (fun Ha34 hat2 zb ob => ?_)
  have hBb := hB.same ob
  have hSb := hS.push (by omega) ob
  have hz0 := hz
  have hzb : sz ≤ Ha34.size := by omega
  refine lv_dup (pc := 165) hx hb dX4_init_165 rfl ?_
  refine um_kcall (pc := 166) (As := []) (rest := [.ref Ha33.size, .ref h0]) Cx c_X1_init_31 kI_X1 (Or.inr ⟨_, qW_X4_52⟩) hat2 rfl (Nat.le_trans hbs hz0) (by omega) hSb hAo (fun x hx => Or.inr (by rcases hx with rfl | hx <;> omega)) rfl hl rfl (Nat.le_of_ble_eq_true rfl) (Nat.le_of_ble_eq_true rfl) (Nat.le_of_ble_eq_true rfl) dX4_init_166 (Nat.le_of_ble_eq_true rfl) (Nat.le_of_ble_eq_true rfl) (fun Ha35 locs hKB zc oc hS => ?_)
  obtain ⟨α, ea, hB⟩ := hBb.sub hKB (shP_cl (by decide)) hz0 (by omega) hB.lt (by omega) oc rfl ⟨_, rfl⟩ (shP_D (by decide)) um_x0_ref
  have hz : sz ≤ Ha35.size := by omega
  clear hBb hKB oc hat2 ob
  refine um_vput (pc := 169) (v := .ref Ha33.size) Cx hB.1 iX4 tyX4 tyX4_ok nmX4 rfl 11 (by decide) qF_X4_53 rfl rfl hin rfl (tyX4_ok 11 (by decide)) rfl rfl (by rw [um_bf_len]; exact Nat.le_of_ble_eq_true rfl) dX4_init_169 (fun Ha36 i he z2 o2 => ?_)
  have hB := hB.put (f := some (.inl 31)) rfl (fun q h => by cases h; exact ⟨_, rfl⟩) (by simp only [um_fv, ea]; exact he) o2
  have hS := hS.put (k := i) z2 o2 (Or.inl rfl)
  have hz : sz ≤ Ha36.size := by omega
  clear he o2 ea
  have hB := hB.skip rfl (by first | rfl | (rw [um_x0_row (by decide)]))
  have hB := hB.skip rfl (by first | rfl | (rw [um_x0_row (by decide)]))
  have hB := hB.skip rfl (by first | rfl | (rw [um_x0_row (by decide)]))
  refine W.widen (k := 24) (n := 780) (Nat.le_of_ble_eq_true rfl) (Nat.le_of_ble_eq_true rfl) ?_
  exact um_kret (pc := 172) Cx (hB.out (Nat.le_refl _) rfl hb0 um_x0_ref (shP_F (by decide)) (shP_cl (by decide))) hS dX4_init_172
set_option maxRecDepth 100000 in
set_option maxHeartbeats 4000000 in
theorem c_X4_init_2 : um_K l yX4_init cX4_init 1 2 52 24 780 Z h0 3 [.null, .null, .null, .null, .null, .null, .null, .null, .null, .null, .null, .null, .int 0, .int 0, .int 0] [] sz (um_KB Z (shP [2, 40, 41, 42, 43, 44, 45, 46, 47, 48, 49, 50, 51, 140, 141, 142, 143, 144, 145, 146, 147, 148, 149, 150, 151]) 2 h0 sz um_x0) := by
  refine um_kstart (by decide) rfl (Nat.le_of_ble_eq_true rfl) ?_
  intro p e s m below meth c ls Cx hin hsz hb0 hbs hat hl
  have hx := Cx.1
  have hb := Cx.2.1
  have hl : lv_has ls 1 [(0, .ref h0)] := hl
  have hlt : h0 < sz := hsz ▸ hat.lt
  have hAo : ∀ x, um_KD h0 sz x → um_old Z x := fun x hx => hx.elim (fun h => h ▸ hb0) (fun h => Nat.le_trans hbs h)
  have hB : um_B Z h0 3 2 [some (.inl (20 * 2 + 0)), some (.inl (20 * 2 + 1)), some (.inl (20 * 2 + 2)), some (.inl (20 * 2 + 3)), some (.inl (20 * 2 + 4)), some (.inl (20 * 2 + 5)), some (.inl (20 * 2 + 6)), some (.inl (20 * 2 + 7)), some (.inl (20 * 2 + 8)), some (.inl (20 * 2 + 9)), some (.inl (20 * 2 + 10)), some (.inl (20 * 2 + 11)), none, none, none] 0 um_x0 sz (fun _ => none) (fun _ => 0) s.heap := um_B.nil hat rfl hlt um_x0_ref
  have hz : sz ≤ s.heap.size := Nat.le_of_eq hsz.symm
  clear hat
  obtain ⟨H0, hHe⟩ : ∃ H, H = s.heap := ⟨_, rfl⟩
  have hS : va_S (um_KD h0 sz) s.heap H0 [] := by rw [hHe]; exact va_S.rf
  rw [← hHe] at hB hz ⊢
  generalize ([] : List Loc) = locs at hS ⊢
  generalize (fun _ => 0 : Nat → Nat) = α at hB
  refine lv_aload_n (pc := 0) hx hb dX4_init_0 rfl (lv_at hl 0 rfl) ?_
  refine um_kobj (pc := 1) Cx hl qM_X4_3 (Nat.le_of_ble_eq_true rfl) (Nat.le_of_ble_eq_true rfl) dX4_init_1 ?_
  refine lv_aload_n (pc := 4) hx hb dX4_init_4 rfl (lv_at hl 0 rfl) ?_
  refine um_vnew (pc := 5) (ci := 4) (fs := [.int 0, .null, .int 0]) Cx iX5 tyX5 tyX5_ok qCL_X4_9 qB_X5 qN_X5 rfl (fun j hj => by rcases (show j = 0 ∨ j = 1 ∨ j = 2 by omega) with rfl | rfl | rfl <;> rfl) (Nat.le_of_ble_eq_true rfl) (Nat.le_of_ble_eq_true rfl) dX4_init_5 (fun Ha1 hat2 zb ob => ?_)
  have hBb := hB.same ob
  have hSb := hS.push (by omega) ob
  have hz0 := hz
  have hzb : sz ≤ Ha1.size := by omega
  refine lv_dup (pc := 8) hx hb dX4_init_8 rfl ?_
  refine lv_iconst (pc := 9) (v := (2 : Int32)) hx hb dX4_init_9 (by decide) ?_
  refine lv_bipush (pc := 10) (v := (8 : Int32)) hx hb dX4_init_10 (by decide) ?_
  refine um_kcall (pc := 12) (As := [.int (2 : Int32), .int (8 : Int32)]) (rest := [.ref H0.size, .ref h0]) Cx (c_X5_init 40 (2 : Int32) (8 : Int32) ⟨by decide, by decide⟩ (by decide) (by decide) (by decide) (by decide)) kI_X5 (Or.inl qM_X4_11) hat2 rfl (Nat.le_trans hbs hz0) (by omega) hSb hAo (fun x hx => Or.inr (by rcases hx with rfl | hx <;> omega)) rfl hl rfl (Nat.le_of_ble_eq_true rfl) (Nat.le_of_ble_eq_true rfl) (Nat.le_of_ble_eq_true rfl) dX4_init_12 (Nat.le_of_ble_eq_true rfl) (Nat.le_of_ble_eq_true rfl) (fun Ha2 locs hKB zc oc hS => ?_)
  obtain ⟨α, ea, hB⟩ := hBb.sub hKB (shT_cl 40) hz0 (by omega) hB.lt (by omega) oc rfl ⟨_, rfl⟩ (shT_D rfl rfl) um_x0_ref
  have hz : sz ≤ Ha2.size := by omega
  clear hBb hKB oc hat2 ob
  refine um_vput (pc := 15) (v := .ref H0.size) Cx hB.1 iX4 tyX4 tyX4_ok nmX4 rfl 0 (by decide) qF_X4_14 rfl rfl hin rfl (tyX4_ok 0 (by decide)) rfl rfl (by rw [um_bf_len]; exact Nat.le_of_ble_eq_true rfl) dX4_init_15 (fun Ha3 i he z2 o2 => ?_)
  have hB := hB.put (f := some (.inl 40)) rfl (fun q h => by cases h; exact ⟨_, rfl⟩) (by simp only [um_fv, ea]; exact he) o2
  have hS := hS.put (k := i) z2 o2 (Or.inl rfl)
  have hz : sz ≤ Ha3.size := by omega
  clear he o2 ea
  refine lv_aload_n (pc := 18) hx hb dX4_init_18 rfl (lv_at hl 0 rfl) ?_
  refine um_vnew (pc := 19) (ci := 4) (fs := [.int 0, .null, .int 0]) Cx iX5 tyX5 tyX5_ok qCL_X4_9 qB_X5 qN_X5 rfl (fun j hj => by rcases (show j = 0 ∨ j = 1 ∨ j = 2 by omega) with rfl | rfl | rfl <;> rfl) (Nat.le_of_ble_eq_true rfl) (Nat.le_of_ble_eq_true rfl) dX4_init_19 (fun Ha4 hat2 zb ob => ?_)
  have hBb := hB.same ob
  have hSb := hS.push (by omega) ob
  have hz0 := hz
  have hzb : sz ≤ Ha4.size := by omega
  refine lv_dup (pc := 22) hx hb dX4_init_22 rfl ?_
  refine lv_bipush (pc := 23) (v := (14 : Int32)) hx hb dX4_init_23 (by decide) ?_
  refine lv_bipush (pc := 25) (v := (14 : Int32)) hx hb dX4_init_25 (by decide) ?_
  refine um_kcall (pc := 27) (As := [.int (14 : Int32), .int (14 : Int32)]) (rest := [.ref Ha3.size, .ref h0]) Cx (c_X5_init 41 (14 : Int32) (14 : Int32) ⟨by decide, by decide⟩ (by decide) (by decide) (by decide) (by decide)) kI_X5 (Or.inl qM_X4_11) hat2 rfl (Nat.le_trans hbs hz0) (by omega) hSb hAo (fun x hx => Or.inr (by rcases hx with rfl | hx <;> omega)) rfl hl rfl (Nat.le_of_ble_eq_true rfl) (Nat.le_of_ble_eq_true rfl) (Nat.le_of_ble_eq_true rfl) dX4_init_27 (Nat.le_of_ble_eq_true rfl) (Nat.le_of_ble_eq_true rfl) (fun Ha5 locs hKB zc oc hS => ?_)
  obtain ⟨α, ea, hB⟩ := hBb.sub hKB (shT_cl 41) hz0 (by omega) hB.lt (by omega) oc rfl ⟨_, rfl⟩ (shT_D rfl rfl) um_x0_ref
  have hz : sz ≤ Ha5.size := by omega
  clear hBb hKB oc hat2 ob
  refine um_vput (pc := 30) (v := .ref Ha3.size) Cx hB.1 iX4 tyX4 tyX4_ok nmX4 rfl 1 (by decide) qF_X4_20 rfl rfl hin rfl (tyX4_ok 1 (by decide)) rfl rfl (by rw [um_bf_len]; exact Nat.le_of_ble_eq_true rfl) dX4_init_30 (fun Ha6 i he z2 o2 => ?_)
  have hB := hB.put (f := some (.inl 41)) rfl (fun q h => by cases h; exact ⟨_, rfl⟩) (by simp only [um_fv, ea]; exact he) o2
  have hS := hS.put (k := i) z2 o2 (Or.inl rfl)
  have hz : sz ≤ Ha6.size := by omega
  clear he o2 ea
  refine lv_aload_n (pc := 33) hx hb dX4_init_33 rfl (lv_at hl 0 rfl) ?_
  refine um_vnew (pc := 34) (ci := 4) (fs := [.int 0, .null, .int 0]) Cx iX5 tyX5 tyX5_ok qCL_X4_9 qB_X5 qN_X5 rfl (fun j hj => by rcases (show j = 0 ∨ j = 1 ∨ j = 2 by omega) with rfl | rfl | rfl <;> rfl) (Nat.le_of_ble_eq_true rfl) (Nat.le_of_ble_eq_true rfl) dX4_init_34 (fun Ha7 hat2 zb ob => ?_)
  have hBb := hB.same ob
  have hSb := hS.push (by omega) ob
  have hz0 := hz
  have hzb : sz ≤ Ha7.size := by omega
  refine lv_dup (pc := 37) hx hb dX4_init_37 rfl ?_
  refine lv_iconst (pc := 38) (v := (4 : Int32)) hx hb dX4_init_38 (by decide) ?_
  refine lv_bipush (pc := 39) (v := (6 : Int32)) hx hb dX4_init_39 (by decide) ?_
  refine um_kcall (pc := 41) (As := [.int (4 : Int32), .int (6 : Int32)]) (rest := [.ref Ha6.size, .ref h0]) Cx (c_X5_init 42 (4 : Int32) (6 : Int32) ⟨by decide, by decide⟩ (by decide) (by decide) (by decide) (by decide)) kI_X5 (Or.inl qM_X4_11) hat2 rfl (Nat.le_trans hbs hz0) (by omega) hSb hAo (fun x hx => Or.inr (by rcases hx with rfl | hx <;> omega)) rfl hl rfl (Nat.le_of_ble_eq_true rfl) (Nat.le_of_ble_eq_true rfl) (Nat.le_of_ble_eq_true rfl) dX4_init_41 (Nat.le_of_ble_eq_true rfl) (Nat.le_of_ble_eq_true rfl) (fun Ha8 locs hKB zc oc hS => ?_)
  obtain ⟨α, ea, hB⟩ := hBb.sub hKB (shT_cl 42) hz0 (by omega) hB.lt (by omega) oc rfl ⟨_, rfl⟩ (shT_D rfl rfl) um_x0_ref
  have hz : sz ≤ Ha8.size := by omega
  clear hBb hKB oc hat2 ob
  refine um_vput (pc := 44) (v := .ref Ha6.size) Cx hB.1 iX4 tyX4 tyX4_ok nmX4 rfl 2 (by decide) qF_X4_23 rfl rfl hin rfl (tyX4_ok 2 (by decide)) rfl rfl (by rw [um_bf_len]; exact Nat.le_of_ble_eq_true rfl) dX4_init_44 (fun Ha9 i he z2 o2 => ?_)
  have hB := hB.put (f := some (.inl 42)) rfl (fun q h => by cases h; exact ⟨_, rfl⟩) (by simp only [um_fv, ea]; exact he) o2
  have hS := hS.put (k := i) z2 o2 (Or.inl rfl)
  have hz : sz ≤ Ha9.size := by omega
  clear he o2 ea
  refine lv_aload_n (pc := 47) hx hb dX4_init_47 rfl (lv_at hl 0 rfl) ?_
  refine um_vnew (pc := 48) (ci := 4) (fs := [.int 0, .null, .int 0]) Cx iX5 tyX5 tyX5_ok qCL_X4_9 qB_X5 qN_X5 rfl (fun j hj => by rcases (show j = 0 ∨ j = 1 ∨ j = 2 by omega) with rfl | rfl | rfl <;> rfl) (Nat.le_of_ble_eq_true rfl) (Nat.le_of_ble_eq_true rfl) dX4_init_48 (fun Ha10 hat2 zb ob => ?_)
  have hBb := hB.same ob
  have hSb := hS.push (by omega) ob
  have hz0 := hz
  have hzb : sz ≤ Ha10.size := by omega
  refine lv_dup (pc := 51) hx hb dX4_init_51 rfl ?_
  refine lv_iconst (pc := 52) (v := (4 : Int32)) hx hb dX4_init_52 (by decide) ?_
  refine lv_bipush (pc := 53) (v := (40 : Int32)) hx hb dX4_init_53 (by decide) ?_
  refine um_kcall (pc := 55) (As := [.int (4 : Int32), .int (40 : Int32)]) (rest := [.ref Ha9.size, .ref h0]) Cx (c_X5_init 43 (4 : Int32) (40 : Int32) ⟨by decide, by decide⟩ (by decide) (by decide) (by decide) (by decide)) kI_X5 (Or.inl qM_X4_11) hat2 rfl (Nat.le_trans hbs hz0) (by omega) hSb hAo (fun x hx => Or.inr (by rcases hx with rfl | hx <;> omega)) rfl hl rfl (Nat.le_of_ble_eq_true rfl) (Nat.le_of_ble_eq_true rfl) (Nat.le_of_ble_eq_true rfl) dX4_init_55 (Nat.le_of_ble_eq_true rfl) (Nat.le_of_ble_eq_true rfl) (fun Ha11 locs hKB zc oc hS => ?_)
  obtain ⟨α, ea, hB⟩ := hBb.sub hKB (shT_cl 43) hz0 (by omega) hB.lt (by omega) oc rfl ⟨_, rfl⟩ (shT_D rfl rfl) um_x0_ref
  have hz : sz ≤ Ha11.size := by omega
  clear hBb hKB oc hat2 ob
  refine um_vput (pc := 58) (v := .ref Ha9.size) Cx hB.1 iX4 tyX4 tyX4_ok nmX4 rfl 3 (by decide) qF_X4_26 rfl rfl hin rfl (tyX4_ok 3 (by decide)) rfl rfl (by rw [um_bf_len]; exact Nat.le_of_ble_eq_true rfl) dX4_init_58 (fun Ha12 i he z2 o2 => ?_)
  have hB := hB.put (f := some (.inl 43)) rfl (fun q h => by cases h; exact ⟨_, rfl⟩) (by simp only [um_fv, ea]; exact he) o2
  have hS := hS.put (k := i) z2 o2 (Or.inl rfl)
  have hz : sz ≤ Ha12.size := by omega
  clear he o2 ea
  refine lv_aload_n (pc := 61) hx hb dX4_init_61 rfl (lv_at hl 0 rfl) ?_
  refine um_vnew (pc := 62) (ci := 4) (fs := [.int 0, .null, .int 0]) Cx iX5 tyX5 tyX5_ok qCL_X4_9 qB_X5 qN_X5 rfl (fun j hj => by rcases (show j = 0 ∨ j = 1 ∨ j = 2 by omega) with rfl | rfl | rfl <;> rfl) (Nat.le_of_ble_eq_true rfl) (Nat.le_of_ble_eq_true rfl) dX4_init_62 (fun Ha13 hat2 zb ob => ?_)
  have hBb := hB.same ob
  have hSb := hS.push (by omega) ob
  have hz0 := hz
  have hzb : sz ≤ Ha13.size := by omega
  refine lv_dup (pc := 65) hx hb dX4_init_65 rfl ?_
  refine lv_iconst (pc := 66) (v := (5 : Int32)) hx hb dX4_init_66 (by decide) ?_
  refine lv_bipush (pc := 67) (v := (20 : Int32)) hx hb dX4_init_67 (by decide) ?_
  refine um_kcall (pc := 69) (As := [.int (5 : Int32), .int (20 : Int32)]) (rest := [.ref Ha12.size, .ref h0]) Cx (c_X5_init 44 (5 : Int32) (20 : Int32) ⟨by decide, by decide⟩ (by decide) (by decide) (by decide) (by decide)) kI_X5 (Or.inl qM_X4_11) hat2 rfl (Nat.le_trans hbs hz0) (by omega) hSb hAo (fun x hx => Or.inr (by rcases hx with rfl | hx <;> omega)) rfl hl rfl (Nat.le_of_ble_eq_true rfl) (Nat.le_of_ble_eq_true rfl) (Nat.le_of_ble_eq_true rfl) dX4_init_69 (Nat.le_of_ble_eq_true rfl) (Nat.le_of_ble_eq_true rfl) (fun Ha14 locs hKB zc oc hS => ?_)
  obtain ⟨α, ea, hB⟩ := hBb.sub hKB (shT_cl 44) hz0 (by omega) hB.lt (by omega) oc rfl ⟨_, rfl⟩ (shT_D rfl rfl) um_x0_ref
  have hz : sz ≤ Ha14.size := by omega
  clear hBb hKB oc hat2 ob
  refine um_vput (pc := 72) (v := .ref Ha12.size) Cx hB.1 iX4 tyX4 tyX4_ok nmX4 rfl 4 (by decide) qF_X4_29 rfl rfl hin rfl (tyX4_ok 4 (by decide)) rfl rfl (by rw [um_bf_len]; exact Nat.le_of_ble_eq_true rfl) dX4_init_72 (fun Ha15 i he z2 o2 => ?_)
  have hB := hB.put (f := some (.inl 44)) rfl (fun q h => by cases h; exact ⟨_, rfl⟩) (by simp only [um_fv, ea]; exact he) o2
  have hS := hS.put (k := i) z2 o2 (Or.inl rfl)
  have hz : sz ≤ Ha15.size := by omega
  clear he o2 ea
  refine lv_aload_n (pc := 75) hx hb dX4_init_75 rfl (lv_at hl 0 rfl) ?_
  refine um_vnew (pc := 76) (ci := 4) (fs := [.int 0, .null, .int 0]) Cx iX5 tyX5 tyX5_ok qCL_X4_9 qB_X5 qN_X5 rfl (fun j hj => by rcases (show j = 0 ∨ j = 1 ∨ j = 2 by omega) with rfl | rfl | rfl <;> rfl) (Nat.le_of_ble_eq_true rfl) (Nat.le_of_ble_eq_true rfl) dX4_init_76 (fun Ha16 hat2 zb ob => ?_)
  have hBb := hB.same ob
  have hSb := hS.push (by omega) ob
  have hz0 := hz
  have hzb : sz ≤ Ha16.size := by omega
  refine lv_dup (pc := 79) hx hb dX4_init_79 rfl ?_
  refine lv_iconst (pc := 80) (v := (4 : Int32)) hx hb dX4_init_80 (by decide) ?_
  refine lv_bipush (pc := 81) (v := (10 : Int32)) hx hb dX4_init_81 (by decide) ?_
  refine um_kcall (pc := 83) (As := [.int (4 : Int32), .int (10 : Int32)]) (rest := [.ref Ha15.size, .ref h0]) Cx (c_X5_init 45 (4 : Int32) (10 : Int32) ⟨by decide, by decide⟩ (by decide) (by decide) (by decide) (by decide)) kI_X5 (Or.inl qM_X4_11) hat2 rfl (Nat.le_trans hbs hz0) (by omega) hSb hAo (fun x hx => Or.inr (by rcases hx with rfl | hx <;> omega)) rfl hl rfl (Nat.le_of_ble_eq_true rfl) (Nat.le_of_ble_eq_true rfl) (Nat.le_of_ble_eq_true rfl) dX4_init_83 (Nat.le_of_ble_eq_true rfl) (Nat.le_of_ble_eq_true rfl) (fun Ha17 locs hKB zc oc hS => ?_)
  obtain ⟨α, ea, hB⟩ := hBb.sub hKB (shT_cl 45) hz0 (by omega) hB.lt (by omega) oc rfl ⟨_, rfl⟩ (shT_D rfl rfl) um_x0_ref
  have hz : sz ≤ Ha17.size := by omega
  clear hBb hKB oc hat2 ob
  refine um_vput (pc := 86) (v := .ref Ha15.size) Cx hB.1 iX4 tyX4 tyX4_ok nmX4 rfl 5 (by decide) qF_X4_32 rfl rfl hin rfl (tyX4_ok 5 (by decide)) rfl rfl (by rw [um_bf_len]; exact Nat.le_of_ble_eq_true rfl) dX4_init_86 (fun Ha18 i he z2 o2 => ?_)
  have hB := hB.put (f := some (.inl 45)) rfl (fun q h => by cases h; exact ⟨_, rfl⟩) (by simp only [um_fv, ea]; exact he) o2
  have hS := hS.put (k := i) z2 o2 (Or.inl rfl)
  have hz : sz ≤ Ha18.size := by omega
  clear he o2 ea
  refine lv_aload_n (pc := 89) hx hb dX4_init_89 rfl (lv_at hl 0 rfl) ?_
  refine um_vnew (pc := 90) (ci := 4) (fs := [.int 0, .null, .int 0]) Cx iX5 tyX5 tyX5_ok qCL_X4_9 qB_X5 qN_X5 rfl (fun j hj => by rcases (show j = 0 ∨ j = 1 ∨ j = 2 by omega) with rfl | rfl | rfl <;> rfl) (Nat.le_of_ble_eq_true rfl) (Nat.le_of_ble_eq_true rfl) dX4_init_90 (fun Ha19 hat2 zb ob => ?_)
  have hBb := hB.same ob
  have hSb := hS.push (by omega) ob
  have hz0 := hz
  have hzb : sz ≤ Ha19.size := by omega
  refine lv_dup (pc := 93) hx hb dX4_init_93 rfl ?_
  refine lv_iconst (pc := 94) (v := (3 : Int32)) hx hb dX4_init_94 (by decide) ?_
  refine lv_bipush (pc := 95) (v := (30 : Int32)) hx hb dX4_init_95 (by decide) ?_
  refine um_kcall (pc := 97) (As := [.int (3 : Int32), .int (30 : Int32)]) (rest := [.ref Ha18.size, .ref h0]) Cx (c_X5_init 46 (3 : Int32) (30 : Int32) ⟨by decide, by decide⟩ (by decide) (by decide) (by decide) (by decide)) kI_X5 (Or.inl qM_X4_11) hat2 rfl (Nat.le_trans hbs hz0) (by omega) hSb hAo (fun x hx => Or.inr (by rcases hx with rfl | hx <;> omega)) rfl hl rfl (Nat.le_of_ble_eq_true rfl) (Nat.le_of_ble_eq_true rfl) (Nat.le_of_ble_eq_true rfl) dX4_init_97 (Nat.le_of_ble_eq_true rfl) (Nat.le_of_ble_eq_true rfl) (fun Ha20 locs hKB zc oc hS => ?_)
  obtain ⟨α, ea, hB⟩ := hBb.sub hKB (shT_cl 46) hz0 (by omega) hB.lt (by omega) oc rfl ⟨_, rfl⟩ (shT_D rfl rfl) um_x0_ref
  have hz : sz ≤ Ha20.size := by omega
  clear hBb hKB oc hat2 ob
  refine um_vput (pc := 100) (v := .ref Ha18.size) Cx hB.1 iX4 tyX4 tyX4_ok nmX4 rfl 6 (by decide) qF_X4_35 rfl rfl hin rfl (tyX4_ok 6 (by decide)) rfl rfl (by rw [um_bf_len]; exact Nat.le_of_ble_eq_true rfl) dX4_init_100 (fun Ha21 i he z2 o2 => ?_)
  have hB := hB.put (f := some (.inl 46)) rfl (fun q h => by cases h; exact ⟨_, rfl⟩) (by simp only [um_fv, ea]; exact he) o2
  have hS := hS.put (k := i) z2 o2 (Or.inl rfl)
  have hz : sz ≤ Ha21.size := by omega
  clear he o2 ea
  refine lv_aload_n (pc := 103) hx hb dX4_init_103 rfl (lv_at hl 0 rfl) ?_
  refine um_vnew (pc := 104) (ci := 4) (fs := [.int 0, .null, .int 0]) Cx iX5 tyX5 tyX5_ok qCL_X4_9 qB_X5 qN_X5 rfl (fun j hj => by rcases (show j = 0 ∨ j = 1 ∨ j = 2 by omega) with rfl | rfl | rfl <;> rfl) (Nat.le_of_ble_eq_true rfl) (Nat.le_of_ble_eq_true rfl) dX4_init_104 (fun Ha22 hat2 zb ob => ?_)
  have hBb := hB.same ob
  have hSb := hS.push (by omega) ob
  have hz0 := hz
  have hzb : sz ≤ Ha22.size := by omega
  refine lv_dup (pc := 107) hx hb dX4_init_107 rfl ?_
  refine lv_iconst (pc := 108) (v := (2 : Int32)) hx hb dX4_init_108 (by decide) ?_
  refine lv_bipush (pc := 109) (v := (6 : Int32)) hx hb dX4_init_109 (by decide) ?_
  refine um_kcall (pc := 111) (As := [.int (2 : Int32), .int (6 : Int32)]) (rest := [.ref Ha21.size, .ref h0]) Cx (c_X5_init 47 (2 : Int32) (6 : Int32) ⟨by decide, by decide⟩ (by decide) (by decide) (by decide) (by decide)) kI_X5 (Or.inl qM_X4_11) hat2 rfl (Nat.le_trans hbs hz0) (by omega) hSb hAo (fun x hx => Or.inr (by rcases hx with rfl | hx <;> omega)) rfl hl rfl (Nat.le_of_ble_eq_true rfl) (Nat.le_of_ble_eq_true rfl) (Nat.le_of_ble_eq_true rfl) dX4_init_111 (Nat.le_of_ble_eq_true rfl) (Nat.le_of_ble_eq_true rfl) (fun Ha23 locs hKB zc oc hS => ?_)
  obtain ⟨α, ea, hB⟩ := hBb.sub hKB (shT_cl 47) hz0 (by omega) hB.lt (by omega) oc rfl ⟨_, rfl⟩ (shT_D rfl rfl) um_x0_ref
  have hz : sz ≤ Ha23.size := by omega
  clear hBb hKB oc hat2 ob
  refine um_vput (pc := 114) (v := .ref Ha21.size) Cx hB.1 iX4 tyX4 tyX4_ok nmX4 rfl 7 (by decide) qF_X4_38 rfl rfl hin rfl (tyX4_ok 7 (by decide)) rfl rfl (by rw [um_bf_len]; exact Nat.le_of_ble_eq_true rfl) dX4_init_114 (fun Ha24 i he z2 o2 => ?_)
  have hB := hB.put (f := some (.inl 47)) rfl (fun q h => by cases h; exact ⟨_, rfl⟩) (by simp only [um_fv, ea]; exact he) o2
  have hS := hS.put (k := i) z2 o2 (Or.inl rfl)
  have hz : sz ≤ Ha24.size := by omega
  clear he o2 ea
  refine lv_aload_n (pc := 117) hx hb dX4_init_117 rfl (lv_at hl 0 rfl) ?_
  refine um_vnew (pc := 118) (ci := 4) (fs := [.int 0, .null, .int 0]) Cx iX5 tyX5 tyX5_ok qCL_X4_9 qB_X5 qN_X5 rfl (fun j hj => by rcases (show j = 0 ∨ j = 1 ∨ j = 2 by omega) with rfl | rfl | rfl <;> rfl) (Nat.le_of_ble_eq_true rfl) (Nat.le_of_ble_eq_true rfl) dX4_init_118 (fun Ha25 hat2 zb ob => ?_)
  have hBb := hB.same ob
  have hSb := hS.push (by omega) ob
  have hz0 := hz
  have hzb : sz ≤ Ha25.size := by omega
  refine lv_dup (pc := 121) hx hb dX4_init_121 rfl ?_
  refine lv_bipush (pc := 122) (v := (6 : Int32)) hx hb dX4_init_122 (by decide) ?_
  refine lv_bipush (pc := 124) (v := (6 : Int32)) hx hb dX4_init_124 (by decide) ?_
  refine um_kcall (pc := 126) (As := [.int (6 : Int32), .int (6 : Int32)]) (rest := [.ref Ha24.size, .ref h0]) Cx (c_X5_init 48 (6 : Int32) (6 : Int32) ⟨by decide, by decide⟩ (by decide) (by decide) (by decide) (by decide)) kI_X5 (Or.inl qM_X4_11) hat2 rfl (Nat.le_trans hbs hz0) (by omega) hSb hAo (fun x hx => Or.inr (by rcases hx with rfl | hx <;> omega)) rfl hl rfl (Nat.le_of_ble_eq_true rfl) (Nat.le_of_ble_eq_true rfl) (Nat.le_of_ble_eq_true rfl) dX4_init_126 (Nat.le_of_ble_eq_true rfl) (Nat.le_of_ble_eq_true rfl) (fun Ha26 locs hKB zc oc hS => ?_)
  obtain ⟨α, ea, hB⟩ := hBb.sub hKB (shT_cl 48) hz0 (by omega) hB.lt (by omega) oc rfl ⟨_, rfl⟩ (shT_D rfl rfl) um_x0_ref
  have hz : sz ≤ Ha26.size := by omega
  clear hBb hKB oc hat2 ob
  refine um_vput (pc := 129) (v := .ref Ha24.size) Cx hB.1 iX4 tyX4 tyX4_ok nmX4 rfl 8 (by decide) qF_X4_41 rfl rfl hin rfl (tyX4_ok 8 (by decide)) rfl rfl (by rw [um_bf_len]; exact Nat.le_of_ble_eq_true rfl) dX4_init_129 (fun Ha27 i he z2 o2 => ?_)
  have hB := hB.put (f := some (.inl 48)) rfl (fun q h => by cases h; exact ⟨_, rfl⟩) (by simp only [um_fv, ea]; exact he) o2
  have hS := hS.put (k := i) z2 o2 (Or.inl rfl)
  have hz : sz ≤ Ha27.size := by omega
  clear he o2 ea
  refine lv_aload_n (pc := 132) hx hb dX4_init_132 rfl (lv_at hl 0 rfl) ?_
  refine um_vnew (pc := 133) (ci := 4) (fs := [.int 0, .null, .int 0]) Cx iX5 tyX5 tyX5_ok qCL_X4_9 qB_X5 qN_X5 rfl (fun j hj => by rcases (show j = 0 ∨ j = 1 ∨ j = 2 by omega) with rfl | rfl | rfl <;> rfl) (Nat.le_of_ble_eq_true rfl) (Nat.le_of_ble_eq_true rfl) dX4_init_133 (fun Ha28 hat2 zb ob => ?_)
  have hBb := hB.same ob
  have hSb := hS.push (by omega) ob
  have hz0 := hz
  have hzb : sz ≤ Ha28.size := by omega
  refine lv_dup (pc := 136) hx hb dX4_init_136 rfl ?_
  refine lv_iconst (pc := 137) (v := (3 : Int32)) hx hb dX4_init_137 (by decide) ?_
  refine lv_bipush (pc := 138) (v := (7 : Int32)) hx hb dX4_init_138 (by decide) ?_
  refine um_kcall (pc := 140) (As := [.int (3 : Int32), .int (7 : Int32)]) (rest := [.ref Ha27.size, .ref h0]) Cx (c_X5_init 49 (3 : Int32) (7 : Int32) ⟨by decide, by decide⟩ (by decide) (by decide) (by decide) (by decide)) kI_X5 (Or.inl qM_X4_11) hat2 rfl (Nat.le_trans hbs hz0) (by omega) hSb hAo (fun x hx => Or.inr (by rcases hx with rfl | hx <;> omega)) rfl hl rfl (Nat.le_of_ble_eq_true rfl) (Nat.le_of_ble_eq_true rfl) (Nat.le_of_ble_eq_true rfl) dX4_init_140 (Nat.le_of_ble_eq_true rfl) (Nat.le_of_ble_eq_true rfl) (fun Ha29 locs hKB zc oc hS => ?_)
  obtain ⟨α, ea, hB⟩ := hBb.sub hKB (shT_cl 49) hz0 (by omega) hB.lt (by omega) oc rfl ⟨_, rfl⟩ (shT_D rfl rfl) um_x0_ref
  have hz : sz ≤ Ha29.size := by omega
  clear hBb hKB oc hat2 ob
  refine um_vput (pc := 143) (v := .ref Ha27.size) Cx hB.1 iX4 tyX4 tyX4_ok nmX4 rfl 9 (by decide) qF_X4_44 rfl rfl hin rfl (tyX4_ok 9 (by decide)) rfl rfl (by rw [um_bf_len]; exact Nat.le_of_ble_eq_true rfl) dX4_init_143 (fun Ha30 i he z2 o2 => ?_)
  have hB := hB.put (f := some (.inl 49)) rfl (fun q h => by cases h; exact ⟨_, rfl⟩) (by simp only [um_fv, ea]; exact he) o2
  have hS := hS.put (k := i) z2 o2 (Or.inl rfl)
  have hz : sz ≤ Ha30.size := by omega
  clear he o2 ea
  refine lv_aload_n (pc := 146) hx hb dX4_init_146 rfl (lv_at hl 0 rfl) ?_
  refine um_vnew (pc := 147) (ci := 4) (fs := [.int 0, .null, .int 0]) Cx iX5 tyX5 tyX5_ok qCL_X4_9 qB_X5 qN_X5 rfl (fun j hj => by rcases (show j = 0 ∨ j = 1 ∨ j = 2 by omega) with rfl | rfl | rfl <;> rfl) (Nat.le_of_ble_eq_true rfl) (Nat.le_of_ble_eq_true rfl) dX4_init_147 (fun Ha31 hat2 zb ob => ?_)
  have hBb := hB.same ob
  have hSb := hS.push (by omega) ob
  have hz0 := hz
  have hzb : sz ≤ Ha31.size := by omega
  refine lv_dup (pc := 150) hx hb dX4_init_150 rfl ?_
  refine lv_bipush (pc := 151) (v := (6 : Int32)) hx hb dX4_init_151 (by decide) ?_
  refine lv_bipush (pc := 153) (v := (6 : Int32)) hx hb dX4_init_153 (by decide) ?_
  refine um_kcall (pc := 155) (As := [.int (6 : Int32), .int (6 : Int32)]) (rest := [.ref Ha30.size, .ref h0]) Cx (c_X5_init 50 (6 : Int32) (6 : Int32) ⟨by decide, by decide⟩ (by decide) (by decide) (by decide) (by decide)) kI_X5 (Or.inl qM_X4_11) hat2 rfl (Nat.le_trans hbs hz0) (by omega) hSb hAo (fun x hx => Or.inr (by rcases hx with rfl | hx <;> omega)) rfl hl rfl (Nat.le_of_ble_eq_true rfl) (Nat.le_of_ble_eq_true rfl) (Nat.le_of_ble_eq_true rfl) dX4_init_155 (Nat.le_of_ble_eq_true rfl) (Nat.le_of_ble_eq_true rfl) (fun Ha32 locs hKB zc oc hS => ?_)
  obtain ⟨α, ea, hB⟩ := hBb.sub hKB (shT_cl 50) hz0 (by omega) hB.lt (by omega) oc rfl ⟨_, rfl⟩ (shT_D rfl rfl) um_x0_ref
  have hz : sz ≤ Ha32.size := by omega
  clear hBb hKB oc hat2 ob
  refine um_vput (pc := 158) (v := .ref Ha30.size) Cx hB.1 iX4 tyX4 tyX4_ok nmX4 rfl 10 (by decide) qF_X4_47 rfl rfl hin rfl (tyX4_ok 10 (by decide)) rfl rfl (by rw [um_bf_len]; exact Nat.le_of_ble_eq_true rfl) dX4_init_158 (fun Ha33 i he z2 o2 => ?_)
  have hB := hB.put (f := some (.inl 50)) rfl (fun q h => by cases h; exact ⟨_, rfl⟩) (by simp only [um_fv, ea]; exact he) o2
  have hS := hS.put (k := i) z2 o2 (Or.inl rfl)
  have hz : sz ≤ Ha33.size := by omega
  clear he o2 ea
  refine lv_aload_n (pc := 161) hx hb dX4_init_161 rfl (lv_at hl 0 rfl) ?_
  refine um_vnew (pc := 162) (ci := 1) (fs := [.null, .int 0]) Cx iX1 tyX1 tyX1_ok qCL_X4_50 qB_X1 qN_X1 rfl (fun j hj => by rcases (show j = 0 ∨ j = 1 by omega) with rfl | rfl <;> rfl) (Nat.le_of_ble_eq_true rfl) (Nat.le_of_ble_eq_true rfl) dX4_init_162 (fun Ha34 hat2 zb ob => ?_)
  have hBb := hB.same ob
  have hSb := hS.push (by omega) ob
  have hz0 := hz
  have hzb : sz ≤ Ha34.size := by omega
  refine lv_dup (pc := 165) hx hb dX4_init_165 rfl ?_
  refine um_kcall (pc := 166) (As := []) (rest := [.ref Ha33.size, .ref h0]) Cx c_X1_init_51 kI_X1 (Or.inr ⟨_, qW_X4_52⟩) hat2 rfl (Nat.le_trans hbs hz0) (by omega) hSb hAo (fun x hx => Or.inr (by rcases hx with rfl | hx <;> omega)) rfl hl rfl (Nat.le_of_ble_eq_true rfl) (Nat.le_of_ble_eq_true rfl) (Nat.le_of_ble_eq_true rfl) dX4_init_166 (Nat.le_of_ble_eq_true rfl) (Nat.le_of_ble_eq_true rfl) (fun Ha35 locs hKB zc oc hS => ?_)
  obtain ⟨α, ea, hB⟩ := hBb.sub hKB (shP_cl (by decide)) hz0 (by omega) hB.lt (by omega) oc rfl ⟨_, rfl⟩ (shP_D (by decide)) um_x0_ref
  have hz : sz ≤ Ha35.size := by omega
  clear hBb hKB oc hat2 ob
  refine um_vput (pc := 169) (v := .ref Ha33.size) Cx hB.1 iX4 tyX4 tyX4_ok nmX4 rfl 11 (by decide) qF_X4_53 rfl rfl hin rfl (tyX4_ok 11 (by decide)) rfl rfl (by rw [um_bf_len]; exact Nat.le_of_ble_eq_true rfl) dX4_init_169 (fun Ha36 i he z2 o2 => ?_)
  have hB := hB.put (f := some (.inl 51)) rfl (fun q h => by cases h; exact ⟨_, rfl⟩) (by simp only [um_fv, ea]; exact he) o2
  have hS := hS.put (k := i) z2 o2 (Or.inl rfl)
  have hz : sz ≤ Ha36.size := by omega
  clear he o2 ea
  have hB := hB.skip rfl (by first | rfl | (rw [um_x0_row (by decide)]))
  have hB := hB.skip rfl (by first | rfl | (rw [um_x0_row (by decide)]))
  have hB := hB.skip rfl (by first | rfl | (rw [um_x0_row (by decide)]))
  refine W.widen (k := 24) (n := 780) (Nat.le_of_ble_eq_true rfl) (Nat.le_of_ble_eq_true rfl) ?_
  exact um_kret (pc := 172) Cx (hB.out (Nat.le_refl _) rfl hb0 um_x0_ref (shP_F (by decide)) (shP_cl (by decide))) hS dX4_init_172
set_option maxRecDepth 100000 in
set_option maxHeartbeats 4000000 in
theorem c_X4_init_3 : um_K l yX4_init cX4_init 1 2 52 24 780 Z h0 3 [.null, .null, .null, .null, .null, .null, .null, .null, .null, .null, .null, .null, .int 0, .int 0, .int 0] [] sz (um_KB Z (shP [3, 60, 61, 62, 63, 64, 65, 66, 67, 68, 69, 70, 71, 160, 161, 162, 163, 164, 165, 166, 167, 168, 169, 170, 171]) 3 h0 sz um_x0) := by
  refine um_kstart (by decide) rfl (Nat.le_of_ble_eq_true rfl) ?_
  intro p e s m below meth c ls Cx hin hsz hb0 hbs hat hl
  have hx := Cx.1
  have hb := Cx.2.1
  have hl : lv_has ls 1 [(0, .ref h0)] := hl
  have hlt : h0 < sz := hsz ▸ hat.lt
  have hAo : ∀ x, um_KD h0 sz x → um_old Z x := fun x hx => hx.elim (fun h => h ▸ hb0) (fun h => Nat.le_trans hbs h)
  have hB : um_B Z h0 3 3 [some (.inl (20 * 3 + 0)), some (.inl (20 * 3 + 1)), some (.inl (20 * 3 + 2)), some (.inl (20 * 3 + 3)), some (.inl (20 * 3 + 4)), some (.inl (20 * 3 + 5)), some (.inl (20 * 3 + 6)), some (.inl (20 * 3 + 7)), some (.inl (20 * 3 + 8)), some (.inl (20 * 3 + 9)), some (.inl (20 * 3 + 10)), some (.inl (20 * 3 + 11)), none, none, none] 0 um_x0 sz (fun _ => none) (fun _ => 0) s.heap := um_B.nil hat rfl hlt um_x0_ref
  have hz : sz ≤ s.heap.size := Nat.le_of_eq hsz.symm
  clear hat
  obtain ⟨H0, hHe⟩ : ∃ H, H = s.heap := ⟨_, rfl⟩
  have hS : va_S (um_KD h0 sz) s.heap H0 [] := by rw [hHe]; exact va_S.rf
  rw [← hHe] at hB hz ⊢
  generalize ([] : List Loc) = locs at hS ⊢
  generalize (fun _ => 0 : Nat → Nat) = α at hB
  refine lv_aload_n (pc := 0) hx hb dX4_init_0 rfl (lv_at hl 0 rfl) ?_
  refine um_kobj (pc := 1) Cx hl qM_X4_3 (Nat.le_of_ble_eq_true rfl) (Nat.le_of_ble_eq_true rfl) dX4_init_1 ?_
  refine lv_aload_n (pc := 4) hx hb dX4_init_4 rfl (lv_at hl 0 rfl) ?_
  refine um_vnew (pc := 5) (ci := 4) (fs := [.int 0, .null, .int 0]) Cx iX5 tyX5 tyX5_ok qCL_X4_9 qB_X5 qN_X5 rfl (fun j hj => by rcases (show j = 0 ∨ j = 1 ∨ j = 2 by omega) with rfl | rfl | rfl <;> rfl) (Nat.le_of_ble_eq_true rfl) (Nat.le_of_ble_eq_true rfl) dX4_init_5 (fun Ha1 hat2 zb ob => ?_)
  have hBb := hB.same ob
  have hSb := hS.push (by omega) ob
  have hz0 := hz
  have hzb : sz ≤ Ha1.size := by omega
  refine lv_dup (pc := 8) hx hb dX4_init_8 rfl ?_
  refine lv_iconst (pc := 9) (v := (2 : Int32)) hx hb dX4_init_9 (by decide) ?_
  refine lv_bipush (pc := 10) (v := (8 : Int32)) hx hb dX4_init_10 (by decide) ?_
  refine um_kcall (pc := 12) (As := [.int (2 : Int32), .int (8 : Int32)]) (rest := [.ref H0.size, .ref h0]) Cx (c_X5_init 60 (2 : Int32) (8 : Int32) ⟨by decide, by decide⟩ (by decide) (by decide) (by decide) (by decide)) kI_X5 (Or.inl qM_X4_11) hat2 rfl (Nat.le_trans hbs hz0) (by omega) hSb hAo (fun x hx => Or.inr (by rcases hx with rfl | hx <;> omega)) rfl hl rfl (Nat.le_of_ble_eq_true rfl) (Nat.le_of_ble_eq_true rfl) (Nat.le_of_ble_eq_true rfl) dX4_init_12 (Nat.le_of_ble_eq_true rfl) (Nat.le_of_ble_eq_true rfl) (fun Ha2 locs hKB zc oc hS => ?_)
  obtain ⟨α, ea, hB⟩ := hBb.sub hKB (shT_cl 60) hz0 (by omega) hB.lt (by omega) oc rfl ⟨_, rfl⟩ (shT_D rfl rfl) um_x0_ref
  have hz : sz ≤ Ha2.size := by omega
  clear hBb hKB oc hat2 ob
  refine um_vput (pc := 15) (v := .ref H0.size) Cx hB.1 iX4 tyX4 tyX4_ok nmX4 rfl 0 (by decide) qF_X4_14 rfl rfl hin rfl (tyX4_ok 0 (by decide)) rfl rfl (by rw [um_bf_len]; exact Nat.le_of_ble_eq_true rfl) dX4_init_15 (fun Ha3 i he z2 o2 => ?_)
  have hB := hB.put (f := some (.inl 60)) rfl (fun q h => by cases h; exact ⟨_, rfl⟩) (by simp only [um_fv, ea]; exact he) o2
  have hS := hS.put (k := i) z2 o2 (Or.inl rfl)
  have hz : sz ≤ Ha3.size := by omega
  clear he o2 ea
  refine lv_aload_n (pc := 18) hx hb dX4_init_18 rfl (lv_at hl 0 rfl) ?_
  refine um_vnew (pc := 19) (ci := 4) (fs := [.int 0, .null, .int 0]) Cx iX5 tyX5 tyX5_ok qCL_X4_9 qB_X5 qN_X5 rfl (fun j hj => by rcases (show j = 0 ∨ j = 1 ∨ j = 2 by omega) with rfl | rfl | rfl <;> rfl) (Nat.le_of_ble_eq_true rfl) (Nat.le_of_ble_eq_true rfl) dX4_init_19 (fun Ha4 hat2 zb ob => ?_)
  have hBb := hB.same ob
  have hSb := hS.push (by omega) ob
  have hz0 := hz
  have hzb : sz ≤ Ha4.size := by omega
  refine lv_dup (pc := 22) hx hb dX4_init_22 rfl ?_
  refine lv_bipush (pc := 23) (v := (14 : Int32)) hx hb dX4_init_23 (by decide) ?_
  refine lv_bipush (pc := 25) (v := (14 : Int32)) hx hb dX4_init_25 (by decide) ?_
  refine um_kcall (pc := 27) (As := [.int (14 : Int32), .int (14 : Int32)]) (rest := [.ref Ha3.size, .ref h0]) Cx (c_X5_init 61 (14 : Int32) (14 : Int32) ⟨by decide, by decide⟩ (by decide) (by decide) (by decide) (by decide)) kI_X5 (Or.inl qM_X4_11) hat2 rfl (Nat.le_trans hbs hz0) (by omega) hSb hAo (fun x hx => Or.inr (by rcases hx with rfl | hx <;> omega)) rfl hl rfl (Nat.le_of_ble_eq_true rfl) (Nat.le_of_ble_eq_true rfl) (Nat.le_of_ble_eq_true rfl) dX4_init_27 (Nat.le_of_ble_eq_true rfl) (Nat.le_of_ble_eq_true rfl) (fun Ha5 locs hKB zc oc hS => ?_)
  obtain ⟨α, ea, hB⟩ := hBb.sub hKB (shT_cl 61) hz0 (by omega) hB.lt (by omega) oc rfl ⟨_, rfl⟩ (shT_D rfl rfl) um_x0_ref
  have hz : sz ≤ Ha5.size := by omega
  clear hBb hKB oc hat2 ob
  refine um_vput (pc := 30) (v := .ref Ha3.size) Cx hB.1 iX4 tyX4 tyX4_ok nmX4 rfl 1 (by decide) qF_X4_20 rfl rfl hin rfl (tyX4_ok 1 (by decide)) rfl rfl (by rw [um_bf_len]; exact Nat.le_of_ble_eq_true rfl) dX4_init_30 (fun Ha6 i he z2 o2 => ?_)
  have hB := hB.put (f := some (.inl 61)) rfl (fun q h => by cases h; exact ⟨_, rfl⟩) (by simp only [um_fv, ea]; exact he) o2
  have hS := hS.put (k := i) z2 o2 (Or.inl rfl)
  have hz : sz ≤ Ha6.size := by omega
  clear he o2 ea
  refine lv_aload_n (pc := 33) hx hb dX4_init_33 rfl (lv_at hl 0 rfl) ?_
  refine um_vnew (pc := 34) (ci := 4) (fs := [.int 0, .null, .int 0]) Cx iX5 tyX5 tyX5_ok qCL_X4_9 qB_X5 qN_X5 rfl (fun j hj => by rcases (show j = 0 ∨ j = 1 ∨ j = 2 by omega) with rfl | rfl | rfl <;> rfl) (Nat.le_of_ble_eq_true rfl) (Nat.le_of_ble_eq_true rfl) dX4_init_34 (fun Ha7 hat2 zb ob => ?_)
  have hBb := hB.same ob
  have hSb := hS.push (by omega) ob
  have hz0 := hz
  have hzb : sz ≤ Ha7.size := by omega
  refine lv_dup (pc := 37) hx hb dX4_init_37 rfl ?_
  refine lv_iconst (pc := 38) (v := (4 : Int32)) hx hb dX4_init_38 (by decide) ?_
  refine lv_bipush (pc := 39) (v := (6 : Int32)) hx hb dX4_init_39 (by decide) ?_
  refine um_kcall (pc := 41) (As := [.int (4 : Int32), .int (6 : Int32)]) (rest := [.ref Ha6.size, .ref h0]) Cx (c_X5_init 62 (4 : Int32) (6 : Int32) ⟨by decide, by decide⟩ (by decide) (by decide) (by decide) (by decide)) kI_X5 (Or.inl qM_X4_11) hat2 rfl (Nat.le_trans hbs hz0) (by omega) hSb hAo (fun x hx => Or.inr (by rcases hx with rfl | hx <;> omega)) rfl hl rfl (Nat.le_of_ble_eq_true rfl) (Nat.le_of_ble_eq_true rfl) (Nat.le_of_ble_eq_true rfl) dX4_init_41 (Nat.le_of_ble_eq_true rfl) (Nat.le_of_ble_eq_true rfl) (fun Ha8 locs hKB zc oc hS => ?_)
  obtain ⟨α, ea, hB⟩ := hBb.sub hKB (shT_cl 62) hz0 (by omega) hB.lt (by omega) oc rfl ⟨_, rfl⟩ (shT_D rfl rfl) um_x0_ref
  have hz : sz ≤ Ha8.size := by omega
  clear hBb hKB oc hat2 ob
  refine um_vput (pc := 44) (v := .ref Ha6.size) Cx hB.1 iX4 tyX4 tyX4_ok nmX4 rfl 2 (by decide) qF_X4_23 rfl rfl hin rfl (tyX4_ok 2 (by decide)) rfl rfl (by rw [um_bf_len]; exact Nat.le_of_ble_eq_true rfl) dX4_init_44 (fun Ha9 i he z2 o2 => ?_)
  have hB := hB.put (f := some (.inl 62)) rfl (fun q h => by cases h; exact ⟨_, rfl⟩) (by simp only [um_fv, ea]; exact he) o2
  have hS := hS.put (k := i) z2 o2 (Or.inl rfl)
  have hz : sz ≤ Ha9.size := by omega
  clear he o2 ea
  refine lv_aload_n (pc := 47) hx hb dX4_init_47 rfl (lv_at hl 0 rfl) ?_
  refine um_vnew (pc := 48) (ci := 4) (fs := [.int 0, .null, .int 0]) Cx iX5 tyX5 tyX5_ok qCL_X4_9 qB_X5 qN_X5 rfl (fun j hj => by rcases (show j = 0 ∨ j = 1 ∨ j = 2 by omega) with rfl | rfl | rfl <;> rfl) (Nat.le_of_ble_eq_true rfl) (Nat.le_of_ble_eq_true rfl) dX4_init_48 (fun Ha10 hat2 zb ob => ?_)
  have hBb := hB.same ob
  have hSb := hS.push (by omega) ob
  have hz0 := hz
  have hzb : sz ≤ Ha10.size := by omega
  refine lv_dup (pc := 51) hx hb dX4_init_51 rfl ?_
  refine lv_iconst (pc := 52) (v := (4 : Int32)) hx hb dX4_init_52 (by decide) ?_
  refine lv_bipush (pc := 53) (v := (40 : Int32)) hx hb dX4_init_53 (by decide) ?_
  refine um_kcall (pc := 55) (As := [.int (4 : Int32), .int (40 : Int32)]) (rest := [.ref Ha9.size, .ref h0]) Cx (c_X5_init 63 (4 : Int32) (40 : Int32) ⟨by decide, by decide⟩ (by decide) (by decide) (by decide) (by decide)) kI_X5 (Or.inl qM_X4_11) hat2 rfl (Nat.le_trans hbs hz0) (by omega) hSb hAo (fun x hx => Or.inr (by rcases hx with rfl | hx <;> omega)) rfl hl rfl (Nat.le_of_ble_eq_true rfl) (Nat.le_of_ble_eq_true rfl) (Nat.le_of_ble_eq_true rfl) dX4_init_55 (Nat.le_of_ble_eq_true rfl) (Nat.le_of_ble_eq_true rfl) (fun Ha11 locs hKB zc oc hS => ?_)
  obtain ⟨α, ea, hB⟩ := hBb.sub hKB (shT_cl 63) hz0 (by omega) hB.lt (by omega) oc rfl ⟨_, rfl⟩ (shT_D rfl rfl) um_x0_ref
  have hz : sz ≤ Ha11.size := by omega
  clear hBb hKB oc hat2 ob
  refine um_vput (pc := 58) (v := .ref Ha9.size) Cx hB.1 iX4 tyX4 tyX4_ok nmX4 rfl 3 (by decide) qF_X4_26 rfl rfl hin rfl (tyX4_ok 3 (by decide)) rfl rfl (by rw [um_bf_len]; exact Nat.le_of_ble_eq_true rfl) dX4_init_58 (fun Ha12 i he z2 o2 => ?_)
  have hB := hB.put (f := some (.inl 63)) rfl (fun q h => by cases h; exact ⟨_, rfl⟩) (by simp only [um_fv, ea]; exact he) o2
  have hS := hS.put (k := i) z2 o2 (Or.inl rfl)
  have hz : sz ≤ Ha12.size := by omega
  clear he o2 ea
  refine lv_aload_n (pc := 61) hx hb dX4_init_61 rfl (lv_at hl 0 rfl) ?_
  refine um_vnew (pc := 62) (ci := 4) (fs := [.int 0, .null, .int 0]) Cx iX5 tyX5 tyX5_ok qCL_X4_9 qB_X5 qN_X5 rfl (fun j hj => by rcases (show j = 0 ∨ j = 1 ∨ j = 2 by omega) with rfl | rfl | rfl <;> rfl) (Nat.le_of_ble_eq_true rfl) (Nat.le_of_ble_eq_true rfl) dX4_init_62 (fun Ha13 hat2 zb ob => ?_)
  have hBb := hB.same ob
  have hSb := hS.push (by omega) ob
  have hz0 := hz
  have hzb : sz ≤ Ha13.size := by omega
  refine lv_dup (pc := 65) hx hb dX4_init_65 rfl ?_
  refine lv_iconst (pc := 66) (v := (5 : Int32)) hx hb dX4_init_66 (by decide) ?_
  refine lv_bipush (pc := 67) (v := (20 : Int32)) hx hb dX4_init_67 (by decide) ?_
  refine um_kcall (pc := 69) (As := [.int (5 : Int32), .int (20 : Int32)]) (rest := [.ref Ha12.size, .ref h0]) Cx (c_X5_init 64 (5 : Int32) (20 : Int32) ⟨by decide, by decide⟩ (by decide) (by decide) (by decide) (by decide)) kI_X5 (Or.inl qM_X4_11) hat2 rfl (Nat.le_trans hbs hz0) (by omega) hSb hAo (fun x hx => Or.inr (by rcases hx with rfl | hx <;> omega)) rfl hl rfl (Nat.le_of_ble_eq_true rfl) (Nat.le_of_ble_eq_true rfl) (Nat.le_of_ble_eq_true rfl) dX4_init_69 (Nat.le_of_ble_eq_true rfl) (Nat.le_of_ble_eq_true rfl) (fun Ha14 locs hKB zc oc hS => ?_)
  obtain ⟨α, ea, hB⟩ := hBb.sub hKB (shT_cl 64) hz0 (by omega) hB.lt (by omega) oc rfl ⟨_, rfl⟩ (shT_D rfl rfl) um_x0_ref
  have hz : sz ≤ Ha14.size := by omega
  clear hBb hKB oc hat2 ob
  refine um_vput (pc := 72) (v := .ref Ha12.size) Cx hB.1 iX4 tyX4 tyX4_ok nmX4 rfl 4 (by decide) qF_X4_29 rfl rfl hin rfl (tyX4_ok 4 (by decide)) rfl rfl (by rw [um_bf_len]; exact Nat.le_of_ble_eq_true rfl) dX4_init_72 (fun Ha15 i he z2 o2 => ?_)
  have hB := hB.put (f := some (.inl 64)) rfl (fun q h => by cases h; exact ⟨_, rfl⟩) (by simp only [um_fv, ea]; exact he) o2
  have hS := hS.put (k := i) z2 o2 (Or.inl rfl)
  have hz : sz ≤ Ha15.size := by omega
  clear he o2 ea
  refine lv_aload_n (pc := 75) hx hb dX4_init_75 rfl (lv_at hl 0 rfl) ?_
  refine um_vnew (pc := 76) (ci := 4) (fs := [.int 0, .null, .int 0]) Cx iX5 tyX5 tyX5_ok qCL_X4_9 qB_X5 qN_X5 rfl (fun j hj => by rcases (show j = 0 ∨ j = 1 ∨ j = 2 by omega) with rfl | rfl | rfl <;> rfl) (Nat.le_of_ble_eq_true rfl) (Nat.le_of_ble_eq_true rfl) dX4_init_76 (fun Ha16 hat2 zb ob => ?_)
  have hBb := hB.same ob
  have hSb := hS.push (by omega) ob
  have hz0 := hz
  have hzb : sz ≤ Ha16.size := by omega
  refine lv_dup (pc := 79) hx hb dX4_init_79 rfl ?_
  refine lv_iconst (pc := 80) (v := (4 : Int32)) hx hb dX4_init_80 (by decide) ?_
  refine lv_bipush (pc := 81) (v := (10 : Int32)) hx hb dX4_init_81 (by decide) ?_
  refine um_kcall (pc := 83) (As := [.int (4 : Int32), .int (10 : Int32)]) (rest := [.ref Ha15.size, .ref h0]) Cx (c_X5_init 65 (4 : Int32) (10 : Int32) ⟨by decide, by decide⟩ (by decide) (by decide) (by decide) (by decide)) kI_X5 (Or.inl qM_X4_11) hat2 rfl (Nat.le_trans hbs hz0) (by omega) hSb hAo (fun x hx => Or.inr (by rcases hx with rfl | hx <;> omega)) rfl hl rfl (Nat.le_of_ble_eq_true rfl) (Nat.le_of_ble_eq_true rfl) (Nat.le_of_ble_eq_true rfl) dX4_init_83 (Nat.le_of_ble_eq_true rfl) (Nat.le_of_ble_eq_true rfl) (fun Ha17 locs hKB zc oc hS => ?_)
  obtain ⟨α, ea, hB⟩ := hBb.sub hKB (shT_cl 65) hz0 (by omega) hB.lt (by omega) oc rfl ⟨_, rfl⟩ (shT_D rfl rfl) um_x0_ref
  have hz : sz ≤ Ha17.size := by omega
  clear hBb hKB oc hat2 ob
  refine um_vput (pc := 86) (v := .ref Ha15.size) Cx hB.1 iX4 tyX4 tyX4_ok nmX4 rfl 5 (by decide) qF_X4_32 rfl rfl hin rfl (tyX4_ok 5 (by decide)) rfl rfl (by rw [um_bf_len]; exact Nat.le_of_ble_eq_true rfl) dX4_init_86 (fun Ha18 i he z2 o2 => ?_)
  have hB := hB.put (f := some (.inl 65)) rfl (fun q h => by cases h; exact ⟨_, rfl⟩) (by simp only [um_fv, ea]; exact he) o2
  have hS := hS.put (k := i) z2 o2 (Or.inl rfl)
  have hz : sz ≤ Ha18.size := by omega
  clear he o2 ea
  refine lv_aload_n (pc := 89) hx hb dX4_init_89 rfl (lv_at hl 0 rfl) ?_
  refine um_vnew (pc := 90) (ci := 4) (fs := [.int 0, .null, .int 0]) Cx iX5 tyX5 tyX5_ok qCL_X4_9 qB_X5 qN_X5 rfl (fun j hj => by rcases (show j = 0 ∨ j = 1 ∨ j = 2 by omega) with rfl | rfl | rfl <;> rfl) (Nat.le_of_ble_eq_true rfl) (Nat.le_of_ble_eq_true rfl) dX4_init_90 (fun Ha19 hat2 zb ob => ?_)
  have hBb := hB.same ob
  have hSb := hS.push (by omega) ob
  have hz0 := hz
  have hzb : sz ≤ Ha19.size := by omega
  refine lv_dup (pc := 93) hx hb dX4_init_93 rfl ?_
  refine lv_iconst (pc := 94) (v := (3 : Int32)) hx hb dX4_init_94 (by decide) ?_
  refine lv_bipush (pc := 95) (v := (30 : Int32)) hx hb dX4_init_95 (by decide) ?_
  refine um_kcall (pc := 97) (As := [.int (3 : Int32), .int (30 : Int32)]) (rest := [.ref Ha18.size, .ref h0]) Cx (c_X5_init 66 (3 : Int32) (30 : Int32) ⟨by decide, by decide⟩ (by decide) (by decide) (by decide) (by decide)) kI_X5 (Or.inl qM_X4_11) hat2 rfl (Nat.le_trans hbs hz0) (by omega) hSb hAo (fun x hx => Or.inr (by rcases hx with rfl | hx <;> omega)) rfl hl rfl (Nat.le_of_ble_eq_true rfl) (Nat.le_of_ble_eq_true rfl) (Nat.le_of_ble_eq_true rfl) dX4_init_97 (Nat.le_of_ble_eq_true rfl) (Nat.le_of_ble_eq_true rfl) (fun Ha20 locs hKB zc oc hS => ?_)
  obtain ⟨α, ea, hB⟩ := hBb.sub hKB (shT_cl 66) hz0 (by omega) hB.lt (by omega) oc rfl ⟨_, rfl⟩ (shT_D rfl rfl) um_x0_ref
  have hz : sz ≤ Ha20.size := by omega
  clear hBb hKB oc hat2 ob
  refine um_vput (pc := 100) (v := .ref Ha18.size) Cx hB.1 iX4 tyX4 tyX4_ok nmX4 rfl 6 (by decide) qF_X4_35 rfl rfl hin rfl (tyX4_ok 6 (by decide)) rfl rfl (by rw [um_bf_len]; exact Nat.le_of_ble_eq_true rfl) dX4_init_100 (fun Ha21 i he z2 o2 => ?_)
  have hB := hB.put (f := some (.inl 66)) rfl (fun q h => by cases h; exact ⟨_, rfl⟩) (by simp only [um_fv, ea]; exact he) o2
  have hS := hS.put (k := i) z2 o2 (Or.inl rfl)
  have hz : sz ≤ Ha21.size := by omega
  clear he o2 ea
  refine lv_aload_n (pc := 103) hx hb dX4_init_103 rfl (lv_at hl 0 rfl) ?_
  refine um_vnew (pc := 104) (ci := 4) (fs := [.int 0, .null, .int 0]) Cx iX5 tyX5 tyX5_ok qCL_X4_9 qB_X5 qN_X5 rfl (fun j hj => by rcases (show j = 0 ∨ j = 1 ∨ j = 2 by omega) with rfl | rfl | rfl <;> rfl) (Nat.le_of_ble_eq_true rfl) (Nat.le_of_ble_eq_true rfl) dX4_init_104 (fun Ha22 hat2 zb ob => ?_)
  have hBb := hB.same ob
  have hSb := hS.push (by omega) ob
  have hz0 := hz
  have hzb : sz ≤ Ha22.size := by omega
  refine lv_dup (pc := 107) hx hb dX4_init_107 rfl ?_
  refine lv_iconst (pc := 108) (v := (2 : Int32)) hx hb dX4_init_108 (by decide) ?_
  refine lv_bipush (pc := 109) (v := (6 : Int32)) hx hb dX4_init_109 (by decide) ?_
  refine um_kcall (pc := 111) (As := [.int (2 : Int32), .int (6 : Int32)]) (rest := [.ref Ha21.size, .ref h0]) Cx (c_X5_init 67 (2 : Int32) (6 : Int32) ⟨by decide, by decide⟩ (by decide) (by decide) (by decide) (by decide)) kI_X5 (Or.inl qM_X4_11) hat2 rfl (Nat.le_trans hbs hz0) (by omega) hSb hAo (fun x hx => Or.inr (by rcases hx with rfl | hx <;> omega)) rfl hl rfl (Nat.le_of_ble_eq_true rfl) (Nat.le_of_ble_eq_true rfl) (Nat.le_of_ble_eq_true rfl) dX4_init_111 (Nat.le_of_ble_eq_true rfl) (Nat.le_of_ble_eq_true rfl) (fun Ha23 locs hKB zc oc hS => ?_)
  obtain ⟨α, ea, hB⟩ := hBb.sub hKB (shT_cl 67) hz0 (by omega) hB.lt (by omega) oc rfl ⟨_, rfl⟩ (shT_D rfl rfl) um_x0_ref
  have hz : sz ≤ Ha23.size := by omega
  clear hBb hKB oc hat2 ob
  refine um_vput (pc := 114) (v := .ref Ha21.size) Cx hB.1 iX4 tyX4 tyX4_ok nmX4 rfl 7 (by decide) qF_X4_38 rfl rfl hin rfl (tyX4_ok 7 (by decide)) rfl rfl (by rw [um_bf_len]; exact Nat.le_of_ble_eq_true rfl) dX4_init_114 (fun Ha24 i he z2 o2 => ?_)
  have hB := hB.put (f := some (.inl 67)) rfl (fun q h => by cases h; exact ⟨_, rfl⟩) (by simp only [um_fv, ea]; exact he) o2
  have hS := hS.put (k := i) z2 o2 (Or.inl rfl)
  have hz : sz ≤ Ha24.size := by omega
  clear he o2 ea
  refine lv_aload_n (pc := 117) hx hb dX4_init_117 rfl (lv_at hl 0 rfl) ?_
  refine um_vnew (pc := 118) (ci := 4) (fs := [.int 0, .null, .int 0]) Cx iX5 tyX5 tyX5_ok qCL_X4_9 qB_X5 qN_X5 rfl (fun j hj => by rcases (show j = 0 ∨ j = 1 ∨ j = 2 by omega) with rfl | rfl | rfl <;> rfl) (Nat.le_of_ble_eq_true rfl) (Nat.le_of_ble_eq_true rfl) dX4_init_118 (fun Ha25 hat2 zb ob => ?_)
  have hBb := hB.same ob
  have hSb := hS.push (by omega) ob
  have hz0 := hz
  have hzb : sz ≤ Ha25.size := by omega
  refine lv_dup (pc := 121) hx hb dX4_init_121 rfl ?_
  refine lv_bipush (pc := 122) (v := (6 : Int32)) hx hb dX4_init_122 (by decide) ?_
  refine lv_bipush (pc := 124) (v := (6 : Int32)) hx hb dX4_init_124 (by decide) ?_
  refine um_kcall (pc := 126) (As := [.int (6 : Int32), .int (6 : Int32)]) (rest := [.ref Ha24.size, .ref h0]) Cx (c_X5_init 68 (6 : Int32) (6 : Int32) ⟨by decide, by decide⟩ (by decide) (by decide) (by decide) (by decide)) kI_X5 (Or.inl qM_X4_11) hat2 rfl (Nat.le_trans hbs hz0) (by omega) hSb hAo (fun x hx => Or.inr (by rcases hx with rfl | hx <;> omega)) rfl hl rfl (Nat.le_of_ble_eq_true rfl) (Nat.le_of_ble_eq_true rfl) (Nat.le_of_ble_eq_true rfl) dX4_init_126 (Nat.le_of_ble_eq_true rfl) (Nat.le_of_ble_eq_true rfl) (fun Ha26 locs hKB zc oc hS => ?_)
  obtain ⟨α, ea, hB⟩ := hBb.sub hKB (shT_cl 68) hz0 (by omega) hB.lt (by omega) oc rfl ⟨_, rfl⟩ (shT_D rfl rfl) um_x0_ref
  have hz : sz ≤ Ha26.size := by omega
  clear hBb hKB oc hat2 ob
  refine um_vput (pc := 129) (v := .ref Ha24.size) Cx hB.1 iX4 tyX4 tyX4_ok nmX4 rfl 8 (by decide) qF_X4_41 rfl rfl hin rfl (tyX4_ok 8 (by decide)) rfl rfl (by rw [um_bf_len]; exact Nat.le_of_ble_eq_true rfl) dX4_init_129 (fun Ha27 i he z2 o2 => ?_)
  have hB := hB.put (f := some (.inl 68)) rfl (fun q h => by cases h; exact ⟨_, rfl⟩) (by simp only [um_fv, ea]; exact he) o2
  have hS := hS.put (k := i) z2 o2 (Or.inl rfl)
  have hz : sz ≤ Ha27.size := by omega
  clear he o2 ea
  refine lv_aload_n (pc := 132) hx hb dX4_init_132 rfl (lv_at hl 0 rfl) ?_
  refine um_vnew (pc := 133) (ci := 4) (fs := [.int 0, .null, .int 0]) Cx iX5 tyX5 tyX5_ok qCL_X4_9 qB_X5 qN_X5 rfl (fun j hj => by rcases (show j = 0 ∨ j = 1 ∨ j = 2 by omega) with rfl | rfl | rfl <;> rfl) (Nat.le_of_ble_eq_true rfl) (Nat.le_of_ble_eq_true rfl) dX4_init_133 (fun Ha28 hat2 zb ob => ?_)
  have hBb := hB.same ob
  have hSb := hS.push (by omega) ob
  have hz0 := hz
  have hzb : sz ≤ Ha28.size := by omega
  refine lv_dup (pc := 136) hx hb dX4_init_136 rfl ?_
  refine lv_iconst (pc := 137) (v := (3 : Int32)) hx hb dX4_init_137 (by decide) ?_
  refine lv_bipush (pc := 138) (v := (7 : Int32)) hx hb dX4_init_138 (by decide) ?_
  refine um_kcall (pc := 140) (As := [.int (3 : Int32), .int (7 : Int32)]) (rest := [.ref Ha27.size, .ref h0]) Cx (c_X5_init 69 (3 : Int32) (7 : Int32) ⟨by decide, by decide⟩ (by decide) (by decide) (by decide) (by decide)) kI_X5 (Or.inl qM_X4_11) hat2 rfl (Nat.le_trans hbs hz0) (by omega) hSb hAo (fun x hx => Or.inr (by rcases hx with rfl | hx <;> omega)) rfl hl rfl (Nat.le_of_ble_eq_true rfl) (Nat.le_of_ble_eq_true rfl) (Nat.le_of_ble_eq_true rfl) dX4_init_140 (Nat.le_of_ble_eq_true rfl) (Nat.le_of_ble_eq_true rfl) (fun Ha29 locs hKB zc oc hS => ?_)
  obtain ⟨α, ea, hB⟩ := hBb.sub hKB (shT_cl 69) hz0 (by omega) hB.lt (by omega) oc rfl ⟨_, rfl⟩ (shT_D rfl rfl) um_x0_ref
  have hz : sz ≤ Ha29.size := by omega
  clear hBb hKB oc hat2 ob
  refine um_vput (pc := 143) (v := .ref Ha27.size) Cx hB.1 iX4 tyX4 tyX4_ok nmX4 rfl 9 (by decide) qF_X4_44 rfl rfl hin rfl (tyX4_ok 9 (by decide)) rfl rfl (by rw [um_bf_len]; exact Nat.le_of_ble_eq_true rfl) dX4_init_143 (fun Ha30 i he z2 o2 => ?_)
  have hB := hB.put (f := some (.inl 69)) rfl (fun q h => by cases h; exact ⟨_, rfl⟩) (by simp only [um_fv, ea]; exact he) o2
  have hS := hS.put (k := i) z2 o2 (Or.inl rfl)
  have hz : sz ≤ Ha30.size := by omega
  clear he o2 ea
  refine lv_aload_n (pc := 146) hx hb dX4_init_146 rfl (lv_at hl 0 rfl) ?_
  refine um_vnew (pc := 147) (ci := 4) (fs := [.int 0, .null, .int 0]) Cx iX5 tyX5 tyX5_ok qCL_X4_9 qB_X5 qN_X5 rfl (fun j hj => by rcases (show j = 0 ∨ j = 1 ∨ j = 2 by omega) with rfl | rfl | rfl <;> rfl) (Nat.le_of_ble_eq_true rfl) (Nat.le_of_ble_eq_true rfl) dX4_init_147 (fun Ha31 hat2 zb ob => ?_)
  have hBb := hB.same ob
  have hSb := hS.push (by omega) ob
  have hz0 := hz
  have hzb : sz ≤ Ha31.size := by omega
  refine lv_dup (pc := 150) hx hb dX4_init_150 rfl ?_
  refine lv_bipush (pc := 151) (v := (6 : Int32)) hx hb dX4_init_151 (by decide) ?_
  refine lv_bipush (pc := 153) (v := (6 : Int32)) hx hb dX4_init_153 (by decide) ?_
  refine um_kcall (pc := 155) (As := [.int (6 : Int32), .int (6 : Int32)]) (rest := [.ref Ha30.size, .ref h0]) Cx (c_X5_init 70 (6 : Int32) (6 : Int32) ⟨by decide, by decide⟩ (by decide) (by decide) (by decide) (by decide)) kI_X5 (Or.inl qM_X4_11) hat2 rfl (Nat.le_trans hbs hz0) (by omega) hSb hAo (fun x hx => Or.inr (by rcases hx with rfl | hx <;> omega)) rfl hl rfl (Nat.le_of_ble_eq_true rfl) (Nat.le_of_ble_eq_true rfl) (Nat.le_of_ble_eq_true rfl) dX4_init_155 (Nat.le_of_ble_eq_true rfl) (Nat.le_of_ble_eq_true rfl) (fun Ha32 locs hKB zc oc hS => ?_)
  obtain ⟨α, ea, hB⟩ := hBb.sub hKB (shT_cl 70) hz0 (by omega) hB.lt (by omega) oc rfl ⟨_, rfl⟩ (shT_D rfl rfl) um_x0_ref
  have hz : sz ≤ Ha32.size := by omega
  clear hBb hKB oc hat2 ob
  refine um_vput (pc := 158) (v := .ref Ha30.size) Cx hB.1 iX4 tyX4 tyX4_ok nmX4 rfl 10 (by decide) qF_X4_47 rfl rfl hin rfl (tyX4_ok 10 (by decide)) rfl rfl (by rw [um_bf_len]; exact Nat.le_of_ble_eq_true rfl) dX4_init_158 (fun Ha33 i he z2 o2 => ?_)
  have hB := hB.put (f := some (.inl 70)) rfl (fun q h => by cases h; exact ⟨_, rfl⟩) (by simp only [um_fv, ea]; exact he) o2
  have hS := hS.put (k := i) z2 o2 (Or.inl rfl)
  have hz : sz ≤ Ha33.size := by omega
  clear he o2 ea
  refine lv_aload_n (pc := 161) hx hb dX4_init_161 rfl (lv_at hl 0 rfl) ?_
  refine um_vnew (pc := 162) (ci := 1) (fs := [.null, .int 0]) Cx iX1 tyX1 tyX1_ok qCL_X4_50 qB_X1 qN_X1 rfl (fun j hj => by rcases (show j = 0 ∨ j = 1 by omega) with rfl | rfl <;> rfl) (Nat.le_of_ble_eq_true rfl) (Nat.le_of_ble_eq_true rfl) dX4_init_162 (fun Ha34 hat2 zb ob => ?_)
  have hBb := hB.same ob
  have hSb := hS.push (by omega) ob
  have hz0 := hz
  have hzb : sz ≤ Ha34.size := by omega
  refine lv_dup (pc := 165) hx hb dX4_init_165 rfl ?_
  refine um_kcall (pc := 166) (As := []) (rest := [.ref Ha33.size, .ref h0]) Cx c_X1_init_71 kI_X1 (Or.inr ⟨_, qW_X4_52⟩) hat2 rfl (Nat.le_trans hbs hz0) (by omega) hSb hAo (fun x hx => Or.inr (by rcases hx with rfl | hx <;> omega)) rfl hl rfl (Nat.le_of_ble_eq_true rfl) (Nat.le_of_ble_eq_true rfl) (Nat.le_of_ble_eq_true rfl) dX4_init_166 (Nat.le_of_ble_eq_true rfl) (Nat.le_of_ble_eq_true rfl) (fun Ha35 locs hKB zc oc hS => ?_)
  obtain ⟨α, ea, hB⟩ := hBb.sub hKB (shP_cl (by decide)) hz0 (by omega) hB.lt (by omega) oc rfl ⟨_, rfl⟩ (shP_D (by decide)) um_x0_ref
  have hz : sz ≤ Ha35.size := by omega
  clear hBb hKB oc hat2 ob
  refine um_vput (pc := 169) (v := .ref Ha33.size) Cx hB.1 iX4 tyX4 tyX4_ok nmX4 rfl 11 (by decide) qF_X4_53 rfl rfl hin rfl (tyX4_ok 11 (by decide)) rfl rfl (by rw [um_bf_len]; exact Nat.le_of_ble_eq_true rfl) dX4_init_169 (fun Ha36 i he z2 o2 => ?_)
  have hB := hB.put (f := some (.inl 71)) rfl (fun q h => by cases h; exact ⟨_, rfl⟩) (by simp only [um_fv, ea]; exact he) o2
  have hS := hS.put (k := i) z2 o2 (Or.inl rfl)
  have hz : sz ≤ Ha36.size := by omega
  clear he o2 ea
  have hB := hB.skip rfl (by first | rfl | (rw [um_x0_row (by decide)]))
  have hB := hB.skip rfl (by first | rfl | (rw [um_x0_row (by decide)]))
  have hB := hB.skip rfl (by first | rfl | (rw [um_x0_row (by decide)]))
  refine W.widen (k := 24) (n := 780) (Nat.le_of_ble_eq_true rfl) (Nat.le_of_ble_eq_true rfl) ?_
  exact um_kret (pc := 172) Cx (hB.out (Nat.le_refl _) rfl hb0 um_x0_ref (shP_F (by decide)) (shP_cl (by decide))) hS dX4_init_172
set_option maxRecDepth 100000 in
set_option maxHeartbeats 4000000 in
theorem c_X6_init_4 : um_K l yX6_init cX6_init 1 1 30 3 288 Z h0 5 [.null, .int 0, .int 0, .int 0, .int 0, .int 0, .int 0, .null, .null, .int 0, .int 0, .int 0, .int 0, .int 0, .int 0] [] sz (um_KB Z (shP [4, 8, 9, 10]) 4 h0 sz um_x0) := by
  refine um_kstart (by decide) rfl (Nat.le_of_ble_eq_true rfl) ?_
  intro p e s m below meth c ls Cx hin hsz hb0 hbs hat hl
  have hx := Cx.1
  have hb := Cx.2.1
  have hl : lv_has ls 1 [(0, .ref h0)] := hl
  have hlt : h0 < sz := hsz ▸ hat.lt
  have hAo : ∀ x, um_KD h0 sz x → um_old Z x := fun x hx => hx.elim (fun h => h ▸ hb0) (fun h => Nat.le_trans hbs h)
  have hB : um_B Z h0 5 4 [some (.inl 8), none, none, none, none, none, none, some (.inl 9), some (.inl 10), none, none, none, none, none, none] 0 um_x0 sz (fun _ => none) (fun _ => 0) s.heap := um_B.nil hat rfl hlt um_x0_ref
  have hz : sz ≤ s.heap.size := Nat.le_of_eq hsz.symm
  clear hat
  obtain ⟨H0, hHe⟩ : ∃ H, H = s.heap := ⟨_, rfl⟩
  have hS : va_S (um_KD h0 sz) s.heap H0 [] := by rw [hHe]; exact va_S.rf
  rw [← hHe] at hB hz ⊢
  generalize ([] : List Loc) = locs at hS ⊢
  generalize (fun _ => 0 : Nat → Nat) = α at hB
  refine lv_aload_n (pc := 0) hx hb dX6_init_0 rfl (lv_at hl 0 rfl) ?_
  refine um_kobj (pc := 1) Cx hl qM_X6_3 (Nat.le_of_ble_eq_true rfl) (Nat.le_of_ble_eq_true rfl) dX6_init_1 ?_
  refine lv_aload_n (pc := 4) hx hb dX6_init_4 rfl (lv_at hl 0 rfl) ?_
  refine lv_bipush (pc := 5) (v := (96 : Int32)) hx hb dX6_init_5 (by decide) ?_
  refine um_vnewb (pc := 7) (N := 96) Cx (by decide) (by decide) (by decide) (Nat.le_of_ble_eq_true rfl) (Nat.le_of_ble_eq_true rfl) dX6_init_7 (fun Ha1 hc z o => ?_)
  have hB := hB.arr (q := 8) (t := 1) (N := 96) rfl hbs hz (by decide) (um_x0_row (by decide)) hc o
  have hS := hS.push (by omega) o
  have hz : sz ≤ Ha1.size := by omega
  have ea : um_ax α 8 H0.size 8 = H0.size := um_ax_eq _ _ _
  generalize um_ax α 8 H0.size = α at hB ea
  clear hc o
  refine um_vput (pc := 9) (v := .ref H0.size) Cx hB.1 iX6 tyX6 tyX6_ok nmX6 rfl 0 (by decide) qF_X6_9 rfl rfl hin rfl (tyX6_ok 0 (by decide)) rfl rfl (by rw [um_bf_len]; exact Nat.le_of_ble_eq_true rfl) dX6_init_9 (fun Ha2 i he z2 o2 => ?_)
  have hB := hB.put (f := some (.inl 8)) rfl (fun q h => by cases h; exact ⟨_, rfl⟩) (by simp only [um_fv, ea]; exact he) o2
  have hS := hS.put (k := i) z2 o2 (Or.inl rfl)
  have hz : sz ≤ Ha2.size := by omega
  clear he o2 ea
  refine lv_aload_n (pc := 12) hx hb dX6_init_12 rfl (lv_at hl 0 rfl) ?_
  refine lv_bipush (pc := 13) (v := (96 : Int32)) hx hb dX6_init_13 (by decide) ?_
  refine um_vnewi (pc := 15) (N := 96) Cx (by decide) (by decide) (by decide) (Nat.le_of_ble_eq_true rfl) (Nat.le_of_ble_eq_true rfl) dX6_init_15 (fun Ha3 hc z o => ?_)
  have hB := hB.arr (q := 9) (t := 0) (N := 96) rfl hbs hz (by decide) (um_x0_row (by decide)) hc o
  have hS := hS.push (by omega) o
  have hz : sz ≤ Ha3.size := by omega
  have ea : um_ax α 9 Ha2.size 9 = Ha2.size := um_ax_eq _ _ _
  generalize um_ax α 9 Ha2.size = α at hB ea
  clear hc o
  have hB := hB.skip rfl (by first | rfl | (rw [um_x0_row (by decide)]))
  have hB := hB.skip rfl (by first | rfl | (rw [um_x0_row (by decide)]))
  have hB := hB.skip rfl (by first | rfl | (rw [um_x0_row (by decide)]))
  have hB := hB.skip rfl (by first | rfl | (rw [um_x0_row (by decide)]))
  have hB := hB.skip rfl (by first | rfl | (rw [um_x0_row (by decide)]))
  have hB := hB.skip rfl (by first | rfl | (rw [um_x0_row (by decide)]))
  refine um_vput (pc := 17) (v := .ref Ha2.size) Cx hB.1 iX6 tyX6 tyX6_ok nmX6 rfl 7 (by decide) qF_X6_15 rfl rfl hin rfl (tyX6_ok 7 (by decide)) rfl rfl (by rw [um_bf_len]; exact Nat.le_of_ble_eq_true rfl) dX6_init_17 (fun Ha4 i he z2 o2 => ?_)
  have hB := hB.put (f := some (.inl 9)) rfl (fun q h => by cases h; exact ⟨_, rfl⟩) (by simp only [um_fv, ea]; exact he) o2
  have hS := hS.put (k := i) z2 o2 (Or.inl rfl)
  have hz : sz ≤ Ha4.size := by omega
  clear he o2 ea
  refine lv_aload_n (pc := 20) hx hb dX6_init_20 rfl (lv_at hl 0 rfl) ?_
  refine lv_bipush (pc := 21) (v := (96 : Int32)) hx hb dX6_init_21 (by decide) ?_
  refine um_vnewi (pc := 23) (N := 96) Cx (by decide) (by decide) (by decide) (Nat.le_of_ble_eq_true rfl) (Nat.le_of_ble_eq_true rfl) dX6_init_23 (fun Ha5 hc z o => ?_)
  have hB := hB.arr (q := 10) (t := 0) (N := 96) rfl hbs hz (by decide) (um_x0_row (by decide)) hc o
  have hS := hS.push (by omega) o
  have hz : sz ≤ Ha5.size := by omega
  have ea : um_ax α 10 Ha4.size 10 = Ha4.size := um_ax_eq _ _ _
  generalize um_ax α 10 Ha4.size = α at hB ea
  clear hc o
  refine um_vput (pc := 25) (v := .ref Ha4.size) Cx hB.1 iX6 tyX6 tyX6_ok nmX6 rfl 8 (by decide) qF_X6_19 rfl rfl hin rfl (tyX6_ok 8 (by decide)) rfl rfl (by rw [um_bf_len]; exact Nat.le_of_ble_eq_true rfl) dX6_init_25 (fun Ha6 i he z2 o2 => ?_)
  have hB := hB.put (f := some (.inl 10)) rfl (fun q h => by cases h; exact ⟨_, rfl⟩) (by simp only [um_fv, ea]; exact he) o2
  have hS := hS.put (k := i) z2 o2 (Or.inl rfl)
  have hz : sz ≤ Ha6.size := by omega
  clear he o2 ea
  have hB := hB.skip rfl (by first | rfl | (rw [um_x0_row (by decide)]))
  have hB := hB.skip rfl (by first | rfl | (rw [um_x0_row (by decide)]))
  have hB := hB.skip rfl (by first | rfl | (rw [um_x0_row (by decide)]))
  have hB := hB.skip rfl (by first | rfl | (rw [um_x0_row (by decide)]))
  have hB := hB.skip rfl (by first | rfl | (rw [um_x0_row (by decide)]))
  have hB := hB.skip rfl (by first | rfl | (rw [um_x0_row (by decide)]))
  refine W.widen (k := 3) (n := 288) (Nat.le_of_ble_eq_true rfl) (Nat.le_of_ble_eq_true rfl) ?_
  exact um_kret (pc := 28) Cx (hB.out (Nat.le_refl _) rfl hb0 um_x0_ref (shP_F (by decide)) (shP_cl (by decide))) hS dX6_init_28
set_option maxRecDepth 100000 in
set_option maxHeartbeats 4000000 in
theorem c_X0_init_5 : um_K l yX0_init cX0_init 1 1 30 2 20 Z h0 0 [.null, .null, .int 0, .int 0] [] sz (um_KB Z (shP [5, 11, 12]) 5 h0 sz um_x0) := by
  refine um_kstart (by decide) rfl (Nat.le_of_ble_eq_true rfl) ?_
  intro p e s m below meth c ls Cx hin hsz hb0 hbs hat hl
  have hx := Cx.1
  have hb := Cx.2.1
  have hl : lv_has ls 1 [(0, .ref h0)] := hl
  have hlt : h0 < sz := hsz ▸ hat.lt
  have hAo : ∀ x, um_KD h0 sz x → um_old Z x := fun x hx => hx.elim (fun h => h ▸ hb0) (fun h => Nat.le_trans hbs h)
  have hB : um_B Z h0 0 5 [some (.inl 11), some (.inl 12), none, none] 0 um_x0 sz (fun _ => none) (fun _ => 0) s.heap := um_B.nil hat rfl hlt um_x0_ref
  have hz : sz ≤ s.heap.size := Nat.le_of_eq hsz.symm
  clear hat
  obtain ⟨H0, hHe⟩ : ∃ H, H = s.heap := ⟨_, rfl⟩
  have hS : va_S (um_KD h0 sz) s.heap H0 [] := by rw [hHe]; exact va_S.rf
  rw [← hHe] at hB hz ⊢
  generalize ([] : List Loc) = locs at hS ⊢
  generalize (fun _ => 0 : Nat → Nat) = α at hB
  refine lv_aload_n (pc := 0) hx hb dX0_init_0 rfl (lv_at hl 0 rfl) ?_
  refine um_kobj (pc := 1) Cx hl qM_X0_3 (Nat.le_of_ble_eq_true rfl) (Nat.le_of_ble_eq_true rfl) dX0_init_1 ?_
  refine lv_aload_n (pc := 4) hx hb dX0_init_4 rfl (lv_at hl 0 rfl) ?_
  refine lv_bipush (pc := 5) (v := (14 : Int32)) hx hb dX0_init_5 (by decide) ?_
  refine um_vnewi (pc := 7) (N := 14) Cx (by decide) (by decide) (by decide) (Nat.le_of_ble_eq_true rfl) (Nat.le_of_ble_eq_true rfl) dX0_init_7 (fun Ha1 hc z o => ?_)
  have hB := hB.arr (q := 11) (t := 0) (N := 14) rfl hbs hz (by decide) (um_x0_row (by decide)) hc o
  have hS := hS.push (by omega) o
  have hz : sz ≤ Ha1.size := by omega
  have ea : um_ax α 11 H0.size 11 = H0.size := um_ax_eq _ _ _
  generalize um_ax α 11 H0.size = α at hB ea
  clear hc o
  refine um_vput (pc := 9) (v := .ref H0.size) Cx hB.1 iX0 tyX0 tyX0_ok nmX0 rfl 0 (by decide) qF_X0_9 rfl rfl hin rfl (tyX0_ok 0 (by decide)) rfl rfl (by rw [um_bf_len]; exact Nat.le_of_ble_eq_true rfl) dX0_init_9 (fun Ha2 i he z2 o2 => ?_)
  have hB := hB.put (f := some (.inl 11)) rfl (fun q h => by cases h; exact ⟨_, rfl⟩) (by simp only [um_fv, ea]; exact he) o2
  have hS := hS.put (k := i) z2 o2 (Or.inl rfl)
  have hz : sz ≤ Ha2.size := by omega
  clear he o2 ea
  refine lv_aload_n (pc := 12) hx hb dX0_init_12 rfl (lv_at hl 0 rfl) ?_
  refine lv_bipush (pc := 13) (v := (6 : Int32)) hx hb dX0_init_13 (by decide) ?_
  refine um_vnewi (pc := 15) (N := 6) Cx (by decide) (by decide) (by decide) (Nat.le_of_ble_eq_true rfl) (Nat.le_of_ble_eq_true rfl) dX0_init_15 (fun Ha3 hc z o => ?_)
  have hB := hB.arr (q := 12) (t := 0) (N := 6) rfl hbs hz (by decide) (um_x0_row (by decide)) hc o
  have hS := hS.push (by omega) o
  have hz : sz ≤ Ha3.size := by omega
  have ea : um_ax α 12 Ha2.size 12 = Ha2.size := um_ax_eq _ _ _
  generalize um_ax α 12 Ha2.size = α at hB ea
  clear hc o
  refine um_vput (pc := 17) (v := .ref Ha2.size) Cx hB.1 iX0 tyX0 tyX0_ok nmX0 rfl 1 (by decide) qF_X0_15 rfl rfl hin rfl (tyX0_ok 1 (by decide)) rfl rfl (by rw [um_bf_len]; exact Nat.le_of_ble_eq_true rfl) dX0_init_17 (fun Ha4 i he z2 o2 => ?_)
  have hB := hB.put (f := some (.inl 12)) rfl (fun q h => by cases h; exact ⟨_, rfl⟩) (by simp only [um_fv, ea]; exact he) o2
  have hS := hS.put (k := i) z2 o2 (Or.inl rfl)
  have hz : sz ≤ Ha4.size := by omega
  clear he o2 ea
  have hB := hB.skip rfl (by first | rfl | (rw [um_x0_row (by decide)]))
  have hB := hB.skip rfl (by first | rfl | (rw [um_x0_row (by decide)]))
  refine W.widen (k := 2) (n := 20) (Nat.le_of_ble_eq_true rfl) (Nat.le_of_ble_eq_true rfl) ?_
  exact um_kret (pc := 20) Cx (hB.out (Nat.le_refl _) rfl hb0 um_x0_ref (shP_F (by decide)) (shP_cl (by decide))) hS dX0_init_20
set_option maxRecDepth 100000 in
set_option maxHeartbeats 4000000 in
theorem c_X2_init_6 : um_K l yX2_init cX2_init 1 2 52 6 134 Z h0 2 [.null, .null, .null, .null] [] sz (um_KB Z (shP [6, 13, 14, 15, 16, 114, 115]) 6 h0 sz um_x0) := by
  refine um_kstart (by decide) rfl (Nat.le_of_ble_eq_true rfl) ?_
  intro p e s m below meth c ls Cx hin hsz hb0 hbs hat hl
  have hx := Cx.1
  have hb := Cx.2.1
  have hl : lv_has ls 1 [(0, .ref h0)] := hl
  have hlt : h0 < sz := hsz ▸ hat.lt
  have hAo : ∀ x, um_KD h0 sz x → um_old Z x := fun x hx => hx.elim (fun h => h ▸ hb0) (fun h => Nat.le_trans hbs h)
  have hB : um_B Z h0 2 6 [some (.inl 13), some (.inl 14), some (.inl 15), some (.inl 16)] 0 um_z0 sz (fun _ => none) (fun _ => 0) s.heap := um_B.nil hat rfl hlt (fun _ _ => rfl)
  have hz : sz ≤ s.heap.size := Nat.le_of_eq hsz.symm
  clear hat
  obtain ⟨H0, hHe⟩ : ∃ H, H = s.heap := ⟨_, rfl⟩
  have hS : va_S (um_KD h0 sz) s.heap H0 [] := by rw [hHe]; exact va_S.rf
  rw [← hHe] at hB hz ⊢
  generalize ([] : List Loc) = locs at hS ⊢
  generalize (fun _ => 0 : Nat → Nat) = α at hB
  refine lv_aload_n (pc := 0) hx hb dX2_init_0 rfl (lv_at hl 0 rfl) ?_
  refine um_kobj (pc := 1) Cx hl qM_X2_3 (Nat.le_of_ble_eq_true rfl) (Nat.le_of_ble_eq_true rfl) dX2_init_1 ?_
  refine lv_aload_n (pc := 4) hx hb dX2_init_4 rfl (lv_at hl 0 rfl) ?_
  refine lv_iconst (pc := 5) (v := (4 : Int32)) hx hb dX2_init_5 (by decide) ?_
  refine um_vnewi (pc := 6) (N := 4) Cx (by decide) (by decide) (by decide) (Nat.le_of_ble_eq_true rfl) (Nat.le_of_ble_eq_true rfl) dX2_init_6 (fun Ha1 hc z o => ?_)
  have hB := hB.arr (q := 13) (t := 0) (N := 4) rfl hbs hz (by decide) rfl hc o
  have hS := hS.push (by omega) o
  have hz : sz ≤ Ha1.size := by omega
  have ea : um_ax α 13 H0.size 13 = H0.size := um_ax_eq _ _ _
  generalize um_ax α 13 H0.size = α at hB ea
  clear hc o
  refine lv_dup (pc := 8) hx hb dX2_init_8 rfl ?_
  refine lv_iconst (pc := 9) (v := (0 : Int32)) hx hb dX2_init_9 (by decide) ?_
  refine lv_iconst (pc := 10) (v := (-1 : Int32)) hx hb dX2_init_10 (by decide) ?_
  rw [← ea]
  refine um_kst (pc := 11) (j := 0) (n := 4) (q := 13) hB hS (by decide) Cx rfl (um_ix_in (by decide)) rfl dX2_init_11 (fun Ha2 locs hB hS z => ?_)
  rw [ea]
  have hz : sz ≤ Ha2.size := by omega
  refine lv_dup (pc := 12) hx hb dX2_init_12 rfl ?_
  refine lv_iconst (pc := 13) (v := (1 : Int32)) hx hb dX2_init_13 (by decide) ?_
  refine lv_iconst (pc := 14) (v := (-1 : Int32)) hx hb dX2_init_14 (by decide) ?_
  rw [← ea]
  refine um_kst (pc := 15) (j := 1) (n := 4) (q := 13) hB hS (by decide) Cx rfl (um_ix_in (by decide)) rfl dX2_init_15 (fun Ha3 locs hB hS z => ?_)
  rw [ea]
  have hz : sz ≤ Ha3.size := by omega
  refine lv_dup (pc := 16) hx hb dX2_init_16 rfl ?_
  refine lv_iconst (pc := 17) (v := (2 : Int32)) hx hb dX2_init_17 (by decide) ?_
  refine lv_iconst (pc := 18) (v := (-1 : Int32)) hx hb dX2_init_18 (by decide) ?_
  rw [← ea]
  refine um_kst (pc := 19) (j := 2) (n := 4) (q := 13) hB hS (by decide) Cx rfl (um_ix_in (by decide)) rfl dX2_init_19 (fun Ha4 locs hB hS z => ?_)
  rw [ea]
  have hz : sz ≤ Ha4.size := by omega
  refine lv_dup (pc := 20) hx hb dX2_init_20 rfl ?_
  refine lv_iconst (pc := 21) (v := (3 : Int32)) hx hb dX2_init_21 (by decide) ?_
  refine lv_iconst (pc := 22) (v := (-1 : Int32)) hx hb dX2_init_22 (by decide) ?_
  rw [← ea]
  refine um_kst (pc := 23) (j := 3) (n := 4) (q := 13) hB hS (by decide) Cx rfl (um_ix_in (by decide)) rfl dX2_init_23 (fun Ha5 locs hB hS z => ?_)
  rw [ea]
  have hz : sz ≤ Ha5.size := by omega
  have hB : um_B Z h0 2 6 [some (.inl 13), some (.inl 14), some (.inl 15), some (.inl 16)] 0 um_x0 sz (um_sx (fun _ => none) 13 (.inl (0, some 4))) α Ha5 := hB
  refine um_vput (pc := 24) (v := .ref H0.size) Cx hB.1 iX2 tyX2 tyX2_ok nmX2 rfl 0 (by decide) qF_X2_11 rfl rfl hin rfl (tyX2_ok 0 (by decide)) rfl rfl (by rw [um_bf_len]; exact Nat.le_of_ble_eq_true rfl) dX2_init_24 (fun Ha6 i he z2 o2 => ?_)
  have hB := hB.put (f := some (.inl 13)) rfl (fun q h => by cases h; exact ⟨_, rfl⟩) (by simp only [um_fv, ea]; exact he) o2
  have hS := hS.put (k := i) z2 o2 (Or.inl rfl)
  have hz : sz ≤ Ha6.size := by omega
  clear he o2 ea
  refine lv_aload_n (pc := 27) hx hb dX2_init_27 rfl (lv_at hl 0 rfl) ?_
  refine um_vnew (pc := 28) (ci := 4) (fs := [.int 0, .null, .int 0]) Cx iX5 tyX5 tyX5_ok qCL_X2_15 qB_X5 qN_X5 rfl (fun j hj => by rcases (show j = 0 ∨ j = 1 ∨ j = 2 by omega) with rfl | rfl | rfl <;> rfl) (Nat.le_of_ble_eq_true rfl) (Nat.le_of_ble_eq_true rfl) dX2_init_28 (fun Ha7 hat2 zb ob => ?_)
  have hBb := hB.same ob
  have hSb := hS.push (by omega) ob
  have hz0 := hz
  have hzb : sz ≤ Ha7.size := by omega
  refine lv_dup (pc := 31) hx hb dX2_init_31 rfl ?_
  refine lv_iconst (pc := 32) (v := (1 : Int32)) hx hb dX2_init_32 (by decide) ?_
  refine lv_iconst (pc := 33) (v := (4 : Int32)) hx hb dX2_init_33 (by decide) ?_
  refine um_kcall (pc := 34) (As := [.int (1 : Int32), .int (4 : Int32)]) (rest := [.ref Ha6.size, .ref h0]) Cx (c_X5_init 14 (1 : Int32) (4 : Int32) ⟨by decide, by decide⟩ (by decide) (by decide) (by decide) (by decide)) kI_X5 (Or.inl qM_X2_17) hat2 rfl (Nat.le_trans hbs hz0) (by omega) hSb hAo (fun x hx => Or.inr (by rcases hx with rfl | hx <;> omega)) rfl hl rfl (Nat.le_of_ble_eq_true rfl) (Nat.le_of_ble_eq_true rfl) (Nat.le_of_ble_eq_true rfl) dX2_init_34 (Nat.le_of_ble_eq_true rfl) (Nat.le_of_ble_eq_true rfl) (fun Ha8 locs hKB zc oc hS => ?_)
  obtain ⟨α, ea, hB⟩ := hBb.sub hKB (shT_cl 14) hz0 (by omega) hB.lt (by omega) oc rfl ⟨_, rfl⟩ (shT_D rfl rfl) um_x0_ref
  have hz : sz ≤ Ha8.size := by omega
  clear hBb hKB oc hat2 ob
  refine um_vput (pc := 37) (v := .ref Ha6.size) Cx hB.1 iX2 tyX2 tyX2_ok nmX2 rfl 1 (by decide) qF_X2_20 rfl rfl hin rfl (tyX2_ok 1 (by decide)) rfl rfl (by rw [um_bf_len]; exact Nat.le_of_ble_eq_true rfl) dX2_init_37 (fun Ha9 i he z2 o2 => ?_)
  have hB := hB.put (f := some (.inl 14)) rfl (fun q h => by cases h; exact ⟨_, rfl⟩) (by simp only [um_fv, ea]; exact he) o2
  have hS := hS.put (k := i) z2 o2 (Or.inl rfl)
  have hz : sz ≤ Ha9.size := by omega
  clear he o2 ea
  refine lv_aload_n (pc := 40) hx hb dX2_init_40 rfl (lv_at hl 0 rfl) ?_
  refine um_vnew (pc := 41) (ci := 4) (fs := [.int 0, .null, .int 0]) Cx iX5 tyX5 tyX5_ok qCL_X2_15 qB_X5 qN_X5 rfl (fun j hj => by rcases (show j = 0 ∨ j = 1 ∨ j = 2 by omega) with rfl | rfl | rfl <;> rfl) (Nat.le_of_ble_eq_true rfl) (Nat.le_of_ble_eq_true rfl) dX2_init_41 (fun Ha10 hat2 zb ob => ?_)
  have hBb := hB.same ob
  have hSb := hS.push (by omega) ob
  have hz0 := hz
  have hzb : sz ≤ Ha10.size := by omega
  refine lv_dup (pc := 44) hx hb dX2_init_44 rfl ?_
  refine lv_bipush (pc := 45) (v := (24 : Int32)) hx hb dX2_init_45 (by decide) ?_
  refine lv_iconst (pc := 47) (v := (4 : Int32)) hx hb dX2_init_47 (by decide) ?_
  refine um_kcall (pc := 48) (As := [.int (24 : Int32), .int (4 : Int32)]) (rest := [.ref Ha9.size, .ref h0]) Cx (c_X5_init 15 (24 : Int32) (4 : Int32) ⟨by decide, by decide⟩ (by decide) (by decide) (by decide) (by decide)) kI_X5 (Or.inl qM_X2_17) hat2 rfl (Nat.le_trans hbs hz0) (by omega) hSb hAo (fun x hx => Or.inr (by rcases hx with rfl | hx <;> omega)) rfl hl rfl (Nat.le_of_ble_eq_true rfl) (Nat.le_of_ble_eq_true rfl) (Nat.le_of_ble_eq_true rfl) dX2_init_48 (Nat.le_of_ble_eq_true rfl) (Nat.le_of_ble_eq_true rfl) (fun Ha11 locs hKB zc oc hS => ?_)
  obtain ⟨α, ea, hB⟩ := hBb.sub hKB (shT_cl 15) hz0 (by omega) hB.lt (by omega) oc rfl ⟨_, rfl⟩ (shT_D rfl rfl) um_x0_ref
  have hz : sz ≤ Ha11.size := by omega
  clear hBb hKB oc hat2 ob
  refine um_vput (pc := 51) (v := .ref Ha9.size) Cx hB.1 iX2 tyX2 tyX2_ok nmX2 rfl 2 (by decide) qF_X2_24 rfl rfl hin rfl (tyX2_ok 2 (by decide)) rfl rfl (by rw [um_bf_len]; exact Nat.le_of_ble_eq_true rfl) dX2_init_51 (fun Ha12 i he z2 o2 => ?_)
  have hB := hB.put (f := some (.inl 15)) rfl (fun q h => by cases h; exact ⟨_, rfl⟩) (by simp only [um_fv, ea]; exact he) o2
  have hS := hS.put (k := i) z2 o2 (Or.inl rfl)
  have hz : sz ≤ Ha12.size := by omega
  clear he o2 ea
  refine lv_aload_n (pc := 54) hx hb dX2_init_54 rfl (lv_at hl 0 rfl) ?_
  refine lv_bipush (pc := 55) (v := (24 : Int32)) hx hb dX2_init_55 (by decide) ?_
  refine um_vnewi (pc := 57) (N := 24) Cx (by decide) (by decide) (by decide) (Nat.le_of_ble_eq_true rfl) (Nat.le_of_ble_eq_true rfl) dX2_init_57 (fun Ha13 hc z o => ?_)
  have hB := hB.arr (q := 16) (t := 0) (N := 24) rfl hbs hz (by decide) (um_x0_row (by decide)) hc o
  have hS := hS.push (by omega) o
  have hz : sz ≤ Ha13.size := by omega
  have ea : um_ax α 16 Ha12.size 16 = Ha12.size := um_ax_eq _ _ _
  generalize um_ax α 16 Ha12.size = α at hB ea
  clear hc o
  refine um_vput (pc := 59) (v := .ref Ha12.size) Cx hB.1 iX2 tyX2 tyX2_ok nmX2 rfl 3 (by decide) qF_X2_27 rfl rfl hin rfl (tyX2_ok 3 (by decide)) rfl rfl (by rw [um_bf_len]; exact Nat.le_of_ble_eq_true rfl) dX2_init_59 (fun Ha14 i he z2 o2 => ?_)
  have hB := hB.put (f := some (.inl 16)) rfl (fun q h => by cases h; exact ⟨_, rfl⟩) (by simp only [um_fv, ea]; exact he) o2
  have hS := hS.put (k := i) z2 o2 (Or.inl rfl)
  have hz : sz ≤ Ha14.size := by omega
  clear he o2 ea
  refine W.widen (k := 6) (n := 134) (Nat.le_of_ble_eq_true rfl) (Nat.le_of_ble_eq_true rfl) ?_
  exact um_kret (pc := 62) Cx (hB.out (Nat.le_refl _) rfl hb0 um_x0_ref (shP_F (by decide)) (shP_cl (by decide))) hS dX2_init_62
set_option maxRecDepth 100000 in
set_option maxHeartbeats 4000000 in
theorem c_X8_init_0 : um_K l yX8_init cX8_init 1 3 72 90 2910 Z h0 7 [.null, .null, .null, .int 0, .null, .null, .null, .null, .int 0] [] sz (um_KB Z (shP [0, 1, 2, 3, 4, 5, 6, 7, 8, 9, 10, 11, 12, 13, 14, 15, 16, 20, 21, 22, 23, 24, 25, 26, 27, 28, 29, 30, 31, 40, 41, 42, 43, 44, 45, 46, 47, 48, 49, 50, 51, 60, 61, 62, 63, 64, 65, 66, 67, 68, 69, 70, 71, 114, 115, 120, 121, 122, 123, 124, 125, 126, 127, 128, 129, 130, 131, 140, 141, 142, 143, 144, 145, 146, 147, 148, 149, 150, 151, 160, 161, 162, 163, 164, 165, 166, 167, 168, 169, 170, 171]) 0 h0 sz um_x0) := by
  refine um_kstart (by decide) rfl (Nat.le_of_ble_eq_true rfl) ?_
  intro p e s m below meth c ls Cx hin hsz hb0 hbs hat hl
  have hx := Cx.1
  have hb := Cx.2.1
  have hl : lv_has ls 1 [(0, .ref h0)] := hl
  have hlt : h0 < sz := hsz ▸ hat.lt
  have hAo : ∀ x, um_KD h0 sz x → um_old Z x := fun x hx => hx.elim (fun h => h ▸ hb0) (fun h => Nat.le_trans hbs h)
  have hB : um_B Z h0 7 0 [some (.inl 1), some (.inl 2), some (.inl 3), none, some (.inl 4), some (.inl 5), some (.inl 6), some (.inl 7), none] 0 um_x0 sz (fun _ => none) (fun _ => 0) s.heap := um_B.nil hat rfl hlt um_x0_ref
  have hz : sz ≤ s.heap.size := Nat.le_of_eq hsz.symm
  clear hat
  obtain ⟨H0, hHe⟩ : ∃ H, H = s.heap := ⟨_, rfl⟩
  have hS : va_S (um_KD h0 sz) s.heap H0 [] := by rw [hHe]; exact va_S.rf
  rw [← hHe] at hB hz ⊢
  generalize ([] : List Loc) = locs at hS ⊢
  generalize (fun _ => 0 : Nat → Nat) = α at hB
  refine lv_aload_n (pc := 0) hx hb dX8_init_0 rfl (lv_at hl 0 rfl) ?_
  refine um_kobj (pc := 1) Cx hl qM_X8_1 (Nat.le_of_ble_eq_true rfl) (Nat.le_of_ble_eq_true rfl) dX8_init_1 ?_
  refine lv_aload_n (pc := 4) hx hb dX8_init_4 rfl (lv_at hl 0 rfl) ?_
  refine um_vnew (pc := 5) (ci := 3) (fs := [.null, .null, .null, .null, .null, .null, .null, .null, .null, .null, .null, .null, .int 0, .int 0, .int 0]) Cx iX4 tyX4 tyX4_ok qCL_X8_7 qB_X4 qN_X4 rfl (fun j hj => by rcases (show j = 0 ∨ j = 1 ∨ j = 2 ∨ j = 3 ∨ j = 4 ∨ j = 5 ∨ j = 6 ∨ j = 7 ∨ j = 8 ∨ j = 9 ∨ j = 10 ∨ j = 11 ∨ j = 12 ∨ j = 13 ∨ j = 14 by omega) with rfl | rfl | rfl | rfl | rfl | rfl | rfl | rfl | rfl | rfl | rfl | rfl | rfl | rfl | rfl <;> rfl) (Nat.le_of_ble_eq_true rfl) (Nat.le_of_ble_eq_true rfl) dX8_init_5 (fun Ha1 hat2 zb ob => ?_)
  have hBb := hB.same ob
  have hSb := hS.push (by omega) ob
  have hz0 := hz
  have hzb : sz ≤ Ha1.size := by omega
  refine lv_dup (pc := 8) hx hb dX8_init_8 rfl ?_
  refine um_kcall (pc := 9) (As := []) (rest := [.ref H0.size, .ref h0]) Cx c_X4_init_1 kI_X4 (Or.inr ⟨_, qW_X8_9⟩) hat2 rfl (Nat.le_trans hbs hz0) (by omega) hSb hAo (fun x hx => Or.inr (by rcases hx with rfl | hx <;> omega)) rfl hl rfl (Nat.le_of_ble_eq_true rfl) (Nat.le_of_ble_eq_true rfl) (Nat.le_of_ble_eq_true rfl) dX8_init_9 (Nat.le_of_ble_eq_true rfl) (Nat.le_of_ble_eq_true rfl) (fun Ha2 locs hKB zc oc hS => ?_)
  obtain ⟨α, ea, hB⟩ := hBb.sub hKB (shP_cl (by decide)) hz0 (by omega) hB.lt (by omega) oc rfl ⟨_, rfl⟩ (shP_D (by decide)) um_x0_ref
  have hz : sz ≤ Ha2.size := by omega
  clear hBb hKB oc hat2 ob
  refine um_vput (pc := 12) (v := .ref H0.size) Cx hB.1 iX8 tyX8 tyX8_ok nmX8 rfl 0 (by decide) qF_X8_10 rfl rfl hin rfl (tyX8_ok 0 (by decide)) rfl rfl (by rw [um_bf_len]; exact Nat.le_of_ble_eq_true rfl) dX8_init_12 (fun Ha3 i he z2 o2 => ?_)
  have hB := hB.put (f := some (.inl 1)) rfl (fun q h => by cases h; exact ⟨_, rfl⟩) (by simp only [um_fv, ea]; exact he) o2
  have hS := hS.put (k := i) z2 o2 (Or.inl rfl)
  have hz : sz ≤ Ha3.size := by omega
  clear he o2 ea
  refine lv_aload_n (pc := 15) hx hb dX8_init_15 rfl (lv_at hl 0 rfl) ?_
  refine um_vnew (pc := 16) (ci := 3) (fs := [.null, .null, .null, .null, .null, .null, .null, .null, .null, .null, .null, .null, .int 0, .int 0, .int 0]) Cx iX4 tyX4 tyX4_ok qCL_X8_7 qB_X4 qN_X4 rfl (fun j hj => by rcases (show j = 0 ∨ j = 1 ∨ j = 2 ∨ j = 3 ∨ j = 4 ∨ j = 5 ∨ j = 6 ∨ j = 7 ∨ j = 8 ∨ j = 9 ∨ j = 10 ∨ j = 11 ∨ j = 12 ∨ j = 13 ∨ j = 14 by omega) with rfl | rfl | rfl | rfl | rfl | rfl | rfl | rfl | rfl | rfl | rfl | rfl | rfl | rfl | rfl <;> rfl) (Nat.le_of_ble_eq_true rfl) (Nat.le_of_ble_eq_true rfl) dX8_init_16 (fun Ha4 hat2 zb ob => ?_)
  have hBb := hB.same ob
  have hSb := hS.push (by omega) ob
  have hz0 := hz
  have hzb : sz ≤ Ha4.size := by omega
  refine lv_dup (pc := 19) hx hb dX8_init_19 rfl ?_
  refine um_kcall (pc := 20) (As := []) (rest := [.ref Ha3.size, .ref h0]) Cx c_X4_init_2 kI_X4 (Or.inr ⟨_, qW_X8_9⟩) hat2 rfl (Nat.le_trans hbs hz0) (by omega) hSb hAo (fun x hx => Or.inr (by rcases hx with rfl | hx <;> omega)) rfl hl rfl (Nat.le_of_ble_eq_true rfl) (Nat.le_of_ble_eq_true rfl) (Nat.le_of_ble_eq_true rfl) dX8_init_20 (Nat.le_of_ble_eq_true rfl) (Nat.le_of_ble_eq_true rfl) (fun Ha5 locs hKB zc oc hS => ?_)
  obtain ⟨α, ea, hB⟩ := hBb.sub hKB (shP_cl (by decide)) hz0 (by omega) hB.lt (by omega) oc rfl ⟨_, rfl⟩ (shP_D (by decide)) um_x0_ref
  have hz : sz ≤ Ha5.size := by omega
  clear hBb hKB oc hat2 ob
  refine um_vput (pc := 23) (v := .ref Ha3.size) Cx hB.1 iX8 tyX8 tyX8_ok nmX8 rfl 1 (by decide) qF_X8_16 rfl rfl hin rfl (tyX8_ok 1 (by decide)) rfl rfl (by rw [um_bf_len]; exact Nat.le_of_ble_eq_true rfl) dX8_init_23 (fun Ha6 i he z2 o2 => ?_)
  have hB := hB.put (f := some (.inl 2)) rfl (fun q h => by cases h; exact ⟨_, rfl⟩) (by simp only [um_fv, ea]; exact he) o2
  have hS := hS.put (k := i) z2 o2 (Or.inl rfl)
  have hz : sz ≤ Ha6.size := by omega
  clear he o2 ea
  refine lv_aload_n (pc := 26) hx hb dX8_init_26 rfl (lv_at hl 0 rfl) ?_
  refine um_vnew (pc := 27) (ci := 3) (fs := [.null, .null, .null, .null, .null, .null, .null, .null, .null, .null, .null, .null, .int 0, .int 0, .int 0]) Cx iX4 tyX4 tyX4_ok qCL_X8_7 qB_X4 qN_X4 rfl (fun j hj => by rcases (show j = 0 ∨ j = 1 ∨ j = 2 ∨ j = 3 ∨ j = 4 ∨ j = 5 ∨ j = 6 ∨ j = 7 ∨ j = 8 ∨ j = 9 ∨ j = 10 ∨ j = 11 ∨ j = 12 ∨ j = 13 ∨ j = 14 by omega) with rfl | rfl | rfl | rfl | rfl | rfl | rfl | rfl | rfl | rfl | rfl | rfl | rfl | rfl | rfl <;> rfl) (Nat.le_of_ble_eq_true rfl) (Nat.le_of_ble_eq_true rfl) dX8_init_27 (fun Ha7 hat2 zb ob => ?_)
  have hBb := hB.same ob
  have hSb := hS.push (by omega) ob
  have hz0 := hz
  have hzb : sz ≤ Ha7.size := by omega
  refine lv_dup (pc := 30) hx hb dX8_init_30 rfl ?_
  refine um_kcall (pc := 31) (As := []) (rest := [.ref Ha6.size, .ref h0]) Cx c_X4_init_3 kI_X4 (Or.inr ⟨_, qW_X8_9⟩) hat2 rfl (Nat.le_trans hbs hz0) (by omega) hSb hAo (fun x hx => Or.inr (by rcases hx with rfl | hx <;> omega)) rfl hl rfl (Nat.le_of_ble_eq_true rfl) (Nat.le_of_ble_eq_true rfl) (Nat.le_of_ble_eq_true rfl) dX8_init_31 (Nat.le_of_ble_eq_true rfl) (Nat.le_of_ble_eq_true rfl) (fun Ha8 locs hKB zc oc hS => ?_)
  obtain ⟨α, ea, hB⟩ := hBb.sub hKB (shP_cl (by decide)) hz0 (by omega) hB.lt (by omega) oc rfl ⟨_, rfl⟩ (shP_D (by decide)) um_x0_ref
  have hz : sz ≤ Ha8.size := by omega
  clear hBb hKB oc hat2 ob
  refine um_vput (pc := 34) (v := .ref Ha6.size) Cx hB.1 iX8 tyX8 tyX8_ok nmX8 rfl 2 (by decide) qF_X8_19 rfl rfl hin rfl (tyX8_ok 2 (by decide)) rfl rfl (by rw [um_bf_len]; exact Nat.le_of_ble_eq_true rfl) dX8_init_34 (fun Ha9 i he z2 o2 => ?_)
  have hB := hB.put (f := some (.inl 3)) rfl (fun q h => by cases h; exact ⟨_, rfl⟩) (by simp only [um_fv, ea]; exact he) o2
  have hS := hS.put (k := i) z2 o2 (Or.inl rfl)
  have hz : sz ≤ Ha9.size := by omega
  clear he o2 ea
  refine lv_aload_n (pc := 37) hx hb dX8_init_37 rfl (lv_at hl 0 rfl) ?_
  refine um_vnew (pc := 38) (ci := 5) (fs := [.null, .int 0, .int 0, .int 0, .int 0, .int 0, .int 0, .null, .null, .int 0, .int 0, .int 0, .int 0, .int 0, .int 0]) Cx iX6 tyX6 tyX6_ok qCL_X8_22 qB_X6 qN_X6 rfl (fun j hj => by rcases (show j = 0 ∨ j = 1 ∨ j = 2 ∨ j = 3 ∨ j = 4 ∨ j = 5 ∨ j = 6 ∨ j = 7 ∨ j = 8 ∨ j = 9 ∨ j = 10 ∨ j = 11 ∨ j = 12 ∨ j = 13 ∨ j = 14 by omega) with rfl | rfl | rfl | rfl | rfl | rfl | rfl | rfl | rfl | rfl | rfl | rfl | rfl | rfl | rfl <;> rfl) (Nat.le_of_ble_eq_true rfl) (Nat.le_of_ble_eq_true rfl) dX8_init_38 (fun Ha10 hat2 zb ob => ?_)
  have hBb := hB.same ob
  have hSb := hS.push (by omega) ob
  have hz0 := hz
  have hzb : sz ≤ Ha10.size := by omega
  refine lv_dup (pc := 41) hx hb dX8_init_41 rfl ?_
  refine um_kcall (pc := 42) (As := []) (rest := [.ref Ha9.size, .ref h0]) Cx c_X6_init_4 kI_X6 (Or.inr ⟨_, qW_X8_24⟩) hat2 rfl (Nat.le_trans hbs hz0) (by omega) hSb hAo (fun x hx => Or.inr (by rcases hx with rfl | hx <;> omega)) rfl hl rfl (Nat.le_of_ble_eq_true rfl) (Nat.le_of_ble_eq_true rfl) (Nat.le_of_ble_eq_true rfl) dX8_init_42 (Nat.le_of_ble_eq_true rfl) (Nat.le_of_ble_eq_true rfl) (fun Ha11 locs hKB zc oc hS => ?_)
  obtain ⟨α, ea, hB⟩ := hBb.sub hKB (shP_cl (by decide)) hz0 (by omega) hB.lt (by omega) oc rfl ⟨_, rfl⟩ (shP_D (by decide)) um_x0_ref
  have hz : sz ≤ Ha11.size := by omega
  clear hBb hKB oc hat2 ob
  have hB := hB.skip rfl (by first | rfl | (rw [um_x0_row (by decide)]))
  refine um_vput (pc := 45) (v := .ref Ha9.size) Cx hB.1 iX8 tyX8 tyX8_ok nmX8 rfl 4 (by decide) qF_X8_25 rfl rfl hin rfl (tyX8_ok 4 (by decide)) rfl rfl (by rw [um_bf_len]; exact Nat.le_of_ble_eq_true rfl) dX8_init_45 (fun Ha12 i he z2 o2 => ?_)
  have hB := hB.put (f := some (.inl 4)) rfl (fun q h => by cases h; exact ⟨_, rfl⟩) (by simp only [um_fv, ea]; exact he) o2
  have hS := hS.put (k := i) z2 o2 (Or.inl rfl)
  have hz : sz ≤ Ha12.size := by omega
  clear he o2 ea
  refine lv_aload_n (pc := 48) hx hb dX8_init_48 rfl (lv_at hl 0 rfl) ?_
  refine um_vnew (pc := 49) (ci := 0) (fs := [.null, .null, .int 0, .int 0]) Cx iX0 tyX0 tyX0_ok qCL_X8_29 qB_X0 qN_X0 rfl (fun j hj => by rcases (show j = 0 ∨ j = 1 ∨ j = 2 ∨ j = 3 by omega) with rfl | rfl | rfl | rfl <;> rfl) (Nat.le_of_ble_eq_true rfl) (Nat.le_of_ble_eq_true rfl) dX8_init_49 (fun Ha13 hat2 zb ob => ?_)
  have hBb := hB.same ob
  have hSb := hS.push (by omega) ob
  have hz0 := hz
  have hzb : sz ≤ Ha13.size := by omega
  refine lv_dup (pc := 52) hx hb dX8_init_52 rfl ?_
  refine um_kcall (pc := 53) (As := []) (rest := [.ref Ha12.size, .ref h0]) Cx c_X0_init_5 kI_X0 (Or.inr ⟨_, qW_X8_31⟩) hat2 rfl (Nat.le_trans hbs hz0) (by omega) hSb hAo (fun x hx => Or.inr (by rcases hx with rfl | hx <;> omega)) rfl hl rfl (Nat.le_of_ble_eq_true rfl) (Nat.le_of_ble_eq_true rfl) (Nat.le_of_ble_eq_true rfl) dX8_init_53 (Nat.le_of_ble_eq_true rfl) (Nat.le_of_ble_eq_true rfl) (fun Ha14 locs hKB zc oc hS => ?_)
  obtain ⟨α, ea, hB⟩ := hBb.sub hKB (shP_cl (by decide)) hz0 (by omega) hB.lt (by omega) oc rfl ⟨_, rfl⟩ (shP_D (by decide)) um_x0_ref
  have hz : sz ≤ Ha14.size := by omega
  clear hBb hKB oc hat2 ob
  refine um_vput (pc := 56) (v := .ref Ha12.size) Cx hB.1 iX8 tyX8 tyX8_ok nmX8 rfl 5 (by decide) qF_X8_32 rfl rfl hin rfl (tyX8_ok 5 (by decide)) rfl rfl (by rw [um_bf_len]; exact Nat.le_of_ble_eq_true rfl) dX8_init_56 (fun Ha15 i he z2 o2 => ?_)
  have hB := hB.put (f := some (.inl 5)) rfl (fun q h => by cases h; exact ⟨_, rfl⟩) (by simp only [um_fv, ea]; exact he) o2
  have hS := hS.put (k := i) z2 o2 (Or.inl rfl)
  have hz : sz ≤ Ha15.size := by omega
  clear he o2 ea
  refine lv_aload_n (pc := 59) hx hb dX8_init_59 rfl (lv_at hl 0 rfl) ?_
  refine um_vnew (pc := 60) (ci := 2) (fs := [.null, .null, .null, .null]) Cx iX2 tyX2 tyX2_ok qCL_X8_36 qB_X2 qN_X2 rfl (fun j hj => by rcases (show j = 0 ∨ j = 1 ∨ j = 2 ∨ j = 3 by omega) with rfl | rfl | rfl | rfl <;> rfl) (Nat.le_of_ble_eq_true rfl) (Nat.le_of_ble_eq_true rfl) dX8_init_60 (fun Ha16 hat2 zb ob => ?_)
  have hBb := hB.same ob
  have hSb := hS.push (by omega) ob
  have hz0 := hz
  have hzb : sz ≤ Ha16.size := by omega
  refine lv_dup (pc := 63) hx hb dX8_init_63 rfl ?_
  refine um_kcall (pc := 64) (As := []) (rest := [.ref Ha15.size, .ref h0]) Cx c_X2_init_6 kI_X2 (Or.inr ⟨_, qW_X8_38⟩) hat2 rfl (Nat.le_trans hbs hz0) (by omega) hSb hAo (fun x hx => Or.inr (by rcases hx with rfl | hx <;> omega)) rfl hl rfl (Nat.le_of_ble_eq_true rfl) (Nat.le_of_ble_eq_true rfl) (Nat.le_of_ble_eq_true rfl) dX8_init_64 (Nat.le_of_ble_eq_true rfl) (Nat.le_of_ble_eq_true rfl) (fun Ha17 locs hKB zc oc hS => ?_)
  obtain ⟨α, ea, hB⟩ := hBb.sub hKB (shP_cl (by decide)) hz0 (by omega) hB.lt (by omega) oc rfl ⟨_, rfl⟩ (shP_D (by decide)) um_x0_ref
  have hz : sz ≤ Ha17.size := by omega
  clear hBb hKB oc hat2 ob
  refine um_vput (pc := 67) (v := .ref Ha15.size) Cx hB.1 iX8 tyX8 tyX8_ok nmX8 rfl 6 (by decide) qF_X8_39 rfl rfl hin rfl (tyX8_ok 6 (by decide)) rfl rfl (by rw [um_bf_len]; exact Nat.le_of_ble_eq_true rfl) dX8_init_67 (fun Ha18 i he z2 o2 => ?_)
  have hB := hB.put (f := some (.inl 6)) rfl (fun q h => by cases h; exact ⟨_, rfl⟩) (by simp only [um_fv, ea]; exact he) o2
  have hS := hS.put (k := i) z2 o2 (Or.inl rfl)
  have hz : sz ≤ Ha18.size := by omega
  clear he o2 ea
  refine lv_aload_n (pc := 70) hx hb dX8_init_70 rfl (lv_at hl 0 rfl) ?_
  refine lv_bipush (pc := 71) (v := (60 : Int32)) hx hb dX8_init_71 (by decide) ?_
  refine um_vnewi (pc := 73) (N := 60) Cx (by decide) (by decide) (by decide) (Nat.le_of_ble_eq_true rfl) (Nat.le_of_ble_eq_true rfl) dX8_init_73 (fun Ha19 hc z o => ?_)
  have hB := hB.arr (q := 7) (t := 0) (N := 60) rfl hbs hz (by decide) (um_x0_row (by decide)) hc o
  have hS := hS.push (by omega) o
  have hz : sz ≤ Ha19.size := by omega
  have ea : um_ax α 7 Ha18.size 7 = Ha18.size := um_ax_eq _ _ _
  generalize um_ax α 7 Ha18.size = α at hB ea
  clear hc o
  refine um_vput (pc := 75) (v := .ref Ha18.size) Cx hB.1 iX8 tyX8 tyX8_ok nmX8 rfl 7 (by decide) qF_X8_43 rfl rfl hin rfl (tyX8_ok 7 (by decide)) rfl rfl (by rw [um_bf_len]; exact Nat.le_of_ble_eq_true rfl) dX8_init_75 (fun Ha20 i he z2 o2 => ?_)
  have hB := hB.put (f := some (.inl 7)) rfl (fun q h => by cases h; exact ⟨_, rfl⟩) (by simp only [um_fv, ea]; exact he) o2
  have hS := hS.put (k := i) z2 o2 (Or.inl rfl)
  have hz : sz ≤ Ha20.size := by omega
  clear he o2 ea
  have hB := hB.skip rfl (by first | rfl | (rw [um_x0_row (by decide)]))
  refine W.widen (k := 90) (n := 2910) (Nat.le_of_ble_eq_true rfl) (Nat.le_of_ble_eq_true rfl) ?_
  exact um_kret (pc := 78) Cx (hB.out (Nat.le_refl _) rfl hb0 um_x0_ref (shP_F (by decide)) (shP_cl (by decide))) hS dX8_init_78
end CTS
