variable {p : Program} {l : Launch} {e : Env} {s : State} {m : MethodId} {args : Array Value} {below : List Frame} {meth : Method} {c : Code} {Z : um_Z} {α : Nat → Nat} {sh : Nat → Option um_Sh}
noncomputable def f_X1_rule (h0 : Nat) (a1 : Int32) (a2 : Int32) (a3 : Int32) (a4 : Int32) (a5 : Int32) (σ : um_S) : Option (Int32 × um_S) :=
    (f_X1_counting h0 a1 a2 σ).bind fun x2 =>
    ((f_X1_textAt h0 x2 σ).bind fun x4 =>
    (um_opt x4
    ((f_X1_unwritten a1 a3 σ).bind fun x8 =>
    (if a1 = (2 : Int32) then
    ((f_X1_held x8 (99 : Int32) σ).bind fun x10 =>
    (some (x10, σ)))
    else
    (if a1 = (3 : Int32) then
    ((f_X1_held x8 (100 : Int32) σ).bind fun x12 =>
    (some (x12, σ)))
    else
    (if a1 = (4 : Int32) then
    ((f_X1_held x8 a3 σ).bind fun x14 =>
    (some (x14, σ)))
    else
    (some (x8, σ))))))
    fun q5 =>
    (um_b2 (f_X7_value q5 a3 a4 a5 σ) fun x17 σ16 =>
    (if a1 = (2 : Int32) then
    ((f_X1_held x17 (99 : Int32) σ16).bind fun x19 =>
    (some (x19, σ16)))
    else
    (if a1 = (3 : Int32) then
    ((f_X1_held x17 (100 : Int32) σ16).bind fun x21 =>
    (some (x21, σ16)))
    else
    (if a1 = (4 : Int32) then
    ((f_X1_held x17 a3 σ16).bind fun x23 =>
    (some (x23, σ16)))
    else
    (some (x17, σ16))))))))
set_option maxRecDepth 100000 in
set_option maxHeartbeats 4000000 in
theorem b_X1_rule {H : Heap} {locs : List Loc} {ls : Array Slot} {σ : um_S} {σ' : um_S} {r : Int32} (h0 : Nat) (a1 : Int32) (a2 : Int32) (a3 : Int32) (a4 : Int32) (a5 : Int32) (hh0 : um_h h0) (hX : um_X sh) (hf : f_X1_rule h0 a1 a2 a3 a4 a5 σ = some (r, σ')) (Cx : um_C p s m meth c args cX1_rule 8 (some FieldType.int) RX1 Z) (hW : um_W Z sh α σ H) (hS : va_S (um_D sh α) s.heap H locs) (hl : lv_has ls 8 [(0, .ref (α (20 * h0 + 11))), (1, .int a1), (2, .int a2), (3, .int a3), (4, .int a4), (5, .int a5)]) : um_G p l e (2) (51) s m args below meth c Z sh α σ' (some (.int r)) H locs (F0 m 0 ls []) := by
  have hx := Cx.1
  have hb := Cx.2.1
  have hown := Cx.2.2.2.2.1
  have hts := Cx.2.2.2.2.2.1
  rw [f_X1_rule] at hf
  refine lv_aload_n (pc := 0) hx hb dX1_rule_0 rfl (lv_at hl 0 rfl) ?_
  refine lv_aload_n (pc := 1) hx hb dX1_rule_1 rfl (lv_at hl 0 rfl) ?_
  refine lv_iload_n (pc := 2) hx hb dX1_rule_2 rfl (lv_at hl 1 rfl) ?_
  refine lv_iload_n (pc := 3) hx hb dX1_rule_3 rfl (lv_at hl 2 rfl) ?_
  obtain ⟨x2, hc1, hf⟩ := um_bi hf
  refine um_cVi (pc := 4) (As := [.int a1, .int a2]) (rest := [.ref (α (20 * h0 + 11))]) Cx (c_X1_counting h0 a1 a2 hh0 hX hc1) kV_X1_counting (Or.inl qM_X1_32) hW hS (xs_law hX hh0) rfl rfl hl rfl (Nat.le_of_ble_eq_true rfl) (Nat.le_of_ble_eq_true rfl) (Nat.le_of_ble_eq_true rfl) dX1_rule_4 (Nat.le_refl _) (Nat.le_refl _) ?_
  clear hW hS hc1
  intro H locs hW hS
  obtain ⟨x4, hc3, hf⟩ := um_bi hf
  refine um_cVr (pc := 7) (As := [.int x2]) (rest := []) Cx (c_X1_textAt h0 x2 hh0 hX hc3) kV_X1_textAt (Or.inl qM_X1_22) hW hS (xs_law hX hh0) rfl rfl hl rfl (Nat.le_of_ble_eq_true rfl) (Nat.le_of_ble_eq_true rfl) (Nat.le_of_ble_eq_true rfl) dX1_rule_7 (Nat.le_refl _) (Nat.le_refl _) ?_
  clear hW hS
  intro H locs hW hS
  have hq4 : ∀ q, x4 = some q → um_txt sh q := fun q h => f_X1_textAt_txt hW (by rw [h] at hc3; exact hc3)
  clear hc3
  refine um_astore (pc := 10) (lv' := [(6, va_rf (Option.map α x4)), (0, .ref (α (20 * h0 + 11))), (1, .int a1), (2, .int a2), (3, .int a3), (4, .int a4), (5, .int a5)]) hx hb dX1_rule_10 hl (by decide) rfl ?_
  clear hl
  intro ls hl
  rcases x4 with _ | q5
  · have hf := um_oN hf
    have hl : lv_has ls 8 [(6, .null), (0, .ref (α (20 * h0 + 11))), (1, .int a1), (2, .int a2), (3, .int a3), (4, .int a4), (5, .int a5)] := hl
    refine lv_aloadN (pc := 12)  hx hb dX1_rule_12 (lv_at hl 0 rfl) ?_
    refine lv_ifnonnullN (pc := 14) hx hb dX1_rule_14 ?_
    refine lv_iload_n (pc := 17) hx hb dX1_rule_17 rfl (lv_at hl 2 rfl) ?_
    refine lv_iload_n (pc := 18) hx hb dX1_rule_18 rfl (lv_at hl 4 rfl) ?_
    obtain ⟨x8, hc7, hf⟩ := um_bi hf
    refine um_cSi (pc := 19) (As := [.int a1, .int a3]) (rest := []) Cx (c_X1_unwritten a1 a3 hX hc7) kS_X1_unwritten (Or.inl qM_X1_36) hW hS rfl hl rfl (Nat.le_of_ble_eq_true rfl) (Nat.le_of_ble_eq_true rfl) (Nat.le_of_ble_eq_true rfl) dX1_rule_19 (Nat.le_refl _) (Nat.le_refl _) ?_
    clear hW hS hc7
    intro H locs hW hS
    refine lv_goto (pc := 22) (tgt := 35) hx hb dX1_rule_22 (by decide) ?_
    refine lv_istore (pc := 35) (lv' := [(7, .int x8), (6, .null), (0, .ref (α (20 * h0 + 11))), (1, .int a1), (2, .int a2), (3, .int a3), (4, .int a4), (5, .int a5)]) hx hb dX1_rule_35 hl (by decide) rfl ?_
    clear hl
    intro ls hl
    refine lv_iload_n (pc := 37) hx hb dX1_rule_37 rfl (lv_at hl 3 rfl) ?_
    by_cases c1 : a1 = (2 : Int32)
    · have hf := um_it c1 hf
      refine lv_tableIn (pc := 38) (tgt := 64) hx hb dX1_rule_38 (by rw [c1]; decide) (by rw [c1]; decide) (by rw [c1]; rfl) (by decide) ?_
      refine lv_iload (pc := 64) hx hb dX1_rule_64 (lv_at hl 0 rfl) ?_
      refine lv_bipush (pc := 66) (v := (99 : Int32)) hx hb dX1_rule_66 (by decide) ?_
      obtain ⟨x10, hc9, hf⟩ := um_bi hf
      refine um_cSi (pc := 68) (As := [.int x8, .int (99 : Int32)]) (rest := []) Cx (c_X1_held x8 (99 : Int32) hX hc9) kS_X1_held (Or.inl qM_X1_43) hW hS rfl hl rfl (Nat.le_of_ble_eq_true rfl) (Nat.le_of_ble_eq_true rfl) (Nat.le_of_ble_eq_true rfl) dX1_rule_68 (Nat.le_refl _) (Nat.le_refl _) ?_
      clear hW hS hc9
      intro H locs hW hS
      exact um_iret (pc := 71) Cx hW hS hf dX1_rule_71
    have hf := um_ie c1 hf
    by_cases c2 : a1 = (3 : Int32)
    · have hf := um_it c2 hf
      refine lv_tableIn (pc := 38) (tgt := 72) hx hb dX1_rule_38 (by rw [c2]; decide) (by rw [c2]; decide) (by rw [c2]; rfl) (by decide) ?_
      refine lv_iload (pc := 72) hx hb dX1_rule_72 (lv_at hl 0 rfl) ?_
      refine lv_bipush (pc := 74) (v := (100 : Int32)) hx hb dX1_rule_74 (by decide) ?_
      obtain ⟨x12, hc11, hf⟩ := um_bi hf
      refine um_cSi (pc := 76) (As := [.int x8, .int (100 : Int32)]) (rest := []) Cx (c_X1_held x8 (100 : Int32) hX hc11) kS_X1_held (Or.inl qM_X1_43) hW hS rfl hl rfl (Nat.le_of_ble_eq_true rfl) (Nat.le_of_ble_eq_true rfl) (Nat.le_of_ble_eq_true rfl) dX1_rule_76 (Nat.le_refl _) (Nat.le_refl _) ?_
      clear hW hS hc11
      intro H locs hW hS
      exact um_iret (pc := 79) Cx hW hS hf dX1_rule_79
    have hf := um_ie c2 hf
    by_cases c3 : a1 = (4 : Int32)
    · have hf := um_it c3 hf
      refine lv_tableIn (pc := 38) (tgt := 80) hx hb dX1_rule_38 (by rw [c3]; decide) (by rw [c3]; decide) (by rw [c3]; rfl) (by decide) ?_
      refine lv_iload (pc := 80) hx hb dX1_rule_80 (lv_at hl 0 rfl) ?_
      refine lv_iload_n (pc := 82) hx hb dX1_rule_82 rfl (lv_at hl 5 rfl) ?_
      obtain ⟨x14, hc13, hf⟩ := um_bi hf
      refine um_cSi (pc := 83) (As := [.int x8, .int a3]) (rest := []) Cx (c_X1_held x8 a3 hX hc13) kS_X1_held (Or.inl qM_X1_43) hW hS rfl hl rfl (Nat.le_of_ble_eq_true rfl) (Nat.le_of_ble_eq_true rfl) (Nat.le_of_ble_eq_true rfl) dX1_rule_83 (Nat.le_refl _) (Nat.le_refl _) ?_
      clear hW hS hc13
      intro H locs hW hS
      exact um_iret (pc := 86) Cx hW hS hf dX1_rule_86
    have hf := um_ie c3 hf
    have ho : a1.toInt < 2 ∨ 4 < a1.toInt := um_tabO (lo := 2) (hi := 4) (fun z z1 z2 => by
      rcases (show z = 2 ∨ z = 3 ∨ z = 4 by omega) with rfl | rfl | rfl
      · exact c1
      · exact c2
      · exact c3)
    refine lv_tableOut (pc := 38) (tgt := 87) hx hb dX1_rule_38 ho (by decide) ?_
    refine lv_iload (pc := 87) hx hb dX1_rule_87 (lv_at hl 0 rfl) ?_
    exact um_iret (pc := 89) Cx hW hS hf dX1_rule_89
  · have hf := um_oS hf
    have hq6 := hq4 q5 rfl
    have hl : lv_has ls 8 [(6, .ref (α q5)), (0, .ref (α (20 * h0 + 11))), (1, .int a1), (2, .int a2), (3, .int a3), (4, .int a4), (5, .int a5)] := hl
    refine lv_aload (pc := 12) hx hb dX1_rule_12 (lv_at hl 0 rfl) ?_
    refine lv_ifnonnull (pc := 14) (tgt := 25) hx hb dX1_rule_14 (by decide) ?_
    refine lv_aload (pc := 25) hx hb dX1_rule_25 (lv_at hl 0 rfl) ?_
    refine lv_iload_n (pc := 27) hx hb dX1_rule_27 rfl (lv_at hl 4 rfl) ?_
    refine lv_iload (pc := 28) hx hb dX1_rule_28 (lv_at hl 5 rfl) ?_
    refine lv_iload (pc := 30) hx hb dX1_rule_30 (lv_at hl 6 rfl) ?_
    obtain ⟨x17, σ16, hc15, hf⟩ := um_bi2 hf
    refine um_cVi (pc := 32) (As := [.int a3, .int a4, .int a5]) (rest := []) Cx (c_X7_value q5 a3 a4 a5 hq6 hX hc15) kV_X7_value (Or.inl qM_X1_39) hW hS hq6.1 rfl rfl hl rfl (Nat.le_of_ble_eq_true rfl) (Nat.le_of_ble_eq_true rfl) (Nat.le_of_ble_eq_true rfl) dX1_rule_32 (Nat.le_refl _) (Nat.le_refl _) ?_
    clear hW hS hc15
    intro H locs hW hS
    refine lv_istore (pc := 35) (lv' := [(7, .int x17), (6, .ref (α q5)), (0, .ref (α (20 * h0 + 11))), (1, .int a1), (2, .int a2), (3, .int a3), (4, .int a4), (5, .int a5)]) hx hb dX1_rule_35 hl (by decide) rfl ?_
    clear hl
    intro ls hl
    refine lv_iload_n (pc := 37) hx hb dX1_rule_37 rfl (lv_at hl 3 rfl) ?_
    by_cases c1 : a1 = (2 : Int32)
    · have hf := um_it c1 hf
      refine lv_tableIn (pc := 38) (tgt := 64) hx hb dX1_rule_38 (by rw [c1]; decide) (by rw [c1]; decide) (by rw [c1]; rfl) (by decide) ?_
      refine lv_iload (pc := 64) hx hb dX1_rule_64 (lv_at hl 0 rfl) ?_
      refine lv_bipush (pc := 66) (v := (99 : Int32)) hx hb dX1_rule_66 (by decide) ?_
      obtain ⟨x19, hc18, hf⟩ := um_bi hf
      refine um_cSi (pc := 68) (As := [.int x17, .int (99 : Int32)]) (rest := []) Cx (c_X1_held x17 (99 : Int32) hX hc18) kS_X1_held (Or.inl qM_X1_43) hW hS rfl hl rfl (Nat.le_of_ble_eq_true rfl) (Nat.le_of_ble_eq_true rfl) (Nat.le_of_ble_eq_true rfl) dX1_rule_68 (Nat.le_refl _) (Nat.le_refl _) ?_
      clear hW hS hc18
      intro H locs hW hS
      exact um_iret (pc := 71) Cx hW hS hf dX1_rule_71
    have hf := um_ie c1 hf
    by_cases c2 : a1 = (3 : Int32)
    · have hf := um_it c2 hf
      refine lv_tableIn (pc := 38) (tgt := 72) hx hb dX1_rule_38 (by rw [c2]; decide) (by rw [c2]; decide) (by rw [c2]; rfl) (by decide) ?_
      refine lv_iload (pc := 72) hx hb dX1_rule_72 (lv_at hl 0 rfl) ?_
      refine lv_bipush (pc := 74) (v := (100 : Int32)) hx hb dX1_rule_74 (by decide) ?_
      obtain ⟨x21, hc20, hf⟩ := um_bi hf
      refine um_cSi (pc := 76) (As := [.int x17, .int (100 : Int32)]) (rest := []) Cx (c_X1_held x17 (100 : Int32) hX hc20) kS_X1_held (Or.inl qM_X1_43) hW hS rfl hl rfl (Nat.le_of_ble_eq_true rfl) (Nat.le_of_ble_eq_true rfl) (Nat.le_of_ble_eq_true rfl) dX1_rule_76 (Nat.le_refl _) (Nat.le_refl _) ?_
      clear hW hS hc20
      intro H locs hW hS
      exact um_iret (pc := 79) Cx hW hS hf dX1_rule_79
    have hf := um_ie c2 hf
    by_cases c3 : a1 = (4 : Int32)
    · have hf := um_it c3 hf
      refine lv_tableIn (pc := 38) (tgt := 80) hx hb dX1_rule_38 (by rw [c3]; decide) (by rw [c3]; decide) (by rw [c3]; rfl) (by decide) ?_
      refine lv_iload (pc := 80) hx hb dX1_rule_80 (lv_at hl 0 rfl) ?_
      refine lv_iload_n (pc := 82) hx hb dX1_rule_82 rfl (lv_at hl 5 rfl) ?_
      obtain ⟨x23, hc22, hf⟩ := um_bi hf
      refine um_cSi (pc := 83) (As := [.int x17, .int a3]) (rest := []) Cx (c_X1_held x17 a3 hX hc22) kS_X1_held (Or.inl qM_X1_43) hW hS rfl hl rfl (Nat.le_of_ble_eq_true rfl) (Nat.le_of_ble_eq_true rfl) (Nat.le_of_ble_eq_true rfl) dX1_rule_83 (Nat.le_refl _) (Nat.le_refl _) ?_
      clear hW hS hc22
      intro H locs hW hS
      exact um_iret (pc := 86) Cx hW hS hf dX1_rule_86
    have hf := um_ie c3 hf
    have ho : a1.toInt < 2 ∨ 4 < a1.toInt := um_tabO (lo := 2) (hi := 4) (fun z z1 z2 => by
      rcases (show z = 2 ∨ z = 3 ∨ z = 4 by omega) with rfl | rfl | rfl
      · exact c1
      · exact c2
      · exact c3)
    refine lv_tableOut (pc := 38) (tgt := 87) hx hb dX1_rule_38 ho (by decide) ?_
    refine lv_iload (pc := 87) hx hb dX1_rule_87 (lv_at hl 0 rfl) ?_
    exact um_iret (pc := 89) Cx hW hS hf dX1_rule_89
theorem c_X1_rule {σ : um_S} {σ' : um_S} {r : Int32} (h0 : Nat) (a1 : Int32) (a2 : Int32) (a3 : Int32) (a4 : Int32) (a5 : Int32) (hh0 : um_h h0) (hX : um_X sh) (hf : f_X1_rule h0 a1 a2 a3 a4 a5 σ = some (r, σ')) : um_M l yX1_rule cX1_rule 8 (some FieldType.int) (2) (51) Z sh α σ [.ref (α (20 * h0 + 11)), .int a1, .int a2, .int a3, .int a4, .int a5] (some (.int r)) σ' :=
  um_start (by decide) (Nat.le_of_ble_eq_true rfl) (fun p e s m below meth c ls Cx hW hS hl => b_X1_rule h0 a1 a2 a3 a4 a5 hh0 hX hf Cx hW hS hl)
noncomputable def f_X2_sortOf (a1 : Int32) (σ : um_S) : Option (Int32) :=
    if a1 < 0 then
    (some (-1 : Int32))
    else
    (if (nI 4) ≤ a1 then
    (some (-1 : Int32))
    else
    (if um_ix a1 4 then
    (some (σ.1 13 a1.toNatClampNeg)) else none))
set_option maxRecDepth 100000 in
set_option maxHeartbeats 4000000 in
theorem b_X2_sortOf {H : Heap} {locs : List Loc} {ls : Array Slot} {σ : um_S} {r : Int32} (a1 : Int32) (hX : um_X sh) (hf : f_X2_sortOf a1 σ = some r) (Cx : um_C p s m meth c args cX2_sortOf 2 (some FieldType.int) RX2 Z) (hW : um_W Z sh α σ H) (hS : va_S (um_D sh α) s.heap H locs) (hl : lv_has ls 2 [(0, .ref (α 6)), (1, .int a1)]) : um_G p l e (0) (0) s m args below meth c Z sh α σ (some (.int r)) H locs (F0 m 0 ls []) := by
  have hx := Cx.1
  have hb := Cx.2.1
  have hown := Cx.2.2.2.2.1
  have hts := Cx.2.2.2.2.2.1
  rw [f_X2_sortOf] at hf
  refine lv_iload_n (pc := 0) hx hb dX2_sortOf_0 rfl (lv_at hl 1 rfl) ?_
  refine lv_if_lt (pc := 1) (tgt := 22) hx hb dX2_sortOf_1 (by decide) (fun c1 => ?_) (fun c1 => ?_)
  · have hf := um_it c1 hf
    clear c1
    refine lv_iconst (pc := 22) (v := (-1 : Int32)) hx hb dX2_sortOf_22 (by decide) ?_
    exact um_iretR (pc := 23) Cx hW hS hf dX2_sortOf_23
  · have hf := um_ie c1 hf
    clear c1
    refine lv_iload_n (pc := 4) hx hb dX2_sortOf_4 rfl (lv_at hl 1 rfl) ?_
    refine lv_aload_n (pc := 5) hx hb dX2_sortOf_5 rfl (lv_at hl 0 rfl) ?_
    refine gF_X2_11 (pc := 6) Cx hW (hX 6 _ rfl) rfl dX2_sortOf_6 ?_
    refine um_alen (pc := 9) (n := 4) Cx hW (hX 13 _ rfl) rfl (by decide) dX2_sortOf_9 ?_
    refine lv_icmp_ge (pc := 10) (tgt := 22) hx hb dX2_sortOf_10 (by decide) (fun c1 => ?_) (fun c1 => ?_)
    · have hf := um_it c1 hf
      clear c1
      refine lv_iconst (pc := 22) (v := (-1 : Int32)) hx hb dX2_sortOf_22 (by decide) ?_
      exact um_iretR (pc := 23) Cx hW hS hf dX2_sortOf_23
    · have hf := um_ie c1 hf
      clear c1
      refine lv_aload_n (pc := 13) hx hb dX2_sortOf_13 rfl (lv_at hl 0 rfl) ?_
      refine gF_X2_11 (pc := 14) Cx hW (hX 6 _ rfl) rfl dX2_sortOf_14 ?_
      refine lv_iload_n (pc := 17) hx hb dX2_sortOf_17 rfl (lv_at hl 1 rfl) ?_
      obtain ⟨g1, hf⟩ := um_gu hf
      refine um_iald (pc := 18) Cx hW (hX 13 _ rfl) rfl (um_ix_in g1) dX2_sortOf_18 ?_
      refine lv_goto (pc := 19) (tgt := 23) hx hb dX2_sortOf_19 (by decide) ?_
      exact um_iretR (pc := 23) Cx hW hS hf dX2_sortOf_23
theorem c_X2_sortOf {σ : um_S} {r : Int32} (a1 : Int32) (hX : um_X sh) (hf : f_X2_sortOf a1 σ = some r) : um_M l yX2_sortOf cX2_sortOf 2 (some FieldType.int) (0) (0) Z sh α σ [.ref (α 6), .int a1] (some (.int r)) σ :=
  um_start (by decide) (Nat.le_of_ble_eq_true rfl) (fun p e s m below meth c ls Cx hW hS hl => b_X2_sortOf a1 hX hf Cx hW hS hl)
noncomputable def f_X2_alike (a1 : Int32) (a2 : Int32) (σ : um_S) : Option (Bool) :=
    (f_X2_sortOf a1 σ).bind fun x2 =>
    ((f_X2_sortOf a2 σ).bind fun x4 =>
    (if x2 = x4 then
    (some true)
    else
    (some false)))
set_option maxRecDepth 100000 in
set_option maxHeartbeats 4000000 in
theorem b_X2_alike {H : Heap} {locs : List Loc} {ls : Array Slot} {σ : um_S} {r : Bool} (a1 : Int32) (a2 : Int32) (hX : um_X sh) (hf : f_X2_alike a1 a2 σ = some r) (Cx : um_C p s m meth c args cX2_alike 3 (some FieldType.boolean) RX2 Z) (hW : um_W Z sh α σ H) (hS : va_S (um_D sh α) s.heap H locs) (hl : lv_has ls 3 [(0, .ref (α 6)), (1, .int a1), (2, .int a2)]) : um_G p l e (1) (21) s m args below meth c Z sh α σ (some (.int (um_b r))) H locs (F0 m 0 ls []) := by
  have hx := Cx.1
  have hb := Cx.2.1
  have hown := Cx.2.2.2.2.1
  have hts := Cx.2.2.2.2.2.1
  rw [f_X2_alike] at hf
  refine lv_aload_n (pc := 0) hx hb dX2_alike_0 rfl (lv_at hl 0 rfl) ?_
  refine lv_iload_n (pc := 1) hx hb dX2_alike_1 rfl (lv_at hl 1 rfl) ?_
  obtain ⟨x2, hc1, hf⟩ := um_bi hf
  refine um_cVi (pc := 2) (As := [.int a1]) (rest := []) Cx (c_X2_sortOf a1 hX hc1) kV_X2_sortOf (Or.inl qM_X2_30) hW hS (hX 6 _ rfl) rfl rfl hl rfl (Nat.le_of_ble_eq_true rfl) (Nat.le_of_ble_eq_true rfl) (Nat.le_of_ble_eq_true rfl) dX2_alike_2 (Nat.le_refl _) (Nat.le_refl _) ?_
  clear hW hS hc1
  intro H locs hW hS
  refine lv_aload_n (pc := 5) hx hb dX2_alike_5 rfl (lv_at hl 0 rfl) ?_
  refine lv_iload_n (pc := 6) hx hb dX2_alike_6 rfl (lv_at hl 2 rfl) ?_
  obtain ⟨x4, hc3, hf⟩ := um_bi hf
  refine um_cVi (pc := 7) (As := [.int a2]) (rest := [.int x2]) Cx (c_X2_sortOf a2 hX hc3) kV_X2_sortOf (Or.inl qM_X2_30) hW hS (hX 6 _ rfl) rfl rfl hl rfl (Nat.le_of_ble_eq_true rfl) (Nat.le_of_ble_eq_true rfl) (Nat.le_of_ble_eq_true rfl) dX2_alike_7 (Nat.le_refl _) (Nat.le_refl _) ?_
  clear hW hS hc3
  intro H locs hW hS
  refine lv_icmp_ne (pc := 10) (tgt := 17) hx hb dX2_alike_10 (by decide) (fun c1 => ?_) (fun c1 => ?_)
  · have hf := um_ie c1 hf
    clear c1
    refine lv_iconst (pc := 17) (v := (0 : Int32)) hx hb dX2_alike_17 (by decide) ?_
    exact um_zretR (pc := 18) Cx hW hS hf rfl dX2_alike_18
  · have hf := um_it c1 hf
    clear c1
    refine lv_iconst (pc := 13) (v := (1 : Int32)) hx hb dX2_alike_13 (by decide) ?_
    refine lv_goto (pc := 14) (tgt := 18) hx hb dX2_alike_14 (by decide) ?_
    exact um_zretR (pc := 18) Cx hW hS hf rfl dX2_alike_18
theorem c_X2_alike {σ : um_S} {r : Bool} (a1 : Int32) (a2 : Int32) (hX : um_X sh) (hf : f_X2_alike a1 a2 σ = some r) : um_M l yX2_alike cX2_alike 3 (some FieldType.boolean) (1) (21) Z sh α σ [.ref (α 6), .int a1, .int a2] (some (.int (um_b r))) σ :=
  um_start (by decide) (Nat.le_of_ble_eq_true rfl) (fun p e s m below meth c ls Cx hW hS hl => b_X2_alike a1 a2 hX hf Cx hW hS hl)
noncomputable def f_X2_hasRow (a1 : Int32) (a2 : Int32) (a3 : Int32) (σ : um_S) : Option (Bool) :=
    (f_X5_get 14 a1 (0 : Int32) σ).bind fun x2 =>
    (if a2 < 0 then
    (some false)
    else
    (if a3 < 0 then
    (some false)
    else
    (if x2 < a2 then
    (some false)
    else
    (if (x2 - a2) < a3 then
    (some false)
    else
    (some true)))))
set_option maxRecDepth 100000 in
set_option maxHeartbeats 4000000 in
theorem b_X2_hasRow {H : Heap} {locs : List Loc} {ls : Array Slot} {σ : um_S} {r : Bool} (a1 : Int32) (a2 : Int32) (a3 : Int32) (hX : um_X sh) (hf : f_X2_hasRow a1 a2 a3 σ = some r) (Cx : um_C p s m meth c args cX2_hasRow 5 (some FieldType.boolean) RX2 Z) (hW : um_W Z sh α σ H) (hS : va_S (um_D sh α) s.heap H locs) (hl : lv_has ls 5 [(0, .ref (α 6)), (1, .int a1), (2, .int a2), (3, .int a3)]) : um_G p l e (1) (24) s m args below meth c Z sh α σ (some (.int (um_b r))) H locs (F0 m 0 ls []) := by
  have hx := Cx.1
  have hb := Cx.2.1
  have hown := Cx.2.2.2.2.1
  have hts := Cx.2.2.2.2.2.1
  rw [f_X2_hasRow] at hf
  refine lv_aload_n (pc := 0) hx hb dX2_hasRow_0 rfl (lv_at hl 0 rfl) ?_
  refine gF_X2_20 (pc := 1) Cx hW (hX 6 _ rfl) rfl dX2_hasRow_1 ?_
  refine lv_iload_n (pc := 4) hx hb dX2_hasRow_4 rfl (lv_at hl 1 rfl) ?_
  refine lv_iconst (pc := 5) (v := (0 : Int32)) hx hb dX2_hasRow_5 (by decide) ?_
  obtain ⟨x2, hc1, hf⟩ := um_bi hf
  refine um_cVi (pc := 6) (As := [.int a1, .int (0 : Int32)]) (rest := []) Cx (c_X5_get 14 a1 (0 : Int32) rfl hX hc1) kV_X5_get (Or.inl qM_X2_34) hW hS (xs_tab hX rfl) rfl rfl hl rfl (Nat.le_of_ble_eq_true rfl) (Nat.le_of_ble_eq_true rfl) (Nat.le_of_ble_eq_true rfl) dX2_hasRow_6 (Nat.le_refl _) (Nat.le_refl _) ?_
  clear hW hS hc1
  intro H locs hW hS
  refine lv_istore (pc := 9) (lv' := [(4, .int x2), (0, .ref (α 6)), (1, .int a1), (2, .int a2), (3, .int a3)]) hx hb dX2_hasRow_9 hl (by decide) rfl ?_
  clear hl
  intro ls hl
  refine lv_iload_n (pc := 11) hx hb dX2_hasRow_11 rfl (lv_at hl 3 rfl) ?_
  refine lv_if_lt (pc := 12) (tgt := 37) hx hb dX2_hasRow_12 (by decide) (fun c1 => ?_) (fun c1 => ?_)
  · have hf := um_it c1 hf
    clear c1
    refine lv_iconst (pc := 37) (v := (0 : Int32)) hx hb dX2_hasRow_37 (by decide) ?_
    exact um_zretR (pc := 38) Cx hW hS hf rfl dX2_hasRow_38
  · have hf := um_ie c1 hf
    clear c1
    refine lv_iload_n (pc := 15) hx hb dX2_hasRow_15 rfl (lv_at hl 4 rfl) ?_
    refine lv_if_lt (pc := 16) (tgt := 37) hx hb dX2_hasRow_16 (by decide) (fun c1 => ?_) (fun c1 => ?_)
    · have hf := um_it c1 hf
      clear c1
      refine lv_iconst (pc := 37) (v := (0 : Int32)) hx hb dX2_hasRow_37 (by decide) ?_
      exact um_zretR (pc := 38) Cx hW hS hf rfl dX2_hasRow_38
    · have hf := um_ie c1 hf
      clear c1
      refine lv_iload_n (pc := 19) hx hb dX2_hasRow_19 rfl (lv_at hl 3 rfl) ?_
      refine lv_iload (pc := 20) hx hb dX2_hasRow_20 (lv_at hl 0 rfl) ?_
      refine lv_icmp_gt (pc := 22) (tgt := 37) hx hb dX2_hasRow_22 (by decide) (fun c1 => ?_) (fun c1 => ?_)
      · have hf := um_it c1 hf
        clear c1
        refine lv_iconst (pc := 37) (v := (0 : Int32)) hx hb dX2_hasRow_37 (by decide) ?_
        exact um_zretR (pc := 38) Cx hW hS hf rfl dX2_hasRow_38
      · have hf := um_ie c1 hf
        clear c1
        refine lv_iload_n (pc := 25) hx hb dX2_hasRow_25 rfl (lv_at hl 4 rfl) ?_
        refine lv_iload (pc := 26) hx hb dX2_hasRow_26 (lv_at hl 0 rfl) ?_
        refine lv_iload_n (pc := 28) hx hb dX2_hasRow_28 rfl (lv_at hl 3 rfl) ?_
        refine lv_isub (pc := 29) hx hb dX2_hasRow_29 ?_
        refine lv_icmp_gt (pc := 30) (tgt := 37) hx hb dX2_hasRow_30 (by decide) (fun c1 => ?_) (fun c1 => ?_)
        · have hf := um_it c1 hf
          clear c1
          refine lv_iconst (pc := 37) (v := (0 : Int32)) hx hb dX2_hasRow_37 (by decide) ?_
          exact um_zretR (pc := 38) Cx hW hS hf rfl dX2_hasRow_38
        · have hf := um_ie c1 hf
          clear c1
          refine lv_iconst (pc := 33) (v := (1 : Int32)) hx hb dX2_hasRow_33 (by decide) ?_
          refine lv_goto (pc := 34) (tgt := 38) hx hb dX2_hasRow_34 (by decide) ?_
          exact um_zretR (pc := 38) Cx hW hS hf rfl dX2_hasRow_38
theorem c_X2_hasRow {σ : um_S} {r : Bool} (a1 : Int32) (a2 : Int32) (a3 : Int32) (hX : um_X sh) (hf : f_X2_hasRow a1 a2 a3 σ = some r) : um_M l yX2_hasRow cX2_hasRow 5 (some FieldType.boolean) (1) (24) Z sh α σ [.ref (α 6), .int a1, .int a2, .int a3] (some (.int (um_b r))) σ :=
  um_start (by decide) (Nat.le_of_ble_eq_true rfl) (fun p e s m below meth c ls Cx hW hS hl => b_X2_hasRow a1 a2 a3 hX hf Cx hW hS hl)
noncomputable def f_X2_isMissing (a1 : Int32) (σ : um_S) : Option (Bool) :=
    (f_X2_sortOf a1 σ).bind fun x2 =>
    (if x2 = (-1 : Int32) then
    (some true)
    else
    (some false))
set_option maxRecDepth 100000 in
set_option maxHeartbeats 4000000 in
theorem b_X2_isMissing {H : Heap} {locs : List Loc} {ls : Array Slot} {σ : um_S} {r : Bool} (a1 : Int32) (hX : um_X sh) (hf : f_X2_isMissing a1 σ = some r) (Cx : um_C p s m meth c args cX2_isMissing 2 (some FieldType.boolean) RX2 Z) (hW : um_W Z sh α σ H) (hS : va_S (um_D sh α) s.heap H locs) (hl : lv_has ls 2 [(0, .ref (α 6)), (1, .int a1)]) : um_G p l e (1) (21) s m args below meth c Z sh α σ (some (.int (um_b r))) H locs (F0 m 0 ls []) := by
  have hx := Cx.1
  have hb := Cx.2.1
  have hown := Cx.2.2.2.2.1
  have hts := Cx.2.2.2.2.2.1
  rw [f_X2_isMissing] at hf
  refine lv_aload_n (pc := 0) hx hb dX2_isMissing_0 rfl (lv_at hl 0 rfl) ?_
  refine lv_iload_n (pc := 1) hx hb dX2_isMissing_1 rfl (lv_at hl 1 rfl) ?_
  obtain ⟨x2, hc1, hf⟩ := um_bi hf
  refine um_cVi (pc := 2) (As := [.int a1]) (rest := []) Cx (c_X2_sortOf a1 hX hc1) kV_X2_sortOf (Or.inl qM_X2_30) hW hS (hX 6 _ rfl) rfl rfl hl rfl (Nat.le_of_ble_eq_true rfl) (Nat.le_of_ble_eq_true rfl) (Nat.le_of_ble_eq_true rfl) dX2_isMissing_2 (Nat.le_refl _) (Nat.le_refl _) ?_
  clear hW hS hc1
  intro H locs hW hS
  refine lv_iconst (pc := 5) (v := (-1 : Int32)) hx hb dX2_isMissing_5 (by decide) ?_
  refine lv_icmp_ne (pc := 6) (tgt := 13) hx hb dX2_isMissing_6 (by decide) (fun c1 => ?_) (fun c1 => ?_)
  · have hf := um_ie c1 hf
    clear c1
    refine lv_iconst (pc := 13) (v := (0 : Int32)) hx hb dX2_isMissing_13 (by decide) ?_
    exact um_zretR (pc := 14) Cx hW hS hf rfl dX2_isMissing_14
  · have hf := um_it c1 hf
    clear c1
    refine lv_iconst (pc := 9) (v := (1 : Int32)) hx hb dX2_isMissing_9 (by decide) ?_
    refine lv_goto (pc := 10) (tgt := 14) hx hb dX2_isMissing_10 (by decide) ?_
    exact um_zretR (pc := 14) Cx hW hS hf rfl dX2_isMissing_14
theorem c_X2_isMissing {σ : um_S} {r : Bool} (a1 : Int32) (hX : um_X sh) (hf : f_X2_isMissing a1 σ = some r) : um_M l yX2_isMissing cX2_isMissing 2 (some FieldType.boolean) (1) (21) Z sh α σ [.ref (α 6), .int a1] (some (.int (um_b r))) σ :=
  um_start (by decide) (Nat.le_of_ble_eq_true rfl) (fun p e s m below meth c ls Cx hW hS hl => b_X2_isMissing a1 hX hf Cx hW hS hl)
noncomputable def f_X2_isOne (a1 : Int32) (σ : um_S) : Option (Bool) :=
    if a1 < 0 then
    (some false)
    else
    (if (nI 4) ≤ a1 then
    (some false)
    else
    (some true))
set_option maxRecDepth 100000 in
set_option maxHeartbeats 4000000 in
theorem b_X2_isOne {H : Heap} {locs : List Loc} {ls : Array Slot} {σ : um_S} {r : Bool} (a1 : Int32) (hX : um_X sh) (hf : f_X2_isOne a1 σ = some r) (Cx : um_C p s m meth c args cX2_isOne 2 (some FieldType.boolean) RX2 Z) (hW : um_W Z sh α σ H) (hS : va_S (um_D sh α) s.heap H locs) (hl : lv_has ls 2 [(0, .ref (α 6)), (1, .int a1)]) : um_G p l e (0) (0) s m args below meth c Z sh α σ (some (.int (um_b r))) H locs (F0 m 0 ls []) := by
  have hx := Cx.1
  have hb := Cx.2.1
  have hown := Cx.2.2.2.2.1
  have hts := Cx.2.2.2.2.2.1
  rw [f_X2_isOne] at hf
  refine lv_iload_n (pc := 0) hx hb dX2_isOne_0 rfl (lv_at hl 1 rfl) ?_
  refine lv_if_lt (pc := 1) (tgt := 17) hx hb dX2_isOne_1 (by decide) (fun c1 => ?_) (fun c1 => ?_)
  · have hf := um_it c1 hf
    clear c1
    refine lv_iconst (pc := 17) (v := (0 : Int32)) hx hb dX2_isOne_17 (by decide) ?_
    exact um_zretR (pc := 18) Cx hW hS hf rfl dX2_isOne_18
  · have hf := um_ie c1 hf
    clear c1
    refine lv_iload_n (pc := 4) hx hb dX2_isOne_4 rfl (lv_at hl 1 rfl) ?_
    refine lv_aload_n (pc := 5) hx hb dX2_isOne_5 rfl (lv_at hl 0 rfl) ?_
    refine gF_X2_11 (pc := 6) Cx hW (hX 6 _ rfl) rfl dX2_isOne_6 ?_
    refine um_alen (pc := 9) (n := 4) Cx hW (hX 13 _ rfl) rfl (by decide) dX2_isOne_9 ?_
    refine lv_icmp_ge (pc := 10) (tgt := 17) hx hb dX2_isOne_10 (by decide) (fun c1 => ?_) (fun c1 => ?_)
    · have hf := um_it c1 hf
      clear c1
      refine lv_iconst (pc := 17) (v := (0 : Int32)) hx hb dX2_isOne_17 (by decide) ?_
      exact um_zretR (pc := 18) Cx hW hS hf rfl dX2_isOne_18
    · have hf := um_ie c1 hf
      clear c1
      refine lv_iconst (pc := 13) (v := (1 : Int32)) hx hb dX2_isOne_13 (by decide) ?_
      refine lv_goto (pc := 14) (tgt := 18) hx hb dX2_isOne_14 (by decide) ?_
      exact um_zretR (pc := 18) Cx hW hS hf rfl dX2_isOne_18
theorem c_X2_isOne {σ : um_S} {r : Bool} (a1 : Int32) (hX : um_X sh) (hf : f_X2_isOne a1 σ = some r) : um_M l yX2_isOne cX2_isOne 2 (some FieldType.boolean) (0) (0) Z sh α σ [.ref (α 6), .int a1] (some (.int (um_b r))) σ :=
  um_start (by decide) (Nat.le_of_ble_eq_true rfl) (fun p e s m below meth c ls Cx hW hS hl => b_X2_isOne a1 hX hf Cx hW hS hl)
noncomputable def f_X2_finding (a1 : Int32) (a2 : Int32) (σ : um_S) : Option (Int32) :=
    (f_X2_isOne a1 σ).bind fun x2 =>
    (if (um_b x2) = 0 then
    (some (-1000000001 : Int32))
    else
    ((f_X2_isMissing a1 σ).bind fun x4 =>
    (if (um_b x4) = 0 then
    ((f_X2_hasRow a1 a2 (1 : Int32) σ).bind fun x6 =>
    (if (um_b x6) = 0 then
    (some (-1000000013 : Int32))
    else
    (some (0 : Int32))))
    else
    (some (-1000000011 : Int32)))))
set_option maxRecDepth 100000 in
set_option maxHeartbeats 4000000 in
theorem b_X2_finding {H : Heap} {locs : List Loc} {ls : Array Slot} {σ : um_S} {r : Int32} (a1 : Int32) (a2 : Int32) (hX : um_X sh) (hf : f_X2_finding a1 a2 σ = some r) (Cx : um_C p s m meth c args cX2_finding 3 (some FieldType.int) RX2 Z) (hW : um_W Z sh α σ H) (hS : va_S (um_D sh α) s.heap H locs) (hl : lv_has ls 3 [(0, .ref (α 6)), (1, .int a1), (2, .int a2)]) : um_G p l e (2) (48) s m args below meth c Z sh α σ (some (.int r)) H locs (F0 m 0 ls []) := by
  have hx := Cx.1
  have hb := Cx.2.1
  have hown := Cx.2.2.2.2.1
  have hts := Cx.2.2.2.2.2.1
  rw [f_X2_finding] at hf
  refine lv_aload_n (pc := 0) hx hb dX2_finding_0 rfl (lv_at hl 0 rfl) ?_
  refine lv_iload_n (pc := 1) hx hb dX2_finding_1 rfl (lv_at hl 1 rfl) ?_
  obtain ⟨x2, hc1, hf⟩ := um_bi hf
  refine um_cVi (pc := 2) (As := [.int a1]) (rest := []) Cx (c_X2_isOne a1 hX hc1) kV_X2_isOne (Or.inl qM_X2_38) hW hS (hX 6 _ rfl) rfl rfl hl rfl (Nat.le_of_ble_eq_true rfl) (Nat.le_of_ble_eq_true rfl) (Nat.le_of_ble_eq_true rfl) dX2_finding_2 (Nat.le_refl _) (Nat.le_refl _) ?_
  clear hW hS hc1
  intro H locs hW hS
  refine lv_if_ne (pc := 5) (tgt := 11) hx hb dX2_finding_5 (by decide) (fun c1 => ?_) (fun c1 => ?_)
  · have hf := um_ie c1 hf
    clear c1
    refine lv_aload_n (pc := 11) hx hb dX2_finding_11 rfl (lv_at hl 0 rfl) ?_
    refine lv_iload_n (pc := 12) hx hb dX2_finding_12 rfl (lv_at hl 1 rfl) ?_
    obtain ⟨x4, hc3, hf⟩ := um_bi hf
    refine um_cVi (pc := 13) (As := [.int a1]) (rest := []) Cx (c_X2_isMissing a1 hX hc3) kV_X2_isMissing (Or.inl qM_X2_43) hW hS (hX 6 _ rfl) rfl rfl hl rfl (Nat.le_of_ble_eq_true rfl) (Nat.le_of_ble_eq_true rfl) (Nat.le_of_ble_eq_true rfl) dX2_finding_13 (Nat.le_refl _) (Nat.le_refl _) ?_
    clear hW hS hc3
    intro H locs hW hS
    refine lv_if_eq (pc := 16) (tgt := 22) hx hb dX2_finding_16 (by decide) (fun c1 => ?_) (fun c1 => ?_)
    · have hf := um_it c1 hf
      clear c1
      refine lv_aload_n (pc := 22) hx hb dX2_finding_22 rfl (lv_at hl 0 rfl) ?_
      refine lv_iload_n (pc := 23) hx hb dX2_finding_23 rfl (lv_at hl 1 rfl) ?_
      refine lv_iload_n (pc := 24) hx hb dX2_finding_24 rfl (lv_at hl 2 rfl) ?_
      refine lv_iconst (pc := 25) (v := (1 : Int32)) hx hb dX2_finding_25 (by decide) ?_
      obtain ⟨x6, hc5, hf⟩ := um_bi hf
      refine um_cVi (pc := 26) (As := [.int a1, .int a2, .int (1 : Int32)]) (rest := []) Cx (c_X2_hasRow a1 a2 (1 : Int32) hX hc5) kV_X2_hasRow (Or.inl qM_X2_47) hW hS (hX 6 _ rfl) rfl rfl hl rfl (Nat.le_of_ble_eq_true rfl) (Nat.le_of_ble_eq_true rfl) (Nat.le_of_ble_eq_true rfl) dX2_finding_26 (Nat.le_refl _) (Nat.le_refl _) ?_
      clear hW hS hc5
      intro H locs hW hS
      refine lv_if_eq (pc := 29) (tgt := 36) hx hb dX2_finding_29 (by decide) (fun c1 => ?_) (fun c1 => ?_)
      · have hf := um_it c1 hf
        clear c1
        refine lv_ldc (pc := 36) hx hb hown (hts _ qC_X2_51) dX2_finding_36 ?_
        exact um_iretR (pc := 38) Cx hW hS hf dX2_finding_38
      · have hf := um_ie c1 hf
        clear c1
        refine lv_iconst (pc := 32) (v := (0 : Int32)) hx hb dX2_finding_32 (by decide) ?_
        refine lv_goto (pc := 33) (tgt := 38) hx hb dX2_finding_33 (by decide) ?_
        exact um_iretR (pc := 38) Cx hW hS hf dX2_finding_38
    · have hf := um_ie c1 hf
      clear c1
      refine lv_ldc (pc := 19) hx hb hown (hts _ qC_X2_46) dX2_finding_19 ?_
      exact um_iretR (pc := 21) Cx hW hS hf dX2_finding_21
  · have hf := um_it c1 hf
    clear c1
    refine lv_ldc (pc := 8) hx hb hown (hts _ qC_X2_42) dX2_finding_8 ?_
    exact um_iretR (pc := 10) Cx hW hS hf dX2_finding_10
theorem c_X2_finding {σ : um_S} {r : Int32} (a1 : Int32) (a2 : Int32) (hX : um_X sh) (hf : f_X2_finding a1 a2 σ = some r) : um_M l yX2_finding cX2_finding 3 (some FieldType.int) (2) (48) Z sh α σ [.ref (α 6), .int a1, .int a2] (some (.int r)) σ :=
  um_start (by decide) (Nat.le_of_ble_eq_true rfl) (fun p e s m below meth c ls Cx hW hS hl => b_X2_finding a1 a2 hX hf Cx hW hS hl)
noncomputable def f_X2_isMustered (a1 : Int32) (a2 : Int32) (σ : um_S) : Option (Bool) :=
    (f_X5_get 15 a1 a2 σ).bind fun x2 =>
    ((f_X2_sortOf a1 σ).bind fun x4 =>
    (um_let (fun (x6 : Int32) =>
    (if x2 = x6 then
    (some false)
    else
    (some true))) fun k5 =>
    (if x4 = 0 then
    (k5 (-128 : Int32))
    else
    (k5 (-32768 : Int32)))))
set_option maxRecDepth 100000 in
set_option maxHeartbeats 4000000 in
theorem b_X2_isMustered {H : Heap} {locs : List Loc} {ls : Array Slot} {σ : um_S} {r : Bool} (a1 : Int32) (a2 : Int32) (hX : um_X sh) (hf : f_X2_isMustered a1 a2 σ = some r) (Cx : um_C p s m meth c args cX2_isMustered 3 (some FieldType.boolean) RX2 Z) (hW : um_W Z sh α σ H) (hS : va_S (um_D sh α) s.heap H locs) (hl : lv_has ls 3 [(0, .ref (α 6)), (1, .int a1), (2, .int a2)]) : um_G p l e (1) (24) s m args below meth c Z sh α σ (some (.int (um_b r))) H locs (F0 m 0 ls []) := by
  have hx := Cx.1
  have hb := Cx.2.1
  have hown := Cx.2.2.2.2.1
  have hts := Cx.2.2.2.2.2.1
  rw [f_X2_isMustered] at hf
  refine lv_aload_n (pc := 0) hx hb dX2_isMustered_0 rfl (lv_at hl 0 rfl) ?_
  refine gF_X2_24 (pc := 1) Cx hW (hX 6 _ rfl) rfl dX2_isMustered_1 ?_
  refine lv_iload_n (pc := 4) hx hb dX2_isMustered_4 rfl (lv_at hl 1 rfl) ?_
  refine lv_iload_n (pc := 5) hx hb dX2_isMustered_5 rfl (lv_at hl 2 rfl) ?_
  obtain ⟨x2, hc1, hf⟩ := um_bi hf
  refine um_cVi (pc := 6) (As := [.int a1, .int a2]) (rest := []) Cx (c_X5_get 15 a1 a2 rfl hX hc1) kV_X5_get (Or.inl qM_X2_34) hW hS (xs_tab hX rfl) rfl rfl hl rfl (Nat.le_of_ble_eq_true rfl) (Nat.le_of_ble_eq_true rfl) (Nat.le_of_ble_eq_true rfl) dX2_isMustered_6 (Nat.le_refl _) (Nat.le_refl _) ?_
  clear hW hS hc1
  intro H locs hW hS
  refine lv_aload_n (pc := 9) hx hb dX2_isMustered_9 rfl (lv_at hl 0 rfl) ?_
  refine lv_iload_n (pc := 10) hx hb dX2_isMustered_10 rfl (lv_at hl 1 rfl) ?_
  obtain ⟨x4, hc3, hf⟩ := um_bi hf
  refine um_cVi (pc := 11) (As := [.int a1]) (rest := [.int x2]) Cx (c_X2_sortOf a1 hX hc3) kV_X2_sortOf (Or.inl qM_X2_30) hW hS (hX 6 _ rfl) rfl rfl hl rfl (Nat.le_of_ble_eq_true rfl) (Nat.le_of_ble_eq_true rfl) (Nat.le_of_ble_eq_true rfl) dX2_isMustered_11 (Nat.le_refl _) (Nat.le_refl _) ?_
  clear hW hS hc3
  intro H locs hW hS
  obtain ⟨k5, hk5, hf⟩ := um_j1 hf
  have J5 : ∀ (x6 : Int32), k5 x6 = some r → ∀ (H : Heap) (locs : List Loc) (ls : Array Slot), um_W Z sh α σ H → va_S (um_D sh α) s.heap H locs → lv_has ls 3 [] → um_G p l e (1) (24) s m args below meth c Z sh α σ (some (.int (um_b r))) H locs (F0 m 25 ls [.int x6, .int x2]) := by
    intro x6 hf H locs ls hW hS hl
    rw [hk5] at hf
    refine lv_icmp_eq (pc := 25) (tgt := 32) hx hb dX2_isMustered_25 (by decide) (fun c1 => ?_) (fun c1 => ?_)
    · have hf := um_it c1 hf
      clear c1
      refine lv_iconst (pc := 32) (v := (0 : Int32)) hx hb dX2_isMustered_32 (by decide) ?_
      exact um_zretR (pc := 33) Cx hW hS hf rfl dX2_isMustered_33
    · have hf := um_ie c1 hf
      clear c1
      refine lv_iconst (pc := 28) (v := (1 : Int32)) hx hb dX2_isMustered_28 (by decide) ?_
      refine lv_goto (pc := 29) (tgt := 33) hx hb dX2_isMustered_29 (by decide) ?_
      exact um_zretR (pc := 33) Cx hW hS hf rfl dX2_isMustered_33
  refine lv_if_ne (pc := 14) (tgt := 22) hx hb dX2_isMustered_14 (by decide) (fun c1 => ?_) (fun c1 => ?_)
  · have hf := um_ie c1 hf
    clear c1
    refine lv_sipush (pc := 22) (v := (-32768 : Int32)) hx hb dX2_isMustered_22 (by decide) ?_
    exact J5 (-32768 : Int32) hf _ _ _ hW hS (lv_sub hl [] rfl)
  · have hf := um_it c1 hf
    clear c1
    refine lv_bipush (pc := 17) (v := (-128 : Int32)) hx hb dX2_isMustered_17 (by decide) ?_
    refine lv_goto (pc := 19) (tgt := 25) hx hb dX2_isMustered_19 (by decide) ?_
    exact J5 (-128 : Int32) hf _ _ _ hW hS (lv_sub hl [] rfl)
theorem c_X2_isMustered {σ : um_S} {r : Bool} (a1 : Int32) (a2 : Int32) (hX : um_X sh) (hf : f_X2_isMustered a1 a2 σ = some r) : um_M l yX2_isMustered cX2_isMustered 3 (some FieldType.boolean) (1) (24) Z sh α σ [.ref (α 6), .int a1, .int a2] (some (.int (um_b r))) σ :=
  um_start (by decide) (Nat.le_of_ble_eq_true rfl) (fun p e s m below meth c ls Cx hW hS hl => b_X2_isMustered a1 a2 hX hf Cx hW hS hl)
noncomputable def f_X5_set (h0 : Nat) (a1 : Int32) (a2 : Int32) (a3 : Int32) (σ : um_S) : Option (um_S) :=
    um_let ((a1 * (xw h0)) + a2) fun x1 =>
    (um_let (fun (x4 : Int32) =>
    (if x4 = 0 then
    (some σ)
    else
    (if x1 < 0 then
    (some σ)
    else
    (if (nI (xl h0)) ≤ x1 then
    (some σ)
    else
    (if um_ix x1 (xl h0) then
    (um_let (um_wr σ (h0 + 100) x1.toNatClampNeg a3) fun σ6 =>
    (some σ6)) else none))))) fun k3 =>
    (um_let (fun (_u : Unit) =>
    (k3 (0 : Int32))) fun k8 =>
    (if a1 < 0 then
    (k8 ())
    else
    (if a2 < 0 then
    (k8 ())
    else
    (if (xw h0) ≤ a2 then
    (k8 ())
    else
    (k3 (1 : Int32)))))))
set_option maxRecDepth 100000 in
set_option maxHeartbeats 4000000 in
theorem b_X5_set {H : Heap} {locs : List Loc} {ls : Array Slot} {σ : um_S} {σ' : um_S} (h0 : Nat) (a1 : Int32) (a2 : Int32) (a3 : Int32) (hh0 : xT h0 = true) (hX : um_X sh) (hf : f_X5_set h0 a1 a2 a3 σ = some σ') (Cx : um_C p s m meth c args cX5_set 6 none RX5 Z) (hW : um_W Z sh α σ H) (hS : va_S (um_D sh α) s.heap H locs) (hl : lv_has ls 6 [(0, .ref (α h0)), (1, .int a1), (2, .int a2), (3, .int a3)]) : um_G p l e (0) (0) s m args below meth c Z sh α σ' none H locs (F0 m 0 ls []) := by
  have hx := Cx.1
  have hb := Cx.2.1
  have hown := Cx.2.2.2.2.1
  have hts := Cx.2.2.2.2.2.1
  rw [f_X5_set] at hf
  refine lv_iload_n (pc := 0) hx hb dX5_set_0 rfl (lv_at hl 1 rfl) ?_
  refine lv_aload_n (pc := 1) hx hb dX5_set_1 rfl (lv_at hl 0 rfl) ?_
  refine gF_X5_15 (pc := 2) Cx hW (xs_tab hX hh0) rfl dX5_set_2 ?_
  refine lv_imul (pc := 5) hx hb dX5_set_5 ?_
  refine lv_iload_n (pc := 6) hx hb dX5_set_6 rfl (lv_at hl 2 rfl) ?_
  refine lv_iadd (pc := 7) hx hb dX5_set_7 ?_
  obtain ⟨x1, e2, hf⟩ := um_le hf
  refine um_top e2 ?_
  clear e2
  refine lv_istore (pc := 8) (lv' := [(4, .int x1), (0, .ref (α h0)), (1, .int a1), (2, .int a2), (3, .int a3)]) hx hb dX5_set_8 hl (by decide) rfl ?_
  clear hl
  intro ls hl
  refine lv_iload_n (pc := 10) hx hb dX5_set_10 rfl (lv_at hl 2 rfl) ?_
  obtain ⟨k3, hk3, hf⟩ := um_j1 hf
  have J3 : ∀ (x4 : Int32), k3 x4 = some σ' → ∀ (H : Heap) (locs : List Loc) (ls : Array Slot), um_W Z sh α σ H → va_S (um_D sh α) s.heap H locs → lv_has ls 6 [(0, .ref (α h0)), (3, .int a3), (4, .int x1)] → um_G p l e (0) (0) s m args below meth c Z sh α σ' none H locs (F0 m 31 ls [.int x4]) := by
    intro x4 hf H locs ls hW hS hl
    rw [hk3] at hf
    refine lv_istore (pc := 31) (lv' := [(5, .int x4), (0, .ref (α h0)), (3, .int a3), (4, .int x1)]) hx hb dX5_set_31 hl (by decide) rfl ?_
    clear hl
    intro ls hl
    refine lv_iload (pc := 33) hx hb dX5_set_33 (lv_at hl 0 rfl) ?_
    refine lv_if_eq (pc := 35) (tgt := 61) hx hb dX5_set_35 (by decide) (fun c1 => ?_) (fun c1 => ?_)
    · have hf := um_it c1 hf
      clear c1
      exact um_vret (pc := 61) Cx hW hS hf dX5_set_61
    · have hf := um_ie c1 hf
      clear c1
      refine lv_iload (pc := 38) hx hb dX5_set_38 (lv_at hl 3 rfl) ?_
      refine lv_if_lt (pc := 40) (tgt := 61) hx hb dX5_set_40 (by decide) (fun c1 => ?_) (fun c1 => ?_)
      · have hf := um_it c1 hf
        clear c1
        exact um_vret (pc := 61) Cx hW hS hf dX5_set_61
      · have hf := um_ie c1 hf
        clear c1
        refine lv_iload (pc := 43) hx hb dX5_set_43 (lv_at hl 3 rfl) ?_
        refine lv_aload_n (pc := 45) hx hb dX5_set_45 rfl (lv_at hl 1 rfl) ?_
        refine gF_X5_21 (pc := 46) Cx hW (xs_tab hX hh0) rfl dX5_set_46 ?_
        refine um_alen (pc := 49) (n := (xl h0)) Cx hW (xs_cel hX hh0) rfl (by decide) dX5_set_49 ?_
        refine lv_icmp_ge (pc := 50) (tgt := 61) hx hb dX5_set_50 (by decide) (fun c1 => ?_) (fun c1 => ?_)
        · have hf := um_it c1 hf
          clear c1
          exact um_vret (pc := 61) Cx hW hS hf dX5_set_61
        · have hf := um_ie c1 hf
          clear c1
          refine lv_aload_n (pc := 53) hx hb dX5_set_53 rfl (lv_at hl 1 rfl) ?_
          refine gF_X5_21 (pc := 54) Cx hW (xs_tab hX hh0) rfl dX5_set_54 ?_
          refine lv_iload (pc := 57) hx hb dX5_set_57 (lv_at hl 3 rfl) ?_
          refine lv_iload_n (pc := 59) hx hb dX5_set_59 rfl (lv_at hl 2 rfl) ?_
          obtain ⟨g5, hf⟩ := um_gu hf
          refine um_iast (pc := 60) Cx hW hS (xs_cel hX hh0) rfl (um_ix_in g5) dX5_set_60 ?_
          clear hW hS
          intro H locs hW hS
          obtain ⟨σ6, e7, hf⟩ := um_le hf
          rw [← e7] at hW
          clear e7
          exact um_vret (pc := 61) Cx hW hS hf dX5_set_61
  obtain ⟨k8, hk8, hf⟩ := um_j1 hf
  have J8 : ∀ (_u : Unit), k8 _u = some σ' → ∀ (H : Heap) (locs : List Loc) (ls : Array Slot), um_W Z sh α σ H → va_S (um_D sh α) s.heap H locs → lv_has ls 6 [(0, .ref (α h0)), (3, .int a3), (4, .int x1)] → um_G p l e (0) (0) s m args below meth c Z sh α σ' none H locs (F0 m 30 ls []) := by
    intro _u hf H locs ls hW hS hl
    rw [hk8] at hf
    refine lv_iconst (pc := 30) (v := (0 : Int32)) hx hb dX5_set_30 (by decide) ?_
    exact J3 (0 : Int32) hf _ _ _ hW hS hl
  refine lv_if_lt (pc := 11) (tgt := 30) hx hb dX5_set_11 (by decide) (fun c1 => ?_) (fun c1 => ?_)
  · have hf := um_it c1 hf
    clear c1
    exact J8 () hf _ _ _ hW hS (lv_sub hl [1, 4, 0] rfl)
  · have hf := um_ie c1 hf
    clear c1
    refine lv_iload_n (pc := 14) hx hb dX5_set_14 rfl (lv_at hl 3 rfl) ?_
    refine lv_if_lt (pc := 15) (tgt := 30) hx hb dX5_set_15 (by decide) (fun c1 => ?_) (fun c1 => ?_)
    · have hf := um_it c1 hf
      clear c1
      exact J8 () hf _ _ _ hW hS (lv_sub hl [1, 4, 0] rfl)
    · have hf := um_ie c1 hf
      clear c1
      refine lv_iload_n (pc := 18) hx hb dX5_set_18 rfl (lv_at hl 3 rfl) ?_
      refine lv_aload_n (pc := 19) hx hb dX5_set_19 rfl (lv_at hl 1 rfl) ?_
      refine gF_X5_15 (pc := 20) Cx hW (xs_tab hX hh0) rfl dX5_set_20 ?_
      refine lv_icmp_ge (pc := 23) (tgt := 30) hx hb dX5_set_23 (by decide) (fun c1 => ?_) (fun c1 => ?_)
      · have hf := um_it c1 hf
        clear c1
        exact J8 () hf _ _ _ hW hS (lv_sub hl [1, 4, 0] rfl)
      · have hf := um_ie c1 hf
        clear c1
        refine lv_iconst (pc := 26) (v := (1 : Int32)) hx hb dX5_set_26 (by decide) ?_
        refine lv_goto (pc := 27) (tgt := 31) hx hb dX5_set_27 (by decide) ?_
        exact J3 (1 : Int32) hf _ _ _ hW hS (lv_sub hl [1, 4, 0] rfl)
theorem c_X5_set {σ : um_S} {σ' : um_S} (h0 : Nat) (a1 : Int32) (a2 : Int32) (a3 : Int32) (hh0 : xT h0 = true) (hX : um_X sh) (hf : f_X5_set h0 a1 a2 a3 σ = some σ') : um_M l yX5_set cX5_set 6 none (0) (0) Z sh α σ [.ref (α h0), .int a1, .int a2, .int a3] none σ' :=
  um_start (by decide) (Nat.le_of_ble_eq_true rfl) (fun p e s m below meth c ls Cx hW hS hl => b_X5_set h0 a1 a2 a3 hh0 hX hf Cx hW hS hl)
noncomputable def f_X2_move_l3 (v1 : Int32) (v2 : Int32) (v3 : Int32) (v4 : Int32) (v5 : Int32) : Nat → Int32 → um_S → Option (um_S)
  | 0, _, _ => none
  | n + 1, v6, σ =>
    if v5 ≤ v6 then
    (some σ)
    else
    (if (nI 24) ≤ v6 then
    (some σ)
    else
    ((f_X5_get 15 v1 (v2 + v6) σ).bind fun x2 =>
    (if um_ix v6 24 then
    (um_let (um_wr σ 16 v6.toNatClampNeg x2) fun σ4 =>
    (f_X2_move_l3 v1 v2 v3 v4 v5 n (v6 + (1 : Int32)) σ4)) else none)))
noncomputable def f_X2_move_l48 (v3 : Int32) (v4 : Int32) (v5 : Int32) : Nat → Int32 → um_S → Option (um_S)
  | 0, _, _ => none
  | n + 1, v6, σ =>
    if v5 ≤ v6 then
    (some σ)
    else
    (if (nI 24) ≤ v6 then
    (some σ)
    else
    (if um_ix v6 24 then
    ((f_X5_set 15 v3 (v4 + v6) (σ.1 16 v6.toNatClampNeg) σ).bind fun σ3 =>
    (f_X2_move_l48 v3 v4 v5 n (v6 + (1 : Int32)) σ3)) else none))
noncomputable def f_X2_move (a1 : Int32) (a2 : Int32) (a3 : Int32) (a4 : Int32) (a5 : Int32) (σ : um_S) : Option (um_S) :=
    (f_X2_move_l3 a1 a2 a3 a4 a5 um_N (0 : Int32) σ).bind fun σ1 =>
    ((f_X2_move_l48 a3 a4 a5 um_N (0 : Int32) σ1).bind fun σ3 =>
    (some σ3))
set_option maxRecDepth 100000 in
set_option maxHeartbeats 4000000 in
theorem t_X2_move_l3 {Q : State → Prop} {σo : um_S} (v1 : Int32) (v2 : Int32) (v3 : Int32) (v4 : Int32) (v5 : Int32) (hX : um_X sh) (Cx : um_C p s m meth c args cX2_move 7 none RX2 Z) (hE : ∀ (H : Heap) (locs : List Loc) (ls : Array Slot), um_W Z sh α σo H → va_S (um_D sh α) s.heap H locs → lv_has ls 7 [(0, .ref (α 6)), (3, .int v3), (4, .int v4), (5, .int v5)] → W p l e { frames := 1, cells := 0, slots := 0, locals := 25 } s m args below meth c H locs 0 0 Q (F0 m 45 ls [])) : ∀ (n : Nat) (v6 : Int32) (σ : um_S) (H : Heap) (locs : List Loc) (ls : Array Slot), f_X2_move_l3 v1 v2 v3 v4 v5 n v6 σ = some σo → um_W Z sh α σ H → va_S (um_D sh α) s.heap H locs → lv_has ls 7 [(0, .ref (α 6)), (1, .int v1), (2, .int v2), (3, .int v3), (4, .int v4), (5, .int v5), (6, .int v6)] → W p l e { frames := 1, cells := 0, slots := 0, locals := 25 } s m args below meth c H locs 0 0 Q (F0 m 3 ls []) := by
  have hx := Cx.1
  have hb := Cx.2.1
  have hown := Cx.2.2.2.2.1
  have hts := Cx.2.2.2.2.2.1
  intro n
  induction n with
  | zero =>
    intro v6 σ H locs ls hf hW hS hl
    cases hf
  | succ n ih =>
    intro v6 σ H locs ls hf hW hS hl
    rw [f_X2_move_l3] at hf
    refine lv_iload (pc := 3) hx hb dX2_move_3 (lv_at hl 6 rfl) ?_
    refine lv_iload (pc := 5) hx hb dX2_move_5 (lv_at hl 5 rfl) ?_
    refine lv_icmp_ge (pc := 7) (tgt := 45) hx hb dX2_move_7 (by decide) (fun c1 => ?_) (fun c1 => ?_)
    · have hf := um_it c1 hf
      clear c1
      cases hf
      exact hE _ _ _ hW hS (lv_sub hl [0, 3, 4, 5] rfl)
    · have hf := um_ie c1 hf
      clear c1
      refine lv_iload (pc := 10) hx hb dX2_move_10 (lv_at hl 6 rfl) ?_
      refine lv_aload_n (pc := 12) hx hb dX2_move_12 rfl (lv_at hl 0 rfl) ?_
      refine gF_X2_27 (pc := 13) Cx hW (hX 6 _ rfl) rfl dX2_move_13 ?_
      refine um_alen (pc := 16) (n := 24) Cx hW (hX 16 _ rfl) rfl (by decide) dX2_move_16 ?_
      refine lv_icmp_ge (pc := 17) (tgt := 45) hx hb dX2_move_17 (by decide) (fun c1 => ?_) (fun c1 => ?_)
      · have hf := um_it c1 hf
        clear c1
        cases hf
        exact hE _ _ _ hW hS (lv_sub hl [0, 3, 4, 5] rfl)
      · have hf := um_ie c1 hf
        clear c1
        refine lv_aload_n (pc := 20) hx hb dX2_move_20 rfl (lv_at hl 0 rfl) ?_
        refine gF_X2_27 (pc := 21) Cx hW (hX 6 _ rfl) rfl dX2_move_21 ?_
        refine lv_iload (pc := 24) hx hb dX2_move_24 (lv_at hl 6 rfl) ?_
        refine lv_aload_n (pc := 26) hx hb dX2_move_26 rfl (lv_at hl 0 rfl) ?_
        refine gF_X2_24 (pc := 27) Cx hW (hX 6 _ rfl) rfl dX2_move_27 ?_
        refine lv_iload_n (pc := 30) hx hb dX2_move_30 rfl (lv_at hl 1 rfl) ?_
        refine lv_iload_n (pc := 31) hx hb dX2_move_31 rfl (lv_at hl 2 rfl) ?_
        refine lv_iload (pc := 32) hx hb dX2_move_32 (lv_at hl 6 rfl) ?_
        refine lv_iadd (pc := 34) hx hb dX2_move_34 ?_
        obtain ⟨x2, hc1, hf⟩ := um_bi hf
        refine um_cVi (pc := 35) (As := [.int v1, .int (v2 + v6)]) (rest := [.int v6, .ref (α 16)]) Cx (c_X5_get 15 v1 (v2 + v6) rfl hX hc1) kV_X5_get (Or.inl qM_X2_34) hW hS (xs_tab hX rfl) rfl rfl hl rfl (Nat.le_of_ble_eq_true rfl) (Nat.le_of_ble_eq_true rfl) (Nat.le_of_ble_eq_true rfl) dX2_move_35 (Nat.le_refl _) (Nat.le_refl _) ?_
        clear hW hS hc1
        intro H locs hW hS
        obtain ⟨g3, hf⟩ := um_gu hf
        refine um_iast (pc := 38) Cx hW hS (hX 16 _ rfl) rfl (um_ix_in g3) dX2_move_38 ?_
        clear hW hS
        intro H locs hW hS
        obtain ⟨σ4, e5, hf⟩ := um_le hf
        rw [← e5] at hW
        clear e5
        refine lv_iinc (pc := 39) (v := v6 + (1 : Int32)) (lv' := [(6, .int (v6 + (1 : Int32))), (0, .ref (α 6)), (1, .int v1), (2, .int v2), (3, .int v3), (4, .int v4), (5, .int v5)]) hx hb dX2_move_39 hl (k := 6) rfl rfl (by decide) rfl ?_
        clear hl
        intro ls hl
        refine lv_goto (pc := 42) (tgt := 3) hx hb dX2_move_42 (by decide) ?_
        exact ih _ _ _ _ _ hf hW hS (lv_sub hl [1, 2, 3, 4, 5, 6, 0] rfl)
set_option maxRecDepth 100000 in
set_option maxHeartbeats 4000000 in
theorem t_X2_move_l48 {Q : State → Prop} {σo : um_S} (v3 : Int32) (v4 : Int32) (v5 : Int32) (hX : um_X sh) (Cx : um_C p s m meth c args cX2_move 7 none RX2 Z) (hE : ∀ (H : Heap) (locs : List Loc) (ls : Array Slot), um_W Z sh α σo H → va_S (um_D sh α) s.heap H locs → lv_has ls 7 [] → W p l e { frames := 1, cells := 0, slots := 0, locals := 25 } s m args below meth c H locs 0 0 Q (F0 m 91 ls [])) : ∀ (n : Nat) (v6 : Int32) (σ : um_S) (H : Heap) (locs : List Loc) (ls : Array Slot), f_X2_move_l48 v3 v4 v5 n v6 σ = some σo → um_W Z sh α σ H → va_S (um_D sh α) s.heap H locs → lv_has ls 7 [(0, .ref (α 6)), (3, .int v3), (4, .int v4), (5, .int v5), (6, .int v6)] → W p l e { frames := 1, cells := 0, slots := 0, locals := 25 } s m args below meth c H locs 0 0 Q (F0 m 48 ls []) := by
  have hx := Cx.1
  have hb := Cx.2.1
  have hown := Cx.2.2.2.2.1
  have hts := Cx.2.2.2.2.2.1
  intro n
  induction n with
  | zero =>
    intro v6 σ H locs ls hf hW hS hl
    cases hf
  | succ n ih =>
    intro v6 σ H locs ls hf hW hS hl
    rw [f_X2_move_l48] at hf
    refine lv_iload (pc := 48) hx hb dX2_move_48 (lv_at hl 4 rfl) ?_
    refine lv_iload (pc := 50) hx hb dX2_move_50 (lv_at hl 3 rfl) ?_
    refine lv_icmp_ge (pc := 52) (tgt := 91) hx hb dX2_move_52 (by decide) (fun c1 => ?_) (fun c1 => ?_)
    · have hf := um_it c1 hf
      clear c1
      cases hf
      exact hE _ _ _ hW hS (lv_sub hl [] rfl)
    · have hf := um_ie c1 hf
      clear c1
      refine lv_iload (pc := 55) hx hb dX2_move_55 (lv_at hl 4 rfl) ?_
      refine lv_aload_n (pc := 57) hx hb dX2_move_57 rfl (lv_at hl 0 rfl) ?_
      refine gF_X2_27 (pc := 58) Cx hW (hX 6 _ rfl) rfl dX2_move_58 ?_
      refine um_alen (pc := 61) (n := 24) Cx hW (hX 16 _ rfl) rfl (by decide) dX2_move_61 ?_
      refine lv_icmp_ge (pc := 62) (tgt := 91) hx hb dX2_move_62 (by decide) (fun c1 => ?_) (fun c1 => ?_)
      · have hf := um_it c1 hf
        clear c1
        cases hf
        exact hE _ _ _ hW hS (lv_sub hl [] rfl)
      · have hf := um_ie c1 hf
        clear c1
        refine lv_aload_n (pc := 65) hx hb dX2_move_65 rfl (lv_at hl 0 rfl) ?_
        refine gF_X2_24 (pc := 66) Cx hW (hX 6 _ rfl) rfl dX2_move_66 ?_
        refine lv_iload_n (pc := 69) hx hb dX2_move_69 rfl (lv_at hl 1 rfl) ?_
        refine lv_iload (pc := 70) hx hb dX2_move_70 (lv_at hl 2 rfl) ?_
        refine lv_iload (pc := 72) hx hb dX2_move_72 (lv_at hl 4 rfl) ?_
        refine lv_iadd (pc := 74) hx hb dX2_move_74 ?_
        refine lv_aload_n (pc := 75) hx hb dX2_move_75 rfl (lv_at hl 0 rfl) ?_
        refine gF_X2_27 (pc := 76) Cx hW (hX 6 _ rfl) rfl dX2_move_76 ?_
        refine lv_iload (pc := 79) hx hb dX2_move_79 (lv_at hl 4 rfl) ?_
        obtain ⟨g1, hf⟩ := um_gu hf
        refine um_iald (pc := 81) Cx hW (hX 16 _ rfl) rfl (um_ix_in g1) dX2_move_81 ?_
        obtain ⟨σ3, hc2, hf⟩ := um_bi hf
        refine um_cVv (pc := 82) (As := [.int v3, .int (v4 + v6), .int (σ.1 16 v6.toNatClampNeg)]) (rest := []) Cx (c_X5_set 15 v3 (v4 + v6) (σ.1 16 v6.toNatClampNeg) rfl hX hc2) kV_X5_set (Or.inl qM_X2_52) hW hS (xs_tab hX rfl) rfl rfl hl rfl (Nat.le_of_ble_eq_true rfl) (Nat.le_of_ble_eq_true rfl) (Nat.le_of_ble_eq_true rfl) dX2_move_82 (Nat.le_refl _) (Nat.le_refl _) ?_
        clear hW hS hc2
        intro H locs hW hS
        refine lv_iinc (pc := 85) (v := v6 + (1 : Int32)) (lv' := [(6, .int (v6 + (1 : Int32))), (0, .ref (α 6)), (3, .int v3), (4, .int v4), (5, .int v5)]) hx hb dX2_move_85 hl (k := 4) rfl rfl (by decide) rfl ?_
        clear hl
        intro ls hl
        refine lv_goto (pc := 88) (tgt := 48) hx hb dX2_move_88 (by decide) ?_
        exact ih _ _ _ _ _ hf hW hS (lv_sub hl [1, 2, 3, 4, 0] rfl)
set_option maxRecDepth 100000 in
set_option maxHeartbeats 4000000 in
theorem b_X2_move {H : Heap} {locs : List Loc} {ls : Array Slot} {σ : um_S} {σ' : um_S} (a1 : Int32) (a2 : Int32) (a3 : Int32) (a4 : Int32) (a5 : Int32) (hX : um_X sh) (hf : f_X2_move a1 a2 a3 a4 a5 σ = some σ') (Cx : um_C p s m meth c args cX2_move 7 none RX2 Z) (hW : um_W Z sh α σ H) (hS : va_S (um_D sh α) s.heap H locs) (hl : lv_has ls 7 [(0, .ref (α 6)), (1, .int a1), (2, .int a2), (3, .int a3), (4, .int a4), (5, .int a5)]) : um_G p l e (1) (25) s m args below meth c Z sh α σ' none H locs (F0 m 0 ls []) := by
  have hx := Cx.1
  have hb := Cx.2.1
  have hown := Cx.2.2.2.2.1
  have hts := Cx.2.2.2.2.2.1
  rw [f_X2_move] at hf
  refine lv_iconst (pc := 0) (v := (0 : Int32)) hx hb dX2_move_0 (by decide) ?_
  refine lv_istore (pc := 1) (lv' := [(6, .int (0 : Int32)), (0, .ref (α 6)), (1, .int a1), (2, .int a2), (3, .int a3), (4, .int a4), (5, .int a5)]) hx hb dX2_move_1 hl (by decide) rfl ?_
  clear hl
  intro ls hl
  obtain ⟨σ1, hc2, hf⟩ := um_bi hf
  refine t_X2_move_l3 a1 a2 a3 a4 a5 hX Cx ?_ um_N _ _ _ _ _ hc2 hW hS (lv_sub hl [1, 2, 3, 4, 5, 6, 0] rfl)
  clear hW hS hl hc2
  intro H locs ls hW hS hl
  refine lv_iconst (pc := 45) (v := (0 : Int32)) hx hb dX2_move_45 (by decide) ?_
  refine lv_istore (pc := 46) (lv' := [(6, .int (0 : Int32)), (0, .ref (α 6)), (3, .int a3), (4, .int a4), (5, .int a5)]) hx hb dX2_move_46 hl (by decide) rfl ?_
  clear hl
  intro ls hl
  obtain ⟨σ3, hc4, hf⟩ := um_bi hf
  refine t_X2_move_l48 a3 a4 a5 hX Cx ?_ um_N _ _ _ _ _ hc4 hW hS (lv_sub hl [1, 2, 3, 4, 0] rfl)
  clear hW hS hl hc4
  intro H locs ls hW hS hl
  exact um_vret (pc := 91) Cx hW hS hf dX2_move_91
theorem c_X2_move {σ : um_S} {σ' : um_S} (a1 : Int32) (a2 : Int32) (a3 : Int32) (a4 : Int32) (a5 : Int32) (hX : um_X sh) (hf : f_X2_move a1 a2 a3 a4 a5 σ = some σ') : um_M l yX2_move cX2_move 7 none (1) (25) Z sh α σ [.ref (α 6), .int a1, .int a2, .int a3, .int a4, .int a5] none σ' :=
  um_start (by decide) (Nat.le_of_ble_eq_true rfl) (fun p e s m below meth c ls Cx hW hS hl => b_X2_move a1 a2 a3 a4 a5 hX hf Cx hW hS hl)
noncomputable def f_X2_nearest_l2 (v2 : Int32) (σ : um_S) : Nat → Int32 → Option ((Int32) ⊕ (Unit))
  | 0, _ => none
  | n + 1, v3 =>
    if v3 < 0 then
    (some (.inr ()))
    else
    ((f_X2_finding v3 v2 σ).bind fun x2 =>
    (if x2 = 0 then
    ((f_X2_isMustered v3 v2 σ).bind fun x4 =>
    (if (um_b x4) = 0 then
    (f_X2_nearest_l2 v2 σ n (v3 + (-1 : Int32)))
    else
    ((f_X5_get 15 v3 v2 σ).bind fun x6 =>
    (some (.inl x6)))))
    else
    (f_X2_nearest_l2 v2 σ n (v3 + (-1 : Int32)))))
noncomputable def f_X2_nearest (a1 : Int32) (a2 : Int32) (σ : um_S) : Option (Int32) :=
    um_s0 (f_X2_nearest_l2 a2 σ um_N a1) 
    (some (-1000000012 : Int32))
set_option maxRecDepth 100000 in
set_option maxHeartbeats 4000000 in
theorem t_X2_nearest_l2 {r : Int32} {out : (Int32) ⊕ (Unit)}  {σ : um_S} (v2 : Int32) (hX : um_X sh) (Cx : um_C p s m meth c args cX2_nearest 4 (some FieldType.int) RX2 Z) (hR : ∀ a, out = .inl a → some a = some r) (hE : out = .inr () → ∀ (H : Heap) (locs : List Loc) (ls : Array Slot), um_W Z sh α σ H → va_S (um_D sh α) s.heap H locs → lv_has ls 4 [] → um_G p l e (3) (70) s m args below meth c Z sh α σ (some (.int r)) H locs (F0 m 40 ls [])) : ∀ (n : Nat) (v3 : Int32) (H : Heap) (locs : List Loc) (ls : Array Slot), f_X2_nearest_l2 v2 σ n v3 = some out → um_W Z sh α σ H → va_S (um_D sh α) s.heap H locs → lv_has ls 4 [(0, .ref (α 6)), (2, .int v2), (3, .int v3)] → um_G p l e (3) (70) s m args below meth c Z sh α σ (some (.int r)) H locs (F0 m 2 ls []) := by
  have hx := Cx.1
  have hb := Cx.2.1
  have hown := Cx.2.2.2.2.1
  have hts := Cx.2.2.2.2.2.1
  intro n
  induction n with
  | zero =>
    intro v3 H locs ls hf hW hS hl
    cases hf
  | succ n ih =>
    intro v3 H locs ls hf hW hS hl
    rw [f_X2_nearest_l2] at hf
    refine lv_iload_n (pc := 2) hx hb dX2_nearest_2 rfl (lv_at hl 2 rfl) ?_
    refine lv_if_lt (pc := 3) (tgt := 40) hx hb dX2_nearest_3 (by decide) (fun c1 => ?_) (fun c1 => ?_)
    · have hf := um_it c1 hf
      clear c1
      exact hE (Option.some.inj hf).symm _ _ _ hW hS (lv_sub hl [] rfl)
    · have hf := um_ie c1 hf
      clear c1
      refine lv_aload_n (pc := 6) hx hb dX2_nearest_6 rfl (lv_at hl 0 rfl) ?_
      refine lv_iload_n (pc := 7) hx hb dX2_nearest_7 rfl (lv_at hl 2 rfl) ?_
      refine lv_iload_n (pc := 8) hx hb dX2_nearest_8 rfl (lv_at hl 1 rfl) ?_
      obtain ⟨x2, hc1, hf⟩ := um_bi hf
      refine um_cVi (pc := 9) (As := [.int v3, .int v2]) (rest := []) Cx (c_X2_finding v3 v2 hX hc1) kV_X2_finding (Or.inl qM_X2_56) hW hS (hX 6 _ rfl) rfl rfl hl rfl (Nat.le_of_ble_eq_true rfl) (Nat.le_of_ble_eq_true rfl) (Nat.le_of_ble_eq_true rfl) dX2_nearest_9 (Nat.le_refl _) (Nat.le_refl _) ?_
      clear hW hS hc1
      intro H locs hW hS
      refine lv_if_ne (pc := 12) (tgt := 34) hx hb dX2_nearest_12 (by decide) (fun c1 => ?_) (fun c1 => ?_)
      · have hf := um_ie c1 hf
        clear c1
        refine lv_iinc (pc := 34) (v := v3 + (-1 : Int32)) (lv' := [(3, .int (v3 + (-1 : Int32))), (0, .ref (α 6)), (2, .int v2)]) hx hb dX2_nearest_34 hl (k := 2) rfl rfl (by decide) rfl ?_
        clear hl
        intro ls hl
        refine lv_goto (pc := 37) (tgt := 2) hx hb dX2_nearest_37 (by decide) ?_
        exact ih _ _ _ _ hf hW hS (lv_sub hl [1, 2, 0] rfl)
      · have hf := um_it c1 hf
        clear c1
        refine lv_aload_n (pc := 15) hx hb dX2_nearest_15 rfl (lv_at hl 0 rfl) ?_
        refine lv_iload_n (pc := 16) hx hb dX2_nearest_16 rfl (lv_at hl 2 rfl) ?_
        refine lv_iload_n (pc := 17) hx hb dX2_nearest_17 rfl (lv_at hl 1 rfl) ?_
        obtain ⟨x4, hc3, hf⟩ := um_bi hf
        refine um_cVi (pc := 18) (As := [.int v3, .int v2]) (rest := []) Cx (c_X2_isMustered v3 v2 hX hc3) kV_X2_isMustered (Or.inl qM_X2_59) hW hS (hX 6 _ rfl) rfl rfl hl rfl (Nat.le_of_ble_eq_true rfl) (Nat.le_of_ble_eq_true rfl) (Nat.le_of_ble_eq_true rfl) dX2_nearest_18 (Nat.le_refl _) (Nat.le_refl _) ?_
        clear hW hS hc3
        intro H locs hW hS
        refine lv_if_eq (pc := 21) (tgt := 34) hx hb dX2_nearest_21 (by decide) (fun c1 => ?_) (fun c1 => ?_)
        · have hf := um_it c1 hf
          clear c1
          refine lv_iinc (pc := 34) (v := v3 + (-1 : Int32)) (lv' := [(3, .int (v3 + (-1 : Int32))), (0, .ref (α 6)), (2, .int v2)]) hx hb dX2_nearest_34 hl (k := 2) rfl rfl (by decide) rfl ?_
          clear hl
          intro ls hl
          refine lv_goto (pc := 37) (tgt := 2) hx hb dX2_nearest_37 (by decide) ?_
          exact ih _ _ _ _ hf hW hS (lv_sub hl [1, 2, 0] rfl)
        · have hf := um_ie c1 hf
          clear c1
          refine lv_aload_n (pc := 24) hx hb dX2_nearest_24 rfl (lv_at hl 0 rfl) ?_
          refine gF_X2_24 (pc := 25) Cx hW (hX 6 _ rfl) rfl dX2_nearest_25 ?_
          refine lv_iload_n (pc := 28) hx hb dX2_nearest_28 rfl (lv_at hl 2 rfl) ?_
          refine lv_iload_n (pc := 29) hx hb dX2_nearest_29 rfl (lv_at hl 1 rfl) ?_
          obtain ⟨x6, hc5, hf⟩ := um_bi hf
          refine um_cVi (pc := 30) (As := [.int v3, .int v2]) (rest := []) Cx (c_X5_get 15 v3 v2 rfl hX hc5) kV_X5_get (Or.inl qM_X2_34) hW hS (xs_tab hX rfl) rfl rfl hl rfl (Nat.le_of_ble_eq_true rfl) (Nat.le_of_ble_eq_true rfl) (Nat.le_of_ble_eq_true rfl) dX2_nearest_30 (Nat.le_refl _) (Nat.le_refl _) ?_
          clear hW hS hc5
          intro H locs hW hS
          exact um_iretR (pc := 33) Cx hW hS (hR _ (Option.some.inj hf).symm) dX2_nearest_33
set_option maxRecDepth 100000 in
set_option maxHeartbeats 4000000 in
theorem b_X2_nearest {H : Heap} {locs : List Loc} {ls : Array Slot} {σ : um_S} {r : Int32} (a1 : Int32) (a2 : Int32) (hX : um_X sh) (hf : f_X2_nearest a1 a2 σ = some r) (Cx : um_C p s m meth c args cX2_nearest 4 (some FieldType.int) RX2 Z) (hW : um_W Z sh α σ H) (hS : va_S (um_D sh α) s.heap H locs) (hl : lv_has ls 4 [(0, .ref (α 6)), (1, .int a1), (2, .int a2)]) : um_G p l e (3) (70) s m args below meth c Z sh α σ (some (.int r)) H locs (F0 m 0 ls []) := by
  have hx := Cx.1
  have hb := Cx.2.1
  have hown := Cx.2.2.2.2.1
  have hts := Cx.2.2.2.2.2.1
  rw [f_X2_nearest] at hf
  refine lv_iload_n (pc := 0) hx hb dX2_nearest_0 rfl (lv_at hl 1 rfl) ?_
  refine lv_istore_n (pc := 1) (lv' := [(3, .int a1), (0, .ref (α 6)), (1, .int a1), (2, .int a2)]) hx hb dX2_nearest_1 rfl hl (by decide) rfl ?_
  clear hl
  intro ls hl
  obtain ⟨q2, hc1, hr3, hg4⟩ := um_si0 hf
  refine t_X2_nearest_l2 a2 hX Cx hr3 ?_ um_N _ _ _ _ hc1 hW hS (lv_sub hl [1, 3, 0] rfl)
  clear hW hS hl hc1
  intro  hq5 H locs ls hW hS hl
  have hf := hg4 hq5
  refine lv_ldc (pc := 40) hx hb hown (hts _ qC_X2_63) dX2_nearest_40 ?_
  exact um_iretR (pc := 42) Cx hW hS hf dX2_nearest_42
theorem c_X2_nearest {σ : um_S} {r : Int32} (a1 : Int32) (a2 : Int32) (hX : um_X sh) (hf : f_X2_nearest a1 a2 σ = some r) : um_M l yX2_nearest cX2_nearest 4 (some FieldType.int) (3) (70) Z sh α σ [.ref (α 6), .int a1, .int a2] (some (.int r)) σ :=
  um_start (by decide) (Nat.le_of_ble_eq_true rfl) (fun p e s m below meth c ls Cx hW hS hl => b_X2_nearest a1 a2 hX hf Cx hW hS hl)
noncomputable def f_X2_shape_l33 (v1 : Int32) (v3 : Int32) : Nat → Int32 → um_S → Option (um_S)
  | 0, _, _ => none
  | n + 1, v4, σ =>
    if (24 : Int32) ≤ v4 then
    (some σ)
    else
    ((f_X5_set 15 v1 v4 (0 : Int32) σ).bind fun σ2 =>
    (f_X2_shape_l33 v1 v3 n (v4 + (1 : Int32)) σ2))
noncomputable def f_X2_shape (a1 : Int32) (a2 : Int32) (a3 : Int32) (σ : um_S) : Option (Int32 × um_S) :=
    um_let (fun (σ2 : um_S) =>
    ((f_X5_set 14 a1 (0 : Int32) a3 σ2).bind fun σ4 =>
    ((f_X2_shape_l33 a1 a3 um_N (0 : Int32) σ4).bind fun σ5 =>
    (some (a3, σ5))))) fun k1 =>
    (if a1 < 0 then
    (k1 σ)
    else
    (if (nI 4) ≤ a1 then
    (k1 σ)
    else
    (if um_ix a1 4 then
    (um_let (um_wr σ 13 a1.toNatClampNeg a2) fun σ8 =>
    (k1 σ8)) else none)))
set_option maxRecDepth 100000 in
set_option maxHeartbeats 4000000 in
theorem t_X2_shape_l33 {Q : State → Prop} {σo : um_S} (v1 : Int32) (v3 : Int32) (hX : um_X sh) (Cx : um_C p s m meth c args cX2_shape 5 (some FieldType.int) RX2 Z) (hE : ∀ (H : Heap) (locs : List Loc) (ls : Array Slot), um_W Z sh α σo H → va_S (um_D sh α) s.heap H locs → lv_has ls 5 [(3, .int v3)] → W p l e { frames := 1, cells := 0, slots := 0, locals := 25 } s m args below meth c H locs 0 0 Q (F0 m 57 ls [])) : ∀ (n : Nat) (v4 : Int32) (σ : um_S) (H : Heap) (locs : List Loc) (ls : Array Slot), f_X2_shape_l33 v1 v3 n v4 σ = some σo → um_W Z sh α σ H → va_S (um_D sh α) s.heap H locs → lv_has ls 5 [(0, .ref (α 6)), (1, .int v1), (3, .int v3), (4, .int v4)] → W p l e { frames := 1, cells := 0, slots := 0, locals := 25 } s m args below meth c H locs 0 0 Q (F0 m 33 ls []) := by
  have hx := Cx.1
  have hb := Cx.2.1
  have hown := Cx.2.2.2.2.1
  have hts := Cx.2.2.2.2.2.1
  intro n
  induction n with
  | zero =>
    intro v4 σ H locs ls hf hW hS hl
    cases hf
  | succ n ih =>
    intro v4 σ H locs ls hf hW hS hl
    rw [f_X2_shape_l33] at hf
    refine lv_iload (pc := 33) hx hb dX2_shape_33 (lv_at hl 3 rfl) ?_
    refine lv_bipush (pc := 35) (v := (24 : Int32)) hx hb dX2_shape_35 (by decide) ?_
    refine lv_icmp_ge (pc := 37) (tgt := 57) hx hb dX2_shape_37 (by decide) (fun c1 => ?_) (fun c1 => ?_)
    · have hf := um_it c1 hf
      clear c1
      cases hf
      exact hE _ _ _ hW hS (lv_sub hl [2] rfl)
    · have hf := um_ie c1 hf
      clear c1
      refine lv_aload_n (pc := 40) hx hb dX2_shape_40 rfl (lv_at hl 0 rfl) ?_
      refine gF_X2_24 (pc := 41) Cx hW (hX 6 _ rfl) rfl dX2_shape_41 ?_
      refine lv_iload_n (pc := 44) hx hb dX2_shape_44 rfl (lv_at hl 1 rfl) ?_
      refine lv_iload (pc := 45) hx hb dX2_shape_45 (lv_at hl 3 rfl) ?_
      refine lv_iconst (pc := 47) (v := (0 : Int32)) hx hb dX2_shape_47 (by decide) ?_
      obtain ⟨σ2, hc1, hf⟩ := um_bi hf
      refine um_cVv (pc := 48) (As := [.int v1, .int v4, .int (0 : Int32)]) (rest := []) Cx (c_X5_set 15 v1 v4 (0 : Int32) rfl hX hc1) kV_X5_set (Or.inl qM_X2_52) hW hS (xs_tab hX rfl) rfl rfl hl rfl (Nat.le_of_ble_eq_true rfl) (Nat.le_of_ble_eq_true rfl) (Nat.le_of_ble_eq_true rfl) dX2_shape_48 (Nat.le_refl _) (Nat.le_refl _) ?_
      clear hW hS hc1
      intro H locs hW hS
      refine lv_iinc (pc := 51) (v := v4 + (1 : Int32)) (lv' := [(4, .int (v4 + (1 : Int32))), (0, .ref (α 6)), (1, .int v1), (3, .int v3)]) hx hb dX2_shape_51 hl (k := 3) rfl rfl (by decide) rfl ?_
      clear hl
      intro ls hl
      refine lv_goto (pc := 54) (tgt := 33) hx hb dX2_shape_54 (by decide) ?_
      exact ih _ _ _ _ _ hf hW hS (lv_sub hl [1, 2, 3, 0] rfl)
set_option maxRecDepth 100000 in
set_option maxHeartbeats 4000000 in
theorem b_X2_shape {H : Heap} {locs : List Loc} {ls : Array Slot} {σ : um_S} {σ' : um_S} {r : Int32} (a1 : Int32) (a2 : Int32) (a3 : Int32) (hX : um_X sh) (hf : f_X2_shape a1 a2 a3 σ = some (r, σ')) (Cx : um_C p s m meth c args cX2_shape 5 (some FieldType.int) RX2 Z) (hW : um_W Z sh α σ H) (hS : va_S (um_D sh α) s.heap H locs) (hl : lv_has ls 5 [(0, .ref (α 6)), (1, .int a1), (2, .int a2), (3, .int a3)]) : um_G p l e (1) (25) s m args below meth c Z sh α σ' (some (.int r)) H locs (F0 m 0 ls []) := by
  have hx := Cx.1
  have hb := Cx.2.1
  have hown := Cx.2.2.2.2.1
  have hts := Cx.2.2.2.2.2.1
  rw [f_X2_shape] at hf
  refine lv_iload_n (pc := 0) hx hb dX2_shape_0 rfl (lv_at hl 1 rfl) ?_
  obtain ⟨k1, hk1, hf⟩ := um_j1 hf
  have J1 : ∀ (σ2 : um_S), k1 σ2 = some (r, σ') → ∀ (H : Heap) (locs : List Loc) (ls : Array Slot), um_W Z sh α σ2 H → va_S (um_D sh α) s.heap H locs → lv_has ls 5 [(0, .ref (α 6)), (1, .int a1), (3, .int a3)] → um_G p l e (1) (25) s m args below meth c Z sh α σ' (some (.int r)) H locs (F0 m 20 ls []) := by
    intro σ2 hf H locs ls hW hS hl
    rw [hk1] at hf
    refine lv_aload_n (pc := 20) hx hb dX2_shape_20 rfl (lv_at hl 0 rfl) ?_
    refine gF_X2_20 (pc := 21) Cx hW (hX 6 _ rfl) rfl dX2_shape_21 ?_
    refine lv_iload_n (pc := 24) hx hb dX2_shape_24 rfl (lv_at hl 1 rfl) ?_
    refine lv_iconst (pc := 25) (v := (0 : Int32)) hx hb dX2_shape_25 (by decide) ?_
    refine lv_iload_n (pc := 26) hx hb dX2_shape_26 rfl (lv_at hl 2 rfl) ?_
    obtain ⟨σ4, hc3, hf⟩ := um_bi hf
    refine um_cVv (pc := 27) (As := [.int a1, .int (0 : Int32), .int a3]) (rest := []) Cx (c_X5_set 14 a1 (0 : Int32) a3 rfl hX hc3) kV_X5_set (Or.inl qM_X2_52) hW hS (xs_tab hX rfl) rfl rfl hl rfl (Nat.le_of_ble_eq_true rfl) (Nat.le_of_ble_eq_true rfl) (Nat.le_of_ble_eq_true rfl) dX2_shape_27 (Nat.le_refl _) (Nat.le_refl _) ?_
    clear hW hS hc3
    intro H locs hW hS
    refine lv_iconst (pc := 30) (v := (0 : Int32)) hx hb dX2_shape_30 (by decide) ?_
    refine lv_istore (pc := 31) (lv' := [(4, .int (0 : Int32)), (0, .ref (α 6)), (1, .int a1), (3, .int a3)]) hx hb dX2_shape_31 hl (by decide) rfl ?_
    clear hl
    intro ls hl
    obtain ⟨σ5, hc6, hf⟩ := um_bi hf
    refine t_X2_shape_l33 a1 a3 hX Cx ?_ um_N _ _ _ _ _ hc6 hW hS (lv_sub hl [1, 2, 3, 0] rfl)
    clear hW hS hl hc6
    intro H locs ls hW hS hl
    refine lv_iload_n (pc := 57) hx hb dX2_shape_57 rfl (lv_at hl 0 rfl) ?_
    exact um_iret (pc := 58) Cx hW hS hf dX2_shape_58
  refine lv_if_lt (pc := 1) (tgt := 20) hx hb dX2_shape_1 (by decide) (fun c1 => ?_) (fun c1 => ?_)
  · have hf := um_it c1 hf
    clear c1
    exact J1 σ hf _ _ _ hW hS (lv_sub hl [0, 1, 3] rfl)
  · have hf := um_ie c1 hf
    clear c1
    refine lv_iload_n (pc := 4) hx hb dX2_shape_4 rfl (lv_at hl 1 rfl) ?_
    refine lv_aload_n (pc := 5) hx hb dX2_shape_5 rfl (lv_at hl 0 rfl) ?_
    refine gF_X2_11 (pc := 6) Cx hW (hX 6 _ rfl) rfl dX2_shape_6 ?_
    refine um_alen (pc := 9) (n := 4) Cx hW (hX 13 _ rfl) rfl (by decide) dX2_shape_9 ?_
    refine lv_icmp_ge (pc := 10) (tgt := 20) hx hb dX2_shape_10 (by decide) (fun c1 => ?_) (fun c1 => ?_)
    · have hf := um_it c1 hf
      clear c1
      exact J1 σ hf _ _ _ hW hS (lv_sub hl [0, 1, 3] rfl)
    · have hf := um_ie c1 hf
      clear c1
      refine lv_aload_n (pc := 13) hx hb dX2_shape_13 rfl (lv_at hl 0 rfl) ?_
      refine gF_X2_11 (pc := 14) Cx hW (hX 6 _ rfl) rfl dX2_shape_14 ?_
      refine lv_iload_n (pc := 17) hx hb dX2_shape_17 rfl (lv_at hl 1 rfl) ?_
      refine lv_iload_n (pc := 18) hx hb dX2_shape_18 rfl (lv_at hl 2 rfl) ?_
      obtain ⟨g7, hf⟩ := um_gu hf
      refine um_iast (pc := 19) Cx hW hS (hX 13 _ rfl) rfl (um_ix_in g7) dX2_shape_19 ?_
      clear hW hS
      intro H locs hW hS
      obtain ⟨σ8, e9, hf⟩ := um_le hf
      rw [← e9] at hW
      clear e9
      exact J1 σ8 hf _ _ _ hW hS (lv_sub hl [0, 1, 3] rfl)
theorem c_X2_shape {σ : um_S} {σ' : um_S} {r : Int32} (a1 : Int32) (a2 : Int32) (a3 : Int32) (hX : um_X sh) (hf : f_X2_shape a1 a2 a3 σ = some (r, σ')) : um_M l yX2_shape cX2_shape 5 (some FieldType.int) (1) (25) Z sh α σ [.ref (α 6), .int a1, .int a2, .int a3] (some (.int r)) σ' :=
  um_start (by decide) (Nat.le_of_ble_eq_true rfl) (fun p e s m below meth c ls Cx hW hS hl => b_X2_shape a1 a2 a3 hX hf Cx hW hS hl)
noncomputable def f_X2_write (a1 : Int32) (a2 : Int32) (a3 : Int32) (σ : um_S) : Option (um_S) :=
    (f_X2_sortOf a1 σ).bind fun x2 =>
    (if x2 = 0 then
    ((f_X5_set 15 a1 a2 (a3.toInt8.toInt32) σ).bind fun σ6 =>
    (some σ6))
    else
    ((f_X5_set 15 a1 a2 (a3.toInt16.toInt32) σ).bind fun σ4 =>
    (some σ4)))
set_option maxRecDepth 100000 in
set_option maxHeartbeats 4000000 in
theorem b_X2_write {H : Heap} {locs : List Loc} {ls : Array Slot} {σ : um_S} {σ' : um_S} (a1 : Int32) (a2 : Int32) (a3 : Int32) (hX : um_X sh) (hf : f_X2_write a1 a2 a3 σ = some σ') (Cx : um_C p s m meth c args cX2_write 4 none RX2 Z) (hW : um_W Z sh α σ H) (hS : va_S (um_D sh α) s.heap H locs) (hl : lv_has ls 4 [(0, .ref (α 6)), (1, .int a1), (2, .int a2), (3, .int a3)]) : um_G p l e (1) (25) s m args below meth c Z sh α σ' none H locs (F0 m 0 ls []) := by
  have hx := Cx.1
  have hb := Cx.2.1
  have hown := Cx.2.2.2.2.1
  have hts := Cx.2.2.2.2.2.1
  rw [f_X2_write] at hf
  refine lv_aload_n (pc := 0) hx hb dX2_write_0 rfl (lv_at hl 0 rfl) ?_
  refine gF_X2_24 (pc := 1) Cx hW (hX 6 _ rfl) rfl dX2_write_1 ?_
  refine lv_iload_n (pc := 4) hx hb dX2_write_4 rfl (lv_at hl 1 rfl) ?_
  refine lv_iload_n (pc := 5) hx hb dX2_write_5 rfl (lv_at hl 2 rfl) ?_
  refine lv_aload_n (pc := 6) hx hb dX2_write_6 rfl (lv_at hl 0 rfl) ?_
  refine lv_iload_n (pc := 7) hx hb dX2_write_7 rfl (lv_at hl 1 rfl) ?_
  obtain ⟨x2, hc1, hf⟩ := um_bi hf
  refine um_cVi (pc := 8) (As := [.int a1]) (rest := [.int a2, .int a1, .ref (α 15)]) Cx (c_X2_sortOf a1 hX hc1) kV_X2_sortOf (Or.inl qM_X2_30) hW hS (hX 6 _ rfl) rfl rfl hl rfl (Nat.le_of_ble_eq_true rfl) (Nat.le_of_ble_eq_true rfl) (Nat.le_of_ble_eq_true rfl) dX2_write_8 (Nat.le_refl _) (Nat.le_refl _) ?_
  clear hW hS hc1
  intro H locs hW hS
  refine lv_if_ne (pc := 11) (tgt := 19) hx hb dX2_write_11 (by decide) (fun c1 => ?_) (fun c1 => ?_)
  · have hf := um_ie c1 hf
    clear c1
    refine lv_iload_n (pc := 19) hx hb dX2_write_19 rfl (lv_at hl 3 rfl) ?_
    refine lv_i2s (pc := 20) hx hb dX2_write_20 rfl ?_
    obtain ⟨σ4, hc3, hf⟩ := um_bi hf
    refine um_cVv (pc := 21) (As := [.int a1, .int a2, .int (a3.toInt16.toInt32)]) (rest := []) Cx (c_X5_set 15 a1 a2 (a3.toInt16.toInt32) rfl hX hc3) kV_X5_set (Or.inl qM_X2_52) hW hS (xs_tab hX rfl) rfl rfl hl rfl (Nat.le_of_ble_eq_true rfl) (Nat.le_of_ble_eq_true rfl) (Nat.le_of_ble_eq_true rfl) dX2_write_21 (Nat.le_refl _) (Nat.le_refl _) ?_
    clear hW hS hc3
    intro H locs hW hS
    exact um_vret (pc := 24) Cx hW hS hf dX2_write_24
  · have hf := um_it c1 hf
    clear c1
    refine lv_iload_n (pc := 14) hx hb dX2_write_14 rfl (lv_at hl 3 rfl) ?_
    refine lv_i2b (pc := 15) hx hb dX2_write_15 rfl ?_
    refine lv_goto (pc := 16) (tgt := 21) hx hb dX2_write_16 (by decide) ?_
    obtain ⟨σ6, hc5, hf⟩ := um_bi hf
    refine um_cVv (pc := 21) (As := [.int a1, .int a2, .int (a3.toInt8.toInt32)]) (rest := []) Cx (c_X5_set 15 a1 a2 (a3.toInt8.toInt32) rfl hX hc5) kV_X5_set (Or.inl qM_X2_52) hW hS (xs_tab hX rfl) rfl rfl hl rfl (Nat.le_of_ble_eq_true rfl) (Nat.le_of_ble_eq_true rfl) (Nat.le_of_ble_eq_true rfl) dX2_write_21 (Nat.le_refl _) (Nat.le_refl _) ?_
    clear hW hS hc5
    intro H locs hW hS
    exact um_vret (pc := 24) Cx hW hS hf dX2_write_24
theorem c_X2_write {σ : um_S} {σ' : um_S} (a1 : Int32) (a2 : Int32) (a3 : Int32) (hX : um_X sh) (hf : f_X2_write a1 a2 a3 σ = some σ') : um_M l yX2_write cX2_write 4 none (1) (25) Z sh α σ [.ref (α 6), .int a1, .int a2, .int a3] none σ' :=
  um_start (by decide) (Nat.le_of_ble_eq_true rfl) (fun p e s m below meth c ls Cx hW hS hl => b_X2_write a1 a2 a3 hX hf Cx hW hS hl)
noncomputable def f_X3_planSum_l11 (h0 : Nat) (v3 : Int32) (σ : um_S) : Nat → Int32 → Int32 → Int32 → Option (Int32)
  | 0, _, _, _ => none
  | n + 1, v4, v5, v6 =>
    if v6 < 0 then
    (some v4)
    else
    ((f_X5_get h0 v6 (((v5 - v5 / (3 : Int32) * (3 : Int32)) * (2 : Int32)) + v3) σ).bind fun x2 =>
    (um_let (v4 + x2) fun x3 =>
    (um_let (v5 / (3 : Int32)) fun x5 =>
    (f_X3_planSum_l11 h0 v3 σ n x3 x5 (v6 + (-1 : Int32))))))
noncomputable def f_X3_planSum (h0 : Nat) (a1 : Int32) (a2 : Int32) (a3 : Int32) (σ : um_S) : Option (Int32) :=
    um_let (a1 - (1 : Int32)) fun x1 =>
    ((f_X3_planSum_l11 h0 a3 σ um_N (0 : Int32) a2 x1).bind fun x3 =>
    (some x3))
set_option maxRecDepth 100000 in
set_option maxHeartbeats 4000000 in
theorem t_X3_planSum_l11 {Q : State → Prop} {o4 : Int32} {σ : um_S} (h0 : Nat) (v3 : Int32) (hh0 : xT h0 = true) (hX : um_X sh) (Cx : um_C p s m meth c args cX3_planSum 7 (some FieldType.int) RX3 Z) (hE : ∀ (H : Heap) (locs : List Loc) (ls : Array Slot), um_W Z sh α σ H → va_S (um_D sh α) s.heap H locs → lv_has ls 7 [(4, .int o4)] → W p l e { frames := 1, cells := 0, slots := 0, locals := 24 } s m args below meth c H locs 0 0 Q (F0 m 47 ls [])) : ∀ (n : Nat) (v4 : Int32) (v5 : Int32) (v6 : Int32) (H : Heap) (locs : List Loc) (ls : Array Slot), f_X3_planSum_l11 h0 v3 σ n v4 v5 v6 = some o4 → um_W Z sh α σ H → va_S (um_D sh α) s.heap H locs → lv_has ls 7 [(0, .ref (α h0)), (3, .int v3), (4, .int v4), (5, .int v5), (6, .int v6)] → W p l e { frames := 1, cells := 0, slots := 0, locals := 24 } s m args below meth c H locs 0 0 Q (F0 m 11 ls []) := by
  have hx := Cx.1
  have hb := Cx.2.1
  have hown := Cx.2.2.2.2.1
  have hts := Cx.2.2.2.2.2.1
  intro n
  induction n with
  | zero =>
    intro v4 v5 v6 H locs ls hf hW hS hl
    cases hf
  | succ n ih =>
    intro v4 v5 v6 H locs ls hf hW hS hl
    rw [f_X3_planSum_l11] at hf
    refine lv_iload (pc := 11) hx hb dX3_planSum_11 (lv_at hl 4 rfl) ?_
    refine lv_if_lt (pc := 13) (tgt := 47) hx hb dX3_planSum_13 (by decide) (fun c1 => ?_) (fun c1 => ?_)
    · have hf := um_it c1 hf
      clear c1
      cases hf
      exact hE _ _ _ hW hS (lv_sub hl [2] rfl)
    · have hf := um_ie c1 hf
      clear c1
      refine lv_iload (pc := 16) hx hb dX3_planSum_16 (lv_at hl 2 rfl) ?_
      refine lv_aload_n (pc := 18) hx hb dX3_planSum_18 rfl (lv_at hl 0 rfl) ?_
      refine lv_iload (pc := 19) hx hb dX3_planSum_19 (lv_at hl 4 rfl) ?_
      refine lv_iload (pc := 21) hx hb dX3_planSum_21 (lv_at hl 3 rfl) ?_
      refine lv_iconst (pc := 23) (v := (3 : Int32)) hx hb dX3_planSum_23 (by decide) ?_
      refine lv_irem (pc := 24) hx hb dX3_planSum_24 (by decide) ?_
      refine lv_iconst (pc := 25) (v := (2 : Int32)) hx hb dX3_planSum_25 (by decide) ?_
      refine lv_imul (pc := 26) hx hb dX3_planSum_26 ?_
      refine lv_iload_n (pc := 27) hx hb dX3_planSum_27 rfl (lv_at hl 1 rfl) ?_
      refine lv_iadd (pc := 28) hx hb dX3_planSum_28 ?_
      obtain ⟨x2, hc1, hf⟩ := um_bi hf
      refine um_cVi (pc := 29) (As := [.int v6, .int (((v5 - v5 / (3 : Int32) * (3 : Int32)) * (2 : Int32)) + v3)]) (rest := [.int v4]) Cx (c_X5_get h0 v6 (((v5 - v5 / (3 : Int32) * (3 : Int32)) * (2 : Int32)) + v3) hh0 hX hc1) kV_X5_get (Or.inl qM_X3_16) hW hS (xs_tab hX hh0) rfl rfl hl rfl (Nat.le_of_ble_eq_true rfl) (Nat.le_of_ble_eq_true rfl) (Nat.le_of_ble_eq_true rfl) dX3_planSum_29 (Nat.le_refl _) (Nat.le_refl _) ?_
      clear hW hS hc1
      intro H locs hW hS
      refine lv_iadd (pc := 32) hx hb dX3_planSum_32 ?_
      obtain ⟨x3, e4, hf⟩ := um_le hf
      refine um_top e4 ?_
      clear e4
      refine lv_istore (pc := 33) (lv' := [(4, .int x3), (0, .ref (α h0)), (3, .int v3), (5, .int v5), (6, .int v6)]) hx hb dX3_planSum_33 hl (by decide) rfl ?_
      clear hl
      intro ls hl
      refine lv_iload (pc := 35) hx hb dX3_planSum_35 (lv_at hl 3 rfl) ?_
      refine lv_iconst (pc := 37) (v := (3 : Int32)) hx hb dX3_planSum_37 (by decide) ?_
      refine lv_idiv (pc := 38) hx hb dX3_planSum_38 (by decide) ?_
      obtain ⟨x5, e6, hf⟩ := um_le hf
      refine um_top e6 ?_
      clear e6
      refine lv_istore (pc := 39) (lv' := [(5, .int x5), (4, .int x3), (0, .ref (α h0)), (3, .int v3), (6, .int v6)]) hx hb dX3_planSum_39 hl (by decide) rfl ?_
      clear hl
      intro ls hl
      refine lv_iinc (pc := 41) (v := v6 + (-1 : Int32)) (lv' := [(6, .int (v6 + (-1 : Int32))), (5, .int x5), (4, .int x3), (0, .ref (α h0)), (3, .int v3)]) hx hb dX3_planSum_41 hl (k := 4) rfl rfl (by decide) rfl ?_
      clear hl
      intro ls hl
      refine lv_goto (pc := 44) (tgt := 11) hx hb dX3_planSum_44 (by decide) ?_
      exact ih _ _ _ _ _ _ hf hW hS (lv_sub hl [3, 4, 2, 1, 0] rfl)
set_option maxRecDepth 100000 in
set_option maxHeartbeats 4000000 in
theorem b_X3_planSum {H : Heap} {locs : List Loc} {ls : Array Slot} {σ : um_S} {r : Int32} (h0 : Nat) (a1 : Int32) (a2 : Int32) (a3 : Int32) (hh0 : xT h0 = true) (hX : um_X sh) (hf : f_X3_planSum h0 a1 a2 a3 σ = some r) (Cx : um_C p s m meth c args cX3_planSum 7 (some FieldType.int) RX3 Z) (hW : um_W Z sh α σ H) (hS : va_S (um_D sh α) s.heap H locs) (hl : lv_has ls 7 [(0, .ref (α h0)), (1, .int a1), (2, .int a2), (3, .int a3)]) : um_G p l e (1) (24) s m args below meth c Z sh α σ (some (.int r)) H locs (F0 m 0 ls []) := by
  have hx := Cx.1
  have hb := Cx.2.1
  have hown := Cx.2.2.2.2.1
  have hts := Cx.2.2.2.2.2.1
  rw [f_X3_planSum] at hf
  refine lv_iconst (pc := 0) (v := (0 : Int32)) hx hb dX3_planSum_0 (by decide) ?_
  refine lv_istore (pc := 1) (lv' := [(4, .int (0 : Int32)), (0, .ref (α h0)), (1, .int a1), (2, .int a2), (3, .int a3)]) hx hb dX3_planSum_1 hl (by decide) rfl ?_
  clear hl
  intro ls hl
  refine lv_iload_n (pc := 3) hx hb dX3_planSum_3 rfl (lv_at hl 3 rfl) ?_
  refine lv_istore (pc := 4) (lv' := [(5, .int a2), (4, .int (0 : Int32)), (0, .ref (α h0)), (1, .int a1), (2, .int a2), (3, .int a3)]) hx hb dX3_planSum_4 hl (by decide) rfl ?_
  clear hl
  intro ls hl
  refine lv_iload_n (pc := 6) hx hb dX3_planSum_6 rfl (lv_at hl 3 rfl) ?_
  refine lv_iconst (pc := 7) (v := (1 : Int32)) hx hb dX3_planSum_7 (by decide) ?_
  refine lv_isub (pc := 8) hx hb dX3_planSum_8 ?_
  obtain ⟨x1, e2, hf⟩ := um_le hf
  refine um_top e2 ?_
  clear e2
  refine lv_istore (pc := 9) (lv' := [(6, .int x1), (5, .int a2), (4, .int (0 : Int32)), (0, .ref (α h0)), (1, .int a1), (2, .int a2), (3, .int a3)]) hx hb dX3_planSum_9 hl (by decide) rfl ?_
  clear hl
  intro ls hl
  obtain ⟨x3, hc4, hf⟩ := um_bi hf
  refine t_X3_planSum_l11 h0 a3 hh0 hX Cx ?_ um_N _ _ _ _ _ _ hc4 hW hS (lv_sub hl [3, 6, 2, 1, 0] rfl)
  clear hW hS hl hc4
  intro H locs ls hW hS hl
  refine lv_iload (pc := 47) hx hb dX3_planSum_47 (lv_at hl 0 rfl) ?_
  exact um_iretR (pc := 49) Cx hW hS hf dX3_planSum_49
theorem c_X3_planSum {σ : um_S} {r : Int32} (h0 : Nat) (a1 : Int32) (a2 : Int32) (a3 : Int32) (hh0 : xT h0 = true) (hX : um_X sh) (hf : f_X3_planSum h0 a1 a2 a3 σ = some r) : um_M l yX3_planSum cX3_planSum 7 (some FieldType.int) (1) (24) Z sh α σ [.ref (α h0), .int a1, .int a2, .int a3] (some (.int r)) σ :=
  um_start (by decide) (Nat.le_of_ble_eq_true rfl) (fun p e s m below meth c ls Cx hW hS hl => b_X3_planSum h0 a1 a2 a3 hh0 hX hf Cx hW hS hl)
noncomputable def f_X3_bestPlan_l5 (h0 : Nat) (v1 : Int32) (v2 : Int32) (σ : um_S) : Nat → Int32 → Int32 → Option (Int32)
  | 0, _, _ => none
  | n + 1, v3, v4 =>
    if v1 ≤ v4 then
    (some v3)
    else
    (um_let (v3 * (3 : Int32)) fun x1 =>
    (f_X3_bestPlan_l5 h0 v1 v2 σ n x1 (v4 + (1 : Int32))))
noncomputable def f_X3_bestPlan_l32 (h0 : Nat) (v1 : Int32) (v2 : Int32) (v3 : Int32) (σ : um_S) : Nat → Int32 → Int32 → Int32 → Option (Int32)
  | 0, _, _, _ => none
  | n + 1, v4, v5, v6 =>
    if v3 ≤ v6 then
    (some v4)
    else
    ((f_X3_planSum h0 v1 v6 (0 : Int32) σ).bind fun x2 =>
    (if v5 ≤ x2 then
    (f_X3_bestPlan_l32 h0 v1 v2 v3 σ n v4 v5 (v6 + (1 : Int32)))
    else
    ((f_X3_planSum h0 v1 v6 (1 : Int32) σ).bind fun x4 =>
    (if v2 < x4 then
    (f_X3_bestPlan_l32 h0 v1 v2 v3 σ n v4 v5 (v6 + (1 : Int32)))
    else
    (f_X3_bestPlan_l32 h0 v1 v2 v3 σ n v6 x2 (v6 + (1 : Int32)))))))
noncomputable def f_X3_bestPlan (h0 : Nat) (a1 : Int32) (a2 : Int32) (σ : um_S) : Option (Int32) :=
    (f_X3_bestPlan_l5 h0 a1 a2 σ um_N (1 : Int32) (0 : Int32)).bind fun x1 =>
    ((f_X3_bestPlan_l32 h0 a1 a2 x1 σ um_N (-1000000005 : Int32) (1000000 : Int32) (0 : Int32)).bind fun x3 =>
    (some x3))
set_option maxRecDepth 100000 in
set_option maxHeartbeats 4000000 in
theorem t_X3_bestPlan_l5 {Q : State → Prop} {o3 : Int32} {σ : um_S} (h0 : Nat) (v1 : Int32) (v2 : Int32) (hh0 : xT h0 = true) (hX : um_X sh) (Cx : um_C p s m meth c args cX3_bestPlan 8 (some FieldType.int) RX3 Z) (hE : ∀ (H : Heap) (locs : List Loc) (ls : Array Slot), um_W Z sh α σ H → va_S (um_D sh α) s.heap H locs → lv_has ls 8 [(0, .ref (α h0)), (1, .int v1), (2, .int v2), (3, .int o3)] → W p l e { frames := 2, cells := 0, slots := 0, locals := 50 } s m args below meth c H locs 0 0 Q (F0 m 21 ls [])) : ∀ (n : Nat) (v3 : Int32) (v4 : Int32) (H : Heap) (locs : List Loc) (ls : Array Slot), f_X3_bestPlan_l5 h0 v1 v2 σ n v3 v4 = some o3 → um_W Z sh α σ H → va_S (um_D sh α) s.heap H locs → lv_has ls 8 [(0, .ref (α h0)), (1, .int v1), (2, .int v2), (3, .int v3), (4, .int v4)] → W p l e { frames := 2, cells := 0, slots := 0, locals := 50 } s m args below meth c H locs 0 0 Q (F0 m 5 ls []) := by
  have hx := Cx.1
  have hb := Cx.2.1
  have hown := Cx.2.2.2.2.1
  have hts := Cx.2.2.2.2.2.1
  intro n
  induction n with
  | zero =>
    intro v3 v4 H locs ls hf hW hS hl
    cases hf
  | succ n ih =>
    intro v3 v4 H locs ls hf hW hS hl
    rw [f_X3_bestPlan_l5] at hf
    refine lv_iload (pc := 5) hx hb dX3_bestPlan_5 (lv_at hl 4 rfl) ?_
    refine lv_iload_n (pc := 7) hx hb dX3_bestPlan_7 rfl (lv_at hl 1 rfl) ?_
    refine lv_icmp_ge (pc := 8) (tgt := 21) hx hb dX3_bestPlan_8 (by decide) (fun c1 => ?_) (fun c1 => ?_)
    · have hf := um_it c1 hf
      clear c1
      cases hf
      exact hE _ _ _ hW hS (lv_sub hl [0, 1, 2, 3] rfl)
    · have hf := um_ie c1 hf
      clear c1
      refine lv_iload_n (pc := 11) hx hb dX3_bestPlan_11 rfl (lv_at hl 3 rfl) ?_
      refine lv_iconst (pc := 12) (v := (3 : Int32)) hx hb dX3_bestPlan_12 (by decide) ?_
      refine lv_imul (pc := 13) hx hb dX3_bestPlan_13 ?_
      obtain ⟨x1, e2, hf⟩ := um_le hf
      refine um_top e2 ?_
      clear e2
      refine lv_istore_n (pc := 14) (lv' := [(3, .int x1), (0, .ref (α h0)), (1, .int v1), (2, .int v2), (4, .int v4)]) hx hb dX3_bestPlan_14 rfl hl (by decide) rfl ?_
      clear hl
      intro ls hl
      refine lv_iinc (pc := 15) (v := v4 + (1 : Int32)) (lv' := [(4, .int (v4 + (1 : Int32))), (3, .int x1), (0, .ref (α h0)), (1, .int v1), (2, .int v2)]) hx hb dX3_bestPlan_15 hl (k := 4) rfl rfl (by decide) rfl ?_
      clear hl
      intro ls hl
      refine lv_goto (pc := 18) (tgt := 5) hx hb dX3_bestPlan_18 (by decide) ?_
      exact ih _ _ _ _ _ hf hW hS (lv_sub hl [2, 3, 4, 1, 0] rfl)
set_option maxRecDepth 100000 in
set_option maxHeartbeats 4000000 in
theorem t_X3_bestPlan_l32 {Q : State → Prop} {o4 : Int32} {σ : um_S} (h0 : Nat) (v1 : Int32) (v2 : Int32) (v3 : Int32) (hh0 : xT h0 = true) (hX : um_X sh) (Cx : um_C p s m meth c args cX3_bestPlan 8 (some FieldType.int) RX3 Z) (hE : ∀ (H : Heap) (locs : List Loc) (ls : Array Slot), um_W Z sh α σ H → va_S (um_D sh α) s.heap H locs → lv_has ls 8 [(4, .int o4)] → W p l e { frames := 2, cells := 0, slots := 0, locals := 50 } s m args below meth c H locs 0 0 Q (F0 m 81 ls [])) : ∀ (n : Nat) (v4 : Int32) (v5 : Int32) (v6 : Int32) (H : Heap) (locs : List Loc) (ls : Array Slot), f_X3_bestPlan_l32 h0 v1 v2 v3 σ n v4 v5 v6 = some o4 → um_W Z sh α σ H → va_S (um_D sh α) s.heap H locs → lv_has ls 8 [(0, .ref (α h0)), (1, .int v1), (2, .int v2), (3, .int v3), (4, .int v4), (5, .int v5), (6, .int v6)] → W p l e { frames := 2, cells := 0, slots := 0, locals := 50 } s m args below meth c H locs 0 0 Q (F0 m 32 ls []) := by
  have hx := Cx.1
  have hb := Cx.2.1
  have hown := Cx.2.2.2.2.1
  have hts := Cx.2.2.2.2.2.1
  intro n
  induction n with
  | zero =>
    intro v4 v5 v6 H locs ls hf hW hS hl
    cases hf
  | succ n ih =>
    intro v4 v5 v6 H locs ls hf hW hS hl
    rw [f_X3_bestPlan_l32] at hf
    refine lv_iload (pc := 32) hx hb dX3_bestPlan_32 (lv_at hl 6 rfl) ?_
    refine lv_iload_n (pc := 34) hx hb dX3_bestPlan_34 rfl (lv_at hl 3 rfl) ?_
    refine lv_icmp_ge (pc := 35) (tgt := 81) hx hb dX3_bestPlan_35 (by decide) (fun c1 => ?_) (fun c1 => ?_)
    · have hf := um_it c1 hf
      clear c1
      cases hf
      exact hE _ _ _ hW hS (lv_sub hl [4] rfl)
    · have hf := um_ie c1 hf
      clear c1
      refine lv_aload_n (pc := 38) hx hb dX3_bestPlan_38 rfl (lv_at hl 0 rfl) ?_
      refine lv_iload_n (pc := 39) hx hb dX3_bestPlan_39 rfl (lv_at hl 1 rfl) ?_
      refine lv_iload (pc := 40) hx hb dX3_bestPlan_40 (lv_at hl 6 rfl) ?_
      refine lv_iconst (pc := 42) (v := (0 : Int32)) hx hb dX3_bestPlan_42 (by decide) ?_
      obtain ⟨x2, hc1, hf⟩ := um_bi hf
      refine um_cSi (pc := 43) (As := [.ref (α h0), .int v1, .int v6, .int (0 : Int32)]) (rest := []) Cx (c_X3_planSum h0 v1 v6 (0 : Int32) hh0 hX hc1) kS_X3_planSum (Or.inl qM_X3_41) hW hS rfl hl rfl (Nat.le_of_ble_eq_true rfl) (Nat.le_of_ble_eq_true rfl) (Nat.le_of_ble_eq_true rfl) dX3_bestPlan_43 (Nat.le_refl _) (Nat.le_refl _) ?_
      clear hW hS hc1
      intro H locs hW hS
      refine lv_istore (pc := 46) (lv' := [(7, .int x2), (0, .ref (α h0)), (1, .int v1), (2, .int v2), (3, .int v3), (4, .int v4), (5, .int v5), (6, .int v6)]) hx hb dX3_bestPlan_46 hl (by decide) rfl ?_
      clear hl
      intro ls hl
      refine lv_iload (pc := 48) hx hb dX3_bestPlan_48 (lv_at hl 0 rfl) ?_
      refine lv_iload (pc := 50) hx hb dX3_bestPlan_50 (lv_at hl 6 rfl) ?_
      refine lv_icmp_ge (pc := 52) (tgt := 75) hx hb dX3_bestPlan_52 (by decide) (fun c1 => ?_) (fun c1 => ?_)
      · have hf := um_it c1 hf
        clear c1
        refine lv_iinc (pc := 75) (v := v6 + (1 : Int32)) (lv' := [(6, .int (v6 + (1 : Int32))), (7, .int x2), (0, .ref (α h0)), (1, .int v1), (2, .int v2), (3, .int v3), (4, .int v4), (5, .int v5)]) hx hb dX3_bestPlan_75 hl (k := 7) rfl rfl (by decide) rfl ?_
        clear hl
        intro ls hl
        refine lv_goto (pc := 78) (tgt := 32) hx hb dX3_bestPlan_78 (by decide) ?_
        exact ih _ _ _ _ _ _ hf hW hS (lv_sub hl [2, 3, 4, 5, 6, 7, 0] rfl)
      · have hf := um_ie c1 hf
        clear c1
        refine lv_aload_n (pc := 55) hx hb dX3_bestPlan_55 rfl (lv_at hl 1 rfl) ?_
        refine lv_iload_n (pc := 56) hx hb dX3_bestPlan_56 rfl (lv_at hl 2 rfl) ?_
        refine lv_iload (pc := 57) hx hb dX3_bestPlan_57 (lv_at hl 7 rfl) ?_
        refine lv_iconst (pc := 59) (v := (1 : Int32)) hx hb dX3_bestPlan_59 (by decide) ?_
        obtain ⟨x4, hc3, hf⟩ := um_bi hf
        refine um_cSi (pc := 60) (As := [.ref (α h0), .int v1, .int v6, .int (1 : Int32)]) (rest := []) Cx (c_X3_planSum h0 v1 v6 (1 : Int32) hh0 hX hc3) kS_X3_planSum (Or.inl qM_X3_41) hW hS rfl hl rfl (Nat.le_of_ble_eq_true rfl) (Nat.le_of_ble_eq_true rfl) (Nat.le_of_ble_eq_true rfl) dX3_bestPlan_60 (Nat.le_refl _) (Nat.le_refl _) ?_
        clear hW hS hc3
        intro H locs hW hS
        refine lv_iload_n (pc := 63) hx hb dX3_bestPlan_63 rfl (lv_at hl 3 rfl) ?_
        refine lv_icmp_gt (pc := 64) (tgt := 75) hx hb dX3_bestPlan_64 (by decide) (fun c1 => ?_) (fun c1 => ?_)
        · have hf := um_it c1 hf
          clear c1
          refine lv_iinc (pc := 75) (v := v6 + (1 : Int32)) (lv' := [(6, .int (v6 + (1 : Int32))), (7, .int x2), (0, .ref (α h0)), (1, .int v1), (2, .int v2), (3, .int v3), (4, .int v4), (5, .int v5)]) hx hb dX3_bestPlan_75 hl (k := 7) rfl rfl (by decide) rfl ?_
          clear hl
          intro ls hl
          refine lv_goto (pc := 78) (tgt := 32) hx hb dX3_bestPlan_78 (by decide) ?_
          exact ih _ _ _ _ _ _ hf hW hS (lv_sub hl [2, 3, 4, 5, 6, 7, 0] rfl)
        · have hf := um_ie c1 hf
          clear c1
          refine lv_iload (pc := 67) hx hb dX3_bestPlan_67 (lv_at hl 7 rfl) ?_
          refine lv_istore (pc := 69) (lv' := [(4, .int v6), (7, .int x2), (0, .ref (α h0)), (1, .int v1), (2, .int v2), (3, .int v3), (5, .int v5), (6, .int v6)]) hx hb dX3_bestPlan_69 hl (by decide) rfl ?_
          clear hl
          intro ls hl
          refine lv_iload (pc := 71) hx hb dX3_bestPlan_71 (lv_at hl 1 rfl) ?_
          refine lv_istore (pc := 73) (lv' := [(5, .int x2), (4, .int v6), (7, .int x2), (0, .ref (α h0)), (1, .int v1), (2, .int v2), (3, .int v3), (6, .int v6)]) hx hb dX3_bestPlan_73 hl (by decide) rfl ?_
          clear hl
          intro ls hl
          refine lv_iinc (pc := 75) (v := v6 + (1 : Int32)) (lv' := [(6, .int (v6 + (1 : Int32))), (5, .int x2), (4, .int v6), (7, .int x2), (0, .ref (α h0)), (1, .int v1), (2, .int v2), (3, .int v3)]) hx hb dX3_bestPlan_75 hl (k := 7) rfl rfl (by decide) rfl ?_
          clear hl
          intro ls hl
          refine lv_goto (pc := 78) (tgt := 32) hx hb dX3_bestPlan_78 (by decide) ?_
          exact ih _ _ _ _ _ _ hf hW hS (lv_sub hl [4, 5, 6, 7, 2, 1, 0] rfl)
set_option maxRecDepth 100000 in
set_option maxHeartbeats 4000000 in
theorem b_X3_bestPlan {H : Heap} {locs : List Loc} {ls : Array Slot} {σ : um_S} {r : Int32} (h0 : Nat) (a1 : Int32) (a2 : Int32) (hh0 : xT h0 = true) (hX : um_X sh) (hf : f_X3_bestPlan h0 a1 a2 σ = some r) (Cx : um_C p s m meth c args cX3_bestPlan 8 (some FieldType.int) RX3 Z) (hW : um_W Z sh α σ H) (hS : va_S (um_D sh α) s.heap H locs) (hl : lv_has ls 8 [(0, .ref (α h0)), (1, .int a1), (2, .int a2)]) : um_G p l e (2) (50) s m args below meth c Z sh α σ (some (.int r)) H locs (F0 m 0 ls []) := by
  have hx := Cx.1
  have hb := Cx.2.1
  have hown := Cx.2.2.2.2.1
  have hts := Cx.2.2.2.2.2.1
  rw [f_X3_bestPlan] at hf
  refine lv_iconst (pc := 0) (v := (1 : Int32)) hx hb dX3_bestPlan_0 (by decide) ?_
  refine lv_istore_n (pc := 1) (lv' := [(3, .int (1 : Int32)), (0, .ref (α h0)), (1, .int a1), (2, .int a2)]) hx hb dX3_bestPlan_1 rfl hl (by decide) rfl ?_
  clear hl
  intro ls hl
  refine lv_iconst (pc := 2) (v := (0 : Int32)) hx hb dX3_bestPlan_2 (by decide) ?_
  refine lv_istore (pc := 3) (lv' := [(4, .int (0 : Int32)), (3, .int (1 : Int32)), (0, .ref (α h0)), (1, .int a1), (2, .int a2)]) hx hb dX3_bestPlan_3 hl (by decide) rfl ?_
  clear hl
  intro ls hl
  obtain ⟨x1, hc2, hf⟩ := um_bi hf
  refine t_X3_bestPlan_l5 h0 a1 a2 hh0 hX Cx ?_ um_N _ _ _ _ _ hc2 hW hS (lv_sub hl [2, 3, 4, 1, 0] rfl)
  clear hW hS hl hc2
  intro H locs ls hW hS hl
  refine lv_ldc (pc := 21) hx hb hown (hts _ qC_X3_26) dX3_bestPlan_21 ?_
  refine lv_istore (pc := 23) (lv' := [(4, .int (-1000000005 : Int32)), (0, .ref (α h0)), (1, .int a1), (2, .int a2), (3, .int x1)]) hx hb dX3_bestPlan_23 hl (by decide) rfl ?_
  clear hl
  intro ls hl
  refine lv_ldc (pc := 25) hx hb hown (hts _ qC_X3_11) dX3_bestPlan_25 ?_
  refine lv_istore (pc := 27) (lv' := [(5, .int (1000000 : Int32)), (4, .int (-1000000005 : Int32)), (0, .ref (α h0)), (1, .int a1), (2, .int a2), (3, .int x1)]) hx hb dX3_bestPlan_27 hl (by decide) rfl ?_
  clear hl
  intro ls hl
  refine lv_iconst (pc := 29) (v := (0 : Int32)) hx hb dX3_bestPlan_29 (by decide) ?_
  refine lv_istore (pc := 30) (lv' := [(6, .int (0 : Int32)), (5, .int (1000000 : Int32)), (4, .int (-1000000005 : Int32)), (0, .ref (α h0)), (1, .int a1), (2, .int a2), (3, .int x1)]) hx hb dX3_bestPlan_30 hl (by decide) rfl ?_
  clear hl
  intro ls hl
  obtain ⟨x3, hc4, hf⟩ := um_bi hf
  refine t_X3_bestPlan_l32 h0 a1 a2 x1 hh0 hX Cx ?_ um_N _ _ _ _ _ _ hc4 hW hS (lv_sub hl [3, 4, 5, 6, 2, 1, 0] rfl)
  clear hW hS hl hc4
  intro H locs ls hW hS hl
  refine lv_iload (pc := 81) hx hb dX3_bestPlan_81 (lv_at hl 0 rfl) ?_
  exact um_iretR (pc := 83) Cx hW hS hf dX3_bestPlan_83
theorem c_X3_bestPlan {σ : um_S} {r : Int32} (h0 : Nat) (a1 : Int32) (a2 : Int32) (hh0 : xT h0 = true) (hX : um_X sh) (hf : f_X3_bestPlan h0 a1 a2 σ = some r) : um_M l yX3_bestPlan cX3_bestPlan 8 (some FieldType.int) (2) (50) Z sh α σ [.ref (α h0), .int a1, .int a2] (some (.int r)) σ :=
  um_start (by decide) (Nat.le_of_ble_eq_true rfl) (fun p e s m below meth c ls Cx hW hS hl => b_X3_bestPlan h0 a1 a2 hh0 hX hf Cx hW hS hl)
noncomputable def f_X3_yesVotes_l4 (h0 : Nat) (v1 : Int32) (σ : um_S) : Nat → Int32 → Int32 → Option (Int32)
  | 0, _, _ => none
  | n + 1, v2, v3 =>
    if (7 : Int32) ≤ v3 then
    (some v2)
    else
    ((f_X5_get h0 v3 (1 : Int32) σ).bind fun x2 =>
    (um_let (fun (x4 : Int32) =>
    (if x4 = 0 then
    (f_X3_yesVotes_l4 h0 v1 σ n v2 (v3 + (1 : Int32)))
    else
    ((f_X5_get h0 v3 (0 : Int32) σ).bind fun x6 =>
    (um_let (v2 + x6) fun x7 =>
    (f_X3_yesVotes_l4 h0 v1 σ n x7 (v3 + (1 : Int32))))))) fun k3 =>
    (um_let (fun (_u : Unit) =>
    (k3 (0 : Int32))) fun k9 =>
    (if (x2 &&& v1) = x2 then
    ((f_X5_get h0 v3 (2 : Int32) σ).bind fun x11 =>
    (if (x11 &&& v1) = 0 then
    (k3 (1 : Int32))
    else
    (k9 ())))
    else
    (k9 ())))))
noncomputable def f_X3_yesVotes (h0 : Nat) (a1 : Int32) (σ : um_S) : Option (Int32) :=
    (f_X3_yesVotes_l4 h0 a1 σ um_N (0 : Int32) (0 : Int32)).bind fun x1 =>
    (some x1)
set_option maxRecDepth 100000 in
set_option maxHeartbeats 4000000 in
theorem t_X3_yesVotes_l4 {Q : State → Prop} {o2 : Int32} {σ : um_S} (h0 : Nat) (v1 : Int32) (hh0 : xT h0 = true) (hX : um_X sh) (Cx : um_C p s m meth c args cX3_yesVotes 6 (some FieldType.int) RX3 Z) (hE : ∀ (H : Heap) (locs : List Loc) (ls : Array Slot), um_W Z sh α σ H → va_S (um_D sh α) s.heap H locs → lv_has ls 6 [(2, .int o2)] → W p l e { frames := 1, cells := 0, slots := 0, locals := 24 } s m args below meth c H locs 0 0 Q (F0 m 65 ls [])) : ∀ (n : Nat) (v2 : Int32) (v3 : Int32) (H : Heap) (locs : List Loc) (ls : Array Slot), f_X3_yesVotes_l4 h0 v1 σ n v2 v3 = some o2 → um_W Z sh α σ H → va_S (um_D sh α) s.heap H locs → lv_has ls 6 [(0, .ref (α h0)), (1, .int v1), (2, .int v2), (3, .int v3)] → W p l e { frames := 1, cells := 0, slots := 0, locals := 24 } s m args below meth c H locs 0 0 Q (F0 m 4 ls []) := by
  have hx := Cx.1
  have hb := Cx.2.1
  have hown := Cx.2.2.2.2.1
  have hts := Cx.2.2.2.2.2.1
  intro n
  induction n with
  | zero =>
    intro v2 v3 H locs ls hf hW hS hl
    cases hf
  | succ n ih =>
    intro v2 v3 H locs ls hf hW hS hl
    rw [f_X3_yesVotes_l4] at hf
    refine lv_iload_n (pc := 4) hx hb dX3_yesVotes_4 rfl (lv_at hl 3 rfl) ?_
    refine lv_bipush (pc := 5) (v := (7 : Int32)) hx hb dX3_yesVotes_5 (by decide) ?_
    refine lv_icmp_ge (pc := 7) (tgt := 65) hx hb dX3_yesVotes_7 (by decide) (fun c1 => ?_) (fun c1 => ?_)
    · have hf := um_it c1 hf
      clear c1
      cases hf
      exact hE _ _ _ hW hS (lv_sub hl [2] rfl)
    · have hf := um_ie c1 hf
      clear c1
      refine lv_aload_n (pc := 10) hx hb dX3_yesVotes_10 rfl (lv_at hl 0 rfl) ?_
      refine lv_iload_n (pc := 11) hx hb dX3_yesVotes_11 rfl (lv_at hl 3 rfl) ?_
      refine lv_iconst (pc := 12) (v := (1 : Int32)) hx hb dX3_yesVotes_12 (by decide) ?_
      obtain ⟨x2, hc1, hf⟩ := um_bi hf
      refine um_cVi (pc := 13) (As := [.int v3, .int (1 : Int32)]) (rest := []) Cx (c_X5_get h0 v3 (1 : Int32) hh0 hX hc1) kV_X5_get (Or.inl qM_X3_16) hW hS (xs_tab hX hh0) rfl rfl hl rfl (Nat.le_of_ble_eq_true rfl) (Nat.le_of_ble_eq_true rfl) (Nat.le_of_ble_eq_true rfl) dX3_yesVotes_13 (Nat.le_refl _) (Nat.le_refl _) ?_
      clear hW hS hc1
      intro H locs hW hS
      refine lv_istore (pc := 16) (lv' := [(4, .int x2), (0, .ref (α h0)), (1, .int v1), (2, .int v2), (3, .int v3)]) hx hb dX3_yesVotes_16 hl (by decide) rfl ?_
      clear hl
      intro ls hl
      refine lv_iload (pc := 18) hx hb dX3_yesVotes_18 (lv_at hl 0 rfl) ?_
      refine lv_iload_n (pc := 20) hx hb dX3_yesVotes_20 rfl (lv_at hl 2 rfl) ?_
      refine lv_iand (pc := 21) hx hb dX3_yesVotes_21 ?_
      refine lv_iload (pc := 22) hx hb dX3_yesVotes_22 (lv_at hl 0 rfl) ?_
      obtain ⟨k3, hk3, hf⟩ := um_j1 hf
      have J3 : ∀ (x4 : Int32), k3 x4 = some o2 → ∀ (H : Heap) (locs : List Loc) (ls : Array Slot), um_W Z sh α σ H → va_S (um_D sh α) s.heap H locs → lv_has ls 6 [(0, .ref (α h0)), (1, .int v1), (2, .int v2), (3, .int v3)] → W p l e { frames := 1, cells := 0, slots := 0, locals := 24 } s m args below meth c H locs 0 0 Q (F0 m 43 ls [.int x4]) := by
        intro x4 hf H locs ls hW hS hl
        rw [hk3] at hf
        refine lv_istore (pc := 43) (lv' := [(5, .int x4), (0, .ref (α h0)), (1, .int v1), (2, .int v2), (3, .int v3)]) hx hb dX3_yesVotes_43 hl (by decide) rfl ?_
        clear hl
        intro ls hl
        refine lv_iload (pc := 45) hx hb dX3_yesVotes_45 (lv_at hl 0 rfl) ?_
        refine lv_if_eq (pc := 47) (tgt := 59) hx hb dX3_yesVotes_47 (by decide) (fun c1 => ?_) (fun c1 => ?_)
        · have hf := um_it c1 hf
          clear c1
          refine lv_iinc (pc := 59) (v := v3 + (1 : Int32)) (lv' := [(3, .int (v3 + (1 : Int32))), (5, .int x4), (0, .ref (α h0)), (1, .int v1), (2, .int v2)]) hx hb dX3_yesVotes_59 hl (k := 4) rfl rfl (by decide) rfl ?_
          clear hl
          intro ls hl
          refine lv_goto (pc := 62) (tgt := 4) hx hb dX3_yesVotes_62 (by decide) ?_
          exact ih _ _ _ _ _ hf hW hS (lv_sub hl [2, 3, 4, 0] rfl)
        · have hf := um_ie c1 hf
          clear c1
          refine lv_iload_n (pc := 50) hx hb dX3_yesVotes_50 rfl (lv_at hl 3 rfl) ?_
          refine lv_aload_n (pc := 51) hx hb dX3_yesVotes_51 rfl (lv_at hl 1 rfl) ?_
          refine lv_iload_n (pc := 52) hx hb dX3_yesVotes_52 rfl (lv_at hl 4 rfl) ?_
          refine lv_iconst (pc := 53) (v := (0 : Int32)) hx hb dX3_yesVotes_53 (by decide) ?_
          obtain ⟨x6, hc5, hf⟩ := um_bi hf
          refine um_cVi (pc := 54) (As := [.int v3, .int (0 : Int32)]) (rest := [.int v2]) Cx (c_X5_get h0 v3 (0 : Int32) hh0 hX hc5) kV_X5_get (Or.inl qM_X3_16) hW hS (xs_tab hX hh0) rfl rfl hl rfl (Nat.le_of_ble_eq_true rfl) (Nat.le_of_ble_eq_true rfl) (Nat.le_of_ble_eq_true rfl) dX3_yesVotes_54 (Nat.le_refl _) (Nat.le_refl _) ?_
          clear hW hS hc5
          intro H locs hW hS
          refine lv_iadd (pc := 57) hx hb dX3_yesVotes_57 ?_
          obtain ⟨x7, e8, hf⟩ := um_le hf
          refine um_top e8 ?_
          clear e8
          refine lv_istore_n (pc := 58) (lv' := [(2, .int x7), (5, .int x4), (0, .ref (α h0)), (1, .int v1), (3, .int v3)]) hx hb dX3_yesVotes_58 rfl hl (by decide) rfl ?_
          clear hl
          intro ls hl
          refine lv_iinc (pc := 59) (v := v3 + (1 : Int32)) (lv' := [(3, .int (v3 + (1 : Int32))), (2, .int x7), (5, .int x4), (0, .ref (α h0)), (1, .int v1)]) hx hb dX3_yesVotes_59 hl (k := 4) rfl rfl (by decide) rfl ?_
          clear hl
          intro ls hl
          refine lv_goto (pc := 62) (tgt := 4) hx hb dX3_yesVotes_62 (by decide) ?_
          exact ih _ _ _ _ _ hf hW hS (lv_sub hl [3, 4, 1, 0] rfl)
      obtain ⟨k9, hk9, hf⟩ := um_j1 hf
      have J9 : ∀ (_u : Unit), k9 _u = some o2 → ∀ (H : Heap) (locs : List Loc) (ls : Array Slot), um_W Z sh α σ H → va_S (um_D sh α) s.heap H locs → lv_has ls 6 [(0, .ref (α h0)), (1, .int v1), (2, .int v2), (3, .int v3)] → W p l e { frames := 1, cells := 0, slots := 0, locals := 24 } s m args below meth c H locs 0 0 Q (F0 m 42 ls []) := by
        intro _u hf H locs ls hW hS hl
        rw [hk9] at hf
        refine lv_iconst (pc := 42) (v := (0 : Int32)) hx hb dX3_yesVotes_42 (by decide) ?_
        exact J3 (0 : Int32) hf _ _ _ hW hS hl
      refine lv_icmp_ne (pc := 24) (tgt := 42) hx hb dX3_yesVotes_24 (by decide) (fun c1 => ?_) (fun c1 => ?_)
      · have hf := um_ie c1 hf
        clear c1
        exact J9 () hf _ _ _ hW hS (lv_sub hl [1, 2, 3, 4] rfl)
      · have hf := um_it c1 hf
        clear c1
        refine lv_aload_n (pc := 27) hx hb dX3_yesVotes_27 rfl (lv_at hl 1 rfl) ?_
        refine lv_iload_n (pc := 28) hx hb dX3_yesVotes_28 rfl (lv_at hl 4 rfl) ?_
        refine lv_iconst (pc := 29) (v := (2 : Int32)) hx hb dX3_yesVotes_29 (by decide) ?_
        obtain ⟨x11, hc10, hf⟩ := um_bi hf
        refine um_cVi (pc := 30) (As := [.int v3, .int (2 : Int32)]) (rest := []) Cx (c_X5_get h0 v3 (2 : Int32) hh0 hX hc10) kV_X5_get (Or.inl qM_X3_16) hW hS (xs_tab hX hh0) rfl rfl hl rfl (Nat.le_of_ble_eq_true rfl) (Nat.le_of_ble_eq_true rfl) (Nat.le_of_ble_eq_true rfl) dX3_yesVotes_30 (Nat.le_refl _) (Nat.le_refl _) ?_
        clear hW hS hc10
        intro H locs hW hS
        refine lv_iload_n (pc := 33) hx hb dX3_yesVotes_33 rfl (lv_at hl 2 rfl) ?_
        refine lv_iand (pc := 34) hx hb dX3_yesVotes_34 ?_
        refine lv_if_ne (pc := 35) (tgt := 42) hx hb dX3_yesVotes_35 (by decide) (fun c1 => ?_) (fun c1 => ?_)
        · have hf := um_ie c1 hf
          clear c1
          exact J9 () hf _ _ _ hW hS (lv_sub hl [1, 2, 3, 4] rfl)
        · have hf := um_it c1 hf
          clear c1
          refine lv_iconst (pc := 38) (v := (1 : Int32)) hx hb dX3_yesVotes_38 (by decide) ?_
          refine lv_goto (pc := 39) (tgt := 43) hx hb dX3_yesVotes_39 (by decide) ?_
          exact J3 (1 : Int32) hf _ _ _ hW hS (lv_sub hl [1, 2, 3, 4] rfl)
set_option maxRecDepth 100000 in
set_option maxHeartbeats 4000000 in
theorem b_X3_yesVotes {H : Heap} {locs : List Loc} {ls : Array Slot} {σ : um_S} {r : Int32} (h0 : Nat) (a1 : Int32) (hh0 : xT h0 = true) (hX : um_X sh) (hf : f_X3_yesVotes h0 a1 σ = some r) (Cx : um_C p s m meth c args cX3_yesVotes 6 (some FieldType.int) RX3 Z) (hW : um_W Z sh α σ H) (hS : va_S (um_D sh α) s.heap H locs) (hl : lv_has ls 6 [(0, .ref (α h0)), (1, .int a1)]) : um_G p l e (1) (24) s m args below meth c Z sh α σ (some (.int r)) H locs (F0 m 0 ls []) := by
  have hx := Cx.1
  have hb := Cx.2.1
  have hown := Cx.2.2.2.2.1
  have hts := Cx.2.2.2.2.2.1
  rw [f_X3_yesVotes] at hf
  refine lv_iconst (pc := 0) (v := (0 : Int32)) hx hb dX3_yesVotes_0 (by decide) ?_
  refine lv_istore_n (pc := 1) (lv' := [(2, .int (0 : Int32)), (0, .ref (α h0)), (1, .int a1)]) hx hb dX3_yesVotes_1 rfl hl (by decide) rfl ?_
  clear hl
  intro ls hl
  refine lv_iconst (pc := 2) (v := (0 : Int32)) hx hb dX3_yesVotes_2 (by decide) ?_
  refine lv_istore_n (pc := 3) (lv' := [(3, .int (0 : Int32)), (2, .int (0 : Int32)), (0, .ref (α h0)), (1, .int a1)]) hx hb dX3_yesVotes_3 rfl hl (by decide) rfl ?_
  clear hl
  intro ls hl
  obtain ⟨x1, hc2, hf⟩ := um_bi hf
  refine t_X3_yesVotes_l4 h0 a1 hh0 hX Cx ?_ um_N _ _ _ _ _ hc2 hW hS (lv_sub hl [2, 3, 1, 0] rfl)
  clear hW hS hl hc2
  intro H locs ls hW hS hl
  refine lv_iload_n (pc := 65) hx hb dX3_yesVotes_65 rfl (lv_at hl 0 rfl) ?_
  exact um_iretR (pc := 66) Cx hW hS hf dX3_yesVotes_66
theorem c_X3_yesVotes {σ : um_S} {r : Int32} (h0 : Nat) (a1 : Int32) (hh0 : xT h0 = true) (hX : um_X sh) (hf : f_X3_yesVotes h0 a1 σ = some r) : um_M l yX3_yesVotes cX3_yesVotes 6 (some FieldType.int) (1) (24) Z sh α σ [.ref (α h0), .int a1] (some (.int r)) σ :=
  um_start (by decide) (Nat.le_of_ble_eq_true rfl) (fun p e s m below meth c ls Cx hW hS hl => b_X3_yesVotes h0 a1 hh0 hX hf Cx hW hS hl)
noncomputable def f_X3_carryingSet_l9 (h0 : Nat) (v1 : Int32) (σ : um_S) : Nat → Int32 → Int32 → Int32 → Option (Int32)
  | 0, _, _, _ => none
  | n + 1, v2, v3, v4 =>
    if (255 : Int32) < v4 then
    (some v2)
    else
    ((f_J6_bitCount_0f7a4 v4 σ).bind fun x2 =>
    (if v3 ≤ x2 then
    (f_X3_carryingSet_l9 h0 v1 σ n v2 v3 (v4 + (1 : Int32)))
    else
    ((f_X3_yesVotes h0 v4 σ).bind fun x4 =>
    (if x4 < v1 then
    (f_X3_carryingSet_l9 h0 v1 σ n v2 v3 (v4 + (1 : Int32)))
    else
    (f_X3_carryingSet_l9 h0 v1 σ n v4 x2 (v4 + (1 : Int32)))))))
noncomputable def f_X3_carryingSet (h0 : Nat) (a1 : Int32) (σ : um_S) : Option (Int32) :=
    (f_X3_carryingSet_l9 h0 a1 σ um_N (-1000000005 : Int32) (9 : Int32) (0 : Int32)).bind fun x1 =>
    (some x1)
set_option maxRecDepth 100000 in
set_option maxHeartbeats 4000000 in
theorem t_X3_carryingSet_l9 {Q : State → Prop} {o2 : Int32} {σ : um_S} (h0 : Nat) (v1 : Int32) (hh0 : xT h0 = true) (hX : um_X sh) (Cx : um_C p s m meth c args cX3_carryingSet 6 (some FieldType.int) RX3 Z) (hE : ∀ (H : Heap) (locs : List Loc) (ls : Array Slot), um_W Z sh α σ H → va_S (um_D sh α) s.heap H locs → lv_has ls 6 [(2, .int o2)] → W p l e { frames := 2, cells := 0, slots := 0, locals := 49 } s m args below meth c H locs 0 0 Q (F0 m 52 ls [])) : ∀ (n : Nat) (v2 : Int32) (v3 : Int32) (v4 : Int32) (H : Heap) (locs : List Loc) (ls : Array Slot), f_X3_carryingSet_l9 h0 v1 σ n v2 v3 v4 = some o2 → um_W Z sh α σ H → va_S (um_D sh α) s.heap H locs → lv_has ls 6 [(0, .ref (α h0)), (1, .int v1), (2, .int v2), (3, .int v3), (4, .int v4)] → W p l e { frames := 2, cells := 0, slots := 0, locals := 49 } s m args below meth c H locs 0 0 Q (F0 m 9 ls []) := by
  have hx := Cx.1
  have hb := Cx.2.1
  have hown := Cx.2.2.2.2.1
  have hts := Cx.2.2.2.2.2.1
  intro n
  induction n with
  | zero =>
    intro v2 v3 v4 H locs ls hf hW hS hl
    cases hf
  | succ n ih =>
    intro v2 v3 v4 H locs ls hf hW hS hl
    rw [f_X3_carryingSet_l9] at hf
    refine lv_iload (pc := 9) hx hb dX3_carryingSet_9 (lv_at hl 4 rfl) ?_
    refine lv_sipush (pc := 11) (v := (255 : Int32)) hx hb dX3_carryingSet_11 (by decide) ?_
    refine lv_icmp_gt (pc := 14) (tgt := 52) hx hb dX3_carryingSet_14 (by decide) (fun c1 => ?_) (fun c1 => ?_)
    · have hf := um_it c1 hf
      clear c1
      cases hf
      exact hE _ _ _ hW hS (lv_sub hl [2] rfl)
    · have hf := um_ie c1 hf
      clear c1
      refine lv_iload (pc := 17) hx hb dX3_carryingSet_17 (lv_at hl 4 rfl) ?_
      obtain ⟨x2, hc1, hf⟩ := um_bi hf
      refine um_cSi (pc := 19) (As := [.int v4]) (rest := []) Cx (c_J6_bitCount_0f7a4 v4 hX hc1) kS_J6_bitCount_0f7a4 (Or.inl qM_X3_31) hW hS rfl hl rfl (Nat.le_of_ble_eq_true rfl) (Nat.le_of_ble_eq_true rfl) (Nat.le_of_ble_eq_true rfl) dX3_carryingSet_19 (Nat.le_refl _) (Nat.le_refl _) ?_
      clear hW hS hc1
      intro H locs hW hS
      refine lv_istore (pc := 22) (lv' := [(5, .int x2), (0, .ref (α h0)), (1, .int v1), (2, .int v2), (3, .int v3), (4, .int v4)]) hx hb dX3_carryingSet_22 hl (by decide) rfl ?_
      clear hl
      intro ls hl
      refine lv_iload (pc := 24) hx hb dX3_carryingSet_24 (lv_at hl 0 rfl) ?_
      refine lv_iload_n (pc := 26) hx hb dX3_carryingSet_26 rfl (lv_at hl 4 rfl) ?_
      refine lv_icmp_ge (pc := 27) (tgt := 46) hx hb dX3_carryingSet_27 (by decide) (fun c1 => ?_) (fun c1 => ?_)
      · have hf := um_it c1 hf
        clear c1
        refine lv_iinc (pc := 46) (v := v4 + (1 : Int32)) (lv' := [(4, .int (v4 + (1 : Int32))), (5, .int x2), (0, .ref (α h0)), (1, .int v1), (2, .int v2), (3, .int v3)]) hx hb dX3_carryingSet_46 hl (k := 5) rfl rfl (by decide) rfl ?_
        clear hl
        intro ls hl
        refine lv_goto (pc := 49) (tgt := 9) hx hb dX3_carryingSet_49 (by decide) ?_
        exact ih _ _ _ _ _ _ hf hW hS (lv_sub hl [2, 3, 4, 5, 0] rfl)
      · have hf := um_ie c1 hf
        clear c1
        refine lv_aload_n (pc := 30) hx hb dX3_carryingSet_30 rfl (lv_at hl 1 rfl) ?_
        refine lv_iload (pc := 31) hx hb dX3_carryingSet_31 (lv_at hl 5 rfl) ?_
        obtain ⟨x4, hc3, hf⟩ := um_bi hf
        refine um_cSi (pc := 33) (As := [.ref (α h0), .int v4]) (rest := []) Cx (c_X3_yesVotes h0 v4 hh0 hX hc3) kS_X3_yesVotes (Or.inl qM_X3_37) hW hS rfl hl rfl (Nat.le_of_ble_eq_true rfl) (Nat.le_of_ble_eq_true rfl) (Nat.le_of_ble_eq_true rfl) dX3_carryingSet_33 (Nat.le_refl _) (Nat.le_refl _) ?_
        clear hW hS hc3
        intro H locs hW hS
        refine lv_iload_n (pc := 36) hx hb dX3_carryingSet_36 rfl (lv_at hl 2 rfl) ?_
        refine lv_icmp_lt (pc := 37) (tgt := 46) hx hb dX3_carryingSet_37 (by decide) (fun c1 => ?_) (fun c1 => ?_)
        · have hf := um_it c1 hf
          clear c1
          refine lv_iinc (pc := 46) (v := v4 + (1 : Int32)) (lv' := [(4, .int (v4 + (1 : Int32))), (5, .int x2), (0, .ref (α h0)), (1, .int v1), (2, .int v2), (3, .int v3)]) hx hb dX3_carryingSet_46 hl (k := 5) rfl rfl (by decide) rfl ?_
          clear hl
          intro ls hl
          refine lv_goto (pc := 49) (tgt := 9) hx hb dX3_carryingSet_49 (by decide) ?_
          exact ih _ _ _ _ _ _ hf hW hS (lv_sub hl [2, 3, 4, 5, 0] rfl)
        · have hf := um_ie c1 hf
          clear c1
          refine lv_iload (pc := 40) hx hb dX3_carryingSet_40 (lv_at hl 5 rfl) ?_
          refine lv_istore_n (pc := 42) (lv' := [(2, .int v4), (5, .int x2), (0, .ref (α h0)), (1, .int v1), (3, .int v3), (4, .int v4)]) hx hb dX3_carryingSet_42 rfl hl (by decide) rfl ?_
          clear hl
          intro ls hl
          refine lv_iload (pc := 43) hx hb dX3_carryingSet_43 (lv_at hl 1 rfl) ?_
          refine lv_istore_n (pc := 45) (lv' := [(3, .int x2), (2, .int v4), (5, .int x2), (0, .ref (α h0)), (1, .int v1), (4, .int v4)]) hx hb dX3_carryingSet_45 rfl hl (by decide) rfl ?_
          clear hl
          intro ls hl
          refine lv_iinc (pc := 46) (v := v4 + (1 : Int32)) (lv' := [(4, .int (v4 + (1 : Int32))), (3, .int x2), (2, .int v4), (5, .int x2), (0, .ref (α h0)), (1, .int v1)]) hx hb dX3_carryingSet_46 hl (k := 5) rfl rfl (by decide) rfl ?_
          clear hl
          intro ls hl
          refine lv_goto (pc := 49) (tgt := 9) hx hb dX3_carryingSet_49 (by decide) ?_
          exact ih _ _ _ _ _ _ hf hW hS (lv_sub hl [4, 5, 2, 1, 0] rfl)
set_option maxRecDepth 100000 in
set_option maxHeartbeats 4000000 in
theorem b_X3_carryingSet {H : Heap} {locs : List Loc} {ls : Array Slot} {σ : um_S} {r : Int32} (h0 : Nat) (a1 : Int32) (hh0 : xT h0 = true) (hX : um_X sh) (hf : f_X3_carryingSet h0 a1 σ = some r) (Cx : um_C p s m meth c args cX3_carryingSet 6 (some FieldType.int) RX3 Z) (hW : um_W Z sh α σ H) (hS : va_S (um_D sh α) s.heap H locs) (hl : lv_has ls 6 [(0, .ref (α h0)), (1, .int a1)]) : um_G p l e (2) (49) s m args below meth c Z sh α σ (some (.int r)) H locs (F0 m 0 ls []) := by
  have hx := Cx.1
  have hb := Cx.2.1
  have hown := Cx.2.2.2.2.1
  have hts := Cx.2.2.2.2.2.1
  rw [f_X3_carryingSet] at hf
  refine lv_ldc (pc := 0) hx hb hown (hts _ qC_X3_26) dX3_carryingSet_0 ?_
  refine lv_istore_n (pc := 2) (lv' := [(2, .int (-1000000005 : Int32)), (0, .ref (α h0)), (1, .int a1)]) hx hb dX3_carryingSet_2 rfl hl (by decide) rfl ?_
  clear hl
  intro ls hl
  refine lv_bipush (pc := 3) (v := (9 : Int32)) hx hb dX3_carryingSet_3 (by decide) ?_
  refine lv_istore_n (pc := 5) (lv' := [(3, .int (9 : Int32)), (2, .int (-1000000005 : Int32)), (0, .ref (α h0)), (1, .int a1)]) hx hb dX3_carryingSet_5 rfl hl (by decide) rfl ?_
  clear hl
  intro ls hl
  refine lv_iconst (pc := 6) (v := (0 : Int32)) hx hb dX3_carryingSet_6 (by decide) ?_
  refine lv_istore (pc := 7) (lv' := [(4, .int (0 : Int32)), (3, .int (9 : Int32)), (2, .int (-1000000005 : Int32)), (0, .ref (α h0)), (1, .int a1)]) hx hb dX3_carryingSet_7 hl (by decide) rfl ?_
  clear hl
  intro ls hl
  obtain ⟨x1, hc2, hf⟩ := um_bi hf
  refine t_X3_carryingSet_l9 h0 a1 hh0 hX Cx ?_ um_N _ _ _ _ _ _ hc2 hW hS (lv_sub hl [3, 4, 2, 1, 0] rfl)
  clear hW hS hl hc2
  intro H locs ls hW hS hl
  refine lv_iload_n (pc := 52) hx hb dX3_carryingSet_52 rfl (lv_at hl 0 rfl) ?_
  exact um_iretR (pc := 53) Cx hW hS hf dX3_carryingSet_53
theorem c_X3_carryingSet {σ : um_S} {r : Int32} (h0 : Nat) (a1 : Int32) (hh0 : xT h0 = true) (hX : um_X sh) (hf : f_X3_carryingSet h0 a1 σ = some r) : um_M l yX3_carryingSet cX3_carryingSet 6 (some FieldType.int) (2) (49) Z sh α σ [.ref (α h0), .int a1] (some (.int r)) σ :=
  um_start (by decide) (Nat.le_of_ble_eq_true rfl) (fun p e s m below meth c ls Cx hW hS hl => b_X3_carryingSet h0 a1 hh0 hX hf Cx hW hS hl)
