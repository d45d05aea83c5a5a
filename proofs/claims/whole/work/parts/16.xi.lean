variable {p : Program} {l : Launch} {e : Env} {s : State} {m : MethodId} {args : Array Value} {below : List Frame} {meth : Method} {c : Code} {Z : um_Z} {α : Nat → Nat} {sh : Nat → Option um_Sh}
noncomputable def f_X8_mark (a1 : Int32) (a2 : Int32) (σ : um_S) : Option (Int32 × um_S) :=
    (f_X5_holds (20 * 1 + 1) a1 σ).bind fun x2 =>
    (if (um_b x2) = 0 then
    (some ((-1000000001 : Int32), σ))
    else
    ((f_X8_within a2 (0 : Int32) (3 : Int32) σ).bind fun x4 =>
    (if (um_b x4) = 0 then
    (some ((-1000000001 : Int32), σ))
    else
    ((f_X4_isDead 1 a1 σ).bind fun x6 =>
    (if (um_b x6) = 0 then
    ((f_X4_hasLanded 1 a1 σ).bind fun x8 =>
    (if (um_b x8) = 0 then
    (some ((-1000000002 : Int32), σ))
    else
    (um_b2 (f_X5_add (20 * 1 + 3) a1 (σ.1 1 12) a2 (0 : Int32) σ) fun x11 σ10 =>
    (some (x11, σ10)))))
    else
    (some ((-1000000002 : Int32), σ)))))))
set_option maxRecDepth 100000 in
set_option maxHeartbeats 4000000 in
theorem b_X8_mark {H : Heap} {locs : List Loc} {ls : Array Slot} {σ : um_S} {σ' : um_S} {r : Int32} (a1 : Int32) (a2 : Int32) (hX : um_X sh) (hf : f_X8_mark a1 a2 σ = some (r, σ')) (Cx : um_C p s m meth c args cX8_mark 3 (some FieldType.int) RX8 Z) (hW : um_W Z sh α σ H) (hS : va_S (um_D sh α) s.heap H locs) (hl : lv_has ls 3 [(0, .ref (α 0)), (1, .int a1), (2, .int a2)]) : um_G p l e (2) (50) s m args below meth c Z sh α σ' (some (.int r)) H locs (F0 m 0 ls []) := by
  have hx := Cx.1
  have hb := Cx.2.1
  have hown := Cx.2.2.2.2.1
  have hts := Cx.2.2.2.2.2.1
  rw [f_X8_mark] at hf
  refine lv_aload_n (pc := 0) hx hb dX8_mark_0 rfl (lv_at hl 0 rfl) ?_
  refine gF_X8_10 (pc := 1) Cx hW (hX 0 _ rfl) rfl dX8_mark_1 ?_
  refine gF_X8_77 (pc := 4) Cx hW (xs_shore hX (Or.inl rfl)) rfl dX8_mark_4 ?_
  refine lv_iload_n (pc := 7) hx hb dX8_mark_7 rfl (lv_at hl 1 rfl) ?_
  obtain ⟨x2, hc1, hf⟩ := um_bi hf
  refine um_cVi (pc := 8) (As := [.int a1]) (rest := []) Cx (c_X5_holds (20 * 1 + 1) a1 (xs_ht (Or.inl rfl) 1 rfl) hX hc1) kV_X5_holds (Or.inl qM_X8_70) hW hS (xs_tab hX (xs_ht (Or.inl rfl) 1 rfl)) rfl rfl hl rfl (Nat.le_of_ble_eq_true rfl) (Nat.le_of_ble_eq_true rfl) (Nat.le_of_ble_eq_true rfl) dX8_mark_8 (Nat.le_refl _) (Nat.le_refl _) ?_
  clear hW hS hc1
  intro H locs hW hS
  refine lv_if_eq (pc := 11) (tgt := 23) hx hb dX8_mark_11 (by decide) (fun c1 => ?_) (fun c1 => ?_)
  · have hf := um_it c1 hf
    clear c1
    refine lv_ldc (pc := 23) hx hb hown (hts _ qC_X8_59) dX8_mark_23 ?_
    exact um_iret (pc := 25) Cx hW hS hf dX8_mark_25
  · have hf := um_ie c1 hf
    clear c1
    refine lv_iload_n (pc := 14) hx hb dX8_mark_14 rfl (lv_at hl 2 rfl) ?_
    refine lv_iconst (pc := 15) (v := (0 : Int32)) hx hb dX8_mark_15 (by decide) ?_
    refine lv_iconst (pc := 16) (v := (3 : Int32)) hx hb dX8_mark_16 (by decide) ?_
    obtain ⟨x4, hc3, hf⟩ := um_bi hf
    refine um_cSi (pc := 17) (As := [.int a2, .int (0 : Int32), .int (3 : Int32)]) (rest := []) Cx (c_X8_within a2 (0 : Int32) (3 : Int32) hX hc3) kS_X8_within (Or.inl qM_X8_55) hW hS rfl hl rfl (Nat.le_of_ble_eq_true rfl) (Nat.le_of_ble_eq_true rfl) (Nat.le_of_ble_eq_true rfl) dX8_mark_17 (Nat.le_refl _) (Nat.le_refl _) ?_
    clear hW hS hc3
    intro H locs hW hS
    refine lv_if_ne (pc := 20) (tgt := 26) hx hb dX8_mark_20 (by decide) (fun c1 => ?_) (fun c1 => ?_)
    · have hf := um_ie c1 hf
      clear c1
      refine lv_aload_n (pc := 26) hx hb dX8_mark_26 rfl (lv_at hl 0 rfl) ?_
      refine gF_X8_10 (pc := 27) Cx hW (hX 0 _ rfl) rfl dX8_mark_27 ?_
      refine lv_iload_n (pc := 30) hx hb dX8_mark_30 rfl (lv_at hl 1 rfl) ?_
      obtain ⟨x6, hc5, hf⟩ := um_bi hf
      refine um_cVi (pc := 31) (As := [.int a1]) (rest := []) Cx (c_X4_isDead 1 a1 (Or.inl rfl) hX hc5) kV_X4_isDead (Or.inl qM_X8_102) hW hS (xs_shore hX (Or.inl rfl)) rfl rfl hl rfl (Nat.le_of_ble_eq_true rfl) (Nat.le_of_ble_eq_true rfl) (Nat.le_of_ble_eq_true rfl) dX8_mark_31 (Nat.le_refl _) (Nat.le_refl _) ?_
      clear hW hS hc5
      intro H locs hW hS
      refine lv_if_ne (pc := 34) (tgt := 48) hx hb dX8_mark_34 (by decide) (fun c1 => ?_) (fun c1 => ?_)
      · have hf := um_ie c1 hf
        clear c1
        refine lv_ldc (pc := 48) hx hb hown (hts _ qC_X8_88) dX8_mark_48 ?_
        exact um_iret (pc := 50) Cx hW hS hf dX8_mark_50
      · have hf := um_it c1 hf
        clear c1
        refine lv_aload_n (pc := 37) hx hb dX8_mark_37 rfl (lv_at hl 0 rfl) ?_
        refine gF_X8_10 (pc := 38) Cx hW (hX 0 _ rfl) rfl dX8_mark_38 ?_
        refine lv_iload_n (pc := 41) hx hb dX8_mark_41 rfl (lv_at hl 1 rfl) ?_
        obtain ⟨x8, hc7, hf⟩ := um_bi hf
        refine um_cVi (pc := 42) (As := [.int a1]) (rest := []) Cx (c_X4_hasLanded 1 a1 (Or.inl rfl) hX hc7) kV_X4_hasLanded (Or.inl qM_X8_85) hW hS (xs_shore hX (Or.inl rfl)) rfl rfl hl rfl (Nat.le_of_ble_eq_true rfl) (Nat.le_of_ble_eq_true rfl) (Nat.le_of_ble_eq_true rfl) dX8_mark_42 (Nat.le_refl _) (Nat.le_refl _) ?_
        clear hW hS hc7
        intro H locs hW hS
        refine lv_if_ne (pc := 45) (tgt := 51) hx hb dX8_mark_45 (by decide) (fun c1 => ?_) (fun c1 => ?_)
        · have hf := um_ie c1 hf
          clear c1
          refine lv_aload_n (pc := 51) hx hb dX8_mark_51 rfl (lv_at hl 0 rfl) ?_
          refine gF_X8_10 (pc := 52) Cx hW (hX 0 _ rfl) rfl dX8_mark_52 ?_
          refine gF_X8_161 (pc := 55) Cx hW (xs_shore hX (Or.inl rfl)) rfl dX8_mark_55 ?_
          refine lv_iload_n (pc := 58) hx hb dX8_mark_58 rfl (lv_at hl 1 rfl) ?_
          refine lv_aload_n (pc := 59) hx hb dX8_mark_59 rfl (lv_at hl 0 rfl) ?_
          refine gF_X8_10 (pc := 60) Cx hW (hX 0 _ rfl) rfl dX8_mark_60 ?_
          refine gF_X8_51 (pc := 63) Cx hW (xs_shore hX (Or.inl rfl)) rfl dX8_mark_63 ?_
          refine lv_iload_n (pc := 66) hx hb dX8_mark_66 rfl (lv_at hl 2 rfl) ?_
          refine lv_iconst (pc := 67) (v := (0 : Int32)) hx hb dX8_mark_67 (by decide) ?_
          obtain ⟨x11, σ10, hc9, hf⟩ := um_bi2 hf
          refine um_cVi (pc := 68) (As := [.int a1, .int (σ.1 1 12), .int a2, .int (0 : Int32)]) (rest := []) Cx (c_X5_add (20 * 1 + 3) a1 (σ.1 1 12) a2 (0 : Int32) (xs_ht (Or.inl rfl) 3 rfl) hX hc9) kV_X5_add (Or.inl qM_X8_64) hW hS (xs_tab hX (xs_ht (Or.inl rfl) 3 rfl)) rfl rfl hl rfl (Nat.le_of_ble_eq_true rfl) (Nat.le_of_ble_eq_true rfl) (Nat.le_of_ble_eq_true rfl) dX8_mark_68 (Nat.le_refl _) (Nat.le_refl _) ?_
          clear hW hS hc9
          intro H locs hW hS
          exact um_iret (pc := 71) Cx hW hS hf dX8_mark_71
        · have hf := um_it c1 hf
          clear c1
          refine lv_ldc (pc := 48) hx hb hown (hts _ qC_X8_88) dX8_mark_48 ?_
          exact um_iret (pc := 50) Cx hW hS hf dX8_mark_50
    · have hf := um_it c1 hf
      clear c1
      refine lv_ldc (pc := 23) hx hb hown (hts _ qC_X8_59) dX8_mark_23 ?_
      exact um_iret (pc := 25) Cx hW hS hf dX8_mark_25
theorem c_X8_mark {σ : um_S} {σ' : um_S} {r : Int32} (a1 : Int32) (a2 : Int32) (hX : um_X sh) (hf : f_X8_mark a1 a2 σ = some (r, σ')) : um_M l yX8_mark cX8_mark 3 (some FieldType.int) (2) (50) Z sh α σ [.ref (α 0), .int a1, .int a2] (some (.int r)) σ' :=
  um_start (by decide) (Nat.le_of_ble_eq_true rfl) (fun p e s m below meth c ls Cx hW hS hl => b_X8_mark a1 a2 hX hf Cx hW hS hl)
noncomputable def f_X8_markTold (a1 : Int32) (a2 : Int32) (σ : um_S) : Option (Int32) :=
    (f_X5_holds (20 * 1 + 3) a1 σ).bind fun x2 =>
    (if (um_b x2) = 0 then
    (some (-1000000001 : Int32))
    else
    ((f_X8_within a2 (0 : Int32) (3 : Int32) σ).bind fun x4 =>
    (if (um_b x4) = 0 then
    (some (-1000000001 : Int32))
    else
    ((f_X5_get (20 * 1 + 3) a1 a2 σ).bind fun x6 =>
    (some x6)))))
set_option maxRecDepth 100000 in
set_option maxHeartbeats 4000000 in
theorem b_X8_markTold {H : Heap} {locs : List Loc} {ls : Array Slot} {σ : um_S} {r : Int32} (a1 : Int32) (a2 : Int32) (hX : um_X sh) (hf : f_X8_markTold a1 a2 σ = some r) (Cx : um_C p s m meth c args cX8_markTold 3 (some FieldType.int) RX8 Z) (hW : um_W Z sh α σ H) (hS : va_S (um_D sh α) s.heap H locs) (hl : lv_has ls 3 [(0, .ref (α 0)), (1, .int a1), (2, .int a2)]) : um_G p l e (1) (24) s m args below meth c Z sh α σ (some (.int r)) H locs (F0 m 0 ls []) := by
  have hx := Cx.1
  have hb := Cx.2.1
  have hown := Cx.2.2.2.2.1
  have hts := Cx.2.2.2.2.2.1
  rw [f_X8_markTold] at hf
  refine lv_aload_n (pc := 0) hx hb dX8_markTold_0 rfl (lv_at hl 0 rfl) ?_
  refine gF_X8_10 (pc := 1) Cx hW (hX 0 _ rfl) rfl dX8_markTold_1 ?_
  refine gF_X8_161 (pc := 4) Cx hW (xs_shore hX (Or.inl rfl)) rfl dX8_markTold_4 ?_
  refine lv_iload_n (pc := 7) hx hb dX8_markTold_7 rfl (lv_at hl 1 rfl) ?_
  obtain ⟨x2, hc1, hf⟩ := um_bi hf
  refine um_cVi (pc := 8) (As := [.int a1]) (rest := []) Cx (c_X5_holds (20 * 1 + 3) a1 (xs_ht (Or.inl rfl) 3 rfl) hX hc1) kV_X5_holds (Or.inl qM_X8_70) hW hS (xs_tab hX (xs_ht (Or.inl rfl) 3 rfl)) rfl rfl hl rfl (Nat.le_of_ble_eq_true rfl) (Nat.le_of_ble_eq_true rfl) (Nat.le_of_ble_eq_true rfl) dX8_markTold_8 (Nat.le_refl _) (Nat.le_refl _) ?_
  clear hW hS hc1
  intro H locs hW hS
  refine lv_if_eq (pc := 11) (tgt := 23) hx hb dX8_markTold_11 (by decide) (fun c1 => ?_) (fun c1 => ?_)
  · have hf := um_it c1 hf
    clear c1
    refine lv_ldc (pc := 23) hx hb hown (hts _ qC_X8_59) dX8_markTold_23 ?_
    exact um_iretR (pc := 25) Cx hW hS hf dX8_markTold_25
  · have hf := um_ie c1 hf
    clear c1
    refine lv_iload_n (pc := 14) hx hb dX8_markTold_14 rfl (lv_at hl 2 rfl) ?_
    refine lv_iconst (pc := 15) (v := (0 : Int32)) hx hb dX8_markTold_15 (by decide) ?_
    refine lv_iconst (pc := 16) (v := (3 : Int32)) hx hb dX8_markTold_16 (by decide) ?_
    obtain ⟨x4, hc3, hf⟩ := um_bi hf
    refine um_cSi (pc := 17) (As := [.int a2, .int (0 : Int32), .int (3 : Int32)]) (rest := []) Cx (c_X8_within a2 (0 : Int32) (3 : Int32) hX hc3) kS_X8_within (Or.inl qM_X8_55) hW hS rfl hl rfl (Nat.le_of_ble_eq_true rfl) (Nat.le_of_ble_eq_true rfl) (Nat.le_of_ble_eq_true rfl) dX8_markTold_17 (Nat.le_refl _) (Nat.le_refl _) ?_
    clear hW hS hc3
    intro H locs hW hS
    refine lv_if_ne (pc := 20) (tgt := 26) hx hb dX8_markTold_20 (by decide) (fun c1 => ?_) (fun c1 => ?_)
    · have hf := um_ie c1 hf
      clear c1
      refine lv_aload_n (pc := 26) hx hb dX8_markTold_26 rfl (lv_at hl 0 rfl) ?_
      refine gF_X8_10 (pc := 27) Cx hW (hX 0 _ rfl) rfl dX8_markTold_27 ?_
      refine gF_X8_161 (pc := 30) Cx hW (xs_shore hX (Or.inl rfl)) rfl dX8_markTold_30 ?_
      refine lv_iload_n (pc := 33) hx hb dX8_markTold_33 rfl (lv_at hl 1 rfl) ?_
      refine lv_iload_n (pc := 34) hx hb dX8_markTold_34 rfl (lv_at hl 2 rfl) ?_
      obtain ⟨x6, hc5, hf⟩ := um_bi hf
      refine um_cVi (pc := 35) (As := [.int a1, .int a2]) (rest := []) Cx (c_X5_get (20 * 1 + 3) a1 a2 (xs_ht (Or.inl rfl) 3 rfl) hX hc5) kV_X5_get (Or.inl qM_X8_73) hW hS (xs_tab hX (xs_ht (Or.inl rfl) 3 rfl)) rfl rfl hl rfl (Nat.le_of_ble_eq_true rfl) (Nat.le_of_ble_eq_true rfl) (Nat.le_of_ble_eq_true rfl) dX8_markTold_35 (Nat.le_refl _) (Nat.le_refl _) ?_
      clear hW hS hc5
      intro H locs hW hS
      exact um_iretR (pc := 38) Cx hW hS hf dX8_markTold_38
    · have hf := um_it c1 hf
      clear c1
      refine lv_ldc (pc := 23) hx hb hown (hts _ qC_X8_59) dX8_markTold_23 ?_
      exact um_iretR (pc := 25) Cx hW hS hf dX8_markTold_25
theorem c_X8_markTold {σ : um_S} {r : Int32} (a1 : Int32) (a2 : Int32) (hX : um_X sh) (hf : f_X8_markTold a1 a2 σ = some r) : um_M l yX8_markTold cX8_markTold 3 (some FieldType.int) (1) (24) Z sh α σ [.ref (α 0), .int a1, .int a2] (some (.int r)) σ :=
  um_start (by decide) (Nat.le_of_ble_eq_true rfl) (fun p e s m below meth c ls Cx hW hS hl => b_X8_markTold a1 a2 hX hf Cx hW hS hl)
noncomputable def f_X8_master (a1 : Int32) (a2 : Int32) (a3 : Int32) (a4 : Int32) (σ : um_S) : Option (Int32 × um_S) :=
    (f_X8_isPlace a1 σ).bind fun x2 =>
    (if (um_b x2) = 0 then
    (some ((-1000000001 : Int32), σ))
    else
    ((f_X8_within a2 (0 : Int32) (63 : Int32) σ).bind fun x4 =>
    (if (um_b x4) = 0 then
    (some ((-1000000001 : Int32), σ))
    else
    ((f_X8_within a3 (0 : Int32) (9 : Int32) σ).bind fun x6 =>
    (if (um_b x6) = 0 then
    (some ((-1000000001 : Int32), σ))
    else
    ((f_X8_within a4 (0 : Int32) (99 : Int32) σ).bind fun x8 =>
    (if (um_b x8) = 0 then
    (some ((-1000000001 : Int32), σ))
    else
    (um_b2 (f_X5_add (20 * 1 + 2) a1 a2 a3 a4 σ) fun x11 σ10 =>
    (some (x11, σ10))))))))))
set_option maxRecDepth 100000 in
set_option maxHeartbeats 4000000 in
theorem b_X8_master {H : Heap} {locs : List Loc} {ls : Array Slot} {σ : um_S} {σ' : um_S} {r : Int32} (a1 : Int32) (a2 : Int32) (a3 : Int32) (a4 : Int32) (hX : um_X sh) (hf : f_X8_master a1 a2 a3 a4 σ = some (r, σ')) (Cx : um_C p s m meth c args cX8_master 5 (some FieldType.int) RX8 Z) (hW : um_W Z sh α σ H) (hS : va_S (um_D sh α) s.heap H locs) (hl : lv_has ls 5 [(0, .ref (α 0)), (1, .int a1), (2, .int a2), (3, .int a3), (4, .int a4)]) : um_G p l e (2) (50) s m args below meth c Z sh α σ' (some (.int r)) H locs (F0 m 0 ls []) := by
  have hx := Cx.1
  have hb := Cx.2.1
  have hown := Cx.2.2.2.2.1
  have hts := Cx.2.2.2.2.2.1
  rw [f_X8_master] at hf
  refine lv_iload_n (pc := 0) hx hb dX8_master_0 rfl (lv_at hl 1 rfl) ?_
  obtain ⟨x2, hc1, hf⟩ := um_bi hf
  refine um_cSi (pc := 1) (As := [.int a1]) (rest := []) Cx (c_X8_isPlace a1 hX hc1) kS_X8_isPlace (Or.inl qM_X8_47) hW hS rfl hl rfl (Nat.le_of_ble_eq_true rfl) (Nat.le_of_ble_eq_true rfl) (Nat.le_of_ble_eq_true rfl) dX8_master_1 (Nat.le_refl _) (Nat.le_refl _) ?_
  clear hW hS hc1
  intro H locs hW hS
  refine lv_if_eq (pc := 4) (tgt := 17) hx hb dX8_master_4 (by decide) (fun c1 => ?_) (fun c1 => ?_)
  · have hf := um_it c1 hf
    clear c1
    refine lv_ldc (pc := 17) hx hb hown (hts _ qC_X8_59) dX8_master_17 ?_
    exact um_iret (pc := 19) Cx hW hS hf dX8_master_19
  · have hf := um_ie c1 hf
    clear c1
    refine lv_iload_n (pc := 7) hx hb dX8_master_7 rfl (lv_at hl 2 rfl) ?_
    refine lv_iconst (pc := 8) (v := (0 : Int32)) hx hb dX8_master_8 (by decide) ?_
    refine lv_bipush (pc := 9) (v := (63 : Int32)) hx hb dX8_master_9 (by decide) ?_
    obtain ⟨x4, hc3, hf⟩ := um_bi hf
    refine um_cSi (pc := 11) (As := [.int a2, .int (0 : Int32), .int (63 : Int32)]) (rest := []) Cx (c_X8_within a2 (0 : Int32) (63 : Int32) hX hc3) kS_X8_within (Or.inl qM_X8_55) hW hS rfl hl rfl (Nat.le_of_ble_eq_true rfl) (Nat.le_of_ble_eq_true rfl) (Nat.le_of_ble_eq_true rfl) dX8_master_11 (Nat.le_refl _) (Nat.le_refl _) ?_
    clear hW hS hc3
    intro H locs hW hS
    refine lv_if_ne (pc := 14) (tgt := 20) hx hb dX8_master_14 (by decide) (fun c1 => ?_) (fun c1 => ?_)
    · have hf := um_ie c1 hf
      clear c1
      refine lv_iload_n (pc := 20) hx hb dX8_master_20 rfl (lv_at hl 3 rfl) ?_
      refine lv_iconst (pc := 21) (v := (0 : Int32)) hx hb dX8_master_21 (by decide) ?_
      refine lv_bipush (pc := 22) (v := (9 : Int32)) hx hb dX8_master_22 (by decide) ?_
      obtain ⟨x6, hc5, hf⟩ := um_bi hf
      refine um_cSi (pc := 24) (As := [.int a3, .int (0 : Int32), .int (9 : Int32)]) (rest := []) Cx (c_X8_within a3 (0 : Int32) (9 : Int32) hX hc5) kS_X8_within (Or.inl qM_X8_55) hW hS rfl hl rfl (Nat.le_of_ble_eq_true rfl) (Nat.le_of_ble_eq_true rfl) (Nat.le_of_ble_eq_true rfl) dX8_master_24 (Nat.le_refl _) (Nat.le_refl _) ?_
      clear hW hS hc5
      intro H locs hW hS
      refine lv_if_eq (pc := 27) (tgt := 41) hx hb dX8_master_27 (by decide) (fun c1 => ?_) (fun c1 => ?_)
      · have hf := um_it c1 hf
        clear c1
        refine lv_ldc (pc := 41) hx hb hown (hts _ qC_X8_59) dX8_master_41 ?_
        exact um_iret (pc := 43) Cx hW hS hf dX8_master_43
      · have hf := um_ie c1 hf
        clear c1
        refine lv_iload (pc := 30) hx hb dX8_master_30 (lv_at hl 4 rfl) ?_
        refine lv_iconst (pc := 32) (v := (0 : Int32)) hx hb dX8_master_32 (by decide) ?_
        refine lv_bipush (pc := 33) (v := (99 : Int32)) hx hb dX8_master_33 (by decide) ?_
        obtain ⟨x8, hc7, hf⟩ := um_bi hf
        refine um_cSi (pc := 35) (As := [.int a4, .int (0 : Int32), .int (99 : Int32)]) (rest := []) Cx (c_X8_within a4 (0 : Int32) (99 : Int32) hX hc7) kS_X8_within (Or.inl qM_X8_55) hW hS rfl hl rfl (Nat.le_of_ble_eq_true rfl) (Nat.le_of_ble_eq_true rfl) (Nat.le_of_ble_eq_true rfl) dX8_master_35 (Nat.le_refl _) (Nat.le_refl _) ?_
        clear hW hS hc7
        intro H locs hW hS
        refine lv_if_ne (pc := 38) (tgt := 44) hx hb dX8_master_38 (by decide) (fun c1 => ?_) (fun c1 => ?_)
        · have hf := um_ie c1 hf
          clear c1
          refine lv_aload_n (pc := 44) hx hb dX8_master_44 rfl (lv_at hl 0 rfl) ?_
          refine gF_X8_10 (pc := 45) Cx hW (hX 0 _ rfl) rfl dX8_master_45 ?_
          refine gF_X8_110 (pc := 48) Cx hW (xs_shore hX (Or.inl rfl)) rfl dX8_master_48 ?_
          refine lv_iload_n (pc := 51) hx hb dX8_master_51 rfl (lv_at hl 1 rfl) ?_
          refine lv_iload_n (pc := 52) hx hb dX8_master_52 rfl (lv_at hl 2 rfl) ?_
          refine lv_iload_n (pc := 53) hx hb dX8_master_53 rfl (lv_at hl 3 rfl) ?_
          refine lv_iload (pc := 54) hx hb dX8_master_54 (lv_at hl 4 rfl) ?_
          obtain ⟨x11, σ10, hc9, hf⟩ := um_bi2 hf
          refine um_cVi (pc := 56) (As := [.int a1, .int a2, .int a3, .int a4]) (rest := []) Cx (c_X5_add (20 * 1 + 2) a1 a2 a3 a4 (xs_ht (Or.inl rfl) 2 rfl) hX hc9) kV_X5_add (Or.inl qM_X8_64) hW hS (xs_tab hX (xs_ht (Or.inl rfl) 2 rfl)) rfl rfl hl rfl (Nat.le_of_ble_eq_true rfl) (Nat.le_of_ble_eq_true rfl) (Nat.le_of_ble_eq_true rfl) dX8_master_56 (Nat.le_refl _) (Nat.le_refl _) ?_
          clear hW hS hc9
          intro H locs hW hS
          exact um_iret (pc := 59) Cx hW hS hf dX8_master_59
        · have hf := um_it c1 hf
          clear c1
          refine lv_ldc (pc := 41) hx hb hown (hts _ qC_X8_59) dX8_master_41 ?_
          exact um_iret (pc := 43) Cx hW hS hf dX8_master_43
    · have hf := um_it c1 hf
      clear c1
      refine lv_ldc (pc := 17) hx hb hown (hts _ qC_X8_59) dX8_master_17 ?_
      exact um_iret (pc := 19) Cx hW hS hf dX8_master_19
theorem c_X8_master {σ : um_S} {σ' : um_S} {r : Int32} (a1 : Int32) (a2 : Int32) (a3 : Int32) (a4 : Int32) (hX : um_X sh) (hf : f_X8_master a1 a2 a3 a4 σ = some (r, σ')) : um_M l yX8_master cX8_master 5 (some FieldType.int) (2) (50) Z sh α σ [.ref (α 0), .int a1, .int a2, .int a3, .int a4] (some (.int r)) σ' :=
  um_start (by decide) (Nat.le_of_ble_eq_true rfl) (fun p e s m below meth c ls Cx hW hS hl => b_X8_master a1 a2 a3 a4 hX hf Cx hW hS hl)
noncomputable def f_X8_may (a1 : Int32) (a2 : Int32) (σ : um_S) : Option (Int32) :=
    (f_X5_holds (20 * 1 + 5) a1 σ).bind fun x2 =>
    (if (um_b x2) = 0 then
    (some (-1000000001 : Int32))
    else
    ((f_X4_menWhoMayBe 1 a1 σ).bind fun x4 =>
    (if a2 = (0 : Int32) then
    (some x4)
    else
    (if a2 = (1 : Int32) then
    ((f_J6_bitCount_0f7a4 x4 σ).bind fun x6 =>
    (if x6 = (1 : Int32) then
    ((f_J6_numberOfTrailingZeros_0f7a4 x4 σ).bind fun x8 =>
    (some x8))
    else
    (some (-1000000005 : Int32))))
    else
    (if a2 = (2 : Int32) then
    ((f_J6_bitCount_0f7a4 x4 σ).bind fun x10 =>
    (if (2 : Int32) ≤ x10 then
    ((f_X4_partingBit 1 x4 σ).bind fun x12 =>
    (some x12))
    else
    (some (-1000000005 : Int32))))
    else
    (some (-1000000001 : Int32)))))))
set_option maxRecDepth 100000 in
set_option maxHeartbeats 4000000 in
theorem b_X8_may {H : Heap} {locs : List Loc} {ls : Array Slot} {σ : um_S} {r : Int32} (a1 : Int32) (a2 : Int32) (hX : um_X sh) (hf : f_X8_may a1 a2 σ = some r) (Cx : um_C p s m meth c args cX8_may 4 (some FieldType.int) RX8 Z) (hW : um_W Z sh α σ H) (hS : va_S (um_D sh α) s.heap H locs) (hl : lv_has ls 4 [(0, .ref (α 0)), (1, .int a1), (2, .int a2)]) : um_G p l e (3) (79) s m args below meth c Z sh α σ (some (.int r)) H locs (F0 m 0 ls []) := by
  have hx := Cx.1
  have hb := Cx.2.1
  have hown := Cx.2.2.2.2.1
  have hts := Cx.2.2.2.2.2.1
  rw [f_X8_may] at hf
  refine lv_aload_n (pc := 0) hx hb dX8_may_0 rfl (lv_at hl 0 rfl) ?_
  refine gF_X8_10 (pc := 1) Cx hW (hX 0 _ rfl) rfl dX8_may_1 ?_
  refine gF_X8_209 (pc := 4) Cx hW (xs_shore hX (Or.inl rfl)) rfl dX8_may_4 ?_
  refine lv_iload_n (pc := 7) hx hb dX8_may_7 rfl (lv_at hl 1 rfl) ?_
  obtain ⟨x2, hc1, hf⟩ := um_bi hf
  refine um_cVi (pc := 8) (As := [.int a1]) (rest := []) Cx (c_X5_holds (20 * 1 + 5) a1 (xs_ht (Or.inl rfl) 5 rfl) hX hc1) kV_X5_holds (Or.inl qM_X8_70) hW hS (xs_tab hX (xs_ht (Or.inl rfl) 5 rfl)) rfl rfl hl rfl (Nat.le_of_ble_eq_true rfl) (Nat.le_of_ble_eq_true rfl) (Nat.le_of_ble_eq_true rfl) dX8_may_8 (Nat.le_refl _) (Nat.le_refl _) ?_
  clear hW hS hc1
  intro H locs hW hS
  refine lv_if_ne (pc := 11) (tgt := 17) hx hb dX8_may_11 (by decide) (fun c1 => ?_) (fun c1 => ?_)
  · have hf := um_ie c1 hf
    clear c1
    refine lv_aload_n (pc := 17) hx hb dX8_may_17 rfl (lv_at hl 0 rfl) ?_
    refine gF_X8_10 (pc := 18) Cx hW (hX 0 _ rfl) rfl dX8_may_18 ?_
    refine lv_iload_n (pc := 21) hx hb dX8_may_21 rfl (lv_at hl 1 rfl) ?_
    obtain ⟨x4, hc3, hf⟩ := um_bi hf
    refine um_cVi (pc := 22) (As := [.int a1]) (rest := []) Cx (c_X4_menWhoMayBe 1 a1 (Or.inl rfl) hX hc3) kV_X4_menWhoMayBe (Or.inl qM_X8_212) hW hS (xs_shore hX (Or.inl rfl)) rfl rfl hl rfl (Nat.le_of_ble_eq_true rfl) (Nat.le_of_ble_eq_true rfl) (Nat.le_of_ble_eq_true rfl) dX8_may_22 (Nat.le_refl _) (Nat.le_refl _) ?_
    clear hW hS hc3
    intro H locs hW hS
    refine lv_istore_n (pc := 25) (lv' := [(3, .int x4), (0, .ref (α 0)), (1, .int a1), (2, .int a2)]) hx hb dX8_may_25 rfl hl (by decide) rfl ?_
    clear hl
    intro ls hl
    refine lv_iload_n (pc := 26) hx hb dX8_may_26 rfl (lv_at hl 3 rfl) ?_
    by_cases c1 : a2 = (0 : Int32)
    · have hf := um_it c1 hf
      refine lv_tableIn (pc := 27) (tgt := 52) hx hb dX8_may_27 (by rw [c1]; decide) (by rw [c1]; decide) (by rw [c1]; rfl) (by decide) ?_
      refine lv_iload_n (pc := 52) hx hb dX8_may_52 rfl (lv_at hl 0 rfl) ?_
      exact um_iretR (pc := 53) Cx hW hS hf dX8_may_53
    have hf := um_ie c1 hf
    by_cases c2 : a2 = (1 : Int32)
    · have hf := um_it c2 hf
      refine lv_tableIn (pc := 27) (tgt := 54) hx hb dX8_may_27 (by rw [c2]; decide) (by rw [c2]; decide) (by rw [c2]; rfl) (by decide) ?_
      refine lv_iload_n (pc := 54) hx hb dX8_may_54 rfl (lv_at hl 0 rfl) ?_
      obtain ⟨x6, hc5, hf⟩ := um_bi hf
      refine um_cSi (pc := 55) (As := [.int x4]) (rest := []) Cx (c_J6_bitCount_0f7a4 x4 hX hc5) kS_J6_bitCount_0f7a4 (Or.inl qM_X8_215) hW hS rfl hl rfl (Nat.le_of_ble_eq_true rfl) (Nat.le_of_ble_eq_true rfl) (Nat.le_of_ble_eq_true rfl) dX8_may_55 (Nat.le_refl _) (Nat.le_refl _) ?_
      clear hW hS hc5
      intro H locs hW hS
      refine lv_iconst (pc := 58) (v := (1 : Int32)) hx hb dX8_may_58 (by decide) ?_
      refine lv_icmp_ne (pc := 59) (tgt := 69) hx hb dX8_may_59 (by decide) (fun c1 => ?_) (fun c1 => ?_)
      · have hf := um_ie c1 hf
        clear c1
        refine lv_ldc (pc := 69) hx hb hown (hts _ qC_X8_109) dX8_may_69 ?_
        exact um_iretR (pc := 71) Cx hW hS hf dX8_may_71
      · have hf := um_it c1 hf
        clear c1
        refine lv_iload_n (pc := 62) hx hb dX8_may_62 rfl (lv_at hl 0 rfl) ?_
        obtain ⟨x8, hc7, hf⟩ := um_bi hf
        refine um_cSi (pc := 63) (As := [.int x4]) (rest := []) Cx (c_J6_numberOfTrailingZeros_0f7a4 x4 hX hc7) kS_J6_numberOfTrailingZeros_0f7a4 (Or.inl qM_X8_220) hW hS rfl hl rfl (Nat.le_of_ble_eq_true rfl) (Nat.le_of_ble_eq_true rfl) (Nat.le_of_ble_eq_true rfl) dX8_may_63 (Nat.le_refl _) (Nat.le_refl _) ?_
        clear hW hS hc7
        intro H locs hW hS
        refine lv_goto (pc := 66) (tgt := 71) hx hb dX8_may_66 (by decide) ?_
        exact um_iretR (pc := 71) Cx hW hS hf dX8_may_71
    have hf := um_ie c2 hf
    by_cases c3 : a2 = (2 : Int32)
    · have hf := um_it c3 hf
      refine lv_tableIn (pc := 27) (tgt := 72) hx hb dX8_may_27 (by rw [c3]; decide) (by rw [c3]; decide) (by rw [c3]; rfl) (by decide) ?_
      refine lv_iload_n (pc := 72) hx hb dX8_may_72 rfl (lv_at hl 0 rfl) ?_
      obtain ⟨x10, hc9, hf⟩ := um_bi hf
      refine um_cSi (pc := 73) (As := [.int x4]) (rest := []) Cx (c_J6_bitCount_0f7a4 x4 hX hc9) kS_J6_bitCount_0f7a4 (Or.inl qM_X8_215) hW hS rfl hl rfl (Nat.le_of_ble_eq_true rfl) (Nat.le_of_ble_eq_true rfl) (Nat.le_of_ble_eq_true rfl) dX8_may_73 (Nat.le_refl _) (Nat.le_refl _) ?_
      clear hW hS hc9
      intro H locs hW hS
      refine lv_iconst (pc := 76) (v := (2 : Int32)) hx hb dX8_may_76 (by decide) ?_
      refine lv_icmp_ge (pc := 77) (tgt := 85) hx hb dX8_may_77 (by decide) (fun c1 => ?_) (fun c1 => ?_)
      · have hf := um_it c1 hf
        clear c1
        refine lv_aload_n (pc := 85) hx hb dX8_may_85 rfl (lv_at hl 1 rfl) ?_
        refine gF_X8_10 (pc := 86) Cx hW (hX 0 _ rfl) rfl dX8_may_86 ?_
        refine lv_iload_n (pc := 89) hx hb dX8_may_89 rfl (lv_at hl 0 rfl) ?_
        obtain ⟨x12, hc11, hf⟩ := um_bi hf
        refine um_cVi (pc := 90) (As := [.int x4]) (rest := []) Cx (c_X4_partingBit 1 x4 (Or.inl rfl) hX hc11) kV_X4_partingBit (Or.inl qM_X8_223) hW hS (xs_shore hX (Or.inl rfl)) rfl rfl hl rfl (Nat.le_of_ble_eq_true rfl) (Nat.le_of_ble_eq_true rfl) (Nat.le_of_ble_eq_true rfl) dX8_may_90 (Nat.le_refl _) (Nat.le_refl _) ?_
        clear hW hS hc11
        intro H locs hW hS
        exact um_iretR (pc := 93) Cx hW hS hf dX8_may_93
      · have hf := um_ie c1 hf
        clear c1
        refine lv_ldc (pc := 80) hx hb hown (hts _ qC_X8_109) dX8_may_80 ?_
        refine lv_goto (pc := 82) (tgt := 93) hx hb dX8_may_82 (by decide) ?_
        exact um_iretR (pc := 93) Cx hW hS hf dX8_may_93
    have hf := um_ie c3 hf
    have ho : a2.toInt < 0 ∨ 2 < a2.toInt := um_tabO (lo := 0) (hi := 2) (fun z z1 z2 => by
      rcases (show z = 0 ∨ z = 1 ∨ z = 2 by omega) with rfl | rfl | rfl
      · exact c1
      · exact c2
      · exact c3)
    refine lv_tableOut (pc := 27) (tgt := 94) hx hb dX8_may_27 ho (by decide) ?_
    refine lv_ldc (pc := 94) hx hb hown (hts _ qC_X8_59) dX8_may_94 ?_
    exact um_iretR (pc := 96) Cx hW hS hf dX8_may_96
  · have hf := um_it c1 hf
    clear c1
    refine lv_ldc (pc := 14) hx hb hown (hts _ qC_X8_59) dX8_may_14 ?_
    exact um_iretR (pc := 16) Cx hW hS hf dX8_may_16
theorem c_X8_may {σ : um_S} {r : Int32} (a1 : Int32) (a2 : Int32) (hX : um_X sh) (hf : f_X8_may a1 a2 σ = some r) : um_M l yX8_may cX8_may 4 (some FieldType.int) (3) (79) Z sh α σ [.ref (α 0), .int a1, .int a2] (some (.int r)) σ :=
  um_start (by decide) (Nat.le_of_ble_eq_true rfl) (fun p e s m below meth c ls Cx hW hS hl => b_X8_may a1 a2 hX hf Cx hW hS hl)
noncomputable def f_X8_mean (a1 : Int32) (a2 : Int32) (σ : um_S) : Option (Int32) :=
    (f_X8_within a1 (0 : Int32) (3 : Int32) σ).bind fun x2 =>
    (if (um_b x2) = 0 then
    (some (-1000000001 : Int32))
    else
    ((f_X8_within a2 (0 : Int32) (7 : Int32) σ).bind fun x4 =>
    (if (um_b x4) = 0 then
    (some (-1000000001 : Int32))
    else
    ((f_X3_meanLashes (20 * 1 + 6) a1 a2 (1 : Int32) σ).bind fun x6 =>
    (some x6)))))
set_option maxRecDepth 100000 in
set_option maxHeartbeats 4000000 in
theorem b_X8_mean {H : Heap} {locs : List Loc} {ls : Array Slot} {σ : um_S} {r : Int32} (a1 : Int32) (a2 : Int32) (hX : um_X sh) (hf : f_X8_mean a1 a2 σ = some r) (Cx : um_C p s m meth c args cX8_mean 3 (some FieldType.int) RX8 Z) (hW : um_W Z sh α σ H) (hS : va_S (um_D sh α) s.heap H locs) (hl : lv_has ls 3 [(0, .ref (α 0)), (1, .int a1), (2, .int a2)]) : um_G p l e (2) (51) s m args below meth c Z sh α σ (some (.int r)) H locs (F0 m 0 ls []) := by
  have hx := Cx.1
  have hb := Cx.2.1
  have hown := Cx.2.2.2.2.1
  have hts := Cx.2.2.2.2.2.1
  rw [f_X8_mean] at hf
  refine lv_iload_n (pc := 0) hx hb dX8_mean_0 rfl (lv_at hl 1 rfl) ?_
  refine lv_iconst (pc := 1) (v := (0 : Int32)) hx hb dX8_mean_1 (by decide) ?_
  refine lv_iconst (pc := 2) (v := (3 : Int32)) hx hb dX8_mean_2 (by decide) ?_
  obtain ⟨x2, hc1, hf⟩ := um_bi hf
  refine um_cSi (pc := 3) (As := [.int a1, .int (0 : Int32), .int (3 : Int32)]) (rest := []) Cx (c_X8_within a1 (0 : Int32) (3 : Int32) hX hc1) kS_X8_within (Or.inl qM_X8_55) hW hS rfl hl rfl (Nat.le_of_ble_eq_true rfl) (Nat.le_of_ble_eq_true rfl) (Nat.le_of_ble_eq_true rfl) dX8_mean_3 (Nat.le_refl _) (Nat.le_refl _) ?_
  clear hW hS hc1
  intro H locs hW hS
  refine lv_if_eq (pc := 6) (tgt := 19) hx hb dX8_mean_6 (by decide) (fun c1 => ?_) (fun c1 => ?_)
  · have hf := um_it c1 hf
    clear c1
    refine lv_ldc (pc := 19) hx hb hown (hts _ qC_X8_59) dX8_mean_19 ?_
    exact um_iretR (pc := 21) Cx hW hS hf dX8_mean_21
  · have hf := um_ie c1 hf
    clear c1
    refine lv_iload_n (pc := 9) hx hb dX8_mean_9 rfl (lv_at hl 2 rfl) ?_
    refine lv_iconst (pc := 10) (v := (0 : Int32)) hx hb dX8_mean_10 (by decide) ?_
    refine lv_bipush (pc := 11) (v := (7 : Int32)) hx hb dX8_mean_11 (by decide) ?_
    obtain ⟨x4, hc3, hf⟩ := um_bi hf
    refine um_cSi (pc := 13) (As := [.int a2, .int (0 : Int32), .int (7 : Int32)]) (rest := []) Cx (c_X8_within a2 (0 : Int32) (7 : Int32) hX hc3) kS_X8_within (Or.inl qM_X8_55) hW hS rfl hl rfl (Nat.le_of_ble_eq_true rfl) (Nat.le_of_ble_eq_true rfl) (Nat.le_of_ble_eq_true rfl) dX8_mean_13 (Nat.le_refl _) (Nat.le_refl _) ?_
    clear hW hS hc3
    intro H locs hW hS
    refine lv_if_ne (pc := 16) (tgt := 22) hx hb dX8_mean_16 (by decide) (fun c1 => ?_) (fun c1 => ?_)
    · have hf := um_ie c1 hf
      clear c1
      refine lv_aload_n (pc := 22) hx hb dX8_mean_22 rfl (lv_at hl 0 rfl) ?_
      refine gF_X8_10 (pc := 23) Cx hW (hX 0 _ rfl) rfl dX8_mean_23 ?_
      refine gF_X8_236 (pc := 26) Cx hW (xs_shore hX (Or.inl rfl)) rfl dX8_mean_26 ?_
      refine lv_iload_n (pc := 29) hx hb dX8_mean_29 rfl (lv_at hl 1 rfl) ?_
      refine lv_iload_n (pc := 30) hx hb dX8_mean_30 rfl (lv_at hl 2 rfl) ?_
      refine lv_iconst (pc := 31) (v := (1 : Int32)) hx hb dX8_mean_31 (by decide) ?_
      obtain ⟨x6, hc5, hf⟩ := um_bi hf
      refine um_cSi (pc := 32) (As := [.ref (α (20 * 1 + 6)), .int a1, .int a2, .int (1 : Int32)]) (rest := []) Cx (c_X3_meanLashes (20 * 1 + 6) a1 a2 (1 : Int32) (xs_ht (Or.inl rfl) 6 rfl) hX hc5) kS_X3_meanLashes (Or.inl qM_X8_239) hW hS rfl hl rfl (Nat.le_of_ble_eq_true rfl) (Nat.le_of_ble_eq_true rfl) (Nat.le_of_ble_eq_true rfl) dX8_mean_32 (Nat.le_refl _) (Nat.le_refl _) ?_
      clear hW hS hc5
      intro H locs hW hS
      exact um_iretR (pc := 35) Cx hW hS hf dX8_mean_35
    · have hf := um_it c1 hf
      clear c1
      refine lv_ldc (pc := 19) hx hb hown (hts _ qC_X8_59) dX8_mean_19 ?_
      exact um_iretR (pc := 21) Cx hW hS hf dX8_mean_21
theorem c_X8_mean {σ : um_S} {r : Int32} (a1 : Int32) (a2 : Int32) (hX : um_X sh) (hf : f_X8_mean a1 a2 σ = some r) : um_M l yX8_mean cX8_mean 3 (some FieldType.int) (2) (51) Z sh α σ [.ref (α 0), .int a1, .int a2] (some (.int r)) σ :=
  um_start (by decide) (Nat.le_of_ble_eq_true rfl) (fun p e s m below meth c ls Cx hW hS hl => b_X8_mean a1 a2 hX hf Cx hW hS hl)
noncomputable def f_X8_most  (σ : um_S) : Option (Int32 × um_S) :=
    (f_X0_ask 1 σ).bind fun σ2 =>
    ((f_X0_greatest (0 : Int32) σ2).bind fun x4 =>
    (some (x4, σ2)))
set_option maxRecDepth 100000 in
set_option maxHeartbeats 4000000 in
theorem b_X8_most {H : Heap} {locs : List Loc} {ls : Array Slot} {σ : um_S} {σ' : um_S} {r : Int32}  (hX : um_X sh) (hf : f_X8_most σ = some (r, σ')) (Cx : um_C p s m meth c args cX8_most 1 (some FieldType.int) RX8 Z) (hW : um_W Z sh α σ H) (hS : va_S (um_D sh α) s.heap H locs) (hl : lv_has ls 1 [(0, .ref (α 0))]) : um_G p l e (6) (131) s m args below meth c Z sh α σ' (some (.int r)) H locs (F0 m 0 ls []) := by
  have hx := Cx.1
  have hb := Cx.2.1
  have hown := Cx.2.2.2.2.1
  have hts := Cx.2.2.2.2.2.1
  rw [f_X8_most] at hf
  refine lv_aload_n (pc := 0) hx hb dX8_most_0 rfl (lv_at hl 0 rfl) ?_
  refine gF_X8_32 (pc := 1) Cx hW (hX 0 _ rfl) rfl dX8_most_1 ?_
  refine lv_aload_n (pc := 4) hx hb dX8_most_4 rfl (lv_at hl 0 rfl) ?_
  refine gF_X8_10 (pc := 5) Cx hW (hX 0 _ rfl) rfl dX8_most_5 ?_
  obtain ⟨σ2, hc1, hf⟩ := um_bi hf
  refine um_cVv (pc := 8) (As := [.ref (α 1)]) (rest := []) Cx (c_X0_ask 1 (Or.inl rfl) hX hc1) kV_X0_ask (Or.inl qM_X8_226) hW hS (hX 5 _ rfl) rfl rfl hl rfl (Nat.le_of_ble_eq_true rfl) (Nat.le_of_ble_eq_true rfl) (Nat.le_of_ble_eq_true rfl) dX8_most_8 (Nat.le_refl _) (Nat.le_refl _) ?_
  clear hW hS hc1
  intro H locs hW hS
  refine lv_aload_n (pc := 11) hx hb dX8_most_11 rfl (lv_at hl 0 rfl) ?_
  refine gF_X8_32 (pc := 12) Cx hW (hX 0 _ rfl) rfl dX8_most_12 ?_
  refine lv_iconst (pc := 15) (v := (0 : Int32)) hx hb dX8_most_15 (by decide) ?_
  obtain ⟨x4, hc3, hf⟩ := um_bi hf
  refine um_cVi (pc := 16) (As := [.int (0 : Int32)]) (rest := []) Cx (c_X0_greatest (0 : Int32) hX hc3) kV_X0_greatest (Or.inl qM_X8_233) hW hS (hX 5 _ rfl) rfl rfl hl rfl (Nat.le_of_ble_eq_true rfl) (Nat.le_of_ble_eq_true rfl) (Nat.le_of_ble_eq_true rfl) dX8_most_16 (Nat.le_refl _) (Nat.le_refl _) ?_
  clear hW hS hc3
  intro H locs hW hS
  exact um_iret (pc := 19) Cx hW hS hf dX8_most_19
theorem c_X8_most {σ : um_S} {σ' : um_S} {r : Int32}  (hX : um_X sh) (hf : f_X8_most σ = some (r, σ')) : um_M l yX8_most cX8_most 1 (some FieldType.int) (6) (131) Z sh α σ [.ref (α 0)] (some (.int r)) σ' :=
  um_start (by decide) (Nat.le_of_ble_eq_true rfl) (fun p e s m below meth c ls Cx hW hS hl => b_X8_most hX hf Cx hW hS hl)
noncomputable def f_X8_moves (a1 : Int32) (σ : um_S) : Option (Int32 × um_S) :=
    (f_X5_holds (20 * 1 + 3) a1 σ).bind fun x2 =>
    (if (um_b x2) = 0 then
    (some ((-1000000001 : Int32), σ))
    else
    ((f_X5_get (20 * 1 + 3) a1 (0 : Int32) σ).bind fun x4 =>
    ((f_X5_get (20 * 1 + 3) a1 (3 : Int32) σ).bind fun x6 =>
    (if x6 = (1 : Int32) then
    (some ((-1000000002 : Int32), σ))
    else
    ((f_X4_isDead 1 x4 σ).bind fun x8 =>
    (if (um_b x8) = 0 then
    ((f_X4_marksOf 1 x4 σ).bind fun x10 =>
    (um_b2 (f_X4_ticketWeek 1 x4 x10 σ) fun x13 σ12 =>
    (um_b2 (f_X4_ticketWeek 1 x4 (x10 - (1 : Int32)) σ12) fun x16 σ15 =>
    (if x13 = (-1000000005 : Int32) then
    (some ((-1000000005 : Int32), σ15))
    else
    (if x16 = (-1000000005 : Int32) then
    (some ((-1000000005 : Int32), σ15))
    else
    (some (x13 - x16, σ15)))))))
    else
    (some ((-1000000002 : Int32), σ))))))))
set_option maxRecDepth 100000 in
set_option maxHeartbeats 4000000 in
theorem b_X8_moves {H : Heap} {locs : List Loc} {ls : Array Slot} {σ : um_S} {σ' : um_S} {r : Int32} (a1 : Int32) (hX : um_X sh) (hf : f_X8_moves a1 σ = some (r, σ')) (Cx : um_C p s m meth c args cX8_moves 6 (some FieldType.int) RX8 Z) (hW : um_W Z sh α σ H) (hS : va_S (um_D sh α) s.heap H locs) (hl : lv_has ls 6 [(0, .ref (α 0)), (1, .int a1)]) : um_G p l e (3) (76) s m args below meth c Z sh α σ' (some (.int r)) H locs (F0 m 0 ls []) := by
  have hx := Cx.1
  have hb := Cx.2.1
  have hown := Cx.2.2.2.2.1
  have hts := Cx.2.2.2.2.2.1
  rw [f_X8_moves] at hf
  refine lv_aload_n (pc := 0) hx hb dX8_moves_0 rfl (lv_at hl 0 rfl) ?_
  refine gF_X8_10 (pc := 1) Cx hW (hX 0 _ rfl) rfl dX8_moves_1 ?_
  refine gF_X8_161 (pc := 4) Cx hW (xs_shore hX (Or.inl rfl)) rfl dX8_moves_4 ?_
  refine lv_iload_n (pc := 7) hx hb dX8_moves_7 rfl (lv_at hl 1 rfl) ?_
  obtain ⟨x2, hc1, hf⟩ := um_bi hf
  refine um_cVi (pc := 8) (As := [.int a1]) (rest := []) Cx (c_X5_holds (20 * 1 + 3) a1 (xs_ht (Or.inl rfl) 3 rfl) hX hc1) kV_X5_holds (Or.inl qM_X8_70) hW hS (xs_tab hX (xs_ht (Or.inl rfl) 3 rfl)) rfl rfl hl rfl (Nat.le_of_ble_eq_true rfl) (Nat.le_of_ble_eq_true rfl) (Nat.le_of_ble_eq_true rfl) dX8_moves_8 (Nat.le_refl _) (Nat.le_refl _) ?_
  clear hW hS hc1
  intro H locs hW hS
  refine lv_if_ne (pc := 11) (tgt := 17) hx hb dX8_moves_11 (by decide) (fun c1 => ?_) (fun c1 => ?_)
  · have hf := um_ie c1 hf
    clear c1
    refine lv_aload_n (pc := 17) hx hb dX8_moves_17 rfl (lv_at hl 0 rfl) ?_
    refine gF_X8_10 (pc := 18) Cx hW (hX 0 _ rfl) rfl dX8_moves_18 ?_
    refine gF_X8_161 (pc := 21) Cx hW (xs_shore hX (Or.inl rfl)) rfl dX8_moves_21 ?_
    refine lv_iload_n (pc := 24) hx hb dX8_moves_24 rfl (lv_at hl 1 rfl) ?_
    refine lv_iconst (pc := 25) (v := (0 : Int32)) hx hb dX8_moves_25 (by decide) ?_
    obtain ⟨x4, hc3, hf⟩ := um_bi hf
    refine um_cVi (pc := 26) (As := [.int a1, .int (0 : Int32)]) (rest := []) Cx (c_X5_get (20 * 1 + 3) a1 (0 : Int32) (xs_ht (Or.inl rfl) 3 rfl) hX hc3) kV_X5_get (Or.inl qM_X8_73) hW hS (xs_tab hX (xs_ht (Or.inl rfl) 3 rfl)) rfl rfl hl rfl (Nat.le_of_ble_eq_true rfl) (Nat.le_of_ble_eq_true rfl) (Nat.le_of_ble_eq_true rfl) dX8_moves_26 (Nat.le_refl _) (Nat.le_refl _) ?_
    clear hW hS hc3
    intro H locs hW hS
    refine lv_istore_n (pc := 29) (lv' := [(2, .int x4), (0, .ref (α 0)), (1, .int a1)]) hx hb dX8_moves_29 rfl hl (by decide) rfl ?_
    clear hl
    intro ls hl
    refine lv_aload_n (pc := 30) hx hb dX8_moves_30 rfl (lv_at hl 1 rfl) ?_
    refine gF_X8_10 (pc := 31) Cx hW (hX 0 _ rfl) rfl dX8_moves_31 ?_
    refine gF_X8_161 (pc := 34) Cx hW (xs_shore hX (Or.inl rfl)) rfl dX8_moves_34 ?_
    refine lv_iload_n (pc := 37) hx hb dX8_moves_37 rfl (lv_at hl 2 rfl) ?_
    refine lv_iconst (pc := 38) (v := (3 : Int32)) hx hb dX8_moves_38 (by decide) ?_
    obtain ⟨x6, hc5, hf⟩ := um_bi hf
    refine um_cVi (pc := 39) (As := [.int a1, .int (3 : Int32)]) (rest := []) Cx (c_X5_get (20 * 1 + 3) a1 (3 : Int32) (xs_ht (Or.inl rfl) 3 rfl) hX hc5) kV_X5_get (Or.inl qM_X8_73) hW hS (xs_tab hX (xs_ht (Or.inl rfl) 3 rfl)) rfl rfl hl rfl (Nat.le_of_ble_eq_true rfl) (Nat.le_of_ble_eq_true rfl) (Nat.le_of_ble_eq_true rfl) dX8_moves_39 (Nat.le_refl _) (Nat.le_refl _) ?_
    clear hW hS hc5
    intro H locs hW hS
    refine lv_iconst (pc := 42) (v := (1 : Int32)) hx hb dX8_moves_42 (by decide) ?_
    refine lv_icmp_eq (pc := 43) (tgt := 57) hx hb dX8_moves_43 (by decide) (fun c1 => ?_) (fun c1 => ?_)
    · have hf := um_it c1 hf
      clear c1
      refine lv_ldc (pc := 57) hx hb hown (hts _ qC_X8_88) dX8_moves_57 ?_
      exact um_iret (pc := 59) Cx hW hS hf dX8_moves_59
    · have hf := um_ie c1 hf
      clear c1
      refine lv_aload_n (pc := 46) hx hb dX8_moves_46 rfl (lv_at hl 1 rfl) ?_
      refine gF_X8_10 (pc := 47) Cx hW (hX 0 _ rfl) rfl dX8_moves_47 ?_
      refine lv_iload_n (pc := 50) hx hb dX8_moves_50 rfl (lv_at hl 0 rfl) ?_
      obtain ⟨x8, hc7, hf⟩ := um_bi hf
      refine um_cVi (pc := 51) (As := [.int x4]) (rest := []) Cx (c_X4_isDead 1 x4 (Or.inl rfl) hX hc7) kV_X4_isDead (Or.inl qM_X8_102) hW hS (xs_shore hX (Or.inl rfl)) rfl rfl hl rfl (Nat.le_of_ble_eq_true rfl) (Nat.le_of_ble_eq_true rfl) (Nat.le_of_ble_eq_true rfl) dX8_moves_51 (Nat.le_refl _) (Nat.le_refl _) ?_
      clear hW hS hc7
      intro H locs hW hS
      refine lv_if_eq (pc := 54) (tgt := 60) hx hb dX8_moves_54 (by decide) (fun c1 => ?_) (fun c1 => ?_)
      · have hf := um_it c1 hf
        clear c1
        refine lv_aload_n (pc := 60) hx hb dX8_moves_60 rfl (lv_at hl 1 rfl) ?_
        refine gF_X8_10 (pc := 61) Cx hW (hX 0 _ rfl) rfl dX8_moves_61 ?_
        refine lv_iload_n (pc := 64) hx hb dX8_moves_64 rfl (lv_at hl 0 rfl) ?_
        obtain ⟨x10, hc9, hf⟩ := um_bi hf
        refine um_cVi (pc := 65) (As := [.int x4]) (rest := []) Cx (c_X4_marksOf 1 x4 (Or.inl rfl) hX hc9) kV_X4_marksOf (Or.inl qM_X8_93) hW hS (xs_shore hX (Or.inl rfl)) rfl rfl hl rfl (Nat.le_of_ble_eq_true rfl) (Nat.le_of_ble_eq_true rfl) (Nat.le_of_ble_eq_true rfl) dX8_moves_65 (Nat.le_refl _) (Nat.le_refl _) ?_
        clear hW hS hc9
        intro H locs hW hS
        refine lv_istore_n (pc := 68) (lv' := [(3, .int x10), (2, .int x4), (0, .ref (α 0)), (1, .int a1)]) hx hb dX8_moves_68 rfl hl (by decide) rfl ?_
        clear hl
        intro ls hl
        refine lv_aload_n (pc := 69) hx hb dX8_moves_69 rfl (lv_at hl 2 rfl) ?_
        refine gF_X8_10 (pc := 70) Cx hW (hX 0 _ rfl) rfl dX8_moves_70 ?_
        refine lv_iload_n (pc := 73) hx hb dX8_moves_73 rfl (lv_at hl 1 rfl) ?_
        refine lv_iload_n (pc := 74) hx hb dX8_moves_74 rfl (lv_at hl 0 rfl) ?_
        obtain ⟨x13, σ12, hc11, hf⟩ := um_bi2 hf
        refine um_cVi (pc := 75) (As := [.int x4, .int x10]) (rest := []) Cx (c_X4_ticketWeek 1 x4 x10 (Or.inl rfl) hX hc11) kV_X4_ticketWeek (Or.inl qM_X8_164) hW hS (xs_shore hX (Or.inl rfl)) rfl rfl hl rfl (Nat.le_of_ble_eq_true rfl) (Nat.le_of_ble_eq_true rfl) (Nat.le_of_ble_eq_true rfl) dX8_moves_75 (Nat.le_refl _) (Nat.le_refl _) ?_
        clear hW hS hc11
        intro H locs hW hS
        refine lv_istore (pc := 78) (lv' := [(4, .int x13), (3, .int x10), (2, .int x4), (0, .ref (α 0)), (1, .int a1)]) hx hb dX8_moves_78 hl (by decide) rfl ?_
        clear hl
        intro ls hl
        refine lv_aload_n (pc := 80) hx hb dX8_moves_80 rfl (lv_at hl 3 rfl) ?_
        refine gF_X8_10 (pc := 81) Cx hW (hX 0 _ rfl) rfl dX8_moves_81 ?_
        refine lv_iload_n (pc := 84) hx hb dX8_moves_84 rfl (lv_at hl 2 rfl) ?_
        refine lv_iload_n (pc := 85) hx hb dX8_moves_85 rfl (lv_at hl 1 rfl) ?_
        refine lv_iconst (pc := 86) (v := (1 : Int32)) hx hb dX8_moves_86 (by decide) ?_
        refine lv_isub (pc := 87) hx hb dX8_moves_87 ?_
        obtain ⟨x16, σ15, hc14, hf⟩ := um_bi2 hf
        refine um_cVi (pc := 88) (As := [.int x4, .int (x10 - (1 : Int32))]) (rest := []) Cx (c_X4_ticketWeek 1 x4 (x10 - (1 : Int32)) (Or.inl rfl) hX hc14) kV_X4_ticketWeek (Or.inl qM_X8_164) hW hS (xs_shore hX (Or.inl rfl)) rfl rfl hl rfl (Nat.le_of_ble_eq_true rfl) (Nat.le_of_ble_eq_true rfl) (Nat.le_of_ble_eq_true rfl) dX8_moves_88 (Nat.le_refl _) (Nat.le_refl _) ?_
        clear hW hS hc14
        intro H locs hW hS
        refine lv_istore (pc := 91) (lv' := [(5, .int x16), (4, .int x13), (3, .int x10), (2, .int x4), (0, .ref (α 0)), (1, .int a1)]) hx hb dX8_moves_91 hl (by decide) rfl ?_
        clear hl
        intro ls hl
        refine lv_iload (pc := 93) hx hb dX8_moves_93 (lv_at hl 1 rfl) ?_
        refine lv_ldc (pc := 95) hx hb hown (hts _ qC_X8_109) dX8_moves_95 ?_
        refine lv_icmp_eq (pc := 97) (tgt := 107) hx hb dX8_moves_97 (by decide) (fun c1 => ?_) (fun c1 => ?_)
        · have hf := um_it c1 hf
          clear c1
          refine lv_ldc (pc := 107) hx hb hown (hts _ qC_X8_109) dX8_moves_107 ?_
          refine lv_goto (pc := 109) (tgt := 117) hx hb dX8_moves_109 (by decide) ?_
          exact um_iret (pc := 117) Cx hW hS hf dX8_moves_117
        · have hf := um_ie c1 hf
          clear c1
          refine lv_iload (pc := 100) hx hb dX8_moves_100 (lv_at hl 0 rfl) ?_
          refine lv_ldc (pc := 102) hx hb hown (hts _ qC_X8_109) dX8_moves_102 ?_
          refine lv_icmp_ne (pc := 104) (tgt := 112) hx hb dX8_moves_104 (by decide) (fun c1 => ?_) (fun c1 => ?_)
          · have hf := um_ie c1 hf
            clear c1
            refine lv_iload (pc := 112) hx hb dX8_moves_112 (lv_at hl 1 rfl) ?_
            refine lv_iload (pc := 114) hx hb dX8_moves_114 (lv_at hl 0 rfl) ?_
            refine lv_isub (pc := 116) hx hb dX8_moves_116 ?_
            exact um_iret (pc := 117) Cx hW hS hf dX8_moves_117
          · have hf := um_it c1 hf
            clear c1
            refine lv_ldc (pc := 107) hx hb hown (hts _ qC_X8_109) dX8_moves_107 ?_
            refine lv_goto (pc := 109) (tgt := 117) hx hb dX8_moves_109 (by decide) ?_
            exact um_iret (pc := 117) Cx hW hS hf dX8_moves_117
      · have hf := um_ie c1 hf
        clear c1
        refine lv_ldc (pc := 57) hx hb hown (hts _ qC_X8_88) dX8_moves_57 ?_
        exact um_iret (pc := 59) Cx hW hS hf dX8_moves_59
  · have hf := um_it c1 hf
    clear c1
    refine lv_ldc (pc := 14) hx hb hown (hts _ qC_X8_59) dX8_moves_14 ?_
    exact um_iret (pc := 16) Cx hW hS hf dX8_moves_16
theorem c_X8_moves {σ : um_S} {σ' : um_S} {r : Int32} (a1 : Int32) (hX : um_X sh) (hf : f_X8_moves a1 σ = some (r, σ')) : um_M l yX8_moves cX8_moves 6 (some FieldType.int) (3) (76) Z sh α σ [.ref (α 0), .int a1] (some (.int r)) σ' :=
  um_start (by decide) (Nat.le_of_ble_eq_true rfl) (fun p e s m below meth c ls Cx hW hS hl => b_X8_moves a1 hX hf Cx hW hS hl)
noncomputable def f_X8_muster (a1 : Int32) (a2 : Int32) (a3 : Int32) (σ : um_S) : Option (Int32 × um_S) :=
    (f_X2_isOne a1 σ).bind fun x2 =>
    (if (um_b x2) = 0 then
    (some ((-1000000001 : Int32), σ))
    else
    ((f_X8_within a2 (-1 : Int32) (1 : Int32) σ).bind fun x4 =>
    (if (um_b x4) = 0 then
    (some ((-1000000001 : Int32), σ))
    else
    (if a2 = (-1 : Int32) then
    (um_b2 (f_X2_shape a1 (-1 : Int32) (0 : Int32) σ) fun x10 σ9 =>
    (some (x10, σ9)))
    else
    (if a3 ≤ (24 : Int32) then
    (if 0 ≤ a3 then
    (um_b2 (f_X2_shape a1 a2 a3 σ) fun x7 σ6 =>
    (some (x7, σ6)))
    else
    (some ((-1000000014 : Int32), σ)))
    else
    (some ((-1000000001 : Int32), σ)))))))
set_option maxRecDepth 100000 in
set_option maxHeartbeats 4000000 in
theorem b_X8_muster {H : Heap} {locs : List Loc} {ls : Array Slot} {σ : um_S} {σ' : um_S} {r : Int32} (a1 : Int32) (a2 : Int32) (a3 : Int32) (hX : um_X sh) (hf : f_X8_muster a1 a2 a3 σ = some (r, σ')) (Cx : um_C p s m meth c args cX8_muster 4 (some FieldType.int) RX8 Z) (hW : um_W Z sh α σ H) (hS : va_S (um_D sh α) s.heap H locs) (hl : lv_has ls 4 [(0, .ref (α 0)), (1, .int a1), (2, .int a2), (3, .int a3)]) : um_G p l e (2) (49) s m args below meth c Z sh α σ' (some (.int r)) H locs (F0 m 0 ls []) := by
  have hx := Cx.1
  have hb := Cx.2.1
  have hown := Cx.2.2.2.2.1
  have hts := Cx.2.2.2.2.2.1
  rw [f_X8_muster] at hf
  refine lv_aload_n (pc := 0) hx hb dX8_muster_0 rfl (lv_at hl 0 rfl) ?_
  refine gF_X8_39 (pc := 1) Cx hW (hX 0 _ rfl) rfl dX8_muster_1 ?_
  refine lv_iload_n (pc := 4) hx hb dX8_muster_4 rfl (lv_at hl 1 rfl) ?_
  obtain ⟨x2, hc1, hf⟩ := um_bi hf
  refine um_cVi (pc := 5) (As := [.int a1]) (rest := []) Cx (c_X2_isOne a1 hX hc1) kV_X2_isOne (Or.inl qM_X8_266) hW hS (hX 6 _ rfl) rfl rfl hl rfl (Nat.le_of_ble_eq_true rfl) (Nat.le_of_ble_eq_true rfl) (Nat.le_of_ble_eq_true rfl) dX8_muster_5 (Nat.le_refl _) (Nat.le_refl _) ?_
  clear hW hS hc1
  intro H locs hW hS
  refine lv_if_eq (pc := 8) (tgt := 20) hx hb dX8_muster_8 (by decide) (fun c1 => ?_) (fun c1 => ?_)
  · have hf := um_it c1 hf
    clear c1
    refine lv_ldc (pc := 20) hx hb hown (hts _ qC_X8_59) dX8_muster_20 ?_
    exact um_iret (pc := 22) Cx hW hS hf dX8_muster_22
  · have hf := um_ie c1 hf
    clear c1
    refine lv_iload_n (pc := 11) hx hb dX8_muster_11 rfl (lv_at hl 2 rfl) ?_
    refine lv_iconst (pc := 12) (v := (-1 : Int32)) hx hb dX8_muster_12 (by decide) ?_
    refine lv_iconst (pc := 13) (v := (1 : Int32)) hx hb dX8_muster_13 (by decide) ?_
    obtain ⟨x4, hc3, hf⟩ := um_bi hf
    refine um_cSi (pc := 14) (As := [.int a2, .int (-1 : Int32), .int (1 : Int32)]) (rest := []) Cx (c_X8_within a2 (-1 : Int32) (1 : Int32) hX hc3) kS_X8_within (Or.inl qM_X8_55) hW hS rfl hl rfl (Nat.le_of_ble_eq_true rfl) (Nat.le_of_ble_eq_true rfl) (Nat.le_of_ble_eq_true rfl) dX8_muster_14 (Nat.le_refl _) (Nat.le_refl _) ?_
    clear hW hS hc3
    intro H locs hW hS
    refine lv_if_ne (pc := 17) (tgt := 23) hx hb dX8_muster_17 (by decide) (fun c1 => ?_) (fun c1 => ?_)
    · have hf := um_ie c1 hf
      clear c1
      refine lv_iload_n (pc := 23) hx hb dX8_muster_23 rfl (lv_at hl 2 rfl) ?_
      refine lv_iconst (pc := 24) (v := (-1 : Int32)) hx hb dX8_muster_24 (by decide) ?_
      refine lv_icmp_ne (pc := 25) (tgt := 39) hx hb dX8_muster_25 (by decide) (fun c1 => ?_) (fun c1 => ?_)
      · have hf := um_ie c1 hf
        clear c1
        refine lv_iload_n (pc := 39) hx hb dX8_muster_39 rfl (lv_at hl 3 rfl) ?_
        refine lv_bipush (pc := 40) (v := (24 : Int32)) hx hb dX8_muster_40 (by decide) ?_
        refine lv_icmp_le (pc := 42) (tgt := 48) hx hb dX8_muster_42 (by decide) (fun c1 => ?_) (fun c1 => ?_)
        · have hf := um_it c1 hf
          clear c1
          refine lv_iload_n (pc := 48) hx hb dX8_muster_48 rfl (lv_at hl 3 rfl) ?_
          refine lv_if_ge (pc := 49) (tgt := 58) hx hb dX8_muster_49 (by decide) (fun c1 => ?_) (fun c1 => ?_)
          · have hf := um_it c1 hf
            clear c1
            refine lv_aload_n (pc := 58) hx hb dX8_muster_58 rfl (lv_at hl 0 rfl) ?_
            refine gF_X8_39 (pc := 59) Cx hW (hX 0 _ rfl) rfl dX8_muster_59 ?_
            refine lv_iload_n (pc := 62) hx hb dX8_muster_62 rfl (lv_at hl 1 rfl) ?_
            refine lv_iload_n (pc := 63) hx hb dX8_muster_63 rfl (lv_at hl 2 rfl) ?_
            refine lv_iload_n (pc := 64) hx hb dX8_muster_64 rfl (lv_at hl 3 rfl) ?_
            obtain ⟨x7, σ6, hc5, hf⟩ := um_bi2 hf
            refine um_cVi (pc := 65) (As := [.int a1, .int a2, .int a3]) (rest := []) Cx (c_X2_shape a1 a2 a3 hX hc5) kV_X2_shape (Or.inl qM_X8_269) hW hS (hX 6 _ rfl) rfl rfl hl rfl (Nat.le_of_ble_eq_true rfl) (Nat.le_of_ble_eq_true rfl) (Nat.le_of_ble_eq_true rfl) dX8_muster_65 (Nat.le_refl _) (Nat.le_refl _) ?_
            clear hW hS hc5
            intro H locs hW hS
            exact um_iret (pc := 68) Cx hW hS hf dX8_muster_68
          · have hf := um_ie c1 hf
            clear c1
            refine lv_ldcw (pc := 52) hx hb hown (hts _ qC_X8_272) dX8_muster_52 ?_
            refine lv_goto (pc := 55) (tgt := 68) hx hb dX8_muster_55 (by decide) ?_
            exact um_iret (pc := 68) Cx hW hS hf dX8_muster_68
        · have hf := um_ie c1 hf
          clear c1
          refine lv_ldc (pc := 45) hx hb hown (hts _ qC_X8_59) dX8_muster_45 ?_
          exact um_iret (pc := 47) Cx hW hS hf dX8_muster_47
      · have hf := um_it c1 hf
        clear c1
        refine lv_aload_n (pc := 28) hx hb dX8_muster_28 rfl (lv_at hl 0 rfl) ?_
        refine gF_X8_39 (pc := 29) Cx hW (hX 0 _ rfl) rfl dX8_muster_29 ?_
        refine lv_iload_n (pc := 32) hx hb dX8_muster_32 rfl (lv_at hl 1 rfl) ?_
        refine lv_iconst (pc := 33) (v := (-1 : Int32)) hx hb dX8_muster_33 (by decide) ?_
        refine lv_iconst (pc := 34) (v := (0 : Int32)) hx hb dX8_muster_34 (by decide) ?_
        obtain ⟨x10, σ9, hc8, hf⟩ := um_bi2 hf
        refine um_cVi (pc := 35) (As := [.int a1, .int (-1 : Int32), .int (0 : Int32)]) (rest := []) Cx (c_X2_shape a1 (-1 : Int32) (0 : Int32) hX hc8) kV_X2_shape (Or.inl qM_X8_269) hW hS (hX 6 _ rfl) rfl rfl hl rfl (Nat.le_of_ble_eq_true rfl) (Nat.le_of_ble_eq_true rfl) (Nat.le_of_ble_eq_true rfl) dX8_muster_35 (Nat.le_refl _) (Nat.le_refl _) ?_
        clear hW hS hc8
        intro H locs hW hS
        exact um_iret (pc := 38) Cx hW hS hf dX8_muster_38
    · have hf := um_it c1 hf
      clear c1
      refine lv_ldc (pc := 20) hx hb hown (hts _ qC_X8_59) dX8_muster_20 ?_
      exact um_iret (pc := 22) Cx hW hS hf dX8_muster_22
theorem c_X8_muster {σ : um_S} {σ' : um_S} {r : Int32} (a1 : Int32) (a2 : Int32) (a3 : Int32) (hX : um_X sh) (hf : f_X8_muster a1 a2 a3 σ = some (r, σ')) : um_M l yX8_muster cX8_muster 4 (some FieldType.int) (2) (49) Z sh α σ [.ref (α 0), .int a1, .int a2, .int a3] (some (.int r)) σ' :=
  um_start (by decide) (Nat.le_of_ble_eq_true rfl) (fun p e s m below meth c ls Cx hW hS hl => b_X8_muster a1 a2 a3 hX hf Cx hW hS hl)
noncomputable def f_X8_of (a1 : Int32) (a2 : Int32) (σ : um_S) : Option (Int32) :=
    (f_X1_textAt 1 a1 σ).bind fun x2 =>
    (um_opt x2
    (some (-1000000001 : Int32))
    fun q3 =>
    (if a2 = (0 : Int32) then
    (some (σ.1 q3 0))
    else
    (if a2 = (1 : Int32) then
    (some (σ.1 q3 1))
    else
    (if a2 = (2 : Int32) then
    (some (σ.1 q3 2))
    else
    (some (-1000000001 : Int32))))))
set_option maxRecDepth 100000 in
set_option maxHeartbeats 4000000 in
theorem b_X8_of {H : Heap} {locs : List Loc} {ls : Array Slot} {σ : um_S} {r : Int32} (a1 : Int32) (a2 : Int32) (hX : um_X sh) (hf : f_X8_of a1 a2 σ = some r) (Cx : um_C p s m meth c args cX8_of 4 (some FieldType.int) RX8 Z) (hW : um_W Z sh α σ H) (hS : va_S (um_D sh α) s.heap H locs) (hl : lv_has ls 4 [(0, .ref (α 0)), (1, .int a1), (2, .int a2)]) : um_G p l e (1) (21) s m args below meth c Z sh α σ (some (.int r)) H locs (F0 m 0 ls []) := by
  have hx := Cx.1
  have hb := Cx.2.1
  have hown := Cx.2.2.2.2.1
  have hts := Cx.2.2.2.2.2.1
  rw [f_X8_of] at hf
  refine lv_aload_n (pc := 0) hx hb dX8_of_0 rfl (lv_at hl 0 rfl) ?_
  refine gF_X8_10 (pc := 1) Cx hW (hX 0 _ rfl) rfl dX8_of_1 ?_
  refine gF_X8_129 (pc := 4) Cx hW (xs_shore hX (Or.inl rfl)) rfl dX8_of_4 ?_
  refine lv_iload_n (pc := 7) hx hb dX8_of_7 rfl (lv_at hl 1 rfl) ?_
  obtain ⟨x2, hc1, hf⟩ := um_bi hf
  refine um_cVr (pc := 8) (As := [.int a1]) (rest := []) Cx (c_X1_textAt 1 a1 (Or.inl rfl) hX hc1) kV_X1_textAt (Or.inl qM_X8_142) hW hS (xs_law hX (Or.inl rfl)) rfl rfl hl rfl (Nat.le_of_ble_eq_true rfl) (Nat.le_of_ble_eq_true rfl) (Nat.le_of_ble_eq_true rfl) dX8_of_8 (Nat.le_refl _) (Nat.le_refl _) ?_
  clear hW hS
  intro H locs hW hS
  have hq2 : ∀ q, x2 = some q → um_txt sh q := fun q h => f_X1_textAt_txt hW (by rw [h] at hc1; exact hc1)
  clear hc1
  refine um_astore_n (pc := 11) (lv' := [(3, va_rf (Option.map α x2)), (0, .ref (α 0)), (1, .int a1), (2, .int a2)]) hx hb dX8_of_11 rfl hl (by decide) rfl ?_
  clear hl
  intro ls hl
  rcases x2 with _ | q3
  · have hf := um_oN hf
    have hl : lv_has ls 4 [(3, .null), (0, .ref (α 0)), (1, .int a1), (2, .int a2)] := hl
    refine lv_aload_nN (pc := 12)  hx hb dX8_of_12 rfl (lv_at hl 0 rfl) ?_
    refine lv_ifnonnullN (pc := 13) hx hb dX8_of_13 ?_
    refine lv_ldc (pc := 16) hx hb hown (hts _ qC_X8_59) dX8_of_16 ?_
    exact um_iretR (pc := 18) Cx hW hS hf dX8_of_18
  · have hf := um_oS hf
    have hq4 := hq2 q3 rfl
    have hl : lv_has ls 4 [(3, .ref (α q3)), (0, .ref (α 0)), (1, .int a1), (2, .int a2)] := hl
    refine lv_aload_n (pc := 12) hx hb dX8_of_12 rfl (lv_at hl 0 rfl) ?_
    refine lv_ifnonnull (pc := 13) (tgt := 19) hx hb dX8_of_13 (by decide) ?_
    refine lv_iload_n (pc := 19) hx hb dX8_of_19 rfl (lv_at hl 3 rfl) ?_
    by_cases c1 : a2 = (0 : Int32)
    · have hf := um_it c1 hf
      refine lv_tableIn (pc := 20) (tgt := 48) hx hb dX8_of_20 (by rw [c1]; decide) (by rw [c1]; decide) (by rw [c1]; rfl) (by decide) ?_
      refine lv_aload_n (pc := 48) hx hb dX8_of_48 rfl (lv_at hl 0 rfl) ?_
      refine gF_X8_145 (pc := 49) Cx hW hq4.1 rfl dX8_of_49 ?_
      exact um_iretR (pc := 52) Cx hW hS hf dX8_of_52
    have hf := um_ie c1 hf
    by_cases c2 : a2 = (1 : Int32)
    · have hf := um_it c2 hf
      refine lv_tableIn (pc := 20) (tgt := 53) hx hb dX8_of_20 (by rw [c2]; decide) (by rw [c2]; decide) (by rw [c2]; rfl) (by decide) ?_
      refine lv_aload_n (pc := 53) hx hb dX8_of_53 rfl (lv_at hl 0 rfl) ?_
      refine gF_X8_150 (pc := 54) Cx hW hq4.1 rfl dX8_of_54 ?_
      exact um_iretR (pc := 57) Cx hW hS hf dX8_of_57
    have hf := um_ie c2 hf
    by_cases c3 : a2 = (2 : Int32)
    · have hf := um_it c3 hf
      refine lv_tableIn (pc := 20) (tgt := 58) hx hb dX8_of_20 (by rw [c3]; decide) (by rw [c3]; decide) (by rw [c3]; rfl) (by decide) ?_
      refine lv_aload_n (pc := 58) hx hb dX8_of_58 rfl (lv_at hl 0 rfl) ?_
      refine gF_X8_151 (pc := 59) Cx hW hq4.1 rfl dX8_of_59 ?_
      exact um_iretR (pc := 62) Cx hW hS hf dX8_of_62
    have hf := um_ie c3 hf
    have ho : a2.toInt < 0 ∨ 2 < a2.toInt := um_tabO (lo := 0) (hi := 2) (fun z z1 z2 => by
      rcases (show z = 0 ∨ z = 1 ∨ z = 2 by omega) with rfl | rfl | rfl
      · exact c1
      · exact c2
      · exact c3)
    refine lv_tableOut (pc := 20) (tgt := 63) hx hb dX8_of_20 ho (by decide) ?_
    refine lv_ldc (pc := 63) hx hb hown (hts _ qC_X8_59) dX8_of_63 ?_
    exact um_iretR (pc := 65) Cx hW hS hf dX8_of_65
theorem c_X8_of {σ : um_S} {r : Int32} (a1 : Int32) (a2 : Int32) (hX : um_X sh) (hf : f_X8_of a1 a2 σ = some r) : um_M l yX8_of cX8_of 4 (some FieldType.int) (1) (21) Z sh α σ [.ref (α 0), .int a1, .int a2] (some (.int r)) σ :=
  um_start (by decide) (Nat.le_of_ble_eq_true rfl) (fun p e s m below meth c ls Cx hW hS hl => b_X8_of a1 a2 hX hf Cx hW hS hl)
noncomputable def f_X8_pardon (a1 : Int32) (a2 : Int32) (σ : um_S) : Option (Int32 × um_S) :=
    (f_X5_holds (20 * 1 + 1) a1 σ).bind fun x2 =>
    (if (um_b x2) = 0 then
    (some ((-1000000001 : Int32), σ))
    else
    ((f_X8_within a2 (0 : Int32) (1 : Int32) σ).bind fun x4 =>
    (if (um_b x4) = 0 then
    (some ((-1000000001 : Int32), σ))
    else
    ((f_X4_isServing 1 a1 σ).bind fun x6 =>
    (if (um_b x6) = 0 then
    (some ((-1000000012 : Int32), σ))
    else
    ((f_X4_isAtPlace 1 a1 σ).bind fun x8 =>
    (if (um_b x8) = 0 then
    (some ((-1000000002 : Int32), σ))
    else
    (um_b2 (f_X4_mercy 1 (1 : Int32) a1 σ) fun x11 σ10 =>
    (if x11 = 0 then
    (some ((-1000000002 : Int32), σ10))
    else
    ((f_X4_become 1 a1 (5 : Int32) a2 σ10).bind fun σ13 =>
    (some ((1 : Int32), σ13))))))))))))
set_option maxRecDepth 100000 in
set_option maxHeartbeats 4000000 in
theorem b_X8_pardon {H : Heap} {locs : List Loc} {ls : Array Slot} {σ : um_S} {σ' : um_S} {r : Int32} (a1 : Int32) (a2 : Int32) (hX : um_X sh) (hf : f_X8_pardon a1 a2 σ = some (r, σ')) (Cx : um_C p s m meth c args cX8_pardon 3 (some FieldType.int) RX8 Z) (hW : um_W Z sh α σ H) (hS : va_S (um_D sh α) s.heap H locs) (hl : lv_has ls 3 [(0, .ref (α 0)), (1, .int a1), (2, .int a2)]) : um_G p l e (4) (100) s m args below meth c Z sh α σ' (some (.int r)) H locs (F0 m 0 ls []) := by
  have hx := Cx.1
  have hb := Cx.2.1
  have hown := Cx.2.2.2.2.1
  have hts := Cx.2.2.2.2.2.1
  rw [f_X8_pardon] at hf
  refine lv_aload_n (pc := 0) hx hb dX8_pardon_0 rfl (lv_at hl 0 rfl) ?_
  refine gF_X8_10 (pc := 1) Cx hW (hX 0 _ rfl) rfl dX8_pardon_1 ?_
  refine gF_X8_77 (pc := 4) Cx hW (xs_shore hX (Or.inl rfl)) rfl dX8_pardon_4 ?_
  refine lv_iload_n (pc := 7) hx hb dX8_pardon_7 rfl (lv_at hl 1 rfl) ?_
  obtain ⟨x2, hc1, hf⟩ := um_bi hf
  refine um_cVi (pc := 8) (As := [.int a1]) (rest := []) Cx (c_X5_holds (20 * 1 + 1) a1 (xs_ht (Or.inl rfl) 1 rfl) hX hc1) kV_X5_holds (Or.inl qM_X8_70) hW hS (xs_tab hX (xs_ht (Or.inl rfl) 1 rfl)) rfl rfl hl rfl (Nat.le_of_ble_eq_true rfl) (Nat.le_of_ble_eq_true rfl) (Nat.le_of_ble_eq_true rfl) dX8_pardon_8 (Nat.le_refl _) (Nat.le_refl _) ?_
  clear hW hS hc1
  intro H locs hW hS
  refine lv_if_eq (pc := 11) (tgt := 23) hx hb dX8_pardon_11 (by decide) (fun c1 => ?_) (fun c1 => ?_)
  · have hf := um_it c1 hf
    clear c1
    refine lv_ldc (pc := 23) hx hb hown (hts _ qC_X8_59) dX8_pardon_23 ?_
    exact um_iret (pc := 25) Cx hW hS hf dX8_pardon_25
  · have hf := um_ie c1 hf
    clear c1
    refine lv_iload_n (pc := 14) hx hb dX8_pardon_14 rfl (lv_at hl 2 rfl) ?_
    refine lv_iconst (pc := 15) (v := (0 : Int32)) hx hb dX8_pardon_15 (by decide) ?_
    refine lv_iconst (pc := 16) (v := (1 : Int32)) hx hb dX8_pardon_16 (by decide) ?_
    obtain ⟨x4, hc3, hf⟩ := um_bi hf
    refine um_cSi (pc := 17) (As := [.int a2, .int (0 : Int32), .int (1 : Int32)]) (rest := []) Cx (c_X8_within a2 (0 : Int32) (1 : Int32) hX hc3) kS_X8_within (Or.inl qM_X8_55) hW hS rfl hl rfl (Nat.le_of_ble_eq_true rfl) (Nat.le_of_ble_eq_true rfl) (Nat.le_of_ble_eq_true rfl) dX8_pardon_17 (Nat.le_refl _) (Nat.le_refl _) ?_
    clear hW hS hc3
    intro H locs hW hS
    refine lv_if_ne (pc := 20) (tgt := 26) hx hb dX8_pardon_20 (by decide) (fun c1 => ?_) (fun c1 => ?_)
    · have hf := um_ie c1 hf
      clear c1
      refine lv_aload_n (pc := 26) hx hb dX8_pardon_26 rfl (lv_at hl 0 rfl) ?_
      refine gF_X8_10 (pc := 27) Cx hW (hX 0 _ rfl) rfl dX8_pardon_27 ?_
      refine lv_iload_n (pc := 30) hx hb dX8_pardon_30 rfl (lv_at hl 1 rfl) ?_
      obtain ⟨x6, hc5, hf⟩ := um_bi hf
      refine um_cVi (pc := 31) (As := [.int a1]) (rest := []) Cx (c_X4_isServing 1 a1 (Or.inl rfl) hX hc5) kV_X4_isServing (Or.inl qM_X8_182) hW hS (xs_shore hX (Or.inl rfl)) rfl rfl hl rfl (Nat.le_of_ble_eq_true rfl) (Nat.le_of_ble_eq_true rfl) (Nat.le_of_ble_eq_true rfl) dX8_pardon_31 (Nat.le_refl _) (Nat.le_refl _) ?_
      clear hW hS hc5
      intro H locs hW hS
      refine lv_if_ne (pc := 34) (tgt := 40) hx hb dX8_pardon_34 (by decide) (fun c1 => ?_) (fun c1 => ?_)
      · have hf := um_ie c1 hf
        clear c1
        refine lv_aload_n (pc := 40) hx hb dX8_pardon_40 rfl (lv_at hl 0 rfl) ?_
        refine gF_X8_10 (pc := 41) Cx hW (hX 0 _ rfl) rfl dX8_pardon_41 ?_
        refine lv_iload_n (pc := 44) hx hb dX8_pardon_44 rfl (lv_at hl 1 rfl) ?_
        obtain ⟨x8, hc7, hf⟩ := um_bi hf
        refine um_cVi (pc := 45) (As := [.int a1]) (rest := []) Cx (c_X4_isAtPlace 1 a1 (Or.inl rfl) hX hc7) kV_X4_isAtPlace (Or.inl qM_X8_176) hW hS (xs_shore hX (Or.inl rfl)) rfl rfl hl rfl (Nat.le_of_ble_eq_true rfl) (Nat.le_of_ble_eq_true rfl) (Nat.le_of_ble_eq_true rfl) dX8_pardon_45 (Nat.le_refl _) (Nat.le_refl _) ?_
        clear hW hS hc7
        intro H locs hW hS
        refine lv_if_eq (pc := 48) (tgt := 63) hx hb dX8_pardon_48 (by decide) (fun c1 => ?_) (fun c1 => ?_)
        · have hf := um_it c1 hf
          clear c1
          refine lv_ldc (pc := 63) hx hb hown (hts _ qC_X8_88) dX8_pardon_63 ?_
          exact um_iret (pc := 65) Cx hW hS hf dX8_pardon_65
        · have hf := um_ie c1 hf
          clear c1
          refine lv_aload_n (pc := 51) hx hb dX8_pardon_51 rfl (lv_at hl 0 rfl) ?_
          refine gF_X8_10 (pc := 52) Cx hW (hX 0 _ rfl) rfl dX8_pardon_52 ?_
          refine lv_iconst (pc := 55) (v := (1 : Int32)) hx hb dX8_pardon_55 (by decide) ?_
          refine lv_iload_n (pc := 56) hx hb dX8_pardon_56 rfl (lv_at hl 1 rfl) ?_
          obtain ⟨x11, σ10, hc9, hf⟩ := um_bi2 hf
          refine um_cVi (pc := 57) (As := [.int (1 : Int32), .int a1]) (rest := []) Cx (c_X4_mercy 1 (1 : Int32) a1 (Or.inl rfl) hX hc9) kV_X4_mercy (Or.inl qM_X8_179) hW hS (xs_shore hX (Or.inl rfl)) rfl rfl hl rfl (Nat.le_of_ble_eq_true rfl) (Nat.le_of_ble_eq_true rfl) (Nat.le_of_ble_eq_true rfl) dX8_pardon_57 (Nat.le_refl _) (Nat.le_refl _) ?_
          clear hW hS hc9
          intro H locs hW hS
          refine lv_if_ne (pc := 60) (tgt := 66) hx hb dX8_pardon_60 (by decide) (fun c1 => ?_) (fun c1 => ?_)
          · have hf := um_ie c1 hf
            clear c1
            refine lv_aload_n (pc := 66) hx hb dX8_pardon_66 rfl (lv_at hl 0 rfl) ?_
            refine gF_X8_10 (pc := 67) Cx hW (hX 0 _ rfl) rfl dX8_pardon_67 ?_
            refine lv_iload_n (pc := 70) hx hb dX8_pardon_70 rfl (lv_at hl 1 rfl) ?_
            refine lv_iconst (pc := 71) (v := (5 : Int32)) hx hb dX8_pardon_71 (by decide) ?_
            refine lv_iload_n (pc := 72) hx hb dX8_pardon_72 rfl (lv_at hl 2 rfl) ?_
            obtain ⟨σ13, hc12, hf⟩ := um_bi hf
            refine um_cVv (pc := 73) (As := [.int a1, .int (5 : Int32), .int a2]) (rest := []) Cx (c_X4_become 1 a1 (5 : Int32) a2 (Or.inl rfl) hX hc12) kV_X4_become (Or.inl qM_X8_173) hW hS (xs_shore hX (Or.inl rfl)) rfl rfl hl rfl (Nat.le_of_ble_eq_true rfl) (Nat.le_of_ble_eq_true rfl) (Nat.le_of_ble_eq_true rfl) dX8_pardon_73 (Nat.le_refl _) (Nat.le_refl _) ?_
            clear hW hS hc12
            intro H locs hW hS
            refine lv_iconst (pc := 76) (v := (1 : Int32)) hx hb dX8_pardon_76 (by decide) ?_
            exact um_iret (pc := 77) Cx hW hS hf dX8_pardon_77
          · have hf := um_it c1 hf
            clear c1
            refine lv_ldc (pc := 63) hx hb hown (hts _ qC_X8_88) dX8_pardon_63 ?_
            exact um_iret (pc := 65) Cx hW hS hf dX8_pardon_65
      · have hf := um_it c1 hf
        clear c1
        refine lv_ldc (pc := 37) hx hb hown (hts _ qC_X8_101) dX8_pardon_37 ?_
        exact um_iret (pc := 39) Cx hW hS hf dX8_pardon_39
    · have hf := um_it c1 hf
      clear c1
      refine lv_ldc (pc := 23) hx hb hown (hts _ qC_X8_59) dX8_pardon_23 ?_
      exact um_iret (pc := 25) Cx hW hS hf dX8_pardon_25
theorem c_X8_pardon {σ : um_S} {σ' : um_S} {r : Int32} (a1 : Int32) (a2 : Int32) (hX : um_X sh) (hf : f_X8_pardon a1 a2 σ = some (r, σ')) : um_M l yX8_pardon cX8_pardon 3 (some FieldType.int) (4) (100) Z sh α σ [.ref (α 0), .int a1, .int a2] (some (.int r)) σ' :=
  um_start (by decide) (Nat.le_of_ble_eq_true rfl) (fun p e s m below meth c ls Cx hW hS hl => b_X8_pardon a1 a2 hX hf Cx hW hS hl)
noncomputable def f_X8_party (a1 : Int32) (a2 : Int32) (a3 : Int32) (σ : um_S) : Option (Int32 × um_S) :=
    (f_X8_within a1 (0 : Int32) (6 : Int32) σ).bind fun x2 =>
    (if (um_b x2) = 0 then
    (some ((-1000000001 : Int32), σ))
    else
    ((f_X8_within a2 (0 : Int32) (2 : Int32) σ).bind fun x4 =>
    (if (um_b x4) = 0 then
    (some ((-1000000001 : Int32), σ))
    else
    (um_let (fun (x6 : Int32) =>
    ((f_X8_within a3 (0 : Int32) x6 σ).bind fun x8 =>
    (if (um_b x8) = 0 then
    (some ((-1000000001 : Int32), σ))
    else
    (um_b2 (f_X5_swap (20 * 1 + 9) a1 a2 a3 σ) fun x11 σ10 =>
    (some (x11, σ10)))))) fun k5 =>
    (if a2 = 0 then
    (k5 (99 : Int32))
    else
    (k5 (255 : Int32)))))))
set_option maxRecDepth 100000 in
set_option maxHeartbeats 4000000 in
theorem b_X8_party {H : Heap} {locs : List Loc} {ls : Array Slot} {σ : um_S} {σ' : um_S} {r : Int32} (a1 : Int32) (a2 : Int32) (a3 : Int32) (hX : um_X sh) (hf : f_X8_party a1 a2 a3 σ = some (r, σ')) (Cx : um_C p s m meth c args cX8_party 4 (some FieldType.int) RX8 Z) (hW : um_W Z sh α σ H) (hS : va_S (um_D sh α) s.heap H locs) (hl : lv_has ls 4 [(0, .ref (α 0)), (1, .int a1), (2, .int a2), (3, .int a3)]) : um_G p l e (2) (49) s m args below meth c Z sh α σ' (some (.int r)) H locs (F0 m 0 ls []) := by
  have hx := Cx.1
  have hb := Cx.2.1
  have hown := Cx.2.2.2.2.1
  have hts := Cx.2.2.2.2.2.1
  rw [f_X8_party] at hf
  refine lv_iload_n (pc := 0) hx hb dX8_party_0 rfl (lv_at hl 1 rfl) ?_
  refine lv_iconst (pc := 1) (v := (0 : Int32)) hx hb dX8_party_1 (by decide) ?_
  refine lv_bipush (pc := 2) (v := (6 : Int32)) hx hb dX8_party_2 (by decide) ?_
  obtain ⟨x2, hc1, hf⟩ := um_bi hf
  refine um_cSi (pc := 4) (As := [.int a1, .int (0 : Int32), .int (6 : Int32)]) (rest := []) Cx (c_X8_within a1 (0 : Int32) (6 : Int32) hX hc1) kS_X8_within (Or.inl qM_X8_55) hW hS rfl hl rfl (Nat.le_of_ble_eq_true rfl) (Nat.le_of_ble_eq_true rfl) (Nat.le_of_ble_eq_true rfl) dX8_party_4 (Nat.le_refl _) (Nat.le_refl _) ?_
  clear hW hS hc1
  intro H locs hW hS
  refine lv_if_eq (pc := 7) (tgt := 19) hx hb dX8_party_7 (by decide) (fun c1 => ?_) (fun c1 => ?_)
  · have hf := um_it c1 hf
    clear c1
    refine lv_ldc (pc := 19) hx hb hown (hts _ qC_X8_59) dX8_party_19 ?_
    exact um_iret (pc := 21) Cx hW hS hf dX8_party_21
  · have hf := um_ie c1 hf
    clear c1
    refine lv_iload_n (pc := 10) hx hb dX8_party_10 rfl (lv_at hl 2 rfl) ?_
    refine lv_iconst (pc := 11) (v := (0 : Int32)) hx hb dX8_party_11 (by decide) ?_
    refine lv_iconst (pc := 12) (v := (2 : Int32)) hx hb dX8_party_12 (by decide) ?_
    obtain ⟨x4, hc3, hf⟩ := um_bi hf
    refine um_cSi (pc := 13) (As := [.int a2, .int (0 : Int32), .int (2 : Int32)]) (rest := []) Cx (c_X8_within a2 (0 : Int32) (2 : Int32) hX hc3) kS_X8_within (Or.inl qM_X8_55) hW hS rfl hl rfl (Nat.le_of_ble_eq_true rfl) (Nat.le_of_ble_eq_true rfl) (Nat.le_of_ble_eq_true rfl) dX8_party_13 (Nat.le_refl _) (Nat.le_refl _) ?_
    clear hW hS hc3
    intro H locs hW hS
    refine lv_if_ne (pc := 16) (tgt := 22) hx hb dX8_party_16 (by decide) (fun c1 => ?_) (fun c1 => ?_)
    · have hf := um_ie c1 hf
      clear c1
      refine lv_iload_n (pc := 22) hx hb dX8_party_22 rfl (lv_at hl 3 rfl) ?_
      refine lv_iconst (pc := 23) (v := (0 : Int32)) hx hb dX8_party_23 (by decide) ?_
      refine lv_iload_n (pc := 24) hx hb dX8_party_24 rfl (lv_at hl 2 rfl) ?_
      obtain ⟨k5, hk5, hf⟩ := um_j1 hf
      have J5 : ∀ (x6 : Int32), k5 x6 = some (r, σ') → ∀ (H : Heap) (locs : List Loc) (ls : Array Slot), um_W Z sh α σ H → va_S (um_D sh α) s.heap H locs → lv_has ls 4 [(0, .ref (α 0)), (1, .int a1), (2, .int a2), (3, .int a3)] → um_G p l e (2) (49) s m args below meth c Z sh α σ' (some (.int r)) H locs (F0 m 36 ls [.int x6, .int (0 : Int32), .int a3]) := by
        intro x6 hf H locs ls hW hS hl
        rw [hk5] at hf
        obtain ⟨x8, hc7, hf⟩ := um_bi hf
        refine um_cSi (pc := 36) (As := [.int a3, .int (0 : Int32), .int x6]) (rest := []) Cx (c_X8_within a3 (0 : Int32) x6 hX hc7) kS_X8_within (Or.inl qM_X8_55) hW hS rfl hl rfl (Nat.le_of_ble_eq_true rfl) (Nat.le_of_ble_eq_true rfl) (Nat.le_of_ble_eq_true rfl) dX8_party_36 (Nat.le_refl _) (Nat.le_refl _) ?_
        clear hW hS hc7
        intro H locs hW hS
        refine lv_if_ne (pc := 39) (tgt := 45) hx hb dX8_party_39 (by decide) (fun c1 => ?_) (fun c1 => ?_)
        · have hf := um_ie c1 hf
          clear c1
          refine lv_aload_n (pc := 45) hx hb dX8_party_45 rfl (lv_at hl 0 rfl) ?_
          refine gF_X8_10 (pc := 46) Cx hW (hX 0 _ rfl) rfl dX8_party_46 ?_
          refine gF_X8_250 (pc := 49) Cx hW (xs_shore hX (Or.inl rfl)) rfl dX8_party_49 ?_
          refine lv_iload_n (pc := 52) hx hb dX8_party_52 rfl (lv_at hl 1 rfl) ?_
          refine lv_iload_n (pc := 53) hx hb dX8_party_53 rfl (lv_at hl 2 rfl) ?_
          refine lv_iload_n (pc := 54) hx hb dX8_party_54 rfl (lv_at hl 3 rfl) ?_
          obtain ⟨x11, σ10, hc9, hf⟩ := um_bi2 hf
          refine um_cVi (pc := 55) (As := [.int a1, .int a2, .int a3]) (rest := []) Cx (c_X5_swap (20 * 1 + 9) a1 a2 a3 (xs_ht (Or.inl rfl) 9 rfl) hX hc9) kV_X5_swap (Or.inl qM_X8_89) hW hS (xs_tab hX (xs_ht (Or.inl rfl) 9 rfl)) rfl rfl hl rfl (Nat.le_of_ble_eq_true rfl) (Nat.le_of_ble_eq_true rfl) (Nat.le_of_ble_eq_true rfl) dX8_party_55 (Nat.le_refl _) (Nat.le_refl _) ?_
          clear hW hS hc9
          intro H locs hW hS
          exact um_iret (pc := 58) Cx hW hS hf dX8_party_58
        · have hf := um_it c1 hf
          clear c1
          refine lv_ldc (pc := 42) hx hb hown (hts _ qC_X8_59) dX8_party_42 ?_
          exact um_iret (pc := 44) Cx hW hS hf dX8_party_44
      refine lv_if_ne (pc := 25) (tgt := 33) hx hb dX8_party_25 (by decide) (fun c1 => ?_) (fun c1 => ?_)
      · have hf := um_ie c1 hf
        clear c1
        refine lv_sipush (pc := 33) (v := (255 : Int32)) hx hb dX8_party_33 (by decide) ?_
        exact J5 (255 : Int32) hf _ _ _ hW hS hl
      · have hf := um_it c1 hf
        clear c1
        refine lv_bipush (pc := 28) (v := (99 : Int32)) hx hb dX8_party_28 (by decide) ?_
        refine lv_goto (pc := 30) (tgt := 36) hx hb dX8_party_30 (by decide) ?_
        exact J5 (99 : Int32) hf _ _ _ hW hS hl
    · have hf := um_it c1 hf
      clear c1
      refine lv_ldc (pc := 19) hx hb hown (hts _ qC_X8_59) dX8_party_19 ?_
      exact um_iret (pc := 21) Cx hW hS hf dX8_party_21
theorem c_X8_party {σ : um_S} {σ' : um_S} {r : Int32} (a1 : Int32) (a2 : Int32) (a3 : Int32) (hX : um_X sh) (hf : f_X8_party a1 a2 a3 σ = some (r, σ')) : um_M l yX8_party cX8_party 4 (some FieldType.int) (2) (49) Z sh α σ [.ref (α 0), .int a1, .int a2, .int a3] (some (.int r)) σ' :=
  um_start (by decide) (Nat.le_of_ble_eq_true rfl) (fun p e s m below meth c ls Cx hW hS hl => b_X8_party a1 a2 a3 hX hf Cx hW hS hl)
noncomputable def f_X8_path (a1 : Int32) (a2 : Int32) (a3 : Int32) (σ : um_S) : Option (Int32 × um_S) :=
    (f_X8_isPlace a1 σ).bind fun x2 =>
    (if (um_b x2) = 0 then
    (some ((-1000000001 : Int32), σ))
    else
    ((f_X8_isPlace a2 σ).bind fun x4 =>
    (if (um_b x4) = 0 then
    (some ((-1000000001 : Int32), σ))
    else
    (if a1 = a2 then
    (some ((-1000000001 : Int32), σ))
    else
    ((f_X8_within a3 (0 : Int32) (99 : Int32) σ).bind fun x6 =>
    (if (um_b x6) = 0 then
    (some ((-1000000001 : Int32), σ))
    else
    ((f_X5_set (20 * 1 + 8) a2 a1 a3 σ).bind fun σ8 =>
    (um_b2 (f_X5_swap (20 * 1 + 8) a1 a2 a3 σ8) fun x11 σ10 =>
    (some (x11, σ10))))))))))
set_option maxRecDepth 100000 in
set_option maxHeartbeats 4000000 in
theorem b_X8_path {H : Heap} {locs : List Loc} {ls : Array Slot} {σ : um_S} {σ' : um_S} {r : Int32} (a1 : Int32) (a2 : Int32) (a3 : Int32) (hX : um_X sh) (hf : f_X8_path a1 a2 a3 σ = some (r, σ')) (Cx : um_C p s m meth c args cX8_path 4 (some FieldType.int) RX8 Z) (hW : um_W Z sh α σ H) (hS : va_S (um_D sh α) s.heap H locs) (hl : lv_has ls 4 [(0, .ref (α 0)), (1, .int a1), (2, .int a2), (3, .int a3)]) : um_G p l e (2) (49) s m args below meth c Z sh α σ' (some (.int r)) H locs (F0 m 0 ls []) := by
  have hx := Cx.1
  have hb := Cx.2.1
  have hown := Cx.2.2.2.2.1
  have hts := Cx.2.2.2.2.2.1
  rw [f_X8_path] at hf
  refine lv_iload_n (pc := 0) hx hb dX8_path_0 rfl (lv_at hl 1 rfl) ?_
  obtain ⟨x2, hc1, hf⟩ := um_bi hf
  refine um_cSi (pc := 1) (As := [.int a1]) (rest := []) Cx (c_X8_isPlace a1 hX hc1) kS_X8_isPlace (Or.inl qM_X8_47) hW hS rfl hl rfl (Nat.le_of_ble_eq_true rfl) (Nat.le_of_ble_eq_true rfl) (Nat.le_of_ble_eq_true rfl) dX8_path_1 (Nat.le_refl _) (Nat.le_refl _) ?_
  clear hW hS hc1
  intro H locs hW hS
  refine lv_if_eq (pc := 4) (tgt := 29) hx hb dX8_path_4 (by decide) (fun c1 => ?_) (fun c1 => ?_)
  · have hf := um_it c1 hf
    clear c1
    refine lv_ldc (pc := 29) hx hb hown (hts _ qC_X8_59) dX8_path_29 ?_
    exact um_iret (pc := 31) Cx hW hS hf dX8_path_31
  · have hf := um_ie c1 hf
    clear c1
    refine lv_iload_n (pc := 7) hx hb dX8_path_7 rfl (lv_at hl 2 rfl) ?_
    obtain ⟨x4, hc3, hf⟩ := um_bi hf
    refine um_cSi (pc := 8) (As := [.int a2]) (rest := []) Cx (c_X8_isPlace a2 hX hc3) kS_X8_isPlace (Or.inl qM_X8_47) hW hS rfl hl rfl (Nat.le_of_ble_eq_true rfl) (Nat.le_of_ble_eq_true rfl) (Nat.le_of_ble_eq_true rfl) dX8_path_8 (Nat.le_refl _) (Nat.le_refl _) ?_
    clear hW hS hc3
    intro H locs hW hS
    refine lv_if_eq (pc := 11) (tgt := 29) hx hb dX8_path_11 (by decide) (fun c1 => ?_) (fun c1 => ?_)
    · have hf := um_it c1 hf
      clear c1
      refine lv_ldc (pc := 29) hx hb hown (hts _ qC_X8_59) dX8_path_29 ?_
      exact um_iret (pc := 31) Cx hW hS hf dX8_path_31
    · have hf := um_ie c1 hf
      clear c1
      refine lv_iload_n (pc := 14) hx hb dX8_path_14 rfl (lv_at hl 1 rfl) ?_
      refine lv_iload_n (pc := 15) hx hb dX8_path_15 rfl (lv_at hl 2 rfl) ?_
      refine lv_icmp_eq (pc := 16) (tgt := 29) hx hb dX8_path_16 (by decide) (fun c1 => ?_) (fun c1 => ?_)
      · have hf := um_it c1 hf
        clear c1
        refine lv_ldc (pc := 29) hx hb hown (hts _ qC_X8_59) dX8_path_29 ?_
        exact um_iret (pc := 31) Cx hW hS hf dX8_path_31
      · have hf := um_ie c1 hf
        clear c1
        refine lv_iload_n (pc := 19) hx hb dX8_path_19 rfl (lv_at hl 3 rfl) ?_
        refine lv_iconst (pc := 20) (v := (0 : Int32)) hx hb dX8_path_20 (by decide) ?_
        refine lv_bipush (pc := 21) (v := (99 : Int32)) hx hb dX8_path_21 (by decide) ?_
        obtain ⟨x6, hc5, hf⟩ := um_bi hf
        refine um_cSi (pc := 23) (As := [.int a3, .int (0 : Int32), .int (99 : Int32)]) (rest := []) Cx (c_X8_within a3 (0 : Int32) (99 : Int32) hX hc5) kS_X8_within (Or.inl qM_X8_55) hW hS rfl hl rfl (Nat.le_of_ble_eq_true rfl) (Nat.le_of_ble_eq_true rfl) (Nat.le_of_ble_eq_true rfl) dX8_path_23 (Nat.le_refl _) (Nat.le_refl _) ?_
        clear hW hS hc5
        intro H locs hW hS
        refine lv_if_ne (pc := 26) (tgt := 32) hx hb dX8_path_26 (by decide) (fun c1 => ?_) (fun c1 => ?_)
        · have hf := um_ie c1 hf
          clear c1
          refine lv_aload_n (pc := 32) hx hb dX8_path_32 rfl (lv_at hl 0 rfl) ?_
          refine gF_X8_10 (pc := 33) Cx hW (hX 0 _ rfl) rfl dX8_path_33 ?_
          refine gF_X8_200 (pc := 36) Cx hW (xs_shore hX (Or.inl rfl)) rfl dX8_path_36 ?_
          refine lv_iload_n (pc := 39) hx hb dX8_path_39 rfl (lv_at hl 2 rfl) ?_
          refine lv_iload_n (pc := 40) hx hb dX8_path_40 rfl (lv_at hl 1 rfl) ?_
          refine lv_iload_n (pc := 41) hx hb dX8_path_41 rfl (lv_at hl 3 rfl) ?_
          obtain ⟨σ8, hc7, hf⟩ := um_bi hf
          refine um_cVv (pc := 42) (As := [.int a2, .int a1, .int a3]) (rest := []) Cx (c_X5_set (20 * 1 + 8) a2 a1 a3 (xs_ht (Or.inl rfl) 8 rfl) hX hc7) kV_X5_set (Or.inl qM_X8_105) hW hS (xs_tab hX (xs_ht (Or.inl rfl) 8 rfl)) rfl rfl hl rfl (Nat.le_of_ble_eq_true rfl) (Nat.le_of_ble_eq_true rfl) (Nat.le_of_ble_eq_true rfl) dX8_path_42 (Nat.le_refl _) (Nat.le_refl _) ?_
          clear hW hS hc7
          intro H locs hW hS
          refine lv_aload_n (pc := 45) hx hb dX8_path_45 rfl (lv_at hl 0 rfl) ?_
          refine gF_X8_10 (pc := 46) Cx hW (hX 0 _ rfl) rfl dX8_path_46 ?_
          refine gF_X8_200 (pc := 49) Cx hW (xs_shore hX (Or.inl rfl)) rfl dX8_path_49 ?_
          refine lv_iload_n (pc := 52) hx hb dX8_path_52 rfl (lv_at hl 1 rfl) ?_
          refine lv_iload_n (pc := 53) hx hb dX8_path_53 rfl (lv_at hl 2 rfl) ?_
          refine lv_iload_n (pc := 54) hx hb dX8_path_54 rfl (lv_at hl 3 rfl) ?_
          obtain ⟨x11, σ10, hc9, hf⟩ := um_bi2 hf
          refine um_cVi (pc := 55) (As := [.int a1, .int a2, .int a3]) (rest := []) Cx (c_X5_swap (20 * 1 + 8) a1 a2 a3 (xs_ht (Or.inl rfl) 8 rfl) hX hc9) kV_X5_swap (Or.inl qM_X8_89) hW hS (xs_tab hX (xs_ht (Or.inl rfl) 8 rfl)) rfl rfl hl rfl (Nat.le_of_ble_eq_true rfl) (Nat.le_of_ble_eq_true rfl) (Nat.le_of_ble_eq_true rfl) dX8_path_55 (Nat.le_refl _) (Nat.le_refl _) ?_
          clear hW hS hc9
          intro H locs hW hS
          exact um_iret (pc := 58) Cx hW hS hf dX8_path_58
        · have hf := um_it c1 hf
          clear c1
          refine lv_ldc (pc := 29) hx hb hown (hts _ qC_X8_59) dX8_path_29 ?_
          exact um_iret (pc := 31) Cx hW hS hf dX8_path_31
theorem c_X8_path {σ : um_S} {σ' : um_S} {r : Int32} (a1 : Int32) (a2 : Int32) (a3 : Int32) (hX : um_X sh) (hf : f_X8_path a1 a2 a3 σ = some (r, σ')) : um_M l yX8_path cX8_path 4 (some FieldType.int) (2) (49) Z sh α σ [.ref (α 0), .int a1, .int a2, .int a3] (some (.int r)) σ' :=
  um_start (by decide) (Nat.le_of_ble_eq_true rfl) (fun p e s m below meth c ls Cx hW hS hl => b_X8_path a1 a2 a3 hX hf Cx hW hS hl)
noncomputable def f_X8_plan (a1 : Int32) (a2 : Int32) (a3 : Int32) (σ : um_S) : Option (Int32) :=
    (f_X8_within a1 (1 : Int32) (6 : Int32) σ).bind fun x2 =>
    (if (um_b x2) = 0 then
    (some (-1000000001 : Int32))
    else
    ((f_X8_within a2 (0 : Int32) (999 : Int32) σ).bind fun x4 =>
    (if (um_b x4) = 0 then
    (some (-1000000001 : Int32))
    else
    ((f_X8_within a3 (0 : Int32) (2 : Int32) σ).bind fun x6 =>
    (if (um_b x6) = 0 then
    (some (-1000000001 : Int32))
    else
    ((f_X3_bestPlan (20 * 1 + 10) a1 a2 σ).bind fun x8 =>
    (if x8 = (-1000000005 : Int32) then
    (some x8)
    else
    (if a3 = (2 : Int32) then
    (some x8)
    else
    ((f_X3_planSum (20 * 1 + 10) a1 x8 a3 σ).bind fun x10 =>
    (some x10))))))))))
set_option maxRecDepth 100000 in
set_option maxHeartbeats 4000000 in
theorem b_X8_plan {H : Heap} {locs : List Loc} {ls : Array Slot} {σ : um_S} {r : Int32} (a1 : Int32) (a2 : Int32) (a3 : Int32) (hX : um_X sh) (hf : f_X8_plan a1 a2 a3 σ = some r) (Cx : um_C p s m meth c args cX8_plan 5 (some FieldType.int) RX8 Z) (hW : um_W Z sh α σ H) (hS : va_S (um_D sh α) s.heap H locs) (hl : lv_has ls 5 [(0, .ref (α 0)), (1, .int a1), (2, .int a2), (3, .int a3)]) : um_G p l e (3) (77) s m args below meth c Z sh α σ (some (.int r)) H locs (F0 m 0 ls []) := by
  have hx := Cx.1
  have hb := Cx.2.1
  have hown := Cx.2.2.2.2.1
  have hts := Cx.2.2.2.2.2.1
  rw [f_X8_plan] at hf
  refine lv_iload_n (pc := 0) hx hb dX8_plan_0 rfl (lv_at hl 1 rfl) ?_
  refine lv_iconst (pc := 1) (v := (1 : Int32)) hx hb dX8_plan_1 (by decide) ?_
  refine lv_bipush (pc := 2) (v := (6 : Int32)) hx hb dX8_plan_2 (by decide) ?_
  obtain ⟨x2, hc1, hf⟩ := um_bi hf
  refine um_cSi (pc := 4) (As := [.int a1, .int (1 : Int32), .int (6 : Int32)]) (rest := []) Cx (c_X8_within a1 (1 : Int32) (6 : Int32) hX hc1) kS_X8_within (Or.inl qM_X8_55) hW hS rfl hl rfl (Nat.le_of_ble_eq_true rfl) (Nat.le_of_ble_eq_true rfl) (Nat.le_of_ble_eq_true rfl) dX8_plan_4 (Nat.le_refl _) (Nat.le_refl _) ?_
  clear hW hS hc1
  intro H locs hW hS
  refine lv_if_eq (pc := 7) (tgt := 30) hx hb dX8_plan_7 (by decide) (fun c1 => ?_) (fun c1 => ?_)
  · have hf := um_it c1 hf
    clear c1
    refine lv_ldc (pc := 30) hx hb hown (hts _ qC_X8_59) dX8_plan_30 ?_
    exact um_iretR (pc := 32) Cx hW hS hf dX8_plan_32
  · have hf := um_ie c1 hf
    clear c1
    refine lv_iload_n (pc := 10) hx hb dX8_plan_10 rfl (lv_at hl 2 rfl) ?_
    refine lv_iconst (pc := 11) (v := (0 : Int32)) hx hb dX8_plan_11 (by decide) ?_
    refine lv_sipush (pc := 12) (v := (999 : Int32)) hx hb dX8_plan_12 (by decide) ?_
    obtain ⟨x4, hc3, hf⟩ := um_bi hf
    refine um_cSi (pc := 15) (As := [.int a2, .int (0 : Int32), .int (999 : Int32)]) (rest := []) Cx (c_X8_within a2 (0 : Int32) (999 : Int32) hX hc3) kS_X8_within (Or.inl qM_X8_55) hW hS rfl hl rfl (Nat.le_of_ble_eq_true rfl) (Nat.le_of_ble_eq_true rfl) (Nat.le_of_ble_eq_true rfl) dX8_plan_15 (Nat.le_refl _) (Nat.le_refl _) ?_
    clear hW hS hc3
    intro H locs hW hS
    refine lv_if_eq (pc := 18) (tgt := 30) hx hb dX8_plan_18 (by decide) (fun c1 => ?_) (fun c1 => ?_)
    · have hf := um_it c1 hf
      clear c1
      refine lv_ldc (pc := 30) hx hb hown (hts _ qC_X8_59) dX8_plan_30 ?_
      exact um_iretR (pc := 32) Cx hW hS hf dX8_plan_32
    · have hf := um_ie c1 hf
      clear c1
      refine lv_iload_n (pc := 21) hx hb dX8_plan_21 rfl (lv_at hl 3 rfl) ?_
      refine lv_iconst (pc := 22) (v := (0 : Int32)) hx hb dX8_plan_22 (by decide) ?_
      refine lv_iconst (pc := 23) (v := (2 : Int32)) hx hb dX8_plan_23 (by decide) ?_
      obtain ⟨x6, hc5, hf⟩ := um_bi hf
      refine um_cSi (pc := 24) (As := [.int a3, .int (0 : Int32), .int (2 : Int32)]) (rest := []) Cx (c_X8_within a3 (0 : Int32) (2 : Int32) hX hc5) kS_X8_within (Or.inl qM_X8_55) hW hS rfl hl rfl (Nat.le_of_ble_eq_true rfl) (Nat.le_of_ble_eq_true rfl) (Nat.le_of_ble_eq_true rfl) dX8_plan_24 (Nat.le_refl _) (Nat.le_refl _) ?_
      clear hW hS hc5
      intro H locs hW hS
      refine lv_if_ne (pc := 27) (tgt := 33) hx hb dX8_plan_27 (by decide) (fun c1 => ?_) (fun c1 => ?_)
      · have hf := um_ie c1 hf
        clear c1
        refine lv_aload_n (pc := 33) hx hb dX8_plan_33 rfl (lv_at hl 0 rfl) ?_
        refine gF_X8_10 (pc := 34) Cx hW (hX 0 _ rfl) rfl dX8_plan_34 ?_
        refine gF_X8_256 (pc := 37) Cx hW (xs_shore hX (Or.inl rfl)) rfl dX8_plan_37 ?_
        refine lv_iload_n (pc := 40) hx hb dX8_plan_40 rfl (lv_at hl 1 rfl) ?_
        refine lv_iload_n (pc := 41) hx hb dX8_plan_41 rfl (lv_at hl 2 rfl) ?_
        obtain ⟨x8, hc7, hf⟩ := um_bi hf
        refine um_cSi (pc := 42) (As := [.ref (α (20 * 1 + 10)), .int a1, .int a2]) (rest := []) Cx (c_X3_bestPlan (20 * 1 + 10) a1 a2 (xs_ht (Or.inl rfl) 10 rfl) hX hc7) kS_X3_bestPlan (Or.inl qM_X8_259) hW hS rfl hl rfl (Nat.le_of_ble_eq_true rfl) (Nat.le_of_ble_eq_true rfl) (Nat.le_of_ble_eq_true rfl) dX8_plan_42 (Nat.le_refl _) (Nat.le_refl _) ?_
        clear hW hS hc7
        intro H locs hW hS
        refine lv_istore (pc := 45) (lv' := [(4, .int x8), (0, .ref (α 0)), (1, .int a1), (2, .int a2), (3, .int a3)]) hx hb dX8_plan_45 hl (by decide) rfl ?_
        clear hl
        intro ls hl
        refine lv_iload (pc := 47) hx hb dX8_plan_47 (lv_at hl 0 rfl) ?_
        refine lv_ldc (pc := 49) hx hb hown (hts _ qC_X8_109) dX8_plan_49 ?_
        refine lv_icmp_eq (pc := 51) (tgt := 59) hx hb dX8_plan_51 (by decide) (fun c1 => ?_) (fun c1 => ?_)
        · have hf := um_it c1 hf
          clear c1
          refine lv_iload (pc := 59) hx hb dX8_plan_59 (lv_at hl 0 rfl) ?_
          exact um_iretR (pc := 61) Cx hW hS hf dX8_plan_61
        · have hf := um_ie c1 hf
          clear c1
          refine lv_iload_n (pc := 54) hx hb dX8_plan_54 rfl (lv_at hl 4 rfl) ?_
          refine lv_iconst (pc := 55) (v := (2 : Int32)) hx hb dX8_plan_55 (by decide) ?_
          refine lv_icmp_ne (pc := 56) (tgt := 62) hx hb dX8_plan_56 (by decide) (fun c1 => ?_) (fun c1 => ?_)
          · have hf := um_ie c1 hf
            clear c1
            refine lv_aload_n (pc := 62) hx hb dX8_plan_62 rfl (lv_at hl 1 rfl) ?_
            refine gF_X8_10 (pc := 63) Cx hW (hX 0 _ rfl) rfl dX8_plan_63 ?_
            refine gF_X8_256 (pc := 66) Cx hW (xs_shore hX (Or.inl rfl)) rfl dX8_plan_66 ?_
            refine lv_iload_n (pc := 69) hx hb dX8_plan_69 rfl (lv_at hl 2 rfl) ?_
            refine lv_iload (pc := 70) hx hb dX8_plan_70 (lv_at hl 0 rfl) ?_
            refine lv_iload_n (pc := 72) hx hb dX8_plan_72 rfl (lv_at hl 4 rfl) ?_
            obtain ⟨x10, hc9, hf⟩ := um_bi hf
            refine um_cSi (pc := 73) (As := [.ref (α (20 * 1 + 10)), .int a1, .int x8, .int a3]) (rest := []) Cx (c_X3_planSum (20 * 1 + 10) a1 x8 a3 (xs_ht (Or.inl rfl) 10 rfl) hX hc9) kS_X3_planSum (Or.inl qM_X8_262) hW hS rfl hl rfl (Nat.le_of_ble_eq_true rfl) (Nat.le_of_ble_eq_true rfl) (Nat.le_of_ble_eq_true rfl) dX8_plan_73 (Nat.le_refl _) (Nat.le_refl _) ?_
            clear hW hS hc9
            intro H locs hW hS
            exact um_iretR (pc := 76) Cx hW hS hf dX8_plan_76
          · have hf := um_it c1 hf
            clear c1
            refine lv_iload (pc := 59) hx hb dX8_plan_59 (lv_at hl 0 rfl) ?_
            exact um_iretR (pc := 61) Cx hW hS hf dX8_plan_61
      · have hf := um_it c1 hf
        clear c1
        refine lv_ldc (pc := 30) hx hb hown (hts _ qC_X8_59) dX8_plan_30 ?_
        exact um_iretR (pc := 32) Cx hW hS hf dX8_plan_32
theorem c_X8_plan {σ : um_S} {r : Int32} (a1 : Int32) (a2 : Int32) (a3 : Int32) (hX : um_X sh) (hf : f_X8_plan a1 a2 a3 σ = some r) : um_M l yX8_plan cX8_plan 5 (some FieldType.int) (3) (77) Z sh α σ [.ref (α 0), .int a1, .int a2, .int a3] (some (.int r)) σ :=
  um_start (by decide) (Nat.le_of_ble_eq_true rfl) (fun p e s m below meth c ls Cx hW hS hl => b_X8_plan a1 a2 a3 hX hf Cx hW hS hl)
noncomputable def f_X8_put (a1 : Int32) (a2 : Int32) (a3 : Int32) (σ : um_S) : Option (Int32 × um_S) :=
    (f_X2_finding a1 a2 σ).bind fun x2 =>
    (if x2 = 0 then
    ((f_X2_write a1 a2 a3 σ).bind fun σ4 =>
    (some ((1 : Int32), σ4)))
    else
    (some (x2, σ)))
set_option maxRecDepth 100000 in
set_option maxHeartbeats 4000000 in
theorem b_X8_put {H : Heap} {locs : List Loc} {ls : Array Slot} {σ : um_S} {σ' : um_S} {r : Int32} (a1 : Int32) (a2 : Int32) (a3 : Int32) (hX : um_X sh) (hf : f_X8_put a1 a2 a3 σ = some (r, σ')) (Cx : um_C p s m meth c args cX8_put 5 (some FieldType.int) RX8 Z) (hW : um_W Z sh α σ H) (hS : va_S (um_D sh α) s.heap H locs) (hl : lv_has ls 5 [(0, .ref (α 0)), (1, .int a1), (2, .int a2), (3, .int a3)]) : um_G p l e (3) (70) s m args below meth c Z sh α σ' (some (.int r)) H locs (F0 m 0 ls []) := by
  have hx := Cx.1
  have hb := Cx.2.1
  have hown := Cx.2.2.2.2.1
  have hts := Cx.2.2.2.2.2.1
  rw [f_X8_put] at hf
  refine lv_aload_n (pc := 0) hx hb dX8_put_0 rfl (lv_at hl 0 rfl) ?_
  refine gF_X8_39 (pc := 1) Cx hW (hX 0 _ rfl) rfl dX8_put_1 ?_
  refine lv_iload_n (pc := 4) hx hb dX8_put_4 rfl (lv_at hl 1 rfl) ?_
  refine lv_iload_n (pc := 5) hx hb dX8_put_5 rfl (lv_at hl 2 rfl) ?_
  obtain ⟨x2, hc1, hf⟩ := um_bi hf
  refine um_cVi (pc := 6) (As := [.int a1, .int a2]) (rest := []) Cx (c_X2_finding a1 a2 hX hc1) kV_X2_finding (Or.inl qM_X8_273) hW hS (hX 6 _ rfl) rfl rfl hl rfl (Nat.le_of_ble_eq_true rfl) (Nat.le_of_ble_eq_true rfl) (Nat.le_of_ble_eq_true rfl) dX8_put_6 (Nat.le_refl _) (Nat.le_refl _) ?_
  clear hW hS hc1
  intro H locs hW hS
  refine lv_istore (pc := 9) (lv' := [(4, .int x2), (0, .ref (α 0)), (1, .int a1), (2, .int a2), (3, .int a3)]) hx hb dX8_put_9 hl (by decide) rfl ?_
  clear hl
  intro ls hl
  refine lv_iload (pc := 11) hx hb dX8_put_11 (lv_at hl 0 rfl) ?_
  refine lv_if_eq (pc := 13) (tgt := 19) hx hb dX8_put_13 (by decide) (fun c1 => ?_) (fun c1 => ?_)
  · have hf := um_it c1 hf
    clear c1
    refine lv_aload_n (pc := 19) hx hb dX8_put_19 rfl (lv_at hl 1 rfl) ?_
    refine gF_X8_39 (pc := 20) Cx hW (hX 0 _ rfl) rfl dX8_put_20 ?_
    refine lv_iload_n (pc := 23) hx hb dX8_put_23 rfl (lv_at hl 2 rfl) ?_
    refine lv_iload_n (pc := 24) hx hb dX8_put_24 rfl (lv_at hl 3 rfl) ?_
    refine lv_iload_n (pc := 25) hx hb dX8_put_25 rfl (lv_at hl 4 rfl) ?_
    obtain ⟨σ4, hc3, hf⟩ := um_bi hf
    refine um_cVv (pc := 26) (As := [.int a1, .int a2, .int a3]) (rest := []) Cx (c_X2_write a1 a2 a3 hX hc3) kV_X2_write (Or.inl qM_X8_276) hW hS (hX 6 _ rfl) rfl rfl hl rfl (Nat.le_of_ble_eq_true rfl) (Nat.le_of_ble_eq_true rfl) (Nat.le_of_ble_eq_true rfl) dX8_put_26 (Nat.le_refl _) (Nat.le_refl _) ?_
    clear hW hS hc3
    intro H locs hW hS
    refine lv_iconst (pc := 29) (v := (1 : Int32)) hx hb dX8_put_29 (by decide) ?_
    exact um_iret (pc := 30) Cx hW hS hf dX8_put_30
  · have hf := um_ie c1 hf
    clear c1
    refine lv_iload (pc := 16) hx hb dX8_put_16 (lv_at hl 0 rfl) ?_
    exact um_iret (pc := 18) Cx hW hS hf dX8_put_18
theorem c_X8_put {σ : um_S} {σ' : um_S} {r : Int32} (a1 : Int32) (a2 : Int32) (a3 : Int32) (hX : um_X sh) (hf : f_X8_put a1 a2 a3 σ = some (r, σ')) : um_M l yX8_put cX8_put 5 (some FieldType.int) (3) (70) Z sh α σ [.ref (α 0), .int a1, .int a2, .int a3] (some (.int r)) σ' :=
  um_start (by decide) (Nat.le_of_ble_eq_true rfl) (fun p e s m below meth c ls Cx hW hS hl => b_X8_put a1 a2 a3 hX hf Cx hW hS hl)
noncomputable def f_X8_read (a1 : Int32) (a2 : Int32) (σ : um_S) : Option (Int32) :=
    (f_X2_finding a1 a2 σ).bind fun x2 =>
    (if x2 = 0 then
    ((f_X2_nearest a1 a2 σ).bind fun x4 =>
    (some x4))
    else
    (some x2))
set_option maxRecDepth 100000 in
set_option maxHeartbeats 4000000 in
theorem b_X8_read {H : Heap} {locs : List Loc} {ls : Array Slot} {σ : um_S} {r : Int32} (a1 : Int32) (a2 : Int32) (hX : um_X sh) (hf : f_X8_read a1 a2 σ = some r) (Cx : um_C p s m meth c args cX8_read 4 (some FieldType.int) RX8 Z) (hW : um_W Z sh α σ H) (hS : va_S (um_D sh α) s.heap H locs) (hl : lv_has ls 4 [(0, .ref (α 0)), (1, .int a1), (2, .int a2)]) : um_G p l e (4) (93) s m args below meth c Z sh α σ (some (.int r)) H locs (F0 m 0 ls []) := by
  have hx := Cx.1
  have hb := Cx.2.1
  have hown := Cx.2.2.2.2.1
  have hts := Cx.2.2.2.2.2.1
  rw [f_X8_read] at hf
  refine lv_aload_n (pc := 0) hx hb dX8_read_0 rfl (lv_at hl 0 rfl) ?_
  refine gF_X8_39 (pc := 1) Cx hW (hX 0 _ rfl) rfl dX8_read_1 ?_
  refine lv_iload_n (pc := 4) hx hb dX8_read_4 rfl (lv_at hl 1 rfl) ?_
  refine lv_iload_n (pc := 5) hx hb dX8_read_5 rfl (lv_at hl 2 rfl) ?_
  obtain ⟨x2, hc1, hf⟩ := um_bi hf
  refine um_cVi (pc := 6) (As := [.int a1, .int a2]) (rest := []) Cx (c_X2_finding a1 a2 hX hc1) kV_X2_finding (Or.inl qM_X8_273) hW hS (hX 6 _ rfl) rfl rfl hl rfl (Nat.le_of_ble_eq_true rfl) (Nat.le_of_ble_eq_true rfl) (Nat.le_of_ble_eq_true rfl) dX8_read_6 (Nat.le_refl _) (Nat.le_refl _) ?_
  clear hW hS hc1
  intro H locs hW hS
  refine lv_istore_n (pc := 9) (lv' := [(3, .int x2), (0, .ref (α 0)), (1, .int a1), (2, .int a2)]) hx hb dX8_read_9 rfl hl (by decide) rfl ?_
  clear hl
  intro ls hl
  refine lv_iload_n (pc := 10) hx hb dX8_read_10 rfl (lv_at hl 0 rfl) ?_
  refine lv_if_eq (pc := 11) (tgt := 18) hx hb dX8_read_11 (by decide) (fun c1 => ?_) (fun c1 => ?_)
  · have hf := um_it c1 hf
    clear c1
    refine lv_aload_n (pc := 18) hx hb dX8_read_18 rfl (lv_at hl 1 rfl) ?_
    refine gF_X8_39 (pc := 19) Cx hW (hX 0 _ rfl) rfl dX8_read_19 ?_
    refine lv_iload_n (pc := 22) hx hb dX8_read_22 rfl (lv_at hl 2 rfl) ?_
    refine lv_iload_n (pc := 23) hx hb dX8_read_23 rfl (lv_at hl 3 rfl) ?_
    obtain ⟨x4, hc3, hf⟩ := um_bi hf
    refine um_cVi (pc := 24) (As := [.int a1, .int a2]) (rest := []) Cx (c_X2_nearest a1 a2 hX hc3) kV_X2_nearest (Or.inl qM_X8_279) hW hS (hX 6 _ rfl) rfl rfl hl rfl (Nat.le_of_ble_eq_true rfl) (Nat.le_of_ble_eq_true rfl) (Nat.le_of_ble_eq_true rfl) dX8_read_24 (Nat.le_refl _) (Nat.le_refl _) ?_
    clear hW hS hc3
    intro H locs hW hS
    exact um_iretR (pc := 27) Cx hW hS hf dX8_read_27
  · have hf := um_ie c1 hf
    clear c1
    refine lv_iload_n (pc := 14) hx hb dX8_read_14 rfl (lv_at hl 0 rfl) ?_
    refine lv_goto (pc := 15) (tgt := 27) hx hb dX8_read_15 (by decide) ?_
    exact um_iretR (pc := 27) Cx hW hS hf dX8_read_27
theorem c_X8_read {σ : um_S} {r : Int32} (a1 : Int32) (a2 : Int32) (hX : um_X sh) (hf : f_X8_read a1 a2 σ = some r) : um_M l yX8_read cX8_read 4 (some FieldType.int) (4) (93) Z sh α σ [.ref (α 0), .int a1, .int a2] (some (.int r)) σ :=
  um_start (by decide) (Nat.le_of_ble_eq_true rfl) (fun p e s m below meth c ls Cx hW hS hl => b_X8_read a1 a2 hX hf Cx hW hS hl)
noncomputable def f_X8_rules (a1 : Int32) (a2 : Int32) (a3 : Int32) (a4 : Int32) (σ : um_S) : Option (Int32 × um_S) :=
    (f_X8_within a1 (0 : Int32) (4 : Int32) σ).bind fun x2 =>
    (if (um_b x2) = 0 then
    (some ((-1000000001 : Int32), σ))
    else
    (um_b2 (f_X1_rule 1 a1 (σ.1 1 12) a2 a3 a4 σ) fun x5 σ4 =>
    (some (x5, σ4))))
set_option maxRecDepth 100000 in
set_option maxHeartbeats 4000000 in
theorem b_X8_rules {H : Heap} {locs : List Loc} {ls : Array Slot} {σ : um_S} {σ' : um_S} {r : Int32} (a1 : Int32) (a2 : Int32) (a3 : Int32) (a4 : Int32) (hX : um_X sh) (hf : f_X8_rules a1 a2 a3 a4 σ = some (r, σ')) (Cx : um_C p s m meth c args cX8_rules 5 (some FieldType.int) RX8 Z) (hW : um_W Z sh α σ H) (hS : va_S (um_D sh α) s.heap H locs) (hl : lv_has ls 5 [(0, .ref (α 0)), (1, .int a1), (2, .int a2), (3, .int a3), (4, .int a4)]) : um_G p l e (3) (78) s m args below meth c Z sh α σ' (some (.int r)) H locs (F0 m 0 ls []) := by
  have hx := Cx.1
  have hb := Cx.2.1
  have hown := Cx.2.2.2.2.1
  have hts := Cx.2.2.2.2.2.1
  rw [f_X8_rules] at hf
  refine lv_iload_n (pc := 0) hx hb dX8_rules_0 rfl (lv_at hl 1 rfl) ?_
  refine lv_iconst (pc := 1) (v := (0 : Int32)) hx hb dX8_rules_1 (by decide) ?_
  refine lv_iconst (pc := 2) (v := (4 : Int32)) hx hb dX8_rules_2 (by decide) ?_
  obtain ⟨x2, hc1, hf⟩ := um_bi hf
  refine um_cSi (pc := 3) (As := [.int a1, .int (0 : Int32), .int (4 : Int32)]) (rest := []) Cx (c_X8_within a1 (0 : Int32) (4 : Int32) hX hc1) kS_X8_within (Or.inl qM_X8_55) hW hS rfl hl rfl (Nat.le_of_ble_eq_true rfl) (Nat.le_of_ble_eq_true rfl) (Nat.le_of_ble_eq_true rfl) dX8_rules_3 (Nat.le_refl _) (Nat.le_refl _) ?_
  clear hW hS hc1
  intro H locs hW hS
  refine lv_if_eq (pc := 6) (tgt := 34) hx hb dX8_rules_6 (by decide) (fun c1 => ?_) (fun c1 => ?_)
  · have hf := um_it c1 hf
    clear c1
    refine lv_ldc (pc := 34) hx hb hown (hts _ qC_X8_59) dX8_rules_34 ?_
    exact um_iret (pc := 36) Cx hW hS hf dX8_rules_36
  · have hf := um_ie c1 hf
    clear c1
    refine lv_aload_n (pc := 9) hx hb dX8_rules_9 rfl (lv_at hl 0 rfl) ?_
    refine gF_X8_10 (pc := 10) Cx hW (hX 0 _ rfl) rfl dX8_rules_10 ?_
    refine gF_X8_129 (pc := 13) Cx hW (xs_shore hX (Or.inl rfl)) rfl dX8_rules_13 ?_
    refine lv_iload_n (pc := 16) hx hb dX8_rules_16 rfl (lv_at hl 1 rfl) ?_
    refine lv_aload_n (pc := 17) hx hb dX8_rules_17 rfl (lv_at hl 0 rfl) ?_
    refine gF_X8_10 (pc := 18) Cx hW (hX 0 _ rfl) rfl dX8_rules_18 ?_
    refine gF_X8_51 (pc := 21) Cx hW (xs_shore hX (Or.inl rfl)) rfl dX8_rules_21 ?_
    refine lv_iload_n (pc := 24) hx hb dX8_rules_24 rfl (lv_at hl 2 rfl) ?_
    refine lv_iload_n (pc := 25) hx hb dX8_rules_25 rfl (lv_at hl 3 rfl) ?_
    refine lv_iload (pc := 26) hx hb dX8_rules_26 (lv_at hl 4 rfl) ?_
    obtain ⟨x5, σ4, hc3, hf⟩ := um_bi2 hf
    refine um_cVi (pc := 28) (As := [.int a1, .int (σ.1 1 12), .int a2, .int a3, .int a4]) (rest := []) Cx (c_X1_rule 1 a1 (σ.1 1 12) a2 a3 a4 (Or.inl rfl) hX hc3) kV_X1_rule (Or.inl qM_X8_157) hW hS (xs_law hX (Or.inl rfl)) rfl rfl hl rfl (Nat.le_of_ble_eq_true rfl) (Nat.le_of_ble_eq_true rfl) (Nat.le_of_ble_eq_true rfl) dX8_rules_28 (Nat.le_refl _) (Nat.le_refl _) ?_
    clear hW hS hc3
    intro H locs hW hS
    refine lv_goto (pc := 31) (tgt := 36) hx hb dX8_rules_31 (by decide) ?_
    exact um_iret (pc := 36) Cx hW hS hf dX8_rules_36
theorem c_X8_rules {σ : um_S} {σ' : um_S} {r : Int32} (a1 : Int32) (a2 : Int32) (a3 : Int32) (a4 : Int32) (hX : um_X sh) (hf : f_X8_rules a1 a2 a3 a4 σ = some (r, σ')) : um_M l yX8_rules cX8_rules 5 (some FieldType.int) (3) (78) Z sh α σ [.ref (α 0), .int a1, .int a2, .int a3, .int a4] (some (.int r)) σ' :=
  um_start (by decide) (Nat.le_of_ble_eq_true rfl) (fun p e s m below meth c ls Cx hW hS hl => b_X8_rules a1 a2 a3 a4 hX hf Cx hW hS hl)
noncomputable def f_X8_run_l33 (v1 : Int32) : Nat → Int32 → um_S → Option (um_S)
  | 0, _, _ => none
  | n + 1, v2, σ =>
    if v1 ≤ v2 then
    (some σ)
    else
    ((f_X4_passWeek 1 σ).bind fun σ2 =>
    (f_X8_run_l33 v1 n (v2 + (1 : Int32)) σ2))
noncomputable def f_X8_run (a1 : Int32) (σ : um_S) : Option (Int32 × um_S) :=
    (f_X8_within a1 (1 : Int32) (60 : Int32) σ).bind fun x2 =>
    (if (um_b x2) = 0 then
    (some ((-1000000001 : Int32), σ))
    else
    (if ((σ.1 1 12) + a1) ≤ (1999 : Int32) then
    ((f_X8_run_l33 a1 um_N (0 : Int32) σ).bind fun σ3 =>
    (some (σ3.1 1 12, σ3)))
    else
    (some ((-1000000003 : Int32), σ))))
set_option maxRecDepth 100000 in
set_option maxHeartbeats 4000000 in
theorem t_X8_run_l33 {Q : State → Prop} {σo : um_S} (v1 : Int32) (hX : um_X sh) (Cx : um_C p s m meth c args cX8_run 3 (some FieldType.int) RX8 Z) (hE : ∀ (H : Heap) (locs : List Loc) (ls : Array Slot), um_W Z sh α σo H → va_S (um_D sh α) s.heap H locs → lv_has ls 3 [(0, .ref (α 0))] → W p l e { frames := 6, cells := 0, slots := 0, locals := 145 } s m args below meth c H locs 0 0 Q (F0 m 51 ls [])) : ∀ (n : Nat) (v2 : Int32) (σ : um_S) (H : Heap) (locs : List Loc) (ls : Array Slot), f_X8_run_l33 v1 n v2 σ = some σo → um_W Z sh α σ H → va_S (um_D sh α) s.heap H locs → lv_has ls 3 [(0, .ref (α 0)), (1, .int v1), (2, .int v2)] → W p l e { frames := 6, cells := 0, slots := 0, locals := 145 } s m args below meth c H locs 0 0 Q (F0 m 33 ls []) := by
  have hx := Cx.1
  have hb := Cx.2.1
  have hown := Cx.2.2.2.2.1
  have hts := Cx.2.2.2.2.2.1
  intro n
  induction n with
  | zero =>
    intro v2 σ H locs ls hf hW hS hl
    cases hf
  | succ n ih =>
    intro v2 σ H locs ls hf hW hS hl
    rw [f_X8_run_l33] at hf
    refine lv_iload_n (pc := 33) hx hb dX8_run_33 rfl (lv_at hl 2 rfl) ?_
    refine lv_iload_n (pc := 34) hx hb dX8_run_34 rfl (lv_at hl 1 rfl) ?_
    refine lv_icmp_ge (pc := 35) (tgt := 51) hx hb dX8_run_35 (by decide) (fun c1 => ?_) (fun c1 => ?_)
    · have hf := um_it c1 hf
      clear c1
      cases hf
      exact hE _ _ _ hW hS (lv_sub hl [0] rfl)
    · have hf := um_ie c1 hf
      clear c1
      refine lv_aload_n (pc := 38) hx hb dX8_run_38 rfl (lv_at hl 0 rfl) ?_
      refine gF_X8_10 (pc := 39) Cx hW (hX 0 _ rfl) rfl dX8_run_39 ?_
      obtain ⟨σ2, hc1, hf⟩ := um_bi hf
      refine um_cVv (pc := 42) (As := []) (rest := []) Cx (c_X4_passWeek 1 (Or.inl rfl) hX hc1) kV_X4_passWeek (Or.inl qM_X8_197) hW hS (xs_shore hX (Or.inl rfl)) rfl rfl hl rfl (Nat.le_of_ble_eq_true rfl) (Nat.le_of_ble_eq_true rfl) (Nat.le_of_ble_eq_true rfl) dX8_run_42 (Nat.le_refl _) (Nat.le_refl _) ?_
      clear hW hS hc1
      intro H locs hW hS
      refine lv_iinc (pc := 45) (v := v2 + (1 : Int32)) (lv' := [(2, .int (v2 + (1 : Int32))), (0, .ref (α 0)), (1, .int v1)]) hx hb dX8_run_45 hl (k := 2) rfl rfl (by decide) rfl ?_
      clear hl
      intro ls hl
      refine lv_goto (pc := 48) (tgt := 33) hx hb dX8_run_48 (by decide) ?_
      exact ih _ _ _ _ _ hf hW hS (lv_sub hl [1, 2, 0] rfl)
set_option maxRecDepth 100000 in
set_option maxHeartbeats 4000000 in
theorem b_X8_run {H : Heap} {locs : List Loc} {ls : Array Slot} {σ : um_S} {σ' : um_S} {r : Int32} (a1 : Int32) (hX : um_X sh) (hf : f_X8_run a1 σ = some (r, σ')) (Cx : um_C p s m meth c args cX8_run 3 (some FieldType.int) RX8 Z) (hW : um_W Z sh α σ H) (hS : va_S (um_D sh α) s.heap H locs) (hl : lv_has ls 3 [(0, .ref (α 0)), (1, .int a1)]) : um_G p l e (6) (145) s m args below meth c Z sh α σ' (some (.int r)) H locs (F0 m 0 ls []) := by
  have hx := Cx.1
  have hb := Cx.2.1
  have hown := Cx.2.2.2.2.1
  have hts := Cx.2.2.2.2.2.1
  rw [f_X8_run] at hf
  refine lv_iload_n (pc := 0) hx hb dX8_run_0 rfl (lv_at hl 1 rfl) ?_
  refine lv_iconst (pc := 1) (v := (1 : Int32)) hx hb dX8_run_1 (by decide) ?_
  refine lv_bipush (pc := 2) (v := (60 : Int32)) hx hb dX8_run_2 (by decide) ?_
  obtain ⟨x2, hc1, hf⟩ := um_bi hf
  refine um_cSi (pc := 4) (As := [.int a1, .int (1 : Int32), .int (60 : Int32)]) (rest := []) Cx (c_X8_within a1 (1 : Int32) (60 : Int32) hX hc1) kS_X8_within (Or.inl qM_X8_55) hW hS rfl hl rfl (Nat.le_of_ble_eq_true rfl) (Nat.le_of_ble_eq_true rfl) (Nat.le_of_ble_eq_true rfl) dX8_run_4 (Nat.le_refl _) (Nat.le_refl _) ?_
  clear hW hS hc1
  intro H locs hW hS
  refine lv_if_ne (pc := 7) (tgt := 13) hx hb dX8_run_7 (by decide) (fun c1 => ?_) (fun c1 => ?_)
  · have hf := um_ie c1 hf
    clear c1
    refine lv_aload_n (pc := 13) hx hb dX8_run_13 rfl (lv_at hl 0 rfl) ?_
    refine gF_X8_10 (pc := 14) Cx hW (hX 0 _ rfl) rfl dX8_run_14 ?_
    refine gF_X8_51 (pc := 17) Cx hW (xs_shore hX (Or.inl rfl)) rfl dX8_run_17 ?_
    refine lv_iload_n (pc := 20) hx hb dX8_run_20 rfl (lv_at hl 1 rfl) ?_
    refine lv_iadd (pc := 21) hx hb dX8_run_21 ?_
    refine lv_sipush (pc := 22) (v := (1999 : Int32)) hx hb dX8_run_22 (by decide) ?_
    refine lv_icmp_le (pc := 25) (tgt := 31) hx hb dX8_run_25 (by decide) (fun c1 => ?_) (fun c1 => ?_)
    · have hf := um_it c1 hf
      clear c1
      refine lv_iconst (pc := 31) (v := (0 : Int32)) hx hb dX8_run_31 (by decide) ?_
      refine lv_istore_n (pc := 32) (lv' := [(2, .int (0 : Int32)), (0, .ref (α 0)), (1, .int a1)]) hx hb dX8_run_32 rfl hl (by decide) rfl ?_
      clear hl
      intro ls hl
      obtain ⟨σ3, hc4, hf⟩ := um_bi hf
      refine t_X8_run_l33 a1 hX Cx ?_ um_N _ _ _ _ _ hc4 hW hS (lv_sub hl [1, 2, 0] rfl)
      clear hW hS hl hc4
      intro H locs ls hW hS hl
      refine lv_aload_n (pc := 51) hx hb dX8_run_51 rfl (lv_at hl 0 rfl) ?_
      refine gF_X8_10 (pc := 52) Cx hW (hX 0 _ rfl) rfl dX8_run_52 ?_
      refine gF_X8_51 (pc := 55) Cx hW (xs_shore hX (Or.inl rfl)) rfl dX8_run_55 ?_
      exact um_iret (pc := 58) Cx hW hS hf dX8_run_58
    · have hf := um_ie c1 hf
      clear c1
      refine lv_ldc (pc := 28) hx hb hown (hts _ qC_X8_80) dX8_run_28 ?_
      exact um_iret (pc := 30) Cx hW hS hf dX8_run_30
  · have hf := um_it c1 hf
    clear c1
    refine lv_ldc (pc := 10) hx hb hown (hts _ qC_X8_59) dX8_run_10 ?_
    exact um_iret (pc := 12) Cx hW hS hf dX8_run_12
theorem c_X8_run {σ : um_S} {σ' : um_S} {r : Int32} (a1 : Int32) (hX : um_X sh) (hf : f_X8_run a1 σ = some (r, σ')) : um_M l yX8_run cX8_run 3 (some FieldType.int) (6) (145) Z sh α σ [.ref (α 0), .int a1] (some (.int r)) σ' :=
  um_start (by decide) (Nat.le_of_ble_eq_true rfl) (fun p e s m below meth c ls Cx hW hS hl => b_X8_run a1 hX hf Cx hW hS hl)
noncomputable def f_X8_runs (a1 : Int32) (σ : um_S) : Option (Int32 × um_S) :=
    (f_X5_holds (20 * 1 + 1) a1 σ).bind fun x2 =>
    (if (um_b x2) = 0 then
    (some ((-1000000001 : Int32), σ))
    else
    ((f_X4_isServing 1 a1 σ).bind fun x4 =>
    (if (um_b x4) = 0 then
    (some ((-1000000012 : Int32), σ))
    else
    ((f_X4_isAtPlace 1 a1 σ).bind fun x6 =>
    (if (um_b x6) = 0 then
    (some ((-1000000002 : Int32), σ))
    else
    ((f_X5_get (20 * 1 + 1) a1 (4 : Int32) σ).bind fun x8 =>
    ((f_X4_become 1 a1 (7 : Int32) x8 σ).bind fun σ10 =>
    ((f_X5_set (20 * 1 + 1) a1 (4 : Int32) (-1000000005 : Int32) σ10).bind fun σ12 =>
    (some ((1 : Int32), σ12))))))))))
set_option maxRecDepth 100000 in
set_option maxHeartbeats 4000000 in
theorem b_X8_runs {H : Heap} {locs : List Loc} {ls : Array Slot} {σ : um_S} {σ' : um_S} {r : Int32} (a1 : Int32) (hX : um_X sh) (hf : f_X8_runs a1 σ = some (r, σ')) (Cx : um_C p s m meth c args cX8_runs 2 (some FieldType.int) RX8 Z) (hW : um_W Z sh α σ H) (hS : va_S (um_D sh α) s.heap H locs) (hl : lv_has ls 2 [(0, .ref (α 0)), (1, .int a1)]) : um_G p l e (3) (63) s m args below meth c Z sh α σ' (some (.int r)) H locs (F0 m 0 ls []) := by
  have hx := Cx.1
  have hb := Cx.2.1
  have hown := Cx.2.2.2.2.1
  have hts := Cx.2.2.2.2.2.1
  rw [f_X8_runs] at hf
  refine lv_aload_n (pc := 0) hx hb dX8_runs_0 rfl (lv_at hl 0 rfl) ?_
  refine gF_X8_10 (pc := 1) Cx hW (hX 0 _ rfl) rfl dX8_runs_1 ?_
  refine gF_X8_77 (pc := 4) Cx hW (xs_shore hX (Or.inl rfl)) rfl dX8_runs_4 ?_
  refine lv_iload_n (pc := 7) hx hb dX8_runs_7 rfl (lv_at hl 1 rfl) ?_
  obtain ⟨x2, hc1, hf⟩ := um_bi hf
  refine um_cVi (pc := 8) (As := [.int a1]) (rest := []) Cx (c_X5_holds (20 * 1 + 1) a1 (xs_ht (Or.inl rfl) 1 rfl) hX hc1) kV_X5_holds (Or.inl qM_X8_70) hW hS (xs_tab hX (xs_ht (Or.inl rfl) 1 rfl)) rfl rfl hl rfl (Nat.le_of_ble_eq_true rfl) (Nat.le_of_ble_eq_true rfl) (Nat.le_of_ble_eq_true rfl) dX8_runs_8 (Nat.le_refl _) (Nat.le_refl _) ?_
  clear hW hS hc1
  intro H locs hW hS
  refine lv_if_ne (pc := 11) (tgt := 17) hx hb dX8_runs_11 (by decide) (fun c1 => ?_) (fun c1 => ?_)
  · have hf := um_ie c1 hf
    clear c1
    refine lv_aload_n (pc := 17) hx hb dX8_runs_17 rfl (lv_at hl 0 rfl) ?_
    refine gF_X8_10 (pc := 18) Cx hW (hX 0 _ rfl) rfl dX8_runs_18 ?_
    refine lv_iload_n (pc := 21) hx hb dX8_runs_21 rfl (lv_at hl 1 rfl) ?_
    obtain ⟨x4, hc3, hf⟩ := um_bi hf
    refine um_cVi (pc := 22) (As := [.int a1]) (rest := []) Cx (c_X4_isServing 1 a1 (Or.inl rfl) hX hc3) kV_X4_isServing (Or.inl qM_X8_182) hW hS (xs_shore hX (Or.inl rfl)) rfl rfl hl rfl (Nat.le_of_ble_eq_true rfl) (Nat.le_of_ble_eq_true rfl) (Nat.le_of_ble_eq_true rfl) dX8_runs_22 (Nat.le_refl _) (Nat.le_refl _) ?_
    clear hW hS hc3
    intro H locs hW hS
    refine lv_if_ne (pc := 25) (tgt := 31) hx hb dX8_runs_25 (by decide) (fun c1 => ?_) (fun c1 => ?_)
    · have hf := um_ie c1 hf
      clear c1
      refine lv_aload_n (pc := 31) hx hb dX8_runs_31 rfl (lv_at hl 0 rfl) ?_
      refine gF_X8_10 (pc := 32) Cx hW (hX 0 _ rfl) rfl dX8_runs_32 ?_
      refine lv_iload_n (pc := 35) hx hb dX8_runs_35 rfl (lv_at hl 1 rfl) ?_
      obtain ⟨x6, hc5, hf⟩ := um_bi hf
      refine um_cVi (pc := 36) (As := [.int a1]) (rest := []) Cx (c_X4_isAtPlace 1 a1 (Or.inl rfl) hX hc5) kV_X4_isAtPlace (Or.inl qM_X8_176) hW hS (xs_shore hX (Or.inl rfl)) rfl rfl hl rfl (Nat.le_of_ble_eq_true rfl) (Nat.le_of_ble_eq_true rfl) (Nat.le_of_ble_eq_true rfl) dX8_runs_36 (Nat.le_refl _) (Nat.le_refl _) ?_
      clear hW hS hc5
      intro H locs hW hS
      refine lv_if_ne (pc := 39) (tgt := 45) hx hb dX8_runs_39 (by decide) (fun c1 => ?_) (fun c1 => ?_)
      · have hf := um_ie c1 hf
        clear c1
        refine lv_aload_n (pc := 45) hx hb dX8_runs_45 rfl (lv_at hl 0 rfl) ?_
        refine gF_X8_10 (pc := 46) Cx hW (hX 0 _ rfl) rfl dX8_runs_46 ?_
        refine lv_iload_n (pc := 49) hx hb dX8_runs_49 rfl (lv_at hl 1 rfl) ?_
        refine lv_bipush (pc := 50) (v := (7 : Int32)) hx hb dX8_runs_50 (by decide) ?_
        refine lv_aload_n (pc := 52) hx hb dX8_runs_52 rfl (lv_at hl 0 rfl) ?_
        refine gF_X8_10 (pc := 53) Cx hW (hX 0 _ rfl) rfl dX8_runs_53 ?_
        refine gF_X8_77 (pc := 56) Cx hW (xs_shore hX (Or.inl rfl)) rfl dX8_runs_56 ?_
        refine lv_iload_n (pc := 59) hx hb dX8_runs_59 rfl (lv_at hl 1 rfl) ?_
        refine lv_iconst (pc := 60) (v := (4 : Int32)) hx hb dX8_runs_60 (by decide) ?_
        obtain ⟨x8, hc7, hf⟩ := um_bi hf
        refine um_cVi (pc := 61) (As := [.int a1, .int (4 : Int32)]) (rest := [.int (7 : Int32), .int a1, .ref (α 1)]) Cx (c_X5_get (20 * 1 + 1) a1 (4 : Int32) (xs_ht (Or.inl rfl) 1 rfl) hX hc7) kV_X5_get (Or.inl qM_X8_73) hW hS (xs_tab hX (xs_ht (Or.inl rfl) 1 rfl)) rfl rfl hl rfl (Nat.le_of_ble_eq_true rfl) (Nat.le_of_ble_eq_true rfl) (Nat.le_of_ble_eq_true rfl) dX8_runs_61 (Nat.le_refl _) (Nat.le_refl _) ?_
        clear hW hS hc7
        intro H locs hW hS
        obtain ⟨σ10, hc9, hf⟩ := um_bi hf
        refine um_cVv (pc := 64) (As := [.int a1, .int (7 : Int32), .int x8]) (rest := []) Cx (c_X4_become 1 a1 (7 : Int32) x8 (Or.inl rfl) hX hc9) kV_X4_become (Or.inl qM_X8_173) hW hS (xs_shore hX (Or.inl rfl)) rfl rfl hl rfl (Nat.le_of_ble_eq_true rfl) (Nat.le_of_ble_eq_true rfl) (Nat.le_of_ble_eq_true rfl) dX8_runs_64 (Nat.le_refl _) (Nat.le_refl _) ?_
        clear hW hS hc9
        intro H locs hW hS
        refine lv_aload_n (pc := 67) hx hb dX8_runs_67 rfl (lv_at hl 0 rfl) ?_
        refine gF_X8_10 (pc := 68) Cx hW (hX 0 _ rfl) rfl dX8_runs_68 ?_
        refine gF_X8_77 (pc := 71) Cx hW (xs_shore hX (Or.inl rfl)) rfl dX8_runs_71 ?_
        refine lv_iload_n (pc := 74) hx hb dX8_runs_74 rfl (lv_at hl 1 rfl) ?_
        refine lv_iconst (pc := 75) (v := (4 : Int32)) hx hb dX8_runs_75 (by decide) ?_
        refine lv_ldc (pc := 76) hx hb hown (hts _ qC_X8_109) dX8_runs_76 ?_
        obtain ⟨σ12, hc11, hf⟩ := um_bi hf
        refine um_cVv (pc := 78) (As := [.int a1, .int (4 : Int32), .int (-1000000005 : Int32)]) (rest := []) Cx (c_X5_set (20 * 1 + 1) a1 (4 : Int32) (-1000000005 : Int32) (xs_ht (Or.inl rfl) 1 rfl) hX hc11) kV_X5_set (Or.inl qM_X8_105) hW hS (xs_tab hX (xs_ht (Or.inl rfl) 1 rfl)) rfl rfl hl rfl (Nat.le_of_ble_eq_true rfl) (Nat.le_of_ble_eq_true rfl) (Nat.le_of_ble_eq_true rfl) dX8_runs_78 (Nat.le_refl _) (Nat.le_refl _) ?_
        clear hW hS hc11
        intro H locs hW hS
        refine lv_iconst (pc := 81) (v := (1 : Int32)) hx hb dX8_runs_81 (by decide) ?_
        exact um_iret (pc := 82) Cx hW hS hf dX8_runs_82
      · have hf := um_it c1 hf
        clear c1
        refine lv_ldc (pc := 42) hx hb hown (hts _ qC_X8_88) dX8_runs_42 ?_
        exact um_iret (pc := 44) Cx hW hS hf dX8_runs_44
    · have hf := um_it c1 hf
      clear c1
      refine lv_ldc (pc := 28) hx hb hown (hts _ qC_X8_101) dX8_runs_28 ?_
      exact um_iret (pc := 30) Cx hW hS hf dX8_runs_30
  · have hf := um_it c1 hf
    clear c1
    refine lv_ldc (pc := 14) hx hb hown (hts _ qC_X8_59) dX8_runs_14 ?_
    exact um_iret (pc := 16) Cx hW hS hf dX8_runs_16
theorem c_X8_runs {σ : um_S} {σ' : um_S} {r : Int32} (a1 : Int32) (hX : um_X sh) (hf : f_X8_runs a1 σ = some (r, σ')) : um_M l yX8_runs cX8_runs 2 (some FieldType.int) (3) (63) Z sh α σ [.ref (α 0), .int a1] (some (.int r)) σ' :=
  um_start (by decide) (Nat.le_of_ble_eq_true rfl) (fun p e s m below meth c ls Cx hW hS hl => b_X8_runs a1 hX hf Cx hW hS hl)
noncomputable def f_X8_same (a1 : Int32) (a2 : Int32) (σ : um_S) : Option (Int32) :=
    (f_X5_holds (20 * 1 + 5) a1 σ).bind fun x2 =>
    (if (um_b x2) = 0 then
    (some (-1000000001 : Int32))
    else
    ((f_X5_holds (20 * 1 + 5) a2 σ).bind fun x4 =>
    (if (um_b x4) = 0 then
    (some (-1000000001 : Int32))
    else
    (if a1 = a2 then
    (some (-1000000001 : Int32))
    else
    ((f_X4_menWhoMayBe 1 a1 σ).bind fun x6 =>
    ((f_X4_menWhoMayBe 1 a2 σ).bind fun x8 =>
    (um_let (fun (_u : Unit) =>
    (if (x6 &&& x8) = 0 then
    (some (0 : Int32))
    else
    (some (1 : Int32)))) fun k9 =>
    (if x6 = x8 then
    ((f_J6_bitCount_0f7a4 x6 σ).bind fun x11 =>
    (if x11 = (1 : Int32) then
    (some (2 : Int32))
    else
    (k9 ())))
    else
    (k9 ())))))))))
set_option maxRecDepth 100000 in
set_option maxHeartbeats 4000000 in
theorem b_X8_same {H : Heap} {locs : List Loc} {ls : Array Slot} {σ : um_S} {r : Int32} (a1 : Int32) (a2 : Int32) (hX : um_X sh) (hf : f_X8_same a1 a2 σ = some r) (Cx : um_C p s m meth c args cX8_same 5 (some FieldType.int) RX8 Z) (hW : um_W Z sh α σ H) (hS : va_S (um_D sh α) s.heap H locs) (hl : lv_has ls 5 [(0, .ref (α 0)), (1, .int a1), (2, .int a2)]) : um_G p l e (3) (79) s m args below meth c Z sh α σ (some (.int r)) H locs (F0 m 0 ls []) := by
  have hx := Cx.1
  have hb := Cx.2.1
  have hown := Cx.2.2.2.2.1
  have hts := Cx.2.2.2.2.2.1
  rw [f_X8_same] at hf
  refine lv_aload_n (pc := 0) hx hb dX8_same_0 rfl (lv_at hl 0 rfl) ?_
  refine gF_X8_10 (pc := 1) Cx hW (hX 0 _ rfl) rfl dX8_same_1 ?_
  refine gF_X8_209 (pc := 4) Cx hW (xs_shore hX (Or.inl rfl)) rfl dX8_same_4 ?_
  refine lv_iload_n (pc := 7) hx hb dX8_same_7 rfl (lv_at hl 1 rfl) ?_
  obtain ⟨x2, hc1, hf⟩ := um_bi hf
  refine um_cVi (pc := 8) (As := [.int a1]) (rest := []) Cx (c_X5_holds (20 * 1 + 5) a1 (xs_ht (Or.inl rfl) 5 rfl) hX hc1) kV_X5_holds (Or.inl qM_X8_70) hW hS (xs_tab hX (xs_ht (Or.inl rfl) 5 rfl)) rfl rfl hl rfl (Nat.le_of_ble_eq_true rfl) (Nat.le_of_ble_eq_true rfl) (Nat.le_of_ble_eq_true rfl) dX8_same_8 (Nat.le_refl _) (Nat.le_refl _) ?_
  clear hW hS hc1
  intro H locs hW hS
  refine lv_if_eq (pc := 11) (tgt := 33) hx hb dX8_same_11 (by decide) (fun c1 => ?_) (fun c1 => ?_)
  · have hf := um_it c1 hf
    clear c1
    refine lv_ldc (pc := 33) hx hb hown (hts _ qC_X8_59) dX8_same_33 ?_
    exact um_iretR (pc := 35) Cx hW hS hf dX8_same_35
  · have hf := um_ie c1 hf
    clear c1
    refine lv_aload_n (pc := 14) hx hb dX8_same_14 rfl (lv_at hl 0 rfl) ?_
    refine gF_X8_10 (pc := 15) Cx hW (hX 0 _ rfl) rfl dX8_same_15 ?_
    refine gF_X8_209 (pc := 18) Cx hW (xs_shore hX (Or.inl rfl)) rfl dX8_same_18 ?_
    refine lv_iload_n (pc := 21) hx hb dX8_same_21 rfl (lv_at hl 2 rfl) ?_
    obtain ⟨x4, hc3, hf⟩ := um_bi hf
    refine um_cVi (pc := 22) (As := [.int a2]) (rest := []) Cx (c_X5_holds (20 * 1 + 5) a2 (xs_ht (Or.inl rfl) 5 rfl) hX hc3) kV_X5_holds (Or.inl qM_X8_70) hW hS (xs_tab hX (xs_ht (Or.inl rfl) 5 rfl)) rfl rfl hl rfl (Nat.le_of_ble_eq_true rfl) (Nat.le_of_ble_eq_true rfl) (Nat.le_of_ble_eq_true rfl) dX8_same_22 (Nat.le_refl _) (Nat.le_refl _) ?_
    clear hW hS hc3
    intro H locs hW hS
    refine lv_if_eq (pc := 25) (tgt := 33) hx hb dX8_same_25 (by decide) (fun c1 => ?_) (fun c1 => ?_)
    · have hf := um_it c1 hf
      clear c1
      refine lv_ldc (pc := 33) hx hb hown (hts _ qC_X8_59) dX8_same_33 ?_
      exact um_iretR (pc := 35) Cx hW hS hf dX8_same_35
    · have hf := um_ie c1 hf
      clear c1
      refine lv_iload_n (pc := 28) hx hb dX8_same_28 rfl (lv_at hl 1 rfl) ?_
      refine lv_iload_n (pc := 29) hx hb dX8_same_29 rfl (lv_at hl 2 rfl) ?_
      refine lv_icmp_ne (pc := 30) (tgt := 36) hx hb dX8_same_30 (by decide) (fun c1 => ?_) (fun c1 => ?_)
      · have hf := um_ie c1 hf
        clear c1
        refine lv_aload_n (pc := 36) hx hb dX8_same_36 rfl (lv_at hl 0 rfl) ?_
        refine gF_X8_10 (pc := 37) Cx hW (hX 0 _ rfl) rfl dX8_same_37 ?_
        refine lv_iload_n (pc := 40) hx hb dX8_same_40 rfl (lv_at hl 1 rfl) ?_
        obtain ⟨x6, hc5, hf⟩ := um_bi hf
        refine um_cVi (pc := 41) (As := [.int a1]) (rest := []) Cx (c_X4_menWhoMayBe 1 a1 (Or.inl rfl) hX hc5) kV_X4_menWhoMayBe (Or.inl qM_X8_212) hW hS (xs_shore hX (Or.inl rfl)) rfl rfl hl rfl (Nat.le_of_ble_eq_true rfl) (Nat.le_of_ble_eq_true rfl) (Nat.le_of_ble_eq_true rfl) dX8_same_41 (Nat.le_refl _) (Nat.le_refl _) ?_
        clear hW hS hc5
        intro H locs hW hS
        refine lv_istore_n (pc := 44) (lv' := [(3, .int x6), (0, .ref (α 0)), (1, .int a1), (2, .int a2)]) hx hb dX8_same_44 rfl hl (by decide) rfl ?_
        clear hl
        intro ls hl
        refine lv_aload_n (pc := 45) hx hb dX8_same_45 rfl (lv_at hl 1 rfl) ?_
        refine gF_X8_10 (pc := 46) Cx hW (hX 0 _ rfl) rfl dX8_same_46 ?_
        refine lv_iload_n (pc := 49) hx hb dX8_same_49 rfl (lv_at hl 3 rfl) ?_
        obtain ⟨x8, hc7, hf⟩ := um_bi hf
        refine um_cVi (pc := 50) (As := [.int a2]) (rest := []) Cx (c_X4_menWhoMayBe 1 a2 (Or.inl rfl) hX hc7) kV_X4_menWhoMayBe (Or.inl qM_X8_212) hW hS (xs_shore hX (Or.inl rfl)) rfl rfl hl rfl (Nat.le_of_ble_eq_true rfl) (Nat.le_of_ble_eq_true rfl) (Nat.le_of_ble_eq_true rfl) dX8_same_50 (Nat.le_refl _) (Nat.le_refl _) ?_
        clear hW hS hc7
        intro H locs hW hS
        refine lv_istore (pc := 53) (lv' := [(4, .int x8), (3, .int x6), (0, .ref (α 0)), (1, .int a1), (2, .int a2)]) hx hb dX8_same_53 hl (by decide) rfl ?_
        clear hl
        intro ls hl
        refine lv_iload_n (pc := 55) hx hb dX8_same_55 rfl (lv_at hl 1 rfl) ?_
        refine lv_iload (pc := 56) hx hb dX8_same_56 (lv_at hl 0 rfl) ?_
        obtain ⟨k9, hk9, hf⟩ := um_j1 hf
        have J9 : ∀ (_u : Unit), k9 _u = some r → ∀ (H : Heap) (locs : List Loc) (ls : Array Slot), um_W Z sh α σ H → va_S (um_D sh α) s.heap H locs → lv_has ls 5 [(3, .int x6), (4, .int x8)] → um_G p l e (3) (79) s m args below meth c Z sh α σ (some (.int r)) H locs (F0 m 71 ls []) := by
          intro _u hf H locs ls hW hS hl
          rw [hk9] at hf
          refine lv_iload_n (pc := 71) hx hb dX8_same_71 rfl (lv_at hl 0 rfl) ?_
          refine lv_iload (pc := 72) hx hb dX8_same_72 (lv_at hl 1 rfl) ?_
          refine lv_iand (pc := 74) hx hb dX8_same_74 ?_
          refine lv_if_eq (pc := 75) (tgt := 82) hx hb dX8_same_75 (by decide) (fun c1 => ?_) (fun c1 => ?_)
          · have hf := um_it c1 hf
            clear c1
            refine lv_iconst (pc := 82) (v := (0 : Int32)) hx hb dX8_same_82 (by decide) ?_
            exact um_iretR (pc := 83) Cx hW hS hf dX8_same_83
          · have hf := um_ie c1 hf
            clear c1
            refine lv_iconst (pc := 78) (v := (1 : Int32)) hx hb dX8_same_78 (by decide) ?_
            refine lv_goto (pc := 79) (tgt := 83) hx hb dX8_same_79 (by decide) ?_
            exact um_iretR (pc := 83) Cx hW hS hf dX8_same_83
        refine lv_icmp_ne (pc := 58) (tgt := 71) hx hb dX8_same_58 (by decide) (fun c1 => ?_) (fun c1 => ?_)
        · have hf := um_ie c1 hf
          clear c1
          exact J9 () hf _ _ _ hW hS (lv_sub hl [1, 0] rfl)
        · have hf := um_it c1 hf
          clear c1
          refine lv_iload_n (pc := 61) hx hb dX8_same_61 rfl (lv_at hl 1 rfl) ?_
          obtain ⟨x11, hc10, hf⟩ := um_bi hf
          refine um_cSi (pc := 62) (As := [.int x6]) (rest := []) Cx (c_J6_bitCount_0f7a4 x6 hX hc10) kS_J6_bitCount_0f7a4 (Or.inl qM_X8_215) hW hS rfl hl rfl (Nat.le_of_ble_eq_true rfl) (Nat.le_of_ble_eq_true rfl) (Nat.le_of_ble_eq_true rfl) dX8_same_62 (Nat.le_refl _) (Nat.le_refl _) ?_
          clear hW hS hc10
          intro H locs hW hS
          refine lv_iconst (pc := 65) (v := (1 : Int32)) hx hb dX8_same_65 (by decide) ?_
          refine lv_icmp_ne (pc := 66) (tgt := 71) hx hb dX8_same_66 (by decide) (fun c1 => ?_) (fun c1 => ?_)
          · have hf := um_ie c1 hf
            clear c1
            exact J9 () hf _ _ _ hW hS (lv_sub hl [1, 0] rfl)
          · have hf := um_it c1 hf
            clear c1
            refine lv_iconst (pc := 69) (v := (2 : Int32)) hx hb dX8_same_69 (by decide) ?_
            exact um_iretR (pc := 70) Cx hW hS hf dX8_same_70
      · have hf := um_it c1 hf
        clear c1
        refine lv_ldc (pc := 33) hx hb hown (hts _ qC_X8_59) dX8_same_33 ?_
        exact um_iretR (pc := 35) Cx hW hS hf dX8_same_35
theorem c_X8_same {σ : um_S} {r : Int32} (a1 : Int32) (a2 : Int32) (hX : um_X sh) (hf : f_X8_same a1 a2 σ = some r) : um_M l yX8_same cX8_same 5 (some FieldType.int) (3) (79) Z sh α σ [.ref (α 0), .int a1, .int a2] (some (.int r)) σ :=
  um_start (by decide) (Nat.le_of_ble_eq_true rfl) (fun p e s m below meth c ls Cx hW hS hl => b_X8_same a1 a2 hX hf Cx hW hS hl)
