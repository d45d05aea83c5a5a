variable {p : Program} {l : Launch} {e : Env} {s : State} {m : MethodId} {args : Array Value} {below : List Frame} {meth : Method} {c : Code} {Z : um_Z} {α : Nat → Nat} {sh : Nat → Option um_Sh}
noncomputable def f_X8_seed (a1 : Int32) (σ : um_S) : Option (Int32 × um_S) :=
    (f_X8_within a1 (0 : Int32) (65535 : Int32) σ).bind fun x2 =>
    (if (um_b x2) = 0 then
    (some ((-1000000001 : Int32), σ))
    else
    (um_let (σ.1 1 13) fun x3 =>
    (um_let (um_wr σ 1 13 a1) fun σ5 =>
    (some (x3, σ5)))))
set_option maxRecDepth 100000 in
set_option maxHeartbeats 4000000 in
theorem b_X8_seed {H : Heap} {locs : List Loc} {ls : Array Slot} {σ : um_S} {σ' : um_S} {r : Int32} (a1 : Int32) (hX : um_X sh) (hf : f_X8_seed a1 σ = some (r, σ')) (Cx : um_C p s m meth c args cX8_seed 3 (some FieldType.int) RX8 Z) (hW : um_W Z sh α σ H) (hS : va_S (um_D sh α) s.heap H locs) (hl : lv_has ls 3 [(0, .ref (α 0)), (1, .int a1)]) : um_G p l e (1) (22) s m args below meth c Z sh α σ' (some (.int r)) H locs (F0 m 0 ls []) := by
  have hx := Cx.1
  have hb := Cx.2.1
  have hown := Cx.2.2.2.2.1
  have hts := Cx.2.2.2.2.2.1
  rw [f_X8_seed] at hf
  refine lv_iload_n (pc := 0) hx hb dX8_seed_0 rfl (lv_at hl 1 rfl) ?_
  refine lv_iconst (pc := 1) (v := (0 : Int32)) hx hb dX8_seed_1 (by decide) ?_
  refine lv_ldc (pc := 2) hx hb hown (hts _ qC_X8_193) dX8_seed_2 ?_
  obtain ⟨x2, hc1, hf⟩ := um_bi hf
  refine um_cSi (pc := 4) (As := [.int a1, .int (0 : Int32), .int (65535 : Int32)]) (rest := []) Cx (c_X8_within a1 (0 : Int32) (65535 : Int32) hX hc1) kS_X8_within (Or.inl qM_X8_55) hW hS rfl hl rfl (Nat.le_of_ble_eq_true rfl) (Nat.le_of_ble_eq_true rfl) (Nat.le_of_ble_eq_true rfl) dX8_seed_4 (Nat.le_refl _) (Nat.le_refl _) ?_
  clear hW hS hc1
  intro H locs hW hS
  refine lv_if_ne (pc := 7) (tgt := 13) hx hb dX8_seed_7 (by decide) (fun c1 => ?_) (fun c1 => ?_)
  · have hf := um_ie c1 hf
    clear c1
    refine lv_aload_n (pc := 13) hx hb dX8_seed_13 rfl (lv_at hl 0 rfl) ?_
    refine gF_X8_10 (pc := 14) Cx hW (hX 0 _ rfl) rfl dX8_seed_14 ?_
    refine gF_X8_194 (pc := 17) Cx hW (xs_shore hX (Or.inl rfl)) rfl dX8_seed_17 ?_
    obtain ⟨x3, e4, hf⟩ := um_le hf
    refine um_top e4 ?_
    clear e4
    refine lv_istore_n (pc := 20) (lv' := [(2, .int x3), (0, .ref (α 0)), (1, .int a1)]) hx hb dX8_seed_20 rfl hl (by decide) rfl ?_
    clear hl
    intro ls hl
    refine lv_aload_n (pc := 21) hx hb dX8_seed_21 rfl (lv_at hl 1 rfl) ?_
    refine gF_X8_10 (pc := 22) Cx hW (hX 0 _ rfl) rfl dX8_seed_22 ?_
    refine lv_iload_n (pc := 25) hx hb dX8_seed_25 rfl (lv_at hl 2 rfl) ?_
    refine gP_X8_194 (pc := 26) Cx hW hS (xs_shore hX (Or.inl rfl)) rfl dX8_seed_26 ?_
    clear hW hS
    intro H locs hW hS
    obtain ⟨σ5, e6, hf⟩ := um_le hf
    rw [← e6] at hW
    clear e6
    refine lv_iload_n (pc := 29) hx hb dX8_seed_29 rfl (lv_at hl 0 rfl) ?_
    exact um_iret (pc := 30) Cx hW hS hf dX8_seed_30
  · have hf := um_it c1 hf
    clear c1
    refine lv_ldc (pc := 10) hx hb hown (hts _ qC_X8_59) dX8_seed_10 ?_
    exact um_iret (pc := 12) Cx hW hS hf dX8_seed_12
theorem c_X8_seed {σ : um_S} {σ' : um_S} {r : Int32} (a1 : Int32) (hX : um_X sh) (hf : f_X8_seed a1 σ = some (r, σ')) : um_M l yX8_seed cX8_seed 3 (some FieldType.int) (1) (22) Z sh α σ [.ref (α 0), .int a1] (some (.int r)) σ' :=
  um_start (by decide) (Nat.le_of_ble_eq_true rfl) (fun p e s m below meth c ls Cx hW hS hl => b_X8_seed a1 hX hf Cx hW hS hl)
noncomputable def f_X8_sentence (a1 : Int32) (a2 : Int32) (a3 : Int32) (σ : um_S) : Option (Int32 × um_S) :=
    (f_X8_within a1 (0 : Int32) (3 : Int32) σ).bind fun x2 =>
    (if (um_b x2) = 0 then
    (some ((-1000000001 : Int32), σ))
    else
    ((f_X8_within a2 (0 : Int32) (7 : Int32) σ).bind fun x4 =>
    (if (um_b x4) = 0 then
    (some ((-1000000001 : Int32), σ))
    else
    ((f_X8_within a3 (0 : Int32) (300 : Int32) σ).bind fun x6 =>
    (if (um_b x6) = 0 then
    (some ((-1000000001 : Int32), σ))
    else
    (um_b2 (f_X5_add (20 * 1 + 6) a1 a2 a3 (0 : Int32) σ) fun x9 σ8 =>
    (some (x9, σ8))))))))
set_option maxRecDepth 100000 in
set_option maxHeartbeats 4000000 in
theorem b_X8_sentence {H : Heap} {locs : List Loc} {ls : Array Slot} {σ : um_S} {σ' : um_S} {r : Int32} (a1 : Int32) (a2 : Int32) (a3 : Int32) (hX : um_X sh) (hf : f_X8_sentence a1 a2 a3 σ = some (r, σ')) (Cx : um_C p s m meth c args cX8_sentence 4 (some FieldType.int) RX8 Z) (hW : um_W Z sh α σ H) (hS : va_S (um_D sh α) s.heap H locs) (hl : lv_has ls 4 [(0, .ref (α 0)), (1, .int a1), (2, .int a2), (3, .int a3)]) : um_G p l e (2) (50) s m args below meth c Z sh α σ' (some (.int r)) H locs (F0 m 0 ls []) := by
  have hx := Cx.1
  have hb := Cx.2.1
  have hown := Cx.2.2.2.2.1
  have hts := Cx.2.2.2.2.2.1
  rw [f_X8_sentence] at hf
  refine lv_iload_n (pc := 0) hx hb dX8_sentence_0 rfl (lv_at hl 1 rfl) ?_
  refine lv_iconst (pc := 1) (v := (0 : Int32)) hx hb dX8_sentence_1 (by decide) ?_
  refine lv_iconst (pc := 2) (v := (3 : Int32)) hx hb dX8_sentence_2 (by decide) ?_
  obtain ⟨x2, hc1, hf⟩ := um_bi hf
  refine um_cSi (pc := 3) (As := [.int a1, .int (0 : Int32), .int (3 : Int32)]) (rest := []) Cx (c_X8_within a1 (0 : Int32) (3 : Int32) hX hc1) kS_X8_within (Or.inl qM_X8_55) hW hS rfl hl rfl (Nat.le_of_ble_eq_true rfl) (Nat.le_of_ble_eq_true rfl) (Nat.le_of_ble_eq_true rfl) dX8_sentence_3 (Nat.le_refl _) (Nat.le_refl _) ?_
  clear hW hS hc1
  intro H locs hW hS
  refine lv_if_eq (pc := 6) (tgt := 30) hx hb dX8_sentence_6 (by decide) (fun c1 => ?_) (fun c1 => ?_)
  · have hf := um_it c1 hf
    clear c1
    refine lv_ldc (pc := 30) hx hb hown (hts _ qC_X8_59) dX8_sentence_30 ?_
    exact um_iret (pc := 32) Cx hW hS hf dX8_sentence_32
  · have hf := um_ie c1 hf
    clear c1
    refine lv_iload_n (pc := 9) hx hb dX8_sentence_9 rfl (lv_at hl 2 rfl) ?_
    refine lv_iconst (pc := 10) (v := (0 : Int32)) hx hb dX8_sentence_10 (by decide) ?_
    refine lv_bipush (pc := 11) (v := (7 : Int32)) hx hb dX8_sentence_11 (by decide) ?_
    obtain ⟨x4, hc3, hf⟩ := um_bi hf
    refine um_cSi (pc := 13) (As := [.int a2, .int (0 : Int32), .int (7 : Int32)]) (rest := []) Cx (c_X8_within a2 (0 : Int32) (7 : Int32) hX hc3) kS_X8_within (Or.inl qM_X8_55) hW hS rfl hl rfl (Nat.le_of_ble_eq_true rfl) (Nat.le_of_ble_eq_true rfl) (Nat.le_of_ble_eq_true rfl) dX8_sentence_13 (Nat.le_refl _) (Nat.le_refl _) ?_
    clear hW hS hc3
    intro H locs hW hS
    refine lv_if_eq (pc := 16) (tgt := 30) hx hb dX8_sentence_16 (by decide) (fun c1 => ?_) (fun c1 => ?_)
    · have hf := um_it c1 hf
      clear c1
      refine lv_ldc (pc := 30) hx hb hown (hts _ qC_X8_59) dX8_sentence_30 ?_
      exact um_iret (pc := 32) Cx hW hS hf dX8_sentence_32
    · have hf := um_ie c1 hf
      clear c1
      refine lv_iload_n (pc := 19) hx hb dX8_sentence_19 rfl (lv_at hl 3 rfl) ?_
      refine lv_iconst (pc := 20) (v := (0 : Int32)) hx hb dX8_sentence_20 (by decide) ?_
      refine lv_sipush (pc := 21) (v := (300 : Int32)) hx hb dX8_sentence_21 (by decide) ?_
      obtain ⟨x6, hc5, hf⟩ := um_bi hf
      refine um_cSi (pc := 24) (As := [.int a3, .int (0 : Int32), .int (300 : Int32)]) (rest := []) Cx (c_X8_within a3 (0 : Int32) (300 : Int32) hX hc5) kS_X8_within (Or.inl qM_X8_55) hW hS rfl hl rfl (Nat.le_of_ble_eq_true rfl) (Nat.le_of_ble_eq_true rfl) (Nat.le_of_ble_eq_true rfl) dX8_sentence_24 (Nat.le_refl _) (Nat.le_refl _) ?_
      clear hW hS hc5
      intro H locs hW hS
      refine lv_if_ne (pc := 27) (tgt := 33) hx hb dX8_sentence_27 (by decide) (fun c1 => ?_) (fun c1 => ?_)
      · have hf := um_ie c1 hf
        clear c1
        refine lv_aload_n (pc := 33) hx hb dX8_sentence_33 rfl (lv_at hl 0 rfl) ?_
        refine gF_X8_10 (pc := 34) Cx hW (hX 0 _ rfl) rfl dX8_sentence_34 ?_
        refine gF_X8_236 (pc := 37) Cx hW (xs_shore hX (Or.inl rfl)) rfl dX8_sentence_37 ?_
        refine lv_iload_n (pc := 40) hx hb dX8_sentence_40 rfl (lv_at hl 1 rfl) ?_
        refine lv_iload_n (pc := 41) hx hb dX8_sentence_41 rfl (lv_at hl 2 rfl) ?_
        refine lv_iload_n (pc := 42) hx hb dX8_sentence_42 rfl (lv_at hl 3 rfl) ?_
        refine lv_iconst (pc := 43) (v := (0 : Int32)) hx hb dX8_sentence_43 (by decide) ?_
        obtain ⟨x9, σ8, hc7, hf⟩ := um_bi2 hf
        refine um_cVi (pc := 44) (As := [.int a1, .int a2, .int a3, .int (0 : Int32)]) (rest := []) Cx (c_X5_add (20 * 1 + 6) a1 a2 a3 (0 : Int32) (xs_ht (Or.inl rfl) 6 rfl) hX hc7) kV_X5_add (Or.inl qM_X8_64) hW hS (xs_tab hX (xs_ht (Or.inl rfl) 6 rfl)) rfl rfl hl rfl (Nat.le_of_ble_eq_true rfl) (Nat.le_of_ble_eq_true rfl) (Nat.le_of_ble_eq_true rfl) dX8_sentence_44 (Nat.le_refl _) (Nat.le_refl _) ?_
        clear hW hS hc7
        intro H locs hW hS
        exact um_iret (pc := 47) Cx hW hS hf dX8_sentence_47
      · have hf := um_it c1 hf
        clear c1
        refine lv_ldc (pc := 30) hx hb hown (hts _ qC_X8_59) dX8_sentence_30 ?_
        exact um_iret (pc := 32) Cx hW hS hf dX8_sentence_32
theorem c_X8_sentence {σ : um_S} {σ' : um_S} {r : Int32} (a1 : Int32) (a2 : Int32) (a3 : Int32) (hX : um_X sh) (hf : f_X8_sentence a1 a2 a3 σ = some (r, σ')) : um_M l yX8_sentence cX8_sentence 4 (some FieldType.int) (2) (50) Z sh α σ [.ref (α 0), .int a1, .int a2, .int a3] (some (.int r)) σ' :=
  um_start (by decide) (Nat.le_of_ble_eq_true rfl) (fun p e s m below meth c ls Cx hW hS hl => b_X8_sentence a1 a2 a3 hX hf Cx hW hS hl)
noncomputable def f_X8_ship (a1 : Int32) (a2 : Int32) (σ : um_S) : Option (Int32 × um_S) :=
    (f_X8_isPlace a1 σ).bind fun x2 =>
    (if (um_b x2) = 0 then
    (some ((-1000000001 : Int32), σ))
    else
    ((f_X8_within a2 ((σ.1 1 12) + (1 : Int32)) (1999 : Int32) σ).bind fun x4 =>
    (if (um_b x4) = 0 then
    (some ((-1000000001 : Int32), σ))
    else
    (um_b2 (f_X5_add (20 * 1 + 0) a1 a2 (0 : Int32) (0 : Int32) σ) fun x7 σ6 =>
    (some (x7, σ6))))))
set_option maxRecDepth 100000 in
set_option maxHeartbeats 4000000 in
theorem b_X8_ship {H : Heap} {locs : List Loc} {ls : Array Slot} {σ : um_S} {σ' : um_S} {r : Int32} (a1 : Int32) (a2 : Int32) (hX : um_X sh) (hf : f_X8_ship a1 a2 σ = some (r, σ')) (Cx : um_C p s m meth c args cX8_ship 3 (some FieldType.int) RX8 Z) (hW : um_W Z sh α σ H) (hS : va_S (um_D sh α) s.heap H locs) (hl : lv_has ls 3 [(0, .ref (α 0)), (1, .int a1), (2, .int a2)]) : um_G p l e (2) (50) s m args below meth c Z sh α σ' (some (.int r)) H locs (F0 m 0 ls []) := by
  have hx := Cx.1
  have hb := Cx.2.1
  have hown := Cx.2.2.2.2.1
  have hts := Cx.2.2.2.2.2.1
  rw [f_X8_ship] at hf
  refine lv_iload_n (pc := 0) hx hb dX8_ship_0 rfl (lv_at hl 1 rfl) ?_
  obtain ⟨x2, hc1, hf⟩ := um_bi hf
  refine um_cSi (pc := 1) (As := [.int a1]) (rest := []) Cx (c_X8_isPlace a1 hX hc1) kS_X8_isPlace (Or.inl qM_X8_47) hW hS rfl hl rfl (Nat.le_of_ble_eq_true rfl) (Nat.le_of_ble_eq_true rfl) (Nat.le_of_ble_eq_true rfl) dX8_ship_1 (Nat.le_refl _) (Nat.le_refl _) ?_
  clear hW hS hc1
  intro H locs hW hS
  refine lv_if_eq (pc := 4) (tgt := 26) hx hb dX8_ship_4 (by decide) (fun c1 => ?_) (fun c1 => ?_)
  · have hf := um_it c1 hf
    clear c1
    refine lv_ldc (pc := 26) hx hb hown (hts _ qC_X8_59) dX8_ship_26 ?_
    exact um_iret (pc := 28) Cx hW hS hf dX8_ship_28
  · have hf := um_ie c1 hf
    clear c1
    refine lv_iload_n (pc := 7) hx hb dX8_ship_7 rfl (lv_at hl 2 rfl) ?_
    refine lv_aload_n (pc := 8) hx hb dX8_ship_8 rfl (lv_at hl 0 rfl) ?_
    refine gF_X8_10 (pc := 9) Cx hW (hX 0 _ rfl) rfl dX8_ship_9 ?_
    refine gF_X8_51 (pc := 12) Cx hW (xs_shore hX (Or.inl rfl)) rfl dX8_ship_12 ?_
    refine lv_iconst (pc := 15) (v := (1 : Int32)) hx hb dX8_ship_15 (by decide) ?_
    refine lv_iadd (pc := 16) hx hb dX8_ship_16 ?_
    refine lv_sipush (pc := 17) (v := (1999 : Int32)) hx hb dX8_ship_17 (by decide) ?_
    obtain ⟨x4, hc3, hf⟩ := um_bi hf
    refine um_cSi (pc := 20) (As := [.int a2, .int ((σ.1 1 12) + (1 : Int32)), .int (1999 : Int32)]) (rest := []) Cx (c_X8_within a2 ((σ.1 1 12) + (1 : Int32)) (1999 : Int32) hX hc3) kS_X8_within (Or.inl qM_X8_55) hW hS rfl hl rfl (Nat.le_of_ble_eq_true rfl) (Nat.le_of_ble_eq_true rfl) (Nat.le_of_ble_eq_true rfl) dX8_ship_20 (Nat.le_refl _) (Nat.le_refl _) ?_
    clear hW hS hc3
    intro H locs hW hS
    refine lv_if_ne (pc := 23) (tgt := 29) hx hb dX8_ship_23 (by decide) (fun c1 => ?_) (fun c1 => ?_)
    · have hf := um_ie c1 hf
      clear c1
      refine lv_aload_n (pc := 29) hx hb dX8_ship_29 rfl (lv_at hl 0 rfl) ?_
      refine gF_X8_10 (pc := 30) Cx hW (hX 0 _ rfl) rfl dX8_ship_30 ?_
      refine gF_X8_60 (pc := 33) Cx hW (xs_shore hX (Or.inl rfl)) rfl dX8_ship_33 ?_
      refine lv_iload_n (pc := 36) hx hb dX8_ship_36 rfl (lv_at hl 1 rfl) ?_
      refine lv_iload_n (pc := 37) hx hb dX8_ship_37 rfl (lv_at hl 2 rfl) ?_
      refine lv_iconst (pc := 38) (v := (0 : Int32)) hx hb dX8_ship_38 (by decide) ?_
      refine lv_iconst (pc := 39) (v := (0 : Int32)) hx hb dX8_ship_39 (by decide) ?_
      obtain ⟨x7, σ6, hc5, hf⟩ := um_bi2 hf
      refine um_cVi (pc := 40) (As := [.int a1, .int a2, .int (0 : Int32), .int (0 : Int32)]) (rest := []) Cx (c_X5_add (20 * 1 + 0) a1 a2 (0 : Int32) (0 : Int32) (xs_ht (Or.inl rfl) 0 rfl) hX hc5) kV_X5_add (Or.inl qM_X8_64) hW hS (xs_tab hX (xs_ht (Or.inl rfl) 0 rfl)) rfl rfl hl rfl (Nat.le_of_ble_eq_true rfl) (Nat.le_of_ble_eq_true rfl) (Nat.le_of_ble_eq_true rfl) dX8_ship_40 (Nat.le_refl _) (Nat.le_refl _) ?_
      clear hW hS hc5
      intro H locs hW hS
      exact um_iret (pc := 43) Cx hW hS hf dX8_ship_43
    · have hf := um_it c1 hf
      clear c1
      refine lv_ldc (pc := 26) hx hb hown (hts _ qC_X8_59) dX8_ship_26 ?_
      exact um_iret (pc := 28) Cx hW hS hf dX8_ship_28
theorem c_X8_ship {σ : um_S} {σ' : um_S} {r : Int32} (a1 : Int32) (a2 : Int32) (hX : um_X sh) (hf : f_X8_ship a1 a2 σ = some (r, σ')) : um_M l yX8_ship cX8_ship 3 (some FieldType.int) (2) (50) Z sh α σ [.ref (α 0), .int a1, .int a2] (some (.int r)) σ' :=
  um_start (by decide) (Nat.le_of_ble_eq_true rfl) (fun p e s m below meth c ls Cx hW hS hl => b_X8_ship a1 a2 hX hf Cx hW hS hl)
noncomputable def f_X8_store (a1 : Int32) (a2 : Int32) (σ : um_S) : Option (Int32 × um_S) :=
    (f_X8_isPlace a1 σ).bind fun x2 =>
    (if (um_b x2) = 0 then
    (some ((-1000000001 : Int32), σ))
    else
    ((f_X8_within a2 (0 : Int32) (9999 : Int32) σ).bind fun x4 =>
    (if (um_b x4) = 0 then
    (some ((-1000000001 : Int32), σ))
    else
    (um_b2 (f_X5_swap (20 * 1 + 7) a1 (0 : Int32) a2 σ) fun x7 σ6 =>
    (some (x7, σ6))))))
set_option maxRecDepth 100000 in
set_option maxHeartbeats 4000000 in
theorem b_X8_store {H : Heap} {locs : List Loc} {ls : Array Slot} {σ : um_S} {σ' : um_S} {r : Int32} (a1 : Int32) (a2 : Int32) (hX : um_X sh) (hf : f_X8_store a1 a2 σ = some (r, σ')) (Cx : um_C p s m meth c args cX8_store 3 (some FieldType.int) RX8 Z) (hW : um_W Z sh α σ H) (hS : va_S (um_D sh α) s.heap H locs) (hl : lv_has ls 3 [(0, .ref (α 0)), (1, .int a1), (2, .int a2)]) : um_G p l e (2) (49) s m args below meth c Z sh α σ' (some (.int r)) H locs (F0 m 0 ls []) := by
  have hx := Cx.1
  have hb := Cx.2.1
  have hown := Cx.2.2.2.2.1
  have hts := Cx.2.2.2.2.2.1
  rw [f_X8_store] at hf
  refine lv_iload_n (pc := 0) hx hb dX8_store_0 rfl (lv_at hl 1 rfl) ?_
  obtain ⟨x2, hc1, hf⟩ := um_bi hf
  refine um_cSi (pc := 1) (As := [.int a1]) (rest := []) Cx (c_X8_isPlace a1 hX hc1) kS_X8_isPlace (Or.inl qM_X8_47) hW hS rfl hl rfl (Nat.le_of_ble_eq_true rfl) (Nat.le_of_ble_eq_true rfl) (Nat.le_of_ble_eq_true rfl) dX8_store_1 (Nat.le_refl _) (Nat.le_refl _) ?_
  clear hW hS hc1
  intro H locs hW hS
  refine lv_if_eq (pc := 4) (tgt := 18) hx hb dX8_store_4 (by decide) (fun c1 => ?_) (fun c1 => ?_)
  · have hf := um_it c1 hf
    clear c1
    refine lv_ldc (pc := 18) hx hb hown (hts _ qC_X8_59) dX8_store_18 ?_
    exact um_iret (pc := 20) Cx hW hS hf dX8_store_20
  · have hf := um_ie c1 hf
    clear c1
    refine lv_iload_n (pc := 7) hx hb dX8_store_7 rfl (lv_at hl 2 rfl) ?_
    refine lv_iconst (pc := 8) (v := (0 : Int32)) hx hb dX8_store_8 (by decide) ?_
    refine lv_sipush (pc := 9) (v := (9999 : Int32)) hx hb dX8_store_9 (by decide) ?_
    obtain ⟨x4, hc3, hf⟩ := um_bi hf
    refine um_cSi (pc := 12) (As := [.int a2, .int (0 : Int32), .int (9999 : Int32)]) (rest := []) Cx (c_X8_within a2 (0 : Int32) (9999 : Int32) hX hc3) kS_X8_within (Or.inl qM_X8_55) hW hS rfl hl rfl (Nat.le_of_ble_eq_true rfl) (Nat.le_of_ble_eq_true rfl) (Nat.le_of_ble_eq_true rfl) dX8_store_12 (Nat.le_refl _) (Nat.le_refl _) ?_
    clear hW hS hc3
    intro H locs hW hS
    refine lv_if_ne (pc := 15) (tgt := 21) hx hb dX8_store_15 (by decide) (fun c1 => ?_) (fun c1 => ?_)
    · have hf := um_ie c1 hf
      clear c1
      refine lv_aload_n (pc := 21) hx hb dX8_store_21 rfl (lv_at hl 0 rfl) ?_
      refine gF_X8_10 (pc := 22) Cx hW (hX 0 _ rfl) rfl dX8_store_22 ?_
      refine gF_X8_116 (pc := 25) Cx hW (xs_shore hX (Or.inl rfl)) rfl dX8_store_25 ?_
      refine lv_iload_n (pc := 28) hx hb dX8_store_28 rfl (lv_at hl 1 rfl) ?_
      refine lv_iconst (pc := 29) (v := (0 : Int32)) hx hb dX8_store_29 (by decide) ?_
      refine lv_iload_n (pc := 30) hx hb dX8_store_30 rfl (lv_at hl 2 rfl) ?_
      obtain ⟨x7, σ6, hc5, hf⟩ := um_bi2 hf
      refine um_cVi (pc := 31) (As := [.int a1, .int (0 : Int32), .int a2]) (rest := []) Cx (c_X5_swap (20 * 1 + 7) a1 (0 : Int32) a2 (xs_ht (Or.inl rfl) 7 rfl) hX hc5) kV_X5_swap (Or.inl qM_X8_89) hW hS (xs_tab hX (xs_ht (Or.inl rfl) 7 rfl)) rfl rfl hl rfl (Nat.le_of_ble_eq_true rfl) (Nat.le_of_ble_eq_true rfl) (Nat.le_of_ble_eq_true rfl) dX8_store_31 (Nat.le_refl _) (Nat.le_refl _) ?_
      clear hW hS hc5
      intro H locs hW hS
      exact um_iret (pc := 34) Cx hW hS hf dX8_store_34
    · have hf := um_it c1 hf
      clear c1
      refine lv_ldc (pc := 18) hx hb hown (hts _ qC_X8_59) dX8_store_18 ?_
      exact um_iret (pc := 20) Cx hW hS hf dX8_store_20
theorem c_X8_store {σ : um_S} {σ' : um_S} {r : Int32} (a1 : Int32) (a2 : Int32) (hX : um_X sh) (hf : f_X8_store a1 a2 σ = some (r, σ')) : um_M l yX8_store cX8_store 3 (some FieldType.int) (2) (49) Z sh α σ [.ref (α 0), .int a1, .int a2] (some (.int r)) σ' :=
  um_start (by decide) (Nat.le_of_ble_eq_true rfl) (fun p e s m below meth c ls Cx hW hS hl => b_X8_store a1 a2 hX hf Cx hW hS hl)
noncomputable def f_X8_tell (a1 : Int32) (σ : um_S) : Option (Int32 × um_S) :=
    if (σ.1 0 8) < 0 then
    (some ((-1000000003 : Int32), σ))
    else
    (if (σ.1 0 8) < (nI 60) then
    (if um_ix (σ.1 0 8) 60 then
    (um_let (um_wr σ 7 (σ.1 0 8).toNatClampNeg a1) fun σ2 =>
    (um_let (um_wr σ2 0 8 ((σ2.1 0 8) + (1 : Int32))) fun σ4 =>
    (some (σ4.1 0 8, σ4)))) else none)
    else
    (some ((-1000000003 : Int32), σ)))
set_option maxRecDepth 100000 in
set_option maxHeartbeats 4000000 in
theorem b_X8_tell {H : Heap} {locs : List Loc} {ls : Array Slot} {σ : um_S} {σ' : um_S} {r : Int32} (a1 : Int32) (hX : um_X sh) (hf : f_X8_tell a1 σ = some (r, σ')) (Cx : um_C p s m meth c args cX8_tell 2 (some FieldType.int) RX8 Z) (hW : um_W Z sh α σ H) (hS : va_S (um_D sh α) s.heap H locs) (hl : lv_has ls 2 [(0, .ref (α 0)), (1, .int a1)]) : um_G p l e (0) (0) s m args below meth c Z sh α σ' (some (.int r)) H locs (F0 m 0 ls []) := by
  have hx := Cx.1
  have hb := Cx.2.1
  have hown := Cx.2.2.2.2.1
  have hts := Cx.2.2.2.2.2.1
  rw [f_X8_tell] at hf
  refine lv_aload_n (pc := 0) hx hb dX8_tell_0 rfl (lv_at hl 0 rfl) ?_
  refine gF_X8_297 (pc := 1) Cx hW (hX 0 _ rfl) rfl dX8_tell_1 ?_
  refine lv_if_lt (pc := 4) (tgt := 19) hx hb dX8_tell_4 (by decide) (fun c1 => ?_) (fun c1 => ?_)
  · have hf := um_it c1 hf
    clear c1
    refine lv_ldc (pc := 19) hx hb hown (hts _ qC_X8_80) dX8_tell_19 ?_
    exact um_iret (pc := 21) Cx hW hS hf dX8_tell_21
  · have hf := um_ie c1 hf
    clear c1
    refine lv_aload_n (pc := 7) hx hb dX8_tell_7 rfl (lv_at hl 0 rfl) ?_
    refine gF_X8_297 (pc := 8) Cx hW (hX 0 _ rfl) rfl dX8_tell_8 ?_
    refine lv_aload_n (pc := 11) hx hb dX8_tell_11 rfl (lv_at hl 0 rfl) ?_
    refine gF_X8_43 (pc := 12) Cx hW (hX 0 _ rfl) rfl dX8_tell_12 ?_
    refine um_alen (pc := 15) (n := 60) Cx hW (hX 7 _ rfl) rfl (by decide) dX8_tell_15 ?_
    refine lv_icmp_lt (pc := 16) (tgt := 22) hx hb dX8_tell_16 (by decide) (fun c1 => ?_) (fun c1 => ?_)
    · have hf := um_it c1 hf
      clear c1
      refine lv_aload_n (pc := 22) hx hb dX8_tell_22 rfl (lv_at hl 0 rfl) ?_
      refine gF_X8_43 (pc := 23) Cx hW (hX 0 _ rfl) rfl dX8_tell_23 ?_
      refine lv_aload_n (pc := 26) hx hb dX8_tell_26 rfl (lv_at hl 0 rfl) ?_
      refine gF_X8_297 (pc := 27) Cx hW (hX 0 _ rfl) rfl dX8_tell_27 ?_
      refine lv_iload_n (pc := 30) hx hb dX8_tell_30 rfl (lv_at hl 1 rfl) ?_
      obtain ⟨g1, hf⟩ := um_gu hf
      refine um_iast (pc := 31) Cx hW hS (hX 7 _ rfl) rfl (um_ix_in g1) dX8_tell_31 ?_
      clear hW hS
      intro H locs hW hS
      obtain ⟨σ2, e3, hf⟩ := um_le hf
      rw [← e3] at hW
      clear e3
      refine lv_aload_n (pc := 32) hx hb dX8_tell_32 rfl (lv_at hl 0 rfl) ?_
      refine lv_dup (pc := 33) hx hb dX8_tell_33 rfl ?_
      refine gF_X8_297 (pc := 34) Cx hW (hX 0 _ rfl) rfl dX8_tell_34 ?_
      refine lv_iconst (pc := 37) (v := (1 : Int32)) hx hb dX8_tell_37 (by decide) ?_
      refine lv_iadd (pc := 38) hx hb dX8_tell_38 ?_
      refine gP_X8_297 (pc := 39) Cx hW hS (hX 0 _ rfl) rfl dX8_tell_39 ?_
      clear hW hS
      intro H locs hW hS
      obtain ⟨σ4, e5, hf⟩ := um_le hf
      rw [← e5] at hW
      clear e5
      refine lv_aload_n (pc := 42) hx hb dX8_tell_42 rfl (lv_at hl 0 rfl) ?_
      refine gF_X8_297 (pc := 43) Cx hW (hX 0 _ rfl) rfl dX8_tell_43 ?_
      exact um_iret (pc := 46) Cx hW hS hf dX8_tell_46
    · have hf := um_ie c1 hf
      clear c1
      refine lv_ldc (pc := 19) hx hb hown (hts _ qC_X8_80) dX8_tell_19 ?_
      exact um_iret (pc := 21) Cx hW hS hf dX8_tell_21
theorem c_X8_tell {σ : um_S} {σ' : um_S} {r : Int32} (a1 : Int32) (hX : um_X sh) (hf : f_X8_tell a1 σ = some (r, σ')) : um_M l yX8_tell cX8_tell 2 (some FieldType.int) (0) (0) Z sh α σ [.ref (α 0), .int a1] (some (.int r)) σ' :=
  um_start (by decide) (Nat.le_of_ble_eq_true rfl) (fun p e s m below meth c ls Cx hW hS hl => b_X8_tell a1 hX hf Cx hW hS hl)
noncomputable def f_X8_term (a1 : Int32) (a2 : Int32) (σ : um_S) : Option (Int32 × um_S) :=
    (f_X5_holds (20 * 1 + 1) a1 σ).bind fun x2 =>
    (if (um_b x2) = 0 then
    (some ((-1000000001 : Int32), σ))
    else
    ((f_X8_within a2 (1 : Int32) (999 : Int32) σ).bind fun x4 =>
    (if (um_b x4) = 0 then
    (some ((-1000000001 : Int32), σ))
    else
    ((f_X4_hasLanded 1 a1 σ).bind fun x6 =>
    (if (um_b x6) = 0 then
    (um_b2 (f_X5_swap (20 * 1 + 1) a1 (13 : Int32) a2 σ) fun x9 σ8 =>
    (some (x9, σ8)))
    else
    (some ((-1000000002 : Int32), σ)))))))
set_option maxRecDepth 100000 in
set_option maxHeartbeats 4000000 in
theorem b_X8_term {H : Heap} {locs : List Loc} {ls : Array Slot} {σ : um_S} {σ' : um_S} {r : Int32} (a1 : Int32) (a2 : Int32) (hX : um_X sh) (hf : f_X8_term a1 a2 σ = some (r, σ')) (Cx : um_C p s m meth c args cX8_term 3 (some FieldType.int) RX8 Z) (hW : um_W Z sh α σ H) (hS : va_S (um_D sh α) s.heap H locs) (hl : lv_has ls 3 [(0, .ref (α 0)), (1, .int a1), (2, .int a2)]) : um_G p l e (2) (49) s m args below meth c Z sh α σ' (some (.int r)) H locs (F0 m 0 ls []) := by
  have hx := Cx.1
  have hb := Cx.2.1
  have hown := Cx.2.2.2.2.1
  have hts := Cx.2.2.2.2.2.1
  rw [f_X8_term] at hf
  refine lv_aload_n (pc := 0) hx hb dX8_term_0 rfl (lv_at hl 0 rfl) ?_
  refine gF_X8_10 (pc := 1) Cx hW (hX 0 _ rfl) rfl dX8_term_1 ?_
  refine gF_X8_77 (pc := 4) Cx hW (xs_shore hX (Or.inl rfl)) rfl dX8_term_4 ?_
  refine lv_iload_n (pc := 7) hx hb dX8_term_7 rfl (lv_at hl 1 rfl) ?_
  obtain ⟨x2, hc1, hf⟩ := um_bi hf
  refine um_cVi (pc := 8) (As := [.int a1]) (rest := []) Cx (c_X5_holds (20 * 1 + 1) a1 (xs_ht (Or.inl rfl) 1 rfl) hX hc1) kV_X5_holds (Or.inl qM_X8_70) hW hS (xs_tab hX (xs_ht (Or.inl rfl) 1 rfl)) rfl rfl hl rfl (Nat.le_of_ble_eq_true rfl) (Nat.le_of_ble_eq_true rfl) (Nat.le_of_ble_eq_true rfl) dX8_term_8 (Nat.le_refl _) (Nat.le_refl _) ?_
  clear hW hS hc1
  intro H locs hW hS
  refine lv_if_eq (pc := 11) (tgt := 25) hx hb dX8_term_11 (by decide) (fun c1 => ?_) (fun c1 => ?_)
  · have hf := um_it c1 hf
    clear c1
    refine lv_ldc (pc := 25) hx hb hown (hts _ qC_X8_59) dX8_term_25 ?_
    exact um_iret (pc := 27) Cx hW hS hf dX8_term_27
  · have hf := um_ie c1 hf
    clear c1
    refine lv_iload_n (pc := 14) hx hb dX8_term_14 rfl (lv_at hl 2 rfl) ?_
    refine lv_iconst (pc := 15) (v := (1 : Int32)) hx hb dX8_term_15 (by decide) ?_
    refine lv_sipush (pc := 16) (v := (999 : Int32)) hx hb dX8_term_16 (by decide) ?_
    obtain ⟨x4, hc3, hf⟩ := um_bi hf
    refine um_cSi (pc := 19) (As := [.int a2, .int (1 : Int32), .int (999 : Int32)]) (rest := []) Cx (c_X8_within a2 (1 : Int32) (999 : Int32) hX hc3) kS_X8_within (Or.inl qM_X8_55) hW hS rfl hl rfl (Nat.le_of_ble_eq_true rfl) (Nat.le_of_ble_eq_true rfl) (Nat.le_of_ble_eq_true rfl) dX8_term_19 (Nat.le_refl _) (Nat.le_refl _) ?_
    clear hW hS hc3
    intro H locs hW hS
    refine lv_if_ne (pc := 22) (tgt := 28) hx hb dX8_term_22 (by decide) (fun c1 => ?_) (fun c1 => ?_)
    · have hf := um_ie c1 hf
      clear c1
      refine lv_aload_n (pc := 28) hx hb dX8_term_28 rfl (lv_at hl 0 rfl) ?_
      refine gF_X8_10 (pc := 29) Cx hW (hX 0 _ rfl) rfl dX8_term_29 ?_
      refine lv_iload_n (pc := 32) hx hb dX8_term_32 rfl (lv_at hl 1 rfl) ?_
      obtain ⟨x6, hc5, hf⟩ := um_bi hf
      refine um_cVi (pc := 33) (As := [.int a1]) (rest := []) Cx (c_X4_hasLanded 1 a1 (Or.inl rfl) hX hc5) kV_X4_hasLanded (Or.inl qM_X8_85) hW hS (xs_shore hX (Or.inl rfl)) rfl rfl hl rfl (Nat.le_of_ble_eq_true rfl) (Nat.le_of_ble_eq_true rfl) (Nat.le_of_ble_eq_true rfl) dX8_term_33 (Nat.le_refl _) (Nat.le_refl _) ?_
      clear hW hS hc5
      intro H locs hW hS
      refine lv_if_eq (pc := 36) (tgt := 42) hx hb dX8_term_36 (by decide) (fun c1 => ?_) (fun c1 => ?_)
      · have hf := um_it c1 hf
        clear c1
        refine lv_aload_n (pc := 42) hx hb dX8_term_42 rfl (lv_at hl 0 rfl) ?_
        refine gF_X8_10 (pc := 43) Cx hW (hX 0 _ rfl) rfl dX8_term_43 ?_
        refine gF_X8_77 (pc := 46) Cx hW (xs_shore hX (Or.inl rfl)) rfl dX8_term_46 ?_
        refine lv_iload_n (pc := 49) hx hb dX8_term_49 rfl (lv_at hl 1 rfl) ?_
        refine lv_bipush (pc := 50) (v := (13 : Int32)) hx hb dX8_term_50 (by decide) ?_
        refine lv_iload_n (pc := 52) hx hb dX8_term_52 rfl (lv_at hl 2 rfl) ?_
        obtain ⟨x9, σ8, hc7, hf⟩ := um_bi2 hf
        refine um_cVi (pc := 53) (As := [.int a1, .int (13 : Int32), .int a2]) (rest := []) Cx (c_X5_swap (20 * 1 + 1) a1 (13 : Int32) a2 (xs_ht (Or.inl rfl) 1 rfl) hX hc7) kV_X5_swap (Or.inl qM_X8_89) hW hS (xs_tab hX (xs_ht (Or.inl rfl) 1 rfl)) rfl rfl hl rfl (Nat.le_of_ble_eq_true rfl) (Nat.le_of_ble_eq_true rfl) (Nat.le_of_ble_eq_true rfl) dX8_term_53 (Nat.le_refl _) (Nat.le_refl _) ?_
        clear hW hS hc7
        intro H locs hW hS
        exact um_iret (pc := 56) Cx hW hS hf dX8_term_56
      · have hf := um_ie c1 hf
        clear c1
        refine lv_ldc (pc := 39) hx hb hown (hts _ qC_X8_88) dX8_term_39 ?_
        exact um_iret (pc := 41) Cx hW hS hf dX8_term_41
    · have hf := um_it c1 hf
      clear c1
      refine lv_ldc (pc := 25) hx hb hown (hts _ qC_X8_59) dX8_term_25 ?_
      exact um_iret (pc := 27) Cx hW hS hf dX8_term_27
theorem c_X8_term {σ : um_S} {σ' : um_S} {r : Int32} (a1 : Int32) (a2 : Int32) (hX : um_X sh) (hf : f_X8_term a1 a2 σ = some (r, σ')) : um_M l yX8_term cX8_term 3 (some FieldType.int) (2) (49) Z sh α σ [.ref (α 0), .int a1, .int a2] (some (.int r)) σ' :=
  um_start (by decide) (Nat.le_of_ble_eq_true rfl) (fun p e s m below meth c ls Cx hW hS hl => b_X8_term a1 a2 hX hf Cx hW hS hl)
noncomputable def f_X8_ticket (a1 : Int32) (σ : um_S) : Option (Int32 × um_S) :=
    (f_X5_holds (20 * 1 + 1) a1 σ).bind fun x2 =>
    (if (um_b x2) = 0 then
    (some ((-1000000001 : Int32), σ))
    else
    ((f_X5_get (20 * 1 + 1) a1 (5 : Int32) σ).bind fun x4 =>
    ((f_X8_within x4 (1 : Int32) (2 : Int32) σ).bind fun x6 =>
    (if (um_b x6) = 0 then
    (some ((-1000000012 : Int32), σ))
    else
    ((f_X4_isAtPlace 1 a1 σ).bind fun x8 =>
    (if (um_b x8) = 0 then
    (some ((-1000000002 : Int32), σ))
    else
    (um_b2 (f_X4_mercy 1 (0 : Int32) a1 σ) fun x11 σ10 =>
    (if x11 = 0 then
    (some ((-1000000002 : Int32), σ10))
    else
    ((f_X5_get (20 * 1 + 1) a1 (4 : Int32) σ10).bind fun x13 =>
    ((f_X4_become 1 a1 (4 : Int32) x13 σ10).bind fun σ15 =>
    (some ((1 : Int32), σ15))))))))))))
set_option maxRecDepth 100000 in
set_option maxHeartbeats 4000000 in
theorem b_X8_ticket {H : Heap} {locs : List Loc} {ls : Array Slot} {σ : um_S} {σ' : um_S} {r : Int32} (a1 : Int32) (hX : um_X sh) (hf : f_X8_ticket a1 σ = some (r, σ')) (Cx : um_C p s m meth c args cX8_ticket 2 (some FieldType.int) RX8 Z) (hW : um_W Z sh α σ H) (hS : va_S (um_D sh α) s.heap H locs) (hl : lv_has ls 2 [(0, .ref (α 0)), (1, .int a1)]) : um_G p l e (4) (100) s m args below meth c Z sh α σ' (some (.int r)) H locs (F0 m 0 ls []) := by
  have hx := Cx.1
  have hb := Cx.2.1
  have hown := Cx.2.2.2.2.1
  have hts := Cx.2.2.2.2.2.1
  rw [f_X8_ticket] at hf
  refine lv_aload_n (pc := 0) hx hb dX8_ticket_0 rfl (lv_at hl 0 rfl) ?_
  refine gF_X8_10 (pc := 1) Cx hW (hX 0 _ rfl) rfl dX8_ticket_1 ?_
  refine gF_X8_77 (pc := 4) Cx hW (xs_shore hX (Or.inl rfl)) rfl dX8_ticket_4 ?_
  refine lv_iload_n (pc := 7) hx hb dX8_ticket_7 rfl (lv_at hl 1 rfl) ?_
  obtain ⟨x2, hc1, hf⟩ := um_bi hf
  refine um_cVi (pc := 8) (As := [.int a1]) (rest := []) Cx (c_X5_holds (20 * 1 + 1) a1 (xs_ht (Or.inl rfl) 1 rfl) hX hc1) kV_X5_holds (Or.inl qM_X8_70) hW hS (xs_tab hX (xs_ht (Or.inl rfl) 1 rfl)) rfl rfl hl rfl (Nat.le_of_ble_eq_true rfl) (Nat.le_of_ble_eq_true rfl) (Nat.le_of_ble_eq_true rfl) dX8_ticket_8 (Nat.le_refl _) (Nat.le_refl _) ?_
  clear hW hS hc1
  intro H locs hW hS
  refine lv_if_ne (pc := 11) (tgt := 17) hx hb dX8_ticket_11 (by decide) (fun c1 => ?_) (fun c1 => ?_)
  · have hf := um_ie c1 hf
    clear c1
    refine lv_aload_n (pc := 17) hx hb dX8_ticket_17 rfl (lv_at hl 0 rfl) ?_
    refine gF_X8_10 (pc := 18) Cx hW (hX 0 _ rfl) rfl dX8_ticket_18 ?_
    refine gF_X8_77 (pc := 21) Cx hW (xs_shore hX (Or.inl rfl)) rfl dX8_ticket_21 ?_
    refine lv_iload_n (pc := 24) hx hb dX8_ticket_24 rfl (lv_at hl 1 rfl) ?_
    refine lv_iconst (pc := 25) (v := (5 : Int32)) hx hb dX8_ticket_25 (by decide) ?_
    obtain ⟨x4, hc3, hf⟩ := um_bi hf
    refine um_cVi (pc := 26) (As := [.int a1, .int (5 : Int32)]) (rest := []) Cx (c_X5_get (20 * 1 + 1) a1 (5 : Int32) (xs_ht (Or.inl rfl) 1 rfl) hX hc3) kV_X5_get (Or.inl qM_X8_73) hW hS (xs_tab hX (xs_ht (Or.inl rfl) 1 rfl)) rfl rfl hl rfl (Nat.le_of_ble_eq_true rfl) (Nat.le_of_ble_eq_true rfl) (Nat.le_of_ble_eq_true rfl) dX8_ticket_26 (Nat.le_refl _) (Nat.le_refl _) ?_
    clear hW hS hc3
    intro H locs hW hS
    refine lv_iconst (pc := 29) (v := (1 : Int32)) hx hb dX8_ticket_29 (by decide) ?_
    refine lv_iconst (pc := 30) (v := (2 : Int32)) hx hb dX8_ticket_30 (by decide) ?_
    obtain ⟨x6, hc5, hf⟩ := um_bi hf
    refine um_cSi (pc := 31) (As := [.int x4, .int (1 : Int32), .int (2 : Int32)]) (rest := []) Cx (c_X8_within x4 (1 : Int32) (2 : Int32) hX hc5) kS_X8_within (Or.inl qM_X8_55) hW hS rfl hl rfl (Nat.le_of_ble_eq_true rfl) (Nat.le_of_ble_eq_true rfl) (Nat.le_of_ble_eq_true rfl) dX8_ticket_31 (Nat.le_refl _) (Nat.le_refl _) ?_
    clear hW hS hc5
    intro H locs hW hS
    refine lv_if_ne (pc := 34) (tgt := 40) hx hb dX8_ticket_34 (by decide) (fun c1 => ?_) (fun c1 => ?_)
    · have hf := um_ie c1 hf
      clear c1
      refine lv_aload_n (pc := 40) hx hb dX8_ticket_40 rfl (lv_at hl 0 rfl) ?_
      refine gF_X8_10 (pc := 41) Cx hW (hX 0 _ rfl) rfl dX8_ticket_41 ?_
      refine lv_iload_n (pc := 44) hx hb dX8_ticket_44 rfl (lv_at hl 1 rfl) ?_
      obtain ⟨x8, hc7, hf⟩ := um_bi hf
      refine um_cVi (pc := 45) (As := [.int a1]) (rest := []) Cx (c_X4_isAtPlace 1 a1 (Or.inl rfl) hX hc7) kV_X4_isAtPlace (Or.inl qM_X8_176) hW hS (xs_shore hX (Or.inl rfl)) rfl rfl hl rfl (Nat.le_of_ble_eq_true rfl) (Nat.le_of_ble_eq_true rfl) (Nat.le_of_ble_eq_true rfl) dX8_ticket_45 (Nat.le_refl _) (Nat.le_refl _) ?_
      clear hW hS hc7
      intro H locs hW hS
      refine lv_if_eq (pc := 48) (tgt := 63) hx hb dX8_ticket_48 (by decide) (fun c1 => ?_) (fun c1 => ?_)
      · have hf := um_it c1 hf
        clear c1
        refine lv_ldc (pc := 63) hx hb hown (hts _ qC_X8_88) dX8_ticket_63 ?_
        exact um_iret (pc := 65) Cx hW hS hf dX8_ticket_65
      · have hf := um_ie c1 hf
        clear c1
        refine lv_aload_n (pc := 51) hx hb dX8_ticket_51 rfl (lv_at hl 0 rfl) ?_
        refine gF_X8_10 (pc := 52) Cx hW (hX 0 _ rfl) rfl dX8_ticket_52 ?_
        refine lv_iconst (pc := 55) (v := (0 : Int32)) hx hb dX8_ticket_55 (by decide) ?_
        refine lv_iload_n (pc := 56) hx hb dX8_ticket_56 rfl (lv_at hl 1 rfl) ?_
        obtain ⟨x11, σ10, hc9, hf⟩ := um_bi2 hf
        refine um_cVi (pc := 57) (As := [.int (0 : Int32), .int a1]) (rest := []) Cx (c_X4_mercy 1 (0 : Int32) a1 (Or.inl rfl) hX hc9) kV_X4_mercy (Or.inl qM_X8_179) hW hS (xs_shore hX (Or.inl rfl)) rfl rfl hl rfl (Nat.le_of_ble_eq_true rfl) (Nat.le_of_ble_eq_true rfl) (Nat.le_of_ble_eq_true rfl) dX8_ticket_57 (Nat.le_refl _) (Nat.le_refl _) ?_
        clear hW hS hc9
        intro H locs hW hS
        refine lv_if_ne (pc := 60) (tgt := 66) hx hb dX8_ticket_60 (by decide) (fun c1 => ?_) (fun c1 => ?_)
        · have hf := um_ie c1 hf
          clear c1
          refine lv_aload_n (pc := 66) hx hb dX8_ticket_66 rfl (lv_at hl 0 rfl) ?_
          refine gF_X8_10 (pc := 67) Cx hW (hX 0 _ rfl) rfl dX8_ticket_67 ?_
          refine lv_iload_n (pc := 70) hx hb dX8_ticket_70 rfl (lv_at hl 1 rfl) ?_
          refine lv_iconst (pc := 71) (v := (4 : Int32)) hx hb dX8_ticket_71 (by decide) ?_
          refine lv_aload_n (pc := 72) hx hb dX8_ticket_72 rfl (lv_at hl 0 rfl) ?_
          refine gF_X8_10 (pc := 73) Cx hW (hX 0 _ rfl) rfl dX8_ticket_73 ?_
          refine gF_X8_77 (pc := 76) Cx hW (xs_shore hX (Or.inl rfl)) rfl dX8_ticket_76 ?_
          refine lv_iload_n (pc := 79) hx hb dX8_ticket_79 rfl (lv_at hl 1 rfl) ?_
          refine lv_iconst (pc := 80) (v := (4 : Int32)) hx hb dX8_ticket_80 (by decide) ?_
          obtain ⟨x13, hc12, hf⟩ := um_bi hf
          refine um_cVi (pc := 81) (As := [.int a1, .int (4 : Int32)]) (rest := [.int (4 : Int32), .int a1, .ref (α 1)]) Cx (c_X5_get (20 * 1 + 1) a1 (4 : Int32) (xs_ht (Or.inl rfl) 1 rfl) hX hc12) kV_X5_get (Or.inl qM_X8_73) hW hS (xs_tab hX (xs_ht (Or.inl rfl) 1 rfl)) rfl rfl hl rfl (Nat.le_of_ble_eq_true rfl) (Nat.le_of_ble_eq_true rfl) (Nat.le_of_ble_eq_true rfl) dX8_ticket_81 (Nat.le_refl _) (Nat.le_refl _) ?_
          clear hW hS hc12
          intro H locs hW hS
          obtain ⟨σ15, hc14, hf⟩ := um_bi hf
          refine um_cVv (pc := 84) (As := [.int a1, .int (4 : Int32), .int x13]) (rest := []) Cx (c_X4_become 1 a1 (4 : Int32) x13 (Or.inl rfl) hX hc14) kV_X4_become (Or.inl qM_X8_173) hW hS (xs_shore hX (Or.inl rfl)) rfl rfl hl rfl (Nat.le_of_ble_eq_true rfl) (Nat.le_of_ble_eq_true rfl) (Nat.le_of_ble_eq_true rfl) dX8_ticket_84 (Nat.le_refl _) (Nat.le_refl _) ?_
          clear hW hS hc14
          intro H locs hW hS
          refine lv_iconst (pc := 87) (v := (1 : Int32)) hx hb dX8_ticket_87 (by decide) ?_
          exact um_iret (pc := 88) Cx hW hS hf dX8_ticket_88
        · have hf := um_it c1 hf
          clear c1
          refine lv_ldc (pc := 63) hx hb hown (hts _ qC_X8_88) dX8_ticket_63 ?_
          exact um_iret (pc := 65) Cx hW hS hf dX8_ticket_65
    · have hf := um_it c1 hf
      clear c1
      refine lv_ldc (pc := 37) hx hb hown (hts _ qC_X8_101) dX8_ticket_37 ?_
      exact um_iret (pc := 39) Cx hW hS hf dX8_ticket_39
  · have hf := um_it c1 hf
    clear c1
    refine lv_ldc (pc := 14) hx hb hown (hts _ qC_X8_59) dX8_ticket_14 ?_
    exact um_iret (pc := 16) Cx hW hS hf dX8_ticket_16
theorem c_X8_ticket {σ : um_S} {σ' : um_S} {r : Int32} (a1 : Int32) (hX : um_X sh) (hf : f_X8_ticket a1 σ = some (r, σ')) : um_M l yX8_ticket cX8_ticket 2 (some FieldType.int) (4) (100) Z sh α σ [.ref (α 0), .int a1] (some (.int r)) σ' :=
  um_start (by decide) (Nat.le_of_ble_eq_true rfl) (fun p e s m below meth c ls Cx hW hS hl => b_X8_ticket a1 hX hf Cx hW hS hl)
noncomputable def f_X8_told (a1 : Int32) (a2 : Int32) (σ : um_S) : Option (Int32) :=
    (f_X5_holds (20 * 1 + 1) a1 σ).bind fun x2 =>
    (if (um_b x2) = 0 then
    (some (-1000000001 : Int32))
    else
    ((f_X8_within a2 (0 : Int32) (11 : Int32) σ).bind fun x4 =>
    (if (um_b x4) = 0 then
    (some (-1000000001 : Int32))
    else
    (if a2 = (8 : Int32) then
    ((f_X4_marksOf 1 a1 σ).bind fun x8 =>
    (some x8))
    else
    ((f_X5_get (20 * 1 + 1) a1 a2 σ).bind fun x6 =>
    (some x6))))))
set_option maxRecDepth 100000 in
set_option maxHeartbeats 4000000 in
theorem b_X8_told {H : Heap} {locs : List Loc} {ls : Array Slot} {σ : um_S} {r : Int32} (a1 : Int32) (a2 : Int32) (hX : um_X sh) (hf : f_X8_told a1 a2 σ = some r) (Cx : um_C p s m meth c args cX8_told 3 (some FieldType.int) RX8 Z) (hW : um_W Z sh α σ H) (hS : va_S (um_D sh α) s.heap H locs) (hl : lv_has ls 3 [(0, .ref (α 0)), (1, .int a1), (2, .int a2)]) : um_G p l e (2) (47) s m args below meth c Z sh α σ (some (.int r)) H locs (F0 m 0 ls []) := by
  have hx := Cx.1
  have hb := Cx.2.1
  have hown := Cx.2.2.2.2.1
  have hts := Cx.2.2.2.2.2.1
  rw [f_X8_told] at hf
  refine lv_aload_n (pc := 0) hx hb dX8_told_0 rfl (lv_at hl 0 rfl) ?_
  refine gF_X8_10 (pc := 1) Cx hW (hX 0 _ rfl) rfl dX8_told_1 ?_
  refine gF_X8_77 (pc := 4) Cx hW (xs_shore hX (Or.inl rfl)) rfl dX8_told_4 ?_
  refine lv_iload_n (pc := 7) hx hb dX8_told_7 rfl (lv_at hl 1 rfl) ?_
  obtain ⟨x2, hc1, hf⟩ := um_bi hf
  refine um_cVi (pc := 8) (As := [.int a1]) (rest := []) Cx (c_X5_holds (20 * 1 + 1) a1 (xs_ht (Or.inl rfl) 1 rfl) hX hc1) kV_X5_holds (Or.inl qM_X8_70) hW hS (xs_tab hX (xs_ht (Or.inl rfl) 1 rfl)) rfl rfl hl rfl (Nat.le_of_ble_eq_true rfl) (Nat.le_of_ble_eq_true rfl) (Nat.le_of_ble_eq_true rfl) dX8_told_8 (Nat.le_refl _) (Nat.le_refl _) ?_
  clear hW hS hc1
  intro H locs hW hS
  refine lv_if_eq (pc := 11) (tgt := 24) hx hb dX8_told_11 (by decide) (fun c1 => ?_) (fun c1 => ?_)
  · have hf := um_it c1 hf
    clear c1
    refine lv_ldc (pc := 24) hx hb hown (hts _ qC_X8_59) dX8_told_24 ?_
    exact um_iretR (pc := 26) Cx hW hS hf dX8_told_26
  · have hf := um_ie c1 hf
    clear c1
    refine lv_iload_n (pc := 14) hx hb dX8_told_14 rfl (lv_at hl 2 rfl) ?_
    refine lv_iconst (pc := 15) (v := (0 : Int32)) hx hb dX8_told_15 (by decide) ?_
    refine lv_bipush (pc := 16) (v := (11 : Int32)) hx hb dX8_told_16 (by decide) ?_
    obtain ⟨x4, hc3, hf⟩ := um_bi hf
    refine um_cSi (pc := 18) (As := [.int a2, .int (0 : Int32), .int (11 : Int32)]) (rest := []) Cx (c_X8_within a2 (0 : Int32) (11 : Int32) hX hc3) kS_X8_within (Or.inl qM_X8_55) hW hS rfl hl rfl (Nat.le_of_ble_eq_true rfl) (Nat.le_of_ble_eq_true rfl) (Nat.le_of_ble_eq_true rfl) dX8_told_18 (Nat.le_refl _) (Nat.le_refl _) ?_
    clear hW hS hc3
    intro H locs hW hS
    refine lv_if_ne (pc := 21) (tgt := 27) hx hb dX8_told_21 (by decide) (fun c1 => ?_) (fun c1 => ?_)
    · have hf := um_ie c1 hf
      clear c1
      refine lv_iload_n (pc := 27) hx hb dX8_told_27 rfl (lv_at hl 2 rfl) ?_
      refine lv_bipush (pc := 28) (v := (8 : Int32)) hx hb dX8_told_28 (by decide) ?_
      refine lv_icmp_ne (pc := 30) (tgt := 44) hx hb dX8_told_30 (by decide) (fun c1 => ?_) (fun c1 => ?_)
      · have hf := um_ie c1 hf
        clear c1
        refine lv_aload_n (pc := 44) hx hb dX8_told_44 rfl (lv_at hl 0 rfl) ?_
        refine gF_X8_10 (pc := 45) Cx hW (hX 0 _ rfl) rfl dX8_told_45 ?_
        refine gF_X8_77 (pc := 48) Cx hW (xs_shore hX (Or.inl rfl)) rfl dX8_told_48 ?_
        refine lv_iload_n (pc := 51) hx hb dX8_told_51 rfl (lv_at hl 1 rfl) ?_
        refine lv_iload_n (pc := 52) hx hb dX8_told_52 rfl (lv_at hl 2 rfl) ?_
        obtain ⟨x6, hc5, hf⟩ := um_bi hf
        refine um_cVi (pc := 53) (As := [.int a1, .int a2]) (rest := []) Cx (c_X5_get (20 * 1 + 1) a1 a2 (xs_ht (Or.inl rfl) 1 rfl) hX hc5) kV_X5_get (Or.inl qM_X8_73) hW hS (xs_tab hX (xs_ht (Or.inl rfl) 1 rfl)) rfl rfl hl rfl (Nat.le_of_ble_eq_true rfl) (Nat.le_of_ble_eq_true rfl) (Nat.le_of_ble_eq_true rfl) dX8_told_53 (Nat.le_refl _) (Nat.le_refl _) ?_
        clear hW hS hc5
        intro H locs hW hS
        exact um_iretR (pc := 56) Cx hW hS hf dX8_told_56
      · have hf := um_it c1 hf
        clear c1
        refine lv_aload_n (pc := 33) hx hb dX8_told_33 rfl (lv_at hl 0 rfl) ?_
        refine gF_X8_10 (pc := 34) Cx hW (hX 0 _ rfl) rfl dX8_told_34 ?_
        refine lv_iload_n (pc := 37) hx hb dX8_told_37 rfl (lv_at hl 1 rfl) ?_
        obtain ⟨x8, hc7, hf⟩ := um_bi hf
        refine um_cVi (pc := 38) (As := [.int a1]) (rest := []) Cx (c_X4_marksOf 1 a1 (Or.inl rfl) hX hc7) kV_X4_marksOf (Or.inl qM_X8_93) hW hS (xs_shore hX (Or.inl rfl)) rfl rfl hl rfl (Nat.le_of_ble_eq_true rfl) (Nat.le_of_ble_eq_true rfl) (Nat.le_of_ble_eq_true rfl) dX8_told_38 (Nat.le_refl _) (Nat.le_refl _) ?_
        clear hW hS hc7
        intro H locs hW hS
        refine lv_goto (pc := 41) (tgt := 56) hx hb dX8_told_41 (by decide) ?_
        exact um_iretR (pc := 56) Cx hW hS hf dX8_told_56
    · have hf := um_it c1 hf
      clear c1
      refine lv_ldc (pc := 24) hx hb hown (hts _ qC_X8_59) dX8_told_24 ?_
      exact um_iretR (pc := 26) Cx hW hS hf dX8_told_26
theorem c_X8_told {σ : um_S} {r : Int32} (a1 : Int32) (a2 : Int32) (hX : um_X sh) (hf : f_X8_told a1 a2 σ = some r) : um_M l yX8_told cX8_told 3 (some FieldType.int) (2) (47) Z sh α σ [.ref (α 0), .int a1, .int a2] (some (.int r)) σ :=
  um_start (by decide) (Nat.le_of_ble_eq_true rfl) (fun p e s m below meth c ls Cx hW hS hl => b_X8_told a1 a2 hX hf Cx hW hS hl)
noncomputable def f_X8_trim (a1 : Int32) (σ : um_S) : Option (Int32 × um_S) :=
    (f_X8_within a1 (0 : Int32) (σ.1 4 1) σ).bind fun x2 =>
    (if (um_b x2) = 0 then
    (some ((-1000000001 : Int32), σ))
    else
    (um_let (um_wr σ 4 1 a1) fun σ3 =>
    (some (a1, σ3))))
set_option maxRecDepth 100000 in
set_option maxHeartbeats 4000000 in
theorem b_X8_trim {H : Heap} {locs : List Loc} {ls : Array Slot} {σ : um_S} {σ' : um_S} {r : Int32} (a1 : Int32) (hX : um_X sh) (hf : f_X8_trim a1 σ = some (r, σ')) (Cx : um_C p s m meth c args cX8_trim 2 (some FieldType.int) RX8 Z) (hW : um_W Z sh α σ H) (hS : va_S (um_D sh α) s.heap H locs) (hl : lv_has ls 2 [(0, .ref (α 0)), (1, .int a1)]) : um_G p l e (1) (22) s m args below meth c Z sh α σ' (some (.int r)) H locs (F0 m 0 ls []) := by
  have hx := Cx.1
  have hb := Cx.2.1
  have hown := Cx.2.2.2.2.1
  have hts := Cx.2.2.2.2.2.1
  rw [f_X8_trim] at hf
  refine lv_iload_n (pc := 0) hx hb dX8_trim_0 rfl (lv_at hl 1 rfl) ?_
  refine lv_iconst (pc := 1) (v := (0 : Int32)) hx hb dX8_trim_1 (by decide) ?_
  refine lv_aload_n (pc := 2) hx hb dX8_trim_2 rfl (lv_at hl 0 rfl) ?_
  refine gF_X8_25 (pc := 3) Cx hW (hX 0 _ rfl) rfl dX8_trim_3 ?_
  refine gF_X8_122 (pc := 6) Cx hW (hX 4 _ rfl) rfl dX8_trim_6 ?_
  obtain ⟨x2, hc1, hf⟩ := um_bi hf
  refine um_cSi (pc := 9) (As := [.int a1, .int (0 : Int32), .int (σ.1 4 1)]) (rest := []) Cx (c_X8_within a1 (0 : Int32) (σ.1 4 1) hX hc1) kS_X8_within (Or.inl qM_X8_55) hW hS rfl hl rfl (Nat.le_of_ble_eq_true rfl) (Nat.le_of_ble_eq_true rfl) (Nat.le_of_ble_eq_true rfl) dX8_trim_9 (Nat.le_refl _) (Nat.le_refl _) ?_
  clear hW hS hc1
  intro H locs hW hS
  refine lv_if_ne (pc := 12) (tgt := 18) hx hb dX8_trim_12 (by decide) (fun c1 => ?_) (fun c1 => ?_)
  · have hf := um_ie c1 hf
    clear c1
    refine lv_aload_n (pc := 18) hx hb dX8_trim_18 rfl (lv_at hl 0 rfl) ?_
    refine gF_X8_25 (pc := 19) Cx hW (hX 0 _ rfl) rfl dX8_trim_19 ?_
    refine lv_iload_n (pc := 22) hx hb dX8_trim_22 rfl (lv_at hl 1 rfl) ?_
    refine gP_X8_122 (pc := 23) Cx hW hS (hX 4 _ rfl) rfl dX8_trim_23 ?_
    clear hW hS
    intro H locs hW hS
    obtain ⟨σ3, e4, hf⟩ := um_le hf
    rw [← e4] at hW
    clear e4
    refine lv_iload_n (pc := 26) hx hb dX8_trim_26 rfl (lv_at hl 1 rfl) ?_
    exact um_iret (pc := 27) Cx hW hS hf dX8_trim_27
  · have hf := um_it c1 hf
    clear c1
    refine lv_ldc (pc := 15) hx hb hown (hts _ qC_X8_59) dX8_trim_15 ?_
    exact um_iret (pc := 17) Cx hW hS hf dX8_trim_17
theorem c_X8_trim {σ : um_S} {σ' : um_S} {r : Int32} (a1 : Int32) (hX : um_X sh) (hf : f_X8_trim a1 σ = some (r, σ')) : um_M l yX8_trim cX8_trim 2 (some FieldType.int) (1) (22) Z sh α σ [.ref (α 0), .int a1] (some (.int r)) σ' :=
  um_start (by decide) (Nat.le_of_ble_eq_true rfl) (fun p e s m below meth c ls Cx hW hS hl => b_X8_trim a1 hX hf Cx hW hS hl)
noncomputable def f_X8_voids (a1 : Int32) (a2 : Int32) (σ : um_S) : Option (Int32 × um_S) :=
    (f_X5_holds (20 * 1 + 3) a1 σ).bind fun x2 =>
    (if (um_b x2) = 0 then
    (some ((-1000000001 : Int32), σ))
    else
    ((f_X8_within a2 (0 : Int32) (1 : Int32) σ).bind fun x4 =>
    (if (um_b x4) = 0 then
    (some ((-1000000001 : Int32), σ))
    else
    (um_b2 (f_X5_swap (20 * 1 + 3) a1 (3 : Int32) a2 σ) fun x7 σ6 =>
    (some (x7, σ6))))))
set_option maxRecDepth 100000 in
set_option maxHeartbeats 4000000 in
theorem b_X8_voids {H : Heap} {locs : List Loc} {ls : Array Slot} {σ : um_S} {σ' : um_S} {r : Int32} (a1 : Int32) (a2 : Int32) (hX : um_X sh) (hf : f_X8_voids a1 a2 σ = some (r, σ')) (Cx : um_C p s m meth c args cX8_voids 3 (some FieldType.int) RX8 Z) (hW : um_W Z sh α σ H) (hS : va_S (um_D sh α) s.heap H locs) (hl : lv_has ls 3 [(0, .ref (α 0)), (1, .int a1), (2, .int a2)]) : um_G p l e (2) (49) s m args below meth c Z sh α σ' (some (.int r)) H locs (F0 m 0 ls []) := by
  have hx := Cx.1
  have hb := Cx.2.1
  have hown := Cx.2.2.2.2.1
  have hts := Cx.2.2.2.2.2.1
  rw [f_X8_voids] at hf
  refine lv_aload_n (pc := 0) hx hb dX8_voids_0 rfl (lv_at hl 0 rfl) ?_
  refine gF_X8_10 (pc := 1) Cx hW (hX 0 _ rfl) rfl dX8_voids_1 ?_
  refine gF_X8_161 (pc := 4) Cx hW (xs_shore hX (Or.inl rfl)) rfl dX8_voids_4 ?_
  refine lv_iload_n (pc := 7) hx hb dX8_voids_7 rfl (lv_at hl 1 rfl) ?_
  obtain ⟨x2, hc1, hf⟩ := um_bi hf
  refine um_cVi (pc := 8) (As := [.int a1]) (rest := []) Cx (c_X5_holds (20 * 1 + 3) a1 (xs_ht (Or.inl rfl) 3 rfl) hX hc1) kV_X5_holds (Or.inl qM_X8_70) hW hS (xs_tab hX (xs_ht (Or.inl rfl) 3 rfl)) rfl rfl hl rfl (Nat.le_of_ble_eq_true rfl) (Nat.le_of_ble_eq_true rfl) (Nat.le_of_ble_eq_true rfl) dX8_voids_8 (Nat.le_refl _) (Nat.le_refl _) ?_
  clear hW hS hc1
  intro H locs hW hS
  refine lv_if_eq (pc := 11) (tgt := 23) hx hb dX8_voids_11 (by decide) (fun c1 => ?_) (fun c1 => ?_)
  · have hf := um_it c1 hf
    clear c1
    refine lv_ldc (pc := 23) hx hb hown (hts _ qC_X8_59) dX8_voids_23 ?_
    exact um_iret (pc := 25) Cx hW hS hf dX8_voids_25
  · have hf := um_ie c1 hf
    clear c1
    refine lv_iload_n (pc := 14) hx hb dX8_voids_14 rfl (lv_at hl 2 rfl) ?_
    refine lv_iconst (pc := 15) (v := (0 : Int32)) hx hb dX8_voids_15 (by decide) ?_
    refine lv_iconst (pc := 16) (v := (1 : Int32)) hx hb dX8_voids_16 (by decide) ?_
    obtain ⟨x4, hc3, hf⟩ := um_bi hf
    refine um_cSi (pc := 17) (As := [.int a2, .int (0 : Int32), .int (1 : Int32)]) (rest := []) Cx (c_X8_within a2 (0 : Int32) (1 : Int32) hX hc3) kS_X8_within (Or.inl qM_X8_55) hW hS rfl hl rfl (Nat.le_of_ble_eq_true rfl) (Nat.le_of_ble_eq_true rfl) (Nat.le_of_ble_eq_true rfl) dX8_voids_17 (Nat.le_refl _) (Nat.le_refl _) ?_
    clear hW hS hc3
    intro H locs hW hS
    refine lv_if_ne (pc := 20) (tgt := 26) hx hb dX8_voids_20 (by decide) (fun c1 => ?_) (fun c1 => ?_)
    · have hf := um_ie c1 hf
      clear c1
      refine lv_aload_n (pc := 26) hx hb dX8_voids_26 rfl (lv_at hl 0 rfl) ?_
      refine gF_X8_10 (pc := 27) Cx hW (hX 0 _ rfl) rfl dX8_voids_27 ?_
      refine gF_X8_161 (pc := 30) Cx hW (xs_shore hX (Or.inl rfl)) rfl dX8_voids_30 ?_
      refine lv_iload_n (pc := 33) hx hb dX8_voids_33 rfl (lv_at hl 1 rfl) ?_
      refine lv_iconst (pc := 34) (v := (3 : Int32)) hx hb dX8_voids_34 (by decide) ?_
      refine lv_iload_n (pc := 35) hx hb dX8_voids_35 rfl (lv_at hl 2 rfl) ?_
      obtain ⟨x7, σ6, hc5, hf⟩ := um_bi2 hf
      refine um_cVi (pc := 36) (As := [.int a1, .int (3 : Int32), .int a2]) (rest := []) Cx (c_X5_swap (20 * 1 + 3) a1 (3 : Int32) a2 (xs_ht (Or.inl rfl) 3 rfl) hX hc5) kV_X5_swap (Or.inl qM_X8_89) hW hS (xs_tab hX (xs_ht (Or.inl rfl) 3 rfl)) rfl rfl hl rfl (Nat.le_of_ble_eq_true rfl) (Nat.le_of_ble_eq_true rfl) (Nat.le_of_ble_eq_true rfl) dX8_voids_36 (Nat.le_refl _) (Nat.le_refl _) ?_
      clear hW hS hc5
      intro H locs hW hS
      exact um_iret (pc := 39) Cx hW hS hf dX8_voids_39
    · have hf := um_it c1 hf
      clear c1
      refine lv_ldc (pc := 23) hx hb hown (hts _ qC_X8_59) dX8_voids_23 ?_
      exact um_iret (pc := 25) Cx hW hS hf dX8_voids_25
theorem c_X8_voids {σ : um_S} {σ' : um_S} {r : Int32} (a1 : Int32) (a2 : Int32) (hX : um_X sh) (hf : f_X8_voids a1 a2 σ = some (r, σ')) : um_M l yX8_voids cX8_voids 3 (some FieldType.int) (2) (49) Z sh α σ [.ref (α 0), .int a1, .int a2] (some (.int r)) σ' :=
  um_start (by decide) (Nat.le_of_ble_eq_true rfl) (fun p e s m below meth c ls Cx hW hS hl => b_X8_voids a1 a2 hX hf Cx hW hS hl)
noncomputable def f_X8_way (a1 : Int32) (a2 : Int32) (a3 : Int32) (a4 : Int32) (σ : um_S) : Option (Int32 × um_S) :=
    (f_X8_within a1 (0 : Int32) (5 : Int32) σ).bind fun x2 =>
    (if (um_b x2) = 0 then
    (some ((-1000000001 : Int32), σ))
    else
    ((f_X8_within a2 (0 : Int32) (2 : Int32) σ).bind fun x4 =>
    (if (um_b x4) = 0 then
    (some ((-1000000001 : Int32), σ))
    else
    ((f_X8_within a3 (0 : Int32) (1 : Int32) σ).bind fun x6 =>
    (if (um_b x6) = 0 then
    (some ((-1000000001 : Int32), σ))
    else
    ((f_X8_within a4 (0 : Int32) (99 : Int32) σ).bind fun x8 =>
    (if (um_b x8) = 0 then
    (some ((-1000000001 : Int32), σ))
    else
    (um_b2 (f_X5_swap (20 * 1 + 10) a1 ((a2 * (2 : Int32)) + a3) a4 σ) fun x11 σ10 =>
    (some (x11, σ10))))))))))
set_option maxRecDepth 100000 in
set_option maxHeartbeats 4000000 in
theorem b_X8_way {H : Heap} {locs : List Loc} {ls : Array Slot} {σ : um_S} {σ' : um_S} {r : Int32} (a1 : Int32) (a2 : Int32) (a3 : Int32) (a4 : Int32) (hX : um_X sh) (hf : f_X8_way a1 a2 a3 a4 σ = some (r, σ')) (Cx : um_C p s m meth c args cX8_way 5 (some FieldType.int) RX8 Z) (hW : um_W Z sh α σ H) (hS : va_S (um_D sh α) s.heap H locs) (hl : lv_has ls 5 [(0, .ref (α 0)), (1, .int a1), (2, .int a2), (3, .int a3), (4, .int a4)]) : um_G p l e (2) (49) s m args below meth c Z sh α σ' (some (.int r)) H locs (F0 m 0 ls []) := by
  have hx := Cx.1
  have hb := Cx.2.1
  have hown := Cx.2.2.2.2.1
  have hts := Cx.2.2.2.2.2.1
  rw [f_X8_way] at hf
  refine lv_iload_n (pc := 0) hx hb dX8_way_0 rfl (lv_at hl 1 rfl) ?_
  refine lv_iconst (pc := 1) (v := (0 : Int32)) hx hb dX8_way_1 (by decide) ?_
  refine lv_iconst (pc := 2) (v := (5 : Int32)) hx hb dX8_way_2 (by decide) ?_
  obtain ⟨x2, hc1, hf⟩ := um_bi hf
  refine um_cSi (pc := 3) (As := [.int a1, .int (0 : Int32), .int (5 : Int32)]) (rest := []) Cx (c_X8_within a1 (0 : Int32) (5 : Int32) hX hc1) kS_X8_within (Or.inl qM_X8_55) hW hS rfl hl rfl (Nat.le_of_ble_eq_true rfl) (Nat.le_of_ble_eq_true rfl) (Nat.le_of_ble_eq_true rfl) dX8_way_3 (Nat.le_refl _) (Nat.le_refl _) ?_
  clear hW hS hc1
  intro H locs hW hS
  refine lv_if_eq (pc := 6) (tgt := 18) hx hb dX8_way_6 (by decide) (fun c1 => ?_) (fun c1 => ?_)
  · have hf := um_it c1 hf
    clear c1
    refine lv_ldc (pc := 18) hx hb hown (hts _ qC_X8_59) dX8_way_18 ?_
    exact um_iret (pc := 20) Cx hW hS hf dX8_way_20
  · have hf := um_ie c1 hf
    clear c1
    refine lv_iload_n (pc := 9) hx hb dX8_way_9 rfl (lv_at hl 2 rfl) ?_
    refine lv_iconst (pc := 10) (v := (0 : Int32)) hx hb dX8_way_10 (by decide) ?_
    refine lv_iconst (pc := 11) (v := (2 : Int32)) hx hb dX8_way_11 (by decide) ?_
    obtain ⟨x4, hc3, hf⟩ := um_bi hf
    refine um_cSi (pc := 12) (As := [.int a2, .int (0 : Int32), .int (2 : Int32)]) (rest := []) Cx (c_X8_within a2 (0 : Int32) (2 : Int32) hX hc3) kS_X8_within (Or.inl qM_X8_55) hW hS rfl hl rfl (Nat.le_of_ble_eq_true rfl) (Nat.le_of_ble_eq_true rfl) (Nat.le_of_ble_eq_true rfl) dX8_way_12 (Nat.le_refl _) (Nat.le_refl _) ?_
    clear hW hS hc3
    intro H locs hW hS
    refine lv_if_ne (pc := 15) (tgt := 21) hx hb dX8_way_15 (by decide) (fun c1 => ?_) (fun c1 => ?_)
    · have hf := um_ie c1 hf
      clear c1
      refine lv_iload_n (pc := 21) hx hb dX8_way_21 rfl (lv_at hl 3 rfl) ?_
      refine lv_iconst (pc := 22) (v := (0 : Int32)) hx hb dX8_way_22 (by decide) ?_
      refine lv_iconst (pc := 23) (v := (1 : Int32)) hx hb dX8_way_23 (by decide) ?_
      obtain ⟨x6, hc5, hf⟩ := um_bi hf
      refine um_cSi (pc := 24) (As := [.int a3, .int (0 : Int32), .int (1 : Int32)]) (rest := []) Cx (c_X8_within a3 (0 : Int32) (1 : Int32) hX hc5) kS_X8_within (Or.inl qM_X8_55) hW hS rfl hl rfl (Nat.le_of_ble_eq_true rfl) (Nat.le_of_ble_eq_true rfl) (Nat.le_of_ble_eq_true rfl) dX8_way_24 (Nat.le_refl _) (Nat.le_refl _) ?_
      clear hW hS hc5
      intro H locs hW hS
      refine lv_if_eq (pc := 27) (tgt := 41) hx hb dX8_way_27 (by decide) (fun c1 => ?_) (fun c1 => ?_)
      · have hf := um_it c1 hf
        clear c1
        refine lv_ldc (pc := 41) hx hb hown (hts _ qC_X8_59) dX8_way_41 ?_
        exact um_iret (pc := 43) Cx hW hS hf dX8_way_43
      · have hf := um_ie c1 hf
        clear c1
        refine lv_iload (pc := 30) hx hb dX8_way_30 (lv_at hl 4 rfl) ?_
        refine lv_iconst (pc := 32) (v := (0 : Int32)) hx hb dX8_way_32 (by decide) ?_
        refine lv_bipush (pc := 33) (v := (99 : Int32)) hx hb dX8_way_33 (by decide) ?_
        obtain ⟨x8, hc7, hf⟩ := um_bi hf
        refine um_cSi (pc := 35) (As := [.int a4, .int (0 : Int32), .int (99 : Int32)]) (rest := []) Cx (c_X8_within a4 (0 : Int32) (99 : Int32) hX hc7) kS_X8_within (Or.inl qM_X8_55) hW hS rfl hl rfl (Nat.le_of_ble_eq_true rfl) (Nat.le_of_ble_eq_true rfl) (Nat.le_of_ble_eq_true rfl) dX8_way_35 (Nat.le_refl _) (Nat.le_refl _) ?_
        clear hW hS hc7
        intro H locs hW hS
        refine lv_if_ne (pc := 38) (tgt := 44) hx hb dX8_way_38 (by decide) (fun c1 => ?_) (fun c1 => ?_)
        · have hf := um_ie c1 hf
          clear c1
          refine lv_aload_n (pc := 44) hx hb dX8_way_44 rfl (lv_at hl 0 rfl) ?_
          refine gF_X8_10 (pc := 45) Cx hW (hX 0 _ rfl) rfl dX8_way_45 ?_
          refine gF_X8_256 (pc := 48) Cx hW (xs_shore hX (Or.inl rfl)) rfl dX8_way_48 ?_
          refine lv_iload_n (pc := 51) hx hb dX8_way_51 rfl (lv_at hl 1 rfl) ?_
          refine lv_iload_n (pc := 52) hx hb dX8_way_52 rfl (lv_at hl 2 rfl) ?_
          refine lv_iconst (pc := 53) (v := (2 : Int32)) hx hb dX8_way_53 (by decide) ?_
          refine lv_imul (pc := 54) hx hb dX8_way_54 ?_
          refine lv_iload_n (pc := 55) hx hb dX8_way_55 rfl (lv_at hl 3 rfl) ?_
          refine lv_iadd (pc := 56) hx hb dX8_way_56 ?_
          refine lv_iload (pc := 57) hx hb dX8_way_57 (lv_at hl 4 rfl) ?_
          obtain ⟨x11, σ10, hc9, hf⟩ := um_bi2 hf
          refine um_cVi (pc := 59) (As := [.int a1, .int ((a2 * (2 : Int32)) + a3), .int a4]) (rest := []) Cx (c_X5_swap (20 * 1 + 10) a1 ((a2 * (2 : Int32)) + a3) a4 (xs_ht (Or.inl rfl) 10 rfl) hX hc9) kV_X5_swap (Or.inl qM_X8_89) hW hS (xs_tab hX (xs_ht (Or.inl rfl) 10 rfl)) rfl rfl hl rfl (Nat.le_of_ble_eq_true rfl) (Nat.le_of_ble_eq_true rfl) (Nat.le_of_ble_eq_true rfl) dX8_way_59 (Nat.le_refl _) (Nat.le_refl _) ?_
          clear hW hS hc9
          intro H locs hW hS
          exact um_iret (pc := 62) Cx hW hS hf dX8_way_62
        · have hf := um_it c1 hf
          clear c1
          refine lv_ldc (pc := 41) hx hb hown (hts _ qC_X8_59) dX8_way_41 ?_
          exact um_iret (pc := 43) Cx hW hS hf dX8_way_43
    · have hf := um_it c1 hf
      clear c1
      refine lv_ldc (pc := 18) hx hb hown (hts _ qC_X8_59) dX8_way_18 ?_
      exact um_iret (pc := 20) Cx hW hS hf dX8_way_20
theorem c_X8_way {σ : um_S} {σ' : um_S} {r : Int32} (a1 : Int32) (a2 : Int32) (a3 : Int32) (a4 : Int32) (hX : um_X sh) (hf : f_X8_way a1 a2 a3 a4 σ = some (r, σ')) : um_M l yX8_way cX8_way 5 (some FieldType.int) (2) (49) Z sh α σ [.ref (α 0), .int a1, .int a2, .int a3, .int a4] (some (.int r)) σ' :=
  um_start (by decide) (Nat.le_of_ble_eq_true rfl) (fun p e s m below meth c ls Cx hW hS hl => b_X8_way a1 a2 a3 a4 hX hf Cx hW hS hl)
noncomputable def f_X8_why (a1 : Int32) (σ : um_S) : Option (Int32) :=
    (f_X8_within a1 (0 : Int32) (4 : Int32) σ).bind fun x2 =>
    (if (um_b x2) = 0 then
    (some (-1000000001 : Int32))
    else
    ((f_X1_counting 1 a1 (σ.1 1 12) σ).bind fun x4 =>
    (if 0 ≤ x4 then
    (some x4)
    else
    (some (-1000000005 : Int32)))))
set_option maxRecDepth 100000 in
set_option maxHeartbeats 4000000 in
theorem b_X8_why {H : Heap} {locs : List Loc} {ls : Array Slot} {σ : um_S} {r : Int32} (a1 : Int32) (hX : um_X sh) (hf : f_X8_why a1 σ = some r) (Cx : um_C p s m meth c args cX8_why 3 (some FieldType.int) RX8 Z) (hW : um_W Z sh α σ H) (hS : va_S (um_D sh α) s.heap H locs) (hl : lv_has ls 3 [(0, .ref (α 0)), (1, .int a1)]) : um_G p l e (2) (47) s m args below meth c Z sh α σ (some (.int r)) H locs (F0 m 0 ls []) := by
  have hx := Cx.1
  have hb := Cx.2.1
  have hown := Cx.2.2.2.2.1
  have hts := Cx.2.2.2.2.2.1
  rw [f_X8_why] at hf
  refine lv_iload_n (pc := 0) hx hb dX8_why_0 rfl (lv_at hl 1 rfl) ?_
  refine lv_iconst (pc := 1) (v := (0 : Int32)) hx hb dX8_why_1 (by decide) ?_
  refine lv_iconst (pc := 2) (v := (4 : Int32)) hx hb dX8_why_2 (by decide) ?_
  obtain ⟨x2, hc1, hf⟩ := um_bi hf
  refine um_cSi (pc := 3) (As := [.int a1, .int (0 : Int32), .int (4 : Int32)]) (rest := []) Cx (c_X8_within a1 (0 : Int32) (4 : Int32) hX hc1) kS_X8_within (Or.inl qM_X8_55) hW hS rfl hl rfl (Nat.le_of_ble_eq_true rfl) (Nat.le_of_ble_eq_true rfl) (Nat.le_of_ble_eq_true rfl) dX8_why_3 (Nat.le_refl _) (Nat.le_refl _) ?_
  clear hW hS hc1
  intro H locs hW hS
  refine lv_if_ne (pc := 6) (tgt := 12) hx hb dX8_why_6 (by decide) (fun c1 => ?_) (fun c1 => ?_)
  · have hf := um_ie c1 hf
    clear c1
    refine lv_aload_n (pc := 12) hx hb dX8_why_12 rfl (lv_at hl 0 rfl) ?_
    refine gF_X8_10 (pc := 13) Cx hW (hX 0 _ rfl) rfl dX8_why_13 ?_
    refine gF_X8_129 (pc := 16) Cx hW (xs_shore hX (Or.inl rfl)) rfl dX8_why_16 ?_
    refine lv_iload_n (pc := 19) hx hb dX8_why_19 rfl (lv_at hl 1 rfl) ?_
    refine lv_aload_n (pc := 20) hx hb dX8_why_20 rfl (lv_at hl 0 rfl) ?_
    refine gF_X8_10 (pc := 21) Cx hW (hX 0 _ rfl) rfl dX8_why_21 ?_
    refine gF_X8_51 (pc := 24) Cx hW (xs_shore hX (Or.inl rfl)) rfl dX8_why_24 ?_
    obtain ⟨x4, hc3, hf⟩ := um_bi hf
    refine um_cVi (pc := 27) (As := [.int a1, .int (σ.1 1 12)]) (rest := []) Cx (c_X1_counting 1 a1 (σ.1 1 12) (Or.inl rfl) hX hc3) kV_X1_counting (Or.inl qM_X8_154) hW hS (xs_law hX (Or.inl rfl)) rfl rfl hl rfl (Nat.le_of_ble_eq_true rfl) (Nat.le_of_ble_eq_true rfl) (Nat.le_of_ble_eq_true rfl) dX8_why_27 (Nat.le_refl _) (Nat.le_refl _) ?_
    clear hW hS hc3
    intro H locs hW hS
    refine lv_istore_n (pc := 30) (lv' := [(2, .int x4), (0, .ref (α 0)), (1, .int a1)]) hx hb dX8_why_30 rfl hl (by decide) rfl ?_
    clear hl
    intro ls hl
    refine lv_iload_n (pc := 31) hx hb dX8_why_31 rfl (lv_at hl 0 rfl) ?_
    refine lv_if_ge (pc := 32) (tgt := 40) hx hb dX8_why_32 (by decide) (fun c1 => ?_) (fun c1 => ?_)
    · have hf := um_it c1 hf
      clear c1
      refine lv_iload_n (pc := 40) hx hb dX8_why_40 rfl (lv_at hl 0 rfl) ?_
      exact um_iretR (pc := 41) Cx hW hS hf dX8_why_41
    · have hf := um_ie c1 hf
      clear c1
      refine lv_ldc (pc := 35) hx hb hown (hts _ qC_X8_109) dX8_why_35 ?_
      refine lv_goto (pc := 37) (tgt := 41) hx hb dX8_why_37 (by decide) ?_
      exact um_iretR (pc := 41) Cx hW hS hf dX8_why_41
  · have hf := um_it c1 hf
    clear c1
    refine lv_ldc (pc := 9) hx hb hown (hts _ qC_X8_59) dX8_why_9 ?_
    exact um_iretR (pc := 11) Cx hW hS hf dX8_why_11
theorem c_X8_why {σ : um_S} {r : Int32} (a1 : Int32) (hX : um_X sh) (hf : f_X8_why a1 σ = some r) : um_M l yX8_why cX8_why 3 (some FieldType.int) (2) (47) Z sh α σ [.ref (α 0), .int a1] (some (.int r)) σ :=
  um_start (by decide) (Nat.le_of_ble_eq_true rfl) (fun p e s m below meth c ls Cx hW hS hl => b_X8_why a1 hX hf Cx hW hS hl)
