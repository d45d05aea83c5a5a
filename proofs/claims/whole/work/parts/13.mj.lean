variable {p : Program} {l : Launch} {e : Env} {s : State} {m : MethodId} {args : Array Value} {below : List Frame} {meth : Method} {c : Code} {Z : um_Z} {α : Nat → Nat} {sh : Nat → Option um_Sh}
noncomputable def f_X9_same (a1 : Int32) (a2 : Int32) (σ : um_S) : Option (Int32) :=
    (f_X9_isLook a1 σ).bind fun x2 =>
    (if (um_b x2) = 0 then
    (some (-1000000001 : Int32))
    else
    ((f_X9_isLook a2 σ).bind fun x4 =>
    (if (um_b x4) = 0 then
    (some (-1000000001 : Int32))
    else
    (if a1 = a2 then
    (some (-1000000001 : Int32))
    else
    ((f_X9_whoMay a1 σ).bind fun x6 =>
    ((f_X9_whoMay a2 σ).bind fun x8 =>
    ((f_X9_sure x6 σ).bind fun x10 =>
    (um_let (fun (_u : Unit) =>
    (if (x6 &&& x8) = 0 then
    (some (0 : Int32))
    else
    (some (1 : Int32)))) fun k11 =>
    (if x10 < 0 then
    (k11 ())
    else
    (if x6 = x8 then
    (some (2 : Int32))
    else
    (k11 ())))))))))))
set_option maxRecDepth 100000 in
set_option maxHeartbeats 4000000 in
theorem b_X9_same {H : Heap} {locs : List Loc} {ls : Array Slot} {σ : um_S} {r : Int32} (a1 : Int32) (a2 : Int32)  (hf : f_X9_same a1 a2 σ = some r) (Cx : um_C p s m meth c args cX9_same 5 (some FieldType.int) RX9 Z) (hW : um_W Z msh α σ H) (hS : va_S (um_D msh α) s.heap H locs) (hl : lv_has ls 5 [(0, .ref (α 0)), (1, .int a1), (2, .int a2)]) : um_G p l e (3) (75) s m args below meth c Z msh α σ (some (.int r)) H locs (F0 m 0 ls []) := by
  have hx := Cx.1
  have hb := Cx.2.1
  have hown := Cx.2.2.2.2.1
  have hts := Cx.2.2.2.2.2.1
  rw [f_X9_same] at hf
  refine lv_aload_n (pc := 0) hx hb dX9_same_0 rfl (lv_at hl 0 rfl) ?_
  refine lv_iload_n (pc := 1) hx hb dX9_same_1 rfl (lv_at hl 1 rfl) ?_
  obtain ⟨x2, hc1, hf⟩ := um_bi hf
  refine um_cVi (pc := 2) (As := [.int a1]) (rest := []) Cx (c_X9_isLook a1 hc1) kV_X9_isLook (Or.inl qM_X9_326) hW hS ms_0 rfl rfl hl rfl (Nat.le_of_ble_eq_true rfl) (Nat.le_of_ble_eq_true rfl) (Nat.le_of_ble_eq_true rfl) dX9_same_2 (Nat.le_refl _) (Nat.le_refl _) ?_
  clear hW hS hc1
  intro H locs hW hS
  refine lv_if_eq (pc := 5) (tgt := 21) hx hb dX9_same_5 (by decide) (fun c1 => ?_) (fun c1 => ?_)
  · have hf := um_it c1 hf
    clear c1
    refine lv_ldc (pc := 21) hx hb hown (hts _ qC_X9_87) dX9_same_21 ?_
    exact um_iretR (pc := 23) Cx hW hS hf dX9_same_23
  · have hf := um_ie c1 hf
    clear c1
    refine lv_aload_n (pc := 8) hx hb dX9_same_8 rfl (lv_at hl 0 rfl) ?_
    refine lv_iload_n (pc := 9) hx hb dX9_same_9 rfl (lv_at hl 2 rfl) ?_
    obtain ⟨x4, hc3, hf⟩ := um_bi hf
    refine um_cVi (pc := 10) (As := [.int a2]) (rest := []) Cx (c_X9_isLook a2 hc3) kV_X9_isLook (Or.inl qM_X9_326) hW hS ms_0 rfl rfl hl rfl (Nat.le_of_ble_eq_true rfl) (Nat.le_of_ble_eq_true rfl) (Nat.le_of_ble_eq_true rfl) dX9_same_10 (Nat.le_refl _) (Nat.le_refl _) ?_
    clear hW hS hc3
    intro H locs hW hS
    refine lv_if_eq (pc := 13) (tgt := 21) hx hb dX9_same_13 (by decide) (fun c1 => ?_) (fun c1 => ?_)
    · have hf := um_it c1 hf
      clear c1
      refine lv_ldc (pc := 21) hx hb hown (hts _ qC_X9_87) dX9_same_21 ?_
      exact um_iretR (pc := 23) Cx hW hS hf dX9_same_23
    · have hf := um_ie c1 hf
      clear c1
      refine lv_iload_n (pc := 16) hx hb dX9_same_16 rfl (lv_at hl 1 rfl) ?_
      refine lv_iload_n (pc := 17) hx hb dX9_same_17 rfl (lv_at hl 2 rfl) ?_
      refine lv_icmp_ne (pc := 18) (tgt := 24) hx hb dX9_same_18 (by decide) (fun c1 => ?_) (fun c1 => ?_)
      · have hf := um_ie c1 hf
        clear c1
        refine lv_aload_n (pc := 24) hx hb dX9_same_24 rfl (lv_at hl 0 rfl) ?_
        refine lv_iload_n (pc := 25) hx hb dX9_same_25 rfl (lv_at hl 1 rfl) ?_
        obtain ⟨x6, hc5, hf⟩ := um_bi hf
        refine um_cVi (pc := 26) (As := [.int a1]) (rest := []) Cx (c_X9_whoMay a1 hc5) kV_X9_whoMay (Or.inl qM_X9_329) hW hS ms_0 rfl rfl hl rfl (Nat.le_of_ble_eq_true rfl) (Nat.le_of_ble_eq_true rfl) (Nat.le_of_ble_eq_true rfl) dX9_same_26 (Nat.le_refl _) (Nat.le_refl _) ?_
        clear hW hS hc5
        intro H locs hW hS
        refine lv_istore_n (pc := 29) (lv' := [(3, .int x6), (0, .ref (α 0)), (1, .int a1), (2, .int a2)]) hx hb dX9_same_29 rfl hl (by decide) rfl ?_
        clear hl
        intro ls hl
        refine lv_aload_n (pc := 30) hx hb dX9_same_30 rfl (lv_at hl 1 rfl) ?_
        refine lv_iload_n (pc := 31) hx hb dX9_same_31 rfl (lv_at hl 3 rfl) ?_
        obtain ⟨x8, hc7, hf⟩ := um_bi hf
        refine um_cVi (pc := 32) (As := [.int a2]) (rest := []) Cx (c_X9_whoMay a2 hc7) kV_X9_whoMay (Or.inl qM_X9_329) hW hS ms_0 rfl rfl hl rfl (Nat.le_of_ble_eq_true rfl) (Nat.le_of_ble_eq_true rfl) (Nat.le_of_ble_eq_true rfl) dX9_same_32 (Nat.le_refl _) (Nat.le_refl _) ?_
        clear hW hS hc7
        intro H locs hW hS
        refine lv_istore (pc := 35) (lv' := [(4, .int x8), (3, .int x6), (0, .ref (α 0)), (1, .int a1), (2, .int a2)]) hx hb dX9_same_35 hl (by decide) rfl ?_
        clear hl
        intro ls hl
        refine lv_aload_n (pc := 37) hx hb dX9_same_37 rfl (lv_at hl 2 rfl) ?_
        refine lv_iload_n (pc := 38) hx hb dX9_same_38 rfl (lv_at hl 1 rfl) ?_
        obtain ⟨x10, hc9, hf⟩ := um_bi hf
        refine um_cVi (pc := 39) (As := [.int x6]) (rest := []) Cx (c_X9_sure x6 hc9) kV_X9_sure (Or.inl qM_X9_332) hW hS ms_0 rfl rfl hl rfl (Nat.le_of_ble_eq_true rfl) (Nat.le_of_ble_eq_true rfl) (Nat.le_of_ble_eq_true rfl) dX9_same_39 (Nat.le_refl _) (Nat.le_refl _) ?_
        clear hW hS hc9
        intro H locs hW hS
        obtain ⟨k11, hk11, hf⟩ := um_j1 hf
        have J11 : ∀ (_u : Unit), k11 _u = some r → ∀ (H : Heap) (locs : List Loc) (ls : Array Slot), um_W Z msh α σ H → va_S (um_D msh α) s.heap H locs → lv_has ls 5 [(3, .int x6), (4, .int x8)] → um_G p l e (3) (75) s m args below meth c Z msh α σ (some (.int r)) H locs (F0 m 55 ls []) := by
          intro _u hf H locs ls hW hS hl
          rw [hk11] at hf
          refine lv_iload_n (pc := 55) hx hb dX9_same_55 rfl (lv_at hl 0 rfl) ?_
          refine lv_iload (pc := 56) hx hb dX9_same_56 (lv_at hl 1 rfl) ?_
          refine lv_iand (pc := 58) hx hb dX9_same_58 ?_
          refine lv_if_eq (pc := 59) (tgt := 66) hx hb dX9_same_59 (by decide) (fun c1 => ?_) (fun c1 => ?_)
          · have hf := um_it c1 hf
            clear c1
            refine lv_iconst (pc := 66) (v := (0 : Int32)) hx hb dX9_same_66 (by decide) ?_
            exact um_iretR (pc := 67) Cx hW hS hf dX9_same_67
          · have hf := um_ie c1 hf
            clear c1
            refine lv_iconst (pc := 62) (v := (1 : Int32)) hx hb dX9_same_62 (by decide) ?_
            refine lv_goto (pc := 63) (tgt := 67) hx hb dX9_same_63 (by decide) ?_
            exact um_iretR (pc := 67) Cx hW hS hf dX9_same_67
        refine lv_if_lt (pc := 42) (tgt := 55) hx hb dX9_same_42 (by decide) (fun c1 => ?_) (fun c1 => ?_)
        · have hf := um_it c1 hf
          clear c1
          exact J11 () hf _ _ _ hW hS (lv_sub hl [1, 0] rfl)
        · have hf := um_ie c1 hf
          clear c1
          refine lv_iload_n (pc := 45) hx hb dX9_same_45 rfl (lv_at hl 1 rfl) ?_
          refine lv_iload (pc := 46) hx hb dX9_same_46 (lv_at hl 0 rfl) ?_
          refine lv_icmp_ne (pc := 48) (tgt := 55) hx hb dX9_same_48 (by decide) (fun c1 => ?_) (fun c1 => ?_)
          · have hf := um_ie c1 hf
            clear c1
            exact J11 () hf _ _ _ hW hS (lv_sub hl [1, 0] rfl)
          · have hf := um_it c1 hf
            clear c1
            refine lv_iconst (pc := 51) (v := (2 : Int32)) hx hb dX9_same_51 (by decide) ?_
            refine lv_goto (pc := 52) (tgt := 67) hx hb dX9_same_52 (by decide) ?_
            exact um_iretR (pc := 67) Cx hW hS hf dX9_same_67
      · have hf := um_it c1 hf
        clear c1
        refine lv_ldc (pc := 21) hx hb hown (hts _ qC_X9_87) dX9_same_21 ?_
        exact um_iretR (pc := 23) Cx hW hS hf dX9_same_23
theorem c_X9_same {σ : um_S} {r : Int32} (a1 : Int32) (a2 : Int32)  (hf : f_X9_same a1 a2 σ = some r) : um_M l yX9_same cX9_same 5 (some FieldType.int) (3) (75) Z msh α σ [.ref (α 0), .int a1, .int a2] (some (.int r)) σ :=
  um_start (by decide) (Nat.le_of_ble_eq_true rfl) (fun p e s m below meth c ls Cx hW hS hl => b_X9_same a1 a2 hf Cx hW hS hl)
noncomputable def f_X9_seed (a1 : Int32) (σ : um_S) : Option (Int32 × um_S) :=
    (f_X9_isIn (a1.toInt64) (0 : Int64) (65535 : Int64) σ).bind fun x2 =>
    (if (um_b x2) = 0 then
    (some ((-1000000001 : Int32), σ))
    else
    (um_b2 (f_X9_becomes (9 : Int32) a1 σ) fun x5 σ4 =>
    (some (x5, σ4))))
set_option maxRecDepth 100000 in
set_option maxHeartbeats 4000000 in
theorem b_X9_seed {H : Heap} {locs : List Loc} {ls : Array Slot} {σ : um_S} {σ' : um_S} {r : Int32} (a1 : Int32)  (hf : f_X9_seed a1 σ = some (r, σ')) (Cx : um_C p s m meth c args cX9_seed 2 (some FieldType.int) RX9 Z) (hW : um_W Z msh α σ H) (hS : va_S (um_D msh α) s.heap H locs) (hl : lv_has ls 2 [(0, .ref (α 0)), (1, .int a1)]) : um_G p l e (1) (25) s m args below meth c Z msh α σ' (some (.int r)) H locs (F0 m 0 ls []) := by
  have hx := Cx.1
  have hb := Cx.2.1
  have hown := Cx.2.2.2.2.1
  have hts := Cx.2.2.2.2.2.1
  rw [f_X9_seed] at hf
  refine lv_iload_n (pc := 0) hx hb dX9_seed_0 rfl (lv_at hl 1 rfl) ?_
  refine lv_i2l (pc := 1) hx hb dX9_seed_1 rfl ?_
  refine lv_lconst (pc := 2) (v := (0 : Int64)) hx hb dX9_seed_2 (by decide) ?_
  refine lv_ldc2 (pc := 3) hx hb hown (hts _ qL_X9_283) dX9_seed_3 ?_
  obtain ⟨x2, hc1, hf⟩ := um_bi hf
  refine um_cSi (pc := 6) (As := [.long (a1.toInt64), .long (0 : Int64), .long (65535 : Int64)]) (rest := []) Cx (c_X9_isIn (a1.toInt64) (0 : Int64) (65535 : Int64) hc1) kS_X9_isIn (Or.inl qM_X9_60) hW hS rfl hl rfl (Nat.le_of_ble_eq_true rfl) (Nat.le_of_ble_eq_true rfl) (Nat.le_of_ble_eq_true rfl) dX9_seed_6 (Nat.le_refl _) (Nat.le_refl _) ?_
  clear hW hS hc1
  intro H locs hW hS
  refine lv_if_eq (pc := 9) (tgt := 22) hx hb dX9_seed_9 (by decide) (fun c1 => ?_) (fun c1 => ?_)
  · have hf := um_it c1 hf
    clear c1
    refine lv_ldc (pc := 22) hx hb hown (hts _ qC_X9_87) dX9_seed_22 ?_
    exact um_iret (pc := 24) Cx hW hS hf dX9_seed_24
  · have hf := um_ie c1 hf
    clear c1
    refine lv_aload_n (pc := 12) hx hb dX9_seed_12 rfl (lv_at hl 0 rfl) ?_
    refine lv_bipush (pc := 13) (v := (9 : Int32)) hx hb dX9_seed_13 (by decide) ?_
    refine lv_iload_n (pc := 15) hx hb dX9_seed_15 rfl (lv_at hl 1 rfl) ?_
    obtain ⟨x5, σ4, hc3, hf⟩ := um_bi2 hf
    refine um_cVi (pc := 16) (As := [.int (9 : Int32), .int a1]) (rest := []) Cx (c_X9_becomes (9 : Int32) a1 hc3) kV_X9_becomes (Or.inl qM_X9_107) hW hS ms_0 rfl rfl hl rfl (Nat.le_of_ble_eq_true rfl) (Nat.le_of_ble_eq_true rfl) (Nat.le_of_ble_eq_true rfl) dX9_seed_16 (Nat.le_refl _) (Nat.le_refl _) ?_
    clear hW hS hc3
    intro H locs hW hS
    refine lv_goto (pc := 19) (tgt := 24) hx hb dX9_seed_19 (by decide) ?_
    exact um_iret (pc := 24) Cx hW hS hf dX9_seed_24
theorem c_X9_seed {σ : um_S} {σ' : um_S} {r : Int32} (a1 : Int32)  (hf : f_X9_seed a1 σ = some (r, σ')) : um_M l yX9_seed cX9_seed 2 (some FieldType.int) (1) (25) Z msh α σ [.ref (α 0), .int a1] (some (.int r)) σ' :=
  um_start (by decide) (Nat.le_of_ble_eq_true rfl) (fun p e s m below meth c ls Cx hW hS hl => b_X9_seed a1 hf Cx hW hS hl)
noncomputable def f_X9_sentence (a1 : Int32) (a2 : Int32) (a3 : Int32) (σ : um_S) : Option (Int32 × um_S) :=
    (f_X9_isIn (a1.toInt64) (0 : Int64) (3 : Int64) σ).bind fun x2 =>
    (if (um_b x2) = 0 then
    (some ((-1000000001 : Int32), σ))
    else
    ((f_X9_isIn (a2.toInt64) (0 : Int64) (7 : Int64) σ).bind fun x4 =>
    (if (um_b x4) = 0 then
    (some ((-1000000001 : Int32), σ))
    else
    ((f_X9_isIn (a3.toInt64) (0 : Int64) (300 : Int64) σ).bind fun x6 =>
    (if (um_b x6) = 0 then
    (some ((-1000000001 : Int32), σ))
    else
    (if (σ.1 1 7) = (30 : Int32) then
    (some ((-1000000003 : Int32), σ))
    else
    (um_let ((480 : Int32) + ((3 : Int32) * (σ.1 1 7))) fun x7 =>
    (if um_ix x7 3790 then
    (um_let (um_wr σ 1 x7.toNatClampNeg a1) fun σ10 =>
    (if um_ix (x7 + (1 : Int32)) 3790 then
    (um_let (um_wr σ10 1 (x7 + (1 : Int32)).toNatClampNeg a2) fun σ13 =>
    (if um_ix (x7 + (2 : Int32)) 3790 then
    (um_let (um_wr σ13 1 (x7 + (2 : Int32)).toNatClampNeg a3) fun σ16 =>
    (um_let (um_wr σ16 1 7 ((σ16.1 1 7) + (1 : Int32))) fun σ18 =>
    (some ((σ18.1 1 7) - (1 : Int32), σ18)))) else none)) else none)) else none))))))))
set_option maxRecDepth 100000 in
set_option maxHeartbeats 4000000 in
theorem b_X9_sentence {H : Heap} {locs : List Loc} {ls : Array Slot} {σ : um_S} {σ' : um_S} {r : Int32} (a1 : Int32) (a2 : Int32) (a3 : Int32)  (hf : f_X9_sentence a1 a2 a3 σ = some (r, σ')) (Cx : um_C p s m meth c args cX9_sentence 5 (some FieldType.int) RX9 Z) (hW : um_W Z msh α σ H) (hS : va_S (um_D msh α) s.heap H locs) (hl : lv_has ls 5 [(0, .ref (α 0)), (1, .int a1), (2, .int a2), (3, .int a3)]) : um_G p l e (1) (25) s m args below meth c Z msh α σ' (some (.int r)) H locs (F0 m 0 ls []) := by
  have hx := Cx.1
  have hb := Cx.2.1
  have hown := Cx.2.2.2.2.1
  have hts := Cx.2.2.2.2.2.1
  rw [f_X9_sentence] at hf
  refine lv_iload_n (pc := 0) hx hb dX9_sentence_0 rfl (lv_at hl 1 rfl) ?_
  refine lv_i2l (pc := 1) hx hb dX9_sentence_1 rfl ?_
  refine lv_lconst (pc := 2) (v := (0 : Int64)) hx hb dX9_sentence_2 (by decide) ?_
  refine lv_ldc2 (pc := 3) hx hb hown (hts _ qL_X9_260) dX9_sentence_3 ?_
  obtain ⟨x2, hc1, hf⟩ := um_bi hf
  refine um_cSi (pc := 6) (As := [.long (a1.toInt64), .long (0 : Int64), .long (3 : Int64)]) (rest := []) Cx (c_X9_isIn (a1.toInt64) (0 : Int64) (3 : Int64) hc1) kS_X9_isIn (Or.inl qM_X9_60) hW hS rfl hl rfl (Nat.le_of_ble_eq_true rfl) (Nat.le_of_ble_eq_true rfl) (Nat.le_of_ble_eq_true rfl) dX9_sentence_6 (Nat.le_refl _) (Nat.le_refl _) ?_
  clear hW hS hc1
  intro H locs hW hS
  refine lv_if_eq (pc := 9) (tgt := 36) hx hb dX9_sentence_9 (by decide) (fun c1 => ?_) (fun c1 => ?_)
  · have hf := um_it c1 hf
    clear c1
    refine lv_ldc (pc := 36) hx hb hown (hts _ qC_X9_87) dX9_sentence_36 ?_
    exact um_iret (pc := 38) Cx hW hS hf dX9_sentence_38
  · have hf := um_ie c1 hf
    clear c1
    refine lv_iload_n (pc := 12) hx hb dX9_sentence_12 rfl (lv_at hl 2 rfl) ?_
    refine lv_i2l (pc := 13) hx hb dX9_sentence_13 rfl ?_
    refine lv_lconst (pc := 14) (v := (0 : Int64)) hx hb dX9_sentence_14 (by decide) ?_
    refine lv_ldc2 (pc := 15) hx hb hown (hts _ qL_X9_89) dX9_sentence_15 ?_
    obtain ⟨x4, hc3, hf⟩ := um_bi hf
    refine um_cSi (pc := 18) (As := [.long (a2.toInt64), .long (0 : Int64), .long (7 : Int64)]) (rest := []) Cx (c_X9_isIn (a2.toInt64) (0 : Int64) (7 : Int64) hc3) kS_X9_isIn (Or.inl qM_X9_60) hW hS rfl hl rfl (Nat.le_of_ble_eq_true rfl) (Nat.le_of_ble_eq_true rfl) (Nat.le_of_ble_eq_true rfl) dX9_sentence_18 (Nat.le_refl _) (Nat.le_refl _) ?_
    clear hW hS hc3
    intro H locs hW hS
    refine lv_if_eq (pc := 21) (tgt := 36) hx hb dX9_sentence_21 (by decide) (fun c1 => ?_) (fun c1 => ?_)
    · have hf := um_it c1 hf
      clear c1
      refine lv_ldc (pc := 36) hx hb hown (hts _ qC_X9_87) dX9_sentence_36 ?_
      exact um_iret (pc := 38) Cx hW hS hf dX9_sentence_38
    · have hf := um_ie c1 hf
      clear c1
      refine lv_iload_n (pc := 24) hx hb dX9_sentence_24 rfl (lv_at hl 3 rfl) ?_
      refine lv_i2l (pc := 25) hx hb dX9_sentence_25 rfl ?_
      refine lv_lconst (pc := 26) (v := (0 : Int64)) hx hb dX9_sentence_26 (by decide) ?_
      refine lv_ldc2 (pc := 27) hx hb hown (hts _ qL_X9_359) dX9_sentence_27 ?_
      obtain ⟨x6, hc5, hf⟩ := um_bi hf
      refine um_cSi (pc := 30) (As := [.long (a3.toInt64), .long (0 : Int64), .long (300 : Int64)]) (rest := []) Cx (c_X9_isIn (a3.toInt64) (0 : Int64) (300 : Int64) hc5) kS_X9_isIn (Or.inl qM_X9_60) hW hS rfl hl rfl (Nat.le_of_ble_eq_true rfl) (Nat.le_of_ble_eq_true rfl) (Nat.le_of_ble_eq_true rfl) dX9_sentence_30 (Nat.le_refl _) (Nat.le_refl _) ?_
      clear hW hS hc5
      intro H locs hW hS
      refine lv_if_ne (pc := 33) (tgt := 39) hx hb dX9_sentence_33 (by decide) (fun c1 => ?_) (fun c1 => ?_)
      · have hf := um_ie c1 hf
        clear c1
        refine lv_aload_n (pc := 39) hx hb dX9_sentence_39 rfl (lv_at hl 0 rfl) ?_
        refine gF_X9_7 (pc := 40) Cx hW ms_0 rfl dX9_sentence_40 ?_
        refine lv_bipush (pc := 43) (v := (7 : Int32)) hx hb dX9_sentence_43 (by decide) ?_
        refine um_iaj (pc := 45) (n := 3790) 7 rfl Cx hW ms_1 rfl (um_ix_in (by decide)) dX9_sentence_45 ?_
        refine lv_bipush (pc := 46) (v := (30 : Int32)) hx hb dX9_sentence_46 (by decide) ?_
        refine lv_icmp_ne (pc := 48) (tgt := 54) hx hb dX9_sentence_48 (by decide) (fun c1 => ?_) (fun c1 => ?_)
        · have hf := um_ie c1 hf
          clear c1
          refine lv_sipush (pc := 54) (v := (480 : Int32)) hx hb dX9_sentence_54 (by decide) ?_
          refine lv_iconst (pc := 57) (v := (3 : Int32)) hx hb dX9_sentence_57 (by decide) ?_
          refine lv_aload_n (pc := 58) hx hb dX9_sentence_58 rfl (lv_at hl 0 rfl) ?_
          refine gF_X9_7 (pc := 59) Cx hW ms_0 rfl dX9_sentence_59 ?_
          refine lv_bipush (pc := 62) (v := (7 : Int32)) hx hb dX9_sentence_62 (by decide) ?_
          refine um_iaj (pc := 64) (n := 3790) 7 rfl Cx hW ms_1 rfl (um_ix_in (by decide)) dX9_sentence_64 ?_
          refine lv_imul (pc := 65) hx hb dX9_sentence_65 ?_
          refine lv_iadd (pc := 66) hx hb dX9_sentence_66 ?_
          obtain ⟨x7, e8, hf⟩ := um_le hf
          refine um_top e8 ?_
          clear e8
          refine lv_istore (pc := 67) (lv' := [(4, .int x7), (0, .ref (α 0)), (1, .int a1), (2, .int a2), (3, .int a3)]) hx hb dX9_sentence_67 hl (by decide) rfl ?_
          clear hl
          intro ls hl
          refine lv_aload_n (pc := 69) hx hb dX9_sentence_69 rfl (lv_at hl 1 rfl) ?_
          refine gF_X9_7 (pc := 70) Cx hW ms_0 rfl dX9_sentence_70 ?_
          refine lv_iload (pc := 73) hx hb dX9_sentence_73 (lv_at hl 0 rfl) ?_
          refine lv_iload_n (pc := 75) hx hb dX9_sentence_75 rfl (lv_at hl 2 rfl) ?_
          obtain ⟨g9, hf⟩ := um_gu hf
          refine um_iast (pc := 76) Cx hW hS ms_1 rfl (um_ix_in g9) dX9_sentence_76 ?_
          clear hW hS
          intro H locs hW hS
          obtain ⟨σ10, e11, hf⟩ := um_le hf
          rw [← e11] at hW
          clear e11
          refine lv_aload_n (pc := 77) hx hb dX9_sentence_77 rfl (lv_at hl 1 rfl) ?_
          refine gF_X9_7 (pc := 78) Cx hW ms_0 rfl dX9_sentence_78 ?_
          refine lv_iload (pc := 81) hx hb dX9_sentence_81 (lv_at hl 0 rfl) ?_
          refine lv_iconst (pc := 83) (v := (1 : Int32)) hx hb dX9_sentence_83 (by decide) ?_
          refine lv_iadd (pc := 84) hx hb dX9_sentence_84 ?_
          refine lv_iload_n (pc := 85) hx hb dX9_sentence_85 rfl (lv_at hl 3 rfl) ?_
          obtain ⟨g12, hf⟩ := um_gu hf
          refine um_iast (pc := 86) Cx hW hS ms_1 rfl (um_ix_in g12) dX9_sentence_86 ?_
          clear hW hS
          intro H locs hW hS
          obtain ⟨σ13, e14, hf⟩ := um_le hf
          rw [← e14] at hW
          clear e14
          refine lv_aload_n (pc := 87) hx hb dX9_sentence_87 rfl (lv_at hl 1 rfl) ?_
          refine gF_X9_7 (pc := 88) Cx hW ms_0 rfl dX9_sentence_88 ?_
          refine lv_iload (pc := 91) hx hb dX9_sentence_91 (lv_at hl 0 rfl) ?_
          refine lv_iconst (pc := 93) (v := (2 : Int32)) hx hb dX9_sentence_93 (by decide) ?_
          refine lv_iadd (pc := 94) hx hb dX9_sentence_94 ?_
          refine lv_iload_n (pc := 95) hx hb dX9_sentence_95 rfl (lv_at hl 4 rfl) ?_
          obtain ⟨g15, hf⟩ := um_gu hf
          refine um_iast (pc := 96) Cx hW hS ms_1 rfl (um_ix_in g15) dX9_sentence_96 ?_
          clear hW hS
          intro H locs hW hS
          obtain ⟨σ16, e17, hf⟩ := um_le hf
          rw [← e17] at hW
          clear e17
          refine lv_aload_n (pc := 97) hx hb dX9_sentence_97 rfl (lv_at hl 1 rfl) ?_
          refine gF_X9_7 (pc := 98) Cx hW ms_0 rfl dX9_sentence_98 ?_
          refine lv_bipush (pc := 101) (v := (7 : Int32)) hx hb dX9_sentence_101 (by decide) ?_
          refine lv_dup2_11 (pc := 103) hx hb dX9_sentence_103 rfl rfl ?_
          refine um_iaj (pc := 104) (n := 3790) 7 rfl Cx hW ms_1 rfl (um_ix_in (by decide)) dX9_sentence_104 ?_
          refine lv_iconst (pc := 105) (v := (1 : Int32)) hx hb dX9_sentence_105 (by decide) ?_
          refine lv_iadd (pc := 106) hx hb dX9_sentence_106 ?_
          refine um_isj (pc := 107) (n := 3790) 7 rfl Cx hW hS ms_1 rfl (um_ix_in (by decide)) dX9_sentence_107 ?_
          clear hW hS
          intro H locs hW hS
          obtain ⟨σ18, e19, hf⟩ := um_le hf
          rw [← e19] at hW
          clear e19
          refine lv_aload_n (pc := 108) hx hb dX9_sentence_108 rfl (lv_at hl 1 rfl) ?_
          refine gF_X9_7 (pc := 109) Cx hW ms_0 rfl dX9_sentence_109 ?_
          refine lv_bipush (pc := 112) (v := (7 : Int32)) hx hb dX9_sentence_112 (by decide) ?_
          refine um_iaj (pc := 114) (n := 3790) 7 rfl Cx hW ms_1 rfl (um_ix_in (by decide)) dX9_sentence_114 ?_
          refine lv_iconst (pc := 115) (v := (1 : Int32)) hx hb dX9_sentence_115 (by decide) ?_
          refine lv_isub (pc := 116) hx hb dX9_sentence_116 ?_
          exact um_iret (pc := 117) Cx hW hS hf dX9_sentence_117
        · have hf := um_it c1 hf
          clear c1
          refine lv_ldc (pc := 51) hx hb hown (hts _ qC_X9_88) dX9_sentence_51 ?_
          exact um_iret (pc := 53) Cx hW hS hf dX9_sentence_53
      · have hf := um_it c1 hf
        clear c1
        refine lv_ldc (pc := 36) hx hb hown (hts _ qC_X9_87) dX9_sentence_36 ?_
        exact um_iret (pc := 38) Cx hW hS hf dX9_sentence_38
theorem c_X9_sentence {σ : um_S} {σ' : um_S} {r : Int32} (a1 : Int32) (a2 : Int32) (a3 : Int32)  (hf : f_X9_sentence a1 a2 a3 σ = some (r, σ')) : um_M l yX9_sentence cX9_sentence 5 (some FieldType.int) (1) (25) Z msh α σ [.ref (α 0), .int a1, .int a2, .int a3] (some (.int r)) σ' :=
  um_start (by decide) (Nat.le_of_ble_eq_true rfl) (fun p e s m below meth c ls Cx hW hS hl => b_X9_sentence a1 a2 a3 hf Cx hW hS hl)
noncomputable def f_X9_ship (a1 : Int32) (a2 : Int32) (σ : um_S) : Option (Int32 × um_S) :=
    (f_X9_isPlace a1 σ).bind fun x2 =>
    (if (um_b x2) = 0 then
    (some ((-1000000001 : Int32), σ))
    else
    ((f_X9_isIn (a2.toInt64) (((σ.1 1 0) + (1 : Int32)).toInt64) (1999 : Int64) σ).bind fun x4 =>
    (if (um_b x4) = 0 then
    (some ((-1000000001 : Int32), σ))
    else
    (if (σ.1 1 1) = (8 : Int32) then
    (some ((-1000000003 : Int32), σ))
    else
    (if um_ix ((30 : Int32) + ((2 : Int32) * (σ.1 1 1))) 3790 then
    (um_let (um_wr σ 1 ((30 : Int32) + ((2 : Int32) * (σ.1 1 1))).toNatClampNeg a1) fun σ6 =>
    (if um_ix (((30 : Int32) + ((2 : Int32) * (σ6.1 1 1))) + (1 : Int32)) 3790 then
    (um_let (um_wr σ6 1 (((30 : Int32) + ((2 : Int32) * (σ6.1 1 1))) + (1 : Int32)).toNatClampNeg a2) fun σ9 =>
    (um_let (um_wr σ9 1 1 ((σ9.1 1 1) + (1 : Int32))) fun σ11 =>
    (some ((σ11.1 1 1) - (1 : Int32), σ11)))) else none)) else none)))))
set_option maxRecDepth 100000 in
set_option maxHeartbeats 4000000 in
theorem b_X9_ship {H : Heap} {locs : List Loc} {ls : Array Slot} {σ : um_S} {σ' : um_S} {r : Int32} (a1 : Int32) (a2 : Int32)  (hf : f_X9_ship a1 a2 σ = some (r, σ')) (Cx : um_C p s m meth c args cX9_ship 3 (some FieldType.int) RX9 Z) (hW : um_W Z msh α σ H) (hS : va_S (um_D msh α) s.heap H locs) (hl : lv_has ls 3 [(0, .ref (α 0)), (1, .int a1), (2, .int a2)]) : um_G p l e (2) (45) s m args below meth c Z msh α σ' (some (.int r)) H locs (F0 m 0 ls []) := by
  have hx := Cx.1
  have hb := Cx.2.1
  have hown := Cx.2.2.2.2.1
  have hts := Cx.2.2.2.2.2.1
  rw [f_X9_ship] at hf
  refine lv_iload_n (pc := 0) hx hb dX9_ship_0 rfl (lv_at hl 1 rfl) ?_
  obtain ⟨x2, hc1, hf⟩ := um_bi hf
  refine um_cSi (pc := 1) (As := [.int a1]) (rest := []) Cx (c_X9_isPlace a1 hc1) kS_X9_isPlace (Or.inl qM_X9_82) hW hS rfl hl rfl (Nat.le_of_ble_eq_true rfl) (Nat.le_of_ble_eq_true rfl) (Nat.le_of_ble_eq_true rfl) dX9_ship_1 (Nat.le_refl _) (Nat.le_refl _) ?_
  clear hW hS hc1
  intro H locs hW hS
  refine lv_if_eq (pc := 4) (tgt := 27) hx hb dX9_ship_4 (by decide) (fun c1 => ?_) (fun c1 => ?_)
  · have hf := um_it c1 hf
    clear c1
    refine lv_ldc (pc := 27) hx hb hown (hts _ qC_X9_87) dX9_ship_27 ?_
    exact um_iret (pc := 29) Cx hW hS hf dX9_ship_29
  · have hf := um_ie c1 hf
    clear c1
    refine lv_iload_n (pc := 7) hx hb dX9_ship_7 rfl (lv_at hl 2 rfl) ?_
    refine lv_i2l (pc := 8) hx hb dX9_ship_8 rfl ?_
    refine lv_aload_n (pc := 9) hx hb dX9_ship_9 rfl (lv_at hl 0 rfl) ?_
    refine gF_X9_7 (pc := 10) Cx hW ms_0 rfl dX9_ship_10 ?_
    refine lv_iconst (pc := 13) (v := (0 : Int32)) hx hb dX9_ship_13 (by decide) ?_
    refine um_iaj (pc := 14) (n := 3790) 0 rfl Cx hW ms_1 rfl (um_ix_in (by decide)) dX9_ship_14 ?_
    refine lv_iconst (pc := 15) (v := (1 : Int32)) hx hb dX9_ship_15 (by decide) ?_
    refine lv_iadd (pc := 16) hx hb dX9_ship_16 ?_
    refine lv_i2l (pc := 17) hx hb dX9_ship_17 rfl ?_
    refine lv_ldc2 (pc := 18) hx hb hown (hts _ qL_X9_85) dX9_ship_18 ?_
    obtain ⟨x4, hc3, hf⟩ := um_bi hf
    refine um_cSi (pc := 21) (As := [.long (a2.toInt64), .long (((σ.1 1 0) + (1 : Int32)).toInt64), .long (1999 : Int64)]) (rest := []) Cx (c_X9_isIn (a2.toInt64) (((σ.1 1 0) + (1 : Int32)).toInt64) (1999 : Int64) hc3) kS_X9_isIn (Or.inl qM_X9_60) hW hS rfl hl rfl (Nat.le_of_ble_eq_true rfl) (Nat.le_of_ble_eq_true rfl) (Nat.le_of_ble_eq_true rfl) dX9_ship_21 (Nat.le_refl _) (Nat.le_refl _) ?_
    clear hW hS hc3
    intro H locs hW hS
    refine lv_if_ne (pc := 24) (tgt := 30) hx hb dX9_ship_24 (by decide) (fun c1 => ?_) (fun c1 => ?_)
    · have hf := um_ie c1 hf
      clear c1
      refine lv_aload_n (pc := 30) hx hb dX9_ship_30 rfl (lv_at hl 0 rfl) ?_
      refine gF_X9_7 (pc := 31) Cx hW ms_0 rfl dX9_ship_31 ?_
      refine lv_iconst (pc := 34) (v := (1 : Int32)) hx hb dX9_ship_34 (by decide) ?_
      refine um_iaj (pc := 35) (n := 3790) 1 rfl Cx hW ms_1 rfl (um_ix_in (by decide)) dX9_ship_35 ?_
      refine lv_bipush (pc := 36) (v := (8 : Int32)) hx hb dX9_ship_36 (by decide) ?_
      refine lv_icmp_ne (pc := 38) (tgt := 44) hx hb dX9_ship_38 (by decide) (fun c1 => ?_) (fun c1 => ?_)
      · have hf := um_ie c1 hf
        clear c1
        refine lv_aload_n (pc := 44) hx hb dX9_ship_44 rfl (lv_at hl 0 rfl) ?_
        refine gF_X9_7 (pc := 45) Cx hW ms_0 rfl dX9_ship_45 ?_
        refine lv_bipush (pc := 48) (v := (30 : Int32)) hx hb dX9_ship_48 (by decide) ?_
        refine lv_iconst (pc := 50) (v := (2 : Int32)) hx hb dX9_ship_50 (by decide) ?_
        refine lv_aload_n (pc := 51) hx hb dX9_ship_51 rfl (lv_at hl 0 rfl) ?_
        refine gF_X9_7 (pc := 52) Cx hW ms_0 rfl dX9_ship_52 ?_
        refine lv_iconst (pc := 55) (v := (1 : Int32)) hx hb dX9_ship_55 (by decide) ?_
        refine um_iaj (pc := 56) (n := 3790) 1 rfl Cx hW ms_1 rfl (um_ix_in (by decide)) dX9_ship_56 ?_
        refine lv_imul (pc := 57) hx hb dX9_ship_57 ?_
        refine lv_iadd (pc := 58) hx hb dX9_ship_58 ?_
        refine lv_iload_n (pc := 59) hx hb dX9_ship_59 rfl (lv_at hl 1 rfl) ?_
        obtain ⟨g5, hf⟩ := um_gu hf
        refine um_iast (pc := 60) Cx hW hS ms_1 rfl (um_ix_in g5) dX9_ship_60 ?_
        clear hW hS
        intro H locs hW hS
        obtain ⟨σ6, e7, hf⟩ := um_le hf
        rw [← e7] at hW
        clear e7
        refine lv_aload_n (pc := 61) hx hb dX9_ship_61 rfl (lv_at hl 0 rfl) ?_
        refine gF_X9_7 (pc := 62) Cx hW ms_0 rfl dX9_ship_62 ?_
        refine lv_bipush (pc := 65) (v := (30 : Int32)) hx hb dX9_ship_65 (by decide) ?_
        refine lv_iconst (pc := 67) (v := (2 : Int32)) hx hb dX9_ship_67 (by decide) ?_
        refine lv_aload_n (pc := 68) hx hb dX9_ship_68 rfl (lv_at hl 0 rfl) ?_
        refine gF_X9_7 (pc := 69) Cx hW ms_0 rfl dX9_ship_69 ?_
        refine lv_iconst (pc := 72) (v := (1 : Int32)) hx hb dX9_ship_72 (by decide) ?_
        refine um_iaj (pc := 73) (n := 3790) 1 rfl Cx hW ms_1 rfl (um_ix_in (by decide)) dX9_ship_73 ?_
        refine lv_imul (pc := 74) hx hb dX9_ship_74 ?_
        refine lv_iadd (pc := 75) hx hb dX9_ship_75 ?_
        refine lv_iconst (pc := 76) (v := (1 : Int32)) hx hb dX9_ship_76 (by decide) ?_
        refine lv_iadd (pc := 77) hx hb dX9_ship_77 ?_
        refine lv_iload_n (pc := 78) hx hb dX9_ship_78 rfl (lv_at hl 2 rfl) ?_
        obtain ⟨g8, hf⟩ := um_gu hf
        refine um_iast (pc := 79) Cx hW hS ms_1 rfl (um_ix_in g8) dX9_ship_79 ?_
        clear hW hS
        intro H locs hW hS
        obtain ⟨σ9, e10, hf⟩ := um_le hf
        rw [← e10] at hW
        clear e10
        refine lv_aload_n (pc := 80) hx hb dX9_ship_80 rfl (lv_at hl 0 rfl) ?_
        refine gF_X9_7 (pc := 81) Cx hW ms_0 rfl dX9_ship_81 ?_
        refine lv_iconst (pc := 84) (v := (1 : Int32)) hx hb dX9_ship_84 (by decide) ?_
        refine lv_dup2_11 (pc := 85) hx hb dX9_ship_85 rfl rfl ?_
        refine um_iaj (pc := 86) (n := 3790) 1 rfl Cx hW ms_1 rfl (um_ix_in (by decide)) dX9_ship_86 ?_
        refine lv_iconst (pc := 87) (v := (1 : Int32)) hx hb dX9_ship_87 (by decide) ?_
        refine lv_iadd (pc := 88) hx hb dX9_ship_88 ?_
        refine um_isj (pc := 89) (n := 3790) 1 rfl Cx hW hS ms_1 rfl (um_ix_in (by decide)) dX9_ship_89 ?_
        clear hW hS
        intro H locs hW hS
        obtain ⟨σ11, e12, hf⟩ := um_le hf
        rw [← e12] at hW
        clear e12
        refine lv_aload_n (pc := 90) hx hb dX9_ship_90 rfl (lv_at hl 0 rfl) ?_
        refine gF_X9_7 (pc := 91) Cx hW ms_0 rfl dX9_ship_91 ?_
        refine lv_iconst (pc := 94) (v := (1 : Int32)) hx hb dX9_ship_94 (by decide) ?_
        refine um_iaj (pc := 95) (n := 3790) 1 rfl Cx hW ms_1 rfl (um_ix_in (by decide)) dX9_ship_95 ?_
        refine lv_iconst (pc := 96) (v := (1 : Int32)) hx hb dX9_ship_96 (by decide) ?_
        refine lv_isub (pc := 97) hx hb dX9_ship_97 ?_
        exact um_iret (pc := 98) Cx hW hS hf dX9_ship_98
      · have hf := um_it c1 hf
        clear c1
        refine lv_ldc (pc := 41) hx hb hown (hts _ qC_X9_88) dX9_ship_41 ?_
        exact um_iret (pc := 43) Cx hW hS hf dX9_ship_43
    · have hf := um_it c1 hf
      clear c1
      refine lv_ldc (pc := 27) hx hb hown (hts _ qC_X9_87) dX9_ship_27 ?_
      exact um_iret (pc := 29) Cx hW hS hf dX9_ship_29
theorem c_X9_ship {σ : um_S} {σ' : um_S} {r : Int32} (a1 : Int32) (a2 : Int32)  (hf : f_X9_ship a1 a2 σ = some (r, σ')) : um_M l yX9_ship cX9_ship 3 (some FieldType.int) (2) (45) Z msh α σ [.ref (α 0), .int a1, .int a2] (some (.int r)) σ' :=
  um_start (by decide) (Nat.le_of_ble_eq_true rfl) (fun p e s m below meth c ls Cx hW hS hl => b_X9_ship a1 a2 hf Cx hW hS hl)
noncomputable def f_X9_store (a1 : Int32) (a2 : Int32) (σ : um_S) : Option (Int32 × um_S) :=
    (f_X9_isPlace a1 σ).bind fun x2 =>
    (if (um_b x2) = 0 then
    (some ((-1000000001 : Int32), σ))
    else
    ((f_X9_isIn (a2.toInt64) (0 : Int64) (9999 : Int64) σ).bind fun x4 =>
    (if (um_b x4) = 0 then
    (some ((-1000000001 : Int32), σ))
    else
    (um_b2 (f_X9_becomes ((11 : Int32) + a1) a2 σ) fun x7 σ6 =>
    (some (x7, σ6))))))
set_option maxRecDepth 100000 in
set_option maxHeartbeats 4000000 in
theorem b_X9_store {H : Heap} {locs : List Loc} {ls : Array Slot} {σ : um_S} {σ' : um_S} {r : Int32} (a1 : Int32) (a2 : Int32)  (hf : f_X9_store a1 a2 σ = some (r, σ')) (Cx : um_C p s m meth c args cX9_store 3 (some FieldType.int) RX9 Z) (hW : um_W Z msh α σ H) (hS : va_S (um_D msh α) s.heap H locs) (hl : lv_has ls 3 [(0, .ref (α 0)), (1, .int a1), (2, .int a2)]) : um_G p l e (2) (45) s m args below meth c Z msh α σ' (some (.int r)) H locs (F0 m 0 ls []) := by
  have hx := Cx.1
  have hb := Cx.2.1
  have hown := Cx.2.2.2.2.1
  have hts := Cx.2.2.2.2.2.1
  rw [f_X9_store] at hf
  refine lv_iload_n (pc := 0) hx hb dX9_store_0 rfl (lv_at hl 1 rfl) ?_
  obtain ⟨x2, hc1, hf⟩ := um_bi hf
  refine um_cSi (pc := 1) (As := [.int a1]) (rest := []) Cx (c_X9_isPlace a1 hc1) kS_X9_isPlace (Or.inl qM_X9_82) hW hS rfl hl rfl (Nat.le_of_ble_eq_true rfl) (Nat.le_of_ble_eq_true rfl) (Nat.le_of_ble_eq_true rfl) dX9_store_1 (Nat.le_refl _) (Nat.le_refl _) ?_
  clear hW hS hc1
  intro H locs hW hS
  refine lv_if_eq (pc := 4) (tgt := 31) hx hb dX9_store_4 (by decide) (fun c1 => ?_) (fun c1 => ?_)
  · have hf := um_it c1 hf
    clear c1
    refine lv_ldc (pc := 31) hx hb hown (hts _ qC_X9_87) dX9_store_31 ?_
    exact um_iret (pc := 33) Cx hW hS hf dX9_store_33
  · have hf := um_ie c1 hf
    clear c1
    refine lv_iload_n (pc := 7) hx hb dX9_store_7 rfl (lv_at hl 2 rfl) ?_
    refine lv_i2l (pc := 8) hx hb dX9_store_8 rfl ?_
    refine lv_lconst (pc := 9) (v := (0 : Int64)) hx hb dX9_store_9 (by decide) ?_
    refine lv_ldc2 (pc := 10) hx hb hown (hts _ qL_X9_138) dX9_store_10 ?_
    obtain ⟨x4, hc3, hf⟩ := um_bi hf
    refine um_cSi (pc := 13) (As := [.long (a2.toInt64), .long (0 : Int64), .long (9999 : Int64)]) (rest := []) Cx (c_X9_isIn (a2.toInt64) (0 : Int64) (9999 : Int64) hc3) kS_X9_isIn (Or.inl qM_X9_60) hW hS rfl hl rfl (Nat.le_of_ble_eq_true rfl) (Nat.le_of_ble_eq_true rfl) (Nat.le_of_ble_eq_true rfl) dX9_store_13 (Nat.le_refl _) (Nat.le_refl _) ?_
    clear hW hS hc3
    intro H locs hW hS
    refine lv_if_eq (pc := 16) (tgt := 31) hx hb dX9_store_16 (by decide) (fun c1 => ?_) (fun c1 => ?_)
    · have hf := um_it c1 hf
      clear c1
      refine lv_ldc (pc := 31) hx hb hown (hts _ qC_X9_87) dX9_store_31 ?_
      exact um_iret (pc := 33) Cx hW hS hf dX9_store_33
    · have hf := um_ie c1 hf
      clear c1
      refine lv_aload_n (pc := 19) hx hb dX9_store_19 rfl (lv_at hl 0 rfl) ?_
      refine lv_bipush (pc := 20) (v := (11 : Int32)) hx hb dX9_store_20 (by decide) ?_
      refine lv_iload_n (pc := 22) hx hb dX9_store_22 rfl (lv_at hl 1 rfl) ?_
      refine lv_iadd (pc := 23) hx hb dX9_store_23 ?_
      refine lv_iload_n (pc := 24) hx hb dX9_store_24 rfl (lv_at hl 2 rfl) ?_
      obtain ⟨x7, σ6, hc5, hf⟩ := um_bi2 hf
      refine um_cVi (pc := 25) (As := [.int ((11 : Int32) + a1), .int a2]) (rest := []) Cx (c_X9_becomes ((11 : Int32) + a1) a2 hc5) kV_X9_becomes (Or.inl qM_X9_107) hW hS ms_0 rfl rfl hl rfl (Nat.le_of_ble_eq_true rfl) (Nat.le_of_ble_eq_true rfl) (Nat.le_of_ble_eq_true rfl) dX9_store_25 (Nat.le_refl _) (Nat.le_refl _) ?_
      clear hW hS hc5
      intro H locs hW hS
      refine lv_goto (pc := 28) (tgt := 33) hx hb dX9_store_28 (by decide) ?_
      exact um_iret (pc := 33) Cx hW hS hf dX9_store_33
theorem c_X9_store {σ : um_S} {σ' : um_S} {r : Int32} (a1 : Int32) (a2 : Int32)  (hf : f_X9_store a1 a2 σ = some (r, σ')) : um_M l yX9_store cX9_store 3 (some FieldType.int) (2) (45) Z msh α σ [.ref (α 0), .int a1, .int a2] (some (.int r)) σ' :=
  um_start (by decide) (Nat.le_of_ble_eq_true rfl) (fun p e s m below meth c ls Cx hW hS hl => b_X9_store a1 a2 hf Cx hW hS hl)
noncomputable def f_X9_tell (a1 : Int32) (σ : um_S) : Option (Int32 × um_S) :=
    if (σ.1 0 27) = (60 : Int32) then
    (some ((-1000000003 : Int32), σ))
    else
    (if um_ix (σ.1 0 27) 60 then
    (um_let (um_wr σ 15 (σ.1 0 27).toNatClampNeg a1) fun σ2 =>
    (um_let (um_wr σ2 0 27 ((σ2.1 0 27) + (1 : Int32))) fun σ4 =>
    (some (σ4.1 0 27, σ4)))) else none)
set_option maxRecDepth 100000 in
set_option maxHeartbeats 4000000 in
theorem b_X9_tell {H : Heap} {locs : List Loc} {ls : Array Slot} {σ : um_S} {σ' : um_S} {r : Int32} (a1 : Int32)  (hf : f_X9_tell a1 σ = some (r, σ')) (Cx : um_C p s m meth c args cX9_tell 2 (some FieldType.int) RX9 Z) (hW : um_W Z msh α σ H) (hS : va_S (um_D msh α) s.heap H locs) (hl : lv_has ls 2 [(0, .ref (α 0)), (1, .int a1)]) : um_G p l e (0) (0) s m args below meth c Z msh α σ' (some (.int r)) H locs (F0 m 0 ls []) := by
  have hx := Cx.1
  have hb := Cx.2.1
  have hown := Cx.2.2.2.2.1
  have hts := Cx.2.2.2.2.2.1
  rw [f_X9_tell] at hf
  refine lv_aload_n (pc := 0) hx hb dX9_tell_0 rfl (lv_at hl 0 rfl) ?_
  refine gF_X9_388 (pc := 1) Cx hW ms_0 rfl dX9_tell_1 ?_
  refine lv_bipush (pc := 4) (v := (60 : Int32)) hx hb dX9_tell_4 (by decide) ?_
  refine lv_icmp_ne (pc := 6) (tgt := 12) hx hb dX9_tell_6 (by decide) (fun c1 => ?_) (fun c1 => ?_)
  · have hf := um_ie c1 hf
    clear c1
    refine lv_aload_n (pc := 12) hx hb dX9_tell_12 rfl (lv_at hl 0 rfl) ?_
    refine gF_X9_53 (pc := 13) Cx hW ms_0 rfl dX9_tell_13 ?_
    refine lv_aload_n (pc := 16) hx hb dX9_tell_16 rfl (lv_at hl 0 rfl) ?_
    refine gF_X9_388 (pc := 17) Cx hW ms_0 rfl dX9_tell_17 ?_
    refine lv_iload_n (pc := 20) hx hb dX9_tell_20 rfl (lv_at hl 1 rfl) ?_
    obtain ⟨g1, hf⟩ := um_gu hf
    refine um_iast (pc := 21) Cx hW hS ms_15 rfl (um_ix_in g1) dX9_tell_21 ?_
    clear hW hS
    intro H locs hW hS
    obtain ⟨σ2, e3, hf⟩ := um_le hf
    rw [← e3] at hW
    clear e3
    refine lv_aload_n (pc := 22) hx hb dX9_tell_22 rfl (lv_at hl 0 rfl) ?_
    refine lv_dup (pc := 23) hx hb dX9_tell_23 rfl ?_
    refine gF_X9_388 (pc := 24) Cx hW ms_0 rfl dX9_tell_24 ?_
    refine lv_iconst (pc := 27) (v := (1 : Int32)) hx hb dX9_tell_27 (by decide) ?_
    refine lv_iadd (pc := 28) hx hb dX9_tell_28 ?_
    refine gP_X9_388 (pc := 29) Cx hW hS ms_0 rfl dX9_tell_29 ?_
    clear hW hS
    intro H locs hW hS
    obtain ⟨σ4, e5, hf⟩ := um_le hf
    rw [← e5] at hW
    clear e5
    refine lv_aload_n (pc := 32) hx hb dX9_tell_32 rfl (lv_at hl 0 rfl) ?_
    refine gF_X9_388 (pc := 33) Cx hW ms_0 rfl dX9_tell_33 ?_
    exact um_iret (pc := 36) Cx hW hS hf dX9_tell_36
  · have hf := um_it c1 hf
    clear c1
    refine lv_ldc (pc := 9) hx hb hown (hts _ qC_X9_88) dX9_tell_9 ?_
    exact um_iret (pc := 11) Cx hW hS hf dX9_tell_11
theorem c_X9_tell {σ : um_S} {σ' : um_S} {r : Int32} (a1 : Int32)  (hf : f_X9_tell a1 σ = some (r, σ')) : um_M l yX9_tell cX9_tell 2 (some FieldType.int) (0) (0) Z msh α σ [.ref (α 0), .int a1] (some (.int r)) σ' :=
  um_start (by decide) (Nat.le_of_ble_eq_true rfl) (fun p e s m below meth c ls Cx hW hS hl => b_X9_tell a1 hf Cx hW hS hl)
noncomputable def f_X9_term (a1 : Int32) (a2 : Int32) (σ : um_S) : Option (Int32 × um_S) :=
    (f_X9_isMan a1 σ).bind fun x2 =>
    (if (um_b x2) = 0 then
    (some ((-1000000001 : Int32), σ))
    else
    ((f_X9_isIn (a2.toInt64) (1 : Int64) (999 : Int64) σ).bind fun x4 =>
    (if (um_b x4) = 0 then
    (some ((-1000000001 : Int32), σ))
    else
    ((f_X9_hasLanded a1 σ).bind fun x6 =>
    (if (um_b x6) = 0 then
    ((f_X9_manAt a1 σ).bind fun x8 =>
    (um_b2 (f_X9_becomes (x8 + (12 : Int32)) a2 σ) fun x11 σ10 =>
    (some (x11, σ10))))
    else
    (some ((-1000000002 : Int32), σ)))))))
set_option maxRecDepth 100000 in
set_option maxHeartbeats 4000000 in
theorem b_X9_term {H : Heap} {locs : List Loc} {ls : Array Slot} {σ : um_S} {σ' : um_S} {r : Int32} (a1 : Int32) (a2 : Int32)  (hf : f_X9_term a1 a2 σ = some (r, σ')) (Cx : um_C p s m meth c args cX9_term 3 (some FieldType.int) RX9 Z) (hW : um_W Z msh α σ H) (hS : va_S (um_D msh α) s.heap H locs) (hl : lv_has ls 3 [(0, .ref (α 0)), (1, .int a1), (2, .int a2)]) : um_G p l e (2) (46) s m args below meth c Z msh α σ' (some (.int r)) H locs (F0 m 0 ls []) := by
  have hx := Cx.1
  have hb := Cx.2.1
  have hown := Cx.2.2.2.2.1
  have hts := Cx.2.2.2.2.2.1
  rw [f_X9_term] at hf
  refine lv_aload_n (pc := 0) hx hb dX9_term_0 rfl (lv_at hl 0 rfl) ?_
  refine lv_iload_n (pc := 1) hx hb dX9_term_1 rfl (lv_at hl 1 rfl) ?_
  obtain ⟨x2, hc1, hf⟩ := um_bi hf
  refine um_cVi (pc := 2) (As := [.int a1]) (rest := []) Cx (c_X9_isMan a1 hc1) kV_X9_isMan (Or.inl qM_X9_101) hW hS ms_0 rfl rfl hl rfl (Nat.le_of_ble_eq_true rfl) (Nat.le_of_ble_eq_true rfl) (Nat.le_of_ble_eq_true rfl) dX9_term_2 (Nat.le_refl _) (Nat.le_refl _) ?_
  clear hW hS hc1
  intro H locs hW hS
  refine lv_if_eq (pc := 5) (tgt := 20) hx hb dX9_term_5 (by decide) (fun c1 => ?_) (fun c1 => ?_)
  · have hf := um_it c1 hf
    clear c1
    refine lv_ldc (pc := 20) hx hb hown (hts _ qC_X9_87) dX9_term_20 ?_
    exact um_iret (pc := 22) Cx hW hS hf dX9_term_22
  · have hf := um_ie c1 hf
    clear c1
    refine lv_iload_n (pc := 8) hx hb dX9_term_8 rfl (lv_at hl 2 rfl) ?_
    refine lv_i2l (pc := 9) hx hb dX9_term_9 rfl ?_
    refine lv_lconst (pc := 10) (v := (1 : Int64)) hx hb dX9_term_10 (by decide) ?_
    refine lv_ldc2 (pc := 11) hx hb hown (hts _ qL_X9_104) dX9_term_11 ?_
    obtain ⟨x4, hc3, hf⟩ := um_bi hf
    refine um_cSi (pc := 14) (As := [.long (a2.toInt64), .long (1 : Int64), .long (999 : Int64)]) (rest := []) Cx (c_X9_isIn (a2.toInt64) (1 : Int64) (999 : Int64) hc3) kS_X9_isIn (Or.inl qM_X9_60) hW hS rfl hl rfl (Nat.le_of_ble_eq_true rfl) (Nat.le_of_ble_eq_true rfl) (Nat.le_of_ble_eq_true rfl) dX9_term_14 (Nat.le_refl _) (Nat.le_refl _) ?_
    clear hW hS hc3
    intro H locs hW hS
    refine lv_if_ne (pc := 17) (tgt := 23) hx hb dX9_term_17 (by decide) (fun c1 => ?_) (fun c1 => ?_)
    · have hf := um_ie c1 hf
      clear c1
      refine lv_aload_n (pc := 23) hx hb dX9_term_23 rfl (lv_at hl 0 rfl) ?_
      refine lv_iload_n (pc := 24) hx hb dX9_term_24 rfl (lv_at hl 1 rfl) ?_
      obtain ⟨x6, hc5, hf⟩ := um_bi hf
      refine um_cVi (pc := 25) (As := [.int a1]) (rest := []) Cx (c_X9_hasLanded a1 hc5) kV_X9_hasLanded (Or.inl qM_X9_74) hW hS ms_0 rfl rfl hl rfl (Nat.le_of_ble_eq_true rfl) (Nat.le_of_ble_eq_true rfl) (Nat.le_of_ble_eq_true rfl) dX9_term_25 (Nat.le_refl _) (Nat.le_refl _) ?_
      clear hW hS hc5
      intro H locs hW hS
      refine lv_if_eq (pc := 28) (tgt := 36) hx hb dX9_term_28 (by decide) (fun c1 => ?_) (fun c1 => ?_)
      · have hf := um_it c1 hf
        clear c1
        refine lv_aload_n (pc := 36) hx hb dX9_term_36 rfl (lv_at hl 0 rfl) ?_
        refine lv_aload_n (pc := 37) hx hb dX9_term_37 rfl (lv_at hl 0 rfl) ?_
        refine lv_iload_n (pc := 38) hx hb dX9_term_38 rfl (lv_at hl 1 rfl) ?_
        obtain ⟨x8, hc7, hf⟩ := um_bi hf
        refine um_cVi (pc := 39) (As := [.int a1]) (rest := [.ref (α 0)]) Cx (c_X9_manAt a1 hc7) kV_X9_manAt (Or.inl qM_X9_66) hW hS ms_0 rfl rfl hl rfl (Nat.le_of_ble_eq_true rfl) (Nat.le_of_ble_eq_true rfl) (Nat.le_of_ble_eq_true rfl) dX9_term_39 (Nat.le_refl _) (Nat.le_refl _) ?_
        clear hW hS hc7
        intro H locs hW hS
        refine lv_bipush (pc := 42) (v := (12 : Int32)) hx hb dX9_term_42 (by decide) ?_
        refine lv_iadd (pc := 44) hx hb dX9_term_44 ?_
        refine lv_iload_n (pc := 45) hx hb dX9_term_45 rfl (lv_at hl 2 rfl) ?_
        obtain ⟨x11, σ10, hc9, hf⟩ := um_bi2 hf
        refine um_cVi (pc := 46) (As := [.int (x8 + (12 : Int32)), .int a2]) (rest := []) Cx (c_X9_becomes (x8 + (12 : Int32)) a2 hc9) kV_X9_becomes (Or.inl qM_X9_107) hW hS ms_0 rfl rfl hl rfl (Nat.le_of_ble_eq_true rfl) (Nat.le_of_ble_eq_true rfl) (Nat.le_of_ble_eq_true rfl) dX9_term_46 (Nat.le_refl _) (Nat.le_refl _) ?_
        clear hW hS hc9
        intro H locs hW hS
        exact um_iret (pc := 49) Cx hW hS hf dX9_term_49
      · have hf := um_ie c1 hf
        clear c1
        refine lv_ldc (pc := 31) hx hb hown (hts _ qC_X9_106) dX9_term_31 ?_
        refine lv_goto (pc := 33) (tgt := 49) hx hb dX9_term_33 (by decide) ?_
        exact um_iret (pc := 49) Cx hW hS hf dX9_term_49
    · have hf := um_it c1 hf
      clear c1
      refine lv_ldc (pc := 20) hx hb hown (hts _ qC_X9_87) dX9_term_20 ?_
      exact um_iret (pc := 22) Cx hW hS hf dX9_term_22
theorem c_X9_term {σ : um_S} {σ' : um_S} {r : Int32} (a1 : Int32) (a2 : Int32)  (hf : f_X9_term a1 a2 σ = some (r, σ')) : um_M l yX9_term cX9_term 3 (some FieldType.int) (2) (46) Z msh α σ [.ref (α 0), .int a1, .int a2] (some (.int r)) σ' :=
  um_start (by decide) (Nat.le_of_ble_eq_true rfl) (fun p e s m below meth c ls Cx hW hS hl => b_X9_term a1 a2 hf Cx hW hS hl)
noncomputable def f_X9_text (a1 : Int32) (σ : um_S) : Option (Int32 × um_S) :=
    (f_X9_isIn (a1.toInt64) (0 : Int64) (1999 : Int64) σ).bind fun x2 =>
    (um_let (um_b x2) fun x3 =>
    (um_b2 (f_X9_parse σ) fun x7 σ6 =>
    (if x3 = 0 then
    (some ((-1000000001 : Int32), σ6))
    else
    (if 0 ≤ x7 then
    (if (σ6.1 1 5) = (14 : Int32) then
    (some ((-1000000003 : Int32), σ6))
    else
    ((f_X9_textAt (σ6.1 1 5) σ6).bind fun x9 =>
    (if um_ix (x9 + (0 : Int32)) 3790 then
    (um_let (um_wr σ6 1 (x9 + (0 : Int32)).toNatClampNeg x7) fun σ11 =>
    (if um_ix (x9 + (1 : Int32)) 3790 then
    (um_let (um_wr σ11 1 (x9 + (1 : Int32)).toNatClampNeg a1) fun σ14 =>
    (if um_ix (x9 + (2 : Int32)) 3790 then
    (um_let (um_wr σ14 1 (x9 + (2 : Int32)).toNatClampNeg (σ14.1 0 18)) fun σ17 =>
    (if um_ix (x9 + (3 : Int32)) 3790 then
    (um_let (um_wr σ17 1 (x9 + (3 : Int32)).toNatClampNeg (σ17.1 0 16)) fun σ20 =>
    (um_let (um_wr σ20 1 5 ((σ20.1 1 5) + (1 : Int32))) fun σ22 =>
    (some ((σ22.1 1 5) - (1 : Int32), σ22)))) else none)) else none)) else none)) else none)))
    else
    (some ((-100 : Int32) - (σ6.1 0 9), σ6))))))
set_option maxRecDepth 100000 in
set_option maxHeartbeats 4000000 in
theorem b_X9_text {H : Heap} {locs : List Loc} {ls : Array Slot} {σ : um_S} {σ' : um_S} {r : Int32} (a1 : Int32)  (hf : f_X9_text a1 σ = some (r, σ')) (Cx : um_C p s m meth c args cX9_text 5 (some FieldType.int) RX9 Z) (hW : um_W Z msh α σ H) (hS : va_S (um_D msh α) s.heap H locs) (hl : lv_has ls 5 [(0, .ref (α 0)), (1, .int a1)]) : um_G p l e (169) (3718) s m args below meth c Z msh α σ' (some (.int r)) H locs (F0 m 0 ls []) := by
  have hx := Cx.1
  have hb := Cx.2.1
  have hown := Cx.2.2.2.2.1
  have hts := Cx.2.2.2.2.2.1
  rw [f_X9_text] at hf
  refine lv_iload_n (pc := 0) hx hb dX9_text_0 rfl (lv_at hl 1 rfl) ?_
  refine lv_i2l (pc := 1) hx hb dX9_text_1 rfl ?_
  refine lv_lconst (pc := 2) (v := (0 : Int64)) hx hb dX9_text_2 (by decide) ?_
  refine lv_ldc2 (pc := 3) hx hb hown (hts _ qL_X9_85) dX9_text_3 ?_
  obtain ⟨x2, hc1, hf⟩ := um_bi hf
  refine um_cSi (pc := 6) (As := [.long (a1.toInt64), .long (0 : Int64), .long (1999 : Int64)]) (rest := []) Cx (c_X9_isIn (a1.toInt64) (0 : Int64) (1999 : Int64) hc1) kS_X9_isIn (Or.inl qM_X9_60) hW hS rfl hl rfl (Nat.le_of_ble_eq_true rfl) (Nat.le_of_ble_eq_true rfl) (Nat.le_of_ble_eq_true rfl) dX9_text_6 (Nat.le_refl _) (Nat.le_refl _) ?_
  clear hW hS hc1
  intro H locs hW hS
  obtain ⟨x3, e4, hf⟩ := um_le hf
  refine um_top e4 ?_
  clear e4
  refine lv_istore_n (pc := 9) (lv' := [(2, .int x3), (0, .ref (α 0)), (1, .int a1)]) hx hb dX9_text_9 rfl hl (by decide) rfl ?_
  clear hl
  intro ls hl
  refine lv_aload_n (pc := 10) hx hb dX9_text_10 rfl (lv_at hl 1 rfl) ?_
  obtain ⟨x7, σ6, hc5, hf⟩ := um_bi2 hf
  refine um_cVi (pc := 11) (As := []) (rest := []) Cx (c_X9_parse hc5) kV_X9_parse (Or.inl qM_X9_235) hW hS ms_0 rfl rfl hl rfl (Nat.le_of_ble_eq_true rfl) (Nat.le_of_ble_eq_true rfl) (Nat.le_of_ble_eq_true rfl) dX9_text_11 (Nat.le_refl _) (Nat.le_refl _) ?_
  clear hW hS hc5
  intro H locs hW hS
  refine lv_istore_n (pc := 14) (lv' := [(3, .int x7), (2, .int x3), (0, .ref (α 0)), (1, .int a1)]) hx hb dX9_text_14 rfl hl (by decide) rfl ?_
  clear hl
  intro ls hl
  refine lv_iload_n (pc := 15) hx hb dX9_text_15 rfl (lv_at hl 1 rfl) ?_
  refine lv_if_ne (pc := 16) (tgt := 22) hx hb dX9_text_16 (by decide) (fun c1 => ?_) (fun c1 => ?_)
  · have hf := um_ie c1 hf
    clear c1
    refine lv_iload_n (pc := 22) hx hb dX9_text_22 rfl (lv_at hl 0 rfl) ?_
    refine lv_if_ge (pc := 23) (tgt := 34) hx hb dX9_text_23 (by decide) (fun c1 => ?_) (fun c1 => ?_)
    · have hf := um_it c1 hf
      clear c1
      refine lv_aload_n (pc := 34) hx hb dX9_text_34 rfl (lv_at hl 2 rfl) ?_
      refine gF_X9_7 (pc := 35) Cx hW ms_0 rfl dX9_text_35 ?_
      refine lv_iconst (pc := 38) (v := (5 : Int32)) hx hb dX9_text_38 (by decide) ?_
      refine um_iaj (pc := 39) (n := 3790) 5 rfl Cx hW ms_1 rfl (um_ix_in (by decide)) dX9_text_39 ?_
      refine lv_bipush (pc := 40) (v := (14 : Int32)) hx hb dX9_text_40 (by decide) ?_
      refine lv_icmp_ne (pc := 42) (tgt := 48) hx hb dX9_text_42 (by decide) (fun c1 => ?_) (fun c1 => ?_)
      · have hf := um_ie c1 hf
        clear c1
        refine lv_aload_n (pc := 48) hx hb dX9_text_48 rfl (lv_at hl 2 rfl) ?_
        refine lv_aload_n (pc := 49) hx hb dX9_text_49 rfl (lv_at hl 2 rfl) ?_
        refine gF_X9_7 (pc := 50) Cx hW ms_0 rfl dX9_text_50 ?_
        refine lv_iconst (pc := 53) (v := (5 : Int32)) hx hb dX9_text_53 (by decide) ?_
        refine um_iaj (pc := 54) (n := 3790) 5 rfl Cx hW ms_1 rfl (um_ix_in (by decide)) dX9_text_54 ?_
        obtain ⟨x9, hc8, hf⟩ := um_bi hf
        refine um_cVi (pc := 55) (As := [.int (σ6.1 1 5)]) (rest := []) Cx (c_X9_textAt (σ6.1 1 5) hc8) kV_X9_textAt (Or.inl qM_X9_228) hW hS ms_0 rfl rfl hl rfl (Nat.le_of_ble_eq_true rfl) (Nat.le_of_ble_eq_true rfl) (Nat.le_of_ble_eq_true rfl) dX9_text_55 (Nat.le_refl _) (Nat.le_refl _) ?_
        clear hW hS hc8
        intro H locs hW hS
        refine lv_istore (pc := 58) (lv' := [(4, .int x9), (3, .int x7), (2, .int x3), (0, .ref (α 0)), (1, .int a1)]) hx hb dX9_text_58 hl (by decide) rfl ?_
        clear hl
        intro ls hl
        refine lv_aload_n (pc := 60) hx hb dX9_text_60 rfl (lv_at hl 3 rfl) ?_
        refine gF_X9_7 (pc := 61) Cx hW ms_0 rfl dX9_text_61 ?_
        refine lv_iload (pc := 64) hx hb dX9_text_64 (lv_at hl 0 rfl) ?_
        refine lv_iconst (pc := 66) (v := (0 : Int32)) hx hb dX9_text_66 (by decide) ?_
        refine lv_iadd (pc := 67) hx hb dX9_text_67 ?_
        refine lv_iload_n (pc := 68) hx hb dX9_text_68 rfl (lv_at hl 1 rfl) ?_
        obtain ⟨g10, hf⟩ := um_gu hf
        refine um_iast (pc := 69) Cx hW hS ms_1 rfl (um_ix_in g10) dX9_text_69 ?_
        clear hW hS
        intro H locs hW hS
        obtain ⟨σ11, e12, hf⟩ := um_le hf
        rw [← e12] at hW
        clear e12
        refine lv_aload_n (pc := 70) hx hb dX9_text_70 rfl (lv_at hl 3 rfl) ?_
        refine gF_X9_7 (pc := 71) Cx hW ms_0 rfl dX9_text_71 ?_
        refine lv_iload (pc := 74) hx hb dX9_text_74 (lv_at hl 0 rfl) ?_
        refine lv_iconst (pc := 76) (v := (1 : Int32)) hx hb dX9_text_76 (by decide) ?_
        refine lv_iadd (pc := 77) hx hb dX9_text_77 ?_
        refine lv_iload_n (pc := 78) hx hb dX9_text_78 rfl (lv_at hl 4 rfl) ?_
        obtain ⟨g13, hf⟩ := um_gu hf
        refine um_iast (pc := 79) Cx hW hS ms_1 rfl (um_ix_in g13) dX9_text_79 ?_
        clear hW hS
        intro H locs hW hS
        obtain ⟨σ14, e15, hf⟩ := um_le hf
        rw [← e15] at hW
        clear e15
        refine lv_aload_n (pc := 80) hx hb dX9_text_80 rfl (lv_at hl 3 rfl) ?_
        refine gF_X9_7 (pc := 81) Cx hW ms_0 rfl dX9_text_81 ?_
        refine lv_iload (pc := 84) hx hb dX9_text_84 (lv_at hl 0 rfl) ?_
        refine lv_iconst (pc := 86) (v := (2 : Int32)) hx hb dX9_text_86 (by decide) ?_
        refine lv_iadd (pc := 87) hx hb dX9_text_87 ?_
        refine lv_aload_n (pc := 88) hx hb dX9_text_88 rfl (lv_at hl 3 rfl) ?_
        refine gF_X9_212 (pc := 89) Cx hW ms_0 rfl dX9_text_89 ?_
        obtain ⟨g16, hf⟩ := um_gu hf
        refine um_iast (pc := 92) Cx hW hS ms_1 rfl (um_ix_in g16) dX9_text_92 ?_
        clear hW hS
        intro H locs hW hS
        obtain ⟨σ17, e18, hf⟩ := um_le hf
        rw [← e18] at hW
        clear e18
        refine lv_aload_n (pc := 93) hx hb dX9_text_93 rfl (lv_at hl 3 rfl) ?_
        refine gF_X9_7 (pc := 94) Cx hW ms_0 rfl dX9_text_94 ?_
        refine lv_iload (pc := 97) hx hb dX9_text_97 (lv_at hl 0 rfl) ?_
        refine lv_iconst (pc := 99) (v := (3 : Int32)) hx hb dX9_text_99 (by decide) ?_
        refine lv_iadd (pc := 100) hx hb dX9_text_100 ?_
        refine lv_aload_n (pc := 101) hx hb dX9_text_101 rfl (lv_at hl 3 rfl) ?_
        refine gF_X9_184 (pc := 102) Cx hW ms_0 rfl dX9_text_102 ?_
        obtain ⟨g19, hf⟩ := um_gu hf
        refine um_iast (pc := 105) Cx hW hS ms_1 rfl (um_ix_in g19) dX9_text_105 ?_
        clear hW hS
        intro H locs hW hS
        obtain ⟨σ20, e21, hf⟩ := um_le hf
        rw [← e21] at hW
        clear e21
        refine lv_aload_n (pc := 106) hx hb dX9_text_106 rfl (lv_at hl 3 rfl) ?_
        refine gF_X9_7 (pc := 107) Cx hW ms_0 rfl dX9_text_107 ?_
        refine lv_iconst (pc := 110) (v := (5 : Int32)) hx hb dX9_text_110 (by decide) ?_
        refine lv_dup2_11 (pc := 111) hx hb dX9_text_111 rfl rfl ?_
        refine um_iaj (pc := 112) (n := 3790) 5 rfl Cx hW ms_1 rfl (um_ix_in (by decide)) dX9_text_112 ?_
        refine lv_iconst (pc := 113) (v := (1 : Int32)) hx hb dX9_text_113 (by decide) ?_
        refine lv_iadd (pc := 114) hx hb dX9_text_114 ?_
        refine um_isj (pc := 115) (n := 3790) 5 rfl Cx hW hS ms_1 rfl (um_ix_in (by decide)) dX9_text_115 ?_
        clear hW hS
        intro H locs hW hS
        obtain ⟨σ22, e23, hf⟩ := um_le hf
        rw [← e23] at hW
        clear e23
        refine lv_aload_n (pc := 116) hx hb dX9_text_116 rfl (lv_at hl 3 rfl) ?_
        refine gF_X9_7 (pc := 117) Cx hW ms_0 rfl dX9_text_117 ?_
        refine lv_iconst (pc := 120) (v := (5 : Int32)) hx hb dX9_text_120 (by decide) ?_
        refine um_iaj (pc := 121) (n := 3790) 5 rfl Cx hW ms_1 rfl (um_ix_in (by decide)) dX9_text_121 ?_
        refine lv_iconst (pc := 122) (v := (1 : Int32)) hx hb dX9_text_122 (by decide) ?_
        refine lv_isub (pc := 123) hx hb dX9_text_123 ?_
        exact um_iret (pc := 124) Cx hW hS hf dX9_text_124
      · have hf := um_it c1 hf
        clear c1
        refine lv_ldc (pc := 45) hx hb hown (hts _ qC_X9_88) dX9_text_45 ?_
        exact um_iret (pc := 47) Cx hW hS hf dX9_text_47
    · have hf := um_ie c1 hf
      clear c1
      refine lv_bipush (pc := 26) (v := (-100 : Int32)) hx hb dX9_text_26 (by decide) ?_
      refine lv_aload_n (pc := 28) hx hb dX9_text_28 rfl (lv_at hl 2 rfl) ?_
      refine gF_X9_158 (pc := 29) Cx hW ms_0 rfl dX9_text_29 ?_
      refine lv_isub (pc := 32) hx hb dX9_text_32 ?_
      exact um_iret (pc := 33) Cx hW hS hf dX9_text_33
  · have hf := um_it c1 hf
    clear c1
    refine lv_ldc (pc := 19) hx hb hown (hts _ qC_X9_87) dX9_text_19 ?_
    exact um_iret (pc := 21) Cx hW hS hf dX9_text_21
theorem c_X9_text {σ : um_S} {σ' : um_S} {r : Int32} (a1 : Int32)  (hf : f_X9_text a1 σ = some (r, σ')) : um_M l yX9_text cX9_text 5 (some FieldType.int) (169) (3718) Z msh α σ [.ref (α 0), .int a1] (some (.int r)) σ' :=
  um_start (by decide) (Nat.le_of_ble_eq_true rfl) (fun p e s m below meth c ls Cx hW hS hl => b_X9_text a1 hf Cx hW hS hl)
noncomputable def f_X9_ticket (a1 : Int32) (σ : um_S) : Option (Int32 × um_S) :=
    (f_X9_isMan a1 σ).bind fun x2 =>
    (if (um_b x2) = 0 then
    (some ((-1000000001 : Int32), σ))
    else
    ((f_X9_kindOf a1 σ).bind fun x4 =>
    (um_let (fun (_u : Unit) =>
    ((f_X9_isOut a1 σ).bind fun x7 =>
    (if (um_b x7) = 0 then
    (um_b2 (f_X9_ruleFor (0 : Int32) a1 σ) fun x10 σ9 =>
    (if x10 = 0 then
    (some ((-1000000002 : Int32), σ9))
    else
    ((f_X9_manAt a1 σ9).bind fun x12 =>
    (if um_ix (x12 + (4 : Int32)) 3790 then
    ((f_X9_becomesOf a1 (4 : Int32) (σ9.1 1 (x12 + (4 : Int32)).toNatClampNeg) σ9).bind fun σ15 =>
    (some ((1 : Int32), σ15))) else none))))
    else
    (some ((-1000000002 : Int32), σ))))) fun k5 =>
    (if x4 = (1 : Int32) then
    (k5 ())
    else
    ((f_X9_kindOf a1 σ).bind fun x17 =>
    (if x17 = (2 : Int32) then
    (k5 ())
    else
    (some ((-1000000012 : Int32), σ))))))))
set_option maxRecDepth 100000 in
set_option maxHeartbeats 4000000 in
theorem b_X9_ticket {H : Heap} {locs : List Loc} {ls : Array Slot} {σ : um_S} {σ' : um_S} {r : Int32} (a1 : Int32)  (hf : f_X9_ticket a1 σ = some (r, σ')) (Cx : um_C p s m meth c args cX9_ticket 2 (some FieldType.int) RX9 Z) (hW : um_W Z msh α σ H) (hS : va_S (um_D msh α) s.heap H locs) (hl : lv_has ls 2 [(0, .ref (α 0)), (1, .int a1)]) : um_G p l e (4) (95) s m args below meth c Z msh α σ' (some (.int r)) H locs (F0 m 0 ls []) := by
  have hx := Cx.1
  have hb := Cx.2.1
  have hown := Cx.2.2.2.2.1
  have hts := Cx.2.2.2.2.2.1
  rw [f_X9_ticket] at hf
  refine lv_aload_n (pc := 0) hx hb dX9_ticket_0 rfl (lv_at hl 0 rfl) ?_
  refine lv_iload_n (pc := 1) hx hb dX9_ticket_1 rfl (lv_at hl 1 rfl) ?_
  obtain ⟨x2, hc1, hf⟩ := um_bi hf
  refine um_cVi (pc := 2) (As := [.int a1]) (rest := []) Cx (c_X9_isMan a1 hc1) kV_X9_isMan (Or.inl qM_X9_101) hW hS ms_0 rfl rfl hl rfl (Nat.le_of_ble_eq_true rfl) (Nat.le_of_ble_eq_true rfl) (Nat.le_of_ble_eq_true rfl) dX9_ticket_2 (Nat.le_refl _) (Nat.le_refl _) ?_
  clear hW hS hc1
  intro H locs hW hS
  refine lv_if_ne (pc := 5) (tgt := 11) hx hb dX9_ticket_5 (by decide) (fun c1 => ?_) (fun c1 => ?_)
  · have hf := um_ie c1 hf
    clear c1
    refine lv_aload_n (pc := 11) hx hb dX9_ticket_11 rfl (lv_at hl 0 rfl) ?_
    refine lv_iload_n (pc := 12) hx hb dX9_ticket_12 rfl (lv_at hl 1 rfl) ?_
    obtain ⟨x4, hc3, hf⟩ := um_bi hf
    refine um_cVi (pc := 13) (As := [.int a1]) (rest := []) Cx (c_X9_kindOf a1 hc3) kV_X9_kindOf (Or.inl qM_X9_77) hW hS ms_0 rfl rfl hl rfl (Nat.le_of_ble_eq_true rfl) (Nat.le_of_ble_eq_true rfl) (Nat.le_of_ble_eq_true rfl) dX9_ticket_13 (Nat.le_refl _) (Nat.le_refl _) ?_
    clear hW hS hc3
    intro H locs hW hS
    refine lv_iconst (pc := 16) (v := (1 : Int32)) hx hb dX9_ticket_16 (by decide) ?_
    obtain ⟨k5, hk5, hf⟩ := um_j1 hf
    have J5 : ∀ (_u : Unit), k5 _u = some (r, σ') → ∀ (H : Heap) (locs : List Loc) (ls : Array Slot), um_W Z msh α σ H → va_S (um_D msh α) s.heap H locs → lv_has ls 2 [(0, .ref (α 0)), (1, .int a1)] → um_G p l e (4) (95) s m args below meth c Z msh α σ' (some (.int r)) H locs (F0 m 32 ls []) := by
      intro _u hf H locs ls hW hS hl
      rw [hk5] at hf
      refine lv_aload_n (pc := 32) hx hb dX9_ticket_32 rfl (lv_at hl 0 rfl) ?_
      refine lv_iload_n (pc := 33) hx hb dX9_ticket_33 rfl (lv_at hl 1 rfl) ?_
      obtain ⟨x7, hc6, hf⟩ := um_bi hf
      refine um_cVi (pc := 34) (As := [.int a1]) (rest := []) Cx (c_X9_isOut a1 hc6) kV_X9_isOut (Or.inl qM_X9_262) hW hS ms_0 rfl rfl hl rfl (Nat.le_of_ble_eq_true rfl) (Nat.le_of_ble_eq_true rfl) (Nat.le_of_ble_eq_true rfl) dX9_ticket_34 (Nat.le_refl _) (Nat.le_refl _) ?_
      clear hW hS hc6
      intro H locs hW hS
      refine lv_if_ne (pc := 37) (tgt := 49) hx hb dX9_ticket_37 (by decide) (fun c1 => ?_) (fun c1 => ?_)
      · have hf := um_ie c1 hf
        clear c1
        refine lv_ldc (pc := 49) hx hb hown (hts _ qC_X9_106) dX9_ticket_49 ?_
        exact um_iret (pc := 51) Cx hW hS hf dX9_ticket_51
      · have hf := um_it c1 hf
        clear c1
        refine lv_aload_n (pc := 40) hx hb dX9_ticket_40 rfl (lv_at hl 0 rfl) ?_
        refine lv_iconst (pc := 41) (v := (0 : Int32)) hx hb dX9_ticket_41 (by decide) ?_
        refine lv_iload_n (pc := 42) hx hb dX9_ticket_42 rfl (lv_at hl 1 rfl) ?_
        obtain ⟨x10, σ9, hc8, hf⟩ := um_bi2 hf
        refine um_cVi (pc := 43) (As := [.int (0 : Int32), .int a1]) (rest := []) Cx (c_X9_ruleFor (0 : Int32) a1 hc8) kV_X9_ruleFor (Or.inl qM_X9_277) hW hS ms_0 rfl rfl hl rfl (Nat.le_of_ble_eq_true rfl) (Nat.le_of_ble_eq_true rfl) (Nat.le_of_ble_eq_true rfl) dX9_ticket_43 (Nat.le_refl _) (Nat.le_refl _) ?_
        clear hW hS hc8
        intro H locs hW hS
        refine lv_if_ne (pc := 46) (tgt := 52) hx hb dX9_ticket_46 (by decide) (fun c1 => ?_) (fun c1 => ?_)
        · have hf := um_ie c1 hf
          clear c1
          refine lv_aload_n (pc := 52) hx hb dX9_ticket_52 rfl (lv_at hl 0 rfl) ?_
          refine lv_iload_n (pc := 53) hx hb dX9_ticket_53 rfl (lv_at hl 1 rfl) ?_
          refine lv_iconst (pc := 54) (v := (4 : Int32)) hx hb dX9_ticket_54 (by decide) ?_
          refine lv_aload_n (pc := 55) hx hb dX9_ticket_55 rfl (lv_at hl 0 rfl) ?_
          refine gF_X9_7 (pc := 56) Cx hW ms_0 rfl dX9_ticket_56 ?_
          refine lv_aload_n (pc := 59) hx hb dX9_ticket_59 rfl (lv_at hl 0 rfl) ?_
          refine lv_iload_n (pc := 60) hx hb dX9_ticket_60 rfl (lv_at hl 1 rfl) ?_
          obtain ⟨x12, hc11, hf⟩ := um_bi hf
          refine um_cVi (pc := 61) (As := [.int a1]) (rest := [.ref (α 1), .int (4 : Int32), .int a1, .ref (α 0)]) Cx (c_X9_manAt a1 hc11) kV_X9_manAt (Or.inl qM_X9_66) hW hS ms_0 rfl rfl hl rfl (Nat.le_of_ble_eq_true rfl) (Nat.le_of_ble_eq_true rfl) (Nat.le_of_ble_eq_true rfl) dX9_ticket_61 (Nat.le_refl _) (Nat.le_refl _) ?_
          clear hW hS hc11
          intro H locs hW hS
          refine lv_iconst (pc := 64) (v := (4 : Int32)) hx hb dX9_ticket_64 (by decide) ?_
          refine lv_iadd (pc := 65) hx hb dX9_ticket_65 ?_
          obtain ⟨g13, hf⟩ := um_gu hf
          refine um_iald (pc := 66) Cx hW ms_1 rfl (um_ix_in g13) dX9_ticket_66 ?_
          obtain ⟨σ15, hc14, hf⟩ := um_bi hf
          refine um_cVv (pc := 67) (As := [.int a1, .int (4 : Int32), .int (σ9.1 1 (x12 + (4 : Int32)).toNatClampNeg)]) (rest := []) Cx (c_X9_becomesOf a1 (4 : Int32) (σ9.1 1 (x12 + (4 : Int32)).toNatClampNeg) hc14) kV_X9_becomesOf (Or.inl qM_X9_97) hW hS ms_0 rfl rfl hl rfl (Nat.le_of_ble_eq_true rfl) (Nat.le_of_ble_eq_true rfl) (Nat.le_of_ble_eq_true rfl) dX9_ticket_67 (Nat.le_refl _) (Nat.le_refl _) ?_
          clear hW hS hc14
          intro H locs hW hS
          refine lv_iconst (pc := 70) (v := (1 : Int32)) hx hb dX9_ticket_70 (by decide) ?_
          exact um_iret (pc := 71) Cx hW hS hf dX9_ticket_71
        · have hf := um_it c1 hf
          clear c1
          refine lv_ldc (pc := 49) hx hb hown (hts _ qC_X9_106) dX9_ticket_49 ?_
          exact um_iret (pc := 51) Cx hW hS hf dX9_ticket_51
    refine lv_icmp_eq (pc := 17) (tgt := 32) hx hb dX9_ticket_17 (by decide) (fun c1 => ?_) (fun c1 => ?_)
    · have hf := um_it c1 hf
      clear c1
      exact J5 () hf _ _ _ hW hS hl
    · have hf := um_ie c1 hf
      clear c1
      refine lv_aload_n (pc := 20) hx hb dX9_ticket_20 rfl (lv_at hl 0 rfl) ?_
      refine lv_iload_n (pc := 21) hx hb dX9_ticket_21 rfl (lv_at hl 1 rfl) ?_
      obtain ⟨x17, hc16, hf⟩ := um_bi hf
      refine um_cVi (pc := 22) (As := [.int a1]) (rest := []) Cx (c_X9_kindOf a1 hc16) kV_X9_kindOf (Or.inl qM_X9_77) hW hS ms_0 rfl rfl hl rfl (Nat.le_of_ble_eq_true rfl) (Nat.le_of_ble_eq_true rfl) (Nat.le_of_ble_eq_true rfl) dX9_ticket_22 (Nat.le_refl _) (Nat.le_refl _) ?_
      clear hW hS hc16
      intro H locs hW hS
      refine lv_iconst (pc := 25) (v := (2 : Int32)) hx hb dX9_ticket_25 (by decide) ?_
      refine lv_icmp_eq (pc := 26) (tgt := 32) hx hb dX9_ticket_26 (by decide) (fun c1 => ?_) (fun c1 => ?_)
      · have hf := um_it c1 hf
        clear c1
        exact J5 () hf _ _ _ hW hS hl
      · have hf := um_ie c1 hf
        clear c1
        refine lv_ldc (pc := 29) hx hb hown (hts _ qC_X9_122) dX9_ticket_29 ?_
        exact um_iret (pc := 31) Cx hW hS hf dX9_ticket_31
  · have hf := um_it c1 hf
    clear c1
    refine lv_ldc (pc := 8) hx hb hown (hts _ qC_X9_87) dX9_ticket_8 ?_
    exact um_iret (pc := 10) Cx hW hS hf dX9_ticket_10
theorem c_X9_ticket {σ : um_S} {σ' : um_S} {r : Int32} (a1 : Int32)  (hf : f_X9_ticket a1 σ = some (r, σ')) : um_M l yX9_ticket cX9_ticket 2 (some FieldType.int) (4) (95) Z msh α σ [.ref (α 0), .int a1] (some (.int r)) σ' :=
  um_start (by decide) (Nat.le_of_ble_eq_true rfl) (fun p e s m below meth c ls Cx hW hS hl => b_X9_ticket a1 hf Cx hW hS hl)
noncomputable def f_X9_told (a1 : Int32) (a2 : Int32) (σ : um_S) : Option (Int32) :=
    (f_X9_isMan a1 σ).bind fun x2 =>
    (if (um_b x2) = 0 then
    (some (-1000000001 : Int32))
    else
    ((f_X9_isIn (a2.toInt64) (0 : Int64) (11 : Int64) σ).bind fun x4 =>
    (if (um_b x4) = 0 then
    (some (-1000000001 : Int32))
    else
    (if a2 = (8 : Int32) then
    ((f_X9_marksOf a1 σ).bind fun x14 =>
    (some x14))
    else
    ((f_X9_manAt a1 σ).bind fun x6 =>
    (if um_ix (x6 + a2) 3790 then
    (um_let (σ.1 1 (x6 + a2).toNatClampNeg) fun x8 =>
    (um_let (fun (_u : Unit) =>
    ((f_X9_orNone x8 σ).bind fun x12 =>
    (some x12))) fun k10 =>
    (if a2 = (4 : Int32) then
    (k10 ())
    else
    (if a2 = (10 : Int32) then
    (k10 ())
    else
    (some x8))))) else none))))))
set_option maxRecDepth 100000 in
set_option maxHeartbeats 4000000 in
theorem b_X9_told {H : Heap} {locs : List Loc} {ls : Array Slot} {σ : um_S} {r : Int32} (a1 : Int32) (a2 : Int32)  (hf : f_X9_told a1 a2 σ = some r) (Cx : um_C p s m meth c args cX9_told 4 (some FieldType.int) RX9 Z) (hW : um_W Z msh α σ H) (hS : va_S (um_D msh α) s.heap H locs) (hl : lv_has ls 4 [(0, .ref (α 0)), (1, .int a1), (2, .int a2)]) : um_G p l e (2) (46) s m args below meth c Z msh α σ (some (.int r)) H locs (F0 m 0 ls []) := by
  have hx := Cx.1
  have hb := Cx.2.1
  have hown := Cx.2.2.2.2.1
  have hts := Cx.2.2.2.2.2.1
  rw [f_X9_told] at hf
  refine lv_aload_n (pc := 0) hx hb dX9_told_0 rfl (lv_at hl 0 rfl) ?_
  refine lv_iload_n (pc := 1) hx hb dX9_told_1 rfl (lv_at hl 1 rfl) ?_
  obtain ⟨x2, hc1, hf⟩ := um_bi hf
  refine um_cVi (pc := 2) (As := [.int a1]) (rest := []) Cx (c_X9_isMan a1 hc1) kV_X9_isMan (Or.inl qM_X9_101) hW hS ms_0 rfl rfl hl rfl (Nat.le_of_ble_eq_true rfl) (Nat.le_of_ble_eq_true rfl) (Nat.le_of_ble_eq_true rfl) dX9_told_2 (Nat.le_refl _) (Nat.le_refl _) ?_
  clear hW hS hc1
  intro H locs hW hS
  refine lv_if_eq (pc := 5) (tgt := 20) hx hb dX9_told_5 (by decide) (fun c1 => ?_) (fun c1 => ?_)
  · have hf := um_it c1 hf
    clear c1
    refine lv_ldc (pc := 20) hx hb hown (hts _ qC_X9_87) dX9_told_20 ?_
    exact um_iretR (pc := 22) Cx hW hS hf dX9_told_22
  · have hf := um_ie c1 hf
    clear c1
    refine lv_iload_n (pc := 8) hx hb dX9_told_8 rfl (lv_at hl 2 rfl) ?_
    refine lv_i2l (pc := 9) hx hb dX9_told_9 rfl ?_
    refine lv_lconst (pc := 10) (v := (0 : Int64)) hx hb dX9_told_10 (by decide) ?_
    refine lv_ldc2 (pc := 11) hx hb hown (hts _ qL_X9_114) dX9_told_11 ?_
    obtain ⟨x4, hc3, hf⟩ := um_bi hf
    refine um_cSi (pc := 14) (As := [.long (a2.toInt64), .long (0 : Int64), .long (11 : Int64)]) (rest := []) Cx (c_X9_isIn (a2.toInt64) (0 : Int64) (11 : Int64) hc3) kS_X9_isIn (Or.inl qM_X9_60) hW hS rfl hl rfl (Nat.le_of_ble_eq_true rfl) (Nat.le_of_ble_eq_true rfl) (Nat.le_of_ble_eq_true rfl) dX9_told_14 (Nat.le_refl _) (Nat.le_refl _) ?_
    clear hW hS hc3
    intro H locs hW hS
    refine lv_if_ne (pc := 17) (tgt := 23) hx hb dX9_told_17 (by decide) (fun c1 => ?_) (fun c1 => ?_)
    · have hf := um_ie c1 hf
      clear c1
      refine lv_iload_n (pc := 23) hx hb dX9_told_23 rfl (lv_at hl 2 rfl) ?_
      refine lv_bipush (pc := 24) (v := (8 : Int32)) hx hb dX9_told_24 (by decide) ?_
      refine lv_icmp_ne (pc := 26) (tgt := 35) hx hb dX9_told_26 (by decide) (fun c1 => ?_) (fun c1 => ?_)
      · have hf := um_ie c1 hf
        clear c1
        refine lv_aload_n (pc := 35) hx hb dX9_told_35 rfl (lv_at hl 0 rfl) ?_
        refine gF_X9_7 (pc := 36) Cx hW ms_0 rfl dX9_told_36 ?_
        refine lv_aload_n (pc := 39) hx hb dX9_told_39 rfl (lv_at hl 0 rfl) ?_
        refine lv_iload_n (pc := 40) hx hb dX9_told_40 rfl (lv_at hl 1 rfl) ?_
        obtain ⟨x6, hc5, hf⟩ := um_bi hf
        refine um_cVi (pc := 41) (As := [.int a1]) (rest := [.ref (α 1)]) Cx (c_X9_manAt a1 hc5) kV_X9_manAt (Or.inl qM_X9_66) hW hS ms_0 rfl rfl hl rfl (Nat.le_of_ble_eq_true rfl) (Nat.le_of_ble_eq_true rfl) (Nat.le_of_ble_eq_true rfl) dX9_told_41 (Nat.le_refl _) (Nat.le_refl _) ?_
        clear hW hS hc5
        intro H locs hW hS
        refine lv_iload_n (pc := 44) hx hb dX9_told_44 rfl (lv_at hl 2 rfl) ?_
        refine lv_iadd (pc := 45) hx hb dX9_told_45 ?_
        obtain ⟨g7, hf⟩ := um_gu hf
        refine um_iald (pc := 46) Cx hW ms_1 rfl (um_ix_in g7) dX9_told_46 ?_
        obtain ⟨x8, e9, hf⟩ := um_le hf
        refine um_top e9 ?_
        clear e9
        refine lv_istore_n (pc := 47) (lv' := [(3, .int x8), (0, .ref (α 0)), (1, .int a1), (2, .int a2)]) hx hb dX9_told_47 rfl hl (by decide) rfl ?_
        clear hl
        intro ls hl
        refine lv_iload_n (pc := 48) hx hb dX9_told_48 rfl (lv_at hl 3 rfl) ?_
        refine lv_iconst (pc := 49) (v := (4 : Int32)) hx hb dX9_told_49 (by decide) ?_
        obtain ⟨k10, hk10, hf⟩ := um_j1 hf
        have J10 : ∀ (_u : Unit), k10 _u = some r → ∀ (H : Heap) (locs : List Loc) (ls : Array Slot), um_W Z msh α σ H → va_S (um_D msh α) s.heap H locs → lv_has ls 4 [(3, .int x8)] → um_G p l e (2) (46) s m args below meth c Z msh α σ (some (.int r)) H locs (F0 m 59 ls []) := by
          intro _u hf H locs ls hW hS hl
          rw [hk10] at hf
          refine lv_iload_n (pc := 59) hx hb dX9_told_59 rfl (lv_at hl 0 rfl) ?_
          obtain ⟨x12, hc11, hf⟩ := um_bi hf
          refine um_cSi (pc := 60) (As := [.int x8]) (rest := []) Cx (c_X9_orNone x8 hc11) kS_X9_orNone (Or.inl qM_X9_119) hW hS rfl hl rfl (Nat.le_of_ble_eq_true rfl) (Nat.le_of_ble_eq_true rfl) (Nat.le_of_ble_eq_true rfl) dX9_told_60 (Nat.le_refl _) (Nat.le_refl _) ?_
          clear hW hS hc11
          intro H locs hW hS
          refine lv_goto (pc := 63) (tgt := 67) hx hb dX9_told_63 (by decide) ?_
          exact um_iretR (pc := 67) Cx hW hS hf dX9_told_67
        refine lv_icmp_eq (pc := 50) (tgt := 59) hx hb dX9_told_50 (by decide) (fun c1 => ?_) (fun c1 => ?_)
        · have hf := um_it c1 hf
          clear c1
          exact J10 () hf _ _ _ hW hS (lv_sub hl [0] rfl)
        · have hf := um_ie c1 hf
          clear c1
          refine lv_iload_n (pc := 53) hx hb dX9_told_53 rfl (lv_at hl 3 rfl) ?_
          refine lv_bipush (pc := 54) (v := (10 : Int32)) hx hb dX9_told_54 (by decide) ?_
          refine lv_icmp_ne (pc := 56) (tgt := 66) hx hb dX9_told_56 (by decide) (fun c1 => ?_) (fun c1 => ?_)
          · have hf := um_ie c1 hf
            clear c1
            refine lv_iload_n (pc := 66) hx hb dX9_told_66 rfl (lv_at hl 0 rfl) ?_
            exact um_iretR (pc := 67) Cx hW hS hf dX9_told_67
          · have hf := um_it c1 hf
            clear c1
            exact J10 () hf _ _ _ hW hS (lv_sub hl [0] rfl)
      · have hf := um_it c1 hf
        clear c1
        refine lv_aload_n (pc := 29) hx hb dX9_told_29 rfl (lv_at hl 0 rfl) ?_
        refine lv_iload_n (pc := 30) hx hb dX9_told_30 rfl (lv_at hl 1 rfl) ?_
        obtain ⟨x14, hc13, hf⟩ := um_bi hf
        refine um_cVi (pc := 31) (As := [.int a1]) (rest := []) Cx (c_X9_marksOf a1 hc13) kV_X9_marksOf (Or.inl qM_X9_116) hW hS ms_0 rfl rfl hl rfl (Nat.le_of_ble_eq_true rfl) (Nat.le_of_ble_eq_true rfl) (Nat.le_of_ble_eq_true rfl) dX9_told_31 (Nat.le_refl _) (Nat.le_refl _) ?_
        clear hW hS hc13
        intro H locs hW hS
        exact um_iretR (pc := 34) Cx hW hS hf dX9_told_34
    · have hf := um_it c1 hf
      clear c1
      refine lv_ldc (pc := 20) hx hb hown (hts _ qC_X9_87) dX9_told_20 ?_
      exact um_iretR (pc := 22) Cx hW hS hf dX9_told_22
theorem c_X9_told {σ : um_S} {r : Int32} (a1 : Int32) (a2 : Int32)  (hf : f_X9_told a1 a2 σ = some r) : um_M l yX9_told cX9_told 4 (some FieldType.int) (2) (46) Z msh α σ [.ref (α 0), .int a1, .int a2] (some (.int r)) σ :=
  um_start (by decide) (Nat.le_of_ble_eq_true rfl) (fun p e s m below meth c ls Cx hW hS hl => b_X9_told a1 a2 hf Cx hW hS hl)
noncomputable def f_X9_trim (a1 : Int32) (σ : um_S) : Option (Int32 × um_S) :=
    (f_X9_isIn (a1.toInt64) (0 : Int64) ((σ.1 0 8).toInt64) σ).bind fun x2 =>
    (if (um_b x2) = 0 then
    (some ((-1000000001 : Int32), σ))
    else
    (um_let (um_wr σ 0 8 a1) fun σ3 =>
    (some (a1, σ3))))
set_option maxRecDepth 100000 in
set_option maxHeartbeats 4000000 in
theorem b_X9_trim {H : Heap} {locs : List Loc} {ls : Array Slot} {σ : um_S} {σ' : um_S} {r : Int32} (a1 : Int32)  (hf : f_X9_trim a1 σ = some (r, σ')) (Cx : um_C p s m meth c args cX9_trim 2 (some FieldType.int) RX9 Z) (hW : um_W Z msh α σ H) (hS : va_S (um_D msh α) s.heap H locs) (hl : lv_has ls 2 [(0, .ref (α 0)), (1, .int a1)]) : um_G p l e (1) (25) s m args below meth c Z msh α σ' (some (.int r)) H locs (F0 m 0 ls []) := by
  have hx := Cx.1
  have hb := Cx.2.1
  have hown := Cx.2.2.2.2.1
  have hts := Cx.2.2.2.2.2.1
  rw [f_X9_trim] at hf
  refine lv_iload_n (pc := 0) hx hb dX9_trim_0 rfl (lv_at hl 1 rfl) ?_
  refine lv_i2l (pc := 1) hx hb dX9_trim_1 rfl ?_
  refine lv_lconst (pc := 2) (v := (0 : Int64)) hx hb dX9_trim_2 (by decide) ?_
  refine lv_aload_n (pc := 3) hx hb dX9_trim_3 rfl (lv_at hl 0 rfl) ?_
  refine gF_X9_140 (pc := 4) Cx hW ms_0 rfl dX9_trim_4 ?_
  refine lv_i2l (pc := 7) hx hb dX9_trim_7 rfl ?_
  obtain ⟨x2, hc1, hf⟩ := um_bi hf
  refine um_cSi (pc := 8) (As := [.long (a1.toInt64), .long (0 : Int64), .long ((σ.1 0 8).toInt64)]) (rest := []) Cx (c_X9_isIn (a1.toInt64) (0 : Int64) ((σ.1 0 8).toInt64) hc1) kS_X9_isIn (Or.inl qM_X9_60) hW hS rfl hl rfl (Nat.le_of_ble_eq_true rfl) (Nat.le_of_ble_eq_true rfl) (Nat.le_of_ble_eq_true rfl) dX9_trim_8 (Nat.le_refl _) (Nat.le_refl _) ?_
  clear hW hS hc1
  intro H locs hW hS
  refine lv_if_ne (pc := 11) (tgt := 17) hx hb dX9_trim_11 (by decide) (fun c1 => ?_) (fun c1 => ?_)
  · have hf := um_ie c1 hf
    clear c1
    refine lv_aload_n (pc := 17) hx hb dX9_trim_17 rfl (lv_at hl 0 rfl) ?_
    refine lv_iload_n (pc := 18) hx hb dX9_trim_18 rfl (lv_at hl 1 rfl) ?_
    refine gP_X9_140 (pc := 19) Cx hW hS ms_0 rfl dX9_trim_19 ?_
    clear hW hS
    intro H locs hW hS
    obtain ⟨σ3, e4, hf⟩ := um_le hf
    rw [← e4] at hW
    clear e4
    refine lv_iload_n (pc := 22) hx hb dX9_trim_22 rfl (lv_at hl 1 rfl) ?_
    exact um_iret (pc := 23) Cx hW hS hf dX9_trim_23
  · have hf := um_it c1 hf
    clear c1
    refine lv_ldc (pc := 14) hx hb hown (hts _ qC_X9_87) dX9_trim_14 ?_
    exact um_iret (pc := 16) Cx hW hS hf dX9_trim_16
theorem c_X9_trim {σ : um_S} {σ' : um_S} {r : Int32} (a1 : Int32)  (hf : f_X9_trim a1 σ = some (r, σ')) : um_M l yX9_trim cX9_trim 2 (some FieldType.int) (1) (25) Z msh α σ [.ref (α 0), .int a1] (some (.int r)) σ' :=
  um_start (by decide) (Nat.le_of_ble_eq_true rfl) (fun p e s m below meth c ls Cx hW hS hl => b_X9_trim a1 hf Cx hW hS hl)
noncomputable def f_X9_voids (a1 : Int32) (a2 : Int32) (σ : um_S) : Option (Int32 × um_S) :=
    (f_X9_isMark a1 σ).bind fun x2 =>
    (if (um_b x2) = 0 then
    (some ((-1000000001 : Int32), σ))
    else
    ((f_X9_isIn (a2.toInt64) (0 : Int64) (1 : Int64) σ).bind fun x4 =>
    (if (um_b x4) = 0 then
    (some ((-1000000001 : Int32), σ))
    else
    ((f_X9_markAt a1 σ).bind fun x6 =>
    (um_b2 (f_X9_becomes (x6 + (3 : Int32)) a2 σ) fun x9 σ8 =>
    (some (x9, σ8)))))))
set_option maxRecDepth 100000 in
set_option maxHeartbeats 4000000 in
theorem b_X9_voids {H : Heap} {locs : List Loc} {ls : Array Slot} {σ : um_S} {σ' : um_S} {r : Int32} (a1 : Int32) (a2 : Int32)  (hf : f_X9_voids a1 a2 σ = some (r, σ')) (Cx : um_C p s m meth c args cX9_voids 3 (some FieldType.int) RX9 Z) (hW : um_W Z msh α σ H) (hS : va_S (um_D msh α) s.heap H locs) (hl : lv_has ls 3 [(0, .ref (α 0)), (1, .int a1), (2, .int a2)]) : um_G p l e (2) (46) s m args below meth c Z msh α σ' (some (.int r)) H locs (F0 m 0 ls []) := by
  have hx := Cx.1
  have hb := Cx.2.1
  have hown := Cx.2.2.2.2.1
  have hts := Cx.2.2.2.2.2.1
  rw [f_X9_voids] at hf
  refine lv_aload_n (pc := 0) hx hb dX9_voids_0 rfl (lv_at hl 0 rfl) ?_
  refine lv_iload_n (pc := 1) hx hb dX9_voids_1 rfl (lv_at hl 1 rfl) ?_
  obtain ⟨x2, hc1, hf⟩ := um_bi hf
  refine um_cVi (pc := 2) (As := [.int a1]) (rest := []) Cx (c_X9_isMark a1 hc1) kV_X9_isMark (Or.inl qM_X9_268) hW hS ms_0 rfl rfl hl rfl (Nat.le_of_ble_eq_true rfl) (Nat.le_of_ble_eq_true rfl) (Nat.le_of_ble_eq_true rfl) dX9_voids_2 (Nat.le_refl _) (Nat.le_refl _) ?_
  clear hW hS hc1
  intro H locs hW hS
  refine lv_if_eq (pc := 5) (tgt := 33) hx hb dX9_voids_5 (by decide) (fun c1 => ?_) (fun c1 => ?_)
  · have hf := um_it c1 hf
    clear c1
    refine lv_ldc (pc := 33) hx hb hown (hts _ qC_X9_87) dX9_voids_33 ?_
    exact um_iret (pc := 35) Cx hW hS hf dX9_voids_35
  · have hf := um_ie c1 hf
    clear c1
    refine lv_iload_n (pc := 8) hx hb dX9_voids_8 rfl (lv_at hl 2 rfl) ?_
    refine lv_i2l (pc := 9) hx hb dX9_voids_9 rfl ?_
    refine lv_lconst (pc := 10) (v := (0 : Int64)) hx hb dX9_voids_10 (by decide) ?_
    refine lv_lconst (pc := 11) (v := (1 : Int64)) hx hb dX9_voids_11 (by decide) ?_
    obtain ⟨x4, hc3, hf⟩ := um_bi hf
    refine um_cSi (pc := 12) (As := [.long (a2.toInt64), .long (0 : Int64), .long (1 : Int64)]) (rest := []) Cx (c_X9_isIn (a2.toInt64) (0 : Int64) (1 : Int64) hc3) kS_X9_isIn (Or.inl qM_X9_60) hW hS rfl hl rfl (Nat.le_of_ble_eq_true rfl) (Nat.le_of_ble_eq_true rfl) (Nat.le_of_ble_eq_true rfl) dX9_voids_12 (Nat.le_refl _) (Nat.le_refl _) ?_
    clear hW hS hc3
    intro H locs hW hS
    refine lv_if_eq (pc := 15) (tgt := 33) hx hb dX9_voids_15 (by decide) (fun c1 => ?_) (fun c1 => ?_)
    · have hf := um_it c1 hf
      clear c1
      refine lv_ldc (pc := 33) hx hb hown (hts _ qC_X9_87) dX9_voids_33 ?_
      exact um_iret (pc := 35) Cx hW hS hf dX9_voids_35
    · have hf := um_ie c1 hf
      clear c1
      refine lv_aload_n (pc := 18) hx hb dX9_voids_18 rfl (lv_at hl 0 rfl) ?_
      refine lv_aload_n (pc := 19) hx hb dX9_voids_19 rfl (lv_at hl 0 rfl) ?_
      refine lv_iload_n (pc := 20) hx hb dX9_voids_20 rfl (lv_at hl 1 rfl) ?_
      obtain ⟨x6, hc5, hf⟩ := um_bi hf
      refine um_cVi (pc := 21) (As := [.int a1]) (rest := [.ref (α 0)]) Cx (c_X9_markAt a1 hc5) kV_X9_markAt (Or.inl qM_X9_111) hW hS ms_0 rfl rfl hl rfl (Nat.le_of_ble_eq_true rfl) (Nat.le_of_ble_eq_true rfl) (Nat.le_of_ble_eq_true rfl) dX9_voids_21 (Nat.le_refl _) (Nat.le_refl _) ?_
      clear hW hS hc5
      intro H locs hW hS
      refine lv_iconst (pc := 24) (v := (3 : Int32)) hx hb dX9_voids_24 (by decide) ?_
      refine lv_iadd (pc := 25) hx hb dX9_voids_25 ?_
      refine lv_iload_n (pc := 26) hx hb dX9_voids_26 rfl (lv_at hl 2 rfl) ?_
      obtain ⟨x9, σ8, hc7, hf⟩ := um_bi2 hf
      refine um_cVi (pc := 27) (As := [.int (x6 + (3 : Int32)), .int a2]) (rest := []) Cx (c_X9_becomes (x6 + (3 : Int32)) a2 hc7) kV_X9_becomes (Or.inl qM_X9_107) hW hS ms_0 rfl rfl hl rfl (Nat.le_of_ble_eq_true rfl) (Nat.le_of_ble_eq_true rfl) (Nat.le_of_ble_eq_true rfl) dX9_voids_27 (Nat.le_refl _) (Nat.le_refl _) ?_
      clear hW hS hc7
      intro H locs hW hS
      refine lv_goto (pc := 30) (tgt := 35) hx hb dX9_voids_30 (by decide) ?_
      exact um_iret (pc := 35) Cx hW hS hf dX9_voids_35
theorem c_X9_voids {σ : um_S} {σ' : um_S} {r : Int32} (a1 : Int32) (a2 : Int32)  (hf : f_X9_voids a1 a2 σ = some (r, σ')) : um_M l yX9_voids cX9_voids 3 (some FieldType.int) (2) (46) Z msh α σ [.ref (α 0), .int a1, .int a2] (some (.int r)) σ' :=
  um_start (by decide) (Nat.le_of_ble_eq_true rfl) (fun p e s m below meth c ls Cx hW hS hl => b_X9_voids a1 a2 hf Cx hW hS hl)
noncomputable def f_X9_way (a1 : Int32) (a2 : Int32) (a3 : Int32) (a4 : Int32) (σ : um_S) : Option (Int32 × um_S) :=
    (f_X9_isIn (a1.toInt64) (0 : Int64) (5 : Int64) σ).bind fun x2 =>
    (if (um_b x2) = 0 then
    (some ((-1000000001 : Int32), σ))
    else
    ((f_X9_isIn (a2.toInt64) (0 : Int64) (2 : Int64) σ).bind fun x4 =>
    (if (um_b x4) = 0 then
    (some ((-1000000001 : Int32), σ))
    else
    ((f_X9_isIn (a3.toInt64) (0 : Int64) (1 : Int64) σ).bind fun x6 =>
    (if (um_b x6) = 0 then
    (some ((-1000000001 : Int32), σ))
    else
    ((f_X9_isIn (a4.toInt64) (0 : Int64) (99 : Int64) σ).bind fun x8 =>
    (if (um_b x8) = 0 then
    (some ((-1000000001 : Int32), σ))
    else
    ((f_X9_wayAt a1 a2 σ).bind fun x10 =>
    (um_b2 (f_X9_becomes (x10 + a3) a4 σ) fun x13 σ12 =>
    (some (x13, σ12)))))))))))
set_option maxRecDepth 100000 in
set_option maxHeartbeats 4000000 in
theorem b_X9_way {H : Heap} {locs : List Loc} {ls : Array Slot} {σ : um_S} {σ' : um_S} {r : Int32} (a1 : Int32) (a2 : Int32) (a3 : Int32) (a4 : Int32)  (hf : f_X9_way a1 a2 a3 a4 σ = some (r, σ')) (Cx : um_C p s m meth c args cX9_way 5 (some FieldType.int) RX9 Z) (hW : um_W Z msh α σ H) (hS : va_S (um_D msh α) s.heap H locs) (hl : lv_has ls 5 [(0, .ref (α 0)), (1, .int a1), (2, .int a2), (3, .int a3), (4, .int a4)]) : um_G p l e (1) (25) s m args below meth c Z msh α σ' (some (.int r)) H locs (F0 m 0 ls []) := by
  have hx := Cx.1
  have hb := Cx.2.1
  have hown := Cx.2.2.2.2.1
  have hts := Cx.2.2.2.2.2.1
  rw [f_X9_way] at hf
  refine lv_iload_n (pc := 0) hx hb dX9_way_0 rfl (lv_at hl 1 rfl) ?_
  refine lv_i2l (pc := 1) hx hb dX9_way_1 rfl ?_
  refine lv_lconst (pc := 2) (v := (0 : Int64)) hx hb dX9_way_2 (by decide) ?_
  refine lv_ldc2 (pc := 3) hx hb hown (hts _ qL_X9_64) dX9_way_3 ?_
  obtain ⟨x2, hc1, hf⟩ := um_bi hf
  refine um_cSi (pc := 6) (As := [.long (a1.toInt64), .long (0 : Int64), .long (5 : Int64)]) (rest := []) Cx (c_X9_isIn (a1.toInt64) (0 : Int64) (5 : Int64) hc1) kS_X9_isIn (Or.inl qM_X9_60) hW hS rfl hl rfl (Nat.le_of_ble_eq_true rfl) (Nat.le_of_ble_eq_true rfl) (Nat.le_of_ble_eq_true rfl) dX9_way_6 (Nat.le_refl _) (Nat.le_refl _) ?_
  clear hW hS hc1
  intro H locs hW hS
  refine lv_if_eq (pc := 9) (tgt := 63) hx hb dX9_way_9 (by decide) (fun c1 => ?_) (fun c1 => ?_)
  · have hf := um_it c1 hf
    clear c1
    refine lv_ldc (pc := 63) hx hb hown (hts _ qC_X9_87) dX9_way_63 ?_
    exact um_iret (pc := 65) Cx hW hS hf dX9_way_65
  · have hf := um_ie c1 hf
    clear c1
    refine lv_iload_n (pc := 12) hx hb dX9_way_12 rfl (lv_at hl 2 rfl) ?_
    refine lv_i2l (pc := 13) hx hb dX9_way_13 rfl ?_
    refine lv_lconst (pc := 14) (v := (0 : Int64)) hx hb dX9_way_14 (by decide) ?_
    refine lv_ldc2 (pc := 15) hx hb hown (hts _ qL_X9_241) dX9_way_15 ?_
    obtain ⟨x4, hc3, hf⟩ := um_bi hf
    refine um_cSi (pc := 18) (As := [.long (a2.toInt64), .long (0 : Int64), .long (2 : Int64)]) (rest := []) Cx (c_X9_isIn (a2.toInt64) (0 : Int64) (2 : Int64) hc3) kS_X9_isIn (Or.inl qM_X9_60) hW hS rfl hl rfl (Nat.le_of_ble_eq_true rfl) (Nat.le_of_ble_eq_true rfl) (Nat.le_of_ble_eq_true rfl) dX9_way_18 (Nat.le_refl _) (Nat.le_refl _) ?_
    clear hW hS hc3
    intro H locs hW hS
    refine lv_if_eq (pc := 21) (tgt := 63) hx hb dX9_way_21 (by decide) (fun c1 => ?_) (fun c1 => ?_)
    · have hf := um_it c1 hf
      clear c1
      refine lv_ldc (pc := 63) hx hb hown (hts _ qC_X9_87) dX9_way_63 ?_
      exact um_iret (pc := 65) Cx hW hS hf dX9_way_65
    · have hf := um_ie c1 hf
      clear c1
      refine lv_iload_n (pc := 24) hx hb dX9_way_24 rfl (lv_at hl 3 rfl) ?_
      refine lv_i2l (pc := 25) hx hb dX9_way_25 rfl ?_
      refine lv_lconst (pc := 26) (v := (0 : Int64)) hx hb dX9_way_26 (by decide) ?_
      refine lv_lconst (pc := 27) (v := (1 : Int64)) hx hb dX9_way_27 (by decide) ?_
      obtain ⟨x6, hc5, hf⟩ := um_bi hf
      refine um_cSi (pc := 28) (As := [.long (a3.toInt64), .long (0 : Int64), .long (1 : Int64)]) (rest := []) Cx (c_X9_isIn (a3.toInt64) (0 : Int64) (1 : Int64) hc5) kS_X9_isIn (Or.inl qM_X9_60) hW hS rfl hl rfl (Nat.le_of_ble_eq_true rfl) (Nat.le_of_ble_eq_true rfl) (Nat.le_of_ble_eq_true rfl) dX9_way_28 (Nat.le_refl _) (Nat.le_refl _) ?_
      clear hW hS hc5
      intro H locs hW hS
      refine lv_if_eq (pc := 31) (tgt := 63) hx hb dX9_way_31 (by decide) (fun c1 => ?_) (fun c1 => ?_)
      · have hf := um_it c1 hf
        clear c1
        refine lv_ldc (pc := 63) hx hb hown (hts _ qC_X9_87) dX9_way_63 ?_
        exact um_iret (pc := 65) Cx hW hS hf dX9_way_65
      · have hf := um_ie c1 hf
        clear c1
        refine lv_iload (pc := 34) hx hb dX9_way_34 (lv_at hl 4 rfl) ?_
        refine lv_i2l (pc := 36) hx hb dX9_way_36 rfl ?_
        refine lv_lconst (pc := 37) (v := (0 : Int64)) hx hb dX9_way_37 (by decide) ?_
        refine lv_ldc2 (pc := 38) hx hb hown (hts _ qL_X9_127) dX9_way_38 ?_
        obtain ⟨x8, hc7, hf⟩ := um_bi hf
        refine um_cSi (pc := 41) (As := [.long (a4.toInt64), .long (0 : Int64), .long (99 : Int64)]) (rest := []) Cx (c_X9_isIn (a4.toInt64) (0 : Int64) (99 : Int64) hc7) kS_X9_isIn (Or.inl qM_X9_60) hW hS rfl hl rfl (Nat.le_of_ble_eq_true rfl) (Nat.le_of_ble_eq_true rfl) (Nat.le_of_ble_eq_true rfl) dX9_way_41 (Nat.le_refl _) (Nat.le_refl _) ?_
        clear hW hS hc7
        intro H locs hW hS
        refine lv_if_eq (pc := 44) (tgt := 63) hx hb dX9_way_44 (by decide) (fun c1 => ?_) (fun c1 => ?_)
        · have hf := um_it c1 hf
          clear c1
          refine lv_ldc (pc := 63) hx hb hown (hts _ qC_X9_87) dX9_way_63 ?_
          exact um_iret (pc := 65) Cx hW hS hf dX9_way_65
        · have hf := um_ie c1 hf
          clear c1
          refine lv_aload_n (pc := 47) hx hb dX9_way_47 rfl (lv_at hl 0 rfl) ?_
          refine lv_iload_n (pc := 48) hx hb dX9_way_48 rfl (lv_at hl 1 rfl) ?_
          refine lv_iload_n (pc := 49) hx hb dX9_way_49 rfl (lv_at hl 2 rfl) ?_
          obtain ⟨x10, hc9, hf⟩ := um_bi hf
          refine um_cSi (pc := 50) (As := [.int a1, .int a2]) (rest := [.ref (α 0)]) Cx (c_X9_wayAt a1 a2 hc9) kS_X9_wayAt (Or.inl qM_X9_368) hW hS rfl hl rfl (Nat.le_of_ble_eq_true rfl) (Nat.le_of_ble_eq_true rfl) (Nat.le_of_ble_eq_true rfl) dX9_way_50 (Nat.le_refl _) (Nat.le_refl _) ?_
          clear hW hS hc9
          intro H locs hW hS
          refine lv_iload_n (pc := 53) hx hb dX9_way_53 rfl (lv_at hl 3 rfl) ?_
          refine lv_iadd (pc := 54) hx hb dX9_way_54 ?_
          refine lv_iload (pc := 55) hx hb dX9_way_55 (lv_at hl 4 rfl) ?_
          obtain ⟨x13, σ12, hc11, hf⟩ := um_bi2 hf
          refine um_cVi (pc := 57) (As := [.int (x10 + a3), .int a4]) (rest := []) Cx (c_X9_becomes (x10 + a3) a4 hc11) kV_X9_becomes (Or.inl qM_X9_107) hW hS ms_0 rfl rfl hl rfl (Nat.le_of_ble_eq_true rfl) (Nat.le_of_ble_eq_true rfl) (Nat.le_of_ble_eq_true rfl) dX9_way_57 (Nat.le_refl _) (Nat.le_refl _) ?_
          clear hW hS hc11
          intro H locs hW hS
          refine lv_goto (pc := 60) (tgt := 65) hx hb dX9_way_60 (by decide) ?_
          exact um_iret (pc := 65) Cx hW hS hf dX9_way_65
theorem c_X9_way {σ : um_S} {σ' : um_S} {r : Int32} (a1 : Int32) (a2 : Int32) (a3 : Int32) (a4 : Int32)  (hf : f_X9_way a1 a2 a3 a4 σ = some (r, σ')) : um_M l yX9_way cX9_way 5 (some FieldType.int) (1) (25) Z msh α σ [.ref (α 0), .int a1, .int a2, .int a3, .int a4] (some (.int r)) σ' :=
  um_start (by decide) (Nat.le_of_ble_eq_true rfl) (fun p e s m below meth c ls Cx hW hS hl => b_X9_way a1 a2 a3 a4 hf Cx hW hS hl)
noncomputable def f_X9_why (a1 : Int32) (σ : um_S) : Option (Int32) :=
    (f_X9_isIn (a1.toInt64) (0 : Int64) (4 : Int64) σ).bind fun x2 =>
    (if (um_b x2) = 0 then
    (some (-1000000001 : Int32))
    else
    ((f_X9_counts a1 σ).bind fun x4 =>
    ((f_X9_orNone x4 σ).bind fun x6 =>
    (some x6))))
set_option maxRecDepth 100000 in
set_option maxHeartbeats 4000000 in
theorem b_X9_why {H : Heap} {locs : List Loc} {ls : Array Slot} {σ : um_S} {r : Int32} (a1 : Int32)  (hf : f_X9_why a1 σ = some r) (Cx : um_C p s m meth c args cX9_why 2 (some FieldType.int) RX9 Z) (hW : um_W Z msh α σ H) (hS : va_S (um_D msh α) s.heap H locs) (hl : lv_has ls 2 [(0, .ref (α 0)), (1, .int a1)]) : um_G p l e (2) (45) s m args below meth c Z msh α σ (some (.int r)) H locs (F0 m 0 ls []) := by
  have hx := Cx.1
  have hb := Cx.2.1
  have hown := Cx.2.2.2.2.1
  have hts := Cx.2.2.2.2.2.1
  rw [f_X9_why] at hf
  refine lv_iload_n (pc := 0) hx hb dX9_why_0 rfl (lv_at hl 1 rfl) ?_
  refine lv_i2l (pc := 1) hx hb dX9_why_1 rfl ?_
  refine lv_lconst (pc := 2) (v := (0 : Int64)) hx hb dX9_why_2 (by decide) ?_
  refine lv_ldc2 (pc := 3) hx hb hown (hts _ qL_X9_80) dX9_why_3 ?_
  obtain ⟨x2, hc1, hf⟩ := um_bi hf
  refine um_cSi (pc := 6) (As := [.long (a1.toInt64), .long (0 : Int64), .long (4 : Int64)]) (rest := []) Cx (c_X9_isIn (a1.toInt64) (0 : Int64) (4 : Int64) hc1) kS_X9_isIn (Or.inl qM_X9_60) hW hS rfl hl rfl (Nat.le_of_ble_eq_true rfl) (Nat.le_of_ble_eq_true rfl) (Nat.le_of_ble_eq_true rfl) dX9_why_6 (Nat.le_refl _) (Nat.le_refl _) ?_
  clear hW hS hc1
  intro H locs hW hS
  refine lv_if_eq (pc := 9) (tgt := 23) hx hb dX9_why_9 (by decide) (fun c1 => ?_) (fun c1 => ?_)
  · have hf := um_it c1 hf
    clear c1
    refine lv_ldc (pc := 23) hx hb hown (hts _ qC_X9_87) dX9_why_23 ?_
    exact um_iretR (pc := 25) Cx hW hS hf dX9_why_25
  · have hf := um_ie c1 hf
    clear c1
    refine lv_aload_n (pc := 12) hx hb dX9_why_12 rfl (lv_at hl 0 rfl) ?_
    refine lv_iload_n (pc := 13) hx hb dX9_why_13 rfl (lv_at hl 1 rfl) ?_
    obtain ⟨x4, hc3, hf⟩ := um_bi hf
    refine um_cVi (pc := 14) (As := [.int a1]) (rest := []) Cx (c_X9_counts a1 hc3) kV_X9_counts (Or.inl qM_X9_243) hW hS ms_0 rfl rfl hl rfl (Nat.le_of_ble_eq_true rfl) (Nat.le_of_ble_eq_true rfl) (Nat.le_of_ble_eq_true rfl) dX9_why_14 (Nat.le_refl _) (Nat.le_refl _) ?_
    clear hW hS hc3
    intro H locs hW hS
    obtain ⟨x6, hc5, hf⟩ := um_bi hf
    refine um_cSi (pc := 17) (As := [.int x4]) (rest := []) Cx (c_X9_orNone x4 hc5) kS_X9_orNone (Or.inl qM_X9_119) hW hS rfl hl rfl (Nat.le_of_ble_eq_true rfl) (Nat.le_of_ble_eq_true rfl) (Nat.le_of_ble_eq_true rfl) dX9_why_17 (Nat.le_refl _) (Nat.le_refl _) ?_
    clear hW hS hc5
    intro H locs hW hS
    refine lv_goto (pc := 20) (tgt := 25) hx hb dX9_why_20 (by decide) ?_
    exact um_iretR (pc := 25) Cx hW hS hf dX9_why_25
theorem c_X9_why {σ : um_S} {r : Int32} (a1 : Int32)  (hf : f_X9_why a1 σ = some r) : um_M l yX9_why cX9_why 2 (some FieldType.int) (2) (45) Z msh α σ [.ref (α 0), .int a1] (some (.int r)) σ :=
  um_start (by decide) (Nat.le_of_ble_eq_true rfl) (fun p e s m below meth c ls Cx hW hS hl => b_X9_why a1 hf Cx hW hS hl)
