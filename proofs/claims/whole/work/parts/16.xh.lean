variable {p : Program} {l : Launch} {e : Env} {s : State} {m : MethodId} {args : Array Value} {below : List Frame} {meth : Method} {c : Code} {Z : um_Z} {α : Nat → Nat} {sh : Nat → Option um_Sh}
noncomputable def f_X8_caught (a1 : Int32) (σ : um_S) : Option (Int32 × um_S) :=
    (f_X5_holds (20 * 1 + 1) a1 σ).bind fun x2 =>
    (if (um_b x2) = 0 then
    (some ((-1000000001 : Int32), σ))
    else
    ((f_X5_get (20 * 1 + 1) a1 (5 : Int32) σ).bind fun x4 =>
    (if x4 = (7 : Int32) then
    ((f_X4_isDead 1 a1 σ).bind fun x6 =>
    (if (um_b x6) = 0 then
    ((f_X5_get (20 * 1 + 1) a1 (6 : Int32) σ).bind fun x8 =>
    ((f_X5_set (20 * 1 + 1) a1 (4 : Int32) x8 σ).bind fun σ10 =>
    (um_b2 (f_X4_ironsForOneMore 1 a1 (3 : Int32) σ10) fun x13 σ12 =>
    (um_let (if (1 : Int32) < x13 then x13 else (1 : Int32)) fun x14 =>
    ((f_X4_become 1 a1 (3 : Int32) ((σ12.1 1 12) + x14) σ12).bind fun σ17 =>
    (some ((σ17.1 1 12) + x14, σ17)))))))
    else
    (some ((-1000000002 : Int32), σ))))
    else
    (some ((-1000000012 : Int32), σ)))))
set_option maxRecDepth 100000 in
set_option maxHeartbeats 4000000 in
theorem b_X8_caught {H : Heap} {locs : List Loc} {ls : Array Slot} {σ : um_S} {σ' : um_S} {r : Int32} (a1 : Int32) (hX : um_X sh) (hf : f_X8_caught a1 σ = some (r, σ')) (Cx : um_C p s m meth c args cX8_caught 3 (some FieldType.int) RX8 Z) (hW : um_W Z sh α σ H) (hS : va_S (um_D sh α) s.heap H locs) (hl : lv_has ls 3 [(0, .ref (α 0)), (1, .int a1)]) : um_G p l e (4) (101) s m args below meth c Z sh α σ' (some (.int r)) H locs (F0 m 0 ls []) := by
  have hx := Cx.1
  have hb := Cx.2.1
  have hown := Cx.2.2.2.2.1
  have hts := Cx.2.2.2.2.2.1
  rw [f_X8_caught] at hf
  refine lv_aload_n (pc := 0) hx hb dX8_caught_0 rfl (lv_at hl 0 rfl) ?_
  refine gF_X8_10 (pc := 1) Cx hW (hX 0 _ rfl) rfl dX8_caught_1 ?_
  refine gF_X8_77 (pc := 4) Cx hW (xs_shore hX (Or.inl rfl)) rfl dX8_caught_4 ?_
  refine lv_iload_n (pc := 7) hx hb dX8_caught_7 rfl (lv_at hl 1 rfl) ?_
  obtain ⟨x2, hc1, hf⟩ := um_bi hf
  refine um_cVi (pc := 8) (As := [.int a1]) (rest := []) Cx (c_X5_holds (20 * 1 + 1) a1 (xs_ht (Or.inl rfl) 1 rfl) hX hc1) kV_X5_holds (Or.inl qM_X8_70) hW hS (xs_tab hX (xs_ht (Or.inl rfl) 1 rfl)) rfl rfl hl rfl (Nat.le_of_ble_eq_true rfl) (Nat.le_of_ble_eq_true rfl) (Nat.le_of_ble_eq_true rfl) dX8_caught_8 (Nat.le_refl _) (Nat.le_refl _) ?_
  clear hW hS hc1
  intro H locs hW hS
  refine lv_if_ne (pc := 11) (tgt := 17) hx hb dX8_caught_11 (by decide) (fun c1 => ?_) (fun c1 => ?_)
  · have hf := um_ie c1 hf
    clear c1
    refine lv_aload_n (pc := 17) hx hb dX8_caught_17 rfl (lv_at hl 0 rfl) ?_
    refine gF_X8_10 (pc := 18) Cx hW (hX 0 _ rfl) rfl dX8_caught_18 ?_
    refine gF_X8_77 (pc := 21) Cx hW (xs_shore hX (Or.inl rfl)) rfl dX8_caught_21 ?_
    refine lv_iload_n (pc := 24) hx hb dX8_caught_24 rfl (lv_at hl 1 rfl) ?_
    refine lv_iconst (pc := 25) (v := (5 : Int32)) hx hb dX8_caught_25 (by decide) ?_
    obtain ⟨x4, hc3, hf⟩ := um_bi hf
    refine um_cVi (pc := 26) (As := [.int a1, .int (5 : Int32)]) (rest := []) Cx (c_X5_get (20 * 1 + 1) a1 (5 : Int32) (xs_ht (Or.inl rfl) 1 rfl) hX hc3) kV_X5_get (Or.inl qM_X8_73) hW hS (xs_tab hX (xs_ht (Or.inl rfl) 1 rfl)) rfl rfl hl rfl (Nat.le_of_ble_eq_true rfl) (Nat.le_of_ble_eq_true rfl) (Nat.le_of_ble_eq_true rfl) dX8_caught_26 (Nat.le_refl _) (Nat.le_refl _) ?_
    clear hW hS hc3
    intro H locs hW hS
    refine lv_bipush (pc := 29) (v := (7 : Int32)) hx hb dX8_caught_29 (by decide) ?_
    refine lv_icmp_eq (pc := 31) (tgt := 37) hx hb dX8_caught_31 (by decide) (fun c1 => ?_) (fun c1 => ?_)
    · have hf := um_it c1 hf
      clear c1
      refine lv_aload_n (pc := 37) hx hb dX8_caught_37 rfl (lv_at hl 0 rfl) ?_
      refine gF_X8_10 (pc := 38) Cx hW (hX 0 _ rfl) rfl dX8_caught_38 ?_
      refine lv_iload_n (pc := 41) hx hb dX8_caught_41 rfl (lv_at hl 1 rfl) ?_
      obtain ⟨x6, hc5, hf⟩ := um_bi hf
      refine um_cVi (pc := 42) (As := [.int a1]) (rest := []) Cx (c_X4_isDead 1 a1 (Or.inl rfl) hX hc5) kV_X4_isDead (Or.inl qM_X8_102) hW hS (xs_shore hX (Or.inl rfl)) rfl rfl hl rfl (Nat.le_of_ble_eq_true rfl) (Nat.le_of_ble_eq_true rfl) (Nat.le_of_ble_eq_true rfl) dX8_caught_42 (Nat.le_refl _) (Nat.le_refl _) ?_
      clear hW hS hc5
      intro H locs hW hS
      refine lv_if_eq (pc := 45) (tgt := 51) hx hb dX8_caught_45 (by decide) (fun c1 => ?_) (fun c1 => ?_)
      · have hf := um_it c1 hf
        clear c1
        refine lv_aload_n (pc := 51) hx hb dX8_caught_51 rfl (lv_at hl 0 rfl) ?_
        refine gF_X8_10 (pc := 52) Cx hW (hX 0 _ rfl) rfl dX8_caught_52 ?_
        refine gF_X8_77 (pc := 55) Cx hW (xs_shore hX (Or.inl rfl)) rfl dX8_caught_55 ?_
        refine lv_iload_n (pc := 58) hx hb dX8_caught_58 rfl (lv_at hl 1 rfl) ?_
        refine lv_iconst (pc := 59) (v := (4 : Int32)) hx hb dX8_caught_59 (by decide) ?_
        refine lv_aload_n (pc := 60) hx hb dX8_caught_60 rfl (lv_at hl 0 rfl) ?_
        refine gF_X8_10 (pc := 61) Cx hW (hX 0 _ rfl) rfl dX8_caught_61 ?_
        refine gF_X8_77 (pc := 64) Cx hW (xs_shore hX (Or.inl rfl)) rfl dX8_caught_64 ?_
        refine lv_iload_n (pc := 67) hx hb dX8_caught_67 rfl (lv_at hl 1 rfl) ?_
        refine lv_bipush (pc := 68) (v := (6 : Int32)) hx hb dX8_caught_68 (by decide) ?_
        obtain ⟨x8, hc7, hf⟩ := um_bi hf
        refine um_cVi (pc := 70) (As := [.int a1, .int (6 : Int32)]) (rest := [.int (4 : Int32), .int a1, .ref (α (20 * 1 + 1))]) Cx (c_X5_get (20 * 1 + 1) a1 (6 : Int32) (xs_ht (Or.inl rfl) 1 rfl) hX hc7) kV_X5_get (Or.inl qM_X8_73) hW hS (xs_tab hX (xs_ht (Or.inl rfl) 1 rfl)) rfl rfl hl rfl (Nat.le_of_ble_eq_true rfl) (Nat.le_of_ble_eq_true rfl) (Nat.le_of_ble_eq_true rfl) dX8_caught_70 (Nat.le_refl _) (Nat.le_refl _) ?_
        clear hW hS hc7
        intro H locs hW hS
        obtain ⟨σ10, hc9, hf⟩ := um_bi hf
        refine um_cVv (pc := 73) (As := [.int a1, .int (4 : Int32), .int x8]) (rest := []) Cx (c_X5_set (20 * 1 + 1) a1 (4 : Int32) x8 (xs_ht (Or.inl rfl) 1 rfl) hX hc9) kV_X5_set (Or.inl qM_X8_105) hW hS (xs_tab hX (xs_ht (Or.inl rfl) 1 rfl)) rfl rfl hl rfl (Nat.le_of_ble_eq_true rfl) (Nat.le_of_ble_eq_true rfl) (Nat.le_of_ble_eq_true rfl) dX8_caught_73 (Nat.le_refl _) (Nat.le_refl _) ?_
        clear hW hS hc9
        intro H locs hW hS
        refine lv_iconst (pc := 76) (v := (1 : Int32)) hx hb dX8_caught_76 (by decide) ?_
        refine lv_aload_n (pc := 77) hx hb dX8_caught_77 rfl (lv_at hl 0 rfl) ?_
        refine gF_X8_10 (pc := 78) Cx hW (hX 0 _ rfl) rfl dX8_caught_78 ?_
        refine lv_iload_n (pc := 81) hx hb dX8_caught_81 rfl (lv_at hl 1 rfl) ?_
        refine lv_iconst (pc := 82) (v := (3 : Int32)) hx hb dX8_caught_82 (by decide) ?_
        obtain ⟨x13, σ12, hc11, hf⟩ := um_bi2 hf
        refine um_cVi (pc := 83) (As := [.int a1, .int (3 : Int32)]) (rest := [.int (1 : Int32)]) Cx (c_X4_ironsForOneMore 1 a1 (3 : Int32) (Or.inl rfl) hX hc11) kV_X4_ironsForOneMore (Or.inl qM_X8_185) hW hS (xs_shore hX (Or.inl rfl)) rfl rfl hl rfl (Nat.le_of_ble_eq_true rfl) (Nat.le_of_ble_eq_true rfl) (Nat.le_of_ble_eq_true rfl) dX8_caught_83 (Nat.le_refl _) (Nat.le_refl _) ?_
        clear hW hS hc11
        intro H locs hW hS
        refine va_mmax (pc := 86) (rest := []) hx hb (Cx.2.2.2.1.trans hl.1.symm) hown (hts _ qM_X8_188) (hts _ qT_J9_max_7cf53) (hts _ qN_J9) (hts _ qK_J9_max_7cf53) (Nat.le_of_ble_eq_true rfl) (Nat.le_of_ble_eq_true rfl) (Nat.le_refl _) (Nat.le_refl _) dX8_caught_86 ?_
        obtain ⟨x14, e15, hf⟩ := um_le hf
        refine um_top e15 ?_
        clear e15
        refine lv_istore_n (pc := 89) (lv' := [(2, .int x14), (0, .ref (α 0)), (1, .int a1)]) hx hb dX8_caught_89 rfl hl (by decide) rfl ?_
        clear hl
        intro ls hl
        refine lv_aload_n (pc := 90) hx hb dX8_caught_90 rfl (lv_at hl 1 rfl) ?_
        refine gF_X8_10 (pc := 91) Cx hW (hX 0 _ rfl) rfl dX8_caught_91 ?_
        refine lv_iload_n (pc := 94) hx hb dX8_caught_94 rfl (lv_at hl 2 rfl) ?_
        refine lv_iconst (pc := 95) (v := (3 : Int32)) hx hb dX8_caught_95 (by decide) ?_
        refine lv_aload_n (pc := 96) hx hb dX8_caught_96 rfl (lv_at hl 1 rfl) ?_
        refine gF_X8_10 (pc := 97) Cx hW (hX 0 _ rfl) rfl dX8_caught_97 ?_
        refine gF_X8_51 (pc := 100) Cx hW (xs_shore hX (Or.inl rfl)) rfl dX8_caught_100 ?_
        refine lv_iload_n (pc := 103) hx hb dX8_caught_103 rfl (lv_at hl 0 rfl) ?_
        refine lv_iadd (pc := 104) hx hb dX8_caught_104 ?_
        obtain ⟨σ17, hc16, hf⟩ := um_bi hf
        refine um_cVv (pc := 105) (As := [.int a1, .int (3 : Int32), .int ((σ12.1 1 12) + x14)]) (rest := []) Cx (c_X4_become 1 a1 (3 : Int32) ((σ12.1 1 12) + x14) (Or.inl rfl) hX hc16) kV_X4_become (Or.inl qM_X8_173) hW hS (xs_shore hX (Or.inl rfl)) rfl rfl hl rfl (Nat.le_of_ble_eq_true rfl) (Nat.le_of_ble_eq_true rfl) (Nat.le_of_ble_eq_true rfl) dX8_caught_105 (Nat.le_refl _) (Nat.le_refl _) ?_
        clear hW hS hc16
        intro H locs hW hS
        refine lv_aload_n (pc := 108) hx hb dX8_caught_108 rfl (lv_at hl 1 rfl) ?_
        refine gF_X8_10 (pc := 109) Cx hW (hX 0 _ rfl) rfl dX8_caught_109 ?_
        refine gF_X8_51 (pc := 112) Cx hW (xs_shore hX (Or.inl rfl)) rfl dX8_caught_112 ?_
        refine lv_iload_n (pc := 115) hx hb dX8_caught_115 rfl (lv_at hl 0 rfl) ?_
        refine lv_iadd (pc := 116) hx hb dX8_caught_116 ?_
        exact um_iret (pc := 117) Cx hW hS hf dX8_caught_117
      · have hf := um_ie c1 hf
        clear c1
        refine lv_ldc (pc := 48) hx hb hown (hts _ qC_X8_88) dX8_caught_48 ?_
        exact um_iret (pc := 50) Cx hW hS hf dX8_caught_50
    · have hf := um_ie c1 hf
      clear c1
      refine lv_ldc (pc := 34) hx hb hown (hts _ qC_X8_101) dX8_caught_34 ?_
      exact um_iret (pc := 36) Cx hW hS hf dX8_caught_36
  · have hf := um_it c1 hf
    clear c1
    refine lv_ldc (pc := 14) hx hb hown (hts _ qC_X8_59) dX8_caught_14 ?_
    exact um_iret (pc := 16) Cx hW hS hf dX8_caught_16
theorem c_X8_caught {σ : um_S} {σ' : um_S} {r : Int32} (a1 : Int32) (hX : um_X sh) (hf : f_X8_caught a1 σ = some (r, σ')) : um_M l yX8_caught cX8_caught 3 (some FieldType.int) (4) (101) Z sh α σ [.ref (α 0), .int a1] (some (.int r)) σ' :=
  um_start (by decide) (Nat.le_of_ble_eq_true rfl) (fun p e s m below meth c ls Cx hW hS hl => b_X8_caught a1 hX hf Cx hW hS hl)
noncomputable def f_X8_waited (a1 : Int32) (a2 : Int32) (a3 : Int32) (σ : um_S) : Option (Bool) :=
    if a1 < 0 then
    (some false)
    else
    (if a2 ≤ a1 then
    (some false)
    else
    (if (nI 60) ≤ a1 then
    (some false)
    else
    (if um_ix a1 60 then
    (if (σ.1 7 a1.toNatClampNeg) = a3 then
    (some true)
    else
    (some false)) else none)))
set_option maxRecDepth 100000 in
set_option maxHeartbeats 4000000 in
theorem b_X8_waited {H : Heap} {locs : List Loc} {ls : Array Slot} {σ : um_S} {r : Bool} (a1 : Int32) (a2 : Int32) (a3 : Int32) (hX : um_X sh) (hf : f_X8_waited a1 a2 a3 σ = some r) (Cx : um_C p s m meth c args cX8_waited 4 (some FieldType.boolean) RX8 Z) (hW : um_W Z sh α σ H) (hS : va_S (um_D sh α) s.heap H locs) (hl : lv_has ls 4 [(0, .ref (α 0)), (1, .int a1), (2, .int a2), (3, .int a3)]) : um_G p l e (0) (0) s m args below meth c Z sh α σ (some (.int (um_b r))) H locs (F0 m 0 ls []) := by
  have hx := Cx.1
  have hb := Cx.2.1
  have hown := Cx.2.2.2.2.1
  have hts := Cx.2.2.2.2.2.1
  rw [f_X8_waited] at hf
  refine lv_iload_n (pc := 0) hx hb dX8_waited_0 rfl (lv_at hl 1 rfl) ?_
  refine lv_if_lt (pc := 1) (tgt := 32) hx hb dX8_waited_1 (by decide) (fun c1 => ?_) (fun c1 => ?_)
  · have hf := um_it c1 hf
    clear c1
    refine lv_iconst (pc := 32) (v := (0 : Int32)) hx hb dX8_waited_32 (by decide) ?_
    exact um_zretR (pc := 33) Cx hW hS hf rfl dX8_waited_33
  · have hf := um_ie c1 hf
    clear c1
    refine lv_iload_n (pc := 4) hx hb dX8_waited_4 rfl (lv_at hl 1 rfl) ?_
    refine lv_iload_n (pc := 5) hx hb dX8_waited_5 rfl (lv_at hl 2 rfl) ?_
    refine lv_icmp_ge (pc := 6) (tgt := 32) hx hb dX8_waited_6 (by decide) (fun c1 => ?_) (fun c1 => ?_)
    · have hf := um_it c1 hf
      clear c1
      refine lv_iconst (pc := 32) (v := (0 : Int32)) hx hb dX8_waited_32 (by decide) ?_
      exact um_zretR (pc := 33) Cx hW hS hf rfl dX8_waited_33
    · have hf := um_ie c1 hf
      clear c1
      refine lv_iload_n (pc := 9) hx hb dX8_waited_9 rfl (lv_at hl 1 rfl) ?_
      refine lv_aload_n (pc := 10) hx hb dX8_waited_10 rfl (lv_at hl 0 rfl) ?_
      refine gF_X8_43 (pc := 11) Cx hW (hX 0 _ rfl) rfl dX8_waited_11 ?_
      refine um_alen (pc := 14) (n := 60) Cx hW (hX 7 _ rfl) rfl (by decide) dX8_waited_14 ?_
      refine lv_icmp_ge (pc := 15) (tgt := 32) hx hb dX8_waited_15 (by decide) (fun c1 => ?_) (fun c1 => ?_)
      · have hf := um_it c1 hf
        clear c1
        refine lv_iconst (pc := 32) (v := (0 : Int32)) hx hb dX8_waited_32 (by decide) ?_
        exact um_zretR (pc := 33) Cx hW hS hf rfl dX8_waited_33
      · have hf := um_ie c1 hf
        clear c1
        refine lv_aload_n (pc := 18) hx hb dX8_waited_18 rfl (lv_at hl 0 rfl) ?_
        refine gF_X8_43 (pc := 19) Cx hW (hX 0 _ rfl) rfl dX8_waited_19 ?_
        refine lv_iload_n (pc := 22) hx hb dX8_waited_22 rfl (lv_at hl 1 rfl) ?_
        obtain ⟨g1, hf⟩ := um_gu hf
        refine um_iald (pc := 23) Cx hW (hX 7 _ rfl) rfl (um_ix_in g1) dX8_waited_23 ?_
        refine lv_iload_n (pc := 24) hx hb dX8_waited_24 rfl (lv_at hl 3 rfl) ?_
        refine lv_icmp_ne (pc := 25) (tgt := 32) hx hb dX8_waited_25 (by decide) (fun c1 => ?_) (fun c1 => ?_)
        · have hf := um_ie c1 hf
          clear c1
          refine lv_iconst (pc := 32) (v := (0 : Int32)) hx hb dX8_waited_32 (by decide) ?_
          exact um_zretR (pc := 33) Cx hW hS hf rfl dX8_waited_33
        · have hf := um_it c1 hf
          clear c1
          refine lv_iconst (pc := 28) (v := (1 : Int32)) hx hb dX8_waited_28 (by decide) ?_
          refine lv_goto (pc := 29) (tgt := 33) hx hb dX8_waited_29 (by decide) ?_
          exact um_zretR (pc := 33) Cx hW hS hf rfl dX8_waited_33
theorem c_X8_waited {σ : um_S} {r : Bool} (a1 : Int32) (a2 : Int32) (a3 : Int32) (hX : um_X sh) (hf : f_X8_waited a1 a2 a3 σ = some r) : um_M l yX8_waited cX8_waited 4 (some FieldType.boolean) (0) (0) Z sh α σ [.ref (α 0), .int a1, .int a2, .int a3] (some (.int (um_b r))) σ :=
  um_start (by decide) (Nat.le_of_ble_eq_true rfl) (fun p e s m below meth c ls Cx hW hS hl => b_X8_waited a1 a2 a3 hX hf Cx hW hS hl)
noncomputable def f_X8_check_l46 (v1 : Int32) (v2 : Int32) : Nat → Int32 → um_S → Option ((Int32 × um_S) ⊕ (um_S))
  | 0, _, _ => none
  | n + 1, v3, σ =>
    if v1 ≤ v3 then
    (some (.inr σ))
    else
    ((f_X4_passWeek 3 σ).bind fun σ2 =>
    ((f_X4_liveMarks 3 σ2).bind fun x4 =>
    ((f_X8_waited ((2 : Int32) * v3) v2 x4 σ2).bind fun x6 =>
    (if (um_b x6) = 0 then
    (some (.inl ((1 : Int32) + ((2 : Int32) * v3), σ2)))
    else
    ((f_X4_inBanks 3 σ2).bind fun x8 =>
    ((f_X8_waited (((2 : Int32) * v3) + (1 : Int32)) v2 x8 σ2).bind fun x10 =>
    (if (um_b x10) = 0 then
    (some (.inl ((2 : Int32) + ((2 : Int32) * v3), σ2)))
    else
    (f_X8_check_l46 v1 v2 n (v3 + (1 : Int32)) σ2))))))))
noncomputable def f_X8_check (a1 : Int32) (σ : um_S) : Option (Int32 × um_S) :=
    um_let (σ.1 0 8) fun x1 =>
    (um_let (um_wr σ 0 8 (0 : Int32)) fun σ3 =>
    ((f_X8_within a1 (1 : Int32) (30 : Int32) σ3).bind fun x6 =>
    (if (um_b x6) = 0 then
    (some ((-1000000001 : Int32), σ3))
    else
    (if (σ3.1 0 3) = 0 then
    (some ((-1000000002 : Int32), σ3))
    else
    ((f_X4_becomeAs 3 2 σ3).bind fun σ8 =>
    (um_s1 (f_X8_check_l46 a1 x1 um_N (0 : Int32) σ8) fun σ9 =>
    (if x1 = ((2 : Int32) * a1) then
    (some ((0 : Int32), σ9))
    else
    (some ((1 : Int32) + ((2 : Int32) * a1), σ9)))))))))
set_option maxRecDepth 100000 in
set_option maxHeartbeats 4000000 in
theorem t_X8_check_l46 {σ' : um_S} {r : Int32} {out : (Int32 × um_S) ⊕ (um_S)}  (v1 : Int32) (v2 : Int32) (hX : um_X sh) (Cx : um_C p s m meth c args cX8_check 4 (some FieldType.int) RX8 Z) (hR : ∀ a, out = .inl a → some a = some (r, σ')) (hE : ∀ (σo : um_S), out = .inr σo → ∀ (H : Heap) (locs : List Loc) (ls : Array Slot), um_W Z sh α σo H → va_S (um_D sh α) s.heap H locs → lv_has ls 4 [(1, .int v1), (2, .int v2)] → um_G p l e (6) (145) s m args below meth c Z sh α σ' (some (.int r)) H locs (F0 m 114 ls [])) : ∀ (n : Nat) (v3 : Int32) (σ : um_S) (H : Heap) (locs : List Loc) (ls : Array Slot), f_X8_check_l46 v1 v2 n v3 σ = some out → um_W Z sh α σ H → va_S (um_D sh α) s.heap H locs → lv_has ls 4 [(0, .ref (α 0)), (1, .int v1), (2, .int v2), (3, .int v3)] → um_G p l e (6) (145) s m args below meth c Z sh α σ' (some (.int r)) H locs (F0 m 46 ls []) := by
  have hx := Cx.1
  have hb := Cx.2.1
  have hown := Cx.2.2.2.2.1
  have hts := Cx.2.2.2.2.2.1
  intro n
  induction n with
  | zero =>
    intro v3 σ H locs ls hf hW hS hl
    cases hf
  | succ n ih =>
    intro v3 σ H locs ls hf hW hS hl
    rw [f_X8_check_l46] at hf
    refine lv_iload_n (pc := 46) hx hb dX8_check_46 rfl (lv_at hl 3 rfl) ?_
    refine lv_iload_n (pc := 47) hx hb dX8_check_47 rfl (lv_at hl 1 rfl) ?_
    refine lv_icmp_ge (pc := 48) (tgt := 114) hx hb dX8_check_48 (by decide) (fun c1 => ?_) (fun c1 => ?_)
    · have hf := um_it c1 hf
      clear c1
      exact hE _ (Option.some.inj hf).symm _ _ _ hW hS (lv_sub hl [1, 2] rfl)
    · have hf := um_ie c1 hf
      clear c1
      refine lv_aload_n (pc := 51) hx hb dX8_check_51 rfl (lv_at hl 0 rfl) ?_
      refine gF_X8_19 (pc := 52) Cx hW (hX 0 _ rfl) rfl dX8_check_52 ?_
      obtain ⟨σ2, hc1, hf⟩ := um_bi hf
      refine um_cVv (pc := 55) (As := []) (rest := []) Cx (c_X4_passWeek 3 (Or.inr (Or.inr rfl)) hX hc1) kV_X4_passWeek (Or.inl qM_X8_197) hW hS (xs_shore hX (Or.inr (Or.inr rfl))) rfl rfl hl rfl (Nat.le_of_ble_eq_true rfl) (Nat.le_of_ble_eq_true rfl) (Nat.le_of_ble_eq_true rfl) dX8_check_55 (Nat.le_refl _) (Nat.le_refl _) ?_
      clear hW hS hc1
      intro H locs hW hS
      refine lv_aload_n (pc := 58) hx hb dX8_check_58 rfl (lv_at hl 0 rfl) ?_
      refine lv_iconst (pc := 59) (v := (2 : Int32)) hx hb dX8_check_59 (by decide) ?_
      refine lv_iload_n (pc := 60) hx hb dX8_check_60 rfl (lv_at hl 3 rfl) ?_
      refine lv_imul (pc := 61) hx hb dX8_check_61 ?_
      refine lv_iload_n (pc := 62) hx hb dX8_check_62 rfl (lv_at hl 2 rfl) ?_
      refine lv_aload_n (pc := 63) hx hb dX8_check_63 rfl (lv_at hl 0 rfl) ?_
      refine gF_X8_19 (pc := 64) Cx hW (hX 0 _ rfl) rfl dX8_check_64 ?_
      obtain ⟨x4, hc3, hf⟩ := um_bi hf
      refine um_cVi (pc := 67) (As := []) (rest := [.int v2, .int ((2 : Int32) * v3), .ref (α 0)]) Cx (c_X4_liveMarks 3 (Or.inr (Or.inr rfl)) hX hc3) kV_X4_liveMarks (Or.inl qM_X8_307) hW hS (xs_shore hX (Or.inr (Or.inr rfl))) rfl rfl hl rfl (Nat.le_of_ble_eq_true rfl) (Nat.le_of_ble_eq_true rfl) (Nat.le_of_ble_eq_true rfl) dX8_check_67 (Nat.le_refl _) (Nat.le_refl _) ?_
      clear hW hS hc3
      intro H locs hW hS
      obtain ⟨x6, hc5, hf⟩ := um_bi hf
      refine um_cVi (pc := 70) (As := [.int ((2 : Int32) * v3), .int v2, .int x4]) (rest := []) Cx (c_X8_waited ((2 : Int32) * v3) v2 x4 hX hc5) kV_X8_waited (Or.inl qM_X8_310) hW hS (hX 0 _ rfl) rfl rfl hl rfl (Nat.le_of_ble_eq_true rfl) (Nat.le_of_ble_eq_true rfl) (Nat.le_of_ble_eq_true rfl) dX8_check_70 (Nat.le_refl _) (Nat.le_refl _) ?_
      clear hW hS hc5
      intro H locs hW hS
      refine lv_if_ne (pc := 73) (tgt := 82) hx hb dX8_check_73 (by decide) (fun c1 => ?_) (fun c1 => ?_)
      · have hf := um_ie c1 hf
        clear c1
        refine lv_aload_n (pc := 82) hx hb dX8_check_82 rfl (lv_at hl 0 rfl) ?_
        refine lv_iconst (pc := 83) (v := (2 : Int32)) hx hb dX8_check_83 (by decide) ?_
        refine lv_iload_n (pc := 84) hx hb dX8_check_84 rfl (lv_at hl 3 rfl) ?_
        refine lv_imul (pc := 85) hx hb dX8_check_85 ?_
        refine lv_iconst (pc := 86) (v := (1 : Int32)) hx hb dX8_check_86 (by decide) ?_
        refine lv_iadd (pc := 87) hx hb dX8_check_87 ?_
        refine lv_iload_n (pc := 88) hx hb dX8_check_88 rfl (lv_at hl 2 rfl) ?_
        refine lv_aload_n (pc := 89) hx hb dX8_check_89 rfl (lv_at hl 0 rfl) ?_
        refine gF_X8_19 (pc := 90) Cx hW (hX 0 _ rfl) rfl dX8_check_90 ?_
        obtain ⟨x8, hc7, hf⟩ := um_bi hf
        refine um_cVi (pc := 93) (As := []) (rest := [.int v2, .int (((2 : Int32) * v3) + (1 : Int32)), .ref (α 0)]) Cx (c_X4_inBanks 3 (Or.inr (Or.inr rfl)) hX hc7) kV_X4_inBanks (Or.inl qM_X8_313) hW hS (xs_shore hX (Or.inr (Or.inr rfl))) rfl rfl hl rfl (Nat.le_of_ble_eq_true rfl) (Nat.le_of_ble_eq_true rfl) (Nat.le_of_ble_eq_true rfl) dX8_check_93 (Nat.le_refl _) (Nat.le_refl _) ?_
        clear hW hS hc7
        intro H locs hW hS
        obtain ⟨x10, hc9, hf⟩ := um_bi hf
        refine um_cVi (pc := 96) (As := [.int (((2 : Int32) * v3) + (1 : Int32)), .int v2, .int x8]) (rest := []) Cx (c_X8_waited (((2 : Int32) * v3) + (1 : Int32)) v2 x8 hX hc9) kV_X8_waited (Or.inl qM_X8_310) hW hS (hX 0 _ rfl) rfl rfl hl rfl (Nat.le_of_ble_eq_true rfl) (Nat.le_of_ble_eq_true rfl) (Nat.le_of_ble_eq_true rfl) dX8_check_96 (Nat.le_refl _) (Nat.le_refl _) ?_
        clear hW hS hc9
        intro H locs hW hS
        refine lv_if_ne (pc := 99) (tgt := 108) hx hb dX8_check_99 (by decide) (fun c1 => ?_) (fun c1 => ?_)
        · have hf := um_ie c1 hf
          clear c1
          refine lv_iinc (pc := 108) (v := v3 + (1 : Int32)) (lv' := [(3, .int (v3 + (1 : Int32))), (0, .ref (α 0)), (1, .int v1), (2, .int v2)]) hx hb dX8_check_108 hl (k := 3) rfl rfl (by decide) rfl ?_
          clear hl
          intro ls hl
          refine lv_goto (pc := 111) (tgt := 46) hx hb dX8_check_111 (by decide) ?_
          exact ih _ _ _ _ _ hf hW hS (lv_sub hl [1, 2, 3, 0] rfl)
        · have hf := um_it c1 hf
          clear c1
          refine lv_iconst (pc := 102) (v := (2 : Int32)) hx hb dX8_check_102 (by decide) ?_
          refine lv_iconst (pc := 103) (v := (2 : Int32)) hx hb dX8_check_103 (by decide) ?_
          refine lv_iload_n (pc := 104) hx hb dX8_check_104 rfl (lv_at hl 3 rfl) ?_
          refine lv_imul (pc := 105) hx hb dX8_check_105 ?_
          refine lv_iadd (pc := 106) hx hb dX8_check_106 ?_
          exact um_iret (pc := 107) Cx hW hS (hR _ (Option.some.inj hf).symm) dX8_check_107
      · have hf := um_it c1 hf
        clear c1
        refine lv_iconst (pc := 76) (v := (1 : Int32)) hx hb dX8_check_76 (by decide) ?_
        refine lv_iconst (pc := 77) (v := (2 : Int32)) hx hb dX8_check_77 (by decide) ?_
        refine lv_iload_n (pc := 78) hx hb dX8_check_78 rfl (lv_at hl 3 rfl) ?_
        refine lv_imul (pc := 79) hx hb dX8_check_79 ?_
        refine lv_iadd (pc := 80) hx hb dX8_check_80 ?_
        exact um_iret (pc := 81) Cx hW hS (hR _ (Option.some.inj hf).symm) dX8_check_81
set_option maxRecDepth 100000 in
set_option maxHeartbeats 4000000 in
theorem b_X8_check {H : Heap} {locs : List Loc} {ls : Array Slot} {σ : um_S} {σ' : um_S} {r : Int32} (a1 : Int32) (hX : um_X sh) (hf : f_X8_check a1 σ = some (r, σ')) (Cx : um_C p s m meth c args cX8_check 4 (some FieldType.int) RX8 Z) (hW : um_W Z sh α σ H) (hS : va_S (um_D sh α) s.heap H locs) (hl : lv_has ls 4 [(0, .ref (α 0)), (1, .int a1)]) : um_G p l e (6) (145) s m args below meth c Z sh α σ' (some (.int r)) H locs (F0 m 0 ls []) := by
  have hx := Cx.1
  have hb := Cx.2.1
  have hown := Cx.2.2.2.2.1
  have hts := Cx.2.2.2.2.2.1
  rw [f_X8_check] at hf
  refine lv_aload_n (pc := 0) hx hb dX8_check_0 rfl (lv_at hl 0 rfl) ?_
  refine gF_X8_297 (pc := 1) Cx hW (hX 0 _ rfl) rfl dX8_check_1 ?_
  obtain ⟨x1, e2, hf⟩ := um_le hf
  refine um_top e2 ?_
  clear e2
  refine lv_istore_n (pc := 4) (lv' := [(2, .int x1), (0, .ref (α 0)), (1, .int a1)]) hx hb dX8_check_4 rfl hl (by decide) rfl ?_
  clear hl
  intro ls hl
  refine lv_aload_n (pc := 5) hx hb dX8_check_5 rfl (lv_at hl 1 rfl) ?_
  refine lv_iconst (pc := 6) (v := (0 : Int32)) hx hb dX8_check_6 (by decide) ?_
  refine gP_X8_297 (pc := 7) Cx hW hS (hX 0 _ rfl) rfl dX8_check_7 ?_
  clear hW hS
  intro H locs hW hS
  obtain ⟨σ3, e4, hf⟩ := um_le hf
  rw [← e4] at hW
  clear e4
  refine lv_iload_n (pc := 10) hx hb dX8_check_10 rfl (lv_at hl 2 rfl) ?_
  refine lv_iconst (pc := 11) (v := (1 : Int32)) hx hb dX8_check_11 (by decide) ?_
  refine lv_bipush (pc := 12) (v := (30 : Int32)) hx hb dX8_check_12 (by decide) ?_
  obtain ⟨x6, hc5, hf⟩ := um_bi hf
  refine um_cSi (pc := 14) (As := [.int a1, .int (1 : Int32), .int (30 : Int32)]) (rest := []) Cx (c_X8_within a1 (1 : Int32) (30 : Int32) hX hc5) kS_X8_within (Or.inl qM_X8_55) hW hS rfl hl rfl (Nat.le_of_ble_eq_true rfl) (Nat.le_of_ble_eq_true rfl) (Nat.le_of_ble_eq_true rfl) dX8_check_14 (Nat.le_refl _) (Nat.le_refl _) ?_
  clear hW hS hc5
  intro H locs hW hS
  refine lv_if_ne (pc := 17) (tgt := 23) hx hb dX8_check_17 (by decide) (fun c1 => ?_) (fun c1 => ?_)
  · have hf := um_ie c1 hf
    clear c1
    refine lv_aload_n (pc := 23) hx hb dX8_check_23 rfl (lv_at hl 1 rfl) ?_
    refine gF_X8_300 (pc := 24) Cx hW (hX 0 _ rfl) rfl dX8_check_24 ?_
    refine lv_if_ne (pc := 27) (tgt := 33) hx hb dX8_check_27 (by decide) (fun c1 => ?_) (fun c1 => ?_)
    · have hf := um_ie c1 hf
      clear c1
      refine lv_aload_n (pc := 33) hx hb dX8_check_33 rfl (lv_at hl 1 rfl) ?_
      refine gF_X8_19 (pc := 34) Cx hW (hX 0 _ rfl) rfl dX8_check_34 ?_
      refine lv_aload_n (pc := 37) hx hb dX8_check_37 rfl (lv_at hl 1 rfl) ?_
      refine gF_X8_16 (pc := 38) Cx hW (hX 0 _ rfl) rfl dX8_check_38 ?_
      obtain ⟨σ8, hc7, hf⟩ := um_bi hf
      refine um_cVv (pc := 41) (As := [.ref (α 2)]) (rest := []) Cx (c_X4_becomeAs 3 2 (Or.inr (Or.inr rfl)) (Or.inr (Or.inl rfl)) hX hc7) kV_X4_becomeAs (Or.inl qM_X8_304) hW hS (xs_shore hX (Or.inr (Or.inr rfl))) rfl rfl hl rfl (Nat.le_of_ble_eq_true rfl) (Nat.le_of_ble_eq_true rfl) (Nat.le_of_ble_eq_true rfl) dX8_check_41 (Nat.le_refl _) (Nat.le_refl _) ?_
      clear hW hS hc7
      intro H locs hW hS
      refine lv_iconst (pc := 44) (v := (0 : Int32)) hx hb dX8_check_44 (by decide) ?_
      refine lv_istore_n (pc := 45) (lv' := [(3, .int (0 : Int32)), (2, .int x1), (0, .ref (α 0)), (1, .int a1)]) hx hb dX8_check_45 rfl hl (by decide) rfl ?_
      clear hl
      intro ls hl
      obtain ⟨q11, hc10, hr12, hg13⟩ := um_si1 hf
      refine t_X8_check_l46 a1 x1 hX Cx hr12 ?_ um_N _ _ _ _ _ hc10 hW hS (lv_sub hl [2, 3, 1, 0] rfl)
      clear hW hS hl hc10
      intro σ9 hq14 H locs ls hW hS hl
      have hf := hg13 _ hq14
      refine lv_iload_n (pc := 114) hx hb dX8_check_114 rfl (lv_at hl 1 rfl) ?_
      refine lv_iconst (pc := 115) (v := (2 : Int32)) hx hb dX8_check_115 (by decide) ?_
      refine lv_iload_n (pc := 116) hx hb dX8_check_116 rfl (lv_at hl 0 rfl) ?_
      refine lv_imul (pc := 117) hx hb dX8_check_117 ?_
      refine lv_icmp_ne (pc := 118) (tgt := 125) hx hb dX8_check_118 (by decide) (fun c1 => ?_) (fun c1 => ?_)
      · have hf := um_ie c1 hf
        clear c1
        refine lv_iconst (pc := 125) (v := (1 : Int32)) hx hb dX8_check_125 (by decide) ?_
        refine lv_iconst (pc := 126) (v := (2 : Int32)) hx hb dX8_check_126 (by decide) ?_
        refine lv_iload_n (pc := 127) hx hb dX8_check_127 rfl (lv_at hl 0 rfl) ?_
        refine lv_imul (pc := 128) hx hb dX8_check_128 ?_
        refine lv_iadd (pc := 129) hx hb dX8_check_129 ?_
        exact um_iret (pc := 130) Cx hW hS hf dX8_check_130
      · have hf := um_it c1 hf
        clear c1
        refine lv_iconst (pc := 121) (v := (0 : Int32)) hx hb dX8_check_121 (by decide) ?_
        refine lv_goto (pc := 122) (tgt := 130) hx hb dX8_check_122 (by decide) ?_
        exact um_iret (pc := 130) Cx hW hS hf dX8_check_130
    · have hf := um_it c1 hf
      clear c1
      refine lv_ldc (pc := 30) hx hb hown (hts _ qC_X8_88) dX8_check_30 ?_
      exact um_iret (pc := 32) Cx hW hS hf dX8_check_32
  · have hf := um_it c1 hf
    clear c1
    refine lv_ldc (pc := 20) hx hb hown (hts _ qC_X8_59) dX8_check_20 ?_
    exact um_iret (pc := 22) Cx hW hS hf dX8_check_22
theorem c_X8_check {σ : um_S} {σ' : um_S} {r : Int32} (a1 : Int32) (hX : um_X sh) (hf : f_X8_check a1 σ = some (r, σ')) : um_M l yX8_check cX8_check 4 (some FieldType.int) (6) (145) Z sh α σ [.ref (α 0), .int a1] (some (.int r)) σ' :=
  um_start (by decide) (Nat.le_of_ble_eq_true rfl) (fun p e s m below meth c ls Cx hW hS hl => b_X8_check a1 hX hf Cx hW hS hl)
noncomputable def f_X8_copy (a1 : Int32) (a2 : Int32) (a3 : Int32) (a4 : Int32) (a5 : Int32) (σ : um_S) : Option (Int32 × um_S) :=
    (f_X2_isOne a1 σ).bind fun x2 =>
    (if (um_b x2) = 0 then
    (some ((-1000000001 : Int32), σ))
    else
    ((f_X2_isOne a3 σ).bind fun x4 =>
    (if (um_b x4) = 0 then
    (some ((-1000000001 : Int32), σ))
    else
    ((f_X2_isMissing a1 σ).bind fun x6 =>
    (if (um_b x6) = 0 then
    ((f_X2_isMissing a3 σ).bind fun x8 =>
    (if (um_b x8) = 0 then
    ((f_X2_alike a1 a3 σ).bind fun x10 =>
    (if (um_b x10) = 0 then
    (some ((-1000000012 : Int32), σ))
    else
    ((f_X2_hasRow a1 a2 a5 σ).bind fun x12 =>
    (if (um_b x12) = 0 then
    (some ((-1000000013 : Int32), σ))
    else
    ((f_X2_hasRow a3 a4 a5 σ).bind fun x14 =>
    (if (um_b x14) = 0 then
    (some ((-1000000013 : Int32), σ))
    else
    ((f_X2_move a1 a2 a3 a4 a5 σ).bind fun σ16 =>
    (some (a5, σ16)))))))))
    else
    (some ((-1000000011 : Int32), σ))))
    else
    (some ((-1000000011 : Int32), σ)))))))
set_option maxRecDepth 100000 in
set_option maxHeartbeats 4000000 in
theorem b_X8_copy {H : Heap} {locs : List Loc} {ls : Array Slot} {σ : um_S} {σ' : um_S} {r : Int32} (a1 : Int32) (a2 : Int32) (a3 : Int32) (a4 : Int32) (a5 : Int32) (hX : um_X sh) (hf : f_X8_copy a1 a2 a3 a4 a5 σ = some (r, σ')) (Cx : um_C p s m meth c args cX8_copy 6 (some FieldType.int) RX8 Z) (hW : um_W Z sh α σ H) (hS : va_S (um_D sh α) s.heap H locs) (hl : lv_has ls 6 [(0, .ref (α 0)), (1, .int a1), (2, .int a2), (3, .int a3), (4, .int a4), (5, .int a5)]) : um_G p l e (2) (51) s m args below meth c Z sh α σ' (some (.int r)) H locs (F0 m 0 ls []) := by
  have hx := Cx.1
  have hb := Cx.2.1
  have hown := Cx.2.2.2.2.1
  have hts := Cx.2.2.2.2.2.1
  rw [f_X8_copy] at hf
  refine lv_aload_n (pc := 0) hx hb dX8_copy_0 rfl (lv_at hl 0 rfl) ?_
  refine gF_X8_39 (pc := 1) Cx hW (hX 0 _ rfl) rfl dX8_copy_1 ?_
  refine lv_iload_n (pc := 4) hx hb dX8_copy_4 rfl (lv_at hl 1 rfl) ?_
  obtain ⟨x2, hc1, hf⟩ := um_bi hf
  refine um_cVi (pc := 5) (As := [.int a1]) (rest := []) Cx (c_X2_isOne a1 hX hc1) kV_X2_isOne (Or.inl qM_X8_266) hW hS (hX 6 _ rfl) rfl rfl hl rfl (Nat.le_of_ble_eq_true rfl) (Nat.le_of_ble_eq_true rfl) (Nat.le_of_ble_eq_true rfl) dX8_copy_5 (Nat.le_refl _) (Nat.le_refl _) ?_
  clear hW hS hc1
  intro H locs hW hS
  refine lv_if_eq (pc := 8) (tgt := 22) hx hb dX8_copy_8 (by decide) (fun c1 => ?_) (fun c1 => ?_)
  · have hf := um_it c1 hf
    clear c1
    refine lv_ldc (pc := 22) hx hb hown (hts _ qC_X8_59) dX8_copy_22 ?_
    exact um_iret (pc := 24) Cx hW hS hf dX8_copy_24
  · have hf := um_ie c1 hf
    clear c1
    refine lv_aload_n (pc := 11) hx hb dX8_copy_11 rfl (lv_at hl 0 rfl) ?_
    refine gF_X8_39 (pc := 12) Cx hW (hX 0 _ rfl) rfl dX8_copy_12 ?_
    refine lv_iload_n (pc := 15) hx hb dX8_copy_15 rfl (lv_at hl 3 rfl) ?_
    obtain ⟨x4, hc3, hf⟩ := um_bi hf
    refine um_cVi (pc := 16) (As := [.int a3]) (rest := []) Cx (c_X2_isOne a3 hX hc3) kV_X2_isOne (Or.inl qM_X8_266) hW hS (hX 6 _ rfl) rfl rfl hl rfl (Nat.le_of_ble_eq_true rfl) (Nat.le_of_ble_eq_true rfl) (Nat.le_of_ble_eq_true rfl) dX8_copy_16 (Nat.le_refl _) (Nat.le_refl _) ?_
    clear hW hS hc3
    intro H locs hW hS
    refine lv_if_ne (pc := 19) (tgt := 25) hx hb dX8_copy_19 (by decide) (fun c1 => ?_) (fun c1 => ?_)
    · have hf := um_ie c1 hf
      clear c1
      refine lv_aload_n (pc := 25) hx hb dX8_copy_25 rfl (lv_at hl 0 rfl) ?_
      refine gF_X8_39 (pc := 26) Cx hW (hX 0 _ rfl) rfl dX8_copy_26 ?_
      refine lv_iload_n (pc := 29) hx hb dX8_copy_29 rfl (lv_at hl 1 rfl) ?_
      obtain ⟨x6, hc5, hf⟩ := um_bi hf
      refine um_cVi (pc := 30) (As := [.int a1]) (rest := []) Cx (c_X2_isMissing a1 hX hc5) kV_X2_isMissing (Or.inl qM_X8_282) hW hS (hX 6 _ rfl) rfl rfl hl rfl (Nat.le_of_ble_eq_true rfl) (Nat.le_of_ble_eq_true rfl) (Nat.le_of_ble_eq_true rfl) dX8_copy_30 (Nat.le_refl _) (Nat.le_refl _) ?_
      clear hW hS hc5
      intro H locs hW hS
      refine lv_if_ne (pc := 33) (tgt := 47) hx hb dX8_copy_33 (by decide) (fun c1 => ?_) (fun c1 => ?_)
      · have hf := um_ie c1 hf
        clear c1
        refine lv_ldcw (pc := 47) hx hb hown (hts _ qC_X8_285) dX8_copy_47 ?_
        exact um_iret (pc := 50) Cx hW hS hf dX8_copy_50
      · have hf := um_it c1 hf
        clear c1
        refine lv_aload_n (pc := 36) hx hb dX8_copy_36 rfl (lv_at hl 0 rfl) ?_
        refine gF_X8_39 (pc := 37) Cx hW (hX 0 _ rfl) rfl dX8_copy_37 ?_
        refine lv_iload_n (pc := 40) hx hb dX8_copy_40 rfl (lv_at hl 3 rfl) ?_
        obtain ⟨x8, hc7, hf⟩ := um_bi hf
        refine um_cVi (pc := 41) (As := [.int a3]) (rest := []) Cx (c_X2_isMissing a3 hX hc7) kV_X2_isMissing (Or.inl qM_X8_282) hW hS (hX 6 _ rfl) rfl rfl hl rfl (Nat.le_of_ble_eq_true rfl) (Nat.le_of_ble_eq_true rfl) (Nat.le_of_ble_eq_true rfl) dX8_copy_41 (Nat.le_refl _) (Nat.le_refl _) ?_
        clear hW hS hc7
        intro H locs hW hS
        refine lv_if_eq (pc := 44) (tgt := 51) hx hb dX8_copy_44 (by decide) (fun c1 => ?_) (fun c1 => ?_)
        · have hf := um_it c1 hf
          clear c1
          refine lv_aload_n (pc := 51) hx hb dX8_copy_51 rfl (lv_at hl 0 rfl) ?_
          refine gF_X8_39 (pc := 52) Cx hW (hX 0 _ rfl) rfl dX8_copy_52 ?_
          refine lv_iload_n (pc := 55) hx hb dX8_copy_55 rfl (lv_at hl 1 rfl) ?_
          refine lv_iload_n (pc := 56) hx hb dX8_copy_56 rfl (lv_at hl 3 rfl) ?_
          obtain ⟨x10, hc9, hf⟩ := um_bi hf
          refine um_cVi (pc := 57) (As := [.int a1, .int a3]) (rest := []) Cx (c_X2_alike a1 a3 hX hc9) kV_X2_alike (Or.inl qM_X8_286) hW hS (hX 6 _ rfl) rfl rfl hl rfl (Nat.le_of_ble_eq_true rfl) (Nat.le_of_ble_eq_true rfl) (Nat.le_of_ble_eq_true rfl) dX8_copy_57 (Nat.le_refl _) (Nat.le_refl _) ?_
          clear hW hS hc9
          intro H locs hW hS
          refine lv_if_ne (pc := 60) (tgt := 66) hx hb dX8_copy_60 (by decide) (fun c1 => ?_) (fun c1 => ?_)
          · have hf := um_ie c1 hf
            clear c1
            refine lv_aload_n (pc := 66) hx hb dX8_copy_66 rfl (lv_at hl 0 rfl) ?_
            refine gF_X8_39 (pc := 67) Cx hW (hX 0 _ rfl) rfl dX8_copy_67 ?_
            refine lv_iload_n (pc := 70) hx hb dX8_copy_70 rfl (lv_at hl 1 rfl) ?_
            refine lv_iload_n (pc := 71) hx hb dX8_copy_71 rfl (lv_at hl 2 rfl) ?_
            refine lv_iload (pc := 72) hx hb dX8_copy_72 (lv_at hl 5 rfl) ?_
            obtain ⟨x12, hc11, hf⟩ := um_bi hf
            refine um_cVi (pc := 74) (As := [.int a1, .int a2, .int a5]) (rest := []) Cx (c_X2_hasRow a1 a2 a5 hX hc11) kV_X2_hasRow (Or.inl qM_X8_289) hW hS (hX 6 _ rfl) rfl rfl hl rfl (Nat.le_of_ble_eq_true rfl) (Nat.le_of_ble_eq_true rfl) (Nat.le_of_ble_eq_true rfl) dX8_copy_74 (Nat.le_refl _) (Nat.le_refl _) ?_
            clear hW hS hc11
            intro H locs hW hS
            refine lv_if_eq (pc := 77) (tgt := 95) hx hb dX8_copy_77 (by decide) (fun c1 => ?_) (fun c1 => ?_)
            · have hf := um_it c1 hf
              clear c1
              refine lv_ldcw (pc := 95) hx hb hown (hts _ qC_X8_292) dX8_copy_95 ?_
              exact um_iret (pc := 98) Cx hW hS hf dX8_copy_98
            · have hf := um_ie c1 hf
              clear c1
              refine lv_aload_n (pc := 80) hx hb dX8_copy_80 rfl (lv_at hl 0 rfl) ?_
              refine gF_X8_39 (pc := 81) Cx hW (hX 0 _ rfl) rfl dX8_copy_81 ?_
              refine lv_iload_n (pc := 84) hx hb dX8_copy_84 rfl (lv_at hl 3 rfl) ?_
              refine lv_iload (pc := 85) hx hb dX8_copy_85 (lv_at hl 4 rfl) ?_
              refine lv_iload (pc := 87) hx hb dX8_copy_87 (lv_at hl 5 rfl) ?_
              obtain ⟨x14, hc13, hf⟩ := um_bi hf
              refine um_cVi (pc := 89) (As := [.int a3, .int a4, .int a5]) (rest := []) Cx (c_X2_hasRow a3 a4 a5 hX hc13) kV_X2_hasRow (Or.inl qM_X8_289) hW hS (hX 6 _ rfl) rfl rfl hl rfl (Nat.le_of_ble_eq_true rfl) (Nat.le_of_ble_eq_true rfl) (Nat.le_of_ble_eq_true rfl) dX8_copy_89 (Nat.le_refl _) (Nat.le_refl _) ?_
              clear hW hS hc13
              intro H locs hW hS
              refine lv_if_ne (pc := 92) (tgt := 99) hx hb dX8_copy_92 (by decide) (fun c1 => ?_) (fun c1 => ?_)
              · have hf := um_ie c1 hf
                clear c1
                refine lv_aload_n (pc := 99) hx hb dX8_copy_99 rfl (lv_at hl 0 rfl) ?_
                refine gF_X8_39 (pc := 100) Cx hW (hX 0 _ rfl) rfl dX8_copy_100 ?_
                refine lv_iload_n (pc := 103) hx hb dX8_copy_103 rfl (lv_at hl 1 rfl) ?_
                refine lv_iload_n (pc := 104) hx hb dX8_copy_104 rfl (lv_at hl 2 rfl) ?_
                refine lv_iload_n (pc := 105) hx hb dX8_copy_105 rfl (lv_at hl 3 rfl) ?_
                refine lv_iload (pc := 106) hx hb dX8_copy_106 (lv_at hl 4 rfl) ?_
                refine lv_iload (pc := 108) hx hb dX8_copy_108 (lv_at hl 5 rfl) ?_
                obtain ⟨σ16, hc15, hf⟩ := um_bi hf
                refine um_cVv (pc := 110) (As := [.int a1, .int a2, .int a3, .int a4, .int a5]) (rest := []) Cx (c_X2_move a1 a2 a3 a4 a5 hX hc15) kV_X2_move (Or.inl qM_X8_293) hW hS (hX 6 _ rfl) rfl rfl hl rfl (Nat.le_of_ble_eq_true rfl) (Nat.le_of_ble_eq_true rfl) (Nat.le_of_ble_eq_true rfl) dX8_copy_110 (Nat.le_refl _) (Nat.le_refl _) ?_
                clear hW hS hc15
                intro H locs hW hS
                refine lv_iload (pc := 113) hx hb dX8_copy_113 (lv_at hl 5 rfl) ?_
                exact um_iret (pc := 115) Cx hW hS hf dX8_copy_115
              · have hf := um_it c1 hf
                clear c1
                refine lv_ldcw (pc := 95) hx hb hown (hts _ qC_X8_292) dX8_copy_95 ?_
                exact um_iret (pc := 98) Cx hW hS hf dX8_copy_98
          · have hf := um_it c1 hf
            clear c1
            refine lv_ldc (pc := 63) hx hb hown (hts _ qC_X8_101) dX8_copy_63 ?_
            exact um_iret (pc := 65) Cx hW hS hf dX8_copy_65
        · have hf := um_ie c1 hf
          clear c1
          refine lv_ldcw (pc := 47) hx hb hown (hts _ qC_X8_285) dX8_copy_47 ?_
          exact um_iret (pc := 50) Cx hW hS hf dX8_copy_50
    · have hf := um_it c1 hf
      clear c1
      refine lv_ldc (pc := 22) hx hb hown (hts _ qC_X8_59) dX8_copy_22 ?_
      exact um_iret (pc := 24) Cx hW hS hf dX8_copy_24
theorem c_X8_copy {σ : um_S} {σ' : um_S} {r : Int32} (a1 : Int32) (a2 : Int32) (a3 : Int32) (a4 : Int32) (a5 : Int32) (hX : um_X sh) (hf : f_X8_copy a1 a2 a3 a4 a5 σ = some (r, σ')) : um_M l yX8_copy cX8_copy 6 (some FieldType.int) (2) (51) Z sh α σ [.ref (α 0), .int a1, .int a2, .int a3, .int a4, .int a5] (some (.int r)) σ' :=
  um_start (by decide) (Nat.le_of_ble_eq_true rfl) (fun p e s m below meth c ls Cx hW hS hl => b_X8_copy a1 a2 a3 a4 a5 hX hf Cx hW hS hl)
noncomputable def f_X8_count (a1 : Int32) (σ : um_S) : Option (Int32) :=
    (f_X8_within a1 (4 : Int32) (11 : Int32) σ).bind fun x2 =>
    (if (um_b x2) = 0 then
    (if a1 = (0 : Int32) then
    (some (σ.1 (20 * 1 + 0) 2))
    else
    (if a1 = (1 : Int32) then
    (some (σ.1 (20 * 1 + 1) 2))
    else
    (if a1 = (2 : Int32) then
    ((f_X4_deadMen 1 σ).bind fun x4 =>
    (some x4))
    else
    (if a1 = (3 : Int32) then
    ((f_X4_menAboard 1 σ).bind fun x6 =>
    (some x6))
    else
    (if a1 = (4 : Int32) then
    (some (-1000000001 : Int32))
    else
    (if a1 = (5 : Int32) then
    (some (-1000000001 : Int32))
    else
    (if a1 = (6 : Int32) then
    (some (-1000000001 : Int32))
    else
    (if a1 = (7 : Int32) then
    (some (-1000000001 : Int32))
    else
    (if a1 = (8 : Int32) then
    (some (-1000000001 : Int32))
    else
    (if a1 = (9 : Int32) then
    (some (-1000000001 : Int32))
    else
    (if a1 = (10 : Int32) then
    (some (-1000000001 : Int32))
    else
    (if a1 = (11 : Int32) then
    (some (-1000000001 : Int32))
    else
    (if a1 = (12 : Int32) then
    (some (σ.1 (20 * 1 + 2) 2))
    else
    (if a1 = (13 : Int32) then
    (some (σ.1 (20 * 1 + 3) 2))
    else
    (if a1 = (14 : Int32) then
    (some (σ.1 (20 * 1 + 11) 1))
    else
    (if a1 = (15 : Int32) then
    (some (σ.1 (20 * 1 + 5) 2))
    else
    (if a1 = (16 : Int32) then
    (some (σ.1 (20 * 1 + 6) 2))
    else
    (if a1 = (17 : Int32) then
    (some (σ.1 (20 * 1 + 4) 2))
    else
    (if a1 = (18 : Int32) then
    (some (σ.1 1 14))
    else
    (if a1 = (19 : Int32) then
    (some (σ.1 0 8))
    else
    (if a1 = (20 : Int32) then
    (some (σ.1 4 1))
    else
    (if a1 = (21 : Int32) then
    (some (σ.1 1 12))
    else
    (if a1 = (22 : Int32) then
    (some (σ.1 1 13))
    else
    (some (-1000000001 : Int32)))))))))))))))))))))))))
    else
    ((f_X4_livingOfKind 1 (a1 - (4 : Int32)) σ).bind fun x8 =>
    (some x8)))
set_option maxRecDepth 100000 in
set_option maxHeartbeats 4000000 in
theorem b_X8_count {H : Heap} {locs : List Loc} {ls : Array Slot} {σ : um_S} {r : Int32} (a1 : Int32) (hX : um_X sh) (hf : f_X8_count a1 σ = some r) (Cx : um_C p s m meth c args cX8_count 2 (some FieldType.int) RX8 Z) (hW : um_W Z sh α σ H) (hS : va_S (um_D sh α) s.heap H locs) (hl : lv_has ls 2 [(0, .ref (α 0)), (1, .int a1)]) : um_G p l e (4) (88) s m args below meth c Z sh α σ (some (.int r)) H locs (F0 m 0 ls []) := by
  have hx := Cx.1
  have hb := Cx.2.1
  have hown := Cx.2.2.2.2.1
  have hts := Cx.2.2.2.2.2.1
  rw [f_X8_count] at hf
  refine lv_iload_n (pc := 0) hx hb dX8_count_0 rfl (lv_at hl 1 rfl) ?_
  refine lv_iconst (pc := 1) (v := (4 : Int32)) hx hb dX8_count_1 (by decide) ?_
  refine lv_bipush (pc := 2) (v := (11 : Int32)) hx hb dX8_count_2 (by decide) ?_
  obtain ⟨x2, hc1, hf⟩ := um_bi hf
  refine um_cSi (pc := 4) (As := [.int a1, .int (4 : Int32), .int (11 : Int32)]) (rest := []) Cx (c_X8_within a1 (4 : Int32) (11 : Int32) hX hc1) kS_X8_within (Or.inl qM_X8_55) hW hS rfl hl rfl (Nat.le_of_ble_eq_true rfl) (Nat.le_of_ble_eq_true rfl) (Nat.le_of_ble_eq_true rfl) dX8_count_4 (Nat.le_refl _) (Nat.le_refl _) ?_
  clear hW hS hc1
  intro H locs hW hS
  refine lv_if_eq (pc := 7) (tgt := 21) hx hb dX8_count_7 (by decide) (fun c1 => ?_) (fun c1 => ?_)
  · have hf := um_it c1 hf
    clear c1
    refine lv_iload_n (pc := 21) hx hb dX8_count_21 rfl (lv_at hl 1 rfl) ?_
    by_cases c1 : a1 = (0 : Int32)
    · have hf := um_it c1 hf
      refine lv_tableIn (pc := 22) (tgt := 128) hx hb dX8_count_22 (by rw [c1]; decide) (by rw [c1]; decide) (by rw [c1]; rfl) (by decide) ?_
      refine lv_aload_n (pc := 128) hx hb dX8_count_128 rfl (lv_at hl 0 rfl) ?_
      refine gF_X8_10 (pc := 129) Cx hW (hX 0 _ rfl) rfl dX8_count_129 ?_
      refine gF_X8_60 (pc := 132) Cx hW (xs_shore hX (Or.inl rfl)) rfl dX8_count_132 ?_
      refine gF_X8_319 (pc := 135) Cx hW (xs_tab hX (xs_ht (Or.inl rfl) 0 rfl)) rfl dX8_count_135 ?_
      exact um_iretR (pc := 138) Cx hW hS hf dX8_count_138
    have hf := um_ie c1 hf
    by_cases c2 : a1 = (1 : Int32)
    · have hf := um_it c2 hf
      refine lv_tableIn (pc := 22) (tgt := 139) hx hb dX8_count_22 (by rw [c2]; decide) (by rw [c2]; decide) (by rw [c2]; rfl) (by decide) ?_
      refine lv_aload_n (pc := 139) hx hb dX8_count_139 rfl (lv_at hl 0 rfl) ?_
      refine gF_X8_10 (pc := 140) Cx hW (hX 0 _ rfl) rfl dX8_count_140 ?_
      refine gF_X8_77 (pc := 143) Cx hW (xs_shore hX (Or.inl rfl)) rfl dX8_count_143 ?_
      refine gF_X8_319 (pc := 146) Cx hW (xs_tab hX (xs_ht (Or.inl rfl) 1 rfl)) rfl dX8_count_146 ?_
      exact um_iretR (pc := 149) Cx hW hS hf dX8_count_149
    have hf := um_ie c2 hf
    by_cases c3 : a1 = (2 : Int32)
    · have hf := um_it c3 hf
      refine lv_tableIn (pc := 22) (tgt := 150) hx hb dX8_count_22 (by rw [c3]; decide) (by rw [c3]; decide) (by rw [c3]; rfl) (by decide) ?_
      refine lv_aload_n (pc := 150) hx hb dX8_count_150 rfl (lv_at hl 0 rfl) ?_
      refine gF_X8_10 (pc := 151) Cx hW (hX 0 _ rfl) rfl dX8_count_151 ?_
      obtain ⟨x4, hc3, hf⟩ := um_bi hf
      refine um_cVi (pc := 154) (As := []) (rest := []) Cx (c_X4_deadMen 1 (Or.inl rfl) hX hc3) kV_X4_deadMen (Or.inl qM_X8_322) hW hS (xs_shore hX (Or.inl rfl)) rfl rfl hl rfl (Nat.le_of_ble_eq_true rfl) (Nat.le_of_ble_eq_true rfl) (Nat.le_of_ble_eq_true rfl) dX8_count_154 (Nat.le_refl _) (Nat.le_refl _) ?_
      clear hW hS hc3
      intro H locs hW hS
      exact um_iretR (pc := 157) Cx hW hS hf dX8_count_157
    have hf := um_ie c3 hf
    by_cases c4 : a1 = (3 : Int32)
    · have hf := um_it c4 hf
      refine lv_tableIn (pc := 22) (tgt := 158) hx hb dX8_count_22 (by rw [c4]; decide) (by rw [c4]; decide) (by rw [c4]; rfl) (by decide) ?_
      refine lv_aload_n (pc := 158) hx hb dX8_count_158 rfl (lv_at hl 0 rfl) ?_
      refine gF_X8_10 (pc := 159) Cx hW (hX 0 _ rfl) rfl dX8_count_159 ?_
      obtain ⟨x6, hc5, hf⟩ := um_bi hf
      refine um_cVi (pc := 162) (As := []) (rest := []) Cx (c_X4_menAboard 1 (Or.inl rfl) hX hc5) kV_X4_menAboard (Or.inl qM_X8_325) hW hS (xs_shore hX (Or.inl rfl)) rfl rfl hl rfl (Nat.le_of_ble_eq_true rfl) (Nat.le_of_ble_eq_true rfl) (Nat.le_of_ble_eq_true rfl) dX8_count_162 (Nat.le_refl _) (Nat.le_refl _) ?_
      clear hW hS hc5
      intro H locs hW hS
      exact um_iretR (pc := 165) Cx hW hS hf dX8_count_165
    have hf := um_ie c4 hf
    by_cases c5 : a1 = (4 : Int32)
    · have hf := um_it c5 hf
      refine lv_tableIn (pc := 22) (tgt := 269) hx hb dX8_count_22 (by rw [c5]; decide) (by rw [c5]; decide) (by rw [c5]; rfl) (by decide) ?_
      refine lv_ldc (pc := 269) hx hb hown (hts _ qC_X8_59) dX8_count_269 ?_
      exact um_iretR (pc := 271) Cx hW hS hf dX8_count_271
    have hf := um_ie c5 hf
    by_cases c6 : a1 = (5 : Int32)
    · have hf := um_it c6 hf
      refine lv_tableIn (pc := 22) (tgt := 269) hx hb dX8_count_22 (by rw [c6]; decide) (by rw [c6]; decide) (by rw [c6]; rfl) (by decide) ?_
      refine lv_ldc (pc := 269) hx hb hown (hts _ qC_X8_59) dX8_count_269 ?_
      exact um_iretR (pc := 271) Cx hW hS hf dX8_count_271
    have hf := um_ie c6 hf
    by_cases c7 : a1 = (6 : Int32)
    · have hf := um_it c7 hf
      refine lv_tableIn (pc := 22) (tgt := 269) hx hb dX8_count_22 (by rw [c7]; decide) (by rw [c7]; decide) (by rw [c7]; rfl) (by decide) ?_
      refine lv_ldc (pc := 269) hx hb hown (hts _ qC_X8_59) dX8_count_269 ?_
      exact um_iretR (pc := 271) Cx hW hS hf dX8_count_271
    have hf := um_ie c7 hf
    by_cases c8 : a1 = (7 : Int32)
    · have hf := um_it c8 hf
      refine lv_tableIn (pc := 22) (tgt := 269) hx hb dX8_count_22 (by rw [c8]; decide) (by rw [c8]; decide) (by rw [c8]; rfl) (by decide) ?_
      refine lv_ldc (pc := 269) hx hb hown (hts _ qC_X8_59) dX8_count_269 ?_
      exact um_iretR (pc := 271) Cx hW hS hf dX8_count_271
    have hf := um_ie c8 hf
    by_cases c9 : a1 = (8 : Int32)
    · have hf := um_it c9 hf
      refine lv_tableIn (pc := 22) (tgt := 269) hx hb dX8_count_22 (by rw [c9]; decide) (by rw [c9]; decide) (by rw [c9]; rfl) (by decide) ?_
      refine lv_ldc (pc := 269) hx hb hown (hts _ qC_X8_59) dX8_count_269 ?_
      exact um_iretR (pc := 271) Cx hW hS hf dX8_count_271
    have hf := um_ie c9 hf
    by_cases c10 : a1 = (9 : Int32)
    · have hf := um_it c10 hf
      refine lv_tableIn (pc := 22) (tgt := 269) hx hb dX8_count_22 (by rw [c10]; decide) (by rw [c10]; decide) (by rw [c10]; rfl) (by decide) ?_
      refine lv_ldc (pc := 269) hx hb hown (hts _ qC_X8_59) dX8_count_269 ?_
      exact um_iretR (pc := 271) Cx hW hS hf dX8_count_271
    have hf := um_ie c10 hf
    by_cases c11 : a1 = (10 : Int32)
    · have hf := um_it c11 hf
      refine lv_tableIn (pc := 22) (tgt := 269) hx hb dX8_count_22 (by rw [c11]; decide) (by rw [c11]; decide) (by rw [c11]; rfl) (by decide) ?_
      refine lv_ldc (pc := 269) hx hb hown (hts _ qC_X8_59) dX8_count_269 ?_
      exact um_iretR (pc := 271) Cx hW hS hf dX8_count_271
    have hf := um_ie c11 hf
    by_cases c12 : a1 = (11 : Int32)
    · have hf := um_it c12 hf
      refine lv_tableIn (pc := 22) (tgt := 269) hx hb dX8_count_22 (by rw [c12]; decide) (by rw [c12]; decide) (by rw [c12]; rfl) (by decide) ?_
      refine lv_ldc (pc := 269) hx hb hown (hts _ qC_X8_59) dX8_count_269 ?_
      exact um_iretR (pc := 271) Cx hW hS hf dX8_count_271
    have hf := um_ie c12 hf
    by_cases c13 : a1 = (12 : Int32)
    · have hf := um_it c13 hf
      refine lv_tableIn (pc := 22) (tgt := 166) hx hb dX8_count_22 (by rw [c13]; decide) (by rw [c13]; decide) (by rw [c13]; rfl) (by decide) ?_
      refine lv_aload_n (pc := 166) hx hb dX8_count_166 rfl (lv_at hl 0 rfl) ?_
      refine gF_X8_10 (pc := 167) Cx hW (hX 0 _ rfl) rfl dX8_count_167 ?_
      refine gF_X8_110 (pc := 170) Cx hW (xs_shore hX (Or.inl rfl)) rfl dX8_count_170 ?_
      refine gF_X8_319 (pc := 173) Cx hW (xs_tab hX (xs_ht (Or.inl rfl) 2 rfl)) rfl dX8_count_173 ?_
      exact um_iretR (pc := 176) Cx hW hS hf dX8_count_176
    have hf := um_ie c13 hf
    by_cases c14 : a1 = (13 : Int32)
    · have hf := um_it c14 hf
      refine lv_tableIn (pc := 22) (tgt := 177) hx hb dX8_count_22 (by rw [c14]; decide) (by rw [c14]; decide) (by rw [c14]; rfl) (by decide) ?_
      refine lv_aload_n (pc := 177) hx hb dX8_count_177 rfl (lv_at hl 0 rfl) ?_
      refine gF_X8_10 (pc := 178) Cx hW (hX 0 _ rfl) rfl dX8_count_178 ?_
      refine gF_X8_161 (pc := 181) Cx hW (xs_shore hX (Or.inl rfl)) rfl dX8_count_181 ?_
      refine gF_X8_319 (pc := 184) Cx hW (xs_tab hX (xs_ht (Or.inl rfl) 3 rfl)) rfl dX8_count_184 ?_
      exact um_iretR (pc := 187) Cx hW hS hf dX8_count_187
    have hf := um_ie c14 hf
    by_cases c15 : a1 = (14 : Int32)
    · have hf := um_it c15 hf
      refine lv_tableIn (pc := 22) (tgt := 188) hx hb dX8_count_22 (by rw [c15]; decide) (by rw [c15]; decide) (by rw [c15]; rfl) (by decide) ?_
      refine lv_aload_n (pc := 188) hx hb dX8_count_188 rfl (lv_at hl 0 rfl) ?_
      refine gF_X8_10 (pc := 189) Cx hW (hX 0 _ rfl) rfl dX8_count_189 ?_
      refine gF_X8_129 (pc := 192) Cx hW (xs_shore hX (Or.inl rfl)) rfl dX8_count_192 ?_
      refine gF_X8_328 (pc := 195) Cx hW (xs_law hX (Or.inl rfl)) rfl dX8_count_195 ?_
      exact um_iretR (pc := 198) Cx hW hS hf dX8_count_198
    have hf := um_ie c15 hf
    by_cases c16 : a1 = (15 : Int32)
    · have hf := um_it c16 hf
      refine lv_tableIn (pc := 22) (tgt := 199) hx hb dX8_count_22 (by rw [c16]; decide) (by rw [c16]; decide) (by rw [c16]; rfl) (by decide) ?_
      refine lv_aload_n (pc := 199) hx hb dX8_count_199 rfl (lv_at hl 0 rfl) ?_
      refine gF_X8_10 (pc := 200) Cx hW (hX 0 _ rfl) rfl dX8_count_200 ?_
      refine gF_X8_209 (pc := 203) Cx hW (xs_shore hX (Or.inl rfl)) rfl dX8_count_203 ?_
      refine gF_X8_319 (pc := 206) Cx hW (xs_tab hX (xs_ht (Or.inl rfl) 5 rfl)) rfl dX8_count_206 ?_
      exact um_iretR (pc := 209) Cx hW hS hf dX8_count_209
    have hf := um_ie c16 hf
    by_cases c17 : a1 = (16 : Int32)
    · have hf := um_it c17 hf
      refine lv_tableIn (pc := 22) (tgt := 210) hx hb dX8_count_22 (by rw [c17]; decide) (by rw [c17]; decide) (by rw [c17]; rfl) (by decide) ?_
      refine lv_aload_n (pc := 210) hx hb dX8_count_210 rfl (lv_at hl 0 rfl) ?_
      refine gF_X8_10 (pc := 211) Cx hW (hX 0 _ rfl) rfl dX8_count_211 ?_
      refine gF_X8_236 (pc := 214) Cx hW (xs_shore hX (Or.inl rfl)) rfl dX8_count_214 ?_
      refine gF_X8_319 (pc := 217) Cx hW (xs_tab hX (xs_ht (Or.inl rfl) 6 rfl)) rfl dX8_count_217 ?_
      exact um_iretR (pc := 220) Cx hW hS hf dX8_count_220
    have hf := um_ie c17 hf
    by_cases c18 : a1 = (17 : Int32)
    · have hf := um_it c18 hf
      refine lv_tableIn (pc := 22) (tgt := 221) hx hb dX8_count_22 (by rw [c18]; decide) (by rw [c18]; decide) (by rw [c18]; rfl) (by decide) ?_
      refine lv_aload_n (pc := 221) hx hb dX8_count_221 rfl (lv_at hl 0 rfl) ?_
      refine gF_X8_10 (pc := 222) Cx hW (hX 0 _ rfl) rfl dX8_count_222 ?_
      refine gF_X8_247 (pc := 225) Cx hW (xs_shore hX (Or.inl rfl)) rfl dX8_count_225 ?_
      refine gF_X8_319 (pc := 228) Cx hW (xs_tab hX (xs_ht (Or.inl rfl) 4 rfl)) rfl dX8_count_228 ?_
      exact um_iretR (pc := 231) Cx hW hS hf dX8_count_231
    have hf := um_ie c18 hf
    by_cases c19 : a1 = (18 : Int32)
    · have hf := um_it c19 hf
      refine lv_tableIn (pc := 22) (tgt := 232) hx hb dX8_count_22 (by rw [c19]; decide) (by rw [c19]; decide) (by rw [c19]; rfl) (by decide) ?_
      refine lv_aload_n (pc := 232) hx hb dX8_count_232 rfl (lv_at hl 0 rfl) ?_
      refine gF_X8_10 (pc := 233) Cx hW (hX 0 _ rfl) rfl dX8_count_233 ?_
      refine gF_X8_331 (pc := 236) Cx hW (xs_shore hX (Or.inl rfl)) rfl dX8_count_236 ?_
      exact um_iretR (pc := 239) Cx hW hS hf dX8_count_239
    have hf := um_ie c19 hf
    by_cases c20 : a1 = (19 : Int32)
    · have hf := um_it c20 hf
      refine lv_tableIn (pc := 22) (tgt := 240) hx hb dX8_count_22 (by rw [c20]; decide) (by rw [c20]; decide) (by rw [c20]; rfl) (by decide) ?_
      refine lv_aload_n (pc := 240) hx hb dX8_count_240 rfl (lv_at hl 0 rfl) ?_
      refine gF_X8_297 (pc := 241) Cx hW (hX 0 _ rfl) rfl dX8_count_241 ?_
      exact um_iretR (pc := 244) Cx hW hS hf dX8_count_244
    have hf := um_ie c20 hf
    by_cases c21 : a1 = (20 : Int32)
    · have hf := um_it c21 hf
      refine lv_tableIn (pc := 22) (tgt := 245) hx hb dX8_count_22 (by rw [c21]; decide) (by rw [c21]; decide) (by rw [c21]; rfl) (by decide) ?_
      refine lv_aload_n (pc := 245) hx hb dX8_count_245 rfl (lv_at hl 0 rfl) ?_
      refine gF_X8_25 (pc := 246) Cx hW (hX 0 _ rfl) rfl dX8_count_246 ?_
      refine gF_X8_122 (pc := 249) Cx hW (hX 4 _ rfl) rfl dX8_count_249 ?_
      exact um_iretR (pc := 252) Cx hW hS hf dX8_count_252
    have hf := um_ie c21 hf
    by_cases c22 : a1 = (21 : Int32)
    · have hf := um_it c22 hf
      refine lv_tableIn (pc := 22) (tgt := 253) hx hb dX8_count_22 (by rw [c22]; decide) (by rw [c22]; decide) (by rw [c22]; rfl) (by decide) ?_
      refine lv_aload_n (pc := 253) hx hb dX8_count_253 rfl (lv_at hl 0 rfl) ?_
      refine gF_X8_10 (pc := 254) Cx hW (hX 0 _ rfl) rfl dX8_count_254 ?_
      refine gF_X8_51 (pc := 257) Cx hW (xs_shore hX (Or.inl rfl)) rfl dX8_count_257 ?_
      exact um_iretR (pc := 260) Cx hW hS hf dX8_count_260
    have hf := um_ie c22 hf
    by_cases c23 : a1 = (22 : Int32)
    · have hf := um_it c23 hf
      refine lv_tableIn (pc := 22) (tgt := 261) hx hb dX8_count_22 (by rw [c23]; decide) (by rw [c23]; decide) (by rw [c23]; rfl) (by decide) ?_
      refine lv_aload_n (pc := 261) hx hb dX8_count_261 rfl (lv_at hl 0 rfl) ?_
      refine gF_X8_10 (pc := 262) Cx hW (hX 0 _ rfl) rfl dX8_count_262 ?_
      refine gF_X8_194 (pc := 265) Cx hW (xs_shore hX (Or.inl rfl)) rfl dX8_count_265 ?_
      exact um_iretR (pc := 268) Cx hW hS hf dX8_count_268
    have hf := um_ie c23 hf
    have ho : a1.toInt < 0 ∨ 22 < a1.toInt := um_tabO (lo := 0) (hi := 22) (fun z z1 z2 => by
      rcases (show z = 0 ∨ z = 1 ∨ z = 2 ∨ z = 3 ∨ z = 4 ∨ z = 5 ∨ z = 6 ∨ z = 7 ∨ z = 8 ∨ z = 9 ∨ z = 10 ∨ z = 11 ∨ z = 12 ∨ z = 13 ∨ z = 14 ∨ z = 15 ∨ z = 16 ∨ z = 17 ∨ z = 18 ∨ z = 19 ∨ z = 20 ∨ z = 21 ∨ z = 22 by omega) with rfl | rfl | rfl | rfl | rfl | rfl | rfl | rfl | rfl | rfl | rfl | rfl | rfl | rfl | rfl | rfl | rfl | rfl | rfl | rfl | rfl | rfl | rfl
      · exact c1
      · exact c2
      · exact c3
      · exact c4
      · exact c5
      · exact c6
      · exact c7
      · exact c8
      · exact c9
      · exact c10
      · exact c11
      · exact c12
      · exact c13
      · exact c14
      · exact c15
      · exact c16
      · exact c17
      · exact c18
      · exact c19
      · exact c20
      · exact c21
      · exact c22
      · exact c23)
    refine lv_tableOut (pc := 22) (tgt := 269) hx hb dX8_count_22 ho (by decide) ?_
    refine lv_ldc (pc := 269) hx hb hown (hts _ qC_X8_59) dX8_count_269 ?_
    exact um_iretR (pc := 271) Cx hW hS hf dX8_count_271
  · have hf := um_ie c1 hf
    clear c1
    refine lv_aload_n (pc := 10) hx hb dX8_count_10 rfl (lv_at hl 0 rfl) ?_
    refine gF_X8_10 (pc := 11) Cx hW (hX 0 _ rfl) rfl dX8_count_11 ?_
    refine lv_iload_n (pc := 14) hx hb dX8_count_14 rfl (lv_at hl 1 rfl) ?_
    refine lv_iconst (pc := 15) (v := (4 : Int32)) hx hb dX8_count_15 (by decide) ?_
    refine lv_isub (pc := 16) hx hb dX8_count_16 ?_
    obtain ⟨x8, hc7, hf⟩ := um_bi hf
    refine um_cVi (pc := 17) (As := [.int (a1 - (4 : Int32))]) (rest := []) Cx (c_X4_livingOfKind 1 (a1 - (4 : Int32)) (Or.inl rfl) hX hc7) kV_X4_livingOfKind (Or.inl qM_X8_316) hW hS (xs_shore hX (Or.inl rfl)) rfl rfl hl rfl (Nat.le_of_ble_eq_true rfl) (Nat.le_of_ble_eq_true rfl) (Nat.le_of_ble_eq_true rfl) dX8_count_17 (Nat.le_refl _) (Nat.le_refl _) ?_
    clear hW hS hc7
    intro H locs hW hS
    exact um_iretR (pc := 20) Cx hW hS hf dX8_count_20
theorem c_X8_count {σ : um_S} {r : Int32} (a1 : Int32) (hX : um_X sh) (hf : f_X8_count a1 σ = some r) : um_M l yX8_count cX8_count 2 (some FieldType.int) (4) (88) Z sh α σ [.ref (α 0), .int a1] (some (.int r)) σ :=
  um_start (by decide) (Nat.le_of_ble_eq_true rfl) (fun p e s m below meth c ls Cx hW hS hl => b_X8_count a1 hX hf Cx hW hS hl)
noncomputable def f_X8_dies (a1 : Int32) (σ : um_S) : Option (Int32 × um_S) :=
    (f_X5_holds (20 * 1 + 1) a1 σ).bind fun x2 =>
    (if (um_b x2) = 0 then
    (some ((-1000000001 : Int32), σ))
    else
    ((f_X4_isDead 1 a1 σ).bind fun x4 =>
    (if (um_b x4) = 0 then
    ((f_X5_set (20 * 1 + 1) a1 (11 : Int32) (1 : Int32) σ).bind fun σ6 =>
    ((f_X5_set (20 * 1 + 1) a1 (4 : Int32) (-1000000005 : Int32) σ6).bind fun σ8 =>
    (some ((1 : Int32), σ8))))
    else
    (some ((-1000000002 : Int32), σ)))))
set_option maxRecDepth 100000 in
set_option maxHeartbeats 4000000 in
theorem b_X8_dies {H : Heap} {locs : List Loc} {ls : Array Slot} {σ : um_S} {σ' : um_S} {r : Int32} (a1 : Int32) (hX : um_X sh) (hf : f_X8_dies a1 σ = some (r, σ')) (Cx : um_C p s m meth c args cX8_dies 2 (some FieldType.int) RX8 Z) (hW : um_W Z sh α σ H) (hS : va_S (um_D sh α) s.heap H locs) (hl : lv_has ls 2 [(0, .ref (α 0)), (1, .int a1)]) : um_G p l e (2) (45) s m args below meth c Z sh α σ' (some (.int r)) H locs (F0 m 0 ls []) := by
  have hx := Cx.1
  have hb := Cx.2.1
  have hown := Cx.2.2.2.2.1
  have hts := Cx.2.2.2.2.2.1
  rw [f_X8_dies] at hf
  refine lv_aload_n (pc := 0) hx hb dX8_dies_0 rfl (lv_at hl 0 rfl) ?_
  refine gF_X8_10 (pc := 1) Cx hW (hX 0 _ rfl) rfl dX8_dies_1 ?_
  refine gF_X8_77 (pc := 4) Cx hW (xs_shore hX (Or.inl rfl)) rfl dX8_dies_4 ?_
  refine lv_iload_n (pc := 7) hx hb dX8_dies_7 rfl (lv_at hl 1 rfl) ?_
  obtain ⟨x2, hc1, hf⟩ := um_bi hf
  refine um_cVi (pc := 8) (As := [.int a1]) (rest := []) Cx (c_X5_holds (20 * 1 + 1) a1 (xs_ht (Or.inl rfl) 1 rfl) hX hc1) kV_X5_holds (Or.inl qM_X8_70) hW hS (xs_tab hX (xs_ht (Or.inl rfl) 1 rfl)) rfl rfl hl rfl (Nat.le_of_ble_eq_true rfl) (Nat.le_of_ble_eq_true rfl) (Nat.le_of_ble_eq_true rfl) dX8_dies_8 (Nat.le_refl _) (Nat.le_refl _) ?_
  clear hW hS hc1
  intro H locs hW hS
  refine lv_if_ne (pc := 11) (tgt := 17) hx hb dX8_dies_11 (by decide) (fun c1 => ?_) (fun c1 => ?_)
  · have hf := um_ie c1 hf
    clear c1
    refine lv_aload_n (pc := 17) hx hb dX8_dies_17 rfl (lv_at hl 0 rfl) ?_
    refine gF_X8_10 (pc := 18) Cx hW (hX 0 _ rfl) rfl dX8_dies_18 ?_
    refine lv_iload_n (pc := 21) hx hb dX8_dies_21 rfl (lv_at hl 1 rfl) ?_
    obtain ⟨x4, hc3, hf⟩ := um_bi hf
    refine um_cVi (pc := 22) (As := [.int a1]) (rest := []) Cx (c_X4_isDead 1 a1 (Or.inl rfl) hX hc3) kV_X4_isDead (Or.inl qM_X8_102) hW hS (xs_shore hX (Or.inl rfl)) rfl rfl hl rfl (Nat.le_of_ble_eq_true rfl) (Nat.le_of_ble_eq_true rfl) (Nat.le_of_ble_eq_true rfl) dX8_dies_22 (Nat.le_refl _) (Nat.le_refl _) ?_
    clear hW hS hc3
    intro H locs hW hS
    refine lv_if_eq (pc := 25) (tgt := 31) hx hb dX8_dies_25 (by decide) (fun c1 => ?_) (fun c1 => ?_)
    · have hf := um_it c1 hf
      clear c1
      refine lv_aload_n (pc := 31) hx hb dX8_dies_31 rfl (lv_at hl 0 rfl) ?_
      refine gF_X8_10 (pc := 32) Cx hW (hX 0 _ rfl) rfl dX8_dies_32 ?_
      refine gF_X8_77 (pc := 35) Cx hW (xs_shore hX (Or.inl rfl)) rfl dX8_dies_35 ?_
      refine lv_iload_n (pc := 38) hx hb dX8_dies_38 rfl (lv_at hl 1 rfl) ?_
      refine lv_bipush (pc := 39) (v := (11 : Int32)) hx hb dX8_dies_39 (by decide) ?_
      refine lv_iconst (pc := 41) (v := (1 : Int32)) hx hb dX8_dies_41 (by decide) ?_
      obtain ⟨σ6, hc5, hf⟩ := um_bi hf
      refine um_cVv (pc := 42) (As := [.int a1, .int (11 : Int32), .int (1 : Int32)]) (rest := []) Cx (c_X5_set (20 * 1 + 1) a1 (11 : Int32) (1 : Int32) (xs_ht (Or.inl rfl) 1 rfl) hX hc5) kV_X5_set (Or.inl qM_X8_105) hW hS (xs_tab hX (xs_ht (Or.inl rfl) 1 rfl)) rfl rfl hl rfl (Nat.le_of_ble_eq_true rfl) (Nat.le_of_ble_eq_true rfl) (Nat.le_of_ble_eq_true rfl) dX8_dies_42 (Nat.le_refl _) (Nat.le_refl _) ?_
      clear hW hS hc5
      intro H locs hW hS
      refine lv_aload_n (pc := 45) hx hb dX8_dies_45 rfl (lv_at hl 0 rfl) ?_
      refine gF_X8_10 (pc := 46) Cx hW (hX 0 _ rfl) rfl dX8_dies_46 ?_
      refine gF_X8_77 (pc := 49) Cx hW (xs_shore hX (Or.inl rfl)) rfl dX8_dies_49 ?_
      refine lv_iload_n (pc := 52) hx hb dX8_dies_52 rfl (lv_at hl 1 rfl) ?_
      refine lv_iconst (pc := 53) (v := (4 : Int32)) hx hb dX8_dies_53 (by decide) ?_
      refine lv_ldc (pc := 54) hx hb hown (hts _ qC_X8_109) dX8_dies_54 ?_
      obtain ⟨σ8, hc7, hf⟩ := um_bi hf
      refine um_cVv (pc := 56) (As := [.int a1, .int (4 : Int32), .int (-1000000005 : Int32)]) (rest := []) Cx (c_X5_set (20 * 1 + 1) a1 (4 : Int32) (-1000000005 : Int32) (xs_ht (Or.inl rfl) 1 rfl) hX hc7) kV_X5_set (Or.inl qM_X8_105) hW hS (xs_tab hX (xs_ht (Or.inl rfl) 1 rfl)) rfl rfl hl rfl (Nat.le_of_ble_eq_true rfl) (Nat.le_of_ble_eq_true rfl) (Nat.le_of_ble_eq_true rfl) dX8_dies_56 (Nat.le_refl _) (Nat.le_refl _) ?_
      clear hW hS hc7
      intro H locs hW hS
      refine lv_iconst (pc := 59) (v := (1 : Int32)) hx hb dX8_dies_59 (by decide) ?_
      exact um_iret (pc := 60) Cx hW hS hf dX8_dies_60
    · have hf := um_ie c1 hf
      clear c1
      refine lv_ldc (pc := 28) hx hb hown (hts _ qC_X8_88) dX8_dies_28 ?_
      exact um_iret (pc := 30) Cx hW hS hf dX8_dies_30
  · have hf := um_it c1 hf
    clear c1
    refine lv_ldc (pc := 14) hx hb hown (hts _ qC_X8_59) dX8_dies_14 ?_
    exact um_iret (pc := 16) Cx hW hS hf dX8_dies_16
theorem c_X8_dies {σ : um_S} {σ' : um_S} {r : Int32} (a1 : Int32) (hX : um_X sh) (hf : f_X8_dies a1 σ = some (r, σ')) : um_M l yX8_dies cX8_dies 2 (some FieldType.int) (2) (45) Z sh α σ [.ref (α 0), .int a1] (some (.int r)) σ' :=
  um_start (by decide) (Nat.le_of_ble_eq_true rfl) (fun p e s m below meth c ls Cx hW hS hl => b_X8_dies a1 hX hf Cx hW hS hl)
noncomputable def f_X8_due (a1 : Int32) (σ : um_S) : Option (Int32 × um_S) :=
    (f_X5_holds (20 * 1 + 1) a1 σ).bind fun x2 =>
    (if (um_b x2) = 0 then
    (some ((-1000000001 : Int32), σ))
    else
    ((f_X4_isDead 1 a1 σ).bind fun x4 =>
    (if (um_b x4) = 0 then
    ((f_X4_hasLanded 1 a1 σ).bind fun x6 =>
    (if (um_b x6) = 0 then
    (some ((-1000000002 : Int32), σ))
    else
    ((f_X4_marksOf 1 a1 σ).bind fun x8 =>
    (um_b2 (f_X4_ticketWeek 1 a1 x8 σ) fun x11 σ10 =>
    (some (x11, σ10))))))
    else
    (some ((-1000000002 : Int32), σ)))))
set_option maxRecDepth 100000 in
set_option maxHeartbeats 4000000 in
theorem b_X8_due {H : Heap} {locs : List Loc} {ls : Array Slot} {σ : um_S} {σ' : um_S} {r : Int32} (a1 : Int32) (hX : um_X sh) (hf : f_X8_due a1 σ = some (r, σ')) (Cx : um_C p s m meth c args cX8_due 2 (some FieldType.int) RX8 Z) (hW : um_W Z sh α σ H) (hS : va_S (um_D sh α) s.heap H locs) (hl : lv_has ls 2 [(0, .ref (α 0)), (1, .int a1)]) : um_G p l e (3) (76) s m args below meth c Z sh α σ' (some (.int r)) H locs (F0 m 0 ls []) := by
  have hx := Cx.1
  have hb := Cx.2.1
  have hown := Cx.2.2.2.2.1
  have hts := Cx.2.2.2.2.2.1
  rw [f_X8_due] at hf
  refine lv_aload_n (pc := 0) hx hb dX8_due_0 rfl (lv_at hl 0 rfl) ?_
  refine gF_X8_10 (pc := 1) Cx hW (hX 0 _ rfl) rfl dX8_due_1 ?_
  refine gF_X8_77 (pc := 4) Cx hW (xs_shore hX (Or.inl rfl)) rfl dX8_due_4 ?_
  refine lv_iload_n (pc := 7) hx hb dX8_due_7 rfl (lv_at hl 1 rfl) ?_
  obtain ⟨x2, hc1, hf⟩ := um_bi hf
  refine um_cVi (pc := 8) (As := [.int a1]) (rest := []) Cx (c_X5_holds (20 * 1 + 1) a1 (xs_ht (Or.inl rfl) 1 rfl) hX hc1) kV_X5_holds (Or.inl qM_X8_70) hW hS (xs_tab hX (xs_ht (Or.inl rfl) 1 rfl)) rfl rfl hl rfl (Nat.le_of_ble_eq_true rfl) (Nat.le_of_ble_eq_true rfl) (Nat.le_of_ble_eq_true rfl) dX8_due_8 (Nat.le_refl _) (Nat.le_refl _) ?_
  clear hW hS hc1
  intro H locs hW hS
  refine lv_if_ne (pc := 11) (tgt := 17) hx hb dX8_due_11 (by decide) (fun c1 => ?_) (fun c1 => ?_)
  · have hf := um_ie c1 hf
    clear c1
    refine lv_aload_n (pc := 17) hx hb dX8_due_17 rfl (lv_at hl 0 rfl) ?_
    refine gF_X8_10 (pc := 18) Cx hW (hX 0 _ rfl) rfl dX8_due_18 ?_
    refine lv_iload_n (pc := 21) hx hb dX8_due_21 rfl (lv_at hl 1 rfl) ?_
    obtain ⟨x4, hc3, hf⟩ := um_bi hf
    refine um_cVi (pc := 22) (As := [.int a1]) (rest := []) Cx (c_X4_isDead 1 a1 (Or.inl rfl) hX hc3) kV_X4_isDead (Or.inl qM_X8_102) hW hS (xs_shore hX (Or.inl rfl)) rfl rfl hl rfl (Nat.le_of_ble_eq_true rfl) (Nat.le_of_ble_eq_true rfl) (Nat.le_of_ble_eq_true rfl) dX8_due_22 (Nat.le_refl _) (Nat.le_refl _) ?_
    clear hW hS hc3
    intro H locs hW hS
    refine lv_if_ne (pc := 25) (tgt := 39) hx hb dX8_due_25 (by decide) (fun c1 => ?_) (fun c1 => ?_)
    · have hf := um_ie c1 hf
      clear c1
      refine lv_ldc (pc := 39) hx hb hown (hts _ qC_X8_88) dX8_due_39 ?_
      exact um_iret (pc := 41) Cx hW hS hf dX8_due_41
    · have hf := um_it c1 hf
      clear c1
      refine lv_aload_n (pc := 28) hx hb dX8_due_28 rfl (lv_at hl 0 rfl) ?_
      refine gF_X8_10 (pc := 29) Cx hW (hX 0 _ rfl) rfl dX8_due_29 ?_
      refine lv_iload_n (pc := 32) hx hb dX8_due_32 rfl (lv_at hl 1 rfl) ?_
      obtain ⟨x6, hc5, hf⟩ := um_bi hf
      refine um_cVi (pc := 33) (As := [.int a1]) (rest := []) Cx (c_X4_hasLanded 1 a1 (Or.inl rfl) hX hc5) kV_X4_hasLanded (Or.inl qM_X8_85) hW hS (xs_shore hX (Or.inl rfl)) rfl rfl hl rfl (Nat.le_of_ble_eq_true rfl) (Nat.le_of_ble_eq_true rfl) (Nat.le_of_ble_eq_true rfl) dX8_due_33 (Nat.le_refl _) (Nat.le_refl _) ?_
      clear hW hS hc5
      intro H locs hW hS
      refine lv_if_ne (pc := 36) (tgt := 42) hx hb dX8_due_36 (by decide) (fun c1 => ?_) (fun c1 => ?_)
      · have hf := um_ie c1 hf
        clear c1
        refine lv_aload_n (pc := 42) hx hb dX8_due_42 rfl (lv_at hl 0 rfl) ?_
        refine gF_X8_10 (pc := 43) Cx hW (hX 0 _ rfl) rfl dX8_due_43 ?_
        refine lv_iload_n (pc := 46) hx hb dX8_due_46 rfl (lv_at hl 1 rfl) ?_
        refine lv_aload_n (pc := 47) hx hb dX8_due_47 rfl (lv_at hl 0 rfl) ?_
        refine gF_X8_10 (pc := 48) Cx hW (hX 0 _ rfl) rfl dX8_due_48 ?_
        refine lv_iload_n (pc := 51) hx hb dX8_due_51 rfl (lv_at hl 1 rfl) ?_
        obtain ⟨x8, hc7, hf⟩ := um_bi hf
        refine um_cVi (pc := 52) (As := [.int a1]) (rest := [.int a1, .ref (α 1)]) Cx (c_X4_marksOf 1 a1 (Or.inl rfl) hX hc7) kV_X4_marksOf (Or.inl qM_X8_93) hW hS (xs_shore hX (Or.inl rfl)) rfl rfl hl rfl (Nat.le_of_ble_eq_true rfl) (Nat.le_of_ble_eq_true rfl) (Nat.le_of_ble_eq_true rfl) dX8_due_52 (Nat.le_refl _) (Nat.le_refl _) ?_
        clear hW hS hc7
        intro H locs hW hS
        obtain ⟨x11, σ10, hc9, hf⟩ := um_bi2 hf
        refine um_cVi (pc := 55) (As := [.int a1, .int x8]) (rest := []) Cx (c_X4_ticketWeek 1 a1 x8 (Or.inl rfl) hX hc9) kV_X4_ticketWeek (Or.inl qM_X8_164) hW hS (xs_shore hX (Or.inl rfl)) rfl rfl hl rfl (Nat.le_of_ble_eq_true rfl) (Nat.le_of_ble_eq_true rfl) (Nat.le_of_ble_eq_true rfl) dX8_due_55 (Nat.le_refl _) (Nat.le_refl _) ?_
        clear hW hS hc9
        intro H locs hW hS
        exact um_iret (pc := 58) Cx hW hS hf dX8_due_58
      · have hf := um_it c1 hf
        clear c1
        refine lv_ldc (pc := 39) hx hb hown (hts _ qC_X8_88) dX8_due_39 ?_
        exact um_iret (pc := 41) Cx hW hS hf dX8_due_41
  · have hf := um_it c1 hf
    clear c1
    refine lv_ldc (pc := 14) hx hb hown (hts _ qC_X8_59) dX8_due_14 ?_
    exact um_iret (pc := 16) Cx hW hS hf dX8_due_16
theorem c_X8_due {σ : um_S} {σ' : um_S} {r : Int32} (a1 : Int32) (hX : um_X sh) (hf : f_X8_due a1 σ = some (r, σ')) : um_M l yX8_due cX8_due 2 (some FieldType.int) (3) (76) Z sh α σ [.ref (α 0), .int a1] (some (.int r)) σ' :=
  um_start (by decide) (Nat.le_of_ble_eq_true rfl) (fun p e s m below meth c ls Cx hW hS hl => b_X8_due a1 hX hf Cx hW hS hl)
noncomputable def f_X8_feed (a1 : Int32) (a2 : Int32) (a3 : Int32) (σ : um_S) : Option (Int32 × um_S) :=
    um_b2 (f_X6_append a1 a2 a3 σ) fun x3 σ2 =>
    (if (um_b x3) = 0 then
    (some ((-1000000003 : Int32), σ2))
    else
    (some (σ2.1 4 1, σ2)))
set_option maxRecDepth 100000 in
set_option maxHeartbeats 4000000 in
theorem b_X8_feed {H : Heap} {locs : List Loc} {ls : Array Slot} {σ : um_S} {σ' : um_S} {r : Int32} (a1 : Int32) (a2 : Int32) (a3 : Int32) (hX : um_X sh) (hf : f_X8_feed a1 a2 a3 σ = some (r, σ')) (Cx : um_C p s m meth c args cX8_feed 4 (some FieldType.int) RX8 Z) (hW : um_W Z sh α σ H) (hS : va_S (um_D sh α) s.heap H locs) (hl : lv_has ls 4 [(0, .ref (α 0)), (1, .int a1), (2, .int a2), (3, .int a3)]) : um_G p l e (2) (45) s m args below meth c Z sh α σ' (some (.int r)) H locs (F0 m 0 ls []) := by
  have hx := Cx.1
  have hb := Cx.2.1
  have hown := Cx.2.2.2.2.1
  have hts := Cx.2.2.2.2.2.1
  rw [f_X8_feed] at hf
  refine lv_aload_n (pc := 0) hx hb dX8_feed_0 rfl (lv_at hl 0 rfl) ?_
  refine gF_X8_25 (pc := 1) Cx hW (hX 0 _ rfl) rfl dX8_feed_1 ?_
  refine lv_iload_n (pc := 4) hx hb dX8_feed_4 rfl (lv_at hl 1 rfl) ?_
  refine lv_iload_n (pc := 5) hx hb dX8_feed_5 rfl (lv_at hl 2 rfl) ?_
  refine lv_iload_n (pc := 6) hx hb dX8_feed_6 rfl (lv_at hl 3 rfl) ?_
  obtain ⟨x3, σ2, hc1, hf⟩ := um_bi2 hf
  refine um_cVi (pc := 7) (As := [.int a1, .int a2, .int a3]) (rest := []) Cx (c_X6_append a1 a2 a3 hX hc1) kV_X6_append (Or.inl qM_X8_119) hW hS (hX 4 _ rfl) rfl rfl hl rfl (Nat.le_of_ble_eq_true rfl) (Nat.le_of_ble_eq_true rfl) (Nat.le_of_ble_eq_true rfl) dX8_feed_7 (Nat.le_refl _) (Nat.le_refl _) ?_
  clear hW hS hc1
  intro H locs hW hS
  refine lv_if_eq (pc := 10) (tgt := 23) hx hb dX8_feed_10 (by decide) (fun c1 => ?_) (fun c1 => ?_)
  · have hf := um_it c1 hf
    clear c1
    refine lv_ldc (pc := 23) hx hb hown (hts _ qC_X8_80) dX8_feed_23 ?_
    exact um_iret (pc := 25) Cx hW hS hf dX8_feed_25
  · have hf := um_ie c1 hf
    clear c1
    refine lv_aload_n (pc := 13) hx hb dX8_feed_13 rfl (lv_at hl 0 rfl) ?_
    refine gF_X8_25 (pc := 14) Cx hW (hX 0 _ rfl) rfl dX8_feed_14 ?_
    refine gF_X8_122 (pc := 17) Cx hW (hX 4 _ rfl) rfl dX8_feed_17 ?_
    refine lv_goto (pc := 20) (tgt := 25) hx hb dX8_feed_20 (by decide) ?_
    exact um_iret (pc := 25) Cx hW hS hf dX8_feed_25
theorem c_X8_feed {σ : um_S} {σ' : um_S} {r : Int32} (a1 : Int32) (a2 : Int32) (a3 : Int32) (hX : um_X sh) (hf : f_X8_feed a1 a2 a3 σ = some (r, σ')) : um_M l yX8_feed cX8_feed 4 (some FieldType.int) (2) (45) Z sh α σ [.ref (α 0), .int a1, .int a2, .int a3] (some (.int r)) σ' :=
  um_start (by decide) (Nat.le_of_ble_eq_true rfl) (fun p e s m below meth c ls Cx hW hS hl => b_X8_feed a1 a2 a3 hX hf Cx hW hS hl)
noncomputable def f_X8_goes (a1 : Int32) (σ : um_S) : Option (Int32 × um_S) :=
    (f_X5_holds (20 * 1 + 1) a1 σ).bind fun x2 =>
    (if (um_b x2) = 0 then
    (some ((-1000000001 : Int32), σ))
    else
    ((f_X0_ask 1 σ).bind fun σ4 =>
    (um_b2 (f_X0_masterFor a1 σ4) fun x7 σ6 =>
    (some (x7, σ6)))))
set_option maxRecDepth 100000 in
set_option maxHeartbeats 4000000 in
theorem b_X8_goes {H : Heap} {locs : List Loc} {ls : Array Slot} {σ : um_S} {σ' : um_S} {r : Int32} (a1 : Int32) (hX : um_X sh) (hf : f_X8_goes a1 σ = some (r, σ')) (Cx : um_C p s m meth c args cX8_goes 2 (some FieldType.int) RX8 Z) (hW : um_W Z sh α σ H) (hS : va_S (um_D sh α) s.heap H locs) (hl : lv_has ls 2 [(0, .ref (α 0)), (1, .int a1)]) : um_G p l e (6) (131) s m args below meth c Z sh α σ' (some (.int r)) H locs (F0 m 0 ls []) := by
  have hx := Cx.1
  have hb := Cx.2.1
  have hown := Cx.2.2.2.2.1
  have hts := Cx.2.2.2.2.2.1
  rw [f_X8_goes] at hf
  refine lv_aload_n (pc := 0) hx hb dX8_goes_0 rfl (lv_at hl 0 rfl) ?_
  refine gF_X8_10 (pc := 1) Cx hW (hX 0 _ rfl) rfl dX8_goes_1 ?_
  refine gF_X8_77 (pc := 4) Cx hW (xs_shore hX (Or.inl rfl)) rfl dX8_goes_4 ?_
  refine lv_iload_n (pc := 7) hx hb dX8_goes_7 rfl (lv_at hl 1 rfl) ?_
  obtain ⟨x2, hc1, hf⟩ := um_bi hf
  refine um_cVi (pc := 8) (As := [.int a1]) (rest := []) Cx (c_X5_holds (20 * 1 + 1) a1 (xs_ht (Or.inl rfl) 1 rfl) hX hc1) kV_X5_holds (Or.inl qM_X8_70) hW hS (xs_tab hX (xs_ht (Or.inl rfl) 1 rfl)) rfl rfl hl rfl (Nat.le_of_ble_eq_true rfl) (Nat.le_of_ble_eq_true rfl) (Nat.le_of_ble_eq_true rfl) dX8_goes_8 (Nat.le_refl _) (Nat.le_refl _) ?_
  clear hW hS hc1
  intro H locs hW hS
  refine lv_if_ne (pc := 11) (tgt := 17) hx hb dX8_goes_11 (by decide) (fun c1 => ?_) (fun c1 => ?_)
  · have hf := um_ie c1 hf
    clear c1
    refine lv_aload_n (pc := 17) hx hb dX8_goes_17 rfl (lv_at hl 0 rfl) ?_
    refine gF_X8_32 (pc := 18) Cx hW (hX 0 _ rfl) rfl dX8_goes_18 ?_
    refine lv_aload_n (pc := 21) hx hb dX8_goes_21 rfl (lv_at hl 0 rfl) ?_
    refine gF_X8_10 (pc := 22) Cx hW (hX 0 _ rfl) rfl dX8_goes_22 ?_
    obtain ⟨σ4, hc3, hf⟩ := um_bi hf
    refine um_cVv (pc := 25) (As := [.ref (α 1)]) (rest := []) Cx (c_X0_ask 1 (Or.inl rfl) hX hc3) kV_X0_ask (Or.inl qM_X8_226) hW hS (hX 5 _ rfl) rfl rfl hl rfl (Nat.le_of_ble_eq_true rfl) (Nat.le_of_ble_eq_true rfl) (Nat.le_of_ble_eq_true rfl) dX8_goes_25 (Nat.le_refl _) (Nat.le_refl _) ?_
    clear hW hS hc3
    intro H locs hW hS
    refine lv_aload_n (pc := 28) hx hb dX8_goes_28 rfl (lv_at hl 0 rfl) ?_
    refine gF_X8_32 (pc := 29) Cx hW (hX 0 _ rfl) rfl dX8_goes_29 ?_
    refine lv_iload_n (pc := 32) hx hb dX8_goes_32 rfl (lv_at hl 1 rfl) ?_
    obtain ⟨x7, σ6, hc5, hf⟩ := um_bi2 hf
    refine um_cVi (pc := 33) (As := [.int a1]) (rest := []) Cx (c_X0_masterFor a1 hX hc5) kV_X0_masterFor (Or.inl qM_X8_230) hW hS (hX 5 _ rfl) rfl rfl hl rfl (Nat.le_of_ble_eq_true rfl) (Nat.le_of_ble_eq_true rfl) (Nat.le_of_ble_eq_true rfl) dX8_goes_33 (Nat.le_refl _) (Nat.le_refl _) ?_
    clear hW hS hc5
    intro H locs hW hS
    exact um_iret (pc := 36) Cx hW hS hf dX8_goes_36
  · have hf := um_it c1 hf
    clear c1
    refine lv_ldc (pc := 14) hx hb hown (hts _ qC_X8_59) dX8_goes_14 ?_
    exact um_iret (pc := 16) Cx hW hS hf dX8_goes_16
theorem c_X8_goes {σ : um_S} {σ' : um_S} {r : Int32} (a1 : Int32) (hX : um_X sh) (hf : f_X8_goes a1 σ = some (r, σ')) : um_M l yX8_goes cX8_goes 2 (some FieldType.int) (6) (131) Z sh α σ [.ref (α 0), .int a1] (some (.int r)) σ' :=
  um_start (by decide) (Nat.le_of_ble_eq_true rfl) (fun p e s m below meth c ls Cx hW hS hl => b_X8_goes a1 hX hf Cx hW hS hl)
noncomputable def f_X8_harsh (a1 : Int32) (σ : um_S) : Option (Int32) :=
    (f_X8_within a1 (0 : Int32) (7 : Int32) σ).bind fun x2 =>
    (if (um_b x2) = 0 then
    (some (-1000000001 : Int32))
    else
    ((f_X3_harshJudges (20 * 1 + 6) a1 σ).bind fun x4 =>
    (some x4)))
set_option maxRecDepth 100000 in
set_option maxHeartbeats 4000000 in
theorem b_X8_harsh {H : Heap} {locs : List Loc} {ls : Array Slot} {σ : um_S} {r : Int32} (a1 : Int32) (hX : um_X sh) (hf : f_X8_harsh a1 σ = some r) (Cx : um_C p s m meth c args cX8_harsh 2 (some FieldType.int) RX8 Z) (hW : um_W Z sh α σ H) (hS : va_S (um_D sh α) s.heap H locs) (hl : lv_has ls 2 [(0, .ref (α 0)), (1, .int a1)]) : um_G p l e (3) (76) s m args below meth c Z sh α σ (some (.int r)) H locs (F0 m 0 ls []) := by
  have hx := Cx.1
  have hb := Cx.2.1
  have hown := Cx.2.2.2.2.1
  have hts := Cx.2.2.2.2.2.1
  rw [f_X8_harsh] at hf
  refine lv_iload_n (pc := 0) hx hb dX8_harsh_0 rfl (lv_at hl 1 rfl) ?_
  refine lv_iconst (pc := 1) (v := (0 : Int32)) hx hb dX8_harsh_1 (by decide) ?_
  refine lv_bipush (pc := 2) (v := (7 : Int32)) hx hb dX8_harsh_2 (by decide) ?_
  obtain ⟨x2, hc1, hf⟩ := um_bi hf
  refine um_cSi (pc := 4) (As := [.int a1, .int (0 : Int32), .int (7 : Int32)]) (rest := []) Cx (c_X8_within a1 (0 : Int32) (7 : Int32) hX hc1) kS_X8_within (Or.inl qM_X8_55) hW hS rfl hl rfl (Nat.le_of_ble_eq_true rfl) (Nat.le_of_ble_eq_true rfl) (Nat.le_of_ble_eq_true rfl) dX8_harsh_4 (Nat.le_refl _) (Nat.le_refl _) ?_
  clear hW hS hc1
  intro H locs hW hS
  refine lv_if_eq (pc := 7) (tgt := 24) hx hb dX8_harsh_7 (by decide) (fun c1 => ?_) (fun c1 => ?_)
  · have hf := um_it c1 hf
    clear c1
    refine lv_ldc (pc := 24) hx hb hown (hts _ qC_X8_59) dX8_harsh_24 ?_
    exact um_iretR (pc := 26) Cx hW hS hf dX8_harsh_26
  · have hf := um_ie c1 hf
    clear c1
    refine lv_aload_n (pc := 10) hx hb dX8_harsh_10 rfl (lv_at hl 0 rfl) ?_
    refine gF_X8_10 (pc := 11) Cx hW (hX 0 _ rfl) rfl dX8_harsh_11 ?_
    refine gF_X8_236 (pc := 14) Cx hW (xs_shore hX (Or.inl rfl)) rfl dX8_harsh_14 ?_
    refine lv_iload_n (pc := 17) hx hb dX8_harsh_17 rfl (lv_at hl 1 rfl) ?_
    obtain ⟨x4, hc3, hf⟩ := um_bi hf
    refine um_cSi (pc := 18) (As := [.ref (α (20 * 1 + 6)), .int a1]) (rest := []) Cx (c_X3_harshJudges (20 * 1 + 6) a1 (xs_ht (Or.inl rfl) 6 rfl) hX hc3) kS_X3_harshJudges (Or.inl qM_X8_243) hW hS rfl hl rfl (Nat.le_of_ble_eq_true rfl) (Nat.le_of_ble_eq_true rfl) (Nat.le_of_ble_eq_true rfl) dX8_harsh_18 (Nat.le_refl _) (Nat.le_refl _) ?_
    clear hW hS hc3
    intro H locs hW hS
    refine lv_goto (pc := 21) (tgt := 26) hx hb dX8_harsh_21 (by decide) ?_
    exact um_iretR (pc := 26) Cx hW hS hf dX8_harsh_26
theorem c_X8_harsh {σ : um_S} {r : Int32} (a1 : Int32) (hX : um_X sh) (hf : f_X8_harsh a1 σ = some r) : um_M l yX8_harsh cX8_harsh 2 (some FieldType.int) (3) (76) Z sh α σ [.ref (α 0), .int a1] (some (.int r)) σ :=
  um_start (by decide) (Nat.le_of_ble_eq_true rfl) (fun p e s m below meth c ls Cx hW hS hl => b_X8_harsh a1 hX hf Cx hW hS hl)
noncomputable def f_X8_has (a1 : Int32) (a2 : Int32) (σ : um_S) : Option (Int32) :=
    (f_X5_holds (20 * 1 + 2) a1 σ).bind fun x2 =>
    (if (um_b x2) = 0 then
    (some (-1000000001 : Int32))
    else
    ((f_X8_within a2 (0 : Int32) (4 : Int32) σ).bind fun x4 =>
    (if (um_b x4) = 0 then
    (some (-1000000001 : Int32))
    else
    (if a2 = (4 : Int32) then
    ((f_X4_assignedTo 1 a1 σ).bind fun x8 =>
    (some x8))
    else
    ((f_X5_get (20 * 1 + 2) a1 a2 σ).bind fun x6 =>
    (some x6))))))
set_option maxRecDepth 100000 in
set_option maxHeartbeats 4000000 in
theorem b_X8_has {H : Heap} {locs : List Loc} {ls : Array Slot} {σ : um_S} {r : Int32} (a1 : Int32) (a2 : Int32) (hX : um_X sh) (hf : f_X8_has a1 a2 σ = some r) (Cx : um_C p s m meth c args cX8_has 3 (some FieldType.int) RX8 Z) (hW : um_W Z sh α σ H) (hS : va_S (um_D sh α) s.heap H locs) (hl : lv_has ls 3 [(0, .ref (α 0)), (1, .int a1), (2, .int a2)]) : um_G p l e (3) (69) s m args below meth c Z sh α σ (some (.int r)) H locs (F0 m 0 ls []) := by
  have hx := Cx.1
  have hb := Cx.2.1
  have hown := Cx.2.2.2.2.1
  have hts := Cx.2.2.2.2.2.1
  rw [f_X8_has] at hf
  refine lv_aload_n (pc := 0) hx hb dX8_has_0 rfl (lv_at hl 0 rfl) ?_
  refine gF_X8_10 (pc := 1) Cx hW (hX 0 _ rfl) rfl dX8_has_1 ?_
  refine gF_X8_110 (pc := 4) Cx hW (xs_shore hX (Or.inl rfl)) rfl dX8_has_4 ?_
  refine lv_iload_n (pc := 7) hx hb dX8_has_7 rfl (lv_at hl 1 rfl) ?_
  obtain ⟨x2, hc1, hf⟩ := um_bi hf
  refine um_cVi (pc := 8) (As := [.int a1]) (rest := []) Cx (c_X5_holds (20 * 1 + 2) a1 (xs_ht (Or.inl rfl) 2 rfl) hX hc1) kV_X5_holds (Or.inl qM_X8_70) hW hS (xs_tab hX (xs_ht (Or.inl rfl) 2 rfl)) rfl rfl hl rfl (Nat.le_of_ble_eq_true rfl) (Nat.le_of_ble_eq_true rfl) (Nat.le_of_ble_eq_true rfl) dX8_has_8 (Nat.le_refl _) (Nat.le_refl _) ?_
  clear hW hS hc1
  intro H locs hW hS
  refine lv_if_eq (pc := 11) (tgt := 23) hx hb dX8_has_11 (by decide) (fun c1 => ?_) (fun c1 => ?_)
  · have hf := um_it c1 hf
    clear c1
    refine lv_ldc (pc := 23) hx hb hown (hts _ qC_X8_59) dX8_has_23 ?_
    exact um_iretR (pc := 25) Cx hW hS hf dX8_has_25
  · have hf := um_ie c1 hf
    clear c1
    refine lv_iload_n (pc := 14) hx hb dX8_has_14 rfl (lv_at hl 2 rfl) ?_
    refine lv_iconst (pc := 15) (v := (0 : Int32)) hx hb dX8_has_15 (by decide) ?_
    refine lv_iconst (pc := 16) (v := (4 : Int32)) hx hb dX8_has_16 (by decide) ?_
    obtain ⟨x4, hc3, hf⟩ := um_bi hf
    refine um_cSi (pc := 17) (As := [.int a2, .int (0 : Int32), .int (4 : Int32)]) (rest := []) Cx (c_X8_within a2 (0 : Int32) (4 : Int32) hX hc3) kS_X8_within (Or.inl qM_X8_55) hW hS rfl hl rfl (Nat.le_of_ble_eq_true rfl) (Nat.le_of_ble_eq_true rfl) (Nat.le_of_ble_eq_true rfl) dX8_has_17 (Nat.le_refl _) (Nat.le_refl _) ?_
    clear hW hS hc3
    intro H locs hW hS
    refine lv_if_ne (pc := 20) (tgt := 26) hx hb dX8_has_20 (by decide) (fun c1 => ?_) (fun c1 => ?_)
    · have hf := um_ie c1 hf
      clear c1
      refine lv_iload_n (pc := 26) hx hb dX8_has_26 rfl (lv_at hl 2 rfl) ?_
      refine lv_iconst (pc := 27) (v := (4 : Int32)) hx hb dX8_has_27 (by decide) ?_
      refine lv_icmp_ne (pc := 28) (tgt := 42) hx hb dX8_has_28 (by decide) (fun c1 => ?_) (fun c1 => ?_)
      · have hf := um_ie c1 hf
        clear c1
        refine lv_aload_n (pc := 42) hx hb dX8_has_42 rfl (lv_at hl 0 rfl) ?_
        refine gF_X8_10 (pc := 43) Cx hW (hX 0 _ rfl) rfl dX8_has_43 ?_
        refine gF_X8_110 (pc := 46) Cx hW (xs_shore hX (Or.inl rfl)) rfl dX8_has_46 ?_
        refine lv_iload_n (pc := 49) hx hb dX8_has_49 rfl (lv_at hl 1 rfl) ?_
        refine lv_iload_n (pc := 50) hx hb dX8_has_50 rfl (lv_at hl 2 rfl) ?_
        obtain ⟨x6, hc5, hf⟩ := um_bi hf
        refine um_cVi (pc := 51) (As := [.int a1, .int a2]) (rest := []) Cx (c_X5_get (20 * 1 + 2) a1 a2 (xs_ht (Or.inl rfl) 2 rfl) hX hc5) kV_X5_get (Or.inl qM_X8_73) hW hS (xs_tab hX (xs_ht (Or.inl rfl) 2 rfl)) rfl rfl hl rfl (Nat.le_of_ble_eq_true rfl) (Nat.le_of_ble_eq_true rfl) (Nat.le_of_ble_eq_true rfl) dX8_has_51 (Nat.le_refl _) (Nat.le_refl _) ?_
        clear hW hS hc5
        intro H locs hW hS
        exact um_iretR (pc := 54) Cx hW hS hf dX8_has_54
      · have hf := um_it c1 hf
        clear c1
        refine lv_aload_n (pc := 31) hx hb dX8_has_31 rfl (lv_at hl 0 rfl) ?_
        refine gF_X8_10 (pc := 32) Cx hW (hX 0 _ rfl) rfl dX8_has_32 ?_
        refine lv_iload_n (pc := 35) hx hb dX8_has_35 rfl (lv_at hl 1 rfl) ?_
        obtain ⟨x8, hc7, hf⟩ := um_bi hf
        refine um_cVi (pc := 36) (As := [.int a1]) (rest := []) Cx (c_X4_assignedTo 1 a1 (Or.inl rfl) hX hc7) kV_X4_assignedTo (Or.inl qM_X8_113) hW hS (xs_shore hX (Or.inl rfl)) rfl rfl hl rfl (Nat.le_of_ble_eq_true rfl) (Nat.le_of_ble_eq_true rfl) (Nat.le_of_ble_eq_true rfl) dX8_has_36 (Nat.le_refl _) (Nat.le_refl _) ?_
        clear hW hS hc7
        intro H locs hW hS
        refine lv_goto (pc := 39) (tgt := 54) hx hb dX8_has_39 (by decide) ?_
        exact um_iretR (pc := 54) Cx hW hS hf dX8_has_54
    · have hf := um_it c1 hf
      clear c1
      refine lv_ldc (pc := 23) hx hb hown (hts _ qC_X8_59) dX8_has_23 ?_
      exact um_iretR (pc := 25) Cx hW hS hf dX8_has_25
theorem c_X8_has {σ : um_S} {r : Int32} (a1 : Int32) (a2 : Int32) (hX : um_X sh) (hf : f_X8_has a1 a2 σ = some r) : um_M l yX8_has cX8_has 3 (some FieldType.int) (3) (69) Z sh α σ [.ref (α 0), .int a1, .int a2] (some (.int r)) σ :=
  um_start (by decide) (Nat.le_of_ble_eq_true rfl) (fun p e s m below meth c ls Cx hW hS hl => b_X8_has a1 a2 hX hf Cx hW hS hl)
noncomputable def f_X8_hungry (a1 : Int32) (σ : um_S) : Option (Int32) :=
    (f_X8_isPlace a1 σ).bind fun x2 =>
    (if (um_b x2) = 0 then
    (some (-1000000001 : Int32))
    else
    ((f_X5_get (20 * 1 + 7) a1 (1 : Int32) σ).bind fun x4 =>
    (some x4)))
set_option maxRecDepth 100000 in
set_option maxHeartbeats 4000000 in
theorem b_X8_hungry {H : Heap} {locs : List Loc} {ls : Array Slot} {σ : um_S} {r : Int32} (a1 : Int32) (hX : um_X sh) (hf : f_X8_hungry a1 σ = some r) (Cx : um_C p s m meth c args cX8_hungry 2 (some FieldType.int) RX8 Z) (hW : um_W Z sh α σ H) (hS : va_S (um_D sh α) s.heap H locs) (hl : lv_has ls 2 [(0, .ref (α 0)), (1, .int a1)]) : um_G p l e (2) (42) s m args below meth c Z sh α σ (some (.int r)) H locs (F0 m 0 ls []) := by
  have hx := Cx.1
  have hb := Cx.2.1
  have hown := Cx.2.2.2.2.1
  have hts := Cx.2.2.2.2.2.1
  rw [f_X8_hungry] at hf
  refine lv_iload_n (pc := 0) hx hb dX8_hungry_0 rfl (lv_at hl 1 rfl) ?_
  obtain ⟨x2, hc1, hf⟩ := um_bi hf
  refine um_cSi (pc := 1) (As := [.int a1]) (rest := []) Cx (c_X8_isPlace a1 hX hc1) kS_X8_isPlace (Or.inl qM_X8_47) hW hS rfl hl rfl (Nat.le_of_ble_eq_true rfl) (Nat.le_of_ble_eq_true rfl) (Nat.le_of_ble_eq_true rfl) dX8_hungry_1 (Nat.le_refl _) (Nat.le_refl _) ?_
  clear hW hS hc1
  intro H locs hW hS
  refine lv_if_eq (pc := 4) (tgt := 22) hx hb dX8_hungry_4 (by decide) (fun c1 => ?_) (fun c1 => ?_)
  · have hf := um_it c1 hf
    clear c1
    refine lv_ldc (pc := 22) hx hb hown (hts _ qC_X8_59) dX8_hungry_22 ?_
    exact um_iretR (pc := 24) Cx hW hS hf dX8_hungry_24
  · have hf := um_ie c1 hf
    clear c1
    refine lv_aload_n (pc := 7) hx hb dX8_hungry_7 rfl (lv_at hl 0 rfl) ?_
    refine gF_X8_10 (pc := 8) Cx hW (hX 0 _ rfl) rfl dX8_hungry_8 ?_
    refine gF_X8_116 (pc := 11) Cx hW (xs_shore hX (Or.inl rfl)) rfl dX8_hungry_11 ?_
    refine lv_iload_n (pc := 14) hx hb dX8_hungry_14 rfl (lv_at hl 1 rfl) ?_
    refine lv_iconst (pc := 15) (v := (1 : Int32)) hx hb dX8_hungry_15 (by decide) ?_
    obtain ⟨x4, hc3, hf⟩ := um_bi hf
    refine um_cVi (pc := 16) (As := [.int a1, .int (1 : Int32)]) (rest := []) Cx (c_X5_get (20 * 1 + 7) a1 (1 : Int32) (xs_ht (Or.inl rfl) 7 rfl) hX hc3) kV_X5_get (Or.inl qM_X8_73) hW hS (xs_tab hX (xs_ht (Or.inl rfl) 7 rfl)) rfl rfl hl rfl (Nat.le_of_ble_eq_true rfl) (Nat.le_of_ble_eq_true rfl) (Nat.le_of_ble_eq_true rfl) dX8_hungry_16 (Nat.le_refl _) (Nat.le_refl _) ?_
    clear hW hS hc3
    intro H locs hW hS
    refine lv_goto (pc := 19) (tgt := 24) hx hb dX8_hungry_19 (by decide) ?_
    exact um_iretR (pc := 24) Cx hW hS hf dX8_hungry_24
theorem c_X8_hungry {σ : um_S} {r : Int32} (a1 : Int32) (hX : um_X sh) (hf : f_X8_hungry a1 σ = some r) : um_M l yX8_hungry cX8_hungry 2 (some FieldType.int) (2) (42) Z sh α σ [.ref (α 0), .int a1] (some (.int r)) σ :=
  um_start (by decide) (Nat.le_of_ble_eq_true rfl) (fun p e s m below meth c ls Cx hW hS hl => b_X8_hungry a1 hX hf Cx hW hS hl)
noncomputable def f_X8_keep  (σ : um_S) : Option (Int32 × um_S) :=
    (f_X4_becomeAs 2 1 σ).bind fun σ2 =>
    (um_let (um_wr σ2 0 3 (um_b true)) fun σ3 =>
    (some (σ3.1 1 12, σ3)))
set_option maxRecDepth 100000 in
set_option maxHeartbeats 4000000 in
theorem b_X8_keep {H : Heap} {locs : List Loc} {ls : Array Slot} {σ : um_S} {σ' : um_S} {r : Int32}  (hX : um_X sh) (hf : f_X8_keep σ = some (r, σ')) (Cx : um_C p s m meth c args cX8_keep 1 (some FieldType.int) RX8 Z) (hW : um_W Z sh α σ H) (hS : va_S (um_D sh α) s.heap H locs) (hl : lv_has ls 1 [(0, .ref (α 0))]) : um_G p l e (3) (102) s m args below meth c Z sh α σ' (some (.int r)) H locs (F0 m 0 ls []) := by
  have hx := Cx.1
  have hb := Cx.2.1
  have hown := Cx.2.2.2.2.1
  have hts := Cx.2.2.2.2.2.1
  rw [f_X8_keep] at hf
  refine lv_aload_n (pc := 0) hx hb dX8_keep_0 rfl (lv_at hl 0 rfl) ?_
  refine gF_X8_16 (pc := 1) Cx hW (hX 0 _ rfl) rfl dX8_keep_1 ?_
  refine lv_aload_n (pc := 4) hx hb dX8_keep_4 rfl (lv_at hl 0 rfl) ?_
  refine gF_X8_10 (pc := 5) Cx hW (hX 0 _ rfl) rfl dX8_keep_5 ?_
  obtain ⟨σ2, hc1, hf⟩ := um_bi hf
  refine um_cVv (pc := 8) (As := [.ref (α 1)]) (rest := []) Cx (c_X4_becomeAs 2 1 (Or.inr (Or.inl rfl)) (Or.inl rfl) hX hc1) kV_X4_becomeAs (Or.inl qM_X8_304) hW hS (xs_shore hX (Or.inr (Or.inl rfl))) rfl rfl hl rfl (Nat.le_of_ble_eq_true rfl) (Nat.le_of_ble_eq_true rfl) (Nat.le_of_ble_eq_true rfl) dX8_keep_8 (Nat.le_refl _) (Nat.le_refl _) ?_
  clear hW hS hc1
  intro H locs hW hS
  refine lv_aload_n (pc := 11) hx hb dX8_keep_11 rfl (lv_at hl 0 rfl) ?_
  refine lv_iconst (pc := 12) (v := (1 : Int32)) hx hb dX8_keep_12 (by decide) ?_
  refine gP_X8_300 (b := true) (pc := 13) Cx hW hS (hX 0 _ rfl) rfl dX8_keep_13 ?_
  clear hW hS
  intro H locs hW hS
  obtain ⟨σ3, e4, hf⟩ := um_le hf
  rw [← e4] at hW
  clear e4
  refine lv_aload_n (pc := 16) hx hb dX8_keep_16 rfl (lv_at hl 0 rfl) ?_
  refine gF_X8_10 (pc := 17) Cx hW (hX 0 _ rfl) rfl dX8_keep_17 ?_
  refine gF_X8_51 (pc := 20) Cx hW (xs_shore hX (Or.inl rfl)) rfl dX8_keep_20 ?_
  exact um_iret (pc := 23) Cx hW hS hf dX8_keep_23
theorem c_X8_keep {σ : um_S} {σ' : um_S} {r : Int32}  (hX : um_X sh) (hf : f_X8_keep σ = some (r, σ')) : um_M l yX8_keep cX8_keep 1 (some FieldType.int) (3) (102) Z sh α σ [.ref (α 0)] (some (.int r)) σ' :=
  um_start (by decide) (Nat.le_of_ble_eq_true rfl) (fun p e s m below meth c ls Cx hW hS hl => b_X8_keep hX hf Cx hW hS hl)
noncomputable def f_X8_letter (a1 : Int32) (a2 : Int32) (a3 : Int32) (σ : um_S) : Option (Int32 × um_S) :=
    (f_X5_holds (20 * 1 + 1) a1 σ).bind fun x2 =>
    (if (um_b x2) = 0 then
    (some ((-1000000001 : Int32), σ))
    else
    ((f_X8_within a2 (0 : Int32) (1 : Int32) σ).bind fun x4 =>
    (if (um_b x4) = 0 then
    (some ((-1000000001 : Int32), σ))
    else
    ((f_X8_within a3 (1 : Int32) (99 : Int32) σ).bind fun x6 =>
    (if (um_b x6) = 0 then
    (some ((-1000000001 : Int32), σ))
    else
    (um_let (fun (_u : Unit) =>
    (um_b2 (f_X5_add (20 * 1 + 4) a1 a2 ((σ.1 1 12) + a3) (0 : Int32) σ) fun x10 σ9 =>
    (some (x10, σ9)))) fun k7 =>
    (if a2 = (1 : Int32) then
    ((f_X4_isDead 1 a1 σ).bind fun x12 =>
    (if (um_b x12) = 0 then
    (k7 ())
    else
    (some ((-1000000002 : Int32), σ))))
    else
    (k7 ()))))))))
set_option maxRecDepth 100000 in
set_option maxHeartbeats 4000000 in
theorem b_X8_letter {H : Heap} {locs : List Loc} {ls : Array Slot} {σ : um_S} {σ' : um_S} {r : Int32} (a1 : Int32) (a2 : Int32) (a3 : Int32) (hX : um_X sh) (hf : f_X8_letter a1 a2 a3 σ = some (r, σ')) (Cx : um_C p s m meth c args cX8_letter 4 (some FieldType.int) RX8 Z) (hW : um_W Z sh α σ H) (hS : va_S (um_D sh α) s.heap H locs) (hl : lv_has ls 4 [(0, .ref (α 0)), (1, .int a1), (2, .int a2), (3, .int a3)]) : um_G p l e (2) (50) s m args below meth c Z sh α σ' (some (.int r)) H locs (F0 m 0 ls []) := by
  have hx := Cx.1
  have hb := Cx.2.1
  have hown := Cx.2.2.2.2.1
  have hts := Cx.2.2.2.2.2.1
  rw [f_X8_letter] at hf
  refine lv_aload_n (pc := 0) hx hb dX8_letter_0 rfl (lv_at hl 0 rfl) ?_
  refine gF_X8_10 (pc := 1) Cx hW (hX 0 _ rfl) rfl dX8_letter_1 ?_
  refine gF_X8_77 (pc := 4) Cx hW (xs_shore hX (Or.inl rfl)) rfl dX8_letter_4 ?_
  refine lv_iload_n (pc := 7) hx hb dX8_letter_7 rfl (lv_at hl 1 rfl) ?_
  obtain ⟨x2, hc1, hf⟩ := um_bi hf
  refine um_cVi (pc := 8) (As := [.int a1]) (rest := []) Cx (c_X5_holds (20 * 1 + 1) a1 (xs_ht (Or.inl rfl) 1 rfl) hX hc1) kV_X5_holds (Or.inl qM_X8_70) hW hS (xs_tab hX (xs_ht (Or.inl rfl) 1 rfl)) rfl rfl hl rfl (Nat.le_of_ble_eq_true rfl) (Nat.le_of_ble_eq_true rfl) (Nat.le_of_ble_eq_true rfl) dX8_letter_8 (Nat.le_refl _) (Nat.le_refl _) ?_
  clear hW hS hc1
  intro H locs hW hS
  refine lv_if_eq (pc := 11) (tgt := 33) hx hb dX8_letter_11 (by decide) (fun c1 => ?_) (fun c1 => ?_)
  · have hf := um_it c1 hf
    clear c1
    refine lv_ldc (pc := 33) hx hb hown (hts _ qC_X8_59) dX8_letter_33 ?_
    exact um_iret (pc := 35) Cx hW hS hf dX8_letter_35
  · have hf := um_ie c1 hf
    clear c1
    refine lv_iload_n (pc := 14) hx hb dX8_letter_14 rfl (lv_at hl 2 rfl) ?_
    refine lv_iconst (pc := 15) (v := (0 : Int32)) hx hb dX8_letter_15 (by decide) ?_
    refine lv_iconst (pc := 16) (v := (1 : Int32)) hx hb dX8_letter_16 (by decide) ?_
    obtain ⟨x4, hc3, hf⟩ := um_bi hf
    refine um_cSi (pc := 17) (As := [.int a2, .int (0 : Int32), .int (1 : Int32)]) (rest := []) Cx (c_X8_within a2 (0 : Int32) (1 : Int32) hX hc3) kS_X8_within (Or.inl qM_X8_55) hW hS rfl hl rfl (Nat.le_of_ble_eq_true rfl) (Nat.le_of_ble_eq_true rfl) (Nat.le_of_ble_eq_true rfl) dX8_letter_17 (Nat.le_refl _) (Nat.le_refl _) ?_
    clear hW hS hc3
    intro H locs hW hS
    refine lv_if_eq (pc := 20) (tgt := 33) hx hb dX8_letter_20 (by decide) (fun c1 => ?_) (fun c1 => ?_)
    · have hf := um_it c1 hf
      clear c1
      refine lv_ldc (pc := 33) hx hb hown (hts _ qC_X8_59) dX8_letter_33 ?_
      exact um_iret (pc := 35) Cx hW hS hf dX8_letter_35
    · have hf := um_ie c1 hf
      clear c1
      refine lv_iload_n (pc := 23) hx hb dX8_letter_23 rfl (lv_at hl 3 rfl) ?_
      refine lv_iconst (pc := 24) (v := (1 : Int32)) hx hb dX8_letter_24 (by decide) ?_
      refine lv_bipush (pc := 25) (v := (99 : Int32)) hx hb dX8_letter_25 (by decide) ?_
      obtain ⟨x6, hc5, hf⟩ := um_bi hf
      refine um_cSi (pc := 27) (As := [.int a3, .int (1 : Int32), .int (99 : Int32)]) (rest := []) Cx (c_X8_within a3 (1 : Int32) (99 : Int32) hX hc5) kS_X8_within (Or.inl qM_X8_55) hW hS rfl hl rfl (Nat.le_of_ble_eq_true rfl) (Nat.le_of_ble_eq_true rfl) (Nat.le_of_ble_eq_true rfl) dX8_letter_27 (Nat.le_refl _) (Nat.le_refl _) ?_
      clear hW hS hc5
      intro H locs hW hS
      refine lv_if_ne (pc := 30) (tgt := 36) hx hb dX8_letter_30 (by decide) (fun c1 => ?_) (fun c1 => ?_)
      · have hf := um_ie c1 hf
        clear c1
        refine lv_iload_n (pc := 36) hx hb dX8_letter_36 rfl (lv_at hl 2 rfl) ?_
        refine lv_iconst (pc := 37) (v := (1 : Int32)) hx hb dX8_letter_37 (by decide) ?_
        obtain ⟨k7, hk7, hf⟩ := um_j1 hf
        have J7 : ∀ (_u : Unit), k7 _u = some (r, σ') → ∀ (H : Heap) (locs : List Loc) (ls : Array Slot), um_W Z sh α σ H → va_S (um_D sh α) s.heap H locs → lv_has ls 4 [(0, .ref (α 0)), (1, .int a1), (2, .int a2), (3, .int a3)] → um_G p l e (2) (50) s m args below meth c Z sh α σ' (some (.int r)) H locs (F0 m 55 ls []) := by
          intro _u hf H locs ls hW hS hl
          rw [hk7] at hf
          refine lv_aload_n (pc := 55) hx hb dX8_letter_55 rfl (lv_at hl 0 rfl) ?_
          refine gF_X8_10 (pc := 56) Cx hW (hX 0 _ rfl) rfl dX8_letter_56 ?_
          refine gF_X8_247 (pc := 59) Cx hW (xs_shore hX (Or.inl rfl)) rfl dX8_letter_59 ?_
          refine lv_iload_n (pc := 62) hx hb dX8_letter_62 rfl (lv_at hl 1 rfl) ?_
          refine lv_iload_n (pc := 63) hx hb dX8_letter_63 rfl (lv_at hl 2 rfl) ?_
          refine lv_aload_n (pc := 64) hx hb dX8_letter_64 rfl (lv_at hl 0 rfl) ?_
          refine gF_X8_10 (pc := 65) Cx hW (hX 0 _ rfl) rfl dX8_letter_65 ?_
          refine gF_X8_51 (pc := 68) Cx hW (xs_shore hX (Or.inl rfl)) rfl dX8_letter_68 ?_
          refine lv_iload_n (pc := 71) hx hb dX8_letter_71 rfl (lv_at hl 3 rfl) ?_
          refine lv_iadd (pc := 72) hx hb dX8_letter_72 ?_
          refine lv_iconst (pc := 73) (v := (0 : Int32)) hx hb dX8_letter_73 (by decide) ?_
          obtain ⟨x10, σ9, hc8, hf⟩ := um_bi2 hf
          refine um_cVi (pc := 74) (As := [.int a1, .int a2, .int ((σ.1 1 12) + a3), .int (0 : Int32)]) (rest := []) Cx (c_X5_add (20 * 1 + 4) a1 a2 ((σ.1 1 12) + a3) (0 : Int32) (xs_ht (Or.inl rfl) 4 rfl) hX hc8) kV_X5_add (Or.inl qM_X8_64) hW hS (xs_tab hX (xs_ht (Or.inl rfl) 4 rfl)) rfl rfl hl rfl (Nat.le_of_ble_eq_true rfl) (Nat.le_of_ble_eq_true rfl) (Nat.le_of_ble_eq_true rfl) dX8_letter_74 (Nat.le_refl _) (Nat.le_refl _) ?_
          clear hW hS hc8
          intro H locs hW hS
          exact um_iret (pc := 77) Cx hW hS hf dX8_letter_77
        refine lv_icmp_ne (pc := 38) (tgt := 55) hx hb dX8_letter_38 (by decide) (fun c1 => ?_) (fun c1 => ?_)
        · have hf := um_ie c1 hf
          clear c1
          exact J7 () hf _ _ _ hW hS hl
        · have hf := um_it c1 hf
          clear c1
          refine lv_aload_n (pc := 41) hx hb dX8_letter_41 rfl (lv_at hl 0 rfl) ?_
          refine gF_X8_10 (pc := 42) Cx hW (hX 0 _ rfl) rfl dX8_letter_42 ?_
          refine lv_iload_n (pc := 45) hx hb dX8_letter_45 rfl (lv_at hl 1 rfl) ?_
          obtain ⟨x12, hc11, hf⟩ := um_bi hf
          refine um_cVi (pc := 46) (As := [.int a1]) (rest := []) Cx (c_X4_isDead 1 a1 (Or.inl rfl) hX hc11) kV_X4_isDead (Or.inl qM_X8_102) hW hS (xs_shore hX (Or.inl rfl)) rfl rfl hl rfl (Nat.le_of_ble_eq_true rfl) (Nat.le_of_ble_eq_true rfl) (Nat.le_of_ble_eq_true rfl) dX8_letter_46 (Nat.le_refl _) (Nat.le_refl _) ?_
          clear hW hS hc11
          intro H locs hW hS
          refine lv_if_eq (pc := 49) (tgt := 55) hx hb dX8_letter_49 (by decide) (fun c1 => ?_) (fun c1 => ?_)
          · have hf := um_it c1 hf
            clear c1
            exact J7 () hf _ _ _ hW hS hl
          · have hf := um_ie c1 hf
            clear c1
            refine lv_ldc (pc := 52) hx hb hown (hts _ qC_X8_88) dX8_letter_52 ?_
            exact um_iret (pc := 54) Cx hW hS hf dX8_letter_54
      · have hf := um_it c1 hf
        clear c1
        refine lv_ldc (pc := 33) hx hb hown (hts _ qC_X8_59) dX8_letter_33 ?_
        exact um_iret (pc := 35) Cx hW hS hf dX8_letter_35
theorem c_X8_letter {σ : um_S} {σ' : um_S} {r : Int32} (a1 : Int32) (a2 : Int32) (a3 : Int32) (hX : um_X sh) (hf : f_X8_letter a1 a2 a3 σ = some (r, σ')) : um_M l yX8_letter cX8_letter 4 (some FieldType.int) (2) (50) Z sh α σ [.ref (α 0), .int a1, .int a2, .int a3] (some (.int r)) σ' :=
  um_start (by decide) (Nat.le_of_ble_eq_true rfl) (fun p e s m below meth c ls Cx hW hS hl => b_X8_letter a1 a2 a3 hX hf Cx hW hS hl)
noncomputable def f_X8_letterTold (a1 : Int32) (a2 : Int32) (σ : um_S) : Option (Int32) :=
    (f_X5_holds (20 * 1 + 4) a1 σ).bind fun x2 =>
    (if (um_b x2) = 0 then
    (some (-1000000001 : Int32))
    else
    ((f_X8_within a2 (0 : Int32) (4 : Int32) σ).bind fun x4 =>
    (if (um_b x4) = 0 then
    (some (-1000000001 : Int32))
    else
    ((f_X5_get (20 * 1 + 4) a1 a2 σ).bind fun x6 =>
    (some x6)))))
set_option maxRecDepth 100000 in
set_option maxHeartbeats 4000000 in
theorem b_X8_letterTold {H : Heap} {locs : List Loc} {ls : Array Slot} {σ : um_S} {r : Int32} (a1 : Int32) (a2 : Int32) (hX : um_X sh) (hf : f_X8_letterTold a1 a2 σ = some r) (Cx : um_C p s m meth c args cX8_letterTold 3 (some FieldType.int) RX8 Z) (hW : um_W Z sh α σ H) (hS : va_S (um_D sh α) s.heap H locs) (hl : lv_has ls 3 [(0, .ref (α 0)), (1, .int a1), (2, .int a2)]) : um_G p l e (1) (24) s m args below meth c Z sh α σ (some (.int r)) H locs (F0 m 0 ls []) := by
  have hx := Cx.1
  have hb := Cx.2.1
  have hown := Cx.2.2.2.2.1
  have hts := Cx.2.2.2.2.2.1
  rw [f_X8_letterTold] at hf
  refine lv_aload_n (pc := 0) hx hb dX8_letterTold_0 rfl (lv_at hl 0 rfl) ?_
  refine gF_X8_10 (pc := 1) Cx hW (hX 0 _ rfl) rfl dX8_letterTold_1 ?_
  refine gF_X8_247 (pc := 4) Cx hW (xs_shore hX (Or.inl rfl)) rfl dX8_letterTold_4 ?_
  refine lv_iload_n (pc := 7) hx hb dX8_letterTold_7 rfl (lv_at hl 1 rfl) ?_
  obtain ⟨x2, hc1, hf⟩ := um_bi hf
  refine um_cVi (pc := 8) (As := [.int a1]) (rest := []) Cx (c_X5_holds (20 * 1 + 4) a1 (xs_ht (Or.inl rfl) 4 rfl) hX hc1) kV_X5_holds (Or.inl qM_X8_70) hW hS (xs_tab hX (xs_ht (Or.inl rfl) 4 rfl)) rfl rfl hl rfl (Nat.le_of_ble_eq_true rfl) (Nat.le_of_ble_eq_true rfl) (Nat.le_of_ble_eq_true rfl) dX8_letterTold_8 (Nat.le_refl _) (Nat.le_refl _) ?_
  clear hW hS hc1
  intro H locs hW hS
  refine lv_if_eq (pc := 11) (tgt := 23) hx hb dX8_letterTold_11 (by decide) (fun c1 => ?_) (fun c1 => ?_)
  · have hf := um_it c1 hf
    clear c1
    refine lv_ldc (pc := 23) hx hb hown (hts _ qC_X8_59) dX8_letterTold_23 ?_
    exact um_iretR (pc := 25) Cx hW hS hf dX8_letterTold_25
  · have hf := um_ie c1 hf
    clear c1
    refine lv_iload_n (pc := 14) hx hb dX8_letterTold_14 rfl (lv_at hl 2 rfl) ?_
    refine lv_iconst (pc := 15) (v := (0 : Int32)) hx hb dX8_letterTold_15 (by decide) ?_
    refine lv_iconst (pc := 16) (v := (4 : Int32)) hx hb dX8_letterTold_16 (by decide) ?_
    obtain ⟨x4, hc3, hf⟩ := um_bi hf
    refine um_cSi (pc := 17) (As := [.int a2, .int (0 : Int32), .int (4 : Int32)]) (rest := []) Cx (c_X8_within a2 (0 : Int32) (4 : Int32) hX hc3) kS_X8_within (Or.inl qM_X8_55) hW hS rfl hl rfl (Nat.le_of_ble_eq_true rfl) (Nat.le_of_ble_eq_true rfl) (Nat.le_of_ble_eq_true rfl) dX8_letterTold_17 (Nat.le_refl _) (Nat.le_refl _) ?_
    clear hW hS hc3
    intro H locs hW hS
    refine lv_if_ne (pc := 20) (tgt := 26) hx hb dX8_letterTold_20 (by decide) (fun c1 => ?_) (fun c1 => ?_)
    · have hf := um_ie c1 hf
      clear c1
      refine lv_aload_n (pc := 26) hx hb dX8_letterTold_26 rfl (lv_at hl 0 rfl) ?_
      refine gF_X8_10 (pc := 27) Cx hW (hX 0 _ rfl) rfl dX8_letterTold_27 ?_
      refine gF_X8_247 (pc := 30) Cx hW (xs_shore hX (Or.inl rfl)) rfl dX8_letterTold_30 ?_
      refine lv_iload_n (pc := 33) hx hb dX8_letterTold_33 rfl (lv_at hl 1 rfl) ?_
      refine lv_iload_n (pc := 34) hx hb dX8_letterTold_34 rfl (lv_at hl 2 rfl) ?_
      obtain ⟨x6, hc5, hf⟩ := um_bi hf
      refine um_cVi (pc := 35) (As := [.int a1, .int a2]) (rest := []) Cx (c_X5_get (20 * 1 + 4) a1 a2 (xs_ht (Or.inl rfl) 4 rfl) hX hc5) kV_X5_get (Or.inl qM_X8_73) hW hS (xs_tab hX (xs_ht (Or.inl rfl) 4 rfl)) rfl rfl hl rfl (Nat.le_of_ble_eq_true rfl) (Nat.le_of_ble_eq_true rfl) (Nat.le_of_ble_eq_true rfl) dX8_letterTold_35 (Nat.le_refl _) (Nat.le_refl _) ?_
      clear hW hS hc5
      intro H locs hW hS
      exact um_iretR (pc := 38) Cx hW hS hf dX8_letterTold_38
    · have hf := um_it c1 hf
      clear c1
      refine lv_ldc (pc := 23) hx hb hown (hts _ qC_X8_59) dX8_letterTold_23 ?_
      exact um_iretR (pc := 25) Cx hW hS hf dX8_letterTold_25
theorem c_X8_letterTold {σ : um_S} {r : Int32} (a1 : Int32) (a2 : Int32) (hX : um_X sh) (hf : f_X8_letterTold a1 a2 σ = some r) : um_M l yX8_letterTold cX8_letterTold 3 (some FieldType.int) (1) (24) Z sh α σ [.ref (α 0), .int a1, .int a2] (some (.int r)) σ :=
  um_start (by decide) (Nat.le_of_ble_eq_true rfl) (fun p e s m below meth c ls Cx hW hS hl => b_X8_letterTold a1 a2 hX hf Cx hW hS hl)
noncomputable def f_X8_look (a1 : Int32) (a2 : Int32) (a3 : Int32) (a4 : Int32) (σ : um_S) : Option (Int32 × um_S) :=
    (f_X8_within a1 (0 : Int32) (8 : Int32) σ).bind fun x2 =>
    (if (um_b x2) = 0 then
    (some ((-1000000001 : Int32), σ))
    else
    ((f_X8_within a2 (0 : Int32) (6 : Int32) σ).bind fun x4 =>
    (if (um_b x4) = 0 then
    (some ((-1000000001 : Int32), σ))
    else
    ((f_X8_within a3 (0 : Int32) (70 : Int32) σ).bind fun x6 =>
    (if (um_b x6) = 0 then
    (some ((-1000000001 : Int32), σ))
    else
    ((f_X8_within a4 (0 : Int32) (255 : Int32) σ).bind fun x8 =>
    (if (um_b x8) = 0 then
    (some ((-1000000001 : Int32), σ))
    else
    (um_b2 (f_X5_add (20 * 1 + 5) a1 a2 a3 a4 σ) fun x11 σ10 =>
    (some (x11, σ10))))))))))
set_option maxRecDepth 100000 in
set_option maxHeartbeats 4000000 in
theorem b_X8_look {H : Heap} {locs : List Loc} {ls : Array Slot} {σ : um_S} {σ' : um_S} {r : Int32} (a1 : Int32) (a2 : Int32) (a3 : Int32) (a4 : Int32) (hX : um_X sh) (hf : f_X8_look a1 a2 a3 a4 σ = some (r, σ')) (Cx : um_C p s m meth c args cX8_look 5 (some FieldType.int) RX8 Z) (hW : um_W Z sh α σ H) (hS : va_S (um_D sh α) s.heap H locs) (hl : lv_has ls 5 [(0, .ref (α 0)), (1, .int a1), (2, .int a2), (3, .int a3), (4, .int a4)]) : um_G p l e (2) (50) s m args below meth c Z sh α σ' (some (.int r)) H locs (F0 m 0 ls []) := by
  have hx := Cx.1
  have hb := Cx.2.1
  have hown := Cx.2.2.2.2.1
  have hts := Cx.2.2.2.2.2.1
  rw [f_X8_look] at hf
  refine lv_iload_n (pc := 0) hx hb dX8_look_0 rfl (lv_at hl 1 rfl) ?_
  refine lv_iconst (pc := 1) (v := (0 : Int32)) hx hb dX8_look_1 (by decide) ?_
  refine lv_bipush (pc := 2) (v := (8 : Int32)) hx hb dX8_look_2 (by decide) ?_
  obtain ⟨x2, hc1, hf⟩ := um_bi hf
  refine um_cSi (pc := 4) (As := [.int a1, .int (0 : Int32), .int (8 : Int32)]) (rest := []) Cx (c_X8_within a1 (0 : Int32) (8 : Int32) hX hc1) kS_X8_within (Or.inl qM_X8_55) hW hS rfl hl rfl (Nat.le_of_ble_eq_true rfl) (Nat.le_of_ble_eq_true rfl) (Nat.le_of_ble_eq_true rfl) dX8_look_4 (Nat.le_refl _) (Nat.le_refl _) ?_
  clear hW hS hc1
  intro H locs hW hS
  refine lv_if_eq (pc := 7) (tgt := 20) hx hb dX8_look_7 (by decide) (fun c1 => ?_) (fun c1 => ?_)
  · have hf := um_it c1 hf
    clear c1
    refine lv_ldc (pc := 20) hx hb hown (hts _ qC_X8_59) dX8_look_20 ?_
    exact um_iret (pc := 22) Cx hW hS hf dX8_look_22
  · have hf := um_ie c1 hf
    clear c1
    refine lv_iload_n (pc := 10) hx hb dX8_look_10 rfl (lv_at hl 2 rfl) ?_
    refine lv_iconst (pc := 11) (v := (0 : Int32)) hx hb dX8_look_11 (by decide) ?_
    refine lv_bipush (pc := 12) (v := (6 : Int32)) hx hb dX8_look_12 (by decide) ?_
    obtain ⟨x4, hc3, hf⟩ := um_bi hf
    refine um_cSi (pc := 14) (As := [.int a2, .int (0 : Int32), .int (6 : Int32)]) (rest := []) Cx (c_X8_within a2 (0 : Int32) (6 : Int32) hX hc3) kS_X8_within (Or.inl qM_X8_55) hW hS rfl hl rfl (Nat.le_of_ble_eq_true rfl) (Nat.le_of_ble_eq_true rfl) (Nat.le_of_ble_eq_true rfl) dX8_look_14 (Nat.le_refl _) (Nat.le_refl _) ?_
    clear hW hS hc3
    intro H locs hW hS
    refine lv_if_ne (pc := 17) (tgt := 23) hx hb dX8_look_17 (by decide) (fun c1 => ?_) (fun c1 => ?_)
    · have hf := um_ie c1 hf
      clear c1
      refine lv_iload_n (pc := 23) hx hb dX8_look_23 rfl (lv_at hl 3 rfl) ?_
      refine lv_iconst (pc := 24) (v := (0 : Int32)) hx hb dX8_look_24 (by decide) ?_
      refine lv_bipush (pc := 25) (v := (70 : Int32)) hx hb dX8_look_25 (by decide) ?_
      obtain ⟨x6, hc5, hf⟩ := um_bi hf
      refine um_cSi (pc := 27) (As := [.int a3, .int (0 : Int32), .int (70 : Int32)]) (rest := []) Cx (c_X8_within a3 (0 : Int32) (70 : Int32) hX hc5) kS_X8_within (Or.inl qM_X8_55) hW hS rfl hl rfl (Nat.le_of_ble_eq_true rfl) (Nat.le_of_ble_eq_true rfl) (Nat.le_of_ble_eq_true rfl) dX8_look_27 (Nat.le_refl _) (Nat.le_refl _) ?_
      clear hW hS hc5
      intro H locs hW hS
      refine lv_if_eq (pc := 30) (tgt := 45) hx hb dX8_look_30 (by decide) (fun c1 => ?_) (fun c1 => ?_)
      · have hf := um_it c1 hf
        clear c1
        refine lv_ldc (pc := 45) hx hb hown (hts _ qC_X8_59) dX8_look_45 ?_
        exact um_iret (pc := 47) Cx hW hS hf dX8_look_47
      · have hf := um_ie c1 hf
        clear c1
        refine lv_iload (pc := 33) hx hb dX8_look_33 (lv_at hl 4 rfl) ?_
        refine lv_iconst (pc := 35) (v := (0 : Int32)) hx hb dX8_look_35 (by decide) ?_
        refine lv_sipush (pc := 36) (v := (255 : Int32)) hx hb dX8_look_36 (by decide) ?_
        obtain ⟨x8, hc7, hf⟩ := um_bi hf
        refine um_cSi (pc := 39) (As := [.int a4, .int (0 : Int32), .int (255 : Int32)]) (rest := []) Cx (c_X8_within a4 (0 : Int32) (255 : Int32) hX hc7) kS_X8_within (Or.inl qM_X8_55) hW hS rfl hl rfl (Nat.le_of_ble_eq_true rfl) (Nat.le_of_ble_eq_true rfl) (Nat.le_of_ble_eq_true rfl) dX8_look_39 (Nat.le_refl _) (Nat.le_refl _) ?_
        clear hW hS hc7
        intro H locs hW hS
        refine lv_if_ne (pc := 42) (tgt := 48) hx hb dX8_look_42 (by decide) (fun c1 => ?_) (fun c1 => ?_)
        · have hf := um_ie c1 hf
          clear c1
          refine lv_aload_n (pc := 48) hx hb dX8_look_48 rfl (lv_at hl 0 rfl) ?_
          refine gF_X8_10 (pc := 49) Cx hW (hX 0 _ rfl) rfl dX8_look_49 ?_
          refine gF_X8_209 (pc := 52) Cx hW (xs_shore hX (Or.inl rfl)) rfl dX8_look_52 ?_
          refine lv_iload_n (pc := 55) hx hb dX8_look_55 rfl (lv_at hl 1 rfl) ?_
          refine lv_iload_n (pc := 56) hx hb dX8_look_56 rfl (lv_at hl 2 rfl) ?_
          refine lv_iload_n (pc := 57) hx hb dX8_look_57 rfl (lv_at hl 3 rfl) ?_
          refine lv_iload (pc := 58) hx hb dX8_look_58 (lv_at hl 4 rfl) ?_
          obtain ⟨x11, σ10, hc9, hf⟩ := um_bi2 hf
          refine um_cVi (pc := 60) (As := [.int a1, .int a2, .int a3, .int a4]) (rest := []) Cx (c_X5_add (20 * 1 + 5) a1 a2 a3 a4 (xs_ht (Or.inl rfl) 5 rfl) hX hc9) kV_X5_add (Or.inl qM_X8_64) hW hS (xs_tab hX (xs_ht (Or.inl rfl) 5 rfl)) rfl rfl hl rfl (Nat.le_of_ble_eq_true rfl) (Nat.le_of_ble_eq_true rfl) (Nat.le_of_ble_eq_true rfl) dX8_look_60 (Nat.le_refl _) (Nat.le_refl _) ?_
          clear hW hS hc9
          intro H locs hW hS
          exact um_iret (pc := 63) Cx hW hS hf dX8_look_63
        · have hf := um_it c1 hf
          clear c1
          refine lv_ldc (pc := 45) hx hb hown (hts _ qC_X8_59) dX8_look_45 ?_
          exact um_iret (pc := 47) Cx hW hS hf dX8_look_47
    · have hf := um_it c1 hf
      clear c1
      refine lv_ldc (pc := 20) hx hb hown (hts _ qC_X8_59) dX8_look_20 ?_
      exact um_iret (pc := 22) Cx hW hS hf dX8_look_22
theorem c_X8_look {σ : um_S} {σ' : um_S} {r : Int32} (a1 : Int32) (a2 : Int32) (a3 : Int32) (a4 : Int32) (hX : um_X sh) (hf : f_X8_look a1 a2 a3 a4 σ = some (r, σ')) : um_M l yX8_look cX8_look 5 (some FieldType.int) (2) (50) Z sh α σ [.ref (α 0), .int a1, .int a2, .int a3, .int a4] (some (.int r)) σ' :=
  um_start (by decide) (Nat.le_of_ble_eq_true rfl) (fun p e s m below meth c ls Cx hW hS hl => b_X8_look a1 a2 a3 a4 hX hf Cx hW hS hl)
noncomputable def f_X8_man (a1 : Int32) (a2 : Int32) (a3 : Int32) (a4 : Int32) (a5 : Int32) (σ : um_S) : Option (Int32 × um_S) :=
    (f_X5_holds (20 * 1 + 0) a1 σ).bind fun x2 =>
    (if (um_b x2) = 0 then
    (some ((-1000000001 : Int32), σ))
    else
    ((f_X5_get (20 * 1 + 0) a1 (1 : Int32) σ).bind fun x4 =>
    (if (σ.1 1 12) ≤ x4 then
    ((f_X8_within a2 (0 : Int32) (7 : Int32) σ).bind fun x6 =>
    (if (um_b x6) = 0 then
    (some ((-1000000001 : Int32), σ))
    else
    ((f_X8_within a3 (0 : Int32) (5 : Int32) σ).bind fun x8 =>
    (if (um_b x8) = 0 then
    (some ((-1000000001 : Int32), σ))
    else
    ((f_X8_within a4 (10 : Int32) (70 : Int32) σ).bind fun x10 =>
    (if (um_b x10) = 0 then
    (some ((-1000000001 : Int32), σ))
    else
    ((f_X8_within a5 (0 : Int32) (255 : Int32) σ).bind fun x12 =>
    (if (um_b x12) = 0 then
    (some ((-1000000001 : Int32), σ))
    else
    (um_b2 (f_X5_add (20 * 1 + 1) a2 a3 a4 a5 σ) fun x15 σ14 =>
    (if x15 = (-1000000003 : Int32) then
    (some (x15, σ14))
    else
    ((f_X4_embark 1 x15 a1 σ14).bind fun σ17 =>
    (some (x15, σ17)))))))))))))
    else
    (some ((-1000000001 : Int32), σ)))))
set_option maxRecDepth 100000 in
set_option maxHeartbeats 4000000 in
theorem b_X8_man {H : Heap} {locs : List Loc} {ls : Array Slot} {σ : um_S} {σ' : um_S} {r : Int32} (a1 : Int32) (a2 : Int32) (a3 : Int32) (a4 : Int32) (a5 : Int32) (hX : um_X sh) (hf : f_X8_man a1 a2 a3 a4 a5 σ = some (r, σ')) (Cx : um_C p s m meth c args cX8_man 7 (some FieldType.int) RX8 Z) (hW : um_W Z sh α σ H) (hS : va_S (um_D sh α) s.heap H locs) (hl : lv_has ls 7 [(0, .ref (α 0)), (1, .int a1), (2, .int a2), (3, .int a3), (4, .int a4), (5, .int a5)]) : um_G p l e (3) (70) s m args below meth c Z sh α σ' (some (.int r)) H locs (F0 m 0 ls []) := by
  have hx := Cx.1
  have hb := Cx.2.1
  have hown := Cx.2.2.2.2.1
  have hts := Cx.2.2.2.2.2.1
  rw [f_X8_man] at hf
  refine lv_aload_n (pc := 0) hx hb dX8_man_0 rfl (lv_at hl 0 rfl) ?_
  refine gF_X8_10 (pc := 1) Cx hW (hX 0 _ rfl) rfl dX8_man_1 ?_
  refine gF_X8_60 (pc := 4) Cx hW (xs_shore hX (Or.inl rfl)) rfl dX8_man_4 ?_
  refine lv_iload_n (pc := 7) hx hb dX8_man_7 rfl (lv_at hl 1 rfl) ?_
  obtain ⟨x2, hc1, hf⟩ := um_bi hf
  refine um_cVi (pc := 8) (As := [.int a1]) (rest := []) Cx (c_X5_holds (20 * 1 + 0) a1 (xs_ht (Or.inl rfl) 0 rfl) hX hc1) kV_X5_holds (Or.inl qM_X8_70) hW hS (xs_tab hX (xs_ht (Or.inl rfl) 0 rfl)) rfl rfl hl rfl (Nat.le_of_ble_eq_true rfl) (Nat.le_of_ble_eq_true rfl) (Nat.le_of_ble_eq_true rfl) dX8_man_8 (Nat.le_refl _) (Nat.le_refl _) ?_
  clear hW hS hc1
  intro H locs hW hS
  refine lv_if_eq (pc := 11) (tgt := 36) hx hb dX8_man_11 (by decide) (fun c1 => ?_) (fun c1 => ?_)
  · have hf := um_it c1 hf
    clear c1
    refine lv_ldc (pc := 36) hx hb hown (hts _ qC_X8_59) dX8_man_36 ?_
    exact um_iret (pc := 38) Cx hW hS hf dX8_man_38
  · have hf := um_ie c1 hf
    clear c1
    refine lv_aload_n (pc := 14) hx hb dX8_man_14 rfl (lv_at hl 0 rfl) ?_
    refine gF_X8_10 (pc := 15) Cx hW (hX 0 _ rfl) rfl dX8_man_15 ?_
    refine gF_X8_60 (pc := 18) Cx hW (xs_shore hX (Or.inl rfl)) rfl dX8_man_18 ?_
    refine lv_iload_n (pc := 21) hx hb dX8_man_21 rfl (lv_at hl 1 rfl) ?_
    refine lv_iconst (pc := 22) (v := (1 : Int32)) hx hb dX8_man_22 (by decide) ?_
    obtain ⟨x4, hc3, hf⟩ := um_bi hf
    refine um_cVi (pc := 23) (As := [.int a1, .int (1 : Int32)]) (rest := []) Cx (c_X5_get (20 * 1 + 0) a1 (1 : Int32) (xs_ht (Or.inl rfl) 0 rfl) hX hc3) kV_X5_get (Or.inl qM_X8_73) hW hS (xs_tab hX (xs_ht (Or.inl rfl) 0 rfl)) rfl rfl hl rfl (Nat.le_of_ble_eq_true rfl) (Nat.le_of_ble_eq_true rfl) (Nat.le_of_ble_eq_true rfl) dX8_man_23 (Nat.le_refl _) (Nat.le_refl _) ?_
    clear hW hS hc3
    intro H locs hW hS
    refine lv_aload_n (pc := 26) hx hb dX8_man_26 rfl (lv_at hl 0 rfl) ?_
    refine gF_X8_10 (pc := 27) Cx hW (hX 0 _ rfl) rfl dX8_man_27 ?_
    refine gF_X8_51 (pc := 30) Cx hW (xs_shore hX (Or.inl rfl)) rfl dX8_man_30 ?_
    refine lv_icmp_ge (pc := 33) (tgt := 39) hx hb dX8_man_33 (by decide) (fun c1 => ?_) (fun c1 => ?_)
    · have hf := um_it c1 hf
      clear c1
      refine lv_iload_n (pc := 39) hx hb dX8_man_39 rfl (lv_at hl 2 rfl) ?_
      refine lv_iconst (pc := 40) (v := (0 : Int32)) hx hb dX8_man_40 (by decide) ?_
      refine lv_bipush (pc := 41) (v := (7 : Int32)) hx hb dX8_man_41 (by decide) ?_
      obtain ⟨x6, hc5, hf⟩ := um_bi hf
      refine um_cSi (pc := 43) (As := [.int a2, .int (0 : Int32), .int (7 : Int32)]) (rest := []) Cx (c_X8_within a2 (0 : Int32) (7 : Int32) hX hc5) kS_X8_within (Or.inl qM_X8_55) hW hS rfl hl rfl (Nat.le_of_ble_eq_true rfl) (Nat.le_of_ble_eq_true rfl) (Nat.le_of_ble_eq_true rfl) dX8_man_43 (Nat.le_refl _) (Nat.le_refl _) ?_
      clear hW hS hc5
      intro H locs hW hS
      refine lv_if_eq (pc := 46) (tgt := 58) hx hb dX8_man_46 (by decide) (fun c1 => ?_) (fun c1 => ?_)
      · have hf := um_it c1 hf
        clear c1
        refine lv_ldc (pc := 58) hx hb hown (hts _ qC_X8_59) dX8_man_58 ?_
        exact um_iret (pc := 60) Cx hW hS hf dX8_man_60
      · have hf := um_ie c1 hf
        clear c1
        refine lv_iload_n (pc := 49) hx hb dX8_man_49 rfl (lv_at hl 3 rfl) ?_
        refine lv_iconst (pc := 50) (v := (0 : Int32)) hx hb dX8_man_50 (by decide) ?_
        refine lv_iconst (pc := 51) (v := (5 : Int32)) hx hb dX8_man_51 (by decide) ?_
        obtain ⟨x8, hc7, hf⟩ := um_bi hf
        refine um_cSi (pc := 52) (As := [.int a3, .int (0 : Int32), .int (5 : Int32)]) (rest := []) Cx (c_X8_within a3 (0 : Int32) (5 : Int32) hX hc7) kS_X8_within (Or.inl qM_X8_55) hW hS rfl hl rfl (Nat.le_of_ble_eq_true rfl) (Nat.le_of_ble_eq_true rfl) (Nat.le_of_ble_eq_true rfl) dX8_man_52 (Nat.le_refl _) (Nat.le_refl _) ?_
        clear hW hS hc7
        intro H locs hW hS
        refine lv_if_ne (pc := 55) (tgt := 61) hx hb dX8_man_55 (by decide) (fun c1 => ?_) (fun c1 => ?_)
        · have hf := um_ie c1 hf
          clear c1
          refine lv_iload (pc := 61) hx hb dX8_man_61 (lv_at hl 4 rfl) ?_
          refine lv_bipush (pc := 63) (v := (10 : Int32)) hx hb dX8_man_63 (by decide) ?_
          refine lv_bipush (pc := 65) (v := (70 : Int32)) hx hb dX8_man_65 (by decide) ?_
          obtain ⟨x10, hc9, hf⟩ := um_bi hf
          refine um_cSi (pc := 67) (As := [.int a4, .int (10 : Int32), .int (70 : Int32)]) (rest := []) Cx (c_X8_within a4 (10 : Int32) (70 : Int32) hX hc9) kS_X8_within (Or.inl qM_X8_55) hW hS rfl hl rfl (Nat.le_of_ble_eq_true rfl) (Nat.le_of_ble_eq_true rfl) (Nat.le_of_ble_eq_true rfl) dX8_man_67 (Nat.le_refl _) (Nat.le_refl _) ?_
          clear hW hS hc9
          intro H locs hW hS
          refine lv_if_eq (pc := 70) (tgt := 85) hx hb dX8_man_70 (by decide) (fun c1 => ?_) (fun c1 => ?_)
          · have hf := um_it c1 hf
            clear c1
            refine lv_ldc (pc := 85) hx hb hown (hts _ qC_X8_59) dX8_man_85 ?_
            exact um_iret (pc := 87) Cx hW hS hf dX8_man_87
          · have hf := um_ie c1 hf
            clear c1
            refine lv_iload (pc := 73) hx hb dX8_man_73 (lv_at hl 5 rfl) ?_
            refine lv_iconst (pc := 75) (v := (0 : Int32)) hx hb dX8_man_75 (by decide) ?_
            refine lv_sipush (pc := 76) (v := (255 : Int32)) hx hb dX8_man_76 (by decide) ?_
            obtain ⟨x12, hc11, hf⟩ := um_bi hf
            refine um_cSi (pc := 79) (As := [.int a5, .int (0 : Int32), .int (255 : Int32)]) (rest := []) Cx (c_X8_within a5 (0 : Int32) (255 : Int32) hX hc11) kS_X8_within (Or.inl qM_X8_55) hW hS rfl hl rfl (Nat.le_of_ble_eq_true rfl) (Nat.le_of_ble_eq_true rfl) (Nat.le_of_ble_eq_true rfl) dX8_man_79 (Nat.le_refl _) (Nat.le_refl _) ?_
            clear hW hS hc11
            intro H locs hW hS
            refine lv_if_ne (pc := 82) (tgt := 88) hx hb dX8_man_82 (by decide) (fun c1 => ?_) (fun c1 => ?_)
            · have hf := um_ie c1 hf
              clear c1
              refine lv_aload_n (pc := 88) hx hb dX8_man_88 rfl (lv_at hl 0 rfl) ?_
              refine gF_X8_10 (pc := 89) Cx hW (hX 0 _ rfl) rfl dX8_man_89 ?_
              refine gF_X8_77 (pc := 92) Cx hW (xs_shore hX (Or.inl rfl)) rfl dX8_man_92 ?_
              refine lv_iload_n (pc := 95) hx hb dX8_man_95 rfl (lv_at hl 2 rfl) ?_
              refine lv_iload_n (pc := 96) hx hb dX8_man_96 rfl (lv_at hl 3 rfl) ?_
              refine lv_iload (pc := 97) hx hb dX8_man_97 (lv_at hl 4 rfl) ?_
              refine lv_iload (pc := 99) hx hb dX8_man_99 (lv_at hl 5 rfl) ?_
              obtain ⟨x15, σ14, hc13, hf⟩ := um_bi2 hf
              refine um_cVi (pc := 101) (As := [.int a2, .int a3, .int a4, .int a5]) (rest := []) Cx (c_X5_add (20 * 1 + 1) a2 a3 a4 a5 (xs_ht (Or.inl rfl) 1 rfl) hX hc13) kV_X5_add (Or.inl qM_X8_64) hW hS (xs_tab hX (xs_ht (Or.inl rfl) 1 rfl)) rfl rfl hl rfl (Nat.le_of_ble_eq_true rfl) (Nat.le_of_ble_eq_true rfl) (Nat.le_of_ble_eq_true rfl) dX8_man_101 (Nat.le_refl _) (Nat.le_refl _) ?_
              clear hW hS hc13
              intro H locs hW hS
              refine lv_istore (pc := 104) (lv' := [(6, .int x15), (0, .ref (α 0)), (1, .int a1), (2, .int a2), (3, .int a3), (4, .int a4), (5, .int a5)]) hx hb dX8_man_104 hl (by decide) rfl ?_
              clear hl
              intro ls hl
              refine lv_iload (pc := 106) hx hb dX8_man_106 (lv_at hl 0 rfl) ?_
              refine lv_ldc (pc := 108) hx hb hown (hts _ qC_X8_80) dX8_man_108 ?_
              refine lv_icmp_eq (pc := 110) (tgt := 123) hx hb dX8_man_110 (by decide) (fun c1 => ?_) (fun c1 => ?_)
              · have hf := um_it c1 hf
                clear c1
                refine lv_iload (pc := 123) hx hb dX8_man_123 (lv_at hl 0 rfl) ?_
                exact um_iret (pc := 125) Cx hW hS hf dX8_man_125
              · have hf := um_ie c1 hf
                clear c1
                refine lv_aload_n (pc := 113) hx hb dX8_man_113 rfl (lv_at hl 1 rfl) ?_
                refine gF_X8_10 (pc := 114) Cx hW (hX 0 _ rfl) rfl dX8_man_114 ?_
                refine lv_iload (pc := 117) hx hb dX8_man_117 (lv_at hl 0 rfl) ?_
                refine lv_iload_n (pc := 119) hx hb dX8_man_119 rfl (lv_at hl 2 rfl) ?_
                obtain ⟨σ17, hc16, hf⟩ := um_bi hf
                refine um_cVv (pc := 120) (As := [.int x15, .int a1]) (rest := []) Cx (c_X4_embark 1 x15 a1 (Or.inl rfl) hX hc16) kV_X4_embark (Or.inl qM_X8_81) hW hS (xs_shore hX (Or.inl rfl)) rfl rfl hl rfl (Nat.le_of_ble_eq_true rfl) (Nat.le_of_ble_eq_true rfl) (Nat.le_of_ble_eq_true rfl) dX8_man_120 (Nat.le_refl _) (Nat.le_refl _) ?_
                clear hW hS hc16
                intro H locs hW hS
                refine lv_iload (pc := 123) hx hb dX8_man_123 (lv_at hl 0 rfl) ?_
                exact um_iret (pc := 125) Cx hW hS hf dX8_man_125
            · have hf := um_it c1 hf
              clear c1
              refine lv_ldc (pc := 85) hx hb hown (hts _ qC_X8_59) dX8_man_85 ?_
              exact um_iret (pc := 87) Cx hW hS hf dX8_man_87
        · have hf := um_it c1 hf
          clear c1
          refine lv_ldc (pc := 58) hx hb hown (hts _ qC_X8_59) dX8_man_58 ?_
          exact um_iret (pc := 60) Cx hW hS hf dX8_man_60
    · have hf := um_ie c1 hf
      clear c1
      refine lv_ldc (pc := 36) hx hb hown (hts _ qC_X8_59) dX8_man_36 ?_
      exact um_iret (pc := 38) Cx hW hS hf dX8_man_38
theorem c_X8_man {σ : um_S} {σ' : um_S} {r : Int32} (a1 : Int32) (a2 : Int32) (a3 : Int32) (a4 : Int32) (a5 : Int32) (hX : um_X sh) (hf : f_X8_man a1 a2 a3 a4 a5 σ = some (r, σ')) : um_M l yX8_man cX8_man 7 (some FieldType.int) (3) (70) Z sh α σ [.ref (α 0), .int a1, .int a2, .int a3, .int a4, .int a5] (some (.int r)) σ' :=
  um_start (by decide) (Nat.le_of_ble_eq_true rfl) (fun p e s m below meth c ls Cx hW hS hl => b_X8_man a1 a2 a3 a4 a5 hX hf Cx hW hS hl)
