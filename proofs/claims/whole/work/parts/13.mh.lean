variable {p : Program} {l : Launch} {e : Env} {s : State} {m : MethodId} {args : Array Value} {below : List Frame} {meth : Method} {c : Code} {Z : um_Z} {α : Nat → Nat} {sh : Nat → Option um_Sh}
noncomputable def f_X9_master (a1 : Int32) (a2 : Int32) (a3 : Int32) (a4 : Int32) (σ : um_S) : Option (Int32 × um_S) :=
    (f_X9_isPlace a1 σ).bind fun x2 =>
    (if (um_b x2) = 0 then
    (some ((-1000000001 : Int32), σ))
    else
    ((f_X9_isIn (a2.toInt64) (0 : Int64) (63 : Int64) σ).bind fun x4 =>
    (if (um_b x4) = 0 then
    (some ((-1000000001 : Int32), σ))
    else
    ((f_X9_isIn (a3.toInt64) (0 : Int64) (9 : Int64) σ).bind fun x6 =>
    (if (um_b x6) = 0 then
    (some ((-1000000001 : Int32), σ))
    else
    ((f_X9_isIn (a4.toInt64) (0 : Int64) (99 : Int64) σ).bind fun x8 =>
    (if (um_b x8) = 0 then
    (some ((-1000000001 : Int32), σ))
    else
    (if (σ.1 1 3) = (6 : Int32) then
    (some ((-1000000003 : Int32), σ))
    else
    ((f_X9_masterAt (σ.1 1 3) σ).bind fun x10 =>
    (if um_ix x10 3790 then
    (um_let (um_wr σ 1 x10.toNatClampNeg a1) fun σ12 =>
    (if um_ix (x10 + (1 : Int32)) 3790 then
    (um_let (um_wr σ12 1 (x10 + (1 : Int32)).toNatClampNeg a2) fun σ15 =>
    (if um_ix (x10 + (2 : Int32)) 3790 then
    (um_let (um_wr σ15 1 (x10 + (2 : Int32)).toNatClampNeg a3) fun σ18 =>
    (if um_ix (x10 + (3 : Int32)) 3790 then
    (um_let (um_wr σ18 1 (x10 + (3 : Int32)).toNatClampNeg a4) fun σ21 =>
    (um_let (um_wr σ21 1 3 ((σ21.1 1 3) + (1 : Int32))) fun σ23 =>
    (some ((σ23.1 1 3) - (1 : Int32), σ23)))) else none)) else none)) else none)) else none))))))))))
set_option maxRecDepth 100000 in
set_option maxHeartbeats 4000000 in
theorem b_X9_master {H : Heap} {locs : List Loc} {ls : Array Slot} {σ : um_S} {σ' : um_S} {r : Int32} (a1 : Int32) (a2 : Int32) (a3 : Int32) (a4 : Int32)  (hf : f_X9_master a1 a2 a3 a4 σ = some (r, σ')) (Cx : um_C p s m meth c args cX9_master 6 (some FieldType.int) RX9 Z) (hW : um_W Z msh α σ H) (hS : va_S (um_D msh α) s.heap H locs) (hl : lv_has ls 6 [(0, .ref (α 0)), (1, .int a1), (2, .int a2), (3, .int a3), (4, .int a4)]) : um_G p l e (2) (45) s m args below meth c Z msh α σ' (some (.int r)) H locs (F0 m 0 ls []) := by
  have hx := Cx.1
  have hb := Cx.2.1
  have hown := Cx.2.2.2.2.1
  have hts := Cx.2.2.2.2.2.1
  rw [f_X9_master] at hf
  refine lv_iload_n (pc := 0) hx hb dX9_master_0 rfl (lv_at hl 1 rfl) ?_
  obtain ⟨x2, hc1, hf⟩ := um_bi hf
  refine um_cSi (pc := 1) (As := [.int a1]) (rest := []) Cx (c_X9_isPlace a1 hc1) kS_X9_isPlace (Or.inl qM_X9_82) hW hS rfl hl rfl (Nat.le_of_ble_eq_true rfl) (Nat.le_of_ble_eq_true rfl) (Nat.le_of_ble_eq_true rfl) dX9_master_1 (Nat.le_refl _) (Nat.le_refl _) ?_
  clear hW hS hc1
  intro H locs hW hS
  refine lv_if_eq (pc := 4) (tgt := 44) hx hb dX9_master_4 (by decide) (fun c1 => ?_) (fun c1 => ?_)
  · have hf := um_it c1 hf
    clear c1
    refine lv_ldc (pc := 44) hx hb hown (hts _ qC_X9_87) dX9_master_44 ?_
    exact um_iret (pc := 46) Cx hW hS hf dX9_master_46
  · have hf := um_ie c1 hf
    clear c1
    refine lv_iload_n (pc := 7) hx hb dX9_master_7 rfl (lv_at hl 2 rfl) ?_
    refine lv_i2l (pc := 8) hx hb dX9_master_8 rfl ?_
    refine lv_lconst (pc := 9) (v := (0 : Int64)) hx hb dX9_master_9 (by decide) ?_
    refine lv_ldc2 (pc := 10) hx hb hown (hts _ qL_X9_123) dX9_master_10 ?_
    obtain ⟨x4, hc3, hf⟩ := um_bi hf
    refine um_cSi (pc := 13) (As := [.long (a2.toInt64), .long (0 : Int64), .long (63 : Int64)]) (rest := []) Cx (c_X9_isIn (a2.toInt64) (0 : Int64) (63 : Int64) hc3) kS_X9_isIn (Or.inl qM_X9_60) hW hS rfl hl rfl (Nat.le_of_ble_eq_true rfl) (Nat.le_of_ble_eq_true rfl) (Nat.le_of_ble_eq_true rfl) dX9_master_13 (Nat.le_refl _) (Nat.le_refl _) ?_
    clear hW hS hc3
    intro H locs hW hS
    refine lv_if_eq (pc := 16) (tgt := 44) hx hb dX9_master_16 (by decide) (fun c1 => ?_) (fun c1 => ?_)
    · have hf := um_it c1 hf
      clear c1
      refine lv_ldc (pc := 44) hx hb hown (hts _ qC_X9_87) dX9_master_44 ?_
      exact um_iret (pc := 46) Cx hW hS hf dX9_master_46
    · have hf := um_ie c1 hf
      clear c1
      refine lv_iload_n (pc := 19) hx hb dX9_master_19 rfl (lv_at hl 3 rfl) ?_
      refine lv_i2l (pc := 20) hx hb dX9_master_20 rfl ?_
      refine lv_lconst (pc := 21) (v := (0 : Int64)) hx hb dX9_master_21 (by decide) ?_
      refine lv_ldc2 (pc := 22) hx hb hown (hts _ qL_X9_125) dX9_master_22 ?_
      obtain ⟨x6, hc5, hf⟩ := um_bi hf
      refine um_cSi (pc := 25) (As := [.long (a3.toInt64), .long (0 : Int64), .long (9 : Int64)]) (rest := []) Cx (c_X9_isIn (a3.toInt64) (0 : Int64) (9 : Int64) hc5) kS_X9_isIn (Or.inl qM_X9_60) hW hS rfl hl rfl (Nat.le_of_ble_eq_true rfl) (Nat.le_of_ble_eq_true rfl) (Nat.le_of_ble_eq_true rfl) dX9_master_25 (Nat.le_refl _) (Nat.le_refl _) ?_
      clear hW hS hc5
      intro H locs hW hS
      refine lv_if_eq (pc := 28) (tgt := 44) hx hb dX9_master_28 (by decide) (fun c1 => ?_) (fun c1 => ?_)
      · have hf := um_it c1 hf
        clear c1
        refine lv_ldc (pc := 44) hx hb hown (hts _ qC_X9_87) dX9_master_44 ?_
        exact um_iret (pc := 46) Cx hW hS hf dX9_master_46
      · have hf := um_ie c1 hf
        clear c1
        refine lv_iload (pc := 31) hx hb dX9_master_31 (lv_at hl 4 rfl) ?_
        refine lv_i2l (pc := 33) hx hb dX9_master_33 rfl ?_
        refine lv_lconst (pc := 34) (v := (0 : Int64)) hx hb dX9_master_34 (by decide) ?_
        refine lv_ldc2 (pc := 35) hx hb hown (hts _ qL_X9_127) dX9_master_35 ?_
        obtain ⟨x8, hc7, hf⟩ := um_bi hf
        refine um_cSi (pc := 38) (As := [.long (a4.toInt64), .long (0 : Int64), .long (99 : Int64)]) (rest := []) Cx (c_X9_isIn (a4.toInt64) (0 : Int64) (99 : Int64) hc7) kS_X9_isIn (Or.inl qM_X9_60) hW hS rfl hl rfl (Nat.le_of_ble_eq_true rfl) (Nat.le_of_ble_eq_true rfl) (Nat.le_of_ble_eq_true rfl) dX9_master_38 (Nat.le_refl _) (Nat.le_refl _) ?_
        clear hW hS hc7
        intro H locs hW hS
        refine lv_if_ne (pc := 41) (tgt := 47) hx hb dX9_master_41 (by decide) (fun c1 => ?_) (fun c1 => ?_)
        · have hf := um_ie c1 hf
          clear c1
          refine lv_aload_n (pc := 47) hx hb dX9_master_47 rfl (lv_at hl 0 rfl) ?_
          refine gF_X9_7 (pc := 48) Cx hW ms_0 rfl dX9_master_48 ?_
          refine lv_iconst (pc := 51) (v := (3 : Int32)) hx hb dX9_master_51 (by decide) ?_
          refine um_iaj (pc := 52) (n := 3790) 3 rfl Cx hW ms_1 rfl (um_ix_in (by decide)) dX9_master_52 ?_
          refine lv_bipush (pc := 53) (v := (6 : Int32)) hx hb dX9_master_53 (by decide) ?_
          refine lv_icmp_ne (pc := 55) (tgt := 61) hx hb dX9_master_55 (by decide) (fun c1 => ?_) (fun c1 => ?_)
          · have hf := um_ie c1 hf
            clear c1
            refine lv_aload_n (pc := 61) hx hb dX9_master_61 rfl (lv_at hl 0 rfl) ?_
            refine lv_aload_n (pc := 62) hx hb dX9_master_62 rfl (lv_at hl 0 rfl) ?_
            refine gF_X9_7 (pc := 63) Cx hW ms_0 rfl dX9_master_63 ?_
            refine lv_iconst (pc := 66) (v := (3 : Int32)) hx hb dX9_master_66 (by decide) ?_
            refine um_iaj (pc := 67) (n := 3790) 3 rfl Cx hW ms_1 rfl (um_ix_in (by decide)) dX9_master_67 ?_
            obtain ⟨x10, hc9, hf⟩ := um_bi hf
            refine um_cVi (pc := 68) (As := [.int (σ.1 1 3)]) (rest := []) Cx (c_X9_masterAt (σ.1 1 3) hc9) kV_X9_masterAt (Or.inl qM_X9_129) hW hS ms_0 rfl rfl hl rfl (Nat.le_of_ble_eq_true rfl) (Nat.le_of_ble_eq_true rfl) (Nat.le_of_ble_eq_true rfl) dX9_master_68 (Nat.le_refl _) (Nat.le_refl _) ?_
            clear hW hS hc9
            intro H locs hW hS
            refine lv_istore (pc := 71) (lv' := [(5, .int x10), (0, .ref (α 0)), (1, .int a1), (2, .int a2), (3, .int a3), (4, .int a4)]) hx hb dX9_master_71 hl (by decide) rfl ?_
            clear hl
            intro ls hl
            refine lv_aload_n (pc := 73) hx hb dX9_master_73 rfl (lv_at hl 1 rfl) ?_
            refine gF_X9_7 (pc := 74) Cx hW ms_0 rfl dX9_master_74 ?_
            refine lv_iload (pc := 77) hx hb dX9_master_77 (lv_at hl 0 rfl) ?_
            refine lv_iload_n (pc := 79) hx hb dX9_master_79 rfl (lv_at hl 2 rfl) ?_
            obtain ⟨g11, hf⟩ := um_gu hf
            refine um_iast (pc := 80) Cx hW hS ms_1 rfl (um_ix_in g11) dX9_master_80 ?_
            clear hW hS
            intro H locs hW hS
            obtain ⟨σ12, e13, hf⟩ := um_le hf
            rw [← e13] at hW
            clear e13
            refine lv_aload_n (pc := 81) hx hb dX9_master_81 rfl (lv_at hl 1 rfl) ?_
            refine gF_X9_7 (pc := 82) Cx hW ms_0 rfl dX9_master_82 ?_
            refine lv_iload (pc := 85) hx hb dX9_master_85 (lv_at hl 0 rfl) ?_
            refine lv_iconst (pc := 87) (v := (1 : Int32)) hx hb dX9_master_87 (by decide) ?_
            refine lv_iadd (pc := 88) hx hb dX9_master_88 ?_
            refine lv_iload_n (pc := 89) hx hb dX9_master_89 rfl (lv_at hl 3 rfl) ?_
            obtain ⟨g14, hf⟩ := um_gu hf
            refine um_iast (pc := 90) Cx hW hS ms_1 rfl (um_ix_in g14) dX9_master_90 ?_
            clear hW hS
            intro H locs hW hS
            obtain ⟨σ15, e16, hf⟩ := um_le hf
            rw [← e16] at hW
            clear e16
            refine lv_aload_n (pc := 91) hx hb dX9_master_91 rfl (lv_at hl 1 rfl) ?_
            refine gF_X9_7 (pc := 92) Cx hW ms_0 rfl dX9_master_92 ?_
            refine lv_iload (pc := 95) hx hb dX9_master_95 (lv_at hl 0 rfl) ?_
            refine lv_iconst (pc := 97) (v := (2 : Int32)) hx hb dX9_master_97 (by decide) ?_
            refine lv_iadd (pc := 98) hx hb dX9_master_98 ?_
            refine lv_iload_n (pc := 99) hx hb dX9_master_99 rfl (lv_at hl 4 rfl) ?_
            obtain ⟨g17, hf⟩ := um_gu hf
            refine um_iast (pc := 100) Cx hW hS ms_1 rfl (um_ix_in g17) dX9_master_100 ?_
            clear hW hS
            intro H locs hW hS
            obtain ⟨σ18, e19, hf⟩ := um_le hf
            rw [← e19] at hW
            clear e19
            refine lv_aload_n (pc := 101) hx hb dX9_master_101 rfl (lv_at hl 1 rfl) ?_
            refine gF_X9_7 (pc := 102) Cx hW ms_0 rfl dX9_master_102 ?_
            refine lv_iload (pc := 105) hx hb dX9_master_105 (lv_at hl 0 rfl) ?_
            refine lv_iconst (pc := 107) (v := (3 : Int32)) hx hb dX9_master_107 (by decide) ?_
            refine lv_iadd (pc := 108) hx hb dX9_master_108 ?_
            refine lv_iload (pc := 109) hx hb dX9_master_109 (lv_at hl 5 rfl) ?_
            obtain ⟨g20, hf⟩ := um_gu hf
            refine um_iast (pc := 111) Cx hW hS ms_1 rfl (um_ix_in g20) dX9_master_111 ?_
            clear hW hS
            intro H locs hW hS
            obtain ⟨σ21, e22, hf⟩ := um_le hf
            rw [← e22] at hW
            clear e22
            refine lv_aload_n (pc := 112) hx hb dX9_master_112 rfl (lv_at hl 1 rfl) ?_
            refine gF_X9_7 (pc := 113) Cx hW ms_0 rfl dX9_master_113 ?_
            refine lv_iconst (pc := 116) (v := (3 : Int32)) hx hb dX9_master_116 (by decide) ?_
            refine lv_dup2_11 (pc := 117) hx hb dX9_master_117 rfl rfl ?_
            refine um_iaj (pc := 118) (n := 3790) 3 rfl Cx hW ms_1 rfl (um_ix_in (by decide)) dX9_master_118 ?_
            refine lv_iconst (pc := 119) (v := (1 : Int32)) hx hb dX9_master_119 (by decide) ?_
            refine lv_iadd (pc := 120) hx hb dX9_master_120 ?_
            refine um_isj (pc := 121) (n := 3790) 3 rfl Cx hW hS ms_1 rfl (um_ix_in (by decide)) dX9_master_121 ?_
            clear hW hS
            intro H locs hW hS
            obtain ⟨σ23, e24, hf⟩ := um_le hf
            rw [← e24] at hW
            clear e24
            refine lv_aload_n (pc := 122) hx hb dX9_master_122 rfl (lv_at hl 1 rfl) ?_
            refine gF_X9_7 (pc := 123) Cx hW ms_0 rfl dX9_master_123 ?_
            refine lv_iconst (pc := 126) (v := (3 : Int32)) hx hb dX9_master_126 (by decide) ?_
            refine um_iaj (pc := 127) (n := 3790) 3 rfl Cx hW ms_1 rfl (um_ix_in (by decide)) dX9_master_127 ?_
            refine lv_iconst (pc := 128) (v := (1 : Int32)) hx hb dX9_master_128 (by decide) ?_
            refine lv_isub (pc := 129) hx hb dX9_master_129 ?_
            exact um_iret (pc := 130) Cx hW hS hf dX9_master_130
          · have hf := um_it c1 hf
            clear c1
            refine lv_ldc (pc := 58) hx hb hown (hts _ qC_X9_88) dX9_master_58 ?_
            exact um_iret (pc := 60) Cx hW hS hf dX9_master_60
        · have hf := um_it c1 hf
          clear c1
          refine lv_ldc (pc := 44) hx hb hown (hts _ qC_X9_87) dX9_master_44 ?_
          exact um_iret (pc := 46) Cx hW hS hf dX9_master_46
theorem c_X9_master {σ : um_S} {σ' : um_S} {r : Int32} (a1 : Int32) (a2 : Int32) (a3 : Int32) (a4 : Int32)  (hf : f_X9_master a1 a2 a3 a4 σ = some (r, σ')) : um_M l yX9_master cX9_master 6 (some FieldType.int) (2) (45) Z msh α σ [.ref (α 0), .int a1, .int a2, .int a3, .int a4] (some (.int r)) σ' :=
  um_start (by decide) (Nat.le_of_ble_eq_true rfl) (fun p e s m below meth c ls Cx hW hS hl => b_X9_master a1 a2 a3 a4 hf Cx hW hS hl)
noncomputable def f_X9_partsMost_l29 (v1 : Int32) (v2 : Int32) (v3 : Int32) (v4 : Int32) (σ : um_S) : Nat → Int32 → Int32 → Option (Int32)
  | 0, _, _ => none
  | n + 1, v5, v6 =>
    if (σ.1 1 2) ≤ v6 then
    (some v5)
    else
    (if ((v1 >>> (v6 &&& 31)) &&& (1 : Int32)) = (1 : Int32) then
    ((f_X9_manAt v6 σ).bind fun x4 =>
    (if um_ix (x4 + (3 : Int32)) 3790 then
    (if (((σ.1 1 (x4 + (3 : Int32)).toNatClampNeg) >>> (v4 &&& 31)) &&& (1 : Int32)) = (1 : Int32) then
    (um_let (v5 + (1 : Int32)) fun x8 =>
    (f_X9_partsMost_l29 v1 v2 v3 v4 σ n x8 (v6 + (1 : Int32))))
    else
    (um_let (v5 + (0 : Int32)) fun x6 =>
    (f_X9_partsMost_l29 v1 v2 v3 v4 σ n x6 (v6 + (1 : Int32))))) else none))
    else
    (um_let (v5 + (0 : Int32)) fun x1 =>
    (f_X9_partsMost_l29 v1 v2 v3 v4 σ n x1 (v6 + (1 : Int32)))))
noncomputable def f_X9_partsMost_l8 (v1 : Int32) (σ : um_S) : Nat → Int32 → Int32 → Int32 → Option (Int32)
  | 0, _, _, _ => none
  | n + 1, v2, v3, v4 =>
    if (8 : Int32) ≤ v4 then
    (some v2)
    else
    ((f_X9_ones v1 σ).bind fun x2 =>
    (if x2 ≤ (1 : Int32) then
    (some v2)
    else
    ((f_X9_partsMost_l29 v1 v2 v3 v4 σ um_N (0 : Int32) (0 : Int32)).bind fun x3 =>
    ((f_X9_ones v1 σ).bind fun x6 =>
    (um_let (fun (x8 : Int32) =>
    (um_let (fun (x10 : Int32) =>
    ((f_X9_least v3 x8 σ).bind fun x12 =>
    (f_X9_partsMost_l8 v1 σ n x10 x12 (v4 + (1 : Int32))))) fun k9 =>
    (if v3 ≤ x8 then
    (k9 v2)
    else
    (k9 v4)))) fun k7 =>
    (if x3 ≤ (x6 - x3) then
    ((f_X9_ones v1 σ).bind fun x14 =>
    (k7 (x14 - x3)))
    else
    (k7 x3)))))))
noncomputable def f_X9_partsMost (a1 : Int32) (σ : um_S) : Option (Int32) :=
    (f_X9_partsMost_l8 a1 σ um_N (-1 : Int32) (99 : Int32) (0 : Int32)).bind fun x1 =>
    (some x1)
set_option maxRecDepth 100000 in
set_option maxHeartbeats 4000000 in
theorem t_X9_partsMost_l29 {Q : State → Prop} {o5 : Int32} {σ : um_S} (v1 : Int32) (v2 : Int32) (v3 : Int32) (v4 : Int32)  (Cx : um_C p s m meth c args cX9_partsMost 7 (some FieldType.int) RX9 Z) (hE : ∀ (H : Heap) (locs : List Loc) (ls : Array Slot), um_W Z msh α σ H → va_S (um_D msh α) s.heap H locs → lv_has ls 7 [(0, .ref (α 0)), (1, .int v1), (2, .int v2), (3, .int v3), (4, .int v4), (5, .int o5)] → W p l e { frames := 1, cells := 0, slots := 0, locals := 22 } s m args below meth c H locs 0 0 Q (F0 m 88 ls [])) : ∀ (n : Nat) (v5 : Int32) (v6 : Int32) (H : Heap) (locs : List Loc) (ls : Array Slot), f_X9_partsMost_l29 v1 v2 v3 v4 σ n v5 v6 = some o5 → um_W Z msh α σ H → va_S (um_D msh α) s.heap H locs → lv_has ls 7 [(0, .ref (α 0)), (1, .int v1), (2, .int v2), (3, .int v3), (4, .int v4), (5, .int v5), (6, .int v6)] → W p l e { frames := 1, cells := 0, slots := 0, locals := 22 } s m args below meth c H locs 0 0 Q (F0 m 29 ls []) := by
  have hx := Cx.1
  have hb := Cx.2.1
  have hown := Cx.2.2.2.2.1
  have hts := Cx.2.2.2.2.2.1
  intro n
  induction n with
  | zero =>
    intro v5 v6 H locs ls hf hW hS hl
    cases hf
  | succ n ih =>
    intro v5 v6 H locs ls hf hW hS hl
    rw [f_X9_partsMost_l29] at hf
    refine lv_iload (pc := 29) hx hb dX9_partsMost_29 (lv_at hl 6 rfl) ?_
    refine lv_aload_n (pc := 31) hx hb dX9_partsMost_31 rfl (lv_at hl 0 rfl) ?_
    refine gF_X9_7 (pc := 32) Cx hW ms_0 rfl dX9_partsMost_32 ?_
    refine lv_iconst (pc := 35) (v := (2 : Int32)) hx hb dX9_partsMost_35 (by decide) ?_
    refine um_iaj (pc := 36) (n := 3790) 2 rfl Cx hW ms_1 rfl (um_ix_in (by decide)) dX9_partsMost_36 ?_
    refine lv_icmp_ge (pc := 37) (tgt := 88) hx hb dX9_partsMost_37 (by decide) (fun c1 => ?_) (fun c1 => ?_)
    · have hf := um_it c1 hf
      clear c1
      cases hf
      exact hE _ _ _ hW hS (lv_sub hl [0, 1, 2, 3, 4, 5] rfl)
    · have hf := um_ie c1 hf
      clear c1
      refine lv_iload (pc := 40) hx hb dX9_partsMost_40 (lv_at hl 5 rfl) ?_
      refine lv_iload_n (pc := 42) hx hb dX9_partsMost_42 rfl (lv_at hl 1 rfl) ?_
      refine lv_iload (pc := 43) hx hb dX9_partsMost_43 (lv_at hl 6 rfl) ?_
      refine lv_ishr (pc := 45) hx hb dX9_partsMost_45 ?_
      refine lv_iconst (pc := 46) (v := (1 : Int32)) hx hb dX9_partsMost_46 (by decide) ?_
      refine lv_iand (pc := 47) hx hb dX9_partsMost_47 ?_
      refine lv_iconst (pc := 48) (v := (1 : Int32)) hx hb dX9_partsMost_48 (by decide) ?_
      refine lv_icmp_ne (pc := 49) (tgt := 78) hx hb dX9_partsMost_49 (by decide) (fun c1 => ?_) (fun c1 => ?_)
      · have hf := um_ie c1 hf
        clear c1
        refine lv_iconst (pc := 78) (v := (0 : Int32)) hx hb dX9_partsMost_78 (by decide) ?_
        refine lv_iadd (pc := 79) hx hb dX9_partsMost_79 ?_
        obtain ⟨x1, e2, hf⟩ := um_le hf
        refine um_top e2 ?_
        clear e2
        refine lv_istore (pc := 80) (lv' := [(5, .int x1), (0, .ref (α 0)), (1, .int v1), (2, .int v2), (3, .int v3), (4, .int v4), (6, .int v6)]) hx hb dX9_partsMost_80 hl (by decide) rfl ?_
        clear hl
        intro ls hl
        refine lv_iinc (pc := 82) (v := v6 + (1 : Int32)) (lv' := [(6, .int (v6 + (1 : Int32))), (5, .int x1), (0, .ref (α 0)), (1, .int v1), (2, .int v2), (3, .int v3), (4, .int v4)]) hx hb dX9_partsMost_82 hl (k := 6) rfl rfl (by decide) rfl ?_
        clear hl
        intro ls hl
        refine lv_goto (pc := 85) (tgt := 29) hx hb dX9_partsMost_85 (by decide) ?_
        exact ih _ _ _ _ _ hf hW hS (lv_sub hl [2, 3, 4, 5, 6, 1, 0] rfl)
      · have hf := um_it c1 hf
        clear c1
        refine lv_aload_n (pc := 52) hx hb dX9_partsMost_52 rfl (lv_at hl 0 rfl) ?_
        refine gF_X9_7 (pc := 53) Cx hW ms_0 rfl dX9_partsMost_53 ?_
        refine lv_aload_n (pc := 56) hx hb dX9_partsMost_56 rfl (lv_at hl 0 rfl) ?_
        refine lv_iload (pc := 57) hx hb dX9_partsMost_57 (lv_at hl 6 rfl) ?_
        obtain ⟨x4, hc3, hf⟩ := um_bi hf
        refine um_cVi (pc := 59) (As := [.int v6]) (rest := [.ref (α 1), .int v5]) Cx (c_X9_manAt v6 hc3) kV_X9_manAt (Or.inl qM_X9_66) hW hS ms_0 rfl rfl hl rfl (Nat.le_of_ble_eq_true rfl) (Nat.le_of_ble_eq_true rfl) (Nat.le_of_ble_eq_true rfl) dX9_partsMost_59 (Nat.le_refl _) (Nat.le_refl _) ?_
        clear hW hS hc3
        intro H locs hW hS
        refine lv_iconst (pc := 62) (v := (3 : Int32)) hx hb dX9_partsMost_62 (by decide) ?_
        refine lv_iadd (pc := 63) hx hb dX9_partsMost_63 ?_
        obtain ⟨g5, hf⟩ := um_gu hf
        refine um_iald (pc := 64) Cx hW ms_1 rfl (um_ix_in g5) dX9_partsMost_64 ?_
        refine lv_iload (pc := 65) hx hb dX9_partsMost_65 (lv_at hl 4 rfl) ?_
        refine lv_ishr (pc := 67) hx hb dX9_partsMost_67 ?_
        refine lv_iconst (pc := 68) (v := (1 : Int32)) hx hb dX9_partsMost_68 (by decide) ?_
        refine lv_iand (pc := 69) hx hb dX9_partsMost_69 ?_
        refine lv_iconst (pc := 70) (v := (1 : Int32)) hx hb dX9_partsMost_70 (by decide) ?_
        refine lv_icmp_ne (pc := 71) (tgt := 78) hx hb dX9_partsMost_71 (by decide) (fun c1 => ?_) (fun c1 => ?_)
        · have hf := um_ie c1 hf
          clear c1
          refine lv_iconst (pc := 78) (v := (0 : Int32)) hx hb dX9_partsMost_78 (by decide) ?_
          refine lv_iadd (pc := 79) hx hb dX9_partsMost_79 ?_
          obtain ⟨x6, e7, hf⟩ := um_le hf
          refine um_top e7 ?_
          clear e7
          refine lv_istore (pc := 80) (lv' := [(5, .int x6), (0, .ref (α 0)), (1, .int v1), (2, .int v2), (3, .int v3), (4, .int v4), (6, .int v6)]) hx hb dX9_partsMost_80 hl (by decide) rfl ?_
          clear hl
          intro ls hl
          refine lv_iinc (pc := 82) (v := v6 + (1 : Int32)) (lv' := [(6, .int (v6 + (1 : Int32))), (5, .int x6), (0, .ref (α 0)), (1, .int v1), (2, .int v2), (3, .int v3), (4, .int v4)]) hx hb dX9_partsMost_82 hl (k := 6) rfl rfl (by decide) rfl ?_
          clear hl
          intro ls hl
          refine lv_goto (pc := 85) (tgt := 29) hx hb dX9_partsMost_85 (by decide) ?_
          exact ih _ _ _ _ _ hf hW hS (lv_sub hl [2, 3, 4, 5, 6, 1, 0] rfl)
        · have hf := um_it c1 hf
          clear c1
          refine lv_iconst (pc := 74) (v := (1 : Int32)) hx hb dX9_partsMost_74 (by decide) ?_
          refine lv_goto (pc := 75) (tgt := 79) hx hb dX9_partsMost_75 (by decide) ?_
          refine lv_iadd (pc := 79) hx hb dX9_partsMost_79 ?_
          obtain ⟨x8, e9, hf⟩ := um_le hf
          refine um_top e9 ?_
          clear e9
          refine lv_istore (pc := 80) (lv' := [(5, .int x8), (0, .ref (α 0)), (1, .int v1), (2, .int v2), (3, .int v3), (4, .int v4), (6, .int v6)]) hx hb dX9_partsMost_80 hl (by decide) rfl ?_
          clear hl
          intro ls hl
          refine lv_iinc (pc := 82) (v := v6 + (1 : Int32)) (lv' := [(6, .int (v6 + (1 : Int32))), (5, .int x8), (0, .ref (α 0)), (1, .int v1), (2, .int v2), (3, .int v3), (4, .int v4)]) hx hb dX9_partsMost_82 hl (k := 6) rfl rfl (by decide) rfl ?_
          clear hl
          intro ls hl
          refine lv_goto (pc := 85) (tgt := 29) hx hb dX9_partsMost_85 (by decide) ?_
          exact ih _ _ _ _ _ hf hW hS (lv_sub hl [2, 3, 4, 5, 6, 1, 0] rfl)
set_option maxRecDepth 100000 in
set_option maxHeartbeats 4000000 in
theorem t_X9_partsMost_l8 {Q : State → Prop} {o2 : Int32} {σ : um_S} (v1 : Int32)  (Cx : um_C p s m meth c args cX9_partsMost 7 (some FieldType.int) RX9 Z) (hE : ∀ (H : Heap) (locs : List Loc) (ls : Array Slot), um_W Z msh α σ H → va_S (um_D msh α) s.heap H locs → lv_has ls 7 [(2, .int o2)] → W p l e { frames := 1, cells := 0, slots := 0, locals := 22 } s m args below meth c H locs 0 0 Q (F0 m 140 ls [])) : ∀ (n : Nat) (v2 : Int32) (v3 : Int32) (v4 : Int32) (H : Heap) (locs : List Loc) (ls : Array Slot), f_X9_partsMost_l8 v1 σ n v2 v3 v4 = some o2 → um_W Z msh α σ H → va_S (um_D msh α) s.heap H locs → lv_has ls 7 [(0, .ref (α 0)), (1, .int v1), (2, .int v2), (3, .int v3), (4, .int v4)] → W p l e { frames := 1, cells := 0, slots := 0, locals := 22 } s m args below meth c H locs 0 0 Q (F0 m 8 ls []) := by
  have hx := Cx.1
  have hb := Cx.2.1
  have hown := Cx.2.2.2.2.1
  have hts := Cx.2.2.2.2.2.1
  intro n
  induction n with
  | zero =>
    intro v2 v3 v4 H locs ls hf hW hS hl
    cases hf
  | succ n ih =>
    intro v2 v3 v4 H locs ls hf hW hS hl
    rw [f_X9_partsMost_l8] at hf
    refine lv_iload (pc := 8) hx hb dX9_partsMost_8 (lv_at hl 4 rfl) ?_
    refine lv_bipush (pc := 10) (v := (8 : Int32)) hx hb dX9_partsMost_10 (by decide) ?_
    refine lv_icmp_ge (pc := 12) (tgt := 140) hx hb dX9_partsMost_12 (by decide) (fun c1 => ?_) (fun c1 => ?_)
    · have hf := um_it c1 hf
      clear c1
      cases hf
      exact hE _ _ _ hW hS (lv_sub hl [2] rfl)
    · have hf := um_ie c1 hf
      clear c1
      refine lv_iload_n (pc := 15) hx hb dX9_partsMost_15 rfl (lv_at hl 1 rfl) ?_
      obtain ⟨x2, hc1, hf⟩ := um_bi hf
      refine um_cSi (pc := 16) (As := [.int v1]) (rest := []) Cx (c_X9_ones v1 hc1) kS_X9_ones (Or.inl qM_X9_323) hW hS rfl hl rfl (Nat.le_of_ble_eq_true rfl) (Nat.le_of_ble_eq_true rfl) (Nat.le_of_ble_eq_true rfl) dX9_partsMost_16 (Nat.le_refl _) (Nat.le_refl _) ?_
      clear hW hS hc1
      intro H locs hW hS
      refine lv_iconst (pc := 19) (v := (1 : Int32)) hx hb dX9_partsMost_19 (by decide) ?_
      refine lv_icmp_le (pc := 20) (tgt := 140) hx hb dX9_partsMost_20 (by decide) (fun c1 => ?_) (fun c1 => ?_)
      · have hf := um_it c1 hf
        clear c1
        cases hf
        exact hE _ _ _ hW hS (lv_sub hl [2] rfl)
      · have hf := um_ie c1 hf
        clear c1
        refine lv_iconst (pc := 23) (v := (0 : Int32)) hx hb dX9_partsMost_23 (by decide) ?_
        refine lv_istore (pc := 24) (lv' := [(5, .int (0 : Int32)), (0, .ref (α 0)), (1, .int v1), (2, .int v2), (3, .int v3), (4, .int v4)]) hx hb dX9_partsMost_24 hl (by decide) rfl ?_
        clear hl
        intro ls hl
        refine lv_iconst (pc := 26) (v := (0 : Int32)) hx hb dX9_partsMost_26 (by decide) ?_
        refine lv_istore (pc := 27) (lv' := [(6, .int (0 : Int32)), (5, .int (0 : Int32)), (0, .ref (α 0)), (1, .int v1), (2, .int v2), (3, .int v3), (4, .int v4)]) hx hb dX9_partsMost_27 hl (by decide) rfl ?_
        clear hl
        intro ls hl
        obtain ⟨x3, hc4, hf⟩ := um_bi hf
        refine t_X9_partsMost_l29 v1 v2 v3 v4 Cx ?_ um_N _ _ _ _ _ hc4 hW hS (lv_sub hl [2, 3, 4, 5, 6, 1, 0] rfl)
        clear hW hS hl hc4
        intro H locs ls hW hS hl
        refine lv_iload (pc := 88) hx hb dX9_partsMost_88 (lv_at hl 5 rfl) ?_
        refine lv_iload_n (pc := 90) hx hb dX9_partsMost_90 rfl (lv_at hl 1 rfl) ?_
        obtain ⟨x6, hc5, hf⟩ := um_bi hf
        refine um_cSi (pc := 91) (As := [.int v1]) (rest := [.int x3]) Cx (c_X9_ones v1 hc5) kS_X9_ones (Or.inl qM_X9_323) hW hS rfl hl rfl (Nat.le_of_ble_eq_true rfl) (Nat.le_of_ble_eq_true rfl) (Nat.le_of_ble_eq_true rfl) dX9_partsMost_91 (Nat.le_refl _) (Nat.le_refl _) ?_
        clear hW hS hc5
        intro H locs hW hS
        refine lv_iload (pc := 94) hx hb dX9_partsMost_94 (lv_at hl 5 rfl) ?_
        refine lv_isub (pc := 96) hx hb dX9_partsMost_96 ?_
        obtain ⟨k7, hk7, hf⟩ := um_j1 hf
        have J7 : ∀ (x8 : Int32), k7 x8 = some o2 → ∀ (H : Heap) (locs : List Loc) (ls : Array Slot), um_W Z msh α σ H → va_S (um_D msh α) s.heap H locs → lv_has ls 7 [(0, .ref (α 0)), (1, .int v1), (2, .int v2), (3, .int v3), (4, .int v4)] → W p l e { frames := 1, cells := 0, slots := 0, locals := 22 } s m args below meth c H locs 0 0 Q (F0 m 112 ls [.int x8]) := by
          intro x8 hf H locs ls hW hS hl
          rw [hk7] at hf
          refine lv_istore (pc := 112) (lv' := [(6, .int x8), (0, .ref (α 0)), (1, .int v1), (2, .int v2), (3, .int v3), (4, .int v4)]) hx hb dX9_partsMost_112 hl (by decide) rfl ?_
          clear hl
          intro ls hl
          refine lv_iload (pc := 114) hx hb dX9_partsMost_114 (lv_at hl 0 rfl) ?_
          refine lv_iload_n (pc := 116) hx hb dX9_partsMost_116 rfl (lv_at hl 4 rfl) ?_
          obtain ⟨k9, hk9, hf⟩ := um_j1 hf
          have J9 : ∀ (x10 : Int32), k9 x10 = some o2 → ∀ (H : Heap) (locs : List Loc) (ls : Array Slot), um_W Z msh α σ H → va_S (um_D msh α) s.heap H locs → lv_has ls 7 [(0, .ref (α 0)), (1, .int v1), (3, .int v3), (4, .int v4), (6, .int x8)] → W p l e { frames := 1, cells := 0, slots := 0, locals := 22 } s m args below meth c H locs 0 0 Q (F0 m 126 ls [.int x10]) := by
            intro x10 hf H locs ls hW hS hl
            rw [hk9] at hf
            refine lv_istore_n (pc := 126) (lv' := [(2, .int x10), (0, .ref (α 0)), (1, .int v1), (3, .int v3), (4, .int v4), (6, .int x8)]) hx hb dX9_partsMost_126 rfl hl (by decide) rfl ?_
            clear hl
            intro ls hl
            refine lv_iload_n (pc := 127) hx hb dX9_partsMost_127 rfl (lv_at hl 3 rfl) ?_
            refine lv_iload (pc := 128) hx hb dX9_partsMost_128 (lv_at hl 5 rfl) ?_
            obtain ⟨x12, hc11, hf⟩ := um_bi hf
            refine um_cSi (pc := 130) (As := [.int v3, .int x8]) (rest := []) Cx (c_X9_least v3 x8 hc11) kS_X9_least (Or.inl qM_X9_286) hW hS rfl hl rfl (Nat.le_of_ble_eq_true rfl) (Nat.le_of_ble_eq_true rfl) (Nat.le_of_ble_eq_true rfl) dX9_partsMost_130 (Nat.le_refl _) (Nat.le_refl _) ?_
            clear hW hS hc11
            intro H locs hW hS
            refine lv_istore_n (pc := 133) (lv' := [(3, .int x12), (2, .int x10), (0, .ref (α 0)), (1, .int v1), (4, .int v4), (6, .int x8)]) hx hb dX9_partsMost_133 rfl hl (by decide) rfl ?_
            clear hl
            intro ls hl
            refine lv_iinc (pc := 134) (v := v4 + (1 : Int32)) (lv' := [(4, .int (v4 + (1 : Int32))), (3, .int x12), (2, .int x10), (0, .ref (α 0)), (1, .int v1), (6, .int x8)]) hx hb dX9_partsMost_134 hl (k := 4) rfl rfl (by decide) rfl ?_
            clear hl
            intro ls hl
            refine lv_goto (pc := 137) (tgt := 8) hx hb dX9_partsMost_137 (by decide) ?_
            exact ih _ _ _ _ _ _ hf hW hS (lv_sub hl [3, 4, 2, 1, 0] rfl)
          refine lv_icmp_ge (pc := 117) (tgt := 125) hx hb dX9_partsMost_117 (by decide) (fun c1 => ?_) (fun c1 => ?_)
          · have hf := um_it c1 hf
            clear c1
            refine lv_iload_n (pc := 125) hx hb dX9_partsMost_125 rfl (lv_at hl 3 rfl) ?_
            exact J9 v2 hf _ _ _ hW hS (lv_sub hl [1, 2, 4, 5, 0] rfl)
          · have hf := um_ie c1 hf
            clear c1
            refine lv_iload (pc := 120) hx hb dX9_partsMost_120 (lv_at hl 5 rfl) ?_
            refine lv_goto (pc := 122) (tgt := 126) hx hb dX9_partsMost_122 (by decide) ?_
            exact J9 v4 hf _ _ _ hW hS (lv_sub hl [1, 2, 4, 5, 0] rfl)
        refine lv_icmp_le (pc := 97) (tgt := 105) hx hb dX9_partsMost_97 (by decide) (fun c1 => ?_) (fun c1 => ?_)
        · have hf := um_it c1 hf
          clear c1
          refine lv_iload_n (pc := 105) hx hb dX9_partsMost_105 rfl (lv_at hl 1 rfl) ?_
          obtain ⟨x14, hc13, hf⟩ := um_bi hf
          refine um_cSi (pc := 106) (As := [.int v1]) (rest := []) Cx (c_X9_ones v1 hc13) kS_X9_ones (Or.inl qM_X9_323) hW hS rfl hl rfl (Nat.le_of_ble_eq_true rfl) (Nat.le_of_ble_eq_true rfl) (Nat.le_of_ble_eq_true rfl) dX9_partsMost_106 (Nat.le_refl _) (Nat.le_refl _) ?_
          clear hW hS hc13
          intro H locs hW hS
          refine lv_iload (pc := 109) hx hb dX9_partsMost_109 (lv_at hl 5 rfl) ?_
          refine lv_isub (pc := 111) hx hb dX9_partsMost_111 ?_
          exact J7 (x14 - x3) hf _ _ _ hW hS (lv_sub hl [0, 1, 2, 3, 4] rfl)
        · have hf := um_ie c1 hf
          clear c1
          refine lv_iload (pc := 100) hx hb dX9_partsMost_100 (lv_at hl 5 rfl) ?_
          refine lv_goto (pc := 102) (tgt := 112) hx hb dX9_partsMost_102 (by decide) ?_
          exact J7 x3 hf _ _ _ hW hS (lv_sub hl [0, 1, 2, 3, 4] rfl)
set_option maxRecDepth 100000 in
set_option maxHeartbeats 4000000 in
theorem b_X9_partsMost {H : Heap} {locs : List Loc} {ls : Array Slot} {σ : um_S} {r : Int32} (a1 : Int32)  (hf : f_X9_partsMost a1 σ = some r) (Cx : um_C p s m meth c args cX9_partsMost 7 (some FieldType.int) RX9 Z) (hW : um_W Z msh α σ H) (hS : va_S (um_D msh α) s.heap H locs) (hl : lv_has ls 7 [(0, .ref (α 0)), (1, .int a1)]) : um_G p l e (1) (22) s m args below meth c Z msh α σ (some (.int r)) H locs (F0 m 0 ls []) := by
  have hx := Cx.1
  have hb := Cx.2.1
  have hown := Cx.2.2.2.2.1
  have hts := Cx.2.2.2.2.2.1
  rw [f_X9_partsMost] at hf
  refine lv_iconst (pc := 0) (v := (-1 : Int32)) hx hb dX9_partsMost_0 (by decide) ?_
  refine lv_istore_n (pc := 1) (lv' := [(2, .int (-1 : Int32)), (0, .ref (α 0)), (1, .int a1)]) hx hb dX9_partsMost_1 rfl hl (by decide) rfl ?_
  clear hl
  intro ls hl
  refine lv_bipush (pc := 2) (v := (99 : Int32)) hx hb dX9_partsMost_2 (by decide) ?_
  refine lv_istore_n (pc := 4) (lv' := [(3, .int (99 : Int32)), (2, .int (-1 : Int32)), (0, .ref (α 0)), (1, .int a1)]) hx hb dX9_partsMost_4 rfl hl (by decide) rfl ?_
  clear hl
  intro ls hl
  refine lv_iconst (pc := 5) (v := (0 : Int32)) hx hb dX9_partsMost_5 (by decide) ?_
  refine lv_istore (pc := 6) (lv' := [(4, .int (0 : Int32)), (3, .int (99 : Int32)), (2, .int (-1 : Int32)), (0, .ref (α 0)), (1, .int a1)]) hx hb dX9_partsMost_6 hl (by decide) rfl ?_
  clear hl
  intro ls hl
  obtain ⟨x1, hc2, hf⟩ := um_bi hf
  refine t_X9_partsMost_l8 a1 Cx ?_ um_N _ _ _ _ _ _ hc2 hW hS (lv_sub hl [3, 4, 2, 1, 0] rfl)
  clear hW hS hl hc2
  intro H locs ls hW hS hl
  refine lv_iload_n (pc := 140) hx hb dX9_partsMost_140 rfl (lv_at hl 0 rfl) ?_
  exact um_iretR (pc := 141) Cx hW hS hf dX9_partsMost_141
theorem c_X9_partsMost {σ : um_S} {r : Int32} (a1 : Int32)  (hf : f_X9_partsMost a1 σ = some r) : um_M l yX9_partsMost cX9_partsMost 7 (some FieldType.int) (1) (22) Z msh α σ [.ref (α 0), .int a1] (some (.int r)) σ :=
  um_start (by decide) (Nat.le_of_ble_eq_true rfl) (fun p e s m below meth c ls Cx hW hS hl => b_X9_partsMost a1 hf Cx hW hS hl)
noncomputable def f_X9_sure_l4 (v1 : Int32) (σ : um_S) : Nat → Int32 → Int32 → Option (Int32)
  | 0, _, _ => none
  | n + 1, v2, v3 =>
    if (σ.1 1 2) ≤ v3 then
    (some v2)
    else
    (if v1 = ((1 : Int32) <<< (v3 &&& 31)) then
    (f_X9_sure_l4 v1 σ n v3 (v3 + (1 : Int32)))
    else
    (f_X9_sure_l4 v1 σ n v2 (v3 + (1 : Int32))))
noncomputable def f_X9_sure (a1 : Int32) (σ : um_S) : Option (Int32) :=
    (f_X9_sure_l4 a1 σ um_N (-1 : Int32) (0 : Int32)).bind fun x1 =>
    (some x1)
set_option maxRecDepth 100000 in
set_option maxHeartbeats 4000000 in
theorem t_X9_sure_l4 {Q : State → Prop} {o2 : Int32} {σ : um_S} (v1 : Int32)  (Cx : um_C p s m meth c args cX9_sure 4 (some FieldType.int) RX9 Z) (hE : ∀ (H : Heap) (locs : List Loc) (ls : Array Slot), um_W Z msh α σ H → va_S (um_D msh α) s.heap H locs → lv_has ls 4 [(2, .int o2)] → W p l e { frames := 0, cells := 0, slots := 0, locals := 0 } s m args below meth c H locs 0 0 Q (F0 m 33 ls [])) : ∀ (n : Nat) (v2 : Int32) (v3 : Int32) (H : Heap) (locs : List Loc) (ls : Array Slot), f_X9_sure_l4 v1 σ n v2 v3 = some o2 → um_W Z msh α σ H → va_S (um_D msh α) s.heap H locs → lv_has ls 4 [(0, .ref (α 0)), (1, .int v1), (2, .int v2), (3, .int v3)] → W p l e { frames := 0, cells := 0, slots := 0, locals := 0 } s m args below meth c H locs 0 0 Q (F0 m 4 ls []) := by
  have hx := Cx.1
  have hb := Cx.2.1
  have hown := Cx.2.2.2.2.1
  have hts := Cx.2.2.2.2.2.1
  intro n
  induction n with
  | zero =>
    intro v2 v3 H locs ls hf hW hS hl
    cases hf
  | succ n ih =>
    intro v2 v3 H locs ls hf hW hS hl
    rw [f_X9_sure_l4] at hf
    refine lv_iload_n (pc := 4) hx hb dX9_sure_4 rfl (lv_at hl 3 rfl) ?_
    refine lv_aload_n (pc := 5) hx hb dX9_sure_5 rfl (lv_at hl 0 rfl) ?_
    refine gF_X9_7 (pc := 6) Cx hW ms_0 rfl dX9_sure_6 ?_
    refine lv_iconst (pc := 9) (v := (2 : Int32)) hx hb dX9_sure_9 (by decide) ?_
    refine um_iaj (pc := 10) (n := 3790) 2 rfl Cx hW ms_1 rfl (um_ix_in (by decide)) dX9_sure_10 ?_
    refine lv_icmp_ge (pc := 11) (tgt := 33) hx hb dX9_sure_11 (by decide) (fun c1 => ?_) (fun c1 => ?_)
    · have hf := um_it c1 hf
      clear c1
      cases hf
      exact hE _ _ _ hW hS (lv_sub hl [2] rfl)
    · have hf := um_ie c1 hf
      clear c1
      refine lv_iload_n (pc := 14) hx hb dX9_sure_14 rfl (lv_at hl 1 rfl) ?_
      refine lv_iconst (pc := 15) (v := (1 : Int32)) hx hb dX9_sure_15 (by decide) ?_
      refine lv_iload_n (pc := 16) hx hb dX9_sure_16 rfl (lv_at hl 3 rfl) ?_
      refine lv_ishl (pc := 17) hx hb dX9_sure_17 ?_
      refine lv_icmp_ne (pc := 18) (tgt := 25) hx hb dX9_sure_18 (by decide) (fun c1 => ?_) (fun c1 => ?_)
      · have hf := um_ie c1 hf
        clear c1
        refine lv_iload_n (pc := 25) hx hb dX9_sure_25 rfl (lv_at hl 2 rfl) ?_
        refine lv_istore_n (pc := 26) (lv' := [(2, .int v2), (0, .ref (α 0)), (1, .int v1), (3, .int v3)]) hx hb dX9_sure_26 rfl hl (by decide) rfl ?_
        clear hl
        intro ls hl
        refine lv_iinc (pc := 27) (v := v3 + (1 : Int32)) (lv' := [(3, .int (v3 + (1 : Int32))), (2, .int v2), (0, .ref (α 0)), (1, .int v1)]) hx hb dX9_sure_27 hl (k := 3) rfl rfl (by decide) rfl ?_
        clear hl
        intro ls hl
        refine lv_goto (pc := 30) (tgt := 4) hx hb dX9_sure_30 (by decide) ?_
        exact ih _ _ _ _ _ hf hW hS (lv_sub hl [2, 3, 1, 0] rfl)
      · have hf := um_it c1 hf
        clear c1
        refine lv_iload_n (pc := 21) hx hb dX9_sure_21 rfl (lv_at hl 3 rfl) ?_
        refine lv_goto (pc := 22) (tgt := 26) hx hb dX9_sure_22 (by decide) ?_
        refine lv_istore_n (pc := 26) (lv' := [(2, .int v3), (0, .ref (α 0)), (1, .int v1), (3, .int v3)]) hx hb dX9_sure_26 rfl hl (by decide) rfl ?_
        clear hl
        intro ls hl
        refine lv_iinc (pc := 27) (v := v3 + (1 : Int32)) (lv' := [(3, .int (v3 + (1 : Int32))), (2, .int v3), (0, .ref (α 0)), (1, .int v1)]) hx hb dX9_sure_27 hl (k := 3) rfl rfl (by decide) rfl ?_
        clear hl
        intro ls hl
        refine lv_goto (pc := 30) (tgt := 4) hx hb dX9_sure_30 (by decide) ?_
        exact ih _ _ _ _ _ hf hW hS (lv_sub hl [2, 3, 1, 0] rfl)
set_option maxRecDepth 100000 in
set_option maxHeartbeats 4000000 in
theorem b_X9_sure {H : Heap} {locs : List Loc} {ls : Array Slot} {σ : um_S} {r : Int32} (a1 : Int32)  (hf : f_X9_sure a1 σ = some r) (Cx : um_C p s m meth c args cX9_sure 4 (some FieldType.int) RX9 Z) (hW : um_W Z msh α σ H) (hS : va_S (um_D msh α) s.heap H locs) (hl : lv_has ls 4 [(0, .ref (α 0)), (1, .int a1)]) : um_G p l e (0) (0) s m args below meth c Z msh α σ (some (.int r)) H locs (F0 m 0 ls []) := by
  have hx := Cx.1
  have hb := Cx.2.1
  have hown := Cx.2.2.2.2.1
  have hts := Cx.2.2.2.2.2.1
  rw [f_X9_sure] at hf
  refine lv_iconst (pc := 0) (v := (-1 : Int32)) hx hb dX9_sure_0 (by decide) ?_
  refine lv_istore_n (pc := 1) (lv' := [(2, .int (-1 : Int32)), (0, .ref (α 0)), (1, .int a1)]) hx hb dX9_sure_1 rfl hl (by decide) rfl ?_
  clear hl
  intro ls hl
  refine lv_iconst (pc := 2) (v := (0 : Int32)) hx hb dX9_sure_2 (by decide) ?_
  refine lv_istore_n (pc := 3) (lv' := [(3, .int (0 : Int32)), (2, .int (-1 : Int32)), (0, .ref (α 0)), (1, .int a1)]) hx hb dX9_sure_3 rfl hl (by decide) rfl ?_
  clear hl
  intro ls hl
  obtain ⟨x1, hc2, hf⟩ := um_bi hf
  refine t_X9_sure_l4 a1 Cx ?_ um_N _ _ _ _ _ hc2 hW hS (lv_sub hl [2, 3, 1, 0] rfl)
  clear hW hS hl hc2
  intro H locs ls hW hS hl
  refine lv_iload_n (pc := 33) hx hb dX9_sure_33 rfl (lv_at hl 0 rfl) ?_
  exact um_iretR (pc := 34) Cx hW hS hf dX9_sure_34
theorem c_X9_sure {σ : um_S} {r : Int32} (a1 : Int32)  (hf : f_X9_sure a1 σ = some r) : um_M l yX9_sure cX9_sure 4 (some FieldType.int) (0) (0) Z msh α σ [.ref (α 0), .int a1] (some (.int r)) σ :=
  um_start (by decide) (Nat.le_of_ble_eq_true rfl) (fun p e s m below meth c ls Cx hW hS hl => b_X9_sure a1 hf Cx hW hS hl)
noncomputable def f_X9_mayBe (a1 : Int32) (a2 : Int32) (σ : um_S) : Option (Bool) :=
    um_let ((440 : Int32) + ((4 : Int32) * a1)) fun x1 =>
    ((f_X9_manAt a2 σ).bind fun x4 =>
    (if um_ix x1 3790 then
    (um_let (fun (x7 : Int32) =>
    (if um_ix (x1 + (1 : Int32)) 3790 then
    (um_let (fun (x10 : Int32) =>
    (if um_ix (x1 + (2 : Int32)) 3790 then
    (um_let (fun (x13 : Int32) =>
    (if x7 = 0 then
    (some false)
    else
    (if x10 = 0 then
    (some false)
    else
    (if x13 = 0 then
    (some false)
    else
    (if um_ix (x1 + (3 : Int32)) 3790 then
    (if um_ix (x4 + (3 : Int32)) 3790 then
    (if ((σ.1 1 (x1 + (3 : Int32)).toNatClampNeg) &&& ((σ.1 1 (x4 + (3 : Int32)).toNatClampNeg) ^^^ (-1 : Int32))) = 0 then
    (some true)
    else
    (some false)) else none) else none))))) fun k12 =>
    (um_let (fun (_u : Unit) =>
    (k12 (1 : Int32))) fun k16 =>
    (if (σ.1 1 (x1 + (2 : Int32)).toNatClampNeg) = 0 then
    (k16 ())
    else
    (if um_ix (x4 + (2 : Int32)) 3790 then
    (if um_ix (x1 + (2 : Int32)) 3790 then
    ((f_X9_isIn (((σ.1 1 (x4 + (2 : Int32)).toNatClampNeg) - (σ.1 1 (x1 + (2 : Int32)).toNatClampNeg)).toInt64) (-2 : Int64) (2 : Int64) σ).bind fun x20 =>
    (if (um_b x20) = 0 then
    (k12 (0 : Int32))
    else
    (k16 ()))) else none) else none)))) else none)) fun k9 =>
    (um_let (fun (_u : Unit) =>
    (k9 (1 : Int32))) fun k21 =>
    (if (σ.1 1 (x1 + (1 : Int32)).toNatClampNeg) = (6 : Int32) then
    (k21 ())
    else
    (if um_ix (x1 + (1 : Int32)) 3790 then
    (if um_ix (x4 + (1 : Int32)) 3790 then
    (if (σ.1 1 (x1 + (1 : Int32)).toNatClampNeg) = (σ.1 1 (x4 + (1 : Int32)).toNatClampNeg) then
    (k21 ())
    else
    (k9 (0 : Int32))) else none) else none)))) else none)) fun k6 =>
    (um_let (fun (_u : Unit) =>
    (k6 (1 : Int32))) fun k24 =>
    (if (σ.1 1 x1.toNatClampNeg) = (8 : Int32) then
    (k24 ())
    else
    (if um_ix x1 3790 then
    (if um_ix (x4 + (0 : Int32)) 3790 then
    (if (σ.1 1 x1.toNatClampNeg) = (σ.1 1 (x4 + (0 : Int32)).toNatClampNeg) then
    (k24 ())
    else
    (k6 (0 : Int32))) else none) else none)))) else none))
set_option maxRecDepth 100000 in
set_option maxHeartbeats 4000000 in
theorem b_X9_mayBe {H : Heap} {locs : List Loc} {ls : Array Slot} {σ : um_S} {r : Bool} (a1 : Int32) (a2 : Int32)  (hf : f_X9_mayBe a1 a2 σ = some r) (Cx : um_C p s m meth c args cX9_mayBe 8 (some FieldType.boolean) RX9 Z) (hW : um_W Z msh α σ H) (hS : va_S (um_D msh α) s.heap H locs) (hl : lv_has ls 8 [(0, .ref (α 0)), (1, .int a1), (2, .int a2)]) : um_G p l e (1) (25) s m args below meth c Z msh α σ (some (.int (um_b r))) H locs (F0 m 0 ls []) := by
  have hx := Cx.1
  have hb := Cx.2.1
  have hown := Cx.2.2.2.2.1
  have hts := Cx.2.2.2.2.2.1
  rw [f_X9_mayBe] at hf
  refine lv_sipush (pc := 0) (v := (440 : Int32)) hx hb dX9_mayBe_0 (by decide) ?_
  refine lv_iconst (pc := 3) (v := (4 : Int32)) hx hb dX9_mayBe_3 (by decide) ?_
  refine lv_iload_n (pc := 4) hx hb dX9_mayBe_4 rfl (lv_at hl 1 rfl) ?_
  refine lv_imul (pc := 5) hx hb dX9_mayBe_5 ?_
  refine lv_iadd (pc := 6) hx hb dX9_mayBe_6 ?_
  obtain ⟨x1, e2, hf⟩ := um_le hf
  refine um_top e2 ?_
  clear e2
  refine lv_istore_n (pc := 7) (lv' := [(3, .int x1), (0, .ref (α 0)), (1, .int a1), (2, .int a2)]) hx hb dX9_mayBe_7 rfl hl (by decide) rfl ?_
  clear hl
  intro ls hl
  refine lv_aload_n (pc := 8) hx hb dX9_mayBe_8 rfl (lv_at hl 1 rfl) ?_
  refine lv_iload_n (pc := 9) hx hb dX9_mayBe_9 rfl (lv_at hl 3 rfl) ?_
  obtain ⟨x4, hc3, hf⟩ := um_bi hf
  refine um_cVi (pc := 10) (As := [.int a2]) (rest := []) Cx (c_X9_manAt a2 hc3) kV_X9_manAt (Or.inl qM_X9_66) hW hS ms_0 rfl rfl hl rfl (Nat.le_of_ble_eq_true rfl) (Nat.le_of_ble_eq_true rfl) (Nat.le_of_ble_eq_true rfl) dX9_mayBe_10 (Nat.le_refl _) (Nat.le_refl _) ?_
  clear hW hS hc3
  intro H locs hW hS
  refine lv_istore (pc := 13) (lv' := [(4, .int x4), (3, .int x1), (0, .ref (α 0)), (1, .int a1), (2, .int a2)]) hx hb dX9_mayBe_13 hl (by decide) rfl ?_
  clear hl
  intro ls hl
  refine lv_aload_n (pc := 15) hx hb dX9_mayBe_15 rfl (lv_at hl 2 rfl) ?_
  refine gF_X9_7 (pc := 16) Cx hW ms_0 rfl dX9_mayBe_16 ?_
  refine lv_iload_n (pc := 19) hx hb dX9_mayBe_19 rfl (lv_at hl 1 rfl) ?_
  obtain ⟨g5, hf⟩ := um_gu hf
  refine um_iald (pc := 20) Cx hW ms_1 rfl (um_ix_in g5) dX9_mayBe_20 ?_
  refine lv_bipush (pc := 21) (v := (8 : Int32)) hx hb dX9_mayBe_21 (by decide) ?_
  obtain ⟨k6, hk6, hf⟩ := um_j1 hf
  have J6 : ∀ (x7 : Int32), k6 x7 = some r → ∀ (H : Heap) (locs : List Loc) (ls : Array Slot), um_W Z msh α σ H → va_S (um_D msh α) s.heap H locs → lv_has ls 8 [(0, .ref (α 0)), (3, .int x1), (4, .int x4)] → um_G p l e (1) (25) s m args below meth c Z msh α σ (some (.int (um_b r))) H locs (F0 m 49 ls [.int x7]) := by
    intro x7 hf H locs ls hW hS hl
    rw [hk6] at hf
    refine lv_istore (pc := 49) (lv' := [(5, .int x7), (0, .ref (α 0)), (3, .int x1), (4, .int x4)]) hx hb dX9_mayBe_49 hl (by decide) rfl ?_
    clear hl
    intro ls hl
    refine lv_aload_n (pc := 51) hx hb dX9_mayBe_51 rfl (lv_at hl 1 rfl) ?_
    refine gF_X9_7 (pc := 52) Cx hW ms_0 rfl dX9_mayBe_52 ?_
    refine lv_iload_n (pc := 55) hx hb dX9_mayBe_55 rfl (lv_at hl 2 rfl) ?_
    refine lv_iconst (pc := 56) (v := (1 : Int32)) hx hb dX9_mayBe_56 (by decide) ?_
    refine lv_iadd (pc := 57) hx hb dX9_mayBe_57 ?_
    obtain ⟨g8, hf⟩ := um_gu hf
    refine um_iald (pc := 58) Cx hW ms_1 rfl (um_ix_in g8) dX9_mayBe_58 ?_
    refine lv_bipush (pc := 59) (v := (6 : Int32)) hx hb dX9_mayBe_59 (by decide) ?_
    obtain ⟨k9, hk9, hf⟩ := um_j1 hf
    have J9 : ∀ (x10 : Int32), k9 x10 = some r → ∀ (H : Heap) (locs : List Loc) (ls : Array Slot), um_W Z msh α σ H → va_S (um_D msh α) s.heap H locs → lv_has ls 8 [(0, .ref (α 0)), (3, .int x1), (4, .int x4), (5, .int x7)] → um_G p l e (1) (25) s m args below meth c Z msh α σ (some (.int (um_b r))) H locs (F0 m 89 ls [.int x10]) := by
      intro x10 hf H locs ls hW hS hl
      rw [hk9] at hf
      refine lv_istore (pc := 89) (lv' := [(6, .int x10), (0, .ref (α 0)), (3, .int x1), (4, .int x4), (5, .int x7)]) hx hb dX9_mayBe_89 hl (by decide) rfl ?_
      clear hl
      intro ls hl
      refine lv_aload_n (pc := 91) hx hb dX9_mayBe_91 rfl (lv_at hl 1 rfl) ?_
      refine gF_X9_7 (pc := 92) Cx hW ms_0 rfl dX9_mayBe_92 ?_
      refine lv_iload_n (pc := 95) hx hb dX9_mayBe_95 rfl (lv_at hl 2 rfl) ?_
      refine lv_iconst (pc := 96) (v := (2 : Int32)) hx hb dX9_mayBe_96 (by decide) ?_
      refine lv_iadd (pc := 97) hx hb dX9_mayBe_97 ?_
      obtain ⟨g11, hf⟩ := um_gu hf
      refine um_iald (pc := 98) Cx hW ms_1 rfl (um_ix_in g11) dX9_mayBe_98 ?_
      obtain ⟨k12, hk12, hf⟩ := um_j1 hf
      have J12 : ∀ (x13 : Int32), k12 x13 = some r → ∀ (H : Heap) (locs : List Loc) (ls : Array Slot), um_W Z msh α σ H → va_S (um_D msh α) s.heap H locs → lv_has ls 8 [(0, .ref (α 0)), (3, .int x1), (4, .int x4), (5, .int x7), (6, .int x10)] → um_G p l e (1) (25) s m args below meth c Z msh α σ (some (.int (um_b r))) H locs (F0 m 138 ls [.int x13]) := by
        intro x13 hf H locs ls hW hS hl
        rw [hk12] at hf
        refine lv_istore (pc := 138) (lv' := [(7, .int x13), (0, .ref (α 0)), (3, .int x1), (4, .int x4), (5, .int x7), (6, .int x10)]) hx hb dX9_mayBe_138 hl (by decide) rfl ?_
        clear hl
        intro ls hl
        refine lv_iload (pc := 140) hx hb dX9_mayBe_140 (lv_at hl 4 rfl) ?_
        refine lv_if_eq (pc := 142) (tgt := 182) hx hb dX9_mayBe_142 (by decide) (fun c1 => ?_) (fun c1 => ?_)
        · have hf := um_it c1 hf
          clear c1
          refine lv_iconst (pc := 182) (v := (0 : Int32)) hx hb dX9_mayBe_182 (by decide) ?_
          exact um_zretR (pc := 183) Cx hW hS hf rfl dX9_mayBe_183
        · have hf := um_ie c1 hf
          clear c1
          refine lv_iload (pc := 145) hx hb dX9_mayBe_145 (lv_at hl 5 rfl) ?_
          refine lv_if_eq (pc := 147) (tgt := 182) hx hb dX9_mayBe_147 (by decide) (fun c1 => ?_) (fun c1 => ?_)
          · have hf := um_it c1 hf
            clear c1
            refine lv_iconst (pc := 182) (v := (0 : Int32)) hx hb dX9_mayBe_182 (by decide) ?_
            exact um_zretR (pc := 183) Cx hW hS hf rfl dX9_mayBe_183
          · have hf := um_ie c1 hf
            clear c1
            refine lv_iload (pc := 150) hx hb dX9_mayBe_150 (lv_at hl 0 rfl) ?_
            refine lv_if_eq (pc := 152) (tgt := 182) hx hb dX9_mayBe_152 (by decide) (fun c1 => ?_) (fun c1 => ?_)
            · have hf := um_it c1 hf
              clear c1
              refine lv_iconst (pc := 182) (v := (0 : Int32)) hx hb dX9_mayBe_182 (by decide) ?_
              exact um_zretR (pc := 183) Cx hW hS hf rfl dX9_mayBe_183
            · have hf := um_ie c1 hf
              clear c1
              refine lv_aload_n (pc := 155) hx hb dX9_mayBe_155 rfl (lv_at hl 1 rfl) ?_
              refine gF_X9_7 (pc := 156) Cx hW ms_0 rfl dX9_mayBe_156 ?_
              refine lv_iload_n (pc := 159) hx hb dX9_mayBe_159 rfl (lv_at hl 2 rfl) ?_
              refine lv_iconst (pc := 160) (v := (3 : Int32)) hx hb dX9_mayBe_160 (by decide) ?_
              refine lv_iadd (pc := 161) hx hb dX9_mayBe_161 ?_
              obtain ⟨g14, hf⟩ := um_gu hf
              refine um_iald (pc := 162) Cx hW ms_1 rfl (um_ix_in g14) dX9_mayBe_162 ?_
              refine lv_aload_n (pc := 163) hx hb dX9_mayBe_163 rfl (lv_at hl 1 rfl) ?_
              refine gF_X9_7 (pc := 164) Cx hW ms_0 rfl dX9_mayBe_164 ?_
              refine lv_iload (pc := 167) hx hb dX9_mayBe_167 (lv_at hl 3 rfl) ?_
              refine lv_iconst (pc := 169) (v := (3 : Int32)) hx hb dX9_mayBe_169 (by decide) ?_
              refine lv_iadd (pc := 170) hx hb dX9_mayBe_170 ?_
              obtain ⟨g15, hf⟩ := um_gu hf
              refine um_iald (pc := 171) Cx hW ms_1 rfl (um_ix_in g15) dX9_mayBe_171 ?_
              refine lv_iconst (pc := 172) (v := (-1 : Int32)) hx hb dX9_mayBe_172 (by decide) ?_
              refine lv_ixor (pc := 173) hx hb dX9_mayBe_173 ?_
              refine lv_iand (pc := 174) hx hb dX9_mayBe_174 ?_
              refine lv_if_ne (pc := 175) (tgt := 182) hx hb dX9_mayBe_175 (by decide) (fun c1 => ?_) (fun c1 => ?_)
              · have hf := um_ie c1 hf
                clear c1
                refine lv_iconst (pc := 182) (v := (0 : Int32)) hx hb dX9_mayBe_182 (by decide) ?_
                exact um_zretR (pc := 183) Cx hW hS hf rfl dX9_mayBe_183
              · have hf := um_it c1 hf
                clear c1
                refine lv_iconst (pc := 178) (v := (1 : Int32)) hx hb dX9_mayBe_178 (by decide) ?_
                refine lv_goto (pc := 179) (tgt := 183) hx hb dX9_mayBe_179 (by decide) ?_
                exact um_zretR (pc := 183) Cx hW hS hf rfl dX9_mayBe_183
      obtain ⟨k16, hk16, hf⟩ := um_j1 hf
      have J16 : ∀ (_u : Unit), k16 _u = some r → ∀ (H : Heap) (locs : List Loc) (ls : Array Slot), um_W Z msh α σ H → va_S (um_D msh α) s.heap H locs → lv_has ls 8 [(0, .ref (α 0)), (3, .int x1), (4, .int x4), (5, .int x7), (6, .int x10)] → um_G p l e (1) (25) s m args below meth c Z msh α σ (some (.int (um_b r))) H locs (F0 m 133 ls []) := by
        intro _u hf H locs ls hW hS hl
        rw [hk16] at hf
        refine lv_iconst (pc := 133) (v := (1 : Int32)) hx hb dX9_mayBe_133 (by decide) ?_
        refine lv_goto (pc := 134) (tgt := 138) hx hb dX9_mayBe_134 (by decide) ?_
        exact J12 (1 : Int32) hf _ _ _ hW hS hl
      refine lv_if_eq (pc := 99) (tgt := 133) hx hb dX9_mayBe_99 (by decide) (fun c1 => ?_) (fun c1 => ?_)
      · have hf := um_it c1 hf
        clear c1
        exact J16 () hf _ _ _ hW hS (lv_sub hl [1, 2, 3, 4, 0] rfl)
      · have hf := um_ie c1 hf
        clear c1
        refine lv_aload_n (pc := 102) hx hb dX9_mayBe_102 rfl (lv_at hl 1 rfl) ?_
        refine gF_X9_7 (pc := 103) Cx hW ms_0 rfl dX9_mayBe_103 ?_
        refine lv_iload (pc := 106) hx hb dX9_mayBe_106 (lv_at hl 3 rfl) ?_
        refine lv_iconst (pc := 108) (v := (2 : Int32)) hx hb dX9_mayBe_108 (by decide) ?_
        refine lv_iadd (pc := 109) hx hb dX9_mayBe_109 ?_
        obtain ⟨g17, hf⟩ := um_gu hf
        refine um_iald (pc := 110) Cx hW ms_1 rfl (um_ix_in g17) dX9_mayBe_110 ?_
        refine lv_aload_n (pc := 111) hx hb dX9_mayBe_111 rfl (lv_at hl 1 rfl) ?_
        refine gF_X9_7 (pc := 112) Cx hW ms_0 rfl dX9_mayBe_112 ?_
        refine lv_iload_n (pc := 115) hx hb dX9_mayBe_115 rfl (lv_at hl 2 rfl) ?_
        refine lv_iconst (pc := 116) (v := (2 : Int32)) hx hb dX9_mayBe_116 (by decide) ?_
        refine lv_iadd (pc := 117) hx hb dX9_mayBe_117 ?_
        obtain ⟨g18, hf⟩ := um_gu hf
        refine um_iald (pc := 118) Cx hW ms_1 rfl (um_ix_in g18) dX9_mayBe_118 ?_
        refine lv_isub (pc := 119) hx hb dX9_mayBe_119 ?_
        refine lv_i2l (pc := 120) hx hb dX9_mayBe_120 rfl ?_
        refine lv_ldc2 (pc := 121) hx hb hown (hts _ qL_X9_318) dX9_mayBe_121 ?_
        refine lv_ldc2 (pc := 124) hx hb hown (hts _ qL_X9_241) dX9_mayBe_124 ?_
        obtain ⟨x20, hc19, hf⟩ := um_bi hf
        refine um_cSi (pc := 127) (As := [.long (((σ.1 1 (x4 + (2 : Int32)).toNatClampNeg) - (σ.1 1 (x1 + (2 : Int32)).toNatClampNeg)).toInt64), .long (-2 : Int64), .long (2 : Int64)]) (rest := []) Cx (c_X9_isIn (((σ.1 1 (x4 + (2 : Int32)).toNatClampNeg) - (σ.1 1 (x1 + (2 : Int32)).toNatClampNeg)).toInt64) (-2 : Int64) (2 : Int64) hc19) kS_X9_isIn (Or.inl qM_X9_60) hW hS rfl hl rfl (Nat.le_of_ble_eq_true rfl) (Nat.le_of_ble_eq_true rfl) (Nat.le_of_ble_eq_true rfl) dX9_mayBe_127 (Nat.le_refl _) (Nat.le_refl _) ?_
        clear hW hS hc19
        intro H locs hW hS
        refine lv_if_eq (pc := 130) (tgt := 137) hx hb dX9_mayBe_130 (by decide) (fun c1 => ?_) (fun c1 => ?_)
        · have hf := um_it c1 hf
          clear c1
          refine lv_iconst (pc := 137) (v := (0 : Int32)) hx hb dX9_mayBe_137 (by decide) ?_
          exact J12 (0 : Int32) hf _ _ _ hW hS (lv_sub hl [1, 2, 3, 4, 0] rfl)
        · have hf := um_ie c1 hf
          clear c1
          exact J16 () hf _ _ _ hW hS (lv_sub hl [1, 2, 3, 4, 0] rfl)
    obtain ⟨k21, hk21, hf⟩ := um_j1 hf
    have J21 : ∀ (_u : Unit), k21 _u = some r → ∀ (H : Heap) (locs : List Loc) (ls : Array Slot), um_W Z msh α σ H → va_S (um_D msh α) s.heap H locs → lv_has ls 8 [(0, .ref (α 0)), (3, .int x1), (4, .int x4), (5, .int x7)] → um_G p l e (1) (25) s m args below meth c Z msh α σ (some (.int (um_b r))) H locs (F0 m 84 ls []) := by
      intro _u hf H locs ls hW hS hl
      rw [hk21] at hf
      refine lv_iconst (pc := 84) (v := (1 : Int32)) hx hb dX9_mayBe_84 (by decide) ?_
      refine lv_goto (pc := 85) (tgt := 89) hx hb dX9_mayBe_85 (by decide) ?_
      exact J9 (1 : Int32) hf _ _ _ hW hS hl
    refine lv_icmp_eq (pc := 61) (tgt := 84) hx hb dX9_mayBe_61 (by decide) (fun c1 => ?_) (fun c1 => ?_)
    · have hf := um_it c1 hf
      clear c1
      exact J21 () hf _ _ _ hW hS (lv_sub hl [1, 2, 3, 0] rfl)
    · have hf := um_ie c1 hf
      clear c1
      refine lv_aload_n (pc := 64) hx hb dX9_mayBe_64 rfl (lv_at hl 1 rfl) ?_
      refine gF_X9_7 (pc := 65) Cx hW ms_0 rfl dX9_mayBe_65 ?_
      refine lv_iload_n (pc := 68) hx hb dX9_mayBe_68 rfl (lv_at hl 2 rfl) ?_
      refine lv_iconst (pc := 69) (v := (1 : Int32)) hx hb dX9_mayBe_69 (by decide) ?_
      refine lv_iadd (pc := 70) hx hb dX9_mayBe_70 ?_
      obtain ⟨g22, hf⟩ := um_gu hf
      refine um_iald (pc := 71) Cx hW ms_1 rfl (um_ix_in g22) dX9_mayBe_71 ?_
      refine lv_aload_n (pc := 72) hx hb dX9_mayBe_72 rfl (lv_at hl 1 rfl) ?_
      refine gF_X9_7 (pc := 73) Cx hW ms_0 rfl dX9_mayBe_73 ?_
      refine lv_iload (pc := 76) hx hb dX9_mayBe_76 (lv_at hl 3 rfl) ?_
      refine lv_iconst (pc := 78) (v := (1 : Int32)) hx hb dX9_mayBe_78 (by decide) ?_
      refine lv_iadd (pc := 79) hx hb dX9_mayBe_79 ?_
      obtain ⟨g23, hf⟩ := um_gu hf
      refine um_iald (pc := 80) Cx hW ms_1 rfl (um_ix_in g23) dX9_mayBe_80 ?_
      refine lv_icmp_ne (pc := 81) (tgt := 88) hx hb dX9_mayBe_81 (by decide) (fun c1 => ?_) (fun c1 => ?_)
      · have hf := um_ie c1 hf
        clear c1
        refine lv_iconst (pc := 88) (v := (0 : Int32)) hx hb dX9_mayBe_88 (by decide) ?_
        exact J9 (0 : Int32) hf _ _ _ hW hS (lv_sub hl [1, 2, 3, 0] rfl)
      · have hf := um_it c1 hf
        clear c1
        exact J21 () hf _ _ _ hW hS (lv_sub hl [1, 2, 3, 0] rfl)
  obtain ⟨k24, hk24, hf⟩ := um_j1 hf
  have J24 : ∀ (_u : Unit), k24 _u = some r → ∀ (H : Heap) (locs : List Loc) (ls : Array Slot), um_W Z msh α σ H → va_S (um_D msh α) s.heap H locs → lv_has ls 8 [(0, .ref (α 0)), (3, .int x1), (4, .int x4)] → um_G p l e (1) (25) s m args below meth c Z msh α σ (some (.int (um_b r))) H locs (F0 m 44 ls []) := by
    intro _u hf H locs ls hW hS hl
    rw [hk24] at hf
    refine lv_iconst (pc := 44) (v := (1 : Int32)) hx hb dX9_mayBe_44 (by decide) ?_
    refine lv_goto (pc := 45) (tgt := 49) hx hb dX9_mayBe_45 (by decide) ?_
    exact J6 (1 : Int32) hf _ _ _ hW hS hl
  refine lv_icmp_eq (pc := 23) (tgt := 44) hx hb dX9_mayBe_23 (by decide) (fun c1 => ?_) (fun c1 => ?_)
  · have hf := um_it c1 hf
    clear c1
    exact J24 () hf _ _ _ hW hS (lv_sub hl [2, 1, 0] rfl)
  · have hf := um_ie c1 hf
    clear c1
    refine lv_aload_n (pc := 26) hx hb dX9_mayBe_26 rfl (lv_at hl 2 rfl) ?_
    refine gF_X9_7 (pc := 27) Cx hW ms_0 rfl dX9_mayBe_27 ?_
    refine lv_iload_n (pc := 30) hx hb dX9_mayBe_30 rfl (lv_at hl 1 rfl) ?_
    obtain ⟨g25, hf⟩ := um_gu hf
    refine um_iald (pc := 31) Cx hW ms_1 rfl (um_ix_in g25) dX9_mayBe_31 ?_
    refine lv_aload_n (pc := 32) hx hb dX9_mayBe_32 rfl (lv_at hl 2 rfl) ?_
    refine gF_X9_7 (pc := 33) Cx hW ms_0 rfl dX9_mayBe_33 ?_
    refine lv_iload (pc := 36) hx hb dX9_mayBe_36 (lv_at hl 0 rfl) ?_
    refine lv_iconst (pc := 38) (v := (0 : Int32)) hx hb dX9_mayBe_38 (by decide) ?_
    refine lv_iadd (pc := 39) hx hb dX9_mayBe_39 ?_
    obtain ⟨g26, hf⟩ := um_gu hf
    refine um_iald (pc := 40) Cx hW ms_1 rfl (um_ix_in g26) dX9_mayBe_40 ?_
    refine lv_icmp_ne (pc := 41) (tgt := 48) hx hb dX9_mayBe_41 (by decide) (fun c1 => ?_) (fun c1 => ?_)
    · have hf := um_ie c1 hf
      clear c1
      refine lv_iconst (pc := 48) (v := (0 : Int32)) hx hb dX9_mayBe_48 (by decide) ?_
      exact J6 (0 : Int32) hf _ _ _ hW hS (lv_sub hl [2, 1, 0] rfl)
    · have hf := um_it c1 hf
      clear c1
      exact J24 () hf _ _ _ hW hS (lv_sub hl [2, 1, 0] rfl)
theorem c_X9_mayBe {σ : um_S} {r : Bool} (a1 : Int32) (a2 : Int32)  (hf : f_X9_mayBe a1 a2 σ = some r) : um_M l yX9_mayBe cX9_mayBe 8 (some FieldType.boolean) (1) (25) Z msh α σ [.ref (α 0), .int a1, .int a2] (some (.int (um_b r))) σ :=
  um_start (by decide) (Nat.le_of_ble_eq_true rfl) (fun p e s m below meth c ls Cx hW hS hl => b_X9_mayBe a1 a2 hf Cx hW hS hl)
noncomputable def f_X9_whoMay_l4 (v1 : Int32) (σ : um_S) : Nat → Int32 → Int32 → Option (Int32)
  | 0, _, _ => none
  | n + 1, v2, v3 =>
    if (σ.1 1 2) ≤ v3 then
    (some v2)
    else
    ((f_X9_mayBe v1 v3 σ).bind fun x2 =>
    (if (um_b x2) = 0 then
    (um_let (v2 ||| (0 : Int32)) fun x3 =>
    (f_X9_whoMay_l4 v1 σ n x3 (v3 + (1 : Int32))))
    else
    (um_let (v2 ||| ((1 : Int32) <<< (v3 &&& 31))) fun x5 =>
    (f_X9_whoMay_l4 v1 σ n x5 (v3 + (1 : Int32))))))
noncomputable def f_X9_whoMay (a1 : Int32) (σ : um_S) : Option (Int32) :=
    (f_X9_whoMay_l4 a1 σ um_N (0 : Int32) (0 : Int32)).bind fun x1 =>
    (some x1)
set_option maxRecDepth 100000 in
set_option maxHeartbeats 4000000 in
theorem t_X9_whoMay_l4 {Q : State → Prop} {o2 : Int32} {σ : um_S} (v1 : Int32)  (Cx : um_C p s m meth c args cX9_whoMay 4 (some FieldType.int) RX9 Z) (hE : ∀ (H : Heap) (locs : List Loc) (ls : Array Slot), um_W Z msh α σ H → va_S (um_D msh α) s.heap H locs → lv_has ls 4 [(2, .int o2)] → W p l e { frames := 2, cells := 0, slots := 0, locals := 52 } s m args below meth c H locs 0 0 Q (F0 m 39 ls [])) : ∀ (n : Nat) (v2 : Int32) (v3 : Int32) (H : Heap) (locs : List Loc) (ls : Array Slot), f_X9_whoMay_l4 v1 σ n v2 v3 = some o2 → um_W Z msh α σ H → va_S (um_D msh α) s.heap H locs → lv_has ls 4 [(0, .ref (α 0)), (1, .int v1), (2, .int v2), (3, .int v3)] → W p l e { frames := 2, cells := 0, slots := 0, locals := 52 } s m args below meth c H locs 0 0 Q (F0 m 4 ls []) := by
  have hx := Cx.1
  have hb := Cx.2.1
  have hown := Cx.2.2.2.2.1
  have hts := Cx.2.2.2.2.2.1
  intro n
  induction n with
  | zero =>
    intro v2 v3 H locs ls hf hW hS hl
    cases hf
  | succ n ih =>
    intro v2 v3 H locs ls hf hW hS hl
    rw [f_X9_whoMay_l4] at hf
    refine lv_iload_n (pc := 4) hx hb dX9_whoMay_4 rfl (lv_at hl 3 rfl) ?_
    refine lv_aload_n (pc := 5) hx hb dX9_whoMay_5 rfl (lv_at hl 0 rfl) ?_
    refine gF_X9_7 (pc := 6) Cx hW ms_0 rfl dX9_whoMay_6 ?_
    refine lv_iconst (pc := 9) (v := (2 : Int32)) hx hb dX9_whoMay_9 (by decide) ?_
    refine um_iaj (pc := 10) (n := 3790) 2 rfl Cx hW ms_1 rfl (um_ix_in (by decide)) dX9_whoMay_10 ?_
    refine lv_icmp_ge (pc := 11) (tgt := 39) hx hb dX9_whoMay_11 (by decide) (fun c1 => ?_) (fun c1 => ?_)
    · have hf := um_it c1 hf
      clear c1
      cases hf
      exact hE _ _ _ hW hS (lv_sub hl [2] rfl)
    · have hf := um_ie c1 hf
      clear c1
      refine lv_iload_n (pc := 14) hx hb dX9_whoMay_14 rfl (lv_at hl 2 rfl) ?_
      refine lv_aload_n (pc := 15) hx hb dX9_whoMay_15 rfl (lv_at hl 0 rfl) ?_
      refine lv_iload_n (pc := 16) hx hb dX9_whoMay_16 rfl (lv_at hl 1 rfl) ?_
      refine lv_iload_n (pc := 17) hx hb dX9_whoMay_17 rfl (lv_at hl 3 rfl) ?_
      obtain ⟨x2, hc1, hf⟩ := um_bi hf
      refine um_cVi (pc := 18) (As := [.int v1, .int v3]) (rest := [.int v2]) Cx (c_X9_mayBe v1 v3 hc1) kV_X9_mayBe (Or.inl qM_X9_320) hW hS ms_0 rfl rfl hl rfl (Nat.le_of_ble_eq_true rfl) (Nat.le_of_ble_eq_true rfl) (Nat.le_of_ble_eq_true rfl) dX9_whoMay_18 (Nat.le_refl _) (Nat.le_refl _) ?_
      clear hW hS hc1
      intro H locs hW hS
      refine lv_if_eq (pc := 21) (tgt := 30) hx hb dX9_whoMay_21 (by decide) (fun c1 => ?_) (fun c1 => ?_)
      · have hf := um_it c1 hf
        clear c1
        refine lv_iconst (pc := 30) (v := (0 : Int32)) hx hb dX9_whoMay_30 (by decide) ?_
        refine lv_ior (pc := 31) hx hb dX9_whoMay_31 ?_
        obtain ⟨x3, e4, hf⟩ := um_le hf
        refine um_top e4 ?_
        clear e4
        refine lv_istore_n (pc := 32) (lv' := [(2, .int x3), (0, .ref (α 0)), (1, .int v1), (3, .int v3)]) hx hb dX9_whoMay_32 rfl hl (by decide) rfl ?_
        clear hl
        intro ls hl
        refine lv_iinc (pc := 33) (v := v3 + (1 : Int32)) (lv' := [(3, .int (v3 + (1 : Int32))), (2, .int x3), (0, .ref (α 0)), (1, .int v1)]) hx hb dX9_whoMay_33 hl (k := 3) rfl rfl (by decide) rfl ?_
        clear hl
        intro ls hl
        refine lv_goto (pc := 36) (tgt := 4) hx hb dX9_whoMay_36 (by decide) ?_
        exact ih _ _ _ _ _ hf hW hS (lv_sub hl [2, 3, 1, 0] rfl)
      · have hf := um_ie c1 hf
        clear c1
        refine lv_iconst (pc := 24) (v := (1 : Int32)) hx hb dX9_whoMay_24 (by decide) ?_
        refine lv_iload_n (pc := 25) hx hb dX9_whoMay_25 rfl (lv_at hl 3 rfl) ?_
        refine lv_ishl (pc := 26) hx hb dX9_whoMay_26 ?_
        refine lv_goto (pc := 27) (tgt := 31) hx hb dX9_whoMay_27 (by decide) ?_
        refine lv_ior (pc := 31) hx hb dX9_whoMay_31 ?_
        obtain ⟨x5, e6, hf⟩ := um_le hf
        refine um_top e6 ?_
        clear e6
        refine lv_istore_n (pc := 32) (lv' := [(2, .int x5), (0, .ref (α 0)), (1, .int v1), (3, .int v3)]) hx hb dX9_whoMay_32 rfl hl (by decide) rfl ?_
        clear hl
        intro ls hl
        refine lv_iinc (pc := 33) (v := v3 + (1 : Int32)) (lv' := [(3, .int (v3 + (1 : Int32))), (2, .int x5), (0, .ref (α 0)), (1, .int v1)]) hx hb dX9_whoMay_33 hl (k := 3) rfl rfl (by decide) rfl ?_
        clear hl
        intro ls hl
        refine lv_goto (pc := 36) (tgt := 4) hx hb dX9_whoMay_36 (by decide) ?_
        exact ih _ _ _ _ _ hf hW hS (lv_sub hl [2, 3, 1, 0] rfl)
set_option maxRecDepth 100000 in
set_option maxHeartbeats 4000000 in
theorem b_X9_whoMay {H : Heap} {locs : List Loc} {ls : Array Slot} {σ : um_S} {r : Int32} (a1 : Int32)  (hf : f_X9_whoMay a1 σ = some r) (Cx : um_C p s m meth c args cX9_whoMay 4 (some FieldType.int) RX9 Z) (hW : um_W Z msh α σ H) (hS : va_S (um_D msh α) s.heap H locs) (hl : lv_has ls 4 [(0, .ref (α 0)), (1, .int a1)]) : um_G p l e (2) (52) s m args below meth c Z msh α σ (some (.int r)) H locs (F0 m 0 ls []) := by
  have hx := Cx.1
  have hb := Cx.2.1
  have hown := Cx.2.2.2.2.1
  have hts := Cx.2.2.2.2.2.1
  rw [f_X9_whoMay] at hf
  refine lv_iconst (pc := 0) (v := (0 : Int32)) hx hb dX9_whoMay_0 (by decide) ?_
  refine lv_istore_n (pc := 1) (lv' := [(2, .int (0 : Int32)), (0, .ref (α 0)), (1, .int a1)]) hx hb dX9_whoMay_1 rfl hl (by decide) rfl ?_
  clear hl
  intro ls hl
  refine lv_iconst (pc := 2) (v := (0 : Int32)) hx hb dX9_whoMay_2 (by decide) ?_
  refine lv_istore_n (pc := 3) (lv' := [(3, .int (0 : Int32)), (2, .int (0 : Int32)), (0, .ref (α 0)), (1, .int a1)]) hx hb dX9_whoMay_3 rfl hl (by decide) rfl ?_
  clear hl
  intro ls hl
  obtain ⟨x1, hc2, hf⟩ := um_bi hf
  refine t_X9_whoMay_l4 a1 Cx ?_ um_N _ _ _ _ _ hc2 hW hS (lv_sub hl [2, 3, 1, 0] rfl)
  clear hW hS hl hc2
  intro H locs ls hW hS hl
  refine lv_iload_n (pc := 39) hx hb dX9_whoMay_39 rfl (lv_at hl 0 rfl) ?_
  exact um_iretR (pc := 40) Cx hW hS hf dX9_whoMay_40
theorem c_X9_whoMay {σ : um_S} {r : Int32} (a1 : Int32)  (hf : f_X9_whoMay a1 σ = some r) : um_M l yX9_whoMay cX9_whoMay 4 (some FieldType.int) (2) (52) Z msh α σ [.ref (α 0), .int a1] (some (.int r)) σ :=
  um_start (by decide) (Nat.le_of_ble_eq_true rfl) (fun p e s m below meth c ls Cx hW hS hl => b_X9_whoMay a1 hf Cx hW hS hl)
noncomputable def f_X9_may (a1 : Int32) (a2 : Int32) (σ : um_S) : Option (Int32) :=
    (f_X9_isLook a1 σ).bind fun x2 =>
    (if (um_b x2) = 0 then
    (some (-1000000001 : Int32))
    else
    ((f_X9_isIn (a2.toInt64) (0 : Int64) (2 : Int64) σ).bind fun x4 =>
    (if (um_b x4) = 0 then
    (some (-1000000001 : Int32))
    else
    ((f_X9_whoMay a1 σ).bind fun x6 =>
    (if a2 = 0 then
    (some x6)
    else
    (if a2 = (1 : Int32) then
    ((f_X9_sure x6 σ).bind fun x12 =>
    ((f_X9_orNone x12 σ).bind fun x14 =>
    (some x14)))
    else
    ((f_X9_partsMost x6 σ).bind fun x8 =>
    ((f_X9_orNone x8 σ).bind fun x10 =>
    (some x10)))))))))
set_option maxRecDepth 100000 in
set_option maxHeartbeats 4000000 in
theorem b_X9_may {H : Heap} {locs : List Loc} {ls : Array Slot} {σ : um_S} {r : Int32} (a1 : Int32) (a2 : Int32)  (hf : f_X9_may a1 a2 σ = some r) (Cx : um_C p s m meth c args cX9_may 4 (some FieldType.int) RX9 Z) (hW : um_W Z msh α σ H) (hS : va_S (um_D msh α) s.heap H locs) (hl : lv_has ls 4 [(0, .ref (α 0)), (1, .int a1), (2, .int a2)]) : um_G p l e (3) (75) s m args below meth c Z msh α σ (some (.int r)) H locs (F0 m 0 ls []) := by
  have hx := Cx.1
  have hb := Cx.2.1
  have hown := Cx.2.2.2.2.1
  have hts := Cx.2.2.2.2.2.1
  rw [f_X9_may] at hf
  refine lv_aload_n (pc := 0) hx hb dX9_may_0 rfl (lv_at hl 0 rfl) ?_
  refine lv_iload_n (pc := 1) hx hb dX9_may_1 rfl (lv_at hl 1 rfl) ?_
  obtain ⟨x2, hc1, hf⟩ := um_bi hf
  refine um_cVi (pc := 2) (As := [.int a1]) (rest := []) Cx (c_X9_isLook a1 hc1) kV_X9_isLook (Or.inl qM_X9_326) hW hS ms_0 rfl rfl hl rfl (Nat.le_of_ble_eq_true rfl) (Nat.le_of_ble_eq_true rfl) (Nat.le_of_ble_eq_true rfl) dX9_may_2 (Nat.le_refl _) (Nat.le_refl _) ?_
  clear hW hS hc1
  intro H locs hW hS
  refine lv_if_eq (pc := 5) (tgt := 20) hx hb dX9_may_5 (by decide) (fun c1 => ?_) (fun c1 => ?_)
  · have hf := um_it c1 hf
    clear c1
    refine lv_ldc (pc := 20) hx hb hown (hts _ qC_X9_87) dX9_may_20 ?_
    exact um_iretR (pc := 22) Cx hW hS hf dX9_may_22
  · have hf := um_ie c1 hf
    clear c1
    refine lv_iload_n (pc := 8) hx hb dX9_may_8 rfl (lv_at hl 2 rfl) ?_
    refine lv_i2l (pc := 9) hx hb dX9_may_9 rfl ?_
    refine lv_lconst (pc := 10) (v := (0 : Int64)) hx hb dX9_may_10 (by decide) ?_
    refine lv_ldc2 (pc := 11) hx hb hown (hts _ qL_X9_241) dX9_may_11 ?_
    obtain ⟨x4, hc3, hf⟩ := um_bi hf
    refine um_cSi (pc := 14) (As := [.long (a2.toInt64), .long (0 : Int64), .long (2 : Int64)]) (rest := []) Cx (c_X9_isIn (a2.toInt64) (0 : Int64) (2 : Int64) hc3) kS_X9_isIn (Or.inl qM_X9_60) hW hS rfl hl rfl (Nat.le_of_ble_eq_true rfl) (Nat.le_of_ble_eq_true rfl) (Nat.le_of_ble_eq_true rfl) dX9_may_14 (Nat.le_refl _) (Nat.le_refl _) ?_
    clear hW hS hc3
    intro H locs hW hS
    refine lv_if_ne (pc := 17) (tgt := 23) hx hb dX9_may_17 (by decide) (fun c1 => ?_) (fun c1 => ?_)
    · have hf := um_ie c1 hf
      clear c1
      refine lv_aload_n (pc := 23) hx hb dX9_may_23 rfl (lv_at hl 0 rfl) ?_
      refine lv_iload_n (pc := 24) hx hb dX9_may_24 rfl (lv_at hl 1 rfl) ?_
      obtain ⟨x6, hc5, hf⟩ := um_bi hf
      refine um_cVi (pc := 25) (As := [.int a1]) (rest := []) Cx (c_X9_whoMay a1 hc5) kV_X9_whoMay (Or.inl qM_X9_329) hW hS ms_0 rfl rfl hl rfl (Nat.le_of_ble_eq_true rfl) (Nat.le_of_ble_eq_true rfl) (Nat.le_of_ble_eq_true rfl) dX9_may_25 (Nat.le_refl _) (Nat.le_refl _) ?_
      clear hW hS hc5
      intro H locs hW hS
      refine lv_istore_n (pc := 28) (lv' := [(3, .int x6), (0, .ref (α 0)), (1, .int a1), (2, .int a2)]) hx hb dX9_may_28 rfl hl (by decide) rfl ?_
      clear hl
      intro ls hl
      refine lv_iload_n (pc := 29) hx hb dX9_may_29 rfl (lv_at hl 3 rfl) ?_
      refine lv_if_ne (pc := 30) (tgt := 37) hx hb dX9_may_30 (by decide) (fun c1 => ?_) (fun c1 => ?_)
      · have hf := um_ie c1 hf
        clear c1
        refine lv_iload_n (pc := 37) hx hb dX9_may_37 rfl (lv_at hl 3 rfl) ?_
        refine lv_iconst (pc := 38) (v := (1 : Int32)) hx hb dX9_may_38 (by decide) ?_
        refine lv_icmp_ne (pc := 39) (tgt := 50) hx hb dX9_may_39 (by decide) (fun c1 => ?_) (fun c1 => ?_)
        · have hf := um_ie c1 hf
          clear c1
          refine lv_aload_n (pc := 50) hx hb dX9_may_50 rfl (lv_at hl 1 rfl) ?_
          refine lv_iload_n (pc := 51) hx hb dX9_may_51 rfl (lv_at hl 0 rfl) ?_
          obtain ⟨x8, hc7, hf⟩ := um_bi hf
          refine um_cVi (pc := 52) (As := [.int x6]) (rest := []) Cx (c_X9_partsMost x6 hc7) kV_X9_partsMost (Or.inl qM_X9_335) hW hS ms_0 rfl rfl hl rfl (Nat.le_of_ble_eq_true rfl) (Nat.le_of_ble_eq_true rfl) (Nat.le_of_ble_eq_true rfl) dX9_may_52 (Nat.le_refl _) (Nat.le_refl _) ?_
          clear hW hS hc7
          intro H locs hW hS
          obtain ⟨x10, hc9, hf⟩ := um_bi hf
          refine um_cSi (pc := 55) (As := [.int x8]) (rest := []) Cx (c_X9_orNone x8 hc9) kS_X9_orNone (Or.inl qM_X9_119) hW hS rfl hl rfl (Nat.le_of_ble_eq_true rfl) (Nat.le_of_ble_eq_true rfl) (Nat.le_of_ble_eq_true rfl) dX9_may_55 (Nat.le_refl _) (Nat.le_refl _) ?_
          clear hW hS hc9
          intro H locs hW hS
          exact um_iretR (pc := 58) Cx hW hS hf dX9_may_58
        · have hf := um_it c1 hf
          clear c1
          refine lv_aload_n (pc := 42) hx hb dX9_may_42 rfl (lv_at hl 1 rfl) ?_
          refine lv_iload_n (pc := 43) hx hb dX9_may_43 rfl (lv_at hl 0 rfl) ?_
          obtain ⟨x12, hc11, hf⟩ := um_bi hf
          refine um_cVi (pc := 44) (As := [.int x6]) (rest := []) Cx (c_X9_sure x6 hc11) kV_X9_sure (Or.inl qM_X9_332) hW hS ms_0 rfl rfl hl rfl (Nat.le_of_ble_eq_true rfl) (Nat.le_of_ble_eq_true rfl) (Nat.le_of_ble_eq_true rfl) dX9_may_44 (Nat.le_refl _) (Nat.le_refl _) ?_
          clear hW hS hc11
          intro H locs hW hS
          refine lv_goto (pc := 47) (tgt := 55) hx hb dX9_may_47 (by decide) ?_
          obtain ⟨x14, hc13, hf⟩ := um_bi hf
          refine um_cSi (pc := 55) (As := [.int x12]) (rest := []) Cx (c_X9_orNone x12 hc13) kS_X9_orNone (Or.inl qM_X9_119) hW hS rfl hl rfl (Nat.le_of_ble_eq_true rfl) (Nat.le_of_ble_eq_true rfl) (Nat.le_of_ble_eq_true rfl) dX9_may_55 (Nat.le_refl _) (Nat.le_refl _) ?_
          clear hW hS hc13
          intro H locs hW hS
          exact um_iretR (pc := 58) Cx hW hS hf dX9_may_58
      · have hf := um_it c1 hf
        clear c1
        refine lv_iload_n (pc := 33) hx hb dX9_may_33 rfl (lv_at hl 0 rfl) ?_
        refine lv_goto (pc := 34) (tgt := 58) hx hb dX9_may_34 (by decide) ?_
        exact um_iretR (pc := 58) Cx hW hS hf dX9_may_58
    · have hf := um_it c1 hf
      clear c1
      refine lv_ldc (pc := 20) hx hb hown (hts _ qC_X9_87) dX9_may_20 ?_
      exact um_iretR (pc := 22) Cx hW hS hf dX9_may_22
theorem c_X9_may {σ : um_S} {r : Int32} (a1 : Int32) (a2 : Int32)  (hf : f_X9_may a1 a2 σ = some r) : um_M l yX9_may cX9_may 4 (some FieldType.int) (3) (75) Z msh α σ [.ref (α 0), .int a1, .int a2] (some (.int r)) σ :=
  um_start (by decide) (Nat.le_of_ble_eq_true rfl) (fun p e s m below meth c ls Cx hW hS hl => b_X9_may a1 a2 hf Cx hW hS hl)
noncomputable def f_X9_mean (a1 : Int32) (a2 : Int32) (σ : um_S) : Option (Int32) :=
    (f_X9_isIn (a1.toInt64) (0 : Int64) (3 : Int64) σ).bind fun x2 =>
    (if (um_b x2) = 0 then
    (some (-1000000001 : Int32))
    else
    ((f_X9_isIn (a2.toInt64) (0 : Int64) (7 : Int64) σ).bind fun x4 =>
    (if (um_b x4) = 0 then
    (some (-1000000001 : Int32))
    else
    ((f_X9_meanOf a1 a2 (0 : Int32) σ).bind fun x6 =>
    ((f_X9_orNone x6 σ).bind fun x8 =>
    (some x8))))))
set_option maxRecDepth 100000 in
set_option maxHeartbeats 4000000 in
theorem b_X9_mean {H : Heap} {locs : List Loc} {ls : Array Slot} {σ : um_S} {r : Int32} (a1 : Int32) (a2 : Int32)  (hf : f_X9_mean a1 a2 σ = some r) (Cx : um_C p s m meth c args cX9_mean 3 (some FieldType.int) RX9 Z) (hW : um_W Z msh α σ H) (hS : va_S (um_D msh α) s.heap H locs) (hl : lv_has ls 3 [(0, .ref (α 0)), (1, .int a1), (2, .int a2)]) : um_G p l e (1) (27) s m args below meth c Z msh α σ (some (.int r)) H locs (F0 m 0 ls []) := by
  have hx := Cx.1
  have hb := Cx.2.1
  have hown := Cx.2.2.2.2.1
  have hts := Cx.2.2.2.2.2.1
  rw [f_X9_mean] at hf
  refine lv_iload_n (pc := 0) hx hb dX9_mean_0 rfl (lv_at hl 1 rfl) ?_
  refine lv_i2l (pc := 1) hx hb dX9_mean_1 rfl ?_
  refine lv_lconst (pc := 2) (v := (0 : Int64)) hx hb dX9_mean_2 (by decide) ?_
  refine lv_ldc2 (pc := 3) hx hb hown (hts _ qL_X9_260) dX9_mean_3 ?_
  obtain ⟨x2, hc1, hf⟩ := um_bi hf
  refine um_cSi (pc := 6) (As := [.long (a1.toInt64), .long (0 : Int64), .long (3 : Int64)]) (rest := []) Cx (c_X9_isIn (a1.toInt64) (0 : Int64) (3 : Int64) hc1) kS_X9_isIn (Or.inl qM_X9_60) hW hS rfl hl rfl (Nat.le_of_ble_eq_true rfl) (Nat.le_of_ble_eq_true rfl) (Nat.le_of_ble_eq_true rfl) dX9_mean_6 (Nat.le_refl _) (Nat.le_refl _) ?_
  clear hW hS hc1
  intro H locs hW hS
  refine lv_if_eq (pc := 9) (tgt := 37) hx hb dX9_mean_9 (by decide) (fun c1 => ?_) (fun c1 => ?_)
  · have hf := um_it c1 hf
    clear c1
    refine lv_ldc (pc := 37) hx hb hown (hts _ qC_X9_87) dX9_mean_37 ?_
    exact um_iretR (pc := 39) Cx hW hS hf dX9_mean_39
  · have hf := um_ie c1 hf
    clear c1
    refine lv_iload_n (pc := 12) hx hb dX9_mean_12 rfl (lv_at hl 2 rfl) ?_
    refine lv_i2l (pc := 13) hx hb dX9_mean_13 rfl ?_
    refine lv_lconst (pc := 14) (v := (0 : Int64)) hx hb dX9_mean_14 (by decide) ?_
    refine lv_ldc2 (pc := 15) hx hb hown (hts _ qL_X9_89) dX9_mean_15 ?_
    obtain ⟨x4, hc3, hf⟩ := um_bi hf
    refine um_cSi (pc := 18) (As := [.long (a2.toInt64), .long (0 : Int64), .long (7 : Int64)]) (rest := []) Cx (c_X9_isIn (a2.toInt64) (0 : Int64) (7 : Int64) hc3) kS_X9_isIn (Or.inl qM_X9_60) hW hS rfl hl rfl (Nat.le_of_ble_eq_true rfl) (Nat.le_of_ble_eq_true rfl) (Nat.le_of_ble_eq_true rfl) dX9_mean_18 (Nat.le_refl _) (Nat.le_refl _) ?_
    clear hW hS hc3
    intro H locs hW hS
    refine lv_if_eq (pc := 21) (tgt := 37) hx hb dX9_mean_21 (by decide) (fun c1 => ?_) (fun c1 => ?_)
    · have hf := um_it c1 hf
      clear c1
      refine lv_ldc (pc := 37) hx hb hown (hts _ qC_X9_87) dX9_mean_37 ?_
      exact um_iretR (pc := 39) Cx hW hS hf dX9_mean_39
    · have hf := um_ie c1 hf
      clear c1
      refine lv_aload_n (pc := 24) hx hb dX9_mean_24 rfl (lv_at hl 0 rfl) ?_
      refine lv_iload_n (pc := 25) hx hb dX9_mean_25 rfl (lv_at hl 1 rfl) ?_
      refine lv_iload_n (pc := 26) hx hb dX9_mean_26 rfl (lv_at hl 2 rfl) ?_
      refine lv_iconst (pc := 27) (v := (0 : Int32)) hx hb dX9_mean_27 (by decide) ?_
      obtain ⟨x6, hc5, hf⟩ := um_bi hf
      refine um_cVi (pc := 28) (As := [.int a1, .int a2, .int (0 : Int32)]) (rest := []) Cx (c_X9_meanOf a1 a2 (0 : Int32) hc5) kV_X9_meanOf (Or.inl qM_X9_361) hW hS ms_0 rfl rfl hl rfl (Nat.le_of_ble_eq_true rfl) (Nat.le_of_ble_eq_true rfl) (Nat.le_of_ble_eq_true rfl) dX9_mean_28 (Nat.le_refl _) (Nat.le_refl _) ?_
      clear hW hS hc5
      intro H locs hW hS
      obtain ⟨x8, hc7, hf⟩ := um_bi hf
      refine um_cSi (pc := 31) (As := [.int x6]) (rest := []) Cx (c_X9_orNone x6 hc7) kS_X9_orNone (Or.inl qM_X9_119) hW hS rfl hl rfl (Nat.le_of_ble_eq_true rfl) (Nat.le_of_ble_eq_true rfl) (Nat.le_of_ble_eq_true rfl) dX9_mean_31 (Nat.le_refl _) (Nat.le_refl _) ?_
      clear hW hS hc7
      intro H locs hW hS
      refine lv_goto (pc := 34) (tgt := 39) hx hb dX9_mean_34 (by decide) ?_
      exact um_iretR (pc := 39) Cx hW hS hf dX9_mean_39
theorem c_X9_mean {σ : um_S} {r : Int32} (a1 : Int32) (a2 : Int32)  (hf : f_X9_mean a1 a2 σ = some r) : um_M l yX9_mean cX9_mean 3 (some FieldType.int) (1) (27) Z msh α σ [.ref (α 0), .int a1, .int a2] (some (.int r)) σ :=
  um_start (by decide) (Nat.le_of_ble_eq_true rfl) (fun p e s m below meth c ls Cx hW hS hl => b_X9_mean a1 a2 hf Cx hW hS hl)
noncomputable def f_X9_most  (σ : um_S) : Option (Int32 × um_S) :=
    um_b2 (f_X9_mostGo σ) fun x3 σ2 =>
    (some (x3, σ2))
set_option maxRecDepth 100000 in
set_option maxHeartbeats 4000000 in
theorem b_X9_most {H : Heap} {locs : List Loc} {ls : Array Slot} {σ : um_S} {σ' : um_S} {r : Int32}   (hf : f_X9_most σ = some (r, σ')) (Cx : um_C p s m meth c args cX9_most 1 (some FieldType.int) RX9 Z) (hW : um_W Z msh α σ H) (hS : va_S (um_D msh α) s.heap H locs) (hl : lv_has ls 1 [(0, .ref (α 0))]) : um_G p l e (35) (747) s m args below meth c Z msh α σ' (some (.int r)) H locs (F0 m 0 ls []) := by
  have hx := Cx.1
  have hb := Cx.2.1
  have hown := Cx.2.2.2.2.1
  have hts := Cx.2.2.2.2.2.1
  rw [f_X9_most] at hf
  refine lv_aload_n (pc := 0) hx hb dX9_most_0 rfl (lv_at hl 0 rfl) ?_
  obtain ⟨x3, σ2, hc1, hf⟩ := um_bi2 hf
  refine um_cVi (pc := 1) (As := []) (rest := []) Cx (c_X9_mostGo hc1) kV_X9_mostGo (Or.inl qM_X9_350) hW hS ms_0 rfl rfl hl rfl (Nat.le_of_ble_eq_true rfl) (Nat.le_of_ble_eq_true rfl) (Nat.le_of_ble_eq_true rfl) dX9_most_1 (Nat.le_refl _) (Nat.le_refl _) ?_
  clear hW hS hc1
  intro H locs hW hS
  exact um_iret (pc := 4) Cx hW hS hf dX9_most_4
theorem c_X9_most {σ : um_S} {σ' : um_S} {r : Int32}   (hf : f_X9_most σ = some (r, σ')) : um_M l yX9_most cX9_most 1 (some FieldType.int) (35) (747) Z msh α σ [.ref (α 0)] (some (.int r)) σ' :=
  um_start (by decide) (Nat.le_of_ble_eq_true rfl) (fun p e s m below meth c ls Cx hW hS hl => b_X9_most hf Cx hW hS hl)
noncomputable def f_X9_moves (a1 : Int32) (σ : um_S) : Option (Int32 × um_S) :=
    (f_X9_isMark a1 σ).bind fun x2 =>
    (if (um_b x2) = 0 then
    (some ((-1000000001 : Int32), σ))
    else
    ((f_X9_markAt a1 σ).bind fun x4 =>
    (if um_ix x4 3790 then
    (um_let (σ.1 1 x4.toNatClampNeg) fun x6 =>
    ((f_X9_markAt a1 σ).bind fun x9 =>
    (if um_ix (x9 + (3 : Int32)) 3790 then
    (if (σ.1 1 (x9 + (3 : Int32)).toNatClampNeg) = (1 : Int32) then
    (some ((-1000000002 : Int32), σ))
    else
    ((f_X9_isDead x6 σ).bind fun x12 =>
    (if (um_b x12) = 0 then
    ((f_X9_marksOf x6 σ).bind fun x14 =>
    (um_b2 (f_X9_dueBy x6 x14 σ) fun x17 σ16 =>
    ((f_X9_marksOf x6 σ16).bind fun x19 =>
    (um_b2 (f_X9_dueBy x6 (x19 - (1 : Int32)) σ16) fun x22 σ21 =>
    (if x17 = (-1000000005 : Int32) then
    (some ((-1000000005 : Int32), σ21))
    else
    (if x22 = (-1000000005 : Int32) then
    (some ((-1000000005 : Int32), σ21))
    else
    (some (x17 - x22, σ21))))))))
    else
    (some ((-1000000002 : Int32), σ))))) else none))) else none)))
set_option maxRecDepth 100000 in
set_option maxHeartbeats 4000000 in
theorem b_X9_moves {H : Heap} {locs : List Loc} {ls : Array Slot} {σ : um_S} {σ' : um_S} {r : Int32} (a1 : Int32)  (hf : f_X9_moves a1 σ = some (r, σ')) (Cx : um_C p s m meth c args cX9_moves 5 (some FieldType.int) RX9 Z) (hW : um_W Z msh α σ H) (hS : va_S (um_D msh α) s.heap H locs) (hl : lv_has ls 5 [(0, .ref (α 0)), (1, .int a1)]) : um_G p l e (4) (96) s m args below meth c Z msh α σ' (some (.int r)) H locs (F0 m 0 ls []) := by
  have hx := Cx.1
  have hb := Cx.2.1
  have hown := Cx.2.2.2.2.1
  have hts := Cx.2.2.2.2.2.1
  rw [f_X9_moves] at hf
  refine lv_aload_n (pc := 0) hx hb dX9_moves_0 rfl (lv_at hl 0 rfl) ?_
  refine lv_iload_n (pc := 1) hx hb dX9_moves_1 rfl (lv_at hl 1 rfl) ?_
  obtain ⟨x2, hc1, hf⟩ := um_bi hf
  refine um_cVi (pc := 2) (As := [.int a1]) (rest := []) Cx (c_X9_isMark a1 hc1) kV_X9_isMark (Or.inl qM_X9_268) hW hS ms_0 rfl rfl hl rfl (Nat.le_of_ble_eq_true rfl) (Nat.le_of_ble_eq_true rfl) (Nat.le_of_ble_eq_true rfl) dX9_moves_2 (Nat.le_refl _) (Nat.le_refl _) ?_
  clear hW hS hc1
  intro H locs hW hS
  refine lv_if_ne (pc := 5) (tgt := 11) hx hb dX9_moves_5 (by decide) (fun c1 => ?_) (fun c1 => ?_)
  · have hf := um_ie c1 hf
    clear c1
    refine lv_aload_n (pc := 11) hx hb dX9_moves_11 rfl (lv_at hl 0 rfl) ?_
    refine gF_X9_7 (pc := 12) Cx hW ms_0 rfl dX9_moves_12 ?_
    refine lv_aload_n (pc := 15) hx hb dX9_moves_15 rfl (lv_at hl 0 rfl) ?_
    refine lv_iload_n (pc := 16) hx hb dX9_moves_16 rfl (lv_at hl 1 rfl) ?_
    obtain ⟨x4, hc3, hf⟩ := um_bi hf
    refine um_cVi (pc := 17) (As := [.int a1]) (rest := [.ref (α 1)]) Cx (c_X9_markAt a1 hc3) kV_X9_markAt (Or.inl qM_X9_111) hW hS ms_0 rfl rfl hl rfl (Nat.le_of_ble_eq_true rfl) (Nat.le_of_ble_eq_true rfl) (Nat.le_of_ble_eq_true rfl) dX9_moves_17 (Nat.le_refl _) (Nat.le_refl _) ?_
    clear hW hS hc3
    intro H locs hW hS
    obtain ⟨g5, hf⟩ := um_gu hf
    refine um_iald (pc := 20) Cx hW ms_1 rfl (um_ix_in g5) dX9_moves_20 ?_
    obtain ⟨x6, e7, hf⟩ := um_le hf
    refine um_top e7 ?_
    clear e7
    refine lv_istore_n (pc := 21) (lv' := [(2, .int x6), (0, .ref (α 0)), (1, .int a1)]) hx hb dX9_moves_21 rfl hl (by decide) rfl ?_
    clear hl
    intro ls hl
    refine lv_aload_n (pc := 22) hx hb dX9_moves_22 rfl (lv_at hl 1 rfl) ?_
    refine gF_X9_7 (pc := 23) Cx hW ms_0 rfl dX9_moves_23 ?_
    refine lv_aload_n (pc := 26) hx hb dX9_moves_26 rfl (lv_at hl 1 rfl) ?_
    refine lv_iload_n (pc := 27) hx hb dX9_moves_27 rfl (lv_at hl 2 rfl) ?_
    obtain ⟨x9, hc8, hf⟩ := um_bi hf
    refine um_cVi (pc := 28) (As := [.int a1]) (rest := [.ref (α 1)]) Cx (c_X9_markAt a1 hc8) kV_X9_markAt (Or.inl qM_X9_111) hW hS ms_0 rfl rfl hl rfl (Nat.le_of_ble_eq_true rfl) (Nat.le_of_ble_eq_true rfl) (Nat.le_of_ble_eq_true rfl) dX9_moves_28 (Nat.le_refl _) (Nat.le_refl _) ?_
    clear hW hS hc8
    intro H locs hW hS
    refine lv_iconst (pc := 31) (v := (3 : Int32)) hx hb dX9_moves_31 (by decide) ?_
    refine lv_iadd (pc := 32) hx hb dX9_moves_32 ?_
    obtain ⟨g10, hf⟩ := um_gu hf
    refine um_iald (pc := 33) Cx hW ms_1 rfl (um_ix_in g10) dX9_moves_33 ?_
    refine lv_iconst (pc := 34) (v := (1 : Int32)) hx hb dX9_moves_34 (by decide) ?_
    refine lv_icmp_eq (pc := 35) (tgt := 46) hx hb dX9_moves_35 (by decide) (fun c1 => ?_) (fun c1 => ?_)
    · have hf := um_it c1 hf
      clear c1
      refine lv_ldc (pc := 46) hx hb hown (hts _ qC_X9_106) dX9_moves_46 ?_
      exact um_iret (pc := 48) Cx hW hS hf dX9_moves_48
    · have hf := um_ie c1 hf
      clear c1
      refine lv_aload_n (pc := 38) hx hb dX9_moves_38 rfl (lv_at hl 1 rfl) ?_
      refine lv_iload_n (pc := 39) hx hb dX9_moves_39 rfl (lv_at hl 0 rfl) ?_
      obtain ⟨x12, hc11, hf⟩ := um_bi hf
      refine um_cVi (pc := 40) (As := [.int x6]) (rest := []) Cx (c_X9_isDead x6 hc11) kV_X9_isDead (Or.inl qM_X9_70) hW hS ms_0 rfl rfl hl rfl (Nat.le_of_ble_eq_true rfl) (Nat.le_of_ble_eq_true rfl) (Nat.le_of_ble_eq_true rfl) dX9_moves_40 (Nat.le_refl _) (Nat.le_refl _) ?_
      clear hW hS hc11
      intro H locs hW hS
      refine lv_if_eq (pc := 43) (tgt := 49) hx hb dX9_moves_43 (by decide) (fun c1 => ?_) (fun c1 => ?_)
      · have hf := um_it c1 hf
        clear c1
        refine lv_aload_n (pc := 49) hx hb dX9_moves_49 rfl (lv_at hl 1 rfl) ?_
        refine lv_iload_n (pc := 50) hx hb dX9_moves_50 rfl (lv_at hl 0 rfl) ?_
        refine lv_aload_n (pc := 51) hx hb dX9_moves_51 rfl (lv_at hl 1 rfl) ?_
        refine lv_iload_n (pc := 52) hx hb dX9_moves_52 rfl (lv_at hl 0 rfl) ?_
        obtain ⟨x14, hc13, hf⟩ := um_bi hf
        refine um_cVi (pc := 53) (As := [.int x6]) (rest := [.int x6, .ref (α 0)]) Cx (c_X9_marksOf x6 hc13) kV_X9_marksOf (Or.inl qM_X9_116) hW hS ms_0 rfl rfl hl rfl (Nat.le_of_ble_eq_true rfl) (Nat.le_of_ble_eq_true rfl) (Nat.le_of_ble_eq_true rfl) dX9_moves_53 (Nat.le_refl _) (Nat.le_refl _) ?_
        clear hW hS hc13
        intro H locs hW hS
        obtain ⟨x17, σ16, hc15, hf⟩ := um_bi2 hf
        refine um_cVi (pc := 56) (As := [.int x6, .int x14]) (rest := []) Cx (c_X9_dueBy x6 x14 hc15) kV_X9_dueBy (Or.inl qM_X9_271) hW hS ms_0 rfl rfl hl rfl (Nat.le_of_ble_eq_true rfl) (Nat.le_of_ble_eq_true rfl) (Nat.le_of_ble_eq_true rfl) dX9_moves_56 (Nat.le_refl _) (Nat.le_refl _) ?_
        clear hW hS hc15
        intro H locs hW hS
        refine lv_istore_n (pc := 59) (lv' := [(3, .int x17), (2, .int x6), (0, .ref (α 0)), (1, .int a1)]) hx hb dX9_moves_59 rfl hl (by decide) rfl ?_
        clear hl
        intro ls hl
        refine lv_aload_n (pc := 60) hx hb dX9_moves_60 rfl (lv_at hl 2 rfl) ?_
        refine lv_iload_n (pc := 61) hx hb dX9_moves_61 rfl (lv_at hl 1 rfl) ?_
        refine lv_aload_n (pc := 62) hx hb dX9_moves_62 rfl (lv_at hl 2 rfl) ?_
        refine lv_iload_n (pc := 63) hx hb dX9_moves_63 rfl (lv_at hl 1 rfl) ?_
        obtain ⟨x19, hc18, hf⟩ := um_bi hf
        refine um_cVi (pc := 64) (As := [.int x6]) (rest := [.int x6, .ref (α 0)]) Cx (c_X9_marksOf x6 hc18) kV_X9_marksOf (Or.inl qM_X9_116) hW hS ms_0 rfl rfl hl rfl (Nat.le_of_ble_eq_true rfl) (Nat.le_of_ble_eq_true rfl) (Nat.le_of_ble_eq_true rfl) dX9_moves_64 (Nat.le_refl _) (Nat.le_refl _) ?_
        clear hW hS hc18
        intro H locs hW hS
        refine lv_iconst (pc := 67) (v := (1 : Int32)) hx hb dX9_moves_67 (by decide) ?_
        refine lv_isub (pc := 68) hx hb dX9_moves_68 ?_
        obtain ⟨x22, σ21, hc20, hf⟩ := um_bi2 hf
        refine um_cVi (pc := 69) (As := [.int x6, .int (x19 - (1 : Int32))]) (rest := []) Cx (c_X9_dueBy x6 (x19 - (1 : Int32)) hc20) kV_X9_dueBy (Or.inl qM_X9_271) hW hS ms_0 rfl rfl hl rfl (Nat.le_of_ble_eq_true rfl) (Nat.le_of_ble_eq_true rfl) (Nat.le_of_ble_eq_true rfl) dX9_moves_69 (Nat.le_refl _) (Nat.le_refl _) ?_
        clear hW hS hc20
        intro H locs hW hS
        refine lv_istore (pc := 72) (lv' := [(4, .int x22), (3, .int x17), (2, .int x6), (0, .ref (α 0)), (1, .int a1)]) hx hb dX9_moves_72 hl (by decide) rfl ?_
        clear hl
        intro ls hl
        refine lv_iload_n (pc := 74) hx hb dX9_moves_74 rfl (lv_at hl 1 rfl) ?_
        refine lv_ldc (pc := 75) hx hb hown (hts _ qC_X9_59) dX9_moves_75 ?_
        refine lv_icmp_eq (pc := 77) (tgt := 87) hx hb dX9_moves_77 (by decide) (fun c1 => ?_) (fun c1 => ?_)
        · have hf := um_it c1 hf
          clear c1
          refine lv_ldc (pc := 87) hx hb hown (hts _ qC_X9_59) dX9_moves_87 ?_
          refine lv_goto (pc := 89) (tgt := 96) hx hb dX9_moves_89 (by decide) ?_
          exact um_iret (pc := 96) Cx hW hS hf dX9_moves_96
        · have hf := um_ie c1 hf
          clear c1
          refine lv_iload (pc := 80) hx hb dX9_moves_80 (lv_at hl 0 rfl) ?_
          refine lv_ldc (pc := 82) hx hb hown (hts _ qC_X9_59) dX9_moves_82 ?_
          refine lv_icmp_ne (pc := 84) (tgt := 92) hx hb dX9_moves_84 (by decide) (fun c1 => ?_) (fun c1 => ?_)
          · have hf := um_ie c1 hf
            clear c1
            refine lv_iload_n (pc := 92) hx hb dX9_moves_92 rfl (lv_at hl 1 rfl) ?_
            refine lv_iload (pc := 93) hx hb dX9_moves_93 (lv_at hl 0 rfl) ?_
            refine lv_isub (pc := 95) hx hb dX9_moves_95 ?_
            exact um_iret (pc := 96) Cx hW hS hf dX9_moves_96
          · have hf := um_it c1 hf
            clear c1
            refine lv_ldc (pc := 87) hx hb hown (hts _ qC_X9_59) dX9_moves_87 ?_
            refine lv_goto (pc := 89) (tgt := 96) hx hb dX9_moves_89 (by decide) ?_
            exact um_iret (pc := 96) Cx hW hS hf dX9_moves_96
      · have hf := um_ie c1 hf
        clear c1
        refine lv_ldc (pc := 46) hx hb hown (hts _ qC_X9_106) dX9_moves_46 ?_
        exact um_iret (pc := 48) Cx hW hS hf dX9_moves_48
  · have hf := um_it c1 hf
    clear c1
    refine lv_ldc (pc := 8) hx hb hown (hts _ qC_X9_87) dX9_moves_8 ?_
    exact um_iret (pc := 10) Cx hW hS hf dX9_moves_10
theorem c_X9_moves {σ : um_S} {σ' : um_S} {r : Int32} (a1 : Int32)  (hf : f_X9_moves a1 σ = some (r, σ')) : um_M l yX9_moves cX9_moves 5 (some FieldType.int) (4) (96) Z msh α σ [.ref (α 0), .int a1] (some (.int r)) σ' :=
  um_start (by decide) (Nat.le_of_ble_eq_true rfl) (fun p e s m below meth c ls Cx hW hS hl => b_X9_moves a1 hf Cx hW hS hl)
noncomputable def f_X9_muster_l69 (v1 : Int32) : Nat → Int32 → um_S → Option (um_S)
  | 0, _, _ => none
  | n + 1, v4, σ =>
    if (24 : Int32) ≤ v4 then
    (some σ)
    else
    (if um_ix (((24 : Int32) * v1) + v4) 96 then
    (um_let (um_wr σ 6 (((24 : Int32) * v1) + v4).toNatClampNeg (0 : Int32)) fun σ2 =>
    (f_X9_muster_l69 v1 n (v4 + (1 : Int32)) σ2)) else none)
noncomputable def f_X9_muster (a1 : Int32) (a2 : Int32) (a3 : Int32) (σ : um_S) : Option (Int32 × um_S) :=
    (f_X9_isMuster a1 σ).bind fun x2 =>
    (if (um_b x2) = 0 then
    (some ((-1000000001 : Int32), σ))
    else
    ((f_X9_isIn (a2.toInt64) (-1 : Int64) (1 : Int64) σ).bind fun x4 =>
    (if (um_b x4) = 0 then
    (some ((-1000000001 : Int32), σ))
    else
    (um_let (fun (_u : Unit) =>
    (um_let (fun (_u : Unit) =>
    (if um_ix a1 4 then
    (um_let (um_wr σ 4 a1.toNatClampNeg a2) fun σ8 =>
    (um_let (fun (x11 : Int32) =>
    (if um_ix a1 4 then
    (um_let (um_wr σ8 5 a1.toNatClampNeg x11) fun σ13 =>
    ((f_X9_muster_l69 a1 um_N (0 : Int32) σ13).bind fun σ15 =>
    (if um_ix a1 4 then
    (some (σ15.1 5 a1.toNatClampNeg, σ15)) else none))) else none)) fun k10 =>
    (if 0 ≤ a2 then
    (k10 a3)
    else
    (k10 (0 : Int32))))) else none)) fun k6 =>
    (if a2 < 0 then
    (k6 ())
    else
    (if 0 ≤ a3 then
    (k6 ())
    else
    (some ((-1000000014 : Int32), σ)))))) fun k5 =>
    (if a2 < 0 then
    (k5 ())
    else
    (if a3 ≤ (24 : Int32) then
    (k5 ())
    else
    (some ((-1000000001 : Int32), σ))))))))
set_option maxRecDepth 100000 in
set_option maxHeartbeats 4000000 in
theorem t_X9_muster_l69 {Q : State → Prop} {σo : um_S} (v1 : Int32)  (Cx : um_C p s m meth c args cX9_muster 5 (some FieldType.int) RX9 Z) (hE : ∀ (H : Heap) (locs : List Loc) (ls : Array Slot), um_W Z msh α σo H → va_S (um_D msh α) s.heap H locs → lv_has ls 5 [(0, .ref (α 0)), (1, .int v1)] → W p l e { frames := 2, cells := 0, slots := 0, locals := 45 } s m args below meth c H locs 0 0 Q (F0 m 95 ls [])) : ∀ (n : Nat) (v4 : Int32) (σ : um_S) (H : Heap) (locs : List Loc) (ls : Array Slot), f_X9_muster_l69 v1 n v4 σ = some σo → um_W Z msh α σ H → va_S (um_D msh α) s.heap H locs → lv_has ls 5 [(0, .ref (α 0)), (1, .int v1), (4, .int v4)] → W p l e { frames := 2, cells := 0, slots := 0, locals := 45 } s m args below meth c H locs 0 0 Q (F0 m 69 ls []) := by
  have hx := Cx.1
  have hb := Cx.2.1
  have hown := Cx.2.2.2.2.1
  have hts := Cx.2.2.2.2.2.1
  intro n
  induction n with
  | zero =>
    intro v4 σ H locs ls hf hW hS hl
    cases hf
  | succ n ih =>
    intro v4 σ H locs ls hf hW hS hl
    rw [f_X9_muster_l69] at hf
    refine lv_iload (pc := 69) hx hb dX9_muster_69 (lv_at hl 2 rfl) ?_
    refine lv_bipush (pc := 71) (v := (24 : Int32)) hx hb dX9_muster_71 (by decide) ?_
    refine lv_icmp_ge (pc := 73) (tgt := 95) hx hb dX9_muster_73 (by decide) (fun c1 => ?_) (fun c1 => ?_)
    · have hf := um_it c1 hf
      clear c1
      cases hf
      exact hE _ _ _ hW hS (lv_sub hl [0, 1] rfl)
    · have hf := um_ie c1 hf
      clear c1
      refine lv_aload_n (pc := 76) hx hb dX9_muster_76 rfl (lv_at hl 0 rfl) ?_
      refine gF_X9_25 (pc := 77) Cx hW ms_0 rfl dX9_muster_77 ?_
      refine lv_bipush (pc := 80) (v := (24 : Int32)) hx hb dX9_muster_80 (by decide) ?_
      refine lv_iload_n (pc := 82) hx hb dX9_muster_82 rfl (lv_at hl 1 rfl) ?_
      refine lv_imul (pc := 83) hx hb dX9_muster_83 ?_
      refine lv_iload (pc := 84) hx hb dX9_muster_84 (lv_at hl 2 rfl) ?_
      refine lv_iadd (pc := 86) hx hb dX9_muster_86 ?_
      refine lv_iconst (pc := 87) (v := (0 : Int32)) hx hb dX9_muster_87 (by decide) ?_
      obtain ⟨g1, hf⟩ := um_gu hf
      refine um_iast (pc := 88) Cx hW hS ms_6 rfl (um_ix_in g1) dX9_muster_88 ?_
      clear hW hS
      intro H locs hW hS
      obtain ⟨σ2, e3, hf⟩ := um_le hf
      rw [← e3] at hW
      clear e3
      refine lv_iinc (pc := 89) (v := v4 + (1 : Int32)) (lv' := [(4, .int (v4 + (1 : Int32))), (0, .ref (α 0)), (1, .int v1)]) hx hb dX9_muster_89 hl (k := 2) rfl rfl (by decide) rfl ?_
      clear hl
      intro ls hl
      refine lv_goto (pc := 92) (tgt := 69) hx hb dX9_muster_92 (by decide) ?_
      exact ih _ _ _ _ _ hf hW hS (lv_sub hl [1, 2, 0] rfl)
set_option maxRecDepth 100000 in
set_option maxHeartbeats 4000000 in
theorem b_X9_muster {H : Heap} {locs : List Loc} {ls : Array Slot} {σ : um_S} {σ' : um_S} {r : Int32} (a1 : Int32) (a2 : Int32) (a3 : Int32)  (hf : f_X9_muster a1 a2 a3 σ = some (r, σ')) (Cx : um_C p s m meth c args cX9_muster 5 (some FieldType.int) RX9 Z) (hW : um_W Z msh α σ H) (hS : va_S (um_D msh α) s.heap H locs) (hl : lv_has ls 5 [(0, .ref (α 0)), (1, .int a1), (2, .int a2), (3, .int a3)]) : um_G p l e (2) (45) s m args below meth c Z msh α σ' (some (.int r)) H locs (F0 m 0 ls []) := by
  have hx := Cx.1
  have hb := Cx.2.1
  have hown := Cx.2.2.2.2.1
  have hts := Cx.2.2.2.2.2.1
  rw [f_X9_muster] at hf
  refine lv_iload_n (pc := 0) hx hb dX9_muster_0 rfl (lv_at hl 1 rfl) ?_
  obtain ⟨x2, hc1, hf⟩ := um_bi hf
  refine um_cSi (pc := 1) (As := [.int a1]) (rest := []) Cx (c_X9_isMuster a1 hc1) kS_X9_isMuster (Or.inl qM_X9_374) hW hS rfl hl rfl (Nat.le_of_ble_eq_true rfl) (Nat.le_of_ble_eq_true rfl) (Nat.le_of_ble_eq_true rfl) dX9_muster_1 (Nat.le_refl _) (Nat.le_refl _) ?_
  clear hW hS hc1
  intro H locs hW hS
  refine lv_if_eq (pc := 4) (tgt := 29) hx hb dX9_muster_4 (by decide) (fun c1 => ?_) (fun c1 => ?_)
  · have hf := um_it c1 hf
    clear c1
    refine lv_ldc (pc := 29) hx hb hown (hts _ qC_X9_87) dX9_muster_29 ?_
    exact um_iret (pc := 31) Cx hW hS hf dX9_muster_31
  · have hf := um_ie c1 hf
    clear c1
    refine lv_iload_n (pc := 7) hx hb dX9_muster_7 rfl (lv_at hl 2 rfl) ?_
    refine lv_i2l (pc := 8) hx hb dX9_muster_8 rfl ?_
    refine lv_ldc2 (pc := 9) hx hb hown (hts _ qL_X9_377) dX9_muster_9 ?_
    refine lv_lconst (pc := 12) (v := (1 : Int64)) hx hb dX9_muster_12 (by decide) ?_
    obtain ⟨x4, hc3, hf⟩ := um_bi hf
    refine um_cSi (pc := 13) (As := [.long (a2.toInt64), .long (-1 : Int64), .long (1 : Int64)]) (rest := []) Cx (c_X9_isIn (a2.toInt64) (-1 : Int64) (1 : Int64) hc3) kS_X9_isIn (Or.inl qM_X9_60) hW hS rfl hl rfl (Nat.le_of_ble_eq_true rfl) (Nat.le_of_ble_eq_true rfl) (Nat.le_of_ble_eq_true rfl) dX9_muster_13 (Nat.le_refl _) (Nat.le_refl _) ?_
    clear hW hS hc3
    intro H locs hW hS
    refine lv_if_eq (pc := 16) (tgt := 29) hx hb dX9_muster_16 (by decide) (fun c1 => ?_) (fun c1 => ?_)
    · have hf := um_it c1 hf
      clear c1
      refine lv_ldc (pc := 29) hx hb hown (hts _ qC_X9_87) dX9_muster_29 ?_
      exact um_iret (pc := 31) Cx hW hS hf dX9_muster_31
    · have hf := um_ie c1 hf
      clear c1
      refine lv_iload_n (pc := 19) hx hb dX9_muster_19 rfl (lv_at hl 2 rfl) ?_
      obtain ⟨k5, hk5, hf⟩ := um_j1 hf
      have J5 : ∀ (_u : Unit), k5 _u = some (r, σ') → ∀ (H : Heap) (locs : List Loc) (ls : Array Slot), um_W Z msh α σ H → va_S (um_D msh α) s.heap H locs → lv_has ls 5 [(0, .ref (α 0)), (1, .int a1), (2, .int a2), (3, .int a3)] → um_G p l e (2) (45) s m args below meth c Z msh α σ' (some (.int r)) H locs (F0 m 32 ls []) := by
        intro _u hf H locs ls hW hS hl
        rw [hk5] at hf
        refine lv_iload_n (pc := 32) hx hb dX9_muster_32 rfl (lv_at hl 2 rfl) ?_
        obtain ⟨k6, hk6, hf⟩ := um_j1 hf
        have J6 : ∀ (_u : Unit), k6 _u = some (r, σ') → ∀ (H : Heap) (locs : List Loc) (ls : Array Slot), um_W Z msh α σ H → va_S (um_D msh α) s.heap H locs → lv_has ls 5 [(0, .ref (α 0)), (1, .int a1), (2, .int a2), (3, .int a3)] → um_G p l e (2) (45) s m args below meth c Z msh α σ' (some (.int r)) H locs (F0 m 44 ls []) := by
          intro _u hf H locs ls hW hS hl
          rw [hk6] at hf
          refine lv_aload_n (pc := 44) hx hb dX9_muster_44 rfl (lv_at hl 0 rfl) ?_
          refine gF_X9_19 (pc := 45) Cx hW ms_0 rfl dX9_muster_45 ?_
          refine lv_iload_n (pc := 48) hx hb dX9_muster_48 rfl (lv_at hl 1 rfl) ?_
          refine lv_iload_n (pc := 49) hx hb dX9_muster_49 rfl (lv_at hl 2 rfl) ?_
          obtain ⟨g7, hf⟩ := um_gu hf
          refine um_iast (pc := 50) Cx hW hS ms_4 rfl (um_ix_in g7) dX9_muster_50 ?_
          clear hW hS
          intro H locs hW hS
          obtain ⟨σ8, e9, hf⟩ := um_le hf
          rw [← e9] at hW
          clear e9
          refine lv_aload_n (pc := 51) hx hb dX9_muster_51 rfl (lv_at hl 0 rfl) ?_
          refine gF_X9_22 (pc := 52) Cx hW ms_0 rfl dX9_muster_52 ?_
          refine lv_iload_n (pc := 55) hx hb dX9_muster_55 rfl (lv_at hl 1 rfl) ?_
          refine lv_iload_n (pc := 56) hx hb dX9_muster_56 rfl (lv_at hl 2 rfl) ?_
          obtain ⟨k10, hk10, hf⟩ := um_j1 hf
          have J10 : ∀ (x11 : Int32), k10 x11 = some (r, σ') → ∀ (H : Heap) (locs : List Loc) (ls : Array Slot), um_W Z msh α σ8 H → va_S (um_D msh α) s.heap H locs → lv_has ls 5 [(0, .ref (α 0)), (1, .int a1)] → um_G p l e (2) (45) s m args below meth c Z msh α σ' (some (.int r)) H locs (F0 m 65 ls [.int x11, .int a1, .ref (α 5)]) := by
            intro x11 hf H locs ls hW hS hl
            rw [hk10] at hf
            obtain ⟨g12, hf⟩ := um_gu hf
            refine um_iast (pc := 65) Cx hW hS ms_5 rfl (um_ix_in g12) dX9_muster_65 ?_
            clear hW hS
            intro H locs hW hS
            obtain ⟨σ13, e14, hf⟩ := um_le hf
            rw [← e14] at hW
            clear e14
            refine lv_iconst (pc := 66) (v := (0 : Int32)) hx hb dX9_muster_66 (by decide) ?_
            refine lv_istore (pc := 67) (lv' := [(4, .int (0 : Int32)), (0, .ref (α 0)), (1, .int a1)]) hx hb dX9_muster_67 hl (by decide) rfl ?_
            clear hl
            intro ls hl
            obtain ⟨σ15, hc16, hf⟩ := um_bi hf
            refine t_X9_muster_l69 a1 Cx ?_ um_N _ _ _ _ _ hc16 hW hS (lv_sub hl [1, 2, 0] rfl)
            clear hW hS hl hc16
            intro H locs ls hW hS hl
            refine lv_aload_n (pc := 95) hx hb dX9_muster_95 rfl (lv_at hl 0 rfl) ?_
            refine gF_X9_22 (pc := 96) Cx hW ms_0 rfl dX9_muster_96 ?_
            refine lv_iload_n (pc := 99) hx hb dX9_muster_99 rfl (lv_at hl 1 rfl) ?_
            obtain ⟨g17, hf⟩ := um_gu hf
            refine um_iald (pc := 100) Cx hW ms_5 rfl (um_ix_in g17) dX9_muster_100 ?_
            exact um_iret (pc := 101) Cx hW hS hf dX9_muster_101
          refine lv_if_ge (pc := 57) (tgt := 64) hx hb dX9_muster_57 (by decide) (fun c1 => ?_) (fun c1 => ?_)
          · have hf := um_it c1 hf
            clear c1
            refine lv_iload_n (pc := 64) hx hb dX9_muster_64 rfl (lv_at hl 3 rfl) ?_
            exact J10 a3 hf _ _ _ hW hS (lv_sub hl [0, 1] rfl)
          · have hf := um_ie c1 hf
            clear c1
            refine lv_iconst (pc := 60) (v := (0 : Int32)) hx hb dX9_muster_60 (by decide) ?_
            refine lv_goto (pc := 61) (tgt := 65) hx hb dX9_muster_61 (by decide) ?_
            exact J10 (0 : Int32) hf _ _ _ hW hS (lv_sub hl [0, 1] rfl)
        refine lv_if_lt (pc := 33) (tgt := 44) hx hb dX9_muster_33 (by decide) (fun c1 => ?_) (fun c1 => ?_)
        · have hf := um_it c1 hf
          clear c1
          exact J6 () hf _ _ _ hW hS hl
        · have hf := um_ie c1 hf
          clear c1
          refine lv_iload_n (pc := 36) hx hb dX9_muster_36 rfl (lv_at hl 3 rfl) ?_
          refine lv_if_ge (pc := 37) (tgt := 44) hx hb dX9_muster_37 (by decide) (fun c1 => ?_) (fun c1 => ?_)
          · have hf := um_it c1 hf
            clear c1
            exact J6 () hf _ _ _ hW hS hl
          · have hf := um_ie c1 hf
            clear c1
            refine lv_ldcw (pc := 40) hx hb hown (hts _ qC_X9_379) dX9_muster_40 ?_
            exact um_iret (pc := 43) Cx hW hS hf dX9_muster_43
      refine lv_if_lt (pc := 20) (tgt := 32) hx hb dX9_muster_20 (by decide) (fun c1 => ?_) (fun c1 => ?_)
      · have hf := um_it c1 hf
        clear c1
        exact J5 () hf _ _ _ hW hS hl
      · have hf := um_ie c1 hf
        clear c1
        refine lv_iload_n (pc := 23) hx hb dX9_muster_23 rfl (lv_at hl 3 rfl) ?_
        refine lv_bipush (pc := 24) (v := (24 : Int32)) hx hb dX9_muster_24 (by decide) ?_
        refine lv_icmp_le (pc := 26) (tgt := 32) hx hb dX9_muster_26 (by decide) (fun c1 => ?_) (fun c1 => ?_)
        · have hf := um_it c1 hf
          clear c1
          exact J5 () hf _ _ _ hW hS hl
        · have hf := um_ie c1 hf
          clear c1
          refine lv_ldc (pc := 29) hx hb hown (hts _ qC_X9_87) dX9_muster_29 ?_
          exact um_iret (pc := 31) Cx hW hS hf dX9_muster_31
theorem c_X9_muster {σ : um_S} {σ' : um_S} {r : Int32} (a1 : Int32) (a2 : Int32) (a3 : Int32)  (hf : f_X9_muster a1 a2 a3 σ = some (r, σ')) : um_M l yX9_muster cX9_muster 5 (some FieldType.int) (2) (45) Z msh α σ [.ref (α 0), .int a1, .int a2, .int a3] (some (.int r)) σ' :=
  um_start (by decide) (Nat.le_of_ble_eq_true rfl) (fun p e s m below meth c ls Cx hW hS hl => b_X9_muster a1 a2 a3 hf Cx hW hS hl)
noncomputable def f_X9_of (a1 : Int32) (a2 : Int32) (σ : um_S) : Option (Int32) :=
    (f_X9_isText a1 σ).bind fun x2 =>
    (if (um_b x2) = 0 then
    (some (-1000000001 : Int32))
    else
    ((f_X9_isIn (a2.toInt64) (0 : Int64) (2 : Int64) σ).bind fun x4 =>
    (if (um_b x4) = 0 then
    (some (-1000000001 : Int32))
    else
    ((f_X9_textAt a1 σ).bind fun x6 =>
    (if um_ix (x6 + a2) 3790 then
    (some (σ.1 1 (x6 + a2).toNatClampNeg)) else none)))))
set_option maxRecDepth 100000 in
set_option maxHeartbeats 4000000 in
theorem b_X9_of {H : Heap} {locs : List Loc} {ls : Array Slot} {σ : um_S} {r : Int32} (a1 : Int32) (a2 : Int32)  (hf : f_X9_of a1 a2 σ = some r) (Cx : um_C p s m meth c args cX9_of 3 (some FieldType.int) RX9 Z) (hW : um_W Z msh α σ H) (hS : va_S (um_D msh α) s.heap H locs) (hl : lv_has ls 3 [(0, .ref (α 0)), (1, .int a1), (2, .int a2)]) : um_G p l e (2) (46) s m args below meth c Z msh α σ (some (.int r)) H locs (F0 m 0 ls []) := by
  have hx := Cx.1
  have hb := Cx.2.1
  have hown := Cx.2.2.2.2.1
  have hts := Cx.2.2.2.2.2.1
  rw [f_X9_of] at hf
  refine lv_aload_n (pc := 0) hx hb dX9_of_0 rfl (lv_at hl 0 rfl) ?_
  refine lv_iload_n (pc := 1) hx hb dX9_of_1 rfl (lv_at hl 1 rfl) ?_
  obtain ⟨x2, hc1, hf⟩ := um_bi hf
  refine um_cVi (pc := 2) (As := [.int a1]) (rest := []) Cx (c_X9_isText a1 hc1) kV_X9_isText (Or.inl qM_X9_238) hW hS ms_0 rfl rfl hl rfl (Nat.le_of_ble_eq_true rfl) (Nat.le_of_ble_eq_true rfl) (Nat.le_of_ble_eq_true rfl) dX9_of_2 (Nat.le_refl _) (Nat.le_refl _) ?_
  clear hW hS hc1
  intro H locs hW hS
  refine lv_if_eq (pc := 5) (tgt := 35) hx hb dX9_of_5 (by decide) (fun c1 => ?_) (fun c1 => ?_)
  · have hf := um_it c1 hf
    clear c1
    refine lv_ldc (pc := 35) hx hb hown (hts _ qC_X9_87) dX9_of_35 ?_
    exact um_iretR (pc := 37) Cx hW hS hf dX9_of_37
  · have hf := um_ie c1 hf
    clear c1
    refine lv_iload_n (pc := 8) hx hb dX9_of_8 rfl (lv_at hl 2 rfl) ?_
    refine lv_i2l (pc := 9) hx hb dX9_of_9 rfl ?_
    refine lv_lconst (pc := 10) (v := (0 : Int64)) hx hb dX9_of_10 (by decide) ?_
    refine lv_ldc2 (pc := 11) hx hb hown (hts _ qL_X9_241) dX9_of_11 ?_
    obtain ⟨x4, hc3, hf⟩ := um_bi hf
    refine um_cSi (pc := 14) (As := [.long (a2.toInt64), .long (0 : Int64), .long (2 : Int64)]) (rest := []) Cx (c_X9_isIn (a2.toInt64) (0 : Int64) (2 : Int64) hc3) kS_X9_isIn (Or.inl qM_X9_60) hW hS rfl hl rfl (Nat.le_of_ble_eq_true rfl) (Nat.le_of_ble_eq_true rfl) (Nat.le_of_ble_eq_true rfl) dX9_of_14 (Nat.le_refl _) (Nat.le_refl _) ?_
    clear hW hS hc3
    intro H locs hW hS
    refine lv_if_eq (pc := 17) (tgt := 35) hx hb dX9_of_17 (by decide) (fun c1 => ?_) (fun c1 => ?_)
    · have hf := um_it c1 hf
      clear c1
      refine lv_ldc (pc := 35) hx hb hown (hts _ qC_X9_87) dX9_of_35 ?_
      exact um_iretR (pc := 37) Cx hW hS hf dX9_of_37
    · have hf := um_ie c1 hf
      clear c1
      refine lv_aload_n (pc := 20) hx hb dX9_of_20 rfl (lv_at hl 0 rfl) ?_
      refine gF_X9_7 (pc := 21) Cx hW ms_0 rfl dX9_of_21 ?_
      refine lv_aload_n (pc := 24) hx hb dX9_of_24 rfl (lv_at hl 0 rfl) ?_
      refine lv_iload_n (pc := 25) hx hb dX9_of_25 rfl (lv_at hl 1 rfl) ?_
      obtain ⟨x6, hc5, hf⟩ := um_bi hf
      refine um_cVi (pc := 26) (As := [.int a1]) (rest := [.ref (α 1)]) Cx (c_X9_textAt a1 hc5) kV_X9_textAt (Or.inl qM_X9_228) hW hS ms_0 rfl rfl hl rfl (Nat.le_of_ble_eq_true rfl) (Nat.le_of_ble_eq_true rfl) (Nat.le_of_ble_eq_true rfl) dX9_of_26 (Nat.le_refl _) (Nat.le_refl _) ?_
      clear hW hS hc5
      intro H locs hW hS
      refine lv_iload_n (pc := 29) hx hb dX9_of_29 rfl (lv_at hl 2 rfl) ?_
      refine lv_iadd (pc := 30) hx hb dX9_of_30 ?_
      obtain ⟨g7, hf⟩ := um_gu hf
      refine um_iald (pc := 31) Cx hW ms_1 rfl (um_ix_in g7) dX9_of_31 ?_
      refine lv_goto (pc := 32) (tgt := 37) hx hb dX9_of_32 (by decide) ?_
      exact um_iretR (pc := 37) Cx hW hS hf dX9_of_37
theorem c_X9_of {σ : um_S} {r : Int32} (a1 : Int32) (a2 : Int32)  (hf : f_X9_of a1 a2 σ = some r) : um_M l yX9_of cX9_of 3 (some FieldType.int) (2) (46) Z msh α σ [.ref (α 0), .int a1, .int a2] (some (.int r)) σ :=
  um_start (by decide) (Nat.le_of_ble_eq_true rfl) (fun p e s m below meth c ls Cx hW hS hl => b_X9_of a1 a2 hf Cx hW hS hl)
noncomputable def f_X9_ruleFor (a1 : Int32) (a2 : Int32) (σ : um_S) : Option (Int32 × um_S) :=
    (f_X9_manAt a2 σ).bind fun x2 =>
    (if um_ix (x2 + (10 : Int32)) 3790 then
    ((f_X9_marksOf a2 σ).bind fun x5 =>
    (if um_ix (x2 + (12 : Int32)) 3790 then
    (um_b2 (f_X9_ruleOf a1 ((σ.1 1 0) - (σ.1 1 (x2 + (10 : Int32)).toNatClampNeg)) x5 (σ.1 1 (x2 + (12 : Int32)).toNatClampNeg) σ) fun x9 σ8 =>
    (some (x9, σ8))) else none)) else none)
set_option maxRecDepth 100000 in
set_option maxHeartbeats 4000000 in
theorem b_X9_ruleFor {H : Heap} {locs : List Loc} {ls : Array Slot} {σ : um_S} {σ' : um_S} {r : Int32} (a1 : Int32) (a2 : Int32)  (hf : f_X9_ruleFor a1 a2 σ = some (r, σ')) (Cx : um_C p s m meth c args cX9_ruleFor 4 (some FieldType.int) RX9 Z) (hW : um_W Z msh α σ H) (hS : va_S (um_D msh α) s.heap H locs) (hl : lv_has ls 4 [(0, .ref (α 0)), (1, .int a1), (2, .int a2)]) : um_G p l e (3) (72) s m args below meth c Z msh α σ' (some (.int r)) H locs (F0 m 0 ls []) := by
  have hx := Cx.1
  have hb := Cx.2.1
  have hown := Cx.2.2.2.2.1
  have hts := Cx.2.2.2.2.2.1
  rw [f_X9_ruleFor] at hf
  refine lv_aload_n (pc := 0) hx hb dX9_ruleFor_0 rfl (lv_at hl 0 rfl) ?_
  refine lv_iload_n (pc := 1) hx hb dX9_ruleFor_1 rfl (lv_at hl 2 rfl) ?_
  obtain ⟨x2, hc1, hf⟩ := um_bi hf
  refine um_cVi (pc := 2) (As := [.int a2]) (rest := []) Cx (c_X9_manAt a2 hc1) kV_X9_manAt (Or.inl qM_X9_66) hW hS ms_0 rfl rfl hl rfl (Nat.le_of_ble_eq_true rfl) (Nat.le_of_ble_eq_true rfl) (Nat.le_of_ble_eq_true rfl) dX9_ruleFor_2 (Nat.le_refl _) (Nat.le_refl _) ?_
  clear hW hS hc1
  intro H locs hW hS
  refine lv_istore_n (pc := 5) (lv' := [(3, .int x2), (0, .ref (α 0)), (1, .int a1), (2, .int a2)]) hx hb dX9_ruleFor_5 rfl hl (by decide) rfl ?_
  clear hl
  intro ls hl
  refine lv_aload_n (pc := 6) hx hb dX9_ruleFor_6 rfl (lv_at hl 1 rfl) ?_
  refine lv_iload_n (pc := 7) hx hb dX9_ruleFor_7 rfl (lv_at hl 2 rfl) ?_
  refine lv_aload_n (pc := 8) hx hb dX9_ruleFor_8 rfl (lv_at hl 1 rfl) ?_
  refine gF_X9_7 (pc := 9) Cx hW ms_0 rfl dX9_ruleFor_9 ?_
  refine lv_iconst (pc := 12) (v := (0 : Int32)) hx hb dX9_ruleFor_12 (by decide) ?_
  refine um_iaj (pc := 13) (n := 3790) 0 rfl Cx hW ms_1 rfl (um_ix_in (by decide)) dX9_ruleFor_13 ?_
  refine lv_aload_n (pc := 14) hx hb dX9_ruleFor_14 rfl (lv_at hl 1 rfl) ?_
  refine gF_X9_7 (pc := 15) Cx hW ms_0 rfl dX9_ruleFor_15 ?_
  refine lv_iload_n (pc := 18) hx hb dX9_ruleFor_18 rfl (lv_at hl 0 rfl) ?_
  refine lv_bipush (pc := 19) (v := (10 : Int32)) hx hb dX9_ruleFor_19 (by decide) ?_
  refine lv_iadd (pc := 21) hx hb dX9_ruleFor_21 ?_
  obtain ⟨g3, hf⟩ := um_gu hf
  refine um_iald (pc := 22) Cx hW ms_1 rfl (um_ix_in g3) dX9_ruleFor_22 ?_
  refine lv_isub (pc := 23) hx hb dX9_ruleFor_23 ?_
  refine lv_aload_n (pc := 24) hx hb dX9_ruleFor_24 rfl (lv_at hl 1 rfl) ?_
  refine lv_iload_n (pc := 25) hx hb dX9_ruleFor_25 rfl (lv_at hl 3 rfl) ?_
  obtain ⟨x5, hc4, hf⟩ := um_bi hf
  refine um_cVi (pc := 26) (As := [.int a2]) (rest := [.int ((σ.1 1 0) - (σ.1 1 (x2 + (10 : Int32)).toNatClampNeg)), .int a1, .ref (α 0)]) Cx (c_X9_marksOf a2 hc4) kV_X9_marksOf (Or.inl qM_X9_116) hW hS ms_0 rfl rfl hl rfl (Nat.le_of_ble_eq_true rfl) (Nat.le_of_ble_eq_true rfl) (Nat.le_of_ble_eq_true rfl) dX9_ruleFor_26 (Nat.le_refl _) (Nat.le_refl _) ?_
  clear hW hS hc4
  intro H locs hW hS
  refine lv_aload_n (pc := 29) hx hb dX9_ruleFor_29 rfl (lv_at hl 1 rfl) ?_
  refine gF_X9_7 (pc := 30) Cx hW ms_0 rfl dX9_ruleFor_30 ?_
  refine lv_iload_n (pc := 33) hx hb dX9_ruleFor_33 rfl (lv_at hl 0 rfl) ?_
  refine lv_bipush (pc := 34) (v := (12 : Int32)) hx hb dX9_ruleFor_34 (by decide) ?_
  refine lv_iadd (pc := 36) hx hb dX9_ruleFor_36 ?_
  obtain ⟨g6, hf⟩ := um_gu hf
  refine um_iald (pc := 37) Cx hW ms_1 rfl (um_ix_in g6) dX9_ruleFor_37 ?_
  obtain ⟨x9, σ8, hc7, hf⟩ := um_bi2 hf
  refine um_cVi (pc := 38) (As := [.int a1, .int ((σ.1 1 0) - (σ.1 1 (x2 + (10 : Int32)).toNatClampNeg)), .int x5, .int (σ.1 1 (x2 + (12 : Int32)).toNatClampNeg)]) (rest := []) Cx (c_X9_ruleOf a1 ((σ.1 1 0) - (σ.1 1 (x2 + (10 : Int32)).toNatClampNeg)) x5 (σ.1 1 (x2 + (12 : Int32)).toNatClampNeg) hc7) kV_X9_ruleOf (Or.inl qM_X9_256) hW hS ms_0 rfl rfl hl rfl (Nat.le_of_ble_eq_true rfl) (Nat.le_of_ble_eq_true rfl) (Nat.le_of_ble_eq_true rfl) dX9_ruleFor_38 (Nat.le_refl _) (Nat.le_refl _) ?_
  clear hW hS hc7
  intro H locs hW hS
  exact um_iret (pc := 41) Cx hW hS hf dX9_ruleFor_41
theorem c_X9_ruleFor {σ : um_S} {σ' : um_S} {r : Int32} (a1 : Int32) (a2 : Int32)  (hf : f_X9_ruleFor a1 a2 σ = some (r, σ')) : um_M l yX9_ruleFor cX9_ruleFor 4 (some FieldType.int) (3) (72) Z msh α σ [.ref (α 0), .int a1, .int a2] (some (.int r)) σ' :=
  um_start (by decide) (Nat.le_of_ble_eq_true rfl) (fun p e s m below meth c ls Cx hW hS hl => b_X9_ruleFor a1 a2 hf Cx hW hS hl)
noncomputable def f_X9_pardon (a1 : Int32) (a2 : Int32) (σ : um_S) : Option (Int32 × um_S) :=
    (f_X9_isMan a1 σ).bind fun x2 =>
    (if (um_b x2) = 0 then
    (some ((-1000000001 : Int32), σ))
    else
    ((f_X9_isIn (a2.toInt64) (0 : Int64) (1 : Int64) σ).bind fun x4 =>
    (if (um_b x4) = 0 then
    (some ((-1000000001 : Int32), σ))
    else
    ((f_X9_isHeld a1 σ).bind fun x6 =>
    (if (um_b x6) = 0 then
    (some ((-1000000012 : Int32), σ))
    else
    ((f_X9_isOut a1 σ).bind fun x8 =>
    (if (um_b x8) = 0 then
    (um_b2 (f_X9_ruleFor (1 : Int32) a1 σ) fun x11 σ10 =>
    (if x11 = 0 then
    (some ((-1000000002 : Int32), σ10))
    else
    ((f_X9_becomesOf a1 (5 : Int32) a2 σ10).bind fun σ13 =>
    (some ((1 : Int32), σ13)))))
    else
    (some ((-1000000002 : Int32), σ)))))))))
set_option maxRecDepth 100000 in
set_option maxHeartbeats 4000000 in
theorem b_X9_pardon {H : Heap} {locs : List Loc} {ls : Array Slot} {σ : um_S} {σ' : um_S} {r : Int32} (a1 : Int32) (a2 : Int32)  (hf : f_X9_pardon a1 a2 σ = some (r, σ')) (Cx : um_C p s m meth c args cX9_pardon 3 (some FieldType.int) RX9 Z) (hW : um_W Z msh α σ H) (hS : va_S (um_D msh α) s.heap H locs) (hl : lv_has ls 3 [(0, .ref (α 0)), (1, .int a1), (2, .int a2)]) : um_G p l e (4) (95) s m args below meth c Z msh α σ' (some (.int r)) H locs (F0 m 0 ls []) := by
  have hx := Cx.1
  have hb := Cx.2.1
  have hown := Cx.2.2.2.2.1
  have hts := Cx.2.2.2.2.2.1
  rw [f_X9_pardon] at hf
  refine lv_aload_n (pc := 0) hx hb dX9_pardon_0 rfl (lv_at hl 0 rfl) ?_
  refine lv_iload_n (pc := 1) hx hb dX9_pardon_1 rfl (lv_at hl 1 rfl) ?_
  obtain ⟨x2, hc1, hf⟩ := um_bi hf
  refine um_cVi (pc := 2) (As := [.int a1]) (rest := []) Cx (c_X9_isMan a1 hc1) kV_X9_isMan (Or.inl qM_X9_101) hW hS ms_0 rfl rfl hl rfl (Nat.le_of_ble_eq_true rfl) (Nat.le_of_ble_eq_true rfl) (Nat.le_of_ble_eq_true rfl) dX9_pardon_2 (Nat.le_refl _) (Nat.le_refl _) ?_
  clear hW hS hc1
  intro H locs hW hS
  refine lv_if_eq (pc := 5) (tgt := 18) hx hb dX9_pardon_5 (by decide) (fun c1 => ?_) (fun c1 => ?_)
  · have hf := um_it c1 hf
    clear c1
    refine lv_ldc (pc := 18) hx hb hown (hts _ qC_X9_87) dX9_pardon_18 ?_
    exact um_iret (pc := 20) Cx hW hS hf dX9_pardon_20
  · have hf := um_ie c1 hf
    clear c1
    refine lv_iload_n (pc := 8) hx hb dX9_pardon_8 rfl (lv_at hl 2 rfl) ?_
    refine lv_i2l (pc := 9) hx hb dX9_pardon_9 rfl ?_
    refine lv_lconst (pc := 10) (v := (0 : Int64)) hx hb dX9_pardon_10 (by decide) ?_
    refine lv_lconst (pc := 11) (v := (1 : Int64)) hx hb dX9_pardon_11 (by decide) ?_
    obtain ⟨x4, hc3, hf⟩ := um_bi hf
    refine um_cSi (pc := 12) (As := [.long (a2.toInt64), .long (0 : Int64), .long (1 : Int64)]) (rest := []) Cx (c_X9_isIn (a2.toInt64) (0 : Int64) (1 : Int64) hc3) kS_X9_isIn (Or.inl qM_X9_60) hW hS rfl hl rfl (Nat.le_of_ble_eq_true rfl) (Nat.le_of_ble_eq_true rfl) (Nat.le_of_ble_eq_true rfl) dX9_pardon_12 (Nat.le_refl _) (Nat.le_refl _) ?_
    clear hW hS hc3
    intro H locs hW hS
    refine lv_if_ne (pc := 15) (tgt := 21) hx hb dX9_pardon_15 (by decide) (fun c1 => ?_) (fun c1 => ?_)
    · have hf := um_ie c1 hf
      clear c1
      refine lv_aload_n (pc := 21) hx hb dX9_pardon_21 rfl (lv_at hl 0 rfl) ?_
      refine lv_iload_n (pc := 22) hx hb dX9_pardon_22 rfl (lv_at hl 1 rfl) ?_
      obtain ⟨x6, hc5, hf⟩ := um_bi hf
      refine um_cVi (pc := 23) (As := [.int a1]) (rest := []) Cx (c_X9_isHeld a1 hc5) kV_X9_isHeld (Or.inl qM_X9_280) hW hS ms_0 rfl rfl hl rfl (Nat.le_of_ble_eq_true rfl) (Nat.le_of_ble_eq_true rfl) (Nat.le_of_ble_eq_true rfl) dX9_pardon_23 (Nat.le_refl _) (Nat.le_refl _) ?_
      clear hW hS hc5
      intro H locs hW hS
      refine lv_if_ne (pc := 26) (tgt := 32) hx hb dX9_pardon_26 (by decide) (fun c1 => ?_) (fun c1 => ?_)
      · have hf := um_ie c1 hf
        clear c1
        refine lv_aload_n (pc := 32) hx hb dX9_pardon_32 rfl (lv_at hl 0 rfl) ?_
        refine lv_iload_n (pc := 33) hx hb dX9_pardon_33 rfl (lv_at hl 1 rfl) ?_
        obtain ⟨x8, hc7, hf⟩ := um_bi hf
        refine um_cVi (pc := 34) (As := [.int a1]) (rest := []) Cx (c_X9_isOut a1 hc7) kV_X9_isOut (Or.inl qM_X9_262) hW hS ms_0 rfl rfl hl rfl (Nat.le_of_ble_eq_true rfl) (Nat.le_of_ble_eq_true rfl) (Nat.le_of_ble_eq_true rfl) dX9_pardon_34 (Nat.le_refl _) (Nat.le_refl _) ?_
        clear hW hS hc7
        intro H locs hW hS
        refine lv_if_ne (pc := 37) (tgt := 49) hx hb dX9_pardon_37 (by decide) (fun c1 => ?_) (fun c1 => ?_)
        · have hf := um_ie c1 hf
          clear c1
          refine lv_ldc (pc := 49) hx hb hown (hts _ qC_X9_106) dX9_pardon_49 ?_
          exact um_iret (pc := 51) Cx hW hS hf dX9_pardon_51
        · have hf := um_it c1 hf
          clear c1
          refine lv_aload_n (pc := 40) hx hb dX9_pardon_40 rfl (lv_at hl 0 rfl) ?_
          refine lv_iconst (pc := 41) (v := (1 : Int32)) hx hb dX9_pardon_41 (by decide) ?_
          refine lv_iload_n (pc := 42) hx hb dX9_pardon_42 rfl (lv_at hl 1 rfl) ?_
          obtain ⟨x11, σ10, hc9, hf⟩ := um_bi2 hf
          refine um_cVi (pc := 43) (As := [.int (1 : Int32), .int a1]) (rest := []) Cx (c_X9_ruleFor (1 : Int32) a1 hc9) kV_X9_ruleFor (Or.inl qM_X9_277) hW hS ms_0 rfl rfl hl rfl (Nat.le_of_ble_eq_true rfl) (Nat.le_of_ble_eq_true rfl) (Nat.le_of_ble_eq_true rfl) dX9_pardon_43 (Nat.le_refl _) (Nat.le_refl _) ?_
          clear hW hS hc9
          intro H locs hW hS
          refine lv_if_ne (pc := 46) (tgt := 52) hx hb dX9_pardon_46 (by decide) (fun c1 => ?_) (fun c1 => ?_)
          · have hf := um_ie c1 hf
            clear c1
            refine lv_aload_n (pc := 52) hx hb dX9_pardon_52 rfl (lv_at hl 0 rfl) ?_
            refine lv_iload_n (pc := 53) hx hb dX9_pardon_53 rfl (lv_at hl 1 rfl) ?_
            refine lv_iconst (pc := 54) (v := (5 : Int32)) hx hb dX9_pardon_54 (by decide) ?_
            refine lv_iload_n (pc := 55) hx hb dX9_pardon_55 rfl (lv_at hl 2 rfl) ?_
            obtain ⟨σ13, hc12, hf⟩ := um_bi hf
            refine um_cVv (pc := 56) (As := [.int a1, .int (5 : Int32), .int a2]) (rest := []) Cx (c_X9_becomesOf a1 (5 : Int32) a2 hc12) kV_X9_becomesOf (Or.inl qM_X9_97) hW hS ms_0 rfl rfl hl rfl (Nat.le_of_ble_eq_true rfl) (Nat.le_of_ble_eq_true rfl) (Nat.le_of_ble_eq_true rfl) dX9_pardon_56 (Nat.le_refl _) (Nat.le_refl _) ?_
            clear hW hS hc12
            intro H locs hW hS
            refine lv_iconst (pc := 59) (v := (1 : Int32)) hx hb dX9_pardon_59 (by decide) ?_
            exact um_iret (pc := 60) Cx hW hS hf dX9_pardon_60
          · have hf := um_it c1 hf
            clear c1
            refine lv_ldc (pc := 49) hx hb hown (hts _ qC_X9_106) dX9_pardon_49 ?_
            exact um_iret (pc := 51) Cx hW hS hf dX9_pardon_51
      · have hf := um_it c1 hf
        clear c1
        refine lv_ldc (pc := 29) hx hb hown (hts _ qC_X9_122) dX9_pardon_29 ?_
        exact um_iret (pc := 31) Cx hW hS hf dX9_pardon_31
    · have hf := um_it c1 hf
      clear c1
      refine lv_ldc (pc := 18) hx hb hown (hts _ qC_X9_87) dX9_pardon_18 ?_
      exact um_iret (pc := 20) Cx hW hS hf dX9_pardon_20
theorem c_X9_pardon {σ : um_S} {σ' : um_S} {r : Int32} (a1 : Int32) (a2 : Int32)  (hf : f_X9_pardon a1 a2 σ = some (r, σ')) : um_M l yX9_pardon cX9_pardon 3 (some FieldType.int) (4) (95) Z msh α σ [.ref (α 0), .int a1, .int a2] (some (.int r)) σ' :=
  um_start (by decide) (Nat.le_of_ble_eq_true rfl) (fun p e s m below meth c ls Cx hW hS hl => b_X9_pardon a1 a2 hf Cx hW hS hl)
