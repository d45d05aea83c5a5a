variable {p : Program} {l : Launch} {e : Env} {s : State} {m : MethodId} {args : Array Value} {below : List Frame} {meth : Method} {c : Code} {Z : um_Z} {α : Nat → Nat} {sh : Nat → Option um_Sh}
noncomputable def f_X5_add (h0 : Nat) (a1 : Int32) (a2 : Int32) (a3 : Int32) (a4 : Int32) (σ : um_S) : Option (Int32 × um_S) :=
    um_let (σ.1 h0 2) fun x1 =>
    (if ((x1 + (1 : Int32)) * (xw h0)) ≤ (nI (xl h0)) then
    (um_let (um_wr σ h0 2 ((σ.1 h0 2) + (1 : Int32))) fun σ3 =>
    ((f_X5_set h0 x1 (0 : Int32) a1 σ3).bind fun σ6 =>
    ((f_X5_set h0 x1 (1 : Int32) a2 σ6).bind fun σ8 =>
    ((f_X5_set h0 x1 (2 : Int32) a3 σ8).bind fun σ10 =>
    ((f_X5_set h0 x1 (3 : Int32) a4 σ10).bind fun σ12 =>
    (some (x1, σ12)))))))
    else
    (some ((-1000000003 : Int32), σ)))
set_option maxRecDepth 100000 in
set_option maxHeartbeats 4000000 in
theorem b_X5_add {H : Heap} {locs : List Loc} {ls : Array Slot} {σ : um_S} {σ' : um_S} {r : Int32} (h0 : Nat) (a1 : Int32) (a2 : Int32) (a3 : Int32) (a4 : Int32) (hh0 : xT h0 = true) (hX : um_X sh) (hf : f_X5_add h0 a1 a2 a3 a4 σ = some (r, σ')) (Cx : um_C p s m meth c args cX5_add 6 (some FieldType.int) RX5 Z) (hW : um_W Z sh α σ H) (hS : va_S (um_D sh α) s.heap H locs) (hl : lv_has ls 6 [(0, .ref (α h0)), (1, .int a1), (2, .int a2), (3, .int a3), (4, .int a4)]) : um_G p l e (1) (25) s m args below meth c Z sh α σ' (some (.int r)) H locs (F0 m 0 ls []) := by
  have hx := Cx.1
  have hb := Cx.2.1
  have hown := Cx.2.2.2.2.1
  have hts := Cx.2.2.2.2.2.1
  rw [f_X5_add] at hf
  refine lv_aload_n (pc := 0) hx hb dX5_add_0 rfl (lv_at hl 0 rfl) ?_
  refine gF_X5_25 (pc := 1) Cx hW (xs_tab hX hh0) rfl dX5_add_1 ?_
  obtain ⟨x1, e2, hf⟩ := um_le hf
  refine um_top e2 ?_
  clear e2
  refine lv_istore (pc := 4) (lv' := [(5, .int x1), (0, .ref (α h0)), (1, .int a1), (2, .int a2), (3, .int a3), (4, .int a4)]) hx hb dX5_add_4 hl (by decide) rfl ?_
  clear hl
  intro ls hl
  refine lv_iload (pc := 6) hx hb dX5_add_6 (lv_at hl 0 rfl) ?_
  refine lv_iconst (pc := 8) (v := (1 : Int32)) hx hb dX5_add_8 (by decide) ?_
  refine lv_iadd (pc := 9) hx hb dX5_add_9 ?_
  refine lv_aload_n (pc := 10) hx hb dX5_add_10 rfl (lv_at hl 1 rfl) ?_
  refine gF_X5_15 (pc := 11) Cx hW (xs_tab hX hh0) rfl dX5_add_11 ?_
  refine lv_imul (pc := 14) hx hb dX5_add_14 ?_
  refine lv_aload_n (pc := 15) hx hb dX5_add_15 rfl (lv_at hl 1 rfl) ?_
  refine gF_X5_21 (pc := 16) Cx hW (xs_tab hX hh0) rfl dX5_add_16 ?_
  refine um_alen (pc := 19) (n := (xl h0)) Cx hW (xs_cel hX hh0) rfl (by decide) dX5_add_19 ?_
  refine lv_icmp_le (pc := 20) (tgt := 26) hx hb dX5_add_20 (by decide) (fun c1 => ?_) (fun c1 => ?_)
  · have hf := um_it c1 hf
    clear c1
    refine lv_aload_n (pc := 26) hx hb dX5_add_26 rfl (lv_at hl 1 rfl) ?_
    refine lv_dup (pc := 27) hx hb dX5_add_27 rfl ?_
    refine gF_X5_25 (pc := 28) Cx hW (xs_tab hX hh0) rfl dX5_add_28 ?_
    refine lv_iconst (pc := 31) (v := (1 : Int32)) hx hb dX5_add_31 (by decide) ?_
    refine lv_iadd (pc := 32) hx hb dX5_add_32 ?_
    refine gP_X5_25 (pc := 33) Cx hW hS (xs_tab hX hh0) rfl dX5_add_33 ?_
    clear hW hS
    intro H locs hW hS
    obtain ⟨σ3, e4, hf⟩ := um_le hf
    rw [← e4] at hW
    clear e4
    refine lv_aload_n (pc := 36) hx hb dX5_add_36 rfl (lv_at hl 1 rfl) ?_
    refine lv_iload (pc := 37) hx hb dX5_add_37 (lv_at hl 0 rfl) ?_
    refine lv_iconst (pc := 39) (v := (0 : Int32)) hx hb dX5_add_39 (by decide) ?_
    refine lv_iload_n (pc := 40) hx hb dX5_add_40 rfl (lv_at hl 2 rfl) ?_
    obtain ⟨σ6, hc5, hf⟩ := um_bi hf
    refine um_cVv (pc := 41) (As := [.int x1, .int (0 : Int32), .int a1]) (rest := []) Cx (c_X5_set h0 x1 (0 : Int32) a1 hh0 hX hc5) kV_X5_set (Or.inl qM_X5_31) hW hS (xs_tab hX hh0) rfl rfl hl rfl (Nat.le_of_ble_eq_true rfl) (Nat.le_of_ble_eq_true rfl) (Nat.le_of_ble_eq_true rfl) dX5_add_41 (Nat.le_refl _) (Nat.le_refl _) ?_
    clear hW hS hc5
    intro H locs hW hS
    refine lv_aload_n (pc := 44) hx hb dX5_add_44 rfl (lv_at hl 1 rfl) ?_
    refine lv_iload (pc := 45) hx hb dX5_add_45 (lv_at hl 0 rfl) ?_
    refine lv_iconst (pc := 47) (v := (1 : Int32)) hx hb dX5_add_47 (by decide) ?_
    refine lv_iload_n (pc := 48) hx hb dX5_add_48 rfl (lv_at hl 3 rfl) ?_
    obtain ⟨σ8, hc7, hf⟩ := um_bi hf
    refine um_cVv (pc := 49) (As := [.int x1, .int (1 : Int32), .int a2]) (rest := []) Cx (c_X5_set h0 x1 (1 : Int32) a2 hh0 hX hc7) kV_X5_set (Or.inl qM_X5_31) hW hS (xs_tab hX hh0) rfl rfl hl rfl (Nat.le_of_ble_eq_true rfl) (Nat.le_of_ble_eq_true rfl) (Nat.le_of_ble_eq_true rfl) dX5_add_49 (Nat.le_refl _) (Nat.le_refl _) ?_
    clear hW hS hc7
    intro H locs hW hS
    refine lv_aload_n (pc := 52) hx hb dX5_add_52 rfl (lv_at hl 1 rfl) ?_
    refine lv_iload (pc := 53) hx hb dX5_add_53 (lv_at hl 0 rfl) ?_
    refine lv_iconst (pc := 55) (v := (2 : Int32)) hx hb dX5_add_55 (by decide) ?_
    refine lv_iload_n (pc := 56) hx hb dX5_add_56 rfl (lv_at hl 4 rfl) ?_
    obtain ⟨σ10, hc9, hf⟩ := um_bi hf
    refine um_cVv (pc := 57) (As := [.int x1, .int (2 : Int32), .int a3]) (rest := []) Cx (c_X5_set h0 x1 (2 : Int32) a3 hh0 hX hc9) kV_X5_set (Or.inl qM_X5_31) hW hS (xs_tab hX hh0) rfl rfl hl rfl (Nat.le_of_ble_eq_true rfl) (Nat.le_of_ble_eq_true rfl) (Nat.le_of_ble_eq_true rfl) dX5_add_57 (Nat.le_refl _) (Nat.le_refl _) ?_
    clear hW hS hc9
    intro H locs hW hS
    refine lv_aload_n (pc := 60) hx hb dX5_add_60 rfl (lv_at hl 1 rfl) ?_
    refine lv_iload (pc := 61) hx hb dX5_add_61 (lv_at hl 0 rfl) ?_
    refine lv_iconst (pc := 63) (v := (3 : Int32)) hx hb dX5_add_63 (by decide) ?_
    refine lv_iload (pc := 64) hx hb dX5_add_64 (lv_at hl 5 rfl) ?_
    obtain ⟨σ12, hc11, hf⟩ := um_bi hf
    refine um_cVv (pc := 66) (As := [.int x1, .int (3 : Int32), .int a4]) (rest := []) Cx (c_X5_set h0 x1 (3 : Int32) a4 hh0 hX hc11) kV_X5_set (Or.inl qM_X5_31) hW hS (xs_tab hX hh0) rfl rfl hl rfl (Nat.le_of_ble_eq_true rfl) (Nat.le_of_ble_eq_true rfl) (Nat.le_of_ble_eq_true rfl) dX5_add_66 (Nat.le_refl _) (Nat.le_refl _) ?_
    clear hW hS hc11
    intro H locs hW hS
    refine lv_iload (pc := 69) hx hb dX5_add_69 (lv_at hl 0 rfl) ?_
    exact um_iret (pc := 71) Cx hW hS hf dX5_add_71
  · have hf := um_ie c1 hf
    clear c1
    refine lv_ldc (pc := 23) hx hb hown (hts _ qC_X5_35) dX5_add_23 ?_
    exact um_iret (pc := 25) Cx hW hS hf dX5_add_25
theorem c_X5_add {σ : um_S} {σ' : um_S} {r : Int32} (h0 : Nat) (a1 : Int32) (a2 : Int32) (a3 : Int32) (a4 : Int32) (hh0 : xT h0 = true) (hX : um_X sh) (hf : f_X5_add h0 a1 a2 a3 a4 σ = some (r, σ')) : um_M l yX5_add cX5_add 6 (some FieldType.int) (1) (25) Z sh α σ [.ref (α h0), .int a1, .int a2, .int a3, .int a4] (some (.int r)) σ' :=
  um_start (by decide) (Nat.le_of_ble_eq_true rfl) (fun p e s m below meth c ls Cx hW hS hl => b_X5_add h0 a1 a2 a3 a4 hh0 hX hf Cx hW hS hl)
noncomputable def f_X4_ironsForOneMore (h0 : Nat) (a1 : Int32) (a2 : Int32) (σ : um_S) : Option (Int32 × um_S) :=
    (f_X4_marksOf h0 a1 σ).bind fun x2 =>
    (um_b2 (f_X1_rule h0 (2 : Int32) (σ.1 h0 12) a2 (x2 + (1 : Int32)) (0 : Int32) σ) fun x5 σ4 =>
    (um_b2 (f_X5_add (20 * h0 + 3) a1 (σ4.1 h0 12) a2 (0 : Int32) σ4) fun x8 σ7 =>
    (some (x5, σ7))))
set_option maxRecDepth 100000 in
set_option maxHeartbeats 4000000 in
theorem b_X4_ironsForOneMore {H : Heap} {locs : List Loc} {ls : Array Slot} {σ : um_S} {σ' : um_S} {r : Int32} (h0 : Nat) (a1 : Int32) (a2 : Int32) (hh0 : um_h h0) (hX : um_X sh) (hf : f_X4_ironsForOneMore h0 a1 a2 σ = some (r, σ')) (Cx : um_C p s m meth c args cX4_ironsForOneMore 4 (some FieldType.int) RX4 Z) (hW : um_W Z sh α σ H) (hS : va_S (um_D sh α) s.heap H locs) (hl : lv_has ls 4 [(0, .ref (α h0)), (1, .int a1), (2, .int a2)]) : um_G p l e (3) (78) s m args below meth c Z sh α σ' (some (.int r)) H locs (F0 m 0 ls []) := by
  have hx := Cx.1
  have hb := Cx.2.1
  have hown := Cx.2.2.2.2.1
  have hts := Cx.2.2.2.2.2.1
  rw [f_X4_ironsForOneMore] at hf
  refine lv_aload_n (pc := 0) hx hb dX4_ironsForOneMore_0 rfl (lv_at hl 0 rfl) ?_
  refine gF_X4_53 (pc := 1) Cx hW (xs_shore hX hh0) rfl dX4_ironsForOneMore_1 ?_
  refine lv_iconst (pc := 4) (v := (2 : Int32)) hx hb dX4_ironsForOneMore_4 (by decide) ?_
  refine lv_aload_n (pc := 5) hx hb dX4_ironsForOneMore_5 rfl (lv_at hl 0 rfl) ?_
  refine gF_X4_64 (pc := 6) Cx hW (xs_shore hX hh0) rfl dX4_ironsForOneMore_6 ?_
  refine lv_iload_n (pc := 9) hx hb dX4_ironsForOneMore_9 rfl (lv_at hl 2 rfl) ?_
  refine lv_aload_n (pc := 10) hx hb dX4_ironsForOneMore_10 rfl (lv_at hl 0 rfl) ?_
  refine lv_iload_n (pc := 11) hx hb dX4_ironsForOneMore_11 rfl (lv_at hl 1 rfl) ?_
  obtain ⟨x2, hc1, hf⟩ := um_bi hf
  refine um_cVi (pc := 12) (As := [.int a1]) (rest := [.int a2, .int (σ.1 h0 12), .int (2 : Int32), .ref (α (20 * h0 + 11))]) Cx (c_X4_marksOf h0 a1 hh0 hX hc1) kV_X4_marksOf (Or.inl qM_X4_113) hW hS (xs_shore hX hh0) rfl rfl hl rfl (Nat.le_of_ble_eq_true rfl) (Nat.le_of_ble_eq_true rfl) (Nat.le_of_ble_eq_true rfl) dX4_ironsForOneMore_12 (Nat.le_refl _) (Nat.le_refl _) ?_
  clear hW hS hc1
  intro H locs hW hS
  refine lv_iconst (pc := 15) (v := (1 : Int32)) hx hb dX4_ironsForOneMore_15 (by decide) ?_
  refine lv_iadd (pc := 16) hx hb dX4_ironsForOneMore_16 ?_
  refine lv_iconst (pc := 17) (v := (0 : Int32)) hx hb dX4_ironsForOneMore_17 (by decide) ?_
  obtain ⟨x5, σ4, hc3, hf⟩ := um_bi2 hf
  refine um_cVi (pc := 18) (As := [.int (2 : Int32), .int (σ.1 h0 12), .int a2, .int (x2 + (1 : Int32)), .int (0 : Int32)]) (rest := []) Cx (c_X1_rule h0 (2 : Int32) (σ.1 h0 12) a2 (x2 + (1 : Int32)) (0 : Int32) hh0 hX hc3) kV_X1_rule (Or.inl qM_X4_116) hW hS (xs_law hX hh0) rfl rfl hl rfl (Nat.le_of_ble_eq_true rfl) (Nat.le_of_ble_eq_true rfl) (Nat.le_of_ble_eq_true rfl) dX4_ironsForOneMore_18 (Nat.le_refl _) (Nat.le_refl _) ?_
  clear hW hS hc3
  intro H locs hW hS
  refine lv_istore_n (pc := 21) (lv' := [(3, .int x5), (0, .ref (α h0)), (1, .int a1), (2, .int a2)]) hx hb dX4_ironsForOneMore_21 rfl hl (by decide) rfl ?_
  clear hl
  intro ls hl
  refine lv_aload_n (pc := 22) hx hb dX4_ironsForOneMore_22 rfl (lv_at hl 1 rfl) ?_
  refine gF_X4_26 (pc := 23) Cx hW (xs_shore hX hh0) rfl dX4_ironsForOneMore_23 ?_
  refine lv_iload_n (pc := 26) hx hb dX4_ironsForOneMore_26 rfl (lv_at hl 2 rfl) ?_
  refine lv_aload_n (pc := 27) hx hb dX4_ironsForOneMore_27 rfl (lv_at hl 1 rfl) ?_
  refine gF_X4_64 (pc := 28) Cx hW (xs_shore hX hh0) rfl dX4_ironsForOneMore_28 ?_
  refine lv_iload_n (pc := 31) hx hb dX4_ironsForOneMore_31 rfl (lv_at hl 3 rfl) ?_
  refine lv_iconst (pc := 32) (v := (0 : Int32)) hx hb dX4_ironsForOneMore_32 (by decide) ?_
  obtain ⟨x8, σ7, hc6, hf⟩ := um_bi2 hf
  refine um_cVi (pc := 33) (As := [.int a1, .int (σ4.1 h0 12), .int a2, .int (0 : Int32)]) (rest := []) Cx (c_X5_add (20 * h0 + 3) a1 (σ4.1 h0 12) a2 (0 : Int32) (xs_ht hh0 3 rfl) hX hc6) kV_X5_add (Or.inl qM_X4_136) hW hS (xs_tab hX (xs_ht hh0 3 rfl)) rfl rfl hl rfl (Nat.le_of_ble_eq_true rfl) (Nat.le_of_ble_eq_true rfl) (Nat.le_of_ble_eq_true rfl) dX4_ironsForOneMore_33 (Nat.le_refl _) (Nat.le_refl _) ?_
  clear hW hS hc6
  intro H locs hW hS
  refine lv_pop (pc := 36) hx hb dX4_ironsForOneMore_36 rfl ?_
  refine lv_iload_n (pc := 37) hx hb dX4_ironsForOneMore_37 rfl (lv_at hl 0 rfl) ?_
  exact um_iret (pc := 38) Cx hW hS hf dX4_ironsForOneMore_38
theorem c_X4_ironsForOneMore {σ : um_S} {σ' : um_S} {r : Int32} (h0 : Nat) (a1 : Int32) (a2 : Int32) (hh0 : um_h h0) (hX : um_X sh) (hf : f_X4_ironsForOneMore h0 a1 a2 σ = some (r, σ')) : um_M l yX4_ironsForOneMore cX4_ironsForOneMore 4 (some FieldType.int) (3) (78) Z sh α σ [.ref (α h0), .int a1, .int a2] (some (.int r)) σ' :=
  um_start (by decide) (Nat.le_of_ble_eq_true rfl) (fun p e s m below meth c ls Cx hW hS hl => b_X4_ironsForOneMore h0 a1 a2 hh0 hX hf Cx hW hS hl)
noncomputable def f_X4_isAboard (h0 : Nat) (a1 : Int32) (σ : um_S) : Option (Bool) :=
    (f_X4_isDead h0 a1 σ).bind fun x2 =>
    (if (um_b x2) = 0 then
    ((f_X4_hasLanded h0 a1 σ).bind fun x4 =>
    (if (um_b x4) = 0 then
    (some true)
    else
    (some false)))
    else
    (some false))
set_option maxRecDepth 100000 in
set_option maxHeartbeats 4000000 in
theorem b_X4_isAboard {H : Heap} {locs : List Loc} {ls : Array Slot} {σ : um_S} {r : Bool} (h0 : Nat) (a1 : Int32) (hh0 : um_h h0) (hX : um_X sh) (hf : f_X4_isAboard h0 a1 σ = some r) (Cx : um_C p s m meth c args cX4_isAboard 2 (some FieldType.boolean) RX4 Z) (hW : um_W Z sh α σ H) (hS : va_S (um_D sh α) s.heap H locs) (hl : lv_has ls 2 [(0, .ref (α h0)), (1, .int a1)]) : um_G p l e (2) (45) s m args below meth c Z sh α σ (some (.int (um_b r))) H locs (F0 m 0 ls []) := by
  have hx := Cx.1
  have hb := Cx.2.1
  have hown := Cx.2.2.2.2.1
  have hts := Cx.2.2.2.2.2.1
  rw [f_X4_isAboard] at hf
  refine lv_aload_n (pc := 0) hx hb dX4_isAboard_0 rfl (lv_at hl 0 rfl) ?_
  refine lv_iload_n (pc := 1) hx hb dX4_isAboard_1 rfl (lv_at hl 1 rfl) ?_
  obtain ⟨x2, hc1, hf⟩ := um_bi hf
  refine um_cVi (pc := 2) (As := [.int a1]) (rest := []) Cx (c_X4_isDead h0 a1 hh0 hX hc1) kV_X4_isDead (Or.inl qM_X4_86) hW hS (xs_shore hX hh0) rfl rfl hl rfl (Nat.le_of_ble_eq_true rfl) (Nat.le_of_ble_eq_true rfl) (Nat.le_of_ble_eq_true rfl) dX4_isAboard_2 (Nat.le_refl _) (Nat.le_refl _) ?_
  clear hW hS hc1
  intro H locs hW hS
  refine lv_if_ne (pc := 5) (tgt := 20) hx hb dX4_isAboard_5 (by decide) (fun c1 => ?_) (fun c1 => ?_)
  · have hf := um_ie c1 hf
    clear c1
    refine lv_iconst (pc := 20) (v := (0 : Int32)) hx hb dX4_isAboard_20 (by decide) ?_
    exact um_zretR (pc := 21) Cx hW hS hf rfl dX4_isAboard_21
  · have hf := um_it c1 hf
    clear c1
    refine lv_aload_n (pc := 8) hx hb dX4_isAboard_8 rfl (lv_at hl 0 rfl) ?_
    refine lv_iload_n (pc := 9) hx hb dX4_isAboard_9 rfl (lv_at hl 1 rfl) ?_
    obtain ⟨x4, hc3, hf⟩ := um_bi hf
    refine um_cVi (pc := 10) (As := [.int a1]) (rest := []) Cx (c_X4_hasLanded h0 a1 hh0 hX hc3) kV_X4_hasLanded (Or.inl qM_X4_90) hW hS (xs_shore hX hh0) rfl rfl hl rfl (Nat.le_of_ble_eq_true rfl) (Nat.le_of_ble_eq_true rfl) (Nat.le_of_ble_eq_true rfl) dX4_isAboard_10 (Nat.le_refl _) (Nat.le_refl _) ?_
    clear hW hS hc3
    intro H locs hW hS
    refine lv_if_ne (pc := 13) (tgt := 20) hx hb dX4_isAboard_13 (by decide) (fun c1 => ?_) (fun c1 => ?_)
    · have hf := um_ie c1 hf
      clear c1
      refine lv_iconst (pc := 20) (v := (0 : Int32)) hx hb dX4_isAboard_20 (by decide) ?_
      exact um_zretR (pc := 21) Cx hW hS hf rfl dX4_isAboard_21
    · have hf := um_it c1 hf
      clear c1
      refine lv_iconst (pc := 16) (v := (1 : Int32)) hx hb dX4_isAboard_16 (by decide) ?_
      refine lv_goto (pc := 17) (tgt := 21) hx hb dX4_isAboard_17 (by decide) ?_
      exact um_zretR (pc := 21) Cx hW hS hf rfl dX4_isAboard_21
theorem c_X4_isAboard {σ : um_S} {r : Bool} (h0 : Nat) (a1 : Int32) (hh0 : um_h h0) (hX : um_X sh) (hf : f_X4_isAboard h0 a1 σ = some r) : um_M l yX4_isAboard cX4_isAboard 2 (some FieldType.boolean) (2) (45) Z sh α σ [.ref (α h0), .int a1] (some (.int (um_b r))) σ :=
  um_start (by decide) (Nat.le_of_ble_eq_true rfl) (fun p e s m below meth c ls Cx hW hS hl => b_X4_isAboard h0 a1 hh0 hX hf Cx hW hS hl)
noncomputable def f_X4_isServing (h0 : Nat) (a1 : Int32) (σ : um_S) : Option (Bool) :=
    (f_X5_get (20 * h0 + 1) a1 (5 : Int32) σ).bind fun x2 =>
    ((f_X8_within x2 (1 : Int32) (4 : Int32) σ).bind fun x4 =>
    (some x4))
set_option maxRecDepth 100000 in
set_option maxHeartbeats 4000000 in
theorem b_X4_isServing {H : Heap} {locs : List Loc} {ls : Array Slot} {σ : um_S} {r : Bool} (h0 : Nat) (a1 : Int32) (hh0 : um_h h0) (hX : um_X sh) (hf : f_X4_isServing h0 a1 σ = some r) (Cx : um_C p s m meth c args cX4_isServing 2 (some FieldType.boolean) RX4 Z) (hW : um_W Z sh α σ H) (hS : va_S (um_D sh α) s.heap H locs) (hl : lv_has ls 2 [(0, .ref (α h0)), (1, .int a1)]) : um_G p l e (1) (24) s m args below meth c Z sh α σ (some (.int (um_b r))) H locs (F0 m 0 ls []) := by
  have hx := Cx.1
  have hb := Cx.2.1
  have hown := Cx.2.2.2.2.1
  have hts := Cx.2.2.2.2.2.1
  rw [f_X4_isServing] at hf
  refine lv_aload_n (pc := 0) hx hb dX4_isServing_0 rfl (lv_at hl 0 rfl) ?_
  refine gF_X4_20 (pc := 1) Cx hW (xs_shore hX hh0) rfl dX4_isServing_1 ?_
  refine lv_iload_n (pc := 4) hx hb dX4_isServing_4 rfl (lv_at hl 1 rfl) ?_
  refine lv_iconst (pc := 5) (v := (5 : Int32)) hx hb dX4_isServing_5 (by decide) ?_
  obtain ⟨x2, hc1, hf⟩ := um_bi hf
  refine um_cVi (pc := 6) (As := [.int a1, .int (5 : Int32)]) (rest := []) Cx (c_X5_get (20 * h0 + 1) a1 (5 : Int32) (xs_ht hh0 1 rfl) hX hc1) kV_X5_get (Or.inl qM_X4_82) hW hS (xs_tab hX (xs_ht hh0 1 rfl)) rfl rfl hl rfl (Nat.le_of_ble_eq_true rfl) (Nat.le_of_ble_eq_true rfl) (Nat.le_of_ble_eq_true rfl) dX4_isServing_6 (Nat.le_refl _) (Nat.le_refl _) ?_
  clear hW hS hc1
  intro H locs hW hS
  refine lv_iconst (pc := 9) (v := (1 : Int32)) hx hb dX4_isServing_9 (by decide) ?_
  refine lv_iconst (pc := 10) (v := (4 : Int32)) hx hb dX4_isServing_10 (by decide) ?_
  obtain ⟨x4, hc3, hf⟩ := um_bi hf
  refine um_cSi (pc := 11) (As := [.int x2, .int (1 : Int32), .int (4 : Int32)]) (rest := []) Cx (c_X8_within x2 (1 : Int32) (4 : Int32) hX hc3) kS_X8_within (Or.inr ⟨_, qW_X4_96⟩) hW hS rfl hl rfl (Nat.le_of_ble_eq_true rfl) (Nat.le_of_ble_eq_true rfl) (Nat.le_of_ble_eq_true rfl) dX4_isServing_11 (Nat.le_refl _) (Nat.le_refl _) ?_
  clear hW hS hc3
  intro H locs hW hS
  exact um_zretR (pc := 14) Cx hW hS hf rfl dX4_isServing_14
theorem c_X4_isServing {σ : um_S} {r : Bool} (h0 : Nat) (a1 : Int32) (hh0 : um_h h0) (hX : um_X sh) (hf : f_X4_isServing h0 a1 σ = some r) : um_M l yX4_isServing cX4_isServing 2 (some FieldType.boolean) (1) (24) Z sh α σ [.ref (α h0), .int a1] (some (.int (um_b r))) σ :=
  um_start (by decide) (Nat.le_of_ble_eq_true rfl) (fun p e s m below meth c ls Cx hW hS hl => b_X4_isServing h0 a1 hh0 hX hf Cx hW hS hl)
noncomputable def f_X4_landFrom_l2 (h0 : Nat) (v1 : Int32) : Nat → Int32 → um_S → Option (um_S)
  | 0, _, _ => none
  | n + 1, v2, σ =>
    if (σ.1 (20 * h0 + 1) 2) ≤ v2 then
    (some σ)
    else
    ((f_X5_get (20 * h0 + 1) v2 (12 : Int32) σ).bind fun x2 =>
    (if x2 = v1 then
    ((f_X4_isAboard h0 v2 σ).bind fun x4 =>
    (if (um_b x4) = 0 then
    (f_X4_landFrom_l2 h0 v1 n (v2 + (1 : Int32)) σ)
    else
    ((f_X5_get (20 * h0 + 0) v1 (0 : Int32) σ).bind fun x6 =>
    ((f_X5_set (20 * h0 + 1) v2 (4 : Int32) x6 σ).bind fun σ8 =>
    ((f_X5_set (20 * h0 + 1) v2 (10 : Int32) (σ8.1 h0 12) σ8).bind fun σ10 =>
    ((f_X4_become h0 v2 (1 : Int32) (0 : Int32) σ10).bind fun σ12 =>
    (f_X4_landFrom_l2 h0 v1 n (v2 + (1 : Int32)) σ12)))))))
    else
    (f_X4_landFrom_l2 h0 v1 n (v2 + (1 : Int32)) σ)))
noncomputable def f_X4_landFrom (h0 : Nat) (a1 : Int32) (σ : um_S) : Option (um_S) :=
    (f_X4_landFrom_l2 h0 a1 um_N (0 : Int32) σ).bind fun σ1 =>
    (some σ1)
set_option maxRecDepth 100000 in
set_option maxHeartbeats 4000000 in
theorem t_X4_landFrom_l2 {Q : State → Prop} {σo : um_S} (h0 : Nat) (v1 : Int32) (hh0 : um_h h0) (hX : um_X sh) (Cx : um_C p s m meth c args cX4_landFrom 3 none RX4 Z) (hE : ∀ (H : Heap) (locs : List Loc) (ls : Array Slot), um_W Z sh α σo H → va_S (um_D sh α) s.heap H locs → lv_has ls 3 [] → W p l e { frames := 3, cells := 0, slots := 0, locals := 66 } s m args below meth c H locs 0 0 Q (F0 m 80 ls [])) : ∀ (n : Nat) (v2 : Int32) (σ : um_S) (H : Heap) (locs : List Loc) (ls : Array Slot), f_X4_landFrom_l2 h0 v1 n v2 σ = some σo → um_W Z sh α σ H → va_S (um_D sh α) s.heap H locs → lv_has ls 3 [(0, .ref (α h0)), (1, .int v1), (2, .int v2)] → W p l e { frames := 3, cells := 0, slots := 0, locals := 66 } s m args below meth c H locs 0 0 Q (F0 m 2 ls []) := by
  have hx := Cx.1
  have hb := Cx.2.1
  have hown := Cx.2.2.2.2.1
  have hts := Cx.2.2.2.2.2.1
  intro n
  induction n with
  | zero =>
    intro v2 σ H locs ls hf hW hS hl
    cases hf
  | succ n ih =>
    intro v2 σ H locs ls hf hW hS hl
    rw [f_X4_landFrom_l2] at hf
    refine lv_iload_n (pc := 2) hx hb dX4_landFrom_2 rfl (lv_at hl 2 rfl) ?_
    refine lv_aload_n (pc := 3) hx hb dX4_landFrom_3 rfl (lv_at hl 0 rfl) ?_
    refine gF_X4_20 (pc := 4) Cx hW (xs_shore hX hh0) rfl dX4_landFrom_4 ?_
    refine gF_X4_100 (pc := 7) Cx hW (xs_tab hX (xs_ht hh0 1 rfl)) rfl dX4_landFrom_7 ?_
    refine lv_icmp_ge (pc := 10) (tgt := 80) hx hb dX4_landFrom_10 (by decide) (fun c1 => ?_) (fun c1 => ?_)
    · have hf := um_it c1 hf
      clear c1
      cases hf
      exact hE _ _ _ hW hS (lv_sub hl [] rfl)
    · have hf := um_ie c1 hf
      clear c1
      refine lv_aload_n (pc := 13) hx hb dX4_landFrom_13 rfl (lv_at hl 0 rfl) ?_
      refine gF_X4_20 (pc := 14) Cx hW (xs_shore hX hh0) rfl dX4_landFrom_14 ?_
      refine lv_iload_n (pc := 17) hx hb dX4_landFrom_17 rfl (lv_at hl 2 rfl) ?_
      refine lv_bipush (pc := 18) (v := (12 : Int32)) hx hb dX4_landFrom_18 (by decide) ?_
      obtain ⟨x2, hc1, hf⟩ := um_bi hf
      refine um_cVi (pc := 20) (As := [.int v2, .int (12 : Int32)]) (rest := []) Cx (c_X5_get (20 * h0 + 1) v2 (12 : Int32) (xs_ht hh0 1 rfl) hX hc1) kV_X5_get (Or.inl qM_X4_82) hW hS (xs_tab hX (xs_ht hh0 1 rfl)) rfl rfl hl rfl (Nat.le_of_ble_eq_true rfl) (Nat.le_of_ble_eq_true rfl) (Nat.le_of_ble_eq_true rfl) dX4_landFrom_20 (Nat.le_refl _) (Nat.le_refl _) ?_
      clear hW hS hc1
      intro H locs hW hS
      refine lv_iload_n (pc := 23) hx hb dX4_landFrom_23 rfl (lv_at hl 1 rfl) ?_
      refine lv_icmp_ne (pc := 24) (tgt := 74) hx hb dX4_landFrom_24 (by decide) (fun c1 => ?_) (fun c1 => ?_)
      · have hf := um_ie c1 hf
        clear c1
        refine lv_iinc (pc := 74) (v := v2 + (1 : Int32)) (lv' := [(2, .int (v2 + (1 : Int32))), (0, .ref (α h0)), (1, .int v1)]) hx hb dX4_landFrom_74 hl (k := 2) rfl rfl (by decide) rfl ?_
        clear hl
        intro ls hl
        refine lv_goto (pc := 77) (tgt := 2) hx hb dX4_landFrom_77 (by decide) ?_
        exact ih _ _ _ _ _ hf hW hS (lv_sub hl [1, 2, 0] rfl)
      · have hf := um_it c1 hf
        clear c1
        refine lv_aload_n (pc := 27) hx hb dX4_landFrom_27 rfl (lv_at hl 0 rfl) ?_
        refine lv_iload_n (pc := 28) hx hb dX4_landFrom_28 rfl (lv_at hl 2 rfl) ?_
        obtain ⟨x4, hc3, hf⟩ := um_bi hf
        refine um_cVi (pc := 29) (As := [.int v2]) (rest := []) Cx (c_X4_isAboard h0 v2 hh0 hX hc3) kV_X4_isAboard (Or.inl qM_X4_103) hW hS (xs_shore hX hh0) rfl rfl hl rfl (Nat.le_of_ble_eq_true rfl) (Nat.le_of_ble_eq_true rfl) (Nat.le_of_ble_eq_true rfl) dX4_landFrom_29 (Nat.le_refl _) (Nat.le_refl _) ?_
        clear hW hS hc3
        intro H locs hW hS
        refine lv_if_eq (pc := 32) (tgt := 74) hx hb dX4_landFrom_32 (by decide) (fun c1 => ?_) (fun c1 => ?_)
        · have hf := um_it c1 hf
          clear c1
          refine lv_iinc (pc := 74) (v := v2 + (1 : Int32)) (lv' := [(2, .int (v2 + (1 : Int32))), (0, .ref (α h0)), (1, .int v1)]) hx hb dX4_landFrom_74 hl (k := 2) rfl rfl (by decide) rfl ?_
          clear hl
          intro ls hl
          refine lv_goto (pc := 77) (tgt := 2) hx hb dX4_landFrom_77 (by decide) ?_
          exact ih _ _ _ _ _ hf hW hS (lv_sub hl [1, 2, 0] rfl)
        · have hf := um_ie c1 hf
          clear c1
          refine lv_aload_n (pc := 35) hx hb dX4_landFrom_35 rfl (lv_at hl 0 rfl) ?_
          refine gF_X4_20 (pc := 36) Cx hW (xs_shore hX hh0) rfl dX4_landFrom_36 ?_
          refine lv_iload_n (pc := 39) hx hb dX4_landFrom_39 rfl (lv_at hl 2 rfl) ?_
          refine lv_iconst (pc := 40) (v := (4 : Int32)) hx hb dX4_landFrom_40 (by decide) ?_
          refine lv_aload_n (pc := 41) hx hb dX4_landFrom_41 rfl (lv_at hl 0 rfl) ?_
          refine gF_X4_14 (pc := 42) Cx hW (xs_shore hX hh0) rfl dX4_landFrom_42 ?_
          refine lv_iload_n (pc := 45) hx hb dX4_landFrom_45 rfl (lv_at hl 1 rfl) ?_
          refine lv_iconst (pc := 46) (v := (0 : Int32)) hx hb dX4_landFrom_46 (by decide) ?_
          obtain ⟨x6, hc5, hf⟩ := um_bi hf
          refine um_cVi (pc := 47) (As := [.int v1, .int (0 : Int32)]) (rest := [.int (4 : Int32), .int v2, .ref (α (20 * h0 + 1))]) Cx (c_X5_get (20 * h0 + 0) v1 (0 : Int32) (xs_ht hh0 0 rfl) hX hc5) kV_X5_get (Or.inl qM_X4_82) hW hS (xs_tab hX (xs_ht hh0 0 rfl)) rfl rfl hl rfl (Nat.le_of_ble_eq_true rfl) (Nat.le_of_ble_eq_true rfl) (Nat.le_of_ble_eq_true rfl) dX4_landFrom_47 (Nat.le_refl _) (Nat.le_refl _) ?_
          clear hW hS hc5
          intro H locs hW hS
          obtain ⟨σ8, hc7, hf⟩ := um_bi hf
          refine um_cVv (pc := 50) (As := [.int v2, .int (4 : Int32), .int x6]) (rest := []) Cx (c_X5_set (20 * h0 + 1) v2 (4 : Int32) x6 (xs_ht hh0 1 rfl) hX hc7) kV_X5_set (Or.inl qM_X4_79) hW hS (xs_tab hX (xs_ht hh0 1 rfl)) rfl rfl hl rfl (Nat.le_of_ble_eq_true rfl) (Nat.le_of_ble_eq_true rfl) (Nat.le_of_ble_eq_true rfl) dX4_landFrom_50 (Nat.le_refl _) (Nat.le_refl _) ?_
          clear hW hS hc7
          intro H locs hW hS
          refine lv_aload_n (pc := 53) hx hb dX4_landFrom_53 rfl (lv_at hl 0 rfl) ?_
          refine gF_X4_20 (pc := 54) Cx hW (xs_shore hX hh0) rfl dX4_landFrom_54 ?_
          refine lv_iload_n (pc := 57) hx hb dX4_landFrom_57 rfl (lv_at hl 2 rfl) ?_
          refine lv_bipush (pc := 58) (v := (10 : Int32)) hx hb dX4_landFrom_58 (by decide) ?_
          refine lv_aload_n (pc := 60) hx hb dX4_landFrom_60 rfl (lv_at hl 0 rfl) ?_
          refine gF_X4_64 (pc := 61) Cx hW (xs_shore hX hh0) rfl dX4_landFrom_61 ?_
          obtain ⟨σ10, hc9, hf⟩ := um_bi hf
          refine um_cVv (pc := 64) (As := [.int v2, .int (10 : Int32), .int (σ8.1 h0 12)]) (rest := []) Cx (c_X5_set (20 * h0 + 1) v2 (10 : Int32) (σ8.1 h0 12) (xs_ht hh0 1 rfl) hX hc9) kV_X5_set (Or.inl qM_X4_79) hW hS (xs_tab hX (xs_ht hh0 1 rfl)) rfl rfl hl rfl (Nat.le_of_ble_eq_true rfl) (Nat.le_of_ble_eq_true rfl) (Nat.le_of_ble_eq_true rfl) dX4_landFrom_64 (Nat.le_refl _) (Nat.le_refl _) ?_
          clear hW hS hc9
          intro H locs hW hS
          refine lv_aload_n (pc := 67) hx hb dX4_landFrom_67 rfl (lv_at hl 0 rfl) ?_
          refine lv_iload_n (pc := 68) hx hb dX4_landFrom_68 rfl (lv_at hl 2 rfl) ?_
          refine lv_iconst (pc := 69) (v := (1 : Int32)) hx hb dX4_landFrom_69 (by decide) ?_
          refine lv_iconst (pc := 70) (v := (0 : Int32)) hx hb dX4_landFrom_70 (by decide) ?_
          obtain ⟨σ12, hc11, hf⟩ := um_bi hf
          refine um_cVv (pc := 71) (As := [.int v2, .int (1 : Int32), .int (0 : Int32)]) (rest := []) Cx (c_X4_become h0 v2 (1 : Int32) (0 : Int32) hh0 hX hc11) kV_X4_become (Or.inl qM_X4_74) hW hS (xs_shore hX hh0) rfl rfl hl rfl (Nat.le_of_ble_eq_true rfl) (Nat.le_of_ble_eq_true rfl) (Nat.le_of_ble_eq_true rfl) dX4_landFrom_71 (Nat.le_refl _) (Nat.le_refl _) ?_
          clear hW hS hc11
          intro H locs hW hS
          refine lv_iinc (pc := 74) (v := v2 + (1 : Int32)) (lv' := [(2, .int (v2 + (1 : Int32))), (0, .ref (α h0)), (1, .int v1)]) hx hb dX4_landFrom_74 hl (k := 2) rfl rfl (by decide) rfl ?_
          clear hl
          intro ls hl
          refine lv_goto (pc := 77) (tgt := 2) hx hb dX4_landFrom_77 (by decide) ?_
          exact ih _ _ _ _ _ hf hW hS (lv_sub hl [1, 2, 0] rfl)
set_option maxRecDepth 100000 in
set_option maxHeartbeats 4000000 in
theorem b_X4_landFrom {H : Heap} {locs : List Loc} {ls : Array Slot} {σ : um_S} {σ' : um_S} (h0 : Nat) (a1 : Int32) (hh0 : um_h h0) (hX : um_X sh) (hf : f_X4_landFrom h0 a1 σ = some σ') (Cx : um_C p s m meth c args cX4_landFrom 3 none RX4 Z) (hW : um_W Z sh α σ H) (hS : va_S (um_D sh α) s.heap H locs) (hl : lv_has ls 3 [(0, .ref (α h0)), (1, .int a1)]) : um_G p l e (3) (66) s m args below meth c Z sh α σ' none H locs (F0 m 0 ls []) := by
  have hx := Cx.1
  have hb := Cx.2.1
  have hown := Cx.2.2.2.2.1
  have hts := Cx.2.2.2.2.2.1
  rw [f_X4_landFrom] at hf
  refine lv_iconst (pc := 0) (v := (0 : Int32)) hx hb dX4_landFrom_0 (by decide) ?_
  refine lv_istore_n (pc := 1) (lv' := [(2, .int (0 : Int32)), (0, .ref (α h0)), (1, .int a1)]) hx hb dX4_landFrom_1 rfl hl (by decide) rfl ?_
  clear hl
  intro ls hl
  obtain ⟨σ1, hc2, hf⟩ := um_bi hf
  refine t_X4_landFrom_l2 h0 a1 hh0 hX Cx ?_ um_N _ _ _ _ _ hc2 hW hS (lv_sub hl [1, 2, 0] rfl)
  clear hW hS hl hc2
  intro H locs ls hW hS hl
  exact um_vret (pc := 80) Cx hW hS hf dX4_landFrom_80
theorem c_X4_landFrom {σ : um_S} {σ' : um_S} (h0 : Nat) (a1 : Int32) (hh0 : um_h h0) (hX : um_X sh) (hf : f_X4_landFrom h0 a1 σ = some σ') : um_M l yX4_landFrom cX4_landFrom 3 none (3) (66) Z sh α σ [.ref (α h0), .int a1] none σ' :=
  um_start (by decide) (Nat.le_of_ble_eq_true rfl) (fun p e s m below meth c ls Cx hW hS hl => b_X4_landFrom h0 a1 hh0 hX hf Cx hW hS hl)
noncomputable def f_X4_landShips_l2 (h0 : Nat) : Nat → Int32 → um_S → Option (um_S)
  | 0, _, _ => none
  | n + 1, v1, σ =>
    if (σ.1 (20 * h0 + 0) 2) ≤ v1 then
    (some σ)
    else
    ((f_X5_get (20 * h0 + 0) v1 (1 : Int32) σ).bind fun x2 =>
    (if x2 = (σ.1 h0 12) then
    ((f_X4_landFrom h0 v1 σ).bind fun σ4 =>
    (f_X4_landShips_l2 h0 n (v1 + (1 : Int32)) σ4))
    else
    (f_X4_landShips_l2 h0 n (v1 + (1 : Int32)) σ)))
noncomputable def f_X4_landShips (h0 : Nat) (σ : um_S) : Option (um_S) :=
    (f_X4_landShips_l2 h0 um_N (0 : Int32) σ).bind fun σ1 =>
    (some σ1)
set_option maxRecDepth 100000 in
set_option maxHeartbeats 4000000 in
theorem t_X4_landShips_l2 {Q : State → Prop} {σo : um_S} (h0 : Nat) (hh0 : um_h h0) (hX : um_X sh) (Cx : um_C p s m meth c args cX4_landShips 2 none RX4 Z) (hE : ∀ (H : Heap) (locs : List Loc) (ls : Array Slot), um_W Z sh α σo H → va_S (um_D sh α) s.heap H locs → lv_has ls 2 [] → W p l e { frames := 4, cells := 0, slots := 0, locals := 88 } s m args below meth c H locs 0 0 Q (F0 m 40 ls [])) : ∀ (n : Nat) (v1 : Int32) (σ : um_S) (H : Heap) (locs : List Loc) (ls : Array Slot), f_X4_landShips_l2 h0 n v1 σ = some σo → um_W Z sh α σ H → va_S (um_D sh α) s.heap H locs → lv_has ls 2 [(0, .ref (α h0)), (1, .int v1)] → W p l e { frames := 4, cells := 0, slots := 0, locals := 88 } s m args below meth c H locs 0 0 Q (F0 m 2 ls []) := by
  have hx := Cx.1
  have hb := Cx.2.1
  have hown := Cx.2.2.2.2.1
  have hts := Cx.2.2.2.2.2.1
  intro n
  induction n with
  | zero =>
    intro v1 σ H locs ls hf hW hS hl
    cases hf
  | succ n ih =>
    intro v1 σ H locs ls hf hW hS hl
    rw [f_X4_landShips_l2] at hf
    refine lv_iload_n (pc := 2) hx hb dX4_landShips_2 rfl (lv_at hl 1 rfl) ?_
    refine lv_aload_n (pc := 3) hx hb dX4_landShips_3 rfl (lv_at hl 0 rfl) ?_
    refine gF_X4_14 (pc := 4) Cx hW (xs_shore hX hh0) rfl dX4_landShips_4 ?_
    refine gF_X4_100 (pc := 7) Cx hW (xs_tab hX (xs_ht hh0 0 rfl)) rfl dX4_landShips_7 ?_
    refine lv_icmp_ge (pc := 10) (tgt := 40) hx hb dX4_landShips_10 (by decide) (fun c1 => ?_) (fun c1 => ?_)
    · have hf := um_it c1 hf
      clear c1
      cases hf
      exact hE _ _ _ hW hS (lv_sub hl [] rfl)
    · have hf := um_ie c1 hf
      clear c1
      refine lv_aload_n (pc := 13) hx hb dX4_landShips_13 rfl (lv_at hl 0 rfl) ?_
      refine gF_X4_14 (pc := 14) Cx hW (xs_shore hX hh0) rfl dX4_landShips_14 ?_
      refine lv_iload_n (pc := 17) hx hb dX4_landShips_17 rfl (lv_at hl 1 rfl) ?_
      refine lv_iconst (pc := 18) (v := (1 : Int32)) hx hb dX4_landShips_18 (by decide) ?_
      obtain ⟨x2, hc1, hf⟩ := um_bi hf
      refine um_cVi (pc := 19) (As := [.int v1, .int (1 : Int32)]) (rest := []) Cx (c_X5_get (20 * h0 + 0) v1 (1 : Int32) (xs_ht hh0 0 rfl) hX hc1) kV_X5_get (Or.inl qM_X4_82) hW hS (xs_tab hX (xs_ht hh0 0 rfl)) rfl rfl hl rfl (Nat.le_of_ble_eq_true rfl) (Nat.le_of_ble_eq_true rfl) (Nat.le_of_ble_eq_true rfl) dX4_landShips_19 (Nat.le_refl _) (Nat.le_refl _) ?_
      clear hW hS hc1
      intro H locs hW hS
      refine lv_aload_n (pc := 22) hx hb dX4_landShips_22 rfl (lv_at hl 0 rfl) ?_
      refine gF_X4_64 (pc := 23) Cx hW (xs_shore hX hh0) rfl dX4_landShips_23 ?_
      refine lv_icmp_ne (pc := 26) (tgt := 34) hx hb dX4_landShips_26 (by decide) (fun c1 => ?_) (fun c1 => ?_)
      · have hf := um_ie c1 hf
        clear c1
        refine lv_iinc (pc := 34) (v := v1 + (1 : Int32)) (lv' := [(1, .int (v1 + (1 : Int32))), (0, .ref (α h0))]) hx hb dX4_landShips_34 hl (k := 1) rfl rfl (by decide) rfl ?_
        clear hl
        intro ls hl
        refine lv_goto (pc := 37) (tgt := 2) hx hb dX4_landShips_37 (by decide) ?_
        exact ih _ _ _ _ _ hf hW hS (lv_sub hl [1, 0] rfl)
      · have hf := um_it c1 hf
        clear c1
        refine lv_aload_n (pc := 29) hx hb dX4_landShips_29 rfl (lv_at hl 0 rfl) ?_
        refine lv_iload_n (pc := 30) hx hb dX4_landShips_30 rfl (lv_at hl 1 rfl) ?_
        obtain ⟨σ4, hc3, hf⟩ := um_bi hf
        refine um_cVv (pc := 31) (As := [.int v1]) (rest := []) Cx (c_X4_landFrom h0 v1 hh0 hX hc3) kV_X4_landFrom (Or.inl qM_X4_162) hW hS (xs_shore hX hh0) rfl rfl hl rfl (Nat.le_of_ble_eq_true rfl) (Nat.le_of_ble_eq_true rfl) (Nat.le_of_ble_eq_true rfl) dX4_landShips_31 (Nat.le_refl _) (Nat.le_refl _) ?_
        clear hW hS hc3
        intro H locs hW hS
        refine lv_iinc (pc := 34) (v := v1 + (1 : Int32)) (lv' := [(1, .int (v1 + (1 : Int32))), (0, .ref (α h0))]) hx hb dX4_landShips_34 hl (k := 1) rfl rfl (by decide) rfl ?_
        clear hl
        intro ls hl
        refine lv_goto (pc := 37) (tgt := 2) hx hb dX4_landShips_37 (by decide) ?_
        exact ih _ _ _ _ _ hf hW hS (lv_sub hl [1, 0] rfl)
set_option maxRecDepth 100000 in
set_option maxHeartbeats 4000000 in
theorem b_X4_landShips {H : Heap} {locs : List Loc} {ls : Array Slot} {σ : um_S} {σ' : um_S} (h0 : Nat) (hh0 : um_h h0) (hX : um_X sh) (hf : f_X4_landShips h0 σ = some σ') (Cx : um_C p s m meth c args cX4_landShips 2 none RX4 Z) (hW : um_W Z sh α σ H) (hS : va_S (um_D sh α) s.heap H locs) (hl : lv_has ls 2 [(0, .ref (α h0))]) : um_G p l e (4) (88) s m args below meth c Z sh α σ' none H locs (F0 m 0 ls []) := by
  have hx := Cx.1
  have hb := Cx.2.1
  have hown := Cx.2.2.2.2.1
  have hts := Cx.2.2.2.2.2.1
  rw [f_X4_landShips] at hf
  refine lv_iconst (pc := 0) (v := (0 : Int32)) hx hb dX4_landShips_0 (by decide) ?_
  refine lv_istore_n (pc := 1) (lv' := [(1, .int (0 : Int32)), (0, .ref (α h0))]) hx hb dX4_landShips_1 rfl hl (by decide) rfl ?_
  clear hl
  intro ls hl
  obtain ⟨σ1, hc2, hf⟩ := um_bi hf
  refine t_X4_landShips_l2 h0 hh0 hX Cx ?_ um_N _ _ _ _ _ hc2 hW hS (lv_sub hl [1, 0] rfl)
  clear hW hS hl hc2
  intro H locs ls hW hS hl
  exact um_vret (pc := 40) Cx hW hS hf dX4_landShips_40
theorem c_X4_landShips {σ : um_S} {σ' : um_S} (h0 : Nat) (hh0 : um_h h0) (hX : um_X sh) (hf : f_X4_landShips h0 σ = some σ') : um_M l yX4_landShips cX4_landShips 2 none (4) (88) Z sh α σ [.ref (α h0)] none σ' :=
  um_start (by decide) (Nat.le_of_ble_eq_true rfl) (fun p e s m below meth c ls Cx hW hS hl => b_X4_landShips h0 hh0 hX hf Cx hW hS hl)
noncomputable def f_X4_liveMarks_l4 (h0 : Nat) (σ : um_S) : Nat → Int32 → Int32 → Option (Int32)
  | 0, _, _ => none
  | n + 1, v1, v2 =>
    if (σ.1 (20 * h0 + 3) 2) ≤ v2 then
    (some v1)
    else
    ((f_X5_get (20 * h0 + 3) v2 (3 : Int32) σ).bind fun x2 =>
    (if x2 = 0 then
    (f_X4_liveMarks_l4 h0 σ n (v1 + (1 : Int32)) (v2 + (1 : Int32)))
    else
    (f_X4_liveMarks_l4 h0 σ n v1 (v2 + (1 : Int32)))))
noncomputable def f_X4_liveMarks (h0 : Nat) (σ : um_S) : Option (Int32) :=
    (f_X4_liveMarks_l4 h0 σ um_N (0 : Int32) (0 : Int32)).bind fun x1 =>
    (some x1)
set_option maxRecDepth 100000 in
set_option maxHeartbeats 4000000 in
theorem t_X4_liveMarks_l4 {Q : State → Prop} {o1 : Int32} {σ : um_S} (h0 : Nat) (hh0 : um_h h0) (hX : um_X sh) (Cx : um_C p s m meth c args cX4_liveMarks 3 (some FieldType.int) RX4 Z) (hE : ∀ (H : Heap) (locs : List Loc) (ls : Array Slot), um_W Z sh α σ H → va_S (um_D sh α) s.heap H locs → lv_has ls 3 [(1, .int o1)] → W p l e { frames := 1, cells := 0, slots := 0, locals := 24 } s m args below meth c H locs 0 0 Q (F0 m 36 ls [])) : ∀ (n : Nat) (v1 : Int32) (v2 : Int32) (H : Heap) (locs : List Loc) (ls : Array Slot), f_X4_liveMarks_l4 h0 σ n v1 v2 = some o1 → um_W Z sh α σ H → va_S (um_D sh α) s.heap H locs → lv_has ls 3 [(0, .ref (α h0)), (1, .int v1), (2, .int v2)] → W p l e { frames := 1, cells := 0, slots := 0, locals := 24 } s m args below meth c H locs 0 0 Q (F0 m 4 ls []) := by
  have hx := Cx.1
  have hb := Cx.2.1
  have hown := Cx.2.2.2.2.1
  have hts := Cx.2.2.2.2.2.1
  intro n
  induction n with
  | zero =>
    intro v1 v2 H locs ls hf hW hS hl
    cases hf
  | succ n ih =>
    intro v1 v2 H locs ls hf hW hS hl
    rw [f_X4_liveMarks_l4] at hf
    refine lv_iload_n (pc := 4) hx hb dX4_liveMarks_4 rfl (lv_at hl 2 rfl) ?_
    refine lv_aload_n (pc := 5) hx hb dX4_liveMarks_5 rfl (lv_at hl 0 rfl) ?_
    refine gF_X4_26 (pc := 6) Cx hW (xs_shore hX hh0) rfl dX4_liveMarks_6 ?_
    refine gF_X4_100 (pc := 9) Cx hW (xs_tab hX (xs_ht hh0 3 rfl)) rfl dX4_liveMarks_9 ?_
    refine lv_icmp_ge (pc := 12) (tgt := 36) hx hb dX4_liveMarks_12 (by decide) (fun c1 => ?_) (fun c1 => ?_)
    · have hf := um_it c1 hf
      clear c1
      cases hf
      exact hE _ _ _ hW hS (lv_sub hl [1] rfl)
    · have hf := um_ie c1 hf
      clear c1
      refine lv_aload_n (pc := 15) hx hb dX4_liveMarks_15 rfl (lv_at hl 0 rfl) ?_
      refine gF_X4_26 (pc := 16) Cx hW (xs_shore hX hh0) rfl dX4_liveMarks_16 ?_
      refine lv_iload_n (pc := 19) hx hb dX4_liveMarks_19 rfl (lv_at hl 2 rfl) ?_
      refine lv_iconst (pc := 20) (v := (3 : Int32)) hx hb dX4_liveMarks_20 (by decide) ?_
      obtain ⟨x2, hc1, hf⟩ := um_bi hf
      refine um_cVi (pc := 21) (As := [.int v2, .int (3 : Int32)]) (rest := []) Cx (c_X5_get (20 * h0 + 3) v2 (3 : Int32) (xs_ht hh0 3 rfl) hX hc1) kV_X5_get (Or.inl qM_X4_82) hW hS (xs_tab hX (xs_ht hh0 3 rfl)) rfl rfl hl rfl (Nat.le_of_ble_eq_true rfl) (Nat.le_of_ble_eq_true rfl) (Nat.le_of_ble_eq_true rfl) dX4_liveMarks_21 (Nat.le_refl _) (Nat.le_refl _) ?_
      clear hW hS hc1
      intro H locs hW hS
      refine lv_if_ne (pc := 24) (tgt := 30) hx hb dX4_liveMarks_24 (by decide) (fun c1 => ?_) (fun c1 => ?_)
      · have hf := um_ie c1 hf
        clear c1
        refine lv_iinc (pc := 30) (v := v2 + (1 : Int32)) (lv' := [(2, .int (v2 + (1 : Int32))), (0, .ref (α h0)), (1, .int v1)]) hx hb dX4_liveMarks_30 hl (k := 2) rfl rfl (by decide) rfl ?_
        clear hl
        intro ls hl
        refine lv_goto (pc := 33) (tgt := 4) hx hb dX4_liveMarks_33 (by decide) ?_
        exact ih _ _ _ _ _ hf hW hS (lv_sub hl [1, 2, 0] rfl)
      · have hf := um_it c1 hf
        clear c1
        refine lv_iinc (pc := 27) (v := v1 + (1 : Int32)) (lv' := [(1, .int (v1 + (1 : Int32))), (0, .ref (α h0)), (2, .int v2)]) hx hb dX4_liveMarks_27 hl (k := 1) rfl rfl (by decide) rfl ?_
        clear hl
        intro ls hl
        refine lv_iinc (pc := 30) (v := v2 + (1 : Int32)) (lv' := [(2, .int (v2 + (1 : Int32))), (1, .int (v1 + (1 : Int32))), (0, .ref (α h0))]) hx hb dX4_liveMarks_30 hl (k := 2) rfl rfl (by decide) rfl ?_
        clear hl
        intro ls hl
        refine lv_goto (pc := 33) (tgt := 4) hx hb dX4_liveMarks_33 (by decide) ?_
        exact ih _ _ _ _ _ hf hW hS (lv_sub hl [2, 1, 0] rfl)
set_option maxRecDepth 100000 in
set_option maxHeartbeats 4000000 in
theorem b_X4_liveMarks {H : Heap} {locs : List Loc} {ls : Array Slot} {σ : um_S} {r : Int32} (h0 : Nat) (hh0 : um_h h0) (hX : um_X sh) (hf : f_X4_liveMarks h0 σ = some r) (Cx : um_C p s m meth c args cX4_liveMarks 3 (some FieldType.int) RX4 Z) (hW : um_W Z sh α σ H) (hS : va_S (um_D sh α) s.heap H locs) (hl : lv_has ls 3 [(0, .ref (α h0))]) : um_G p l e (1) (24) s m args below meth c Z sh α σ (some (.int r)) H locs (F0 m 0 ls []) := by
  have hx := Cx.1
  have hb := Cx.2.1
  have hown := Cx.2.2.2.2.1
  have hts := Cx.2.2.2.2.2.1
  rw [f_X4_liveMarks] at hf
  refine lv_iconst (pc := 0) (v := (0 : Int32)) hx hb dX4_liveMarks_0 (by decide) ?_
  refine lv_istore_n (pc := 1) (lv' := [(1, .int (0 : Int32)), (0, .ref (α h0))]) hx hb dX4_liveMarks_1 rfl hl (by decide) rfl ?_
  clear hl
  intro ls hl
  refine lv_iconst (pc := 2) (v := (0 : Int32)) hx hb dX4_liveMarks_2 (by decide) ?_
  refine lv_istore_n (pc := 3) (lv' := [(2, .int (0 : Int32)), (1, .int (0 : Int32)), (0, .ref (α h0))]) hx hb dX4_liveMarks_3 rfl hl (by decide) rfl ?_
  clear hl
  intro ls hl
  obtain ⟨x1, hc2, hf⟩ := um_bi hf
  refine t_X4_liveMarks_l4 h0 hh0 hX Cx ?_ um_N _ _ _ _ _ hc2 hW hS (lv_sub hl [2, 1, 0] rfl)
  clear hW hS hl hc2
  intro H locs ls hW hS hl
  refine lv_iload_n (pc := 36) hx hb dX4_liveMarks_36 rfl (lv_at hl 0 rfl) ?_
  exact um_iretR (pc := 37) Cx hW hS hf dX4_liveMarks_37
theorem c_X4_liveMarks {σ : um_S} {r : Int32} (h0 : Nat) (hh0 : um_h h0) (hX : um_X sh) (hf : f_X4_liveMarks h0 σ = some r) : um_M l yX4_liveMarks cX4_liveMarks 3 (some FieldType.int) (1) (24) Z sh α σ [.ref (α h0)] (some (.int r)) σ :=
  um_start (by decide) (Nat.le_of_ble_eq_true rfl) (fun p e s m below meth c ls Cx hW hS hl => b_X4_liveMarks h0 hh0 hX hf Cx hW hS hl)
noncomputable def f_X4_livingOfKind_l4 (h0 : Nat) (v1 : Int32) (σ : um_S) : Nat → Int32 → Int32 → Option (Int32)
  | 0, _, _ => none
  | n + 1, v2, v3 =>
    if (σ.1 (20 * h0 + 1) 2) ≤ v3 then
    (some v2)
    else
    ((f_X4_isDead h0 v3 σ).bind fun x2 =>
    (if (um_b x2) = 0 then
    ((f_X5_get (20 * h0 + 1) v3 (5 : Int32) σ).bind fun x4 =>
    (if x4 = v1 then
    (f_X4_livingOfKind_l4 h0 v1 σ n (v2 + (1 : Int32)) (v3 + (1 : Int32)))
    else
    (f_X4_livingOfKind_l4 h0 v1 σ n v2 (v3 + (1 : Int32)))))
    else
    (f_X4_livingOfKind_l4 h0 v1 σ n v2 (v3 + (1 : Int32)))))
noncomputable def f_X4_livingOfKind (h0 : Nat) (a1 : Int32) (σ : um_S) : Option (Int32) :=
    (f_X4_livingOfKind_l4 h0 a1 σ um_N (0 : Int32) (0 : Int32)).bind fun x1 =>
    (some x1)
set_option maxRecDepth 100000 in
set_option maxHeartbeats 4000000 in
theorem t_X4_livingOfKind_l4 {Q : State → Prop} {o2 : Int32} {σ : um_S} (h0 : Nat) (v1 : Int32) (hh0 : um_h h0) (hX : um_X sh) (Cx : um_C p s m meth c args cX4_livingOfKind 4 (some FieldType.int) RX4 Z) (hE : ∀ (H : Heap) (locs : List Loc) (ls : Array Slot), um_W Z sh α σ H → va_S (um_D sh α) s.heap H locs → lv_has ls 4 [(2, .int o2)] → W p l e { frames := 2, cells := 0, slots := 0, locals := 45 } s m args below meth c H locs 0 0 Q (F0 m 45 ls [])) : ∀ (n : Nat) (v2 : Int32) (v3 : Int32) (H : Heap) (locs : List Loc) (ls : Array Slot), f_X4_livingOfKind_l4 h0 v1 σ n v2 v3 = some o2 → um_W Z sh α σ H → va_S (um_D sh α) s.heap H locs → lv_has ls 4 [(0, .ref (α h0)), (1, .int v1), (2, .int v2), (3, .int v3)] → W p l e { frames := 2, cells := 0, slots := 0, locals := 45 } s m args below meth c H locs 0 0 Q (F0 m 4 ls []) := by
  have hx := Cx.1
  have hb := Cx.2.1
  have hown := Cx.2.2.2.2.1
  have hts := Cx.2.2.2.2.2.1
  intro n
  induction n with
  | zero =>
    intro v2 v3 H locs ls hf hW hS hl
    cases hf
  | succ n ih =>
    intro v2 v3 H locs ls hf hW hS hl
    rw [f_X4_livingOfKind_l4] at hf
    refine lv_iload_n (pc := 4) hx hb dX4_livingOfKind_4 rfl (lv_at hl 3 rfl) ?_
    refine lv_aload_n (pc := 5) hx hb dX4_livingOfKind_5 rfl (lv_at hl 0 rfl) ?_
    refine gF_X4_20 (pc := 6) Cx hW (xs_shore hX hh0) rfl dX4_livingOfKind_6 ?_
    refine gF_X4_100 (pc := 9) Cx hW (xs_tab hX (xs_ht hh0 1 rfl)) rfl dX4_livingOfKind_9 ?_
    refine lv_icmp_ge (pc := 12) (tgt := 45) hx hb dX4_livingOfKind_12 (by decide) (fun c1 => ?_) (fun c1 => ?_)
    · have hf := um_it c1 hf
      clear c1
      cases hf
      exact hE _ _ _ hW hS (lv_sub hl [2] rfl)
    · have hf := um_ie c1 hf
      clear c1
      refine lv_aload_n (pc := 15) hx hb dX4_livingOfKind_15 rfl (lv_at hl 0 rfl) ?_
      refine lv_iload_n (pc := 16) hx hb dX4_livingOfKind_16 rfl (lv_at hl 3 rfl) ?_
      obtain ⟨x2, hc1, hf⟩ := um_bi hf
      refine um_cVi (pc := 17) (As := [.int v3]) (rest := []) Cx (c_X4_isDead h0 v3 hh0 hX hc1) kV_X4_isDead (Or.inl qM_X4_86) hW hS (xs_shore hX hh0) rfl rfl hl rfl (Nat.le_of_ble_eq_true rfl) (Nat.le_of_ble_eq_true rfl) (Nat.le_of_ble_eq_true rfl) dX4_livingOfKind_17 (Nat.le_refl _) (Nat.le_refl _) ?_
      clear hW hS hc1
      intro H locs hW hS
      refine lv_if_ne (pc := 20) (tgt := 39) hx hb dX4_livingOfKind_20 (by decide) (fun c1 => ?_) (fun c1 => ?_)
      · have hf := um_ie c1 hf
        clear c1
        refine lv_iinc (pc := 39) (v := v3 + (1 : Int32)) (lv' := [(3, .int (v3 + (1 : Int32))), (0, .ref (α h0)), (1, .int v1), (2, .int v2)]) hx hb dX4_livingOfKind_39 hl (k := 3) rfl rfl (by decide) rfl ?_
        clear hl
        intro ls hl
        refine lv_goto (pc := 42) (tgt := 4) hx hb dX4_livingOfKind_42 (by decide) ?_
        exact ih _ _ _ _ _ hf hW hS (lv_sub hl [1, 2, 3, 0] rfl)
      · have hf := um_it c1 hf
        clear c1
        refine lv_aload_n (pc := 23) hx hb dX4_livingOfKind_23 rfl (lv_at hl 0 rfl) ?_
        refine gF_X4_20 (pc := 24) Cx hW (xs_shore hX hh0) rfl dX4_livingOfKind_24 ?_
        refine lv_iload_n (pc := 27) hx hb dX4_livingOfKind_27 rfl (lv_at hl 3 rfl) ?_
        refine lv_iconst (pc := 28) (v := (5 : Int32)) hx hb dX4_livingOfKind_28 (by decide) ?_
        obtain ⟨x4, hc3, hf⟩ := um_bi hf
        refine um_cVi (pc := 29) (As := [.int v3, .int (5 : Int32)]) (rest := []) Cx (c_X5_get (20 * h0 + 1) v3 (5 : Int32) (xs_ht hh0 1 rfl) hX hc3) kV_X5_get (Or.inl qM_X4_82) hW hS (xs_tab hX (xs_ht hh0 1 rfl)) rfl rfl hl rfl (Nat.le_of_ble_eq_true rfl) (Nat.le_of_ble_eq_true rfl) (Nat.le_of_ble_eq_true rfl) dX4_livingOfKind_29 (Nat.le_refl _) (Nat.le_refl _) ?_
        clear hW hS hc3
        intro H locs hW hS
        refine lv_iload_n (pc := 32) hx hb dX4_livingOfKind_32 rfl (lv_at hl 1 rfl) ?_
        refine lv_icmp_ne (pc := 33) (tgt := 39) hx hb dX4_livingOfKind_33 (by decide) (fun c1 => ?_) (fun c1 => ?_)
        · have hf := um_ie c1 hf
          clear c1
          refine lv_iinc (pc := 39) (v := v3 + (1 : Int32)) (lv' := [(3, .int (v3 + (1 : Int32))), (0, .ref (α h0)), (1, .int v1), (2, .int v2)]) hx hb dX4_livingOfKind_39 hl (k := 3) rfl rfl (by decide) rfl ?_
          clear hl
          intro ls hl
          refine lv_goto (pc := 42) (tgt := 4) hx hb dX4_livingOfKind_42 (by decide) ?_
          exact ih _ _ _ _ _ hf hW hS (lv_sub hl [1, 2, 3, 0] rfl)
        · have hf := um_it c1 hf
          clear c1
          refine lv_iinc (pc := 36) (v := v2 + (1 : Int32)) (lv' := [(2, .int (v2 + (1 : Int32))), (0, .ref (α h0)), (1, .int v1), (3, .int v3)]) hx hb dX4_livingOfKind_36 hl (k := 2) rfl rfl (by decide) rfl ?_
          clear hl
          intro ls hl
          refine lv_iinc (pc := 39) (v := v3 + (1 : Int32)) (lv' := [(3, .int (v3 + (1 : Int32))), (2, .int (v2 + (1 : Int32))), (0, .ref (α h0)), (1, .int v1)]) hx hb dX4_livingOfKind_39 hl (k := 3) rfl rfl (by decide) rfl ?_
          clear hl
          intro ls hl
          refine lv_goto (pc := 42) (tgt := 4) hx hb dX4_livingOfKind_42 (by decide) ?_
          exact ih _ _ _ _ _ hf hW hS (lv_sub hl [2, 3, 1, 0] rfl)
set_option maxRecDepth 100000 in
set_option maxHeartbeats 4000000 in
theorem b_X4_livingOfKind {H : Heap} {locs : List Loc} {ls : Array Slot} {σ : um_S} {r : Int32} (h0 : Nat) (a1 : Int32) (hh0 : um_h h0) (hX : um_X sh) (hf : f_X4_livingOfKind h0 a1 σ = some r) (Cx : um_C p s m meth c args cX4_livingOfKind 4 (some FieldType.int) RX4 Z) (hW : um_W Z sh α σ H) (hS : va_S (um_D sh α) s.heap H locs) (hl : lv_has ls 4 [(0, .ref (α h0)), (1, .int a1)]) : um_G p l e (2) (45) s m args below meth c Z sh α σ (some (.int r)) H locs (F0 m 0 ls []) := by
  have hx := Cx.1
  have hb := Cx.2.1
  have hown := Cx.2.2.2.2.1
  have hts := Cx.2.2.2.2.2.1
  rw [f_X4_livingOfKind] at hf
  refine lv_iconst (pc := 0) (v := (0 : Int32)) hx hb dX4_livingOfKind_0 (by decide) ?_
  refine lv_istore_n (pc := 1) (lv' := [(2, .int (0 : Int32)), (0, .ref (α h0)), (1, .int a1)]) hx hb dX4_livingOfKind_1 rfl hl (by decide) rfl ?_
  clear hl
  intro ls hl
  refine lv_iconst (pc := 2) (v := (0 : Int32)) hx hb dX4_livingOfKind_2 (by decide) ?_
  refine lv_istore_n (pc := 3) (lv' := [(3, .int (0 : Int32)), (2, .int (0 : Int32)), (0, .ref (α h0)), (1, .int a1)]) hx hb dX4_livingOfKind_3 rfl hl (by decide) rfl ?_
  clear hl
  intro ls hl
  obtain ⟨x1, hc2, hf⟩ := um_bi hf
  refine t_X4_livingOfKind_l4 h0 a1 hh0 hX Cx ?_ um_N _ _ _ _ _ hc2 hW hS (lv_sub hl [2, 3, 1, 0] rfl)
  clear hW hS hl hc2
  intro H locs ls hW hS hl
  refine lv_iload_n (pc := 45) hx hb dX4_livingOfKind_45 rfl (lv_at hl 0 rfl) ?_
  exact um_iretR (pc := 46) Cx hW hS hf dX4_livingOfKind_46
theorem c_X4_livingOfKind {σ : um_S} {r : Int32} (h0 : Nat) (a1 : Int32) (hh0 : um_h h0) (hX : um_X sh) (hf : f_X4_livingOfKind h0 a1 σ = some r) : um_M l yX4_livingOfKind cX4_livingOfKind 4 (some FieldType.int) (2) (45) Z sh α σ [.ref (α h0), .int a1] (some (.int r)) σ :=
  um_start (by decide) (Nat.le_of_ble_eq_true rfl) (fun p e s m below meth c ls Cx hW hS hl => b_X4_livingOfKind h0 a1 hh0 hX hf Cx hW hS hl)
noncomputable def f_X4_mayBe (h0 : Nat) (a1 : Int32) (a2 : Int32) (σ : um_S) : Option (Bool) :=
    (f_X5_get (20 * h0 + 5) a1 (0 : Int32) σ).bind fun x2 =>
    ((f_X5_get (20 * h0 + 5) a1 (1 : Int32) σ).bind fun x4 =>
    ((f_X5_get (20 * h0 + 5) a1 (2 : Int32) σ).bind fun x6 =>
    ((f_X5_get (20 * h0 + 5) a1 (3 : Int32) σ).bind fun x8 =>
    (um_let (fun (_u : Unit) =>
    (um_let (fun (_u : Unit) =>
    (um_let (fun (_u : Unit) =>
    ((f_X5_get (20 * h0 + 1) a2 (3 : Int32) σ).bind fun x13 =>
    (if (x8 &&& x13) = x8 then
    (some true)
    else
    (some false)))) fun k11 =>
    (if x6 = 0 then
    (k11 ())
    else
    ((f_X5_get (20 * h0 + 1) a2 (2 : Int32) σ).bind fun x15 =>
    (if (if 0 ≤ (x6 - x15) then (x6 - x15) else 0 - (x6 - x15)) ≤ (2 : Int32) then
    (k11 ())
    else
    (some false)))))) fun k10 =>
    (if x4 = (6 : Int32) then
    (k10 ())
    else
    ((f_X5_get (20 * h0 + 1) a2 (1 : Int32) σ).bind fun x17 =>
    (if x4 = x17 then
    (k10 ())
    else
    (some false)))))) fun k9 =>
    (if x2 = (8 : Int32) then
    (k9 ())
    else
    ((f_X5_get (20 * h0 + 1) a2 (0 : Int32) σ).bind fun x19 =>
    (if x2 = x19 then
    (k9 ())
    else
    (some false))))))))
set_option maxRecDepth 100000 in
set_option maxHeartbeats 4000000 in
theorem b_X4_mayBe {H : Heap} {locs : List Loc} {ls : Array Slot} {σ : um_S} {r : Bool} (h0 : Nat) (a1 : Int32) (a2 : Int32) (hh0 : um_h h0) (hX : um_X sh) (hf : f_X4_mayBe h0 a1 a2 σ = some r) (Cx : um_C p s m meth c args cX4_mayBe 7 (some FieldType.boolean) RX4 Z) (hW : um_W Z sh α σ H) (hS : va_S (um_D sh α) s.heap H locs) (hl : lv_has ls 7 [(0, .ref (α h0)), (1, .int a1), (2, .int a2)]) : um_G p l e (1) (30) s m args below meth c Z sh α σ (some (.int (um_b r))) H locs (F0 m 0 ls []) := by
  have hx := Cx.1
  have hb := Cx.2.1
  have hown := Cx.2.2.2.2.1
  have hts := Cx.2.2.2.2.2.1
  rw [f_X4_mayBe] at hf
  refine lv_aload_n (pc := 0) hx hb dX4_mayBe_0 rfl (lv_at hl 0 rfl) ?_
  refine gF_X4_32 (pc := 1) Cx hW (xs_shore hX hh0) rfl dX4_mayBe_1 ?_
  refine lv_iload_n (pc := 4) hx hb dX4_mayBe_4 rfl (lv_at hl 1 rfl) ?_
  refine lv_iconst (pc := 5) (v := (0 : Int32)) hx hb dX4_mayBe_5 (by decide) ?_
  obtain ⟨x2, hc1, hf⟩ := um_bi hf
  refine um_cVi (pc := 6) (As := [.int a1, .int (0 : Int32)]) (rest := []) Cx (c_X5_get (20 * h0 + 5) a1 (0 : Int32) (xs_ht hh0 5 rfl) hX hc1) kV_X5_get (Or.inl qM_X4_82) hW hS (xs_tab hX (xs_ht hh0 5 rfl)) rfl rfl hl rfl (Nat.le_of_ble_eq_true rfl) (Nat.le_of_ble_eq_true rfl) (Nat.le_of_ble_eq_true rfl) dX4_mayBe_6 (Nat.le_refl _) (Nat.le_refl _) ?_
  clear hW hS hc1
  intro H locs hW hS
  refine lv_istore_n (pc := 9) (lv' := [(3, .int x2), (0, .ref (α h0)), (1, .int a1), (2, .int a2)]) hx hb dX4_mayBe_9 rfl hl (by decide) rfl ?_
  clear hl
  intro ls hl
  refine lv_aload_n (pc := 10) hx hb dX4_mayBe_10 rfl (lv_at hl 1 rfl) ?_
  refine gF_X4_32 (pc := 11) Cx hW (xs_shore hX hh0) rfl dX4_mayBe_11 ?_
  refine lv_iload_n (pc := 14) hx hb dX4_mayBe_14 rfl (lv_at hl 2 rfl) ?_
  refine lv_iconst (pc := 15) (v := (1 : Int32)) hx hb dX4_mayBe_15 (by decide) ?_
  obtain ⟨x4, hc3, hf⟩ := um_bi hf
  refine um_cVi (pc := 16) (As := [.int a1, .int (1 : Int32)]) (rest := []) Cx (c_X5_get (20 * h0 + 5) a1 (1 : Int32) (xs_ht hh0 5 rfl) hX hc3) kV_X5_get (Or.inl qM_X4_82) hW hS (xs_tab hX (xs_ht hh0 5 rfl)) rfl rfl hl rfl (Nat.le_of_ble_eq_true rfl) (Nat.le_of_ble_eq_true rfl) (Nat.le_of_ble_eq_true rfl) dX4_mayBe_16 (Nat.le_refl _) (Nat.le_refl _) ?_
  clear hW hS hc3
  intro H locs hW hS
  refine lv_istore (pc := 19) (lv' := [(4, .int x4), (3, .int x2), (0, .ref (α h0)), (1, .int a1), (2, .int a2)]) hx hb dX4_mayBe_19 hl (by decide) rfl ?_
  clear hl
  intro ls hl
  refine lv_aload_n (pc := 21) hx hb dX4_mayBe_21 rfl (lv_at hl 2 rfl) ?_
  refine gF_X4_32 (pc := 22) Cx hW (xs_shore hX hh0) rfl dX4_mayBe_22 ?_
  refine lv_iload_n (pc := 25) hx hb dX4_mayBe_25 rfl (lv_at hl 3 rfl) ?_
  refine lv_iconst (pc := 26) (v := (2 : Int32)) hx hb dX4_mayBe_26 (by decide) ?_
  obtain ⟨x6, hc5, hf⟩ := um_bi hf
  refine um_cVi (pc := 27) (As := [.int a1, .int (2 : Int32)]) (rest := []) Cx (c_X5_get (20 * h0 + 5) a1 (2 : Int32) (xs_ht hh0 5 rfl) hX hc5) kV_X5_get (Or.inl qM_X4_82) hW hS (xs_tab hX (xs_ht hh0 5 rfl)) rfl rfl hl rfl (Nat.le_of_ble_eq_true rfl) (Nat.le_of_ble_eq_true rfl) (Nat.le_of_ble_eq_true rfl) dX4_mayBe_27 (Nat.le_refl _) (Nat.le_refl _) ?_
  clear hW hS hc5
  intro H locs hW hS
  refine lv_istore (pc := 30) (lv' := [(5, .int x6), (4, .int x4), (3, .int x2), (0, .ref (α h0)), (1, .int a1), (2, .int a2)]) hx hb dX4_mayBe_30 hl (by decide) rfl ?_
  clear hl
  intro ls hl
  refine lv_aload_n (pc := 32) hx hb dX4_mayBe_32 rfl (lv_at hl 3 rfl) ?_
  refine gF_X4_32 (pc := 33) Cx hW (xs_shore hX hh0) rfl dX4_mayBe_33 ?_
  refine lv_iload_n (pc := 36) hx hb dX4_mayBe_36 rfl (lv_at hl 4 rfl) ?_
  refine lv_iconst (pc := 37) (v := (3 : Int32)) hx hb dX4_mayBe_37 (by decide) ?_
  obtain ⟨x8, hc7, hf⟩ := um_bi hf
  refine um_cVi (pc := 38) (As := [.int a1, .int (3 : Int32)]) (rest := []) Cx (c_X5_get (20 * h0 + 5) a1 (3 : Int32) (xs_ht hh0 5 rfl) hX hc7) kV_X5_get (Or.inl qM_X4_82) hW hS (xs_tab hX (xs_ht hh0 5 rfl)) rfl rfl hl rfl (Nat.le_of_ble_eq_true rfl) (Nat.le_of_ble_eq_true rfl) (Nat.le_of_ble_eq_true rfl) dX4_mayBe_38 (Nat.le_refl _) (Nat.le_refl _) ?_
  clear hW hS hc7
  intro H locs hW hS
  refine lv_istore (pc := 41) (lv' := [(6, .int x8), (5, .int x6), (4, .int x4), (3, .int x2), (0, .ref (α h0)), (1, .int a1), (2, .int a2)]) hx hb dX4_mayBe_41 hl (by decide) rfl ?_
  clear hl
  intro ls hl
  refine lv_iload_n (pc := 43) hx hb dX4_mayBe_43 rfl (lv_at hl 3 rfl) ?_
  refine lv_bipush (pc := 44) (v := (8 : Int32)) hx hb dX4_mayBe_44 (by decide) ?_
  obtain ⟨k9, hk9, hf⟩ := um_j1 hf
  have J9 : ∀ (_u : Unit), k9 _u = some r → ∀ (H : Heap) (locs : List Loc) (ls : Array Slot), um_W Z sh α σ H → va_S (um_D sh α) s.heap H locs → lv_has ls 7 [(0, .ref (α h0)), (2, .int a2), (4, .int x4), (5, .int x6), (6, .int x8)] → um_G p l e (1) (30) s m args below meth c Z sh α σ (some (.int (um_b r))) H locs (F0 m 64 ls []) := by
    intro _u hf H locs ls hW hS hl
    rw [hk9] at hf
    refine lv_iload (pc := 64) hx hb dX4_mayBe_64 (lv_at hl 2 rfl) ?_
    refine lv_bipush (pc := 66) (v := (6 : Int32)) hx hb dX4_mayBe_66 (by decide) ?_
    obtain ⟨k10, hk10, hf⟩ := um_j1 hf
    have J10 : ∀ (_u : Unit), k10 _u = some r → ∀ (H : Heap) (locs : List Loc) (ls : Array Slot), um_W Z sh α σ H → va_S (um_D sh α) s.heap H locs → lv_has ls 7 [(0, .ref (α h0)), (2, .int a2), (5, .int x6), (6, .int x8)] → um_G p l e (1) (30) s m args below meth c Z sh α σ (some (.int (um_b r))) H locs (F0 m 87 ls []) := by
      intro _u hf H locs ls hW hS hl
      rw [hk10] at hf
      refine lv_iload (pc := 87) hx hb dX4_mayBe_87 (lv_at hl 2 rfl) ?_
      obtain ⟨k11, hk11, hf⟩ := um_j1 hf
      have J11 : ∀ (_u : Unit), k11 _u = some r → ∀ (H : Heap) (locs : List Loc) (ls : Array Slot), um_W Z sh α σ H → va_S (um_D sh α) s.heap H locs → lv_has ls 7 [(0, .ref (α h0)), (2, .int a2), (6, .int x8)] → um_G p l e (1) (30) s m args below meth c Z sh α σ (some (.int (um_b r))) H locs (F0 m 113 ls []) := by
        intro _u hf H locs ls hW hS hl
        rw [hk11] at hf
        refine lv_iload (pc := 113) hx hb dX4_mayBe_113 (lv_at hl 2 rfl) ?_
        refine lv_aload_n (pc := 115) hx hb dX4_mayBe_115 rfl (lv_at hl 0 rfl) ?_
        refine gF_X4_20 (pc := 116) Cx hW (xs_shore hX hh0) rfl dX4_mayBe_116 ?_
        refine lv_iload_n (pc := 119) hx hb dX4_mayBe_119 rfl (lv_at hl 1 rfl) ?_
        refine lv_iconst (pc := 120) (v := (3 : Int32)) hx hb dX4_mayBe_120 (by decide) ?_
        obtain ⟨x13, hc12, hf⟩ := um_bi hf
        refine um_cVi (pc := 121) (As := [.int a2, .int (3 : Int32)]) (rest := [.int x8]) Cx (c_X5_get (20 * h0 + 1) a2 (3 : Int32) (xs_ht hh0 1 rfl) hX hc12) kV_X5_get (Or.inl qM_X4_82) hW hS (xs_tab hX (xs_ht hh0 1 rfl)) rfl rfl hl rfl (Nat.le_of_ble_eq_true rfl) (Nat.le_of_ble_eq_true rfl) (Nat.le_of_ble_eq_true rfl) dX4_mayBe_121 (Nat.le_refl _) (Nat.le_refl _) ?_
        clear hW hS hc12
        intro H locs hW hS
        refine lv_iand (pc := 124) hx hb dX4_mayBe_124 ?_
        refine lv_iload (pc := 125) hx hb dX4_mayBe_125 (lv_at hl 2 rfl) ?_
        refine lv_icmp_ne (pc := 127) (tgt := 134) hx hb dX4_mayBe_127 (by decide) (fun c1 => ?_) (fun c1 => ?_)
        · have hf := um_ie c1 hf
          clear c1
          refine lv_iconst (pc := 134) (v := (0 : Int32)) hx hb dX4_mayBe_134 (by decide) ?_
          exact um_zretR (pc := 135) Cx hW hS hf rfl dX4_mayBe_135
        · have hf := um_it c1 hf
          clear c1
          refine lv_iconst (pc := 130) (v := (1 : Int32)) hx hb dX4_mayBe_130 (by decide) ?_
          refine lv_goto (pc := 131) (tgt := 135) hx hb dX4_mayBe_131 (by decide) ?_
          exact um_zretR (pc := 135) Cx hW hS hf rfl dX4_mayBe_135
      refine lv_if_eq (pc := 89) (tgt := 113) hx hb dX4_mayBe_89 (by decide) (fun c1 => ?_) (fun c1 => ?_)
      · have hf := um_it c1 hf
        clear c1
        exact J11 () hf _ _ _ hW hS (lv_sub hl [0, 1, 3] rfl)
      · have hf := um_ie c1 hf
        clear c1
        refine lv_iload (pc := 92) hx hb dX4_mayBe_92 (lv_at hl 2 rfl) ?_
        refine lv_aload_n (pc := 94) hx hb dX4_mayBe_94 rfl (lv_at hl 0 rfl) ?_
        refine gF_X4_20 (pc := 95) Cx hW (xs_shore hX hh0) rfl dX4_mayBe_95 ?_
        refine lv_iload_n (pc := 98) hx hb dX4_mayBe_98 rfl (lv_at hl 1 rfl) ?_
        refine lv_iconst (pc := 99) (v := (2 : Int32)) hx hb dX4_mayBe_99 (by decide) ?_
        obtain ⟨x15, hc14, hf⟩ := um_bi hf
        refine um_cVi (pc := 100) (As := [.int a2, .int (2 : Int32)]) (rest := [.int x6]) Cx (c_X5_get (20 * h0 + 1) a2 (2 : Int32) (xs_ht hh0 1 rfl) hX hc14) kV_X5_get (Or.inl qM_X4_82) hW hS (xs_tab hX (xs_ht hh0 1 rfl)) rfl rfl hl rfl (Nat.le_of_ble_eq_true rfl) (Nat.le_of_ble_eq_true rfl) (Nat.le_of_ble_eq_true rfl) dX4_mayBe_100 (Nat.le_refl _) (Nat.le_refl _) ?_
        clear hW hS hc14
        intro H locs hW hS
        refine lv_isub (pc := 103) hx hb dX4_mayBe_103 ?_
        refine va_mabs (pc := 104) (rest := []) hx hb (Cx.2.2.2.1.trans hl.1.symm) hown (hts _ qM_X4_178) (hts _ qT_J9_abs_0f7a4) (hts _ qN_J9) (hts _ qK_J9_abs_0f7a4) (Nat.le_of_ble_eq_true rfl) (Nat.le_of_ble_eq_true rfl) (Nat.le_refl _) (Nat.le_refl _) dX4_mayBe_104 ?_
        refine lv_iconst (pc := 107) (v := (2 : Int32)) hx hb dX4_mayBe_107 (by decide) ?_
        refine lv_icmp_le (pc := 108) (tgt := 113) hx hb dX4_mayBe_108 (by decide) (fun c1 => ?_) (fun c1 => ?_)
        · have hf := um_it c1 hf
          clear c1
          exact J11 () hf _ _ _ hW hS (lv_sub hl [0, 1, 3] rfl)
        · have hf := um_ie c1 hf
          clear c1
          refine lv_iconst (pc := 111) (v := (0 : Int32)) hx hb dX4_mayBe_111 (by decide) ?_
          exact um_zretR (pc := 112) Cx hW hS hf rfl dX4_mayBe_112
    refine lv_icmp_eq (pc := 68) (tgt := 87) hx hb dX4_mayBe_68 (by decide) (fun c1 => ?_) (fun c1 => ?_)
    · have hf := um_it c1 hf
      clear c1
      exact J10 () hf _ _ _ hW hS (lv_sub hl [0, 1, 3, 4] rfl)
    · have hf := um_ie c1 hf
      clear c1
      refine lv_iload (pc := 71) hx hb dX4_mayBe_71 (lv_at hl 2 rfl) ?_
      refine lv_aload_n (pc := 73) hx hb dX4_mayBe_73 rfl (lv_at hl 0 rfl) ?_
      refine gF_X4_20 (pc := 74) Cx hW (xs_shore hX hh0) rfl dX4_mayBe_74 ?_
      refine lv_iload_n (pc := 77) hx hb dX4_mayBe_77 rfl (lv_at hl 1 rfl) ?_
      refine lv_iconst (pc := 78) (v := (1 : Int32)) hx hb dX4_mayBe_78 (by decide) ?_
      obtain ⟨x17, hc16, hf⟩ := um_bi hf
      refine um_cVi (pc := 79) (As := [.int a2, .int (1 : Int32)]) (rest := [.int x4]) Cx (c_X5_get (20 * h0 + 1) a2 (1 : Int32) (xs_ht hh0 1 rfl) hX hc16) kV_X5_get (Or.inl qM_X4_82) hW hS (xs_tab hX (xs_ht hh0 1 rfl)) rfl rfl hl rfl (Nat.le_of_ble_eq_true rfl) (Nat.le_of_ble_eq_true rfl) (Nat.le_of_ble_eq_true rfl) dX4_mayBe_79 (Nat.le_refl _) (Nat.le_refl _) ?_
      clear hW hS hc16
      intro H locs hW hS
      refine lv_icmp_eq (pc := 82) (tgt := 87) hx hb dX4_mayBe_82 (by decide) (fun c1 => ?_) (fun c1 => ?_)
      · have hf := um_it c1 hf
        clear c1
        exact J10 () hf _ _ _ hW hS (lv_sub hl [0, 1, 3, 4] rfl)
      · have hf := um_ie c1 hf
        clear c1
        refine lv_iconst (pc := 85) (v := (0 : Int32)) hx hb dX4_mayBe_85 (by decide) ?_
        exact um_zretR (pc := 86) Cx hW hS hf rfl dX4_mayBe_86
  refine lv_icmp_eq (pc := 46) (tgt := 64) hx hb dX4_mayBe_46 (by decide) (fun c1 => ?_) (fun c1 => ?_)
  · have hf := um_it c1 hf
    clear c1
    exact J9 () hf _ _ _ hW hS (lv_sub hl [4, 6, 2, 1, 0] rfl)
  · have hf := um_ie c1 hf
    clear c1
    refine lv_iload_n (pc := 49) hx hb dX4_mayBe_49 rfl (lv_at hl 3 rfl) ?_
    refine lv_aload_n (pc := 50) hx hb dX4_mayBe_50 rfl (lv_at hl 4 rfl) ?_
    refine gF_X4_20 (pc := 51) Cx hW (xs_shore hX hh0) rfl dX4_mayBe_51 ?_
    refine lv_iload_n (pc := 54) hx hb dX4_mayBe_54 rfl (lv_at hl 6 rfl) ?_
    refine lv_iconst (pc := 55) (v := (0 : Int32)) hx hb dX4_mayBe_55 (by decide) ?_
    obtain ⟨x19, hc18, hf⟩ := um_bi hf
    refine um_cVi (pc := 56) (As := [.int a2, .int (0 : Int32)]) (rest := [.int x2]) Cx (c_X5_get (20 * h0 + 1) a2 (0 : Int32) (xs_ht hh0 1 rfl) hX hc18) kV_X5_get (Or.inl qM_X4_82) hW hS (xs_tab hX (xs_ht hh0 1 rfl)) rfl rfl hl rfl (Nat.le_of_ble_eq_true rfl) (Nat.le_of_ble_eq_true rfl) (Nat.le_of_ble_eq_true rfl) dX4_mayBe_56 (Nat.le_refl _) (Nat.le_refl _) ?_
    clear hW hS hc18
    intro H locs hW hS
    refine lv_icmp_eq (pc := 59) (tgt := 64) hx hb dX4_mayBe_59 (by decide) (fun c1 => ?_) (fun c1 => ?_)
    · have hf := um_it c1 hf
      clear c1
      exact J9 () hf _ _ _ hW hS (lv_sub hl [4, 6, 2, 1, 0] rfl)
    · have hf := um_ie c1 hf
      clear c1
      refine lv_iconst (pc := 62) (v := (0 : Int32)) hx hb dX4_mayBe_62 (by decide) ?_
      exact um_zretR (pc := 63) Cx hW hS hf rfl dX4_mayBe_63
theorem c_X4_mayBe {σ : um_S} {r : Bool} (h0 : Nat) (a1 : Int32) (a2 : Int32) (hh0 : um_h h0) (hX : um_X sh) (hf : f_X4_mayBe h0 a1 a2 σ = some r) : um_M l yX4_mayBe cX4_mayBe 7 (some FieldType.boolean) (1) (30) Z sh α σ [.ref (α h0), .int a1, .int a2] (some (.int (um_b r))) σ :=
  um_start (by decide) (Nat.le_of_ble_eq_true rfl) (fun p e s m below meth c ls Cx hW hS hl => b_X4_mayBe h0 a1 a2 hh0 hX hf Cx hW hS hl)
noncomputable def f_X4_menAboard_l4 (h0 : Nat) (σ : um_S) : Nat → Int32 → Int32 → Option (Int32)
  | 0, _, _ => none
  | n + 1, v1, v2 =>
    if (σ.1 (20 * h0 + 1) 2) ≤ v2 then
    (some v1)
    else
    ((f_X4_isAboard h0 v2 σ).bind fun x2 =>
    (if (um_b x2) = 0 then
    (f_X4_menAboard_l4 h0 σ n v1 (v2 + (1 : Int32)))
    else
    (f_X4_menAboard_l4 h0 σ n (v1 + (1 : Int32)) (v2 + (1 : Int32)))))
noncomputable def f_X4_menAboard (h0 : Nat) (σ : um_S) : Option (Int32) :=
    (f_X4_menAboard_l4 h0 σ um_N (0 : Int32) (0 : Int32)).bind fun x1 =>
    (some x1)
set_option maxRecDepth 100000 in
set_option maxHeartbeats 4000000 in
theorem t_X4_menAboard_l4 {Q : State → Prop} {o1 : Int32} {σ : um_S} (h0 : Nat) (hh0 : um_h h0) (hX : um_X sh) (Cx : um_C p s m meth c args cX4_menAboard 3 (some FieldType.int) RX4 Z) (hE : ∀ (H : Heap) (locs : List Loc) (ls : Array Slot), um_W Z sh α σ H → va_S (um_D sh α) s.heap H locs → lv_has ls 3 [(1, .int o1)] → W p l e { frames := 3, cells := 0, slots := 0, locals := 66 } s m args below meth c H locs 0 0 Q (F0 m 32 ls [])) : ∀ (n : Nat) (v1 : Int32) (v2 : Int32) (H : Heap) (locs : List Loc) (ls : Array Slot), f_X4_menAboard_l4 h0 σ n v1 v2 = some o1 → um_W Z sh α σ H → va_S (um_D sh α) s.heap H locs → lv_has ls 3 [(0, .ref (α h0)), (1, .int v1), (2, .int v2)] → W p l e { frames := 3, cells := 0, slots := 0, locals := 66 } s m args below meth c H locs 0 0 Q (F0 m 4 ls []) := by
  have hx := Cx.1
  have hb := Cx.2.1
  have hown := Cx.2.2.2.2.1
  have hts := Cx.2.2.2.2.2.1
  intro n
  induction n with
  | zero =>
    intro v1 v2 H locs ls hf hW hS hl
    cases hf
  | succ n ih =>
    intro v1 v2 H locs ls hf hW hS hl
    rw [f_X4_menAboard_l4] at hf
    refine lv_iload_n (pc := 4) hx hb dX4_menAboard_4 rfl (lv_at hl 2 rfl) ?_
    refine lv_aload_n (pc := 5) hx hb dX4_menAboard_5 rfl (lv_at hl 0 rfl) ?_
    refine gF_X4_20 (pc := 6) Cx hW (xs_shore hX hh0) rfl dX4_menAboard_6 ?_
    refine gF_X4_100 (pc := 9) Cx hW (xs_tab hX (xs_ht hh0 1 rfl)) rfl dX4_menAboard_9 ?_
    refine lv_icmp_ge (pc := 12) (tgt := 32) hx hb dX4_menAboard_12 (by decide) (fun c1 => ?_) (fun c1 => ?_)
    · have hf := um_it c1 hf
      clear c1
      cases hf
      exact hE _ _ _ hW hS (lv_sub hl [1] rfl)
    · have hf := um_ie c1 hf
      clear c1
      refine lv_aload_n (pc := 15) hx hb dX4_menAboard_15 rfl (lv_at hl 0 rfl) ?_
      refine lv_iload_n (pc := 16) hx hb dX4_menAboard_16 rfl (lv_at hl 2 rfl) ?_
      obtain ⟨x2, hc1, hf⟩ := um_bi hf
      refine um_cVi (pc := 17) (As := [.int v2]) (rest := []) Cx (c_X4_isAboard h0 v2 hh0 hX hc1) kV_X4_isAboard (Or.inl qM_X4_103) hW hS (xs_shore hX hh0) rfl rfl hl rfl (Nat.le_of_ble_eq_true rfl) (Nat.le_of_ble_eq_true rfl) (Nat.le_of_ble_eq_true rfl) dX4_menAboard_17 (Nat.le_refl _) (Nat.le_refl _) ?_
      clear hW hS hc1
      intro H locs hW hS
      refine lv_if_eq (pc := 20) (tgt := 26) hx hb dX4_menAboard_20 (by decide) (fun c1 => ?_) (fun c1 => ?_)
      · have hf := um_it c1 hf
        clear c1
        refine lv_iinc (pc := 26) (v := v2 + (1 : Int32)) (lv' := [(2, .int (v2 + (1 : Int32))), (0, .ref (α h0)), (1, .int v1)]) hx hb dX4_menAboard_26 hl (k := 2) rfl rfl (by decide) rfl ?_
        clear hl
        intro ls hl
        refine lv_goto (pc := 29) (tgt := 4) hx hb dX4_menAboard_29 (by decide) ?_
        exact ih _ _ _ _ _ hf hW hS (lv_sub hl [1, 2, 0] rfl)
      · have hf := um_ie c1 hf
        clear c1
        refine lv_iinc (pc := 23) (v := v1 + (1 : Int32)) (lv' := [(1, .int (v1 + (1 : Int32))), (0, .ref (α h0)), (2, .int v2)]) hx hb dX4_menAboard_23 hl (k := 1) rfl rfl (by decide) rfl ?_
        clear hl
        intro ls hl
        refine lv_iinc (pc := 26) (v := v2 + (1 : Int32)) (lv' := [(2, .int (v2 + (1 : Int32))), (1, .int (v1 + (1 : Int32))), (0, .ref (α h0))]) hx hb dX4_menAboard_26 hl (k := 2) rfl rfl (by decide) rfl ?_
        clear hl
        intro ls hl
        refine lv_goto (pc := 29) (tgt := 4) hx hb dX4_menAboard_29 (by decide) ?_
        exact ih _ _ _ _ _ hf hW hS (lv_sub hl [2, 1, 0] rfl)
set_option maxRecDepth 100000 in
set_option maxHeartbeats 4000000 in
theorem b_X4_menAboard {H : Heap} {locs : List Loc} {ls : Array Slot} {σ : um_S} {r : Int32} (h0 : Nat) (hh0 : um_h h0) (hX : um_X sh) (hf : f_X4_menAboard h0 σ = some r) (Cx : um_C p s m meth c args cX4_menAboard 3 (some FieldType.int) RX4 Z) (hW : um_W Z sh α σ H) (hS : va_S (um_D sh α) s.heap H locs) (hl : lv_has ls 3 [(0, .ref (α h0))]) : um_G p l e (3) (66) s m args below meth c Z sh α σ (some (.int r)) H locs (F0 m 0 ls []) := by
  have hx := Cx.1
  have hb := Cx.2.1
  have hown := Cx.2.2.2.2.1
  have hts := Cx.2.2.2.2.2.1
  rw [f_X4_menAboard] at hf
  refine lv_iconst (pc := 0) (v := (0 : Int32)) hx hb dX4_menAboard_0 (by decide) ?_
  refine lv_istore_n (pc := 1) (lv' := [(1, .int (0 : Int32)), (0, .ref (α h0))]) hx hb dX4_menAboard_1 rfl hl (by decide) rfl ?_
  clear hl
  intro ls hl
  refine lv_iconst (pc := 2) (v := (0 : Int32)) hx hb dX4_menAboard_2 (by decide) ?_
  refine lv_istore_n (pc := 3) (lv' := [(2, .int (0 : Int32)), (1, .int (0 : Int32)), (0, .ref (α h0))]) hx hb dX4_menAboard_3 rfl hl (by decide) rfl ?_
  clear hl
  intro ls hl
  obtain ⟨x1, hc2, hf⟩ := um_bi hf
  refine t_X4_menAboard_l4 h0 hh0 hX Cx ?_ um_N _ _ _ _ _ hc2 hW hS (lv_sub hl [2, 1, 0] rfl)
  clear hW hS hl hc2
  intro H locs ls hW hS hl
  refine lv_iload_n (pc := 32) hx hb dX4_menAboard_32 rfl (lv_at hl 0 rfl) ?_
  exact um_iretR (pc := 33) Cx hW hS hf dX4_menAboard_33
theorem c_X4_menAboard {σ : um_S} {r : Int32} (h0 : Nat) (hh0 : um_h h0) (hX : um_X sh) (hf : f_X4_menAboard h0 σ = some r) : um_M l yX4_menAboard cX4_menAboard 3 (some FieldType.int) (3) (66) Z sh α σ [.ref (α h0)] (some (.int r)) σ :=
  um_start (by decide) (Nat.le_of_ble_eq_true rfl) (fun p e s m below meth c ls Cx hW hS hl => b_X4_menAboard h0 hh0 hX hf Cx hW hS hl)
noncomputable def f_X4_menWhoMayBe_l4 (h0 : Nat) (v1 : Int32) (σ : um_S) : Nat → Int32 → Int32 → Option (Int32)
  | 0, _, _ => none
  | n + 1, v2, v3 =>
    if (σ.1 (20 * h0 + 1) 2) ≤ v3 then
    (some v2)
    else
    ((f_X4_mayBe h0 v1 v3 σ).bind fun x2 =>
    (if (um_b x2) = 0 then
    (f_X4_menWhoMayBe_l4 h0 v1 σ n v2 (v3 + (1 : Int32)))
    else
    (um_let (v2 ||| ((1 : Int32) <<< (v3 &&& 31))) fun x3 =>
    (f_X4_menWhoMayBe_l4 h0 v1 σ n x3 (v3 + (1 : Int32))))))
noncomputable def f_X4_menWhoMayBe (h0 : Nat) (a1 : Int32) (σ : um_S) : Option (Int32) :=
    (f_X4_menWhoMayBe_l4 h0 a1 σ um_N (0 : Int32) (0 : Int32)).bind fun x1 =>
    (some x1)
set_option maxRecDepth 100000 in
set_option maxHeartbeats 4000000 in
theorem t_X4_menWhoMayBe_l4 {Q : State → Prop} {o2 : Int32} {σ : um_S} (h0 : Nat) (v1 : Int32) (hh0 : um_h h0) (hX : um_X sh) (Cx : um_C p s m meth c args cX4_menWhoMayBe 4 (some FieldType.int) RX4 Z) (hE : ∀ (H : Heap) (locs : List Loc) (ls : Array Slot), um_W Z sh α σ H → va_S (um_D sh α) s.heap H locs → lv_has ls 4 [(2, .int o2)] → W p l e { frames := 2, cells := 0, slots := 0, locals := 56 } s m args below meth c H locs 0 0 Q (F0 m 36 ls [])) : ∀ (n : Nat) (v2 : Int32) (v3 : Int32) (H : Heap) (locs : List Loc) (ls : Array Slot), f_X4_menWhoMayBe_l4 h0 v1 σ n v2 v3 = some o2 → um_W Z sh α σ H → va_S (um_D sh α) s.heap H locs → lv_has ls 4 [(0, .ref (α h0)), (1, .int v1), (2, .int v2), (3, .int v3)] → W p l e { frames := 2, cells := 0, slots := 0, locals := 56 } s m args below meth c H locs 0 0 Q (F0 m 4 ls []) := by
  have hx := Cx.1
  have hb := Cx.2.1
  have hown := Cx.2.2.2.2.1
  have hts := Cx.2.2.2.2.2.1
  intro n
  induction n with
  | zero =>
    intro v2 v3 H locs ls hf hW hS hl
    cases hf
  | succ n ih =>
    intro v2 v3 H locs ls hf hW hS hl
    rw [f_X4_menWhoMayBe_l4] at hf
    refine lv_iload_n (pc := 4) hx hb dX4_menWhoMayBe_4 rfl (lv_at hl 3 rfl) ?_
    refine lv_aload_n (pc := 5) hx hb dX4_menWhoMayBe_5 rfl (lv_at hl 0 rfl) ?_
    refine gF_X4_20 (pc := 6) Cx hW (xs_shore hX hh0) rfl dX4_menWhoMayBe_6 ?_
    refine gF_X4_100 (pc := 9) Cx hW (xs_tab hX (xs_ht hh0 1 rfl)) rfl dX4_menWhoMayBe_9 ?_
    refine lv_icmp_ge (pc := 12) (tgt := 36) hx hb dX4_menWhoMayBe_12 (by decide) (fun c1 => ?_) (fun c1 => ?_)
    · have hf := um_it c1 hf
      clear c1
      cases hf
      exact hE _ _ _ hW hS (lv_sub hl [2] rfl)
    · have hf := um_ie c1 hf
      clear c1
      refine lv_aload_n (pc := 15) hx hb dX4_menWhoMayBe_15 rfl (lv_at hl 0 rfl) ?_
      refine lv_iload_n (pc := 16) hx hb dX4_menWhoMayBe_16 rfl (lv_at hl 1 rfl) ?_
      refine lv_iload_n (pc := 17) hx hb dX4_menWhoMayBe_17 rfl (lv_at hl 3 rfl) ?_
      obtain ⟨x2, hc1, hf⟩ := um_bi hf
      refine um_cVi (pc := 18) (As := [.int v1, .int v3]) (rest := []) Cx (c_X4_mayBe h0 v1 v3 hh0 hX hc1) kV_X4_mayBe (Or.inl qM_X4_174) hW hS (xs_shore hX hh0) rfl rfl hl rfl (Nat.le_of_ble_eq_true rfl) (Nat.le_of_ble_eq_true rfl) (Nat.le_of_ble_eq_true rfl) dX4_menWhoMayBe_18 (Nat.le_refl _) (Nat.le_refl _) ?_
      clear hW hS hc1
      intro H locs hW hS
      refine lv_if_eq (pc := 21) (tgt := 30) hx hb dX4_menWhoMayBe_21 (by decide) (fun c1 => ?_) (fun c1 => ?_)
      · have hf := um_it c1 hf
        clear c1
        refine lv_iinc (pc := 30) (v := v3 + (1 : Int32)) (lv' := [(3, .int (v3 + (1 : Int32))), (0, .ref (α h0)), (1, .int v1), (2, .int v2)]) hx hb dX4_menWhoMayBe_30 hl (k := 3) rfl rfl (by decide) rfl ?_
        clear hl
        intro ls hl
        refine lv_goto (pc := 33) (tgt := 4) hx hb dX4_menWhoMayBe_33 (by decide) ?_
        exact ih _ _ _ _ _ hf hW hS (lv_sub hl [1, 2, 3, 0] rfl)
      · have hf := um_ie c1 hf
        clear c1
        refine lv_iload_n (pc := 24) hx hb dX4_menWhoMayBe_24 rfl (lv_at hl 2 rfl) ?_
        refine lv_iconst (pc := 25) (v := (1 : Int32)) hx hb dX4_menWhoMayBe_25 (by decide) ?_
        refine lv_iload_n (pc := 26) hx hb dX4_menWhoMayBe_26 rfl (lv_at hl 3 rfl) ?_
        refine lv_ishl (pc := 27) hx hb dX4_menWhoMayBe_27 ?_
        refine lv_ior (pc := 28) hx hb dX4_menWhoMayBe_28 ?_
        obtain ⟨x3, e4, hf⟩ := um_le hf
        refine um_top e4 ?_
        clear e4
        refine lv_istore_n (pc := 29) (lv' := [(2, .int x3), (0, .ref (α h0)), (1, .int v1), (3, .int v3)]) hx hb dX4_menWhoMayBe_29 rfl hl (by decide) rfl ?_
        clear hl
        intro ls hl
        refine lv_iinc (pc := 30) (v := v3 + (1 : Int32)) (lv' := [(3, .int (v3 + (1 : Int32))), (2, .int x3), (0, .ref (α h0)), (1, .int v1)]) hx hb dX4_menWhoMayBe_30 hl (k := 3) rfl rfl (by decide) rfl ?_
        clear hl
        intro ls hl
        refine lv_goto (pc := 33) (tgt := 4) hx hb dX4_menWhoMayBe_33 (by decide) ?_
        exact ih _ _ _ _ _ hf hW hS (lv_sub hl [2, 3, 1, 0] rfl)
set_option maxRecDepth 100000 in
set_option maxHeartbeats 4000000 in
theorem b_X4_menWhoMayBe {H : Heap} {locs : List Loc} {ls : Array Slot} {σ : um_S} {r : Int32} (h0 : Nat) (a1 : Int32) (hh0 : um_h h0) (hX : um_X sh) (hf : f_X4_menWhoMayBe h0 a1 σ = some r) (Cx : um_C p s m meth c args cX4_menWhoMayBe 4 (some FieldType.int) RX4 Z) (hW : um_W Z sh α σ H) (hS : va_S (um_D sh α) s.heap H locs) (hl : lv_has ls 4 [(0, .ref (α h0)), (1, .int a1)]) : um_G p l e (2) (56) s m args below meth c Z sh α σ (some (.int r)) H locs (F0 m 0 ls []) := by
  have hx := Cx.1
  have hb := Cx.2.1
  have hown := Cx.2.2.2.2.1
  have hts := Cx.2.2.2.2.2.1
  rw [f_X4_menWhoMayBe] at hf
  refine lv_iconst (pc := 0) (v := (0 : Int32)) hx hb dX4_menWhoMayBe_0 (by decide) ?_
  refine lv_istore_n (pc := 1) (lv' := [(2, .int (0 : Int32)), (0, .ref (α h0)), (1, .int a1)]) hx hb dX4_menWhoMayBe_1 rfl hl (by decide) rfl ?_
  clear hl
  intro ls hl
  refine lv_iconst (pc := 2) (v := (0 : Int32)) hx hb dX4_menWhoMayBe_2 (by decide) ?_
  refine lv_istore_n (pc := 3) (lv' := [(3, .int (0 : Int32)), (2, .int (0 : Int32)), (0, .ref (α h0)), (1, .int a1)]) hx hb dX4_menWhoMayBe_3 rfl hl (by decide) rfl ?_
  clear hl
  intro ls hl
  obtain ⟨x1, hc2, hf⟩ := um_bi hf
  refine t_X4_menWhoMayBe_l4 h0 a1 hh0 hX Cx ?_ um_N _ _ _ _ _ hc2 hW hS (lv_sub hl [2, 3, 1, 0] rfl)
  clear hW hS hl hc2
  intro H locs ls hW hS hl
  refine lv_iload_n (pc := 36) hx hb dX4_menWhoMayBe_36 rfl (lv_at hl 0 rfl) ?_
  exact um_iretR (pc := 37) Cx hW hS hf dX4_menWhoMayBe_37
theorem c_X4_menWhoMayBe {σ : um_S} {r : Int32} (h0 : Nat) (a1 : Int32) (hh0 : um_h h0) (hX : um_X sh) (hf : f_X4_menWhoMayBe h0 a1 σ = some r) : um_M l yX4_menWhoMayBe cX4_menWhoMayBe 4 (some FieldType.int) (2) (56) Z sh α σ [.ref (α h0), .int a1] (some (.int r)) σ :=
  um_start (by decide) (Nat.le_of_ble_eq_true rfl) (fun p e s m below meth c ls Cx hW hS hl => b_X4_menWhoMayBe h0 a1 hh0 hX hf Cx hW hS hl)
noncomputable def f_X4_mercy (h0 : Nat) (a1 : Int32) (a2 : Int32) (σ : um_S) : Option (Int32 × um_S) :=
    (f_X5_get (20 * h0 + 1) a2 (10 : Int32) σ).bind fun x2 =>
    ((f_X4_marksOf h0 a2 σ).bind fun x4 =>
    ((f_X5_get (20 * h0 + 1) a2 (13 : Int32) σ).bind fun x6 =>
    (um_b2 (f_X1_rule h0 a1 (σ.1 h0 12) ((σ.1 h0 12) - x2) x4 x6 σ) fun x9 σ8 =>
    (some (x9, σ8)))))
set_option maxRecDepth 100000 in
set_option maxHeartbeats 4000000 in
theorem b_X4_mercy {H : Heap} {locs : List Loc} {ls : Array Slot} {σ : um_S} {σ' : um_S} {r : Int32} (h0 : Nat) (a1 : Int32) (a2 : Int32) (hh0 : um_h h0) (hX : um_X sh) (hf : f_X4_mercy h0 a1 a2 σ = some (r, σ')) (Cx : um_C p s m meth c args cX4_mercy 3 (some FieldType.int) RX4 Z) (hW : um_W Z sh α σ H) (hS : va_S (um_D sh α) s.heap H locs) (hl : lv_has ls 3 [(0, .ref (α h0)), (1, .int a1), (2, .int a2)]) : um_G p l e (3) (78) s m args below meth c Z sh α σ' (some (.int r)) H locs (F0 m 0 ls []) := by
  have hx := Cx.1
  have hb := Cx.2.1
  have hown := Cx.2.2.2.2.1
  have hts := Cx.2.2.2.2.2.1
  rw [f_X4_mercy] at hf
  refine lv_aload_n (pc := 0) hx hb dX4_mercy_0 rfl (lv_at hl 0 rfl) ?_
  refine gF_X4_53 (pc := 1) Cx hW (xs_shore hX hh0) rfl dX4_mercy_1 ?_
  refine lv_iload_n (pc := 4) hx hb dX4_mercy_4 rfl (lv_at hl 1 rfl) ?_
  refine lv_aload_n (pc := 5) hx hb dX4_mercy_5 rfl (lv_at hl 0 rfl) ?_
  refine gF_X4_64 (pc := 6) Cx hW (xs_shore hX hh0) rfl dX4_mercy_6 ?_
  refine lv_aload_n (pc := 9) hx hb dX4_mercy_9 rfl (lv_at hl 0 rfl) ?_
  refine gF_X4_64 (pc := 10) Cx hW (xs_shore hX hh0) rfl dX4_mercy_10 ?_
  refine lv_aload_n (pc := 13) hx hb dX4_mercy_13 rfl (lv_at hl 0 rfl) ?_
  refine gF_X4_20 (pc := 14) Cx hW (xs_shore hX hh0) rfl dX4_mercy_14 ?_
  refine lv_iload_n (pc := 17) hx hb dX4_mercy_17 rfl (lv_at hl 2 rfl) ?_
  refine lv_bipush (pc := 18) (v := (10 : Int32)) hx hb dX4_mercy_18 (by decide) ?_
  obtain ⟨x2, hc1, hf⟩ := um_bi hf
  refine um_cVi (pc := 20) (As := [.int a2, .int (10 : Int32)]) (rest := [.int (σ.1 h0 12), .int (σ.1 h0 12), .int a1, .ref (α (20 * h0 + 11))]) Cx (c_X5_get (20 * h0 + 1) a2 (10 : Int32) (xs_ht hh0 1 rfl) hX hc1) kV_X5_get (Or.inl qM_X4_82) hW hS (xs_tab hX (xs_ht hh0 1 rfl)) rfl rfl hl rfl (Nat.le_of_ble_eq_true rfl) (Nat.le_of_ble_eq_true rfl) (Nat.le_of_ble_eq_true rfl) dX4_mercy_20 (Nat.le_refl _) (Nat.le_refl _) ?_
  clear hW hS hc1
  intro H locs hW hS
  refine lv_isub (pc := 23) hx hb dX4_mercy_23 ?_
  refine lv_aload_n (pc := 24) hx hb dX4_mercy_24 rfl (lv_at hl 0 rfl) ?_
  refine lv_iload_n (pc := 25) hx hb dX4_mercy_25 rfl (lv_at hl 2 rfl) ?_
  obtain ⟨x4, hc3, hf⟩ := um_bi hf
  refine um_cVi (pc := 26) (As := [.int a2]) (rest := [.int ((σ.1 h0 12) - x2), .int (σ.1 h0 12), .int a1, .ref (α (20 * h0 + 11))]) Cx (c_X4_marksOf h0 a2 hh0 hX hc3) kV_X4_marksOf (Or.inl qM_X4_113) hW hS (xs_shore hX hh0) rfl rfl hl rfl (Nat.le_of_ble_eq_true rfl) (Nat.le_of_ble_eq_true rfl) (Nat.le_of_ble_eq_true rfl) dX4_mercy_26 (Nat.le_refl _) (Nat.le_refl _) ?_
  clear hW hS hc3
  intro H locs hW hS
  refine lv_aload_n (pc := 29) hx hb dX4_mercy_29 rfl (lv_at hl 0 rfl) ?_
  refine gF_X4_20 (pc := 30) Cx hW (xs_shore hX hh0) rfl dX4_mercy_30 ?_
  refine lv_iload_n (pc := 33) hx hb dX4_mercy_33 rfl (lv_at hl 2 rfl) ?_
  refine lv_bipush (pc := 34) (v := (13 : Int32)) hx hb dX4_mercy_34 (by decide) ?_
  obtain ⟨x6, hc5, hf⟩ := um_bi hf
  refine um_cVi (pc := 36) (As := [.int a2, .int (13 : Int32)]) (rest := [.int x4, .int ((σ.1 h0 12) - x2), .int (σ.1 h0 12), .int a1, .ref (α (20 * h0 + 11))]) Cx (c_X5_get (20 * h0 + 1) a2 (13 : Int32) (xs_ht hh0 1 rfl) hX hc5) kV_X5_get (Or.inl qM_X4_82) hW hS (xs_tab hX (xs_ht hh0 1 rfl)) rfl rfl hl rfl (Nat.le_of_ble_eq_true rfl) (Nat.le_of_ble_eq_true rfl) (Nat.le_of_ble_eq_true rfl) dX4_mercy_36 (Nat.le_refl _) (Nat.le_refl _) ?_
  clear hW hS hc5
  intro H locs hW hS
  obtain ⟨x9, σ8, hc7, hf⟩ := um_bi2 hf
  refine um_cVi (pc := 39) (As := [.int a1, .int (σ.1 h0 12), .int ((σ.1 h0 12) - x2), .int x4, .int x6]) (rest := []) Cx (c_X1_rule h0 a1 (σ.1 h0 12) ((σ.1 h0 12) - x2) x4 x6 hh0 hX hc7) kV_X1_rule (Or.inl qM_X4_116) hW hS (xs_law hX hh0) rfl rfl hl rfl (Nat.le_of_ble_eq_true rfl) (Nat.le_of_ble_eq_true rfl) (Nat.le_of_ble_eq_true rfl) dX4_mercy_39 (Nat.le_refl _) (Nat.le_refl _) ?_
  clear hW hS hc7
  intro H locs hW hS
  exact um_iret (pc := 42) Cx hW hS hf dX4_mercy_42
theorem c_X4_mercy {σ : um_S} {σ' : um_S} {r : Int32} (h0 : Nat) (a1 : Int32) (a2 : Int32) (hh0 : um_h h0) (hX : um_X sh) (hf : f_X4_mercy h0 a1 a2 σ = some (r, σ')) : um_M l yX4_mercy cX4_mercy 3 (some FieldType.int) (3) (78) Z sh α σ [.ref (α h0), .int a1, .int a2] (some (.int r)) σ' :=
  um_start (by decide) (Nat.le_of_ble_eq_true rfl) (fun p e s m below meth c ls Cx hW hS hl => b_X4_mercy h0 a1 a2 hh0 hX hf Cx hW hS hl)
noncomputable def f_X4_withSkin_l5 (h0 : Nat) (v1 : Int32) (v2 : Int32) (σ : um_S) : Nat → Int32 → Int32 → Option (Int32)
  | 0, _, _ => none
  | n + 1, v3, v4 =>
    if (σ.1 (20 * h0 + 1) 2) ≤ v4 then
    (some v3)
    else
    ((f_X5_get (20 * h0 + 1) v4 (3 : Int32) σ).bind fun x2 =>
    (um_let (v3 + (((v1 >>> (v4 &&& 31)) &&& (x2 >>> (v2 &&& 31))) &&& (1 : Int32))) fun x3 =>
    (f_X4_withSkin_l5 h0 v1 v2 σ n x3 (v4 + (1 : Int32)))))
noncomputable def f_X4_withSkin (h0 : Nat) (a1 : Int32) (a2 : Int32) (σ : um_S) : Option (Int32) :=
    (f_X4_withSkin_l5 h0 a1 a2 σ um_N (0 : Int32) (0 : Int32)).bind fun x1 =>
    (some x1)
set_option maxRecDepth 100000 in
set_option maxHeartbeats 4000000 in
theorem t_X4_withSkin_l5 {Q : State → Prop} {o3 : Int32} {σ : um_S} (h0 : Nat) (v1 : Int32) (v2 : Int32) (hh0 : um_h h0) (hX : um_X sh) (Cx : um_C p s m meth c args cX4_withSkin 5 (some FieldType.int) RX4 Z) (hE : ∀ (H : Heap) (locs : List Loc) (ls : Array Slot), um_W Z sh α σ H → va_S (um_D sh α) s.heap H locs → lv_has ls 5 [(3, .int o3)] → W p l e { frames := 1, cells := 0, slots := 0, locals := 24 } s m args below meth c H locs 0 0 Q (F0 m 45 ls [])) : ∀ (n : Nat) (v3 : Int32) (v4 : Int32) (H : Heap) (locs : List Loc) (ls : Array Slot), f_X4_withSkin_l5 h0 v1 v2 σ n v3 v4 = some o3 → um_W Z sh α σ H → va_S (um_D sh α) s.heap H locs → lv_has ls 5 [(0, .ref (α h0)), (1, .int v1), (2, .int v2), (3, .int v3), (4, .int v4)] → W p l e { frames := 1, cells := 0, slots := 0, locals := 24 } s m args below meth c H locs 0 0 Q (F0 m 5 ls []) := by
  have hx := Cx.1
  have hb := Cx.2.1
  have hown := Cx.2.2.2.2.1
  have hts := Cx.2.2.2.2.2.1
  intro n
  induction n with
  | zero =>
    intro v3 v4 H locs ls hf hW hS hl
    cases hf
  | succ n ih =>
    intro v3 v4 H locs ls hf hW hS hl
    rw [f_X4_withSkin_l5] at hf
    refine lv_iload (pc := 5) hx hb dX4_withSkin_5 (lv_at hl 4 rfl) ?_
    refine lv_aload_n (pc := 7) hx hb dX4_withSkin_7 rfl (lv_at hl 0 rfl) ?_
    refine gF_X4_20 (pc := 8) Cx hW (xs_shore hX hh0) rfl dX4_withSkin_8 ?_
    refine gF_X4_100 (pc := 11) Cx hW (xs_tab hX (xs_ht hh0 1 rfl)) rfl dX4_withSkin_11 ?_
    refine lv_icmp_ge (pc := 14) (tgt := 45) hx hb dX4_withSkin_14 (by decide) (fun c1 => ?_) (fun c1 => ?_)
    · have hf := um_it c1 hf
      clear c1
      cases hf
      exact hE _ _ _ hW hS (lv_sub hl [3] rfl)
    · have hf := um_ie c1 hf
      clear c1
      refine lv_iload_n (pc := 17) hx hb dX4_withSkin_17 rfl (lv_at hl 3 rfl) ?_
      refine lv_iload_n (pc := 18) hx hb dX4_withSkin_18 rfl (lv_at hl 1 rfl) ?_
      refine lv_iload (pc := 19) hx hb dX4_withSkin_19 (lv_at hl 4 rfl) ?_
      refine lv_ishr (pc := 21) hx hb dX4_withSkin_21 ?_
      refine lv_aload_n (pc := 22) hx hb dX4_withSkin_22 rfl (lv_at hl 0 rfl) ?_
      refine gF_X4_20 (pc := 23) Cx hW (xs_shore hX hh0) rfl dX4_withSkin_23 ?_
      refine lv_iload (pc := 26) hx hb dX4_withSkin_26 (lv_at hl 4 rfl) ?_
      refine lv_iconst (pc := 28) (v := (3 : Int32)) hx hb dX4_withSkin_28 (by decide) ?_
      obtain ⟨x2, hc1, hf⟩ := um_bi hf
      refine um_cVi (pc := 29) (As := [.int v4, .int (3 : Int32)]) (rest := [.int (v1 >>> (v4 &&& 31)), .int v3]) Cx (c_X5_get (20 * h0 + 1) v4 (3 : Int32) (xs_ht hh0 1 rfl) hX hc1) kV_X5_get (Or.inl qM_X4_82) hW hS (xs_tab hX (xs_ht hh0 1 rfl)) rfl rfl hl rfl (Nat.le_of_ble_eq_true rfl) (Nat.le_of_ble_eq_true rfl) (Nat.le_of_ble_eq_true rfl) dX4_withSkin_29 (Nat.le_refl _) (Nat.le_refl _) ?_
      clear hW hS hc1
      intro H locs hW hS
      refine lv_iload_n (pc := 32) hx hb dX4_withSkin_32 rfl (lv_at hl 2 rfl) ?_
      refine lv_ishr (pc := 33) hx hb dX4_withSkin_33 ?_
      refine lv_iand (pc := 34) hx hb dX4_withSkin_34 ?_
      refine lv_iconst (pc := 35) (v := (1 : Int32)) hx hb dX4_withSkin_35 (by decide) ?_
      refine lv_iand (pc := 36) hx hb dX4_withSkin_36 ?_
      refine lv_iadd (pc := 37) hx hb dX4_withSkin_37 ?_
      obtain ⟨x3, e4, hf⟩ := um_le hf
      refine um_top e4 ?_
      clear e4
      refine lv_istore_n (pc := 38) (lv' := [(3, .int x3), (0, .ref (α h0)), (1, .int v1), (2, .int v2), (4, .int v4)]) hx hb dX4_withSkin_38 rfl hl (by decide) rfl ?_
      clear hl
      intro ls hl
      refine lv_iinc (pc := 39) (v := v4 + (1 : Int32)) (lv' := [(4, .int (v4 + (1 : Int32))), (3, .int x3), (0, .ref (α h0)), (1, .int v1), (2, .int v2)]) hx hb dX4_withSkin_39 hl (k := 4) rfl rfl (by decide) rfl ?_
      clear hl
      intro ls hl
      refine lv_goto (pc := 42) (tgt := 5) hx hb dX4_withSkin_42 (by decide) ?_
      exact ih _ _ _ _ _ hf hW hS (lv_sub hl [2, 3, 4, 1, 0] rfl)
set_option maxRecDepth 100000 in
set_option maxHeartbeats 4000000 in
theorem b_X4_withSkin {H : Heap} {locs : List Loc} {ls : Array Slot} {σ : um_S} {r : Int32} (h0 : Nat) (a1 : Int32) (a2 : Int32) (hh0 : um_h h0) (hX : um_X sh) (hf : f_X4_withSkin h0 a1 a2 σ = some r) (Cx : um_C p s m meth c args cX4_withSkin 5 (some FieldType.int) RX4 Z) (hW : um_W Z sh α σ H) (hS : va_S (um_D sh α) s.heap H locs) (hl : lv_has ls 5 [(0, .ref (α h0)), (1, .int a1), (2, .int a2)]) : um_G p l e (1) (24) s m args below meth c Z sh α σ (some (.int r)) H locs (F0 m 0 ls []) := by
  have hx := Cx.1
  have hb := Cx.2.1
  have hown := Cx.2.2.2.2.1
  have hts := Cx.2.2.2.2.2.1
  rw [f_X4_withSkin] at hf
  refine lv_iconst (pc := 0) (v := (0 : Int32)) hx hb dX4_withSkin_0 (by decide) ?_
  refine lv_istore_n (pc := 1) (lv' := [(3, .int (0 : Int32)), (0, .ref (α h0)), (1, .int a1), (2, .int a2)]) hx hb dX4_withSkin_1 rfl hl (by decide) rfl ?_
  clear hl
  intro ls hl
  refine lv_iconst (pc := 2) (v := (0 : Int32)) hx hb dX4_withSkin_2 (by decide) ?_
  refine lv_istore (pc := 3) (lv' := [(4, .int (0 : Int32)), (3, .int (0 : Int32)), (0, .ref (α h0)), (1, .int a1), (2, .int a2)]) hx hb dX4_withSkin_3 hl (by decide) rfl ?_
  clear hl
  intro ls hl
  obtain ⟨x1, hc2, hf⟩ := um_bi hf
  refine t_X4_withSkin_l5 h0 a1 a2 hh0 hX Cx ?_ um_N _ _ _ _ _ hc2 hW hS (lv_sub hl [2, 3, 4, 1, 0] rfl)
  clear hW hS hl hc2
  intro H locs ls hW hS hl
  refine lv_iload_n (pc := 45) hx hb dX4_withSkin_45 rfl (lv_at hl 0 rfl) ?_
  exact um_iretR (pc := 46) Cx hW hS hf dX4_withSkin_46
theorem c_X4_withSkin {σ : um_S} {r : Int32} (h0 : Nat) (a1 : Int32) (a2 : Int32) (hh0 : um_h h0) (hX : um_X sh) (hf : f_X4_withSkin h0 a1 a2 σ = some r) : um_M l yX4_withSkin cX4_withSkin 5 (some FieldType.int) (1) (24) Z sh α σ [.ref (α h0), .int a1, .int a2] (some (.int r)) σ :=
  um_start (by decide) (Nat.le_of_ble_eq_true rfl) (fun p e s m below meth c ls Cx hW hS hl => b_X4_withSkin h0 a1 a2 hh0 hX hf Cx hW hS hl)
noncomputable def f_X4_partingBit_l8 (h0 : Nat) (v1 : Int32) (σ : um_S) : Nat → Int32 → Int32 → Int32 → Option (Int32)
  | 0, _, _, _ => none
  | n + 1, v2, v3, v4 =>
    if (8 : Int32) ≤ v4 then
    (some v2)
    else
    ((f_X4_withSkin h0 v1 v4 σ).bind fun x2 =>
    ((f_J6_bitCount_0f7a4 v1 σ).bind fun x4 =>
    (um_let (if x2 < (x4 - x2) then (x4 - x2) else x2) fun x5 =>
    (if v3 ≤ x5 then
    (f_X4_partingBit_l8 h0 v1 σ n v2 v3 (v4 + (1 : Int32)))
    else
    (f_X4_partingBit_l8 h0 v1 σ n v4 x5 (v4 + (1 : Int32)))))))
noncomputable def f_X4_partingBit (h0 : Nat) (a1 : Int32) (σ : um_S) : Option (Int32) :=
    (f_X4_partingBit_l8 h0 a1 σ um_N (0 : Int32) (15 : Int32) (0 : Int32)).bind fun x1 =>
    (some x1)
set_option maxRecDepth 100000 in
set_option maxHeartbeats 4000000 in
theorem t_X4_partingBit_l8 {Q : State → Prop} {o2 : Int32} {σ : um_S} (h0 : Nat) (v1 : Int32) (hh0 : um_h h0) (hX : um_X sh) (Cx : um_C p s m meth c args cX4_partingBit 7 (some FieldType.int) RX4 Z) (hE : ∀ (H : Heap) (locs : List Loc) (ls : Array Slot), um_W Z sh α σ H → va_S (um_D sh α) s.heap H locs → lv_has ls 7 [(2, .int o2)] → W p l e { frames := 2, cells := 0, slots := 0, locals := 48 } s m args below meth c H locs 0 0 Q (F0 m 56 ls [])) : ∀ (n : Nat) (v2 : Int32) (v3 : Int32) (v4 : Int32) (H : Heap) (locs : List Loc) (ls : Array Slot), f_X4_partingBit_l8 h0 v1 σ n v2 v3 v4 = some o2 → um_W Z sh α σ H → va_S (um_D sh α) s.heap H locs → lv_has ls 7 [(0, .ref (α h0)), (1, .int v1), (2, .int v2), (3, .int v3), (4, .int v4)] → W p l e { frames := 2, cells := 0, slots := 0, locals := 48 } s m args below meth c H locs 0 0 Q (F0 m 8 ls []) := by
  have hx := Cx.1
  have hb := Cx.2.1
  have hown := Cx.2.2.2.2.1
  have hts := Cx.2.2.2.2.2.1
  intro n
  induction n with
  | zero =>
    intro v2 v3 v4 H locs ls hf hW hS hl
    cases hf
  | succ n ih =>
    intro v2 v3 v4 H locs ls hf hW hS hl
    rw [f_X4_partingBit_l8] at hf
    refine lv_iload (pc := 8) hx hb dX4_partingBit_8 (lv_at hl 4 rfl) ?_
    refine lv_bipush (pc := 10) (v := (8 : Int32)) hx hb dX4_partingBit_10 (by decide) ?_
    refine lv_icmp_ge (pc := 12) (tgt := 56) hx hb dX4_partingBit_12 (by decide) (fun c1 => ?_) (fun c1 => ?_)
    · have hf := um_it c1 hf
      clear c1
      cases hf
      exact hE _ _ _ hW hS (lv_sub hl [2] rfl)
    · have hf := um_ie c1 hf
      clear c1
      refine lv_aload_n (pc := 15) hx hb dX4_partingBit_15 rfl (lv_at hl 0 rfl) ?_
      refine lv_iload_n (pc := 16) hx hb dX4_partingBit_16 rfl (lv_at hl 1 rfl) ?_
      refine lv_iload (pc := 17) hx hb dX4_partingBit_17 (lv_at hl 4 rfl) ?_
      obtain ⟨x2, hc1, hf⟩ := um_bi hf
      refine um_cVi (pc := 19) (As := [.int v1, .int v4]) (rest := []) Cx (c_X4_withSkin h0 v1 v4 hh0 hX hc1) kV_X4_withSkin (Or.inl qM_X4_181) hW hS (xs_shore hX hh0) rfl rfl hl rfl (Nat.le_of_ble_eq_true rfl) (Nat.le_of_ble_eq_true rfl) (Nat.le_of_ble_eq_true rfl) dX4_partingBit_19 (Nat.le_refl _) (Nat.le_refl _) ?_
      clear hW hS hc1
      intro H locs hW hS
      refine lv_istore (pc := 22) (lv' := [(5, .int x2), (0, .ref (α h0)), (1, .int v1), (2, .int v2), (3, .int v3), (4, .int v4)]) hx hb dX4_partingBit_22 hl (by decide) rfl ?_
      clear hl
      intro ls hl
      refine lv_iload (pc := 24) hx hb dX4_partingBit_24 (lv_at hl 0 rfl) ?_
      refine lv_iload_n (pc := 26) hx hb dX4_partingBit_26 rfl (lv_at hl 2 rfl) ?_
      obtain ⟨x4, hc3, hf⟩ := um_bi hf
      refine um_cSi (pc := 27) (As := [.int v1]) (rest := [.int x2]) Cx (c_J6_bitCount_0f7a4 v1 hX hc3) kS_J6_bitCount_0f7a4 (Or.inl qM_X4_184) hW hS rfl hl rfl (Nat.le_of_ble_eq_true rfl) (Nat.le_of_ble_eq_true rfl) (Nat.le_of_ble_eq_true rfl) dX4_partingBit_27 (Nat.le_refl _) (Nat.le_refl _) ?_
      clear hW hS hc3
      intro H locs hW hS
      refine lv_iload (pc := 30) hx hb dX4_partingBit_30 (lv_at hl 0 rfl) ?_
      refine lv_isub (pc := 32) hx hb dX4_partingBit_32 ?_
      refine va_mmax (pc := 33) (rest := []) hx hb (Cx.2.2.2.1.trans hl.1.symm) hown (hts _ qM_X4_165) (hts _ qT_J9_max_7cf53) (hts _ qN_J9) (hts _ qK_J9_max_7cf53) (Nat.le_of_ble_eq_true rfl) (Nat.le_of_ble_eq_true rfl) (Nat.le_refl _) (Nat.le_refl _) dX4_partingBit_33 ?_
      obtain ⟨x5, e6, hf⟩ := um_le hf
      refine um_top e6 ?_
      clear e6
      refine lv_istore (pc := 36) (lv' := [(6, .int x5), (5, .int x2), (0, .ref (α h0)), (1, .int v1), (2, .int v2), (3, .int v3), (4, .int v4)]) hx hb dX4_partingBit_36 hl (by decide) rfl ?_
      clear hl
      intro ls hl
      refine lv_iload (pc := 38) hx hb dX4_partingBit_38 (lv_at hl 0 rfl) ?_
      refine lv_iload_n (pc := 40) hx hb dX4_partingBit_40 rfl (lv_at hl 5 rfl) ?_
      refine lv_icmp_ge (pc := 41) (tgt := 50) hx hb dX4_partingBit_41 (by decide) (fun c1 => ?_) (fun c1 => ?_)
      · have hf := um_it c1 hf
        clear c1
        refine lv_iinc (pc := 50) (v := v4 + (1 : Int32)) (lv' := [(4, .int (v4 + (1 : Int32))), (6, .int x5), (5, .int x2), (0, .ref (α h0)), (1, .int v1), (2, .int v2), (3, .int v3)]) hx hb dX4_partingBit_50 hl (k := 6) rfl rfl (by decide) rfl ?_
        clear hl
        intro ls hl
        refine lv_goto (pc := 53) (tgt := 8) hx hb dX4_partingBit_53 (by decide) ?_
        exact ih _ _ _ _ _ _ hf hW hS (lv_sub hl [3, 4, 5, 6, 0] rfl)
      · have hf := um_ie c1 hf
        clear c1
        refine lv_iload (pc := 44) hx hb dX4_partingBit_44 (lv_at hl 6 rfl) ?_
        refine lv_istore_n (pc := 46) (lv' := [(2, .int v4), (6, .int x5), (5, .int x2), (0, .ref (α h0)), (1, .int v1), (3, .int v3), (4, .int v4)]) hx hb dX4_partingBit_46 rfl hl (by decide) rfl ?_
        clear hl
        intro ls hl
        refine lv_iload (pc := 47) hx hb dX4_partingBit_47 (lv_at hl 1 rfl) ?_
        refine lv_istore_n (pc := 49) (lv' := [(3, .int x5), (2, .int v4), (6, .int x5), (5, .int x2), (0, .ref (α h0)), (1, .int v1), (4, .int v4)]) hx hb dX4_partingBit_49 rfl hl (by decide) rfl ?_
        clear hl
        intro ls hl
        refine lv_iinc (pc := 50) (v := v4 + (1 : Int32)) (lv' := [(4, .int (v4 + (1 : Int32))), (3, .int x5), (2, .int v4), (6, .int x5), (5, .int x2), (0, .ref (α h0)), (1, .int v1)]) hx hb dX4_partingBit_50 hl (k := 6) rfl rfl (by decide) rfl ?_
        clear hl
        intro ls hl
        refine lv_goto (pc := 53) (tgt := 8) hx hb dX4_partingBit_53 (by decide) ?_
        exact ih _ _ _ _ _ _ hf hW hS (lv_sub hl [5, 6, 2, 1, 0] rfl)
set_option maxRecDepth 100000 in
set_option maxHeartbeats 4000000 in
theorem b_X4_partingBit {H : Heap} {locs : List Loc} {ls : Array Slot} {σ : um_S} {r : Int32} (h0 : Nat) (a1 : Int32) (hh0 : um_h h0) (hX : um_X sh) (hf : f_X4_partingBit h0 a1 σ = some r) (Cx : um_C p s m meth c args cX4_partingBit 7 (some FieldType.int) RX4 Z) (hW : um_W Z sh α σ H) (hS : va_S (um_D sh α) s.heap H locs) (hl : lv_has ls 7 [(0, .ref (α h0)), (1, .int a1)]) : um_G p l e (2) (48) s m args below meth c Z sh α σ (some (.int r)) H locs (F0 m 0 ls []) := by
  have hx := Cx.1
  have hb := Cx.2.1
  have hown := Cx.2.2.2.2.1
  have hts := Cx.2.2.2.2.2.1
  rw [f_X4_partingBit] at hf
  refine lv_iconst (pc := 0) (v := (0 : Int32)) hx hb dX4_partingBit_0 (by decide) ?_
  refine lv_istore_n (pc := 1) (lv' := [(2, .int (0 : Int32)), (0, .ref (α h0)), (1, .int a1)]) hx hb dX4_partingBit_1 rfl hl (by decide) rfl ?_
  clear hl
  intro ls hl
  refine lv_bipush (pc := 2) (v := (15 : Int32)) hx hb dX4_partingBit_2 (by decide) ?_
  refine lv_istore_n (pc := 4) (lv' := [(3, .int (15 : Int32)), (2, .int (0 : Int32)), (0, .ref (α h0)), (1, .int a1)]) hx hb dX4_partingBit_4 rfl hl (by decide) rfl ?_
  clear hl
  intro ls hl
  refine lv_iconst (pc := 5) (v := (0 : Int32)) hx hb dX4_partingBit_5 (by decide) ?_
  refine lv_istore (pc := 6) (lv' := [(4, .int (0 : Int32)), (3, .int (15 : Int32)), (2, .int (0 : Int32)), (0, .ref (α h0)), (1, .int a1)]) hx hb dX4_partingBit_6 hl (by decide) rfl ?_
  clear hl
  intro ls hl
  obtain ⟨x1, hc2, hf⟩ := um_bi hf
  refine t_X4_partingBit_l8 h0 a1 hh0 hX Cx ?_ um_N _ _ _ _ _ _ hc2 hW hS (lv_sub hl [3, 4, 2, 1, 0] rfl)
  clear hW hS hl hc2
  intro H locs ls hW hS hl
  refine lv_iload_n (pc := 56) hx hb dX4_partingBit_56 rfl (lv_at hl 0 rfl) ?_
  exact um_iretR (pc := 57) Cx hW hS hf dX4_partingBit_57
theorem c_X4_partingBit {σ : um_S} {r : Int32} (h0 : Nat) (a1 : Int32) (hh0 : um_h h0) (hX : um_X sh) (hf : f_X4_partingBit h0 a1 σ = some r) : um_M l yX4_partingBit cX4_partingBit 7 (some FieldType.int) (2) (48) Z sh α σ [.ref (α h0), .int a1] (some (.int r)) σ :=
  um_start (by decide) (Nat.le_of_ble_eq_true rfl) (fun p e s m below meth c ls Cx hW hS hl => b_X4_partingBit h0 a1 hh0 hX hf Cx hW hS hl)
noncomputable def f_X4_release (h0 : Nat) (a1 : Int32) (σ : um_S) : Option (um_S) :=
    (f_X5_get (20 * h0 + 1) a1 (5 : Int32) σ).bind fun x2 =>
    (um_let (fun (σ4 : um_S) =>
    ((f_X5_get (20 * h0 + 1) a1 (10 : Int32) σ4).bind fun x6 =>
    ((f_X5_get (20 * h0 + 1) a1 (13 : Int32) σ4).bind fun x8 =>
    (um_let (fun (x10 : Int32) =>
    (if x10 = 0 then
    (some σ4)
    else
    ((f_X4_isServing h0 a1 σ4).bind fun x12 =>
    (if (um_b x12) = 0 then
    (some σ4)
    else
    ((f_X4_become h0 a1 (6 : Int32) (0 : Int32) σ4).bind fun σ14 =>
    (some σ14)))))) fun k9 =>
    (if (((σ4.1 h0 12) + (1 : Int32)) - x6) < x8 then
    (k9 (0 : Int32))
    else
    (k9 (1 : Int32))))))) fun k3 =>
    (if x2 = (3 : Int32) then
    ((f_X5_get (20 * h0 + 1) a1 (6 : Int32) σ).bind fun x16 =>
    (if x16 = ((σ.1 h0 12) + (1 : Int32)) then
    ((f_X4_become h0 a1 (1 : Int32) (0 : Int32) σ).bind fun σ18 =>
    (k3 σ18))
    else
    (k3 σ)))
    else
    (k3 σ)))
set_option maxRecDepth 100000 in
set_option maxHeartbeats 4000000 in
theorem b_X4_release {H : Heap} {locs : List Loc} {ls : Array Slot} {σ : um_S} {σ' : um_S} (h0 : Nat) (a1 : Int32) (hh0 : um_h h0) (hX : um_X sh) (hf : f_X4_release h0 a1 σ = some σ') (Cx : um_C p s m meth c args cX4_release 3 none RX4 Z) (hW : um_W Z sh α σ H) (hS : va_S (um_D sh α) s.heap H locs) (hl : lv_has ls 3 [(0, .ref (α h0)), (1, .int a1)]) : um_G p l e (2) (48) s m args below meth c Z sh α σ' none H locs (F0 m 0 ls []) := by
  have hx := Cx.1
  have hb := Cx.2.1
  have hown := Cx.2.2.2.2.1
  have hts := Cx.2.2.2.2.2.1
  rw [f_X4_release] at hf
  refine lv_aload_n (pc := 0) hx hb dX4_release_0 rfl (lv_at hl 0 rfl) ?_
  refine gF_X4_20 (pc := 1) Cx hW (xs_shore hX hh0) rfl dX4_release_1 ?_
  refine lv_iload_n (pc := 4) hx hb dX4_release_4 rfl (lv_at hl 1 rfl) ?_
  refine lv_iconst (pc := 5) (v := (5 : Int32)) hx hb dX4_release_5 (by decide) ?_
  obtain ⟨x2, hc1, hf⟩ := um_bi hf
  refine um_cVi (pc := 6) (As := [.int a1, .int (5 : Int32)]) (rest := []) Cx (c_X5_get (20 * h0 + 1) a1 (5 : Int32) (xs_ht hh0 1 rfl) hX hc1) kV_X5_get (Or.inl qM_X4_82) hW hS (xs_tab hX (xs_ht hh0 1 rfl)) rfl rfl hl rfl (Nat.le_of_ble_eq_true rfl) (Nat.le_of_ble_eq_true rfl) (Nat.le_of_ble_eq_true rfl) dX4_release_6 (Nat.le_refl _) (Nat.le_refl _) ?_
  clear hW hS hc1
  intro H locs hW hS
  refine lv_iconst (pc := 9) (v := (3 : Int32)) hx hb dX4_release_9 (by decide) ?_
  obtain ⟨k3, hk3, hf⟩ := um_j1 hf
  have J3 : ∀ (σ4 : um_S), k3 σ4 = some σ' → ∀ (H : Heap) (locs : List Loc) (ls : Array Slot), um_W Z sh α σ4 H → va_S (um_D sh α) s.heap H locs → lv_has ls 3 [(0, .ref (α h0)), (1, .int a1)] → um_G p l e (2) (48) s m args below meth c Z sh α σ' none H locs (F0 m 39 ls []) := by
    intro σ4 hf H locs ls hW hS hl
    rw [hk3] at hf
    refine lv_aload_n (pc := 39) hx hb dX4_release_39 rfl (lv_at hl 0 rfl) ?_
    refine gF_X4_64 (pc := 40) Cx hW (xs_shore hX hh0) rfl dX4_release_40 ?_
    refine lv_iconst (pc := 43) (v := (1 : Int32)) hx hb dX4_release_43 (by decide) ?_
    refine lv_iadd (pc := 44) hx hb dX4_release_44 ?_
    refine lv_aload_n (pc := 45) hx hb dX4_release_45 rfl (lv_at hl 0 rfl) ?_
    refine gF_X4_20 (pc := 46) Cx hW (xs_shore hX hh0) rfl dX4_release_46 ?_
    refine lv_iload_n (pc := 49) hx hb dX4_release_49 rfl (lv_at hl 1 rfl) ?_
    refine lv_bipush (pc := 50) (v := (10 : Int32)) hx hb dX4_release_50 (by decide) ?_
    obtain ⟨x6, hc5, hf⟩ := um_bi hf
    refine um_cVi (pc := 52) (As := [.int a1, .int (10 : Int32)]) (rest := [.int ((σ4.1 h0 12) + (1 : Int32))]) Cx (c_X5_get (20 * h0 + 1) a1 (10 : Int32) (xs_ht hh0 1 rfl) hX hc5) kV_X5_get (Or.inl qM_X4_82) hW hS (xs_tab hX (xs_ht hh0 1 rfl)) rfl rfl hl rfl (Nat.le_of_ble_eq_true rfl) (Nat.le_of_ble_eq_true rfl) (Nat.le_of_ble_eq_true rfl) dX4_release_52 (Nat.le_refl _) (Nat.le_refl _) ?_
    clear hW hS hc5
    intro H locs hW hS
    refine lv_isub (pc := 55) hx hb dX4_release_55 ?_
    refine lv_aload_n (pc := 56) hx hb dX4_release_56 rfl (lv_at hl 0 rfl) ?_
    refine gF_X4_20 (pc := 57) Cx hW (xs_shore hX hh0) rfl dX4_release_57 ?_
    refine lv_iload_n (pc := 60) hx hb dX4_release_60 rfl (lv_at hl 1 rfl) ?_
    refine lv_bipush (pc := 61) (v := (13 : Int32)) hx hb dX4_release_61 (by decide) ?_
    obtain ⟨x8, hc7, hf⟩ := um_bi hf
    refine um_cVi (pc := 63) (As := [.int a1, .int (13 : Int32)]) (rest := [.int (((σ4.1 h0 12) + (1 : Int32)) - x6)]) Cx (c_X5_get (20 * h0 + 1) a1 (13 : Int32) (xs_ht hh0 1 rfl) hX hc7) kV_X5_get (Or.inl qM_X4_82) hW hS (xs_tab hX (xs_ht hh0 1 rfl)) rfl rfl hl rfl (Nat.le_of_ble_eq_true rfl) (Nat.le_of_ble_eq_true rfl) (Nat.le_of_ble_eq_true rfl) dX4_release_63 (Nat.le_refl _) (Nat.le_refl _) ?_
    clear hW hS hc7
    intro H locs hW hS
    obtain ⟨k9, hk9, hf⟩ := um_j1 hf
    have J9 : ∀ (x10 : Int32), k9 x10 = some σ' → ∀ (H : Heap) (locs : List Loc) (ls : Array Slot), um_W Z sh α σ4 H → va_S (um_D sh α) s.heap H locs → lv_has ls 3 [(0, .ref (α h0)), (1, .int a1)] → um_G p l e (2) (48) s m args below meth c Z sh α σ' none H locs (F0 m 74 ls [.int x10]) := by
      intro x10 hf H locs ls hW hS hl
      rw [hk9] at hf
      refine lv_istore_n (pc := 74) (lv' := [(2, .int x10), (0, .ref (α h0)), (1, .int a1)]) hx hb dX4_release_74 rfl hl (by decide) rfl ?_
      clear hl
      intro ls hl
      refine lv_iload_n (pc := 75) hx hb dX4_release_75 rfl (lv_at hl 0 rfl) ?_
      refine lv_if_eq (pc := 76) (tgt := 95) hx hb dX4_release_76 (by decide) (fun c1 => ?_) (fun c1 => ?_)
      · have hf := um_it c1 hf
        clear c1
        exact um_vret (pc := 95) Cx hW hS hf dX4_release_95
      · have hf := um_ie c1 hf
        clear c1
        refine lv_aload_n (pc := 79) hx hb dX4_release_79 rfl (lv_at hl 1 rfl) ?_
        refine lv_iload_n (pc := 80) hx hb dX4_release_80 rfl (lv_at hl 2 rfl) ?_
        obtain ⟨x12, hc11, hf⟩ := um_bi hf
        refine um_cVi (pc := 81) (As := [.int a1]) (rest := []) Cx (c_X4_isServing h0 a1 hh0 hX hc11) kV_X4_isServing (Or.inl qM_X4_147) hW hS (xs_shore hX hh0) rfl rfl hl rfl (Nat.le_of_ble_eq_true rfl) (Nat.le_of_ble_eq_true rfl) (Nat.le_of_ble_eq_true rfl) dX4_release_81 (Nat.le_refl _) (Nat.le_refl _) ?_
        clear hW hS hc11
        intro H locs hW hS
        refine lv_if_eq (pc := 84) (tgt := 95) hx hb dX4_release_84 (by decide) (fun c1 => ?_) (fun c1 => ?_)
        · have hf := um_it c1 hf
          clear c1
          exact um_vret (pc := 95) Cx hW hS hf dX4_release_95
        · have hf := um_ie c1 hf
          clear c1
          refine lv_aload_n (pc := 87) hx hb dX4_release_87 rfl (lv_at hl 1 rfl) ?_
          refine lv_iload_n (pc := 88) hx hb dX4_release_88 rfl (lv_at hl 2 rfl) ?_
          refine lv_bipush (pc := 89) (v := (6 : Int32)) hx hb dX4_release_89 (by decide) ?_
          refine lv_iconst (pc := 91) (v := (0 : Int32)) hx hb dX4_release_91 (by decide) ?_
          obtain ⟨σ14, hc13, hf⟩ := um_bi hf
          refine um_cVv (pc := 92) (As := [.int a1, .int (6 : Int32), .int (0 : Int32)]) (rest := []) Cx (c_X4_become h0 a1 (6 : Int32) (0 : Int32) hh0 hX hc13) kV_X4_become (Or.inl qM_X4_74) hW hS (xs_shore hX hh0) rfl rfl hl rfl (Nat.le_of_ble_eq_true rfl) (Nat.le_of_ble_eq_true rfl) (Nat.le_of_ble_eq_true rfl) dX4_release_92 (Nat.le_refl _) (Nat.le_refl _) ?_
          clear hW hS hc13
          intro H locs hW hS
          exact um_vret (pc := 95) Cx hW hS hf dX4_release_95
    refine lv_icmp_lt (pc := 66) (tgt := 73) hx hb dX4_release_66 (by decide) (fun c1 => ?_) (fun c1 => ?_)
    · have hf := um_it c1 hf
      clear c1
      refine lv_iconst (pc := 73) (v := (0 : Int32)) hx hb dX4_release_73 (by decide) ?_
      exact J9 (0 : Int32) hf _ _ _ hW hS hl
    · have hf := um_ie c1 hf
      clear c1
      refine lv_iconst (pc := 69) (v := (1 : Int32)) hx hb dX4_release_69 (by decide) ?_
      refine lv_goto (pc := 70) (tgt := 74) hx hb dX4_release_70 (by decide) ?_
      exact J9 (1 : Int32) hf _ _ _ hW hS hl
  refine lv_icmp_ne (pc := 10) (tgt := 39) hx hb dX4_release_10 (by decide) (fun c1 => ?_) (fun c1 => ?_)
  · have hf := um_ie c1 hf
    clear c1
    exact J3 σ hf _ _ _ hW hS hl
  · have hf := um_it c1 hf
    clear c1
    refine lv_aload_n (pc := 13) hx hb dX4_release_13 rfl (lv_at hl 0 rfl) ?_
    refine gF_X4_20 (pc := 14) Cx hW (xs_shore hX hh0) rfl dX4_release_14 ?_
    refine lv_iload_n (pc := 17) hx hb dX4_release_17 rfl (lv_at hl 1 rfl) ?_
    refine lv_bipush (pc := 18) (v := (6 : Int32)) hx hb dX4_release_18 (by decide) ?_
    obtain ⟨x16, hc15, hf⟩ := um_bi hf
    refine um_cVi (pc := 20) (As := [.int a1, .int (6 : Int32)]) (rest := []) Cx (c_X5_get (20 * h0 + 1) a1 (6 : Int32) (xs_ht hh0 1 rfl) hX hc15) kV_X5_get (Or.inl qM_X4_82) hW hS (xs_tab hX (xs_ht hh0 1 rfl)) rfl rfl hl rfl (Nat.le_of_ble_eq_true rfl) (Nat.le_of_ble_eq_true rfl) (Nat.le_of_ble_eq_true rfl) dX4_release_20 (Nat.le_refl _) (Nat.le_refl _) ?_
    clear hW hS hc15
    intro H locs hW hS
    refine lv_aload_n (pc := 23) hx hb dX4_release_23 rfl (lv_at hl 0 rfl) ?_
    refine gF_X4_64 (pc := 24) Cx hW (xs_shore hX hh0) rfl dX4_release_24 ?_
    refine lv_iconst (pc := 27) (v := (1 : Int32)) hx hb dX4_release_27 (by decide) ?_
    refine lv_iadd (pc := 28) hx hb dX4_release_28 ?_
    refine lv_icmp_ne (pc := 29) (tgt := 39) hx hb dX4_release_29 (by decide) (fun c1 => ?_) (fun c1 => ?_)
    · have hf := um_ie c1 hf
      clear c1
      exact J3 σ hf _ _ _ hW hS hl
    · have hf := um_it c1 hf
      clear c1
      refine lv_aload_n (pc := 32) hx hb dX4_release_32 rfl (lv_at hl 0 rfl) ?_
      refine lv_iload_n (pc := 33) hx hb dX4_release_33 rfl (lv_at hl 1 rfl) ?_
      refine lv_iconst (pc := 34) (v := (1 : Int32)) hx hb dX4_release_34 (by decide) ?_
      refine lv_iconst (pc := 35) (v := (0 : Int32)) hx hb dX4_release_35 (by decide) ?_
      obtain ⟨σ18, hc17, hf⟩ := um_bi hf
      refine um_cVv (pc := 36) (As := [.int a1, .int (1 : Int32), .int (0 : Int32)]) (rest := []) Cx (c_X4_become h0 a1 (1 : Int32) (0 : Int32) hh0 hX hc17) kV_X4_become (Or.inl qM_X4_74) hW hS (xs_shore hX hh0) rfl rfl hl rfl (Nat.le_of_ble_eq_true rfl) (Nat.le_of_ble_eq_true rfl) (Nat.le_of_ble_eq_true rfl) dX4_release_36 (Nat.le_refl _) (Nat.le_refl _) ?_
      clear hW hS hc17
      intro H locs hW hS
      exact J3 σ18 hf _ _ _ hW hS hl
theorem c_X4_release {σ : um_S} {σ' : um_S} (h0 : Nat) (a1 : Int32) (hh0 : um_h h0) (hX : um_X sh) (hf : f_X4_release h0 a1 σ = some σ') : um_M l yX4_release cX4_release 3 none (2) (48) Z sh α σ [.ref (α h0), .int a1] none σ' :=
  um_start (by decide) (Nat.le_of_ble_eq_true rfl) (fun p e s m below meth c ls Cx hW hS hl => b_X4_release h0 a1 hh0 hX hf Cx hW hS hl)
noncomputable def f_X4_tempt (h0 : Nat) (a1 : Int32) (σ : um_S) : Option (um_S) :=
    um_let (um_wr σ h0 13 ((((25173 : Int32) * (σ.1 h0 13)) + (13849 : Int32)) &&& (65535 : Int32))) fun σ1 =>
    ((f_X5_get (20 * h0 + 1) a1 (5 : Int32) σ1).bind fun x4 =>
    ((f_X4_marksOf h0 a1 σ1).bind fun x6 =>
    ((f_X5_get (20 * h0 + 1) a1 (4 : Int32) σ1).bind fun x8 =>
    (um_b2 (f_X1_rule h0 (3 : Int32) (σ1.1 h0 12) x4 x6 x8 σ1) fun x11 σ10 =>
    (if ((σ10.1 h0 13) - (σ10.1 h0 13) / (100 : Int32) * (100 : Int32)) < x11 then
    (um_b2 (f_X4_ironsForOneMore h0 a1 (((σ10.1 h0 13) / (100 : Int32)) - ((σ10.1 h0 13) / (100 : Int32)) / (4 : Int32) * (4 : Int32)) σ10) fun x14 σ13 =>
    (if x14 ≤ 0 then
    (some σ13)
    else
    ((f_X4_become h0 a1 (3 : Int32) ((σ13.1 h0 12) + x14) σ13).bind fun σ16 =>
    (some σ16))))
    else
    (some σ10))))))
set_option maxRecDepth 100000 in
set_option maxHeartbeats 4000000 in
theorem b_X4_tempt {H : Heap} {locs : List Loc} {ls : Array Slot} {σ : um_S} {σ' : um_S} (h0 : Nat) (a1 : Int32) (hh0 : um_h h0) (hX : um_X sh) (hf : f_X4_tempt h0 a1 σ = some σ') (Cx : um_C p s m meth c args cX4_tempt 4 none RX4 Z) (hW : um_W Z sh α σ H) (hS : va_S (um_D sh α) s.heap H locs) (hl : lv_has ls 4 [(0, .ref (α h0)), (1, .int a1)]) : um_G p l e (4) (101) s m args below meth c Z sh α σ' none H locs (F0 m 0 ls []) := by
  have hx := Cx.1
  have hb := Cx.2.1
  have hown := Cx.2.2.2.2.1
  have hts := Cx.2.2.2.2.2.1
  rw [f_X4_tempt] at hf
  refine lv_aload_n (pc := 0) hx hb dX4_tempt_0 rfl (lv_at hl 0 rfl) ?_
  refine lv_sipush (pc := 1) (v := (25173 : Int32)) hx hb dX4_tempt_1 (by decide) ?_
  refine lv_aload_n (pc := 4) hx hb dX4_tempt_4 rfl (lv_at hl 0 rfl) ?_
  refine gF_X4_68 (pc := 5) Cx hW (xs_shore hX hh0) rfl dX4_tempt_5 ?_
  refine lv_imul (pc := 8) hx hb dX4_tempt_8 ?_
  refine lv_sipush (pc := 9) (v := (13849 : Int32)) hx hb dX4_tempt_9 (by decide) ?_
  refine lv_iadd (pc := 12) hx hb dX4_tempt_12 ?_
  refine lv_ldc (pc := 13) hx hb hown (hts _ qC_X4_170) dX4_tempt_13 ?_
  refine lv_iand (pc := 15) hx hb dX4_tempt_15 ?_
  refine gP_X4_68 (pc := 16) Cx hW hS (xs_shore hX hh0) rfl dX4_tempt_16 ?_
  clear hW hS
  intro H locs hW hS
  obtain ⟨σ1, e2, hf⟩ := um_le hf
  rw [← e2] at hW
  clear e2
  refine lv_aload_n (pc := 19) hx hb dX4_tempt_19 rfl (lv_at hl 0 rfl) ?_
  refine gF_X4_53 (pc := 20) Cx hW (xs_shore hX hh0) rfl dX4_tempt_20 ?_
  refine lv_iconst (pc := 23) (v := (3 : Int32)) hx hb dX4_tempt_23 (by decide) ?_
  refine lv_aload_n (pc := 24) hx hb dX4_tempt_24 rfl (lv_at hl 0 rfl) ?_
  refine gF_X4_64 (pc := 25) Cx hW (xs_shore hX hh0) rfl dX4_tempt_25 ?_
  refine lv_aload_n (pc := 28) hx hb dX4_tempt_28 rfl (lv_at hl 0 rfl) ?_
  refine gF_X4_20 (pc := 29) Cx hW (xs_shore hX hh0) rfl dX4_tempt_29 ?_
  refine lv_iload_n (pc := 32) hx hb dX4_tempt_32 rfl (lv_at hl 1 rfl) ?_
  refine lv_iconst (pc := 33) (v := (5 : Int32)) hx hb dX4_tempt_33 (by decide) ?_
  obtain ⟨x4, hc3, hf⟩ := um_bi hf
  refine um_cVi (pc := 34) (As := [.int a1, .int (5 : Int32)]) (rest := [.int (σ1.1 h0 12), .int (3 : Int32), .ref (α (20 * h0 + 11))]) Cx (c_X5_get (20 * h0 + 1) a1 (5 : Int32) (xs_ht hh0 1 rfl) hX hc3) kV_X5_get (Or.inl qM_X4_82) hW hS (xs_tab hX (xs_ht hh0 1 rfl)) rfl rfl hl rfl (Nat.le_of_ble_eq_true rfl) (Nat.le_of_ble_eq_true rfl) (Nat.le_of_ble_eq_true rfl) dX4_tempt_34 (Nat.le_refl _) (Nat.le_refl _) ?_
  clear hW hS hc3
  intro H locs hW hS
  refine lv_aload_n (pc := 37) hx hb dX4_tempt_37 rfl (lv_at hl 0 rfl) ?_
  refine lv_iload_n (pc := 38) hx hb dX4_tempt_38 rfl (lv_at hl 1 rfl) ?_
  obtain ⟨x6, hc5, hf⟩ := um_bi hf
  refine um_cVi (pc := 39) (As := [.int a1]) (rest := [.int x4, .int (σ1.1 h0 12), .int (3 : Int32), .ref (α (20 * h0 + 11))]) Cx (c_X4_marksOf h0 a1 hh0 hX hc5) kV_X4_marksOf (Or.inl qM_X4_113) hW hS (xs_shore hX hh0) rfl rfl hl rfl (Nat.le_of_ble_eq_true rfl) (Nat.le_of_ble_eq_true rfl) (Nat.le_of_ble_eq_true rfl) dX4_tempt_39 (Nat.le_refl _) (Nat.le_refl _) ?_
  clear hW hS hc5
  intro H locs hW hS
  refine lv_aload_n (pc := 42) hx hb dX4_tempt_42 rfl (lv_at hl 0 rfl) ?_
  refine gF_X4_20 (pc := 43) Cx hW (xs_shore hX hh0) rfl dX4_tempt_43 ?_
  refine lv_iload_n (pc := 46) hx hb dX4_tempt_46 rfl (lv_at hl 1 rfl) ?_
  refine lv_iconst (pc := 47) (v := (4 : Int32)) hx hb dX4_tempt_47 (by decide) ?_
  obtain ⟨x8, hc7, hf⟩ := um_bi hf
  refine um_cVi (pc := 48) (As := [.int a1, .int (4 : Int32)]) (rest := [.int x6, .int x4, .int (σ1.1 h0 12), .int (3 : Int32), .ref (α (20 * h0 + 11))]) Cx (c_X5_get (20 * h0 + 1) a1 (4 : Int32) (xs_ht hh0 1 rfl) hX hc7) kV_X5_get (Or.inl qM_X4_82) hW hS (xs_tab hX (xs_ht hh0 1 rfl)) rfl rfl hl rfl (Nat.le_of_ble_eq_true rfl) (Nat.le_of_ble_eq_true rfl) (Nat.le_of_ble_eq_true rfl) dX4_tempt_48 (Nat.le_refl _) (Nat.le_refl _) ?_
  clear hW hS hc7
  intro H locs hW hS
  obtain ⟨x11, σ10, hc9, hf⟩ := um_bi2 hf
  refine um_cVi (pc := 51) (As := [.int (3 : Int32), .int (σ1.1 h0 12), .int x4, .int x6, .int x8]) (rest := []) Cx (c_X1_rule h0 (3 : Int32) (σ1.1 h0 12) x4 x6 x8 hh0 hX hc9) kV_X1_rule (Or.inl qM_X4_116) hW hS (xs_law hX hh0) rfl rfl hl rfl (Nat.le_of_ble_eq_true rfl) (Nat.le_of_ble_eq_true rfl) (Nat.le_of_ble_eq_true rfl) dX4_tempt_51 (Nat.le_refl _) (Nat.le_refl _) ?_
  clear hW hS hc9
  intro H locs hW hS
  refine lv_istore_n (pc := 54) (lv' := [(2, .int x11), (0, .ref (α h0)), (1, .int a1)]) hx hb dX4_tempt_54 rfl hl (by decide) rfl ?_
  clear hl
  intro ls hl
  refine lv_aload_n (pc := 55) hx hb dX4_tempt_55 rfl (lv_at hl 1 rfl) ?_
  refine gF_X4_68 (pc := 56) Cx hW (xs_shore hX hh0) rfl dX4_tempt_56 ?_
  refine lv_bipush (pc := 59) (v := (100 : Int32)) hx hb dX4_tempt_59 (by decide) ?_
  refine lv_irem (pc := 61) hx hb dX4_tempt_61 (by decide) ?_
  refine lv_iload_n (pc := 62) hx hb dX4_tempt_62 rfl (lv_at hl 0 rfl) ?_
  refine lv_icmp_lt (pc := 63) (tgt := 67) hx hb dX4_tempt_63 (by decide) (fun c1 => ?_) (fun c1 => ?_)
  · have hf := um_it c1 hf
    clear c1
    refine lv_aload_n (pc := 67) hx hb dX4_tempt_67 rfl (lv_at hl 1 rfl) ?_
    refine lv_iload_n (pc := 68) hx hb dX4_tempt_68 rfl (lv_at hl 2 rfl) ?_
    refine lv_aload_n (pc := 69) hx hb dX4_tempt_69 rfl (lv_at hl 1 rfl) ?_
    refine gF_X4_68 (pc := 70) Cx hW (xs_shore hX hh0) rfl dX4_tempt_70 ?_
    refine lv_bipush (pc := 73) (v := (100 : Int32)) hx hb dX4_tempt_73 (by decide) ?_
    refine lv_idiv (pc := 75) hx hb dX4_tempt_75 (by decide) ?_
    refine lv_iconst (pc := 76) (v := (4 : Int32)) hx hb dX4_tempt_76 (by decide) ?_
    refine lv_irem (pc := 77) hx hb dX4_tempt_77 (by decide) ?_
    obtain ⟨x14, σ13, hc12, hf⟩ := um_bi2 hf
    refine um_cVi (pc := 78) (As := [.int a1, .int (((σ10.1 h0 13) / (100 : Int32)) - ((σ10.1 h0 13) / (100 : Int32)) / (4 : Int32) * (4 : Int32))]) (rest := []) Cx (c_X4_ironsForOneMore h0 a1 (((σ10.1 h0 13) / (100 : Int32)) - ((σ10.1 h0 13) / (100 : Int32)) / (4 : Int32) * (4 : Int32)) hh0 hX hc12) kV_X4_ironsForOneMore (Or.inl qM_X4_171) hW hS (xs_shore hX hh0) rfl rfl hl rfl (Nat.le_of_ble_eq_true rfl) (Nat.le_of_ble_eq_true rfl) (Nat.le_of_ble_eq_true rfl) dX4_tempt_78 (Nat.le_refl _) (Nat.le_refl _) ?_
    clear hW hS hc12
    intro H locs hW hS
    refine lv_istore_n (pc := 81) (lv' := [(3, .int x14), (2, .int x11), (0, .ref (α h0)), (1, .int a1)]) hx hb dX4_tempt_81 rfl hl (by decide) rfl ?_
    clear hl
    intro ls hl
    refine lv_iload_n (pc := 82) hx hb dX4_tempt_82 rfl (lv_at hl 0 rfl) ?_
    refine lv_if_le (pc := 83) (tgt := 98) hx hb dX4_tempt_83 (by decide) (fun c1 => ?_) (fun c1 => ?_)
    · have hf := um_it c1 hf
      clear c1
      exact um_vret (pc := 98) Cx hW hS hf dX4_tempt_98
    · have hf := um_ie c1 hf
      clear c1
      refine lv_aload_n (pc := 86) hx hb dX4_tempt_86 rfl (lv_at hl 2 rfl) ?_
      refine lv_iload_n (pc := 87) hx hb dX4_tempt_87 rfl (lv_at hl 3 rfl) ?_
      refine lv_iconst (pc := 88) (v := (3 : Int32)) hx hb dX4_tempt_88 (by decide) ?_
      refine lv_aload_n (pc := 89) hx hb dX4_tempt_89 rfl (lv_at hl 2 rfl) ?_
      refine gF_X4_64 (pc := 90) Cx hW (xs_shore hX hh0) rfl dX4_tempt_90 ?_
      refine lv_iload_n (pc := 93) hx hb dX4_tempt_93 rfl (lv_at hl 0 rfl) ?_
      refine lv_iadd (pc := 94) hx hb dX4_tempt_94 ?_
      obtain ⟨σ16, hc15, hf⟩ := um_bi hf
      refine um_cVv (pc := 95) (As := [.int a1, .int (3 : Int32), .int ((σ13.1 h0 12) + x14)]) (rest := []) Cx (c_X4_become h0 a1 (3 : Int32) ((σ13.1 h0 12) + x14) hh0 hX hc15) kV_X4_become (Or.inl qM_X4_74) hW hS (xs_shore hX hh0) rfl rfl hl rfl (Nat.le_of_ble_eq_true rfl) (Nat.le_of_ble_eq_true rfl) (Nat.le_of_ble_eq_true rfl) dX4_tempt_95 (Nat.le_refl _) (Nat.le_refl _) ?_
      clear hW hS hc15
      intro H locs hW hS
      exact um_vret (pc := 98) Cx hW hS hf dX4_tempt_98
  · have hf := um_ie c1 hf
    clear c1
    exact um_vret (pc := 66) Cx hW hS hf dX4_tempt_66
theorem c_X4_tempt {σ : um_S} {σ' : um_S} (h0 : Nat) (a1 : Int32) (hh0 : um_h h0) (hX : um_X sh) (hf : f_X4_tempt h0 a1 σ = some σ') : um_M l yX4_tempt cX4_tempt 4 none (4) (101) Z sh α σ [.ref (α h0), .int a1] none σ' :=
  um_start (by decide) (Nat.le_of_ble_eq_true rfl) (fun p e s m below meth c ls Cx hW hS hl => b_X4_tempt h0 a1 hh0 hX hf Cx hW hS hl)
