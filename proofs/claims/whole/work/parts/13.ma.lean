variable {p : Program} {l : Launch} {e : Env} {s : State} {m : MethodId} {args : Array Value} {below : List Frame} {meth : Method} {c : Code} {Z : um_Z} {α : Nat → Nat} {sh : Nat → Option um_Sh}
noncomputable def f_X9_isIn (a0 : Int64) (a2 : Int64) (a4 : Int64) (σ : um_S) : Option (Bool) :=
    if (lg_cmp a0 a2) < 0 then
    (some false)
    else
    (if 0 < (lg_cmp a0 a4) then
    (some false)
    else
    (some true))
set_option maxRecDepth 100000 in
set_option maxHeartbeats 4000000 in
theorem b_X9_isIn {H : Heap} {locs : List Loc} {ls : Array Slot} {σ : um_S} {r : Bool} (a0 : Int64) (a2 : Int64) (a4 : Int64)  (hf : f_X9_isIn a0 a2 a4 σ = some r) (Cx : um_C p s m meth c args cX9_isIn 6 (some FieldType.boolean) RX9 Z) (hW : um_W Z msh α σ H) (hS : va_S (um_D msh α) s.heap H locs) (hl : lv_has ls 6 [(0, .long a0), (2, .long a2), (4, .long a4)]) : um_G p l e (0) (0) s m args below meth c Z msh α σ (some (.int (um_b r))) H locs (F0 m 0 ls []) := by
  have hx := Cx.1
  have hb := Cx.2.1
  have hown := Cx.2.2.2.2.1
  have hts := Cx.2.2.2.2.2.1
  rw [f_X9_isIn] at hf
  refine lv_lload_n (pc := 0) hx hb dX9_isIn_0 rfl (lv_at hl 0 rfl) ?_
  refine lv_lload_n (pc := 1) hx hb dX9_isIn_1 rfl (lv_at hl 1 rfl) ?_
  refine W.lcmp (pc := 2) hx hb dX9_isIn_2 ?_
  refine lv_if_lt (pc := 3) (tgt := 17) hx hb dX9_isIn_3 (by decide) (fun c1 => ?_) (fun c1 => ?_)
  · have hf := um_it c1 hf
    clear c1
    refine lv_iconst (pc := 17) (v := (0 : Int32)) hx hb dX9_isIn_17 (by decide) ?_
    exact um_zretR (pc := 18) Cx hW hS hf rfl dX9_isIn_18
  · have hf := um_ie c1 hf
    clear c1
    refine lv_lload_n (pc := 6) hx hb dX9_isIn_6 rfl (lv_at hl 0 rfl) ?_
    refine lv_lload (pc := 7) hx hb dX9_isIn_7 (lv_at hl 2 rfl) ?_
    refine W.lcmp (pc := 9) hx hb dX9_isIn_9 ?_
    refine lv_if_gt (pc := 10) (tgt := 17) hx hb dX9_isIn_10 (by decide) (fun c1 => ?_) (fun c1 => ?_)
    · have hf := um_it c1 hf
      clear c1
      refine lv_iconst (pc := 17) (v := (0 : Int32)) hx hb dX9_isIn_17 (by decide) ?_
      exact um_zretR (pc := 18) Cx hW hS hf rfl dX9_isIn_18
    · have hf := um_ie c1 hf
      clear c1
      refine lv_iconst (pc := 13) (v := (1 : Int32)) hx hb dX9_isIn_13 (by decide) ?_
      refine lv_goto (pc := 14) (tgt := 18) hx hb dX9_isIn_14 (by decide) ?_
      exact um_zretR (pc := 18) Cx hW hS hf rfl dX9_isIn_18
theorem c_X9_isIn {σ : um_S} {r : Bool} (a0 : Int64) (a2 : Int64) (a4 : Int64)  (hf : f_X9_isIn a0 a2 a4 σ = some r) : um_M l yX9_isIn cX9_isIn 6 (some FieldType.boolean) (0) (0) Z msh α σ [.long a0, .long a2, .long a4] (some (.int (um_b r))) σ :=
  um_start (by decide) (Nat.le_of_ble_eq_true rfl) (fun p e s m below meth c ls Cx hW hS hl => b_X9_isIn a0 a2 a4 hf Cx hW hS hl)
noncomputable def f_X9_isDigit (a1 : Int32) (σ : um_S) : Option (Bool) :=
    if (σ.1 0 8) ≤ a1 then
    (some false)
    else
    (if um_ix a1 96 then
    ((f_X9_isIn ((σ.1 7 a1.toNatClampNeg).toInt64) (48 : Int64) (57 : Int64) σ).bind fun x3 =>
    (if (um_b x3) = 0 then
    (some false)
    else
    (some true))) else none)
set_option maxRecDepth 100000 in
set_option maxHeartbeats 4000000 in
theorem b_X9_isDigit {H : Heap} {locs : List Loc} {ls : Array Slot} {σ : um_S} {r : Bool} (a1 : Int32)  (hf : f_X9_isDigit a1 σ = some r) (Cx : um_C p s m meth c args cX9_isDigit 2 (some FieldType.boolean) RX9 Z) (hW : um_W Z msh α σ H) (hS : va_S (um_D msh α) s.heap H locs) (hl : lv_has ls 2 [(0, .ref (α 0)), (1, .int a1)]) : um_G p l e (1) (25) s m args below meth c Z msh α σ (some (.int (um_b r))) H locs (F0 m 0 ls []) := by
  have hx := Cx.1
  have hb := Cx.2.1
  have hown := Cx.2.2.2.2.1
  have hts := Cx.2.2.2.2.2.1
  rw [f_X9_isDigit] at hf
  refine lv_iload_n (pc := 0) hx hb dX9_isDigit_0 rfl (lv_at hl 1 rfl) ?_
  refine lv_aload_n (pc := 1) hx hb dX9_isDigit_1 rfl (lv_at hl 0 rfl) ?_
  refine gF_X9_140 (pc := 2) Cx hW ms_0 rfl dX9_isDigit_2 ?_
  refine lv_icmp_ge (pc := 5) (tgt := 31) hx hb dX9_isDigit_5 (by decide) (fun c1 => ?_) (fun c1 => ?_)
  · have hf := um_it c1 hf
    clear c1
    refine lv_iconst (pc := 31) (v := (0 : Int32)) hx hb dX9_isDigit_31 (by decide) ?_
    exact um_zretR (pc := 32) Cx hW hS hf rfl dX9_isDigit_32
  · have hf := um_ie c1 hf
    clear c1
    refine lv_aload_n (pc := 8) hx hb dX9_isDigit_8 rfl (lv_at hl 0 rfl) ?_
    refine gF_X9_28 (pc := 9) Cx hW ms_0 rfl dX9_isDigit_9 ?_
    refine lv_iload_n (pc := 12) hx hb dX9_isDigit_12 rfl (lv_at hl 1 rfl) ?_
    obtain ⟨g1, hf⟩ := um_gu hf
    refine um_iald (pc := 13) Cx hW ms_7 rfl (um_ix_in g1) dX9_isDigit_13 ?_
    refine lv_i2l (pc := 14) hx hb dX9_isDigit_14 rfl ?_
    refine lv_ldc2 (pc := 15) hx hb hown (hts _ qL_X9_148) dX9_isDigit_15 ?_
    refine lv_ldc2 (pc := 18) hx hb hown (hts _ qL_X9_150) dX9_isDigit_18 ?_
    obtain ⟨x3, hc2, hf⟩ := um_bi hf
    refine um_cSi (pc := 21) (As := [.long ((σ.1 7 a1.toNatClampNeg).toInt64), .long (48 : Int64), .long (57 : Int64)]) (rest := []) Cx (c_X9_isIn ((σ.1 7 a1.toNatClampNeg).toInt64) (48 : Int64) (57 : Int64) hc2) kS_X9_isIn (Or.inl qM_X9_60) hW hS rfl hl rfl (Nat.le_of_ble_eq_true rfl) (Nat.le_of_ble_eq_true rfl) (Nat.le_of_ble_eq_true rfl) dX9_isDigit_21 (Nat.le_refl _) (Nat.le_refl _) ?_
    clear hW hS hc2
    intro H locs hW hS
    refine lv_if_eq (pc := 24) (tgt := 31) hx hb dX9_isDigit_24 (by decide) (fun c1 => ?_) (fun c1 => ?_)
    · have hf := um_it c1 hf
      clear c1
      refine lv_iconst (pc := 31) (v := (0 : Int32)) hx hb dX9_isDigit_31 (by decide) ?_
      exact um_zretR (pc := 32) Cx hW hS hf rfl dX9_isDigit_32
    · have hf := um_ie c1 hf
      clear c1
      refine lv_iconst (pc := 27) (v := (1 : Int32)) hx hb dX9_isDigit_27 (by decide) ?_
      refine lv_goto (pc := 28) (tgt := 32) hx hb dX9_isDigit_28 (by decide) ?_
      exact um_zretR (pc := 32) Cx hW hS hf rfl dX9_isDigit_32
theorem c_X9_isDigit {σ : um_S} {r : Bool} (a1 : Int32)  (hf : f_X9_isDigit a1 σ = some r) : um_M l yX9_isDigit cX9_isDigit 2 (some FieldType.boolean) (1) (25) Z msh α σ [.ref (α 0), .int a1] (some (.int (um_b r))) σ :=
  um_start (by decide) (Nat.le_of_ble_eq_true rfl) (fun p e s m below meth c ls Cx hW hS hl => b_X9_isDigit a1 hf Cx hW hS hl)
noncomputable def f_X9_isLetter (a1 : Int32) (σ : um_S) : Option (Bool) :=
    if (σ.1 0 8) ≤ a1 then
    (some false)
    else
    (if um_ix a1 96 then
    ((f_X9_isIn ((σ.1 7 a1.toNatClampNeg).toInt64) (97 : Int64) (122 : Int64) σ).bind fun x3 =>
    (if (um_b x3) = 0 then
    (some false)
    else
    (some true))) else none)
set_option maxRecDepth 100000 in
set_option maxHeartbeats 4000000 in
theorem b_X9_isLetter {H : Heap} {locs : List Loc} {ls : Array Slot} {σ : um_S} {r : Bool} (a1 : Int32)  (hf : f_X9_isLetter a1 σ = some r) (Cx : um_C p s m meth c args cX9_isLetter 2 (some FieldType.boolean) RX9 Z) (hW : um_W Z msh α σ H) (hS : va_S (um_D msh α) s.heap H locs) (hl : lv_has ls 2 [(0, .ref (α 0)), (1, .int a1)]) : um_G p l e (1) (25) s m args below meth c Z msh α σ (some (.int (um_b r))) H locs (F0 m 0 ls []) := by
  have hx := Cx.1
  have hb := Cx.2.1
  have hown := Cx.2.2.2.2.1
  have hts := Cx.2.2.2.2.2.1
  rw [f_X9_isLetter] at hf
  refine lv_iload_n (pc := 0) hx hb dX9_isLetter_0 rfl (lv_at hl 1 rfl) ?_
  refine lv_aload_n (pc := 1) hx hb dX9_isLetter_1 rfl (lv_at hl 0 rfl) ?_
  refine gF_X9_140 (pc := 2) Cx hW ms_0 rfl dX9_isLetter_2 ?_
  refine lv_icmp_ge (pc := 5) (tgt := 31) hx hb dX9_isLetter_5 (by decide) (fun c1 => ?_) (fun c1 => ?_)
  · have hf := um_it c1 hf
    clear c1
    refine lv_iconst (pc := 31) (v := (0 : Int32)) hx hb dX9_isLetter_31 (by decide) ?_
    exact um_zretR (pc := 32) Cx hW hS hf rfl dX9_isLetter_32
  · have hf := um_ie c1 hf
    clear c1
    refine lv_aload_n (pc := 8) hx hb dX9_isLetter_8 rfl (lv_at hl 0 rfl) ?_
    refine gF_X9_28 (pc := 9) Cx hW ms_0 rfl dX9_isLetter_9 ?_
    refine lv_iload_n (pc := 12) hx hb dX9_isLetter_12 rfl (lv_at hl 1 rfl) ?_
    obtain ⟨g1, hf⟩ := um_gu hf
    refine um_iald (pc := 13) Cx hW ms_7 rfl (um_ix_in g1) dX9_isLetter_13 ?_
    refine lv_i2l (pc := 14) hx hb dX9_isLetter_14 rfl ?_
    refine lv_ldc2 (pc := 15) hx hb hown (hts _ qL_X9_144) dX9_isLetter_15 ?_
    refine lv_ldc2 (pc := 18) hx hb hown (hts _ qL_X9_146) dX9_isLetter_18 ?_
    obtain ⟨x3, hc2, hf⟩ := um_bi hf
    refine um_cSi (pc := 21) (As := [.long ((σ.1 7 a1.toNatClampNeg).toInt64), .long (97 : Int64), .long (122 : Int64)]) (rest := []) Cx (c_X9_isIn ((σ.1 7 a1.toNatClampNeg).toInt64) (97 : Int64) (122 : Int64) hc2) kS_X9_isIn (Or.inl qM_X9_60) hW hS rfl hl rfl (Nat.le_of_ble_eq_true rfl) (Nat.le_of_ble_eq_true rfl) (Nat.le_of_ble_eq_true rfl) dX9_isLetter_21 (Nat.le_refl _) (Nat.le_refl _) ?_
    clear hW hS hc2
    intro H locs hW hS
    refine lv_if_eq (pc := 24) (tgt := 31) hx hb dX9_isLetter_24 (by decide) (fun c1 => ?_) (fun c1 => ?_)
    · have hf := um_it c1 hf
      clear c1
      refine lv_iconst (pc := 31) (v := (0 : Int32)) hx hb dX9_isLetter_31 (by decide) ?_
      exact um_zretR (pc := 32) Cx hW hS hf rfl dX9_isLetter_32
    · have hf := um_ie c1 hf
      clear c1
      refine lv_iconst (pc := 27) (v := (1 : Int32)) hx hb dX9_isLetter_27 (by decide) ?_
      refine lv_goto (pc := 28) (tgt := 32) hx hb dX9_isLetter_28 (by decide) ?_
      exact um_zretR (pc := 32) Cx hW hS hf rfl dX9_isLetter_32
theorem c_X9_isLetter {σ : um_S} {r : Bool} (a1 : Int32)  (hf : f_X9_isLetter a1 σ = some r) : um_M l yX9_isLetter cX9_isLetter 2 (some FieldType.boolean) (1) (25) Z msh α σ [.ref (α 0), .int a1] (some (.int (um_b r))) σ :=
  um_start (by decide) (Nat.le_of_ble_eq_true rfl) (fun p e s m below meth c ls Cx hW hS hl => b_X9_isLetter a1 hf Cx hW hS hl)
noncomputable def f_X9_isName (a0 : Int32) (a1 : Int32) (σ : um_S) : Option (Bool) :=
    um_let (fun (_u : Unit) =>
    (if a1 = (119 : Int32) then
    (some true)
    else
    (if a1 = (109 : Int32) then
    (some true)
    else
    (if a1 = (116 : Int32) then
    (some true)
    else
    (some false))))) fun k1 =>
    (if a0 = (0 : Int32) then
    (k1 ())
    else
    (if a0 = (1 : Int32) then
    (k1 ())
    else
    (if a0 = (2 : Int32) then
    (if a1 = (111 : Int32) then
    (some true)
    else
    (if a1 = (109 : Int32) then
    (some true)
    else
    (some false)))
    else
    (if a0 = (3 : Int32) then
    (if a1 = (107 : Int32) then
    (some true)
    else
    (if a1 = (109 : Int32) then
    (some true)
    else
    (if a1 = (112 : Int32) then
    (some true)
    else
    (some false))))
    else
    (if a1 = (101 : Int32) then
    (some true)
    else
    (if a1 = (100 : Int32) then
    (some true)
    else
    (some false)))))))
set_option maxRecDepth 100000 in
set_option maxHeartbeats 4000000 in
theorem b_X9_isName {H : Heap} {locs : List Loc} {ls : Array Slot} {σ : um_S} {r : Bool} (a0 : Int32) (a1 : Int32)  (hf : f_X9_isName a0 a1 σ = some r) (Cx : um_C p s m meth c args cX9_isName 2 (some FieldType.boolean) RX9 Z) (hW : um_W Z msh α σ H) (hS : va_S (um_D msh α) s.heap H locs) (hl : lv_has ls 2 [(0, .int a0), (1, .int a1)]) : um_G p l e (0) (0) s m args below meth c Z msh α σ (some (.int (um_b r))) H locs (F0 m 0 ls []) := by
  have hx := Cx.1
  have hb := Cx.2.1
  have hown := Cx.2.2.2.2.1
  have hts := Cx.2.2.2.2.2.1
  rw [f_X9_isName] at hf
  refine lv_iload_n (pc := 0) hx hb dX9_isName_0 rfl (lv_at hl 0 rfl) ?_
  obtain ⟨k1, hk1, hf⟩ := um_j1 hf
  have J1 : ∀ (_u : Unit), k1 _u = some r → ∀ (H : Heap) (locs : List Loc) (ls : Array Slot), um_W Z msh α σ H → va_S (um_D msh α) s.heap H locs → lv_has ls 2 [(1, .int a1)] → um_G p l e (0) (0) s m args below meth c Z msh α σ (some (.int (um_b r))) H locs (F0 m 32 ls []) := by
    intro _u hf H locs ls hW hS hl
    rw [hk1] at hf
    refine lv_iload_n (pc := 32) hx hb dX9_isName_32 rfl (lv_at hl 0 rfl) ?_
    refine lv_bipush (pc := 33) (v := (119 : Int32)) hx hb dX9_isName_33 (by decide) ?_
    refine lv_icmp_eq (pc := 35) (tgt := 50) hx hb dX9_isName_35 (by decide) (fun c1 => ?_) (fun c1 => ?_)
    · have hf := um_it c1 hf
      clear c1
      refine lv_iconst (pc := 50) (v := (1 : Int32)) hx hb dX9_isName_50 (by decide) ?_
      refine lv_goto (pc := 51) (tgt := 55) hx hb dX9_isName_51 (by decide) ?_
      exact um_zretR (pc := 55) Cx hW hS hf rfl dX9_isName_55
    · have hf := um_ie c1 hf
      clear c1
      refine lv_iload_n (pc := 38) hx hb dX9_isName_38 rfl (lv_at hl 0 rfl) ?_
      refine lv_bipush (pc := 39) (v := (109 : Int32)) hx hb dX9_isName_39 (by decide) ?_
      refine lv_icmp_eq (pc := 41) (tgt := 50) hx hb dX9_isName_41 (by decide) (fun c1 => ?_) (fun c1 => ?_)
      · have hf := um_it c1 hf
        clear c1
        refine lv_iconst (pc := 50) (v := (1 : Int32)) hx hb dX9_isName_50 (by decide) ?_
        refine lv_goto (pc := 51) (tgt := 55) hx hb dX9_isName_51 (by decide) ?_
        exact um_zretR (pc := 55) Cx hW hS hf rfl dX9_isName_55
      · have hf := um_ie c1 hf
        clear c1
        refine lv_iload_n (pc := 44) hx hb dX9_isName_44 rfl (lv_at hl 0 rfl) ?_
        refine lv_bipush (pc := 45) (v := (116 : Int32)) hx hb dX9_isName_45 (by decide) ?_
        refine lv_icmp_ne (pc := 47) (tgt := 54) hx hb dX9_isName_47 (by decide) (fun c1 => ?_) (fun c1 => ?_)
        · have hf := um_ie c1 hf
          clear c1
          refine lv_iconst (pc := 54) (v := (0 : Int32)) hx hb dX9_isName_54 (by decide) ?_
          exact um_zretR (pc := 55) Cx hW hS hf rfl dX9_isName_55
        · have hf := um_it c1 hf
          clear c1
          refine lv_iconst (pc := 50) (v := (1 : Int32)) hx hb dX9_isName_50 (by decide) ?_
          refine lv_goto (pc := 51) (tgt := 55) hx hb dX9_isName_51 (by decide) ?_
          exact um_zretR (pc := 55) Cx hW hS hf rfl dX9_isName_55
  by_cases c1 : a0 = (0 : Int32)
  · have hf := um_it c1 hf
    refine lv_tableIn (pc := 1) (tgt := 32) hx hb dX9_isName_1 (by rw [c1]; decide) (by rw [c1]; decide) (by rw [c1]; rfl) (by decide) ?_
    exact J1 () hf _ _ _ hW hS (lv_sub hl [1] rfl)
  have hf := um_ie c1 hf
  by_cases c2 : a0 = (1 : Int32)
  · have hf := um_it c2 hf
    refine lv_tableIn (pc := 1) (tgt := 32) hx hb dX9_isName_1 (by rw [c2]; decide) (by rw [c2]; decide) (by rw [c2]; rfl) (by decide) ?_
    exact J1 () hf _ _ _ hW hS (lv_sub hl [1] rfl)
  have hf := um_ie c2 hf
  by_cases c3 : a0 = (2 : Int32)
  · have hf := um_it c3 hf
    refine lv_tableIn (pc := 1) (tgt := 56) hx hb dX9_isName_1 (by rw [c3]; decide) (by rw [c3]; decide) (by rw [c3]; rfl) (by decide) ?_
    refine lv_iload_n (pc := 56) hx hb dX9_isName_56 rfl (lv_at hl 1 rfl) ?_
    refine lv_bipush (pc := 57) (v := (111 : Int32)) hx hb dX9_isName_57 (by decide) ?_
    refine lv_icmp_eq (pc := 59) (tgt := 68) hx hb dX9_isName_59 (by decide) (fun c1 => ?_) (fun c1 => ?_)
    · have hf := um_it c1 hf
      clear c1
      refine lv_iconst (pc := 68) (v := (1 : Int32)) hx hb dX9_isName_68 (by decide) ?_
      refine lv_goto (pc := 69) (tgt := 73) hx hb dX9_isName_69 (by decide) ?_
      exact um_zretR (pc := 73) Cx hW hS hf rfl dX9_isName_73
    · have hf := um_ie c1 hf
      clear c1
      refine lv_iload_n (pc := 62) hx hb dX9_isName_62 rfl (lv_at hl 1 rfl) ?_
      refine lv_bipush (pc := 63) (v := (109 : Int32)) hx hb dX9_isName_63 (by decide) ?_
      refine lv_icmp_ne (pc := 65) (tgt := 72) hx hb dX9_isName_65 (by decide) (fun c1 => ?_) (fun c1 => ?_)
      · have hf := um_ie c1 hf
        clear c1
        refine lv_iconst (pc := 72) (v := (0 : Int32)) hx hb dX9_isName_72 (by decide) ?_
        exact um_zretR (pc := 73) Cx hW hS hf rfl dX9_isName_73
      · have hf := um_it c1 hf
        clear c1
        refine lv_iconst (pc := 68) (v := (1 : Int32)) hx hb dX9_isName_68 (by decide) ?_
        refine lv_goto (pc := 69) (tgt := 73) hx hb dX9_isName_69 (by decide) ?_
        exact um_zretR (pc := 73) Cx hW hS hf rfl dX9_isName_73
  have hf := um_ie c3 hf
  by_cases c4 : a0 = (3 : Int32)
  · have hf := um_it c4 hf
    refine lv_tableIn (pc := 1) (tgt := 74) hx hb dX9_isName_1 (by rw [c4]; decide) (by rw [c4]; decide) (by rw [c4]; rfl) (by decide) ?_
    refine lv_iload_n (pc := 74) hx hb dX9_isName_74 rfl (lv_at hl 1 rfl) ?_
    refine lv_bipush (pc := 75) (v := (107 : Int32)) hx hb dX9_isName_75 (by decide) ?_
    refine lv_icmp_eq (pc := 77) (tgt := 92) hx hb dX9_isName_77 (by decide) (fun c1 => ?_) (fun c1 => ?_)
    · have hf := um_it c1 hf
      clear c1
      refine lv_iconst (pc := 92) (v := (1 : Int32)) hx hb dX9_isName_92 (by decide) ?_
      refine lv_goto (pc := 93) (tgt := 97) hx hb dX9_isName_93 (by decide) ?_
      exact um_zretR (pc := 97) Cx hW hS hf rfl dX9_isName_97
    · have hf := um_ie c1 hf
      clear c1
      refine lv_iload_n (pc := 80) hx hb dX9_isName_80 rfl (lv_at hl 1 rfl) ?_
      refine lv_bipush (pc := 81) (v := (109 : Int32)) hx hb dX9_isName_81 (by decide) ?_
      refine lv_icmp_eq (pc := 83) (tgt := 92) hx hb dX9_isName_83 (by decide) (fun c1 => ?_) (fun c1 => ?_)
      · have hf := um_it c1 hf
        clear c1
        refine lv_iconst (pc := 92) (v := (1 : Int32)) hx hb dX9_isName_92 (by decide) ?_
        refine lv_goto (pc := 93) (tgt := 97) hx hb dX9_isName_93 (by decide) ?_
        exact um_zretR (pc := 97) Cx hW hS hf rfl dX9_isName_97
      · have hf := um_ie c1 hf
        clear c1
        refine lv_iload_n (pc := 86) hx hb dX9_isName_86 rfl (lv_at hl 1 rfl) ?_
        refine lv_bipush (pc := 87) (v := (112 : Int32)) hx hb dX9_isName_87 (by decide) ?_
        refine lv_icmp_ne (pc := 89) (tgt := 96) hx hb dX9_isName_89 (by decide) (fun c1 => ?_) (fun c1 => ?_)
        · have hf := um_ie c1 hf
          clear c1
          refine lv_iconst (pc := 96) (v := (0 : Int32)) hx hb dX9_isName_96 (by decide) ?_
          exact um_zretR (pc := 97) Cx hW hS hf rfl dX9_isName_97
        · have hf := um_it c1 hf
          clear c1
          refine lv_iconst (pc := 92) (v := (1 : Int32)) hx hb dX9_isName_92 (by decide) ?_
          refine lv_goto (pc := 93) (tgt := 97) hx hb dX9_isName_93 (by decide) ?_
          exact um_zretR (pc := 97) Cx hW hS hf rfl dX9_isName_97
  have hf := um_ie c4 hf
  have ho : a0.toInt < 0 ∨ 3 < a0.toInt := um_tabO (lo := 0) (hi := 3) (fun z z1 z2 => by
    rcases (show z = 0 ∨ z = 1 ∨ z = 2 ∨ z = 3 by omega) with rfl | rfl | rfl | rfl
    · exact c1
    · exact c2
    · exact c3
    · exact c4)
  refine lv_tableOut (pc := 1) (tgt := 98) hx hb dX9_isName_1 ho (by decide) ?_
  refine lv_iload_n (pc := 98) hx hb dX9_isName_98 rfl (lv_at hl 1 rfl) ?_
  refine lv_bipush (pc := 99) (v := (101 : Int32)) hx hb dX9_isName_99 (by decide) ?_
  refine lv_icmp_eq (pc := 101) (tgt := 110) hx hb dX9_isName_101 (by decide) (fun c1 => ?_) (fun c1 => ?_)
  · have hf := um_it c1 hf
    clear c1
    refine lv_iconst (pc := 110) (v := (1 : Int32)) hx hb dX9_isName_110 (by decide) ?_
    refine lv_goto (pc := 111) (tgt := 115) hx hb dX9_isName_111 (by decide) ?_
    exact um_zretR (pc := 115) Cx hW hS hf rfl dX9_isName_115
  · have hf := um_ie c1 hf
    clear c1
    refine lv_iload_n (pc := 104) hx hb dX9_isName_104 rfl (lv_at hl 1 rfl) ?_
    refine lv_bipush (pc := 105) (v := (100 : Int32)) hx hb dX9_isName_105 (by decide) ?_
    refine lv_icmp_ne (pc := 107) (tgt := 114) hx hb dX9_isName_107 (by decide) (fun c1 => ?_) (fun c1 => ?_)
    · have hf := um_ie c1 hf
      clear c1
      refine lv_iconst (pc := 114) (v := (0 : Int32)) hx hb dX9_isName_114 (by decide) ?_
      exact um_zretR (pc := 115) Cx hW hS hf rfl dX9_isName_115
    · have hf := um_it c1 hf
      clear c1
      refine lv_iconst (pc := 110) (v := (1 : Int32)) hx hb dX9_isName_110 (by decide) ?_
      refine lv_goto (pc := 111) (tgt := 115) hx hb dX9_isName_111 (by decide) ?_
      exact um_zretR (pc := 115) Cx hW hS hf rfl dX9_isName_115
theorem c_X9_isName {σ : um_S} {r : Bool} (a0 : Int32) (a1 : Int32)  (hf : f_X9_isName a0 a1 σ = some r) : um_M l yX9_isName cX9_isName 2 (some FieldType.boolean) (0) (0) Z msh α σ [.int a0, .int a1] (some (.int (um_b r))) σ :=
  um_start (by decide) (Nat.le_of_ble_eq_true rfl) (fun p e s m below meth c ls Cx hW hS hl => b_X9_isName a0 a1 hf Cx hW hS hl)
noncomputable def f_X9_isSign (a1 : Int32) (σ : um_S) : Option (Bool) :=
    if (σ.1 0 11) = (3 : Int32) then
    (if (σ.1 0 13) = a1 then
    (some true)
    else
    (some false))
    else
    (some false)
set_option maxRecDepth 100000 in
set_option maxHeartbeats 4000000 in
theorem b_X9_isSign {H : Heap} {locs : List Loc} {ls : Array Slot} {σ : um_S} {r : Bool} (a1 : Int32)  (hf : f_X9_isSign a1 σ = some r) (Cx : um_C p s m meth c args cX9_isSign 2 (some FieldType.boolean) RX9 Z) (hW : um_W Z msh α σ H) (hS : va_S (um_D msh α) s.heap H locs) (hl : lv_has ls 2 [(0, .ref (α 0)), (1, .int a1)]) : um_G p l e (0) (0) s m args below meth c Z msh α σ (some (.int (um_b r))) H locs (F0 m 0 ls []) := by
  have hx := Cx.1
  have hb := Cx.2.1
  have hown := Cx.2.2.2.2.1
  have hts := Cx.2.2.2.2.2.1
  rw [f_X9_isSign] at hf
  refine lv_aload_n (pc := 0) hx hb dX9_isSign_0 rfl (lv_at hl 0 rfl) ?_
  refine gF_X9_155 (pc := 1) Cx hW ms_0 rfl dX9_isSign_1 ?_
  refine lv_iconst (pc := 4) (v := (3 : Int32)) hx hb dX9_isSign_4 (by decide) ?_
  refine lv_icmp_ne (pc := 5) (tgt := 20) hx hb dX9_isSign_5 (by decide) (fun c1 => ?_) (fun c1 => ?_)
  · have hf := um_ie c1 hf
    clear c1
    refine lv_iconst (pc := 20) (v := (0 : Int32)) hx hb dX9_isSign_20 (by decide) ?_
    exact um_zretR (pc := 21) Cx hW hS hf rfl dX9_isSign_21
  · have hf := um_it c1 hf
    clear c1
    refine lv_aload_n (pc := 8) hx hb dX9_isSign_8 rfl (lv_at hl 0 rfl) ?_
    refine gF_X9_164 (pc := 9) Cx hW ms_0 rfl dX9_isSign_9 ?_
    refine lv_iload_n (pc := 12) hx hb dX9_isSign_12 rfl (lv_at hl 1 rfl) ?_
    refine lv_icmp_ne (pc := 13) (tgt := 20) hx hb dX9_isSign_13 (by decide) (fun c1 => ?_) (fun c1 => ?_)
    · have hf := um_ie c1 hf
      clear c1
      refine lv_iconst (pc := 20) (v := (0 : Int32)) hx hb dX9_isSign_20 (by decide) ?_
      exact um_zretR (pc := 21) Cx hW hS hf rfl dX9_isSign_21
    · have hf := um_it c1 hf
      clear c1
      refine lv_iconst (pc := 16) (v := (1 : Int32)) hx hb dX9_isSign_16 (by decide) ?_
      refine lv_goto (pc := 17) (tgt := 21) hx hb dX9_isSign_17 (by decide) ?_
      exact um_zretR (pc := 21) Cx hW hS hf rfl dX9_isSign_21
theorem c_X9_isSign {σ : um_S} {r : Bool} (a1 : Int32)  (hf : f_X9_isSign a1 σ = some r) : um_M l yX9_isSign cX9_isSign 2 (some FieldType.boolean) (0) (0) Z msh α σ [.ref (α 0), .int a1] (some (.int (um_b r))) σ :=
  um_start (by decide) (Nat.le_of_ble_eq_true rfl) (fun p e s m below meth c ls Cx hW hS hl => b_X9_isSign a1 hf Cx hW hS hl)
noncomputable def f_X9_next_l34 (v1 : Int32) (v2 : Int32) : Nat → um_S → Option (um_S)
  | 0, _ => none
  | n + 1, σ =>
    if (σ.1 0 8) ≤ (σ.1 0 10) then
    (some σ)
    else
    (if um_ix (σ.1 0 10) 96 then
    (if (σ.1 7 (σ.1 0 10).toNatClampNeg) = (32 : Int32) then
    (um_let (um_wr σ 0 10 ((σ.1 0 10) + (1 : Int32))) fun σ2 =>
    (f_X9_next_l34 v1 v2 n σ2))
    else
    (some σ)) else none)
noncomputable def f_X9_next_l214 (v1 : Int32) : Nat → um_S → Option (um_S)
  | 0, _ => none
  | n + 1, σ =>
    (f_X9_isDigit (σ.1 0 10) σ).bind fun x2 =>
    (if (um_b x2) = 0 then
    (some σ)
    else
    (um_let (fun (x4 : Int32) =>
    (um_let (um_wr σ 0 12 x4) fun σ5 =>
    (um_let (um_wr σ5 0 10 ((σ5.1 0 10) + (1 : Int32))) fun σ7 =>
    (f_X9_next_l214 v1 n σ7)))) fun k3 =>
    (if (4 : Int32) ≤ ((σ.1 0 10) - (σ.1 0 9)) then
    (k3 (σ.1 0 12))
    else
    (if um_ix (σ.1 0 10) 96 then
    (k3 ((((10 : Int32) * (σ.1 0 12)) + (σ.1 7 (σ.1 0 10).toNatClampNeg)) - (48 : Int32))) else none))))
noncomputable def f_X9_next_l128 (v1 : Int32) : Nat → um_S → Option (um_S)
  | 0, _ => none
  | n + 1, σ =>
    (f_X9_isLetter (σ.1 0 10) σ).bind fun x2 =>
    (if (um_b x2) = 0 then
    (some σ)
    else
    (um_let (um_wr σ 0 10 ((σ.1 0 10) + (1 : Int32))) fun σ3 =>
    (f_X9_next_l128 v1 n σ3)))
noncomputable def f_X9_next  (σ : um_S) : Option (um_S) :=
    um_let (fun (x2 : Int32) =>
    (um_let (σ.1 0 10) fun x3 =>
    ((f_X9_next_l34 x2 x3 um_N σ).bind fun σ5 =>
    (um_let (fun (x8 : Int32) =>
    (um_let (um_wr σ5 0 9 (σ5.1 0 10)) fun σ9 =>
    (if (σ9.1 0 9) = (σ9.1 0 8) then
    (um_let (um_wr σ9 0 11 (0 : Int32)) fun σ43 =>
    (some σ43))
    else
    ((f_X9_isLetter (σ9.1 0 9) σ9).bind fun x12 =>
    (if (um_b x12) = 0 then
    ((f_X9_isDigit (σ9.1 0 9) σ9).bind fun x14 =>
    (if (um_b x14) = 0 then
    (um_let (um_wr σ9 0 11 (3 : Int32)) fun σ15 =>
    (if um_ix (σ15.1 0 9) 96 then
    (um_let (um_wr σ15 0 13 (σ15.1 7 (σ15.1 0 9).toNatClampNeg)) fun σ18 =>
    (um_let (um_wr σ18 0 10 ((σ18.1 0 10) + (1 : Int32))) fun σ20 =>
    (some σ20))) else none))
    else
    (um_let (um_wr σ9 0 12 (0 : Int32)) fun σ22 =>
    ((f_X9_next_l214 x8 um_N σ22).bind fun σ24 =>
    (if x8 = 0 then
    (if ((σ24.1 0 10) - (σ24.1 0 9)) ≤ (4 : Int32) then
    (um_let (um_wr σ24 0 11 (2 : Int32)) fun σ28 =>
    (some σ28))
    else
    (um_let (um_wr σ24 0 11 (4 : Int32)) fun σ30 =>
    (some σ30)))
    else
    (um_let (um_wr σ24 0 11 (4 : Int32)) fun σ26 =>
    (some σ26)))))))
    else
    ((f_X9_next_l128 x8 um_N σ9).bind fun σ32 =>
    (um_let (fun (x35 : Int32) =>
    (um_let (um_wr σ32 0 11 x35) fun σ36 =>
    (if ((σ36.1 0 10) - (σ36.1 0 9)) = (1 : Int32) then
    (if um_ix (σ36.1 0 9) 96 then
    (um_let (um_wr σ36 0 13 (σ36.1 7 (σ36.1 0 9).toNatClampNeg)) fun σ41 =>
    (some σ41)) else none)
    else
    (um_let (um_wr σ36 0 13 (0 : Int32)) fun σ38 =>
    (some σ38))))) fun k34 =>
    (if x8 = 0 then
    (k34 (1 : Int32))
    else
    (k34 (4 : Int32)))))))))) fun k7 =>
    (um_let (fun (_u : Unit) =>
    (k7 (0 : Int32))) fun k45 =>
    (if x2 = 0 then
    (k45 ())
    else
    (if x3 = (σ5.1 0 10) then
    (k7 (1 : Int32))
    else
    (k45 ())))))))) fun k1 =>
    (um_let (fun (_u : Unit) =>
    (k1 (0 : Int32))) fun k46 =>
    (if (σ.1 0 10) ≤ 0 then
    (k46 ())
    else
    (um_let (fun (_u : Unit) =>
    (k1 (1 : Int32))) fun k47 =>
    (if (σ.1 0 11) = (1 : Int32) then
    (k47 ())
    else
    (if (σ.1 0 11) = (2 : Int32) then
    (k47 ())
    else
    (k46 ()))))))
set_option maxRecDepth 100000 in
set_option maxHeartbeats 4000000 in
theorem t_X9_next_l34 {Q : State → Prop} {σo : um_S} (v1 : Int32) (v2 : Int32)  (Cx : um_C p s m meth c args cX9_next 3 none RX9 Z) (hE : ∀ (H : Heap) (locs : List Loc) (ls : Array Slot), um_W Z msh α σo H → va_S (um_D msh α) s.heap H locs → lv_has ls 3 [(0, .ref (α 0)), (1, .int v1), (2, .int v2)] → W p l e { frames := 2, cells := 0, slots := 0, locals := 46 } s m args below meth c H locs 0 0 Q (F0 m 72 ls [])) : ∀ (n : Nat) (σ : um_S) (H : Heap) (locs : List Loc) (ls : Array Slot), f_X9_next_l34 v1 v2 n σ = some σo → um_W Z msh α σ H → va_S (um_D msh α) s.heap H locs → lv_has ls 3 [(0, .ref (α 0)), (1, .int v1), (2, .int v2)] → W p l e { frames := 2, cells := 0, slots := 0, locals := 46 } s m args below meth c H locs 0 0 Q (F0 m 34 ls []) := by
  have hx := Cx.1
  have hb := Cx.2.1
  have hown := Cx.2.2.2.2.1
  have hts := Cx.2.2.2.2.2.1
  intro n
  induction n with
  | zero =>
    intro σ H locs ls hf hW hS hl
    cases hf
  | succ n ih =>
    intro σ H locs ls hf hW hS hl
    rw [f_X9_next_l34] at hf
    refine lv_aload_n (pc := 34) hx hb dX9_next_34 rfl (lv_at hl 0 rfl) ?_
    refine gF_X9_152 (pc := 35) Cx hW ms_0 rfl dX9_next_35 ?_
    refine lv_aload_n (pc := 38) hx hb dX9_next_38 rfl (lv_at hl 0 rfl) ?_
    refine gF_X9_140 (pc := 39) Cx hW ms_0 rfl dX9_next_39 ?_
    refine lv_icmp_ge (pc := 42) (tgt := 72) hx hb dX9_next_42 (by decide) (fun c1 => ?_) (fun c1 => ?_)
    · have hf := um_it c1 hf
      clear c1
      cases hf
      exact hE _ _ _ hW hS hl
    · have hf := um_ie c1 hf
      clear c1
      refine lv_aload_n (pc := 45) hx hb dX9_next_45 rfl (lv_at hl 0 rfl) ?_
      refine gF_X9_28 (pc := 46) Cx hW ms_0 rfl dX9_next_46 ?_
      refine lv_aload_n (pc := 49) hx hb dX9_next_49 rfl (lv_at hl 0 rfl) ?_
      refine gF_X9_152 (pc := 50) Cx hW ms_0 rfl dX9_next_50 ?_
      obtain ⟨g1, hf⟩ := um_gu hf
      refine um_iald (pc := 53) Cx hW ms_7 rfl (um_ix_in g1) dX9_next_53 ?_
      refine lv_bipush (pc := 54) (v := (32 : Int32)) hx hb dX9_next_54 (by decide) ?_
      refine lv_icmp_ne (pc := 56) (tgt := 72) hx hb dX9_next_56 (by decide) (fun c1 => ?_) (fun c1 => ?_)
      · have hf := um_ie c1 hf
        clear c1
        cases hf
        exact hE _ _ _ hW hS hl
      · have hf := um_it c1 hf
        clear c1
        refine lv_aload_n (pc := 59) hx hb dX9_next_59 rfl (lv_at hl 0 rfl) ?_
        refine lv_dup (pc := 60) hx hb dX9_next_60 rfl ?_
        refine gF_X9_152 (pc := 61) Cx hW ms_0 rfl dX9_next_61 ?_
        refine lv_iconst (pc := 64) (v := (1 : Int32)) hx hb dX9_next_64 (by decide) ?_
        refine lv_iadd (pc := 65) hx hb dX9_next_65 ?_
        refine gP_X9_152 (pc := 66) Cx hW hS ms_0 rfl dX9_next_66 ?_
        clear hW hS
        intro H locs hW hS
        obtain ⟨σ2, e3, hf⟩ := um_le hf
        rw [← e3] at hW
        clear e3
        refine lv_goto (pc := 69) (tgt := 34) hx hb dX9_next_69 (by decide) ?_
        exact ih _ _ _ _ hf hW hS hl
set_option maxRecDepth 100000 in
set_option maxHeartbeats 4000000 in
theorem t_X9_next_l214 {Q : State → Prop} {σo : um_S} (v1 : Int32)  (Cx : um_C p s m meth c args cX9_next 3 none RX9 Z) (hE : ∀ (H : Heap) (locs : List Loc) (ls : Array Slot), um_W Z msh α σo H → va_S (um_D msh α) s.heap H locs → lv_has ls 3 [(0, .ref (α 0)), (1, .int v1)] → W p l e { frames := 2, cells := 0, slots := 0, locals := 46 } s m args below meth c H locs 0 0 Q (F0 m 282 ls [])) : ∀ (n : Nat) (σ : um_S) (H : Heap) (locs : List Loc) (ls : Array Slot), f_X9_next_l214 v1 n σ = some σo → um_W Z msh α σ H → va_S (um_D msh α) s.heap H locs → lv_has ls 3 [(0, .ref (α 0)), (1, .int v1)] → W p l e { frames := 2, cells := 0, slots := 0, locals := 46 } s m args below meth c H locs 0 0 Q (F0 m 214 ls []) := by
  have hx := Cx.1
  have hb := Cx.2.1
  have hown := Cx.2.2.2.2.1
  have hts := Cx.2.2.2.2.2.1
  intro n
  induction n with
  | zero =>
    intro σ H locs ls hf hW hS hl
    cases hf
  | succ n ih =>
    intro σ H locs ls hf hW hS hl
    rw [f_X9_next_l214] at hf
    refine lv_aload_n (pc := 214) hx hb dX9_next_214 rfl (lv_at hl 0 rfl) ?_
    refine lv_aload_n (pc := 215) hx hb dX9_next_215 rfl (lv_at hl 0 rfl) ?_
    refine gF_X9_152 (pc := 216) Cx hW ms_0 rfl dX9_next_216 ?_
    obtain ⟨x2, hc1, hf⟩ := um_bi hf
    refine um_cVi (pc := 219) (As := [.int (σ.1 0 10)]) (rest := []) Cx (c_X9_isDigit (σ.1 0 10) hc1) kV_X9_isDigit (Or.inl qM_X9_167) hW hS ms_0 rfl rfl hl rfl (Nat.le_of_ble_eq_true rfl) (Nat.le_of_ble_eq_true rfl) (Nat.le_of_ble_eq_true rfl) dX9_next_219 (Nat.le_refl _) (Nat.le_refl _) ?_
    clear hW hS hc1
    intro H locs hW hS
    refine lv_if_eq (pc := 222) (tgt := 282) hx hb dX9_next_222 (by decide) (fun c1 => ?_) (fun c1 => ?_)
    · have hf := um_it c1 hf
      clear c1
      cases hf
      exact hE _ _ _ hW hS hl
    · have hf := um_ie c1 hf
      clear c1
      refine lv_aload_n (pc := 225) hx hb dX9_next_225 rfl (lv_at hl 0 rfl) ?_
      refine lv_aload_n (pc := 226) hx hb dX9_next_226 rfl (lv_at hl 0 rfl) ?_
      refine gF_X9_152 (pc := 227) Cx hW ms_0 rfl dX9_next_227 ?_
      refine lv_aload_n (pc := 230) hx hb dX9_next_230 rfl (lv_at hl 0 rfl) ?_
      refine gF_X9_158 (pc := 231) Cx hW ms_0 rfl dX9_next_231 ?_
      refine lv_isub (pc := 234) hx hb dX9_next_234 ?_
      refine lv_iconst (pc := 235) (v := (4 : Int32)) hx hb dX9_next_235 (by decide) ?_
      obtain ⟨k3, hk3, hf⟩ := um_j1 hf
      have J3 : ∀ (x4 : Int32), k3 x4 = some σo → ∀ (H : Heap) (locs : List Loc) (ls : Array Slot), um_W Z msh α σ H → va_S (um_D msh α) s.heap H locs → lv_has ls 3 [(0, .ref (α 0)), (1, .int v1)] → W p l e { frames := 2, cells := 0, slots := 0, locals := 46 } s m args below meth c H locs 0 0 Q (F0 m 266 ls [.int x4, .ref (α 0)]) := by
        intro x4 hf H locs ls hW hS hl
        rw [hk3] at hf
        refine gP_X9_170 (pc := 266) Cx hW hS ms_0 rfl dX9_next_266 ?_
        clear hW hS
        intro H locs hW hS
        obtain ⟨σ5, e6, hf⟩ := um_le hf
        rw [← e6] at hW
        clear e6
        refine lv_aload_n (pc := 269) hx hb dX9_next_269 rfl (lv_at hl 0 rfl) ?_
        refine lv_dup (pc := 270) hx hb dX9_next_270 rfl ?_
        refine gF_X9_152 (pc := 271) Cx hW ms_0 rfl dX9_next_271 ?_
        refine lv_iconst (pc := 274) (v := (1 : Int32)) hx hb dX9_next_274 (by decide) ?_
        refine lv_iadd (pc := 275) hx hb dX9_next_275 ?_
        refine gP_X9_152 (pc := 276) Cx hW hS ms_0 rfl dX9_next_276 ?_
        clear hW hS
        intro H locs hW hS
        obtain ⟨σ7, e8, hf⟩ := um_le hf
        rw [← e8] at hW
        clear e8
        refine lv_goto (pc := 279) (tgt := 214) hx hb dX9_next_279 (by decide) ?_
        exact ih _ _ _ _ hf hW hS hl
      refine lv_icmp_ge (pc := 236) (tgt := 262) hx hb dX9_next_236 (by decide) (fun c1 => ?_) (fun c1 => ?_)
      · have hf := um_it c1 hf
        clear c1
        refine lv_aload_n (pc := 262) hx hb dX9_next_262 rfl (lv_at hl 0 rfl) ?_
        refine gF_X9_170 (pc := 263) Cx hW ms_0 rfl dX9_next_263 ?_
        exact J3 (σ.1 0 12) hf _ _ _ hW hS hl
      · have hf := um_ie c1 hf
        clear c1
        refine lv_bipush (pc := 239) (v := (10 : Int32)) hx hb dX9_next_239 (by decide) ?_
        refine lv_aload_n (pc := 241) hx hb dX9_next_241 rfl (lv_at hl 0 rfl) ?_
        refine gF_X9_170 (pc := 242) Cx hW ms_0 rfl dX9_next_242 ?_
        refine lv_imul (pc := 245) hx hb dX9_next_245 ?_
        refine lv_aload_n (pc := 246) hx hb dX9_next_246 rfl (lv_at hl 0 rfl) ?_
        refine gF_X9_28 (pc := 247) Cx hW ms_0 rfl dX9_next_247 ?_
        refine lv_aload_n (pc := 250) hx hb dX9_next_250 rfl (lv_at hl 0 rfl) ?_
        refine gF_X9_152 (pc := 251) Cx hW ms_0 rfl dX9_next_251 ?_
        obtain ⟨g9, hf⟩ := um_gu hf
        refine um_iald (pc := 254) Cx hW ms_7 rfl (um_ix_in g9) dX9_next_254 ?_
        refine lv_iadd (pc := 255) hx hb dX9_next_255 ?_
        refine lv_bipush (pc := 256) (v := (48 : Int32)) hx hb dX9_next_256 (by decide) ?_
        refine lv_isub (pc := 258) hx hb dX9_next_258 ?_
        refine lv_goto (pc := 259) (tgt := 266) hx hb dX9_next_259 (by decide) ?_
        exact J3 ((((10 : Int32) * (σ.1 0 12)) + (σ.1 7 (σ.1 0 10).toNatClampNeg)) - (48 : Int32)) hf _ _ _ hW hS hl
set_option maxRecDepth 100000 in
set_option maxHeartbeats 4000000 in
theorem t_X9_next_l128 {Q : State → Prop} {σo : um_S} (v1 : Int32)  (Cx : um_C p s m meth c args cX9_next 3 none RX9 Z) (hE : ∀ (H : Heap) (locs : List Loc) (ls : Array Slot), um_W Z msh α σo H → va_S (um_D msh α) s.heap H locs → lv_has ls 3 [(0, .ref (α 0)), (1, .int v1)] → W p l e { frames := 2, cells := 0, slots := 0, locals := 46 } s m args below meth c H locs 0 0 Q (F0 m 152 ls [])) : ∀ (n : Nat) (σ : um_S) (H : Heap) (locs : List Loc) (ls : Array Slot), f_X9_next_l128 v1 n σ = some σo → um_W Z msh α σ H → va_S (um_D msh α) s.heap H locs → lv_has ls 3 [(0, .ref (α 0)), (1, .int v1)] → W p l e { frames := 2, cells := 0, slots := 0, locals := 46 } s m args below meth c H locs 0 0 Q (F0 m 128 ls []) := by
  have hx := Cx.1
  have hb := Cx.2.1
  have hown := Cx.2.2.2.2.1
  have hts := Cx.2.2.2.2.2.1
  intro n
  induction n with
  | zero =>
    intro σ H locs ls hf hW hS hl
    cases hf
  | succ n ih =>
    intro σ H locs ls hf hW hS hl
    rw [f_X9_next_l128] at hf
    refine lv_aload_n (pc := 128) hx hb dX9_next_128 rfl (lv_at hl 0 rfl) ?_
    refine lv_aload_n (pc := 129) hx hb dX9_next_129 rfl (lv_at hl 0 rfl) ?_
    refine gF_X9_152 (pc := 130) Cx hW ms_0 rfl dX9_next_130 ?_
    obtain ⟨x2, hc1, hf⟩ := um_bi hf
    refine um_cVi (pc := 133) (As := [.int (σ.1 0 10)]) (rest := []) Cx (c_X9_isLetter (σ.1 0 10) hc1) kV_X9_isLetter (Or.inl qM_X9_161) hW hS ms_0 rfl rfl hl rfl (Nat.le_of_ble_eq_true rfl) (Nat.le_of_ble_eq_true rfl) (Nat.le_of_ble_eq_true rfl) dX9_next_133 (Nat.le_refl _) (Nat.le_refl _) ?_
    clear hW hS hc1
    intro H locs hW hS
    refine lv_if_eq (pc := 136) (tgt := 152) hx hb dX9_next_136 (by decide) (fun c1 => ?_) (fun c1 => ?_)
    · have hf := um_it c1 hf
      clear c1
      cases hf
      exact hE _ _ _ hW hS hl
    · have hf := um_ie c1 hf
      clear c1
      refine lv_aload_n (pc := 139) hx hb dX9_next_139 rfl (lv_at hl 0 rfl) ?_
      refine lv_dup (pc := 140) hx hb dX9_next_140 rfl ?_
      refine gF_X9_152 (pc := 141) Cx hW ms_0 rfl dX9_next_141 ?_
      refine lv_iconst (pc := 144) (v := (1 : Int32)) hx hb dX9_next_144 (by decide) ?_
      refine lv_iadd (pc := 145) hx hb dX9_next_145 ?_
      refine gP_X9_152 (pc := 146) Cx hW hS ms_0 rfl dX9_next_146 ?_
      clear hW hS
      intro H locs hW hS
      obtain ⟨σ3, e4, hf⟩ := um_le hf
      rw [← e4] at hW
      clear e4
      refine lv_goto (pc := 149) (tgt := 128) hx hb dX9_next_149 (by decide) ?_
      exact ih _ _ _ _ hf hW hS hl
set_option maxRecDepth 100000 in
set_option maxHeartbeats 4000000 in
theorem b_X9_next {H : Heap} {locs : List Loc} {ls : Array Slot} {σ : um_S} {σ' : um_S}   (hf : f_X9_next σ = some σ') (Cx : um_C p s m meth c args cX9_next 3 none RX9 Z) (hW : um_W Z msh α σ H) (hS : va_S (um_D msh α) s.heap H locs) (hl : lv_has ls 3 [(0, .ref (α 0))]) : um_G p l e (2) (46) s m args below meth c Z msh α σ' none H locs (F0 m 0 ls []) := by
  have hx := Cx.1
  have hb := Cx.2.1
  have hown := Cx.2.2.2.2.1
  have hts := Cx.2.2.2.2.2.1
  rw [f_X9_next] at hf
  refine lv_aload_n (pc := 0) hx hb dX9_next_0 rfl (lv_at hl 0 rfl) ?_
  refine gF_X9_152 (pc := 1) Cx hW ms_0 rfl dX9_next_1 ?_
  obtain ⟨k1, hk1, hf⟩ := um_j1 hf
  have J1 : ∀ (x2 : Int32), k1 x2 = some σ' → ∀ (H : Heap) (locs : List Loc) (ls : Array Slot), um_W Z msh α σ H → va_S (um_D msh α) s.heap H locs → lv_has ls 3 [(0, .ref (α 0))] → um_G p l e (2) (46) s m args below meth c Z msh α σ' none H locs (F0 m 28 ls [.int x2]) := by
    intro x2 hf H locs ls hW hS hl
    rw [hk1] at hf
    refine lv_istore_n (pc := 28) (lv' := [(1, .int x2), (0, .ref (α 0))]) hx hb dX9_next_28 rfl hl (by decide) rfl ?_
    clear hl
    intro ls hl
    refine lv_aload_n (pc := 29) hx hb dX9_next_29 rfl (lv_at hl 1 rfl) ?_
    refine gF_X9_152 (pc := 30) Cx hW ms_0 rfl dX9_next_30 ?_
    obtain ⟨x3, e4, hf⟩ := um_le hf
    refine um_top e4 ?_
    clear e4
    refine lv_istore_n (pc := 33) (lv' := [(2, .int x3), (1, .int x2), (0, .ref (α 0))]) hx hb dX9_next_33 rfl hl (by decide) rfl ?_
    clear hl
    intro ls hl
    obtain ⟨σ5, hc6, hf⟩ := um_bi hf
    refine t_X9_next_l34 x2 x3 Cx ?_ um_N _ _ _ _ hc6 hW hS (lv_sub hl [2, 1, 0] rfl)
    clear hW hS hl hc6
    intro H locs ls hW hS hl
    refine lv_iload_n (pc := 72) hx hb dX9_next_72 rfl (lv_at hl 1 rfl) ?_
    obtain ⟨k7, hk7, hf⟩ := um_j1 hf
    have J7 : ∀ (x8 : Int32), k7 x8 = some σ' → ∀ (H : Heap) (locs : List Loc) (ls : Array Slot), um_W Z msh α σ5 H → va_S (um_D msh α) s.heap H locs → lv_has ls 3 [(0, .ref (α 0))] → um_G p l e (2) (46) s m args below meth c Z msh α σ' none H locs (F0 m 89 ls [.int x8]) := by
      intro x8 hf H locs ls hW hS hl
      rw [hk7] at hf
      refine lv_istore_n (pc := 89) (lv' := [(1, .int x8), (0, .ref (α 0))]) hx hb dX9_next_89 rfl hl (by decide) rfl ?_
      clear hl
      intro ls hl
      refine lv_aload_n (pc := 90) hx hb dX9_next_90 rfl (lv_at hl 1 rfl) ?_
      refine lv_aload_n (pc := 91) hx hb dX9_next_91 rfl (lv_at hl 1 rfl) ?_
      refine gF_X9_152 (pc := 92) Cx hW ms_0 rfl dX9_next_92 ?_
      refine gP_X9_158 (pc := 95) Cx hW hS ms_0 rfl dX9_next_95 ?_
      clear hW hS
      intro H locs hW hS
      obtain ⟨σ9, e10, hf⟩ := um_le hf
      rw [← e10] at hW
      clear e10
      refine lv_aload_n (pc := 98) hx hb dX9_next_98 rfl (lv_at hl 1 rfl) ?_
      refine gF_X9_158 (pc := 99) Cx hW ms_0 rfl dX9_next_99 ?_
      refine lv_aload_n (pc := 102) hx hb dX9_next_102 rfl (lv_at hl 1 rfl) ?_
      refine gF_X9_140 (pc := 103) Cx hW ms_0 rfl dX9_next_103 ?_
      refine lv_icmp_ne (pc := 106) (tgt := 117) hx hb dX9_next_106 (by decide) (fun c1 => ?_) (fun c1 => ?_)
      · have hf := um_ie c1 hf
        clear c1
        refine lv_aload_n (pc := 117) hx hb dX9_next_117 rfl (lv_at hl 1 rfl) ?_
        refine lv_aload_n (pc := 118) hx hb dX9_next_118 rfl (lv_at hl 1 rfl) ?_
        refine gF_X9_158 (pc := 119) Cx hW ms_0 rfl dX9_next_119 ?_
        obtain ⟨x12, hc11, hf⟩ := um_bi hf
        refine um_cVi (pc := 122) (As := [.int (σ9.1 0 9)]) (rest := []) Cx (c_X9_isLetter (σ9.1 0 9) hc11) kV_X9_isLetter (Or.inl qM_X9_161) hW hS ms_0 rfl rfl hl rfl (Nat.le_of_ble_eq_true rfl) (Nat.le_of_ble_eq_true rfl) (Nat.le_of_ble_eq_true rfl) dX9_next_122 (Nat.le_refl _) (Nat.le_refl _) ?_
        clear hW hS hc11
        intro H locs hW hS
        refine lv_if_eq (pc := 125) (tgt := 198) hx hb dX9_next_125 (by decide) (fun c1 => ?_) (fun c1 => ?_)
        · have hf := um_it c1 hf
          clear c1
          refine lv_aload_n (pc := 198) hx hb dX9_next_198 rfl (lv_at hl 1 rfl) ?_
          refine lv_aload_n (pc := 199) hx hb dX9_next_199 rfl (lv_at hl 1 rfl) ?_
          refine gF_X9_158 (pc := 200) Cx hW ms_0 rfl dX9_next_200 ?_
          obtain ⟨x14, hc13, hf⟩ := um_bi hf
          refine um_cVi (pc := 203) (As := [.int (σ9.1 0 9)]) (rest := []) Cx (c_X9_isDigit (σ9.1 0 9) hc13) kV_X9_isDigit (Or.inl qM_X9_167) hW hS ms_0 rfl rfl hl rfl (Nat.le_of_ble_eq_true rfl) (Nat.le_of_ble_eq_true rfl) (Nat.le_of_ble_eq_true rfl) dX9_next_203 (Nat.le_refl _) (Nat.le_refl _) ?_
          clear hW hS hc13
          intro H locs hW hS
          refine lv_if_eq (pc := 206) (tgt := 311) hx hb dX9_next_206 (by decide) (fun c1 => ?_) (fun c1 => ?_)
          · have hf := um_it c1 hf
            clear c1
            refine lv_aload_n (pc := 311) hx hb dX9_next_311 rfl (lv_at hl 1 rfl) ?_
            refine lv_iconst (pc := 312) (v := (3 : Int32)) hx hb dX9_next_312 (by decide) ?_
            refine gP_X9_155 (pc := 313) Cx hW hS ms_0 rfl dX9_next_313 ?_
            clear hW hS
            intro H locs hW hS
            obtain ⟨σ15, e16, hf⟩ := um_le hf
            rw [← e16] at hW
            clear e16
            refine lv_aload_n (pc := 316) hx hb dX9_next_316 rfl (lv_at hl 1 rfl) ?_
            refine lv_aload_n (pc := 317) hx hb dX9_next_317 rfl (lv_at hl 1 rfl) ?_
            refine gF_X9_28 (pc := 318) Cx hW ms_0 rfl dX9_next_318 ?_
            refine lv_aload_n (pc := 321) hx hb dX9_next_321 rfl (lv_at hl 1 rfl) ?_
            refine gF_X9_158 (pc := 322) Cx hW ms_0 rfl dX9_next_322 ?_
            obtain ⟨g17, hf⟩ := um_gu hf
            refine um_iald (pc := 325) Cx hW ms_7 rfl (um_ix_in g17) dX9_next_325 ?_
            refine gP_X9_164 (pc := 326) Cx hW hS ms_0 rfl dX9_next_326 ?_
            clear hW hS
            intro H locs hW hS
            obtain ⟨σ18, e19, hf⟩ := um_le hf
            rw [← e19] at hW
            clear e19
            refine lv_aload_n (pc := 329) hx hb dX9_next_329 rfl (lv_at hl 1 rfl) ?_
            refine lv_dup (pc := 330) hx hb dX9_next_330 rfl ?_
            refine gF_X9_152 (pc := 331) Cx hW ms_0 rfl dX9_next_331 ?_
            refine lv_iconst (pc := 334) (v := (1 : Int32)) hx hb dX9_next_334 (by decide) ?_
            refine lv_iadd (pc := 335) hx hb dX9_next_335 ?_
            refine gP_X9_152 (pc := 336) Cx hW hS ms_0 rfl dX9_next_336 ?_
            clear hW hS
            intro H locs hW hS
            obtain ⟨σ20, e21, hf⟩ := um_le hf
            rw [← e21] at hW
            clear e21
            exact um_vret (pc := 339) Cx hW hS hf dX9_next_339
          · have hf := um_ie c1 hf
            clear c1
            refine lv_aload_n (pc := 209) hx hb dX9_next_209 rfl (lv_at hl 1 rfl) ?_
            refine lv_iconst (pc := 210) (v := (0 : Int32)) hx hb dX9_next_210 (by decide) ?_
            refine gP_X9_170 (pc := 211) Cx hW hS ms_0 rfl dX9_next_211 ?_
            clear hW hS
            intro H locs hW hS
            obtain ⟨σ22, e23, hf⟩ := um_le hf
            rw [← e23] at hW
            clear e23
            obtain ⟨σ24, hc25, hf⟩ := um_bi hf
            refine t_X9_next_l214 x8 Cx ?_ um_N _ _ _ _ hc25 hW hS (lv_sub hl [1, 0] rfl)
            clear hW hS hl hc25
            intro H locs ls hW hS hl
            refine lv_aload_n (pc := 282) hx hb dX9_next_282 rfl (lv_at hl 0 rfl) ?_
            refine lv_iload_n (pc := 283) hx hb dX9_next_283 rfl (lv_at hl 1 rfl) ?_
            refine lv_if_ne (pc := 284) (tgt := 300) hx hb dX9_next_284 (by decide) (fun c1 => ?_) (fun c1 => ?_)
            · have hf := um_ie c1 hf
              clear c1
              refine lv_iconst (pc := 300) (v := (4 : Int32)) hx hb dX9_next_300 (by decide) ?_
              refine lv_goto (pc := 301) (tgt := 305) hx hb dX9_next_301 (by decide) ?_
              refine gP_X9_155 (pc := 305) Cx hW hS ms_0 rfl dX9_next_305 ?_
              clear hW hS
              intro H locs hW hS
              obtain ⟨σ26, e27, hf⟩ := um_le hf
              rw [← e27] at hW
              clear e27
              refine lv_goto (pc := 308) (tgt := 339) hx hb dX9_next_308 (by decide) ?_
              exact um_vret (pc := 339) Cx hW hS hf dX9_next_339
            · have hf := um_it c1 hf
              clear c1
              refine lv_aload_n (pc := 287) hx hb dX9_next_287 rfl (lv_at hl 0 rfl) ?_
              refine gF_X9_152 (pc := 288) Cx hW ms_0 rfl dX9_next_288 ?_
              refine lv_aload_n (pc := 291) hx hb dX9_next_291 rfl (lv_at hl 0 rfl) ?_
              refine gF_X9_158 (pc := 292) Cx hW ms_0 rfl dX9_next_292 ?_
              refine lv_isub (pc := 295) hx hb dX9_next_295 ?_
              refine lv_iconst (pc := 296) (v := (4 : Int32)) hx hb dX9_next_296 (by decide) ?_
              refine lv_icmp_le (pc := 297) (tgt := 304) hx hb dX9_next_297 (by decide) (fun c1 => ?_) (fun c1 => ?_)
              · have hf := um_it c1 hf
                clear c1
                refine lv_iconst (pc := 304) (v := (2 : Int32)) hx hb dX9_next_304 (by decide) ?_
                refine gP_X9_155 (pc := 305) Cx hW hS ms_0 rfl dX9_next_305 ?_
                clear hW hS
                intro H locs hW hS
                obtain ⟨σ28, e29, hf⟩ := um_le hf
                rw [← e29] at hW
                clear e29
                refine lv_goto (pc := 308) (tgt := 339) hx hb dX9_next_308 (by decide) ?_
                exact um_vret (pc := 339) Cx hW hS hf dX9_next_339
              · have hf := um_ie c1 hf
                clear c1
                refine lv_iconst (pc := 300) (v := (4 : Int32)) hx hb dX9_next_300 (by decide) ?_
                refine lv_goto (pc := 301) (tgt := 305) hx hb dX9_next_301 (by decide) ?_
                refine gP_X9_155 (pc := 305) Cx hW hS ms_0 rfl dX9_next_305 ?_
                clear hW hS
                intro H locs hW hS
                obtain ⟨σ30, e31, hf⟩ := um_le hf
                rw [← e31] at hW
                clear e31
                refine lv_goto (pc := 308) (tgt := 339) hx hb dX9_next_308 (by decide) ?_
                exact um_vret (pc := 339) Cx hW hS hf dX9_next_339
        · have hf := um_ie c1 hf
          clear c1
          obtain ⟨σ32, hc33, hf⟩ := um_bi hf
          refine t_X9_next_l128 x8 Cx ?_ um_N _ _ _ _ hc33 hW hS (lv_sub hl [1, 0] rfl)
          clear hW hS hl hc33
          intro H locs ls hW hS hl
          refine lv_aload_n (pc := 152) hx hb dX9_next_152 rfl (lv_at hl 0 rfl) ?_
          refine lv_iload_n (pc := 153) hx hb dX9_next_153 rfl (lv_at hl 1 rfl) ?_
          obtain ⟨k34, hk34, hf⟩ := um_j1 hf
          have J34 : ∀ (x35 : Int32), k34 x35 = some σ' → ∀ (H : Heap) (locs : List Loc) (ls : Array Slot), um_W Z msh α σ32 H → va_S (um_D msh α) s.heap H locs → lv_has ls 3 [(0, .ref (α 0))] → um_G p l e (2) (46) s m args below meth c Z msh α σ' none H locs (F0 m 162 ls [.int x35, .ref (α 0)]) := by
            intro x35 hf H locs ls hW hS hl
            rw [hk34] at hf
            refine gP_X9_155 (pc := 162) Cx hW hS ms_0 rfl dX9_next_162 ?_
            clear hW hS
            intro H locs hW hS
            obtain ⟨σ36, e37, hf⟩ := um_le hf
            rw [← e37] at hW
            clear e37
            refine lv_aload_n (pc := 165) hx hb dX9_next_165 rfl (lv_at hl 0 rfl) ?_
            refine lv_aload_n (pc := 166) hx hb dX9_next_166 rfl (lv_at hl 0 rfl) ?_
            refine gF_X9_152 (pc := 167) Cx hW ms_0 rfl dX9_next_167 ?_
            refine lv_aload_n (pc := 170) hx hb dX9_next_170 rfl (lv_at hl 0 rfl) ?_
            refine gF_X9_158 (pc := 171) Cx hW ms_0 rfl dX9_next_171 ?_
            refine lv_isub (pc := 174) hx hb dX9_next_174 ?_
            refine lv_iconst (pc := 175) (v := (1 : Int32)) hx hb dX9_next_175 (by decide) ?_
            refine lv_icmp_ne (pc := 176) (tgt := 191) hx hb dX9_next_176 (by decide) (fun c1 => ?_) (fun c1 => ?_)
            · have hf := um_ie c1 hf
              clear c1
              refine lv_iconst (pc := 191) (v := (0 : Int32)) hx hb dX9_next_191 (by decide) ?_
              refine gP_X9_164 (pc := 192) Cx hW hS ms_0 rfl dX9_next_192 ?_
              clear hW hS
              intro H locs hW hS
              obtain ⟨σ38, e39, hf⟩ := um_le hf
              rw [← e39] at hW
              clear e39
              refine lv_goto (pc := 195) (tgt := 339) hx hb dX9_next_195 (by decide) ?_
              exact um_vret (pc := 339) Cx hW hS hf dX9_next_339
            · have hf := um_it c1 hf
              clear c1
              refine lv_aload_n (pc := 179) hx hb dX9_next_179 rfl (lv_at hl 0 rfl) ?_
              refine gF_X9_28 (pc := 180) Cx hW ms_0 rfl dX9_next_180 ?_
              refine lv_aload_n (pc := 183) hx hb dX9_next_183 rfl (lv_at hl 0 rfl) ?_
              refine gF_X9_158 (pc := 184) Cx hW ms_0 rfl dX9_next_184 ?_
              obtain ⟨g40, hf⟩ := um_gu hf
              refine um_iald (pc := 187) Cx hW ms_7 rfl (um_ix_in g40) dX9_next_187 ?_
              refine lv_goto (pc := 188) (tgt := 192) hx hb dX9_next_188 (by decide) ?_
              refine gP_X9_164 (pc := 192) Cx hW hS ms_0 rfl dX9_next_192 ?_
              clear hW hS
              intro H locs hW hS
              obtain ⟨σ41, e42, hf⟩ := um_le hf
              rw [← e42] at hW
              clear e42
              refine lv_goto (pc := 195) (tgt := 339) hx hb dX9_next_195 (by decide) ?_
              exact um_vret (pc := 339) Cx hW hS hf dX9_next_339
          refine lv_if_eq (pc := 154) (tgt := 161) hx hb dX9_next_154 (by decide) (fun c1 => ?_) (fun c1 => ?_)
          · have hf := um_it c1 hf
            clear c1
            refine lv_iconst (pc := 161) (v := (1 : Int32)) hx hb dX9_next_161 (by decide) ?_
            exact J34 (1 : Int32) hf _ _ _ hW hS (lv_sub hl [0] rfl)
          · have hf := um_ie c1 hf
            clear c1
            refine lv_iconst (pc := 157) (v := (4 : Int32)) hx hb dX9_next_157 (by decide) ?_
            refine lv_goto (pc := 158) (tgt := 162) hx hb dX9_next_158 (by decide) ?_
            exact J34 (4 : Int32) hf _ _ _ hW hS (lv_sub hl [0] rfl)
      · have hf := um_it c1 hf
        clear c1
        refine lv_aload_n (pc := 109) hx hb dX9_next_109 rfl (lv_at hl 1 rfl) ?_
        refine lv_iconst (pc := 110) (v := (0 : Int32)) hx hb dX9_next_110 (by decide) ?_
        refine gP_X9_155 (pc := 111) Cx hW hS ms_0 rfl dX9_next_111 ?_
        clear hW hS
        intro H locs hW hS
        obtain ⟨σ43, e44, hf⟩ := um_le hf
        rw [← e44] at hW
        clear e44
        refine lv_goto (pc := 114) (tgt := 339) hx hb dX9_next_114 (by decide) ?_
        exact um_vret (pc := 339) Cx hW hS hf dX9_next_339
    obtain ⟨k45, hk45, hf⟩ := um_j1 hf
    have J45 : ∀ (_u : Unit), k45 _u = some σ' → ∀ (H : Heap) (locs : List Loc) (ls : Array Slot), um_W Z msh α σ5 H → va_S (um_D msh α) s.heap H locs → lv_has ls 3 [(0, .ref (α 0))] → um_G p l e (2) (46) s m args below meth c Z msh α σ' none H locs (F0 m 88 ls []) := by
      intro _u hf H locs ls hW hS hl
      rw [hk45] at hf
      refine lv_iconst (pc := 88) (v := (0 : Int32)) hx hb dX9_next_88 (by decide) ?_
      exact J7 (0 : Int32) hf _ _ _ hW hS hl
    refine lv_if_eq (pc := 73) (tgt := 88) hx hb dX9_next_73 (by decide) (fun c1 => ?_) (fun c1 => ?_)
    · have hf := um_it c1 hf
      clear c1
      exact J45 () hf _ _ _ hW hS (lv_sub hl [0] rfl)
    · have hf := um_ie c1 hf
      clear c1
      refine lv_iload_n (pc := 76) hx hb dX9_next_76 rfl (lv_at hl 2 rfl) ?_
      refine lv_aload_n (pc := 77) hx hb dX9_next_77 rfl (lv_at hl 0 rfl) ?_
      refine gF_X9_152 (pc := 78) Cx hW ms_0 rfl dX9_next_78 ?_
      refine lv_icmp_ne (pc := 81) (tgt := 88) hx hb dX9_next_81 (by decide) (fun c1 => ?_) (fun c1 => ?_)
      · have hf := um_ie c1 hf
        clear c1
        exact J45 () hf _ _ _ hW hS (lv_sub hl [0] rfl)
      · have hf := um_it c1 hf
        clear c1
        refine lv_iconst (pc := 84) (v := (1 : Int32)) hx hb dX9_next_84 (by decide) ?_
        refine lv_goto (pc := 85) (tgt := 89) hx hb dX9_next_85 (by decide) ?_
        exact J7 (1 : Int32) hf _ _ _ hW hS (lv_sub hl [0] rfl)
  obtain ⟨k46, hk46, hf⟩ := um_j1 hf
  have J46 : ∀ (_u : Unit), k46 _u = some σ' → ∀ (H : Heap) (locs : List Loc) (ls : Array Slot), um_W Z msh α σ H → va_S (um_D msh α) s.heap H locs → lv_has ls 3 [(0, .ref (α 0))] → um_G p l e (2) (46) s m args below meth c Z msh α σ' none H locs (F0 m 27 ls []) := by
    intro _u hf H locs ls hW hS hl
    rw [hk46] at hf
    refine lv_iconst (pc := 27) (v := (0 : Int32)) hx hb dX9_next_27 (by decide) ?_
    exact J1 (0 : Int32) hf _ _ _ hW hS hl
  refine lv_if_le (pc := 4) (tgt := 27) hx hb dX9_next_4 (by decide) (fun c1 => ?_) (fun c1 => ?_)
  · have hf := um_it c1 hf
    clear c1
    exact J46 () hf _ _ _ hW hS hl
  · have hf := um_ie c1 hf
    clear c1
    refine lv_aload_n (pc := 7) hx hb dX9_next_7 rfl (lv_at hl 0 rfl) ?_
    refine gF_X9_155 (pc := 8) Cx hW ms_0 rfl dX9_next_8 ?_
    refine lv_iconst (pc := 11) (v := (1 : Int32)) hx hb dX9_next_11 (by decide) ?_
    obtain ⟨k47, hk47, hf⟩ := um_j1 hf
    have J47 : ∀ (_u : Unit), k47 _u = some σ' → ∀ (H : Heap) (locs : List Loc) (ls : Array Slot), um_W Z msh α σ H → va_S (um_D msh α) s.heap H locs → lv_has ls 3 [(0, .ref (α 0))] → um_G p l e (2) (46) s m args below meth c Z msh α σ' none H locs (F0 m 23 ls []) := by
      intro _u hf H locs ls hW hS hl
      rw [hk47] at hf
      refine lv_iconst (pc := 23) (v := (1 : Int32)) hx hb dX9_next_23 (by decide) ?_
      refine lv_goto (pc := 24) (tgt := 28) hx hb dX9_next_24 (by decide) ?_
      exact J1 (1 : Int32) hf _ _ _ hW hS hl
    refine lv_icmp_eq (pc := 12) (tgt := 23) hx hb dX9_next_12 (by decide) (fun c1 => ?_) (fun c1 => ?_)
    · have hf := um_it c1 hf
      clear c1
      exact J47 () hf _ _ _ hW hS hl
    · have hf := um_ie c1 hf
      clear c1
      refine lv_aload_n (pc := 15) hx hb dX9_next_15 rfl (lv_at hl 0 rfl) ?_
      refine gF_X9_155 (pc := 16) Cx hW ms_0 rfl dX9_next_16 ?_
      refine lv_iconst (pc := 19) (v := (2 : Int32)) hx hb dX9_next_19 (by decide) ?_
      refine lv_icmp_ne (pc := 20) (tgt := 27) hx hb dX9_next_20 (by decide) (fun c1 => ?_) (fun c1 => ?_)
      · have hf := um_ie c1 hf
        clear c1
        exact J46 () hf _ _ _ hW hS hl
      · have hf := um_it c1 hf
        clear c1
        exact J47 () hf _ _ _ hW hS hl
theorem c_X9_next {σ : um_S} {σ' : um_S}   (hf : f_X9_next σ = some σ') : um_M l yX9_next cX9_next 3 none (2) (46) Z msh α σ [.ref (α 0)] none σ' :=
  um_start (by decide) (Nat.le_of_ble_eq_true rfl) (fun p e s m below meth c ls Cx hW hS hl => b_X9_next hf Cx hW hS hl)
noncomputable def f_X9_step (a1 : Int32) (a2 : Int32) (σ : um_S) : Option (um_S) :=
    if um_ix ((σ.1 0 17) + ((2 : Int32) * (σ.1 0 16))) 3790 then
    (um_let (um_wr σ 1 ((σ.1 0 17) + ((2 : Int32) * (σ.1 0 16))).toNatClampNeg a1) fun σ2 =>
    (if um_ix (((σ2.1 0 17) + ((2 : Int32) * (σ2.1 0 16))) + (1 : Int32)) 3790 then
    (um_let (um_wr σ2 1 (((σ2.1 0 17) + ((2 : Int32) * (σ2.1 0 16))) + (1 : Int32)).toNatClampNeg a2) fun σ5 =>
    (um_let (um_wr σ5 0 16 ((σ5.1 0 16) + (1 : Int32))) fun σ7 =>
    (some σ7))) else none)) else none
set_option maxRecDepth 100000 in
set_option maxHeartbeats 4000000 in
theorem b_X9_step {H : Heap} {locs : List Loc} {ls : Array Slot} {σ : um_S} {σ' : um_S} (a1 : Int32) (a2 : Int32)  (hf : f_X9_step a1 a2 σ = some σ') (Cx : um_C p s m meth c args cX9_step 3 none RX9 Z) (hW : um_W Z msh α σ H) (hS : va_S (um_D msh α) s.heap H locs) (hl : lv_has ls 3 [(0, .ref (α 0)), (1, .int a1), (2, .int a2)]) : um_G p l e (0) (0) s m args below meth c Z msh α σ' none H locs (F0 m 0 ls []) := by
  have hx := Cx.1
  have hb := Cx.2.1
  have hown := Cx.2.2.2.2.1
  have hts := Cx.2.2.2.2.2.1
  rw [f_X9_step] at hf
  refine lv_aload_n (pc := 0) hx hb dX9_step_0 rfl (lv_at hl 0 rfl) ?_
  refine gF_X9_7 (pc := 1) Cx hW ms_0 rfl dX9_step_1 ?_
  refine lv_aload_n (pc := 4) hx hb dX9_step_4 rfl (lv_at hl 0 rfl) ?_
  refine gF_X9_181 (pc := 5) Cx hW ms_0 rfl dX9_step_5 ?_
  refine lv_iconst (pc := 8) (v := (2 : Int32)) hx hb dX9_step_8 (by decide) ?_
  refine lv_aload_n (pc := 9) hx hb dX9_step_9 rfl (lv_at hl 0 rfl) ?_
  refine gF_X9_184 (pc := 10) Cx hW ms_0 rfl dX9_step_10 ?_
  refine lv_imul (pc := 13) hx hb dX9_step_13 ?_
  refine lv_iadd (pc := 14) hx hb dX9_step_14 ?_
  refine lv_iload_n (pc := 15) hx hb dX9_step_15 rfl (lv_at hl 1 rfl) ?_
  obtain ⟨g1, hf⟩ := um_gu hf
  refine um_iast (pc := 16) Cx hW hS ms_1 rfl (um_ix_in g1) dX9_step_16 ?_
  clear hW hS
  intro H locs hW hS
  obtain ⟨σ2, e3, hf⟩ := um_le hf
  rw [← e3] at hW
  clear e3
  refine lv_aload_n (pc := 17) hx hb dX9_step_17 rfl (lv_at hl 0 rfl) ?_
  refine gF_X9_7 (pc := 18) Cx hW ms_0 rfl dX9_step_18 ?_
  refine lv_aload_n (pc := 21) hx hb dX9_step_21 rfl (lv_at hl 0 rfl) ?_
  refine gF_X9_181 (pc := 22) Cx hW ms_0 rfl dX9_step_22 ?_
  refine lv_iconst (pc := 25) (v := (2 : Int32)) hx hb dX9_step_25 (by decide) ?_
  refine lv_aload_n (pc := 26) hx hb dX9_step_26 rfl (lv_at hl 0 rfl) ?_
  refine gF_X9_184 (pc := 27) Cx hW ms_0 rfl dX9_step_27 ?_
  refine lv_imul (pc := 30) hx hb dX9_step_30 ?_
  refine lv_iadd (pc := 31) hx hb dX9_step_31 ?_
  refine lv_iconst (pc := 32) (v := (1 : Int32)) hx hb dX9_step_32 (by decide) ?_
  refine lv_iadd (pc := 33) hx hb dX9_step_33 ?_
  refine lv_iload_n (pc := 34) hx hb dX9_step_34 rfl (lv_at hl 2 rfl) ?_
  obtain ⟨g4, hf⟩ := um_gu hf
  refine um_iast (pc := 35) Cx hW hS ms_1 rfl (um_ix_in g4) dX9_step_35 ?_
  clear hW hS
  intro H locs hW hS
  obtain ⟨σ5, e6, hf⟩ := um_le hf
  rw [← e6] at hW
  clear e6
  refine lv_aload_n (pc := 36) hx hb dX9_step_36 rfl (lv_at hl 0 rfl) ?_
  refine lv_dup (pc := 37) hx hb dX9_step_37 rfl ?_
  refine gF_X9_184 (pc := 38) Cx hW ms_0 rfl dX9_step_38 ?_
  refine lv_iconst (pc := 41) (v := (1 : Int32)) hx hb dX9_step_41 (by decide) ?_
  refine lv_iadd (pc := 42) hx hb dX9_step_42 ?_
  refine gP_X9_184 (pc := 43) Cx hW hS ms_0 rfl dX9_step_43 ?_
  clear hW hS
  intro H locs hW hS
  obtain ⟨σ7, e8, hf⟩ := um_le hf
  rw [← e8] at hW
  clear e8
  exact um_vret (pc := 46) Cx hW hS hf dX9_step_46
theorem c_X9_step {σ : um_S} {σ' : um_S} (a1 : Int32) (a2 : Int32)  (hf : f_X9_step a1 a2 σ = some σ') : um_M l yX9_step cX9_step 3 none (0) (0) Z msh α σ [.ref (α 0), .int a1, .int a2] none σ' :=
  um_start (by decide) (Nat.le_of_ble_eq_true rfl) (fun p e s m below meth c ls Cx hW hS hl => b_X9_step a1 a2 hf Cx hW hS hl)
noncomputable def f_X9_term__l10 (P : Int32 → um_S → Option (Bool × um_S)) (v1 : Int32) : Nat → um_S → Option ((Bool × um_S) ⊕ (um_S))
  | 0, _ => none
  | n + 1, σ =>
    (f_X9_isSign (42 : Int32) σ).bind fun x2 =>
    (um_let (fun (_u : Unit) =>
    (um_let (σ.1 0 13) fun x4 =>
    ((f_X9_next σ).bind fun σ7 =>
    (um_b2 (P v1 σ7) fun x10 σ9 =>
    (if (um_b x10) = 0 then
    (some (.inl (false, σ9)))
    else
    ((f_X9_step (2 : Int32) x4 σ9).bind fun σ12 =>
    (f_X9_term__l10 P v1 n σ12))))))) fun k3 =>
    (if (um_b x2) = 0 then
    ((f_X9_isSign (47 : Int32) σ).bind fun x14 =>
    (if (um_b x14) = 0 then
    (some (.inr σ))
    else
    (k3 ())))
    else
    (k3 ())))
noncomputable def f_X9_term_ (P : Int32 → um_S → Option (Bool × um_S)) (a1 : Int32) (σ : um_S) : Option (Bool × um_S) :=
    um_b2 (P a1 σ) fun x3 σ2 =>
    (if (um_b x3) = 0 then
    (some (false, σ2))
    else
    (um_s1 (f_X9_term__l10 P a1 um_N σ2) fun σ4 =>
    (some (true, σ4))))
set_option maxRecDepth 100000 in
set_option maxHeartbeats 4000000 in
theorem t_X9_term__l10 {σ' : um_S} {r : Bool} {out : (Bool × um_S) ⊕ (um_S)}  {P : Int32 → um_S → Option (Bool × um_S)} {FP LP : Nat} (hP : ∀ (a1 : Int32) (σ : um_S) (r : Bool) (σ' : um_S), P a1 σ = some (r, σ') → um_M l yX9_part0 cX9_part0 2 (some FieldType.boolean) FP LP Z msh α σ [.ref (α 0), .int a1] (some (.int (um_b r))) σ')  (v1 : Int32)  (Cx : um_C p s m meth c args cX9_term_ 3 (some FieldType.boolean) RX9 Z) (hR : ∀ a, out = .inl a → some a = some (r, σ')) (hE : ∀ (σo : um_S), out = .inr σo → ∀ (H : Heap) (locs : List Loc) (ls : Array Slot), um_W Z msh α σo H → va_S (um_D msh α) s.heap H locs → lv_has ls 3 [] → um_G p l e (FP + 3) (LP + 68) s m args below meth c Z msh α σ' (some (.int (um_b r))) H locs (F0 m 56 ls [])) : ∀ (n : Nat) (σ : um_S) (H : Heap) (locs : List Loc) (ls : Array Slot), f_X9_term__l10 P v1 n σ = some out → um_W Z msh α σ H → va_S (um_D msh α) s.heap H locs → lv_has ls 3 [(0, .ref (α 0)), (1, .int v1)] → um_G p l e (FP + 3) (LP + 68) s m args below meth c Z msh α σ' (some (.int (um_b r))) H locs (F0 m 10 ls []) := by
  have hx := Cx.1
  have hb := Cx.2.1
  have hown := Cx.2.2.2.2.1
  have hts := Cx.2.2.2.2.2.1
  intro n
  induction n with
  | zero =>
    intro σ H locs ls hf hW hS hl
    cases hf
  | succ n ih =>
    intro σ H locs ls hf hW hS hl
    rw [f_X9_term__l10] at hf
    refine lv_aload_n (pc := 10) hx hb dX9_term__10 rfl (lv_at hl 0 rfl) ?_
    refine lv_bipush (pc := 11) (v := (42 : Int32)) hx hb dX9_term__11 (by decide) ?_
    obtain ⟨x2, hc1, hf⟩ := um_bi hf
    refine um_cVi (pc := 13) (As := [.int (42 : Int32)]) (rest := []) Cx (c_X9_isSign (42 : Int32) hc1) kV_X9_isSign (Or.inl qM_X9_190) hW hS ms_0 rfl rfl hl rfl (Nat.le_of_ble_eq_true rfl) (by dsimp only; omega) (by dsimp only; omega) dX9_term__13 (Nat.le_refl _) (Nat.le_refl _) ?_
    clear hW hS hc1
    intro H locs hW hS
    obtain ⟨k3, hk3, hf⟩ := um_j1 hf
    have J3 : ∀ (_u : Unit), k3 _u = some out → ∀ (H : Heap) (locs : List Loc) (ls : Array Slot), um_W Z msh α σ H → va_S (um_D msh α) s.heap H locs → lv_has ls 3 [(0, .ref (α 0)), (1, .int v1)] → um_G p l e (FP + 3) (LP + 68) s m args below meth c Z msh α σ' (some (.int (um_b r))) H locs (F0 m 28 ls []) := by
      intro _u hf H locs ls hW hS hl
      rw [hk3] at hf
      refine lv_aload_n (pc := 28) hx hb dX9_term__28 rfl (lv_at hl 0 rfl) ?_
      refine gF_X9_164 (pc := 29) Cx hW ms_0 rfl dX9_term__29 ?_
      obtain ⟨x4, e5, hf⟩ := um_le hf
      refine um_top e5 ?_
      clear e5
      refine lv_istore_n (pc := 32) (lv' := [(2, .int x4), (0, .ref (α 0)), (1, .int v1)]) hx hb dX9_term__32 rfl hl (by decide) rfl ?_
      clear hl
      intro ls hl
      refine lv_aload_n (pc := 33) hx hb dX9_term__33 rfl (lv_at hl 1 rfl) ?_
      obtain ⟨σ7, hc6, hf⟩ := um_bi hf
      refine um_cVv (pc := 34) (As := []) (rest := []) Cx (c_X9_next hc6) kV_X9_next (Or.inl qM_X9_193) hW hS ms_0 rfl rfl hl rfl (Nat.le_of_ble_eq_true rfl) (by dsimp only; omega) (by dsimp only; omega) dX9_term__34 (Nat.le_refl _) (Nat.le_refl _) ?_
      clear hW hS hc6
      intro H locs hW hS
      refine lv_aload_n (pc := 37) hx hb dX9_term__37 rfl (lv_at hl 1 rfl) ?_
      refine lv_iload_n (pc := 38) hx hb dX9_term__38 rfl (lv_at hl 2 rfl) ?_
      obtain ⟨x10, σ9, hc8, hf⟩ := um_bi2 hf
      refine um_cVi (pc := 39) (As := [.int v1]) (rest := []) Cx (hP v1 _ _ _ hc8) kV_X9_part0 (Or.inl qM_X9_209) hW hS ms_0 rfl rfl hl rfl (Nat.le_of_ble_eq_true rfl) (by dsimp only; omega) (by dsimp only; omega) dX9_term__39 (Nat.le_refl _) (Nat.le_refl _) ?_
      clear hW hS hc8
      intro H locs hW hS
      refine lv_if_ne (pc := 42) (tgt := 47) hx hb dX9_term__42 (by decide) (fun c1 => ?_) (fun c1 => ?_)
      · have hf := um_ie c1 hf
        clear c1
        refine lv_aload_n (pc := 47) hx hb dX9_term__47 rfl (lv_at hl 1 rfl) ?_
        refine lv_iconst (pc := 48) (v := (2 : Int32)) hx hb dX9_term__48 (by decide) ?_
        refine lv_iload_n (pc := 49) hx hb dX9_term__49 rfl (lv_at hl 0 rfl) ?_
        obtain ⟨σ12, hc11, hf⟩ := um_bi hf
        refine um_cVv (pc := 50) (As := [.int (2 : Int32), .int x4]) (rest := []) Cx (c_X9_step (2 : Int32) x4 hc11) kV_X9_step (Or.inl qM_X9_196) hW hS ms_0 rfl rfl hl rfl (Nat.le_of_ble_eq_true rfl) (by dsimp only; omega) (by dsimp only; omega) dX9_term__50 (Nat.le_refl _) (Nat.le_refl _) ?_
        clear hW hS hc11
        intro H locs hW hS
        refine lv_goto (pc := 53) (tgt := 10) hx hb dX9_term__53 (by decide) ?_
        exact ih _ _ _ _ hf hW hS (lv_sub hl [1, 2] rfl)
      · have hf := um_it c1 hf
        clear c1
        refine lv_iconst (pc := 45) (v := (0 : Int32)) hx hb dX9_term__45 (by decide) ?_
        exact um_zret (pc := 46) Cx hW hS (hR _ (Option.some.inj hf).symm) rfl dX9_term__46
    refine lv_if_ne (pc := 16) (tgt := 28) hx hb dX9_term__16 (by decide) (fun c1 => ?_) (fun c1 => ?_)
    · have hf := um_ie c1 hf
      clear c1
      exact J3 () hf _ _ _ hW hS hl
    · have hf := um_it c1 hf
      clear c1
      refine lv_aload_n (pc := 19) hx hb dX9_term__19 rfl (lv_at hl 0 rfl) ?_
      refine lv_bipush (pc := 20) (v := (47 : Int32)) hx hb dX9_term__20 (by decide) ?_
      obtain ⟨x14, hc13, hf⟩ := um_bi hf
      refine um_cVi (pc := 22) (As := [.int (47 : Int32)]) (rest := []) Cx (c_X9_isSign (47 : Int32) hc13) kV_X9_isSign (Or.inl qM_X9_190) hW hS ms_0 rfl rfl hl rfl (Nat.le_of_ble_eq_true rfl) (by dsimp only; omega) (by dsimp only; omega) dX9_term__22 (Nat.le_refl _) (Nat.le_refl _) ?_
      clear hW hS hc13
      intro H locs hW hS
      refine lv_if_eq (pc := 25) (tgt := 56) hx hb dX9_term__25 (by decide) (fun c1 => ?_) (fun c1 => ?_)
      · have hf := um_it c1 hf
        clear c1
        exact hE _ (Option.some.inj hf).symm _ _ _ hW hS (lv_sub hl [] rfl)
      · have hf := um_ie c1 hf
        clear c1
        exact J3 () hf _ _ _ hW hS hl
set_option maxRecDepth 100000 in
set_option maxHeartbeats 4000000 in
theorem b_X9_term_ {H : Heap} {locs : List Loc} {ls : Array Slot} {σ : um_S} {σ' : um_S} {r : Bool} {P : Int32 → um_S → Option (Bool × um_S)} {FP LP : Nat} (hP : ∀ (a1 : Int32) (σ : um_S) (r : Bool) (σ' : um_S), P a1 σ = some (r, σ') → um_M l yX9_part0 cX9_part0 2 (some FieldType.boolean) FP LP Z msh α σ [.ref (α 0), .int a1] (some (.int (um_b r))) σ') (a1 : Int32)  (hf : f_X9_term_ P a1 σ = some (r, σ')) (Cx : um_C p s m meth c args cX9_term_ 3 (some FieldType.boolean) RX9 Z) (hW : um_W Z msh α σ H) (hS : va_S (um_D msh α) s.heap H locs) (hl : lv_has ls 3 [(0, .ref (α 0)), (1, .int a1)]) : um_G p l e (FP + 3) (LP + 68) s m args below meth c Z msh α σ' (some (.int (um_b r))) H locs (F0 m 0 ls []) := by
  have hx := Cx.1
  have hb := Cx.2.1
  have hown := Cx.2.2.2.2.1
  have hts := Cx.2.2.2.2.2.1
  rw [f_X9_term_] at hf
  refine lv_aload_n (pc := 0) hx hb dX9_term__0 rfl (lv_at hl 0 rfl) ?_
  refine lv_iload_n (pc := 1) hx hb dX9_term__1 rfl (lv_at hl 1 rfl) ?_
  obtain ⟨x3, σ2, hc1, hf⟩ := um_bi2 hf
  refine um_cVi (pc := 2) (As := [.int a1]) (rest := []) Cx (hP a1 _ _ _ hc1) kV_X9_part0 (Or.inl qM_X9_209) hW hS ms_0 rfl rfl hl rfl (Nat.le_of_ble_eq_true rfl) (by dsimp only; omega) (by dsimp only; omega) dX9_term__2 (Nat.le_refl _) (Nat.le_refl _) ?_
  clear hW hS hc1
  intro H locs hW hS
  refine lv_if_ne (pc := 5) (tgt := 10) hx hb dX9_term__5 (by decide) (fun c1 => ?_) (fun c1 => ?_)
  · have hf := um_ie c1 hf
    clear c1
    obtain ⟨q6, hc5, hr7, hg8⟩ := um_si1 hf
    refine t_X9_term__l10 hP a1 Cx hr7 ?_ um_N _ _ _ _ hc5 hW hS hl
    clear hW hS hl hc5
    intro σ4 hq9 H locs ls hW hS hl
    have hf := hg8 _ hq9
    refine lv_iconst (pc := 56) (v := (1 : Int32)) hx hb dX9_term__56 (by decide) ?_
    exact um_zret (pc := 57) Cx hW hS hf rfl dX9_term__57
  · have hf := um_it c1 hf
    clear c1
    refine lv_iconst (pc := 8) (v := (0 : Int32)) hx hb dX9_term__8 (by decide) ?_
    exact um_zret (pc := 9) Cx hW hS hf rfl dX9_term__9
theorem c_X9_term_ {σ : um_S} {σ' : um_S} {r : Bool} {P : Int32 → um_S → Option (Bool × um_S)} {FP LP : Nat} (hP : ∀ (a1 : Int32) (σ : um_S) (r : Bool) (σ' : um_S), P a1 σ = some (r, σ') → um_M l yX9_part0 cX9_part0 2 (some FieldType.boolean) FP LP Z msh α σ [.ref (α 0), .int a1] (some (.int (um_b r))) σ') (a1 : Int32)  (hf : f_X9_term_ P a1 σ = some (r, σ')) : um_M l yX9_term_ cX9_term_ 3 (some FieldType.boolean) (FP + 3) (LP + 68) Z msh α σ [.ref (α 0), .int a1] (some (.int (um_b r))) σ' :=
  um_start (by decide) (Nat.le_of_ble_eq_true rfl) (fun p e s m below meth c ls Cx hW hS hl => b_X9_term_ hP a1 hf Cx hW hS hl)
noncomputable def f_X9_sum_l10 (P : Int32 → um_S → Option (Bool × um_S)) (v1 : Int32) : Nat → um_S → Option ((Bool × um_S) ⊕ (um_S))
  | 0, _ => none
  | n + 1, σ =>
    (f_X9_isSign (43 : Int32) σ).bind fun x2 =>
    (um_let (fun (_u : Unit) =>
    (um_let (σ.1 0 13) fun x4 =>
    ((f_X9_next σ).bind fun σ7 =>
    (um_b2 (f_X9_term_ P v1 σ7) fun x10 σ9 =>
    (if (um_b x10) = 0 then
    (some (.inl (false, σ9)))
    else
    ((f_X9_step (2 : Int32) x4 σ9).bind fun σ12 =>
    (f_X9_sum_l10 P v1 n σ12))))))) fun k3 =>
    (if (um_b x2) = 0 then
    ((f_X9_isSign (45 : Int32) σ).bind fun x14 =>
    (if (um_b x14) = 0 then
    (some (.inr σ))
    else
    (k3 ())))
    else
    (k3 ())))
noncomputable def f_X9_sum (P : Int32 → um_S → Option (Bool × um_S)) (a1 : Int32) (σ : um_S) : Option (Bool × um_S) :=
    um_b2 (f_X9_term_ P a1 σ) fun x3 σ2 =>
    (if (um_b x3) = 0 then
    (some (false, σ2))
    else
    (um_s1 (f_X9_sum_l10 P a1 um_N σ2) fun σ4 =>
    (some (true, σ4))))
set_option maxRecDepth 100000 in
set_option maxHeartbeats 4000000 in
theorem t_X9_sum_l10 {σ' : um_S} {r : Bool} {out : (Bool × um_S) ⊕ (um_S)}  {P : Int32 → um_S → Option (Bool × um_S)} {FP LP : Nat} (hP : ∀ (a1 : Int32) (σ : um_S) (r : Bool) (σ' : um_S), P a1 σ = some (r, σ') → um_M l yX9_part0 cX9_part0 2 (some FieldType.boolean) FP LP Z msh α σ [.ref (α 0), .int a1] (some (.int (um_b r))) σ')  (v1 : Int32)  (Cx : um_C p s m meth c args cX9_sum 3 (some FieldType.boolean) RX9 Z) (hR : ∀ a, out = .inl a → some a = some (r, σ')) (hE : ∀ (σo : um_S), out = .inr σo → ∀ (H : Heap) (locs : List Loc) (ls : Array Slot), um_W Z msh α σo H → va_S (um_D msh α) s.heap H locs → lv_has ls 3 [] → um_G p l e (FP + 4) (LP + 90) s m args below meth c Z msh α σ' (some (.int (um_b r))) H locs (F0 m 56 ls [])) : ∀ (n : Nat) (σ : um_S) (H : Heap) (locs : List Loc) (ls : Array Slot), f_X9_sum_l10 P v1 n σ = some out → um_W Z msh α σ H → va_S (um_D msh α) s.heap H locs → lv_has ls 3 [(0, .ref (α 0)), (1, .int v1)] → um_G p l e (FP + 4) (LP + 90) s m args below meth c Z msh α σ' (some (.int (um_b r))) H locs (F0 m 10 ls []) := by
  have hx := Cx.1
  have hb := Cx.2.1
  have hown := Cx.2.2.2.2.1
  have hts := Cx.2.2.2.2.2.1
  intro n
  induction n with
  | zero =>
    intro σ H locs ls hf hW hS hl
    cases hf
  | succ n ih =>
    intro σ H locs ls hf hW hS hl
    rw [f_X9_sum_l10] at hf
    refine lv_aload_n (pc := 10) hx hb dX9_sum_10 rfl (lv_at hl 0 rfl) ?_
    refine lv_bipush (pc := 11) (v := (43 : Int32)) hx hb dX9_sum_11 (by decide) ?_
    obtain ⟨x2, hc1, hf⟩ := um_bi hf
    refine um_cVi (pc := 13) (As := [.int (43 : Int32)]) (rest := []) Cx (c_X9_isSign (43 : Int32) hc1) kV_X9_isSign (Or.inl qM_X9_190) hW hS ms_0 rfl rfl hl rfl (Nat.le_of_ble_eq_true rfl) (by dsimp only; omega) (by dsimp only; omega) dX9_sum_13 (Nat.le_refl _) (Nat.le_refl _) ?_
    clear hW hS hc1
    intro H locs hW hS
    obtain ⟨k3, hk3, hf⟩ := um_j1 hf
    have J3 : ∀ (_u : Unit), k3 _u = some out → ∀ (H : Heap) (locs : List Loc) (ls : Array Slot), um_W Z msh α σ H → va_S (um_D msh α) s.heap H locs → lv_has ls 3 [(0, .ref (α 0)), (1, .int v1)] → um_G p l e (FP + 4) (LP + 90) s m args below meth c Z msh α σ' (some (.int (um_b r))) H locs (F0 m 28 ls []) := by
      intro _u hf H locs ls hW hS hl
      rw [hk3] at hf
      refine lv_aload_n (pc := 28) hx hb dX9_sum_28 rfl (lv_at hl 0 rfl) ?_
      refine gF_X9_164 (pc := 29) Cx hW ms_0 rfl dX9_sum_29 ?_
      obtain ⟨x4, e5, hf⟩ := um_le hf
      refine um_top e5 ?_
      clear e5
      refine lv_istore_n (pc := 32) (lv' := [(2, .int x4), (0, .ref (α 0)), (1, .int v1)]) hx hb dX9_sum_32 rfl hl (by decide) rfl ?_
      clear hl
      intro ls hl
      refine lv_aload_n (pc := 33) hx hb dX9_sum_33 rfl (lv_at hl 1 rfl) ?_
      obtain ⟨σ7, hc6, hf⟩ := um_bi hf
      refine um_cVv (pc := 34) (As := []) (rest := []) Cx (c_X9_next hc6) kV_X9_next (Or.inl qM_X9_193) hW hS ms_0 rfl rfl hl rfl (Nat.le_of_ble_eq_true rfl) (by dsimp only; omega) (by dsimp only; omega) dX9_sum_34 (Nat.le_refl _) (Nat.le_refl _) ?_
      clear hW hS hc6
      intro H locs hW hS
      refine lv_aload_n (pc := 37) hx hb dX9_sum_37 rfl (lv_at hl 1 rfl) ?_
      refine lv_iload_n (pc := 38) hx hb dX9_sum_38 rfl (lv_at hl 2 rfl) ?_
      obtain ⟨x10, σ9, hc8, hf⟩ := um_bi2 hf
      refine um_cVi (pc := 39) (As := [.int v1]) (rest := []) Cx (c_X9_term_ hP v1 hc8) kV_X9_term_ (Or.inl qM_X9_206) hW hS ms_0 rfl rfl hl rfl (Nat.le_of_ble_eq_true rfl) (by dsimp only; omega) (by dsimp only; omega) dX9_sum_39 (Nat.le_refl _) (Nat.le_refl _) ?_
      clear hW hS hc8
      intro H locs hW hS
      refine lv_if_ne (pc := 42) (tgt := 47) hx hb dX9_sum_42 (by decide) (fun c1 => ?_) (fun c1 => ?_)
      · have hf := um_ie c1 hf
        clear c1
        refine lv_aload_n (pc := 47) hx hb dX9_sum_47 rfl (lv_at hl 1 rfl) ?_
        refine lv_iconst (pc := 48) (v := (2 : Int32)) hx hb dX9_sum_48 (by decide) ?_
        refine lv_iload_n (pc := 49) hx hb dX9_sum_49 rfl (lv_at hl 0 rfl) ?_
        obtain ⟨σ12, hc11, hf⟩ := um_bi hf
        refine um_cVv (pc := 50) (As := [.int (2 : Int32), .int x4]) (rest := []) Cx (c_X9_step (2 : Int32) x4 hc11) kV_X9_step (Or.inl qM_X9_196) hW hS ms_0 rfl rfl hl rfl (Nat.le_of_ble_eq_true rfl) (by dsimp only; omega) (by dsimp only; omega) dX9_sum_50 (Nat.le_refl _) (Nat.le_refl _) ?_
        clear hW hS hc11
        intro H locs hW hS
        refine lv_goto (pc := 53) (tgt := 10) hx hb dX9_sum_53 (by decide) ?_
        exact ih _ _ _ _ hf hW hS (lv_sub hl [1, 2] rfl)
      · have hf := um_it c1 hf
        clear c1
        refine lv_iconst (pc := 45) (v := (0 : Int32)) hx hb dX9_sum_45 (by decide) ?_
        exact um_zret (pc := 46) Cx hW hS (hR _ (Option.some.inj hf).symm) rfl dX9_sum_46
    refine lv_if_ne (pc := 16) (tgt := 28) hx hb dX9_sum_16 (by decide) (fun c1 => ?_) (fun c1 => ?_)
    · have hf := um_ie c1 hf
      clear c1
      exact J3 () hf _ _ _ hW hS hl
    · have hf := um_it c1 hf
      clear c1
      refine lv_aload_n (pc := 19) hx hb dX9_sum_19 rfl (lv_at hl 0 rfl) ?_
      refine lv_bipush (pc := 20) (v := (45 : Int32)) hx hb dX9_sum_20 (by decide) ?_
      obtain ⟨x14, hc13, hf⟩ := um_bi hf
      refine um_cVi (pc := 22) (As := [.int (45 : Int32)]) (rest := []) Cx (c_X9_isSign (45 : Int32) hc13) kV_X9_isSign (Or.inl qM_X9_190) hW hS ms_0 rfl rfl hl rfl (Nat.le_of_ble_eq_true rfl) (by dsimp only; omega) (by dsimp only; omega) dX9_sum_22 (Nat.le_refl _) (Nat.le_refl _) ?_
      clear hW hS hc13
      intro H locs hW hS
      refine lv_if_eq (pc := 25) (tgt := 56) hx hb dX9_sum_25 (by decide) (fun c1 => ?_) (fun c1 => ?_)
      · have hf := um_it c1 hf
        clear c1
        exact hE _ (Option.some.inj hf).symm _ _ _ hW hS (lv_sub hl [] rfl)
      · have hf := um_ie c1 hf
        clear c1
        exact J3 () hf _ _ _ hW hS hl
set_option maxRecDepth 100000 in
set_option maxHeartbeats 4000000 in
theorem b_X9_sum {H : Heap} {locs : List Loc} {ls : Array Slot} {σ : um_S} {σ' : um_S} {r : Bool} {P : Int32 → um_S → Option (Bool × um_S)} {FP LP : Nat} (hP : ∀ (a1 : Int32) (σ : um_S) (r : Bool) (σ' : um_S), P a1 σ = some (r, σ') → um_M l yX9_part0 cX9_part0 2 (some FieldType.boolean) FP LP Z msh α σ [.ref (α 0), .int a1] (some (.int (um_b r))) σ') (a1 : Int32)  (hf : f_X9_sum P a1 σ = some (r, σ')) (Cx : um_C p s m meth c args cX9_sum 3 (some FieldType.boolean) RX9 Z) (hW : um_W Z msh α σ H) (hS : va_S (um_D msh α) s.heap H locs) (hl : lv_has ls 3 [(0, .ref (α 0)), (1, .int a1)]) : um_G p l e (FP + 4) (LP + 90) s m args below meth c Z msh α σ' (some (.int (um_b r))) H locs (F0 m 0 ls []) := by
  have hx := Cx.1
  have hb := Cx.2.1
  have hown := Cx.2.2.2.2.1
  have hts := Cx.2.2.2.2.2.1
  rw [f_X9_sum] at hf
  refine lv_aload_n (pc := 0) hx hb dX9_sum_0 rfl (lv_at hl 0 rfl) ?_
  refine lv_iload_n (pc := 1) hx hb dX9_sum_1 rfl (lv_at hl 1 rfl) ?_
  obtain ⟨x3, σ2, hc1, hf⟩ := um_bi2 hf
  refine um_cVi (pc := 2) (As := [.int a1]) (rest := []) Cx (c_X9_term_ hP a1 hc1) kV_X9_term_ (Or.inl qM_X9_206) hW hS ms_0 rfl rfl hl rfl (Nat.le_of_ble_eq_true rfl) (by dsimp only; omega) (by dsimp only; omega) dX9_sum_2 (Nat.le_refl _) (Nat.le_refl _) ?_
  clear hW hS hc1
  intro H locs hW hS
  refine lv_if_ne (pc := 5) (tgt := 10) hx hb dX9_sum_5 (by decide) (fun c1 => ?_) (fun c1 => ?_)
  · have hf := um_ie c1 hf
    clear c1
    obtain ⟨q6, hc5, hr7, hg8⟩ := um_si1 hf
    refine t_X9_sum_l10 hP a1 Cx hr7 ?_ um_N _ _ _ _ hc5 hW hS hl
    clear hW hS hl hc5
    intro σ4 hq9 H locs ls hW hS hl
    have hf := hg8 _ hq9
    refine lv_iconst (pc := 56) (v := (1 : Int32)) hx hb dX9_sum_56 (by decide) ?_
    exact um_zret (pc := 57) Cx hW hS hf rfl dX9_sum_57
  · have hf := um_it c1 hf
    clear c1
    refine lv_iconst (pc := 8) (v := (0 : Int32)) hx hb dX9_sum_8 (by decide) ?_
    exact um_zret (pc := 9) Cx hW hS hf rfl dX9_sum_9
theorem c_X9_sum {σ : um_S} {σ' : um_S} {r : Bool} {P : Int32 → um_S → Option (Bool × um_S)} {FP LP : Nat} (hP : ∀ (a1 : Int32) (σ : um_S) (r : Bool) (σ' : um_S), P a1 σ = some (r, σ') → um_M l yX9_part0 cX9_part0 2 (some FieldType.boolean) FP LP Z msh α σ [.ref (α 0), .int a1] (some (.int (um_b r))) σ') (a1 : Int32)  (hf : f_X9_sum P a1 σ = some (r, σ')) : um_M l yX9_sum cX9_sum 3 (some FieldType.boolean) (FP + 4) (LP + 90) Z msh α σ [.ref (α 0), .int a1] (some (.int (um_b r))) σ' :=
  um_start (by decide) (Nat.le_of_ble_eq_true rfl) (fun p e s m below meth c ls Cx hW hS hl => b_X9_sum hP a1 hf Cx hW hS hl)
noncomputable def f_X9_test (P : Int32 → um_S → Option (Bool × um_S)) (a1 : Int32) (σ : um_S) : Option (Bool × um_S) :=
    um_b2 (f_X9_sum P a1 σ) fun x3 σ2 =>
    (if (um_b x3) = 0 then
    (some (false, σ2))
    else
    ((f_X9_isSign (60 : Int32) σ2).bind fun x5 =>
    (um_let (fun (_u : Unit) =>
    (um_let (σ2.1 0 13) fun x7 =>
    ((f_X9_next σ2).bind fun σ10 =>
    (um_b2 (f_X9_sum P a1 σ10) fun x13 σ12 =>
    (if (um_b x13) = 0 then
    (some (false, σ12))
    else
    ((f_X9_step (2 : Int32) x7 σ12).bind fun σ15 =>
    (some (true, σ15)))))))) fun k6 =>
    (if (um_b x5) = 0 then
    ((f_X9_isSign (61 : Int32) σ2).bind fun x17 =>
    (if (um_b x17) = 0 then
    ((f_X9_isSign (62 : Int32) σ2).bind fun x19 =>
    (if (um_b x19) = 0 then
    (some (true, σ2))
    else
    (k6 ())))
    else
    (k6 ())))
    else
    (k6 ())))))
set_option maxRecDepth 100000 in
set_option maxHeartbeats 4000000 in
theorem b_X9_test {H : Heap} {locs : List Loc} {ls : Array Slot} {σ : um_S} {σ' : um_S} {r : Bool} {P : Int32 → um_S → Option (Bool × um_S)} {FP LP : Nat} (hP : ∀ (a1 : Int32) (σ : um_S) (r : Bool) (σ' : um_S), P a1 σ = some (r, σ') → um_M l yX9_part0 cX9_part0 2 (some FieldType.boolean) FP LP Z msh α σ [.ref (α 0), .int a1] (some (.int (um_b r))) σ') (a1 : Int32)  (hf : f_X9_test P a1 σ = some (r, σ')) (Cx : um_C p s m meth c args cX9_test 3 (some FieldType.boolean) RX9 Z) (hW : um_W Z msh α σ H) (hS : va_S (um_D msh α) s.heap H locs) (hl : lv_has ls 3 [(0, .ref (α 0)), (1, .int a1)]) : um_G p l e (FP + 5) (LP + 112) s m args below meth c Z msh α σ' (some (.int (um_b r))) H locs (F0 m 0 ls []) := by
  have hx := Cx.1
  have hb := Cx.2.1
  have hown := Cx.2.2.2.2.1
  have hts := Cx.2.2.2.2.2.1
  rw [f_X9_test] at hf
  refine lv_aload_n (pc := 0) hx hb dX9_test_0 rfl (lv_at hl 0 rfl) ?_
  refine lv_iload_n (pc := 1) hx hb dX9_test_1 rfl (lv_at hl 1 rfl) ?_
  obtain ⟨x3, σ2, hc1, hf⟩ := um_bi2 hf
  refine um_cVi (pc := 2) (As := [.int a1]) (rest := []) Cx (c_X9_sum hP a1 hc1) kV_X9_sum (Or.inl qM_X9_203) hW hS ms_0 rfl rfl hl rfl (Nat.le_of_ble_eq_true rfl) (by dsimp only; omega) (by dsimp only; omega) dX9_test_2 (Nat.le_refl _) (Nat.le_refl _) ?_
  clear hW hS hc1
  intro H locs hW hS
  refine lv_if_ne (pc := 5) (tgt := 10) hx hb dX9_test_5 (by decide) (fun c1 => ?_) (fun c1 => ?_)
  · have hf := um_ie c1 hf
    clear c1
    refine lv_aload_n (pc := 10) hx hb dX9_test_10 rfl (lv_at hl 0 rfl) ?_
    refine lv_bipush (pc := 11) (v := (60 : Int32)) hx hb dX9_test_11 (by decide) ?_
    obtain ⟨x5, hc4, hf⟩ := um_bi hf
    refine um_cVi (pc := 13) (As := [.int (60 : Int32)]) (rest := []) Cx (c_X9_isSign (60 : Int32) hc4) kV_X9_isSign (Or.inl qM_X9_190) hW hS ms_0 rfl rfl hl rfl (Nat.le_of_ble_eq_true rfl) (by dsimp only; omega) (by dsimp only; omega) dX9_test_13 (Nat.le_refl _) (Nat.le_refl _) ?_
    clear hW hS hc4
    intro H locs hW hS
    obtain ⟨k6, hk6, hf⟩ := um_j1 hf
    have J6 : ∀ (_u : Unit), k6 _u = some (r, σ') → ∀ (H : Heap) (locs : List Loc) (ls : Array Slot), um_W Z msh α σ2 H → va_S (um_D msh α) s.heap H locs → lv_has ls 3 [(0, .ref (α 0)), (1, .int a1)] → um_G p l e (FP + 5) (LP + 112) s m args below meth c Z msh α σ' (some (.int (um_b r))) H locs (F0 m 37 ls []) := by
      intro _u hf H locs ls hW hS hl
      rw [hk6] at hf
      refine lv_aload_n (pc := 37) hx hb dX9_test_37 rfl (lv_at hl 0 rfl) ?_
      refine gF_X9_164 (pc := 38) Cx hW ms_0 rfl dX9_test_38 ?_
      obtain ⟨x7, e8, hf⟩ := um_le hf
      refine um_top e8 ?_
      clear e8
      refine lv_istore_n (pc := 41) (lv' := [(2, .int x7), (0, .ref (α 0)), (1, .int a1)]) hx hb dX9_test_41 rfl hl (by decide) rfl ?_
      clear hl
      intro ls hl
      refine lv_aload_n (pc := 42) hx hb dX9_test_42 rfl (lv_at hl 1 rfl) ?_
      obtain ⟨σ10, hc9, hf⟩ := um_bi hf
      refine um_cVv (pc := 43) (As := []) (rest := []) Cx (c_X9_next hc9) kV_X9_next (Or.inl qM_X9_193) hW hS ms_0 rfl rfl hl rfl (Nat.le_of_ble_eq_true rfl) (by dsimp only; omega) (by dsimp only; omega) dX9_test_43 (Nat.le_refl _) (Nat.le_refl _) ?_
      clear hW hS hc9
      intro H locs hW hS
      refine lv_aload_n (pc := 46) hx hb dX9_test_46 rfl (lv_at hl 1 rfl) ?_
      refine lv_iload_n (pc := 47) hx hb dX9_test_47 rfl (lv_at hl 2 rfl) ?_
      obtain ⟨x13, σ12, hc11, hf⟩ := um_bi2 hf
      refine um_cVi (pc := 48) (As := [.int a1]) (rest := []) Cx (c_X9_sum hP a1 hc11) kV_X9_sum (Or.inl qM_X9_203) hW hS ms_0 rfl rfl hl rfl (Nat.le_of_ble_eq_true rfl) (by dsimp only; omega) (by dsimp only; omega) dX9_test_48 (Nat.le_refl _) (Nat.le_refl _) ?_
      clear hW hS hc11
      intro H locs hW hS
      refine lv_if_ne (pc := 51) (tgt := 56) hx hb dX9_test_51 (by decide) (fun c1 => ?_) (fun c1 => ?_)
      · have hf := um_ie c1 hf
        clear c1
        refine lv_aload_n (pc := 56) hx hb dX9_test_56 rfl (lv_at hl 1 rfl) ?_
        refine lv_iconst (pc := 57) (v := (2 : Int32)) hx hb dX9_test_57 (by decide) ?_
        refine lv_iload_n (pc := 58) hx hb dX9_test_58 rfl (lv_at hl 0 rfl) ?_
        obtain ⟨σ15, hc14, hf⟩ := um_bi hf
        refine um_cVv (pc := 59) (As := [.int (2 : Int32), .int x7]) (rest := []) Cx (c_X9_step (2 : Int32) x7 hc14) kV_X9_step (Or.inl qM_X9_196) hW hS ms_0 rfl rfl hl rfl (Nat.le_of_ble_eq_true rfl) (by dsimp only; omega) (by dsimp only; omega) dX9_test_59 (Nat.le_refl _) (Nat.le_refl _) ?_
        clear hW hS hc14
        intro H locs hW hS
        refine lv_iconst (pc := 62) (v := (1 : Int32)) hx hb dX9_test_62 (by decide) ?_
        exact um_zret (pc := 63) Cx hW hS hf rfl dX9_test_63
      · have hf := um_it c1 hf
        clear c1
        refine lv_iconst (pc := 54) (v := (0 : Int32)) hx hb dX9_test_54 (by decide) ?_
        exact um_zret (pc := 55) Cx hW hS hf rfl dX9_test_55
    refine lv_if_ne (pc := 16) (tgt := 37) hx hb dX9_test_16 (by decide) (fun c1 => ?_) (fun c1 => ?_)
    · have hf := um_ie c1 hf
      clear c1
      exact J6 () hf _ _ _ hW hS hl
    · have hf := um_it c1 hf
      clear c1
      refine lv_aload_n (pc := 19) hx hb dX9_test_19 rfl (lv_at hl 0 rfl) ?_
      refine lv_bipush (pc := 20) (v := (61 : Int32)) hx hb dX9_test_20 (by decide) ?_
      obtain ⟨x17, hc16, hf⟩ := um_bi hf
      refine um_cVi (pc := 22) (As := [.int (61 : Int32)]) (rest := []) Cx (c_X9_isSign (61 : Int32) hc16) kV_X9_isSign (Or.inl qM_X9_190) hW hS ms_0 rfl rfl hl rfl (Nat.le_of_ble_eq_true rfl) (by dsimp only; omega) (by dsimp only; omega) dX9_test_22 (Nat.le_refl _) (Nat.le_refl _) ?_
      clear hW hS hc16
      intro H locs hW hS
      refine lv_if_ne (pc := 25) (tgt := 37) hx hb dX9_test_25 (by decide) (fun c1 => ?_) (fun c1 => ?_)
      · have hf := um_ie c1 hf
        clear c1
        exact J6 () hf _ _ _ hW hS hl
      · have hf := um_it c1 hf
        clear c1
        refine lv_aload_n (pc := 28) hx hb dX9_test_28 rfl (lv_at hl 0 rfl) ?_
        refine lv_bipush (pc := 29) (v := (62 : Int32)) hx hb dX9_test_29 (by decide) ?_
        obtain ⟨x19, hc18, hf⟩ := um_bi hf
        refine um_cVi (pc := 31) (As := [.int (62 : Int32)]) (rest := []) Cx (c_X9_isSign (62 : Int32) hc18) kV_X9_isSign (Or.inl qM_X9_190) hW hS ms_0 rfl rfl hl rfl (Nat.le_of_ble_eq_true rfl) (by dsimp only; omega) (by dsimp only; omega) dX9_test_31 (Nat.le_refl _) (Nat.le_refl _) ?_
        clear hW hS hc18
        intro H locs hW hS
        refine lv_if_eq (pc := 34) (tgt := 62) hx hb dX9_test_34 (by decide) (fun c1 => ?_) (fun c1 => ?_)
        · have hf := um_it c1 hf
          clear c1
          refine lv_iconst (pc := 62) (v := (1 : Int32)) hx hb dX9_test_62 (by decide) ?_
          exact um_zret (pc := 63) Cx hW hS hf rfl dX9_test_63
        · have hf := um_ie c1 hf
          clear c1
          exact J6 () hf _ _ _ hW hS hl
  · have hf := um_it c1 hf
    clear c1
    refine lv_iconst (pc := 8) (v := (0 : Int32)) hx hb dX9_test_8 (by decide) ?_
    exact um_zret (pc := 9) Cx hW hS hf rfl dX9_test_9
theorem c_X9_test {σ : um_S} {σ' : um_S} {r : Bool} {P : Int32 → um_S → Option (Bool × um_S)} {FP LP : Nat} (hP : ∀ (a1 : Int32) (σ : um_S) (r : Bool) (σ' : um_S), P a1 σ = some (r, σ') → um_M l yX9_part0 cX9_part0 2 (some FieldType.boolean) FP LP Z msh α σ [.ref (α 0), .int a1] (some (.int (um_b r))) σ') (a1 : Int32)  (hf : f_X9_test P a1 σ = some (r, σ')) : um_M l yX9_test cX9_test 3 (some FieldType.boolean) (FP + 5) (LP + 112) Z msh α σ [.ref (α 0), .int a1] (some (.int (um_b r))) σ' :=
  um_start (by decide) (Nat.le_of_ble_eq_true rfl) (fun p e s m below meth c ls Cx hW hS hl => b_X9_test hP a1 hf Cx hW hS hl)
noncomputable def f_X9_both_l10 (P : Int32 → um_S → Option (Bool × um_S)) (v1 : Int32) : Nat → um_S → Option ((Bool × um_S) ⊕ (um_S))
  | 0, _ => none
  | n + 1, σ =>
    (f_X9_isSign (38 : Int32) σ).bind fun x2 =>
    (if (um_b x2) = 0 then
    (some (.inr σ))
    else
    ((f_X9_next σ).bind fun σ4 =>
    (um_b2 (f_X9_test P v1 σ4) fun x7 σ6 =>
    (if (um_b x7) = 0 then
    (some (.inl (false, σ6)))
    else
    ((f_X9_step (2 : Int32) (38 : Int32) σ6).bind fun σ9 =>
    (f_X9_both_l10 P v1 n σ9))))))
noncomputable def f_X9_both (P : Int32 → um_S → Option (Bool × um_S)) (a1 : Int32) (σ : um_S) : Option (Bool × um_S) :=
    um_b2 (f_X9_test P a1 σ) fun x3 σ2 =>
    (if (um_b x3) = 0 then
    (some (false, σ2))
    else
    (um_s1 (f_X9_both_l10 P a1 um_N σ2) fun σ4 =>
    (some (true, σ4))))
set_option maxRecDepth 100000 in
set_option maxHeartbeats 4000000 in
theorem t_X9_both_l10 {σ' : um_S} {r : Bool} {out : (Bool × um_S) ⊕ (um_S)}  {P : Int32 → um_S → Option (Bool × um_S)} {FP LP : Nat} (hP : ∀ (a1 : Int32) (σ : um_S) (r : Bool) (σ' : um_S), P a1 σ = some (r, σ') → um_M l yX9_part0 cX9_part0 2 (some FieldType.boolean) FP LP Z msh α σ [.ref (α 0), .int a1] (some (.int (um_b r))) σ')  (v1 : Int32)  (Cx : um_C p s m meth c args cX9_both 2 (some FieldType.boolean) RX9 Z) (hR : ∀ a, out = .inl a → some a = some (r, σ')) (hE : ∀ (σo : um_S), out = .inr σo → ∀ (H : Heap) (locs : List Loc) (ls : Array Slot), um_W Z msh α σo H → va_S (um_D msh α) s.heap H locs → lv_has ls 2 [] → um_G p l e (FP + 6) (LP + 134) s m args below meth c Z msh α σ' (some (.int (um_b r))) H locs (F0 m 43 ls [])) : ∀ (n : Nat) (σ : um_S) (H : Heap) (locs : List Loc) (ls : Array Slot), f_X9_both_l10 P v1 n σ = some out → um_W Z msh α σ H → va_S (um_D msh α) s.heap H locs → lv_has ls 2 [(0, .ref (α 0)), (1, .int v1)] → um_G p l e (FP + 6) (LP + 134) s m args below meth c Z msh α σ' (some (.int (um_b r))) H locs (F0 m 10 ls []) := by
  have hx := Cx.1
  have hb := Cx.2.1
  have hown := Cx.2.2.2.2.1
  have hts := Cx.2.2.2.2.2.1
  intro n
  induction n with
  | zero =>
    intro σ H locs ls hf hW hS hl
    cases hf
  | succ n ih =>
    intro σ H locs ls hf hW hS hl
    rw [f_X9_both_l10] at hf
    refine lv_aload_n (pc := 10) hx hb dX9_both_10 rfl (lv_at hl 0 rfl) ?_
    refine lv_bipush (pc := 11) (v := (38 : Int32)) hx hb dX9_both_11 (by decide) ?_
    obtain ⟨x2, hc1, hf⟩ := um_bi hf
    refine um_cVi (pc := 13) (As := [.int (38 : Int32)]) (rest := []) Cx (c_X9_isSign (38 : Int32) hc1) kV_X9_isSign (Or.inl qM_X9_190) hW hS ms_0 rfl rfl hl rfl (Nat.le_of_ble_eq_true rfl) (by dsimp only; omega) (by dsimp only; omega) dX9_both_13 (Nat.le_refl _) (Nat.le_refl _) ?_
    clear hW hS hc1
    intro H locs hW hS
    refine lv_if_eq (pc := 16) (tgt := 43) hx hb dX9_both_16 (by decide) (fun c1 => ?_) (fun c1 => ?_)
    · have hf := um_it c1 hf
      clear c1
      exact hE _ (Option.some.inj hf).symm _ _ _ hW hS (lv_sub hl [] rfl)
    · have hf := um_ie c1 hf
      clear c1
      refine lv_aload_n (pc := 19) hx hb dX9_both_19 rfl (lv_at hl 0 rfl) ?_
      obtain ⟨σ4, hc3, hf⟩ := um_bi hf
      refine um_cVv (pc := 20) (As := []) (rest := []) Cx (c_X9_next hc3) kV_X9_next (Or.inl qM_X9_193) hW hS ms_0 rfl rfl hl rfl (Nat.le_of_ble_eq_true rfl) (by dsimp only; omega) (by dsimp only; omega) dX9_both_20 (Nat.le_refl _) (Nat.le_refl _) ?_
      clear hW hS hc3
      intro H locs hW hS
      refine lv_aload_n (pc := 23) hx hb dX9_both_23 rfl (lv_at hl 0 rfl) ?_
      refine lv_iload_n (pc := 24) hx hb dX9_both_24 rfl (lv_at hl 1 rfl) ?_
      obtain ⟨x7, σ6, hc5, hf⟩ := um_bi2 hf
      refine um_cVi (pc := 25) (As := [.int v1]) (rest := []) Cx (c_X9_test hP v1 hc5) kV_X9_test (Or.inl qM_X9_200) hW hS ms_0 rfl rfl hl rfl (Nat.le_of_ble_eq_true rfl) (by dsimp only; omega) (by dsimp only; omega) dX9_both_25 (Nat.le_refl _) (Nat.le_refl _) ?_
      clear hW hS hc5
      intro H locs hW hS
      refine lv_if_ne (pc := 28) (tgt := 33) hx hb dX9_both_28 (by decide) (fun c1 => ?_) (fun c1 => ?_)
      · have hf := um_ie c1 hf
        clear c1
        refine lv_aload_n (pc := 33) hx hb dX9_both_33 rfl (lv_at hl 0 rfl) ?_
        refine lv_iconst (pc := 34) (v := (2 : Int32)) hx hb dX9_both_34 (by decide) ?_
        refine lv_bipush (pc := 35) (v := (38 : Int32)) hx hb dX9_both_35 (by decide) ?_
        obtain ⟨σ9, hc8, hf⟩ := um_bi hf
        refine um_cVv (pc := 37) (As := [.int (2 : Int32), .int (38 : Int32)]) (rest := []) Cx (c_X9_step (2 : Int32) (38 : Int32) hc8) kV_X9_step (Or.inl qM_X9_196) hW hS ms_0 rfl rfl hl rfl (Nat.le_of_ble_eq_true rfl) (by dsimp only; omega) (by dsimp only; omega) dX9_both_37 (Nat.le_refl _) (Nat.le_refl _) ?_
        clear hW hS hc8
        intro H locs hW hS
        refine lv_goto (pc := 40) (tgt := 10) hx hb dX9_both_40 (by decide) ?_
        exact ih _ _ _ _ hf hW hS hl
      · have hf := um_it c1 hf
        clear c1
        refine lv_iconst (pc := 31) (v := (0 : Int32)) hx hb dX9_both_31 (by decide) ?_
        exact um_zret (pc := 32) Cx hW hS (hR _ (Option.some.inj hf).symm) rfl dX9_both_32
set_option maxRecDepth 100000 in
set_option maxHeartbeats 4000000 in
theorem b_X9_both {H : Heap} {locs : List Loc} {ls : Array Slot} {σ : um_S} {σ' : um_S} {r : Bool} {P : Int32 → um_S → Option (Bool × um_S)} {FP LP : Nat} (hP : ∀ (a1 : Int32) (σ : um_S) (r : Bool) (σ' : um_S), P a1 σ = some (r, σ') → um_M l yX9_part0 cX9_part0 2 (some FieldType.boolean) FP LP Z msh α σ [.ref (α 0), .int a1] (some (.int (um_b r))) σ') (a1 : Int32)  (hf : f_X9_both P a1 σ = some (r, σ')) (Cx : um_C p s m meth c args cX9_both 2 (some FieldType.boolean) RX9 Z) (hW : um_W Z msh α σ H) (hS : va_S (um_D msh α) s.heap H locs) (hl : lv_has ls 2 [(0, .ref (α 0)), (1, .int a1)]) : um_G p l e (FP + 6) (LP + 134) s m args below meth c Z msh α σ' (some (.int (um_b r))) H locs (F0 m 0 ls []) := by
  have hx := Cx.1
  have hb := Cx.2.1
  have hown := Cx.2.2.2.2.1
  have hts := Cx.2.2.2.2.2.1
  rw [f_X9_both] at hf
  refine lv_aload_n (pc := 0) hx hb dX9_both_0 rfl (lv_at hl 0 rfl) ?_
  refine lv_iload_n (pc := 1) hx hb dX9_both_1 rfl (lv_at hl 1 rfl) ?_
  obtain ⟨x3, σ2, hc1, hf⟩ := um_bi2 hf
  refine um_cVi (pc := 2) (As := [.int a1]) (rest := []) Cx (c_X9_test hP a1 hc1) kV_X9_test (Or.inl qM_X9_200) hW hS ms_0 rfl rfl hl rfl (Nat.le_of_ble_eq_true rfl) (by dsimp only; omega) (by dsimp only; omega) dX9_both_2 (Nat.le_refl _) (Nat.le_refl _) ?_
  clear hW hS hc1
  intro H locs hW hS
  refine lv_if_ne (pc := 5) (tgt := 10) hx hb dX9_both_5 (by decide) (fun c1 => ?_) (fun c1 => ?_)
  · have hf := um_ie c1 hf
    clear c1
    obtain ⟨q6, hc5, hr7, hg8⟩ := um_si1 hf
    refine t_X9_both_l10 hP a1 Cx hr7 ?_ um_N _ _ _ _ hc5 hW hS hl
    clear hW hS hl hc5
    intro σ4 hq9 H locs ls hW hS hl
    have hf := hg8 _ hq9
    refine lv_iconst (pc := 43) (v := (1 : Int32)) hx hb dX9_both_43 (by decide) ?_
    exact um_zret (pc := 44) Cx hW hS hf rfl dX9_both_44
  · have hf := um_it c1 hf
    clear c1
    refine lv_iconst (pc := 8) (v := (0 : Int32)) hx hb dX9_both_8 (by decide) ?_
    exact um_zret (pc := 9) Cx hW hS hf rfl dX9_both_9
theorem c_X9_both {σ : um_S} {σ' : um_S} {r : Bool} {P : Int32 → um_S → Option (Bool × um_S)} {FP LP : Nat} (hP : ∀ (a1 : Int32) (σ : um_S) (r : Bool) (σ' : um_S), P a1 σ = some (r, σ') → um_M l yX9_part0 cX9_part0 2 (some FieldType.boolean) FP LP Z msh α σ [.ref (α 0), .int a1] (some (.int (um_b r))) σ') (a1 : Int32)  (hf : f_X9_both P a1 σ = some (r, σ')) : um_M l yX9_both cX9_both 2 (some FieldType.boolean) (FP + 6) (LP + 134) Z msh α σ [.ref (α 0), .int a1] (some (.int (um_b r))) σ' :=
  um_start (by decide) (Nat.le_of_ble_eq_true rfl) (fun p e s m below meth c ls Cx hW hS hl => b_X9_both hP a1 hf Cx hW hS hl)
noncomputable def f_X9_either_l10 (P : Int32 → um_S → Option (Bool × um_S)) (v1 : Int32) : Nat → um_S → Option ((Bool × um_S) ⊕ (um_S))
  | 0, _ => none
  | n + 1, σ =>
    (f_X9_isSign (124 : Int32) σ).bind fun x2 =>
    (if (um_b x2) = 0 then
    (some (.inr σ))
    else
    ((f_X9_next σ).bind fun σ4 =>
    (um_b2 (f_X9_both P v1 σ4) fun x7 σ6 =>
    (if (um_b x7) = 0 then
    (some (.inl (false, σ6)))
    else
    ((f_X9_step (2 : Int32) (124 : Int32) σ6).bind fun σ9 =>
    (f_X9_either_l10 P v1 n σ9))))))
noncomputable def f_X9_either (P : Int32 → um_S → Option (Bool × um_S)) (a1 : Int32) (σ : um_S) : Option (Bool × um_S) :=
    um_b2 (f_X9_both P a1 σ) fun x3 σ2 =>
    (if (um_b x3) = 0 then
    (some (false, σ2))
    else
    (um_s1 (f_X9_either_l10 P a1 um_N σ2) fun σ4 =>
    (some (true, σ4))))
set_option maxRecDepth 100000 in
set_option maxHeartbeats 4000000 in
theorem t_X9_either_l10 {σ' : um_S} {r : Bool} {out : (Bool × um_S) ⊕ (um_S)}  {P : Int32 → um_S → Option (Bool × um_S)} {FP LP : Nat} (hP : ∀ (a1 : Int32) (σ : um_S) (r : Bool) (σ' : um_S), P a1 σ = some (r, σ') → um_M l yX9_part0 cX9_part0 2 (some FieldType.boolean) FP LP Z msh α σ [.ref (α 0), .int a1] (some (.int (um_b r))) σ')  (v1 : Int32)  (Cx : um_C p s m meth c args cX9_either 2 (some FieldType.boolean) RX9 Z) (hR : ∀ a, out = .inl a → some a = some (r, σ')) (hE : ∀ (σo : um_S), out = .inr σo → ∀ (H : Heap) (locs : List Loc) (ls : Array Slot), um_W Z msh α σo H → va_S (um_D msh α) s.heap H locs → lv_has ls 2 [] → um_G p l e (FP + 7) (LP + 155) s m args below meth c Z msh α σ' (some (.int (um_b r))) H locs (F0 m 43 ls [])) : ∀ (n : Nat) (σ : um_S) (H : Heap) (locs : List Loc) (ls : Array Slot), f_X9_either_l10 P v1 n σ = some out → um_W Z msh α σ H → va_S (um_D msh α) s.heap H locs → lv_has ls 2 [(0, .ref (α 0)), (1, .int v1)] → um_G p l e (FP + 7) (LP + 155) s m args below meth c Z msh α σ' (some (.int (um_b r))) H locs (F0 m 10 ls []) := by
  have hx := Cx.1
  have hb := Cx.2.1
  have hown := Cx.2.2.2.2.1
  have hts := Cx.2.2.2.2.2.1
  intro n
  induction n with
  | zero =>
    intro σ H locs ls hf hW hS hl
    cases hf
  | succ n ih =>
    intro σ H locs ls hf hW hS hl
    rw [f_X9_either_l10] at hf
    refine lv_aload_n (pc := 10) hx hb dX9_either_10 rfl (lv_at hl 0 rfl) ?_
    refine lv_bipush (pc := 11) (v := (124 : Int32)) hx hb dX9_either_11 (by decide) ?_
    obtain ⟨x2, hc1, hf⟩ := um_bi hf
    refine um_cVi (pc := 13) (As := [.int (124 : Int32)]) (rest := []) Cx (c_X9_isSign (124 : Int32) hc1) kV_X9_isSign (Or.inl qM_X9_190) hW hS ms_0 rfl rfl hl rfl (Nat.le_of_ble_eq_true rfl) (by dsimp only; omega) (by dsimp only; omega) dX9_either_13 (Nat.le_refl _) (Nat.le_refl _) ?_
    clear hW hS hc1
    intro H locs hW hS
    refine lv_if_eq (pc := 16) (tgt := 43) hx hb dX9_either_16 (by decide) (fun c1 => ?_) (fun c1 => ?_)
    · have hf := um_it c1 hf
      clear c1
      exact hE _ (Option.some.inj hf).symm _ _ _ hW hS (lv_sub hl [] rfl)
    · have hf := um_ie c1 hf
      clear c1
      refine lv_aload_n (pc := 19) hx hb dX9_either_19 rfl (lv_at hl 0 rfl) ?_
      obtain ⟨σ4, hc3, hf⟩ := um_bi hf
      refine um_cVv (pc := 20) (As := []) (rest := []) Cx (c_X9_next hc3) kV_X9_next (Or.inl qM_X9_193) hW hS ms_0 rfl rfl hl rfl (Nat.le_of_ble_eq_true rfl) (by dsimp only; omega) (by dsimp only; omega) dX9_either_20 (Nat.le_refl _) (Nat.le_refl _) ?_
      clear hW hS hc3
      intro H locs hW hS
      refine lv_aload_n (pc := 23) hx hb dX9_either_23 rfl (lv_at hl 0 rfl) ?_
      refine lv_iload_n (pc := 24) hx hb dX9_either_24 rfl (lv_at hl 1 rfl) ?_
      obtain ⟨x7, σ6, hc5, hf⟩ := um_bi2 hf
      refine um_cVi (pc := 25) (As := [.int v1]) (rest := []) Cx (c_X9_both hP v1 hc5) kV_X9_both (Or.inl qM_X9_187) hW hS ms_0 rfl rfl hl rfl (Nat.le_of_ble_eq_true rfl) (by dsimp only; omega) (by dsimp only; omega) dX9_either_25 (Nat.le_refl _) (Nat.le_refl _) ?_
      clear hW hS hc5
      intro H locs hW hS
      refine lv_if_ne (pc := 28) (tgt := 33) hx hb dX9_either_28 (by decide) (fun c1 => ?_) (fun c1 => ?_)
      · have hf := um_ie c1 hf
        clear c1
        refine lv_aload_n (pc := 33) hx hb dX9_either_33 rfl (lv_at hl 0 rfl) ?_
        refine lv_iconst (pc := 34) (v := (2 : Int32)) hx hb dX9_either_34 (by decide) ?_
        refine lv_bipush (pc := 35) (v := (124 : Int32)) hx hb dX9_either_35 (by decide) ?_
        obtain ⟨σ9, hc8, hf⟩ := um_bi hf
        refine um_cVv (pc := 37) (As := [.int (2 : Int32), .int (124 : Int32)]) (rest := []) Cx (c_X9_step (2 : Int32) (124 : Int32) hc8) kV_X9_step (Or.inl qM_X9_196) hW hS ms_0 rfl rfl hl rfl (Nat.le_of_ble_eq_true rfl) (by dsimp only; omega) (by dsimp only; omega) dX9_either_37 (Nat.le_refl _) (Nat.le_refl _) ?_
        clear hW hS hc8
        intro H locs hW hS
        refine lv_goto (pc := 40) (tgt := 10) hx hb dX9_either_40 (by decide) ?_
        exact ih _ _ _ _ hf hW hS hl
      · have hf := um_it c1 hf
        clear c1
        refine lv_iconst (pc := 31) (v := (0 : Int32)) hx hb dX9_either_31 (by decide) ?_
        exact um_zret (pc := 32) Cx hW hS (hR _ (Option.some.inj hf).symm) rfl dX9_either_32
set_option maxRecDepth 100000 in
set_option maxHeartbeats 4000000 in
theorem b_X9_either {H : Heap} {locs : List Loc} {ls : Array Slot} {σ : um_S} {σ' : um_S} {r : Bool} {P : Int32 → um_S → Option (Bool × um_S)} {FP LP : Nat} (hP : ∀ (a1 : Int32) (σ : um_S) (r : Bool) (σ' : um_S), P a1 σ = some (r, σ') → um_M l yX9_part0 cX9_part0 2 (some FieldType.boolean) FP LP Z msh α σ [.ref (α 0), .int a1] (some (.int (um_b r))) σ') (a1 : Int32)  (hf : f_X9_either P a1 σ = some (r, σ')) (Cx : um_C p s m meth c args cX9_either 2 (some FieldType.boolean) RX9 Z) (hW : um_W Z msh α σ H) (hS : va_S (um_D msh α) s.heap H locs) (hl : lv_has ls 2 [(0, .ref (α 0)), (1, .int a1)]) : um_G p l e (FP + 7) (LP + 155) s m args below meth c Z msh α σ' (some (.int (um_b r))) H locs (F0 m 0 ls []) := by
  have hx := Cx.1
  have hb := Cx.2.1
  have hown := Cx.2.2.2.2.1
  have hts := Cx.2.2.2.2.2.1
  rw [f_X9_either] at hf
  refine lv_aload_n (pc := 0) hx hb dX9_either_0 rfl (lv_at hl 0 rfl) ?_
  refine lv_iload_n (pc := 1) hx hb dX9_either_1 rfl (lv_at hl 1 rfl) ?_
  obtain ⟨x3, σ2, hc1, hf⟩ := um_bi2 hf
  refine um_cVi (pc := 2) (As := [.int a1]) (rest := []) Cx (c_X9_both hP a1 hc1) kV_X9_both (Or.inl qM_X9_187) hW hS ms_0 rfl rfl hl rfl (Nat.le_of_ble_eq_true rfl) (by dsimp only; omega) (by dsimp only; omega) dX9_either_2 (Nat.le_refl _) (Nat.le_refl _) ?_
  clear hW hS hc1
  intro H locs hW hS
  refine lv_if_ne (pc := 5) (tgt := 10) hx hb dX9_either_5 (by decide) (fun c1 => ?_) (fun c1 => ?_)
  · have hf := um_ie c1 hf
    clear c1
    obtain ⟨q6, hc5, hr7, hg8⟩ := um_si1 hf
    refine t_X9_either_l10 hP a1 Cx hr7 ?_ um_N _ _ _ _ hc5 hW hS hl
    clear hW hS hl hc5
    intro σ4 hq9 H locs ls hW hS hl
    have hf := hg8 _ hq9
    refine lv_iconst (pc := 43) (v := (1 : Int32)) hx hb dX9_either_43 (by decide) ?_
    exact um_zret (pc := 44) Cx hW hS hf rfl dX9_either_44
  · have hf := um_it c1 hf
    clear c1
    refine lv_iconst (pc := 8) (v := (0 : Int32)) hx hb dX9_either_8 (by decide) ?_
    exact um_zret (pc := 9) Cx hW hS hf rfl dX9_either_9
theorem c_X9_either {σ : um_S} {σ' : um_S} {r : Bool} {P : Int32 → um_S → Option (Bool × um_S)} {FP LP : Nat} (hP : ∀ (a1 : Int32) (σ : um_S) (r : Bool) (σ' : um_S), P a1 σ = some (r, σ') → um_M l yX9_part0 cX9_part0 2 (some FieldType.boolean) FP LP Z msh α σ [.ref (α 0), .int a1] (some (.int (um_b r))) σ') (a1 : Int32)  (hf : f_X9_either P a1 σ = some (r, σ')) : um_M l yX9_either cX9_either 2 (some FieldType.boolean) (FP + 7) (LP + 155) Z msh α σ [.ref (α 0), .int a1] (some (.int (um_b r))) σ' :=
  um_start (by decide) (Nat.le_of_ble_eq_true rfl) (fun p e s m below meth c ls Cx hW hS hl => b_X9_either hP a1 hf Cx hW hS hl)
