variable {p : Program} {l : Launch} {e : Env} {s : State} {m : MethodId} {args : Array Value} {below : List Frame} {meth : Method} {c : Code} {Z : um_Z} {α : Nat → Nat} {sh : Nat → Option um_Sh}
noncomputable def f_X9_isIn (a0 : Int64) (a2 : Int64) (a4 : Int64) (σ : um_S) : Option (Bool) :=
if (lg_cmp a0 a2) < 0 then
(some false)
else
(if 0 < (lg_cmp a0 a4) then
(some false)
else
(some true))
set_option maxRecDepth 100000 in
set_option maxHeartbeats 4000000 in
theorem b_X9_isIn {H : Heap} {locs : List Loc} {ls : Array Slot} {σ : um_S} {r : Bool} (a0 : Int64) (a2 : Int64) (a4 : Int64)  (hf : f_X9_isIn a0 a2 a4 σ = some r) (Cx : um_C p s m meth c args cX9_isIn 6 (some FieldType.boolean) RX9 Z) (hW : um_W Z msh α σ H) (hS : va_S (um_D msh α) s.heap H locs) (hl : lv_has ls 6 [(0, .long a0), (2, .long a2), (4, .long a4)]) : um_G p l e (0) (0) s m args below meth c Z msh α σ (some (.int (um_b r))) H locs (F0 m 0 ls []) := by
  have hx := Cx.1
  have hb := Cx.2.1
  have hown := Cx.2.2.2.2.1
  have hts := Cx.2.2.2.2.2.1
  rw [f_X9_isIn] at hf
  refine lv_lload_n (pc := 0) hx hb dX9_isIn_0 rfl (lv_at hl 0 rfl) ?_
  refine lv_lload_n (pc := 1) hx hb dX9_isIn_1 rfl (lv_at hl 1 rfl) ?_
  refine W.lcmp (pc := 2) hx hb dX9_isIn_2 ?_
  refine lv_if_lt (pc := 3) (tgt := 17) hx hb dX9_isIn_3 (by decide) (fun c1 => ?_) (fun c1 => ?_)
  · have hf := um_it c1 hf
    clear c1
    refine lv_iconst (pc := 17) (v := (0 : Int32)) hx hb dX9_isIn_17 (by decide) ?_
    exact um_zretR (pc := 18) Cx hW hS hf rfl dX9_isIn_18
  · have hf := um_ie c1 hf
    clear c1
    refine lv_lload_n (pc := 6) hx hb dX9_isIn_6 rfl (lv_at hl 0 rfl) ?_
    refine lv_lload (pc := 7) hx hb dX9_isIn_7 (lv_at hl 2 rfl) ?_
    refine W.lcmp (pc := 9) hx hb dX9_isIn_9 ?_
    refine lv_if_gt (pc := 10) (tgt := 17) hx hb dX9_isIn_10 (by decide) (fun c1 => ?_) (fun c1 => ?_)
    · have hf := um_it c1 hf
      clear c1
      refine lv_iconst (pc := 17) (v := (0 : Int32)) hx hb dX9_isIn_17 (by decide) ?_
      exact um_zretR (pc := 18) Cx hW hS hf rfl dX9_isIn_18
    · have hf := um_ie c1 hf
      clear c1
      refine lv_iconst (pc := 13) (v := (1 : Int32)) hx hb dX9_isIn_13 (by decide) ?_
      refine lv_goto (pc := 14) (tgt := 18) hx hb dX9_isIn_14 (by decide) ?_
      exact um_zretR (pc := 18) Cx hW hS hf rfl dX9_isIn_18
theorem c_X9_isIn {σ : um_S} {r : Bool} (a0 : Int64) (a2 : Int64) (a4 : Int64)  (hf : f_X9_isIn a0 a2 a4 σ = some r) : um_M l yX9_isIn cX9_isIn 6 (some FieldType.boolean) (0) (0) Z msh α σ [.long a0, .long a2, .long a4] (some (.int (um_b r))) σ :=
  um_start (by decide) (Nat.le_of_ble_eq_true rfl) (fun p e s m below meth c ls Cx hW hS hl => b_X9_isIn a0 a2 a4 hf Cx hW hS hl)
noncomputable def f_X9_isDigit (a1 : Int32) (σ : um_S) : Option (Bool) :=
if (σ.1 0 8) ≤ a1 then
(some false)
else
(if um_ix a1 96 then
((f_X9_isIn ((σ.1 7 a1.toNatClampNeg).toInt64) (48 : Int64) (57 : Int64) σ).bind fun x3 =>
(if (um_b x3) = 0 then
(some false)
else
(some true))) else none)
set_option maxRecDepth 100000 in
set_option maxHeartbeats 4000000 in
theorem b_X9_isDigit {H : Heap} {locs : List Loc} {ls : Array Slot} {σ : um_S} {r : Bool} (a1 : Int32)  (hf : f_X9_isDigit a1 σ = some r) (Cx : um_C p s m meth c args cX9_isDigit 2 (some FieldType.boolean) RX9 Z) (hW : um_W Z msh α σ H) (hS : va_S (um_D msh α) s.heap H locs) (hl : lv_has ls 2 [(0, .ref (α 0)), (1, .int a1)]) : um_G p l e (1) (25) s m args below meth c Z msh α σ (some (.int (um_b r))) H locs (F0 m 0 ls []) := by
  have hx := Cx.1
  have hb := Cx.2.1
  have hown := Cx.2.2.2.2.1
  have hts := Cx.2.2.2.2.2.1
  rw [f_X9_isDigit] at hf
  refine lv_iload_n (pc := 0) hx hb dX9_isDigit_0 rfl (lv_at hl 1 rfl) ?_
  refine lv_aload_n (pc := 1) hx hb dX9_isDigit_1 rfl (lv_at hl 0 rfl) ?_
  refine gF_X9_140 (pc := 2) Cx hW ms_0 rfl dX9_isDigit_2 ?_
  refine lv_icmp_ge (pc := 5) (tgt := 31) hx hb dX9_isDigit_5 (by decide) (fun c1 => ?_) (fun c1 => ?_)
  · have hf := um_it c1 hf
    clear c1
    refine lv_iconst (pc := 31) (v := (0 : Int32)) hx hb dX9_isDigit_31 (by decide) ?_
    exact um_zretR (pc := 32) Cx hW hS hf rfl dX9_isDigit_32
  · have hf := um_ie c1 hf
    clear c1
    refine lv_aload_n (pc := 8) hx hb dX9_isDigit_8 rfl (lv_at hl 0 rfl) ?_
    refine gF_X9_28 (pc := 9) Cx hW ms_0 rfl dX9_isDigit_9 ?_
    refine lv_iload_n (pc := 12) hx hb dX9_isDigit_12 rfl (lv_at hl 1 rfl) ?_
    obtain ⟨g1, hf⟩ := um_gu hf
    refine um_iald (pc := 13) Cx hW ms_7 rfl (um_ix_in g1) dX9_isDigit_13 ?_
    refine lv_i2l (pc := 14) hx hb dX9_isDigit_14 rfl ?_
    refine lv_ldc2 (pc := 15) hx hb hown (hts _ qL_X9_148) dX9_isDigit_15 ?_
    refine lv_ldc2 (pc := 18) hx hb hown (hts _ qL_X9_150) dX9_isDigit_18 ?_
    obtain ⟨x3, hc2, hf⟩ := um_bi hf
    refine um_cSi (pc := 21) (As := [.long ((σ.1 7 a1.toNatClampNeg).toInt64), .long (48 : Int64), .long (57 : Int64)]) (rest := []) Cx (c_X9_isIn ((σ.1 7 a1.toNatClampNeg).toInt64) (48 : Int64) (57 : Int64) hc2) kS_X9_isIn (Or.inl qM_X9_60) hW hS rfl hl rfl (Nat.le_of_ble_eq_true rfl) (Nat.le_of_ble_eq_true rfl) (Nat.le_of_ble_eq_true rfl) dX9_isDigit_21 (Nat.le_refl _) (Nat.le_refl _) ?_
    clear hW hS hc2
    intro H locs hW hS
    refine lv_if_eq (pc := 24) (tgt := 31) hx hb dX9_isDigit_24 (by decide) (fun c1 => ?_) (fun c1 => ?_)
    · have hf := um_it c1 hf
      clear c1
      refine lv_iconst (pc := 31) (v := (0 : Int32)) hx hb dX9_isDigit_31 (by decide) ?_
      exact um_zretR (pc := 32) Cx hW hS hf rfl dX9_isDigit_32
    · have hf := um_ie c1 hf
      clear c1
      refine lv_iconst (pc := 27) (v := (1 : Int32)) hx hb dX9_isDigit_27 (by decide) ?_
      refine lv_goto (pc := 28) (tgt := 32) hx hb dX9_isDigit_28 (by decide) ?_
      exact um_zretR (pc := 32) Cx hW hS hf rfl dX9_isDigit_32
theorem c_X9_isDigit {σ : um_S} {r : Bool} (a1 : Int32)  (hf : f_X9_isDigit a1 σ = some r) : um_M l yX9_isDigit cX9_isDigit 2 (some FieldType.boolean) (1) (25) Z msh α σ [.ref (α 0), .int a1] (some (.int (um_b r))) σ :=
  um_start (by decide) (Nat.le_of_ble_eq_true rfl) (fun p e s m below meth c ls Cx hW hS hl => b_X9_isDigit a1 hf Cx hW hS hl)
noncomputable def f_X9_isLetter (a1 : Int32) (σ : um_S) : Option (Bool) :=
if (σ.1 0 8) ≤ a1 then
(some false)
else
(if um_ix a1 96 then
((f_X9_isIn ((σ.1 7 a1.toNatClampNeg).toInt64) (97 : Int64) (122 : Int64) σ).bind fun x3 =>
(if (um_b x3) = 0 then
(some false)
else
(some true))) else none)
set_option maxRecDepth 100000 in
set_option maxHeartbeats 4000000 in
theorem b_X9_isLetter {H : Heap} {locs : List Loc} {ls : Array Slot} {σ : um_S} {r : Bool} (a1 : Int32)  (hf : f_X9_isLetter a1 σ = some r) (Cx : um_C p s m meth c args cX9_isLetter 2 (some FieldType.boolean) RX9 Z) (hW : um_W Z msh α σ H) (hS : va_S (um_D msh α) s.heap H locs) (hl : lv_has ls 2 [(0, .ref (α 0)), (1, .int a1)]) : um_G p l e (1) (25) s m args below meth c Z msh α σ (some (.int (um_b r))) H locs (F0 m 0 ls []) := by
  have hx := Cx.1
  have hb := Cx.2.1
  have hown := Cx.2.2.2.2.1
  have hts := Cx.2.2.2.2.2.1
  rw [f_X9_isLetter] at hf
  refine lv_iload_n (pc := 0) hx hb dX9_isLetter_0 rfl (lv_at hl 1 rfl) ?_
  refine lv_aload_n (pc := 1) hx hb dX9_isLetter_1 rfl (lv_at hl 0 rfl) ?_
  refine gF_X9_140 (pc := 2) Cx hW ms_0 rfl dX9_isLetter_2 ?_
  refine lv_icmp_ge (pc := 5) (tgt := 31) hx hb dX9_isLetter_5 (by decide) (fun c1 => ?_) (fun c1 => ?_)
  · have hf := um_it c1 hf
    clear c1
    refine lv_iconst (pc := 31) (v := (0 : Int32)) hx hb dX9_isLetter_31 (by decide) ?_
    exact um_zretR (pc := 32) Cx hW hS hf rfl dX9_isLetter_32
  · have hf := um_ie c1 hf
    clear c1
    refine lv_aload_n (pc := 8) hx hb dX9_isLetter_8 rfl (lv_at hl 0 rfl) ?_
    refine gF_X9_28 (pc := 9) Cx hW ms_0 rfl dX9_isLetter_9 ?_
    refine lv_iload_n (pc := 12) hx hb dX9_isLetter_12 rfl (lv_at hl 1 rfl) ?_
    obtain ⟨g1, hf⟩ := um_gu hf
    refine um_iald (pc := 13) Cx hW ms_7 rfl (um_ix_in g1) dX9_isLetter_13 ?_
    refine lv_i2l (pc := 14) hx hb dX9_isLetter_14 rfl ?_
    refine lv_ldc2 (pc := 15) hx hb hown (hts _ qL_X9_144) dX9_isLetter_15 ?_
    refine lv_ldc2 (pc := 18) hx hb hown (hts _ qL_X9_146) dX9_isLetter_18 ?_
    obtain ⟨x3, hc2, hf⟩ := um_bi hf
    refine um_cSi (pc := 21) (As := [.long ((σ.1 7 a1.toNatClampNeg).toInt64), .long (97 : Int64), .long (122 : Int64)]) (rest := []) Cx (c_X9_isIn ((σ.1 7 a1.toNatClampNeg).toInt64) (97 : Int64) (122 : Int64) hc2) kS_X9_isIn (Or.inl qM_X9_60) hW hS rfl hl rfl (Nat.le_of_ble_eq_true rfl) (Nat.le_of_ble_eq_true rfl) (Nat.le_of_ble_eq_true rfl) dX9_isLetter_21 (Nat.le_refl _) (Nat.le_refl _) ?_
    clear hW hS hc2
    intro H locs hW hS
    refine lv_if_eq (pc := 24) (tgt := 31) hx hb dX9_isLetter_24 (by decide) (fun c1 => ?_) (fun c1 => ?_)
    · have hf := um_it c1 hf
      clear c1
      refine lv_iconst (pc := 31) (v := (0 : Int32)) hx hb dX9_isLetter_31 (by decide) ?_
      exact um_zretR (pc := 32) Cx hW hS hf rfl dX9_isLetter_32
    · have hf := um_ie c1 hf
      clear c1
      refine lv_iconst (pc := 27) (v := (1 : Int32)) hx hb dX9_isLetter_27 (by decide) ?_
      refine lv_goto (pc := 28) (tgt := 32) hx hb dX9_isLetter_28 (by decide) ?_
      exact um_zretR (pc := 32) Cx hW hS hf rfl dX9_isLetter_32
theorem c_X9_isLetter {σ : um_S} {r : Bool} (a1 : Int32)  (hf : f_X9_isLetter a1 σ = some r) : um_M l yX9_isLetter cX9_isLetter 2 (some FieldType.boolean) (1) (25) Z msh α σ [.ref (α 0), .int a1] (some (.int (um_b r))) σ :=
  um_start (by decide) (Nat.le_of_ble_eq_true rfl) (fun p e s m below meth c ls Cx hW hS hl => b_X9_isLetter a1 hf Cx hW hS hl)
noncomputable def f_X9_isName (a0 : Int32) (a1 : Int32) (σ : um_S) : Option (Bool) :=
um_let (fun (_u : Unit) =>
(if a1 = (119 : Int32) then
(some true)
else
(if a1 = (109 : Int32) then
(some true)
else
(if a1 = (116 : Int32) then
(some true)
else
(some false))))) fun k1 =>
(if a0 = (0 : Int32) then
(k1 ())
else
(if a0 = (1 : Int32) then
(k1 ())
else
(if a0 = (2 : Int32) then
(if a1 = (111 : Int32) then
(some true)
else
(if a1 = (109 : Int32) then
(some true)
else
(some false)))
else
(if a0 = (3 : Int32) then
(if a1 = (107 : Int32) then
(some true)
else
(if a1 = (109 : Int32) then
(some true)
else
(if a1 = (112 : Int32) then
(some true)
else
(some false))))
else
(if a1 = (101 : Int32) then
(some true)
else
(if a1 = (100 : Int32) then
(some true)
else
(some false)))))))
set_option maxRecDepth 100000 in
set_option maxHeartbeats 4000000 in
theorem b_X9_isName {H : Heap} {locs : List Loc} {ls : Array Slot} {σ : um_S} {r : Bool} (a0 : Int32) (a1 : Int32)  (hf : f_X9_isName a0 a1 σ = some r) (Cx : um_C p s m meth c args cX9_isName 2 (some FieldType.boolean) RX9 Z) (hW : um_W Z msh α σ H) (hS : va_S (um_D msh α) s.heap H locs) (hl : lv_has ls 2 [(0, .int a0), (1, .int a1)]) : um_G p l e (0) (0) s m args below meth c Z msh α σ (some (.int (um_b r))) H locs (F0 m 0 ls []) := by
  have hx := Cx.1
  have hb := Cx.2.1
  have hown := Cx.2.2.2.2.1
  have hts := Cx.2.2.2.2.2.1
  rw [f_X9_isName] at hf
  refine lv_iload_n (pc := 0) hx hb dX9_isName_0 rfl (lv_at hl 0 rfl) ?_
  obtain ⟨k1, hk1, hf⟩ := um_j1 hf
  have J1 : ∀ (_u : Unit), k1 _u = some r → ∀ (H : Heap) (locs : List Loc) (ls : Array Slot), um_W Z msh α σ H → va_S (um_D msh α) s.heap H locs → lv_has ls 2 [(1, .int a1)] → um_G p l e (0) (0) s m args below meth c Z msh α σ (some (.int (um_b r))) H locs (F0 m 32 ls []) := by
    intro _u hf H locs ls hW hS hl
    rw [hk1] at hf
    refine lv_iload_n (pc := 32) hx hb dX9_isName_32 rfl (lv_at hl 0 rfl) ?_
    refine lv_bipush (pc := 33) (v := (119 : Int32)) hx hb dX9_isName_33 (by decide) ?_
    refine lv_icmp_eq (pc := 35) (tgt := 50) hx hb dX9_isName_35 (by decide) (fun c1 => ?_) (fun c1 => ?_)
    · have hf := um_it c1 hf
      clear c1
      refine lv_iconst (pc := 50) (v := (1 : Int32)) hx hb dX9_isName_50 (by decide) ?_
      refine lv_goto (pc := 51) (tgt := 55) hx hb dX9_isName_51 (by decide) ?_
      exact um_zretR (pc := 55) Cx hW hS hf rfl dX9_isName_55
    · have hf := um_ie c1 hf
      clear c1
      refine lv_iload_n (pc := 38) hx hb dX9_isName_38 rfl (lv_at hl 0 rfl) ?_
      refine lv_bipush (pc := 39) (v := (109 : Int32)) hx hb dX9_isName_39 (by decide) ?_
      refine lv_icmp_eq (pc := 41) (tgt := 50) hx hb dX9_isName_41 (by decide) (fun c1 => ?_) (fun c1 => ?_)
      · have hf := um_it c1 hf
        clear c1
        refine lv_iconst (pc := 50) (v := (1 : Int32)) hx hb dX9_isName_50 (by decide) ?_
        refine lv_goto (pc := 51) (tgt := 55) hx hb dX9_isName_51 (by decide) ?_
        exact um_zretR (pc := 55) Cx hW hS hf rfl dX9_isName_55
      · have hf := um_ie c1 hf
        clear c1
        refine lv_iload_n (pc := 44) hx hb dX9_isName_44 rfl (lv_at hl 0 rfl) ?_
        refine lv_bipush (pc := 45) (v := (116 : Int32)) hx hb dX9_isName_45 (by decide) ?_
        refine lv_icmp_ne (pc := 47) (tgt := 54) hx hb dX9_isName_47 (by decide) (fun c1 => ?_) (fun c1 => ?_)
        · have hf := um_ie c1 hf
          clear c1
          refine lv_iconst (pc := 54) (v := (0 : Int32)) hx hb dX9_isName_54 (by decide) ?_
          exact um_zretR (pc := 55) Cx hW hS hf rfl dX9_isName_55
        · have hf := um_it c1 hf
          clear c1
          refine lv_iconst (pc := 50) (v := (1 : Int32)) hx hb dX9_isName_50 (by decide) ?_
          refine lv_goto (pc := 51) (tgt := 55) hx hb dX9_isName_51 (by decide) ?_
          exact um_zretR (pc := 55) Cx hW hS hf rfl dX9_isName_55
  by_cases c1 : a0 = (0 : Int32)
  · have hf := um_it c1 hf
    refine lv_tableIn (pc := 1) (tgt := 32) hx hb dX9_isName_1 (by rw [c1]; decide) (by rw [c1]; decide) (by rw [c1]; rfl) (by decide) ?_
    exact J1 () hf _ _ _ hW hS (lv_sub hl [1] rfl)
  have hf := um_ie c1 hf
  by_cases c2 : a0 = (1 : Int32)
  · have hf := um_it c2 hf
    refine lv_tableIn (pc := 1) (tgt := 32) hx hb dX9_isName_1 (by rw [c2]; decide) (by rw [c2]; decide) (by rw [c2]; rfl) (by decide) ?_
    exact J1 () hf _ _ _ hW hS (lv_sub hl [1] rfl)
  have hf := um_ie c2 hf
  by_cases c3 : a0 = (2 : Int32)
  · have hf := um_it c3 hf
    refine lv_tableIn (pc := 1) (tgt := 56) hx hb dX9_isName_1 (by rw [c3]; decide) (by rw [c3]; decide) (by rw [c3]; rfl) (by decide) ?_
    refine lv_iload_n (pc := 56) hx hb dX9_isName_56 rfl (lv_at hl 1 rfl) ?_
    refine lv_bipush (pc := 57) (v := (111 : Int32)) hx hb dX9_isName_57 (by decide) ?_
    refine lv_icmp_eq (pc := 59) (tgt := 68) hx hb dX9_isName_59 (by decide) (fun c1 => ?_) (fun c1 => ?_)
    · have hf := um_it c1 hf
      clear c1
      refine lv_iconst (pc := 68) (v := (1 : Int32)) hx hb dX9_isName_68 (by decide) ?_
      refine lv_goto (pc := 69) (tgt := 73) hx hb dX9_isName_69 (by decide) ?_
      exact um_zretR (pc := 73) Cx hW hS hf rfl dX9_isName_73
    · have hf := um_ie c1 hf
      clear c1
      refine lv_iload_n (pc := 62) hx hb dX9_isName_62 rfl (lv_at hl 1 rfl) ?_
      refine lv_bipush (pc := 63) (v := (109 : Int32)) hx hb dX9_isName_63 (by decide) ?_
      refine lv_icmp_ne (pc := 65) (tgt := 72) hx hb dX9_isName_65 (by decide) (fun c1 => ?_) (fun c1 => ?_)
      · have hf := um_ie c1 hf
        clear c1
        refine lv_iconst (pc := 72) (v := (0 : Int32)) hx hb dX9_isName_72 (by decide) ?_
        exact um_zretR (pc := 73) Cx hW hS hf rfl dX9_isName_73
      · have hf := um_it c1 hf
        clear c1
        refine lv_iconst (pc := 68) (v := (1 : Int32)) hx hb dX9_isName_68 (by decide) ?_
        refine lv_goto (pc := 69) (tgt := 73) hx hb dX9_isName_69 (by decide) ?_
        exact um_zretR (pc := 73) Cx hW hS hf rfl dX9_isName_73
  have hf := um_ie c3 hf
  by_cases c4 : a0 = (3 : Int32)
  · have hf := um_it c4 hf
    refine lv_tableIn (pc := 1) (tgt := 74) hx hb dX9_isName_1 (by rw [c4]; decide) (by rw [c4]; decide) (by rw [c4]; rfl) (by decide) ?_
    refine lv_iload_n (pc := 74) hx hb dX9_isName_74 rfl (lv_at hl 1 rfl) ?_
    refine lv_bipush (pc := 75) (v := (107 : Int32)) hx hb dX9_isName_75 (by decide) ?_
    refine lv_icmp_eq (pc := 77) (tgt := 92) hx hb dX9_isName_77 (by decide) (fun c1 => ?_) (fun c1 => ?_)
    · have hf := um_it c1 hf
      clear c1
      refine lv_iconst (pc := 92) (v := (1 : Int32)) hx hb dX9_isName_92 (by decide) ?_
      refine lv_goto (pc := 93) (tgt := 97) hx hb dX9_isName_93 (by decide) ?_
      exact um_zretR (pc := 97) Cx hW hS hf rfl dX9_isName_97
    · have hf := um_ie c1 hf
      clear c1
      refine lv_iload_n (pc := 80) hx hb dX9_isName_80 rfl (lv_at hl 1 rfl) ?_
      refine lv_bipush (pc := 81) (v := (109 : Int32)) hx hb dX9_isName_81 (by decide) ?_
      refine lv_icmp_eq (pc := 83) (tgt := 92) hx hb dX9_isName_83 (by decide) (fun c1 => ?_) (fun c1 => ?_)
      · have hf := um_it c1 hf
        clear c1
        refine lv_iconst (pc := 92) (v := (1 : Int32)) hx hb dX9_isName_92 (by decide) ?_
        refine lv_goto (pc := 93) (tgt := 97) hx hb dX9_isName_93 (by decide) ?_
        exact um_zretR (pc := 97) Cx hW hS hf rfl dX9_isName_97
      · have hf := um_ie c1 hf
        clear c1
        refine lv_iload_n (pc := 86) hx hb dX9_isName_86 rfl (lv_at hl 1 rfl) ?_
        refine lv_bipush (pc := 87) (v := (112 : Int32)) hx hb dX9_isName_87 (by decide) ?_
        refine lv_icmp_ne (pc := 89) (tgt := 96) hx hb dX9_isName_89 (by decide) (fun c1 => ?_) (fun c1 => ?_)
        · have hf := um_ie c1 hf
          clear c1
          refine lv_iconst (pc := 96) (v := (0 : Int32)) hx hb dX9_isName_96 (by decide) ?_
          exact um_zretR (pc := 97) Cx hW hS hf rfl dX9_isName_97
        · have hf := um_it c1 hf
          clear c1
          refine lv_iconst (pc := 92) (v := (1 : Int32)) hx hb dX9_isName_92 (by decide) ?_
          refine lv_goto (pc := 93) (tgt := 97) hx hb dX9_isName_93 (by decide) ?_
          exact um_zretR (pc := 97) Cx hW hS hf rfl dX9_isName_97
  have hf := um_ie c4 hf
  have ho : a0.toInt < 0 ∨ 3 < a0.toInt := um_tabO (lo := 0) (hi := 3) (fun z z1 z2 => by
    rcases (show z = 0 ∨ z = 1 ∨ z = 2 ∨ z = 3 by omega) with rfl | rfl | rfl | rfl
    · exact c1
    · exact c2
    · exact c3
    · exact c4)
  refine lv_tableOut (pc := 1) (tgt := 98) hx hb dX9_isName_1 ho (by decide) ?_
  refine lv_iload_n (pc := 98) hx hb dX9_isName_98 rfl (lv_at hl 1 rfl) ?_
  refine lv_bipush (pc := 99) (v := (101 : Int32)) hx hb dX9_isName_99 (by decide) ?_
  refine lv_icmp_eq (pc := 101) (tgt := 110) hx hb dX9_isName_101 (by decide) (fun c1 => ?_) (fun c1 => ?_)
  · have hf := um_it c1 hf
    clear c1
    refine lv_iconst (pc := 110) (v := (1 : Int32)) hx hb dX9_isName_110 (by decide) ?_
    refine lv_goto (pc := 111) (tgt := 115) hx hb dX9_isName_111 (by decide) ?_
    exact um_zretR (pc := 115) Cx hW hS hf rfl dX9_isName_115
  · have hf := um_ie c1 hf
    clear c1
    refine lv_iload_n (pc := 104) hx hb dX9_isName_104 rfl (lv_at hl 1 rfl) ?_
    refine lv_bipush (pc := 105) (v := (100 : Int32)) hx hb dX9_isName_105 (by decide) ?_
    refine lv_icmp_ne (pc := 107) (tgt := 114) hx hb dX9_isName_107 (by decide) (fun c1 => ?_) (fun c1 => ?_)
    · have hf := um_ie c1 hf
      clear c1
      refine lv_iconst (pc := 114) (v := (0 : Int32)) hx hb dX9_isName_114 (by decide) ?_
      exact um_zretR (pc := 115) Cx hW hS hf rfl dX9_isName_115
    · have hf := um_it c1 hf
      clear c1
      refine lv_iconst (pc := 110) (v := (1 : Int32)) hx hb dX9_isName_110 (by decide) ?_
      refine lv_goto (pc := 111) (tgt := 115) hx hb dX9_isName_111 (by decide) ?_
      exact um_zretR (pc := 115) Cx hW hS hf rfl dX9_isName_115
theorem c_X9_isName {σ : um_S} {r : Bool} (a0 : Int32) (a1 : Int32)  (hf : f_X9_isName a0 a1 σ = some r) : um_M l yX9_isName cX9_isName 2 (some FieldType.boolean) (0) (0) Z msh α σ [.int a0, .int a1] (some (.int (um_b r))) σ :=
  um_start (by decide) (Nat.le_of_ble_eq_true rfl) (fun p e s m below meth c ls Cx hW hS hl => b_X9_isName a0 a1 hf Cx hW hS hl)
noncomputable def f_X9_isSign (a1 : Int32) (σ : um_S) : Option (Bool) :=
if (σ.1 0 11) = (3 : Int32) then
(if (σ.1 0 13) = a1 then
(some true)
else
(some false))
else
(some false)
set_option maxRecDepth 100000 in
set_option maxHeartbeats 4000000 in
theorem b_X9_isSign {H : Heap} {locs : List Loc} {ls : Array Slot} {σ : um_S} {r : Bool} (a1 : Int32)  (hf : f_X9_isSign a1 σ = some r) (Cx : um_C p s m meth c args cX9_isSign 2 (some FieldType.boolean) RX9 Z) (hW : um_W Z msh α σ H) (hS : va_S (um_D msh α) s.heap H locs) (hl : lv_has ls 2 [(0, .ref (α 0)), (1, .int a1)]) : um_G p l e (0) (0) s m args below meth c Z msh α σ (some (.int (um_b r))) H locs (F0 m 0 ls []) := by
  have hx := Cx.1
  have hb := Cx.2.1
  have hown := Cx.2.2.2.2.1
  have hts := Cx.2.2.2.2.2.1
  rw [f_X9_isSign] at hf
  refine lv_aload_n (pc := 0) hx hb dX9_isSign_0 rfl (lv_at hl 0 rfl) ?_
  refine gF_X9_155 (pc := 1) Cx hW ms_0 rfl dX9_isSign_1 ?_
  refine lv_iconst (pc := 4) (v := (3 : Int32)) hx hb dX9_isSign_4 (by decide) ?_
  refine lv_icmp_ne (pc := 5) (tgt := 20) hx hb dX9_isSign_5 (by decide) (fun c1 => ?_) (fun c1 => ?_)
  · have hf := um_ie c1 hf
    clear c1
    refine lv_iconst (pc := 20) (v := (0 : Int32)) hx hb dX9_isSign_20 (by decide) ?_
    exact um_zretR (pc := 21) Cx hW hS hf rfl dX9_isSign_21
  · have hf := um_it c1 hf
    clear c1
    refine lv_aload_n (pc := 8) hx hb dX9_isSign_8 rfl (lv_at hl 0 rfl) ?_
    refine gF_X9_164 (pc := 9) Cx hW ms_0 rfl dX9_isSign_9 ?_
    refine lv_iload_n (pc := 12) hx hb dX9_isSign_12 rfl (lv_at hl 1 rfl) ?_
    refine lv_icmp_ne (pc := 13) (tgt := 20) hx hb dX9_isSign_13 (by decide) (fun c1 => ?_) (fun c1 => ?_)
    · have hf := um_ie c1 hf
      clear c1
      refine lv_iconst (pc := 20) (v := (0 : Int32)) hx hb dX9_isSign_20 (by decide) ?_
      exact um_zretR (pc := 21) Cx hW hS hf rfl dX9_isSign_21
    · have hf := um_it c1 hf
      clear c1
      refine lv_iconst (pc := 16) (v := (1 : Int32)) hx hb dX9_isSign_16 (by decide) ?_
      refine lv_goto (pc := 17) (tgt := 21) hx hb dX9_isSign_17 (by decide) ?_
      exact um_zretR (pc := 21) Cx hW hS hf rfl dX9_isSign_21
theorem c_X9_isSign {σ : um_S} {r : Bool} (a1 : Int32)  (hf : f_X9_isSign a1 σ = some r) : um_M l yX9_isSign cX9_isSign 2 (some FieldType.boolean) (0) (0) Z msh α σ [.ref (α 0), .int a1] (some (.int (um_b r))) σ :=
  um_start (by decide) (Nat.le_of_ble_eq_true rfl) (fun p e s m below meth c ls Cx hW hS hl => b_X9_isSign a1 hf Cx hW hS hl)
noncomputable def f_X9_next_l34 (v1 : Int32) (v2 : Int32) : Nat → um_S → Option (um_S)
  | 0, _ => none
  | n + 1, σ =>
if (σ.1 0 8) ≤ (σ.1 0 10) then
(some σ)
else
(if um_ix (σ.1 0 10) 96 then
(if (σ.1 7 (σ.1 0 10).toNatClampNeg) = (32 : Int32) then
(um_let (um_wr σ 0 10 ((σ.1 0 10) + (1 : Int32))) fun σ2 =>
(f_X9_next_l34 v1 v2 n σ2))
else
(some σ)) else none)
noncomputable def f_X9_next_l214 (v1 : Int32) : Nat → um_S → Option (um_S)
  | 0, _ => none
  | n + 1, σ =>
(f_X9_isDigit (σ.1 0 10) σ).bind fun x2 =>
(if (um_b x2) = 0 then
(some σ)
else
(um_let (fun (x4 : Int32) =>
(um_let (um_wr σ 0 12 x4) fun σ5 =>
(um_let (um_wr σ5 0 10 ((σ5.1 0 10) + (1 : Int32))) fun σ7 =>
(f_X9_next_l214 v1 n σ7)))) fun k3 =>
(if (4 : Int32) ≤ ((σ.1 0 10) - (σ.1 0 9)) then
(k3 (σ.1 0 12))
else
(if um_ix (σ.1 0 10) 96 then
(k3 ((((10 : Int32) * (σ.1 0 12)) + (σ.1 7 (σ.1 0 10).toNatClampNeg)) - (48 : Int32))) else none))))
noncomputable def f_X9_next_l128 (v1 : Int32) : Nat → um_S → Option (um_S)
  | 0, _ => none
  | n + 1, σ =>
(f_X9_isLetter (σ.1 0 10) σ).bind fun x2 =>
(if (um_b x2) = 0 then
(some σ)
else
(um_let (um_wr σ 0 10 ((σ.1 0 10) + (1 : Int32))) fun σ3 =>
(f_X9_next_l128 v1 n σ3)))
noncomputable def f_X9_next  (σ : um_S) : Option (um_S) :=
um_let (fun (x2 : Int32) =>
(um_let (σ.1 0 10) fun x3 =>
((f_X9_next_l34 x2 x3 um_N σ).bind fun σ5 =>
(um_let (fun (x8 : Int32) =>
(um_let (um_wr σ5 0 9 (σ5.1 0 10)) fun σ9 =>
(if (σ9.1 0 9) = (σ9.1 0 8) then
(um_let (um_wr σ9 0 11 (0 : Int32)) fun σ43 =>
(some σ43))
else
((f_X9_isLetter (σ9.1 0 9) σ9).bind fun x12 =>
(if (um_b x12) = 0 then
((f_X9_isDigit (σ9.1 0 9) σ9).bind fun x14 =>
(if (um_b x14) = 0 then
(um_let (um_wr σ9 0 11 (3 : Int32)) fun σ15 =>
(if um_ix (σ15.1 0 9) 96 then
(um_let (um_wr σ15 0 13 (σ15.1 7 (σ15.1 0 9).toNatClampNeg)) fun σ18 =>
(um_let (um_wr σ18 0 10 ((σ18.1 0 10) + (1 : Int32))) fun σ20 =>
(some σ20))) else none))
else
(um_let (um_wr σ9 0 12 (0 : Int32)) fun σ22 =>
((f_X9_next_l214 x8 um_N σ22).bind fun σ24 =>
(if x8 = 0 then
(if ((σ24.1 0 10) - (σ24.1 0 9)) ≤ (4 : Int32) then
(um_let (um_wr σ24 0 11 (2 : Int32)) fun σ28 =>
(some σ28))
else
(um_let (um_wr σ24 0 11 (4 : Int32)) fun σ30 =>
(some σ30)))
else
(um_let (um_wr σ24 0 11 (4 : Int32)) fun σ26 =>
(some σ26)))))))
else
((f_X9_next_l128 x8 um_N σ9).bind fun σ32 =>
(um_let (fun (x35 : Int32) =>
(um_let (um_wr σ32 0 11 x35) fun σ36 =>
(if ((σ36.1 0 10) - (σ36.1 0 9)) = (1 : Int32) then
(if um_ix (σ36.1 0 9) 96 then
(um_let (um_wr σ36 0 13 (σ36.1 7 (σ36.1 0 9).toNatClampNeg)) fun σ41 =>
(some σ41)) else none)
else
(um_let (um_wr σ36 0 13 (0 : Int32)) fun σ38 =>
(some σ38))))) fun k34 =>
(if x8 = 0 then
(k34 (1 : Int32))
else
(k34 (4 : Int32)))))))))) fun k7 =>
(um_let (fun (_u : Unit) =>
(k7 (0 : Int32))) fun k45 =>
(if x2 = 0 then
(k45 ())
else
(if x3 = (σ5.1 0 10) then
(k7 (1 : Int32))
else
(k45 ())))))))) fun k1 =>
(um_let (fun (_u : Unit) =>
(k1 (0 : Int32))) fun k46 =>
(if (σ.1 0 10) ≤ 0 then
(k46 ())
else
(um_let (fun (_u : Unit) =>
(k1 (1 : Int32))) fun k47 =>
(if (σ.1 0 11) = (1 : Int32) then
(k47 ())
else
(if (σ.1 0 11) = (2 : Int32) then
(k47 ())
else
(k46 ()))))))
set_option maxRecDepth 100000 in
set_option maxHeartbeats 4000000 in
theorem t_X9_next_l34 {Q : State → Prop} {σo : um_S} (v1 : Int32) (v2 : Int32)  (Cx : um_C p s m meth c args cX9_next 3 none RX9 Z) (hE : ∀ (H : Heap) (locs : List Loc) (ls : Array Slot), um_W Z msh α σo H → va_S (um_D msh α) s.heap H locs → lv_has ls 3 [(0, .ref (α 0)), (1, .int v1), (2, .int v2)] → W p l e { frames := 2, cells := 0, slots := 0, locals := 46 } s m args below meth c H locs 0 0 Q (F0 m 72 ls [])) : ∀ (n : Nat) (σ : um_S) (H : Heap) (locs : List Loc) (ls : Array Slot), f_X9_next_l34 v1 v2 n σ = some σo → um_W Z msh α σ H → va_S (um_D msh α) s.heap H locs → lv_has ls 3 [(0, .ref (α 0)), (1, .int v1), (2, .int v2)] → W p l e { frames := 2, cells := 0, slots := 0, locals := 46 } s m args below meth c H locs 0 0 Q (F0 m 34 ls []) := by
  have hx := Cx.1
  have hb := Cx.2.1
  have hown := Cx.2.2.2.2.1
  have hts := Cx.2.2.2.2.2.1
  intro n
  induction n with
  | zero =>
    intro σ H locs ls hf hW hS hl
    cases hf
  | succ n ih =>
    intro σ H locs ls hf hW hS hl
    rw [f_X9_next_l34] at hf
    refine lv_aload_n (pc := 34) hx hb dX9_next_34 rfl (lv_at hl 0 rfl) ?_
    refine gF_X9_152 (pc := 35) Cx hW ms_0 rfl dX9_next_35 ?_
    refine lv_aload_n (pc := 38) hx hb dX9_next_38 rfl (lv_at hl 0 rfl) ?_
    refine gF_X9_140 (pc := 39) Cx hW ms_0 rfl dX9_next_39 ?_
    refine lv_icmp_ge (pc := 42) (tgt := 72) hx hb dX9_next_42 (by decide) (fun c1 => ?_) (fun c1 => ?_)
    · have hf := um_it c1 hf
      clear c1
      cases hf
      exact hE _ _ _ hW hS hl
    · have hf := um_ie c1 hf
      clear c1
      refine lv_aload_n (pc := 45) hx hb dX9_next_45 rfl (lv_at hl 0 rfl) ?_
      refine gF_X9_28 (pc := 46) Cx hW ms_0 rfl dX9_next_46 ?_
      refine lv_aload_n (pc := 49) hx hb dX9_next_49 rfl (lv_at hl 0 rfl) ?_
      refine gF_X9_152 (pc := 50) Cx hW ms_0 rfl dX9_next_50 ?_
      obtain ⟨g1, hf⟩ := um_gu hf
      refine um_iald (pc := 53) Cx hW ms_7 rfl (um_ix_in g1) dX9_next_53 ?_
      refine lv_bipush (pc := 54) (v := (32 : Int32)) hx hb dX9_next_54 (by decide) ?_
      refine lv_icmp_ne (pc := 56) (tgt := 72) hx hb dX9_next_56 (by decide) (fun c1 => ?_) (fun c1 => ?_)
      · have hf := um_ie c1 hf
        clear c1
        cases hf
        exact hE _ _ _ hW hS hl
      · have hf := um_it c1 hf
        clear c1
        refine lv_aload_n (pc := 59) hx hb dX9_next_59 rfl (lv_at hl 0 rfl) ?_
        refine lv_dup (pc := 60) hx hb dX9_next_60 rfl ?_
        refine gF_X9_152 (pc := 61) Cx hW ms_0 rfl dX9_next_61 ?_
        refine lv_iconst (pc := 64) (v := (1 : Int32)) hx hb dX9_next_64 (by decide) ?_
        refine lv_iadd (pc := 65) hx hb dX9_next_65 ?_
        refine gP_X9_152 (pc := 66) Cx hW hS ms_0 rfl dX9_next_66 ?_
        clear hW hS
        intro H locs hW hS
        obtain ⟨σ2, e3, hf⟩ := um_le hf
        rw [← e3] at hW
        clear e3
        refine lv_goto (pc := 69) (tgt := 34) hx hb dX9_next_69 (by decide) ?_
        exact ih _ _ _ _ hf hW hS hl
set_option maxRecDepth 100000 in
set_option maxHeartbeats 4000000 in
theorem t_X9_next_l214 {Q : State → Prop} {σo : um_S} (v1 : Int32)  (Cx : um_C p s m meth c args cX9_next 3 none RX9 Z) (hE : ∀ (H : Heap) (locs : List Loc) (ls : Array Slot), um_W Z msh α σo H → va_S (um_D msh α) s.heap H locs → lv_has ls 3 [(0, .ref (α 0)), (1, .int v1)] → W p l e { frames := 2, cells := 0, slots := 0, locals := 46 } s m args below meth c H locs 0 0 Q (F0 m 282 ls [])) : ∀ (n : Nat) (σ : um_S) (H : Heap) (locs : List Loc) (ls : Array Slot), f_X9_next_l214 v1 n σ = some σo → um_W Z msh α σ H → va_S (um_D msh α) s.heap H locs → lv_has ls 3 [(0, .ref (α 0)), (1, .int v1)] → W p l e { frames := 2, cells := 0, slots := 0, locals := 46 } s m args below meth c H locs 0 0 Q (F0 m 214 ls []) := by
  have hx := Cx.1
  have hb := Cx.2.1
  have hown := Cx.2.2.2.2.1
  have hts := Cx.2.2.2.2.2.1
  intro n
  induction n with
  | zero =>
    intro σ H locs ls hf hW hS hl
    cases hf
  | succ n ih =>
    intro σ H locs ls hf hW hS hl
    rw [f_X9_next_l214] at hf
    refine lv_aload_n (pc := 214) hx hb dX9_next_214 rfl (lv_at hl 0 rfl) ?_
    refine lv_aload_n (pc := 215) hx hb dX9_next_215 rfl (lv_at hl 0 rfl) ?_
    refine gF_X9_152 (pc := 216) Cx hW ms_0 rfl dX9_next_216 ?_
    obtain ⟨x2, hc1, hf⟩ := um_bi hf
    refine um_cVi (pc := 219) (As := [.int (σ.1 0 10)]) (rest := []) Cx (c_X9_isDigit (σ.1 0 10) hc1) kV_X9_isDigit (Or.inl qM_X9_167) hW hS ms_0 rfl rfl hl rfl (Nat.le_of_ble_eq_true rfl) (Nat.le_of_ble_eq_true rfl) (Nat.le_of_ble_eq_true rfl) dX9_next_219 (Nat.le_refl _) (Nat.le_refl _) ?_
    clear hW hS hc1
    intro H locs hW hS
    refine lv_if_eq (pc := 222) (tgt := 282) hx hb dX9_next_222 (by decide) (fun c1 => ?_) (fun c1 => ?_)
    · have hf := um_it c1 hf
      clear c1
      cases hf
      exact hE _ _ _ hW hS hl
    · have hf := um_ie c1 hf
      clear c1
      refine lv_aload_n (pc := 225) hx hb dX9_next_225 rfl (lv_at hl 0 rfl) ?_
      refine lv_aload_n (pc := 226) hx hb dX9_next_226 rfl (lv_at hl 0 rfl) ?_
      refine gF_X9_152 (pc := 227) Cx hW ms_0 rfl dX9_next_227 ?_
      refine lv_aload_n (pc := 230) hx hb dX9_next_230 rfl (lv_at hl 0 rfl) ?_
      refine gF_X9_158 (pc := 231) Cx hW ms_0 rfl dX9_next_231 ?_
      refine lv_isub (pc := 234) hx hb dX9_next_234 ?_
      refine lv_iconst (pc := 235) (v := (4 : Int32)) hx hb dX9_next_235 (by decide) ?_
      obtain ⟨k3, hk3, hf⟩ := um_j1 hf
      have J3 : ∀ (x4 : Int32), k3 x4 = some σo → ∀ (H : Heap) (locs : List Loc) (ls : Array Slot), um_W Z msh α σ H → va_S (um_D msh α) s.heap H locs → lv_has ls 3 [(0, .ref (α 0)), (1, .int v1)] → W p l e { frames := 2, cells := 0, slots := 0, locals := 46 } s m args below meth c H locs 0 0 Q (F0 m 266 ls [.int x4, .ref (α 0)]) := by
        intro x4 hf H locs ls hW hS hl
        rw [hk3] at hf
        refine gP_X9_170 (pc := 266) Cx hW hS ms_0 rfl dX9_next_266 ?_
        clear hW hS
        intro H locs hW hS
        obtain ⟨σ5, e6, hf⟩ := um_le hf
        rw [← e6] at hW
        clear e6
        refine lv_aload_n (pc := 269) hx hb dX9_next_269 rfl (lv_at hl 0 rfl) ?_
        refine lv_dup (pc := 270) hx hb dX9_next_270 rfl ?_
        refine gF_X9_152 (pc := 271) Cx hW ms_0 rfl dX9_next_271 ?_
        refine lv_iconst (pc := 274) (v := (1 : Int32)) hx hb dX9_next_274 (by decide) ?_
        refine lv_iadd (pc := 275) hx hb dX9_next_275 ?_
        refine gP_X9_152 (pc := 276) Cx hW hS ms_0 rfl dX9_next_276 ?_
        clear hW hS
        intro H locs hW hS
        obtain ⟨σ7, e8, hf⟩ := um_le hf
        rw [← e8] at hW
        clear e8
        refine lv_goto (pc := 279) (tgt := 214) hx hb dX9_next_279 (by decide) ?_
        exact ih _ _ _ _ hf hW hS hl
      refine lv_icmp_ge (pc := 236) (tgt := 262) hx hb dX9_next_236 (by decide) (fun c1 => ?_) (fun c1 => ?_)
      · have hf := um_it c1 hf
        clear c1
        refine lv_aload_n (pc := 262) hx hb dX9_next_262 rfl (lv_at hl 0 rfl) ?_
        refine gF_X9_170 (pc := 263) Cx hW ms_0 rfl dX9_next_263 ?_
        exact J3 (σ.1 0 12) hf _ _ _ hW hS hl
      · have hf := um_ie c1 hf
        clear c1
        refine lv_bipush (pc := 239) (v := (10 : Int32)) hx hb dX9_next_239 (by decide) ?_
        refine lv_aload_n (pc := 241) hx hb dX9_next_241 rfl (lv_at hl 0 rfl) ?_
        refine gF_X9_170 (pc := 242) Cx hW ms_0 rfl dX9_next_242 ?_
        refine lv_imul (pc := 245) hx hb dX9_next_245 ?_
        refine lv_aload_n (pc := 246) hx hb dX9_next_246 rfl (lv_at hl 0 rfl) ?_
        refine gF_X9_28 (pc := 247) Cx hW ms_0 rfl dX9_next_247 ?_
        refine lv_aload_n (pc := 250) hx hb dX9_next_250 rfl (lv_at hl 0 rfl) ?_
        refine gF_X9_152 (pc := 251) Cx hW ms_0 rfl dX9_next_251 ?_
        obtain ⟨g9, hf⟩ := um_gu hf
        refine um_iald (pc := 254) Cx hW ms_7 rfl (um_ix_in g9) dX9_next_254 ?_
        refine lv_iadd (pc := 255) hx hb dX9_next_255 ?_
        refine lv_bipush (pc := 256) (v := (48 : Int32)) hx hb dX9_next_256 (by decide) ?_
        refine lv_isub (pc := 258) hx hb dX9_next_258 ?_
        refine lv_goto (pc := 259) (tgt := 266) hx hb dX9_next_259 (by decide) ?_
        exact J3 ((((10 : Int32) * (σ.1 0 12)) + (σ.1 7 (σ.1 0 10).toNatClampNeg)) - (48 : Int32)) hf _ _ _ hW hS hl
set_option maxRecDepth 100000 in
set_option maxHeartbeats 4000000 in
theorem t_X9_next_l128 {Q : State → Prop} {σo : um_S} (v1 : Int32)  (Cx : um_C p s m meth c args cX9_next 3 none RX9 Z) (hE : ∀ (H : Heap) (locs : List Loc) (ls : Array Slot), um_W Z msh α σo H → va_S (um_D msh α) s.heap H locs → lv_has ls 3 [(0, .ref (α 0)), (1, .int v1)] → W p l e { frames := 2, cells := 0, slots := 0, locals := 46 } s m args below meth c H locs 0 0 Q (F0 m 152 ls [])) : ∀ (n : Nat) (σ : um_S) (H : Heap) (locs : List Loc) (ls : Array Slot), f_X9_next_l128 v1 n σ = some σo → um_W Z msh α σ H → va_S (um_D msh α) s.heap H locs → lv_has ls 3 [(0, .ref (α 0)), (1, .int v1)] → W p l e { frames := 2, cells := 0, slots := 0, locals := 46 } s m args below meth c H locs 0 0 Q (F0 m 128 ls []) := by
  have hx := Cx.1
  have hb := Cx.2.1
  have hown := Cx.2.2.2.2.1
  have hts := Cx.2.2.2.2.2.1
  intro n
  induction n with
  | zero =>
    intro σ H locs ls hf hW hS hl
    cases hf
  | succ n ih =>
    intro σ H locs ls hf hW hS hl
    rw [f_X9_next_l128] at hf
    refine lv_aload_n (pc := 128) hx hb dX9_next_128 rfl (lv_at hl 0 rfl) ?_
    refine lv_aload_n (pc := 129) hx hb dX9_next_129 rfl (lv_at hl 0 rfl) ?_
    refine gF_X9_152 (pc := 130) Cx hW ms_0 rfl dX9_next_130 ?_
    obtain ⟨x2, hc1, hf⟩ := um_bi hf
    refine um_cVi (pc := 133) (As := [.int (σ.1 0 10)]) (rest := []) Cx (c_X9_isLetter (σ.1 0 10) hc1) kV_X9_isLetter (Or.inl qM_X9_161) hW hS ms_0 rfl rfl hl rfl (Nat.le_of_ble_eq_true rfl) (Nat.le_of_ble_eq_true rfl) (Nat.le_of_ble_eq_true rfl) dX9_next_133 (Nat.le_refl _) (Nat.le_refl _) ?_
    clear hW hS hc1
    intro H locs hW hS
    refine lv_if_eq (pc := 136) (tgt := 152) hx hb dX9_next_136 (by decide) (fun c1 => ?_) (fun c1 => ?_)
    · have hf := um_it c1 hf
      clear c1
      cases hf
      exact hE _ _ _ hW hS hl
    · have hf := um_ie c1 hf
      clear c1
      refine lv_aload_n (pc := 139) hx hb dX9_next_139 rfl (lv_at hl 0 rfl) ?_
      refine lv_dup (pc := 140) hx hb dX9_next_140 rfl ?_
      refine gF_X9_152 (pc := 141) Cx hW ms_0 rfl dX9_next_141 ?_
      refine lv_iconst (pc := 144) (v := (1 : Int32)) hx hb dX9_next_144 (by decide) ?_
      refine lv_iadd (pc := 145) hx hb dX9_next_145 ?_
      refine gP_X9_152 (pc := 146) Cx hW hS ms_0 rfl dX9_next_146 ?_
      clear hW hS
      intro H locs hW hS
      obtain ⟨σ3, e4, hf⟩ := um_le hf
      rw [← e4] at hW
      clear e4
      refine lv_goto (pc := 149) (tgt := 128) hx hb dX9_next_149 (by decide) ?_
      exact ih _ _ _ _ hf hW hS hl
set_option maxRecDepth 100000 in
set_option maxHeartbeats 4000000 in
theorem b_X9_next {H : Heap} {locs : List Loc} {ls : Array Slot} {σ : um_S} {σ' : um_S}   (hf : f_X9_next σ = some σ') (Cx : um_C p s m meth c args cX9_next 3 none RX9 Z) (hW : um_W Z msh α σ H) (hS : va_S (um_D msh α) s.heap H locs) (hl : lv_has ls 3 [(0, .ref (α 0))]) : um_G p l e (2) (46) s m args below meth c Z msh α σ' none H locs (F0 m 0 ls []) := by
  have hx := Cx.1
  have hb := Cx.2.1
  have hown := Cx.2.2.2.2.1
  have hts := Cx.2.2.2.2.2.1
  rw [f_X9_next] at hf
  refine lv_aload_n (pc := 0) hx hb dX9_next_0 rfl (lv_at hl 0 rfl) ?_
  refine gF_X9_152 (pc := 1) Cx hW ms_0 rfl dX9_next_1 ?_
  obtain ⟨k1, hk1, hf⟩ := um_j1 hf
  have J1 : ∀ (x2 : Int32), k1 x2 = some σ' → ∀ (H : Heap) (locs : List Loc) (ls : Array Slot), um_W Z msh α σ H → va_S (um_D msh α) s.heap H locs → lv_has ls 3 [(0, .ref (α 0))] → um_G p l e (2) (46) s m args below meth c Z msh α σ' none H locs (F0 m 28 ls [.int x2]) := by
    intro x2 hf H locs ls hW hS hl
    rw [hk1] at hf
    refine lv_istore_n (pc := 28) (lv' := [(1, .int x2), (0, .ref (α 0))]) hx hb dX9_next_28 rfl hl (by decide) rfl ?_
    clear hl
    intro ls hl
    refine lv_aload_n (pc := 29) hx hb dX9_next_29 rfl (lv_at hl 1 rfl) ?_
    refine gF_X9_152 (pc := 30) Cx hW ms_0 rfl dX9_next_30 ?_
    obtain ⟨x3, e4, hf⟩ := um_le hf
    refine um_top e4 ?_
    clear e4
    refine lv_istore_n (pc := 33) (lv' := [(2, .int x3), (1, .int x2), (0, .ref (α 0))]) hx hb dX9_next_33 rfl hl (by decide) rfl ?_
    clear hl
    intro ls hl
    obtain ⟨σ5, hc6, hf⟩ := um_bi hf
    refine t_X9_next_l34 x2 x3 Cx ?_ um_N _ _ _ _ hc6 hW hS (lv_sub hl [2, 1, 0] rfl)
    clear hW hS hl hc6
    intro H locs ls hW hS hl
    refine lv_iload_n (pc := 72) hx hb dX9_next_72 rfl (lv_at hl 1 rfl) ?_
    obtain ⟨k7, hk7, hf⟩ := um_j1 hf
    have J7 : ∀ (x8 : Int32), k7 x8 = some σ' → ∀ (H : Heap) (locs : List Loc) (ls : Array Slot), um_W Z msh α σ5 H → va_S (um_D msh α) s.heap H locs → lv_has ls 3 [(0, .ref (α 0))] → um_G p l e (2) (46) s m args below meth c Z msh α σ' none H locs (F0 m 89 ls [.int x8]) := by
      intro x8 hf H locs ls hW hS hl
      rw [hk7] at hf
      refine lv_istore_n (pc := 89) (lv' := [(1, .int x8), (0, .ref (α 0))]) hx hb dX9_next_89 rfl hl (by decide) rfl ?_
      clear hl
      intro ls hl
      refine lv_aload_n (pc := 90) hx hb dX9_next_90 rfl (lv_at hl 1 rfl) ?_
      refine lv_aload_n (pc := 91) hx hb dX9_next_91 rfl (lv_at hl 1 rfl) ?_
      refine gF_X9_152 (pc := 92) Cx hW ms_0 rfl dX9_next_92 ?_
      refine gP_X9_158 (pc := 95) Cx hW hS ms_0 rfl dX9_next_95 ?_
      clear hW hS
      intro H locs hW hS
      obtain ⟨σ9, e10, hf⟩ := um_le hf
      rw [← e10] at hW
      clear e10
      refine lv_aload_n (pc := 98) hx hb dX9_next_98 rfl (lv_at hl 1 rfl) ?_
      refine gF_X9_158 (pc := 99) Cx hW ms_0 rfl dX9_next_99 ?_
      refine lv_aload_n (pc := 102) hx hb dX9_next_102 rfl (lv_at hl 1 rfl) ?_
      refine gF_X9_140 (pc := 103) Cx hW ms_0 rfl dX9_next_103 ?_
      refine lv_icmp_ne (pc := 106) (tgt := 117) hx hb dX9_next_106 (by decide) (fun c1 => ?_) (fun c1 => ?_)
      · have hf := um_ie c1 hf
        clear c1
        refine lv_aload_n (pc := 117) hx hb dX9_next_117 rfl (lv_at hl 1 rfl) ?_
        refine lv_aload_n (pc := 118) hx hb dX9_next_118 rfl (lv_at hl 1 rfl) ?_
        refine gF_X9_158 (pc := 119) Cx hW ms_0 rfl dX9_next_119 ?_
        obtain ⟨x12, hc11, hf⟩ := um_bi hf
        refine um_cVi (pc := 122) (As := [.int (σ9.1 0 9)]) (rest := []) Cx (c_X9_isLetter (σ9.1 0 9) hc11) kV_X9_isLetter (Or.inl qM_X9_161) hW hS ms_0 rfl rfl hl rfl (Nat.le_of_ble_eq_true rfl) (Nat.le_of_ble_eq_true rfl) (Nat.le_of_ble_eq_true rfl) dX9_next_122 (Nat.le_refl _) (Nat.le_refl _) ?_
        clear hW hS hc11
        intro H locs hW hS
        refine lv_if_eq (pc := 125) (tgt := 198) hx hb dX9_next_125 (by decide) (fun c1 => ?_) (fun c1 => ?_)
        · have hf := um_it c1 hf
          clear c1
          refine lv_aload_n (pc := 198) hx hb dX9_next_198 rfl (lv_at hl 1 rfl) ?_
          refine lv_aload_n (pc := 199) hx hb dX9_next_199 rfl (lv_at hl 1 rfl) ?_
          refine gF_X9_158 (pc := 200) Cx hW ms_0 rfl dX9_next_200 ?_
          obtain ⟨x14, hc13, hf⟩ := um_bi hf
          refine um_cVi (pc := 203) (As := [.int (σ9.1 0 9)]) (rest := []) Cx (c_X9_isDigit (σ9.1 0 9) hc13) kV_X9_isDigit (Or.inl qM_X9_167) hW hS ms_0 rfl rfl hl rfl (Nat.le_of_ble_eq_true rfl) (Nat.le_of_ble_eq_true rfl) (Nat.le_of_ble_eq_true rfl) dX9_next_203 (Nat.le_refl _) (Nat.le_refl _) ?_
          clear hW hS hc13
          intro H locs hW hS
          refine lv_if_eq (pc := 206) (tgt := 311) hx hb dX9_next_206 (by decide) (fun c1 => ?_) (fun c1 => ?_)
          · have hf := um_it c1 hf
            clear c1
            refine lv_aload_n (pc := 311) hx hb dX9_next_311 rfl (lv_at hl 1 rfl) ?_
            refine lv_iconst (pc := 312) (v := (3 : Int32)) hx hb dX9_next_312 (by decide) ?_
            refine gP_X9_155 (pc := 313) Cx hW hS ms_0 rfl dX9_next_313 ?_
            clear hW hS
            intro H locs hW hS
            obtain ⟨σ15, e16, hf⟩ := um_le hf
            rw [← e16] at hW
            clear e16
            refine lv_aload_n (pc := 316) hx hb dX9_next_316 rfl (lv_at hl 1 rfl) ?_
            refine lv_aload_n (pc := 317) hx hb dX9_next_317 rfl (lv_at hl 1 rfl) ?_
            refine gF_X9_28 (pc := 318) Cx hW ms_0 rfl dX9_next_318 ?_
            refine lv_aload_n (pc := 321) hx hb dX9_next_321 rfl (lv_at hl 1 rfl) ?_
            refine gF_X9_158 (pc := 322) Cx hW ms_0 rfl dX9_next_322 ?_
            obtain ⟨g17, hf⟩ := um_gu hf
            refine um_iald (pc := 325) Cx hW ms_7 rfl (um_ix_in g17) dX9_next_325 ?_
            refine gP_X9_164 (pc := 326) Cx hW hS ms_0 rfl dX9_next_326 ?_
            clear hW hS
            intro H locs hW hS
            obtain ⟨σ18, e19, hf⟩ := um_le hf
            rw [← e19] at hW
            clear e19
            refine lv_aload_n (pc := 329) hx hb dX9_next_329 rfl (lv_at hl 1 rfl) ?_
            refine lv_dup (pc := 330) hx hb dX9_next_330 rfl ?_
            refine gF_X9_152 (pc := 331) Cx hW ms_0 rfl dX9_next_331 ?_
            refine lv_iconst (pc := 334) (v := (1 : Int32)) hx hb dX9_next_334 (by decide) ?_
            refine lv_iadd (pc := 335) hx hb dX9_next_335 ?_
            refine gP_X9_152 (pc := 336) Cx hW hS ms_0 rfl dX9_next_336 ?_
            clear hW hS
            intro H locs hW hS
            obtain ⟨σ20, e21, hf⟩ := um_le hf
            rw [← e21] at hW
            clear e21
            exact um_vret (pc := 339) Cx hW hS hf dX9_next_339
          · have hf := um_ie c1 hf
            clear c1
            refine lv_aload_n (pc := 209) hx hb dX9_next_209 rfl (lv_at hl 1 rfl) ?_
            refine lv_iconst (pc := 210) (v := (0 : Int32)) hx hb dX9_next_210 (by decide) ?_
            refine gP_X9_170 (pc := 211) Cx hW hS ms_0 rfl dX9_next_211 ?_
            clear hW hS
            intro H locs hW hS
            obtain ⟨σ22, e23, hf⟩ := um_le hf
            rw [← e23] at hW
            clear e23
            obtain ⟨σ24, hc25, hf⟩ := um_bi hf
            refine t_X9_next_l214 x8 Cx ?_ um_N _ _ _ _ hc25 hW hS (lv_sub hl [1, 0] rfl)
            clear hW hS hl hc25
            intro H locs ls hW hS hl
            refine lv_aload_n (pc := 282) hx hb dX9_next_282 rfl (lv_at hl 0 rfl) ?_
            refine lv_iload_n (pc := 283) hx hb dX9_next_283 rfl (lv_at hl 1 rfl) ?_
            refine lv_if_ne (pc := 284) (tgt := 300) hx hb dX9_next_284 (by decide) (fun c1 => ?_) (fun c1 => ?_)
            · have hf := um_ie c1 hf
              clear c1
              refine lv_iconst (pc := 300) (v := (4 : Int32)) hx hb dX9_next_300 (by decide) ?_
              refine lv_goto (pc := 301) (tgt := 305) hx hb dX9_next_301 (by decide) ?_
              refine gP_X9_155 (pc := 305) Cx hW hS ms_0 rfl dX9_next_305 ?_
              clear hW hS
              intro H locs hW hS
              obtain ⟨σ26, e27, hf⟩ := um_le hf
              rw [← e27] at hW
              clear e27
              refine lv_goto (pc := 308) (tgt := 339) hx hb dX9_next_308 (by decide) ?_
              exact um_vret (pc := 339) Cx hW hS hf dX9_next_339
            · have hf := um_it c1 hf
              clear c1
              refine lv_aload_n (pc := 287) hx hb dX9_next_287 rfl (lv_at hl 0 rfl) ?_
              refine gF_X9_152 (pc := 288) Cx hW ms_0 rfl dX9_next_288 ?_
              refine lv_aload_n (pc := 291) hx hb dX9_next_291 rfl (lv_at hl 0 rfl) ?_
              refine gF_X9_158 (pc := 292) Cx hW ms_0 rfl dX9_next_292 ?_
              refine lv_isub (pc := 295) hx hb dX9_next_295 ?_
              refine lv_iconst (pc := 296) (v := (4 : Int32)) hx hb dX9_next_296 (by decide) ?_
              refine lv_icmp_le (pc := 297) (tgt := 304) hx hb dX9_next_297 (by decide) (fun c1 => ?_) (fun c1 => ?_)
              · have hf := um_it c1 hf
                clear c1
                refine lv_iconst (pc := 304) (v := (2 : Int32)) hx hb dX9_next_304 (by decide) ?_
                refine gP_X9_155 (pc := 305) Cx hW hS ms_0 rfl dX9_next_305 ?_
                clear hW hS
                intro H locs hW hS
                obtain ⟨σ28, e29, hf⟩ := um_le hf
                rw [← e29] at hW
                clear e29
                refine lv_goto (pc := 308) (tgt := 339) hx hb dX9_next_308 (by decide) ?_
                exact um_vret (pc := 339) Cx hW hS hf dX9_next_339
              · have hf := um_ie c1 hf
                clear c1
                refine lv_iconst (pc := 300) (v := (4 : Int32)) hx hb dX9_next_300 (by decide) ?_
                refine lv_goto (pc := 301) (tgt := 305) hx hb dX9_next_301 (by decide) ?_
                refine gP_X9_155 (pc := 305) Cx hW hS ms_0 rfl dX9_next_305 ?_
                clear hW hS
                intro H locs hW hS
                obtain ⟨σ30, e31, hf⟩ := um_le hf
                rw [← e31] at hW
                clear e31
                refine lv_goto (pc := 308) (tgt := 339) hx hb dX9_next_308 (by decide) ?_
                exact um_vret (pc := 339) Cx hW hS hf dX9_next_339
        · have hf := um_ie c1 hf
          clear c1
          obtain ⟨σ32, hc33, hf⟩ := um_bi hf
          refine t_X9_next_l128 x8 Cx ?_ um_N _ _ _ _ hc33 hW hS (lv_sub hl [1, 0] rfl)
          clear hW hS hl hc33
          intro H locs ls hW hS hl
          refine lv_aload_n (pc := 152) hx hb dX9_next_152 rfl (lv_at hl 0 rfl) ?_
          refine lv_iload_n (pc := 153) hx hb dX9_next_153 rfl (lv_at hl 1 rfl) ?_
          obtain ⟨k34, hk34, hf⟩ := um_j1 hf
          have J34 : ∀ (x35 : Int32), k34 x35 = some σ' → ∀ (H : Heap) (locs : List Loc) (ls : Array Slot), um_W Z msh α σ32 H → va_S (um_D msh α) s.heap H locs → lv_has ls 3 [(0, .ref (α 0))] → um_G p l e (2) (46) s m args below meth c Z msh α σ' none H locs (F0 m 162 ls [.int x35, .ref (α 0)]) := by
            intro x35 hf H locs ls hW hS hl
            rw [hk34] at hf
            refine gP_X9_155 (pc := 162) Cx hW hS ms_0 rfl dX9_next_162 ?_
            clear hW hS
            intro H locs hW hS
            obtain ⟨σ36, e37, hf⟩ := um_le hf
            rw [← e37] at hW
            clear e37
            refine lv_aload_n (pc := 165) hx hb dX9_next_165 rfl (lv_at hl 0 rfl) ?_
            refine lv_aload_n (pc := 166) hx hb dX9_next_166 rfl (lv_at hl 0 rfl) ?_
            refine gF_X9_152 (pc := 167) Cx hW ms_0 rfl dX9_next_167 ?_
            refine lv_aload_n (pc := 170) hx hb dX9_next_170 rfl (lv_at hl 0 rfl) ?_
            refine gF_X9_158 (pc := 171) Cx hW ms_0 rfl dX9_next_171 ?_
            refine lv_isub (pc := 174) hx hb dX9_next_174 ?_
            refine lv_iconst (pc := 175) (v := (1 : Int32)) hx hb dX9_next_175 (by decide) ?_
            refine lv_icmp_ne (pc := 176) (tgt := 191) hx hb dX9_next_176 (by decide) (fun c1 => ?_) (fun c1 => ?_)
            · have hf := um_ie c1 hf
              clear c1
              refine lv_iconst (pc := 191) (v := (0 : Int32)) hx hb dX9_next_191 (by decide) ?_
              refine gP_X9_164 (pc := 192) Cx hW hS ms_0 rfl dX9_next_192 ?_
              clear hW hS
              intro H locs hW hS
              obtain ⟨σ38, e39, hf⟩ := um_le hf
              rw [← e39] at hW
              clear e39
              refine lv_goto (pc := 195) (tgt := 339) hx hb dX9_next_195 (by decide) ?_
              exact um_vret (pc := 339) Cx hW hS hf dX9_next_339
            · have hf := um_it c1 hf
              clear c1
              refine lv_aload_n (pc := 179) hx hb dX9_next_179 rfl (lv_at hl 0 rfl) ?_
              refine gF_X9_28 (pc := 180) Cx hW ms_0 rfl dX9_next_180 ?_
              refine lv_aload_n (pc := 183) hx hb dX9_next_183 rfl (lv_at hl 0 rfl) ?_
              refine gF_X9_158 (pc := 184) Cx hW ms_0 rfl dX9_next_184 ?_
              obtain ⟨g40, hf⟩ := um_gu hf
              refine um_iald (pc := 187) Cx hW ms_7 rfl (um_ix_in g40) dX9_next_187 ?_
              refine lv_goto (pc := 188) (tgt := 192) hx hb dX9_next_188 (by decide) ?_
              refine gP_X9_164 (pc := 192) Cx hW hS ms_0 rfl dX9_next_192 ?_
              clear hW hS
              intro H locs hW hS
              obtain ⟨σ41, e42, hf⟩ := um_le hf
              rw [← e42] at hW
              clear e42
              refine lv_goto (pc := 195) (tgt := 339) hx hb dX9_next_195 (by decide) ?_
              exact um_vret (pc := 339) Cx hW hS hf dX9_next_339
          refine lv_if_eq (pc := 154) (tgt := 161) hx hb dX9_next_154 (by decide) (fun c1 => ?_) (fun c1 => ?_)
          · have hf := um_it c1 hf
            clear c1
            refine lv_iconst (pc := 161) (v := (1 : Int32)) hx hb dX9_next_161 (by decide) ?_
            exact J34 (1 : Int32) hf _ _ _ hW hS (lv_sub hl [0] rfl)
          · have hf := um_ie c1 hf
            clear c1
            refine lv_iconst (pc := 157) (v := (4 : Int32)) hx hb dX9_next_157 (by decide) ?_
            refine lv_goto (pc := 158) (tgt := 162) hx hb dX9_next_158 (by decide) ?_
            exact J34 (4 : Int32) hf _ _ _ hW hS (lv_sub hl [0] rfl)
      · have hf := um_it c1 hf
        clear c1
        refine lv_aload_n (pc := 109) hx hb dX9_next_109 rfl (lv_at hl 1 rfl) ?_
        refine lv_iconst (pc := 110) (v := (0 : Int32)) hx hb dX9_next_110 (by decide) ?_
        refine gP_X9_155 (pc := 111) Cx hW hS ms_0 rfl dX9_next_111 ?_
        clear hW hS
        intro H locs hW hS
        obtain ⟨σ43, e44, hf⟩ := um_le hf
        rw [← e44] at hW
        clear e44
        refine lv_goto (pc := 114) (tgt := 339) hx hb dX9_next_114 (by decide) ?_
        exact um_vret (pc := 339) Cx hW hS hf dX9_next_339
    obtain ⟨k45, hk45, hf⟩ := um_j1 hf
    have J45 : ∀ (_u : Unit), k45 _u = some σ' → ∀ (H : Heap) (locs : List Loc) (ls : Array Slot), um_W Z msh α σ5 H → va_S (um_D msh α) s.heap H locs → lv_has ls 3 [(0, .ref (α 0))] → um_G p l e (2) (46) s m args below meth c Z msh α σ' none H locs (F0 m 88 ls []) := by
      intro _u hf H locs ls hW hS hl
      rw [hk45] at hf
      refine lv_iconst (pc := 88) (v := (0 : Int32)) hx hb dX9_next_88 (by decide) ?_
      exact J7 (0 : Int32) hf _ _ _ hW hS hl
    refine lv_if_eq (pc := 73) (tgt := 88) hx hb dX9_next_73 (by decide) (fun c1 => ?_) (fun c1 => ?_)
    · have hf := um_it c1 hf
      clear c1
      exact J45 () hf _ _ _ hW hS (lv_sub hl [0] rfl)
    · have hf := um_ie c1 hf
      clear c1
      refine lv_iload_n (pc := 76) hx hb dX9_next_76 rfl (lv_at hl 2 rfl) ?_
      refine lv_aload_n (pc := 77) hx hb dX9_next_77 rfl (lv_at hl 0 rfl) ?_
      refine gF_X9_152 (pc := 78) Cx hW ms_0 rfl dX9_next_78 ?_
      refine lv_icmp_ne (pc := 81) (tgt := 88) hx hb dX9_next_81 (by decide) (fun c1 => ?_) (fun c1 => ?_)
      · have hf := um_ie c1 hf
        clear c1
        exact J45 () hf _ _ _ hW hS (lv_sub hl [0] rfl)
      · have hf := um_it c1 hf
        clear c1
        refine lv_iconst (pc := 84) (v := (1 : Int32)) hx hb dX9_next_84 (by decide) ?_
        refine lv_goto (pc := 85) (tgt := 89) hx hb dX9_next_85 (by decide) ?_
        exact J7 (1 : Int32) hf _ _ _ hW hS (lv_sub hl [0] rfl)
  obtain ⟨k46, hk46, hf⟩ := um_j1 hf
  have J46 : ∀ (_u : Unit), k46 _u = some σ' → ∀ (H : Heap) (locs : List Loc) (ls : Array Slot), um_W Z msh α σ H → va_S (um_D msh α) s.heap H locs → lv_has ls 3 [(0, .ref (α 0))] → um_G p l e (2) (46) s m args below meth c Z msh α σ' none H locs (F0 m 27 ls []) := by
    intro _u hf H locs ls hW hS hl
    rw [hk46] at hf
    refine lv_iconst (pc := 27) (v := (0 : Int32)) hx hb dX9_next_27 (by decide) ?_
    exact J1 (0 : Int32) hf _ _ _ hW hS hl
  refine lv_if_le (pc := 4) (tgt := 27) hx hb dX9_next_4 (by decide) (fun c1 => ?_) (fun c1 => ?_)
  · have hf := um_it c1 hf
    clear c1
    exact J46 () hf _ _ _ hW hS hl
  · have hf := um_ie c1 hf
    clear c1
    refine lv_aload_n (pc := 7) hx hb dX9_next_7 rfl (lv_at hl 0 rfl) ?_
    refine gF_X9_155 (pc := 8) Cx hW ms_0 rfl dX9_next_8 ?_
    refine lv_iconst (pc := 11) (v := (1 : Int32)) hx hb dX9_next_11 (by decide) ?_
    obtain ⟨k47, hk47, hf⟩ := um_j1 hf
    have J47 : ∀ (_u : Unit), k47 _u = some σ' → ∀ (H : Heap) (locs : List Loc) (ls : Array Slot), um_W Z msh α σ H → va_S (um_D msh α) s.heap H locs → lv_has ls 3 [(0, .ref (α 0))] → um_G p l e (2) (46) s m args below meth c Z msh α σ' none H locs (F0 m 23 ls []) := by
      intro _u hf H locs ls hW hS hl
      rw [hk47] at hf
      refine lv_iconst (pc := 23) (v := (1 : Int32)) hx hb dX9_next_23 (by decide) ?_
      refine lv_goto (pc := 24) (tgt := 28) hx hb dX9_next_24 (by decide) ?_
      exact J1 (1 : Int32) hf _ _ _ hW hS hl
    refine lv_icmp_eq (pc := 12) (tgt := 23) hx hb dX9_next_12 (by decide) (fun c1 => ?_) (fun c1 => ?_)
    · have hf := um_it c1 hf
      clear c1
      exact J47 () hf _ _ _ hW hS hl
    · have hf := um_ie c1 hf
      clear c1
      refine lv_aload_n (pc := 15) hx hb dX9_next_15 rfl (lv_at hl 0 rfl) ?_
      refine gF_X9_155 (pc := 16) Cx hW ms_0 rfl dX9_next_16 ?_
      refine lv_iconst (pc := 19) (v := (2 : Int32)) hx hb dX9_next_19 (by decide) ?_
      refine lv_icmp_ne (pc := 20) (tgt := 27) hx hb dX9_next_20 (by decide) (fun c1 => ?_) (fun c1 => ?_)
      · have hf := um_ie c1 hf
        clear c1
        exact J46 () hf _ _ _ hW hS hl
      · have hf := um_it c1 hf
        clear c1
        exact J47 () hf _ _ _ hW hS hl
theorem c_X9_next {σ : um_S} {σ' : um_S}   (hf : f_X9_next σ = some σ') : um_M l yX9_next cX9_next 3 none (2) (46) Z msh α σ [.ref (α 0)] none σ' :=
  um_start (by decide) (Nat.le_of_ble_eq_true rfl) (fun p e s m below meth c ls Cx hW hS hl => b_X9_next hf Cx hW hS hl)
noncomputable def f_X9_step (a1 : Int32) (a2 : Int32) (σ : um_S) : Option (um_S) :=
if um_ix ((σ.1 0 17) + ((2 : Int32) * (σ.1 0 16))) 3790 then
(um_let (um_wr σ 1 ((σ.1 0 17) + ((2 : Int32) * (σ.1 0 16))).toNatClampNeg a1) fun σ2 =>
(if um_ix (((σ2.1 0 17) + ((2 : Int32) * (σ2.1 0 16))) + (1 : Int32)) 3790 then
(um_let (um_wr σ2 1 (((σ2.1 0 17) + ((2 : Int32) * (σ2.1 0 16))) + (1 : Int32)).toNatClampNeg a2) fun σ5 =>
(um_let (um_wr σ5 0 16 ((σ5.1 0 16) + (1 : Int32))) fun σ7 =>
(some σ7))) else none)) else none
set_option maxRecDepth 100000 in
set_option maxHeartbeats 4000000 in
theorem b_X9_step {H : Heap} {locs : List Loc} {ls : Array Slot} {σ : um_S} {σ' : um_S} (a1 : Int32) (a2 : Int32)  (hf : f_X9_step a1 a2 σ = some σ') (Cx : um_C p s m meth c args cX9_step 3 none RX9 Z) (hW : um_W Z msh α σ H) (hS : va_S (um_D msh α) s.heap H locs) (hl : lv_has ls 3 [(0, .ref (α 0)), (1, .int a1), (2, .int a2)]) : um_G p l e (0) (0) s m args below meth c Z msh α σ' none H locs (F0 m 0 ls []) := by
  have hx := Cx.1
  have hb := Cx.2.1
  have hown := Cx.2.2.2.2.1
  have hts := Cx.2.2.2.2.2.1
  rw [f_X9_step] at hf
  refine lv_aload_n (pc := 0) hx hb dX9_step_0 rfl (lv_at hl 0 rfl) ?_
  refine gF_X9_7 (pc := 1) Cx hW ms_0 rfl dX9_step_1 ?_
  refine lv_aload_n (pc := 4) hx hb dX9_step_4 rfl (lv_at hl 0 rfl) ?_
  refine gF_X9_181 (pc := 5) Cx hW ms_0 rfl dX9_step_5 ?_
  refine lv_iconst (pc := 8) (v := (2 : Int32)) hx hb dX9_step_8 (by decide) ?_
  refine lv_aload_n (pc := 9) hx hb dX9_step_9 rfl (lv_at hl 0 rfl) ?_
  refine gF_X9_184 (pc := 10) Cx hW ms_0 rfl dX9_step_10 ?_
  refine lv_imul (pc := 13) hx hb dX9_step_13 ?_
  refine lv_iadd (pc := 14) hx hb dX9_step_14 ?_
  refine lv_iload_n (pc := 15) hx hb dX9_step_15 rfl (lv_at hl 1 rfl) ?_
  obtain ⟨g1, hf⟩ := um_gu hf
  refine um_iast (pc := 16) Cx hW hS ms_1 rfl (um_ix_in g1) dX9_step_16 ?_
  clear hW hS
  intro H locs hW hS
  obtain ⟨σ2, e3, hf⟩ := um_le hf
  rw [← e3] at hW
  clear e3
  refine lv_aload_n (pc := 17) hx hb dX9_step_17 rfl (lv_at hl 0 rfl) ?_
  refine gF_X9_7 (pc := 18) Cx hW ms_0 rfl dX9_step_18 ?_
  refine lv_aload_n (pc := 21) hx hb dX9_step_21 rfl (lv_at hl 0 rfl) ?_
  refine gF_X9_181 (pc := 22) Cx hW ms_0 rfl dX9_step_22 ?_
  refine lv_iconst (pc := 25) (v := (2 : Int32)) hx hb dX9_step_25 (by decide) ?_
  refine lv_aload_n (pc := 26) hx hb dX9_step_26 rfl (lv_at hl 0 rfl) ?_
  refine gF_X9_184 (pc := 27) Cx hW ms_0 rfl dX9_step_27 ?_
  refine lv_imul (pc := 30) hx hb dX9_step_30 ?_
  refine lv_iadd (pc := 31) hx hb dX9_step_31 ?_
  refine lv_iconst (pc := 32) (v := (1 : Int32)) hx hb dX9_step_32 (by decide) ?_
  refine lv_iadd (pc := 33) hx hb dX9_step_33 ?_
  refine lv_iload_n (pc := 34) hx hb dX9_step_34 rfl (lv_at hl 2 rfl) ?_
  obtain ⟨g4, hf⟩ := um_gu hf
  refine um_iast (pc := 35) Cx hW hS ms_1 rfl (um_ix_in g4) dX9_step_35 ?_
  clear hW hS
  intro H locs hW hS
  obtain ⟨σ5, e6, hf⟩ := um_le hf
  rw [← e6] at hW
  clear e6
  refine lv_aload_n (pc := 36) hx hb dX9_step_36 rfl (lv_at hl 0 rfl) ?_
  refine lv_dup (pc := 37) hx hb dX9_step_37 rfl ?_
  refine gF_X9_184 (pc := 38) Cx hW ms_0 rfl dX9_step_38 ?_
  refine lv_iconst (pc := 41) (v := (1 : Int32)) hx hb dX9_step_41 (by decide) ?_
  refine lv_iadd (pc := 42) hx hb dX9_step_42 ?_
  refine gP_X9_184 (pc := 43) Cx hW hS ms_0 rfl dX9_step_43 ?_
  clear hW hS
  intro H locs hW hS
  obtain ⟨σ7, e8, hf⟩ := um_le hf
  rw [← e8] at hW
  clear e8
  exact um_vret (pc := 46) Cx hW hS hf dX9_step_46
theorem c_X9_step {σ : um_S} {σ' : um_S} (a1 : Int32) (a2 : Int32)  (hf : f_X9_step a1 a2 σ = some σ') : um_M l yX9_step cX9_step 3 none (0) (0) Z msh α σ [.ref (α 0), .int a1, .int a2] none σ' :=
  um_start (by decide) (Nat.le_of_ble_eq_true rfl) (fun p e s m below meth c ls Cx hW hS hl => b_X9_step a1 a2 hf Cx hW hS hl)
noncomputable def f_X9_term__l10 (P : Int32 → um_S → Option (Bool × um_S)) (v1 : Int32) : Nat → um_S → Option ((Bool × um_S) ⊕ (um_S))
  | 0, _ => none
  | n + 1, σ =>
(f_X9_isSign (42 : Int32) σ).bind fun x2 =>
(um_let (fun (_u : Unit) =>
(um_let (σ.1 0 13) fun x4 =>
((f_X9_next σ).bind fun σ7 =>
(um_b2 (P v1 σ7) fun x10 σ9 =>
(if (um_b x10) = 0 then
(some (.inl (false, σ9)))
else
((f_X9_step (2 : Int32) x4 σ9).bind fun σ12 =>
(f_X9_term__l10 P v1 n σ12))))))) fun k3 =>
(if (um_b x2) = 0 then
((f_X9_isSign (47 : Int32) σ).bind fun x14 =>
(if (um_b x14) = 0 then
(some (.inr σ))
else
(k3 ())))
else
(k3 ())))
noncomputable def f_X9_term_ (P : Int32 → um_S → Option (Bool × um_S)) (a1 : Int32) (σ : um_S) : Option (Bool × um_S) :=
um_b2 (P a1 σ) fun x3 σ2 =>
(if (um_b x3) = 0 then
(some (false, σ2))
else
(um_s1 (f_X9_term__l10 P a1 um_N σ2) fun σ4 =>
(some (true, σ4))))
set_option maxRecDepth 100000 in
set_option maxHeartbeats 4000000 in
theorem t_X9_term__l10 {σ' : um_S} {r : Bool} {out : (Bool × um_S) ⊕ (um_S)}  {P : Int32 → um_S → Option (Bool × um_S)} {FP LP : Nat} (hP : ∀ (a1 : Int32) (σ : um_S) (r : Bool) (σ' : um_S), P a1 σ = some (r, σ') → um_M l yX9_part0 cX9_part0 2 (some FieldType.boolean) FP LP Z msh α σ [.ref (α 0), .int a1] (some (.int (um_b r))) σ')  (v1 : Int32)  (Cx : um_C p s m meth c args cX9_term_ 3 (some FieldType.boolean) RX9 Z) (hR : ∀ a, out = .inl a → some a = some (r, σ')) (hE : ∀ (σo : um_S), out = .inr σo → ∀ (H : Heap) (locs : List Loc) (ls : Array Slot), um_W Z msh α σo H → va_S (um_D msh α) s.heap H locs → lv_has ls 3 [] → um_G p l e (FP + 1) (LP + 21) s m args below meth c Z msh α σ' (some (.int (um_b r))) H locs (F0 m 56 ls [])) : ∀ (n : Nat) (σ : um_S) (H : Heap) (locs : List Loc) (ls : Array Slot), f_X9_term__l10 P v1 n σ = some out → um_W Z msh α σ H → va_S (um_D msh α) s.heap H locs → lv_has ls 3 [(0, .ref (α 0)), (1, .int v1)] → um_G p l e (FP + 1) (LP + 21) s m args below meth c Z msh α σ' (some (.int (um_b r))) H locs (F0 m 10 ls []) := by
  have hx := Cx.1
  have hb := Cx.2.1
  have hown := Cx.2.2.2.2.1
  have hts := Cx.2.2.2.2.2.1
  intro n
  induction n with
  | zero =>
    intro σ H locs ls hf hW hS hl
    cases hf
  | succ n ih =>
    intro σ H locs ls hf hW hS hl
    rw [f_X9_term__l10] at hf
    refine lv_aload_n (pc := 10) hx hb dX9_term__10 rfl (lv_at hl 0 rfl) ?_
    refine lv_bipush (pc := 11) (v := (42 : Int32)) hx hb dX9_term__11 (by decide) ?_
    obtain ⟨x2, hc1, hf⟩ := um_bi hf
    refine um_cVi (pc := 13) (As := [.int (42 : Int32)]) (rest := []) Cx (c_X9_isSign (42 : Int32) hc1) kV_X9_isSign (Or.inl qM_X9_190) hW hS ms_0 rfl rfl hl rfl (Nat.le_of_ble_eq_true rfl) (by omega) (by omega) dX9_term__13 (Nat.le_refl _) (Nat.le_refl _) ?_
    clear hW hS hc1
    intro H locs hW hS
    obtain ⟨k3, hk3, hf⟩ := um_j1 hf
    have J3 : ∀ (_u : Unit), k3 _u = some out → ∀ (H : Heap) (locs : List Loc) (ls : Array Slot), um_W Z msh α σ H → va_S (um_D msh α) s.heap H locs → lv_has ls 3 [(0, .ref (α 0)), (1, .int v1)] → um_G p l e (FP + 1) (LP + 21) s m args below meth c Z msh α σ' (some (.int (um_b r))) H locs (F0 m 28 ls []) := by
      intro _u hf H locs ls hW hS hl
      rw [hk3] at hf
      refine lv_aload_n (pc := 28) hx hb dX9_term__28 rfl (lv_at hl 0 rfl) ?_
      refine gF_X9_164 (pc := 29) Cx hW ms_0 rfl dX9_term__29 ?_
      obtain ⟨x4, e5, hf⟩ := um_le hf
      refine um_top e5 ?_
      clear e5
      refine lv_istore_n (pc := 32) (lv' := [(2, .int x4), (0, .ref (α 0)), (1, .int v1)]) hx hb dX9_term__32 rfl hl (by decide) rfl ?_
      clear hl
      intro ls hl
      refine lv_aload_n (pc := 33) hx hb dX9_term__33 rfl (lv_at hl 1 rfl) ?_
      obtain ⟨σ7, hc6, hf⟩ := um_bi hf
      refine um_cVv (pc := 34) (As := []) (rest := []) Cx (c_X9_next hc6) kV_X9_next (Or.inl qM_X9_193) hW hS ms_0 rfl rfl hl rfl (Nat.le_of_ble_eq_true rfl) (by omega) (by omega) dX9_term__34 (Nat.le_refl _) (Nat.le_refl _) ?_
      clear hW hS hc6
      intro H locs hW hS
      refine lv_aload_n (pc := 37) hx hb dX9_term__37 rfl (lv_at hl 1 rfl) ?_
      refine lv_iload_n (pc := 38) hx hb dX9_term__38 rfl (lv_at hl 2 rfl) ?_
      obtain ⟨x10, σ9, hc8, hf⟩ := um_bi2 hf
      refine um_cVi (pc := 39) (As := [.int v1]) (rest := []) Cx (hP v1 _ _ _ hc8) kV_X9_part0 (Or.inl qM_X9_209) hW hS ms_0 rfl rfl hl rfl (Nat.le_of_ble_eq_true rfl) (by omega) (by omega) dX9_term__39 (Nat.le_refl _) (Nat.le_refl _) ?_
      clear hW hS hc8
      intro H locs hW hS
      refine lv_if_ne (pc := 42) (tgt := 47) hx hb dX9_term__42 (by decide) (fun c1 => ?_) (fun c1 => ?_)
      · have hf := um_ie c1 hf
        clear c1
        refine lv_aload_n (pc := 47) hx hb dX9_term__47 rfl (lv_at hl 1 rfl) ?_
        refine lv_iconst (pc := 48) (v := (2 : Int32)) hx hb dX9_term__48 (by decide) ?_
        refine lv_iload_n (pc := 49) hx hb dX9_term__49 rfl (lv_at hl 0 rfl) ?_
        obtain ⟨σ12, hc11, hf⟩ := um_bi hf
        refine um_cVv (pc := 50) (As := [.int (2 : Int32), .int x4]) (rest := []) Cx (c_X9_step (2 : Int32) x4 hc11) kV_X9_step (Or.inl qM_X9_196) hW hS ms_0 rfl rfl hl rfl (Nat.le_of_ble_eq_true rfl) (by omega) (by omega) dX9_term__50 (Nat.le_refl _) (Nat.le_refl _) ?_
        clear hW hS hc11
        intro H locs hW hS
        refine lv_goto (pc := 53) (tgt := 10) hx hb dX9_term__53 (by decide) ?_
        exact ih _ _ _ _ hf hW hS (lv_sub hl [1, 2] rfl)
      · have hf := um_it c1 hf
        clear c1
        refine lv_iconst (pc := 45) (v := (0 : Int32)) hx hb dX9_term__45 (by decide) ?_
        exact um_zret (pc := 46) Cx hW hS (hR _ (Option.some.inj hf).symm) rfl dX9_term__46
    refine lv_if_ne (pc := 16) (tgt := 28) hx hb dX9_term__16 (by decide) (fun c1 => ?_) (fun c1 => ?_)
    · have hf := um_ie c1 hf
      clear c1
      exact J3 () hf _ _ _ hW hS hl
    · have hf := um_it c1 hf
      clear c1
      refine lv_aload_n (pc := 19) hx hb dX9_term__19 rfl (lv_at hl 0 rfl) ?_
      refine lv_bipush (pc := 20) (v := (47 : Int32)) hx hb dX9_term__20 (by decide) ?_
      obtain ⟨x14, hc13, hf⟩ := um_bi hf
      refine um_cVi (pc := 22) (As := [.int (47 : Int32)]) (rest := []) Cx (c_X9_isSign (47 : Int32) hc13) kV_X9_isSign (Or.inl qM_X9_190) hW hS ms_0 rfl rfl hl rfl (Nat.le_of_ble_eq_true rfl) (by omega) (by omega) dX9_term__22 (Nat.le_refl _) (Nat.le_refl _) ?_
      clear hW hS hc13
      intro H locs hW hS
      refine lv_if_eq (pc := 25) (tgt := 56) hx hb dX9_term__25 (by decide) (fun c1 => ?_) (fun c1 => ?_)
      · have hf := um_it c1 hf
        clear c1
        exact hE _ (Option.some.inj hf).symm _ _ _ hW hS (lv_sub hl [] rfl)
      · have hf := um_ie c1 hf
        clear c1
        exact J3 () hf _ _ _ hW hS hl
set_option maxRecDepth 100000 in
set_option maxHeartbeats 4000000 in
theorem b_X9_term_ {H : Heap} {locs : List Loc} {ls : Array Slot} {σ : um_S} {σ' : um_S} {r : Bool} {P : Int32 → um_S → Option (Bool × um_S)} {FP LP : Nat} (hP : ∀ (a1 : Int32) (σ : um_S) (r : Bool) (σ' : um_S), P a1 σ = some (r, σ') → um_M l yX9_part0 cX9_part0 2 (some FieldType.boolean) FP LP Z msh α σ [.ref (α 0), .int a1] (some (.int (um_b r))) σ') (a1 : Int32)  (hf : f_X9_term_ P a1 σ = some (r, σ')) (Cx : um_C p s m meth c args cX9_term_ 3 (some FieldType.boolean) RX9 Z) (hW : um_W Z msh α σ H) (hS : va_S (um_D msh α) s.heap H locs) (hl : lv_has ls 3 [(0, .ref (α 0)), (1, .int a1)]) : um_G p l e (FP + 1) (LP + 21) s m args below meth c Z msh α σ' (some (.int (um_b r))) H locs (F0 m 0 ls []) := by
  have hx := Cx.1
  have hb := Cx.2.1
  have hown := Cx.2.2.2.2.1
  have hts := Cx.2.2.2.2.2.1
  rw [f_X9_term_] at hf
  refine lv_aload_n (pc := 0) hx hb dX9_term__0 rfl (lv_at hl 0 rfl) ?_
  refine lv_iload_n (pc := 1) hx hb dX9_term__1 rfl (lv_at hl 1 rfl) ?_
  obtain ⟨x3, σ2, hc1, hf⟩ := um_bi2 hf
  refine um_cVi (pc := 2) (As := [.int a1]) (rest := []) Cx (hP a1 _ _ _ hc1) kV_X9_part0 (Or.inl qM_X9_209) hW hS ms_0 rfl rfl hl rfl (Nat.le_of_ble_eq_true rfl) (by omega) (by omega) dX9_term__2 (Nat.le_refl _) (Nat.le_refl _) ?_
  clear hW hS hc1
  intro H locs hW hS
  refine lv_if_ne (pc := 5) (tgt := 10) hx hb dX9_term__5 (by decide) (fun c1 => ?_) (fun c1 => ?_)
  · have hf := um_ie c1 hf
    clear c1
    obtain ⟨q6, hc5, hr7, hg8⟩ := um_si1 hf
    refine t_X9_term__l10 hP a1 Cx hr7 ?_ um_N _ _ _ _ hc5 hW hS hl
    clear hW hS hl hc5
    intro σ4 hq9 H locs ls hW hS hl
    have hf := hg8 _ hq9
    refine lv_iconst (pc := 56) (v := (1 : Int32)) hx hb dX9_term__56 (by decide) ?_
    exact um_zret (pc := 57) Cx hW hS hf rfl dX9_term__57
  · have hf := um_it c1 hf
    clear c1
    refine lv_iconst (pc := 8) (v := (0 : Int32)) hx hb dX9_term__8 (by decide) ?_
    exact um_zret (pc := 9) Cx hW hS hf rfl dX9_term__9
theorem c_X9_term_ {σ : um_S} {σ' : um_S} {r : Bool} {P : Int32 → um_S → Option (Bool × um_S)} {FP LP : Nat} (hP : ∀ (a1 : Int32) (σ : um_S) (r : Bool) (σ' : um_S), P a1 σ = some (r, σ') → um_M l yX9_part0 cX9_part0 2 (some FieldType.boolean) FP LP Z msh α σ [.ref (α 0), .int a1] (some (.int (um_b r))) σ') (a1 : Int32)  (hf : f_X9_term_ P a1 σ = some (r, σ')) : um_M l yX9_term_ cX9_term_ 3 (some FieldType.boolean) (FP + 1) (LP + 21) Z msh α σ [.ref (α 0), .int a1] (some (.int (um_b r))) σ' :=
  um_start (by decide) (Nat.le_of_ble_eq_true rfl) (fun p e s m below meth c ls Cx hW hS hl => b_X9_term_ hP a1 hf Cx hW hS hl)
noncomputable def f_X9_sum_l10 (P : Int32 → um_S → Option (Bool × um_S)) (v1 : Int32) : Nat → um_S → Option ((Bool × um_S) ⊕ (um_S))
  | 0, _ => none
  | n + 1, σ =>
(f_X9_isSign (43 : Int32) σ).bind fun x2 =>
(um_let (fun (_u : Unit) =>
(um_let (σ.1 0 13) fun x4 =>
((f_X9_next σ).bind fun σ7 =>
(um_b2 (f_X9_term_ P v1 σ7) fun x10 σ9 =>
(if (um_b x10) = 0 then
(some (.inl (false, σ9)))
else
((f_X9_step (2 : Int32) x4 σ9).bind fun σ12 =>
(f_X9_sum_l10 P v1 n σ12))))))) fun k3 =>
(if (um_b x2) = 0 then
((f_X9_isSign (45 : Int32) σ).bind fun x14 =>
(if (um_b x14) = 0 then
(some (.inr σ))
else
(k3 ())))
else
(k3 ())))
noncomputable def f_X9_sum (P : Int32 → um_S → Option (Bool × um_S)) (a1 : Int32) (σ : um_S) : Option (Bool × um_S) :=
um_b2 (f_X9_term_ P a1 σ) fun x3 σ2 =>
(if (um_b x3) = 0 then
(some (false, σ2))
else
(um_s1 (f_X9_sum_l10 P a1 um_N σ2) fun σ4 =>
(some (true, σ4))))
set_option maxRecDepth 100000 in
set_option maxHeartbeats 4000000 in
theorem t_X9_sum_l10 {σ' : um_S} {r : Bool} {out : (Bool × um_S) ⊕ (um_S)}  {P : Int32 → um_S → Option (Bool × um_S)} {FP LP : Nat} (hP : ∀ (a1 : Int32) (σ : um_S) (r : Bool) (σ' : um_S), P a1 σ = some (r, σ') → um_M l yX9_part0 cX9_part0 2 (some FieldType.boolean) FP LP Z msh α σ [.ref (α 0), .int a1] (some (.int (um_b r))) σ')  (v1 : Int32)  (Cx : um_C p s m meth c args cX9_sum 3 (some FieldType.boolean) RX9 Z) (hR : ∀ a, out = .inl a → some a = some (r, σ')) (hE : ∀ (σo : um_S), out = .inr σo → ∀ (H : Heap) (locs : List Loc) (ls : Array Slot), um_W Z msh α σo H → va_S (um_D msh α) s.heap H locs → lv_has ls 3 [] → um_G p l e (FP + 2) (LP + 43) s m args below meth c Z msh α σ' (some (.int (um_b r))) H locs (F0 m 56 ls [])) : ∀ (n : Nat) (σ : um_S) (H : Heap) (locs : List Loc) (ls : Array Slot), f_X9_sum_l10 P v1 n σ = some out → um_W Z msh α σ H → va_S (um_D msh α) s.heap H locs → lv_has ls 3 [(0, .ref (α 0)), (1, .int v1)] → um_G p l e (FP + 2) (LP + 43) s m args below meth c Z msh α σ' (some (.int (um_b r))) H locs (F0 m 10 ls []) := by
  have hx := Cx.1
  have hb := Cx.2.1
  have hown := Cx.2.2.2.2.1
  have hts := Cx.2.2.2.2.2.1
  intro n
  induction n with
  | zero =>
    intro σ H locs ls hf hW hS hl
    cases hf
  | succ n ih =>
    intro σ H locs ls hf hW hS hl
    rw [f_X9_sum_l10] at hf
    refine lv_aload_n (pc := 10) hx hb dX9_sum_10 rfl (lv_at hl 0 rfl) ?_
    refine lv_bipush (pc := 11) (v := (43 : Int32)) hx hb dX9_sum_11 (by decide) ?_
    obtain ⟨x2, hc1, hf⟩ := um_bi hf
    refine um_cVi (pc := 13) (As := [.int (43 : Int32)]) (rest := []) Cx (c_X9_isSign (43 : Int32) hc1) kV_X9_isSign (Or.inl qM_X9_190) hW hS ms_0 rfl rfl hl rfl (Nat.le_of_ble_eq_true rfl) (by omega) (by omega) dX9_sum_13 (Nat.le_refl _) (Nat.le_refl _) ?_
    clear hW hS hc1
    intro H locs hW hS
    obtain ⟨k3, hk3, hf⟩ := um_j1 hf
    have J3 : ∀ (_u : Unit), k3 _u = some out → ∀ (H : Heap) (locs : List Loc) (ls : Array Slot), um_W Z msh α σ H → va_S (um_D msh α) s.heap H locs → lv_has ls 3 [(0, .ref (α 0)), (1, .int v1)] → um_G p l e (FP + 2) (LP + 43) s m args below meth c Z msh α σ' (some (.int (um_b r))) H locs (F0 m 28 ls []) := by
      intro _u hf H locs ls hW hS hl
      rw [hk3] at hf
      refine lv_aload_n (pc := 28) hx hb dX9_sum_28 rfl (lv_at hl 0 rfl) ?_
      refine gF_X9_164 (pc := 29) Cx hW ms_0 rfl dX9_sum_29 ?_
      obtain ⟨x4, e5, hf⟩ := um_le hf
      refine um_top e5 ?_
      clear e5
      refine lv_istore_n (pc := 32) (lv' := [(2, .int x4), (0, .ref (α 0)), (1, .int v1)]) hx hb dX9_sum_32 rfl hl (by decide) rfl ?_
      clear hl
      intro ls hl
      refine lv_aload_n (pc := 33) hx hb dX9_sum_33 rfl (lv_at hl 1 rfl) ?_
      obtain ⟨σ7, hc6, hf⟩ := um_bi hf
      refine um_cVv (pc := 34) (As := []) (rest := []) Cx (c_X9_next hc6) kV_X9_next (Or.inl qM_X9_193) hW hS ms_0 rfl rfl hl rfl (Nat.le_of_ble_eq_true rfl) (by omega) (by omega) dX9_sum_34 (Nat.le_refl _) (Nat.le_refl _) ?_
      clear hW hS hc6
      intro H locs hW hS
      refine lv_aload_n (pc := 37) hx hb dX9_sum_37 rfl (lv_at hl 1 rfl) ?_
      refine lv_iload_n (pc := 38) hx hb dX9_sum_38 rfl (lv_at hl 2 rfl) ?_
      obtain ⟨x10, σ9, hc8, hf⟩ := um_bi2 hf
      refine um_cVi (pc := 39) (As := [.int v1]) (rest := []) Cx (c_X9_term_ hP v1 hc8) kV_X9_term_ (Or.inl qM_X9_206) hW hS ms_0 rfl rfl hl rfl (Nat.le_of_ble_eq_true rfl) (by omega) (by omega) dX9_sum_39 (Nat.le_refl _) (Nat.le_refl _) ?_
      clear hW hS hc8
      intro H locs hW hS
      refine lv_if_ne (pc := 42) (tgt := 47) hx hb dX9_sum_42 (by decide) (fun c1 => ?_) (fun c1 => ?_)
      · have hf := um_ie c1 hf
        clear c1
        refine lv_aload_n (pc := 47) hx hb dX9_sum_47 rfl (lv_at hl 1 rfl) ?_
        refine lv_iconst (pc := 48) (v := (2 : Int32)) hx hb dX9_sum_48 (by decide) ?_
        refine lv_iload_n (pc := 49) hx hb dX9_sum_49 rfl (lv_at hl 0 rfl) ?_
        obtain ⟨σ12, hc11, hf⟩ := um_bi hf
        refine um_cVv (pc := 50) (As := [.int (2 : Int32), .int x4]) (rest := []) Cx (c_X9_step (2 : Int32) x4 hc11) kV_X9_step (Or.inl qM_X9_196) hW hS ms_0 rfl rfl hl rfl (Nat.le_of_ble_eq_true rfl) (by omega) (by omega) dX9_sum_50 (Nat.le_refl _) (Nat.le_refl _) ?_
        clear hW hS hc11
        intro H locs hW hS
        refine lv_goto (pc := 53) (tgt := 10) hx hb dX9_sum_53 (by decide) ?_
        exact ih _ _ _ _ hf hW hS (lv_sub hl [1, 2] rfl)
      · have hf := um_it c1 hf
        clear c1
        refine lv_iconst (pc := 45) (v := (0 : Int32)) hx hb dX9_sum_45 (by decide) ?_
        exact um_zret (pc := 46) Cx hW hS (hR _ (Option.some.inj hf).symm) rfl dX9_sum_46
    refine lv_if_ne (pc := 16) (tgt := 28) hx hb dX9_sum_16 (by decide) (fun c1 => ?_) (fun c1 => ?_)
    · have hf := um_ie c1 hf
      clear c1
      exact J3 () hf _ _ _ hW hS hl
    · have hf := um_it c1 hf
      clear c1
      refine lv_aload_n (pc := 19) hx hb dX9_sum_19 rfl (lv_at hl 0 rfl) ?_
      refine lv_bipush (pc := 20) (v := (45 : Int32)) hx hb dX9_sum_20 (by decide) ?_
      obtain ⟨x14, hc13, hf⟩ := um_bi hf
      refine um_cVi (pc := 22) (As := [.int (45 : Int32)]) (rest := []) Cx (c_X9_isSign (45 : Int32) hc13) kV_X9_isSign (Or.inl qM_X9_190) hW hS ms_0 rfl rfl hl rfl (Nat.le_of_ble_eq_true rfl) (by omega) (by omega) dX9_sum_22 (Nat.le_refl _) (Nat.le_refl _) ?_
      clear hW hS hc13
      intro H locs hW hS
      refine lv_if_eq (pc := 25) (tgt := 56) hx hb dX9_sum_25 (by decide) (fun c1 => ?_) (fun c1 => ?_)
      · have hf := um_it c1 hf
        clear c1
        exact hE _ (Option.some.inj hf).symm _ _ _ hW hS (lv_sub hl [] rfl)
      · have hf := um_ie c1 hf
        clear c1
        exact J3 () hf _ _ _ hW hS hl
set_option maxRecDepth 100000 in
set_option maxHeartbeats 4000000 in
theorem b_X9_sum {H : Heap} {locs : List Loc} {ls : Array Slot} {σ : um_S} {σ' : um_S} {r : Bool} {P : Int32 → um_S → Option (Bool × um_S)} {FP LP : Nat} (hP : ∀ (a1 : Int32) (σ : um_S) (r : Bool) (σ' : um_S), P a1 σ = some (r, σ') → um_M l yX9_part0 cX9_part0 2 (some FieldType.boolean) FP LP Z msh α σ [.ref (α 0), .int a1] (some (.int (um_b r))) σ') (a1 : Int32)  (hf : f_X9_sum P a1 σ = some (r, σ')) (Cx : um_C p s m meth c args cX9_sum 3 (some FieldType.boolean) RX9 Z) (hW : um_W Z msh α σ H) (hS : va_S (um_D msh α) s.heap H locs) (hl : lv_has ls 3 [(0, .ref (α 0)), (1, .int a1)]) : um_G p l e (FP + 2) (LP + 43) s m args below meth c Z msh α σ' (some (.int (um_b r))) H locs (F0 m 0 ls []) := by
  have hx := Cx.1
  have hb := Cx.2.1
  have hown := Cx.2.2.2.2.1
  have hts := Cx.2.2.2.2.2.1
  rw [f_X9_sum] at hf
  refine lv_aload_n (pc := 0) hx hb dX9_sum_0 rfl (lv_at hl 0 rfl) ?_
  refine lv_iload_n (pc := 1) hx hb dX9_sum_1 rfl (lv_at hl 1 rfl) ?_
  obtain ⟨x3, σ2, hc1, hf⟩ := um_bi2 hf
  refine um_cVi (pc := 2) (As := [.int a1]) (rest := []) Cx (c_X9_term_ hP a1 hc1) kV_X9_term_ (Or.inl qM_X9_206) hW hS ms_0 rfl rfl hl rfl (Nat.le_of_ble_eq_true rfl) (by omega) (by omega) dX9_sum_2 (Nat.le_refl _) (Nat.le_refl _) ?_
  clear hW hS hc1
  intro H locs hW hS
  refine lv_if_ne (pc := 5) (tgt := 10) hx hb dX9_sum_5 (by decide) (fun c1 => ?_) (fun c1 => ?_)
  · have hf := um_ie c1 hf
    clear c1
    obtain ⟨q6, hc5, hr7, hg8⟩ := um_si1 hf
    refine t_X9_sum_l10 hP a1 Cx hr7 ?_ um_N _ _ _ _ hc5 hW hS hl
    clear hW hS hl hc5
    intro σ4 hq9 H locs ls hW hS hl
    have hf := hg8 _ hq9
    refine lv_iconst (pc := 56) (v := (1 : Int32)) hx hb dX9_sum_56 (by decide) ?_
    exact um_zret (pc := 57) Cx hW hS hf rfl dX9_sum_57
  · have hf := um_it c1 hf
    clear c1
    refine lv_iconst (pc := 8) (v := (0 : Int32)) hx hb dX9_sum_8 (by decide) ?_
    exact um_zret (pc := 9) Cx hW hS hf rfl dX9_sum_9
theorem c_X9_sum {σ : um_S} {σ' : um_S} {r : Bool} {P : Int32 → um_S → Option (Bool × um_S)} {FP LP : Nat} (hP : ∀ (a1 : Int32) (σ : um_S) (r : Bool) (σ' : um_S), P a1 σ = some (r, σ') → um_M l yX9_part0 cX9_part0 2 (some FieldType.boolean) FP LP Z msh α σ [.ref (α 0), .int a1] (some (.int (um_b r))) σ') (a1 : Int32)  (hf : f_X9_sum P a1 σ = some (r, σ')) : um_M l yX9_sum cX9_sum 3 (some FieldType.boolean) (FP + 2) (LP + 43) Z msh α σ [.ref (α 0), .int a1] (some (.int (um_b r))) σ' :=
  um_start (by decide) (Nat.le_of_ble_eq_true rfl) (fun p e s m below meth c ls Cx hW hS hl => b_X9_sum hP a1 hf Cx hW hS hl)
noncomputable def f_X9_test (P : Int32 → um_S → Option (Bool × um_S)) (a1 : Int32) (σ : um_S) : Option (Bool × um_S) :=
um_b2 (f_X9_sum P a1 σ) fun x3 σ2 =>
(if (um_b x3) = 0 then
(some (false, σ2))
else
((f_X9_isSign (60 : Int32) σ2).bind fun x5 =>
(um_let (fun (_u : Unit) =>
(um_let (σ2.1 0 13) fun x7 =>
((f_X9_next σ2).bind fun σ10 =>
(um_b2 (f_X9_sum P a1 σ10) fun x13 σ12 =>
(if (um_b x13) = 0 then
(some (false, σ12))
else
((f_X9_step (2 : Int32) x7 σ12).bind fun σ15 =>
(some (true, σ15)))))))) fun k6 =>
(if (um_b x5) = 0 then
((f_X9_isSign (61 : Int32) σ2).bind fun x17 =>
(if (um_b x17) = 0 then
((f_X9_isSign (62 : Int32) σ2).bind fun x19 =>
(if (um_b x19) = 0 then
(some (true, σ2))
else
(k6 ())))
else
(k6 ())))
else
(k6 ())))))
set_option maxRecDepth 100000 in
set_option maxHeartbeats 4000000 in
theorem b_X9_test {H : Heap} {locs : List Loc} {ls : Array Slot} {σ : um_S} {σ' : um_S} {r : Bool} {P : Int32 → um_S → Option (Bool × um_S)} {FP LP : Nat} (hP : ∀ (a1 : Int32) (σ : um_S) (r : Bool) (σ' : um_S), P a1 σ = some (r, σ') → um_M l yX9_part0 cX9_part0 2 (some FieldType.boolean) FP LP Z msh α σ [.ref (α 0), .int a1] (some (.int (um_b r))) σ') (a1 : Int32)  (hf : f_X9_test P a1 σ = some (r, σ')) (Cx : um_C p s m meth c args cX9_test 3 (some FieldType.boolean) RX9 Z) (hW : um_W Z msh α σ H) (hS : va_S (um_D msh α) s.heap H locs) (hl : lv_has ls 3 [(0, .ref (α 0)), (1, .int a1)]) : um_G p l e (FP + 3) (LP + 65) s m args below meth c Z msh α σ' (some (.int (um_b r))) H locs (F0 m 0 ls []) := by
  have hx := Cx.1
  have hb := Cx.2.1
  have hown := Cx.2.2.2.2.1
  have hts := Cx.2.2.2.2.2.1
  rw [f_X9_test] at hf
  refine lv_aload_n (pc := 0) hx hb dX9_test_0 rfl (lv_at hl 0 rfl) ?_
  refine lv_iload_n (pc := 1) hx hb dX9_test_1 rfl (lv_at hl 1 rfl) ?_
  obtain ⟨x3, σ2, hc1, hf⟩ := um_bi2 hf
  refine um_cVi (pc := 2) (As := [.int a1]) (rest := []) Cx (c_X9_sum hP a1 hc1) kV_X9_sum (Or.inl qM_X9_203) hW hS ms_0 rfl rfl hl rfl (Nat.le_of_ble_eq_true rfl) (by omega) (by omega) dX9_test_2 (Nat.le_refl _) (Nat.le_refl _) ?_
  clear hW hS hc1
  intro H locs hW hS
  refine lv_if_ne (pc := 5) (tgt := 10) hx hb dX9_test_5 (by decide) (fun c1 => ?_) (fun c1 => ?_)
  · have hf := um_ie c1 hf
    clear c1
    refine lv_aload_n (pc := 10) hx hb dX9_test_10 rfl (lv_at hl 0 rfl) ?_
    refine lv_bipush (pc := 11) (v := (60 : Int32)) hx hb dX9_test_11 (by decide) ?_
    obtain ⟨x5, hc4, hf⟩ := um_bi hf
    refine um_cVi (pc := 13) (As := [.int (60 : Int32)]) (rest := []) Cx (c_X9_isSign (60 : Int32) hc4) kV_X9_isSign (Or.inl qM_X9_190) hW hS ms_0 rfl rfl hl rfl (Nat.le_of_ble_eq_true rfl) (by omega) (by omega) dX9_test_13 (Nat.le_refl _) (Nat.le_refl _) ?_
    clear hW hS hc4
    intro H locs hW hS
    obtain ⟨k6, hk6, hf⟩ := um_j1 hf
    have J6 : ∀ (_u : Unit), k6 _u = some (r, σ') → ∀ (H : Heap) (locs : List Loc) (ls : Array Slot), um_W Z msh α σ2 H → va_S (um_D msh α) s.heap H locs → lv_has ls 3 [(0, .ref (α 0)), (1, .int a1)] → um_G p l e (FP + 3) (LP + 65) s m args below meth c Z msh α σ' (some (.int (um_b r))) H locs (F0 m 37 ls []) := by
      intro _u hf H locs ls hW hS hl
      rw [hk6] at hf
      refine lv_aload_n (pc := 37) hx hb dX9_test_37 rfl (lv_at hl 0 rfl) ?_
      refine gF_X9_164 (pc := 38) Cx hW ms_0 rfl dX9_test_38 ?_
      obtain ⟨x7, e8, hf⟩ := um_le hf
      refine um_top e8 ?_
      clear e8
      refine lv_istore_n (pc := 41) (lv' := [(2, .int x7), (0, .ref (α 0)), (1, .int a1)]) hx hb dX9_test_41 rfl hl (by decide) rfl ?_
      clear hl
      intro ls hl
      refine lv_aload_n (pc := 42) hx hb dX9_test_42 rfl (lv_at hl 1 rfl) ?_
      obtain ⟨σ10, hc9, hf⟩ := um_bi hf
      refine um_cVv (pc := 43) (As := []) (rest := []) Cx (c_X9_next hc9) kV_X9_next (Or.inl qM_X9_193) hW hS ms_0 rfl rfl hl rfl (Nat.le_of_ble_eq_true rfl) (by omega) (by omega) dX9_test_43 (Nat.le_refl _) (Nat.le_refl _) ?_
      clear hW hS hc9
      intro H locs hW hS
      refine lv_aload_n (pc := 46) hx hb dX9_test_46 rfl (lv_at hl 1 rfl) ?_
      refine lv_iload_n (pc := 47) hx hb dX9_test_47 rfl (lv_at hl 2 rfl) ?_
      obtain ⟨x13, σ12, hc11, hf⟩ := um_bi2 hf
      refine um_cVi (pc := 48) (As := [.int a1]) (rest := []) Cx (c_X9_sum hP a1 hc11) kV_X9_sum (Or.inl qM_X9_203) hW hS ms_0 rfl rfl hl rfl (Nat.le_of_ble_eq_true rfl) (by omega) (by omega) dX9_test_48 (Nat.le_refl _) (Nat.le_refl _) ?_
      clear hW hS hc11
      intro H locs hW hS
      refine lv_if_ne (pc := 51) (tgt := 56) hx hb dX9_test_51 (by decide) (fun c1 => ?_) (fun c1 => ?_)
      · have hf := um_ie c1 hf
        clear c1
        refine lv_aload_n (pc := 56) hx hb dX9_test_56 rfl (lv_at hl 1 rfl) ?_
        refine lv_iconst (pc := 57) (v := (2 : Int32)) hx hb dX9_test_57 (by decide) ?_
        refine lv_iload_n (pc := 58) hx hb dX9_test_58 rfl (lv_at hl 0 rfl) ?_
        obtain ⟨σ15, hc14, hf⟩ := um_bi hf
        refine um_cVv (pc := 59) (As := [.int (2 : Int32), .int x7]) (rest := []) Cx (c_X9_step (2 : Int32) x7 hc14) kV_X9_step (Or.inl qM_X9_196) hW hS ms_0 rfl rfl hl rfl (Nat.le_of_ble_eq_true rfl) (by omega) (by omega) dX9_test_59 (Nat.le_refl _) (Nat.le_refl _) ?_
        clear hW hS hc14
        intro H locs hW hS
        refine lv_iconst (pc := 62) (v := (1 : Int32)) hx hb dX9_test_62 (by decide) ?_
        exact um_zret (pc := 63) Cx hW hS hf rfl dX9_test_63
      · have hf := um_it c1 hf
        clear c1
        refine lv_iconst (pc := 54) (v := (0 : Int32)) hx hb dX9_test_54 (by decide) ?_
        exact um_zret (pc := 55) Cx hW hS hf rfl dX9_test_55
    refine lv_if_ne (pc := 16) (tgt := 37) hx hb dX9_test_16 (by decide) (fun c1 => ?_) (fun c1 => ?_)
    · have hf := um_ie c1 hf
      clear c1
      exact J6 () hf _ _ _ hW hS hl
    · have hf := um_it c1 hf
      clear c1
      refine lv_aload_n (pc := 19) hx hb dX9_test_19 rfl (lv_at hl 0 rfl) ?_
      refine lv_bipush (pc := 20) (v := (61 : Int32)) hx hb dX9_test_20 (by decide) ?_
      obtain ⟨x17, hc16, hf⟩ := um_bi hf
      refine um_cVi (pc := 22) (As := [.int (61 : Int32)]) (rest := []) Cx (c_X9_isSign (61 : Int32) hc16) kV_X9_isSign (Or.inl qM_X9_190) hW hS ms_0 rfl rfl hl rfl (Nat.le_of_ble_eq_true rfl) (by omega) (by omega) dX9_test_22 (Nat.le_refl _) (Nat.le_refl _) ?_
      clear hW hS hc16
      intro H locs hW hS
      refine lv_if_ne (pc := 25) (tgt := 37) hx hb dX9_test_25 (by decide) (fun c1 => ?_) (fun c1 => ?_)
      · have hf := um_ie c1 hf
        clear c1
        exact J6 () hf _ _ _ hW hS hl
      · have hf := um_it c1 hf
        clear c1
        refine lv_aload_n (pc := 28) hx hb dX9_test_28 rfl (lv_at hl 0 rfl) ?_
        refine lv_bipush (pc := 29) (v := (62 : Int32)) hx hb dX9_test_29 (by decide) ?_
        obtain ⟨x19, hc18, hf⟩ := um_bi hf
        refine um_cVi (pc := 31) (As := [.int (62 : Int32)]) (rest := []) Cx (c_X9_isSign (62 : Int32) hc18) kV_X9_isSign (Or.inl qM_X9_190) hW hS ms_0 rfl rfl hl rfl (Nat.le_of_ble_eq_true rfl) (by omega) (by omega) dX9_test_31 (Nat.le_refl _) (Nat.le_refl _) ?_
        clear hW hS hc18
        intro H locs hW hS
        refine lv_if_eq (pc := 34) (tgt := 62) hx hb dX9_test_34 (by decide) (fun c1 => ?_) (fun c1 => ?_)
        · have hf := um_it c1 hf
          clear c1
          refine lv_iconst (pc := 62) (v := (1 : Int32)) hx hb dX9_test_62 (by decide) ?_
          exact um_zret (pc := 63) Cx hW hS hf rfl dX9_test_63
        · have hf := um_ie c1 hf
          clear c1
          exact J6 () hf _ _ _ hW hS hl
  · have hf := um_it c1 hf
    clear c1
    refine lv_iconst (pc := 8) (v := (0 : Int32)) hx hb dX9_test_8 (by decide) ?_
    exact um_zret (pc := 9) Cx hW hS hf rfl dX9_test_9
theorem c_X9_test {σ : um_S} {σ' : um_S} {r : Bool} {P : Int32 → um_S → Option (Bool × um_S)} {FP LP : Nat} (hP : ∀ (a1 : Int32) (σ : um_S) (r : Bool) (σ' : um_S), P a1 σ = some (r, σ') → um_M l yX9_part0 cX9_part0 2 (some FieldType.boolean) FP LP Z msh α σ [.ref (α 0), .int a1] (some (.int (um_b r))) σ') (a1 : Int32)  (hf : f_X9_test P a1 σ = some (r, σ')) : um_M l yX9_test cX9_test 3 (some FieldType.boolean) (FP + 3) (LP + 65) Z msh α σ [.ref (α 0), .int a1] (some (.int (um_b r))) σ' :=
  um_start (by decide) (Nat.le_of_ble_eq_true rfl) (fun p e s m below meth c ls Cx hW hS hl => b_X9_test hP a1 hf Cx hW hS hl)
noncomputable def f_X9_both_l10 (P : Int32 → um_S → Option (Bool × um_S)) (v1 : Int32) : Nat → um_S → Option ((Bool × um_S) ⊕ (um_S))
  | 0, _ => none
  | n + 1, σ =>
(f_X9_isSign (38 : Int32) σ).bind fun x2 =>
(if (um_b x2) = 0 then
(some (.inr σ))
else
((f_X9_next σ).bind fun σ4 =>
(um_b2 (f_X9_test P v1 σ4) fun x7 σ6 =>
(if (um_b x7) = 0 then
(some (.inl (false, σ6)))
else
((f_X9_step (2 : Int32) (38 : Int32) σ6).bind fun σ9 =>
(f_X9_both_l10 P v1 n σ9))))))
noncomputable def f_X9_both (P : Int32 → um_S → Option (Bool × um_S)) (a1 : Int32) (σ : um_S) : Option (Bool × um_S) :=
um_b2 (f_X9_test P a1 σ) fun x3 σ2 =>
(if (um_b x3) = 0 then
(some (false, σ2))
else
(um_s1 (f_X9_both_l10 P a1 um_N σ2) fun σ4 =>
(some (true, σ4))))
set_option maxRecDepth 100000 in
set_option maxHeartbeats 4000000 in
theorem t_X9_both_l10 {σ' : um_S} {r : Bool} {out : (Bool × um_S) ⊕ (um_S)}  {P : Int32 → um_S → Option (Bool × um_S)} {FP LP : Nat} (hP : ∀ (a1 : Int32) (σ : um_S) (r : Bool) (σ' : um_S), P a1 σ = some (r, σ') → um_M l yX9_part0 cX9_part0 2 (some FieldType.boolean) FP LP Z msh α σ [.ref (α 0), .int a1] (some (.int (um_b r))) σ')  (v1 : Int32)  (Cx : um_C p s m meth c args cX9_both 2 (some FieldType.boolean) RX9 Z) (hR : ∀ a, out = .inl a → some a = some (r, σ')) (hE : ∀ (σo : um_S), out = .inr σo → ∀ (H : Heap) (locs : List Loc) (ls : Array Slot), um_W Z msh α σo H → va_S (um_D msh α) s.heap H locs → lv_has ls 2 [] → um_G p l e (FP + 4) (LP + 87) s m args below meth c Z msh α σ' (some (.int (um_b r))) H locs (F0 m 43 ls [])) : ∀ (n : Nat) (σ : um_S) (H : Heap) (locs : List Loc) (ls : Array Slot), f_X9_both_l10 P v1 n σ = some out → um_W Z msh α σ H → va_S (um_D msh α) s.heap H locs → lv_has ls 2 [(0, .ref (α 0)), (1, .int v1)] → um_G p l e (FP + 4) (LP + 87) s m args below meth c Z msh α σ' (some (.int (um_b r))) H locs (F0 m 10 ls []) := by
  have hx := Cx.1
  have hb := Cx.2.1
  have hown := Cx.2.2.2.2.1
  have hts := Cx.2.2.2.2.2.1
  intro n
  induction n with
  | zero =>
    intro σ H locs ls hf hW hS hl
    cases hf
  | succ n ih =>
    intro σ H locs ls hf hW hS hl
    rw [f_X9_both_l10] at hf
    refine lv_aload_n (pc := 10) hx hb dX9_both_10 rfl (lv_at hl 0 rfl) ?_
    refine lv_bipush (pc := 11) (v := (38 : Int32)) hx hb dX9_both_11 (by decide) ?_
    obtain ⟨x2, hc1, hf⟩ := um_bi hf
    refine um_cVi (pc := 13) (As := [.int (38 : Int32)]) (rest := []) Cx (c_X9_isSign (38 : Int32) hc1) kV_X9_isSign (Or.inl qM_X9_190) hW hS ms_0 rfl rfl hl rfl (Nat.le_of_ble_eq_true rfl) (by omega) (by omega) dX9_both_13 (Nat.le_refl _) (Nat.le_refl _) ?_
    clear hW hS hc1
    intro H locs hW hS
    refine lv_if_eq (pc := 16) (tgt := 43) hx hb dX9_both_16 (by decide) (fun c1 => ?_) (fun c1 => ?_)
    · have hf := um_it c1 hf
      clear c1
      exact hE _ (Option.some.inj hf).symm _ _ _ hW hS (lv_sub hl [] rfl)
    · have hf := um_ie c1 hf
      clear c1
      refine lv_aload_n (pc := 19) hx hb dX9_both_19 rfl (lv_at hl 0 rfl) ?_
      obtain ⟨σ4, hc3, hf⟩ := um_bi hf
      refine um_cVv (pc := 20) (As := []) (rest := []) Cx (c_X9_next hc3) kV_X9_next (Or.inl qM_X9_193) hW hS ms_0 rfl rfl hl rfl (Nat.le_of_ble_eq_true rfl) (by omega) (by omega) dX9_both_20 (Nat.le_refl _) (Nat.le_refl _) ?_
      clear hW hS hc3
      intro H locs hW hS
      refine lv_aload_n (pc := 23) hx hb dX9_both_23 rfl (lv_at hl 0 rfl) ?_
      refine lv_iload_n (pc := 24) hx hb dX9_both_24 rfl (lv_at hl 1 rfl) ?_
      obtain ⟨x7, σ6, hc5, hf⟩ := um_bi2 hf
      refine um_cVi (pc := 25) (As := [.int v1]) (rest := []) Cx (c_X9_test hP v1 hc5) kV_X9_test (Or.inl qM_X9_200) hW hS ms_0 rfl rfl hl rfl (Nat.le_of_ble_eq_true rfl) (by omega) (by omega) dX9_both_25 (Nat.le_refl _) (Nat.le_refl _) ?_
      clear hW hS hc5
      intro H locs hW hS
      refine lv_if_ne (pc := 28) (tgt := 33) hx hb dX9_both_28 (by decide) (fun c1 => ?_) (fun c1 => ?_)
      · have hf := um_ie c1 hf
        clear c1
        refine lv_aload_n (pc := 33) hx hb dX9_both_33 rfl (lv_at hl 0 rfl) ?_
        refine lv_iconst (pc := 34) (v := (2 : Int32)) hx hb dX9_both_34 (by decide) ?_
        refine lv_bipush (pc := 35) (v := (38 : Int32)) hx hb dX9_both_35 (by decide) ?_
        obtain ⟨σ9, hc8, hf⟩ := um_bi hf
        refine um_cVv (pc := 37) (As := [.int (2 : Int32), .int (38 : Int32)]) (rest := []) Cx (c_X9_step (2 : Int32) (38 : Int32) hc8) kV_X9_step (Or.inl qM_X9_196) hW hS ms_0 rfl rfl hl rfl (Nat.le_of_ble_eq_true rfl) (by omega) (by omega) dX9_both_37 (Nat.le_refl _) (Nat.le_refl _) ?_
        clear hW hS hc8
        intro H locs hW hS
        refine lv_goto (pc := 40) (tgt := 10) hx hb dX9_both_40 (by decide) ?_
        exact ih _ _ _ _ hf hW hS hl
      · have hf := um_it c1 hf
        clear c1
        refine lv_iconst (pc := 31) (v := (0 : Int32)) hx hb dX9_both_31 (by decide) ?_
        exact um_zret (pc := 32) Cx hW hS (hR _ (Option.some.inj hf).symm) rfl dX9_both_32
set_option maxRecDepth 100000 in
set_option maxHeartbeats 4000000 in
theorem b_X9_both {H : Heap} {locs : List Loc} {ls : Array Slot} {σ : um_S} {σ' : um_S} {r : Bool} {P : Int32 → um_S → Option (Bool × um_S)} {FP LP : Nat} (hP : ∀ (a1 : Int32) (σ : um_S) (r : Bool) (σ' : um_S), P a1 σ = some (r, σ') → um_M l yX9_part0 cX9_part0 2 (some FieldType.boolean) FP LP Z msh α σ [.ref (α 0), .int a1] (some (.int (um_b r))) σ') (a1 : Int32)  (hf : f_X9_both P a1 σ = some (r, σ')) (Cx : um_C p s m meth c args cX9_both 2 (some FieldType.boolean) RX9 Z) (hW : um_W Z msh α σ H) (hS : va_S (um_D msh α) s.heap H locs) (hl : lv_has ls 2 [(0, .ref (α 0)), (1, .int a1)]) : um_G p l e (FP + 4) (LP + 87) s m args below meth c Z msh α σ' (some (.int (um_b r))) H locs (F0 m 0 ls []) := by
  have hx := Cx.1
  have hb := Cx.2.1
  have hown := Cx.2.2.2.2.1
  have hts := Cx.2.2.2.2.2.1
  rw [f_X9_both] at hf
  refine lv_aload_n (pc := 0) hx hb dX9_both_0 rfl (lv_at hl 0 rfl) ?_
  refine lv_iload_n (pc := 1) hx hb dX9_both_1 rfl (lv_at hl 1 rfl) ?_
  obtain ⟨x3, σ2, hc1, hf⟩ := um_bi2 hf
  refine um_cVi (pc := 2) (As := [.int a1]) (rest := []) Cx (c_X9_test hP a1 hc1) kV_X9_test (Or.inl qM_X9_200) hW hS ms_0 rfl rfl hl rfl (Nat.le_of_ble_eq_true rfl) (by omega) (by omega) dX9_both_2 (Nat.le_refl _) (Nat.le_refl _) ?_
  clear hW hS hc1
  intro H locs hW hS
  refine lv_if_ne (pc := 5) (tgt := 10) hx hb dX9_both_5 (by decide) (fun c1 => ?_) (fun c1 => ?_)
  · have hf := um_ie c1 hf
    clear c1
    obtain ⟨q6, hc5, hr7, hg8⟩ := um_si1 hf
    refine t_X9_both_l10 hP a1 Cx hr7 ?_ um_N _ _ _ _ hc5 hW hS hl
    clear hW hS hl hc5
    intro σ4 hq9 H locs ls hW hS hl
    have hf := hg8 _ hq9
    refine lv_iconst (pc := 43) (v := (1 : Int32)) hx hb dX9_both_43 (by decide) ?_
    exact um_zret (pc := 44) Cx hW hS hf rfl dX9_both_44
  · have hf := um_it c1 hf
    clear c1
    refine lv_iconst (pc := 8) (v := (0 : Int32)) hx hb dX9_both_8 (by decide) ?_
    exact um_zret (pc := 9) Cx hW hS hf rfl dX9_both_9
theorem c_X9_both {σ : um_S} {σ' : um_S} {r : Bool} {P : Int32 → um_S → Option (Bool × um_S)} {FP LP : Nat} (hP : ∀ (a1 : Int32) (σ : um_S) (r : Bool) (σ' : um_S), P a1 σ = some (r, σ') → um_M l yX9_part0 cX9_part0 2 (some FieldType.boolean) FP LP Z msh α σ [.ref (α 0), .int a1] (some (.int (um_b r))) σ') (a1 : Int32)  (hf : f_X9_both P a1 σ = some (r, σ')) : um_M l yX9_both cX9_both 2 (some FieldType.boolean) (FP + 4) (LP + 87) Z msh α σ [.ref (α 0), .int a1] (some (.int (um_b r))) σ' :=
  um_start (by decide) (Nat.le_of_ble_eq_true rfl) (fun p e s m below meth c ls Cx hW hS hl => b_X9_both hP a1 hf Cx hW hS hl)
noncomputable def f_X9_either_l10 (P : Int32 → um_S → Option (Bool × um_S)) (v1 : Int32) : Nat → um_S → Option ((Bool × um_S) ⊕ (um_S))
  | 0, _ => none
  | n + 1, σ =>
(f_X9_isSign (124 : Int32) σ).bind fun x2 =>
(if (um_b x2) = 0 then
(some (.inr σ))
else
((f_X9_next σ).bind fun σ4 =>
(um_b2 (f_X9_both P v1 σ4) fun x7 σ6 =>
(if (um_b x7) = 0 then
(some (.inl (false, σ6)))
else
((f_X9_step (2 : Int32) (124 : Int32) σ6).bind fun σ9 =>
(f_X9_either_l10 P v1 n σ9))))))
noncomputable def f_X9_either (P : Int32 → um_S → Option (Bool × um_S)) (a1 : Int32) (σ : um_S) : Option (Bool × um_S) :=
um_b2 (f_X9_both P a1 σ) fun x3 σ2 =>
(if (um_b x3) = 0 then
(some (false, σ2))
else
(um_s1 (f_X9_either_l10 P a1 um_N σ2) fun σ4 =>
(some (true, σ4))))
set_option maxRecDepth 100000 in
set_option maxHeartbeats 4000000 in
theorem t_X9_either_l10 {σ' : um_S} {r : Bool} {out : (Bool × um_S) ⊕ (um_S)}  {P : Int32 → um_S → Option (Bool × um_S)} {FP LP : Nat} (hP : ∀ (a1 : Int32) (σ : um_S) (r : Bool) (σ' : um_S), P a1 σ = some (r, σ') → um_M l yX9_part0 cX9_part0 2 (some FieldType.boolean) FP LP Z msh α σ [.ref (α 0), .int a1] (some (.int (um_b r))) σ')  (v1 : Int32)  (Cx : um_C p s m meth c args cX9_either 2 (some FieldType.boolean) RX9 Z) (hR : ∀ a, out = .inl a → some a = some (r, σ')) (hE : ∀ (σo : um_S), out = .inr σo → ∀ (H : Heap) (locs : List Loc) (ls : Array Slot), um_W Z msh α σo H → va_S (um_D msh α) s.heap H locs → lv_has ls 2 [] → um_G p l e (FP + 5) (LP + 108) s m args below meth c Z msh α σ' (some (.int (um_b r))) H locs (F0 m 43 ls [])) : ∀ (n : Nat) (σ : um_S) (H : Heap) (locs : List Loc) (ls : Array Slot), f_X9_either_l10 P v1 n σ = some out → um_W Z msh α σ H → va_S (um_D msh α) s.heap H locs → lv_has ls 2 [(0, .ref (α 0)), (1, .int v1)] → um_G p l e (FP + 5) (LP + 108) s m args below meth c Z msh α σ' (some (.int (um_b r))) H locs (F0 m 10 ls []) := by
  have hx := Cx.1
  have hb := Cx.2.1
  have hown := Cx.2.2.2.2.1
  have hts := Cx.2.2.2.2.2.1
  intro n
  induction n with
  | zero =>
    intro σ H locs ls hf hW hS hl
    cases hf
  | succ n ih =>
    intro σ H locs ls hf hW hS hl
    rw [f_X9_either_l10] at hf
    refine lv_aload_n (pc := 10) hx hb dX9_either_10 rfl (lv_at hl 0 rfl) ?_
    refine lv_bipush (pc := 11) (v := (124 : Int32)) hx hb dX9_either_11 (by decide) ?_
    obtain ⟨x2, hc1, hf⟩ := um_bi hf
    refine um_cVi (pc := 13) (As := [.int (124 : Int32)]) (rest := []) Cx (c_X9_isSign (124 : Int32) hc1) kV_X9_isSign (Or.inl qM_X9_190) hW hS ms_0 rfl rfl hl rfl (Nat.le_of_ble_eq_true rfl) (by omega) (by omega) dX9_either_13 (Nat.le_refl _) (Nat.le_refl _) ?_
    clear hW hS hc1
    intro H locs hW hS
    refine lv_if_eq (pc := 16) (tgt := 43) hx hb dX9_either_16 (by decide) (fun c1 => ?_) (fun c1 => ?_)
    · have hf := um_it c1 hf
      clear c1
      exact hE _ (Option.some.inj hf).symm _ _ _ hW hS (lv_sub hl [] rfl)
    · have hf := um_ie c1 hf
      clear c1
      refine lv_aload_n (pc := 19) hx hb dX9_either_19 rfl (lv_at hl 0 rfl) ?_
      obtain ⟨σ4, hc3, hf⟩ := um_bi hf
      refine um_cVv (pc := 20) (As := []) (rest := []) Cx (c_X9_next hc3) kV_X9_next (Or.inl qM_X9_193) hW hS ms_0 rfl rfl hl rfl (Nat.le_of_ble_eq_true rfl) (by omega) (by omega) dX9_either_20 (Nat.le_refl _) (Nat.le_refl _) ?_
      clear hW hS hc3
      intro H locs hW hS
      refine lv_aload_n (pc := 23) hx hb dX9_either_23 rfl (lv_at hl 0 rfl) ?_
      refine lv_iload_n (pc := 24) hx hb dX9_either_24 rfl (lv_at hl 1 rfl) ?_
      obtain ⟨x7, σ6, hc5, hf⟩ := um_bi2 hf
      refine um_cVi (pc := 25) (As := [.int v1]) (rest := []) Cx (c_X9_both hP v1 hc5) kV_X9_both (Or.inl qM_X9_187) hW hS ms_0 rfl rfl hl rfl (Nat.le_of_ble_eq_true rfl) (by omega) (by omega) dX9_either_25 (Nat.le_refl _) (Nat.le_refl _) ?_
      clear hW hS hc5
      intro H locs hW hS
      refine lv_if_ne (pc := 28) (tgt := 33) hx hb dX9_either_28 (by decide) (fun c1 => ?_) (fun c1 => ?_)
      · have hf := um_ie c1 hf
        clear c1
        refine lv_aload_n (pc := 33) hx hb dX9_either_33 rfl (lv_at hl 0 rfl) ?_
        refine lv_iconst (pc := 34) (v := (2 : Int32)) hx hb dX9_either_34 (by decide) ?_
        refine lv_bipush (pc := 35) (v := (124 : Int32)) hx hb dX9_either_35 (by decide) ?_
        obtain ⟨σ9, hc8, hf⟩ := um_bi hf
        refine um_cVv (pc := 37) (As := [.int (2 : Int32), .int (124 : Int32)]) (rest := []) Cx (c_X9_step (2 : Int32) (124 : Int32) hc8) kV_X9_step (Or.inl qM_X9_196) hW hS ms_0 rfl rfl hl rfl (Nat.le_of_ble_eq_true rfl) (by omega) (by omega) dX9_either_37 (Nat.le_refl _) (Nat.le_refl _) ?_
        clear hW hS hc8
        intro H locs hW hS
        refine lv_goto (pc := 40) (tgt := 10) hx hb dX9_either_40 (by decide) ?_
        exact ih _ _ _ _ hf hW hS hl
      · have hf := um_it c1 hf
        clear c1
        refine lv_iconst (pc := 31) (v := (0 : Int32)) hx hb dX9_either_31 (by decide) ?_
        exact um_zret (pc := 32) Cx hW hS (hR _ (Option.some.inj hf).symm) rfl dX9_either_32
set_option maxRecDepth 100000 in
set_option maxHeartbeats 4000000 in
theorem b_X9_either {H : Heap} {locs : List Loc} {ls : Array Slot} {σ : um_S} {σ' : um_S} {r : Bool} {P : Int32 → um_S → Option (Bool × um_S)} {FP LP : Nat} (hP : ∀ (a1 : Int32) (σ : um_S) (r : Bool) (σ' : um_S), P a1 σ = some (r, σ') → um_M l yX9_part0 cX9_part0 2 (some FieldType.boolean) FP LP Z msh α σ [.ref (α 0), .int a1] (some (.int (um_b r))) σ') (a1 : Int32)  (hf : f_X9_either P a1 σ = some (r, σ')) (Cx : um_C p s m meth c args cX9_either 2 (some FieldType.boolean) RX9 Z) (hW : um_W Z msh α σ H) (hS : va_S (um_D msh α) s.heap H locs) (hl : lv_has ls 2 [(0, .ref (α 0)), (1, .int a1)]) : um_G p l e (FP + 5) (LP + 108) s m args below meth c Z msh α σ' (some (.int (um_b r))) H locs (F0 m 0 ls []) := by
  have hx := Cx.1
  have hb := Cx.2.1
  have hown := Cx.2.2.2.2.1
  have hts := Cx.2.2.2.2.2.1
  rw [f_X9_either] at hf
  refine lv_aload_n (pc := 0) hx hb dX9_either_0 rfl (lv_at hl 0 rfl) ?_
  refine lv_iload_n (pc := 1) hx hb dX9_either_1 rfl (lv_at hl 1 rfl) ?_
  obtain ⟨x3, σ2, hc1, hf⟩ := um_bi2 hf
  refine um_cVi (pc := 2) (As := [.int a1]) (rest := []) Cx (c_X9_both hP a1 hc1) kV_X9_both (Or.inl qM_X9_187) hW hS ms_0 rfl rfl hl rfl (Nat.le_of_ble_eq_true rfl) (by omega) (by omega) dX9_either_2 (Nat.le_refl _) (Nat.le_refl _) ?_
  clear hW hS hc1
  intro H locs hW hS
  refine lv_if_ne (pc := 5) (tgt := 10) hx hb dX9_either_5 (by decide) (fun c1 => ?_) (fun c1 => ?_)
  · have hf := um_ie c1 hf
    clear c1
    obtain ⟨q6, hc5, hr7, hg8⟩ := um_si1 hf
    refine t_X9_either_l10 hP a1 Cx hr7 ?_ um_N _ _ _ _ hc5 hW hS hl
    clear hW hS hl hc5
    intro σ4 hq9 H locs ls hW hS hl
    have hf := hg8 _ hq9
    refine lv_iconst (pc := 43) (v := (1 : Int32)) hx hb dX9_either_43 (by decide) ?_
    exact um_zret (pc := 44) Cx hW hS hf rfl dX9_either_44
  · have hf := um_it c1 hf
    clear c1
    refine lv_iconst (pc := 8) (v := (0 : Int32)) hx hb dX9_either_8 (by decide) ?_
    exact um_zret (pc := 9) Cx hW hS hf rfl dX9_either_9
theorem c_X9_either {σ : um_S} {σ' : um_S} {r : Bool} {P : Int32 → um_S → Option (Bool × um_S)} {FP LP : Nat} (hP : ∀ (a1 : Int32) (σ : um_S) (r : Bool) (σ' : um_S), P a1 σ = some (r, σ') → um_M l yX9_part0 cX9_part0 2 (some FieldType.boolean) FP LP Z msh α σ [.ref (α 0), .int a1] (some (.int (um_b r))) σ') (a1 : Int32)  (hf : f_X9_either P a1 σ = some (r, σ')) : um_M l yX9_either cX9_either 2 (some FieldType.boolean) (FP + 5) (LP + 108) Z msh α σ [.ref (α 0), .int a1] (some (.int (um_b r))) σ' :=
  um_start (by decide) (Nat.le_of_ble_eq_true rfl) (fun p e s m below meth c ls Cx hW hS hl => b_X9_either hP a1 hf Cx hW hS hl)
noncomputable def fk_X9_part0 (P : Int32 → um_S → Option (Bool × um_S)) (a1 : Int32) (σ : um_S) : Option (Bool × um_S) :=
if (σ.1 0 11) = (2 : Int32) then
((f_X9_step (0 : Int32) (σ.1 0 12) σ).bind fun σ40 =>
(um_let (um_wr σ40 0 18 ((σ40.1 0 18) + (1 : Int32))) fun σ41 =>
((f_X9_next σ41).bind fun σ44 =>
(some (true, σ44)))))
else
(um_let (fun (_u : Unit) =>
((f_X9_isSign (33 : Int32) σ).bind fun x3 =>
(um_let (fun (_u : Unit) =>
((f_X9_isSign (40 : Int32) σ).bind fun x6 =>
(if (um_b x6) = 0 then
(some (false, σ))
else
(if (σ.1 0 14) = (8 : Int32) then
(some (false, σ))
else
(um_let (um_wr σ 0 14 ((σ.1 0 14) + (1 : Int32))) fun σ7 =>
((f_X9_next σ7).bind fun σ10 =>
(um_b2 (f_X9_either P a1 σ10) fun x13 σ12 =>
(if (um_b x13) = 0 then
(some (false, σ12))
else
((f_X9_isSign (41 : Int32) σ12).bind fun x15 =>
(if (um_b x15) = 0 then
(some (false, σ12))
else
(um_let (um_wr σ12 0 14 ((σ12.1 0 14) - (1 : Int32))) fun σ16 =>
((f_X9_next σ16).bind fun σ19 =>
(some (true, σ19)))))))))))))) fun k4 =>
(if (um_b x3) = 0 then
(k4 ())
else
(if (8 : Int32) ≤ (σ.1 0 15) then
(k4 ())
else
(um_let (um_wr σ 0 15 ((σ.1 0 15) + (1 : Int32))) fun σ20 =>
((f_X9_next σ20).bind fun σ23 =>
(um_b2 (P a1 σ23) fun x26 σ25 =>
(if (um_b x26) = 0 then
(some (false, σ25))
else
(um_let (um_wr σ25 0 15 ((σ25.1 0 15) - (1 : Int32))) fun σ27 =>
((f_X9_step (2 : Int32) (33 : Int32) σ27).bind fun σ30 =>
(some (true, σ30))))))))))))) fun k1 =>
(if (σ.1 0 11) = (1 : Int32) then
(if (σ.1 0 13) = 0 then
(k1 ())
else
((f_X9_isName a1 (σ.1 0 13) σ).bind fun x32 =>
(if (um_b x32) = 0 then
(k1 ())
else
((f_X9_step (1 : Int32) (σ.1 0 13) σ).bind fun σ34 =>
(um_let (um_wr σ34 0 18 ((σ34.1 0 18) + (1 : Int32))) fun σ35 =>
((f_X9_next σ35).bind fun σ38 =>
(some (true, σ38))))))))
else
(k1 ())))
set_option maxRecDepth 100000 in
set_option maxHeartbeats 4000000 in
theorem b_X9_part0 {H : Heap} {locs : List Loc} {ls : Array Slot} {σ : um_S} {σ' : um_S} {r : Bool} {P : Int32 → um_S → Option (Bool × um_S)} {FP LP : Nat} (hP : ∀ (a1 : Int32) (σ : um_S) (r : Bool) (σ' : um_S), P a1 σ = some (r, σ') → um_M l yX9_part0 cX9_part0 2 (some FieldType.boolean) FP LP Z msh α σ [.ref (α 0), .int a1] (some (.int (um_b r))) σ') (a1 : Int32)  (hf : fk_X9_part0 P a1 σ = some (r, σ')) (Cx : um_C p s m meth c args cX9_part0 2 (some FieldType.boolean) RX9 Z) (hW : um_W Z msh α σ H) (hS : va_S (um_D msh α) s.heap H locs) (hl : lv_has ls 2 [(0, .ref (α 0)), (1, .int a1)]) : um_G p l e (FP + 6) (LP + 129) s m args below meth c Z msh α σ' (some (.int (um_b r))) H locs (F0 m 0 ls []) := by
  have hx := Cx.1
  have hb := Cx.2.1
  have hown := Cx.2.2.2.2.1
  have hts := Cx.2.2.2.2.2.1
  rw [fk_X9_part0] at hf
  refine lv_aload_n (pc := 0) hx hb dX9_part0_0 rfl (lv_at hl 0 rfl) ?_
  refine gF_X9_155 (pc := 1) Cx hW ms_0 rfl dX9_part0_1 ?_
  refine lv_iconst (pc := 4) (v := (2 : Int32)) hx hb dX9_part0_4 (by decide) ?_
  refine lv_icmp_ne (pc := 5) (tgt := 33) hx hb dX9_part0_5 (by decide) (fun c1 => ?_) (fun c1 => ?_)
  · have hf := um_ie c1 hf
    clear c1
    refine lv_aload_n (pc := 33) hx hb dX9_part0_33 rfl (lv_at hl 0 rfl) ?_
    refine gF_X9_155 (pc := 34) Cx hW ms_0 rfl dX9_part0_34 ?_
    refine lv_iconst (pc := 37) (v := (1 : Int32)) hx hb dX9_part0_37 (by decide) ?_
    obtain ⟨k1, hk1, hf⟩ := um_j1 hf
    have J1 : ∀ (_u : Unit), k1 _u = some (r, σ') → ∀ (H : Heap) (locs : List Loc) (ls : Array Slot), um_W Z msh α σ H → va_S (um_D msh α) s.heap H locs → lv_has ls 2 [(0, .ref (α 0)), (1, .int a1)] → um_G p l e (FP + 6) (LP + 129) s m args below meth c Z msh α σ' (some (.int (um_b r))) H locs (F0 m 84 ls []) := by
      intro _u hf H locs ls hW hS hl
      rw [hk1] at hf
      refine lv_aload_n (pc := 84) hx hb dX9_part0_84 rfl (lv_at hl 0 rfl) ?_
      refine lv_bipush (pc := 85) (v := (33 : Int32)) hx hb dX9_part0_85 (by decide) ?_
      obtain ⟨x3, hc2, hf⟩ := um_bi hf
      refine um_cVi (pc := 87) (As := [.int (33 : Int32)]) (rest := []) Cx (c_X9_isSign (33 : Int32) hc2) kV_X9_isSign (Or.inl qM_X9_190) hW hS ms_0 rfl rfl hl rfl (Nat.le_of_ble_eq_true rfl) (by omega) (by omega) dX9_part0_87 (Nat.le_refl _) (Nat.le_refl _) ?_
      clear hW hS hc2
      intro H locs hW hS
      obtain ⟨k4, hk4, hf⟩ := um_j1 hf
      have J4 : ∀ (_u : Unit), k4 _u = some (r, σ') → ∀ (H : Heap) (locs : List Loc) (ls : Array Slot), um_W Z msh α σ H → va_S (um_D msh α) s.heap H locs → lv_has ls 2 [(0, .ref (α 0)), (1, .int a1)] → um_G p l e (FP + 6) (LP + 129) s m args below meth c Z msh α σ' (some (.int (um_b r))) H locs (F0 m 145 ls []) := by
        intro _u hf H locs ls hW hS hl
        rw [hk4] at hf
        refine lv_aload_n (pc := 145) hx hb dX9_part0_145 rfl (lv_at hl 0 rfl) ?_
        refine lv_bipush (pc := 146) (v := (40 : Int32)) hx hb dX9_part0_146 (by decide) ?_
        obtain ⟨x6, hc5, hf⟩ := um_bi hf
        refine um_cVi (pc := 148) (As := [.int (40 : Int32)]) (rest := []) Cx (c_X9_isSign (40 : Int32) hc5) kV_X9_isSign (Or.inl qM_X9_190) hW hS ms_0 rfl rfl hl rfl (Nat.le_of_ble_eq_true rfl) (by omega) (by omega) dX9_part0_148 (Nat.le_refl _) (Nat.le_refl _) ?_
        clear hW hS hc5
        intro H locs hW hS
        refine lv_if_eq (pc := 151) (tgt := 163) hx hb dX9_part0_151 (by decide) (fun c1 => ?_) (fun c1 => ?_)
        · have hf := um_it c1 hf
          clear c1
          refine lv_iconst (pc := 163) (v := (0 : Int32)) hx hb dX9_part0_163 (by decide) ?_
          exact um_zret (pc := 164) Cx hW hS hf rfl dX9_part0_164
        · have hf := um_ie c1 hf
          clear c1
          refine lv_aload_n (pc := 154) hx hb dX9_part0_154 rfl (lv_at hl 0 rfl) ?_
          refine gF_X9_222 (pc := 155) Cx hW ms_0 rfl dX9_part0_155 ?_
          refine lv_bipush (pc := 158) (v := (8 : Int32)) hx hb dX9_part0_158 (by decide) ?_
          refine lv_icmp_ne (pc := 160) (tgt := 165) hx hb dX9_part0_160 (by decide) (fun c1 => ?_) (fun c1 => ?_)
          · have hf := um_ie c1 hf
            clear c1
            refine lv_aload_n (pc := 165) hx hb dX9_part0_165 rfl (lv_at hl 0 rfl) ?_
            refine lv_dup (pc := 166) hx hb dX9_part0_166 rfl ?_
            refine gF_X9_222 (pc := 167) Cx hW ms_0 rfl dX9_part0_167 ?_
            refine lv_iconst (pc := 170) (v := (1 : Int32)) hx hb dX9_part0_170 (by decide) ?_
            refine lv_iadd (pc := 171) hx hb dX9_part0_171 ?_
            refine gP_X9_222 (pc := 172) Cx hW hS ms_0 rfl dX9_part0_172 ?_
            clear hW hS
            intro H locs hW hS
            obtain ⟨σ7, e8, hf⟩ := um_le hf
            rw [← e8] at hW
            clear e8
            refine lv_aload_n (pc := 175) hx hb dX9_part0_175 rfl (lv_at hl 0 rfl) ?_
            obtain ⟨σ10, hc9, hf⟩ := um_bi hf
            refine um_cVv (pc := 176) (As := []) (rest := []) Cx (c_X9_next hc9) kV_X9_next (Or.inl qM_X9_193) hW hS ms_0 rfl rfl hl rfl (Nat.le_of_ble_eq_true rfl) (by omega) (by omega) dX9_part0_176 (Nat.le_refl _) (Nat.le_refl _) ?_
            clear hW hS hc9
            intro H locs hW hS
            refine lv_aload_n (pc := 179) hx hb dX9_part0_179 rfl (lv_at hl 0 rfl) ?_
            refine lv_iload_n (pc := 180) hx hb dX9_part0_180 rfl (lv_at hl 1 rfl) ?_
            obtain ⟨x13, σ12, hc11, hf⟩ := um_bi2 hf
            refine um_cVi (pc := 181) (As := [.int a1]) (rest := []) Cx (c_X9_either hP a1 hc11) kV_X9_either (Or.inl qM_X9_225) hW hS ms_0 rfl rfl hl rfl (Nat.le_of_ble_eq_true rfl) (by omega) (by omega) dX9_part0_181 (Nat.le_refl _) (Nat.le_refl _) ?_
            clear hW hS hc11
            intro H locs hW hS
            refine lv_if_eq (pc := 184) (tgt := 196) hx hb dX9_part0_184 (by decide) (fun c1 => ?_) (fun c1 => ?_)
            · have hf := um_it c1 hf
              clear c1
              refine lv_iconst (pc := 196) (v := (0 : Int32)) hx hb dX9_part0_196 (by decide) ?_
              exact um_zret (pc := 197) Cx hW hS hf rfl dX9_part0_197
            · have hf := um_ie c1 hf
              clear c1
              refine lv_aload_n (pc := 187) hx hb dX9_part0_187 rfl (lv_at hl 0 rfl) ?_
              refine lv_bipush (pc := 188) (v := (41 : Int32)) hx hb dX9_part0_188 (by decide) ?_
              obtain ⟨x15, hc14, hf⟩ := um_bi hf
              refine um_cVi (pc := 190) (As := [.int (41 : Int32)]) (rest := []) Cx (c_X9_isSign (41 : Int32) hc14) kV_X9_isSign (Or.inl qM_X9_190) hW hS ms_0 rfl rfl hl rfl (Nat.le_of_ble_eq_true rfl) (by omega) (by omega) dX9_part0_190 (Nat.le_refl _) (Nat.le_refl _) ?_
              clear hW hS hc14
              intro H locs hW hS
              refine lv_if_ne (pc := 193) (tgt := 198) hx hb dX9_part0_193 (by decide) (fun c1 => ?_) (fun c1 => ?_)
              · have hf := um_ie c1 hf
                clear c1
                refine lv_aload_n (pc := 198) hx hb dX9_part0_198 rfl (lv_at hl 0 rfl) ?_
                refine lv_dup (pc := 199) hx hb dX9_part0_199 rfl ?_
                refine gF_X9_222 (pc := 200) Cx hW ms_0 rfl dX9_part0_200 ?_
                refine lv_iconst (pc := 203) (v := (1 : Int32)) hx hb dX9_part0_203 (by decide) ?_
                refine lv_isub (pc := 204) hx hb dX9_part0_204 ?_
                refine gP_X9_222 (pc := 205) Cx hW hS ms_0 rfl dX9_part0_205 ?_
                clear hW hS
                intro H locs hW hS
                obtain ⟨σ16, e17, hf⟩ := um_le hf
                rw [← e17] at hW
                clear e17
                refine lv_aload_n (pc := 208) hx hb dX9_part0_208 rfl (lv_at hl 0 rfl) ?_
                obtain ⟨σ19, hc18, hf⟩ := um_bi hf
                refine um_cVv (pc := 209) (As := []) (rest := []) Cx (c_X9_next hc18) kV_X9_next (Or.inl qM_X9_193) hW hS ms_0 rfl rfl hl rfl (Nat.le_of_ble_eq_true rfl) (by omega) (by omega) dX9_part0_209 (Nat.le_refl _) (Nat.le_refl _) ?_
                clear hW hS hc18
                intro H locs hW hS
                refine lv_iconst (pc := 212) (v := (1 : Int32)) hx hb dX9_part0_212 (by decide) ?_
                exact um_zret (pc := 213) Cx hW hS hf rfl dX9_part0_213
              · have hf := um_it c1 hf
                clear c1
                refine lv_iconst (pc := 196) (v := (0 : Int32)) hx hb dX9_part0_196 (by decide) ?_
                exact um_zret (pc := 197) Cx hW hS hf rfl dX9_part0_197
          · have hf := um_it c1 hf
            clear c1
            refine lv_iconst (pc := 163) (v := (0 : Int32)) hx hb dX9_part0_163 (by decide) ?_
            exact um_zret (pc := 164) Cx hW hS hf rfl dX9_part0_164
      refine lv_if_eq (pc := 90) (tgt := 145) hx hb dX9_part0_90 (by decide) (fun c1 => ?_) (fun c1 => ?_)
      · have hf := um_it c1 hf
        clear c1
        exact J4 () hf _ _ _ hW hS hl
      · have hf := um_ie c1 hf
        clear c1
        refine lv_aload_n (pc := 93) hx hb dX9_part0_93 rfl (lv_at hl 0 rfl) ?_
        refine gF_X9_219 (pc := 94) Cx hW ms_0 rfl dX9_part0_94 ?_
        refine lv_bipush (pc := 97) (v := (8 : Int32)) hx hb dX9_part0_97 (by decide) ?_
        refine lv_icmp_ge (pc := 99) (tgt := 145) hx hb dX9_part0_99 (by decide) (fun c1 => ?_) (fun c1 => ?_)
        · have hf := um_it c1 hf
          clear c1
          exact J4 () hf _ _ _ hW hS hl
        · have hf := um_ie c1 hf
          clear c1
          refine lv_aload_n (pc := 102) hx hb dX9_part0_102 rfl (lv_at hl 0 rfl) ?_
          refine lv_dup (pc := 103) hx hb dX9_part0_103 rfl ?_
          refine gF_X9_219 (pc := 104) Cx hW ms_0 rfl dX9_part0_104 ?_
          refine lv_iconst (pc := 107) (v := (1 : Int32)) hx hb dX9_part0_107 (by decide) ?_
          refine lv_iadd (pc := 108) hx hb dX9_part0_108 ?_
          refine gP_X9_219 (pc := 109) Cx hW hS ms_0 rfl dX9_part0_109 ?_
          clear hW hS
          intro H locs hW hS
          obtain ⟨σ20, e21, hf⟩ := um_le hf
          rw [← e21] at hW
          clear e21
          refine lv_aload_n (pc := 112) hx hb dX9_part0_112 rfl (lv_at hl 0 rfl) ?_
          obtain ⟨σ23, hc22, hf⟩ := um_bi hf
          refine um_cVv (pc := 113) (As := []) (rest := []) Cx (c_X9_next hc22) kV_X9_next (Or.inl qM_X9_193) hW hS ms_0 rfl rfl hl rfl (Nat.le_of_ble_eq_true rfl) (by omega) (by omega) dX9_part0_113 (Nat.le_refl _) (Nat.le_refl _) ?_
          clear hW hS hc22
          intro H locs hW hS
          refine lv_aload_n (pc := 116) hx hb dX9_part0_116 rfl (lv_at hl 0 rfl) ?_
          refine lv_iload_n (pc := 117) hx hb dX9_part0_117 rfl (lv_at hl 1 rfl) ?_
          obtain ⟨x26, σ25, hc24, hf⟩ := um_bi2 hf
          refine um_cVi (pc := 118) (As := [.int a1]) (rest := []) Cx (hP a1 _ _ _ hc24) kV_X9_part0 (Or.inl qM_X9_209) hW hS ms_0 rfl rfl hl rfl (Nat.le_of_ble_eq_true rfl) (by omega) (by omega) dX9_part0_118 (Nat.le_refl _) (Nat.le_refl _) ?_
          clear hW hS hc24
          intro H locs hW hS
          refine lv_if_ne (pc := 121) (tgt := 126) hx hb dX9_part0_121 (by decide) (fun c1 => ?_) (fun c1 => ?_)
          · have hf := um_ie c1 hf
            clear c1
            refine lv_aload_n (pc := 126) hx hb dX9_part0_126 rfl (lv_at hl 0 rfl) ?_
            refine lv_dup (pc := 127) hx hb dX9_part0_127 rfl ?_
            refine gF_X9_219 (pc := 128) Cx hW ms_0 rfl dX9_part0_128 ?_
            refine lv_iconst (pc := 131) (v := (1 : Int32)) hx hb dX9_part0_131 (by decide) ?_
            refine lv_isub (pc := 132) hx hb dX9_part0_132 ?_
            refine gP_X9_219 (pc := 133) Cx hW hS ms_0 rfl dX9_part0_133 ?_
            clear hW hS
            intro H locs hW hS
            obtain ⟨σ27, e28, hf⟩ := um_le hf
            rw [← e28] at hW
            clear e28
            refine lv_aload_n (pc := 136) hx hb dX9_part0_136 rfl (lv_at hl 0 rfl) ?_
            refine lv_iconst (pc := 137) (v := (2 : Int32)) hx hb dX9_part0_137 (by decide) ?_
            refine lv_bipush (pc := 138) (v := (33 : Int32)) hx hb dX9_part0_138 (by decide) ?_
            obtain ⟨σ30, hc29, hf⟩ := um_bi hf
            refine um_cVv (pc := 140) (As := [.int (2 : Int32), .int (33 : Int32)]) (rest := []) Cx (c_X9_step (2 : Int32) (33 : Int32) hc29) kV_X9_step (Or.inl qM_X9_196) hW hS ms_0 rfl rfl hl rfl (Nat.le_of_ble_eq_true rfl) (by omega) (by omega) dX9_part0_140 (Nat.le_refl _) (Nat.le_refl _) ?_
            clear hW hS hc29
            intro H locs hW hS
            refine lv_iconst (pc := 143) (v := (1 : Int32)) hx hb dX9_part0_143 (by decide) ?_
            exact um_zret (pc := 144) Cx hW hS hf rfl dX9_part0_144
          · have hf := um_it c1 hf
            clear c1
            refine lv_iconst (pc := 124) (v := (0 : Int32)) hx hb dX9_part0_124 (by decide) ?_
            exact um_zret (pc := 125) Cx hW hS hf rfl dX9_part0_125
    refine lv_icmp_ne (pc := 38) (tgt := 84) hx hb dX9_part0_38 (by decide) (fun c1 => ?_) (fun c1 => ?_)
    · have hf := um_ie c1 hf
      clear c1
      exact J1 () hf _ _ _ hW hS hl
    · have hf := um_it c1 hf
      clear c1
      refine lv_aload_n (pc := 41) hx hb dX9_part0_41 rfl (lv_at hl 0 rfl) ?_
      refine gF_X9_164 (pc := 42) Cx hW ms_0 rfl dX9_part0_42 ?_
      refine lv_if_eq (pc := 45) (tgt := 84) hx hb dX9_part0_45 (by decide) (fun c1 => ?_) (fun c1 => ?_)
      · have hf := um_it c1 hf
        clear c1
        exact J1 () hf _ _ _ hW hS hl
      · have hf := um_ie c1 hf
        clear c1
        refine lv_iload_n (pc := 48) hx hb dX9_part0_48 rfl (lv_at hl 1 rfl) ?_
        refine lv_aload_n (pc := 49) hx hb dX9_part0_49 rfl (lv_at hl 0 rfl) ?_
        refine gF_X9_164 (pc := 50) Cx hW ms_0 rfl dX9_part0_50 ?_
        obtain ⟨x32, hc31, hf⟩ := um_bi hf
        refine um_cSi (pc := 53) (As := [.int a1, .int (σ.1 0 13)]) (rest := []) Cx (c_X9_isName a1 (σ.1 0 13) hc31) kS_X9_isName (Or.inl qM_X9_215) hW hS rfl hl rfl (Nat.le_of_ble_eq_true rfl) (by omega) (by omega) dX9_part0_53 (Nat.le_refl _) (Nat.le_refl _) ?_
        clear hW hS hc31
        intro H locs hW hS
        refine lv_if_eq (pc := 56) (tgt := 84) hx hb dX9_part0_56 (by decide) (fun c1 => ?_) (fun c1 => ?_)
        · have hf := um_it c1 hf
          clear c1
          exact J1 () hf _ _ _ hW hS hl
        · have hf := um_ie c1 hf
          clear c1
          refine lv_aload_n (pc := 59) hx hb dX9_part0_59 rfl (lv_at hl 0 rfl) ?_
          refine lv_iconst (pc := 60) (v := (1 : Int32)) hx hb dX9_part0_60 (by decide) ?_
          refine lv_aload_n (pc := 61) hx hb dX9_part0_61 rfl (lv_at hl 0 rfl) ?_
          refine gF_X9_164 (pc := 62) Cx hW ms_0 rfl dX9_part0_62 ?_
          obtain ⟨σ34, hc33, hf⟩ := um_bi hf
          refine um_cVv (pc := 65) (As := [.int (1 : Int32), .int (σ.1 0 13)]) (rest := []) Cx (c_X9_step (1 : Int32) (σ.1 0 13) hc33) kV_X9_step (Or.inl qM_X9_196) hW hS ms_0 rfl rfl hl rfl (Nat.le_of_ble_eq_true rfl) (by omega) (by omega) dX9_part0_65 (Nat.le_refl _) (Nat.le_refl _) ?_
          clear hW hS hc33
          intro H locs hW hS
          refine lv_aload_n (pc := 68) hx hb dX9_part0_68 rfl (lv_at hl 0 rfl) ?_
          refine lv_dup (pc := 69) hx hb dX9_part0_69 rfl ?_
          refine gF_X9_212 (pc := 70) Cx hW ms_0 rfl dX9_part0_70 ?_
          refine lv_iconst (pc := 73) (v := (1 : Int32)) hx hb dX9_part0_73 (by decide) ?_
          refine lv_iadd (pc := 74) hx hb dX9_part0_74 ?_
          refine gP_X9_212 (pc := 75) Cx hW hS ms_0 rfl dX9_part0_75 ?_
          clear hW hS
          intro H locs hW hS
          obtain ⟨σ35, e36, hf⟩ := um_le hf
          rw [← e36] at hW
          clear e36
          refine lv_aload_n (pc := 78) hx hb dX9_part0_78 rfl (lv_at hl 0 rfl) ?_
          obtain ⟨σ38, hc37, hf⟩ := um_bi hf
          refine um_cVv (pc := 79) (As := []) (rest := []) Cx (c_X9_next hc37) kV_X9_next (Or.inl qM_X9_193) hW hS ms_0 rfl rfl hl rfl (Nat.le_of_ble_eq_true rfl) (by omega) (by omega) dX9_part0_79 (Nat.le_refl _) (Nat.le_refl _) ?_
          clear hW hS hc37
          intro H locs hW hS
          refine lv_iconst (pc := 82) (v := (1 : Int32)) hx hb dX9_part0_82 (by decide) ?_
          exact um_zret (pc := 83) Cx hW hS hf rfl dX9_part0_83
  · have hf := um_it c1 hf
    clear c1
    refine lv_aload_n (pc := 8) hx hb dX9_part0_8 rfl (lv_at hl 0 rfl) ?_
    refine lv_iconst (pc := 9) (v := (0 : Int32)) hx hb dX9_part0_9 (by decide) ?_
    refine lv_aload_n (pc := 10) hx hb dX9_part0_10 rfl (lv_at hl 0 rfl) ?_
    refine gF_X9_170 (pc := 11) Cx hW ms_0 rfl dX9_part0_11 ?_
    obtain ⟨σ40, hc39, hf⟩ := um_bi hf
    refine um_cVv (pc := 14) (As := [.int (0 : Int32), .int (σ.1 0 12)]) (rest := []) Cx (c_X9_step (0 : Int32) (σ.1 0 12) hc39) kV_X9_step (Or.inl qM_X9_196) hW hS ms_0 rfl rfl hl rfl (Nat.le_of_ble_eq_true rfl) (by omega) (by omega) dX9_part0_14 (Nat.le_refl _) (Nat.le_refl _) ?_
    clear hW hS hc39
    intro H locs hW hS
    refine lv_aload_n (pc := 17) hx hb dX9_part0_17 rfl (lv_at hl 0 rfl) ?_
    refine lv_dup (pc := 18) hx hb dX9_part0_18 rfl ?_
    refine gF_X9_212 (pc := 19) Cx hW ms_0 rfl dX9_part0_19 ?_
    refine lv_iconst (pc := 22) (v := (1 : Int32)) hx hb dX9_part0_22 (by decide) ?_
    refine lv_iadd (pc := 23) hx hb dX9_part0_23 ?_
    refine gP_X9_212 (pc := 24) Cx hW hS ms_0 rfl dX9_part0_24 ?_
    clear hW hS
    intro H locs hW hS
    obtain ⟨σ41, e42, hf⟩ := um_le hf
    rw [← e42] at hW
    clear e42
    refine lv_aload_n (pc := 27) hx hb dX9_part0_27 rfl (lv_at hl 0 rfl) ?_
    obtain ⟨σ44, hc43, hf⟩ := um_bi hf
    refine um_cVv (pc := 28) (As := []) (rest := []) Cx (c_X9_next hc43) kV_X9_next (Or.inl qM_X9_193) hW hS ms_0 rfl rfl hl rfl (Nat.le_of_ble_eq_true rfl) (by omega) (by omega) dX9_part0_28 (Nat.le_refl _) (Nat.le_refl _) ?_
    clear hW hS hc43
    intro H locs hW hS
    refine lv_iconst (pc := 31) (v := (1 : Int32)) hx hb dX9_part0_31 (by decide) ?_
    exact um_zret (pc := 32) Cx hW hS hf rfl dX9_part0_32
theorem c_X9_part0 {σ : um_S} {σ' : um_S} {r : Bool} {P : Int32 → um_S → Option (Bool × um_S)} {FP LP : Nat} (hP : ∀ (a1 : Int32) (σ : um_S) (r : Bool) (σ' : um_S), P a1 σ = some (r, σ') → um_M l yX9_part0 cX9_part0 2 (some FieldType.boolean) FP LP Z msh α σ [.ref (α 0), .int a1] (some (.int (um_b r))) σ') (a1 : Int32)  (hf : fk_X9_part0 P a1 σ = some (r, σ')) : um_M l yX9_part0 cX9_part0 2 (some FieldType.boolean) (FP + 6) (LP + 129) Z msh α σ [.ref (α 0), .int a1] (some (.int (um_b r))) σ' :=
  um_start (by decide) (Nat.le_of_ble_eq_true rfl) (fun p e s m below meth c ls Cx hW hS hl => b_X9_part0 hP a1 hf Cx hW hS hl)
noncomputable def f_X9_part0 : Nat → Int32 → um_S → Option (Bool × um_S)
  | 0, _, _ => none
  | d + 1, a, σ => fk_X9_part0 (f_X9_part0 d) a σ
theorem cd_X9_part0 : ∀ (d : Nat) (a1 : Int32) (σ : um_S) (r : Bool) (σ' : um_S), f_X9_part0 d a1 σ = some (r, σ') → um_M l yX9_part0 cX9_part0 2 (some FieldType.boolean) (6 * d) (129 * d) Z msh α σ [.ref (α 0), .int a1] (some (.int (um_b r))) σ'
  | 0, a1, σ, r, σ', h => by cases h
  | d + 1, a1, σ, r, σ', h => by
    have h1 := c_X9_part0 (fun a σ r σ' h => cd_X9_part0 d a σ r σ' h) a1 h
    exact h1
noncomputable def f_X9_setAside_l2 (h1 : Nat) (h2 : Nat) : Nat → Int32 → um_S → Option (um_S)
  | 0, _, _ => none
  | n + 1, v3, σ =>
if (3790 : Int32) ≤ v3 then
(some σ)
else
(if um_ix v3 3790 then
(if um_ix v3 3790 then
(um_let (um_wr σ h2 v3.toNatClampNeg (σ.1 h1 v3.toNatClampNeg)) fun σ3 =>
(f_X9_setAside_l2 h1 h2 n (v3 + (1 : Int32)) σ3)) else none) else none)
noncomputable def f_X9_setAside (h1 : Nat) (h2 : Nat) (σ : um_S) : Option (um_S) :=
(f_X9_setAside_l2 h1 h2 um_N (0 : Int32) σ).bind fun σ1 =>
(some σ1)
set_option maxRecDepth 100000 in
set_option maxHeartbeats 4000000 in
theorem t_X9_setAside_l2 {Q : State → Prop} {σo : um_S} (h1 : Nat) (h2 : Nat) (hh1 : msh h1 = some (.inl (0, some 3790))) (hh2 : msh h2 = some (.inl (0, some 3790))) (Cx : um_C p s m meth c args cX9_setAside 4 none RX9 Z) (hE : ∀ (H : Heap) (locs : List Loc) (ls : Array Slot), um_W Z msh α σo H → va_S (um_D msh α) s.heap H locs → lv_has ls 4 [] → W p l e { frames := 0, cells := 0, slots := 0, locals := 0 } s m args below meth c H locs 0 0 Q (F0 m 21 ls [])) : ∀ (n : Nat) (v3 : Int32) (σ : um_S) (H : Heap) (locs : List Loc) (ls : Array Slot), f_X9_setAside_l2 h1 h2 n v3 σ = some σo → um_W Z msh α σ H → va_S (um_D msh α) s.heap H locs → lv_has ls 4 [(1, .ref (α h1)), (2, .ref (α h2)), (3, .int v3)] → W p l e { frames := 0, cells := 0, slots := 0, locals := 0 } s m args below meth c H locs 0 0 Q (F0 m 2 ls []) := by
  have hx := Cx.1
  have hb := Cx.2.1
  have hown := Cx.2.2.2.2.1
  have hts := Cx.2.2.2.2.2.1
  intro n
  induction n with
  | zero =>
    intro v3 σ H locs ls hf hW hS hl
    cases hf
  | succ n ih =>
    intro v3 σ H locs ls hf hW hS hl
    rw [f_X9_setAside_l2] at hf
    refine lv_iload_n (pc := 2) hx hb dX9_setAside_2 rfl (lv_at hl 2 rfl) ?_
    refine lv_sipush (pc := 3) (v := (3790 : Int32)) hx hb dX9_setAside_3 (by decide) ?_
    refine lv_icmp_ge (pc := 6) (tgt := 21) hx hb dX9_setAside_6 (by decide) (fun c1 => ?_) (fun c1 => ?_)
    · have hf := um_it c1 hf
      clear c1
      cases hf
      exact hE _ _ _ hW hS (lv_sub hl [] rfl)
    · have hf := um_ie c1 hf
      clear c1
      refine lv_aload_n (pc := 9) hx hb dX9_setAside_9 rfl (lv_at hl 1 rfl) ?_
      refine lv_iload_n (pc := 10) hx hb dX9_setAside_10 rfl (lv_at hl 2 rfl) ?_
      refine lv_aload_n (pc := 11) hx hb dX9_setAside_11 rfl (lv_at hl 0 rfl) ?_
      refine lv_iload_n (pc := 12) hx hb dX9_setAside_12 rfl (lv_at hl 2 rfl) ?_
      obtain ⟨g1, hf⟩ := um_gu hf
      refine um_iald (pc := 13) Cx hW hh1 rfl (um_ix_in g1) dX9_setAside_13 ?_
      obtain ⟨g2, hf⟩ := um_gu hf
      refine um_iast (pc := 14) Cx hW hS hh2 rfl (um_ix_in g2) dX9_setAside_14 ?_
      clear hW hS
      intro H locs hW hS
      obtain ⟨σ3, e4, hf⟩ := um_le hf
      rw [← e4] at hW
      clear e4
      refine lv_iinc (pc := 15) (v := v3 + (1 : Int32)) (lv' := [(3, .int (v3 + (1 : Int32))), (1, .ref (α h1)), (2, .ref (α h2))]) hx hb dX9_setAside_15 hl (k := 2) rfl rfl (by decide) rfl ?_
      clear hl
      intro ls hl
      refine lv_goto (pc := 18) (tgt := 2) hx hb dX9_setAside_18 (by decide) ?_
      exact ih _ _ _ _ _ hf hW hS (lv_sub hl [1, 2, 0] rfl)
set_option maxRecDepth 100000 in
set_option maxHeartbeats 4000000 in
theorem b_X9_setAside {H : Heap} {locs : List Loc} {ls : Array Slot} {σ : um_S} {σ' : um_S} (h1 : Nat) (h2 : Nat) (hh1 : msh h1 = some (.inl (0, some 3790))) (hh2 : msh h2 = some (.inl (0, some 3790))) (hf : f_X9_setAside h1 h2 σ = some σ') (Cx : um_C p s m meth c args cX9_setAside 4 none RX9 Z) (hW : um_W Z msh α σ H) (hS : va_S (um_D msh α) s.heap H locs) (hl : lv_has ls 4 [(0, .ref (α 0)), (1, .ref (α h1)), (2, .ref (α h2))]) : um_G p l e (0) (0) s m args below meth c Z msh α σ' none H locs (F0 m 0 ls []) := by
  have hx := Cx.1
  have hb := Cx.2.1
  have hown := Cx.2.2.2.2.1
  have hts := Cx.2.2.2.2.2.1
  rw [f_X9_setAside] at hf
  refine lv_iconst (pc := 0) (v := (0 : Int32)) hx hb dX9_setAside_0 (by decide) ?_
  refine lv_istore_n (pc := 1) (lv' := [(3, .int (0 : Int32)), (0, .ref (α 0)), (1, .ref (α h1)), (2, .ref (α h2))]) hx hb dX9_setAside_1 rfl hl (by decide) rfl ?_
  clear hl
  intro ls hl
  obtain ⟨σ1, hc2, hf⟩ := um_bi hf
  refine t_X9_setAside_l2 h1 h2 hh1 hh2 Cx ?_ um_N _ _ _ _ _ hc2 hW hS (lv_sub hl [2, 3, 0] rfl)
  clear hW hS hl hc2
  intro H locs ls hW hS hl
  exact um_vret (pc := 21) Cx hW hS hf dX9_setAside_21
theorem c_X9_setAside {σ : um_S} {σ' : um_S} (h1 : Nat) (h2 : Nat) (hh1 : msh h1 = some (.inl (0, some 3790))) (hh2 : msh h2 = some (.inl (0, some 3790))) (hf : f_X9_setAside h1 h2 σ = some σ') : um_M l yX9_setAside cX9_setAside 4 none (0) (0) Z msh α σ [.ref (α 0), .ref (α h1), .ref (α h2)] none σ' :=
  um_start (by decide) (Nat.le_of_ble_eq_true rfl) (fun p e s m below meth c ls Cx hW hS hl => b_X9_setAside h1 h2 hh1 hh2 hf Cx hW hS hl)
noncomputable def f_X9_again  (σ : um_S) : Option (Int32 × um_S) :=
if (σ.1 0 3) = 0 then
(some ((-1000000002 : Int32), σ))
else
((f_X9_setAside 2 1 σ).bind fun σ2 =>
(some (σ2.1 1 0, σ2)))
set_option maxRecDepth 100000 in
set_option maxHeartbeats 4000000 in
theorem b_X9_again {H : Heap} {locs : List Loc} {ls : Array Slot} {σ : um_S} {σ' : um_S} {r : Int32}   (hf : f_X9_again σ = some (r, σ')) (Cx : um_C p s m meth c args cX9_again 1 (some FieldType.int) RX9 Z) (hW : um_W Z msh α σ H) (hS : va_S (um_D msh α) s.heap H locs) (hl : lv_has ls 1 [(0, .ref (α 0))]) : um_G p l e (1) (23) s m args below meth c Z msh α σ' (some (.int r)) H locs (F0 m 0 ls []) := by
  have hx := Cx.1
  have hb := Cx.2.1
  have hown := Cx.2.2.2.2.1
  have hts := Cx.2.2.2.2.2.1
  rw [f_X9_again] at hf
  refine lv_aload_n (pc := 0) hx hb dX9_again_0 rfl (lv_at hl 0 rfl) ?_
  refine gF_X9_393 (pc := 1) Cx hW ms_0 rfl dX9_again_1 ?_
  refine lv_if_ne (pc := 4) (tgt := 10) hx hb dX9_again_4 (by decide) (fun c1 => ?_) (fun c1 => ?_)
  · have hf := um_ie c1 hf
    clear c1
    refine lv_aload_n (pc := 10) hx hb dX9_again_10 rfl (lv_at hl 0 rfl) ?_
    refine lv_aload_n (pc := 11) hx hb dX9_again_11 rfl (lv_at hl 0 rfl) ?_
    refine gF_X9_13 (pc := 12) Cx hW ms_0 rfl dX9_again_12 ?_
    refine lv_aload_n (pc := 15) hx hb dX9_again_15 rfl (lv_at hl 0 rfl) ?_
    refine gF_X9_7 (pc := 16) Cx hW ms_0 rfl dX9_again_16 ?_
    obtain ⟨σ2, hc1, hf⟩ := um_bi hf
    refine um_cVv (pc := 19) (As := [.ref (α 2), .ref (α 1)]) (rest := []) Cx (c_X9_setAside 2 1 ms_2 ms_1 hc1) kV_X9_setAside (Or.inl qM_X9_397) hW hS ms_0 rfl rfl hl rfl (Nat.le_of_ble_eq_true rfl) (Nat.le_of_ble_eq_true rfl) (Nat.le_of_ble_eq_true rfl) dX9_again_19 (Nat.le_refl _) (Nat.le_refl _) ?_
    clear hW hS hc1
    intro H locs hW hS
    refine lv_aload_n (pc := 22) hx hb dX9_again_22 rfl (lv_at hl 0 rfl) ?_
    refine gF_X9_7 (pc := 23) Cx hW ms_0 rfl dX9_again_23 ?_
    refine lv_iconst (pc := 26) (v := (0 : Int32)) hx hb dX9_again_26 (by decide) ?_
    refine um_iaj (pc := 27) 0 rfl Cx hW ms_1 rfl (um_ix_in (by decide)) dX9_again_27 ?_
    exact um_iret (pc := 28) Cx hW hS hf dX9_again_28
  · have hf := um_it c1 hf
    clear c1
    refine lv_ldc (pc := 7) hx hb hown (hts _ qC_X9_106) dX9_again_7 ?_
    exact um_iret (pc := 9) Cx hW hS hf dX9_again_9
theorem c_X9_again {σ : um_S} {σ' : um_S} {r : Int32}   (hf : f_X9_again σ = some (r, σ')) : um_M l yX9_again cX9_again 1 (some FieldType.int) (1) (23) Z msh α σ [.ref (α 0)] (some (.int r)) σ' :=
  um_start (by decide) (Nat.le_of_ble_eq_true rfl) (fun p e s m below meth c ls Cx hW hS hl => b_X9_again hf Cx hW hS hl)
noncomputable def f_X9_isMan (a1 : Int32) (σ : um_S) : Option (Bool) :=
(f_X9_isIn (a1.toInt64) (0 : Int64) (((σ.1 1 2) - (1 : Int32)).toInt64) σ).bind fun x2 =>
(some x2)
set_option maxRecDepth 100000 in
set_option maxHeartbeats 4000000 in
theorem b_X9_isMan {H : Heap} {locs : List Loc} {ls : Array Slot} {σ : um_S} {r : Bool} (a1 : Int32)  (hf : f_X9_isMan a1 σ = some r) (Cx : um_C p s m meth c args cX9_isMan 2 (some FieldType.boolean) RX9 Z) (hW : um_W Z msh α σ H) (hS : va_S (um_D msh α) s.heap H locs) (hl : lv_has ls 2 [(0, .ref (α 0)), (1, .int a1)]) : um_G p l e (1) (25) s m args below meth c Z msh α σ (some (.int (um_b r))) H locs (F0 m 0 ls []) := by
  have hx := Cx.1
  have hb := Cx.2.1
  have hown := Cx.2.2.2.2.1
  have hts := Cx.2.2.2.2.2.1
  rw [f_X9_isMan] at hf
  refine lv_iload_n (pc := 0) hx hb dX9_isMan_0 rfl (lv_at hl 1 rfl) ?_
  refine lv_i2l (pc := 1) hx hb dX9_isMan_1 rfl ?_
  refine lv_lconst (pc := 2) (v := (0 : Int64)) hx hb dX9_isMan_2 (by decide) ?_
  refine lv_aload_n (pc := 3) hx hb dX9_isMan_3 rfl (lv_at hl 0 rfl) ?_
  refine gF_X9_7 (pc := 4) Cx hW ms_0 rfl dX9_isMan_4 ?_
  refine lv_iconst (pc := 7) (v := (2 : Int32)) hx hb dX9_isMan_7 (by decide) ?_
  refine um_iaj (pc := 8) 2 rfl Cx hW ms_1 rfl (um_ix_in (by decide)) dX9_isMan_8 ?_
  refine lv_iconst (pc := 9) (v := (1 : Int32)) hx hb dX9_isMan_9 (by decide) ?_
  refine lv_isub (pc := 10) hx hb dX9_isMan_10 ?_
  refine lv_i2l (pc := 11) hx hb dX9_isMan_11 rfl ?_
  obtain ⟨x2, hc1, hf⟩ := um_bi hf
  refine um_cSi (pc := 12) (As := [.long (a1.toInt64), .long (0 : Int64), .long (((σ.1 1 2) - (1 : Int32)).toInt64)]) (rest := []) Cx (c_X9_isIn (a1.toInt64) (0 : Int64) (((σ.1 1 2) - (1 : Int32)).toInt64) hc1) kS_X9_isIn (Or.inl qM_X9_60) hW hS rfl hl rfl (Nat.le_of_ble_eq_true rfl) (Nat.le_of_ble_eq_true rfl) (Nat.le_of_ble_eq_true rfl) dX9_isMan_12 (Nat.le_refl _) (Nat.le_refl _) ?_
  clear hW hS hc1
  intro H locs hW hS
  exact um_zretR (pc := 15) Cx hW hS hf rfl dX9_isMan_15
theorem c_X9_isMan {σ : um_S} {r : Bool} (a1 : Int32)  (hf : f_X9_isMan a1 σ = some r) : um_M l yX9_isMan cX9_isMan 2 (some FieldType.boolean) (1) (25) Z msh α σ [.ref (α 0), .int a1] (some (.int (um_b r))) σ :=
  um_start (by decide) (Nat.le_of_ble_eq_true rfl) (fun p e s m below meth c ls Cx hW hS hl => b_X9_isMan a1 hf Cx hW hS hl)
noncomputable def f_X9_manAt (a1 : Int32) (σ : um_S) : Option (Int32) :=
some ((50 : Int32) + ((14 : Int32) * a1))
set_option maxRecDepth 100000 in
set_option maxHeartbeats 4000000 in
theorem b_X9_manAt {H : Heap} {locs : List Loc} {ls : Array Slot} {σ : um_S} {r : Int32} (a1 : Int32)  (hf : f_X9_manAt a1 σ = some r) (Cx : um_C p s m meth c args cX9_manAt 2 (some FieldType.int) RX9 Z) (hW : um_W Z msh α σ H) (hS : va_S (um_D msh α) s.heap H locs) (hl : lv_has ls 2 [(0, .ref (α 0)), (1, .int a1)]) : um_G p l e (0) (0) s m args below meth c Z msh α σ (some (.int r)) H locs (F0 m 0 ls []) := by
  have hx := Cx.1
  have hb := Cx.2.1
  have hown := Cx.2.2.2.2.1
  have hts := Cx.2.2.2.2.2.1
  rw [f_X9_manAt] at hf
  refine lv_bipush (pc := 0) (v := (50 : Int32)) hx hb dX9_manAt_0 (by decide) ?_
  refine lv_bipush (pc := 2) (v := (14 : Int32)) hx hb dX9_manAt_2 (by decide) ?_
  refine lv_iload_n (pc := 4) hx hb dX9_manAt_4 rfl (lv_at hl 1 rfl) ?_
  refine lv_imul (pc := 5) hx hb dX9_manAt_5 ?_
  refine lv_iadd (pc := 6) hx hb dX9_manAt_6 ?_
  exact um_iretR (pc := 7) Cx hW hS hf dX9_manAt_7
theorem c_X9_manAt {σ : um_S} {r : Int32} (a1 : Int32)  (hf : f_X9_manAt a1 σ = some r) : um_M l yX9_manAt cX9_manAt 2 (some FieldType.int) (0) (0) Z msh α σ [.ref (α 0), .int a1] (some (.int r)) σ :=
  um_start (by decide) (Nat.le_of_ble_eq_true rfl) (fun p e s m below meth c ls Cx hW hS hl => b_X9_manAt a1 hf Cx hW hS hl)
noncomputable def f_X9_kindOf (a1 : Int32) (σ : um_S) : Option (Int32) :=
(f_X9_manAt a1 σ).bind fun x2 =>
(if um_ix (x2 + (5 : Int32)) 3790 then
(some (σ.1 1 (x2 + (5 : Int32)).toNatClampNeg)) else none)
set_option maxRecDepth 100000 in
set_option maxHeartbeats 4000000 in
theorem b_X9_kindOf {H : Heap} {locs : List Loc} {ls : Array Slot} {σ : um_S} {r : Int32} (a1 : Int32)  (hf : f_X9_kindOf a1 σ = some r) (Cx : um_C p s m meth c args cX9_kindOf 2 (some FieldType.int) RX9 Z) (hW : um_W Z msh α σ H) (hS : va_S (um_D msh α) s.heap H locs) (hl : lv_has ls 2 [(0, .ref (α 0)), (1, .int a1)]) : um_G p l e (1) (21) s m args below meth c Z msh α σ (some (.int r)) H locs (F0 m 0 ls []) := by
  have hx := Cx.1
  have hb := Cx.2.1
  have hown := Cx.2.2.2.2.1
  have hts := Cx.2.2.2.2.2.1
  rw [f_X9_kindOf] at hf
  refine lv_aload_n (pc := 0) hx hb dX9_kindOf_0 rfl (lv_at hl 0 rfl) ?_
  refine gF_X9_7 (pc := 1) Cx hW ms_0 rfl dX9_kindOf_1 ?_
  refine lv_aload_n (pc := 4) hx hb dX9_kindOf_4 rfl (lv_at hl 0 rfl) ?_
  refine lv_iload_n (pc := 5) hx hb dX9_kindOf_5 rfl (lv_at hl 1 rfl) ?_
  obtain ⟨x2, hc1, hf⟩ := um_bi hf
  refine um_cVi (pc := 6) (As := [.int a1]) (rest := [.ref (α 1)]) Cx (c_X9_manAt a1 hc1) kV_X9_manAt (Or.inl qM_X9_66) hW hS ms_0 rfl rfl hl rfl (Nat.le_of_ble_eq_true rfl) (Nat.le_of_ble_eq_true rfl) (Nat.le_of_ble_eq_true rfl) dX9_kindOf_6 (Nat.le_refl _) (Nat.le_refl _) ?_
  clear hW hS hc1
  intro H locs hW hS
  refine lv_iconst (pc := 9) (v := (5 : Int32)) hx hb dX9_kindOf_9 (by decide) ?_
  refine lv_iadd (pc := 10) hx hb dX9_kindOf_10 ?_
  obtain ⟨g3, hf⟩ := um_gu hf
  refine um_iald (pc := 11) Cx hW ms_1 rfl (um_ix_in g3) dX9_kindOf_11 ?_
  exact um_iretR (pc := 12) Cx hW hS hf dX9_kindOf_12
theorem c_X9_kindOf {σ : um_S} {r : Int32} (a1 : Int32)  (hf : f_X9_kindOf a1 σ = some r) : um_M l yX9_kindOf cX9_kindOf 2 (some FieldType.int) (1) (21) Z msh α σ [.ref (α 0), .int a1] (some (.int r)) σ :=
  um_start (by decide) (Nat.le_of_ble_eq_true rfl) (fun p e s m below meth c ls Cx hW hS hl => b_X9_kindOf a1 hf Cx hW hS hl)
noncomputable def f_X9_as (a1 : Int32) (a2 : Int32) (σ : um_S) : Option (Int32) :=
(f_X9_isMan a1 σ).bind fun x2 =>
(if (um_b x2) = 0 then
(some (-1000000001 : Int32))
else
((f_X9_isIn (a2.toInt64) (0 : Int64) (7 : Int64) σ).bind fun x4 =>
(if (um_b x4) = 0 then
(some (-1000000001 : Int32))
else
((f_X9_kindOf a1 σ).bind fun x6 =>
(um_let (fun (x8 : Int32) =>
(if x8 = 0 then
(some (-1000000012 : Int32))
else
((f_X9_manAt a1 σ).bind fun x10 =>
(if um_ix (x10 + (6 : Int32)) 3790 then
(some (σ.1 1 (x10 + (6 : Int32)).toNatClampNeg)) else none)))) fun k7 =>
(um_let (fun (_u : Unit) =>
(k7 (1 : Int32))) fun k12 =>
(if a2 = 0 then
(k12 ())
else
(if a2 = x6 then
(k12 ())
else
(um_let (fun (_u : Unit) =>
(k7 (0 : Int32))) fun k13 =>
(if a2 = (1 : Int32) then
((f_X9_isIn (x6.toInt64) (1 : Int64) (4 : Int64) σ).bind fun x15 =>
(if (um_b x15) = 0 then
(if x6 = (7 : Int32) then
(k12 ())
else
(k13 ()))
else
(k12 ())))
else
(k13 ())))))))))))
set_option maxRecDepth 100000 in
set_option maxHeartbeats 4000000 in
theorem b_X9_as {H : Heap} {locs : List Loc} {ls : Array Slot} {σ : um_S} {r : Int32} (a1 : Int32) (a2 : Int32)  (hf : f_X9_as a1 a2 σ = some r) (Cx : um_C p s m meth c args cX9_as 5 (some FieldType.int) RX9 Z) (hW : um_W Z msh α σ H) (hS : va_S (um_D msh α) s.heap H locs) (hl : lv_has ls 5 [(0, .ref (α 0)), (1, .int a1), (2, .int a2)]) : um_G p l e (2) (46) s m args below meth c Z msh α σ (some (.int r)) H locs (F0 m 0 ls []) := by
  have hx := Cx.1
  have hb := Cx.2.1
  have hown := Cx.2.2.2.2.1
  have hts := Cx.2.2.2.2.2.1
  rw [f_X9_as] at hf
  refine lv_aload_n (pc := 0) hx hb dX9_as_0 rfl (lv_at hl 0 rfl) ?_
  refine lv_iload_n (pc := 1) hx hb dX9_as_1 rfl (lv_at hl 1 rfl) ?_
  obtain ⟨x2, hc1, hf⟩ := um_bi hf
  refine um_cVi (pc := 2) (As := [.int a1]) (rest := []) Cx (c_X9_isMan a1 hc1) kV_X9_isMan (Or.inl qM_X9_101) hW hS ms_0 rfl rfl hl rfl (Nat.le_of_ble_eq_true rfl) (Nat.le_of_ble_eq_true rfl) (Nat.le_of_ble_eq_true rfl) dX9_as_2 (Nat.le_refl _) (Nat.le_refl _) ?_
  clear hW hS hc1
  intro H locs hW hS
  refine lv_if_eq (pc := 5) (tgt := 20) hx hb dX9_as_5 (by decide) (fun c1 => ?_) (fun c1 => ?_)
  · have hf := um_it c1 hf
    clear c1
    refine lv_ldc (pc := 20) hx hb hown (hts _ qC_X9_87) dX9_as_20 ?_
    exact um_iretR (pc := 22) Cx hW hS hf dX9_as_22
  · have hf := um_ie c1 hf
    clear c1
    refine lv_iload_n (pc := 8) hx hb dX9_as_8 rfl (lv_at hl 2 rfl) ?_
    refine lv_i2l (pc := 9) hx hb dX9_as_9 rfl ?_
    refine lv_lconst (pc := 10) (v := (0 : Int64)) hx hb dX9_as_10 (by decide) ?_
    refine lv_ldc2 (pc := 11) hx hb hown (hts _ qL_X9_89) dX9_as_11 ?_
    obtain ⟨x4, hc3, hf⟩ := um_bi hf
    refine um_cSi (pc := 14) (As := [.long (a2.toInt64), .long (0 : Int64), .long (7 : Int64)]) (rest := []) Cx (c_X9_isIn (a2.toInt64) (0 : Int64) (7 : Int64) hc3) kS_X9_isIn (Or.inl qM_X9_60) hW hS rfl hl rfl (Nat.le_of_ble_eq_true rfl) (Nat.le_of_ble_eq_true rfl) (Nat.le_of_ble_eq_true rfl) dX9_as_14 (Nat.le_refl _) (Nat.le_refl _) ?_
    clear hW hS hc3
    intro H locs hW hS
    refine lv_if_ne (pc := 17) (tgt := 23) hx hb dX9_as_17 (by decide) (fun c1 => ?_) (fun c1 => ?_)
    · have hf := um_ie c1 hf
      clear c1
      refine lv_aload_n (pc := 23) hx hb dX9_as_23 rfl (lv_at hl 0 rfl) ?_
      refine lv_iload_n (pc := 24) hx hb dX9_as_24 rfl (lv_at hl 1 rfl) ?_
      obtain ⟨x6, hc5, hf⟩ := um_bi hf
      refine um_cVi (pc := 25) (As := [.int a1]) (rest := []) Cx (c_X9_kindOf a1 hc5) kV_X9_kindOf (Or.inl qM_X9_77) hW hS ms_0 rfl rfl hl rfl (Nat.le_of_ble_eq_true rfl) (Nat.le_of_ble_eq_true rfl) (Nat.le_of_ble_eq_true rfl) dX9_as_25 (Nat.le_refl _) (Nat.le_refl _) ?_
      clear hW hS hc5
      intro H locs hW hS
      refine lv_istore_n (pc := 28) (lv' := [(3, .int x6), (0, .ref (α 0)), (1, .int a1), (2, .int a2)]) hx hb dX9_as_28 rfl hl (by decide) rfl ?_
      clear hl
      intro ls hl
      refine lv_iload_n (pc := 29) hx hb dX9_as_29 rfl (lv_at hl 3 rfl) ?_
      obtain ⟨k7, hk7, hf⟩ := um_j1 hf
      have J7 : ∀ (x8 : Int32), k7 x8 = some r → ∀ (H : Heap) (locs : List Loc) (ls : Array Slot), um_W Z msh α σ H → va_S (um_D msh α) s.heap H locs → lv_has ls 5 [(0, .ref (α 0)), (1, .int a1)] → um_G p l e (2) (46) s m args below meth c Z msh α σ (some (.int r)) H locs (F0 m 66 ls [.int x8]) := by
        intro x8 hf H locs ls hW hS hl
        rw [hk7] at hf
        refine lv_istore (pc := 66) (lv' := [(4, .int x8), (0, .ref (α 0)), (1, .int a1)]) hx hb dX9_as_66 hl (by decide) rfl ?_
        clear hl
        intro ls hl
        refine lv_iload (pc := 68) hx hb dX9_as_68 (lv_at hl 0 rfl) ?_
        refine lv_if_eq (pc := 70) (tgt := 89) hx hb dX9_as_70 (by decide) (fun c1 => ?_) (fun c1 => ?_)
        · have hf := um_it c1 hf
          clear c1
          refine lv_ldc (pc := 89) hx hb hown (hts _ qC_X9_122) dX9_as_89 ?_
          exact um_iretR (pc := 91) Cx hW hS hf dX9_as_91
        · have hf := um_ie c1 hf
          clear c1
          refine lv_aload_n (pc := 73) hx hb dX9_as_73 rfl (lv_at hl 1 rfl) ?_
          refine gF_X9_7 (pc := 74) Cx hW ms_0 rfl dX9_as_74 ?_
          refine lv_aload_n (pc := 77) hx hb dX9_as_77 rfl (lv_at hl 1 rfl) ?_
          refine lv_iload_n (pc := 78) hx hb dX9_as_78 rfl (lv_at hl 2 rfl) ?_
          obtain ⟨x10, hc9, hf⟩ := um_bi hf
          refine um_cVi (pc := 79) (As := [.int a1]) (rest := [.ref (α 1)]) Cx (c_X9_manAt a1 hc9) kV_X9_manAt (Or.inl qM_X9_66) hW hS ms_0 rfl rfl hl rfl (Nat.le_of_ble_eq_true rfl) (Nat.le_of_ble_eq_true rfl) (Nat.le_of_ble_eq_true rfl) dX9_as_79 (Nat.le_refl _) (Nat.le_refl _) ?_
          clear hW hS hc9
          intro H locs hW hS
          refine lv_bipush (pc := 82) (v := (6 : Int32)) hx hb dX9_as_82 (by decide) ?_
          refine lv_iadd (pc := 84) hx hb dX9_as_84 ?_
          obtain ⟨g11, hf⟩ := um_gu hf
          refine um_iald (pc := 85) Cx hW ms_1 rfl (um_ix_in g11) dX9_as_85 ?_
          refine lv_goto (pc := 86) (tgt := 91) hx hb dX9_as_86 (by decide) ?_
          exact um_iretR (pc := 91) Cx hW hS hf dX9_as_91
      obtain ⟨k12, hk12, hf⟩ := um_j1 hf
      have J12 : ∀ (_u : Unit), k12 _u = some r → ∀ (H : Heap) (locs : List Loc) (ls : Array Slot), um_W Z msh α σ H → va_S (um_D msh α) s.heap H locs → lv_has ls 5 [(0, .ref (α 0)), (1, .int a1)] → um_G p l e (2) (46) s m args below meth c Z msh α σ (some (.int r)) H locs (F0 m 61 ls []) := by
        intro _u hf H locs ls hW hS hl
        rw [hk12] at hf
        refine lv_iconst (pc := 61) (v := (1 : Int32)) hx hb dX9_as_61 (by decide) ?_
        refine lv_goto (pc := 62) (tgt := 66) hx hb dX9_as_62 (by decide) ?_
        exact J7 (1 : Int32) hf _ _ _ hW hS hl
      refine lv_if_eq (pc := 30) (tgt := 61) hx hb dX9_as_30 (by decide) (fun c1 => ?_) (fun c1 => ?_)
      · have hf := um_it c1 hf
        clear c1
        exact J12 () hf _ _ _ hW hS (lv_sub hl [1, 2] rfl)
      · have hf := um_ie c1 hf
        clear c1
        refine lv_iload_n (pc := 33) hx hb dX9_as_33 rfl (lv_at hl 3 rfl) ?_
        refine lv_iload_n (pc := 34) hx hb dX9_as_34 rfl (lv_at hl 0 rfl) ?_
        refine lv_icmp_eq (pc := 35) (tgt := 61) hx hb dX9_as_35 (by decide) (fun c1 => ?_) (fun c1 => ?_)
        · have hf := um_it c1 hf
          clear c1
          exact J12 () hf _ _ _ hW hS (lv_sub hl [1, 2] rfl)
        · have hf := um_ie c1 hf
          clear c1
          refine lv_iload_n (pc := 38) hx hb dX9_as_38 rfl (lv_at hl 3 rfl) ?_
          refine lv_iconst (pc := 39) (v := (1 : Int32)) hx hb dX9_as_39 (by decide) ?_
          obtain ⟨k13, hk13, hf⟩ := um_j1 hf
          have J13 : ∀ (_u : Unit), k13 _u = some r → ∀ (H : Heap) (locs : List Loc) (ls : Array Slot), um_W Z msh α σ H → va_S (um_D msh α) s.heap H locs → lv_has ls 5 [(0, .ref (α 0)), (1, .int a1)] → um_G p l e (2) (46) s m args below meth c Z msh α σ (some (.int r)) H locs (F0 m 65 ls []) := by
            intro _u hf H locs ls hW hS hl
            rw [hk13] at hf
            refine lv_iconst (pc := 65) (v := (0 : Int32)) hx hb dX9_as_65 (by decide) ?_
            exact J7 (0 : Int32) hf _ _ _ hW hS hl
          refine lv_icmp_ne (pc := 40) (tgt := 65) hx hb dX9_as_40 (by decide) (fun c1 => ?_) (fun c1 => ?_)
          · have hf := um_ie c1 hf
            clear c1
            exact J13 () hf _ _ _ hW hS (lv_sub hl [1, 2] rfl)
          · have hf := um_it c1 hf
            clear c1
            refine lv_iload_n (pc := 43) hx hb dX9_as_43 rfl (lv_at hl 0 rfl) ?_
            refine lv_i2l (pc := 44) hx hb dX9_as_44 rfl ?_
            refine lv_lconst (pc := 45) (v := (1 : Int64)) hx hb dX9_as_45 (by decide) ?_
            refine lv_ldc2 (pc := 46) hx hb hown (hts _ qL_X9_80) dX9_as_46 ?_
            obtain ⟨x15, hc14, hf⟩ := um_bi hf
            refine um_cSi (pc := 49) (As := [.long (x6.toInt64), .long (1 : Int64), .long (4 : Int64)]) (rest := []) Cx (c_X9_isIn (x6.toInt64) (1 : Int64) (4 : Int64) hc14) kS_X9_isIn (Or.inl qM_X9_60) hW hS rfl hl rfl (Nat.le_of_ble_eq_true rfl) (Nat.le_of_ble_eq_true rfl) (Nat.le_of_ble_eq_true rfl) dX9_as_49 (Nat.le_refl _) (Nat.le_refl _) ?_
            clear hW hS hc14
            intro H locs hW hS
            refine lv_if_ne (pc := 52) (tgt := 61) hx hb dX9_as_52 (by decide) (fun c1 => ?_) (fun c1 => ?_)
            · have hf := um_ie c1 hf
              clear c1
              exact J12 () hf _ _ _ hW hS (lv_sub hl [1, 2] rfl)
            · have hf := um_it c1 hf
              clear c1
              refine lv_iload_n (pc := 55) hx hb dX9_as_55 rfl (lv_at hl 0 rfl) ?_
              refine lv_bipush (pc := 56) (v := (7 : Int32)) hx hb dX9_as_56 (by decide) ?_
              refine lv_icmp_ne (pc := 58) (tgt := 65) hx hb dX9_as_58 (by decide) (fun c1 => ?_) (fun c1 => ?_)
              · have hf := um_ie c1 hf
                clear c1
                exact J13 () hf _ _ _ hW hS (lv_sub hl [1, 2] rfl)
              · have hf := um_it c1 hf
                clear c1
                exact J12 () hf _ _ _ hW hS (lv_sub hl [1, 2] rfl)
    · have hf := um_it c1 hf
      clear c1
      refine lv_ldc (pc := 20) hx hb hown (hts _ qC_X9_87) dX9_as_20 ?_
      exact um_iretR (pc := 22) Cx hW hS hf dX9_as_22
theorem c_X9_as {σ : um_S} {r : Int32} (a1 : Int32) (a2 : Int32)  (hf : f_X9_as a1 a2 σ = some r) : um_M l yX9_as cX9_as 5 (some FieldType.int) (2) (46) Z msh α σ [.ref (α 0), .int a1, .int a2] (some (.int r)) σ :=
  um_start (by decide) (Nat.le_of_ble_eq_true rfl) (fun p e s m below meth c ls Cx hW hS hl => b_X9_as a1 a2 hf Cx hW hS hl)
noncomputable def f_X9_isDead (a1 : Int32) (σ : um_S) : Option (Bool) :=
(f_X9_manAt a1 σ).bind fun x2 =>
(if um_ix (x2 + (11 : Int32)) 3790 then
(if (σ.1 1 (x2 + (11 : Int32)).toNatClampNeg) = (1 : Int32) then
(some true)
else
(some false)) else none)
set_option maxRecDepth 100000 in
set_option maxHeartbeats 4000000 in
theorem b_X9_isDead {H : Heap} {locs : List Loc} {ls : Array Slot} {σ : um_S} {r : Bool} (a1 : Int32)  (hf : f_X9_isDead a1 σ = some r) (Cx : um_C p s m meth c args cX9_isDead 2 (some FieldType.boolean) RX9 Z) (hW : um_W Z msh α σ H) (hS : va_S (um_D msh α) s.heap H locs) (hl : lv_has ls 2 [(0, .ref (α 0)), (1, .int a1)]) : um_G p l e (1) (21) s m args below meth c Z msh α σ (some (.int (um_b r))) H locs (F0 m 0 ls []) := by
  have hx := Cx.1
  have hb := Cx.2.1
  have hown := Cx.2.2.2.2.1
  have hts := Cx.2.2.2.2.2.1
  rw [f_X9_isDead] at hf
  refine lv_aload_n (pc := 0) hx hb dX9_isDead_0 rfl (lv_at hl 0 rfl) ?_
  refine gF_X9_7 (pc := 1) Cx hW ms_0 rfl dX9_isDead_1 ?_
  refine lv_aload_n (pc := 4) hx hb dX9_isDead_4 rfl (lv_at hl 0 rfl) ?_
  refine lv_iload_n (pc := 5) hx hb dX9_isDead_5 rfl (lv_at hl 1 rfl) ?_
  obtain ⟨x2, hc1, hf⟩ := um_bi hf
  refine um_cVi (pc := 6) (As := [.int a1]) (rest := [.ref (α 1)]) Cx (c_X9_manAt a1 hc1) kV_X9_manAt (Or.inl qM_X9_66) hW hS ms_0 rfl rfl hl rfl (Nat.le_of_ble_eq_true rfl) (Nat.le_of_ble_eq_true rfl) (Nat.le_of_ble_eq_true rfl) dX9_isDead_6 (Nat.le_refl _) (Nat.le_refl _) ?_
  clear hW hS hc1
  intro H locs hW hS
  refine lv_bipush (pc := 9) (v := (11 : Int32)) hx hb dX9_isDead_9 (by decide) ?_
  refine lv_iadd (pc := 11) hx hb dX9_isDead_11 ?_
  obtain ⟨g3, hf⟩ := um_gu hf
  refine um_iald (pc := 12) Cx hW ms_1 rfl (um_ix_in g3) dX9_isDead_12 ?_
  refine lv_iconst (pc := 13) (v := (1 : Int32)) hx hb dX9_isDead_13 (by decide) ?_
  refine lv_icmp_ne (pc := 14) (tgt := 21) hx hb dX9_isDead_14 (by decide) (fun c1 => ?_) (fun c1 => ?_)
  · have hf := um_ie c1 hf
    clear c1
    refine lv_iconst (pc := 21) (v := (0 : Int32)) hx hb dX9_isDead_21 (by decide) ?_
    exact um_zretR (pc := 22) Cx hW hS hf rfl dX9_isDead_22
  · have hf := um_it c1 hf
    clear c1
    refine lv_iconst (pc := 17) (v := (1 : Int32)) hx hb dX9_isDead_17 (by decide) ?_
    refine lv_goto (pc := 18) (tgt := 22) hx hb dX9_isDead_18 (by decide) ?_
    exact um_zretR (pc := 22) Cx hW hS hf rfl dX9_isDead_22
theorem c_X9_isDead {σ : um_S} {r : Bool} (a1 : Int32)  (hf : f_X9_isDead a1 σ = some r) : um_M l yX9_isDead cX9_isDead 2 (some FieldType.boolean) (1) (21) Z msh α σ [.ref (α 0), .int a1] (some (.int (um_b r))) σ :=
  um_start (by decide) (Nat.le_of_ble_eq_true rfl) (fun p e s m below meth c ls Cx hW hS hl => b_X9_isDead a1 hf Cx hW hS hl)
noncomputable def f_X9_assignedTo_l4 (v1 : Int32) (σ : um_S) : Nat → Int32 → Int32 → Option (Int32)
  | 0, _, _ => none
  | n + 1, v2, v3 =>
if (σ.1 1 2) ≤ v3 then
(some v2)
else
((f_X9_kindOf v3 σ).bind fun x2 =>
(if x2 = (2 : Int32) then
((f_X9_isDead v3 σ).bind fun x6 =>
(if (um_b x6) = 0 then
((f_X9_manAt v3 σ).bind fun x10 =>
(if um_ix (x10 + (6 : Int32)) 3790 then
(if (σ.1 1 (x10 + (6 : Int32)).toNatClampNeg) = v1 then
(um_let (v2 + (1 : Int32)) fun x14 =>
(f_X9_assignedTo_l4 v1 σ n x14 (v3 + (1 : Int32))))
else
(um_let (v2 + (0 : Int32)) fun x12 =>
(f_X9_assignedTo_l4 v1 σ n x12 (v3 + (1 : Int32))))) else none))
else
(um_let (v2 + (0 : Int32)) fun x7 =>
(f_X9_assignedTo_l4 v1 σ n x7 (v3 + (1 : Int32))))))
else
(um_let (v2 + (0 : Int32)) fun x3 =>
(f_X9_assignedTo_l4 v1 σ n x3 (v3 + (1 : Int32))))))
noncomputable def f_X9_assignedTo (a1 : Int32) (σ : um_S) : Option (Int32) :=
(f_X9_assignedTo_l4 a1 σ um_N (0 : Int32) (0 : Int32)).bind fun x1 =>
(some x1)
set_option maxRecDepth 100000 in
set_option maxHeartbeats 4000000 in
theorem t_X9_assignedTo_l4 {Q : State → Prop} {o2 : Int32} {σ : um_S} (v1 : Int32)  (Cx : um_C p s m meth c args cX9_assignedTo 4 (some FieldType.int) RX9 Z) (hE : ∀ (H : Heap) (locs : List Loc) (ls : Array Slot), um_W Z msh α σ H → va_S (um_D msh α) s.heap H locs → lv_has ls 4 [(2, .int o2)] → W p l e { frames := 2, cells := 0, slots := 0, locals := 42 } s m args below meth c H locs 0 0 Q (F0 m 62 ls [])) : ∀ (n : Nat) (v2 : Int32) (v3 : Int32) (H : Heap) (locs : List Loc) (ls : Array Slot), f_X9_assignedTo_l4 v1 σ n v2 v3 = some o2 → um_W Z msh α σ H → va_S (um_D msh α) s.heap H locs → lv_has ls 4 [(0, .ref (α 0)), (1, .int v1), (2, .int v2), (3, .int v3)] → W p l e { frames := 2, cells := 0, slots := 0, locals := 42 } s m args below meth c H locs 0 0 Q (F0 m 4 ls []) := by
  have hx := Cx.1
  have hb := Cx.2.1
  have hown := Cx.2.2.2.2.1
  have hts := Cx.2.2.2.2.2.1
  intro n
  induction n with
  | zero =>
    intro v2 v3 H locs ls hf hW hS hl
    cases hf
  | succ n ih =>
    intro v2 v3 H locs ls hf hW hS hl
    rw [f_X9_assignedTo_l4] at hf
    refine lv_iload_n (pc := 4) hx hb dX9_assignedTo_4 rfl (lv_at hl 3 rfl) ?_
    refine lv_aload_n (pc := 5) hx hb dX9_assignedTo_5 rfl (lv_at hl 0 rfl) ?_
    refine gF_X9_7 (pc := 6) Cx hW ms_0 rfl dX9_assignedTo_6 ?_
    refine lv_iconst (pc := 9) (v := (2 : Int32)) hx hb dX9_assignedTo_9 (by decide) ?_
    refine um_iaj (pc := 10) 2 rfl Cx hW ms_1 rfl (um_ix_in (by decide)) dX9_assignedTo_10 ?_
    refine lv_icmp_ge (pc := 11) (tgt := 62) hx hb dX9_assignedTo_11 (by decide) (fun c1 => ?_) (fun c1 => ?_)
    · have hf := um_it c1 hf
      clear c1
      cases hf
      exact hE _ _ _ hW hS (lv_sub hl [2] rfl)
    · have hf := um_ie c1 hf
      clear c1
      refine lv_iload_n (pc := 14) hx hb dX9_assignedTo_14 rfl (lv_at hl 2 rfl) ?_
      refine lv_aload_n (pc := 15) hx hb dX9_assignedTo_15 rfl (lv_at hl 0 rfl) ?_
      refine lv_iload_n (pc := 16) hx hb dX9_assignedTo_16 rfl (lv_at hl 3 rfl) ?_
      obtain ⟨x2, hc1, hf⟩ := um_bi hf
      refine um_cVi (pc := 17) (As := [.int v3]) (rest := [.int v2]) Cx (c_X9_kindOf v3 hc1) kV_X9_kindOf (Or.inl qM_X9_77) hW hS ms_0 rfl rfl hl rfl (Nat.le_of_ble_eq_true rfl) (Nat.le_of_ble_eq_true rfl) (Nat.le_of_ble_eq_true rfl) dX9_assignedTo_17 (Nat.le_refl _) (Nat.le_refl _) ?_
      clear hW hS hc1
      intro H locs hW hS
      refine lv_iconst (pc := 20) (v := (2 : Int32)) hx hb dX9_assignedTo_20 (by decide) ?_
      refine lv_icmp_ne (pc := 21) (tgt := 53) hx hb dX9_assignedTo_21 (by decide) (fun c1 => ?_) (fun c1 => ?_)
      · have hf := um_ie c1 hf
        clear c1
        refine lv_iconst (pc := 53) (v := (0 : Int32)) hx hb dX9_assignedTo_53 (by decide) ?_
        refine lv_iadd (pc := 54) hx hb dX9_assignedTo_54 ?_
        obtain ⟨x3, e4, hf⟩ := um_le hf
        refine um_top e4 ?_
        clear e4
        refine lv_istore_n (pc := 55) (lv' := [(2, .int x3), (0, .ref (α 0)), (1, .int v1), (3, .int v3)]) hx hb dX9_assignedTo_55 rfl hl (by decide) rfl ?_
        clear hl
        intro ls hl
        refine lv_iinc (pc := 56) (v := v3 + (1 : Int32)) (lv' := [(3, .int (v3 + (1 : Int32))), (2, .int x3), (0, .ref (α 0)), (1, .int v1)]) hx hb dX9_assignedTo_56 hl (k := 3) rfl rfl (by decide) rfl ?_
        clear hl
        intro ls hl
        refine lv_goto (pc := 59) (tgt := 4) hx hb dX9_assignedTo_59 (by decide) ?_
        exact ih _ _ _ _ _ hf hW hS (lv_sub hl [2, 3, 1, 0] rfl)
      · have hf := um_it c1 hf
        clear c1
        refine lv_aload_n (pc := 24) hx hb dX9_assignedTo_24 rfl (lv_at hl 0 rfl) ?_
        refine lv_iload_n (pc := 25) hx hb dX9_assignedTo_25 rfl (lv_at hl 3 rfl) ?_
        obtain ⟨x6, hc5, hf⟩ := um_bi hf
        refine um_cVi (pc := 26) (As := [.int v3]) (rest := [.int v2]) Cx (c_X9_isDead v3 hc5) kV_X9_isDead (Or.inl qM_X9_70) hW hS ms_0 rfl rfl hl rfl (Nat.le_of_ble_eq_true rfl) (Nat.le_of_ble_eq_true rfl) (Nat.le_of_ble_eq_true rfl) dX9_assignedTo_26 (Nat.le_refl _) (Nat.le_refl _) ?_
        clear hW hS hc5
        intro H locs hW hS
        refine lv_if_ne (pc := 29) (tgt := 53) hx hb dX9_assignedTo_29 (by decide) (fun c1 => ?_) (fun c1 => ?_)
        · have hf := um_ie c1 hf
          clear c1
          refine lv_iconst (pc := 53) (v := (0 : Int32)) hx hb dX9_assignedTo_53 (by decide) ?_
          refine lv_iadd (pc := 54) hx hb dX9_assignedTo_54 ?_
          obtain ⟨x7, e8, hf⟩ := um_le hf
          refine um_top e8 ?_
          clear e8
          refine lv_istore_n (pc := 55) (lv' := [(2, .int x7), (0, .ref (α 0)), (1, .int v1), (3, .int v3)]) hx hb dX9_assignedTo_55 rfl hl (by decide) rfl ?_
          clear hl
          intro ls hl
          refine lv_iinc (pc := 56) (v := v3 + (1 : Int32)) (lv' := [(3, .int (v3 + (1 : Int32))), (2, .int x7), (0, .ref (α 0)), (1, .int v1)]) hx hb dX9_assignedTo_56 hl (k := 3) rfl rfl (by decide) rfl ?_
          clear hl
          intro ls hl
          refine lv_goto (pc := 59) (tgt := 4) hx hb dX9_assignedTo_59 (by decide) ?_
          exact ih _ _ _ _ _ hf hW hS (lv_sub hl [2, 3, 1, 0] rfl)
        · have hf := um_it c1 hf
          clear c1
          refine lv_aload_n (pc := 32) hx hb dX9_assignedTo_32 rfl (lv_at hl 0 rfl) ?_
          refine gF_X9_7 (pc := 33) Cx hW ms_0 rfl dX9_assignedTo_33 ?_
          refine lv_aload_n (pc := 36) hx hb dX9_assignedTo_36 rfl (lv_at hl 0 rfl) ?_
          refine lv_iload_n (pc := 37) hx hb dX9_assignedTo_37 rfl (lv_at hl 3 rfl) ?_
          obtain ⟨x10, hc9, hf⟩ := um_bi hf
          refine um_cVi (pc := 38) (As := [.int v3]) (rest := [.ref (α 1), .int v2]) Cx (c_X9_manAt v3 hc9) kV_X9_manAt (Or.inl qM_X9_66) hW hS ms_0 rfl rfl hl rfl (Nat.le_of_ble_eq_true rfl) (Nat.le_of_ble_eq_true rfl) (Nat.le_of_ble_eq_true rfl) dX9_assignedTo_38 (Nat.le_refl _) (Nat.le_refl _) ?_
          clear hW hS hc9
          intro H locs hW hS
          refine lv_bipush (pc := 41) (v := (6 : Int32)) hx hb dX9_assignedTo_41 (by decide) ?_
          refine lv_iadd (pc := 43) hx hb dX9_assignedTo_43 ?_
          obtain ⟨g11, hf⟩ := um_gu hf
          refine um_iald (pc := 44) Cx hW ms_1 rfl (um_ix_in g11) dX9_assignedTo_44 ?_
          refine lv_iload_n (pc := 45) hx hb dX9_assignedTo_45 rfl (lv_at hl 1 rfl) ?_
          refine lv_icmp_ne (pc := 46) (tgt := 53) hx hb dX9_assignedTo_46 (by decide) (fun c1 => ?_) (fun c1 => ?_)
          · have hf := um_ie c1 hf
            clear c1
            refine lv_iconst (pc := 53) (v := (0 : Int32)) hx hb dX9_assignedTo_53 (by decide) ?_
            refine lv_iadd (pc := 54) hx hb dX9_assignedTo_54 ?_
            obtain ⟨x12, e13, hf⟩ := um_le hf
            refine um_top e13 ?_
            clear e13
            refine lv_istore_n (pc := 55) (lv' := [(2, .int x12), (0, .ref (α 0)), (1, .int v1), (3, .int v3)]) hx hb dX9_assignedTo_55 rfl hl (by decide) rfl ?_
            clear hl
            intro ls hl
            refine lv_iinc (pc := 56) (v := v3 + (1 : Int32)) (lv' := [(3, .int (v3 + (1 : Int32))), (2, .int x12), (0, .ref (α 0)), (1, .int v1)]) hx hb dX9_assignedTo_56 hl (k := 3) rfl rfl (by decide) rfl ?_
            clear hl
            intro ls hl
            refine lv_goto (pc := 59) (tgt := 4) hx hb dX9_assignedTo_59 (by decide) ?_
            exact ih _ _ _ _ _ hf hW hS (lv_sub hl [2, 3, 1, 0] rfl)
          · have hf := um_it c1 hf
            clear c1
            refine lv_iconst (pc := 49) (v := (1 : Int32)) hx hb dX9_assignedTo_49 (by decide) ?_
            refine lv_goto (pc := 50) (tgt := 54) hx hb dX9_assignedTo_50 (by decide) ?_
            refine lv_iadd (pc := 54) hx hb dX9_assignedTo_54 ?_
            obtain ⟨x14, e15, hf⟩ := um_le hf
            refine um_top e15 ?_
            clear e15
            refine lv_istore_n (pc := 55) (lv' := [(2, .int x14), (0, .ref (α 0)), (1, .int v1), (3, .int v3)]) hx hb dX9_assignedTo_55 rfl hl (by decide) rfl ?_
            clear hl
            intro ls hl
            refine lv_iinc (pc := 56) (v := v3 + (1 : Int32)) (lv' := [(3, .int (v3 + (1 : Int32))), (2, .int x14), (0, .ref (α 0)), (1, .int v1)]) hx hb dX9_assignedTo_56 hl (k := 3) rfl rfl (by decide) rfl ?_
            clear hl
            intro ls hl
            refine lv_goto (pc := 59) (tgt := 4) hx hb dX9_assignedTo_59 (by decide) ?_
            exact ih _ _ _ _ _ hf hW hS (lv_sub hl [2, 3, 1, 0] rfl)
set_option maxRecDepth 100000 in
set_option maxHeartbeats 4000000 in
theorem b_X9_assignedTo {H : Heap} {locs : List Loc} {ls : Array Slot} {σ : um_S} {r : Int32} (a1 : Int32)  (hf : f_X9_assignedTo a1 σ = some r) (Cx : um_C p s m meth c args cX9_assignedTo 4 (some FieldType.int) RX9 Z) (hW : um_W Z msh α σ H) (hS : va_S (um_D msh α) s.heap H locs) (hl : lv_has ls 4 [(0, .ref (α 0)), (1, .int a1)]) : um_G p l e (2) (42) s m args below meth c Z msh α σ (some (.int r)) H locs (F0 m 0 ls []) := by
  have hx := Cx.1
  have hb := Cx.2.1
  have hown := Cx.2.2.2.2.1
  have hts := Cx.2.2.2.2.2.1
  rw [f_X9_assignedTo] at hf
  refine lv_iconst (pc := 0) (v := (0 : Int32)) hx hb dX9_assignedTo_0 (by decide) ?_
  refine lv_istore_n (pc := 1) (lv' := [(2, .int (0 : Int32)), (0, .ref (α 0)), (1, .int a1)]) hx hb dX9_assignedTo_1 rfl hl (by decide) rfl ?_
  clear hl
  intro ls hl
  refine lv_iconst (pc := 2) (v := (0 : Int32)) hx hb dX9_assignedTo_2 (by decide) ?_
  refine lv_istore_n (pc := 3) (lv' := [(3, .int (0 : Int32)), (2, .int (0 : Int32)), (0, .ref (α 0)), (1, .int a1)]) hx hb dX9_assignedTo_3 rfl hl (by decide) rfl ?_
  clear hl
  intro ls hl
  obtain ⟨x1, hc2, hf⟩ := um_bi hf
  refine t_X9_assignedTo_l4 a1 Cx ?_ um_N _ _ _ _ _ hc2 hW hS (lv_sub hl [2, 3, 1, 0] rfl)
  clear hW hS hl hc2
  intro H locs ls hW hS hl
  refine lv_iload_n (pc := 62) hx hb dX9_assignedTo_62 rfl (lv_at hl 0 rfl) ?_
  exact um_iretR (pc := 63) Cx hW hS hf dX9_assignedTo_63
theorem c_X9_assignedTo {σ : um_S} {r : Int32} (a1 : Int32)  (hf : f_X9_assignedTo a1 σ = some r) : um_M l yX9_assignedTo cX9_assignedTo 4 (some FieldType.int) (2) (42) Z msh α σ [.ref (α 0), .int a1] (some (.int r)) σ :=
  um_start (by decide) (Nat.le_of_ble_eq_true rfl) (fun p e s m below meth c ls Cx hW hS hl => b_X9_assignedTo a1 hf Cx hW hS hl)
noncomputable def f_X9_becomesOf (a1 : Int32) (a2 : Int32) (a3 : Int32) (σ : um_S) : Option (um_S) :=
(f_X9_manAt a1 σ).bind fun x2 =>
(if um_ix (x2 + (5 : Int32)) 3790 then
(um_let (um_wr σ 1 (x2 + (5 : Int32)).toNatClampNeg a2) fun σ4 =>
(if um_ix (x2 + (6 : Int32)) 3790 then
(um_let (um_wr σ4 1 (x2 + (6 : Int32)).toNatClampNeg a3) fun σ7 =>
(if um_ix (x2 + (7 : Int32)) 3790 then
(um_let (um_wr σ7 1 (x2 + (7 : Int32)).toNatClampNeg (σ7.1 1 0)) fun σ10 =>
(some σ10)) else none)) else none)) else none)
set_option maxRecDepth 100000 in
set_option maxHeartbeats 4000000 in
theorem b_X9_becomesOf {H : Heap} {locs : List Loc} {ls : Array Slot} {σ : um_S} {σ' : um_S} (a1 : Int32) (a2 : Int32) (a3 : Int32)  (hf : f_X9_becomesOf a1 a2 a3 σ = some σ') (Cx : um_C p s m meth c args cX9_becomesOf 5 none RX9 Z) (hW : um_W Z msh α σ H) (hS : va_S (um_D msh α) s.heap H locs) (hl : lv_has ls 5 [(0, .ref (α 0)), (1, .int a1), (2, .int a2), (3, .int a3)]) : um_G p l e (1) (21) s m args below meth c Z msh α σ' none H locs (F0 m 0 ls []) := by
  have hx := Cx.1
  have hb := Cx.2.1
  have hown := Cx.2.2.2.2.1
  have hts := Cx.2.2.2.2.2.1
  rw [f_X9_becomesOf] at hf
  refine lv_aload_n (pc := 0) hx hb dX9_becomesOf_0 rfl (lv_at hl 0 rfl) ?_
  refine lv_iload_n (pc := 1) hx hb dX9_becomesOf_1 rfl (lv_at hl 1 rfl) ?_
  obtain ⟨x2, hc1, hf⟩ := um_bi hf
  refine um_cVi (pc := 2) (As := [.int a1]) (rest := []) Cx (c_X9_manAt a1 hc1) kV_X9_manAt (Or.inl qM_X9_66) hW hS ms_0 rfl rfl hl rfl (Nat.le_of_ble_eq_true rfl) (Nat.le_of_ble_eq_true rfl) (Nat.le_of_ble_eq_true rfl) dX9_becomesOf_2 (Nat.le_refl _) (Nat.le_refl _) ?_
  clear hW hS hc1
  intro H locs hW hS
  refine lv_istore (pc := 5) (lv' := [(4, .int x2), (0, .ref (α 0)), (1, .int a1), (2, .int a2), (3, .int a3)]) hx hb dX9_becomesOf_5 hl (by decide) rfl ?_
  clear hl
  intro ls hl
  refine lv_aload_n (pc := 7) hx hb dX9_becomesOf_7 rfl (lv_at hl 1 rfl) ?_
  refine gF_X9_7 (pc := 8) Cx hW ms_0 rfl dX9_becomesOf_8 ?_
  refine lv_iload (pc := 11) hx hb dX9_becomesOf_11 (lv_at hl 0 rfl) ?_
  refine lv_iconst (pc := 13) (v := (5 : Int32)) hx hb dX9_becomesOf_13 (by decide) ?_
  refine lv_iadd (pc := 14) hx hb dX9_becomesOf_14 ?_
  refine lv_iload_n (pc := 15) hx hb dX9_becomesOf_15 rfl (lv_at hl 3 rfl) ?_
  obtain ⟨g3, hf⟩ := um_gu hf
  refine um_iast (pc := 16) Cx hW hS ms_1 rfl (um_ix_in g3) dX9_becomesOf_16 ?_
  clear hW hS
  intro H locs hW hS
  obtain ⟨σ4, e5, hf⟩ := um_le hf
  rw [← e5] at hW
  clear e5
  refine lv_aload_n (pc := 17) hx hb dX9_becomesOf_17 rfl (lv_at hl 1 rfl) ?_
  refine gF_X9_7 (pc := 18) Cx hW ms_0 rfl dX9_becomesOf_18 ?_
  refine lv_iload (pc := 21) hx hb dX9_becomesOf_21 (lv_at hl 0 rfl) ?_
  refine lv_bipush (pc := 23) (v := (6 : Int32)) hx hb dX9_becomesOf_23 (by decide) ?_
  refine lv_iadd (pc := 25) hx hb dX9_becomesOf_25 ?_
  refine lv_iload_n (pc := 26) hx hb dX9_becomesOf_26 rfl (lv_at hl 4 rfl) ?_
  obtain ⟨g6, hf⟩ := um_gu hf
  refine um_iast (pc := 27) Cx hW hS ms_1 rfl (um_ix_in g6) dX9_becomesOf_27 ?_
  clear hW hS
  intro H locs hW hS
  obtain ⟨σ7, e8, hf⟩ := um_le hf
  rw [← e8] at hW
  clear e8
  refine lv_aload_n (pc := 28) hx hb dX9_becomesOf_28 rfl (lv_at hl 1 rfl) ?_
  refine gF_X9_7 (pc := 29) Cx hW ms_0 rfl dX9_becomesOf_29 ?_
  refine lv_iload (pc := 32) hx hb dX9_becomesOf_32 (lv_at hl 0 rfl) ?_
  refine lv_bipush (pc := 34) (v := (7 : Int32)) hx hb dX9_becomesOf_34 (by decide) ?_
  refine lv_iadd (pc := 36) hx hb dX9_becomesOf_36 ?_
  refine lv_aload_n (pc := 37) hx hb dX9_becomesOf_37 rfl (lv_at hl 1 rfl) ?_
  refine gF_X9_7 (pc := 38) Cx hW ms_0 rfl dX9_becomesOf_38 ?_
  refine lv_iconst (pc := 41) (v := (0 : Int32)) hx hb dX9_becomesOf_41 (by decide) ?_
  refine um_iaj (pc := 42) 0 rfl Cx hW ms_1 rfl (um_ix_in (by decide)) dX9_becomesOf_42 ?_
  obtain ⟨g9, hf⟩ := um_gu hf
  refine um_iast (pc := 43) Cx hW hS ms_1 rfl (um_ix_in g9) dX9_becomesOf_43 ?_
  clear hW hS
  intro H locs hW hS
  obtain ⟨σ10, e11, hf⟩ := um_le hf
  rw [← e11] at hW
  clear e11
  exact um_vret (pc := 44) Cx hW hS hf dX9_becomesOf_44
theorem c_X9_becomesOf {σ : um_S} {σ' : um_S} (a1 : Int32) (a2 : Int32) (a3 : Int32)  (hf : f_X9_becomesOf a1 a2 a3 σ = some σ') : um_M l yX9_becomesOf cX9_becomesOf 5 none (1) (21) Z msh α σ [.ref (α 0), .int a1, .int a2, .int a3] none σ' :=
  um_start (by decide) (Nat.le_of_ble_eq_true rfl) (fun p e s m below meth c ls Cx hW hS hl => b_X9_becomesOf a1 a2 a3 hf Cx hW hS hl)
noncomputable def f_X9_isMaster (a1 : Int32) (σ : um_S) : Option (Bool) :=
(f_X9_isIn (a1.toInt64) (0 : Int64) (((σ.1 1 3) - (1 : Int32)).toInt64) σ).bind fun x2 =>
(some x2)
set_option maxRecDepth 100000 in
set_option maxHeartbeats 4000000 in
theorem b_X9_isMaster {H : Heap} {locs : List Loc} {ls : Array Slot} {σ : um_S} {r : Bool} (a1 : Int32)  (hf : f_X9_isMaster a1 σ = some r) (Cx : um_C p s m meth c args cX9_isMaster 2 (some FieldType.boolean) RX9 Z) (hW : um_W Z msh α σ H) (hS : va_S (um_D msh α) s.heap H locs) (hl : lv_has ls 2 [(0, .ref (α 0)), (1, .int a1)]) : um_G p l e (1) (25) s m args below meth c Z msh α σ (some (.int (um_b r))) H locs (F0 m 0 ls []) := by
  have hx := Cx.1
  have hb := Cx.2.1
  have hown := Cx.2.2.2.2.1
  have hts := Cx.2.2.2.2.2.1
  rw [f_X9_isMaster] at hf
  refine lv_iload_n (pc := 0) hx hb dX9_isMaster_0 rfl (lv_at hl 1 rfl) ?_
  refine lv_i2l (pc := 1) hx hb dX9_isMaster_1 rfl ?_
  refine lv_lconst (pc := 2) (v := (0 : Int64)) hx hb dX9_isMaster_2 (by decide) ?_
  refine lv_aload_n (pc := 3) hx hb dX9_isMaster_3 rfl (lv_at hl 0 rfl) ?_
  refine gF_X9_7 (pc := 4) Cx hW ms_0 rfl dX9_isMaster_4 ?_
  refine lv_iconst (pc := 7) (v := (3 : Int32)) hx hb dX9_isMaster_7 (by decide) ?_
  refine um_iaj (pc := 8) 3 rfl Cx hW ms_1 rfl (um_ix_in (by decide)) dX9_isMaster_8 ?_
  refine lv_iconst (pc := 9) (v := (1 : Int32)) hx hb dX9_isMaster_9 (by decide) ?_
  refine lv_isub (pc := 10) hx hb dX9_isMaster_10 ?_
  refine lv_i2l (pc := 11) hx hb dX9_isMaster_11 rfl ?_
  obtain ⟨x2, hc1, hf⟩ := um_bi hf
  refine um_cSi (pc := 12) (As := [.long (a1.toInt64), .long (0 : Int64), .long (((σ.1 1 3) - (1 : Int32)).toInt64)]) (rest := []) Cx (c_X9_isIn (a1.toInt64) (0 : Int64) (((σ.1 1 3) - (1 : Int32)).toInt64) hc1) kS_X9_isIn (Or.inl qM_X9_60) hW hS rfl hl rfl (Nat.le_of_ble_eq_true rfl) (Nat.le_of_ble_eq_true rfl) (Nat.le_of_ble_eq_true rfl) dX9_isMaster_12 (Nat.le_refl _) (Nat.le_refl _) ?_
  clear hW hS hc1
  intro H locs hW hS
  exact um_zretR (pc := 15) Cx hW hS hf rfl dX9_isMaster_15
theorem c_X9_isMaster {σ : um_S} {r : Bool} (a1 : Int32)  (hf : f_X9_isMaster a1 σ = some r) : um_M l yX9_isMaster cX9_isMaster 2 (some FieldType.boolean) (1) (25) Z msh α σ [.ref (α 0), .int a1] (some (.int (um_b r))) σ :=
  um_start (by decide) (Nat.le_of_ble_eq_true rfl) (fun p e s m below meth c ls Cx hW hS hl => b_X9_isMaster a1 hf Cx hW hS hl)
