variable {p : Program} {l : Launch} {e : Env} {s : State} {m : MethodId} {args : Array Value} {below : List Frame} {meth : Method} {c : Code} {Z : um_Z} {α : Nat → Nat} {sh : Nat → Option um_Sh}
noncomputable def f_J0_isLatin1_aae02 (a0 : Nat) (σ : um_S) : Option (Bool) :=
    if (1 : Int32) = 0 then
    (some false)
    else
    (if (0 : Int32) = 0 then
    (some true)
    else
    (some false))
set_option maxRecDepth 100000 in
set_option maxHeartbeats 4000000 in
theorem b_J0_isLatin1_aae02 {H : Heap} {locs : List Loc} {ls : Array Slot} {σ : um_S} {r : Bool} (a0 : Nat) (hh0 : a0 < 9) (hX : um_X sh) (hf : f_J0_isLatin1_aae02 a0 σ = some r) (Cx : um_C p s m meth c args cJ0_isLatin1_aae02 1 (some FieldType.boolean) RJ0 Z) (hW : um_W Z sh α σ H) (hS : va_S (um_D sh α) s.heap H locs) (hl : lv_has ls 1 [(0, .ref (Z.2.2.2.2.1 a0))]) : um_G p l e (0) (0) s m args below meth c Z sh α σ (some (.int (um_b r))) H locs (F0 m 0 ls []) := by
  have hx := Cx.1
  have hb := Cx.2.1
  have hown := Cx.2.2.2.2.1
  have hts := Cx.2.2.2.2.2.1
  rw [f_J0_isLatin1_aae02] at hf
  refine um_gcs (pc := 0) Cx hW hS (hts _ qF_J0_38) dJ0_isLatin1_aae02_0 ?_
  refine lv_if_eq (pc := 3) (tgt := 17) hx hb dJ0_isLatin1_aae02_3 (by decide) (fun c1 => ?_) (fun c1 => ?_)
  · have hf := um_it c1 hf
    clear c1
    refine lv_iconst (pc := 17) (v := (0 : Int32)) hx hb dJ0_isLatin1_aae02_17 (by decide) ?_
    exact um_zretR (pc := 18) Cx hW hS hf rfl dJ0_isLatin1_aae02_18
  · have hf := um_ie c1 hf
    clear c1
    refine lv_aload_n (pc := 6) hx hb dJ0_isLatin1_aae02_6 rfl (lv_at hl 0 rfl) ?_
    refine um_scod (pc := 7) hh0 Cx hW hS (hts _ qF_J0_15) dJ0_isLatin1_aae02_7 ?_
    refine lv_if_ne (pc := 10) (tgt := 17) hx hb dJ0_isLatin1_aae02_10 (by decide) (fun c1 => ?_) (fun c1 => ?_)
    · have hf := um_ie c1 hf
      clear c1
      refine lv_iconst (pc := 17) (v := (0 : Int32)) hx hb dJ0_isLatin1_aae02_17 (by decide) ?_
      exact um_zretR (pc := 18) Cx hW hS hf rfl dJ0_isLatin1_aae02_18
    · have hf := um_it c1 hf
      clear c1
      refine lv_iconst (pc := 13) (v := (1 : Int32)) hx hb dJ0_isLatin1_aae02_13 (by decide) ?_
      refine lv_goto (pc := 14) (tgt := 18) hx hb dJ0_isLatin1_aae02_14 (by decide) ?_
      exact um_zretR (pc := 18) Cx hW hS hf rfl dJ0_isLatin1_aae02_18
theorem c_J0_isLatin1_aae02 {σ : um_S} {r : Bool} (a0 : Nat) (hh0 : a0 < 9) (hX : um_X sh) (hf : f_J0_isLatin1_aae02 a0 σ = some r) : um_M l yJ0_isLatin1_aae02 cJ0_isLatin1_aae02 1 (some FieldType.boolean) (0) (0) Z sh α σ [.ref (Z.2.2.2.2.1 a0)] (some (.int (um_b r))) σ :=
  um_start (by decide) (Nat.le_of_ble_eq_true rfl) (fun p e s m below meth c ls Cx hW hS hl => b_J0_isLatin1_aae02 a0 hh0 hX hf Cx hW hS hl)
noncomputable def f_J3_checkIndex_8e157 (a0 : Int32) (a1 : Int32) (σ : um_S) : Option (Int32) :=
    um_let (fun (_u : Unit) =>
    (none)) fun k1 =>
    (if a0 < 0 then
    (k1 ())
    else
    (if a0 < a1 then
    (some a0)
    else
    (k1 ())))
set_option maxRecDepth 100000 in
set_option maxHeartbeats 4000000 in
theorem b_J3_checkIndex_8e157 {H : Heap} {locs : List Loc} {ls : Array Slot} {σ : um_S} {r : Int32} (a0 : Int32) (a1 : Int32) (vv : Value) (hvv : vv = .null ∨ ∃ a, vv = .ref a) (hX : um_X sh) (hf : f_J3_checkIndex_8e157 a0 a1 σ = some r) (Cx : um_C p s m meth c args cJ3_checkIndex_8e157 3 (some FieldType.int) RJ3 Z) (hW : um_W Z sh α σ H) (hS : va_S (um_D sh α) s.heap H locs) (hl : lv_has ls 3 [(0, .int a0), (1, .int a1), (2, vv)]) : um_G p l e (0) (0) s m args below meth c Z sh α σ (some (.int r)) H locs (F0 m 0 ls []) := by
  have hx := Cx.1
  have hb := Cx.2.1
  have hown := Cx.2.2.2.2.1
  have hts := Cx.2.2.2.2.2.1
  rw [f_J3_checkIndex_8e157] at hf
  refine lv_iload_n (pc := 0) hx hb dJ3_checkIndex_8e157_0 rfl (lv_at hl 0 rfl) ?_
  obtain ⟨k1, hk1, hf⟩ := um_j1 hf
  have J1 : ∀ (_u : Unit), k1 _u = some r → ∀ (H : Heap) (locs : List Loc) (ls : Array Slot), um_W Z sh α σ H → va_S (um_D sh α) s.heap H locs → lv_has ls 3 [(0, .int a0), (1, .int a1), (2, vv)] → um_G p l e (0) (0) s m args below meth c Z sh α σ (some (.int r)) H locs (F0 m 9 ls []) := by
    intro _u hf H locs ls hW hS hl
    rw [hk1] at hf
    cases hf
  refine lv_if_lt (pc := 1) (tgt := 9) hx hb dJ3_checkIndex_8e157_1 (by decide) (fun c1 => ?_) (fun c1 => ?_)
  · have hf := um_it c1 hf
    clear c1
    exact J1 () hf _ _ _ hW hS hl
  · have hf := um_ie c1 hf
    clear c1
    refine lv_iload_n (pc := 4) hx hb dJ3_checkIndex_8e157_4 rfl (lv_at hl 0 rfl) ?_
    refine lv_iload_n (pc := 5) hx hb dJ3_checkIndex_8e157_5 rfl (lv_at hl 1 rfl) ?_
    refine lv_icmp_lt (pc := 6) (tgt := 16) hx hb dJ3_checkIndex_8e157_6 (by decide) (fun c1 => ?_) (fun c1 => ?_)
    · have hf := um_it c1 hf
      clear c1
      refine lv_iload_n (pc := 16) hx hb dJ3_checkIndex_8e157_16 rfl (lv_at hl 0 rfl) ?_
      exact um_iretR (pc := 17) Cx hW hS hf dJ3_checkIndex_8e157_17
    · have hf := um_ie c1 hf
      clear c1
      exact J1 () hf _ _ _ hW hS hl
theorem c_J3_checkIndex_8e157 {σ : um_S} {r : Int32} (a0 : Int32) (a1 : Int32) (vv : Value) (hvv : vv = .null ∨ ∃ a, vv = .ref a) (hX : um_X sh) (hf : f_J3_checkIndex_8e157 a0 a1 σ = some r) : um_M l yJ3_checkIndex_8e157 cJ3_checkIndex_8e157 3 (some FieldType.int) (0) (0) Z sh α σ [.int a0, .int a1, vv] (some (.int r)) σ :=
  by
    rcases hvv with rfl | ⟨a, rfl⟩
    · exact um_start (by decide) (Nat.le_of_ble_eq_true rfl) (fun p e s m below meth c ls Cx hW hS hl => b_J3_checkIndex_8e157 a0 a1 _ (Or.inl rfl) hX hf Cx hW hS hl)
    · exact um_start (by decide) (Nat.le_of_ble_eq_true rfl) (fun p e s m below meth c ls Cx hW hS hl => b_J3_checkIndex_8e157 a0 a1 _ (Or.inr ⟨_, rfl⟩) hX hf Cx hW hS hl)
noncomputable def f_J0_checkIndex_df160 (a0 : Int32) (a1 : Int32) (σ : um_S) : Option (Unit) :=
    (f_J3_checkIndex_8e157 a0 a1 σ).bind fun x2 =>
    (some ())
set_option maxRecDepth 100000 in
set_option maxHeartbeats 4000000 in
theorem b_J0_checkIndex_df160 {H : Heap} {locs : List Loc} {ls : Array Slot} {σ : um_S} {r : Unit} (a0 : Int32) (a1 : Int32) (hX : um_X sh) (hf : f_J0_checkIndex_df160 a0 a1 σ = some r) (Cx : um_C p s m meth c args cJ0_checkIndex_df160 2 none RJ0 Z) (hW : um_W Z sh α σ H) (hS : va_S (um_D sh α) s.heap H locs) (hl : lv_has ls 2 [(0, .int a0), (1, .int a1)]) : um_G p l e (1) (22) s m args below meth c Z sh α σ none H locs (F0 m 0 ls []) := by
  have hx := Cx.1
  have hb := Cx.2.1
  have hown := Cx.2.2.2.2.1
  have hts := Cx.2.2.2.2.2.1
  rw [f_J0_checkIndex_df160] at hf
  refine lv_iload_n (pc := 0) hx hb dJ0_checkIndex_df160_0 rfl (lv_at hl 0 rfl) ?_
  refine lv_iload_n (pc := 1) hx hb dJ0_checkIndex_df160_1 rfl (lv_at hl 1 rfl) ?_
  refine um_gsf (pc := 2) Cx hW hS (hts _ qF_J0_1053) dJ0_checkIndex_df160_2 ?_
  intro vv hvv
  obtain ⟨x2, hc1, hf⟩ := um_bi hf
  refine um_cSi (pc := 5) (As := [.int a0, .int a1, vv]) (rest := []) Cx (c_J3_checkIndex_8e157 a0 a1 vv hvv hX hc1) kS_J3_checkIndex_8e157 (Or.inl qM_J0_1059) hW hS rfl hl rfl (Nat.le_of_ble_eq_true rfl) (Nat.le_of_ble_eq_true rfl) (Nat.le_of_ble_eq_true rfl) dJ0_checkIndex_df160_5 (Nat.le_refl _) (Nat.le_refl _) ?_
  clear hW hS hc1
  intro H locs hW hS
  refine lv_pop (pc := 8) hx hb dJ0_checkIndex_df160_8 rfl ?_
  exact um_vretR (pc := 9) Cx hW hS hf dJ0_checkIndex_df160_9
theorem c_J0_checkIndex_df160 {σ : um_S} {r : Unit} (a0 : Int32) (a1 : Int32) (hX : um_X sh) (hf : f_J0_checkIndex_df160 a0 a1 σ = some r) : um_M l yJ0_checkIndex_df160 cJ0_checkIndex_df160 2 none (1) (22) Z sh α σ [.int a0, .int a1] none σ :=
  um_start (by decide) (Nat.le_of_ble_eq_true rfl) (fun p e s m below meth c ls Cx hW hS hl => b_J0_checkIndex_df160 a0 a1 hX hf Cx hW hS hl)
noncomputable def f_J1_charAt_3b067 (a0 : Nat) (a1 : Int32) (σ : um_S) : Option (Int32) :=
    (f_J0_checkIndex_df160 a1 (nI (um_kLen.getD a0 0)) σ).bind fun _ =>
    (if um_ix a1 (um_kLen.getD a0 0) then
    (some (((((um_kByt.getD a0 []).getD a1.toNatClampNeg 0) &&& (255 : Int32)).toUInt32 % 65536).toInt32)) else none)
set_option maxRecDepth 100000 in
set_option maxHeartbeats 4000000 in
theorem b_J1_charAt_3b067 {H : Heap} {locs : List Loc} {ls : Array Slot} {σ : um_S} {r : Int32} (a0 : Nat) (a1 : Int32) (hh0 : a0 < 9) (hX : um_X sh) (hf : f_J1_charAt_3b067 a0 a1 σ = some r) (Cx : um_C p s m meth c args cJ1_charAt_3b067 2 (some FieldType.char) RJ1 Z) (hW : um_W Z sh α σ H) (hS : va_S (um_D sh α) s.heap H locs) (hl : lv_has ls 2 [(0, .ref (Z.2.2.2.2.2 a0)), (1, .int a1)]) : um_G p l e (2) (43) s m args below meth c Z sh α σ (some (.int r)) H locs (F0 m 0 ls []) := by
  have hx := Cx.1
  have hb := Cx.2.1
  have hown := Cx.2.2.2.2.1
  have hts := Cx.2.2.2.2.2.1
  rw [f_J1_charAt_3b067] at hf
  refine lv_iload_n (pc := 0) hx hb dJ1_charAt_3b067_0 rfl (lv_at hl 1 rfl) ?_
  refine lv_aload_n (pc := 1) hx hb dJ1_charAt_3b067_1 rfl (lv_at hl 0 rfl) ?_
  refine um_slen (pc := 2) hh0 Cx hW hS dJ1_charAt_3b067_2 ?_
  obtain ⟨_, hc1, hf⟩ := um_bi hf
  refine um_cSv (pc := 3) (As := [.int a1, .int (nI (um_kLen.getD a0 0))]) (rest := []) Cx (c_J0_checkIndex_df160 a1 (nI (um_kLen.getD a0 0)) hX hc1) kS_J0_checkIndex_df160 (Or.inl qM_J1_9) hW hS rfl hl rfl (Nat.le_of_ble_eq_true rfl) (Nat.le_of_ble_eq_true rfl) (Nat.le_of_ble_eq_true rfl) dJ1_charAt_3b067_3 (Nat.le_refl _) (Nat.le_refl _) ?_
  clear hW hS hc1
  intro H locs hW hS
  refine lv_aload_n (pc := 6) hx hb dJ1_charAt_3b067_6 rfl (lv_at hl 0 rfl) ?_
  refine lv_iload_n (pc := 7) hx hb dJ1_charAt_3b067_7 rfl (lv_at hl 1 rfl) ?_
  obtain ⟨g2, hf⟩ := um_gu hf
  refine um_sbal (pc := 8) hh0 Cx hW hS g2 dJ1_charAt_3b067_8 ?_
  refine lv_sipush (pc := 9) (v := (255 : Int32)) hx hb dJ1_charAt_3b067_9 (by decide) ?_
  refine lv_iand (pc := 12) hx hb dJ1_charAt_3b067_12 ?_
  refine lv_i2c (pc := 13) hx hb dJ1_charAt_3b067_13 rfl ?_
  exact um_cretR (pc := 14) Cx (pk_nc _) hW hS hf dJ1_charAt_3b067_14
theorem c_J1_charAt_3b067 {σ : um_S} {r : Int32} (a0 : Nat) (a1 : Int32) (hh0 : a0 < 9) (hX : um_X sh) (hf : f_J1_charAt_3b067 a0 a1 σ = some r) : um_M l yJ1_charAt_3b067 cJ1_charAt_3b067 2 (some FieldType.char) (2) (43) Z sh α σ [.ref (Z.2.2.2.2.2 a0), .int a1] (some (.int r)) σ :=
  um_start (by decide) (Nat.le_of_ble_eq_true rfl) (fun p e s m below meth c ls Cx hW hS hl => b_J1_charAt_3b067 a0 a1 hh0 hX hf Cx hW hS hl)
theorem f_J1_charAt_3b067_nc {a0 : Nat} {a1 r : Int32} {σ : um_S} (h : f_J1_charAt_3b067 a0 a1 σ = some r) : narrow .char (.int r) = .int r := by
  unfold f_J1_charAt_3b067 at h
  obtain ⟨_, _, h⟩ := um_bi h
  obtain ⟨_, h⟩ := um_gu h
  cases h
  exact pk_nc _
noncomputable def f_J0_charAt_5068e (a0 : Nat) (a1 : Int32) (σ : um_S) : Option (Int32) :=
    (f_J0_isLatin1_aae02 a0 σ).bind fun x2 =>
    (if (um_b x2) = 0 then
    (none)
    else
    ((f_J1_charAt_3b067 a0 a1 σ).bind fun x4 =>
    (some x4)))
set_option maxRecDepth 100000 in
set_option maxHeartbeats 4000000 in
theorem b_J0_charAt_5068e {H : Heap} {locs : List Loc} {ls : Array Slot} {σ : um_S} {r : Int32} (a0 : Nat) (a1 : Int32) (hh0 : a0 < 9) (hX : um_X sh) (hf : f_J0_charAt_5068e a0 a1 σ = some r) (Cx : um_C p s m meth c args cJ0_charAt_5068e 2 (some FieldType.char) RJ0 Z) (hW : um_W Z sh α σ H) (hS : va_S (um_D sh α) s.heap H locs) (hl : lv_has ls 2 [(0, .ref (Z.2.2.2.2.1 a0)), (1, .int a1)]) : um_G p l e (3) (64) s m args below meth c Z sh α σ (some (.int r)) H locs (F0 m 0 ls []) := by
  have hx := Cx.1
  have hb := Cx.2.1
  have hown := Cx.2.2.2.2.1
  have hts := Cx.2.2.2.2.2.1
  rw [f_J0_charAt_5068e] at hf
  refine lv_aload_n (pc := 0) hx hb dJ0_charAt_5068e_0 rfl (lv_at hl 0 rfl) ?_
  obtain ⟨x2, hc1, hf⟩ := um_bi hf
  refine um_cTi (pc := 1) (As := []) (rest := []) Cx (c_J0_isLatin1_aae02 a0 hh0 hX hc1) kV_J0_isLatin1_aae02 qM_J0_492 hW hS hh0 rfl hl rfl (Nat.le_of_ble_eq_true rfl) (Nat.le_of_ble_eq_true rfl) (Nat.le_of_ble_eq_true rfl) dJ0_charAt_5068e_1 (Nat.le_refl _) (Nat.le_refl _) ?_
  clear hW hS hc1
  intro H locs hW hS
  refine lv_if_eq (pc := 4) (tgt := 16) hx hb dJ0_charAt_5068e_4 (by decide) (fun c1 => ?_) (fun c1 => ?_)
  · have hf := um_it c1 hf
    clear c1
    cases hf
  · have hf := um_ie c1 hf
    clear c1
    refine lv_aload_n (pc := 7) hx hb dJ0_charAt_5068e_7 rfl (lv_at hl 0 rfl) ?_
    refine um_sval (pc := 8) hh0 Cx hW hS (hts _ qF_J0_9) dJ0_charAt_5068e_8 ?_
    refine lv_iload_n (pc := 11) hx hb dJ0_charAt_5068e_11 rfl (lv_at hl 1 rfl) ?_
    obtain ⟨x4, hc3, hf⟩ := um_bi hf
    refine um_cSi (pc := 12) (As := [.ref (Z.2.2.2.2.2 a0), .int a1]) (rest := []) Cx (c_J1_charAt_3b067 a0 a1 hh0 hX hc3) kS_J1_charAt_3b067 (Or.inl qM_J0_495) hW hS rfl hl rfl (Nat.le_of_ble_eq_true rfl) (Nat.le_of_ble_eq_true rfl) (Nat.le_of_ble_eq_true rfl) dJ0_charAt_5068e_12 (Nat.le_refl _) (Nat.le_refl _) ?_
    have hnx4 := f_J1_charAt_3b067_nc hc3
    clear hW hS hc3
    intro H locs hW hS
    exact um_cretR (pc := 15) Cx hnx4 hW hS hf dJ0_charAt_5068e_15
theorem c_J0_charAt_5068e {σ : um_S} {r : Int32} (a0 : Nat) (a1 : Int32) (hh0 : a0 < 9) (hX : um_X sh) (hf : f_J0_charAt_5068e a0 a1 σ = some r) : um_M l yJ0_charAt_5068e cJ0_charAt_5068e 2 (some FieldType.char) (3) (64) Z sh α σ [.ref (Z.2.2.2.2.1 a0), .int a1] (some (.int r)) σ :=
  um_start (by decide) (Nat.le_of_ble_eq_true rfl) (fun p e s m below meth c ls Cx hW hS hl => b_J0_charAt_5068e a0 a1 hh0 hX hf Cx hW hS hl)
theorem f_J0_charAt_5068e_nc {a0 : Nat} {a1 r : Int32} {σ : um_S} (h : f_J0_charAt_5068e a0 a1 σ = some r) : True := trivial
noncomputable def f_J0_coder_7d493 (a0 : Nat) (σ : um_S) : Option (Int32) :=
    if (1 : Int32) = 0 then
    (some (1 : Int32))
    else
    (some (0 : Int32))
set_option maxRecDepth 100000 in
set_option maxHeartbeats 4000000 in
theorem b_J0_coder_7d493 {H : Heap} {locs : List Loc} {ls : Array Slot} {σ : um_S} {r : Int32} (a0 : Nat) (hh0 : a0 < 9) (hX : um_X sh) (hf : f_J0_coder_7d493 a0 σ = some r) (Cx : um_C p s m meth c args cJ0_coder_7d493 1 (some FieldType.byte) RJ0 Z) (hW : um_W Z sh α σ H) (hS : va_S (um_D sh α) s.heap H locs) (hl : lv_has ls 1 [(0, .ref (Z.2.2.2.2.1 a0))]) : um_G p l e (0) (0) s m args below meth c Z sh α σ (some (.int r)) H locs (F0 m 0 ls []) := by
  have hx := Cx.1
  have hb := Cx.2.1
  have hown := Cx.2.2.2.2.1
  have hts := Cx.2.2.2.2.2.1
  rw [f_J0_coder_7d493] at hf
  refine um_gcs (pc := 0) Cx hW hS (hts _ qF_J0_38) dJ0_coder_7d493_0 ?_
  refine lv_if_eq (pc := 3) (tgt := 13) hx hb dJ0_coder_7d493_3 (by decide) (fun c1 => ?_) (fun c1 => ?_)
  · have hf := um_it c1 hf
    clear c1
    refine lv_iconst (pc := 13) (v := (1 : Int32)) hx hb dJ0_coder_7d493_13 (by decide) ?_
    exact um_cretR (pc := 14) Cx rfl hW hS hf dJ0_coder_7d493_14
  · have hf := um_ie c1 hf
    clear c1
    refine lv_aload_n (pc := 6) hx hb dJ0_coder_7d493_6 rfl (lv_at hl 0 rfl) ?_
    refine um_scod (pc := 7) hh0 Cx hW hS (hts _ qF_J0_15) dJ0_coder_7d493_7 ?_
    refine lv_goto (pc := 10) (tgt := 14) hx hb dJ0_coder_7d493_10 (by decide) ?_
    exact um_cretR (pc := 14) Cx rfl hW hS hf dJ0_coder_7d493_14
theorem c_J0_coder_7d493 {σ : um_S} {r : Int32} (a0 : Nat) (hh0 : a0 < 9) (hX : um_X sh) (hf : f_J0_coder_7d493 a0 σ = some r) : um_M l yJ0_coder_7d493 cJ0_coder_7d493 1 (some FieldType.byte) (0) (0) Z sh α σ [.ref (Z.2.2.2.2.1 a0)] (some (.int r)) σ :=
  um_start (by decide) (Nat.le_of_ble_eq_true rfl) (fun p e s m below meth c ls Cx hW hS hl => b_J0_coder_7d493 a0 hh0 hX hf Cx hW hS hl)
noncomputable def f_J0_length_8abf5 (a0 : Nat) (σ : um_S) : Option (Int32) :=
    (f_J0_coder_7d493 a0 σ).bind fun x2 =>
    (some ((nI (um_kLen.getD a0 0)) >>> (x2 &&& 31)))
set_option maxRecDepth 100000 in
set_option maxHeartbeats 4000000 in
theorem b_J0_length_8abf5 {H : Heap} {locs : List Loc} {ls : Array Slot} {σ : um_S} {r : Int32} (a0 : Nat) (hh0 : a0 < 9) (hX : um_X sh) (hf : f_J0_length_8abf5 a0 σ = some r) (Cx : um_C p s m meth c args cJ0_length_8abf5 1 (some FieldType.int) RJ0 Z) (hW : um_W Z sh α σ H) (hS : va_S (um_D sh α) s.heap H locs) (hl : lv_has ls 1 [(0, .ref (Z.2.2.2.2.1 a0))]) : um_G p l e (1) (20) s m args below meth c Z sh α σ (some (.int r)) H locs (F0 m 0 ls []) := by
  have hx := Cx.1
  have hb := Cx.2.1
  have hown := Cx.2.2.2.2.1
  have hts := Cx.2.2.2.2.2.1
  rw [f_J0_length_8abf5] at hf
  refine lv_aload_n (pc := 0) hx hb dJ0_length_8abf5_0 rfl (lv_at hl 0 rfl) ?_
  refine um_sval (pc := 1) hh0 Cx hW hS (hts _ qF_J0_9) dJ0_length_8abf5_1 ?_
  refine um_slen (pc := 4) hh0 Cx hW hS dJ0_length_8abf5_4 ?_
  refine lv_aload_n (pc := 5) hx hb dJ0_length_8abf5_5 rfl (lv_at hl 0 rfl) ?_
  obtain ⟨x2, hc1, hf⟩ := um_bi hf
  refine um_cTi (pc := 6) (As := []) (rest := [.int (nI (um_kLen.getD a0 0))]) Cx (c_J0_coder_7d493 a0 hh0 hX hc1) kV_J0_coder_7d493 qM_J0_335 hW hS hh0 rfl hl rfl (Nat.le_of_ble_eq_true rfl) (Nat.le_of_ble_eq_true rfl) (Nat.le_of_ble_eq_true rfl) dJ0_length_8abf5_6 (Nat.le_refl _) (Nat.le_refl _) ?_
  clear hW hS hc1
  intro H locs hW hS
  refine lv_ishr (pc := 9) hx hb dJ0_length_8abf5_9 ?_
  exact um_iretR (pc := 10) Cx hW hS hf dJ0_length_8abf5_10
theorem c_J0_length_8abf5 {σ : um_S} {r : Int32} (a0 : Nat) (hh0 : a0 < 9) (hX : um_X sh) (hf : f_J0_length_8abf5 a0 σ = some r) : um_M l yJ0_length_8abf5 cJ0_length_8abf5 1 (some FieldType.int) (1) (20) Z sh α σ [.ref (Z.2.2.2.2.1 a0)] (some (.int r)) σ :=
  um_start (by decide) (Nat.le_of_ble_eq_true rfl) (fun p e s m below meth c ls Cx hW hS hl => b_J0_length_8abf5 a0 hh0 hX hf Cx hW hS hl)
noncomputable def f_J1_canEncode_9a6ad (a0 : Int32) (σ : um_S) : Option (Bool) :=
    if a0 < 0 then
    (some false)
    else
    (if (255 : Int32) < a0 then
    (some false)
    else
    (some true))
set_option maxRecDepth 100000 in
set_option maxHeartbeats 4000000 in
theorem b_J1_canEncode_9a6ad {H : Heap} {locs : List Loc} {ls : Array Slot} {σ : um_S} {r : Bool} (a0 : Int32) (hX : um_X sh) (hf : f_J1_canEncode_9a6ad a0 σ = some r) (Cx : um_C p s m meth c args cJ1_canEncode_9a6ad 1 (some FieldType.boolean) RJ1 Z) (hW : um_W Z sh α σ H) (hS : va_S (um_D sh α) s.heap H locs) (hl : lv_has ls 1 [(0, .int a0)]) : um_G p l e (0) (0) s m args below meth c Z sh α σ (some (.int (um_b r))) H locs (F0 m 0 ls []) := by
  have hx := Cx.1
  have hb := Cx.2.1
  have hown := Cx.2.2.2.2.1
  have hts := Cx.2.2.2.2.2.1
  rw [f_J1_canEncode_9a6ad] at hf
  refine lv_iload_n (pc := 0) hx hb dJ1_canEncode_9a6ad_0 rfl (lv_at hl 0 rfl) ?_
  refine lv_if_lt (pc := 1) (tgt := 15) hx hb dJ1_canEncode_9a6ad_1 (by decide) (fun c1 => ?_) (fun c1 => ?_)
  · have hf := um_it c1 hf
    clear c1
    refine lv_iconst (pc := 15) (v := (0 : Int32)) hx hb dJ1_canEncode_9a6ad_15 (by decide) ?_
    exact um_zretR (pc := 16) Cx hW hS hf rfl dJ1_canEncode_9a6ad_16
  · have hf := um_ie c1 hf
    clear c1
    refine lv_iload_n (pc := 4) hx hb dJ1_canEncode_9a6ad_4 rfl (lv_at hl 0 rfl) ?_
    refine lv_sipush (pc := 5) (v := (255 : Int32)) hx hb dJ1_canEncode_9a6ad_5 (by decide) ?_
    refine lv_icmp_gt (pc := 8) (tgt := 15) hx hb dJ1_canEncode_9a6ad_8 (by decide) (fun c1 => ?_) (fun c1 => ?_)
    · have hf := um_it c1 hf
      clear c1
      refine lv_iconst (pc := 15) (v := (0 : Int32)) hx hb dJ1_canEncode_9a6ad_15 (by decide) ?_
      exact um_zretR (pc := 16) Cx hW hS hf rfl dJ1_canEncode_9a6ad_16
    · have hf := um_ie c1 hf
      clear c1
      refine lv_iconst (pc := 11) (v := (1 : Int32)) hx hb dJ1_canEncode_9a6ad_11 (by decide) ?_
      refine lv_goto (pc := 12) (tgt := 16) hx hb dJ1_canEncode_9a6ad_12 (by decide) ?_
      exact um_zretR (pc := 16) Cx hW hS hf rfl dJ1_canEncode_9a6ad_16
theorem c_J1_canEncode_9a6ad {σ : um_S} {r : Bool} (a0 : Int32) (hX : um_X sh) (hf : f_J1_canEncode_9a6ad a0 σ = some r) : um_M l yJ1_canEncode_9a6ad cJ1_canEncode_9a6ad 1 (some FieldType.boolean) (0) (0) Z sh α σ [.int a0] (some (.int (um_b r))) σ :=
  um_start (by decide) (Nat.le_of_ble_eq_true rfl) (fun p e s m below meth c ls Cx hW hS hl => b_J1_canEncode_9a6ad a0 hX hf Cx hW hS hl)
noncomputable def f_J1_indexOfChar_4cfef_l7 (a0 : Nat) (v3 : Int32) (v4 : Int32) (σ : um_S) : Nat → Int32 → Option ((Int32) ⊕ (Unit))
  | 0, _ => none
  | n + 1, v5 =>
    if v3 ≤ v5 then
    (some (.inr ()))
    else
    (if um_ix v5 (um_kLen.getD a0 0) then
    (if ((um_kByt.getD a0 []).getD v5.toNatClampNeg 0) = v4 then
    (some (.inl v5))
    else
    (f_J1_indexOfChar_4cfef_l7 a0 v3 v4 σ n (v5 + (1 : Int32)))) else none)
noncomputable def f_J1_indexOfChar_4cfef (a0 : Nat) (a1 : Int32) (a2 : Int32) (a3 : Int32) (σ : um_S) : Option (Int32) :=
    um_let (a1.toInt8.toInt32) fun x1 =>
    (um_s0 (f_J1_indexOfChar_4cfef_l7 a0 a3 x1 σ um_N a2) 
    (some (-1 : Int32)))
set_option maxRecDepth 100000 in
set_option maxHeartbeats 4000000 in
theorem t_J1_indexOfChar_4cfef_l7 {r : Int32} {out : (Int32) ⊕ (Unit)}  {σ : um_S} (a0 : Nat) (v3 : Int32) (v4 : Int32) (hh0 : a0 < 9) (hX : um_X sh) (Cx : um_C p s m meth c args cJ1_indexOfChar_4cfef 6 (some FieldType.int) RJ1 Z) (hR : ∀ a, out = .inl a → some a = some r) (hE : out = .inr () → ∀ (H : Heap) (locs : List Loc) (ls : Array Slot), um_W Z sh α σ H → va_S (um_D sh α) s.heap H locs → lv_has ls 6 [] → um_G p l e (0) (0) s m args below meth c Z sh α σ (some (.int r)) H locs (F0 m 31 ls [])) : ∀ (n : Nat) (v5 : Int32) (H : Heap) (locs : List Loc) (ls : Array Slot), f_J1_indexOfChar_4cfef_l7 a0 v3 v4 σ n v5 = some out → um_W Z sh α σ H → va_S (um_D sh α) s.heap H locs → lv_has ls 6 [(0, .ref (Z.2.2.2.2.2 a0)), (3, .int v3), (4, .int v4), (5, .int v5)] → um_G p l e (0) (0) s m args below meth c Z sh α σ (some (.int r)) H locs (F0 m 7 ls []) := by
  have hx := Cx.1
  have hb := Cx.2.1
  have hown := Cx.2.2.2.2.1
  have hts := Cx.2.2.2.2.2.1
  intro n
  induction n with
  | zero =>
    intro v5 H locs ls hf hW hS hl
    cases hf
  | succ n ih =>
    intro v5 H locs ls hf hW hS hl
    rw [f_J1_indexOfChar_4cfef_l7] at hf
    refine lv_iload (pc := 7) hx hb dJ1_indexOfChar_4cfef_7 (lv_at hl 3 rfl) ?_
    refine lv_iload_n (pc := 9) hx hb dJ1_indexOfChar_4cfef_9 rfl (lv_at hl 1 rfl) ?_
    refine lv_icmp_ge (pc := 10) (tgt := 31) hx hb dJ1_indexOfChar_4cfef_10 (by decide) (fun c1 => ?_) (fun c1 => ?_)
    · have hf := um_it c1 hf
      clear c1
      exact hE (Option.some.inj hf).symm _ _ _ hW hS (lv_sub hl [] rfl)
    · have hf := um_ie c1 hf
      clear c1
      refine lv_aload_n (pc := 13) hx hb dJ1_indexOfChar_4cfef_13 rfl (lv_at hl 0 rfl) ?_
      refine lv_iload (pc := 14) hx hb dJ1_indexOfChar_4cfef_14 (lv_at hl 3 rfl) ?_
      obtain ⟨g1, hf⟩ := um_gu hf
      refine um_sbal (pc := 16) hh0 Cx hW hS g1 dJ1_indexOfChar_4cfef_16 ?_
      refine lv_iload (pc := 17) hx hb dJ1_indexOfChar_4cfef_17 (lv_at hl 2 rfl) ?_
      refine lv_icmp_ne (pc := 19) (tgt := 25) hx hb dJ1_indexOfChar_4cfef_19 (by decide) (fun c1 => ?_) (fun c1 => ?_)
      · have hf := um_ie c1 hf
        clear c1
        refine lv_iinc (pc := 25) (v := v5 + (1 : Int32)) (lv' := [(5, .int (v5 + (1 : Int32))), (0, .ref (Z.2.2.2.2.2 a0)), (3, .int v3), (4, .int v4)]) hx hb dJ1_indexOfChar_4cfef_25 hl (k := 3) rfl rfl (by decide) rfl ?_
        clear hl
        intro ls hl
        refine lv_goto (pc := 28) (tgt := 7) hx hb dJ1_indexOfChar_4cfef_28 (by decide) ?_
        exact ih _ _ _ _ hf hW hS (lv_sub hl [1, 2, 3, 0] rfl)
      · have hf := um_it c1 hf
        clear c1
        refine lv_iload (pc := 22) hx hb dJ1_indexOfChar_4cfef_22 (lv_at hl 3 rfl) ?_
        exact um_iretR (pc := 24) Cx hW hS (hR _ (Option.some.inj hf).symm) dJ1_indexOfChar_4cfef_24
set_option maxRecDepth 100000 in
set_option maxHeartbeats 4000000 in
theorem b_J1_indexOfChar_4cfef {H : Heap} {locs : List Loc} {ls : Array Slot} {σ : um_S} {r : Int32} (a0 : Nat) (a1 : Int32) (a2 : Int32) (a3 : Int32) (hh0 : a0 < 9) (hX : um_X sh) (hf : f_J1_indexOfChar_4cfef a0 a1 a2 a3 σ = some r) (Cx : um_C p s m meth c args cJ1_indexOfChar_4cfef 6 (some FieldType.int) RJ1 Z) (hW : um_W Z sh α σ H) (hS : va_S (um_D sh α) s.heap H locs) (hl : lv_has ls 6 [(0, .ref (Z.2.2.2.2.2 a0)), (1, .int a1), (2, .int a2), (3, .int a3)]) : um_G p l e (0) (0) s m args below meth c Z sh α σ (some (.int r)) H locs (F0 m 0 ls []) := by
  have hx := Cx.1
  have hb := Cx.2.1
  have hown := Cx.2.2.2.2.1
  have hts := Cx.2.2.2.2.2.1
  rw [f_J1_indexOfChar_4cfef] at hf
  refine lv_iload_n (pc := 0) hx hb dJ1_indexOfChar_4cfef_0 rfl (lv_at hl 1 rfl) ?_
  refine lv_i2b (pc := 1) hx hb dJ1_indexOfChar_4cfef_1 rfl ?_
  obtain ⟨x1, e2, hf⟩ := um_le hf
  refine um_top e2 ?_
  clear e2
  refine lv_istore (pc := 2) (lv' := [(4, .int x1), (0, .ref (Z.2.2.2.2.2 a0)), (1, .int a1), (2, .int a2), (3, .int a3)]) hx hb dJ1_indexOfChar_4cfef_2 hl (by decide) rfl ?_
  clear hl
  intro ls hl
  refine lv_iload_n (pc := 4) hx hb dJ1_indexOfChar_4cfef_4 rfl (lv_at hl 3 rfl) ?_
  refine lv_istore (pc := 5) (lv' := [(5, .int a2), (4, .int x1), (0, .ref (Z.2.2.2.2.2 a0)), (1, .int a1), (2, .int a2), (3, .int a3)]) hx hb dJ1_indexOfChar_4cfef_5 hl (by decide) rfl ?_
  clear hl
  intro ls hl
  obtain ⟨q4, hc3, hr5, hg6⟩ := um_si0 hf
  refine t_J1_indexOfChar_4cfef_l7 a0 a3 x1 hh0 hX Cx hr5 ?_ um_N _ _ _ _ hc3 hW hS (lv_sub hl [2, 5, 1, 0] rfl)
  clear hW hS hl hc3
  intro  hq7 H locs ls hW hS hl
  have hf := hg6 hq7
  refine lv_iconst (pc := 31) (v := (-1 : Int32)) hx hb dJ1_indexOfChar_4cfef_31 (by decide) ?_
  exact um_iretR (pc := 32) Cx hW hS hf dJ1_indexOfChar_4cfef_32
theorem c_J1_indexOfChar_4cfef {σ : um_S} {r : Int32} (a0 : Nat) (a1 : Int32) (a2 : Int32) (a3 : Int32) (hh0 : a0 < 9) (hX : um_X sh) (hf : f_J1_indexOfChar_4cfef a0 a1 a2 a3 σ = some r) : um_M l yJ1_indexOfChar_4cfef cJ1_indexOfChar_4cfef 6 (some FieldType.int) (0) (0) Z sh α σ [.ref (Z.2.2.2.2.2 a0), .int a1, .int a2, .int a3] (some (.int r)) σ :=
  um_start (by decide) (Nat.le_of_ble_eq_true rfl) (fun p e s m below meth c ls Cx hW hS hl => b_J1_indexOfChar_4cfef a0 a1 a2 a3 hh0 hX hf Cx hW hS hl)
noncomputable def f_J1_indexOf_4cfef (a0 : Nat) (a1 : Int32) (a2 : Int32) (a3 : Int32) (σ : um_S) : Option (Int32) :=
    (f_J1_canEncode_9a6ad a1 σ).bind fun x2 =>
    (if (um_b x2) = 0 then
    (some (-1 : Int32))
    else
    (um_let (if a2 < (0 : Int32) then (0 : Int32) else a2) fun x3 =>
    (um_let (if (nI (um_kLen.getD a0 0)) < a3 then (nI (um_kLen.getD a0 0)) else a3) fun x5 =>
    (if x3 < x5 then
    ((f_J1_indexOfChar_4cfef a0 a1 x3 x5 σ).bind fun x8 =>
    (some x8))
    else
    (some (-1 : Int32))))))
set_option maxRecDepth 100000 in
set_option maxHeartbeats 4000000 in
theorem b_J1_indexOf_4cfef {H : Heap} {locs : List Loc} {ls : Array Slot} {σ : um_S} {r : Int32} (a0 : Nat) (a1 : Int32) (a2 : Int32) (a3 : Int32) (hh0 : a0 < 9) (hX : um_X sh) (hf : f_J1_indexOf_4cfef a0 a1 a2 a3 σ = some r) (Cx : um_C p s m meth c args cJ1_indexOf_4cfef 4 (some FieldType.int) RJ1 Z) (hW : um_W Z sh α σ H) (hS : va_S (um_D sh α) s.heap H locs) (hl : lv_has ls 4 [(0, .ref (Z.2.2.2.2.2 a0)), (1, .int a1), (2, .int a2), (3, .int a3)]) : um_G p l e (1) (30) s m args below meth c Z sh α σ (some (.int r)) H locs (F0 m 0 ls []) := by
  have hx := Cx.1
  have hb := Cx.2.1
  have hown := Cx.2.2.2.2.1
  have hts := Cx.2.2.2.2.2.1
  rw [f_J1_indexOf_4cfef] at hf
  refine lv_iload_n (pc := 0) hx hb dJ1_indexOf_4cfef_0 rfl (lv_at hl 1 rfl) ?_
  obtain ⟨x2, hc1, hf⟩ := um_bi hf
  refine um_cSi (pc := 1) (As := [.int a1]) (rest := []) Cx (c_J1_canEncode_9a6ad a1 hX hc1) kS_J1_canEncode_9a6ad (Or.inl qM_J1_88) hW hS rfl hl rfl (Nat.le_of_ble_eq_true rfl) (Nat.le_of_ble_eq_true rfl) (Nat.le_of_ble_eq_true rfl) dJ1_indexOf_4cfef_1 (Nat.le_refl _) (Nat.le_refl _) ?_
  clear hW hS hc1
  intro H locs hW hS
  refine lv_if_ne (pc := 4) (tgt := 9) hx hb dJ1_indexOf_4cfef_4 (by decide) (fun c1 => ?_) (fun c1 => ?_)
  · have hf := um_ie c1 hf
    clear c1
    refine lv_iload_n (pc := 9) hx hb dJ1_indexOf_4cfef_9 rfl (lv_at hl 2 rfl) ?_
    refine lv_iconst (pc := 10) (v := (0 : Int32)) hx hb dJ1_indexOf_4cfef_10 (by decide) ?_
    refine va_mmax (pc := 11) (rest := []) hx hb (Cx.2.2.2.1.trans hl.1.symm) hown (hts _ qM_J1_92) (hts _ qT_J9_max_7cf53) (hts _ qN_J9) (hts _ qK_J9_max_7cf53) (Nat.le_of_ble_eq_true rfl) (Nat.le_of_ble_eq_true rfl) (Nat.le_refl _) (Nat.le_refl _) dJ1_indexOf_4cfef_11 ?_
    obtain ⟨x3, e4, hf⟩ := um_le hf
    refine um_top e4 ?_
    clear e4
    refine lv_istore_n (pc := 14) (lv' := [(2, .int x3), (0, .ref (Z.2.2.2.2.2 a0)), (1, .int a1), (3, .int a3)]) hx hb dJ1_indexOf_4cfef_14 rfl hl (by decide) rfl ?_
    clear hl
    intro ls hl
    refine lv_iload_n (pc := 15) hx hb dJ1_indexOf_4cfef_15 rfl (lv_at hl 3 rfl) ?_
    refine lv_aload_n (pc := 16) hx hb dJ1_indexOf_4cfef_16 rfl (lv_at hl 1 rfl) ?_
    refine um_slen (pc := 17) hh0 Cx hW hS dJ1_indexOf_4cfef_17 ?_
    refine va_mmin (pc := 18) (rest := []) hx hb (Cx.2.2.2.1.trans hl.1.symm) hown (hts _ qM_J1_38) (hts _ qT_J9_min_7cf53) (hts _ qN_J9) (hts _ qK_J9_min_7cf53) (Nat.le_of_ble_eq_true rfl) (Nat.le_of_ble_eq_true rfl) (Nat.le_refl _) (Nat.le_refl _) dJ1_indexOf_4cfef_18 ?_
    obtain ⟨x5, e6, hf⟩ := um_le hf
    refine um_top e6 ?_
    clear e6
    refine lv_istore_n (pc := 21) (lv' := [(3, .int x5), (2, .int x3), (0, .ref (Z.2.2.2.2.2 a0)), (1, .int a1)]) hx hb dJ1_indexOf_4cfef_21 rfl hl (by decide) rfl ?_
    clear hl
    intro ls hl
    refine lv_iload_n (pc := 22) hx hb dJ1_indexOf_4cfef_22 rfl (lv_at hl 1 rfl) ?_
    refine lv_iload_n (pc := 23) hx hb dJ1_indexOf_4cfef_23 rfl (lv_at hl 0 rfl) ?_
    refine lv_icmp_lt (pc := 24) (tgt := 29) hx hb dJ1_indexOf_4cfef_24 (by decide) (fun c1 => ?_) (fun c1 => ?_)
    · have hf := um_it c1 hf
      clear c1
      refine lv_aload_n (pc := 29) hx hb dJ1_indexOf_4cfef_29 rfl (lv_at hl 2 rfl) ?_
      refine lv_iload_n (pc := 30) hx hb dJ1_indexOf_4cfef_30 rfl (lv_at hl 3 rfl) ?_
      refine lv_iload_n (pc := 31) hx hb dJ1_indexOf_4cfef_31 rfl (lv_at hl 1 rfl) ?_
      refine lv_iload_n (pc := 32) hx hb dJ1_indexOf_4cfef_32 rfl (lv_at hl 0 rfl) ?_
      obtain ⟨x8, hc7, hf⟩ := um_bi hf
      refine um_cSi (pc := 33) (As := [.ref (Z.2.2.2.2.2 a0), .int a1, .int x3, .int x5]) (rest := []) Cx (c_J1_indexOfChar_4cfef a0 a1 x3 x5 hh0 hX hc7) kS_J1_indexOfChar_4cfef (Or.inl qM_J1_95) hW hS rfl hl rfl (Nat.le_of_ble_eq_true rfl) (Nat.le_of_ble_eq_true rfl) (Nat.le_of_ble_eq_true rfl) dJ1_indexOf_4cfef_33 (Nat.le_refl _) (Nat.le_refl _) ?_
      clear hW hS hc7
      intro H locs hW hS
      exact um_iretR (pc := 36) Cx hW hS hf dJ1_indexOf_4cfef_36
    · have hf := um_ie c1 hf
      clear c1
      refine lv_iconst (pc := 27) (v := (-1 : Int32)) hx hb dJ1_indexOf_4cfef_27 (by decide) ?_
      exact um_iretR (pc := 28) Cx hW hS hf dJ1_indexOf_4cfef_28
  · have hf := um_it c1 hf
    clear c1
    refine lv_iconst (pc := 7) (v := (-1 : Int32)) hx hb dJ1_indexOf_4cfef_7 (by decide) ?_
    exact um_iretR (pc := 8) Cx hW hS hf dJ1_indexOf_4cfef_8
theorem c_J1_indexOf_4cfef {σ : um_S} {r : Int32} (a0 : Nat) (a1 : Int32) (a2 : Int32) (a3 : Int32) (hh0 : a0 < 9) (hX : um_X sh) (hf : f_J1_indexOf_4cfef a0 a1 a2 a3 σ = some r) : um_M l yJ1_indexOf_4cfef cJ1_indexOf_4cfef 4 (some FieldType.int) (1) (30) Z sh α σ [.ref (Z.2.2.2.2.2 a0), .int a1, .int a2, .int a3] (some (.int r)) σ :=
  um_start (by decide) (Nat.le_of_ble_eq_true rfl) (fun p e s m below meth c ls Cx hW hS hl => b_J1_indexOf_4cfef a0 a1 a2 a3 hh0 hX hf Cx hW hS hl)
noncomputable def f_J0_indexOf_7cf53 (a0 : Nat) (a1 : Int32) (a2 : Int32) (σ : um_S) : Option (Int32) :=
    (f_J0_isLatin1_aae02 a0 σ).bind fun x2 =>
    (if (um_b x2) = 0 then
    (none)
    else
    ((f_J0_length_8abf5 a0 σ).bind fun x4 =>
    ((f_J1_indexOf_4cfef a0 a1 a2 x4 σ).bind fun x6 =>
    (some x6))))
set_option maxRecDepth 100000 in
set_option maxHeartbeats 4000000 in
theorem b_J0_indexOf_7cf53 {H : Heap} {locs : List Loc} {ls : Array Slot} {σ : um_S} {r : Int32} (a0 : Nat) (a1 : Int32) (a2 : Int32) (hh0 : a0 < 9) (hX : um_X sh) (hf : f_J0_indexOf_7cf53 a0 a1 a2 σ = some r) (Cx : um_C p s m meth c args cJ0_indexOf_7cf53 3 (some FieldType.int) RJ0 Z) (hW : um_W Z sh α σ H) (hS : va_S (um_D sh α) s.heap H locs) (hl : lv_has ls 3 [(0, .ref (Z.2.2.2.2.1 a0)), (1, .int a1), (2, .int a2)]) : um_G p l e (2) (53) s m args below meth c Z sh α σ (some (.int r)) H locs (F0 m 0 ls []) := by
  have hx := Cx.1
  have hb := Cx.2.1
  have hown := Cx.2.2.2.2.1
  have hts := Cx.2.2.2.2.2.1
  rw [f_J0_indexOf_7cf53] at hf
  refine lv_aload_n (pc := 0) hx hb dJ0_indexOf_7cf53_0 rfl (lv_at hl 0 rfl) ?_
  obtain ⟨x2, hc1, hf⟩ := um_bi hf
  refine um_cTi (pc := 1) (As := []) (rest := []) Cx (c_J0_isLatin1_aae02 a0 hh0 hX hc1) kV_J0_isLatin1_aae02 qM_J0_492 hW hS hh0 rfl hl rfl (Nat.le_of_ble_eq_true rfl) (Nat.le_of_ble_eq_true rfl) (Nat.le_of_ble_eq_true rfl) dJ0_indexOf_7cf53_1 (Nat.le_refl _) (Nat.le_refl _) ?_
  clear hW hS hc1
  intro H locs hW hS
  refine lv_if_eq (pc := 4) (tgt := 23) hx hb dJ0_indexOf_7cf53_4 (by decide) (fun c1 => ?_) (fun c1 => ?_)
  · have hf := um_it c1 hf
    clear c1
    cases hf
  · have hf := um_ie c1 hf
    clear c1
    refine lv_aload_n (pc := 7) hx hb dJ0_indexOf_7cf53_7 rfl (lv_at hl 0 rfl) ?_
    refine um_sval (pc := 8) hh0 Cx hW hS (hts _ qF_J0_9) dJ0_indexOf_7cf53_8 ?_
    refine lv_iload_n (pc := 11) hx hb dJ0_indexOf_7cf53_11 rfl (lv_at hl 1 rfl) ?_
    refine lv_iload_n (pc := 12) hx hb dJ0_indexOf_7cf53_12 rfl (lv_at hl 2 rfl) ?_
    refine lv_aload_n (pc := 13) hx hb dJ0_indexOf_7cf53_13 rfl (lv_at hl 0 rfl) ?_
    obtain ⟨x4, hc3, hf⟩ := um_bi hf
    refine um_cTi (pc := 14) (As := []) (rest := [.int a2, .int a1, .ref (Z.2.2.2.2.2 a0)]) Cx (c_J0_length_8abf5 a0 hh0 hX hc3) kV_J0_length_8abf5 qM_J0_505 hW hS hh0 rfl hl rfl (Nat.le_of_ble_eq_true rfl) (Nat.le_of_ble_eq_true rfl) (Nat.le_of_ble_eq_true rfl) dJ0_indexOf_7cf53_14 (Nat.le_refl _) (Nat.le_refl _) ?_
    clear hW hS hc3
    intro H locs hW hS
    obtain ⟨x6, hc5, hf⟩ := um_bi hf
    refine um_cSi (pc := 17) (As := [.ref (Z.2.2.2.2.2 a0), .int a1, .int a2, .int x4]) (rest := []) Cx (c_J1_indexOf_4cfef a0 a1 a2 x4 hh0 hX hc5) kS_J1_indexOf_4cfef (Or.inl qM_J0_637) hW hS rfl hl rfl (Nat.le_of_ble_eq_true rfl) (Nat.le_of_ble_eq_true rfl) (Nat.le_of_ble_eq_true rfl) dJ0_indexOf_7cf53_17 (Nat.le_refl _) (Nat.le_refl _) ?_
    clear hW hS hc5
    intro H locs hW hS
    refine lv_goto (pc := 20) (tgt := 36) hx hb dJ0_indexOf_7cf53_20 (by decide) ?_
    exact um_iretR (pc := 36) Cx hW hS hf dJ0_indexOf_7cf53_36
theorem c_J0_indexOf_7cf53 {σ : um_S} {r : Int32} (a0 : Nat) (a1 : Int32) (a2 : Int32) (hh0 : a0 < 9) (hX : um_X sh) (hf : f_J0_indexOf_7cf53 a0 a1 a2 σ = some r) : um_M l yJ0_indexOf_7cf53 cJ0_indexOf_7cf53 3 (some FieldType.int) (2) (53) Z sh α σ [.ref (Z.2.2.2.2.1 a0), .int a1, .int a2] (some (.int r)) σ :=
  um_start (by decide) (Nat.le_of_ble_eq_true rfl) (fun p e s m below meth c ls Cx hW hS hl => b_J0_indexOf_7cf53 a0 a1 a2 hh0 hX hf Cx hW hS hl)
noncomputable def f_J0_indexOf_0f7a4 (a0 : Nat) (a1 : Int32) (σ : um_S) : Option (Int32) :=
    (f_J0_indexOf_7cf53 a0 a1 (0 : Int32) σ).bind fun x2 =>
    (some x2)
set_option maxRecDepth 100000 in
set_option maxHeartbeats 4000000 in
theorem b_J0_indexOf_0f7a4 {H : Heap} {locs : List Loc} {ls : Array Slot} {σ : um_S} {r : Int32} (a0 : Nat) (a1 : Int32) (hh0 : a0 < 9) (hX : um_X sh) (hf : f_J0_indexOf_0f7a4 a0 a1 σ = some r) (Cx : um_C p s m meth c args cJ0_indexOf_0f7a4 2 (some FieldType.int) RJ0 Z) (hW : um_W Z sh α σ H) (hS : va_S (um_D sh α) s.heap H locs) (hl : lv_has ls 2 [(0, .ref (Z.2.2.2.2.1 a0)), (1, .int a1)]) : um_G p l e (3) (75) s m args below meth c Z sh α σ (some (.int r)) H locs (F0 m 0 ls []) := by
  have hx := Cx.1
  have hb := Cx.2.1
  have hown := Cx.2.2.2.2.1
  have hts := Cx.2.2.2.2.2.1
  rw [f_J0_indexOf_0f7a4] at hf
  refine lv_aload_n (pc := 0) hx hb dJ0_indexOf_0f7a4_0 rfl (lv_at hl 0 rfl) ?_
  refine lv_iload_n (pc := 1) hx hb dJ0_indexOf_0f7a4_1 rfl (lv_at hl 1 rfl) ?_
  refine lv_iconst (pc := 2) (v := (0 : Int32)) hx hb dJ0_indexOf_0f7a4_2 (by decide) ?_
  obtain ⟨x2, hc1, hf⟩ := um_bi hf
  refine um_cTi (pc := 3) (As := [.int a1, .int (0 : Int32)]) (rest := []) Cx (c_J0_indexOf_7cf53 a0 a1 (0 : Int32) hh0 hX hc1) kV_J0_indexOf_7cf53 qM_J0_633 hW hS hh0 rfl hl rfl (Nat.le_of_ble_eq_true rfl) (Nat.le_of_ble_eq_true rfl) (Nat.le_of_ble_eq_true rfl) dJ0_indexOf_0f7a4_3 (Nat.le_refl _) (Nat.le_refl _) ?_
  clear hW hS hc1
  intro H locs hW hS
  exact um_iretR (pc := 6) Cx hW hS hf dJ0_indexOf_0f7a4_6
theorem c_J0_indexOf_0f7a4 {σ : um_S} {r : Int32} (a0 : Nat) (a1 : Int32) (hh0 : a0 < 9) (hX : um_X sh) (hf : f_J0_indexOf_0f7a4 a0 a1 σ = some r) : um_M l yJ0_indexOf_0f7a4 cJ0_indexOf_0f7a4 2 (some FieldType.int) (3) (75) Z sh α σ [.ref (Z.2.2.2.2.1 a0), .int a1] (some (.int r)) σ :=
  um_start (by decide) (Nat.le_of_ble_eq_true rfl) (fun p e s m below meth c ls Cx hW hS hl => b_J0_indexOf_0f7a4 a0 a1 hh0 hX hf Cx hW hS hl)
noncomputable def f_J6_bitCount_0f7a4 (a0 : Int32) (σ : um_S) : Option (Int32) :=
    um_let (a0 - (((a0.toUInt32 >>> ((1 : Int32).toUInt32 &&& Int32.toUInt32 31)).toInt32) &&& (1431655765 : Int32))) fun x1 =>
    (um_let ((x1 &&& (858993459 : Int32)) + (((x1.toUInt32 >>> ((2 : Int32).toUInt32 &&& Int32.toUInt32 31)).toInt32) &&& (858993459 : Int32))) fun x3 =>
    (um_let ((x3 + ((x3.toUInt32 >>> ((4 : Int32).toUInt32 &&& Int32.toUInt32 31)).toInt32)) &&& (252645135 : Int32)) fun x5 =>
    (um_let (x5 + ((x5.toUInt32 >>> ((8 : Int32).toUInt32 &&& Int32.toUInt32 31)).toInt32)) fun x7 =>
    (um_let (x7 + ((x7.toUInt32 >>> ((16 : Int32).toUInt32 &&& Int32.toUInt32 31)).toInt32)) fun x9 =>
    (some (x9 &&& (63 : Int32)))))))
set_option maxRecDepth 100000 in
set_option maxHeartbeats 4000000 in
theorem b_J6_bitCount_0f7a4 {H : Heap} {locs : List Loc} {ls : Array Slot} {σ : um_S} {r : Int32} (a0 : Int32) (hX : um_X sh) (hf : f_J6_bitCount_0f7a4 a0 σ = some r) (Cx : um_C p s m meth c args cJ6_bitCount_0f7a4 1 (some FieldType.int) RJ6 Z) (hW : um_W Z sh α σ H) (hS : va_S (um_D sh α) s.heap H locs) (hl : lv_has ls 1 [(0, .int a0)]) : um_G p l e (0) (0) s m args below meth c Z sh α σ (some (.int r)) H locs (F0 m 0 ls []) := by
  have hx := Cx.1
  have hb := Cx.2.1
  have hown := Cx.2.2.2.2.1
  have hts := Cx.2.2.2.2.2.1
  rw [f_J6_bitCount_0f7a4] at hf
  refine lv_iload_n (pc := 0) hx hb dJ6_bitCount_0f7a4_0 rfl (lv_at hl 0 rfl) ?_
  refine lv_iload_n (pc := 1) hx hb dJ6_bitCount_0f7a4_1 rfl (lv_at hl 0 rfl) ?_
  refine lv_iconst (pc := 2) (v := (1 : Int32)) hx hb dJ6_bitCount_0f7a4_2 (by decide) ?_
  refine lv_iushr (pc := 3) hx hb dJ6_bitCount_0f7a4_3 rfl ?_
  refine lv_ldcw (pc := 4) hx hb hown (hts _ qC_J6_265) dJ6_bitCount_0f7a4_4 ?_
  refine lv_iand (pc := 7) hx hb dJ6_bitCount_0f7a4_7 ?_
  refine lv_isub (pc := 8) hx hb dJ6_bitCount_0f7a4_8 ?_
  obtain ⟨x1, e2, hf⟩ := um_le hf
  refine um_top e2 ?_
  clear e2
  refine lv_istore_n (pc := 9) (lv' := [(0, .int x1)]) hx hb dJ6_bitCount_0f7a4_9 rfl hl (by decide) rfl ?_
  clear hl
  intro ls hl
  refine lv_iload_n (pc := 10) hx hb dJ6_bitCount_0f7a4_10 rfl (lv_at hl 0 rfl) ?_
  refine lv_ldcw (pc := 11) hx hb hown (hts _ qC_J6_266) dJ6_bitCount_0f7a4_11 ?_
  refine lv_iand (pc := 14) hx hb dJ6_bitCount_0f7a4_14 ?_
  refine lv_iload_n (pc := 15) hx hb dJ6_bitCount_0f7a4_15 rfl (lv_at hl 0 rfl) ?_
  refine lv_iconst (pc := 16) (v := (2 : Int32)) hx hb dJ6_bitCount_0f7a4_16 (by decide) ?_
  refine lv_iushr (pc := 17) hx hb dJ6_bitCount_0f7a4_17 rfl ?_
  refine lv_ldcw (pc := 18) hx hb hown (hts _ qC_J6_266) dJ6_bitCount_0f7a4_18 ?_
  refine lv_iand (pc := 21) hx hb dJ6_bitCount_0f7a4_21 ?_
  refine lv_iadd (pc := 22) hx hb dJ6_bitCount_0f7a4_22 ?_
  obtain ⟨x3, e4, hf⟩ := um_le hf
  refine um_top e4 ?_
  clear e4
  refine lv_istore_n (pc := 23) (lv' := [(0, .int x3)]) hx hb dJ6_bitCount_0f7a4_23 rfl hl (by decide) rfl ?_
  clear hl
  intro ls hl
  refine lv_iload_n (pc := 24) hx hb dJ6_bitCount_0f7a4_24 rfl (lv_at hl 0 rfl) ?_
  refine lv_iload_n (pc := 25) hx hb dJ6_bitCount_0f7a4_25 rfl (lv_at hl 0 rfl) ?_
  refine lv_iconst (pc := 26) (v := (4 : Int32)) hx hb dJ6_bitCount_0f7a4_26 (by decide) ?_
  refine lv_iushr (pc := 27) hx hb dJ6_bitCount_0f7a4_27 rfl ?_
  refine lv_iadd (pc := 28) hx hb dJ6_bitCount_0f7a4_28 ?_
  refine lv_ldcw (pc := 29) hx hb hown (hts _ qC_J6_267) dJ6_bitCount_0f7a4_29 ?_
  refine lv_iand (pc := 32) hx hb dJ6_bitCount_0f7a4_32 ?_
  obtain ⟨x5, e6, hf⟩ := um_le hf
  refine um_top e6 ?_
  clear e6
  refine lv_istore_n (pc := 33) (lv' := [(0, .int x5)]) hx hb dJ6_bitCount_0f7a4_33 rfl hl (by decide) rfl ?_
  clear hl
  intro ls hl
  refine lv_iload_n (pc := 34) hx hb dJ6_bitCount_0f7a4_34 rfl (lv_at hl 0 rfl) ?_
  refine lv_iload_n (pc := 35) hx hb dJ6_bitCount_0f7a4_35 rfl (lv_at hl 0 rfl) ?_
  refine lv_bipush (pc := 36) (v := (8 : Int32)) hx hb dJ6_bitCount_0f7a4_36 (by decide) ?_
  refine lv_iushr (pc := 38) hx hb dJ6_bitCount_0f7a4_38 rfl ?_
  refine lv_iadd (pc := 39) hx hb dJ6_bitCount_0f7a4_39 ?_
  obtain ⟨x7, e8, hf⟩ := um_le hf
  refine um_top e8 ?_
  clear e8
  refine lv_istore_n (pc := 40) (lv' := [(0, .int x7)]) hx hb dJ6_bitCount_0f7a4_40 rfl hl (by decide) rfl ?_
  clear hl
  intro ls hl
  refine lv_iload_n (pc := 41) hx hb dJ6_bitCount_0f7a4_41 rfl (lv_at hl 0 rfl) ?_
  refine lv_iload_n (pc := 42) hx hb dJ6_bitCount_0f7a4_42 rfl (lv_at hl 0 rfl) ?_
  refine lv_bipush (pc := 43) (v := (16 : Int32)) hx hb dJ6_bitCount_0f7a4_43 (by decide) ?_
  refine lv_iushr (pc := 45) hx hb dJ6_bitCount_0f7a4_45 rfl ?_
  refine lv_iadd (pc := 46) hx hb dJ6_bitCount_0f7a4_46 ?_
  obtain ⟨x9, e10, hf⟩ := um_le hf
  refine um_top e10 ?_
  clear e10
  refine lv_istore_n (pc := 47) (lv' := [(0, .int x9)]) hx hb dJ6_bitCount_0f7a4_47 rfl hl (by decide) rfl ?_
  clear hl
  intro ls hl
  refine lv_iload_n (pc := 48) hx hb dJ6_bitCount_0f7a4_48 rfl (lv_at hl 0 rfl) ?_
  refine lv_bipush (pc := 49) (v := (63 : Int32)) hx hb dJ6_bitCount_0f7a4_49 (by decide) ?_
  refine lv_iand (pc := 51) hx hb dJ6_bitCount_0f7a4_51 ?_
  exact um_iretR (pc := 52) Cx hW hS hf dJ6_bitCount_0f7a4_52
theorem c_J6_bitCount_0f7a4 {σ : um_S} {r : Int32} (a0 : Int32) (hX : um_X sh) (hf : f_J6_bitCount_0f7a4 a0 σ = some r) : um_M l yJ6_bitCount_0f7a4 cJ6_bitCount_0f7a4 1 (some FieldType.int) (0) (0) Z sh α σ [.int a0] (some (.int r)) σ :=
  um_start (by decide) (Nat.le_of_ble_eq_true rfl) (fun p e s m below meth c ls Cx hW hS hl => b_J6_bitCount_0f7a4 a0 hX hf Cx hW hS hl)
noncomputable def f_J6_numberOfTrailingZeros_0f7a4 (a0 : Int32) (σ : um_S) : Option (Int32) :=
    um_let ((a0 ^^^ (-1 : Int32)) &&& (a0 - (1 : Int32))) fun x1 =>
    (if 0 < x1 then
    (um_let (fun (x4 : Int32) (x5 : Int32) =>
    (um_let (fun (x7 : Int32) (x8 : Int32) =>
    (um_let (fun (x10 : Int32) (x11 : Int32) =>
    (um_let (fun (x13 : Int32) (x14 : Int32) =>
    (some (x14 + ((x13.toUInt32 >>> ((1 : Int32).toUInt32 &&& Int32.toUInt32 31)).toInt32)))) fun k12 =>
    (if x10 ≤ (4 : Int32) then
    (k12 x10 x11)
    else
    (um_let ((x10.toUInt32 >>> ((2 : Int32).toUInt32 &&& Int32.toUInt32 31)).toInt32) fun x15 =>
    (k12 x15 (x11 + (2 : Int32))))))) fun k9 =>
    (if x7 ≤ (16 : Int32) then
    (k9 x7 x8)
    else
    (um_let ((x7.toUInt32 >>> ((4 : Int32).toUInt32 &&& Int32.toUInt32 31)).toInt32) fun x17 =>
    (k9 x17 (x8 + (4 : Int32))))))) fun k6 =>
    (if x4 ≤ (256 : Int32) then
    (k6 x4 x5)
    else
    (um_let ((x4.toUInt32 >>> ((8 : Int32).toUInt32 &&& Int32.toUInt32 31)).toInt32) fun x19 =>
    (k6 x19 (x5 + (8 : Int32))))))) fun k3 =>
    (if x1 ≤ (65536 : Int32) then
    (k3 x1 (1 : Int32))
    else
    (um_let ((x1.toUInt32 >>> ((16 : Int32).toUInt32 &&& Int32.toUInt32 31)).toInt32) fun x21 =>
    (k3 x21 ((1 : Int32) + (16 : Int32))))))
    else
    (some (x1 &&& (32 : Int32))))
set_option maxRecDepth 100000 in
set_option maxHeartbeats 4000000 in
theorem b_J6_numberOfTrailingZeros_0f7a4 {H : Heap} {locs : List Loc} {ls : Array Slot} {σ : um_S} {r : Int32} (a0 : Int32) (hX : um_X sh) (hf : f_J6_numberOfTrailingZeros_0f7a4 a0 σ = some r) (Cx : um_C p s m meth c args cJ6_numberOfTrailingZeros_0f7a4 2 (some FieldType.int) RJ6 Z) (hW : um_W Z sh α σ H) (hS : va_S (um_D sh α) s.heap H locs) (hl : lv_has ls 2 [(0, .int a0)]) : um_G p l e (0) (0) s m args below meth c Z sh α σ (some (.int r)) H locs (F0 m 0 ls []) := by
  have hx := Cx.1
  have hb := Cx.2.1
  have hown := Cx.2.2.2.2.1
  have hts := Cx.2.2.2.2.2.1
  rw [f_J6_numberOfTrailingZeros_0f7a4] at hf
  refine lv_iload_n (pc := 0) hx hb dJ6_numberOfTrailingZeros_0f7a4_0 rfl (lv_at hl 0 rfl) ?_
  refine lv_iconst (pc := 1) (v := (-1 : Int32)) hx hb dJ6_numberOfTrailingZeros_0f7a4_1 (by decide) ?_
  refine lv_ixor (pc := 2) hx hb dJ6_numberOfTrailingZeros_0f7a4_2 ?_
  refine lv_iload_n (pc := 3) hx hb dJ6_numberOfTrailingZeros_0f7a4_3 rfl (lv_at hl 0 rfl) ?_
  refine lv_iconst (pc := 4) (v := (1 : Int32)) hx hb dJ6_numberOfTrailingZeros_0f7a4_4 (by decide) ?_
  refine lv_isub (pc := 5) hx hb dJ6_numberOfTrailingZeros_0f7a4_5 ?_
  refine lv_iand (pc := 6) hx hb dJ6_numberOfTrailingZeros_0f7a4_6 ?_
  obtain ⟨x1, e2, hf⟩ := um_le hf
  refine um_top e2 ?_
  clear e2
  refine lv_istore_n (pc := 7) (lv' := [(0, .int x1)]) hx hb dJ6_numberOfTrailingZeros_0f7a4_7 rfl hl (by decide) rfl ?_
  clear hl
  intro ls hl
  refine lv_iload_n (pc := 8) hx hb dJ6_numberOfTrailingZeros_0f7a4_8 rfl (lv_at hl 0 rfl) ?_
  refine lv_if_gt (pc := 9) (tgt := 17) hx hb dJ6_numberOfTrailingZeros_0f7a4_9 (by decide) (fun c1 => ?_) (fun c1 => ?_)
  · have hf := um_it c1 hf
    clear c1
    refine lv_iconst (pc := 17) (v := (1 : Int32)) hx hb dJ6_numberOfTrailingZeros_0f7a4_17 (by decide) ?_
    refine lv_istore_n (pc := 18) (lv' := [(1, .int (1 : Int32)), (0, .int x1)]) hx hb dJ6_numberOfTrailingZeros_0f7a4_18 rfl hl (by decide) rfl ?_
    clear hl
    intro ls hl
    refine lv_iload_n (pc := 19) hx hb dJ6_numberOfTrailingZeros_0f7a4_19 rfl (lv_at hl 1 rfl) ?_
    refine lv_ldcw (pc := 20) hx hb hown (hts _ qC_J6_264) dJ6_numberOfTrailingZeros_0f7a4_20 ?_
    obtain ⟨k3, hk3, hf⟩ := um_j2 hf
    have J3 : ∀ (x4 : Int32) (x5 : Int32), k3 x4 x5 = some r → ∀ (H : Heap) (locs : List Loc) (ls : Array Slot), um_W Z sh α σ H → va_S (um_D sh α) s.heap H locs → lv_has ls 2 [(0, .int x4), (1, .int x5)] → um_G p l e (0) (0) s m args below meth c Z sh α σ (some (.int r)) H locs (F0 m 34 ls []) := by
      intro x4 x5 hf H locs ls hW hS hl
      rw [hk3] at hf
      refine lv_iload_n (pc := 34) hx hb dJ6_numberOfTrailingZeros_0f7a4_34 rfl (lv_at hl 0 rfl) ?_
      refine lv_sipush (pc := 35) (v := (256 : Int32)) hx hb dJ6_numberOfTrailingZeros_0f7a4_35 (by decide) ?_
      obtain ⟨k6, hk6, hf⟩ := um_j2 hf
      have J6 : ∀ (x7 : Int32) (x8 : Int32), k6 x7 x8 = some r → ∀ (H : Heap) (locs : List Loc) (ls : Array Slot), um_W Z sh α σ H → va_S (um_D sh α) s.heap H locs → lv_has ls 2 [(0, .int x7), (1, .int x8)] → um_G p l e (0) (0) s m args below meth c Z sh α σ (some (.int r)) H locs (F0 m 49 ls []) := by
        intro x7 x8 hf H locs ls hW hS hl
        rw [hk6] at hf
        refine lv_iload_n (pc := 49) hx hb dJ6_numberOfTrailingZeros_0f7a4_49 rfl (lv_at hl 0 rfl) ?_
        refine lv_bipush (pc := 50) (v := (16 : Int32)) hx hb dJ6_numberOfTrailingZeros_0f7a4_50 (by decide) ?_
        obtain ⟨k9, hk9, hf⟩ := um_j2 hf
        have J9 : ∀ (x10 : Int32) (x11 : Int32), k9 x10 x11 = some r → ∀ (H : Heap) (locs : List Loc) (ls : Array Slot), um_W Z sh α σ H → va_S (um_D sh α) s.heap H locs → lv_has ls 2 [(0, .int x10), (1, .int x11)] → um_G p l e (0) (0) s m args below meth c Z sh α σ (some (.int r)) H locs (F0 m 62 ls []) := by
          intro x10 x11 hf H locs ls hW hS hl
          rw [hk9] at hf
          refine lv_iload_n (pc := 62) hx hb dJ6_numberOfTrailingZeros_0f7a4_62 rfl (lv_at hl 0 rfl) ?_
          refine lv_iconst (pc := 63) (v := (4 : Int32)) hx hb dJ6_numberOfTrailingZeros_0f7a4_63 (by decide) ?_
          obtain ⟨k12, hk12, hf⟩ := um_j2 hf
          have J12 : ∀ (x13 : Int32) (x14 : Int32), k12 x13 x14 = some r → ∀ (H : Heap) (locs : List Loc) (ls : Array Slot), um_W Z sh α σ H → va_S (um_D sh α) s.heap H locs → lv_has ls 2 [(0, .int x13), (1, .int x14)] → um_G p l e (0) (0) s m args below meth c Z sh α σ (some (.int r)) H locs (F0 m 74 ls []) := by
            intro x13 x14 hf H locs ls hW hS hl
            rw [hk12] at hf
            refine lv_iload_n (pc := 74) hx hb dJ6_numberOfTrailingZeros_0f7a4_74 rfl (lv_at hl 1 rfl) ?_
            refine lv_iload_n (pc := 75) hx hb dJ6_numberOfTrailingZeros_0f7a4_75 rfl (lv_at hl 0 rfl) ?_
            refine lv_iconst (pc := 76) (v := (1 : Int32)) hx hb dJ6_numberOfTrailingZeros_0f7a4_76 (by decide) ?_
            refine lv_iushr (pc := 77) hx hb dJ6_numberOfTrailingZeros_0f7a4_77 rfl ?_
            refine lv_iadd (pc := 78) hx hb dJ6_numberOfTrailingZeros_0f7a4_78 ?_
            exact um_iretR (pc := 79) Cx hW hS hf dJ6_numberOfTrailingZeros_0f7a4_79
          refine lv_icmp_le (pc := 64) (tgt := 74) hx hb dJ6_numberOfTrailingZeros_0f7a4_64 (by decide) (fun c1 => ?_) (fun c1 => ?_)
          · have hf := um_it c1 hf
            clear c1
            exact J12 x10 x11 hf _ _ _ hW hS hl
          · have hf := um_ie c1 hf
            clear c1
            refine lv_iinc (pc := 67) (v := x11 + (2 : Int32)) (lv' := [(1, .int (x11 + (2 : Int32))), (0, .int x10)]) hx hb dJ6_numberOfTrailingZeros_0f7a4_67 hl (k := 1) rfl rfl (by decide) rfl ?_
            clear hl
            intro ls hl
            refine lv_iload_n (pc := 70) hx hb dJ6_numberOfTrailingZeros_0f7a4_70 rfl (lv_at hl 1 rfl) ?_
            refine lv_iconst (pc := 71) (v := (2 : Int32)) hx hb dJ6_numberOfTrailingZeros_0f7a4_71 (by decide) ?_
            refine lv_iushr (pc := 72) hx hb dJ6_numberOfTrailingZeros_0f7a4_72 rfl ?_
            obtain ⟨x15, e16, hf⟩ := um_le hf
            refine um_top e16 ?_
            clear e16
            refine lv_istore_n (pc := 73) (lv' := [(0, .int x15), (1, .int (x11 + (2 : Int32)))]) hx hb dJ6_numberOfTrailingZeros_0f7a4_73 rfl hl (by decide) rfl ?_
            clear hl
            intro ls hl
            exact J12 x15 (x11 + (2 : Int32)) hf _ _ _ hW hS hl
        refine lv_icmp_le (pc := 52) (tgt := 62) hx hb dJ6_numberOfTrailingZeros_0f7a4_52 (by decide) (fun c1 => ?_) (fun c1 => ?_)
        · have hf := um_it c1 hf
          clear c1
          exact J9 x7 x8 hf _ _ _ hW hS hl
        · have hf := um_ie c1 hf
          clear c1
          refine lv_iinc (pc := 55) (v := x8 + (4 : Int32)) (lv' := [(1, .int (x8 + (4 : Int32))), (0, .int x7)]) hx hb dJ6_numberOfTrailingZeros_0f7a4_55 hl (k := 1) rfl rfl (by decide) rfl ?_
          clear hl
          intro ls hl
          refine lv_iload_n (pc := 58) hx hb dJ6_numberOfTrailingZeros_0f7a4_58 rfl (lv_at hl 1 rfl) ?_
          refine lv_iconst (pc := 59) (v := (4 : Int32)) hx hb dJ6_numberOfTrailingZeros_0f7a4_59 (by decide) ?_
          refine lv_iushr (pc := 60) hx hb dJ6_numberOfTrailingZeros_0f7a4_60 rfl ?_
          obtain ⟨x17, e18, hf⟩ := um_le hf
          refine um_top e18 ?_
          clear e18
          refine lv_istore_n (pc := 61) (lv' := [(0, .int x17), (1, .int (x8 + (4 : Int32)))]) hx hb dJ6_numberOfTrailingZeros_0f7a4_61 rfl hl (by decide) rfl ?_
          clear hl
          intro ls hl
          exact J9 x17 (x8 + (4 : Int32)) hf _ _ _ hW hS hl
      refine lv_icmp_le (pc := 38) (tgt := 49) hx hb dJ6_numberOfTrailingZeros_0f7a4_38 (by decide) (fun c1 => ?_) (fun c1 => ?_)
      · have hf := um_it c1 hf
        clear c1
        exact J6 x4 x5 hf _ _ _ hW hS hl
      · have hf := um_ie c1 hf
        clear c1
        refine lv_iinc (pc := 41) (v := x5 + (8 : Int32)) (lv' := [(1, .int (x5 + (8 : Int32))), (0, .int x4)]) hx hb dJ6_numberOfTrailingZeros_0f7a4_41 hl (k := 1) rfl rfl (by decide) rfl ?_
        clear hl
        intro ls hl
        refine lv_iload_n (pc := 44) hx hb dJ6_numberOfTrailingZeros_0f7a4_44 rfl (lv_at hl 1 rfl) ?_
        refine lv_bipush (pc := 45) (v := (8 : Int32)) hx hb dJ6_numberOfTrailingZeros_0f7a4_45 (by decide) ?_
        refine lv_iushr (pc := 47) hx hb dJ6_numberOfTrailingZeros_0f7a4_47 rfl ?_
        obtain ⟨x19, e20, hf⟩ := um_le hf
        refine um_top e20 ?_
        clear e20
        refine lv_istore_n (pc := 48) (lv' := [(0, .int x19), (1, .int (x5 + (8 : Int32)))]) hx hb dJ6_numberOfTrailingZeros_0f7a4_48 rfl hl (by decide) rfl ?_
        clear hl
        intro ls hl
        exact J6 x19 (x5 + (8 : Int32)) hf _ _ _ hW hS hl
    refine lv_icmp_le (pc := 23) (tgt := 34) hx hb dJ6_numberOfTrailingZeros_0f7a4_23 (by decide) (fun c1 => ?_) (fun c1 => ?_)
    · have hf := um_it c1 hf
      clear c1
      exact J3 x1 (1 : Int32) hf _ _ _ hW hS (lv_sub hl [1, 0] rfl)
    · have hf := um_ie c1 hf
      clear c1
      refine lv_iinc (pc := 26) (v := (1 : Int32) + (16 : Int32)) (lv' := [(1, .int ((1 : Int32) + (16 : Int32))), (0, .int x1)]) hx hb dJ6_numberOfTrailingZeros_0f7a4_26 hl (k := 0) rfl rfl (by decide) rfl ?_
      clear hl
      intro ls hl
      refine lv_iload_n (pc := 29) hx hb dJ6_numberOfTrailingZeros_0f7a4_29 rfl (lv_at hl 1 rfl) ?_
      refine lv_bipush (pc := 30) (v := (16 : Int32)) hx hb dJ6_numberOfTrailingZeros_0f7a4_30 (by decide) ?_
      refine lv_iushr (pc := 32) hx hb dJ6_numberOfTrailingZeros_0f7a4_32 rfl ?_
      obtain ⟨x21, e22, hf⟩ := um_le hf
      refine um_top e22 ?_
      clear e22
      refine lv_istore_n (pc := 33) (lv' := [(0, .int x21), (1, .int ((1 : Int32) + (16 : Int32)))]) hx hb dJ6_numberOfTrailingZeros_0f7a4_33 rfl hl (by decide) rfl ?_
      clear hl
      intro ls hl
      exact J3 x21 ((1 : Int32) + (16 : Int32)) hf _ _ _ hW hS hl
  · have hf := um_ie c1 hf
    clear c1
    refine lv_iload_n (pc := 12) hx hb dJ6_numberOfTrailingZeros_0f7a4_12 rfl (lv_at hl 0 rfl) ?_
    refine lv_bipush (pc := 13) (v := (32 : Int32)) hx hb dJ6_numberOfTrailingZeros_0f7a4_13 (by decide) ?_
    refine lv_iand (pc := 15) hx hb dJ6_numberOfTrailingZeros_0f7a4_15 ?_
    exact um_iretR (pc := 16) Cx hW hS hf dJ6_numberOfTrailingZeros_0f7a4_16
theorem c_J6_numberOfTrailingZeros_0f7a4 {σ : um_S} {r : Int32} (a0 : Int32) (hX : um_X sh) (hf : f_J6_numberOfTrailingZeros_0f7a4 a0 σ = some r) : um_M l yJ6_numberOfTrailingZeros_0f7a4 cJ6_numberOfTrailingZeros_0f7a4 2 (some FieldType.int) (0) (0) Z sh α σ [.int a0] (some (.int r)) σ :=
  um_start (by decide) (Nat.le_of_ble_eq_true rfl) (fun p e s m below meth c ls Cx hW hS hl => b_J6_numberOfTrailingZeros_0f7a4 a0 hX hf Cx hW hS hl)
noncomputable def f_X5_get (h0 : Nat) (a1 : Int32) (a2 : Int32) (σ : um_S) : Option (Int32) :=
    um_let ((a1 * (xw h0)) + a2) fun x1 =>
    (um_let (fun (x4 : Int32) =>
    (if x4 = 0 then
    (some (0 : Int32))
    else
    (if x1 < 0 then
    (some (0 : Int32))
    else
    (if (nI (xl h0)) ≤ x1 then
    (some (0 : Int32))
    else
    (if um_ix x1 (xl h0) then
    (some (σ.1 (h0 + 100) x1.toNatClampNeg)) else none))))) fun k3 =>
    (um_let (fun (_u : Unit) =>
    (k3 (0 : Int32))) fun k6 =>
    (if a1 < 0 then
    (k6 ())
    else
    (if a2 < 0 then
    (k6 ())
    else
    (if (xw h0) ≤ a2 then
    (k6 ())
    else
    (k3 (1 : Int32)))))))
set_option maxRecDepth 100000 in
set_option maxHeartbeats 4000000 in
theorem b_X5_get {H : Heap} {locs : List Loc} {ls : Array Slot} {σ : um_S} {r : Int32} (h0 : Nat) (a1 : Int32) (a2 : Int32) (hh0 : xT h0 = true) (hX : um_X sh) (hf : f_X5_get h0 a1 a2 σ = some r) (Cx : um_C p s m meth c args cX5_get 5 (some FieldType.int) RX5 Z) (hW : um_W Z sh α σ H) (hS : va_S (um_D sh α) s.heap H locs) (hl : lv_has ls 5 [(0, .ref (α h0)), (1, .int a1), (2, .int a2)]) : um_G p l e (0) (0) s m args below meth c Z sh α σ (some (.int r)) H locs (F0 m 0 ls []) := by
  have hx := Cx.1
  have hb := Cx.2.1
  have hown := Cx.2.2.2.2.1
  have hts := Cx.2.2.2.2.2.1
  rw [f_X5_get] at hf
  refine lv_iload_n (pc := 0) hx hb dX5_get_0 rfl (lv_at hl 1 rfl) ?_
  refine lv_aload_n (pc := 1) hx hb dX5_get_1 rfl (lv_at hl 0 rfl) ?_
  refine gF_X5_15 (pc := 2) Cx hW (xs_tab hX hh0) rfl dX5_get_2 ?_
  refine lv_imul (pc := 5) hx hb dX5_get_5 ?_
  refine lv_iload_n (pc := 6) hx hb dX5_get_6 rfl (lv_at hl 2 rfl) ?_
  refine lv_iadd (pc := 7) hx hb dX5_get_7 ?_
  obtain ⟨x1, e2, hf⟩ := um_le hf
  refine um_top e2 ?_
  clear e2
  refine lv_istore_n (pc := 8) (lv' := [(3, .int x1), (0, .ref (α h0)), (1, .int a1), (2, .int a2)]) hx hb dX5_get_8 rfl hl (by decide) rfl ?_
  clear hl
  intro ls hl
  refine lv_iload_n (pc := 9) hx hb dX5_get_9 rfl (lv_at hl 2 rfl) ?_
  obtain ⟨k3, hk3, hf⟩ := um_j1 hf
  have J3 : ∀ (x4 : Int32), k3 x4 = some r → ∀ (H : Heap) (locs : List Loc) (ls : Array Slot), um_W Z sh α σ H → va_S (um_D sh α) s.heap H locs → lv_has ls 5 [(0, .ref (α h0)), (3, .int x1)] → um_G p l e (0) (0) s m args below meth c Z sh α σ (some (.int r)) H locs (F0 m 30 ls [.int x4]) := by
    intro x4 hf H locs ls hW hS hl
    rw [hk3] at hf
    refine lv_istore (pc := 30) (lv' := [(4, .int x4), (0, .ref (α h0)), (3, .int x1)]) hx hb dX5_get_30 hl (by decide) rfl ?_
    clear hl
    intro ls hl
    refine lv_iload (pc := 32) hx hb dX5_get_32 (lv_at hl 0 rfl) ?_
    refine lv_if_eq (pc := 34) (tgt := 59) hx hb dX5_get_34 (by decide) (fun c1 => ?_) (fun c1 => ?_)
    · have hf := um_it c1 hf
      clear c1
      refine lv_iconst (pc := 59) (v := (0 : Int32)) hx hb dX5_get_59 (by decide) ?_
      exact um_iretR (pc := 60) Cx hW hS hf dX5_get_60
    · have hf := um_ie c1 hf
      clear c1
      refine lv_iload_n (pc := 37) hx hb dX5_get_37 rfl (lv_at hl 2 rfl) ?_
      refine lv_if_lt (pc := 38) (tgt := 59) hx hb dX5_get_38 (by decide) (fun c1 => ?_) (fun c1 => ?_)
      · have hf := um_it c1 hf
        clear c1
        refine lv_iconst (pc := 59) (v := (0 : Int32)) hx hb dX5_get_59 (by decide) ?_
        exact um_iretR (pc := 60) Cx hW hS hf dX5_get_60
      · have hf := um_ie c1 hf
        clear c1
        refine lv_iload_n (pc := 41) hx hb dX5_get_41 rfl (lv_at hl 2 rfl) ?_
        refine lv_aload_n (pc := 42) hx hb dX5_get_42 rfl (lv_at hl 1 rfl) ?_
        refine gF_X5_21 (pc := 43) Cx hW (xs_tab hX hh0) rfl dX5_get_43 ?_
        refine um_alen (pc := 46) (n := (xl h0)) Cx hW (xs_cel hX hh0) rfl (by decide) dX5_get_46 ?_
        refine lv_icmp_ge (pc := 47) (tgt := 59) hx hb dX5_get_47 (by decide) (fun c1 => ?_) (fun c1 => ?_)
        · have hf := um_it c1 hf
          clear c1
          refine lv_iconst (pc := 59) (v := (0 : Int32)) hx hb dX5_get_59 (by decide) ?_
          exact um_iretR (pc := 60) Cx hW hS hf dX5_get_60
        · have hf := um_ie c1 hf
          clear c1
          refine lv_aload_n (pc := 50) hx hb dX5_get_50 rfl (lv_at hl 1 rfl) ?_
          refine gF_X5_21 (pc := 51) Cx hW (xs_tab hX hh0) rfl dX5_get_51 ?_
          refine lv_iload_n (pc := 54) hx hb dX5_get_54 rfl (lv_at hl 2 rfl) ?_
          obtain ⟨g5, hf⟩ := um_gu hf
          refine um_iald (pc := 55) Cx hW (xs_cel hX hh0) rfl (um_ix_in g5) dX5_get_55 ?_
          refine lv_goto (pc := 56) (tgt := 60) hx hb dX5_get_56 (by decide) ?_
          exact um_iretR (pc := 60) Cx hW hS hf dX5_get_60
  obtain ⟨k6, hk6, hf⟩ := um_j1 hf
  have J6 : ∀ (_u : Unit), k6 _u = some r → ∀ (H : Heap) (locs : List Loc) (ls : Array Slot), um_W Z sh α σ H → va_S (um_D sh α) s.heap H locs → lv_has ls 5 [(0, .ref (α h0)), (3, .int x1)] → um_G p l e (0) (0) s m args below meth c Z sh α σ (some (.int r)) H locs (F0 m 29 ls []) := by
    intro _u hf H locs ls hW hS hl
    rw [hk6] at hf
    refine lv_iconst (pc := 29) (v := (0 : Int32)) hx hb dX5_get_29 (by decide) ?_
    exact J3 (0 : Int32) hf _ _ _ hW hS hl
  refine lv_if_lt (pc := 10) (tgt := 29) hx hb dX5_get_10 (by decide) (fun c1 => ?_) (fun c1 => ?_)
  · have hf := um_it c1 hf
    clear c1
    exact J6 () hf _ _ _ hW hS (lv_sub hl [1, 0] rfl)
  · have hf := um_ie c1 hf
    clear c1
    refine lv_iload_n (pc := 13) hx hb dX5_get_13 rfl (lv_at hl 3 rfl) ?_
    refine lv_if_lt (pc := 14) (tgt := 29) hx hb dX5_get_14 (by decide) (fun c1 => ?_) (fun c1 => ?_)
    · have hf := um_it c1 hf
      clear c1
      exact J6 () hf _ _ _ hW hS (lv_sub hl [1, 0] rfl)
    · have hf := um_ie c1 hf
      clear c1
      refine lv_iload_n (pc := 17) hx hb dX5_get_17 rfl (lv_at hl 3 rfl) ?_
      refine lv_aload_n (pc := 18) hx hb dX5_get_18 rfl (lv_at hl 1 rfl) ?_
      refine gF_X5_15 (pc := 19) Cx hW (xs_tab hX hh0) rfl dX5_get_19 ?_
      refine lv_icmp_ge (pc := 22) (tgt := 29) hx hb dX5_get_22 (by decide) (fun c1 => ?_) (fun c1 => ?_)
      · have hf := um_it c1 hf
        clear c1
        exact J6 () hf _ _ _ hW hS (lv_sub hl [1, 0] rfl)
      · have hf := um_ie c1 hf
        clear c1
        refine lv_iconst (pc := 25) (v := (1 : Int32)) hx hb dX5_get_25 (by decide) ?_
        refine lv_goto (pc := 26) (tgt := 30) hx hb dX5_get_26 (by decide) ?_
        exact J3 (1 : Int32) hf _ _ _ hW hS (lv_sub hl [1, 0] rfl)
theorem c_X5_get {σ : um_S} {r : Int32} (h0 : Nat) (a1 : Int32) (a2 : Int32) (hh0 : xT h0 = true) (hX : um_X sh) (hf : f_X5_get h0 a1 a2 σ = some r) : um_M l yX5_get cX5_get 5 (some FieldType.int) (0) (0) Z sh α σ [.ref (α h0), .int a1, .int a2] (some (.int r)) σ :=
  um_start (by decide) (Nat.le_of_ble_eq_true rfl) (fun p e s m below meth c ls Cx hW hS hl => b_X5_get h0 a1 a2 hh0 hX hf Cx hW hS hl)
noncomputable def f_X8_within (a0 : Int32) (a1 : Int32) (a2 : Int32) (σ : um_S) : Option (Bool) :=
    if a0 < a1 then
    (some false)
    else
    (if a2 < a0 then
    (some false)
    else
    (some true))
set_option maxRecDepth 100000 in
set_option maxHeartbeats 4000000 in
theorem b_X8_within {H : Heap} {locs : List Loc} {ls : Array Slot} {σ : um_S} {r : Bool} (a0 : Int32) (a1 : Int32) (a2 : Int32) (hX : um_X sh) (hf : f_X8_within a0 a1 a2 σ = some r) (Cx : um_C p s m meth c args cX8_within 3 (some FieldType.boolean) RX8 Z) (hW : um_W Z sh α σ H) (hS : va_S (um_D sh α) s.heap H locs) (hl : lv_has ls 3 [(0, .int a0), (1, .int a1), (2, .int a2)]) : um_G p l e (0) (0) s m args below meth c Z sh α σ (some (.int (um_b r))) H locs (F0 m 0 ls []) := by
  have hx := Cx.1
  have hb := Cx.2.1
  have hown := Cx.2.2.2.2.1
  have hts := Cx.2.2.2.2.2.1
  rw [f_X8_within] at hf
  refine lv_iload_n (pc := 0) hx hb dX8_within_0 rfl (lv_at hl 0 rfl) ?_
  refine lv_iload_n (pc := 1) hx hb dX8_within_1 rfl (lv_at hl 1 rfl) ?_
  refine lv_icmp_lt (pc := 2) (tgt := 14) hx hb dX8_within_2 (by decide) (fun c1 => ?_) (fun c1 => ?_)
  · have hf := um_it c1 hf
    clear c1
    refine lv_iconst (pc := 14) (v := (0 : Int32)) hx hb dX8_within_14 (by decide) ?_
    exact um_zretR (pc := 15) Cx hW hS hf rfl dX8_within_15
  · have hf := um_ie c1 hf
    clear c1
    refine lv_iload_n (pc := 5) hx hb dX8_within_5 rfl (lv_at hl 0 rfl) ?_
    refine lv_iload_n (pc := 6) hx hb dX8_within_6 rfl (lv_at hl 2 rfl) ?_
    refine lv_icmp_gt (pc := 7) (tgt := 14) hx hb dX8_within_7 (by decide) (fun c1 => ?_) (fun c1 => ?_)
    · have hf := um_it c1 hf
      clear c1
      refine lv_iconst (pc := 14) (v := (0 : Int32)) hx hb dX8_within_14 (by decide) ?_
      exact um_zretR (pc := 15) Cx hW hS hf rfl dX8_within_15
    · have hf := um_ie c1 hf
      clear c1
      refine lv_iconst (pc := 10) (v := (1 : Int32)) hx hb dX8_within_10 (by decide) ?_
      refine lv_goto (pc := 11) (tgt := 15) hx hb dX8_within_11 (by decide) ?_
      exact um_zretR (pc := 15) Cx hW hS hf rfl dX8_within_15
theorem c_X8_within {σ : um_S} {r : Bool} (a0 : Int32) (a1 : Int32) (a2 : Int32) (hX : um_X sh) (hf : f_X8_within a0 a1 a2 σ = some r) : um_M l yX8_within cX8_within 3 (some FieldType.boolean) (0) (0) Z sh α σ [.int a0, .int a1, .int a2] (some (.int (um_b r))) σ :=
  um_start (by decide) (Nat.le_of_ble_eq_true rfl) (fun p e s m below meth c ls Cx hW hS hl => b_X8_within a0 a1 a2 hX hf Cx hW hS hl)
noncomputable def f_X8_isPlace (a0 : Int32) (σ : um_S) : Option (Bool) :=
    (f_X8_within a0 (0 : Int32) (5 : Int32) σ).bind fun x2 =>
    (some x2)
set_option maxRecDepth 100000 in
set_option maxHeartbeats 4000000 in
theorem b_X8_isPlace {H : Heap} {locs : List Loc} {ls : Array Slot} {σ : um_S} {r : Bool} (a0 : Int32) (hX : um_X sh) (hf : f_X8_isPlace a0 σ = some r) (Cx : um_C p s m meth c args cX8_isPlace 1 (some FieldType.boolean) RX8 Z) (hW : um_W Z sh α σ H) (hS : va_S (um_D sh α) s.heap H locs) (hl : lv_has ls 1 [(0, .int a0)]) : um_G p l e (1) (22) s m args below meth c Z sh α σ (some (.int (um_b r))) H locs (F0 m 0 ls []) := by
  have hx := Cx.1
  have hb := Cx.2.1
  have hown := Cx.2.2.2.2.1
  have hts := Cx.2.2.2.2.2.1
  rw [f_X8_isPlace] at hf
  refine lv_iload_n (pc := 0) hx hb dX8_isPlace_0 rfl (lv_at hl 0 rfl) ?_
  refine lv_iconst (pc := 1) (v := (0 : Int32)) hx hb dX8_isPlace_1 (by decide) ?_
  refine lv_iconst (pc := 2) (v := (5 : Int32)) hx hb dX8_isPlace_2 (by decide) ?_
  obtain ⟨x2, hc1, hf⟩ := um_bi hf
  refine um_cSi (pc := 3) (As := [.int a0, .int (0 : Int32), .int (5 : Int32)]) (rest := []) Cx (c_X8_within a0 (0 : Int32) (5 : Int32) hX hc1) kS_X8_within (Or.inl qM_X8_55) hW hS rfl hl rfl (Nat.le_of_ble_eq_true rfl) (Nat.le_of_ble_eq_true rfl) (Nat.le_of_ble_eq_true rfl) dX8_isPlace_3 (Nat.le_refl _) (Nat.le_refl _) ?_
  clear hW hS hc1
  intro H locs hW hS
  exact um_zretR (pc := 6) Cx hW hS hf rfl dX8_isPlace_6
theorem c_X8_isPlace {σ : um_S} {r : Bool} (a0 : Int32) (hX : um_X sh) (hf : f_X8_isPlace a0 σ = some r) : um_M l yX8_isPlace cX8_isPlace 1 (some FieldType.boolean) (1) (22) Z sh α σ [.int a0] (some (.int (um_b r))) σ :=
  um_start (by decide) (Nat.le_of_ble_eq_true rfl) (fun p e s m below meth c ls Cx hW hS hl => b_X8_isPlace a0 hX hf Cx hW hS hl)
noncomputable def f_X4_isAtPlace (h0 : Nat) (a1 : Int32) (σ : um_S) : Option (Bool) :=
    (f_X5_get (20 * h0 + 1) a1 (4 : Int32) σ).bind fun x2 =>
    ((f_X8_isPlace x2 σ).bind fun x4 =>
    (some x4))
set_option maxRecDepth 100000 in
set_option maxHeartbeats 4000000 in
theorem b_X4_isAtPlace {H : Heap} {locs : List Loc} {ls : Array Slot} {σ : um_S} {r : Bool} (h0 : Nat) (a1 : Int32) (hh0 : um_h h0) (hX : um_X sh) (hf : f_X4_isAtPlace h0 a1 σ = some r) (Cx : um_C p s m meth c args cX4_isAtPlace 2 (some FieldType.boolean) RX4 Z) (hW : um_W Z sh α σ H) (hS : va_S (um_D sh α) s.heap H locs) (hl : lv_has ls 2 [(0, .ref (α h0)), (1, .int a1)]) : um_G p l e (2) (42) s m args below meth c Z sh α σ (some (.int (um_b r))) H locs (F0 m 0 ls []) := by
  have hx := Cx.1
  have hb := Cx.2.1
  have hown := Cx.2.2.2.2.1
  have hts := Cx.2.2.2.2.2.1
  rw [f_X4_isAtPlace] at hf
  refine lv_aload_n (pc := 0) hx hb dX4_isAtPlace_0 rfl (lv_at hl 0 rfl) ?_
  refine gF_X4_20 (pc := 1) Cx hW (xs_shore hX hh0) rfl dX4_isAtPlace_1 ?_
  refine lv_iload_n (pc := 4) hx hb dX4_isAtPlace_4 rfl (lv_at hl 1 rfl) ?_
  refine lv_iconst (pc := 5) (v := (4 : Int32)) hx hb dX4_isAtPlace_5 (by decide) ?_
  obtain ⟨x2, hc1, hf⟩ := um_bi hf
  refine um_cVi (pc := 6) (As := [.int a1, .int (4 : Int32)]) (rest := []) Cx (c_X5_get (20 * h0 + 1) a1 (4 : Int32) (xs_ht hh0 1 rfl) hX hc1) kV_X5_get (Or.inl qM_X4_82) hW hS (xs_tab hX (xs_ht hh0 1 rfl)) rfl rfl hl rfl (Nat.le_of_ble_eq_true rfl) (Nat.le_of_ble_eq_true rfl) (Nat.le_of_ble_eq_true rfl) dX4_isAtPlace_6 (Nat.le_refl _) (Nat.le_refl _) ?_
  clear hW hS hc1
  intro H locs hW hS
  obtain ⟨x4, hc3, hf⟩ := um_bi hf
  refine um_cSi (pc := 9) (As := [.int x2]) (rest := []) Cx (c_X8_isPlace x2 hX hc3) kS_X8_isPlace (Or.inr ⟨_, qW_X4_93⟩) hW hS rfl hl rfl (Nat.le_of_ble_eq_true rfl) (Nat.le_of_ble_eq_true rfl) (Nat.le_of_ble_eq_true rfl) dX4_isAtPlace_9 (Nat.le_refl _) (Nat.le_refl _) ?_
  clear hW hS hc3
  intro H locs hW hS
  exact um_zretR (pc := 12) Cx hW hS hf rfl dX4_isAtPlace_12
theorem c_X4_isAtPlace {σ : um_S} {r : Bool} (h0 : Nat) (a1 : Int32) (hh0 : um_h h0) (hX : um_X sh) (hf : f_X4_isAtPlace h0 a1 σ = some r) : um_M l yX4_isAtPlace cX4_isAtPlace 2 (some FieldType.boolean) (2) (42) Z sh α σ [.ref (α h0), .int a1] (some (.int (um_b r))) σ :=
  um_start (by decide) (Nat.le_of_ble_eq_true rfl) (fun p e s m below meth c ls Cx hW hS hl => b_X4_isAtPlace h0 a1 hh0 hX hf Cx hW hS hl)
noncomputable def f_X4_isWantedBy (h0 : Nat) (a1 : Int32) (a2 : Int32) (σ : um_S) : Option (Bool) :=
    (f_X4_isAtPlace h0 a1 σ).bind fun x2 =>
    (if (um_b x2) = 0 then
    (some false)
    else
    ((f_X5_get (20 * h0 + 1) a1 (4 : Int32) σ).bind fun x4 =>
    ((f_X5_get (20 * h0 + 2) a2 (0 : Int32) σ).bind fun x6 =>
    (if x4 = x6 then
    ((f_X5_get (20 * h0 + 2) a2 (1 : Int32) σ).bind fun x8 =>
    ((f_X5_get (20 * h0 + 1) a1 (1 : Int32) σ).bind fun x10 =>
    (if ((x8 >>> (x10 &&& 31)) &&& (1 : Int32)) = (1 : Int32) then
    (some true)
    else
    (some false))))
    else
    (some false)))))
set_option maxRecDepth 100000 in
set_option maxHeartbeats 4000000 in
theorem b_X4_isWantedBy {H : Heap} {locs : List Loc} {ls : Array Slot} {σ : um_S} {r : Bool} (h0 : Nat) (a1 : Int32) (a2 : Int32) (hh0 : um_h h0) (hX : um_X sh) (hf : f_X4_isWantedBy h0 a1 a2 σ = some r) (Cx : um_C p s m meth c args cX4_isWantedBy 3 (some FieldType.boolean) RX4 Z) (hW : um_W Z sh α σ H) (hS : va_S (um_D sh α) s.heap H locs) (hl : lv_has ls 3 [(0, .ref (α h0)), (1, .int a1), (2, .int a2)]) : um_G p l e (3) (63) s m args below meth c Z sh α σ (some (.int (um_b r))) H locs (F0 m 0 ls []) := by
  have hx := Cx.1
  have hb := Cx.2.1
  have hown := Cx.2.2.2.2.1
  have hts := Cx.2.2.2.2.2.1
  rw [f_X4_isWantedBy] at hf
  refine lv_aload_n (pc := 0) hx hb dX4_isWantedBy_0 rfl (lv_at hl 0 rfl) ?_
  refine lv_iload_n (pc := 1) hx hb dX4_isWantedBy_1 rfl (lv_at hl 1 rfl) ?_
  obtain ⟨x2, hc1, hf⟩ := um_bi hf
  refine um_cVi (pc := 2) (As := [.int a1]) (rest := []) Cx (c_X4_isAtPlace h0 a1 hh0 hX hc1) kV_X4_isAtPlace (Or.inl qM_X4_110) hW hS (xs_shore hX hh0) rfl rfl hl rfl (Nat.le_of_ble_eq_true rfl) (Nat.le_of_ble_eq_true rfl) (Nat.le_of_ble_eq_true rfl) dX4_isWantedBy_2 (Nat.le_refl _) (Nat.le_refl _) ?_
  clear hW hS hc1
  intro H locs hW hS
  refine lv_if_eq (pc := 5) (tgt := 29) hx hb dX4_isWantedBy_5 (by decide) (fun c1 => ?_) (fun c1 => ?_)
  · have hf := um_it c1 hf
    clear c1
    refine lv_iconst (pc := 29) (v := (0 : Int32)) hx hb dX4_isWantedBy_29 (by decide) ?_
    exact um_zretR (pc := 30) Cx hW hS hf rfl dX4_isWantedBy_30
  · have hf := um_ie c1 hf
    clear c1
    refine lv_aload_n (pc := 8) hx hb dX4_isWantedBy_8 rfl (lv_at hl 0 rfl) ?_
    refine gF_X4_20 (pc := 9) Cx hW (xs_shore hX hh0) rfl dX4_isWantedBy_9 ?_
    refine lv_iload_n (pc := 12) hx hb dX4_isWantedBy_12 rfl (lv_at hl 1 rfl) ?_
    refine lv_iconst (pc := 13) (v := (4 : Int32)) hx hb dX4_isWantedBy_13 (by decide) ?_
    obtain ⟨x4, hc3, hf⟩ := um_bi hf
    refine um_cVi (pc := 14) (As := [.int a1, .int (4 : Int32)]) (rest := []) Cx (c_X5_get (20 * h0 + 1) a1 (4 : Int32) (xs_ht hh0 1 rfl) hX hc3) kV_X5_get (Or.inl qM_X4_82) hW hS (xs_tab hX (xs_ht hh0 1 rfl)) rfl rfl hl rfl (Nat.le_of_ble_eq_true rfl) (Nat.le_of_ble_eq_true rfl) (Nat.le_of_ble_eq_true rfl) dX4_isWantedBy_14 (Nat.le_refl _) (Nat.le_refl _) ?_
    clear hW hS hc3
    intro H locs hW hS
    refine lv_aload_n (pc := 17) hx hb dX4_isWantedBy_17 rfl (lv_at hl 0 rfl) ?_
    refine gF_X4_23 (pc := 18) Cx hW (xs_shore hX hh0) rfl dX4_isWantedBy_18 ?_
    refine lv_iload_n (pc := 21) hx hb dX4_isWantedBy_21 rfl (lv_at hl 2 rfl) ?_
    refine lv_iconst (pc := 22) (v := (0 : Int32)) hx hb dX4_isWantedBy_22 (by decide) ?_
    obtain ⟨x6, hc5, hf⟩ := um_bi hf
    refine um_cVi (pc := 23) (As := [.int a2, .int (0 : Int32)]) (rest := [.int x4]) Cx (c_X5_get (20 * h0 + 2) a2 (0 : Int32) (xs_ht hh0 2 rfl) hX hc5) kV_X5_get (Or.inl qM_X4_82) hW hS (xs_tab hX (xs_ht hh0 2 rfl)) rfl rfl hl rfl (Nat.le_of_ble_eq_true rfl) (Nat.le_of_ble_eq_true rfl) (Nat.le_of_ble_eq_true rfl) dX4_isWantedBy_23 (Nat.le_refl _) (Nat.le_refl _) ?_
    clear hW hS hc5
    intro H locs hW hS
    refine lv_icmp_eq (pc := 26) (tgt := 31) hx hb dX4_isWantedBy_26 (by decide) (fun c1 => ?_) (fun c1 => ?_)
    · have hf := um_it c1 hf
      clear c1
      refine lv_aload_n (pc := 31) hx hb dX4_isWantedBy_31 rfl (lv_at hl 0 rfl) ?_
      refine gF_X4_23 (pc := 32) Cx hW (xs_shore hX hh0) rfl dX4_isWantedBy_32 ?_
      refine lv_iload_n (pc := 35) hx hb dX4_isWantedBy_35 rfl (lv_at hl 2 rfl) ?_
      refine lv_iconst (pc := 36) (v := (1 : Int32)) hx hb dX4_isWantedBy_36 (by decide) ?_
      obtain ⟨x8, hc7, hf⟩ := um_bi hf
      refine um_cVi (pc := 37) (As := [.int a2, .int (1 : Int32)]) (rest := []) Cx (c_X5_get (20 * h0 + 2) a2 (1 : Int32) (xs_ht hh0 2 rfl) hX hc7) kV_X5_get (Or.inl qM_X4_82) hW hS (xs_tab hX (xs_ht hh0 2 rfl)) rfl rfl hl rfl (Nat.le_of_ble_eq_true rfl) (Nat.le_of_ble_eq_true rfl) (Nat.le_of_ble_eq_true rfl) dX4_isWantedBy_37 (Nat.le_refl _) (Nat.le_refl _) ?_
      clear hW hS hc7
      intro H locs hW hS
      refine lv_aload_n (pc := 40) hx hb dX4_isWantedBy_40 rfl (lv_at hl 0 rfl) ?_
      refine gF_X4_20 (pc := 41) Cx hW (xs_shore hX hh0) rfl dX4_isWantedBy_41 ?_
      refine lv_iload_n (pc := 44) hx hb dX4_isWantedBy_44 rfl (lv_at hl 1 rfl) ?_
      refine lv_iconst (pc := 45) (v := (1 : Int32)) hx hb dX4_isWantedBy_45 (by decide) ?_
      obtain ⟨x10, hc9, hf⟩ := um_bi hf
      refine um_cVi (pc := 46) (As := [.int a1, .int (1 : Int32)]) (rest := [.int x8]) Cx (c_X5_get (20 * h0 + 1) a1 (1 : Int32) (xs_ht hh0 1 rfl) hX hc9) kV_X5_get (Or.inl qM_X4_82) hW hS (xs_tab hX (xs_ht hh0 1 rfl)) rfl rfl hl rfl (Nat.le_of_ble_eq_true rfl) (Nat.le_of_ble_eq_true rfl) (Nat.le_of_ble_eq_true rfl) dX4_isWantedBy_46 (Nat.le_refl _) (Nat.le_refl _) ?_
      clear hW hS hc9
      intro H locs hW hS
      refine lv_ishr (pc := 49) hx hb dX4_isWantedBy_49 ?_
      refine lv_iconst (pc := 50) (v := (1 : Int32)) hx hb dX4_isWantedBy_50 (by decide) ?_
      refine lv_iand (pc := 51) hx hb dX4_isWantedBy_51 ?_
      refine lv_iconst (pc := 52) (v := (1 : Int32)) hx hb dX4_isWantedBy_52 (by decide) ?_
      refine lv_icmp_ne (pc := 53) (tgt := 60) hx hb dX4_isWantedBy_53 (by decide) (fun c1 => ?_) (fun c1 => ?_)
      · have hf := um_ie c1 hf
        clear c1
        refine lv_iconst (pc := 60) (v := (0 : Int32)) hx hb dX4_isWantedBy_60 (by decide) ?_
        exact um_zretR (pc := 61) Cx hW hS hf rfl dX4_isWantedBy_61
      · have hf := um_it c1 hf
        clear c1
        refine lv_iconst (pc := 56) (v := (1 : Int32)) hx hb dX4_isWantedBy_56 (by decide) ?_
        refine lv_goto (pc := 57) (tgt := 61) hx hb dX4_isWantedBy_57 (by decide) ?_
        exact um_zretR (pc := 61) Cx hW hS hf rfl dX4_isWantedBy_61
    · have hf := um_ie c1 hf
      clear c1
      refine lv_iconst (pc := 29) (v := (0 : Int32)) hx hb dX4_isWantedBy_29 (by decide) ?_
      exact um_zretR (pc := 30) Cx hW hS hf rfl dX4_isWantedBy_30
theorem c_X4_isWantedBy {σ : um_S} {r : Bool} (h0 : Nat) (a1 : Int32) (a2 : Int32) (hh0 : um_h h0) (hX : um_X sh) (hf : f_X4_isWantedBy h0 a1 a2 σ = some r) : um_M l yX4_isWantedBy cX4_isWantedBy 3 (some FieldType.boolean) (3) (63) Z sh α σ [.ref (α h0), .int a1, .int a2] (some (.int (um_b r))) σ :=
  um_start (by decide) (Nat.le_of_ble_eq_true rfl) (fun p e s m below meth c ls Cx hW hS hl => b_X4_isWantedBy h0 a1 a2 hh0 hX hf Cx hW hS hl)
noncomputable def f_X0_openFor_l20 (h1 : Nat) (v2 : Int32) (σ : um_S) : Nat → Int32 → Int32 → Option (Int32)
  | 0, _, _ => none
  | n + 1, v3, v4 =>
    if (σ.1 5 3) ≤ v4 then
    (some v3)
    else
    ((f_X4_isWantedBy h1 v2 v4 σ).bind fun x2 =>
    (if (um_b x2) = 0 then
    (f_X0_openFor_l20 h1 v2 σ n v3 (v4 + (1 : Int32)))
    else
    (um_let (v3 ||| ((1 : Int32) <<< (v4 &&& 31))) fun x3 =>
    (f_X0_openFor_l20 h1 v2 σ n x3 (v4 + (1 : Int32))))))
noncomputable def f_X0_openFor (h1 : Nat) (a2 : Int32) (σ : um_S) : Option (Int32) :=
    (f_X5_get (20 * h1 + 1) a2 (5 : Int32) σ).bind fun x2 =>
    (if x2 = (1 : Int32) then
    ((f_X0_openFor_l20 h1 a2 σ um_N (0 : Int32) (0 : Int32)).bind fun x3 =>
    (some x3))
    else
    (some (0 : Int32)))
set_option maxRecDepth 100000 in
set_option maxHeartbeats 4000000 in
theorem t_X0_openFor_l20 {Q : State → Prop} {o3 : Int32} {σ : um_S} (h1 : Nat) (v2 : Int32) (hh1 : um_h h1) (hX : um_X sh) (Cx : um_C p s m meth c args cX0_openFor 5 (some FieldType.int) RX0 Z) (hE : ∀ (H : Heap) (locs : List Loc) (ls : Array Slot), um_W Z sh α σ H → va_S (um_D sh α) s.heap H locs → lv_has ls 5 [(3, .int o3)] → W p l e { frames := 4, cells := 0, slots := 0, locals := 85 } s m args below meth c H locs 0 0 Q (F0 m 52 ls [])) : ∀ (n : Nat) (v3 : Int32) (v4 : Int32) (H : Heap) (locs : List Loc) (ls : Array Slot), f_X0_openFor_l20 h1 v2 σ n v3 v4 = some o3 → um_W Z sh α σ H → va_S (um_D sh α) s.heap H locs → lv_has ls 5 [(0, .ref (α 5)), (1, .ref (α h1)), (2, .int v2), (3, .int v3), (4, .int v4)] → W p l e { frames := 4, cells := 0, slots := 0, locals := 85 } s m args below meth c H locs 0 0 Q (F0 m 20 ls []) := by
  have hx := Cx.1
  have hb := Cx.2.1
  have hown := Cx.2.2.2.2.1
  have hts := Cx.2.2.2.2.2.1
  intro n
  induction n with
  | zero =>
    intro v3 v4 H locs ls hf hW hS hl
    cases hf
  | succ n ih =>
    intro v3 v4 H locs ls hf hW hS hl
    rw [f_X0_openFor_l20] at hf
    refine lv_iload (pc := 20) hx hb dX0_openFor_20 (lv_at hl 4 rfl) ?_
    refine lv_aload_n (pc := 22) hx hb dX0_openFor_22 rfl (lv_at hl 0 rfl) ?_
    refine gF_X0_41 (pc := 23) Cx hW (hX 5 _ rfl) rfl dX0_openFor_23 ?_
    refine lv_icmp_ge (pc := 26) (tgt := 52) hx hb dX0_openFor_26 (by decide) (fun c1 => ?_) (fun c1 => ?_)
    · have hf := um_it c1 hf
      clear c1
      cases hf
      exact hE _ _ _ hW hS (lv_sub hl [3] rfl)
    · have hf := um_ie c1 hf
      clear c1
      refine lv_aload_n (pc := 29) hx hb dX0_openFor_29 rfl (lv_at hl 1 rfl) ?_
      refine lv_iload_n (pc := 30) hx hb dX0_openFor_30 rfl (lv_at hl 2 rfl) ?_
      refine lv_iload (pc := 31) hx hb dX0_openFor_31 (lv_at hl 4 rfl) ?_
      obtain ⟨x2, hc1, hf⟩ := um_bi hf
      refine um_cVi (pc := 33) (As := [.int v2, .int v4]) (rest := []) Cx (c_X4_isWantedBy h1 v2 v4 hh1 hX hc1) kV_X4_isWantedBy (Or.inl qM_X0_57) hW hS (xs_shore hX hh1) rfl rfl hl rfl (Nat.le_of_ble_eq_true rfl) (Nat.le_of_ble_eq_true rfl) (Nat.le_of_ble_eq_true rfl) dX0_openFor_33 (Nat.le_refl _) (Nat.le_refl _) ?_
      clear hW hS hc1
      intro H locs hW hS
      refine lv_if_eq (pc := 36) (tgt := 46) hx hb dX0_openFor_36 (by decide) (fun c1 => ?_) (fun c1 => ?_)
      · have hf := um_it c1 hf
        clear c1
        refine lv_iinc (pc := 46) (v := v4 + (1 : Int32)) (lv' := [(4, .int (v4 + (1 : Int32))), (0, .ref (α 5)), (1, .ref (α h1)), (2, .int v2), (3, .int v3)]) hx hb dX0_openFor_46 hl (k := 4) rfl rfl (by decide) rfl ?_
        clear hl
        intro ls hl
        refine lv_goto (pc := 49) (tgt := 20) hx hb dX0_openFor_49 (by decide) ?_
        exact ih _ _ _ _ _ hf hW hS (lv_sub hl [1, 2, 3, 4, 0] rfl)
      · have hf := um_ie c1 hf
        clear c1
        refine lv_iload_n (pc := 39) hx hb dX0_openFor_39 rfl (lv_at hl 3 rfl) ?_
        refine lv_iconst (pc := 40) (v := (1 : Int32)) hx hb dX0_openFor_40 (by decide) ?_
        refine lv_iload (pc := 41) hx hb dX0_openFor_41 (lv_at hl 4 rfl) ?_
        refine lv_ishl (pc := 43) hx hb dX0_openFor_43 ?_
        refine lv_ior (pc := 44) hx hb dX0_openFor_44 ?_
        obtain ⟨x3, e4, hf⟩ := um_le hf
        refine um_top e4 ?_
        clear e4
        refine lv_istore_n (pc := 45) (lv' := [(3, .int x3), (0, .ref (α 5)), (1, .ref (α h1)), (2, .int v2), (4, .int v4)]) hx hb dX0_openFor_45 rfl hl (by decide) rfl ?_
        clear hl
        intro ls hl
        refine lv_iinc (pc := 46) (v := v4 + (1 : Int32)) (lv' := [(4, .int (v4 + (1 : Int32))), (3, .int x3), (0, .ref (α 5)), (1, .ref (α h1)), (2, .int v2)]) hx hb dX0_openFor_46 hl (k := 4) rfl rfl (by decide) rfl ?_
        clear hl
        intro ls hl
        refine lv_goto (pc := 49) (tgt := 20) hx hb dX0_openFor_49 (by decide) ?_
        exact ih _ _ _ _ _ hf hW hS (lv_sub hl [2, 3, 4, 1, 0] rfl)
set_option maxRecDepth 100000 in
set_option maxHeartbeats 4000000 in
theorem b_X0_openFor {H : Heap} {locs : List Loc} {ls : Array Slot} {σ : um_S} {r : Int32} (h1 : Nat) (a2 : Int32) (hh1 : um_h h1) (hX : um_X sh) (hf : f_X0_openFor h1 a2 σ = some r) (Cx : um_C p s m meth c args cX0_openFor 5 (some FieldType.int) RX0 Z) (hW : um_W Z sh α σ H) (hS : va_S (um_D sh α) s.heap H locs) (hl : lv_has ls 5 [(0, .ref (α 5)), (1, .ref (α h1)), (2, .int a2)]) : um_G p l e (4) (85) s m args below meth c Z sh α σ (some (.int r)) H locs (F0 m 0 ls []) := by
  have hx := Cx.1
  have hb := Cx.2.1
  have hown := Cx.2.2.2.2.1
  have hts := Cx.2.2.2.2.2.1
  rw [f_X0_openFor] at hf
  refine lv_aload_n (pc := 0) hx hb dX0_openFor_0 rfl (lv_at hl 1 rfl) ?_
  refine gF_X0_18 (pc := 1) Cx hW (xs_shore hX hh1) rfl dX0_openFor_1 ?_
  refine lv_iload_n (pc := 4) hx hb dX0_openFor_4 rfl (lv_at hl 2 rfl) ?_
  refine lv_iconst (pc := 5) (v := (5 : Int32)) hx hb dX0_openFor_5 (by decide) ?_
  obtain ⟨x2, hc1, hf⟩ := um_bi hf
  refine um_cVi (pc := 6) (As := [.int a2, .int (5 : Int32)]) (rest := []) Cx (c_X5_get (20 * h1 + 1) a2 (5 : Int32) (xs_ht hh1 1 rfl) hX hc1) kV_X5_get (Or.inl qM_X0_54) hW hS (xs_tab hX (xs_ht hh1 1 rfl)) rfl rfl hl rfl (Nat.le_of_ble_eq_true rfl) (Nat.le_of_ble_eq_true rfl) (Nat.le_of_ble_eq_true rfl) dX0_openFor_6 (Nat.le_refl _) (Nat.le_refl _) ?_
  clear hW hS hc1
  intro H locs hW hS
  refine lv_iconst (pc := 9) (v := (1 : Int32)) hx hb dX0_openFor_9 (by decide) ?_
  refine lv_icmp_eq (pc := 10) (tgt := 15) hx hb dX0_openFor_10 (by decide) (fun c1 => ?_) (fun c1 => ?_)
  · have hf := um_it c1 hf
    clear c1
    refine lv_iconst (pc := 15) (v := (0 : Int32)) hx hb dX0_openFor_15 (by decide) ?_
    refine lv_istore_n (pc := 16) (lv' := [(3, .int (0 : Int32)), (0, .ref (α 5)), (1, .ref (α h1)), (2, .int a2)]) hx hb dX0_openFor_16 rfl hl (by decide) rfl ?_
    clear hl
    intro ls hl
    refine lv_iconst (pc := 17) (v := (0 : Int32)) hx hb dX0_openFor_17 (by decide) ?_
    refine lv_istore (pc := 18) (lv' := [(4, .int (0 : Int32)), (3, .int (0 : Int32)), (0, .ref (α 5)), (1, .ref (α h1)), (2, .int a2)]) hx hb dX0_openFor_18 hl (by decide) rfl ?_
    clear hl
    intro ls hl
    obtain ⟨x3, hc4, hf⟩ := um_bi hf
    refine t_X0_openFor_l20 h1 a2 hh1 hX Cx ?_ um_N _ _ _ _ _ hc4 hW hS (lv_sub hl [2, 3, 4, 1, 0] rfl)
    clear hW hS hl hc4
    intro H locs ls hW hS hl
    refine lv_iload_n (pc := 52) hx hb dX0_openFor_52 rfl (lv_at hl 0 rfl) ?_
    exact um_iretR (pc := 53) Cx hW hS hf dX0_openFor_53
  · have hf := um_ie c1 hf
    clear c1
    refine lv_iconst (pc := 13) (v := (0 : Int32)) hx hb dX0_openFor_13 (by decide) ?_
    exact um_iretR (pc := 14) Cx hW hS hf dX0_openFor_14
theorem c_X0_openFor {σ : um_S} {r : Int32} (h1 : Nat) (a2 : Int32) (hh1 : um_h h1) (hX : um_X sh) (hf : f_X0_openFor h1 a2 σ = some r) : um_M l yX0_openFor cX0_openFor 5 (some FieldType.int) (4) (85) Z sh α σ [.ref (α 5), .ref (α h1), .int a2] (some (.int r)) σ :=
  um_start (by decide) (Nat.le_of_ble_eq_true rfl) (fun p e s m below meth c ls Cx hW hS hl => b_X0_openFor h1 a2 hh1 hX hf Cx hW hS hl)
noncomputable def f_X4_isDead (h0 : Nat) (a1 : Int32) (σ : um_S) : Option (Bool) :=
    (f_X5_get (20 * h0 + 1) a1 (11 : Int32) σ).bind fun x2 =>
    (if x2 = (1 : Int32) then
    (some true)
    else
    (some false))
set_option maxRecDepth 100000 in
set_option maxHeartbeats 4000000 in
theorem b_X4_isDead {H : Heap} {locs : List Loc} {ls : Array Slot} {σ : um_S} {r : Bool} (h0 : Nat) (a1 : Int32) (hh0 : um_h h0) (hX : um_X sh) (hf : f_X4_isDead h0 a1 σ = some r) (Cx : um_C p s m meth c args cX4_isDead 2 (some FieldType.boolean) RX4 Z) (hW : um_W Z sh α σ H) (hS : va_S (um_D sh α) s.heap H locs) (hl : lv_has ls 2 [(0, .ref (α h0)), (1, .int a1)]) : um_G p l e (1) (24) s m args below meth c Z sh α σ (some (.int (um_b r))) H locs (F0 m 0 ls []) := by
  have hx := Cx.1
  have hb := Cx.2.1
  have hown := Cx.2.2.2.2.1
  have hts := Cx.2.2.2.2.2.1
  rw [f_X4_isDead] at hf
  refine lv_aload_n (pc := 0) hx hb dX4_isDead_0 rfl (lv_at hl 0 rfl) ?_
  refine gF_X4_20 (pc := 1) Cx hW (xs_shore hX hh0) rfl dX4_isDead_1 ?_
  refine lv_iload_n (pc := 4) hx hb dX4_isDead_4 rfl (lv_at hl 1 rfl) ?_
  refine lv_bipush (pc := 5) (v := (11 : Int32)) hx hb dX4_isDead_5 (by decide) ?_
  obtain ⟨x2, hc1, hf⟩ := um_bi hf
  refine um_cVi (pc := 7) (As := [.int a1, .int (11 : Int32)]) (rest := []) Cx (c_X5_get (20 * h0 + 1) a1 (11 : Int32) (xs_ht hh0 1 rfl) hX hc1) kV_X5_get (Or.inl qM_X4_82) hW hS (xs_tab hX (xs_ht hh0 1 rfl)) rfl rfl hl rfl (Nat.le_of_ble_eq_true rfl) (Nat.le_of_ble_eq_true rfl) (Nat.le_of_ble_eq_true rfl) dX4_isDead_7 (Nat.le_refl _) (Nat.le_refl _) ?_
  clear hW hS hc1
  intro H locs hW hS
  refine lv_iconst (pc := 10) (v := (1 : Int32)) hx hb dX4_isDead_10 (by decide) ?_
  refine lv_icmp_ne (pc := 11) (tgt := 18) hx hb dX4_isDead_11 (by decide) (fun c1 => ?_) (fun c1 => ?_)
  · have hf := um_ie c1 hf
    clear c1
    refine lv_iconst (pc := 18) (v := (0 : Int32)) hx hb dX4_isDead_18 (by decide) ?_
    exact um_zretR (pc := 19) Cx hW hS hf rfl dX4_isDead_19
  · have hf := um_it c1 hf
    clear c1
    refine lv_iconst (pc := 14) (v := (1 : Int32)) hx hb dX4_isDead_14 (by decide) ?_
    refine lv_goto (pc := 15) (tgt := 19) hx hb dX4_isDead_15 (by decide) ?_
    exact um_zretR (pc := 19) Cx hW hS hf rfl dX4_isDead_19
theorem c_X4_isDead {σ : um_S} {r : Bool} (h0 : Nat) (a1 : Int32) (hh0 : um_h h0) (hX : um_X sh) (hf : f_X4_isDead h0 a1 σ = some r) : um_M l yX4_isDead cX4_isDead 2 (some FieldType.boolean) (1) (24) Z sh α σ [.ref (α h0), .int a1] (some (.int (um_b r))) σ :=
  um_start (by decide) (Nat.le_of_ble_eq_true rfl) (fun p e s m below meth c ls Cx hW hS hl => b_X4_isDead h0 a1 hh0 hX hf Cx hW hS hl)
noncomputable def f_X4_assignedTo_l4 (h0 : Nat) (v1 : Int32) (σ : um_S) : Nat → Int32 → Int32 → Option (Int32)
  | 0, _, _ => none
  | n + 1, v2, v3 =>
    if (σ.1 (20 * h0 + 1) 2) ≤ v3 then
    (some v2)
    else
    ((f_X5_get (20 * h0 + 1) v3 (5 : Int32) σ).bind fun x2 =>
    (um_let (fun (x4 : Int32) =>
    (if x4 = 0 then
    (f_X4_assignedTo_l4 h0 v1 σ n v2 (v3 + (1 : Int32)))
    else
    ((f_X4_isDead h0 v3 σ).bind fun x6 =>
    (if (um_b x6) = 0 then
    (f_X4_assignedTo_l4 h0 v1 σ n (v2 + (1 : Int32)) (v3 + (1 : Int32)))
    else
    (f_X4_assignedTo_l4 h0 v1 σ n v2 (v3 + (1 : Int32))))))) fun k3 =>
    (um_let (fun (_u : Unit) =>
    (k3 (0 : Int32))) fun k7 =>
    (if x2 = (2 : Int32) then
    ((f_X5_get (20 * h0 + 1) v3 (6 : Int32) σ).bind fun x9 =>
    (if x9 = v1 then
    (k3 (1 : Int32))
    else
    (k7 ())))
    else
    (k7 ())))))
noncomputable def f_X4_assignedTo (h0 : Nat) (a1 : Int32) (σ : um_S) : Option (Int32) :=
    (f_X4_assignedTo_l4 h0 a1 σ um_N (0 : Int32) (0 : Int32)).bind fun x1 =>
    (some x1)
set_option maxRecDepth 100000 in
set_option maxHeartbeats 4000000 in
theorem t_X4_assignedTo_l4 {Q : State → Prop} {o2 : Int32} {σ : um_S} (h0 : Nat) (v1 : Int32) (hh0 : um_h h0) (hX : um_X sh) (Cx : um_C p s m meth c args cX4_assignedTo 5 (some FieldType.int) RX4 Z) (hE : ∀ (H : Heap) (locs : List Loc) (ls : Array Slot), um_W Z sh α σ H → va_S (um_D sh α) s.heap H locs → lv_has ls 5 [(2, .int o2)] → W p l e { frames := 2, cells := 0, slots := 0, locals := 45 } s m args below meth c H locs 0 0 Q (F0 m 71 ls [])) : ∀ (n : Nat) (v2 : Int32) (v3 : Int32) (H : Heap) (locs : List Loc) (ls : Array Slot), f_X4_assignedTo_l4 h0 v1 σ n v2 v3 = some o2 → um_W Z sh α σ H → va_S (um_D sh α) s.heap H locs → lv_has ls 5 [(0, .ref (α h0)), (1, .int v1), (2, .int v2), (3, .int v3)] → W p l e { frames := 2, cells := 0, slots := 0, locals := 45 } s m args below meth c H locs 0 0 Q (F0 m 4 ls []) := by
  have hx := Cx.1
  have hb := Cx.2.1
  have hown := Cx.2.2.2.2.1
  have hts := Cx.2.2.2.2.2.1
  intro n
  induction n with
  | zero =>
    intro v2 v3 H locs ls hf hW hS hl
    cases hf
  | succ n ih =>
    intro v2 v3 H locs ls hf hW hS hl
    rw [f_X4_assignedTo_l4] at hf
    refine lv_iload_n (pc := 4) hx hb dX4_assignedTo_4 rfl (lv_at hl 3 rfl) ?_
    refine lv_aload_n (pc := 5) hx hb dX4_assignedTo_5 rfl (lv_at hl 0 rfl) ?_
    refine gF_X4_20 (pc := 6) Cx hW (xs_shore hX hh0) rfl dX4_assignedTo_6 ?_
    refine gF_X4_100 (pc := 9) Cx hW (xs_tab hX (xs_ht hh0 1 rfl)) rfl dX4_assignedTo_9 ?_
    refine lv_icmp_ge (pc := 12) (tgt := 71) hx hb dX4_assignedTo_12 (by decide) (fun c1 => ?_) (fun c1 => ?_)
    · have hf := um_it c1 hf
      clear c1
      cases hf
      exact hE _ _ _ hW hS (lv_sub hl [2] rfl)
    · have hf := um_ie c1 hf
      clear c1
      refine lv_aload_n (pc := 15) hx hb dX4_assignedTo_15 rfl (lv_at hl 0 rfl) ?_
      refine gF_X4_20 (pc := 16) Cx hW (xs_shore hX hh0) rfl dX4_assignedTo_16 ?_
      refine lv_iload_n (pc := 19) hx hb dX4_assignedTo_19 rfl (lv_at hl 3 rfl) ?_
      refine lv_iconst (pc := 20) (v := (5 : Int32)) hx hb dX4_assignedTo_20 (by decide) ?_
      obtain ⟨x2, hc1, hf⟩ := um_bi hf
      refine um_cVi (pc := 21) (As := [.int v3, .int (5 : Int32)]) (rest := []) Cx (c_X5_get (20 * h0 + 1) v3 (5 : Int32) (xs_ht hh0 1 rfl) hX hc1) kV_X5_get (Or.inl qM_X4_82) hW hS (xs_tab hX (xs_ht hh0 1 rfl)) rfl rfl hl rfl (Nat.le_of_ble_eq_true rfl) (Nat.le_of_ble_eq_true rfl) (Nat.le_of_ble_eq_true rfl) dX4_assignedTo_21 (Nat.le_refl _) (Nat.le_refl _) ?_
      clear hW hS hc1
      intro H locs hW hS
      refine lv_iconst (pc := 24) (v := (2 : Int32)) hx hb dX4_assignedTo_24 (by decide) ?_
      obtain ⟨k3, hk3, hf⟩ := um_j1 hf
      have J3 : ∀ (x4 : Int32), k3 x4 = some o2 → ∀ (H : Heap) (locs : List Loc) (ls : Array Slot), um_W Z sh α σ H → va_S (um_D sh α) s.heap H locs → lv_has ls 5 [(0, .ref (α h0)), (1, .int v1), (2, .int v2), (3, .int v3)] → W p l e { frames := 2, cells := 0, slots := 0, locals := 45 } s m args below meth c H locs 0 0 Q (F0 m 47 ls [.int x4]) := by
        intro x4 hf H locs ls hW hS hl
        rw [hk3] at hf
        refine lv_istore (pc := 47) (lv' := [(4, .int x4), (0, .ref (α h0)), (1, .int v1), (2, .int v2), (3, .int v3)]) hx hb dX4_assignedTo_47 hl (by decide) rfl ?_
        clear hl
        intro ls hl
        refine lv_iload (pc := 49) hx hb dX4_assignedTo_49 (lv_at hl 0 rfl) ?_
        refine lv_if_eq (pc := 51) (tgt := 65) hx hb dX4_assignedTo_51 (by decide) (fun c1 => ?_) (fun c1 => ?_)
        · have hf := um_it c1 hf
          clear c1
          refine lv_iinc (pc := 65) (v := v3 + (1 : Int32)) (lv' := [(3, .int (v3 + (1 : Int32))), (4, .int x4), (0, .ref (α h0)), (1, .int v1), (2, .int v2)]) hx hb dX4_assignedTo_65 hl (k := 4) rfl rfl (by decide) rfl ?_
          clear hl
          intro ls hl
          refine lv_goto (pc := 68) (tgt := 4) hx hb dX4_assignedTo_68 (by decide) ?_
          exact ih _ _ _ _ _ hf hW hS (lv_sub hl [2, 3, 4, 0] rfl)
        · have hf := um_ie c1 hf
          clear c1
          refine lv_aload_n (pc := 54) hx hb dX4_assignedTo_54 rfl (lv_at hl 1 rfl) ?_
          refine lv_iload_n (pc := 55) hx hb dX4_assignedTo_55 rfl (lv_at hl 4 rfl) ?_
          obtain ⟨x6, hc5, hf⟩ := um_bi hf
          refine um_cVi (pc := 56) (As := [.int v3]) (rest := []) Cx (c_X4_isDead h0 v3 hh0 hX hc5) kV_X4_isDead (Or.inl qM_X4_86) hW hS (xs_shore hX hh0) rfl rfl hl rfl (Nat.le_of_ble_eq_true rfl) (Nat.le_of_ble_eq_true rfl) (Nat.le_of_ble_eq_true rfl) dX4_assignedTo_56 (Nat.le_refl _) (Nat.le_refl _) ?_
          clear hW hS hc5
          intro H locs hW hS
          refine lv_if_ne (pc := 59) (tgt := 65) hx hb dX4_assignedTo_59 (by decide) (fun c1 => ?_) (fun c1 => ?_)
          · have hf := um_ie c1 hf
            clear c1
            refine lv_iinc (pc := 65) (v := v3 + (1 : Int32)) (lv' := [(3, .int (v3 + (1 : Int32))), (4, .int x4), (0, .ref (α h0)), (1, .int v1), (2, .int v2)]) hx hb dX4_assignedTo_65 hl (k := 4) rfl rfl (by decide) rfl ?_
            clear hl
            intro ls hl
            refine lv_goto (pc := 68) (tgt := 4) hx hb dX4_assignedTo_68 (by decide) ?_
            exact ih _ _ _ _ _ hf hW hS (lv_sub hl [2, 3, 4, 0] rfl)
          · have hf := um_it c1 hf
            clear c1
            refine lv_iinc (pc := 62) (v := v2 + (1 : Int32)) (lv' := [(2, .int (v2 + (1 : Int32))), (4, .int x4), (0, .ref (α h0)), (1, .int v1), (3, .int v3)]) hx hb dX4_assignedTo_62 hl (k := 3) rfl rfl (by decide) rfl ?_
            clear hl
            intro ls hl
            refine lv_iinc (pc := 65) (v := v3 + (1 : Int32)) (lv' := [(3, .int (v3 + (1 : Int32))), (2, .int (v2 + (1 : Int32))), (4, .int x4), (0, .ref (α h0)), (1, .int v1)]) hx hb dX4_assignedTo_65 hl (k := 4) rfl rfl (by decide) rfl ?_
            clear hl
            intro ls hl
            refine lv_goto (pc := 68) (tgt := 4) hx hb dX4_assignedTo_68 (by decide) ?_
            exact ih _ _ _ _ _ hf hW hS (lv_sub hl [3, 4, 1, 0] rfl)
      obtain ⟨k7, hk7, hf⟩ := um_j1 hf
      have J7 : ∀ (_u : Unit), k7 _u = some o2 → ∀ (H : Heap) (locs : List Loc) (ls : Array Slot), um_W Z sh α σ H → va_S (um_D sh α) s.heap H locs → lv_has ls 5 [(0, .ref (α h0)), (1, .int v1), (2, .int v2), (3, .int v3)] → W p l e { frames := 2, cells := 0, slots := 0, locals := 45 } s m args below meth c H locs 0 0 Q (F0 m 46 ls []) := by
        intro _u hf H locs ls hW hS hl
        rw [hk7] at hf
        refine lv_iconst (pc := 46) (v := (0 : Int32)) hx hb dX4_assignedTo_46 (by decide) ?_
        exact J3 (0 : Int32) hf _ _ _ hW hS hl
      refine lv_icmp_ne (pc := 25) (tgt := 46) hx hb dX4_assignedTo_25 (by decide) (fun c1 => ?_) (fun c1 => ?_)
      · have hf := um_ie c1 hf
        clear c1
        exact J7 () hf _ _ _ hW hS hl
      · have hf := um_it c1 hf
        clear c1
        refine lv_aload_n (pc := 28) hx hb dX4_assignedTo_28 rfl (lv_at hl 0 rfl) ?_
        refine gF_X4_20 (pc := 29) Cx hW (xs_shore hX hh0) rfl dX4_assignedTo_29 ?_
        refine lv_iload_n (pc := 32) hx hb dX4_assignedTo_32 rfl (lv_at hl 3 rfl) ?_
        refine lv_bipush (pc := 33) (v := (6 : Int32)) hx hb dX4_assignedTo_33 (by decide) ?_
        obtain ⟨x9, hc8, hf⟩ := um_bi hf
        refine um_cVi (pc := 35) (As := [.int v3, .int (6 : Int32)]) (rest := []) Cx (c_X5_get (20 * h0 + 1) v3 (6 : Int32) (xs_ht hh0 1 rfl) hX hc8) kV_X5_get (Or.inl qM_X4_82) hW hS (xs_tab hX (xs_ht hh0 1 rfl)) rfl rfl hl rfl (Nat.le_of_ble_eq_true rfl) (Nat.le_of_ble_eq_true rfl) (Nat.le_of_ble_eq_true rfl) dX4_assignedTo_35 (Nat.le_refl _) (Nat.le_refl _) ?_
        clear hW hS hc8
        intro H locs hW hS
        refine lv_iload_n (pc := 38) hx hb dX4_assignedTo_38 rfl (lv_at hl 1 rfl) ?_
        refine lv_icmp_ne (pc := 39) (tgt := 46) hx hb dX4_assignedTo_39 (by decide) (fun c1 => ?_) (fun c1 => ?_)
        · have hf := um_ie c1 hf
          clear c1
          exact J7 () hf _ _ _ hW hS hl
        · have hf := um_it c1 hf
          clear c1
          refine lv_iconst (pc := 42) (v := (1 : Int32)) hx hb dX4_assignedTo_42 (by decide) ?_
          refine lv_goto (pc := 43) (tgt := 47) hx hb dX4_assignedTo_43 (by decide) ?_
          exact J3 (1 : Int32) hf _ _ _ hW hS hl
set_option maxRecDepth 100000 in
set_option maxHeartbeats 4000000 in
theorem b_X4_assignedTo {H : Heap} {locs : List Loc} {ls : Array Slot} {σ : um_S} {r : Int32} (h0 : Nat) (a1 : Int32) (hh0 : um_h h0) (hX : um_X sh) (hf : f_X4_assignedTo h0 a1 σ = some r) (Cx : um_C p s m meth c args cX4_assignedTo 5 (some FieldType.int) RX4 Z) (hW : um_W Z sh α σ H) (hS : va_S (um_D sh α) s.heap H locs) (hl : lv_has ls 5 [(0, .ref (α h0)), (1, .int a1)]) : um_G p l e (2) (45) s m args below meth c Z sh α σ (some (.int r)) H locs (F0 m 0 ls []) := by
  have hx := Cx.1
  have hb := Cx.2.1
  have hown := Cx.2.2.2.2.1
  have hts := Cx.2.2.2.2.2.1
  rw [f_X4_assignedTo] at hf
  refine lv_iconst (pc := 0) (v := (0 : Int32)) hx hb dX4_assignedTo_0 (by decide) ?_
  refine lv_istore_n (pc := 1) (lv' := [(2, .int (0 : Int32)), (0, .ref (α h0)), (1, .int a1)]) hx hb dX4_assignedTo_1 rfl hl (by decide) rfl ?_
  clear hl
  intro ls hl
  refine lv_iconst (pc := 2) (v := (0 : Int32)) hx hb dX4_assignedTo_2 (by decide) ?_
  refine lv_istore_n (pc := 3) (lv' := [(3, .int (0 : Int32)), (2, .int (0 : Int32)), (0, .ref (α h0)), (1, .int a1)]) hx hb dX4_assignedTo_3 rfl hl (by decide) rfl ?_
  clear hl
  intro ls hl
  obtain ⟨x1, hc2, hf⟩ := um_bi hf
  refine t_X4_assignedTo_l4 h0 a1 hh0 hX Cx ?_ um_N _ _ _ _ _ hc2 hW hS (lv_sub hl [2, 3, 1, 0] rfl)
  clear hW hS hl hc2
  intro H locs ls hW hS hl
  refine lv_iload_n (pc := 71) hx hb dX4_assignedTo_71 rfl (lv_at hl 0 rfl) ?_
  exact um_iretR (pc := 72) Cx hW hS hf dX4_assignedTo_72
theorem c_X4_assignedTo {σ : um_S} {r : Int32} (h0 : Nat) (a1 : Int32) (hh0 : um_h h0) (hX : um_X sh) (hf : f_X4_assignedTo h0 a1 σ = some r) : um_M l yX4_assignedTo cX4_assignedTo 5 (some FieldType.int) (2) (45) Z sh α σ [.ref (α h0), .int a1] (some (.int r)) σ :=
  um_start (by decide) (Nat.le_of_ble_eq_true rfl) (fun p e s m below meth c ls Cx hW hS hl => b_X4_assignedTo h0 a1 hh0 hX hf Cx hW hS hl)
noncomputable def f_X4_freeHands (h0 : Nat) (a1 : Int32) (σ : um_S) : Option (Int32) :=
    (f_X5_get (20 * h0 + 2) a1 (2 : Int32) σ).bind fun x2 =>
    ((f_X4_assignedTo h0 a1 σ).bind fun x4 =>
    (some (x2 - x4)))
set_option maxRecDepth 100000 in
set_option maxHeartbeats 4000000 in
theorem b_X4_freeHands {H : Heap} {locs : List Loc} {ls : Array Slot} {σ : um_S} {r : Int32} (h0 : Nat) (a1 : Int32) (hh0 : um_h h0) (hX : um_X sh) (hf : f_X4_freeHands h0 a1 σ = some r) (Cx : um_C p s m meth c args cX4_freeHands 2 (some FieldType.int) RX4 Z) (hW : um_W Z sh α σ H) (hS : va_S (um_D sh α) s.heap H locs) (hl : lv_has ls 2 [(0, .ref (α h0)), (1, .int a1)]) : um_G p l e (3) (69) s m args below meth c Z sh α σ (some (.int r)) H locs (F0 m 0 ls []) := by
  have hx := Cx.1
  have hb := Cx.2.1
  have hown := Cx.2.2.2.2.1
  have hts := Cx.2.2.2.2.2.1
  rw [f_X4_freeHands] at hf
  refine lv_aload_n (pc := 0) hx hb dX4_freeHands_0 rfl (lv_at hl 0 rfl) ?_
  refine gF_X4_23 (pc := 1) Cx hW (xs_shore hX hh0) rfl dX4_freeHands_1 ?_
  refine lv_iload_n (pc := 4) hx hb dX4_freeHands_4 rfl (lv_at hl 1 rfl) ?_
  refine lv_iconst (pc := 5) (v := (2 : Int32)) hx hb dX4_freeHands_5 (by decide) ?_
  obtain ⟨x2, hc1, hf⟩ := um_bi hf
  refine um_cVi (pc := 6) (As := [.int a1, .int (2 : Int32)]) (rest := []) Cx (c_X5_get (20 * h0 + 2) a1 (2 : Int32) (xs_ht hh0 2 rfl) hX hc1) kV_X5_get (Or.inl qM_X4_82) hW hS (xs_tab hX (xs_ht hh0 2 rfl)) rfl rfl hl rfl (Nat.le_of_ble_eq_true rfl) (Nat.le_of_ble_eq_true rfl) (Nat.le_of_ble_eq_true rfl) dX4_freeHands_6 (Nat.le_refl _) (Nat.le_refl _) ?_
  clear hW hS hc1
  intro H locs hW hS
  refine lv_aload_n (pc := 9) hx hb dX4_freeHands_9 rfl (lv_at hl 0 rfl) ?_
  refine lv_iload_n (pc := 10) hx hb dX4_freeHands_10 rfl (lv_at hl 1 rfl) ?_
  obtain ⟨x4, hc3, hf⟩ := um_bi hf
  refine um_cVi (pc := 11) (As := [.int a1]) (rest := [.int x2]) Cx (c_X4_assignedTo h0 a1 hh0 hX hc3) kV_X4_assignedTo (Or.inl qM_X4_106) hW hS (xs_shore hX hh0) rfl rfl hl rfl (Nat.le_of_ble_eq_true rfl) (Nat.le_of_ble_eq_true rfl) (Nat.le_of_ble_eq_true rfl) dX4_freeHands_11 (Nat.le_refl _) (Nat.le_refl _) ?_
  clear hW hS hc3
  intro H locs hW hS
  refine lv_isub (pc := 14) hx hb dX4_freeHands_14 ?_
  exact um_iretR (pc := 15) Cx hW hS hf dX4_freeHands_15
theorem c_X4_freeHands {σ : um_S} {r : Int32} (h0 : Nat) (a1 : Int32) (hh0 : um_h h0) (hX : um_X sh) (hf : f_X4_freeHands h0 a1 σ = some r) : um_M l yX4_freeHands cX4_freeHands 2 (some FieldType.int) (3) (69) Z sh α σ [.ref (α h0), .int a1] (some (.int r)) σ :=
  um_start (by decide) (Nat.le_of_ble_eq_true rfl) (fun p e s m below meth c ls Cx hW hS hl => b_X4_freeHands h0 a1 hh0 hX hf Cx hW hS hl)
noncomputable def f_X0_ask_l40 (h1 : Nat) : Nat → Int32 → um_S → Option (um_S)
  | 0, _, _ => none
  | n + 1, v2, σ =>
    if (σ.1 5 3) ≤ v2 then
    (some σ)
    else
    ((f_X4_freeHands h1 v2 σ).bind fun x2 =>
    (if um_ix v2 6 then
    (um_let (um_wr σ 12 v2.toNatClampNeg (if (0 : Int32) < x2 then x2 else (0 : Int32))) fun σ4 =>
    (f_X0_ask_l40 h1 n (v2 + (1 : Int32)) σ4)) else none))
noncomputable def f_X0_ask_l71 (h1 : Nat) : Nat → Int32 → um_S → Option (um_S)
  | 0, _, _ => none
  | n + 1, v2, σ =>
    if (σ.1 5 2) ≤ v2 then
    (some σ)
    else
    ((f_X0_openFor h1 v2 σ).bind fun x2 =>
    (if um_ix v2 14 then
    (um_let (um_wr σ 11 v2.toNatClampNeg x2) fun σ4 =>
    (f_X0_ask_l71 h1 n (v2 + (1 : Int32)) σ4)) else none))
noncomputable def f_X0_ask (h1 : Nat) (σ : um_S) : Option (um_S) :=
    um_let (um_wr σ 5 2 (if (nI 14) < (σ.1 (20 * h1 + 1) 2) then (nI 14) else (σ.1 (20 * h1 + 1) 2))) fun σ1 =>
    (um_let (um_wr σ1 5 3 (if (nI 6) < (σ1.1 (20 * h1 + 2) 2) then (nI 6) else (σ1.1 (20 * h1 + 2) 2))) fun σ3 =>
    ((f_X0_ask_l40 h1 um_N (0 : Int32) σ3).bind fun σ5 =>
    ((f_X0_ask_l71 h1 um_N (0 : Int32) σ5).bind fun σ7 =>
    (some σ7))))
set_option maxRecDepth 100000 in
set_option maxHeartbeats 4000000 in
theorem t_X0_ask_l40 {Q : State → Prop} {σo : um_S} (h1 : Nat) (hh1 : um_h h1) (hX : um_X sh) (Cx : um_C p s m meth c args cX0_ask 3 none RX0 Z) (hE : ∀ (H : Heap) (locs : List Loc) (ls : Array Slot), um_W Z sh α σo H → va_S (um_D sh α) s.heap H locs → lv_has ls 3 [(0, .ref (α 5)), (1, .ref (α h1))] → W p l e { frames := 5, cells := 0, slots := 0, locals := 109 } s m args below meth c H locs 0 0 Q (F0 m 69 ls [])) : ∀ (n : Nat) (v2 : Int32) (σ : um_S) (H : Heap) (locs : List Loc) (ls : Array Slot), f_X0_ask_l40 h1 n v2 σ = some σo → um_W Z sh α σ H → va_S (um_D sh α) s.heap H locs → lv_has ls 3 [(0, .ref (α 5)), (1, .ref (α h1)), (2, .int v2)] → W p l e { frames := 5, cells := 0, slots := 0, locals := 109 } s m args below meth c H locs 0 0 Q (F0 m 40 ls []) := by
  have hx := Cx.1
  have hb := Cx.2.1
  have hown := Cx.2.2.2.2.1
  have hts := Cx.2.2.2.2.2.1
  intro n
  induction n with
  | zero =>
    intro v2 σ H locs ls hf hW hS hl
    cases hf
  | succ n ih =>
    intro v2 σ H locs ls hf hW hS hl
    rw [f_X0_ask_l40] at hf
    refine lv_iload_n (pc := 40) hx hb dX0_ask_40 rfl (lv_at hl 2 rfl) ?_
    refine lv_aload_n (pc := 41) hx hb dX0_ask_41 rfl (lv_at hl 0 rfl) ?_
    refine gF_X0_41 (pc := 42) Cx hW (hX 5 _ rfl) rfl dX0_ask_42 ?_
    refine lv_icmp_ge (pc := 45) (tgt := 69) hx hb dX0_ask_45 (by decide) (fun c1 => ?_) (fun c1 => ?_)
    · have hf := um_it c1 hf
      clear c1
      cases hf
      exact hE _ _ _ hW hS (lv_sub hl [0, 1] rfl)
    · have hf := um_ie c1 hf
      clear c1
      refine lv_aload_n (pc := 48) hx hb dX0_ask_48 rfl (lv_at hl 0 rfl) ?_
      refine gF_X0_15 (pc := 49) Cx hW (hX 5 _ rfl) rfl dX0_ask_49 ?_
      refine lv_iload_n (pc := 52) hx hb dX0_ask_52 rfl (lv_at hl 2 rfl) ?_
      refine lv_iconst (pc := 53) (v := (0 : Int32)) hx hb dX0_ask_53 (by decide) ?_
      refine lv_aload_n (pc := 54) hx hb dX0_ask_54 rfl (lv_at hl 1 rfl) ?_
      refine lv_iload_n (pc := 55) hx hb dX0_ask_55 rfl (lv_at hl 2 rfl) ?_
      obtain ⟨x2, hc1, hf⟩ := um_bi hf
      refine um_cVi (pc := 56) (As := [.int v2]) (rest := [.int (0 : Int32), .int v2, .ref (α 12)]) Cx (c_X4_freeHands h1 v2 hh1 hX hc1) kV_X4_freeHands (Or.inl qM_X0_43) hW hS (xs_shore hX hh1) rfl rfl hl rfl (Nat.le_of_ble_eq_true rfl) (Nat.le_of_ble_eq_true rfl) (Nat.le_of_ble_eq_true rfl) dX0_ask_56 (Nat.le_refl _) (Nat.le_refl _) ?_
      clear hW hS hc1
      intro H locs hW hS
      refine va_mmax (pc := 59) (rest := [.int v2, .ref (α 12)]) hx hb (Cx.2.2.2.1.trans hl.1.symm) hown (hts _ qM_X0_47) (hts _ qT_J9_max_7cf53) (hts _ qN_J9) (hts _ qK_J9_max_7cf53) (Nat.le_of_ble_eq_true rfl) (Nat.le_of_ble_eq_true rfl) (Nat.le_refl _) (Nat.le_refl _) dX0_ask_59 ?_
      obtain ⟨g3, hf⟩ := um_gu hf
      refine um_iast (pc := 62) Cx hW hS (hX 12 _ rfl) rfl (um_ix_in g3) dX0_ask_62 ?_
      clear hW hS
      intro H locs hW hS
      obtain ⟨σ4, e5, hf⟩ := um_le hf
      rw [← e5] at hW
      clear e5
      refine lv_iinc (pc := 63) (v := v2 + (1 : Int32)) (lv' := [(2, .int (v2 + (1 : Int32))), (0, .ref (α 5)), (1, .ref (α h1))]) hx hb dX0_ask_63 hl (k := 2) rfl rfl (by decide) rfl ?_
      clear hl
      intro ls hl
      refine lv_goto (pc := 66) (tgt := 40) hx hb dX0_ask_66 (by decide) ?_
      exact ih _ _ _ _ _ hf hW hS (lv_sub hl [1, 2, 0] rfl)
set_option maxRecDepth 100000 in
set_option maxHeartbeats 4000000 in
theorem t_X0_ask_l71 {Q : State → Prop} {σo : um_S} (h1 : Nat) (hh1 : um_h h1) (hX : um_X sh) (Cx : um_C p s m meth c args cX0_ask 3 none RX0 Z) (hE : ∀ (H : Heap) (locs : List Loc) (ls : Array Slot), um_W Z sh α σo H → va_S (um_D sh α) s.heap H locs → lv_has ls 3 [] → W p l e { frames := 5, cells := 0, slots := 0, locals := 109 } s m args below meth c H locs 0 0 Q (F0 m 97 ls [])) : ∀ (n : Nat) (v2 : Int32) (σ : um_S) (H : Heap) (locs : List Loc) (ls : Array Slot), f_X0_ask_l71 h1 n v2 σ = some σo → um_W Z sh α σ H → va_S (um_D sh α) s.heap H locs → lv_has ls 3 [(0, .ref (α 5)), (1, .ref (α h1)), (2, .int v2)] → W p l e { frames := 5, cells := 0, slots := 0, locals := 109 } s m args below meth c H locs 0 0 Q (F0 m 71 ls []) := by
  have hx := Cx.1
  have hb := Cx.2.1
  have hown := Cx.2.2.2.2.1
  have hts := Cx.2.2.2.2.2.1
  intro n
  induction n with
  | zero =>
    intro v2 σ H locs ls hf hW hS hl
    cases hf
  | succ n ih =>
    intro v2 σ H locs ls hf hW hS hl
    rw [f_X0_ask_l71] at hf
    refine lv_iload_n (pc := 71) hx hb dX0_ask_71 rfl (lv_at hl 2 rfl) ?_
    refine lv_aload_n (pc := 72) hx hb dX0_ask_72 rfl (lv_at hl 0 rfl) ?_
    refine gF_X0_36 (pc := 73) Cx hW (hX 5 _ rfl) rfl dX0_ask_73 ?_
    refine lv_icmp_ge (pc := 76) (tgt := 97) hx hb dX0_ask_76 (by decide) (fun c1 => ?_) (fun c1 => ?_)
    · have hf := um_it c1 hf
      clear c1
      cases hf
      exact hE _ _ _ hW hS (lv_sub hl [] rfl)
    · have hf := um_ie c1 hf
      clear c1
      refine lv_aload_n (pc := 79) hx hb dX0_ask_79 rfl (lv_at hl 0 rfl) ?_
      refine gF_X0_9 (pc := 80) Cx hW (hX 5 _ rfl) rfl dX0_ask_80 ?_
      refine lv_iload_n (pc := 83) hx hb dX0_ask_83 rfl (lv_at hl 2 rfl) ?_
      refine lv_aload_n (pc := 84) hx hb dX0_ask_84 rfl (lv_at hl 0 rfl) ?_
      refine lv_aload_n (pc := 85) hx hb dX0_ask_85 rfl (lv_at hl 1 rfl) ?_
      refine lv_iload_n (pc := 86) hx hb dX0_ask_86 rfl (lv_at hl 2 rfl) ?_
      obtain ⟨x2, hc1, hf⟩ := um_bi hf
      refine um_cVi (pc := 87) (As := [.ref (α h1), .int v2]) (rest := [.int v2, .ref (α 11)]) Cx (c_X0_openFor h1 v2 hh1 hX hc1) kV_X0_openFor (Or.inl qM_X0_50) hW hS (hX 5 _ rfl) rfl rfl hl rfl (Nat.le_of_ble_eq_true rfl) (Nat.le_of_ble_eq_true rfl) (Nat.le_of_ble_eq_true rfl) dX0_ask_87 (Nat.le_refl _) (Nat.le_refl _) ?_
      clear hW hS hc1
      intro H locs hW hS
      obtain ⟨g3, hf⟩ := um_gu hf
      refine um_iast (pc := 90) Cx hW hS (hX 11 _ rfl) rfl (um_ix_in g3) dX0_ask_90 ?_
      clear hW hS
      intro H locs hW hS
      obtain ⟨σ4, e5, hf⟩ := um_le hf
      rw [← e5] at hW
      clear e5
      refine lv_iinc (pc := 91) (v := v2 + (1 : Int32)) (lv' := [(2, .int (v2 + (1 : Int32))), (0, .ref (α 5)), (1, .ref (α h1))]) hx hb dX0_ask_91 hl (k := 2) rfl rfl (by decide) rfl ?_
      clear hl
      intro ls hl
      refine lv_goto (pc := 94) (tgt := 71) hx hb dX0_ask_94 (by decide) ?_
      exact ih _ _ _ _ _ hf hW hS (lv_sub hl [1, 2, 0] rfl)
set_option maxRecDepth 100000 in
set_option maxHeartbeats 4000000 in
theorem b_X0_ask {H : Heap} {locs : List Loc} {ls : Array Slot} {σ : um_S} {σ' : um_S} (h1 : Nat) (hh1 : um_h h1) (hX : um_X sh) (hf : f_X0_ask h1 σ = some σ') (Cx : um_C p s m meth c args cX0_ask 3 none RX0 Z) (hW : um_W Z sh α σ H) (hS : va_S (um_D sh α) s.heap H locs) (hl : lv_has ls 3 [(0, .ref (α 5)), (1, .ref (α h1))]) : um_G p l e (5) (109) s m args below meth c Z sh α σ' none H locs (F0 m 0 ls []) := by
  have hx := Cx.1
  have hb := Cx.2.1
  have hown := Cx.2.2.2.2.1
  have hts := Cx.2.2.2.2.2.1
  rw [f_X0_ask] at hf
  refine lv_aload_n (pc := 0) hx hb dX0_ask_0 rfl (lv_at hl 0 rfl) ?_
  refine lv_aload_n (pc := 1) hx hb dX0_ask_1 rfl (lv_at hl 1 rfl) ?_
  refine gF_X0_18 (pc := 2) Cx hW (xs_shore hX hh1) rfl dX0_ask_2 ?_
  refine gF_X0_24 (pc := 5) Cx hW (xs_tab hX (xs_ht hh1 1 rfl)) rfl dX0_ask_5 ?_
  refine lv_aload_n (pc := 8) hx hb dX0_ask_8 rfl (lv_at hl 0 rfl) ?_
  refine gF_X0_9 (pc := 9) Cx hW (hX 5 _ rfl) rfl dX0_ask_9 ?_
  refine um_alen (pc := 12) (n := 14) Cx hW (hX 11 _ rfl) rfl (by decide) dX0_ask_12 ?_
  refine va_mmin (pc := 13) (rest := [.ref (α 5)]) hx hb (Cx.2.2.2.1.trans hl.1.symm) hown (hts _ qM_X0_30) (hts _ qT_J9_min_7cf53) (hts _ qN_J9) (hts _ qK_J9_min_7cf53) (Nat.le_of_ble_eq_true rfl) (Nat.le_of_ble_eq_true rfl) (Nat.le_refl _) (Nat.le_refl _) dX0_ask_13 ?_
  refine gP_X0_36 (pc := 16) Cx hW hS (hX 5 _ rfl) rfl dX0_ask_16 ?_
  clear hW hS
  intro H locs hW hS
  obtain ⟨σ1, e2, hf⟩ := um_le hf
  rw [← e2] at hW
  clear e2
  refine lv_aload_n (pc := 19) hx hb dX0_ask_19 rfl (lv_at hl 0 rfl) ?_
  refine lv_aload_n (pc := 20) hx hb dX0_ask_20 rfl (lv_at hl 1 rfl) ?_
  refine gF_X0_38 (pc := 21) Cx hW (xs_shore hX hh1) rfl dX0_ask_21 ?_
  refine gF_X0_24 (pc := 24) Cx hW (xs_tab hX (xs_ht hh1 2 rfl)) rfl dX0_ask_24 ?_
  refine lv_aload_n (pc := 27) hx hb dX0_ask_27 rfl (lv_at hl 0 rfl) ?_
  refine gF_X0_15 (pc := 28) Cx hW (hX 5 _ rfl) rfl dX0_ask_28 ?_
  refine um_alen (pc := 31) (n := 6) Cx hW (hX 12 _ rfl) rfl (by decide) dX0_ask_31 ?_
  refine va_mmin (pc := 32) (rest := [.ref (α 5)]) hx hb (Cx.2.2.2.1.trans hl.1.symm) hown (hts _ qM_X0_30) (hts _ qT_J9_min_7cf53) (hts _ qN_J9) (hts _ qK_J9_min_7cf53) (Nat.le_of_ble_eq_true rfl) (Nat.le_of_ble_eq_true rfl) (Nat.le_refl _) (Nat.le_refl _) dX0_ask_32 ?_
  refine gP_X0_41 (pc := 35) Cx hW hS (hX 5 _ rfl) rfl dX0_ask_35 ?_
  clear hW hS
  intro H locs hW hS
  obtain ⟨σ3, e4, hf⟩ := um_le hf
  rw [← e4] at hW
  clear e4
  refine lv_iconst (pc := 38) (v := (0 : Int32)) hx hb dX0_ask_38 (by decide) ?_
  refine lv_istore_n (pc := 39) (lv' := [(2, .int (0 : Int32)), (0, .ref (α 5)), (1, .ref (α h1))]) hx hb dX0_ask_39 rfl hl (by decide) rfl ?_
  clear hl
  intro ls hl
  obtain ⟨σ5, hc6, hf⟩ := um_bi hf
  refine t_X0_ask_l40 h1 hh1 hX Cx ?_ um_N _ _ _ _ _ hc6 hW hS (lv_sub hl [1, 2, 0] rfl)
  clear hW hS hl hc6
  intro H locs ls hW hS hl
  refine lv_iconst (pc := 69) (v := (0 : Int32)) hx hb dX0_ask_69 (by decide) ?_
  refine lv_istore_n (pc := 70) (lv' := [(2, .int (0 : Int32)), (0, .ref (α 5)), (1, .ref (α h1))]) hx hb dX0_ask_70 rfl hl (by decide) rfl ?_
  clear hl
  intro ls hl
  obtain ⟨σ7, hc8, hf⟩ := um_bi hf
  refine t_X0_ask_l71 h1 hh1 hX Cx ?_ um_N _ _ _ _ _ hc8 hW hS (lv_sub hl [1, 2, 0] rfl)
  clear hW hS hl hc8
  intro H locs ls hW hS hl
  exact um_vret (pc := 97) Cx hW hS hf dX0_ask_97
theorem c_X0_ask {σ : um_S} {σ' : um_S} (h1 : Nat) (hh1 : um_h h1) (hX : um_X sh) (hf : f_X0_ask h1 σ = some σ') : um_M l yX0_ask cX0_ask 3 none (5) (109) Z sh α σ [.ref (α 5), .ref (α h1)] none σ' :=
  um_start (by decide) (Nat.le_of_ble_eq_true rfl) (fun p e s m below meth c ls Cx hW hS hl => b_X0_ask h1 hh1 hX hf Cx hW hS hl)
