variable {p : Program} {l : Launch} {e : Env} {s : State} {m : MethodId} {args : Array Value} {below : List Frame} {meth : Method} {c : Code} {Z : um_Z} {α : Nat → Nat} {sh : Nat → Option um_Sh}
noncomputable def f_X9_parse  (σ : um_S) : Option (Int32 × um_S) :=
    um_let (um_wr σ 0 10 (0 : Int32)) fun σ1 =>
    (um_let (um_wr σ1 0 11 (3 : Int32)) fun σ3 =>
    (um_let (um_wr σ3 0 14 (0 : Int32)) fun σ5 =>
    (um_let (um_wr σ5 0 15 (0 : Int32)) fun σ7 =>
    (um_let (um_wr σ7 0 16 (0 : Int32)) fun σ9 =>
    (um_let (um_wr σ9 0 18 (0 : Int32)) fun σ11 =>
    (um_let (fun (x14 : Int32) =>
    (um_let (um_wr σ11 0 17 x14) fun σ15 =>
    ((f_X9_next σ15).bind fun σ18 =>
    ((f_X9_key σ18).bind fun x20 =>
    (um_let (fun (x22 : Int32) =>
    (um_let (fun (x24 : Int32) (σ25 : um_S) =>
    (um_let (um_wr σ25 0 8 (0 : Int32)) fun σ26 =>
    (if x24 = 0 then
    (some ((-1 : Int32), σ26))
    else
    (some (x20, σ26))))) fun k23 =>
    (if x22 = 0 then
    (k23 x22 σ18)
    else
    ((f_X9_next σ18).bind fun σ29 =>
    (um_b2 (f_X9_either (f_X9_part0 20) x20 σ29) fun x32 σ31 =>
    (um_let (fun (x34 : Int32) =>
    (k23 x34 σ31)) fun k33 =>
    (um_let (fun (_u : Unit) =>
    (k33 (0 : Int32))) fun k35 =>
    (if (um_b x32) = 0 then
    (k35 ())
    else
    (if (σ31.1 0 11) = 0 then
    (k33 (1 : Int32))
    else
    (k35 ())))))))))) fun k21 =>
    (if x20 < 0 then
    (k21 (0 : Int32))
    else
    (k21 (1 : Int32)))))))) fun k13 =>
    (if (14 : Int32) ≤ (σ11.1 1 5) then
    (k13 (3590 : Int32))
    else
    ((f_X9_textAt (σ11.1 1 5) σ11).bind fun x37 =>
    (k13 (x37 + (4 : Int32)))))))))))
set_option maxRecDepth 100000 in
set_option maxHeartbeats 4000000 in
theorem b_X9_parse {H : Heap} {locs : List Loc} {ls : Array Slot} {σ : um_S} {σ' : um_S} {r : Int32}   (hf : f_X9_parse σ = some (r, σ')) (Cx : um_C p s m meth c args cX9_parse 3 (some FieldType.int) RX9 Z) (hW : um_W Z msh α σ H) (hS : va_S (um_D msh α) s.heap H locs) (hl : lv_has ls 3 [(0, .ref (α 0))]) : um_G p l e (168) (3696) s m args below meth c Z msh α σ' (some (.int r)) H locs (F0 m 0 ls []) := by
  have hx := Cx.1
  have hb := Cx.2.1
  have hown := Cx.2.2.2.2.1
  have hts := Cx.2.2.2.2.2.1
  rw [f_X9_parse] at hf
  refine lv_aload_n (pc := 0) hx hb dX9_parse_0 rfl (lv_at hl 0 rfl) ?_
  refine lv_iconst (pc := 1) (v := (0 : Int32)) hx hb dX9_parse_1 (by decide) ?_
  refine gP_X9_152 (pc := 2) Cx hW hS ms_0 rfl dX9_parse_2 ?_
  clear hW hS
  intro H locs hW hS
  obtain ⟨σ1, e2, hf⟩ := um_le hf
  rw [← e2] at hW
  clear e2
  refine lv_aload_n (pc := 5) hx hb dX9_parse_5 rfl (lv_at hl 0 rfl) ?_
  refine lv_iconst (pc := 6) (v := (3 : Int32)) hx hb dX9_parse_6 (by decide) ?_
  refine gP_X9_155 (pc := 7) Cx hW hS ms_0 rfl dX9_parse_7 ?_
  clear hW hS
  intro H locs hW hS
  obtain ⟨σ3, e4, hf⟩ := um_le hf
  rw [← e4] at hW
  clear e4
  refine lv_aload_n (pc := 10) hx hb dX9_parse_10 rfl (lv_at hl 0 rfl) ?_
  refine lv_iconst (pc := 11) (v := (0 : Int32)) hx hb dX9_parse_11 (by decide) ?_
  refine gP_X9_222 (pc := 12) Cx hW hS ms_0 rfl dX9_parse_12 ?_
  clear hW hS
  intro H locs hW hS
  obtain ⟨σ5, e6, hf⟩ := um_le hf
  rw [← e6] at hW
  clear e6
  refine lv_aload_n (pc := 15) hx hb dX9_parse_15 rfl (lv_at hl 0 rfl) ?_
  refine lv_iconst (pc := 16) (v := (0 : Int32)) hx hb dX9_parse_16 (by decide) ?_
  refine gP_X9_219 (pc := 17) Cx hW hS ms_0 rfl dX9_parse_17 ?_
  clear hW hS
  intro H locs hW hS
  obtain ⟨σ7, e8, hf⟩ := um_le hf
  rw [← e8] at hW
  clear e8
  refine lv_aload_n (pc := 20) hx hb dX9_parse_20 rfl (lv_at hl 0 rfl) ?_
  refine lv_iconst (pc := 21) (v := (0 : Int32)) hx hb dX9_parse_21 (by decide) ?_
  refine gP_X9_184 (pc := 22) Cx hW hS ms_0 rfl dX9_parse_22 ?_
  clear hW hS
  intro H locs hW hS
  obtain ⟨σ9, e10, hf⟩ := um_le hf
  rw [← e10] at hW
  clear e10
  refine lv_aload_n (pc := 25) hx hb dX9_parse_25 rfl (lv_at hl 0 rfl) ?_
  refine lv_iconst (pc := 26) (v := (0 : Int32)) hx hb dX9_parse_26 (by decide) ?_
  refine gP_X9_212 (pc := 27) Cx hW hS ms_0 rfl dX9_parse_27 ?_
  clear hW hS
  intro H locs hW hS
  obtain ⟨σ11, e12, hf⟩ := um_le hf
  rw [← e12] at hW
  clear e12
  refine lv_aload_n (pc := 30) hx hb dX9_parse_30 rfl (lv_at hl 0 rfl) ?_
  refine lv_aload_n (pc := 31) hx hb dX9_parse_31 rfl (lv_at hl 0 rfl) ?_
  refine gF_X9_7 (pc := 32) Cx hW ms_0 rfl dX9_parse_32 ?_
  refine lv_iconst (pc := 35) (v := (5 : Int32)) hx hb dX9_parse_35 (by decide) ?_
  refine um_iaj (pc := 36) (n := 3790) 5 rfl Cx hW ms_1 rfl (um_ix_in (by decide)) dX9_parse_36 ?_
  refine lv_bipush (pc := 37) (v := (14 : Int32)) hx hb dX9_parse_37 (by decide) ?_
  obtain ⟨k13, hk13, hf⟩ := um_j1 hf
  have J13 : ∀ (x14 : Int32), k13 x14 = some (r, σ') → ∀ (H : Heap) (locs : List Loc) (ls : Array Slot), um_W Z msh α σ11 H → va_S (um_D msh α) s.heap H locs → lv_has ls 3 [(0, .ref (α 0))] → um_G p l e (168) (3696) s m args below meth c Z msh α σ' (some (.int r)) H locs (F0 m 60 ls [.int x14, .ref (α 0)]) := by
    intro x14 hf H locs ls hW hS hl
    rw [hk13] at hf
    refine gP_X9_181 (pc := 60) Cx hW hS ms_0 rfl dX9_parse_60 ?_
    clear hW hS
    intro H locs hW hS
    obtain ⟨σ15, e16, hf⟩ := um_le hf
    rw [← e16] at hW
    clear e16
    refine lv_aload_n (pc := 63) hx hb dX9_parse_63 rfl (lv_at hl 0 rfl) ?_
    obtain ⟨σ18, hc17, hf⟩ := um_bi hf
    refine um_cVv (pc := 64) (As := []) (rest := []) Cx (c_X9_next hc17) kV_X9_next (Or.inl qM_X9_193) hW hS ms_0 rfl rfl hl rfl (Nat.le_of_ble_eq_true rfl) (Nat.le_of_ble_eq_true rfl) (Nat.le_of_ble_eq_true rfl) dX9_parse_64 (Nat.le_refl _) (Nat.le_refl _) ?_
    clear hW hS hc17
    intro H locs hW hS
    refine lv_aload_n (pc := 67) hx hb dX9_parse_67 rfl (lv_at hl 0 rfl) ?_
    obtain ⟨x20, hc19, hf⟩ := um_bi hf
    refine um_cVi (pc := 68) (As := []) (rest := []) Cx (c_X9_key hc19) kV_X9_key (Or.inl qM_X9_231) hW hS ms_0 rfl rfl hl rfl (Nat.le_of_ble_eq_true rfl) (Nat.le_of_ble_eq_true rfl) (Nat.le_of_ble_eq_true rfl) dX9_parse_68 (Nat.le_refl _) (Nat.le_refl _) ?_
    clear hW hS hc19
    intro H locs hW hS
    refine lv_istore_n (pc := 71) (lv' := [(1, .int x20), (0, .ref (α 0))]) hx hb dX9_parse_71 rfl hl (by decide) rfl ?_
    clear hl
    intro ls hl
    refine lv_iload_n (pc := 72) hx hb dX9_parse_72 rfl (lv_at hl 0 rfl) ?_
    obtain ⟨k21, hk21, hf⟩ := um_j1 hf
    have J21 : ∀ (x22 : Int32), k21 x22 = some (r, σ') → ∀ (H : Heap) (locs : List Loc) (ls : Array Slot), um_W Z msh α σ18 H → va_S (um_D msh α) s.heap H locs → lv_has ls 3 [(0, .ref (α 0)), (1, .int x20)] → um_G p l e (168) (3696) s m args below meth c Z msh α σ' (some (.int r)) H locs (F0 m 81 ls [.int x22]) := by
      intro x22 hf H locs ls hW hS hl
      rw [hk21] at hf
      refine lv_istore_n (pc := 81) (lv' := [(2, .int x22), (0, .ref (α 0)), (1, .int x20)]) hx hb dX9_parse_81 rfl hl (by decide) rfl ?_
      clear hl
      intro ls hl
      refine lv_iload_n (pc := 82) hx hb dX9_parse_82 rfl (lv_at hl 0 rfl) ?_
      obtain ⟨k23, hk23, hf⟩ := um_j2 hf
      have J23 : ∀ (x24 : Int32) (σ25 : um_S), k23 x24 σ25 = some (r, σ') → ∀ (H : Heap) (locs : List Loc) (ls : Array Slot), um_W Z msh α σ25 H → va_S (um_D msh α) s.heap H locs → lv_has ls 3 [(0, .ref (α 0)), (1, .int x20), (2, .int x24)] → um_G p l e (168) (3696) s m args below meth c Z msh α σ' (some (.int r)) H locs (F0 m 111 ls []) := by
        intro x24 σ25 hf H locs ls hW hS hl
        rw [hk23] at hf
        refine lv_aload_n (pc := 111) hx hb dX9_parse_111 rfl (lv_at hl 0 rfl) ?_
        refine lv_iconst (pc := 112) (v := (0 : Int32)) hx hb dX9_parse_112 (by decide) ?_
        refine gP_X9_140 (pc := 113) Cx hW hS ms_0 rfl dX9_parse_113 ?_
        clear hW hS
        intro H locs hW hS
        obtain ⟨σ26, e27, hf⟩ := um_le hf
        rw [← e27] at hW
        clear e27
        refine lv_iload_n (pc := 116) hx hb dX9_parse_116 rfl (lv_at hl 2 rfl) ?_
        refine lv_if_eq (pc := 117) (tgt := 124) hx hb dX9_parse_117 (by decide) (fun c1 => ?_) (fun c1 => ?_)
        · have hf := um_it c1 hf
          clear c1
          refine lv_iconst (pc := 124) (v := (-1 : Int32)) hx hb dX9_parse_124 (by decide) ?_
          exact um_iret (pc := 125) Cx hW hS hf dX9_parse_125
        · have hf := um_ie c1 hf
          clear c1
          refine lv_iload_n (pc := 120) hx hb dX9_parse_120 rfl (lv_at hl 1 rfl) ?_
          refine lv_goto (pc := 121) (tgt := 125) hx hb dX9_parse_121 (by decide) ?_
          exact um_iret (pc := 125) Cx hW hS hf dX9_parse_125
      refine lv_if_eq (pc := 83) (tgt := 111) hx hb dX9_parse_83 (by decide) (fun c1 => ?_) (fun c1 => ?_)
      · have hf := um_it c1 hf
        clear c1
        exact J23 x22 σ18 hf _ _ _ hW hS (lv_sub hl [1, 2, 0] rfl)
      · have hf := um_ie c1 hf
        clear c1
        refine lv_aload_n (pc := 86) hx hb dX9_parse_86 rfl (lv_at hl 1 rfl) ?_
        obtain ⟨σ29, hc28, hf⟩ := um_bi hf
        refine um_cVv (pc := 87) (As := []) (rest := []) Cx (c_X9_next hc28) kV_X9_next (Or.inl qM_X9_193) hW hS ms_0 rfl rfl hl rfl (Nat.le_of_ble_eq_true rfl) (Nat.le_of_ble_eq_true rfl) (Nat.le_of_ble_eq_true rfl) dX9_parse_87 (Nat.le_refl _) (Nat.le_refl _) ?_
        clear hW hS hc28
        intro H locs hW hS
        refine lv_aload_n (pc := 90) hx hb dX9_parse_90 rfl (lv_at hl 1 rfl) ?_
        refine lv_iload_n (pc := 91) hx hb dX9_parse_91 rfl (lv_at hl 2 rfl) ?_
        obtain ⟨x32, σ31, hc30, hf⟩ := um_bi2 hf
        refine um_cVi (pc := 92) (As := [.int x20]) (rest := []) Cx (c_X9_either (fun a σ r σ' h => cd_X9_part0 20 a σ r σ' h) x20 hc30) kV_X9_either (Or.inl qM_X9_225) hW hS ms_0 rfl rfl hl rfl (Nat.le_of_ble_eq_true rfl) (Nat.le_of_ble_eq_true rfl) (Nat.le_of_ble_eq_true rfl) dX9_parse_92 (Nat.le_refl _) (Nat.le_refl _) ?_
        clear hW hS hc30
        intro H locs hW hS
        obtain ⟨k33, hk33, hf⟩ := um_j1 hf
        have J33 : ∀ (x34 : Int32), k33 x34 = some (r, σ') → ∀ (H : Heap) (locs : List Loc) (ls : Array Slot), um_W Z msh α σ31 H → va_S (um_D msh α) s.heap H locs → lv_has ls 3 [(0, .ref (α 0)), (1, .int x20)] → um_G p l e (168) (3696) s m args below meth c Z msh α σ' (some (.int r)) H locs (F0 m 110 ls [.int x34]) := by
          intro x34 hf H locs ls hW hS hl
          rw [hk33] at hf
          refine lv_istore_n (pc := 110) (lv' := [(2, .int x34), (0, .ref (α 0)), (1, .int x20)]) hx hb dX9_parse_110 rfl hl (by decide) rfl ?_
          clear hl
          intro ls hl
          exact J23 x34 σ31 hf _ _ _ hW hS (lv_sub hl [1, 2, 0] rfl)
        obtain ⟨k35, hk35, hf⟩ := um_j1 hf
        have J35 : ∀ (_u : Unit), k35 _u = some (r, σ') → ∀ (H : Heap) (locs : List Loc) (ls : Array Slot), um_W Z msh α σ31 H → va_S (um_D msh α) s.heap H locs → lv_has ls 3 [(0, .ref (α 0)), (1, .int x20)] → um_G p l e (168) (3696) s m args below meth c Z msh α σ' (some (.int r)) H locs (F0 m 109 ls []) := by
          intro _u hf H locs ls hW hS hl
          rw [hk35] at hf
          refine lv_iconst (pc := 109) (v := (0 : Int32)) hx hb dX9_parse_109 (by decide) ?_
          exact J33 (0 : Int32) hf _ _ _ hW hS hl
        refine lv_if_eq (pc := 95) (tgt := 109) hx hb dX9_parse_95 (by decide) (fun c1 => ?_) (fun c1 => ?_)
        · have hf := um_it c1 hf
          clear c1
          exact J35 () hf _ _ _ hW hS (lv_sub hl [1, 2] rfl)
        · have hf := um_ie c1 hf
          clear c1
          refine lv_aload_n (pc := 98) hx hb dX9_parse_98 rfl (lv_at hl 1 rfl) ?_
          refine gF_X9_155 (pc := 99) Cx hW ms_0 rfl dX9_parse_99 ?_
          refine lv_if_ne (pc := 102) (tgt := 109) hx hb dX9_parse_102 (by decide) (fun c1 => ?_) (fun c1 => ?_)
          · have hf := um_ie c1 hf
            clear c1
            exact J35 () hf _ _ _ hW hS (lv_sub hl [1, 2] rfl)
          · have hf := um_it c1 hf
            clear c1
            refine lv_iconst (pc := 105) (v := (1 : Int32)) hx hb dX9_parse_105 (by decide) ?_
            refine lv_goto (pc := 106) (tgt := 110) hx hb dX9_parse_106 (by decide) ?_
            exact J33 (1 : Int32) hf _ _ _ hW hS (lv_sub hl [1, 2] rfl)
    refine lv_if_lt (pc := 73) (tgt := 80) hx hb dX9_parse_73 (by decide) (fun c1 => ?_) (fun c1 => ?_)
    · have hf := um_it c1 hf
      clear c1
      refine lv_iconst (pc := 80) (v := (0 : Int32)) hx hb dX9_parse_80 (by decide) ?_
      exact J21 (0 : Int32) hf _ _ _ hW hS (lv_sub hl [1, 0] rfl)
    · have hf := um_ie c1 hf
      clear c1
      refine lv_iconst (pc := 76) (v := (1 : Int32)) hx hb dX9_parse_76 (by decide) ?_
      refine lv_goto (pc := 77) (tgt := 81) hx hb dX9_parse_77 (by decide) ?_
      exact J21 (1 : Int32) hf _ _ _ hW hS (lv_sub hl [1, 0] rfl)
  refine lv_icmp_ge (pc := 39) (tgt := 57) hx hb dX9_parse_39 (by decide) (fun c1 => ?_) (fun c1 => ?_)
  · have hf := um_it c1 hf
    clear c1
    refine lv_sipush (pc := 57) (v := (3590 : Int32)) hx hb dX9_parse_57 (by decide) ?_
    exact J13 (3590 : Int32) hf _ _ _ hW hS hl
  · have hf := um_ie c1 hf
    clear c1
    refine lv_aload_n (pc := 42) hx hb dX9_parse_42 rfl (lv_at hl 0 rfl) ?_
    refine lv_aload_n (pc := 43) hx hb dX9_parse_43 rfl (lv_at hl 0 rfl) ?_
    refine gF_X9_7 (pc := 44) Cx hW ms_0 rfl dX9_parse_44 ?_
    refine lv_iconst (pc := 47) (v := (5 : Int32)) hx hb dX9_parse_47 (by decide) ?_
    refine um_iaj (pc := 48) (n := 3790) 5 rfl Cx hW ms_1 rfl (um_ix_in (by decide)) dX9_parse_48 ?_
    obtain ⟨x37, hc36, hf⟩ := um_bi hf
    refine um_cVi (pc := 49) (As := [.int (σ11.1 1 5)]) (rest := [.ref (α 0)]) Cx (c_X9_textAt (σ11.1 1 5) hc36) kV_X9_textAt (Or.inl qM_X9_228) hW hS ms_0 rfl rfl hl rfl (Nat.le_of_ble_eq_true rfl) (Nat.le_of_ble_eq_true rfl) (Nat.le_of_ble_eq_true rfl) dX9_parse_49 (Nat.le_refl _) (Nat.le_refl _) ?_
    clear hW hS hc36
    intro H locs hW hS
    refine lv_iconst (pc := 52) (v := (4 : Int32)) hx hb dX9_parse_52 (by decide) ?_
    refine lv_iadd (pc := 53) hx hb dX9_parse_53 ?_
    refine lv_goto (pc := 54) (tgt := 60) hx hb dX9_parse_54 (by decide) ?_
    exact J13 (x37 + (4 : Int32)) hf _ _ _ hW hS hl
theorem c_X9_parse {σ : um_S} {σ' : um_S} {r : Int32}   (hf : f_X9_parse σ = some (r, σ')) : um_M l yX9_parse cX9_parse 3 (some FieldType.int) (168) (3696) Z msh α σ [.ref (α 0)] (some (.int r)) σ' :=
  um_start (by decide) (Nat.le_of_ble_eq_true rfl) (fun p e s m below meth c ls Cx hW hS hl => b_X9_parse hf Cx hW hS hl)
noncomputable def f_X9_party (a1 : Int32) (a2 : Int32) (a3 : Int32) (σ : um_S) : Option (Int32 × um_S) :=
    (f_X9_isIn (a1.toInt64) (0 : Int64) (6 : Int64) σ).bind fun x2 =>
    (if (um_b x2) = 0 then
    (some ((-1000000001 : Int32), σ))
    else
    ((f_X9_isIn (a2.toInt64) (0 : Int64) (2 : Int64) σ).bind fun x4 =>
    (if (um_b x4) = 0 then
    (some ((-1000000001 : Int32), σ))
    else
    (um_let (fun (x6 : Int64) =>
    ((f_X9_isIn (a3.toInt64) (0 : Int64) x6 σ).bind fun x8 =>
    (if (um_b x8) = 0 then
    (some ((-1000000001 : Int32), σ))
    else
    (um_b2 (f_X9_becomes (((710 : Int32) + ((3 : Int32) * a1)) + a2) a3 σ) fun x11 σ10 =>
    (some (x11, σ10)))))) fun k5 =>
    (if a2 = 0 then
    (k5 (99 : Int64))
    else
    (k5 (255 : Int64)))))))
set_option maxRecDepth 100000 in
set_option maxHeartbeats 4000000 in
theorem b_X9_party {H : Heap} {locs : List Loc} {ls : Array Slot} {σ : um_S} {σ' : um_S} {r : Int32} (a1 : Int32) (a2 : Int32) (a3 : Int32)  (hf : f_X9_party a1 a2 a3 σ = some (r, σ')) (Cx : um_C p s m meth c args cX9_party 4 (some FieldType.int) RX9 Z) (hW : um_W Z msh α σ H) (hS : va_S (um_D msh α) s.heap H locs) (hl : lv_has ls 4 [(0, .ref (α 0)), (1, .int a1), (2, .int a2), (3, .int a3)]) : um_G p l e (1) (25) s m args below meth c Z msh α σ' (some (.int r)) H locs (F0 m 0 ls []) := by
  have hx := Cx.1
  have hb := Cx.2.1
  have hown := Cx.2.2.2.2.1
  have hts := Cx.2.2.2.2.2.1
  rw [f_X9_party] at hf
  refine lv_iload_n (pc := 0) hx hb dX9_party_0 rfl (lv_at hl 1 rfl) ?_
  refine lv_i2l (pc := 1) hx hb dX9_party_1 rfl ?_
  refine lv_lconst (pc := 2) (v := (0 : Int64)) hx hb dX9_party_2 (by decide) ?_
  refine lv_ldc2 (pc := 3) hx hb hown (hts _ qL_X9_316) dX9_party_3 ?_
  obtain ⟨x2, hc1, hf⟩ := um_bi hf
  refine um_cSi (pc := 6) (As := [.long (a1.toInt64), .long (0 : Int64), .long (6 : Int64)]) (rest := []) Cx (c_X9_isIn (a1.toInt64) (0 : Int64) (6 : Int64) hc1) kS_X9_isIn (Or.inl qM_X9_60) hW hS rfl hl rfl (Nat.le_of_ble_eq_true rfl) (Nat.le_of_ble_eq_true rfl) (Nat.le_of_ble_eq_true rfl) dX9_party_6 (Nat.le_refl _) (Nat.le_refl _) ?_
  clear hW hS hc1
  intro H locs hW hS
  refine lv_if_eq (pc := 9) (tgt := 46) hx hb dX9_party_9 (by decide) (fun c1 => ?_) (fun c1 => ?_)
  · have hf := um_it c1 hf
    clear c1
    refine lv_ldc (pc := 46) hx hb hown (hts _ qC_X9_87) dX9_party_46 ?_
    exact um_iret (pc := 48) Cx hW hS hf dX9_party_48
  · have hf := um_ie c1 hf
    clear c1
    refine lv_iload_n (pc := 12) hx hb dX9_party_12 rfl (lv_at hl 2 rfl) ?_
    refine lv_i2l (pc := 13) hx hb dX9_party_13 rfl ?_
    refine lv_lconst (pc := 14) (v := (0 : Int64)) hx hb dX9_party_14 (by decide) ?_
    refine lv_ldc2 (pc := 15) hx hb hown (hts _ qL_X9_241) dX9_party_15 ?_
    obtain ⟨x4, hc3, hf⟩ := um_bi hf
    refine um_cSi (pc := 18) (As := [.long (a2.toInt64), .long (0 : Int64), .long (2 : Int64)]) (rest := []) Cx (c_X9_isIn (a2.toInt64) (0 : Int64) (2 : Int64) hc3) kS_X9_isIn (Or.inl qM_X9_60) hW hS rfl hl rfl (Nat.le_of_ble_eq_true rfl) (Nat.le_of_ble_eq_true rfl) (Nat.le_of_ble_eq_true rfl) dX9_party_18 (Nat.le_refl _) (Nat.le_refl _) ?_
    clear hW hS hc3
    intro H locs hW hS
    refine lv_if_eq (pc := 21) (tgt := 46) hx hb dX9_party_21 (by decide) (fun c1 => ?_) (fun c1 => ?_)
    · have hf := um_it c1 hf
      clear c1
      refine lv_ldc (pc := 46) hx hb hown (hts _ qC_X9_87) dX9_party_46 ?_
      exact um_iret (pc := 48) Cx hW hS hf dX9_party_48
    · have hf := um_ie c1 hf
      clear c1
      refine lv_iload_n (pc := 24) hx hb dX9_party_24 rfl (lv_at hl 3 rfl) ?_
      refine lv_i2l (pc := 25) hx hb dX9_party_25 rfl ?_
      refine lv_lconst (pc := 26) (v := (0 : Int64)) hx hb dX9_party_26 (by decide) ?_
      refine lv_iload_n (pc := 27) hx hb dX9_party_27 rfl (lv_at hl 2 rfl) ?_
      obtain ⟨k5, hk5, hf⟩ := um_j1 hf
      have J5 : ∀ (x6 : Int64), k5 x6 = some (r, σ') → ∀ (H : Heap) (locs : List Loc) (ls : Array Slot), um_W Z msh α σ H → va_S (um_D msh α) s.heap H locs → lv_has ls 4 [(0, .ref (α 0)), (1, .int a1), (2, .int a2), (3, .int a3)] → um_G p l e (1) (25) s m args below meth c Z msh α σ' (some (.int r)) H locs (F0 m 40 ls [.long x6, .long (0 : Int64), .long (a3.toInt64)]) := by
        intro x6 hf H locs ls hW hS hl
        rw [hk5] at hf
        obtain ⟨x8, hc7, hf⟩ := um_bi hf
        refine um_cSi (pc := 40) (As := [.long (a3.toInt64), .long (0 : Int64), .long x6]) (rest := []) Cx (c_X9_isIn (a3.toInt64) (0 : Int64) x6 hc7) kS_X9_isIn (Or.inl qM_X9_60) hW hS rfl hl rfl (Nat.le_of_ble_eq_true rfl) (Nat.le_of_ble_eq_true rfl) (Nat.le_of_ble_eq_true rfl) dX9_party_40 (Nat.le_refl _) (Nat.le_refl _) ?_
        clear hW hS hc7
        intro H locs hW hS
        refine lv_if_ne (pc := 43) (tgt := 49) hx hb dX9_party_43 (by decide) (fun c1 => ?_) (fun c1 => ?_)
        · have hf := um_ie c1 hf
          clear c1
          refine lv_aload_n (pc := 49) hx hb dX9_party_49 rfl (lv_at hl 0 rfl) ?_
          refine lv_sipush (pc := 50) (v := (710 : Int32)) hx hb dX9_party_50 (by decide) ?_
          refine lv_iconst (pc := 53) (v := (3 : Int32)) hx hb dX9_party_53 (by decide) ?_
          refine lv_iload_n (pc := 54) hx hb dX9_party_54 rfl (lv_at hl 1 rfl) ?_
          refine lv_imul (pc := 55) hx hb dX9_party_55 ?_
          refine lv_iadd (pc := 56) hx hb dX9_party_56 ?_
          refine lv_iload_n (pc := 57) hx hb dX9_party_57 rfl (lv_at hl 2 rfl) ?_
          refine lv_iadd (pc := 58) hx hb dX9_party_58 ?_
          refine lv_iload_n (pc := 59) hx hb dX9_party_59 rfl (lv_at hl 3 rfl) ?_
          obtain ⟨x11, σ10, hc9, hf⟩ := um_bi2 hf
          refine um_cVi (pc := 60) (As := [.int (((710 : Int32) + ((3 : Int32) * a1)) + a2), .int a3]) (rest := []) Cx (c_X9_becomes (((710 : Int32) + ((3 : Int32) * a1)) + a2) a3 hc9) kV_X9_becomes (Or.inl qM_X9_107) hW hS ms_0 rfl rfl hl rfl (Nat.le_of_ble_eq_true rfl) (Nat.le_of_ble_eq_true rfl) (Nat.le_of_ble_eq_true rfl) dX9_party_60 (Nat.le_refl _) (Nat.le_refl _) ?_
          clear hW hS hc9
          intro H locs hW hS
          exact um_iret (pc := 63) Cx hW hS hf dX9_party_63
        · have hf := um_it c1 hf
          clear c1
          refine lv_ldc (pc := 46) hx hb hown (hts _ qC_X9_87) dX9_party_46 ?_
          exact um_iret (pc := 48) Cx hW hS hf dX9_party_48
      refine lv_if_ne (pc := 28) (tgt := 37) hx hb dX9_party_28 (by decide) (fun c1 => ?_) (fun c1 => ?_)
      · have hf := um_ie c1 hf
        clear c1
        refine lv_ldc2 (pc := 37) hx hb hown (hts _ qL_X9_95) dX9_party_37 ?_
        exact J5 (255 : Int64) hf _ _ _ hW hS hl
      · have hf := um_it c1 hf
        clear c1
        refine lv_ldc2 (pc := 31) hx hb hown (hts _ qL_X9_127) dX9_party_31 ?_
        refine lv_goto (pc := 34) (tgt := 40) hx hb dX9_party_34 (by decide) ?_
        exact J5 (99 : Int64) hf _ _ _ hW hS hl
theorem c_X9_party {σ : um_S} {σ' : um_S} {r : Int32} (a1 : Int32) (a2 : Int32) (a3 : Int32)  (hf : f_X9_party a1 a2 a3 σ = some (r, σ')) : um_M l yX9_party cX9_party 4 (some FieldType.int) (1) (25) Z msh α σ [.ref (α 0), .int a1, .int a2, .int a3] (some (.int r)) σ' :=
  um_start (by decide) (Nat.le_of_ble_eq_true rfl) (fun p e s m below meth c ls Cx hW hS hl => b_X9_party a1 a2 a3 hf Cx hW hS hl)
noncomputable def f_X9_path (a1 : Int32) (a2 : Int32) (a3 : Int32) (σ : um_S) : Option (Int32 × um_S) :=
    (f_X9_isPlace a1 σ).bind fun x2 =>
    (if (um_b x2) = 0 then
    (some ((-1000000001 : Int32), σ))
    else
    ((f_X9_isPlace a2 σ).bind fun x4 =>
    (if (um_b x4) = 0 then
    (some ((-1000000001 : Int32), σ))
    else
    (if a1 = a2 then
    (some ((-1000000001 : Int32), σ))
    else
    ((f_X9_isIn (a3.toInt64) (0 : Int64) (99 : Int64) σ).bind fun x6 =>
    (if (um_b x6) = 0 then
    (some ((-1000000001 : Int32), σ))
    else
    (if um_ix (((670 : Int32) + ((6 : Int32) * a2)) + a1) 3790 then
    (um_let (um_wr σ 1 (((670 : Int32) + ((6 : Int32) * a2)) + a1).toNatClampNeg a3) fun σ8 =>
    (um_b2 (f_X9_becomes (((670 : Int32) + ((6 : Int32) * a1)) + a2) a3 σ8) fun x12 σ11 =>
    (some (x12, σ11)))) else none)))))))
set_option maxRecDepth 100000 in
set_option maxHeartbeats 4000000 in
theorem b_X9_path {H : Heap} {locs : List Loc} {ls : Array Slot} {σ : um_S} {σ' : um_S} {r : Int32} (a1 : Int32) (a2 : Int32) (a3 : Int32)  (hf : f_X9_path a1 a2 a3 σ = some (r, σ')) (Cx : um_C p s m meth c args cX9_path 4 (some FieldType.int) RX9 Z) (hW : um_W Z msh α σ H) (hS : va_S (um_D msh α) s.heap H locs) (hl : lv_has ls 4 [(0, .ref (α 0)), (1, .int a1), (2, .int a2), (3, .int a3)]) : um_G p l e (2) (45) s m args below meth c Z msh α σ' (some (.int r)) H locs (F0 m 0 ls []) := by
  have hx := Cx.1
  have hb := Cx.2.1
  have hown := Cx.2.2.2.2.1
  have hts := Cx.2.2.2.2.2.1
  rw [f_X9_path] at hf
  refine lv_iload_n (pc := 0) hx hb dX9_path_0 rfl (lv_at hl 1 rfl) ?_
  obtain ⟨x2, hc1, hf⟩ := um_bi hf
  refine um_cSi (pc := 1) (As := [.int a1]) (rest := []) Cx (c_X9_isPlace a1 hc1) kS_X9_isPlace (Or.inl qM_X9_82) hW hS rfl hl rfl (Nat.le_of_ble_eq_true rfl) (Nat.le_of_ble_eq_true rfl) (Nat.le_of_ble_eq_true rfl) dX9_path_1 (Nat.le_refl _) (Nat.le_refl _) ?_
  clear hW hS hc1
  intro H locs hW hS
  refine lv_if_eq (pc := 4) (tgt := 31) hx hb dX9_path_4 (by decide) (fun c1 => ?_) (fun c1 => ?_)
  · have hf := um_it c1 hf
    clear c1
    refine lv_ldc (pc := 31) hx hb hown (hts _ qC_X9_87) dX9_path_31 ?_
    exact um_iret (pc := 33) Cx hW hS hf dX9_path_33
  · have hf := um_ie c1 hf
    clear c1
    refine lv_iload_n (pc := 7) hx hb dX9_path_7 rfl (lv_at hl 2 rfl) ?_
    obtain ⟨x4, hc3, hf⟩ := um_bi hf
    refine um_cSi (pc := 8) (As := [.int a2]) (rest := []) Cx (c_X9_isPlace a2 hc3) kS_X9_isPlace (Or.inl qM_X9_82) hW hS rfl hl rfl (Nat.le_of_ble_eq_true rfl) (Nat.le_of_ble_eq_true rfl) (Nat.le_of_ble_eq_true rfl) dX9_path_8 (Nat.le_refl _) (Nat.le_refl _) ?_
    clear hW hS hc3
    intro H locs hW hS
    refine lv_if_eq (pc := 11) (tgt := 31) hx hb dX9_path_11 (by decide) (fun c1 => ?_) (fun c1 => ?_)
    · have hf := um_it c1 hf
      clear c1
      refine lv_ldc (pc := 31) hx hb hown (hts _ qC_X9_87) dX9_path_31 ?_
      exact um_iret (pc := 33) Cx hW hS hf dX9_path_33
    · have hf := um_ie c1 hf
      clear c1
      refine lv_iload_n (pc := 14) hx hb dX9_path_14 rfl (lv_at hl 1 rfl) ?_
      refine lv_iload_n (pc := 15) hx hb dX9_path_15 rfl (lv_at hl 2 rfl) ?_
      refine lv_icmp_eq (pc := 16) (tgt := 31) hx hb dX9_path_16 (by decide) (fun c1 => ?_) (fun c1 => ?_)
      · have hf := um_it c1 hf
        clear c1
        refine lv_ldc (pc := 31) hx hb hown (hts _ qC_X9_87) dX9_path_31 ?_
        exact um_iret (pc := 33) Cx hW hS hf dX9_path_33
      · have hf := um_ie c1 hf
        clear c1
        refine lv_iload_n (pc := 19) hx hb dX9_path_19 rfl (lv_at hl 3 rfl) ?_
        refine lv_i2l (pc := 20) hx hb dX9_path_20 rfl ?_
        refine lv_lconst (pc := 21) (v := (0 : Int64)) hx hb dX9_path_21 (by decide) ?_
        refine lv_ldc2 (pc := 22) hx hb hown (hts _ qL_X9_127) dX9_path_22 ?_
        obtain ⟨x6, hc5, hf⟩ := um_bi hf
        refine um_cSi (pc := 25) (As := [.long (a3.toInt64), .long (0 : Int64), .long (99 : Int64)]) (rest := []) Cx (c_X9_isIn (a3.toInt64) (0 : Int64) (99 : Int64) hc5) kS_X9_isIn (Or.inl qM_X9_60) hW hS rfl hl rfl (Nat.le_of_ble_eq_true rfl) (Nat.le_of_ble_eq_true rfl) (Nat.le_of_ble_eq_true rfl) dX9_path_25 (Nat.le_refl _) (Nat.le_refl _) ?_
        clear hW hS hc5
        intro H locs hW hS
        refine lv_if_ne (pc := 28) (tgt := 34) hx hb dX9_path_28 (by decide) (fun c1 => ?_) (fun c1 => ?_)
        · have hf := um_ie c1 hf
          clear c1
          refine lv_aload_n (pc := 34) hx hb dX9_path_34 rfl (lv_at hl 0 rfl) ?_
          refine gF_X9_7 (pc := 35) Cx hW ms_0 rfl dX9_path_35 ?_
          refine lv_sipush (pc := 38) (v := (670 : Int32)) hx hb dX9_path_38 (by decide) ?_
          refine lv_bipush (pc := 41) (v := (6 : Int32)) hx hb dX9_path_41 (by decide) ?_
          refine lv_iload_n (pc := 43) hx hb dX9_path_43 rfl (lv_at hl 2 rfl) ?_
          refine lv_imul (pc := 44) hx hb dX9_path_44 ?_
          refine lv_iadd (pc := 45) hx hb dX9_path_45 ?_
          refine lv_iload_n (pc := 46) hx hb dX9_path_46 rfl (lv_at hl 1 rfl) ?_
          refine lv_iadd (pc := 47) hx hb dX9_path_47 ?_
          refine lv_iload_n (pc := 48) hx hb dX9_path_48 rfl (lv_at hl 3 rfl) ?_
          obtain ⟨g7, hf⟩ := um_gu hf
          refine um_iast (pc := 49) Cx hW hS ms_1 rfl (um_ix_in g7) dX9_path_49 ?_
          clear hW hS
          intro H locs hW hS
          obtain ⟨σ8, e9, hf⟩ := um_le hf
          rw [← e9] at hW
          clear e9
          refine lv_aload_n (pc := 50) hx hb dX9_path_50 rfl (lv_at hl 0 rfl) ?_
          refine lv_sipush (pc := 51) (v := (670 : Int32)) hx hb dX9_path_51 (by decide) ?_
          refine lv_bipush (pc := 54) (v := (6 : Int32)) hx hb dX9_path_54 (by decide) ?_
          refine lv_iload_n (pc := 56) hx hb dX9_path_56 rfl (lv_at hl 1 rfl) ?_
          refine lv_imul (pc := 57) hx hb dX9_path_57 ?_
          refine lv_iadd (pc := 58) hx hb dX9_path_58 ?_
          refine lv_iload_n (pc := 59) hx hb dX9_path_59 rfl (lv_at hl 2 rfl) ?_
          refine lv_iadd (pc := 60) hx hb dX9_path_60 ?_
          refine lv_iload_n (pc := 61) hx hb dX9_path_61 rfl (lv_at hl 3 rfl) ?_
          obtain ⟨x12, σ11, hc10, hf⟩ := um_bi2 hf
          refine um_cVi (pc := 62) (As := [.int (((670 : Int32) + ((6 : Int32) * a1)) + a2), .int a3]) (rest := []) Cx (c_X9_becomes (((670 : Int32) + ((6 : Int32) * a1)) + a2) a3 hc10) kV_X9_becomes (Or.inl qM_X9_107) hW hS ms_0 rfl rfl hl rfl (Nat.le_of_ble_eq_true rfl) (Nat.le_of_ble_eq_true rfl) (Nat.le_of_ble_eq_true rfl) dX9_path_62 (Nat.le_refl _) (Nat.le_refl _) ?_
          clear hW hS hc10
          intro H locs hW hS
          exact um_iret (pc := 65) Cx hW hS hf dX9_path_65
        · have hf := um_it c1 hf
          clear c1
          refine lv_ldc (pc := 31) hx hb hown (hts _ qC_X9_87) dX9_path_31 ?_
          exact um_iret (pc := 33) Cx hW hS hf dX9_path_33
theorem c_X9_path {σ : um_S} {σ' : um_S} {r : Int32} (a1 : Int32) (a2 : Int32) (a3 : Int32)  (hf : f_X9_path a1 a2 a3 σ = some (r, σ')) : um_M l yX9_path cX9_path 4 (some FieldType.int) (2) (45) Z msh α σ [.ref (α 0), .int a1, .int a2, .int a3] (some (.int r)) σ' :=
  um_start (by decide) (Nat.le_of_ble_eq_true rfl) (fun p e s m below meth c ls Cx hW hS hl => b_X9_path a1 a2 a3 hf Cx hW hS hl)
noncomputable def f_X9_wayAt (a0 : Int32) (a1 : Int32) (σ : um_S) : Option (Int32) :=
    some (((740 : Int32) + ((6 : Int32) * a0)) + ((2 : Int32) * a1))
set_option maxRecDepth 100000 in
set_option maxHeartbeats 4000000 in
theorem b_X9_wayAt {H : Heap} {locs : List Loc} {ls : Array Slot} {σ : um_S} {r : Int32} (a0 : Int32) (a1 : Int32)  (hf : f_X9_wayAt a0 a1 σ = some r) (Cx : um_C p s m meth c args cX9_wayAt 2 (some FieldType.int) RX9 Z) (hW : um_W Z msh α σ H) (hS : va_S (um_D msh α) s.heap H locs) (hl : lv_has ls 2 [(0, .int a0), (1, .int a1)]) : um_G p l e (0) (0) s m args below meth c Z msh α σ (some (.int r)) H locs (F0 m 0 ls []) := by
  have hx := Cx.1
  have hb := Cx.2.1
  have hown := Cx.2.2.2.2.1
  have hts := Cx.2.2.2.2.2.1
  rw [f_X9_wayAt] at hf
  refine lv_sipush (pc := 0) (v := (740 : Int32)) hx hb dX9_wayAt_0 (by decide) ?_
  refine lv_bipush (pc := 3) (v := (6 : Int32)) hx hb dX9_wayAt_3 (by decide) ?_
  refine lv_iload_n (pc := 5) hx hb dX9_wayAt_5 rfl (lv_at hl 0 rfl) ?_
  refine lv_imul (pc := 6) hx hb dX9_wayAt_6 ?_
  refine lv_iadd (pc := 7) hx hb dX9_wayAt_7 ?_
  refine lv_iconst (pc := 8) (v := (2 : Int32)) hx hb dX9_wayAt_8 (by decide) ?_
  refine lv_iload_n (pc := 9) hx hb dX9_wayAt_9 rfl (lv_at hl 1 rfl) ?_
  refine lv_imul (pc := 10) hx hb dX9_wayAt_10 ?_
  refine lv_iadd (pc := 11) hx hb dX9_wayAt_11 ?_
  exact um_iretR (pc := 12) Cx hW hS hf dX9_wayAt_12
theorem c_X9_wayAt {σ : um_S} {r : Int32} (a0 : Int32) (a1 : Int32)  (hf : f_X9_wayAt a0 a1 σ = some r) : um_M l yX9_wayAt cX9_wayAt 2 (some FieldType.int) (0) (0) Z msh α σ [.int a0, .int a1] (some (.int r)) σ :=
  um_start (by decide) (Nat.le_of_ble_eq_true rfl) (fun p e s m below meth c ls Cx hW hS hl => b_X9_wayAt a0 a1 hf Cx hW hS hl)
noncomputable def f_X9_sumOf_l11 (v3 : Int32) (σ : um_S) : Nat → Int32 → Int32 → Int32 → Option (Int32)
  | 0, _, _, _ => none
  | n + 1, v4, v5, v6 =>
    if v6 < 0 then
    (some v4)
    else
    ((f_X9_wayAt v6 (v5 - v5 / (3 : Int32) * (3 : Int32)) σ).bind fun x2 =>
    (if um_ix (x2 + v3) 3790 then
    (um_let (v4 + (σ.1 1 (x2 + v3).toNatClampNeg)) fun x4 =>
    (um_let (v5 / (3 : Int32)) fun x6 =>
    (f_X9_sumOf_l11 v3 σ n x4 x6 (v6 + (-1 : Int32))))) else none))
noncomputable def f_X9_sumOf (a1 : Int32) (a2 : Int32) (a3 : Int32) (σ : um_S) : Option (Int32) :=
    um_let (a2 - (1 : Int32)) fun x1 =>
    ((f_X9_sumOf_l11 a3 σ um_N (0 : Int32) a1 x1).bind fun x3 =>
    (some x3))
set_option maxRecDepth 100000 in
set_option maxHeartbeats 4000000 in
theorem t_X9_sumOf_l11 {Q : State → Prop} {o4 : Int32} {σ : um_S} (v3 : Int32)  (Cx : um_C p s m meth c args cX9_sumOf 7 (some FieldType.int) RX9 Z) (hE : ∀ (H : Heap) (locs : List Loc) (ls : Array Slot), um_W Z msh α σ H → va_S (um_D msh α) s.heap H locs → lv_has ls 7 [(4, .int o4)] → W p l e { frames := 1, cells := 0, slots := 0, locals := 21 } s m args below meth c H locs 0 0 Q (F0 m 49 ls [])) : ∀ (n : Nat) (v4 : Int32) (v5 : Int32) (v6 : Int32) (H : Heap) (locs : List Loc) (ls : Array Slot), f_X9_sumOf_l11 v3 σ n v4 v5 v6 = some o4 → um_W Z msh α σ H → va_S (um_D msh α) s.heap H locs → lv_has ls 7 [(0, .ref (α 0)), (3, .int v3), (4, .int v4), (5, .int v5), (6, .int v6)] → W p l e { frames := 1, cells := 0, slots := 0, locals := 21 } s m args below meth c H locs 0 0 Q (F0 m 11 ls []) := by
  have hx := Cx.1
  have hb := Cx.2.1
  have hown := Cx.2.2.2.2.1
  have hts := Cx.2.2.2.2.2.1
  intro n
  induction n with
  | zero =>
    intro v4 v5 v6 H locs ls hf hW hS hl
    cases hf
  | succ n ih =>
    intro v4 v5 v6 H locs ls hf hW hS hl
    rw [f_X9_sumOf_l11] at hf
    refine lv_iload (pc := 11) hx hb dX9_sumOf_11 (lv_at hl 4 rfl) ?_
    refine lv_if_lt (pc := 13) (tgt := 49) hx hb dX9_sumOf_13 (by decide) (fun c1 => ?_) (fun c1 => ?_)
    · have hf := um_it c1 hf
      clear c1
      cases hf
      exact hE _ _ _ hW hS (lv_sub hl [2] rfl)
    · have hf := um_ie c1 hf
      clear c1
      refine lv_iload (pc := 16) hx hb dX9_sumOf_16 (lv_at hl 2 rfl) ?_
      refine lv_aload_n (pc := 18) hx hb dX9_sumOf_18 rfl (lv_at hl 0 rfl) ?_
      refine gF_X9_7 (pc := 19) Cx hW ms_0 rfl dX9_sumOf_19 ?_
      refine lv_iload (pc := 22) hx hb dX9_sumOf_22 (lv_at hl 4 rfl) ?_
      refine lv_iload (pc := 24) hx hb dX9_sumOf_24 (lv_at hl 3 rfl) ?_
      refine lv_iconst (pc := 26) (v := (3 : Int32)) hx hb dX9_sumOf_26 (by decide) ?_
      refine lv_irem (pc := 27) hx hb dX9_sumOf_27 (by decide) ?_
      obtain ⟨x2, hc1, hf⟩ := um_bi hf
      refine um_cSi (pc := 28) (As := [.int v6, .int (v5 - v5 / (3 : Int32) * (3 : Int32))]) (rest := [.ref (α 1), .int v4]) Cx (c_X9_wayAt v6 (v5 - v5 / (3 : Int32) * (3 : Int32)) hc1) kS_X9_wayAt (Or.inl qM_X9_368) hW hS rfl hl rfl (Nat.le_of_ble_eq_true rfl) (Nat.le_of_ble_eq_true rfl) (Nat.le_of_ble_eq_true rfl) dX9_sumOf_28 (Nat.le_refl _) (Nat.le_refl _) ?_
      clear hW hS hc1
      intro H locs hW hS
      refine lv_iload_n (pc := 31) hx hb dX9_sumOf_31 rfl (lv_at hl 1 rfl) ?_
      refine lv_iadd (pc := 32) hx hb dX9_sumOf_32 ?_
      obtain ⟨g3, hf⟩ := um_gu hf
      refine um_iald (pc := 33) Cx hW ms_1 rfl (um_ix_in g3) dX9_sumOf_33 ?_
      refine lv_iadd (pc := 34) hx hb dX9_sumOf_34 ?_
      obtain ⟨x4, e5, hf⟩ := um_le hf
      refine um_top e5 ?_
      clear e5
      refine lv_istore (pc := 35) (lv' := [(4, .int x4), (0, .ref (α 0)), (3, .int v3), (5, .int v5), (6, .int v6)]) hx hb dX9_sumOf_35 hl (by decide) rfl ?_
      clear hl
      intro ls hl
      refine lv_iload (pc := 37) hx hb dX9_sumOf_37 (lv_at hl 3 rfl) ?_
      refine lv_iconst (pc := 39) (v := (3 : Int32)) hx hb dX9_sumOf_39 (by decide) ?_
      refine lv_idiv (pc := 40) hx hb dX9_sumOf_40 (by decide) ?_
      obtain ⟨x6, e7, hf⟩ := um_le hf
      refine um_top e7 ?_
      clear e7
      refine lv_istore (pc := 41) (lv' := [(5, .int x6), (4, .int x4), (0, .ref (α 0)), (3, .int v3), (6, .int v6)]) hx hb dX9_sumOf_41 hl (by decide) rfl ?_
      clear hl
      intro ls hl
      refine lv_iinc (pc := 43) (v := v6 + (-1 : Int32)) (lv' := [(6, .int (v6 + (-1 : Int32))), (5, .int x6), (4, .int x4), (0, .ref (α 0)), (3, .int v3)]) hx hb dX9_sumOf_43 hl (k := 4) rfl rfl (by decide) rfl ?_
      clear hl
      intro ls hl
      refine lv_goto (pc := 46) (tgt := 11) hx hb dX9_sumOf_46 (by decide) ?_
      exact ih _ _ _ _ _ _ hf hW hS (lv_sub hl [3, 4, 2, 1, 0] rfl)
set_option maxRecDepth 100000 in
set_option maxHeartbeats 4000000 in
theorem b_X9_sumOf {H : Heap} {locs : List Loc} {ls : Array Slot} {σ : um_S} {r : Int32} (a1 : Int32) (a2 : Int32) (a3 : Int32)  (hf : f_X9_sumOf a1 a2 a3 σ = some r) (Cx : um_C p s m meth c args cX9_sumOf 7 (some FieldType.int) RX9 Z) (hW : um_W Z msh α σ H) (hS : va_S (um_D msh α) s.heap H locs) (hl : lv_has ls 7 [(0, .ref (α 0)), (1, .int a1), (2, .int a2), (3, .int a3)]) : um_G p l e (1) (21) s m args below meth c Z msh α σ (some (.int r)) H locs (F0 m 0 ls []) := by
  have hx := Cx.1
  have hb := Cx.2.1
  have hown := Cx.2.2.2.2.1
  have hts := Cx.2.2.2.2.2.1
  rw [f_X9_sumOf] at hf
  refine lv_iconst (pc := 0) (v := (0 : Int32)) hx hb dX9_sumOf_0 (by decide) ?_
  refine lv_istore (pc := 1) (lv' := [(4, .int (0 : Int32)), (0, .ref (α 0)), (1, .int a1), (2, .int a2), (3, .int a3)]) hx hb dX9_sumOf_1 hl (by decide) rfl ?_
  clear hl
  intro ls hl
  refine lv_iload_n (pc := 3) hx hb dX9_sumOf_3 rfl (lv_at hl 2 rfl) ?_
  refine lv_istore (pc := 4) (lv' := [(5, .int a1), (4, .int (0 : Int32)), (0, .ref (α 0)), (1, .int a1), (2, .int a2), (3, .int a3)]) hx hb dX9_sumOf_4 hl (by decide) rfl ?_
  clear hl
  intro ls hl
  refine lv_iload_n (pc := 6) hx hb dX9_sumOf_6 rfl (lv_at hl 4 rfl) ?_
  refine lv_iconst (pc := 7) (v := (1 : Int32)) hx hb dX9_sumOf_7 (by decide) ?_
  refine lv_isub (pc := 8) hx hb dX9_sumOf_8 ?_
  obtain ⟨x1, e2, hf⟩ := um_le hf
  refine um_top e2 ?_
  clear e2
  refine lv_istore (pc := 9) (lv' := [(6, .int x1), (5, .int a1), (4, .int (0 : Int32)), (0, .ref (α 0)), (1, .int a1), (2, .int a2), (3, .int a3)]) hx hb dX9_sumOf_9 hl (by decide) rfl ?_
  clear hl
  intro ls hl
  obtain ⟨x3, hc4, hf⟩ := um_bi hf
  refine t_X9_sumOf_l11 a3 Cx ?_ um_N _ _ _ _ _ _ hc4 hW hS (lv_sub hl [3, 6, 2, 1, 0] rfl)
  clear hW hS hl hc4
  intro H locs ls hW hS hl
  refine lv_iload (pc := 49) hx hb dX9_sumOf_49 (lv_at hl 0 rfl) ?_
  exact um_iretR (pc := 51) Cx hW hS hf dX9_sumOf_51
theorem c_X9_sumOf {σ : um_S} {r : Int32} (a1 : Int32) (a2 : Int32) (a3 : Int32)  (hf : f_X9_sumOf a1 a2 a3 σ = some r) : um_M l yX9_sumOf cX9_sumOf 7 (some FieldType.int) (1) (21) Z msh α σ [.ref (α 0), .int a1, .int a2, .int a3] (some (.int r)) σ :=
  um_start (by decide) (Nat.le_of_ble_eq_true rfl) (fun p e s m below meth c ls Cx hW hS hl => b_X9_sumOf a1 a2 a3 hf Cx hW hS hl)
noncomputable def f_X9_plan_l45 (v1 : Int32) (v2 : Int32) (v3 : Int32) (σ : um_S) : Nat → Int32 → Int32 → Option (Int32)
  | 0, _, _ => none
  | n + 1, v4, v5 =>
    if v1 ≤ v5 then
    (some v4)
    else
    (um_let (v4 * (3 : Int32)) fun x1 =>
    (f_X9_plan_l45 v1 v2 v3 σ n x1 (v5 + (1 : Int32))))
noncomputable def f_X9_plan_l69 (v1 : Int32) (v2 : Int32) (v3 : Int32) (v4 : Int32) (σ : um_S) : Nat → Int32 → Int32 → Option (Int32)
  | 0, _, _ => none
  | n + 1, v5, v6 =>
    if v4 ≤ v6 then
    (some v5)
    else
    ((f_X9_sumOf v6 v1 (1 : Int32) σ).bind fun x2 =>
    (if v2 < x2 then
    (f_X9_plan_l69 v1 v2 v3 v4 σ n v5 (v6 + (1 : Int32)))
    else
    (if v5 < 0 then
    (f_X9_plan_l69 v1 v2 v3 v4 σ n v6 (v6 + (1 : Int32)))
    else
    ((f_X9_sumOf v6 v1 (0 : Int32) σ).bind fun x4 =>
    ((f_X9_sumOf v5 v1 (0 : Int32) σ).bind fun x6 =>
    (if x6 ≤ x4 then
    (f_X9_plan_l69 v1 v2 v3 v4 σ n v5 (v6 + (1 : Int32)))
    else
    (f_X9_plan_l69 v1 v2 v3 v4 σ n v6 (v6 + (1 : Int32)))))))))
noncomputable def f_X9_plan (a1 : Int32) (a2 : Int32) (a3 : Int32) (σ : um_S) : Option (Int32) :=
    (f_X9_isIn (a1.toInt64) (1 : Int64) (6 : Int64) σ).bind fun x2 =>
    (if (um_b x2) = 0 then
    (some (-1000000001 : Int32))
    else
    ((f_X9_isIn (a2.toInt64) (0 : Int64) (999 : Int64) σ).bind fun x4 =>
    (if (um_b x4) = 0 then
    (some (-1000000001 : Int32))
    else
    ((f_X9_isIn (a3.toInt64) (0 : Int64) (2 : Int64) σ).bind fun x6 =>
    (if (um_b x6) = 0 then
    (some (-1000000001 : Int32))
    else
    ((f_X9_plan_l45 a1 a2 a3 σ um_N (1 : Int32) (0 : Int32)).bind fun x7 =>
    ((f_X9_plan_l69 a1 a2 a3 x7 σ um_N (-1 : Int32) (0 : Int32)).bind fun x9 =>
    (if 0 ≤ x9 then
    (if a3 = (2 : Int32) then
    (some x9)
    else
    ((f_X9_sumOf x9 a1 a3 σ).bind fun x12 =>
    (some x12)))
    else
    (some (-1000000005 : Int32))))))))))
set_option maxRecDepth 100000 in
set_option maxHeartbeats 4000000 in
theorem t_X9_plan_l45 {Q : State → Prop} {o4 : Int32} {σ : um_S} (v1 : Int32) (v2 : Int32) (v3 : Int32)  (Cx : um_C p s m meth c args cX9_plan 7 (some FieldType.int) RX9 Z) (hE : ∀ (H : Heap) (locs : List Loc) (ls : Array Slot), um_W Z msh α σ H → va_S (um_D msh α) s.heap H locs → lv_has ls 7 [(0, .ref (α 0)), (1, .int v1), (2, .int v2), (3, .int v3), (4, .int o4)] → W p l e { frames := 2, cells := 0, slots := 0, locals := 47 } s m args below meth c H locs 0 0 Q (F0 m 63 ls [])) : ∀ (n : Nat) (v4 : Int32) (v5 : Int32) (H : Heap) (locs : List Loc) (ls : Array Slot), f_X9_plan_l45 v1 v2 v3 σ n v4 v5 = some o4 → um_W Z msh α σ H → va_S (um_D msh α) s.heap H locs → lv_has ls 7 [(0, .ref (α 0)), (1, .int v1), (2, .int v2), (3, .int v3), (4, .int v4), (5, .int v5)] → W p l e { frames := 2, cells := 0, slots := 0, locals := 47 } s m args below meth c H locs 0 0 Q (F0 m 45 ls []) := by
  have hx := Cx.1
  have hb := Cx.2.1
  have hown := Cx.2.2.2.2.1
  have hts := Cx.2.2.2.2.2.1
  intro n
  induction n with
  | zero =>
    intro v4 v5 H locs ls hf hW hS hl
    cases hf
  | succ n ih =>
    intro v4 v5 H locs ls hf hW hS hl
    rw [f_X9_plan_l45] at hf
    refine lv_iload (pc := 45) hx hb dX9_plan_45 (lv_at hl 5 rfl) ?_
    refine lv_iload_n (pc := 47) hx hb dX9_plan_47 rfl (lv_at hl 1 rfl) ?_
    refine lv_icmp_ge (pc := 48) (tgt := 63) hx hb dX9_plan_48 (by decide) (fun c1 => ?_) (fun c1 => ?_)
    · have hf := um_it c1 hf
      clear c1
      cases hf
      exact hE _ _ _ hW hS (lv_sub hl [0, 1, 2, 3, 4] rfl)
    · have hf := um_ie c1 hf
      clear c1
      refine lv_iload (pc := 51) hx hb dX9_plan_51 (lv_at hl 4 rfl) ?_
      refine lv_iconst (pc := 53) (v := (3 : Int32)) hx hb dX9_plan_53 (by decide) ?_
      refine lv_imul (pc := 54) hx hb dX9_plan_54 ?_
      obtain ⟨x1, e2, hf⟩ := um_le hf
      refine um_top e2 ?_
      clear e2
      refine lv_istore (pc := 55) (lv' := [(4, .int x1), (0, .ref (α 0)), (1, .int v1), (2, .int v2), (3, .int v3), (5, .int v5)]) hx hb dX9_plan_55 hl (by decide) rfl ?_
      clear hl
      intro ls hl
      refine lv_iinc (pc := 57) (v := v5 + (1 : Int32)) (lv' := [(5, .int (v5 + (1 : Int32))), (4, .int x1), (0, .ref (α 0)), (1, .int v1), (2, .int v2), (3, .int v3)]) hx hb dX9_plan_57 hl (k := 5) rfl rfl (by decide) rfl ?_
      clear hl
      intro ls hl
      refine lv_goto (pc := 60) (tgt := 45) hx hb dX9_plan_60 (by decide) ?_
      exact ih _ _ _ _ _ hf hW hS (lv_sub hl [2, 3, 4, 5, 1, 0] rfl)
set_option maxRecDepth 100000 in
set_option maxHeartbeats 4000000 in
theorem t_X9_plan_l69 {Q : State → Prop} {o5 : Int32} {σ : um_S} (v1 : Int32) (v2 : Int32) (v3 : Int32) (v4 : Int32)  (Cx : um_C p s m meth c args cX9_plan 7 (some FieldType.int) RX9 Z) (hE : ∀ (H : Heap) (locs : List Loc) (ls : Array Slot), um_W Z msh α σ H → va_S (um_D msh α) s.heap H locs → lv_has ls 7 [(0, .ref (α 0)), (1, .int v1), (3, .int v3), (5, .int o5)] → W p l e { frames := 2, cells := 0, slots := 0, locals := 47 } s m args below meth c H locs 0 0 Q (F0 m 122 ls [])) : ∀ (n : Nat) (v5 : Int32) (v6 : Int32) (H : Heap) (locs : List Loc) (ls : Array Slot), f_X9_plan_l69 v1 v2 v3 v4 σ n v5 v6 = some o5 → um_W Z msh α σ H → va_S (um_D msh α) s.heap H locs → lv_has ls 7 [(0, .ref (α 0)), (1, .int v1), (2, .int v2), (3, .int v3), (4, .int v4), (5, .int v5), (6, .int v6)] → W p l e { frames := 2, cells := 0, slots := 0, locals := 47 } s m args below meth c H locs 0 0 Q (F0 m 69 ls []) := by
  have hx := Cx.1
  have hb := Cx.2.1
  have hown := Cx.2.2.2.2.1
  have hts := Cx.2.2.2.2.2.1
  intro n
  induction n with
  | zero =>
    intro v5 v6 H locs ls hf hW hS hl
    cases hf
  | succ n ih =>
    intro v5 v6 H locs ls hf hW hS hl
    rw [f_X9_plan_l69] at hf
    refine lv_iload (pc := 69) hx hb dX9_plan_69 (lv_at hl 6 rfl) ?_
    refine lv_iload (pc := 71) hx hb dX9_plan_71 (lv_at hl 4 rfl) ?_
    refine lv_icmp_ge (pc := 73) (tgt := 122) hx hb dX9_plan_73 (by decide) (fun c1 => ?_) (fun c1 => ?_)
    · have hf := um_it c1 hf
      clear c1
      cases hf
      exact hE _ _ _ hW hS (lv_sub hl [0, 1, 3, 5] rfl)
    · have hf := um_ie c1 hf
      clear c1
      refine lv_aload_n (pc := 76) hx hb dX9_plan_76 rfl (lv_at hl 0 rfl) ?_
      refine lv_iload (pc := 77) hx hb dX9_plan_77 (lv_at hl 6 rfl) ?_
      refine lv_iload_n (pc := 79) hx hb dX9_plan_79 rfl (lv_at hl 1 rfl) ?_
      refine lv_iconst (pc := 80) (v := (1 : Int32)) hx hb dX9_plan_80 (by decide) ?_
      obtain ⟨x2, hc1, hf⟩ := um_bi hf
      refine um_cVi (pc := 81) (As := [.int v6, .int v1, .int (1 : Int32)]) (rest := []) Cx (c_X9_sumOf v6 v1 (1 : Int32) hc1) kV_X9_sumOf (Or.inl qM_X9_371) hW hS ms_0 rfl rfl hl rfl (Nat.le_of_ble_eq_true rfl) (Nat.le_of_ble_eq_true rfl) (Nat.le_of_ble_eq_true rfl) dX9_plan_81 (Nat.le_refl _) (Nat.le_refl _) ?_
      clear hW hS hc1
      intro H locs hW hS
      refine lv_iload_n (pc := 84) hx hb dX9_plan_84 rfl (lv_at hl 2 rfl) ?_
      refine lv_icmp_gt (pc := 85) (tgt := 116) hx hb dX9_plan_85 (by decide) (fun c1 => ?_) (fun c1 => ?_)
      · have hf := um_it c1 hf
        clear c1
        refine lv_iinc (pc := 116) (v := v6 + (1 : Int32)) (lv' := [(6, .int (v6 + (1 : Int32))), (0, .ref (α 0)), (1, .int v1), (2, .int v2), (3, .int v3), (4, .int v4), (5, .int v5)]) hx hb dX9_plan_116 hl (k := 6) rfl rfl (by decide) rfl ?_
        clear hl
        intro ls hl
        refine lv_goto (pc := 119) (tgt := 69) hx hb dX9_plan_119 (by decide) ?_
        exact ih _ _ _ _ _ hf hW hS (lv_sub hl [1, 2, 3, 4, 5, 6, 0] rfl)
      · have hf := um_ie c1 hf
        clear c1
        refine lv_iload (pc := 88) hx hb dX9_plan_88 (lv_at hl 5 rfl) ?_
        refine lv_if_lt (pc := 90) (tgt := 112) hx hb dX9_plan_90 (by decide) (fun c1 => ?_) (fun c1 => ?_)
        · have hf := um_it c1 hf
          clear c1
          refine lv_iload (pc := 112) hx hb dX9_plan_112 (lv_at hl 6 rfl) ?_
          refine lv_istore (pc := 114) (lv' := [(5, .int v6), (0, .ref (α 0)), (1, .int v1), (2, .int v2), (3, .int v3), (4, .int v4), (6, .int v6)]) hx hb dX9_plan_114 hl (by decide) rfl ?_
          clear hl
          intro ls hl
          refine lv_iinc (pc := 116) (v := v6 + (1 : Int32)) (lv' := [(6, .int (v6 + (1 : Int32))), (5, .int v6), (0, .ref (α 0)), (1, .int v1), (2, .int v2), (3, .int v3), (4, .int v4)]) hx hb dX9_plan_116 hl (k := 6) rfl rfl (by decide) rfl ?_
          clear hl
          intro ls hl
          refine lv_goto (pc := 119) (tgt := 69) hx hb dX9_plan_119 (by decide) ?_
          exact ih _ _ _ _ _ hf hW hS (lv_sub hl [2, 3, 4, 5, 6, 1, 0] rfl)
        · have hf := um_ie c1 hf
          clear c1
          refine lv_aload_n (pc := 93) hx hb dX9_plan_93 rfl (lv_at hl 0 rfl) ?_
          refine lv_iload (pc := 94) hx hb dX9_plan_94 (lv_at hl 6 rfl) ?_
          refine lv_iload_n (pc := 96) hx hb dX9_plan_96 rfl (lv_at hl 1 rfl) ?_
          refine lv_iconst (pc := 97) (v := (0 : Int32)) hx hb dX9_plan_97 (by decide) ?_
          obtain ⟨x4, hc3, hf⟩ := um_bi hf
          refine um_cVi (pc := 98) (As := [.int v6, .int v1, .int (0 : Int32)]) (rest := []) Cx (c_X9_sumOf v6 v1 (0 : Int32) hc3) kV_X9_sumOf (Or.inl qM_X9_371) hW hS ms_0 rfl rfl hl rfl (Nat.le_of_ble_eq_true rfl) (Nat.le_of_ble_eq_true rfl) (Nat.le_of_ble_eq_true rfl) dX9_plan_98 (Nat.le_refl _) (Nat.le_refl _) ?_
          clear hW hS hc3
          intro H locs hW hS
          refine lv_aload_n (pc := 101) hx hb dX9_plan_101 rfl (lv_at hl 0 rfl) ?_
          refine lv_iload (pc := 102) hx hb dX9_plan_102 (lv_at hl 5 rfl) ?_
          refine lv_iload_n (pc := 104) hx hb dX9_plan_104 rfl (lv_at hl 1 rfl) ?_
          refine lv_iconst (pc := 105) (v := (0 : Int32)) hx hb dX9_plan_105 (by decide) ?_
          obtain ⟨x6, hc5, hf⟩ := um_bi hf
          refine um_cVi (pc := 106) (As := [.int v5, .int v1, .int (0 : Int32)]) (rest := [.int x4]) Cx (c_X9_sumOf v5 v1 (0 : Int32) hc5) kV_X9_sumOf (Or.inl qM_X9_371) hW hS ms_0 rfl rfl hl rfl (Nat.le_of_ble_eq_true rfl) (Nat.le_of_ble_eq_true rfl) (Nat.le_of_ble_eq_true rfl) dX9_plan_106 (Nat.le_refl _) (Nat.le_refl _) ?_
          clear hW hS hc5
          intro H locs hW hS
          refine lv_icmp_ge (pc := 109) (tgt := 116) hx hb dX9_plan_109 (by decide) (fun c1 => ?_) (fun c1 => ?_)
          · have hf := um_it c1 hf
            clear c1
            refine lv_iinc (pc := 116) (v := v6 + (1 : Int32)) (lv' := [(6, .int (v6 + (1 : Int32))), (0, .ref (α 0)), (1, .int v1), (2, .int v2), (3, .int v3), (4, .int v4), (5, .int v5)]) hx hb dX9_plan_116 hl (k := 6) rfl rfl (by decide) rfl ?_
            clear hl
            intro ls hl
            refine lv_goto (pc := 119) (tgt := 69) hx hb dX9_plan_119 (by decide) ?_
            exact ih _ _ _ _ _ hf hW hS (lv_sub hl [1, 2, 3, 4, 5, 6, 0] rfl)
          · have hf := um_ie c1 hf
            clear c1
            refine lv_iload (pc := 112) hx hb dX9_plan_112 (lv_at hl 6 rfl) ?_
            refine lv_istore (pc := 114) (lv' := [(5, .int v6), (0, .ref (α 0)), (1, .int v1), (2, .int v2), (3, .int v3), (4, .int v4), (6, .int v6)]) hx hb dX9_plan_114 hl (by decide) rfl ?_
            clear hl
            intro ls hl
            refine lv_iinc (pc := 116) (v := v6 + (1 : Int32)) (lv' := [(6, .int (v6 + (1 : Int32))), (5, .int v6), (0, .ref (α 0)), (1, .int v1), (2, .int v2), (3, .int v3), (4, .int v4)]) hx hb dX9_plan_116 hl (k := 6) rfl rfl (by decide) rfl ?_
            clear hl
            intro ls hl
            refine lv_goto (pc := 119) (tgt := 69) hx hb dX9_plan_119 (by decide) ?_
            exact ih _ _ _ _ _ hf hW hS (lv_sub hl [2, 3, 4, 5, 6, 1, 0] rfl)
set_option maxRecDepth 100000 in
set_option maxHeartbeats 4000000 in
theorem b_X9_plan {H : Heap} {locs : List Loc} {ls : Array Slot} {σ : um_S} {r : Int32} (a1 : Int32) (a2 : Int32) (a3 : Int32)  (hf : f_X9_plan a1 a2 a3 σ = some r) (Cx : um_C p s m meth c args cX9_plan 7 (some FieldType.int) RX9 Z) (hW : um_W Z msh α σ H) (hS : va_S (um_D msh α) s.heap H locs) (hl : lv_has ls 7 [(0, .ref (α 0)), (1, .int a1), (2, .int a2), (3, .int a3)]) : um_G p l e (2) (47) s m args below meth c Z msh α σ (some (.int r)) H locs (F0 m 0 ls []) := by
  have hx := Cx.1
  have hb := Cx.2.1
  have hown := Cx.2.2.2.2.1
  have hts := Cx.2.2.2.2.2.1
  rw [f_X9_plan] at hf
  refine lv_iload_n (pc := 0) hx hb dX9_plan_0 rfl (lv_at hl 1 rfl) ?_
  refine lv_i2l (pc := 1) hx hb dX9_plan_1 rfl ?_
  refine lv_lconst (pc := 2) (v := (1 : Int64)) hx hb dX9_plan_2 (by decide) ?_
  refine lv_ldc2 (pc := 3) hx hb hown (hts _ qL_X9_316) dX9_plan_3 ?_
  obtain ⟨x2, hc1, hf⟩ := um_bi hf
  refine um_cSi (pc := 6) (As := [.long (a1.toInt64), .long (1 : Int64), .long (6 : Int64)]) (rest := []) Cx (c_X9_isIn (a1.toInt64) (1 : Int64) (6 : Int64) hc1) kS_X9_isIn (Or.inl qM_X9_60) hW hS rfl hl rfl (Nat.le_of_ble_eq_true rfl) (Nat.le_of_ble_eq_true rfl) (Nat.le_of_ble_eq_true rfl) dX9_plan_6 (Nat.le_refl _) (Nat.le_refl _) ?_
  clear hW hS hc1
  intro H locs hW hS
  refine lv_if_eq (pc := 9) (tgt := 36) hx hb dX9_plan_9 (by decide) (fun c1 => ?_) (fun c1 => ?_)
  · have hf := um_it c1 hf
    clear c1
    refine lv_ldc (pc := 36) hx hb hown (hts _ qC_X9_87) dX9_plan_36 ?_
    exact um_iretR (pc := 38) Cx hW hS hf dX9_plan_38
  · have hf := um_ie c1 hf
    clear c1
    refine lv_iload_n (pc := 12) hx hb dX9_plan_12 rfl (lv_at hl 2 rfl) ?_
    refine lv_i2l (pc := 13) hx hb dX9_plan_13 rfl ?_
    refine lv_lconst (pc := 14) (v := (0 : Int64)) hx hb dX9_plan_14 (by decide) ?_
    refine lv_ldc2 (pc := 15) hx hb hown (hts _ qL_X9_104) dX9_plan_15 ?_
    obtain ⟨x4, hc3, hf⟩ := um_bi hf
    refine um_cSi (pc := 18) (As := [.long (a2.toInt64), .long (0 : Int64), .long (999 : Int64)]) (rest := []) Cx (c_X9_isIn (a2.toInt64) (0 : Int64) (999 : Int64) hc3) kS_X9_isIn (Or.inl qM_X9_60) hW hS rfl hl rfl (Nat.le_of_ble_eq_true rfl) (Nat.le_of_ble_eq_true rfl) (Nat.le_of_ble_eq_true rfl) dX9_plan_18 (Nat.le_refl _) (Nat.le_refl _) ?_
    clear hW hS hc3
    intro H locs hW hS
    refine lv_if_eq (pc := 21) (tgt := 36) hx hb dX9_plan_21 (by decide) (fun c1 => ?_) (fun c1 => ?_)
    · have hf := um_it c1 hf
      clear c1
      refine lv_ldc (pc := 36) hx hb hown (hts _ qC_X9_87) dX9_plan_36 ?_
      exact um_iretR (pc := 38) Cx hW hS hf dX9_plan_38
    · have hf := um_ie c1 hf
      clear c1
      refine lv_iload_n (pc := 24) hx hb dX9_plan_24 rfl (lv_at hl 3 rfl) ?_
      refine lv_i2l (pc := 25) hx hb dX9_plan_25 rfl ?_
      refine lv_lconst (pc := 26) (v := (0 : Int64)) hx hb dX9_plan_26 (by decide) ?_
      refine lv_ldc2 (pc := 27) hx hb hown (hts _ qL_X9_241) dX9_plan_27 ?_
      obtain ⟨x6, hc5, hf⟩ := um_bi hf
      refine um_cSi (pc := 30) (As := [.long (a3.toInt64), .long (0 : Int64), .long (2 : Int64)]) (rest := []) Cx (c_X9_isIn (a3.toInt64) (0 : Int64) (2 : Int64) hc5) kS_X9_isIn (Or.inl qM_X9_60) hW hS rfl hl rfl (Nat.le_of_ble_eq_true rfl) (Nat.le_of_ble_eq_true rfl) (Nat.le_of_ble_eq_true rfl) dX9_plan_30 (Nat.le_refl _) (Nat.le_refl _) ?_
      clear hW hS hc5
      intro H locs hW hS
      refine lv_if_ne (pc := 33) (tgt := 39) hx hb dX9_plan_33 (by decide) (fun c1 => ?_) (fun c1 => ?_)
      · have hf := um_ie c1 hf
        clear c1
        refine lv_iconst (pc := 39) (v := (1 : Int32)) hx hb dX9_plan_39 (by decide) ?_
        refine lv_istore (pc := 40) (lv' := [(4, .int (1 : Int32)), (0, .ref (α 0)), (1, .int a1), (2, .int a2), (3, .int a3)]) hx hb dX9_plan_40 hl (by decide) rfl ?_
        clear hl
        intro ls hl
        refine lv_iconst (pc := 42) (v := (0 : Int32)) hx hb dX9_plan_42 (by decide) ?_
        refine lv_istore (pc := 43) (lv' := [(5, .int (0 : Int32)), (4, .int (1 : Int32)), (0, .ref (α 0)), (1, .int a1), (2, .int a2), (3, .int a3)]) hx hb dX9_plan_43 hl (by decide) rfl ?_
        clear hl
        intro ls hl
        obtain ⟨x7, hc8, hf⟩ := um_bi hf
        refine t_X9_plan_l45 a1 a2 a3 Cx ?_ um_N _ _ _ _ _ hc8 hW hS (lv_sub hl [2, 3, 4, 5, 1, 0] rfl)
        clear hW hS hl hc8
        intro H locs ls hW hS hl
        refine lv_iconst (pc := 63) (v := (-1 : Int32)) hx hb dX9_plan_63 (by decide) ?_
        refine lv_istore (pc := 64) (lv' := [(5, .int (-1 : Int32)), (0, .ref (α 0)), (1, .int a1), (2, .int a2), (3, .int a3), (4, .int x7)]) hx hb dX9_plan_64 hl (by decide) rfl ?_
        clear hl
        intro ls hl
        refine lv_iconst (pc := 66) (v := (0 : Int32)) hx hb dX9_plan_66 (by decide) ?_
        refine lv_istore (pc := 67) (lv' := [(6, .int (0 : Int32)), (5, .int (-1 : Int32)), (0, .ref (α 0)), (1, .int a1), (2, .int a2), (3, .int a3), (4, .int x7)]) hx hb dX9_plan_67 hl (by decide) rfl ?_
        clear hl
        intro ls hl
        obtain ⟨x9, hc10, hf⟩ := um_bi hf
        refine t_X9_plan_l69 a1 a2 a3 x7 Cx ?_ um_N _ _ _ _ _ hc10 hW hS (lv_sub hl [2, 3, 4, 5, 6, 1, 0] rfl)
        clear hW hS hl hc10
        intro H locs ls hW hS hl
        refine lv_iload (pc := 122) hx hb dX9_plan_122 (lv_at hl 3 rfl) ?_
        refine lv_if_ge (pc := 124) (tgt := 132) hx hb dX9_plan_124 (by decide) (fun c1 => ?_) (fun c1 => ?_)
        · have hf := um_it c1 hf
          clear c1
          refine lv_iload_n (pc := 132) hx hb dX9_plan_132 rfl (lv_at hl 2 rfl) ?_
          refine lv_iconst (pc := 133) (v := (2 : Int32)) hx hb dX9_plan_133 (by decide) ?_
          refine lv_icmp_ne (pc := 134) (tgt := 142) hx hb dX9_plan_134 (by decide) (fun c1 => ?_) (fun c1 => ?_)
          · have hf := um_ie c1 hf
            clear c1
            refine lv_aload_n (pc := 142) hx hb dX9_plan_142 rfl (lv_at hl 0 rfl) ?_
            refine lv_iload (pc := 143) hx hb dX9_plan_143 (lv_at hl 3 rfl) ?_
            refine lv_iload_n (pc := 145) hx hb dX9_plan_145 rfl (lv_at hl 1 rfl) ?_
            refine lv_iload_n (pc := 146) hx hb dX9_plan_146 rfl (lv_at hl 2 rfl) ?_
            obtain ⟨x12, hc11, hf⟩ := um_bi hf
            refine um_cVi (pc := 147) (As := [.int x9, .int a1, .int a3]) (rest := []) Cx (c_X9_sumOf x9 a1 a3 hc11) kV_X9_sumOf (Or.inl qM_X9_371) hW hS ms_0 rfl rfl hl rfl (Nat.le_of_ble_eq_true rfl) (Nat.le_of_ble_eq_true rfl) (Nat.le_of_ble_eq_true rfl) dX9_plan_147 (Nat.le_refl _) (Nat.le_refl _) ?_
            clear hW hS hc11
            intro H locs hW hS
            exact um_iretR (pc := 150) Cx hW hS hf dX9_plan_150
          · have hf := um_it c1 hf
            clear c1
            refine lv_iload (pc := 137) hx hb dX9_plan_137 (lv_at hl 3 rfl) ?_
            refine lv_goto (pc := 139) (tgt := 150) hx hb dX9_plan_139 (by decide) ?_
            exact um_iretR (pc := 150) Cx hW hS hf dX9_plan_150
        · have hf := um_ie c1 hf
          clear c1
          refine lv_ldc (pc := 127) hx hb hown (hts _ qC_X9_59) dX9_plan_127 ?_
          refine lv_goto (pc := 129) (tgt := 150) hx hb dX9_plan_129 (by decide) ?_
          exact um_iretR (pc := 150) Cx hW hS hf dX9_plan_150
      · have hf := um_it c1 hf
        clear c1
        refine lv_ldc (pc := 36) hx hb hown (hts _ qC_X9_87) dX9_plan_36 ?_
        exact um_iretR (pc := 38) Cx hW hS hf dX9_plan_38
theorem c_X9_plan {σ : um_S} {r : Int32} (a1 : Int32) (a2 : Int32) (a3 : Int32)  (hf : f_X9_plan a1 a2 a3 σ = some r) : um_M l yX9_plan cX9_plan 7 (some FieldType.int) (2) (47) Z msh α σ [.ref (α 0), .int a1, .int a2, .int a3] (some (.int r)) σ :=
  um_start (by decide) (Nat.le_of_ble_eq_true rfl) (fun p e s m below meth c ls Cx hW hS hl => b_X9_plan a1 a2 a3 hf Cx hW hS hl)
noncomputable def f_X9_put (a1 : Int32) (a2 : Int32) (a3 : Int32) (σ : um_S) : Option (Int32 × um_S) :=
    (f_X9_lacks a1 a2 σ).bind fun x2 =>
    (if x2 = 0 then
    (if um_ix a1 4 then
    (if (σ.1 4 a1.toNatClampNeg) = 0 then
    (if um_ix (((24 : Int32) * a1) + a2) 96 then
    (um_let (um_wr σ 6 (((24 : Int32) * a1) + a2).toNatClampNeg ((a3 <<< ((24 : Int32) &&& 31)) >>> ((24 : Int32) &&& 31))) fun σ8 =>
    (some ((1 : Int32), σ8))) else none)
    else
    (if um_ix (((24 : Int32) * a1) + a2) 96 then
    (um_let (um_wr σ 6 (((24 : Int32) * a1) + a2).toNatClampNeg ((a3 <<< ((16 : Int32) &&& 31)) >>> ((16 : Int32) &&& 31))) fun σ5 =>
    (some ((1 : Int32), σ5))) else none)) else none)
    else
    (some (x2, σ)))
set_option maxRecDepth 100000 in
set_option maxHeartbeats 4000000 in
theorem b_X9_put {H : Heap} {locs : List Loc} {ls : Array Slot} {σ : um_S} {σ' : um_S} {r : Int32} (a1 : Int32) (a2 : Int32) (a3 : Int32)  (hf : f_X9_put a1 a2 a3 σ = some (r, σ')) (Cx : um_C p s m meth c args cX9_put 5 (some FieldType.int) RX9 Z) (hW : um_W Z msh α σ H) (hS : va_S (um_D msh α) s.heap H locs) (hl : lv_has ls 5 [(0, .ref (α 0)), (1, .int a1), (2, .int a2), (3, .int a3)]) : um_G p l e (3) (67) s m args below meth c Z msh α σ' (some (.int r)) H locs (F0 m 0 ls []) := by
  have hx := Cx.1
  have hb := Cx.2.1
  have hown := Cx.2.2.2.2.1
  have hts := Cx.2.2.2.2.2.1
  rw [f_X9_put] at hf
  refine lv_aload_n (pc := 0) hx hb dX9_put_0 rfl (lv_at hl 0 rfl) ?_
  refine lv_iload_n (pc := 1) hx hb dX9_put_1 rfl (lv_at hl 1 rfl) ?_
  refine lv_iload_n (pc := 2) hx hb dX9_put_2 rfl (lv_at hl 2 rfl) ?_
  obtain ⟨x2, hc1, hf⟩ := um_bi hf
  refine um_cVi (pc := 3) (As := [.int a1, .int a2]) (rest := []) Cx (c_X9_lacks a1 a2 hc1) kV_X9_lacks (Or.inl qM_X9_382) hW hS ms_0 rfl rfl hl rfl (Nat.le_of_ble_eq_true rfl) (Nat.le_of_ble_eq_true rfl) (Nat.le_of_ble_eq_true rfl) dX9_put_3 (Nat.le_refl _) (Nat.le_refl _) ?_
  clear hW hS hc1
  intro H locs hW hS
  refine lv_istore (pc := 6) (lv' := [(4, .int x2), (0, .ref (α 0)), (1, .int a1), (2, .int a2), (3, .int a3)]) hx hb dX9_put_6 hl (by decide) rfl ?_
  clear hl
  intro ls hl
  refine lv_iload (pc := 8) hx hb dX9_put_8 (lv_at hl 0 rfl) ?_
  refine lv_if_eq (pc := 10) (tgt := 16) hx hb dX9_put_10 (by decide) (fun c1 => ?_) (fun c1 => ?_)
  · have hf := um_it c1 hf
    clear c1
    refine lv_aload_n (pc := 16) hx hb dX9_put_16 rfl (lv_at hl 1 rfl) ?_
    refine gF_X9_25 (pc := 17) Cx hW ms_0 rfl dX9_put_17 ?_
    refine lv_bipush (pc := 20) (v := (24 : Int32)) hx hb dX9_put_20 (by decide) ?_
    refine lv_iload_n (pc := 22) hx hb dX9_put_22 rfl (lv_at hl 2 rfl) ?_
    refine lv_imul (pc := 23) hx hb dX9_put_23 ?_
    refine lv_iload_n (pc := 24) hx hb dX9_put_24 rfl (lv_at hl 3 rfl) ?_
    refine lv_iadd (pc := 25) hx hb dX9_put_25 ?_
    refine lv_aload_n (pc := 26) hx hb dX9_put_26 rfl (lv_at hl 1 rfl) ?_
    refine gF_X9_19 (pc := 27) Cx hW ms_0 rfl dX9_put_27 ?_
    refine lv_iload_n (pc := 30) hx hb dX9_put_30 rfl (lv_at hl 2 rfl) ?_
    obtain ⟨g3, hf⟩ := um_gu hf
    refine um_iald (pc := 31) Cx hW ms_4 rfl (um_ix_in g3) dX9_put_31 ?_
    refine lv_if_ne (pc := 32) (tgt := 45) hx hb dX9_put_32 (by decide) (fun c1 => ?_) (fun c1 => ?_)
    · have hf := um_ie c1 hf
      clear c1
      refine lv_iload_n (pc := 45) hx hb dX9_put_45 rfl (lv_at hl 4 rfl) ?_
      refine lv_bipush (pc := 46) (v := (16 : Int32)) hx hb dX9_put_46 (by decide) ?_
      refine lv_ishl (pc := 48) hx hb dX9_put_48 ?_
      refine lv_bipush (pc := 49) (v := (16 : Int32)) hx hb dX9_put_49 (by decide) ?_
      refine lv_ishr (pc := 51) hx hb dX9_put_51 ?_
      obtain ⟨g4, hf⟩ := um_gu hf
      refine um_iast (pc := 52) Cx hW hS ms_6 rfl (um_ix_in g4) dX9_put_52 ?_
      clear hW hS
      intro H locs hW hS
      obtain ⟨σ5, e6, hf⟩ := um_le hf
      rw [← e6] at hW
      clear e6
      refine lv_iconst (pc := 53) (v := (1 : Int32)) hx hb dX9_put_53 (by decide) ?_
      exact um_iret (pc := 54) Cx hW hS hf dX9_put_54
    · have hf := um_it c1 hf
      clear c1
      refine lv_iload_n (pc := 35) hx hb dX9_put_35 rfl (lv_at hl 4 rfl) ?_
      refine lv_bipush (pc := 36) (v := (24 : Int32)) hx hb dX9_put_36 (by decide) ?_
      refine lv_ishl (pc := 38) hx hb dX9_put_38 ?_
      refine lv_bipush (pc := 39) (v := (24 : Int32)) hx hb dX9_put_39 (by decide) ?_
      refine lv_ishr (pc := 41) hx hb dX9_put_41 ?_
      refine lv_goto (pc := 42) (tgt := 52) hx hb dX9_put_42 (by decide) ?_
      obtain ⟨g7, hf⟩ := um_gu hf
      refine um_iast (pc := 52) Cx hW hS ms_6 rfl (um_ix_in g7) dX9_put_52 ?_
      clear hW hS
      intro H locs hW hS
      obtain ⟨σ8, e9, hf⟩ := um_le hf
      rw [← e9] at hW
      clear e9
      refine lv_iconst (pc := 53) (v := (1 : Int32)) hx hb dX9_put_53 (by decide) ?_
      exact um_iret (pc := 54) Cx hW hS hf dX9_put_54
  · have hf := um_ie c1 hf
    clear c1
    refine lv_iload (pc := 13) hx hb dX9_put_13 (lv_at hl 0 rfl) ?_
    exact um_iret (pc := 15) Cx hW hS hf dX9_put_15
theorem c_X9_put {σ : um_S} {σ' : um_S} {r : Int32} (a1 : Int32) (a2 : Int32) (a3 : Int32)  (hf : f_X9_put a1 a2 a3 σ = some (r, σ')) : um_M l yX9_put cX9_put 5 (some FieldType.int) (3) (67) Z msh α σ [.ref (α 0), .int a1, .int a2, .int a3] (some (.int r)) σ' :=
  um_start (by decide) (Nat.le_of_ble_eq_true rfl) (fun p e s m below meth c ls Cx hW hS hl => b_X9_put a1 a2 a3 hf Cx hW hS hl)
noncomputable def f_X9_reach_l24 (v1 : Int32) (v2 : Int32) : Nat → Int32 → um_S → Option (um_S)
  | 0, _, _ => none
  | n + 1, v3, σ =>
    if (6 : Int32) ≤ v3 then
    (some σ)
    else
    (if v3 = v1 then
    (if um_ix v3 6 then
    (um_let (um_wr σ 10 v3.toNatClampNeg (0 : Int32)) fun σ5 =>
    (f_X9_reach_l24 v1 v2 n (v3 + (1 : Int32)) σ5)) else none)
    else
    (if um_ix v3 6 then
    (um_let (um_wr σ 10 v3.toNatClampNeg (100000 : Int32)) fun σ2 =>
    (f_X9_reach_l24 v1 v2 n (v3 + (1 : Int32)) σ2)) else none))
noncomputable def f_X9_reach_l75 (v2 : Int32) (v3 : Int32) (v4 : Int32) : Nat → Int32 → um_S → Option (um_S)
  | 0, _, _ => none
  | n + 1, v5, σ =>
    if (6 : Int32) ≤ v5 then
    (some σ)
    else
    (if um_ix (((670 : Int32) + ((6 : Int32) * v4)) + v5) 3790 then
    (um_let (σ.1 1 (((670 : Int32) + ((6 : Int32) * v4)) + v5).toNatClampNeg) fun x2 =>
    (if x2 ≤ 0 then
    (if um_ix v5 6 then
    (if um_ix v5 6 then
    (um_let (um_wr σ 10 v5.toNatClampNeg (σ.1 10 v5.toNatClampNeg)) fun σ6 =>
    (f_X9_reach_l75 v2 v3 v4 n (v5 + (1 : Int32)) σ6)) else none) else none)
    else
    (if um_ix v5 6 then
    (if um_ix v4 6 then
    ((f_X9_least (σ.1 10 v5.toNatClampNeg) ((σ.1 10 v4.toNatClampNeg) + x2) σ).bind fun x11 =>
    (if um_ix v5 6 then
    (um_let (um_wr σ 10 v5.toNatClampNeg x11) fun σ13 =>
    (f_X9_reach_l75 v2 v3 v4 n (v5 + (1 : Int32)) σ13)) else none)) else none) else none))) else none)
noncomputable def f_X9_reach_l65 (v2 : Int32) (v3 : Int32) : Nat → Int32 → um_S → Option (um_S)
  | 0, _, _ => none
  | n + 1, v4, σ =>
    if (6 : Int32) ≤ v4 then
    (some σ)
    else
    ((f_X9_reach_l75 v2 v3 v4 um_N (0 : Int32) σ).bind fun σ1 =>
    (f_X9_reach_l65 v2 v3 n (v4 + (1 : Int32)) σ1))
noncomputable def f_X9_reach_l56 (v2 : Int32) : Nat → Int32 → um_S → Option (um_S)
  | 0, _, _ => none
  | n + 1, v3, σ =>
    if (6 : Int32) ≤ v3 then
    (some σ)
    else
    ((f_X9_reach_l65 v2 v3 um_N (0 : Int32) σ).bind fun σ1 =>
    (f_X9_reach_l56 v2 n (v3 + (1 : Int32)) σ1))
noncomputable def f_X9_reach_l166 (v2 : Int32) (σ : um_S) : Nat → Int32 → Int32 → Option (Int32)
  | 0, _, _ => none
  | n + 1, v3, v4 =>
    if (6 : Int32) ≤ v4 then
    (some v3)
    else
    (if um_ix v4 6 then
    (if ((7 : Int32) * v2) < (σ.1 10 v4.toNatClampNeg) then
    (um_let (v3 ||| (0 : Int32)) fun x2 =>
    (f_X9_reach_l166 v2 σ n x2 (v4 + (1 : Int32))))
    else
    (um_let (v3 ||| ((1 : Int32) <<< (v4 &&& 31))) fun x4 =>
    (f_X9_reach_l166 v2 σ n x4 (v4 + (1 : Int32))))) else none)
noncomputable def f_X9_reach (a1 : Int32) (a2 : Int32) (σ : um_S) : Option (Int32 × um_S) :=
    (f_X9_isPlace a1 σ).bind fun x2 =>
    (if (um_b x2) = 0 then
    (some ((-1000000001 : Int32), σ))
    else
    ((f_X9_isIn (a2.toInt64) (0 : Int64) (99 : Int64) σ).bind fun x4 =>
    (if (um_b x4) = 0 then
    (some ((-1000000001 : Int32), σ))
    else
    ((f_X9_reach_l24 a1 a2 um_N (0 : Int32) σ).bind fun σ5 =>
    ((f_X9_reach_l56 a2 um_N (0 : Int32) σ5).bind fun σ7 =>
    ((f_X9_reach_l166 a2 σ7 um_N (0 : Int32) (0 : Int32)).bind fun x9 =>
    (some (x9, σ7))))))))
set_option maxRecDepth 100000 in
set_option maxHeartbeats 4000000 in
theorem t_X9_reach_l24 {Q : State → Prop} {σo : um_S} (v1 : Int32) (v2 : Int32)  (Cx : um_C p s m meth c args cX9_reach 7 (some FieldType.int) RX9 Z) (hE : ∀ (H : Heap) (locs : List Loc) (ls : Array Slot), um_W Z msh α σo H → va_S (um_D msh α) s.heap H locs → lv_has ls 7 [(0, .ref (α 0)), (2, .int v2)] → W p l e { frames := 2, cells := 0, slots := 0, locals := 45 } s m args below meth c H locs 0 0 Q (F0 m 54 ls [])) : ∀ (n : Nat) (v3 : Int32) (σ : um_S) (H : Heap) (locs : List Loc) (ls : Array Slot), f_X9_reach_l24 v1 v2 n v3 σ = some σo → um_W Z msh α σ H → va_S (um_D msh α) s.heap H locs → lv_has ls 7 [(0, .ref (α 0)), (1, .int v1), (2, .int v2), (3, .int v3)] → W p l e { frames := 2, cells := 0, slots := 0, locals := 45 } s m args below meth c H locs 0 0 Q (F0 m 24 ls []) := by
  have hx := Cx.1
  have hb := Cx.2.1
  have hown := Cx.2.2.2.2.1
  have hts := Cx.2.2.2.2.2.1
  intro n
  induction n with
  | zero =>
    intro v3 σ H locs ls hf hW hS hl
    cases hf
  | succ n ih =>
    intro v3 σ H locs ls hf hW hS hl
    rw [f_X9_reach_l24] at hf
    refine lv_iload_n (pc := 24) hx hb dX9_reach_24 rfl (lv_at hl 3 rfl) ?_
    refine lv_bipush (pc := 25) (v := (6 : Int32)) hx hb dX9_reach_25 (by decide) ?_
    refine lv_icmp_ge (pc := 27) (tgt := 54) hx hb dX9_reach_27 (by decide) (fun c1 => ?_) (fun c1 => ?_)
    · have hf := um_it c1 hf
      clear c1
      cases hf
      exact hE _ _ _ hW hS (lv_sub hl [0, 2] rfl)
    · have hf := um_ie c1 hf
      clear c1
      refine lv_aload_n (pc := 30) hx hb dX9_reach_30 rfl (lv_at hl 0 rfl) ?_
      refine gF_X9_37 (pc := 31) Cx hW ms_0 rfl dX9_reach_31 ?_
      refine lv_iload_n (pc := 34) hx hb dX9_reach_34 rfl (lv_at hl 3 rfl) ?_
      refine lv_iload_n (pc := 35) hx hb dX9_reach_35 rfl (lv_at hl 3 rfl) ?_
      refine lv_iload_n (pc := 36) hx hb dX9_reach_36 rfl (lv_at hl 1 rfl) ?_
      refine lv_icmp_ne (pc := 37) (tgt := 44) hx hb dX9_reach_37 (by decide) (fun c1 => ?_) (fun c1 => ?_)
      · have hf := um_ie c1 hf
        clear c1
        refine lv_ldcw (pc := 44) hx hb hown (hts _ qC_X9_313) dX9_reach_44 ?_
        obtain ⟨g1, hf⟩ := um_gu hf
        refine um_iast (pc := 47) Cx hW hS ms_10 rfl (um_ix_in g1) dX9_reach_47 ?_
        clear hW hS
        intro H locs hW hS
        obtain ⟨σ2, e3, hf⟩ := um_le hf
        rw [← e3] at hW
        clear e3
        refine lv_iinc (pc := 48) (v := v3 + (1 : Int32)) (lv' := [(3, .int (v3 + (1 : Int32))), (0, .ref (α 0)), (1, .int v1), (2, .int v2)]) hx hb dX9_reach_48 hl (k := 3) rfl rfl (by decide) rfl ?_
        clear hl
        intro ls hl
        refine lv_goto (pc := 51) (tgt := 24) hx hb dX9_reach_51 (by decide) ?_
        exact ih _ _ _ _ _ hf hW hS (lv_sub hl [1, 2, 3, 0] rfl)
      · have hf := um_it c1 hf
        clear c1
        refine lv_iconst (pc := 40) (v := (0 : Int32)) hx hb dX9_reach_40 (by decide) ?_
        refine lv_goto (pc := 41) (tgt := 47) hx hb dX9_reach_41 (by decide) ?_
        obtain ⟨g4, hf⟩ := um_gu hf
        refine um_iast (pc := 47) Cx hW hS ms_10 rfl (um_ix_in g4) dX9_reach_47 ?_
        clear hW hS
        intro H locs hW hS
        obtain ⟨σ5, e6, hf⟩ := um_le hf
        rw [← e6] at hW
        clear e6
        refine lv_iinc (pc := 48) (v := v3 + (1 : Int32)) (lv' := [(3, .int (v3 + (1 : Int32))), (0, .ref (α 0)), (1, .int v1), (2, .int v2)]) hx hb dX9_reach_48 hl (k := 3) rfl rfl (by decide) rfl ?_
        clear hl
        intro ls hl
        refine lv_goto (pc := 51) (tgt := 24) hx hb dX9_reach_51 (by decide) ?_
        exact ih _ _ _ _ _ hf hW hS (lv_sub hl [1, 2, 3, 0] rfl)
set_option maxRecDepth 100000 in
set_option maxHeartbeats 4000000 in
theorem t_X9_reach_l75 {Q : State → Prop} {σo : um_S} (v2 : Int32) (v3 : Int32) (v4 : Int32)  (Cx : um_C p s m meth c args cX9_reach 7 (some FieldType.int) RX9 Z) (hE : ∀ (H : Heap) (locs : List Loc) (ls : Array Slot), um_W Z msh α σo H → va_S (um_D msh α) s.heap H locs → lv_has ls 7 [(0, .ref (α 0)), (2, .int v2), (3, .int v3), (4, .int v4)] → W p l e { frames := 2, cells := 0, slots := 0, locals := 45 } s m args below meth c H locs 0 0 Q (F0 m 149 ls [])) : ∀ (n : Nat) (v5 : Int32) (σ : um_S) (H : Heap) (locs : List Loc) (ls : Array Slot), f_X9_reach_l75 v2 v3 v4 n v5 σ = some σo → um_W Z msh α σ H → va_S (um_D msh α) s.heap H locs → lv_has ls 7 [(0, .ref (α 0)), (2, .int v2), (3, .int v3), (4, .int v4), (5, .int v5)] → W p l e { frames := 2, cells := 0, slots := 0, locals := 45 } s m args below meth c H locs 0 0 Q (F0 m 75 ls []) := by
  have hx := Cx.1
  have hb := Cx.2.1
  have hown := Cx.2.2.2.2.1
  have hts := Cx.2.2.2.2.2.1
  intro n
  induction n with
  | zero =>
    intro v5 σ H locs ls hf hW hS hl
    cases hf
  | succ n ih =>
    intro v5 σ H locs ls hf hW hS hl
    rw [f_X9_reach_l75] at hf
    refine lv_iload (pc := 75) hx hb dX9_reach_75 (lv_at hl 4 rfl) ?_
    refine lv_bipush (pc := 77) (v := (6 : Int32)) hx hb dX9_reach_77 (by decide) ?_
    refine lv_icmp_ge (pc := 79) (tgt := 149) hx hb dX9_reach_79 (by decide) (fun c1 => ?_) (fun c1 => ?_)
    · have hf := um_it c1 hf
      clear c1
      cases hf
      exact hE _ _ _ hW hS (lv_sub hl [0, 1, 2, 3] rfl)
    · have hf := um_ie c1 hf
      clear c1
      refine lv_aload_n (pc := 82) hx hb dX9_reach_82 rfl (lv_at hl 0 rfl) ?_
      refine gF_X9_7 (pc := 83) Cx hW ms_0 rfl dX9_reach_83 ?_
      refine lv_sipush (pc := 86) (v := (670 : Int32)) hx hb dX9_reach_86 (by decide) ?_
      refine lv_bipush (pc := 89) (v := (6 : Int32)) hx hb dX9_reach_89 (by decide) ?_
      refine lv_iload (pc := 91) hx hb dX9_reach_91 (lv_at hl 3 rfl) ?_
      refine lv_imul (pc := 93) hx hb dX9_reach_93 ?_
      refine lv_iadd (pc := 94) hx hb dX9_reach_94 ?_
      refine lv_iload (pc := 95) hx hb dX9_reach_95 (lv_at hl 4 rfl) ?_
      refine lv_iadd (pc := 97) hx hb dX9_reach_97 ?_
      obtain ⟨g1, hf⟩ := um_gu hf
      refine um_iald (pc := 98) Cx hW ms_1 rfl (um_ix_in g1) dX9_reach_98 ?_
      obtain ⟨x2, e3, hf⟩ := um_le hf
      refine um_top e3 ?_
      clear e3
      refine lv_istore (pc := 99) (lv' := [(6, .int x2), (0, .ref (α 0)), (2, .int v2), (3, .int v3), (4, .int v4), (5, .int v5)]) hx hb dX9_reach_99 hl (by decide) rfl ?_
      clear hl
      intro ls hl
      refine lv_aload_n (pc := 101) hx hb dX9_reach_101 rfl (lv_at hl 1 rfl) ?_
      refine gF_X9_37 (pc := 102) Cx hW ms_0 rfl dX9_reach_102 ?_
      refine lv_iload (pc := 105) hx hb dX9_reach_105 (lv_at hl 5 rfl) ?_
      refine lv_iload (pc := 107) hx hb dX9_reach_107 (lv_at hl 0 rfl) ?_
      refine lv_if_le (pc := 109) (tgt := 135) hx hb dX9_reach_109 (by decide) (fun c1 => ?_) (fun c1 => ?_)
      · have hf := um_it c1 hf
        clear c1
        refine lv_aload_n (pc := 135) hx hb dX9_reach_135 rfl (lv_at hl 1 rfl) ?_
        refine gF_X9_37 (pc := 136) Cx hW ms_0 rfl dX9_reach_136 ?_
        refine lv_iload (pc := 139) hx hb dX9_reach_139 (lv_at hl 5 rfl) ?_
        obtain ⟨g4, hf⟩ := um_gu hf
        refine um_iald (pc := 141) Cx hW ms_10 rfl (um_ix_in g4) dX9_reach_141 ?_
        obtain ⟨g5, hf⟩ := um_gu hf
        refine um_iast (pc := 142) Cx hW hS ms_10 rfl (um_ix_in g5) dX9_reach_142 ?_
        clear hW hS
        intro H locs hW hS
        obtain ⟨σ6, e7, hf⟩ := um_le hf
        rw [← e7] at hW
        clear e7
        refine lv_iinc (pc := 143) (v := v5 + (1 : Int32)) (lv' := [(5, .int (v5 + (1 : Int32))), (6, .int x2), (0, .ref (α 0)), (2, .int v2), (3, .int v3), (4, .int v4)]) hx hb dX9_reach_143 hl (k := 5) rfl rfl (by decide) rfl ?_
        clear hl
        intro ls hl
        refine lv_goto (pc := 146) (tgt := 75) hx hb dX9_reach_146 (by decide) ?_
        exact ih _ _ _ _ _ hf hW hS (lv_sub hl [2, 3, 4, 5, 0] rfl)
      · have hf := um_ie c1 hf
        clear c1
        refine lv_aload_n (pc := 112) hx hb dX9_reach_112 rfl (lv_at hl 1 rfl) ?_
        refine gF_X9_37 (pc := 113) Cx hW ms_0 rfl dX9_reach_113 ?_
        refine lv_iload (pc := 116) hx hb dX9_reach_116 (lv_at hl 5 rfl) ?_
        obtain ⟨g8, hf⟩ := um_gu hf
        refine um_iald (pc := 118) Cx hW ms_10 rfl (um_ix_in g8) dX9_reach_118 ?_
        refine lv_aload_n (pc := 119) hx hb dX9_reach_119 rfl (lv_at hl 1 rfl) ?_
        refine gF_X9_37 (pc := 120) Cx hW ms_0 rfl dX9_reach_120 ?_
        refine lv_iload (pc := 123) hx hb dX9_reach_123 (lv_at hl 4 rfl) ?_
        obtain ⟨g9, hf⟩ := um_gu hf
        refine um_iald (pc := 125) Cx hW ms_10 rfl (um_ix_in g9) dX9_reach_125 ?_
        refine lv_iload (pc := 126) hx hb dX9_reach_126 (lv_at hl 0 rfl) ?_
        refine lv_iadd (pc := 128) hx hb dX9_reach_128 ?_
        obtain ⟨x11, hc10, hf⟩ := um_bi hf
        refine um_cSi (pc := 129) (As := [.int (σ.1 10 v5.toNatClampNeg), .int ((σ.1 10 v4.toNatClampNeg) + x2)]) (rest := [.int v5, .ref (α 10)]) Cx (c_X9_least (σ.1 10 v5.toNatClampNeg) ((σ.1 10 v4.toNatClampNeg) + x2) hc10) kS_X9_least (Or.inl qM_X9_286) hW hS rfl hl rfl (Nat.le_of_ble_eq_true rfl) (Nat.le_of_ble_eq_true rfl) (Nat.le_of_ble_eq_true rfl) dX9_reach_129 (Nat.le_refl _) (Nat.le_refl _) ?_
        clear hW hS hc10
        intro H locs hW hS
        refine lv_goto (pc := 132) (tgt := 142) hx hb dX9_reach_132 (by decide) ?_
        obtain ⟨g12, hf⟩ := um_gu hf
        refine um_iast (pc := 142) Cx hW hS ms_10 rfl (um_ix_in g12) dX9_reach_142 ?_
        clear hW hS
        intro H locs hW hS
        obtain ⟨σ13, e14, hf⟩ := um_le hf
        rw [← e14] at hW
        clear e14
        refine lv_iinc (pc := 143) (v := v5 + (1 : Int32)) (lv' := [(5, .int (v5 + (1 : Int32))), (6, .int x2), (0, .ref (α 0)), (2, .int v2), (3, .int v3), (4, .int v4)]) hx hb dX9_reach_143 hl (k := 5) rfl rfl (by decide) rfl ?_
        clear hl
        intro ls hl
        refine lv_goto (pc := 146) (tgt := 75) hx hb dX9_reach_146 (by decide) ?_
        exact ih _ _ _ _ _ hf hW hS (lv_sub hl [2, 3, 4, 5, 0] rfl)
set_option maxRecDepth 100000 in
set_option maxHeartbeats 4000000 in
theorem t_X9_reach_l65 {Q : State → Prop} {σo : um_S} (v2 : Int32) (v3 : Int32)  (Cx : um_C p s m meth c args cX9_reach 7 (some FieldType.int) RX9 Z) (hE : ∀ (H : Heap) (locs : List Loc) (ls : Array Slot), um_W Z msh α σo H → va_S (um_D msh α) s.heap H locs → lv_has ls 7 [(0, .ref (α 0)), (2, .int v2), (3, .int v3)] → W p l e { frames := 2, cells := 0, slots := 0, locals := 45 } s m args below meth c H locs 0 0 Q (F0 m 155 ls [])) : ∀ (n : Nat) (v4 : Int32) (σ : um_S) (H : Heap) (locs : List Loc) (ls : Array Slot), f_X9_reach_l65 v2 v3 n v4 σ = some σo → um_W Z msh α σ H → va_S (um_D msh α) s.heap H locs → lv_has ls 7 [(0, .ref (α 0)), (2, .int v2), (3, .int v3), (4, .int v4)] → W p l e { frames := 2, cells := 0, slots := 0, locals := 45 } s m args below meth c H locs 0 0 Q (F0 m 65 ls []) := by
  have hx := Cx.1
  have hb := Cx.2.1
  have hown := Cx.2.2.2.2.1
  have hts := Cx.2.2.2.2.2.1
  intro n
  induction n with
  | zero =>
    intro v4 σ H locs ls hf hW hS hl
    cases hf
  | succ n ih =>
    intro v4 σ H locs ls hf hW hS hl
    rw [f_X9_reach_l65] at hf
    refine lv_iload (pc := 65) hx hb dX9_reach_65 (lv_at hl 3 rfl) ?_
    refine lv_bipush (pc := 67) (v := (6 : Int32)) hx hb dX9_reach_67 (by decide) ?_
    refine lv_icmp_ge (pc := 69) (tgt := 155) hx hb dX9_reach_69 (by decide) (fun c1 => ?_) (fun c1 => ?_)
    · have hf := um_it c1 hf
      clear c1
      cases hf
      exact hE _ _ _ hW hS (lv_sub hl [0, 1, 2] rfl)
    · have hf := um_ie c1 hf
      clear c1
      refine lv_iconst (pc := 72) (v := (0 : Int32)) hx hb dX9_reach_72 (by decide) ?_
      refine lv_istore (pc := 73) (lv' := [(5, .int (0 : Int32)), (0, .ref (α 0)), (2, .int v2), (3, .int v3), (4, .int v4)]) hx hb dX9_reach_73 hl (by decide) rfl ?_
      clear hl
      intro ls hl
      obtain ⟨σ1, hc2, hf⟩ := um_bi hf
      refine t_X9_reach_l75 v2 v3 v4 Cx ?_ um_N _ _ _ _ _ hc2 hW hS (lv_sub hl [1, 2, 3, 4, 0] rfl)
      clear hW hS hl hc2
      intro H locs ls hW hS hl
      refine lv_iinc (pc := 149) (v := v4 + (1 : Int32)) (lv' := [(4, .int (v4 + (1 : Int32))), (0, .ref (α 0)), (2, .int v2), (3, .int v3)]) hx hb dX9_reach_149 hl (k := 3) rfl rfl (by decide) rfl ?_
      clear hl
      intro ls hl
      refine lv_goto (pc := 152) (tgt := 65) hx hb dX9_reach_152 (by decide) ?_
      exact ih _ _ _ _ _ hf hW hS (lv_sub hl [1, 2, 3, 0] rfl)
set_option maxRecDepth 100000 in
set_option maxHeartbeats 4000000 in
theorem t_X9_reach_l56 {Q : State → Prop} {σo : um_S} (v2 : Int32)  (Cx : um_C p s m meth c args cX9_reach 7 (some FieldType.int) RX9 Z) (hE : ∀ (H : Heap) (locs : List Loc) (ls : Array Slot), um_W Z msh α σo H → va_S (um_D msh α) s.heap H locs → lv_has ls 7 [(0, .ref (α 0)), (2, .int v2)] → W p l e { frames := 2, cells := 0, slots := 0, locals := 45 } s m args below meth c H locs 0 0 Q (F0 m 161 ls [])) : ∀ (n : Nat) (v3 : Int32) (σ : um_S) (H : Heap) (locs : List Loc) (ls : Array Slot), f_X9_reach_l56 v2 n v3 σ = some σo → um_W Z msh α σ H → va_S (um_D msh α) s.heap H locs → lv_has ls 7 [(0, .ref (α 0)), (2, .int v2), (3, .int v3)] → W p l e { frames := 2, cells := 0, slots := 0, locals := 45 } s m args below meth c H locs 0 0 Q (F0 m 56 ls []) := by
  have hx := Cx.1
  have hb := Cx.2.1
  have hown := Cx.2.2.2.2.1
  have hts := Cx.2.2.2.2.2.1
  intro n
  induction n with
  | zero =>
    intro v3 σ H locs ls hf hW hS hl
    cases hf
  | succ n ih =>
    intro v3 σ H locs ls hf hW hS hl
    rw [f_X9_reach_l56] at hf
    refine lv_iload_n (pc := 56) hx hb dX9_reach_56 rfl (lv_at hl 2 rfl) ?_
    refine lv_bipush (pc := 57) (v := (6 : Int32)) hx hb dX9_reach_57 (by decide) ?_
    refine lv_icmp_ge (pc := 59) (tgt := 161) hx hb dX9_reach_59 (by decide) (fun c1 => ?_) (fun c1 => ?_)
    · have hf := um_it c1 hf
      clear c1
      cases hf
      exact hE _ _ _ hW hS (lv_sub hl [0, 1] rfl)
    · have hf := um_ie c1 hf
      clear c1
      refine lv_iconst (pc := 62) (v := (0 : Int32)) hx hb dX9_reach_62 (by decide) ?_
      refine lv_istore (pc := 63) (lv' := [(4, .int (0 : Int32)), (0, .ref (α 0)), (2, .int v2), (3, .int v3)]) hx hb dX9_reach_63 hl (by decide) rfl ?_
      clear hl
      intro ls hl
      obtain ⟨σ1, hc2, hf⟩ := um_bi hf
      refine t_X9_reach_l65 v2 v3 Cx ?_ um_N _ _ _ _ _ hc2 hW hS (lv_sub hl [1, 2, 3, 0] rfl)
      clear hW hS hl hc2
      intro H locs ls hW hS hl
      refine lv_iinc (pc := 155) (v := v3 + (1 : Int32)) (lv' := [(3, .int (v3 + (1 : Int32))), (0, .ref (α 0)), (2, .int v2)]) hx hb dX9_reach_155 hl (k := 2) rfl rfl (by decide) rfl ?_
      clear hl
      intro ls hl
      refine lv_goto (pc := 158) (tgt := 56) hx hb dX9_reach_158 (by decide) ?_
      exact ih _ _ _ _ _ hf hW hS (lv_sub hl [1, 2, 0] rfl)
set_option maxRecDepth 100000 in
set_option maxHeartbeats 4000000 in
theorem t_X9_reach_l166 {Q : State → Prop} {o3 : Int32} {σ : um_S} (v2 : Int32)  (Cx : um_C p s m meth c args cX9_reach 7 (some FieldType.int) RX9 Z) (hE : ∀ (H : Heap) (locs : List Loc) (ls : Array Slot), um_W Z msh α σ H → va_S (um_D msh α) s.heap H locs → lv_has ls 7 [(3, .int o3)] → W p l e { frames := 2, cells := 0, slots := 0, locals := 45 } s m args below meth c H locs 0 0 Q (F0 m 204 ls [])) : ∀ (n : Nat) (v3 : Int32) (v4 : Int32) (H : Heap) (locs : List Loc) (ls : Array Slot), f_X9_reach_l166 v2 σ n v3 v4 = some o3 → um_W Z msh α σ H → va_S (um_D msh α) s.heap H locs → lv_has ls 7 [(0, .ref (α 0)), (2, .int v2), (3, .int v3), (4, .int v4)] → W p l e { frames := 2, cells := 0, slots := 0, locals := 45 } s m args below meth c H locs 0 0 Q (F0 m 166 ls []) := by
  have hx := Cx.1
  have hb := Cx.2.1
  have hown := Cx.2.2.2.2.1
  have hts := Cx.2.2.2.2.2.1
  intro n
  induction n with
  | zero =>
    intro v3 v4 H locs ls hf hW hS hl
    cases hf
  | succ n ih =>
    intro v3 v4 H locs ls hf hW hS hl
    rw [f_X9_reach_l166] at hf
    refine lv_iload (pc := 166) hx hb dX9_reach_166 (lv_at hl 3 rfl) ?_
    refine lv_bipush (pc := 168) (v := (6 : Int32)) hx hb dX9_reach_168 (by decide) ?_
    refine lv_icmp_ge (pc := 170) (tgt := 204) hx hb dX9_reach_170 (by decide) (fun c1 => ?_) (fun c1 => ?_)
    · have hf := um_it c1 hf
      clear c1
      cases hf
      exact hE _ _ _ hW hS (lv_sub hl [2] rfl)
    · have hf := um_ie c1 hf
      clear c1
      refine lv_iload_n (pc := 173) hx hb dX9_reach_173 rfl (lv_at hl 2 rfl) ?_
      refine lv_aload_n (pc := 174) hx hb dX9_reach_174 rfl (lv_at hl 0 rfl) ?_
      refine gF_X9_37 (pc := 175) Cx hW ms_0 rfl dX9_reach_175 ?_
      refine lv_iload (pc := 178) hx hb dX9_reach_178 (lv_at hl 3 rfl) ?_
      obtain ⟨g1, hf⟩ := um_gu hf
      refine um_iald (pc := 180) Cx hW ms_10 rfl (um_ix_in g1) dX9_reach_180 ?_
      refine lv_bipush (pc := 181) (v := (7 : Int32)) hx hb dX9_reach_181 (by decide) ?_
      refine lv_iload_n (pc := 183) hx hb dX9_reach_183 rfl (lv_at hl 1 rfl) ?_
      refine lv_imul (pc := 184) hx hb dX9_reach_184 ?_
      refine lv_icmp_gt (pc := 185) (tgt := 195) hx hb dX9_reach_185 (by decide) (fun c1 => ?_) (fun c1 => ?_)
      · have hf := um_it c1 hf
        clear c1
        refine lv_iconst (pc := 195) (v := (0 : Int32)) hx hb dX9_reach_195 (by decide) ?_
        refine lv_ior (pc := 196) hx hb dX9_reach_196 ?_
        obtain ⟨x2, e3, hf⟩ := um_le hf
        refine um_top e3 ?_
        clear e3
        refine lv_istore_n (pc := 197) (lv' := [(3, .int x2), (0, .ref (α 0)), (2, .int v2), (4, .int v4)]) hx hb dX9_reach_197 rfl hl (by decide) rfl ?_
        clear hl
        intro ls hl
        refine lv_iinc (pc := 198) (v := v4 + (1 : Int32)) (lv' := [(4, .int (v4 + (1 : Int32))), (3, .int x2), (0, .ref (α 0)), (2, .int v2)]) hx hb dX9_reach_198 hl (k := 3) rfl rfl (by decide) rfl ?_
        clear hl
        intro ls hl
        refine lv_goto (pc := 201) (tgt := 166) hx hb dX9_reach_201 (by decide) ?_
        exact ih _ _ _ _ _ hf hW hS (lv_sub hl [2, 3, 1, 0] rfl)
      · have hf := um_ie c1 hf
        clear c1
        refine lv_iconst (pc := 188) (v := (1 : Int32)) hx hb dX9_reach_188 (by decide) ?_
        refine lv_iload (pc := 189) hx hb dX9_reach_189 (lv_at hl 3 rfl) ?_
        refine lv_ishl (pc := 191) hx hb dX9_reach_191 ?_
        refine lv_goto (pc := 192) (tgt := 196) hx hb dX9_reach_192 (by decide) ?_
        refine lv_ior (pc := 196) hx hb dX9_reach_196 ?_
        obtain ⟨x4, e5, hf⟩ := um_le hf
        refine um_top e5 ?_
        clear e5
        refine lv_istore_n (pc := 197) (lv' := [(3, .int x4), (0, .ref (α 0)), (2, .int v2), (4, .int v4)]) hx hb dX9_reach_197 rfl hl (by decide) rfl ?_
        clear hl
        intro ls hl
        refine lv_iinc (pc := 198) (v := v4 + (1 : Int32)) (lv' := [(4, .int (v4 + (1 : Int32))), (3, .int x4), (0, .ref (α 0)), (2, .int v2)]) hx hb dX9_reach_198 hl (k := 3) rfl rfl (by decide) rfl ?_
        clear hl
        intro ls hl
        refine lv_goto (pc := 201) (tgt := 166) hx hb dX9_reach_201 (by decide) ?_
        exact ih _ _ _ _ _ hf hW hS (lv_sub hl [2, 3, 1, 0] rfl)
set_option maxRecDepth 100000 in
set_option maxHeartbeats 4000000 in
theorem b_X9_reach {H : Heap} {locs : List Loc} {ls : Array Slot} {σ : um_S} {σ' : um_S} {r : Int32} (a1 : Int32) (a2 : Int32)  (hf : f_X9_reach a1 a2 σ = some (r, σ')) (Cx : um_C p s m meth c args cX9_reach 7 (some FieldType.int) RX9 Z) (hW : um_W Z msh α σ H) (hS : va_S (um_D msh α) s.heap H locs) (hl : lv_has ls 7 [(0, .ref (α 0)), (1, .int a1), (2, .int a2)]) : um_G p l e (2) (45) s m args below meth c Z msh α σ' (some (.int r)) H locs (F0 m 0 ls []) := by
  have hx := Cx.1
  have hb := Cx.2.1
  have hown := Cx.2.2.2.2.1
  have hts := Cx.2.2.2.2.2.1
  rw [f_X9_reach] at hf
  refine lv_iload_n (pc := 0) hx hb dX9_reach_0 rfl (lv_at hl 1 rfl) ?_
  obtain ⟨x2, hc1, hf⟩ := um_bi hf
  refine um_cSi (pc := 1) (As := [.int a1]) (rest := []) Cx (c_X9_isPlace a1 hc1) kS_X9_isPlace (Or.inl qM_X9_82) hW hS rfl hl rfl (Nat.le_of_ble_eq_true rfl) (Nat.le_of_ble_eq_true rfl) (Nat.le_of_ble_eq_true rfl) dX9_reach_1 (Nat.le_refl _) (Nat.le_refl _) ?_
  clear hW hS hc1
  intro H locs hW hS
  refine lv_if_eq (pc := 4) (tgt := 19) hx hb dX9_reach_4 (by decide) (fun c1 => ?_) (fun c1 => ?_)
  · have hf := um_it c1 hf
    clear c1
    refine lv_ldc (pc := 19) hx hb hown (hts _ qC_X9_87) dX9_reach_19 ?_
    exact um_iret (pc := 21) Cx hW hS hf dX9_reach_21
  · have hf := um_ie c1 hf
    clear c1
    refine lv_iload_n (pc := 7) hx hb dX9_reach_7 rfl (lv_at hl 2 rfl) ?_
    refine lv_i2l (pc := 8) hx hb dX9_reach_8 rfl ?_
    refine lv_lconst (pc := 9) (v := (0 : Int64)) hx hb dX9_reach_9 (by decide) ?_
    refine lv_ldc2 (pc := 10) hx hb hown (hts _ qL_X9_127) dX9_reach_10 ?_
    obtain ⟨x4, hc3, hf⟩ := um_bi hf
    refine um_cSi (pc := 13) (As := [.long (a2.toInt64), .long (0 : Int64), .long (99 : Int64)]) (rest := []) Cx (c_X9_isIn (a2.toInt64) (0 : Int64) (99 : Int64) hc3) kS_X9_isIn (Or.inl qM_X9_60) hW hS rfl hl rfl (Nat.le_of_ble_eq_true rfl) (Nat.le_of_ble_eq_true rfl) (Nat.le_of_ble_eq_true rfl) dX9_reach_13 (Nat.le_refl _) (Nat.le_refl _) ?_
    clear hW hS hc3
    intro H locs hW hS
    refine lv_if_ne (pc := 16) (tgt := 22) hx hb dX9_reach_16 (by decide) (fun c1 => ?_) (fun c1 => ?_)
    · have hf := um_ie c1 hf
      clear c1
      refine lv_iconst (pc := 22) (v := (0 : Int32)) hx hb dX9_reach_22 (by decide) ?_
      refine lv_istore_n (pc := 23) (lv' := [(3, .int (0 : Int32)), (0, .ref (α 0)), (1, .int a1), (2, .int a2)]) hx hb dX9_reach_23 rfl hl (by decide) rfl ?_
      clear hl
      intro ls hl
      obtain ⟨σ5, hc6, hf⟩ := um_bi hf
      refine t_X9_reach_l24 a1 a2 Cx ?_ um_N _ _ _ _ _ hc6 hW hS (lv_sub hl [1, 2, 3, 0] rfl)
      clear hW hS hl hc6
      intro H locs ls hW hS hl
      refine lv_iconst (pc := 54) (v := (0 : Int32)) hx hb dX9_reach_54 (by decide) ?_
      refine lv_istore_n (pc := 55) (lv' := [(3, .int (0 : Int32)), (0, .ref (α 0)), (2, .int a2)]) hx hb dX9_reach_55 rfl hl (by decide) rfl ?_
      clear hl
      intro ls hl
      obtain ⟨σ7, hc8, hf⟩ := um_bi hf
      refine t_X9_reach_l56 a2 Cx ?_ um_N _ _ _ _ _ hc8 hW hS (lv_sub hl [1, 2, 0] rfl)
      clear hW hS hl hc8
      intro H locs ls hW hS hl
      refine lv_iconst (pc := 161) (v := (0 : Int32)) hx hb dX9_reach_161 (by decide) ?_
      refine lv_istore_n (pc := 162) (lv' := [(3, .int (0 : Int32)), (0, .ref (α 0)), (2, .int a2)]) hx hb dX9_reach_162 rfl hl (by decide) rfl ?_
      clear hl
      intro ls hl
      refine lv_iconst (pc := 163) (v := (0 : Int32)) hx hb dX9_reach_163 (by decide) ?_
      refine lv_istore (pc := 164) (lv' := [(4, .int (0 : Int32)), (3, .int (0 : Int32)), (0, .ref (α 0)), (2, .int a2)]) hx hb dX9_reach_164 hl (by decide) rfl ?_
      clear hl
      intro ls hl
      obtain ⟨x9, hc10, hf⟩ := um_bi hf
      refine t_X9_reach_l166 a2 Cx ?_ um_N _ _ _ _ _ hc10 hW hS (lv_sub hl [2, 3, 1, 0] rfl)
      clear hW hS hl hc10
      intro H locs ls hW hS hl
      refine lv_iload_n (pc := 204) hx hb dX9_reach_204 rfl (lv_at hl 0 rfl) ?_
      exact um_iret (pc := 205) Cx hW hS hf dX9_reach_205
    · have hf := um_it c1 hf
      clear c1
      refine lv_ldc (pc := 19) hx hb hown (hts _ qC_X9_87) dX9_reach_19 ?_
      exact um_iret (pc := 21) Cx hW hS hf dX9_reach_21
theorem c_X9_reach {σ : um_S} {σ' : um_S} {r : Int32} (a1 : Int32) (a2 : Int32)  (hf : f_X9_reach a1 a2 σ = some (r, σ')) : um_M l yX9_reach cX9_reach 7 (some FieldType.int) (2) (45) Z msh α σ [.ref (α 0), .int a1, .int a2] (some (.int r)) σ' :=
  um_start (by decide) (Nat.le_of_ble_eq_true rfl) (fun p e s m below meth c ls Cx hW hS hl => b_X9_reach a1 a2 hf Cx hW hS hl)
noncomputable def f_X9_read_l16 (v2 : Int32) (σ : um_S) : Nat → Int32 → Option (Int32)
  | 0, _ => none
  | n + 1, v4 =>
    if v4 < 0 then
    (some v4)
    else
    ((f_X9_isMustered v4 v2 σ).bind fun x2 =>
    (if (um_b x2) = 0 then
    (f_X9_read_l16 v2 σ n (v4 + (-1 : Int32)))
    else
    (some v4)))
noncomputable def f_X9_read (a1 : Int32) (a2 : Int32) (σ : um_S) : Option (Int32) :=
    (f_X9_lacks a1 a2 σ).bind fun x2 =>
    (if x2 = 0 then
    ((f_X9_read_l16 a2 σ um_N a1).bind fun x3 =>
    (if 0 ≤ x3 then
    (if um_ix (((24 : Int32) * x3) + a2) 96 then
    (some (σ.1 6 (((24 : Int32) * x3) + a2).toNatClampNeg)) else none)
    else
    (some (-1000000012 : Int32))))
    else
    (some x2))
set_option maxRecDepth 100000 in
set_option maxHeartbeats 4000000 in
theorem t_X9_read_l16 {Q : State → Prop} {o4 : Int32} {σ : um_S} (v2 : Int32)  (Cx : um_C p s m meth c args cX9_read 5 (some FieldType.int) RX9 Z) (hE : ∀ (H : Heap) (locs : List Loc) (ls : Array Slot), um_W Z msh α σ H → va_S (um_D msh α) s.heap H locs → lv_has ls 5 [(0, .ref (α 0)), (2, .int v2), (4, .int o4)] → W p l e { frames := 4, cells := 0, slots := 0, locals := 89 } s m args below meth c H locs 0 0 Q (F0 m 37 ls [])) : ∀ (n : Nat) (v4 : Int32) (H : Heap) (locs : List Loc) (ls : Array Slot), f_X9_read_l16 v2 σ n v4 = some o4 → um_W Z msh α σ H → va_S (um_D msh α) s.heap H locs → lv_has ls 5 [(0, .ref (α 0)), (2, .int v2), (4, .int v4)] → W p l e { frames := 4, cells := 0, slots := 0, locals := 89 } s m args below meth c H locs 0 0 Q (F0 m 16 ls []) := by
  have hx := Cx.1
  have hb := Cx.2.1
  have hown := Cx.2.2.2.2.1
  have hts := Cx.2.2.2.2.2.1
  intro n
  induction n with
  | zero =>
    intro v4 H locs ls hf hW hS hl
    cases hf
  | succ n ih =>
    intro v4 H locs ls hf hW hS hl
    rw [f_X9_read_l16] at hf
    refine lv_iload (pc := 16) hx hb dX9_read_16 (lv_at hl 2 rfl) ?_
    refine lv_if_lt (pc := 18) (tgt := 37) hx hb dX9_read_18 (by decide) (fun c1 => ?_) (fun c1 => ?_)
    · have hf := um_it c1 hf
      clear c1
      cases hf
      exact hE _ _ _ hW hS hl
    · have hf := um_ie c1 hf
      clear c1
      refine lv_aload_n (pc := 21) hx hb dX9_read_21 rfl (lv_at hl 0 rfl) ?_
      refine lv_iload (pc := 22) hx hb dX9_read_22 (lv_at hl 2 rfl) ?_
      refine lv_iload_n (pc := 24) hx hb dX9_read_24 rfl (lv_at hl 1 rfl) ?_
      obtain ⟨x2, hc1, hf⟩ := um_bi hf
      refine um_cVi (pc := 25) (As := [.int v4, .int v2]) (rest := []) Cx (c_X9_isMustered v4 v2 hc1) kV_X9_isMustered (Or.inl qM_X9_385) hW hS ms_0 rfl rfl hl rfl (Nat.le_of_ble_eq_true rfl) (Nat.le_of_ble_eq_true rfl) (Nat.le_of_ble_eq_true rfl) dX9_read_25 (Nat.le_refl _) (Nat.le_refl _) ?_
      clear hW hS hc1
      intro H locs hW hS
      refine lv_if_ne (pc := 28) (tgt := 37) hx hb dX9_read_28 (by decide) (fun c1 => ?_) (fun c1 => ?_)
      · have hf := um_ie c1 hf
        clear c1
        cases hf
        exact hE _ _ _ hW hS hl
      · have hf := um_it c1 hf
        clear c1
        refine lv_iinc (pc := 31) (v := v4 + (-1 : Int32)) (lv' := [(4, .int (v4 + (-1 : Int32))), (0, .ref (α 0)), (2, .int v2)]) hx hb dX9_read_31 hl (k := 2) rfl rfl (by decide) rfl ?_
        clear hl
        intro ls hl
        refine lv_goto (pc := 34) (tgt := 16) hx hb dX9_read_34 (by decide) ?_
        exact ih _ _ _ _ hf hW hS (lv_sub hl [1, 2, 0] rfl)
set_option maxRecDepth 100000 in
set_option maxHeartbeats 4000000 in
theorem b_X9_read {H : Heap} {locs : List Loc} {ls : Array Slot} {σ : um_S} {r : Int32} (a1 : Int32) (a2 : Int32)  (hf : f_X9_read a1 a2 σ = some r) (Cx : um_C p s m meth c args cX9_read 5 (some FieldType.int) RX9 Z) (hW : um_W Z msh α σ H) (hS : va_S (um_D msh α) s.heap H locs) (hl : lv_has ls 5 [(0, .ref (α 0)), (1, .int a1), (2, .int a2)]) : um_G p l e (4) (89) s m args below meth c Z msh α σ (some (.int r)) H locs (F0 m 0 ls []) := by
  have hx := Cx.1
  have hb := Cx.2.1
  have hown := Cx.2.2.2.2.1
  have hts := Cx.2.2.2.2.2.1
  rw [f_X9_read] at hf
  refine lv_aload_n (pc := 0) hx hb dX9_read_0 rfl (lv_at hl 0 rfl) ?_
  refine lv_iload_n (pc := 1) hx hb dX9_read_1 rfl (lv_at hl 1 rfl) ?_
  refine lv_iload_n (pc := 2) hx hb dX9_read_2 rfl (lv_at hl 2 rfl) ?_
  obtain ⟨x2, hc1, hf⟩ := um_bi hf
  refine um_cVi (pc := 3) (As := [.int a1, .int a2]) (rest := []) Cx (c_X9_lacks a1 a2 hc1) kV_X9_lacks (Or.inl qM_X9_382) hW hS ms_0 rfl rfl hl rfl (Nat.le_of_ble_eq_true rfl) (Nat.le_of_ble_eq_true rfl) (Nat.le_of_ble_eq_true rfl) dX9_read_3 (Nat.le_refl _) (Nat.le_refl _) ?_
  clear hW hS hc1
  intro H locs hW hS
  refine lv_istore_n (pc := 6) (lv' := [(3, .int x2), (0, .ref (α 0)), (1, .int a1), (2, .int a2)]) hx hb dX9_read_6 rfl hl (by decide) rfl ?_
  clear hl
  intro ls hl
  refine lv_iload_n (pc := 7) hx hb dX9_read_7 rfl (lv_at hl 0 rfl) ?_
  refine lv_if_eq (pc := 8) (tgt := 13) hx hb dX9_read_8 (by decide) (fun c1 => ?_) (fun c1 => ?_)
  · have hf := um_it c1 hf
    clear c1
    refine lv_iload_n (pc := 13) hx hb dX9_read_13 rfl (lv_at hl 2 rfl) ?_
    refine lv_istore (pc := 14) (lv' := [(4, .int a1), (3, .int x2), (0, .ref (α 0)), (1, .int a1), (2, .int a2)]) hx hb dX9_read_14 hl (by decide) rfl ?_
    clear hl
    intro ls hl
    obtain ⟨x3, hc4, hf⟩ := um_bi hf
    refine t_X9_read_l16 a2 Cx ?_ um_N _ _ _ _ hc4 hW hS (lv_sub hl [2, 4, 0] rfl)
    clear hW hS hl hc4
    intro H locs ls hW hS hl
    refine lv_iload (pc := 37) hx hb dX9_read_37 (lv_at hl 2 rfl) ?_
    refine lv_if_ge (pc := 39) (tgt := 47) hx hb dX9_read_39 (by decide) (fun c1 => ?_) (fun c1 => ?_)
    · have hf := um_it c1 hf
      clear c1
      refine lv_aload_n (pc := 47) hx hb dX9_read_47 rfl (lv_at hl 0 rfl) ?_
      refine gF_X9_25 (pc := 48) Cx hW ms_0 rfl dX9_read_48 ?_
      refine lv_bipush (pc := 51) (v := (24 : Int32)) hx hb dX9_read_51 (by decide) ?_
      refine lv_iload (pc := 53) hx hb dX9_read_53 (lv_at hl 2 rfl) ?_
      refine lv_imul (pc := 55) hx hb dX9_read_55 ?_
      refine lv_iload_n (pc := 56) hx hb dX9_read_56 rfl (lv_at hl 1 rfl) ?_
      refine lv_iadd (pc := 57) hx hb dX9_read_57 ?_
      obtain ⟨g5, hf⟩ := um_gu hf
      refine um_iald (pc := 58) Cx hW ms_6 rfl (um_ix_in g5) dX9_read_58 ?_
      exact um_iretR (pc := 59) Cx hW hS hf dX9_read_59
    · have hf := um_ie c1 hf
      clear c1
      refine lv_ldc (pc := 42) hx hb hown (hts _ qC_X9_122) dX9_read_42 ?_
      refine lv_goto (pc := 44) (tgt := 59) hx hb dX9_read_44 (by decide) ?_
      exact um_iretR (pc := 59) Cx hW hS hf dX9_read_59
  · have hf := um_ie c1 hf
    clear c1
    refine lv_iload_n (pc := 11) hx hb dX9_read_11 rfl (lv_at hl 0 rfl) ?_
    exact um_iretR (pc := 12) Cx hW hS hf dX9_read_12
theorem c_X9_read {σ : um_S} {r : Int32} (a1 : Int32) (a2 : Int32)  (hf : f_X9_read a1 a2 σ = some r) : um_M l yX9_read cX9_read 5 (some FieldType.int) (4) (89) Z msh α σ [.ref (α 0), .int a1, .int a2] (some (.int r)) σ :=
  um_start (by decide) (Nat.le_of_ble_eq_true rfl) (fun p e s m below meth c ls Cx hW hS hl => b_X9_read a1 a2 hf Cx hW hS hl)
noncomputable def f_X9_rules (a1 : Int32) (a2 : Int32) (a3 : Int32) (a4 : Int32) (σ : um_S) : Option (Int32 × um_S) :=
    (f_X9_isIn (a1.toInt64) (0 : Int64) (4 : Int64) σ).bind fun x2 =>
    (if (um_b x2) = 0 then
    (some ((-1000000001 : Int32), σ))
    else
    (um_b2 (f_X9_ruleOf a1 a2 a3 a4 σ) fun x5 σ4 =>
    (some (x5, σ4))))
set_option maxRecDepth 100000 in
set_option maxHeartbeats 4000000 in
theorem b_X9_rules {H : Heap} {locs : List Loc} {ls : Array Slot} {σ : um_S} {σ' : um_S} {r : Int32} (a1 : Int32) (a2 : Int32) (a3 : Int32) (a4 : Int32)  (hf : f_X9_rules a1 a2 a3 a4 σ = some (r, σ')) (Cx : um_C p s m meth c args cX9_rules 5 (some FieldType.int) RX9 Z) (hW : um_W Z msh α σ H) (hS : va_S (um_D msh α) s.heap H locs) (hl : lv_has ls 5 [(0, .ref (α 0)), (1, .int a1), (2, .int a2), (3, .int a3), (4, .int a4)]) : um_G p l e (3) (72) s m args below meth c Z msh α σ' (some (.int r)) H locs (F0 m 0 ls []) := by
  have hx := Cx.1
  have hb := Cx.2.1
  have hown := Cx.2.2.2.2.1
  have hts := Cx.2.2.2.2.2.1
  rw [f_X9_rules] at hf
  refine lv_iload_n (pc := 0) hx hb dX9_rules_0 rfl (lv_at hl 1 rfl) ?_
  refine lv_i2l (pc := 1) hx hb dX9_rules_1 rfl ?_
  refine lv_lconst (pc := 2) (v := (0 : Int64)) hx hb dX9_rules_2 (by decide) ?_
  refine lv_ldc2 (pc := 3) hx hb hown (hts _ qL_X9_80) dX9_rules_3 ?_
  obtain ⟨x2, hc1, hf⟩ := um_bi hf
  refine um_cSi (pc := 6) (As := [.long (a1.toInt64), .long (0 : Int64), .long (4 : Int64)]) (rest := []) Cx (c_X9_isIn (a1.toInt64) (0 : Int64) (4 : Int64) hc1) kS_X9_isIn (Or.inl qM_X9_60) hW hS rfl hl rfl (Nat.le_of_ble_eq_true rfl) (Nat.le_of_ble_eq_true rfl) (Nat.le_of_ble_eq_true rfl) dX9_rules_6 (Nat.le_refl _) (Nat.le_refl _) ?_
  clear hW hS hc1
  intro H locs hW hS
  refine lv_if_eq (pc := 9) (tgt := 24) hx hb dX9_rules_9 (by decide) (fun c1 => ?_) (fun c1 => ?_)
  · have hf := um_it c1 hf
    clear c1
    refine lv_ldc (pc := 24) hx hb hown (hts _ qC_X9_87) dX9_rules_24 ?_
    exact um_iret (pc := 26) Cx hW hS hf dX9_rules_26
  · have hf := um_ie c1 hf
    clear c1
    refine lv_aload_n (pc := 12) hx hb dX9_rules_12 rfl (lv_at hl 0 rfl) ?_
    refine lv_iload_n (pc := 13) hx hb dX9_rules_13 rfl (lv_at hl 1 rfl) ?_
    refine lv_iload_n (pc := 14) hx hb dX9_rules_14 rfl (lv_at hl 2 rfl) ?_
    refine lv_iload_n (pc := 15) hx hb dX9_rules_15 rfl (lv_at hl 3 rfl) ?_
    refine lv_iload (pc := 16) hx hb dX9_rules_16 (lv_at hl 4 rfl) ?_
    obtain ⟨x5, σ4, hc3, hf⟩ := um_bi2 hf
    refine um_cVi (pc := 18) (As := [.int a1, .int a2, .int a3, .int a4]) (rest := []) Cx (c_X9_ruleOf a1 a2 a3 a4 hc3) kV_X9_ruleOf (Or.inl qM_X9_256) hW hS ms_0 rfl rfl hl rfl (Nat.le_of_ble_eq_true rfl) (Nat.le_of_ble_eq_true rfl) (Nat.le_of_ble_eq_true rfl) dX9_rules_18 (Nat.le_refl _) (Nat.le_refl _) ?_
    clear hW hS hc3
    intro H locs hW hS
    refine lv_goto (pc := 21) (tgt := 26) hx hb dX9_rules_21 (by decide) ?_
    exact um_iret (pc := 26) Cx hW hS hf dX9_rules_26
theorem c_X9_rules {σ : um_S} {σ' : um_S} {r : Int32} (a1 : Int32) (a2 : Int32) (a3 : Int32) (a4 : Int32)  (hf : f_X9_rules a1 a2 a3 a4 σ = some (r, σ')) : um_M l yX9_rules cX9_rules 5 (some FieldType.int) (3) (72) Z msh α σ [.ref (α 0), .int a1, .int a2, .int a3, .int a4] (some (.int r)) σ' :=
  um_start (by decide) (Nat.le_of_ble_eq_true rfl) (fun p e s m below meth c ls Cx hW hS hl => b_X9_rules a1 a2 a3 a4 hf Cx hW hS hl)
noncomputable def f_X9_run_l34 (v1 : Int32) : Nat → Int32 → um_S → Option (um_S)
  | 0, _, _ => none
  | n + 1, v2, σ =>
    if v1 ≤ v2 then
    (some σ)
    else
    ((f_X9_oneWeek σ).bind fun σ2 =>
    (f_X9_run_l34 v1 n (v2 + (1 : Int32)) σ2))
noncomputable def f_X9_run (a1 : Int32) (σ : um_S) : Option (Int32 × um_S) :=
    (f_X9_isIn (a1.toInt64) (1 : Int64) (60 : Int64) σ).bind fun x2 =>
    (if (um_b x2) = 0 then
    (some ((-1000000001 : Int32), σ))
    else
    (if ((σ.1 1 0) + a1) ≤ (1999 : Int32) then
    ((f_X9_run_l34 a1 um_N (0 : Int32) σ).bind fun σ3 =>
    (some (σ3.1 1 0, σ3)))
    else
    (some ((-1000000003 : Int32), σ))))
set_option maxRecDepth 100000 in
set_option maxHeartbeats 4000000 in
theorem t_X9_run_l34 {Q : State → Prop} {σo : um_S} (v1 : Int32)  (Cx : um_C p s m meth c args cX9_run 3 (some FieldType.int) RX9 Z) (hE : ∀ (H : Heap) (locs : List Loc) (ls : Array Slot), um_W Z msh α σo H → va_S (um_D msh α) s.heap H locs → lv_has ls 3 [(0, .ref (α 0))] → W p l e { frames := 5, cells := 0, slots := 0, locals := 119 } s m args below meth c H locs 0 0 Q (F0 m 49 ls [])) : ∀ (n : Nat) (v2 : Int32) (σ : um_S) (H : Heap) (locs : List Loc) (ls : Array Slot), f_X9_run_l34 v1 n v2 σ = some σo → um_W Z msh α σ H → va_S (um_D msh α) s.heap H locs → lv_has ls 3 [(0, .ref (α 0)), (1, .int v1), (2, .int v2)] → W p l e { frames := 5, cells := 0, slots := 0, locals := 119 } s m args below meth c H locs 0 0 Q (F0 m 34 ls []) := by
  have hx := Cx.1
  have hb := Cx.2.1
  have hown := Cx.2.2.2.2.1
  have hts := Cx.2.2.2.2.2.1
  intro n
  induction n with
  | zero =>
    intro v2 σ H locs ls hf hW hS hl
    cases hf
  | succ n ih =>
    intro v2 σ H locs ls hf hW hS hl
    rw [f_X9_run_l34] at hf
    refine lv_iload_n (pc := 34) hx hb dX9_run_34 rfl (lv_at hl 2 rfl) ?_
    refine lv_iload_n (pc := 35) hx hb dX9_run_35 rfl (lv_at hl 1 rfl) ?_
    refine lv_icmp_ge (pc := 36) (tgt := 49) hx hb dX9_run_36 (by decide) (fun c1 => ?_) (fun c1 => ?_)
    · have hf := um_it c1 hf
      clear c1
      cases hf
      exact hE _ _ _ hW hS (lv_sub hl [0] rfl)
    · have hf := um_ie c1 hf
      clear c1
      refine lv_aload_n (pc := 39) hx hb dX9_run_39 rfl (lv_at hl 0 rfl) ?_
      obtain ⟨σ2, hc1, hf⟩ := um_bi hf
      refine um_cVv (pc := 40) (As := []) (rest := []) Cx (c_X9_oneWeek hc1) kV_X9_oneWeek (Or.inl qM_X9_310) hW hS ms_0 rfl rfl hl rfl (Nat.le_of_ble_eq_true rfl) (Nat.le_of_ble_eq_true rfl) (Nat.le_of_ble_eq_true rfl) dX9_run_40 (Nat.le_refl _) (Nat.le_refl _) ?_
      clear hW hS hc1
      intro H locs hW hS
      refine lv_iinc (pc := 43) (v := v2 + (1 : Int32)) (lv' := [(2, .int (v2 + (1 : Int32))), (0, .ref (α 0)), (1, .int v1)]) hx hb dX9_run_43 hl (k := 2) rfl rfl (by decide) rfl ?_
      clear hl
      intro ls hl
      refine lv_goto (pc := 46) (tgt := 34) hx hb dX9_run_46 (by decide) ?_
      exact ih _ _ _ _ _ hf hW hS (lv_sub hl [1, 2, 0] rfl)
set_option maxRecDepth 100000 in
set_option maxHeartbeats 4000000 in
theorem b_X9_run {H : Heap} {locs : List Loc} {ls : Array Slot} {σ : um_S} {σ' : um_S} {r : Int32} (a1 : Int32)  (hf : f_X9_run a1 σ = some (r, σ')) (Cx : um_C p s m meth c args cX9_run 3 (some FieldType.int) RX9 Z) (hW : um_W Z msh α σ H) (hS : va_S (um_D msh α) s.heap H locs) (hl : lv_has ls 3 [(0, .ref (α 0)), (1, .int a1)]) : um_G p l e (5) (119) s m args below meth c Z msh α σ' (some (.int r)) H locs (F0 m 0 ls []) := by
  have hx := Cx.1
  have hb := Cx.2.1
  have hown := Cx.2.2.2.2.1
  have hts := Cx.2.2.2.2.2.1
  rw [f_X9_run] at hf
  refine lv_iload_n (pc := 0) hx hb dX9_run_0 rfl (lv_at hl 1 rfl) ?_
  refine lv_i2l (pc := 1) hx hb dX9_run_1 rfl ?_
  refine lv_lconst (pc := 2) (v := (1 : Int64)) hx hb dX9_run_2 (by decide) ?_
  refine lv_ldc2 (pc := 3) hx hb hown (hts _ qL_X9_308) dX9_run_3 ?_
  obtain ⟨x2, hc1, hf⟩ := um_bi hf
  refine um_cSi (pc := 6) (As := [.long (a1.toInt64), .long (1 : Int64), .long (60 : Int64)]) (rest := []) Cx (c_X9_isIn (a1.toInt64) (1 : Int64) (60 : Int64) hc1) kS_X9_isIn (Or.inl qM_X9_60) hW hS rfl hl rfl (Nat.le_of_ble_eq_true rfl) (Nat.le_of_ble_eq_true rfl) (Nat.le_of_ble_eq_true rfl) dX9_run_6 (Nat.le_refl _) (Nat.le_refl _) ?_
  clear hW hS hc1
  intro H locs hW hS
  refine lv_if_ne (pc := 9) (tgt := 15) hx hb dX9_run_9 (by decide) (fun c1 => ?_) (fun c1 => ?_)
  · have hf := um_ie c1 hf
    clear c1
    refine lv_aload_n (pc := 15) hx hb dX9_run_15 rfl (lv_at hl 0 rfl) ?_
    refine gF_X9_7 (pc := 16) Cx hW ms_0 rfl dX9_run_16 ?_
    refine lv_iconst (pc := 19) (v := (0 : Int32)) hx hb dX9_run_19 (by decide) ?_
    refine um_iaj (pc := 20) (n := 3790) 0 rfl Cx hW ms_1 rfl (um_ix_in (by decide)) dX9_run_20 ?_
    refine lv_iload_n (pc := 21) hx hb dX9_run_21 rfl (lv_at hl 1 rfl) ?_
    refine lv_iadd (pc := 22) hx hb dX9_run_22 ?_
    refine lv_sipush (pc := 23) (v := (1999 : Int32)) hx hb dX9_run_23 (by decide) ?_
    refine lv_icmp_le (pc := 26) (tgt := 32) hx hb dX9_run_26 (by decide) (fun c1 => ?_) (fun c1 => ?_)
    · have hf := um_it c1 hf
      clear c1
      refine lv_iconst (pc := 32) (v := (0 : Int32)) hx hb dX9_run_32 (by decide) ?_
      refine lv_istore_n (pc := 33) (lv' := [(2, .int (0 : Int32)), (0, .ref (α 0)), (1, .int a1)]) hx hb dX9_run_33 rfl hl (by decide) rfl ?_
      clear hl
      intro ls hl
      obtain ⟨σ3, hc4, hf⟩ := um_bi hf
      refine t_X9_run_l34 a1 Cx ?_ um_N _ _ _ _ _ hc4 hW hS (lv_sub hl [1, 2, 0] rfl)
      clear hW hS hl hc4
      intro H locs ls hW hS hl
      refine lv_aload_n (pc := 49) hx hb dX9_run_49 rfl (lv_at hl 0 rfl) ?_
      refine gF_X9_7 (pc := 50) Cx hW ms_0 rfl dX9_run_50 ?_
      refine lv_iconst (pc := 53) (v := (0 : Int32)) hx hb dX9_run_53 (by decide) ?_
      refine um_iaj (pc := 54) (n := 3790) 0 rfl Cx hW ms_1 rfl (um_ix_in (by decide)) dX9_run_54 ?_
      exact um_iret (pc := 55) Cx hW hS hf dX9_run_55
    · have hf := um_ie c1 hf
      clear c1
      refine lv_ldc (pc := 29) hx hb hown (hts _ qC_X9_88) dX9_run_29 ?_
      exact um_iret (pc := 31) Cx hW hS hf dX9_run_31
  · have hf := um_it c1 hf
    clear c1
    refine lv_ldc (pc := 12) hx hb hown (hts _ qC_X9_87) dX9_run_12 ?_
    exact um_iret (pc := 14) Cx hW hS hf dX9_run_14
theorem c_X9_run {σ : um_S} {σ' : um_S} {r : Int32} (a1 : Int32)  (hf : f_X9_run a1 σ = some (r, σ')) : um_M l yX9_run cX9_run 3 (some FieldType.int) (5) (119) Z msh α σ [.ref (α 0), .int a1] (some (.int r)) σ' :=
  um_start (by decide) (Nat.le_of_ble_eq_true rfl) (fun p e s m below meth c ls Cx hW hS hl => b_X9_run a1 hf Cx hW hS hl)
noncomputable def f_X9_runs (a1 : Int32) (σ : um_S) : Option (Int32 × um_S) :=
    (f_X9_isMan a1 σ).bind fun x2 =>
    (if (um_b x2) = 0 then
    (some ((-1000000001 : Int32), σ))
    else
    ((f_X9_isHeld a1 σ).bind fun x4 =>
    (if (um_b x4) = 0 then
    (some ((-1000000012 : Int32), σ))
    else
    ((f_X9_isOut a1 σ).bind fun x6 =>
    (if (um_b x6) = 0 then
    ((f_X9_manAt a1 σ).bind fun x8 =>
    (if um_ix (x8 + (4 : Int32)) 3790 then
    ((f_X9_becomesOf a1 (7 : Int32) (σ.1 1 (x8 + (4 : Int32)).toNatClampNeg) σ).bind fun σ11 =>
    ((f_X9_manAt a1 σ11).bind fun x13 =>
    (if um_ix (x13 + (4 : Int32)) 3790 then
    (um_let (um_wr σ11 1 (x13 + (4 : Int32)).toNatClampNeg (-1 : Int32)) fun σ15 =>
    (some ((1 : Int32), σ15))) else none))) else none))
    else
    (some ((-1000000002 : Int32), σ)))))))
set_option maxRecDepth 100000 in
set_option maxHeartbeats 4000000 in
theorem b_X9_runs {H : Heap} {locs : List Loc} {ls : Array Slot} {σ : um_S} {σ' : um_S} {r : Int32} (a1 : Int32)  (hf : f_X9_runs a1 σ = some (r, σ')) (Cx : um_C p s m meth c args cX9_runs 2 (some FieldType.int) RX9 Z) (hW : um_W Z msh α σ H) (hS : va_S (um_D msh α) s.heap H locs) (hl : lv_has ls 2 [(0, .ref (α 0)), (1, .int a1)]) : um_G p l e (3) (63) s m args below meth c Z msh α σ' (some (.int r)) H locs (F0 m 0 ls []) := by
  have hx := Cx.1
  have hb := Cx.2.1
  have hown := Cx.2.2.2.2.1
  have hts := Cx.2.2.2.2.2.1
  rw [f_X9_runs] at hf
  refine lv_aload_n (pc := 0) hx hb dX9_runs_0 rfl (lv_at hl 0 rfl) ?_
  refine lv_iload_n (pc := 1) hx hb dX9_runs_1 rfl (lv_at hl 1 rfl) ?_
  obtain ⟨x2, hc1, hf⟩ := um_bi hf
  refine um_cVi (pc := 2) (As := [.int a1]) (rest := []) Cx (c_X9_isMan a1 hc1) kV_X9_isMan (Or.inl qM_X9_101) hW hS ms_0 rfl rfl hl rfl (Nat.le_of_ble_eq_true rfl) (Nat.le_of_ble_eq_true rfl) (Nat.le_of_ble_eq_true rfl) dX9_runs_2 (Nat.le_refl _) (Nat.le_refl _) ?_
  clear hW hS hc1
  intro H locs hW hS
  refine lv_if_ne (pc := 5) (tgt := 11) hx hb dX9_runs_5 (by decide) (fun c1 => ?_) (fun c1 => ?_)
  · have hf := um_ie c1 hf
    clear c1
    refine lv_aload_n (pc := 11) hx hb dX9_runs_11 rfl (lv_at hl 0 rfl) ?_
    refine lv_iload_n (pc := 12) hx hb dX9_runs_12 rfl (lv_at hl 1 rfl) ?_
    obtain ⟨x4, hc3, hf⟩ := um_bi hf
    refine um_cVi (pc := 13) (As := [.int a1]) (rest := []) Cx (c_X9_isHeld a1 hc3) kV_X9_isHeld (Or.inl qM_X9_280) hW hS ms_0 rfl rfl hl rfl (Nat.le_of_ble_eq_true rfl) (Nat.le_of_ble_eq_true rfl) (Nat.le_of_ble_eq_true rfl) dX9_runs_13 (Nat.le_refl _) (Nat.le_refl _) ?_
    clear hW hS hc3
    intro H locs hW hS
    refine lv_if_ne (pc := 16) (tgt := 22) hx hb dX9_runs_16 (by decide) (fun c1 => ?_) (fun c1 => ?_)
    · have hf := um_ie c1 hf
      clear c1
      refine lv_aload_n (pc := 22) hx hb dX9_runs_22 rfl (lv_at hl 0 rfl) ?_
      refine lv_iload_n (pc := 23) hx hb dX9_runs_23 rfl (lv_at hl 1 rfl) ?_
      obtain ⟨x6, hc5, hf⟩ := um_bi hf
      refine um_cVi (pc := 24) (As := [.int a1]) (rest := []) Cx (c_X9_isOut a1 hc5) kV_X9_isOut (Or.inl qM_X9_262) hW hS ms_0 rfl rfl hl rfl (Nat.le_of_ble_eq_true rfl) (Nat.le_of_ble_eq_true rfl) (Nat.le_of_ble_eq_true rfl) dX9_runs_24 (Nat.le_refl _) (Nat.le_refl _) ?_
      clear hW hS hc5
      intro H locs hW hS
      refine lv_if_eq (pc := 27) (tgt := 33) hx hb dX9_runs_27 (by decide) (fun c1 => ?_) (fun c1 => ?_)
      · have hf := um_it c1 hf
        clear c1
        refine lv_aload_n (pc := 33) hx hb dX9_runs_33 rfl (lv_at hl 0 rfl) ?_
        refine lv_iload_n (pc := 34) hx hb dX9_runs_34 rfl (lv_at hl 1 rfl) ?_
        refine lv_bipush (pc := 35) (v := (7 : Int32)) hx hb dX9_runs_35 (by decide) ?_
        refine lv_aload_n (pc := 37) hx hb dX9_runs_37 rfl (lv_at hl 0 rfl) ?_
        refine gF_X9_7 (pc := 38) Cx hW ms_0 rfl dX9_runs_38 ?_
        refine lv_aload_n (pc := 41) hx hb dX9_runs_41 rfl (lv_at hl 0 rfl) ?_
        refine lv_iload_n (pc := 42) hx hb dX9_runs_42 rfl (lv_at hl 1 rfl) ?_
        obtain ⟨x8, hc7, hf⟩ := um_bi hf
        refine um_cVi (pc := 43) (As := [.int a1]) (rest := [.ref (α 1), .int (7 : Int32), .int a1, .ref (α 0)]) Cx (c_X9_manAt a1 hc7) kV_X9_manAt (Or.inl qM_X9_66) hW hS ms_0 rfl rfl hl rfl (Nat.le_of_ble_eq_true rfl) (Nat.le_of_ble_eq_true rfl) (Nat.le_of_ble_eq_true rfl) dX9_runs_43 (Nat.le_refl _) (Nat.le_refl _) ?_
        clear hW hS hc7
        intro H locs hW hS
        refine lv_iconst (pc := 46) (v := (4 : Int32)) hx hb dX9_runs_46 (by decide) ?_
        refine lv_iadd (pc := 47) hx hb dX9_runs_47 ?_
        obtain ⟨g9, hf⟩ := um_gu hf
        refine um_iald (pc := 48) Cx hW ms_1 rfl (um_ix_in g9) dX9_runs_48 ?_
        obtain ⟨σ11, hc10, hf⟩ := um_bi hf
        refine um_cVv (pc := 49) (As := [.int a1, .int (7 : Int32), .int (σ.1 1 (x8 + (4 : Int32)).toNatClampNeg)]) (rest := []) Cx (c_X9_becomesOf a1 (7 : Int32) (σ.1 1 (x8 + (4 : Int32)).toNatClampNeg) hc10) kV_X9_becomesOf (Or.inl qM_X9_97) hW hS ms_0 rfl rfl hl rfl (Nat.le_of_ble_eq_true rfl) (Nat.le_of_ble_eq_true rfl) (Nat.le_of_ble_eq_true rfl) dX9_runs_49 (Nat.le_refl _) (Nat.le_refl _) ?_
        clear hW hS hc10
        intro H locs hW hS
        refine lv_aload_n (pc := 52) hx hb dX9_runs_52 rfl (lv_at hl 0 rfl) ?_
        refine gF_X9_7 (pc := 53) Cx hW ms_0 rfl dX9_runs_53 ?_
        refine lv_aload_n (pc := 56) hx hb dX9_runs_56 rfl (lv_at hl 0 rfl) ?_
        refine lv_iload_n (pc := 57) hx hb dX9_runs_57 rfl (lv_at hl 1 rfl) ?_
        obtain ⟨x13, hc12, hf⟩ := um_bi hf
        refine um_cVi (pc := 58) (As := [.int a1]) (rest := [.ref (α 1)]) Cx (c_X9_manAt a1 hc12) kV_X9_manAt (Or.inl qM_X9_66) hW hS ms_0 rfl rfl hl rfl (Nat.le_of_ble_eq_true rfl) (Nat.le_of_ble_eq_true rfl) (Nat.le_of_ble_eq_true rfl) dX9_runs_58 (Nat.le_refl _) (Nat.le_refl _) ?_
        clear hW hS hc12
        intro H locs hW hS
        refine lv_iconst (pc := 61) (v := (4 : Int32)) hx hb dX9_runs_61 (by decide) ?_
        refine lv_iadd (pc := 62) hx hb dX9_runs_62 ?_
        refine lv_iconst (pc := 63) (v := (-1 : Int32)) hx hb dX9_runs_63 (by decide) ?_
        obtain ⟨g14, hf⟩ := um_gu hf
        refine um_iast (pc := 64) Cx hW hS ms_1 rfl (um_ix_in g14) dX9_runs_64 ?_
        clear hW hS
        intro H locs hW hS
        obtain ⟨σ15, e16, hf⟩ := um_le hf
        rw [← e16] at hW
        clear e16
        refine lv_iconst (pc := 65) (v := (1 : Int32)) hx hb dX9_runs_65 (by decide) ?_
        exact um_iret (pc := 66) Cx hW hS hf dX9_runs_66
      · have hf := um_ie c1 hf
        clear c1
        refine lv_ldc (pc := 30) hx hb hown (hts _ qC_X9_106) dX9_runs_30 ?_
        exact um_iret (pc := 32) Cx hW hS hf dX9_runs_32
    · have hf := um_it c1 hf
      clear c1
      refine lv_ldc (pc := 19) hx hb hown (hts _ qC_X9_122) dX9_runs_19 ?_
      exact um_iret (pc := 21) Cx hW hS hf dX9_runs_21
  · have hf := um_it c1 hf
    clear c1
    refine lv_ldc (pc := 8) hx hb hown (hts _ qC_X9_87) dX9_runs_8 ?_
    exact um_iret (pc := 10) Cx hW hS hf dX9_runs_10
theorem c_X9_runs {σ : um_S} {σ' : um_S} {r : Int32} (a1 : Int32)  (hf : f_X9_runs a1 σ = some (r, σ')) : um_M l yX9_runs cX9_runs 2 (some FieldType.int) (3) (63) Z msh α σ [.ref (α 0), .int a1] (some (.int r)) σ' :=
  um_start (by decide) (Nat.le_of_ble_eq_true rfl) (fun p e s m below meth c ls Cx hW hS hl => b_X9_runs a1 hf Cx hW hS hl)
