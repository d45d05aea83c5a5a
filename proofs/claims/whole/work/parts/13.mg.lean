variable {p : Program} {l : Launch} {e : Env} {s : State} {m : MethodId} {args : Array Value} {below : List Frame} {meth : Method} {c : Code} {Z : um_Z} {α : Nat → Nat} {sh : Nat → Option um_Sh}
noncomputable def f_X9_isLong (a1 : Int32) (a2 : Int32) (a3 : Int32) (a4 : Int32) (a5 : Int32) (a6 : Int32) (σ : um_S) : Option (Bool) :=
    um_let (fun (x2 : Int32) =>
    (if (σ.1 0 11) = (1 : Int32) then
    (if ((σ.1 0 10) - (σ.1 0 9)) = x2 then
    (if um_ix (σ.1 0 9) 96 then
    (if (σ.1 7 (σ.1 0 9).toNatClampNeg) = a1 then
    (if um_ix ((σ.1 0 9) + (1 : Int32)) 96 then
    (if (σ.1 7 ((σ.1 0 9) + (1 : Int32)).toNatClampNeg) = a2 then
    (if um_ix ((σ.1 0 9) + (2 : Int32)) 96 then
    (if (σ.1 7 ((σ.1 0 9) + (2 : Int32)).toNatClampNeg) = a3 then
    (if um_ix ((σ.1 0 9) + (3 : Int32)) 96 then
    (if (σ.1 7 ((σ.1 0 9) + (3 : Int32)).toNatClampNeg) = a4 then
    (if um_ix ((σ.1 0 9) + (4 : Int32)) 96 then
    (if (σ.1 7 ((σ.1 0 9) + (4 : Int32)).toNatClampNeg) = a5 then
    (if a6 = 0 then
    (some true)
    else
    (if um_ix ((σ.1 0 9) + (5 : Int32)) 96 then
    (if (σ.1 7 ((σ.1 0 9) + (5 : Int32)).toNatClampNeg) = a6 then
    (some true)
    else
    (some false)) else none))
    else
    (some false)) else none)
    else
    (some false)) else none)
    else
    (some false)) else none)
    else
    (some false)) else none)
    else
    (some false)) else none)
    else
    (some false))
    else
    (some false))) fun k1 =>
    (if a6 = 0 then
    (k1 (5 : Int32))
    else
    (k1 (6 : Int32)))
set_option maxRecDepth 100000 in
set_option maxHeartbeats 4000000 in
theorem b_X9_isLong {H : Heap} {locs : List Loc} {ls : Array Slot} {σ : um_S} {r : Bool} (a1 : Int32) (a2 : Int32) (a3 : Int32) (a4 : Int32) (a5 : Int32) (a6 : Int32)  (hf : f_X9_isLong a1 a2 a3 a4 a5 a6 σ = some r) (Cx : um_C p s m meth c args cX9_isLong 8 (some FieldType.boolean) RX9 Z) (hW : um_W Z msh α σ H) (hS : va_S (um_D msh α) s.heap H locs) (hl : lv_has ls 8 [(0, .ref (α 0)), (1, .int a1), (2, .int a2), (3, .int a3), (4, .int a4), (5, .int a5), (6, .int a6)]) : um_G p l e (0) (0) s m args below meth c Z msh α σ (some (.int (um_b r))) H locs (F0 m 0 ls []) := by
  have hx := Cx.1
  have hb := Cx.2.1
  have hown := Cx.2.2.2.2.1
  have hts := Cx.2.2.2.2.2.1
  rw [f_X9_isLong] at hf
  refine lv_iload (pc := 0) hx hb dX9_isLong_0 (lv_at hl 6 rfl) ?_
  obtain ⟨k1, hk1, hf⟩ := um_j1 hf
  have J1 : ∀ (x2 : Int32), k1 x2 = some r → ∀ (H : Heap) (locs : List Loc) (ls : Array Slot), um_W Z msh α σ H → va_S (um_D msh α) s.heap H locs → lv_has ls 8 [(0, .ref (α 0)), (1, .int a1), (2, .int a2), (3, .int a3), (4, .int a4), (5, .int a5), (6, .int a6)] → um_G p l e (0) (0) s m args below meth c Z msh α σ (some (.int (um_b r))) H locs (F0 m 11 ls [.int x2]) := by
    intro x2 hf H locs ls hW hS hl
    rw [hk1] at hf
    refine lv_istore (pc := 11) (lv' := [(7, .int x2), (0, .ref (α 0)), (1, .int a1), (2, .int a2), (3, .int a3), (4, .int a4), (5, .int a5), (6, .int a6)]) hx hb dX9_isLong_11 hl (by decide) rfl ?_
    clear hl
    intro ls hl
    refine lv_aload_n (pc := 13) hx hb dX9_isLong_13 rfl (lv_at hl 1 rfl) ?_
    refine gF_X9_155 (pc := 14) Cx hW ms_0 rfl dX9_isLong_14 ?_
    refine lv_iconst (pc := 17) (v := (1 : Int32)) hx hb dX9_isLong_17 (by decide) ?_
    refine lv_icmp_ne (pc := 18) (tgt := 135) hx hb dX9_isLong_18 (by decide) (fun c1 => ?_) (fun c1 => ?_)
    · have hf := um_ie c1 hf
      clear c1
      refine lv_iconst (pc := 135) (v := (0 : Int32)) hx hb dX9_isLong_135 (by decide) ?_
      exact um_zretR (pc := 136) Cx hW hS hf rfl dX9_isLong_136
    · have hf := um_it c1 hf
      clear c1
      refine lv_aload_n (pc := 21) hx hb dX9_isLong_21 rfl (lv_at hl 1 rfl) ?_
      refine gF_X9_152 (pc := 22) Cx hW ms_0 rfl dX9_isLong_22 ?_
      refine lv_aload_n (pc := 25) hx hb dX9_isLong_25 rfl (lv_at hl 1 rfl) ?_
      refine gF_X9_158 (pc := 26) Cx hW ms_0 rfl dX9_isLong_26 ?_
      refine lv_isub (pc := 29) hx hb dX9_isLong_29 ?_
      refine lv_iload (pc := 30) hx hb dX9_isLong_30 (lv_at hl 0 rfl) ?_
      refine lv_icmp_ne (pc := 32) (tgt := 135) hx hb dX9_isLong_32 (by decide) (fun c1 => ?_) (fun c1 => ?_)
      · have hf := um_ie c1 hf
        clear c1
        refine lv_iconst (pc := 135) (v := (0 : Int32)) hx hb dX9_isLong_135 (by decide) ?_
        exact um_zretR (pc := 136) Cx hW hS hf rfl dX9_isLong_136
      · have hf := um_it c1 hf
        clear c1
        refine lv_aload_n (pc := 35) hx hb dX9_isLong_35 rfl (lv_at hl 1 rfl) ?_
        refine gF_X9_28 (pc := 36) Cx hW ms_0 rfl dX9_isLong_36 ?_
        refine lv_aload_n (pc := 39) hx hb dX9_isLong_39 rfl (lv_at hl 1 rfl) ?_
        refine gF_X9_158 (pc := 40) Cx hW ms_0 rfl dX9_isLong_40 ?_
        obtain ⟨g3, hf⟩ := um_gu hf
        refine um_iald (pc := 43) Cx hW ms_7 rfl (um_ix_in g3) dX9_isLong_43 ?_
        refine lv_iload_n (pc := 44) hx hb dX9_isLong_44 rfl (lv_at hl 2 rfl) ?_
        refine lv_icmp_ne (pc := 45) (tgt := 135) hx hb dX9_isLong_45 (by decide) (fun c1 => ?_) (fun c1 => ?_)
        · have hf := um_ie c1 hf
          clear c1
          refine lv_iconst (pc := 135) (v := (0 : Int32)) hx hb dX9_isLong_135 (by decide) ?_
          exact um_zretR (pc := 136) Cx hW hS hf rfl dX9_isLong_136
        · have hf := um_it c1 hf
          clear c1
          refine lv_aload_n (pc := 48) hx hb dX9_isLong_48 rfl (lv_at hl 1 rfl) ?_
          refine gF_X9_28 (pc := 49) Cx hW ms_0 rfl dX9_isLong_49 ?_
          refine lv_aload_n (pc := 52) hx hb dX9_isLong_52 rfl (lv_at hl 1 rfl) ?_
          refine gF_X9_158 (pc := 53) Cx hW ms_0 rfl dX9_isLong_53 ?_
          refine lv_iconst (pc := 56) (v := (1 : Int32)) hx hb dX9_isLong_56 (by decide) ?_
          refine lv_iadd (pc := 57) hx hb dX9_isLong_57 ?_
          obtain ⟨g4, hf⟩ := um_gu hf
          refine um_iald (pc := 58) Cx hW ms_7 rfl (um_ix_in g4) dX9_isLong_58 ?_
          refine lv_iload_n (pc := 59) hx hb dX9_isLong_59 rfl (lv_at hl 3 rfl) ?_
          refine lv_icmp_ne (pc := 60) (tgt := 135) hx hb dX9_isLong_60 (by decide) (fun c1 => ?_) (fun c1 => ?_)
          · have hf := um_ie c1 hf
            clear c1
            refine lv_iconst (pc := 135) (v := (0 : Int32)) hx hb dX9_isLong_135 (by decide) ?_
            exact um_zretR (pc := 136) Cx hW hS hf rfl dX9_isLong_136
          · have hf := um_it c1 hf
            clear c1
            refine lv_aload_n (pc := 63) hx hb dX9_isLong_63 rfl (lv_at hl 1 rfl) ?_
            refine gF_X9_28 (pc := 64) Cx hW ms_0 rfl dX9_isLong_64 ?_
            refine lv_aload_n (pc := 67) hx hb dX9_isLong_67 rfl (lv_at hl 1 rfl) ?_
            refine gF_X9_158 (pc := 68) Cx hW ms_0 rfl dX9_isLong_68 ?_
            refine lv_iconst (pc := 71) (v := (2 : Int32)) hx hb dX9_isLong_71 (by decide) ?_
            refine lv_iadd (pc := 72) hx hb dX9_isLong_72 ?_
            obtain ⟨g5, hf⟩ := um_gu hf
            refine um_iald (pc := 73) Cx hW ms_7 rfl (um_ix_in g5) dX9_isLong_73 ?_
            refine lv_iload_n (pc := 74) hx hb dX9_isLong_74 rfl (lv_at hl 4 rfl) ?_
            refine lv_icmp_ne (pc := 75) (tgt := 135) hx hb dX9_isLong_75 (by decide) (fun c1 => ?_) (fun c1 => ?_)
            · have hf := um_ie c1 hf
              clear c1
              refine lv_iconst (pc := 135) (v := (0 : Int32)) hx hb dX9_isLong_135 (by decide) ?_
              exact um_zretR (pc := 136) Cx hW hS hf rfl dX9_isLong_136
            · have hf := um_it c1 hf
              clear c1
              refine lv_aload_n (pc := 78) hx hb dX9_isLong_78 rfl (lv_at hl 1 rfl) ?_
              refine gF_X9_28 (pc := 79) Cx hW ms_0 rfl dX9_isLong_79 ?_
              refine lv_aload_n (pc := 82) hx hb dX9_isLong_82 rfl (lv_at hl 1 rfl) ?_
              refine gF_X9_158 (pc := 83) Cx hW ms_0 rfl dX9_isLong_83 ?_
              refine lv_iconst (pc := 86) (v := (3 : Int32)) hx hb dX9_isLong_86 (by decide) ?_
              refine lv_iadd (pc := 87) hx hb dX9_isLong_87 ?_
              obtain ⟨g6, hf⟩ := um_gu hf
              refine um_iald (pc := 88) Cx hW ms_7 rfl (um_ix_in g6) dX9_isLong_88 ?_
              refine lv_iload (pc := 89) hx hb dX9_isLong_89 (lv_at hl 5 rfl) ?_
              refine lv_icmp_ne (pc := 91) (tgt := 135) hx hb dX9_isLong_91 (by decide) (fun c1 => ?_) (fun c1 => ?_)
              · have hf := um_ie c1 hf
                clear c1
                refine lv_iconst (pc := 135) (v := (0 : Int32)) hx hb dX9_isLong_135 (by decide) ?_
                exact um_zretR (pc := 136) Cx hW hS hf rfl dX9_isLong_136
              · have hf := um_it c1 hf
                clear c1
                refine lv_aload_n (pc := 94) hx hb dX9_isLong_94 rfl (lv_at hl 1 rfl) ?_
                refine gF_X9_28 (pc := 95) Cx hW ms_0 rfl dX9_isLong_95 ?_
                refine lv_aload_n (pc := 98) hx hb dX9_isLong_98 rfl (lv_at hl 1 rfl) ?_
                refine gF_X9_158 (pc := 99) Cx hW ms_0 rfl dX9_isLong_99 ?_
                refine lv_iconst (pc := 102) (v := (4 : Int32)) hx hb dX9_isLong_102 (by decide) ?_
                refine lv_iadd (pc := 103) hx hb dX9_isLong_103 ?_
                obtain ⟨g7, hf⟩ := um_gu hf
                refine um_iald (pc := 104) Cx hW ms_7 rfl (um_ix_in g7) dX9_isLong_104 ?_
                refine lv_iload (pc := 105) hx hb dX9_isLong_105 (lv_at hl 6 rfl) ?_
                refine lv_icmp_ne (pc := 107) (tgt := 135) hx hb dX9_isLong_107 (by decide) (fun c1 => ?_) (fun c1 => ?_)
                · have hf := um_ie c1 hf
                  clear c1
                  refine lv_iconst (pc := 135) (v := (0 : Int32)) hx hb dX9_isLong_135 (by decide) ?_
                  exact um_zretR (pc := 136) Cx hW hS hf rfl dX9_isLong_136
                · have hf := um_it c1 hf
                  clear c1
                  refine lv_iload (pc := 110) hx hb dX9_isLong_110 (lv_at hl 7 rfl) ?_
                  refine lv_if_eq (pc := 112) (tgt := 131) hx hb dX9_isLong_112 (by decide) (fun c1 => ?_) (fun c1 => ?_)
                  · have hf := um_it c1 hf
                    clear c1
                    refine lv_iconst (pc := 131) (v := (1 : Int32)) hx hb dX9_isLong_131 (by decide) ?_
                    refine lv_goto (pc := 132) (tgt := 136) hx hb dX9_isLong_132 (by decide) ?_
                    exact um_zretR (pc := 136) Cx hW hS hf rfl dX9_isLong_136
                  · have hf := um_ie c1 hf
                    clear c1
                    refine lv_aload_n (pc := 115) hx hb dX9_isLong_115 rfl (lv_at hl 1 rfl) ?_
                    refine gF_X9_28 (pc := 116) Cx hW ms_0 rfl dX9_isLong_116 ?_
                    refine lv_aload_n (pc := 119) hx hb dX9_isLong_119 rfl (lv_at hl 1 rfl) ?_
                    refine gF_X9_158 (pc := 120) Cx hW ms_0 rfl dX9_isLong_120 ?_
                    refine lv_iconst (pc := 123) (v := (5 : Int32)) hx hb dX9_isLong_123 (by decide) ?_
                    refine lv_iadd (pc := 124) hx hb dX9_isLong_124 ?_
                    obtain ⟨g8, hf⟩ := um_gu hf
                    refine um_iald (pc := 125) Cx hW ms_7 rfl (um_ix_in g8) dX9_isLong_125 ?_
                    refine lv_iload (pc := 126) hx hb dX9_isLong_126 (lv_at hl 7 rfl) ?_
                    refine lv_icmp_ne (pc := 128) (tgt := 135) hx hb dX9_isLong_128 (by decide) (fun c1 => ?_) (fun c1 => ?_)
                    · have hf := um_ie c1 hf
                      clear c1
                      refine lv_iconst (pc := 135) (v := (0 : Int32)) hx hb dX9_isLong_135 (by decide) ?_
                      exact um_zretR (pc := 136) Cx hW hS hf rfl dX9_isLong_136
                    · have hf := um_it c1 hf
                      clear c1
                      refine lv_iconst (pc := 131) (v := (1 : Int32)) hx hb dX9_isLong_131 (by decide) ?_
                      refine lv_goto (pc := 132) (tgt := 136) hx hb dX9_isLong_132 (by decide) ?_
                      exact um_zretR (pc := 136) Cx hW hS hf rfl dX9_isLong_136
  refine lv_if_ne (pc := 2) (tgt := 9) hx hb dX9_isLong_2 (by decide) (fun c1 => ?_) (fun c1 => ?_)
  · have hf := um_ie c1 hf
    clear c1
    refine lv_bipush (pc := 9) (v := (6 : Int32)) hx hb dX9_isLong_9 (by decide) ?_
    exact J1 (6 : Int32) hf _ _ _ hW hS hl
  · have hf := um_it c1 hf
    clear c1
    refine lv_iconst (pc := 5) (v := (5 : Int32)) hx hb dX9_isLong_5 (by decide) ?_
    refine lv_goto (pc := 6) (tgt := 11) hx hb dX9_isLong_6 (by decide) ?_
    exact J1 (5 : Int32) hf _ _ _ hW hS hl
theorem c_X9_isLong {σ : um_S} {r : Bool} (a1 : Int32) (a2 : Int32) (a3 : Int32) (a4 : Int32) (a5 : Int32) (a6 : Int32)  (hf : f_X9_isLong a1 a2 a3 a4 a5 a6 σ = some r) : um_M l yX9_isLong cX9_isLong 8 (some FieldType.boolean) (0) (0) Z msh α σ [.ref (α 0), .int a1, .int a2, .int a3, .int a4, .int a5, .int a6] (some (.int (um_b r))) σ :=
  um_start (by decide) (Nat.le_of_ble_eq_true rfl) (fun p e s m below meth c ls Cx hW hS hl => b_X9_isLong a1 a2 a3 a4 a5 a6 hf Cx hW hS hl)
noncomputable def f_X9_isLook (a1 : Int32) (σ : um_S) : Option (Bool) :=
    (f_X9_isIn (a1.toInt64) (0 : Int64) (((σ.1 1 6) - (1 : Int32)).toInt64) σ).bind fun x2 =>
    (some x2)
set_option maxRecDepth 100000 in
set_option maxHeartbeats 4000000 in
theorem b_X9_isLook {H : Heap} {locs : List Loc} {ls : Array Slot} {σ : um_S} {r : Bool} (a1 : Int32)  (hf : f_X9_isLook a1 σ = some r) (Cx : um_C p s m meth c args cX9_isLook 2 (some FieldType.boolean) RX9 Z) (hW : um_W Z msh α σ H) (hS : va_S (um_D msh α) s.heap H locs) (hl : lv_has ls 2 [(0, .ref (α 0)), (1, .int a1)]) : um_G p l e (1) (25) s m args below meth c Z msh α σ (some (.int (um_b r))) H locs (F0 m 0 ls []) := by
  have hx := Cx.1
  have hb := Cx.2.1
  have hown := Cx.2.2.2.2.1
  have hts := Cx.2.2.2.2.2.1
  rw [f_X9_isLook] at hf
  refine lv_iload_n (pc := 0) hx hb dX9_isLook_0 rfl (lv_at hl 1 rfl) ?_
  refine lv_i2l (pc := 1) hx hb dX9_isLook_1 rfl ?_
  refine lv_lconst (pc := 2) (v := (0 : Int64)) hx hb dX9_isLook_2 (by decide) ?_
  refine lv_aload_n (pc := 3) hx hb dX9_isLook_3 rfl (lv_at hl 0 rfl) ?_
  refine gF_X9_7 (pc := 4) Cx hW ms_0 rfl dX9_isLook_4 ?_
  refine lv_bipush (pc := 7) (v := (6 : Int32)) hx hb dX9_isLook_7 (by decide) ?_
  refine um_iaj (pc := 9) (n := 3790) 6 rfl Cx hW ms_1 rfl (um_ix_in (by decide)) dX9_isLook_9 ?_
  refine lv_iconst (pc := 10) (v := (1 : Int32)) hx hb dX9_isLook_10 (by decide) ?_
  refine lv_isub (pc := 11) hx hb dX9_isLook_11 ?_
  refine lv_i2l (pc := 12) hx hb dX9_isLook_12 rfl ?_
  obtain ⟨x2, hc1, hf⟩ := um_bi hf
  refine um_cSi (pc := 13) (As := [.long (a1.toInt64), .long (0 : Int64), .long (((σ.1 1 6) - (1 : Int32)).toInt64)]) (rest := []) Cx (c_X9_isIn (a1.toInt64) (0 : Int64) (((σ.1 1 6) - (1 : Int32)).toInt64) hc1) kS_X9_isIn (Or.inl qM_X9_60) hW hS rfl hl rfl (Nat.le_of_ble_eq_true rfl) (Nat.le_of_ble_eq_true rfl) (Nat.le_of_ble_eq_true rfl) dX9_isLook_13 (Nat.le_refl _) (Nat.le_refl _) ?_
  clear hW hS hc1
  intro H locs hW hS
  exact um_zretR (pc := 16) Cx hW hS hf rfl dX9_isLook_16
theorem c_X9_isLook {σ : um_S} {r : Bool} (a1 : Int32)  (hf : f_X9_isLook a1 σ = some r) : um_M l yX9_isLook cX9_isLook 2 (some FieldType.boolean) (1) (25) Z msh α σ [.ref (α 0), .int a1] (some (.int (um_b r))) σ :=
  um_start (by decide) (Nat.le_of_ble_eq_true rfl) (fun p e s m below meth c ls Cx hW hS hl => b_X9_isLook a1 hf Cx hW hS hl)
noncomputable def f_X9_isMark (a1 : Int32) (σ : um_S) : Option (Bool) :=
    (f_X9_isIn (a1.toInt64) (0 : Int64) (((σ.1 1 4) - (1 : Int32)).toInt64) σ).bind fun x2 =>
    (some x2)
set_option maxRecDepth 100000 in
set_option maxHeartbeats 4000000 in
theorem b_X9_isMark {H : Heap} {locs : List Loc} {ls : Array Slot} {σ : um_S} {r : Bool} (a1 : Int32)  (hf : f_X9_isMark a1 σ = some r) (Cx : um_C p s m meth c args cX9_isMark 2 (some FieldType.boolean) RX9 Z) (hW : um_W Z msh α σ H) (hS : va_S (um_D msh α) s.heap H locs) (hl : lv_has ls 2 [(0, .ref (α 0)), (1, .int a1)]) : um_G p l e (1) (25) s m args below meth c Z msh α σ (some (.int (um_b r))) H locs (F0 m 0 ls []) := by
  have hx := Cx.1
  have hb := Cx.2.1
  have hown := Cx.2.2.2.2.1
  have hts := Cx.2.2.2.2.2.1
  rw [f_X9_isMark] at hf
  refine lv_iload_n (pc := 0) hx hb dX9_isMark_0 rfl (lv_at hl 1 rfl) ?_
  refine lv_i2l (pc := 1) hx hb dX9_isMark_1 rfl ?_
  refine lv_lconst (pc := 2) (v := (0 : Int64)) hx hb dX9_isMark_2 (by decide) ?_
  refine lv_aload_n (pc := 3) hx hb dX9_isMark_3 rfl (lv_at hl 0 rfl) ?_
  refine gF_X9_7 (pc := 4) Cx hW ms_0 rfl dX9_isMark_4 ?_
  refine lv_iconst (pc := 7) (v := (4 : Int32)) hx hb dX9_isMark_7 (by decide) ?_
  refine um_iaj (pc := 8) (n := 3790) 4 rfl Cx hW ms_1 rfl (um_ix_in (by decide)) dX9_isMark_8 ?_
  refine lv_iconst (pc := 9) (v := (1 : Int32)) hx hb dX9_isMark_9 (by decide) ?_
  refine lv_isub (pc := 10) hx hb dX9_isMark_10 ?_
  refine lv_i2l (pc := 11) hx hb dX9_isMark_11 rfl ?_
  obtain ⟨x2, hc1, hf⟩ := um_bi hf
  refine um_cSi (pc := 12) (As := [.long (a1.toInt64), .long (0 : Int64), .long (((σ.1 1 4) - (1 : Int32)).toInt64)]) (rest := []) Cx (c_X9_isIn (a1.toInt64) (0 : Int64) (((σ.1 1 4) - (1 : Int32)).toInt64) hc1) kS_X9_isIn (Or.inl qM_X9_60) hW hS rfl hl rfl (Nat.le_of_ble_eq_true rfl) (Nat.le_of_ble_eq_true rfl) (Nat.le_of_ble_eq_true rfl) dX9_isMark_12 (Nat.le_refl _) (Nat.le_refl _) ?_
  clear hW hS hc1
  intro H locs hW hS
  exact um_zretR (pc := 15) Cx hW hS hf rfl dX9_isMark_15
theorem c_X9_isMark {σ : um_S} {r : Bool} (a1 : Int32)  (hf : f_X9_isMark a1 σ = some r) : um_M l yX9_isMark cX9_isMark 2 (some FieldType.boolean) (1) (25) Z msh α σ [.ref (α 0), .int a1] (some (.int (um_b r))) σ :=
  um_start (by decide) (Nat.le_of_ble_eq_true rfl) (fun p e s m below meth c ls Cx hW hS hl => b_X9_isMark a1 hf Cx hW hS hl)
noncomputable def f_X9_lacks (a1 : Int32) (a2 : Int32) (σ : um_S) : Option (Int32) :=
    (f_X9_isMuster a1 σ).bind fun x2 =>
    (if (um_b x2) = 0 then
    (some (-1000000001 : Int32))
    else
    (if um_ix a1 4 then
    (if 0 ≤ (σ.1 4 a1.toNatClampNeg) then
    (if um_ix a1 4 then
    ((f_X9_isIn (a2.toInt64) (0 : Int64) (((σ.1 5 a1.toNatClampNeg) - (1 : Int32)).toInt64) σ).bind fun x6 =>
    (if (um_b x6) = 0 then
    (some (-1000000013 : Int32))
    else
    (some (0 : Int32)))) else none)
    else
    (some (-1000000011 : Int32))) else none))
set_option maxRecDepth 100000 in
set_option maxHeartbeats 4000000 in
theorem b_X9_lacks {H : Heap} {locs : List Loc} {ls : Array Slot} {σ : um_S} {r : Int32} (a1 : Int32) (a2 : Int32)  (hf : f_X9_lacks a1 a2 σ = some r) (Cx : um_C p s m meth c args cX9_lacks 3 (some FieldType.int) RX9 Z) (hW : um_W Z msh α σ H) (hS : va_S (um_D msh α) s.heap H locs) (hl : lv_has ls 3 [(0, .ref (α 0)), (1, .int a1), (2, .int a2)]) : um_G p l e (2) (45) s m args below meth c Z msh α σ (some (.int r)) H locs (F0 m 0 ls []) := by
  have hx := Cx.1
  have hb := Cx.2.1
  have hown := Cx.2.2.2.2.1
  have hts := Cx.2.2.2.2.2.1
  rw [f_X9_lacks] at hf
  refine lv_iload_n (pc := 0) hx hb dX9_lacks_0 rfl (lv_at hl 1 rfl) ?_
  obtain ⟨x2, hc1, hf⟩ := um_bi hf
  refine um_cSi (pc := 1) (As := [.int a1]) (rest := []) Cx (c_X9_isMuster a1 hc1) kS_X9_isMuster (Or.inl qM_X9_374) hW hS rfl hl rfl (Nat.le_of_ble_eq_true rfl) (Nat.le_of_ble_eq_true rfl) (Nat.le_of_ble_eq_true rfl) dX9_lacks_1 (Nat.le_refl _) (Nat.le_refl _) ?_
  clear hW hS hc1
  intro H locs hW hS
  refine lv_if_ne (pc := 4) (tgt := 10) hx hb dX9_lacks_4 (by decide) (fun c1 => ?_) (fun c1 => ?_)
  · have hf := um_ie c1 hf
    clear c1
    refine lv_aload_n (pc := 10) hx hb dX9_lacks_10 rfl (lv_at hl 0 rfl) ?_
    refine gF_X9_19 (pc := 11) Cx hW ms_0 rfl dX9_lacks_11 ?_
    refine lv_iload_n (pc := 14) hx hb dX9_lacks_14 rfl (lv_at hl 1 rfl) ?_
    obtain ⟨g3, hf⟩ := um_gu hf
    refine um_iald (pc := 15) Cx hW ms_4 rfl (um_ix_in g3) dX9_lacks_15 ?_
    refine lv_if_ge (pc := 16) (tgt := 25) hx hb dX9_lacks_16 (by decide) (fun c1 => ?_) (fun c1 => ?_)
    · have hf := um_it c1 hf
      clear c1
      refine lv_iload_n (pc := 25) hx hb dX9_lacks_25 rfl (lv_at hl 2 rfl) ?_
      refine lv_i2l (pc := 26) hx hb dX9_lacks_26 rfl ?_
      refine lv_lconst (pc := 27) (v := (0 : Int64)) hx hb dX9_lacks_27 (by decide) ?_
      refine lv_aload_n (pc := 28) hx hb dX9_lacks_28 rfl (lv_at hl 0 rfl) ?_
      refine gF_X9_22 (pc := 29) Cx hW ms_0 rfl dX9_lacks_29 ?_
      refine lv_iload_n (pc := 32) hx hb dX9_lacks_32 rfl (lv_at hl 1 rfl) ?_
      obtain ⟨g4, hf⟩ := um_gu hf
      refine um_iald (pc := 33) Cx hW ms_5 rfl (um_ix_in g4) dX9_lacks_33 ?_
      refine lv_iconst (pc := 34) (v := (1 : Int32)) hx hb dX9_lacks_34 (by decide) ?_
      refine lv_isub (pc := 35) hx hb dX9_lacks_35 ?_
      refine lv_i2l (pc := 36) hx hb dX9_lacks_36 rfl ?_
      obtain ⟨x6, hc5, hf⟩ := um_bi hf
      refine um_cSi (pc := 37) (As := [.long (a2.toInt64), .long (0 : Int64), .long (((σ.1 5 a1.toNatClampNeg) - (1 : Int32)).toInt64)]) (rest := []) Cx (c_X9_isIn (a2.toInt64) (0 : Int64) (((σ.1 5 a1.toNatClampNeg) - (1 : Int32)).toInt64) hc5) kS_X9_isIn (Or.inl qM_X9_60) hW hS rfl hl rfl (Nat.le_of_ble_eq_true rfl) (Nat.le_of_ble_eq_true rfl) (Nat.le_of_ble_eq_true rfl) dX9_lacks_37 (Nat.le_refl _) (Nat.le_refl _) ?_
      clear hW hS hc5
      intro H locs hW hS
      refine lv_if_eq (pc := 40) (tgt := 47) hx hb dX9_lacks_40 (by decide) (fun c1 => ?_) (fun c1 => ?_)
      · have hf := um_it c1 hf
        clear c1
        refine lv_ldcw (pc := 47) hx hb hown (hts _ qC_X9_381) dX9_lacks_47 ?_
        exact um_iretR (pc := 50) Cx hW hS hf dX9_lacks_50
      · have hf := um_ie c1 hf
        clear c1
        refine lv_iconst (pc := 43) (v := (0 : Int32)) hx hb dX9_lacks_43 (by decide) ?_
        refine lv_goto (pc := 44) (tgt := 50) hx hb dX9_lacks_44 (by decide) ?_
        exact um_iretR (pc := 50) Cx hW hS hf dX9_lacks_50
    · have hf := um_ie c1 hf
      clear c1
      refine lv_ldcw (pc := 19) hx hb hown (hts _ qC_X9_380) dX9_lacks_19 ?_
      refine lv_goto (pc := 22) (tgt := 50) hx hb dX9_lacks_22 (by decide) ?_
      exact um_iretR (pc := 50) Cx hW hS hf dX9_lacks_50
  · have hf := um_it c1 hf
    clear c1
    refine lv_ldc (pc := 7) hx hb hown (hts _ qC_X9_87) dX9_lacks_7 ?_
    exact um_iretR (pc := 9) Cx hW hS hf dX9_lacks_9
theorem c_X9_lacks {σ : um_S} {r : Int32} (a1 : Int32) (a2 : Int32)  (hf : f_X9_lacks a1 a2 σ = some r) : um_M l yX9_lacks cX9_lacks 3 (some FieldType.int) (2) (45) Z msh α σ [.ref (α 0), .int a1, .int a2] (some (.int r)) σ :=
  um_start (by decide) (Nat.le_of_ble_eq_true rfl) (fun p e s m below meth c ls Cx hW hS hl => b_X9_lacks a1 a2 hf Cx hW hS hl)
noncomputable def f_X9_isMustered (a1 : Int32) (a2 : Int32) (σ : um_S) : Option (Bool) :=
    (f_X9_lacks a1 a2 σ).bind fun x2 =>
    (if x2 = 0 then
    (if um_ix (((24 : Int32) * a1) + a2) 96 then
    (if um_ix a1 4 then
    (um_let (fun (x6 : Int32) =>
    (if (σ.1 6 (((24 : Int32) * a1) + a2).toNatClampNeg) = x6 then
    (some false)
    else
    (some true))) fun k5 =>
    (if (σ.1 4 a1.toNatClampNeg) = 0 then
    (k5 (-128 : Int32))
    else
    (k5 (-32768 : Int32)))) else none) else none)
    else
    (some false))
set_option maxRecDepth 100000 in
set_option maxHeartbeats 4000000 in
theorem b_X9_isMustered {H : Heap} {locs : List Loc} {ls : Array Slot} {σ : um_S} {r : Bool} (a1 : Int32) (a2 : Int32)  (hf : f_X9_isMustered a1 a2 σ = some r) (Cx : um_C p s m meth c args cX9_isMustered 3 (some FieldType.boolean) RX9 Z) (hW : um_W Z msh α σ H) (hS : va_S (um_D msh α) s.heap H locs) (hl : lv_has ls 3 [(0, .ref (α 0)), (1, .int a1), (2, .int a2)]) : um_G p l e (3) (67) s m args below meth c Z msh α σ (some (.int (um_b r))) H locs (F0 m 0 ls []) := by
  have hx := Cx.1
  have hb := Cx.2.1
  have hown := Cx.2.2.2.2.1
  have hts := Cx.2.2.2.2.2.1
  rw [f_X9_isMustered] at hf
  refine lv_aload_n (pc := 0) hx hb dX9_isMustered_0 rfl (lv_at hl 0 rfl) ?_
  refine lv_iload_n (pc := 1) hx hb dX9_isMustered_1 rfl (lv_at hl 1 rfl) ?_
  refine lv_iload_n (pc := 2) hx hb dX9_isMustered_2 rfl (lv_at hl 2 rfl) ?_
  obtain ⟨x2, hc1, hf⟩ := um_bi hf
  refine um_cVi (pc := 3) (As := [.int a1, .int a2]) (rest := []) Cx (c_X9_lacks a1 a2 hc1) kV_X9_lacks (Or.inl qM_X9_382) hW hS ms_0 rfl rfl hl rfl (Nat.le_of_ble_eq_true rfl) (Nat.le_of_ble_eq_true rfl) (Nat.le_of_ble_eq_true rfl) dX9_isMustered_3 (Nat.le_refl _) (Nat.le_refl _) ?_
  clear hW hS hc1
  intro H locs hW hS
  refine lv_if_ne (pc := 6) (tgt := 44) hx hb dX9_isMustered_6 (by decide) (fun c1 => ?_) (fun c1 => ?_)
  · have hf := um_ie c1 hf
    clear c1
    refine lv_iconst (pc := 44) (v := (0 : Int32)) hx hb dX9_isMustered_44 (by decide) ?_
    exact um_zretR (pc := 45) Cx hW hS hf rfl dX9_isMustered_45
  · have hf := um_it c1 hf
    clear c1
    refine lv_aload_n (pc := 9) hx hb dX9_isMustered_9 rfl (lv_at hl 0 rfl) ?_
    refine gF_X9_25 (pc := 10) Cx hW ms_0 rfl dX9_isMustered_10 ?_
    refine lv_bipush (pc := 13) (v := (24 : Int32)) hx hb dX9_isMustered_13 (by decide) ?_
    refine lv_iload_n (pc := 15) hx hb dX9_isMustered_15 rfl (lv_at hl 1 rfl) ?_
    refine lv_imul (pc := 16) hx hb dX9_isMustered_16 ?_
    refine lv_iload_n (pc := 17) hx hb dX9_isMustered_17 rfl (lv_at hl 2 rfl) ?_
    refine lv_iadd (pc := 18) hx hb dX9_isMustered_18 ?_
    obtain ⟨g3, hf⟩ := um_gu hf
    refine um_iald (pc := 19) Cx hW ms_6 rfl (um_ix_in g3) dX9_isMustered_19 ?_
    refine lv_aload_n (pc := 20) hx hb dX9_isMustered_20 rfl (lv_at hl 0 rfl) ?_
    refine gF_X9_19 (pc := 21) Cx hW ms_0 rfl dX9_isMustered_21 ?_
    refine lv_iload_n (pc := 24) hx hb dX9_isMustered_24 rfl (lv_at hl 1 rfl) ?_
    obtain ⟨g4, hf⟩ := um_gu hf
    refine um_iald (pc := 25) Cx hW ms_4 rfl (um_ix_in g4) dX9_isMustered_25 ?_
    obtain ⟨k5, hk5, hf⟩ := um_j1 hf
    have J5 : ∀ (x6 : Int32), k5 x6 = some r → ∀ (H : Heap) (locs : List Loc) (ls : Array Slot), um_W Z msh α σ H → va_S (um_D msh α) s.heap H locs → lv_has ls 3 [] → um_G p l e (3) (67) s m args below meth c Z msh α σ (some (.int (um_b r))) H locs (F0 m 37 ls [.int x6, .int (σ.1 6 (((24 : Int32) * a1) + a2).toNatClampNeg)]) := by
      intro x6 hf H locs ls hW hS hl
      rw [hk5] at hf
      refine lv_icmp_eq (pc := 37) (tgt := 44) hx hb dX9_isMustered_37 (by decide) (fun c1 => ?_) (fun c1 => ?_)
      · have hf := um_it c1 hf
        clear c1
        refine lv_iconst (pc := 44) (v := (0 : Int32)) hx hb dX9_isMustered_44 (by decide) ?_
        exact um_zretR (pc := 45) Cx hW hS hf rfl dX9_isMustered_45
      · have hf := um_ie c1 hf
        clear c1
        refine lv_iconst (pc := 40) (v := (1 : Int32)) hx hb dX9_isMustered_40 (by decide) ?_
        refine lv_goto (pc := 41) (tgt := 45) hx hb dX9_isMustered_41 (by decide) ?_
        exact um_zretR (pc := 45) Cx hW hS hf rfl dX9_isMustered_45
    refine lv_if_ne (pc := 26) (tgt := 34) hx hb dX9_isMustered_26 (by decide) (fun c1 => ?_) (fun c1 => ?_)
    · have hf := um_ie c1 hf
      clear c1
      refine lv_sipush (pc := 34) (v := (-32768 : Int32)) hx hb dX9_isMustered_34 (by decide) ?_
      exact J5 (-32768 : Int32) hf _ _ _ hW hS (lv_sub hl [] rfl)
    · have hf := um_it c1 hf
      clear c1
      refine lv_bipush (pc := 29) (v := (-128 : Int32)) hx hb dX9_isMustered_29 (by decide) ?_
      refine lv_goto (pc := 31) (tgt := 37) hx hb dX9_isMustered_31 (by decide) ?_
      exact J5 (-128 : Int32) hf _ _ _ hW hS (lv_sub hl [] rfl)
theorem c_X9_isMustered {σ : um_S} {r : Bool} (a1 : Int32) (a2 : Int32)  (hf : f_X9_isMustered a1 a2 σ = some r) : um_M l yX9_isMustered cX9_isMustered 3 (some FieldType.boolean) (3) (67) Z msh α σ [.ref (α 0), .int a1, .int a2] (some (.int (um_b r))) σ :=
  um_start (by decide) (Nat.le_of_ble_eq_true rfl) (fun p e s m below meth c ls Cx hW hS hl => b_X9_isMustered a1 a2 hf Cx hW hS hl)
noncomputable def f_X9_isText (a1 : Int32) (σ : um_S) : Option (Bool) :=
    (f_X9_isIn (a1.toInt64) (0 : Int64) (((σ.1 1 5) - (1 : Int32)).toInt64) σ).bind fun x2 =>
    (some x2)
set_option maxRecDepth 100000 in
set_option maxHeartbeats 4000000 in
theorem b_X9_isText {H : Heap} {locs : List Loc} {ls : Array Slot} {σ : um_S} {r : Bool} (a1 : Int32)  (hf : f_X9_isText a1 σ = some r) (Cx : um_C p s m meth c args cX9_isText 2 (some FieldType.boolean) RX9 Z) (hW : um_W Z msh α σ H) (hS : va_S (um_D msh α) s.heap H locs) (hl : lv_has ls 2 [(0, .ref (α 0)), (1, .int a1)]) : um_G p l e (1) (25) s m args below meth c Z msh α σ (some (.int (um_b r))) H locs (F0 m 0 ls []) := by
  have hx := Cx.1
  have hb := Cx.2.1
  have hown := Cx.2.2.2.2.1
  have hts := Cx.2.2.2.2.2.1
  rw [f_X9_isText] at hf
  refine lv_iload_n (pc := 0) hx hb dX9_isText_0 rfl (lv_at hl 1 rfl) ?_
  refine lv_i2l (pc := 1) hx hb dX9_isText_1 rfl ?_
  refine lv_lconst (pc := 2) (v := (0 : Int64)) hx hb dX9_isText_2 (by decide) ?_
  refine lv_aload_n (pc := 3) hx hb dX9_isText_3 rfl (lv_at hl 0 rfl) ?_
  refine gF_X9_7 (pc := 4) Cx hW ms_0 rfl dX9_isText_4 ?_
  refine lv_iconst (pc := 7) (v := (5 : Int32)) hx hb dX9_isText_7 (by decide) ?_
  refine um_iaj (pc := 8) (n := 3790) 5 rfl Cx hW ms_1 rfl (um_ix_in (by decide)) dX9_isText_8 ?_
  refine lv_iconst (pc := 9) (v := (1 : Int32)) hx hb dX9_isText_9 (by decide) ?_
  refine lv_isub (pc := 10) hx hb dX9_isText_10 ?_
  refine lv_i2l (pc := 11) hx hb dX9_isText_11 rfl ?_
  obtain ⟨x2, hc1, hf⟩ := um_bi hf
  refine um_cSi (pc := 12) (As := [.long (a1.toInt64), .long (0 : Int64), .long (((σ.1 1 5) - (1 : Int32)).toInt64)]) (rest := []) Cx (c_X9_isIn (a1.toInt64) (0 : Int64) (((σ.1 1 5) - (1 : Int32)).toInt64) hc1) kS_X9_isIn (Or.inl qM_X9_60) hW hS rfl hl rfl (Nat.le_of_ble_eq_true rfl) (Nat.le_of_ble_eq_true rfl) (Nat.le_of_ble_eq_true rfl) dX9_isText_12 (Nat.le_refl _) (Nat.le_refl _) ?_
  clear hW hS hc1
  intro H locs hW hS
  exact um_zretR (pc := 15) Cx hW hS hf rfl dX9_isText_15
theorem c_X9_isText {σ : um_S} {r : Bool} (a1 : Int32)  (hf : f_X9_isText a1 σ = some r) : um_M l yX9_isText cX9_isText 2 (some FieldType.boolean) (1) (25) Z msh α σ [.ref (α 0), .int a1] (some (.int (um_b r))) σ :=
  um_start (by decide) (Nat.le_of_ble_eq_true rfl) (fun p e s m below meth c ls Cx hW hS hl => b_X9_isText a1 hf Cx hW hS hl)
noncomputable def f_X9_isWordAt (a1 : Int32) (a2 : Int32) (a3 : Int32) (a4 : Int32) (σ : um_S) : Option (Bool) :=
    if (σ.1 0 11) = (1 : Int32) then
    (if ((σ.1 0 10) - (σ.1 0 9)) = (4 : Int32) then
    (if um_ix (σ.1 0 9) 96 then
    (if (σ.1 7 (σ.1 0 9).toNatClampNeg) = a1 then
    (if um_ix ((σ.1 0 9) + (1 : Int32)) 96 then
    (if (σ.1 7 ((σ.1 0 9) + (1 : Int32)).toNatClampNeg) = a2 then
    (if um_ix ((σ.1 0 9) + (2 : Int32)) 96 then
    (if (σ.1 7 ((σ.1 0 9) + (2 : Int32)).toNatClampNeg) = a3 then
    (if um_ix ((σ.1 0 9) + (3 : Int32)) 96 then
    (if (σ.1 7 ((σ.1 0 9) + (3 : Int32)).toNatClampNeg) = a4 then
    (some true)
    else
    (some false)) else none)
    else
    (some false)) else none)
    else
    (some false)) else none)
    else
    (some false)) else none)
    else
    (some false))
    else
    (some false)
set_option maxRecDepth 100000 in
set_option maxHeartbeats 4000000 in
theorem b_X9_isWordAt {H : Heap} {locs : List Loc} {ls : Array Slot} {σ : um_S} {r : Bool} (a1 : Int32) (a2 : Int32) (a3 : Int32) (a4 : Int32)  (hf : f_X9_isWordAt a1 a2 a3 a4 σ = some r) (Cx : um_C p s m meth c args cX9_isWordAt 5 (some FieldType.boolean) RX9 Z) (hW : um_W Z msh α σ H) (hS : va_S (um_D msh α) s.heap H locs) (hl : lv_has ls 5 [(0, .ref (α 0)), (1, .int a1), (2, .int a2), (3, .int a3), (4, .int a4)]) : um_G p l e (0) (0) s m args below meth c Z msh α σ (some (.int (um_b r))) H locs (F0 m 0 ls []) := by
  have hx := Cx.1
  have hb := Cx.2.1
  have hown := Cx.2.2.2.2.1
  have hts := Cx.2.2.2.2.2.1
  rw [f_X9_isWordAt] at hf
  refine lv_aload_n (pc := 0) hx hb dX9_isWordAt_0 rfl (lv_at hl 0 rfl) ?_
  refine gF_X9_155 (pc := 1) Cx hW ms_0 rfl dX9_isWordAt_1 ?_
  refine lv_iconst (pc := 4) (v := (1 : Int32)) hx hb dX9_isWordAt_4 (by decide) ?_
  refine lv_icmp_ne (pc := 5) (tgt := 84) hx hb dX9_isWordAt_5 (by decide) (fun c1 => ?_) (fun c1 => ?_)
  · have hf := um_ie c1 hf
    clear c1
    refine lv_iconst (pc := 84) (v := (0 : Int32)) hx hb dX9_isWordAt_84 (by decide) ?_
    exact um_zretR (pc := 85) Cx hW hS hf rfl dX9_isWordAt_85
  · have hf := um_it c1 hf
    clear c1
    refine lv_aload_n (pc := 8) hx hb dX9_isWordAt_8 rfl (lv_at hl 0 rfl) ?_
    refine gF_X9_152 (pc := 9) Cx hW ms_0 rfl dX9_isWordAt_9 ?_
    refine lv_aload_n (pc := 12) hx hb dX9_isWordAt_12 rfl (lv_at hl 0 rfl) ?_
    refine gF_X9_158 (pc := 13) Cx hW ms_0 rfl dX9_isWordAt_13 ?_
    refine lv_isub (pc := 16) hx hb dX9_isWordAt_16 ?_
    refine lv_iconst (pc := 17) (v := (4 : Int32)) hx hb dX9_isWordAt_17 (by decide) ?_
    refine lv_icmp_ne (pc := 18) (tgt := 84) hx hb dX9_isWordAt_18 (by decide) (fun c1 => ?_) (fun c1 => ?_)
    · have hf := um_ie c1 hf
      clear c1
      refine lv_iconst (pc := 84) (v := (0 : Int32)) hx hb dX9_isWordAt_84 (by decide) ?_
      exact um_zretR (pc := 85) Cx hW hS hf rfl dX9_isWordAt_85
    · have hf := um_it c1 hf
      clear c1
      refine lv_aload_n (pc := 21) hx hb dX9_isWordAt_21 rfl (lv_at hl 0 rfl) ?_
      refine gF_X9_28 (pc := 22) Cx hW ms_0 rfl dX9_isWordAt_22 ?_
      refine lv_aload_n (pc := 25) hx hb dX9_isWordAt_25 rfl (lv_at hl 0 rfl) ?_
      refine gF_X9_158 (pc := 26) Cx hW ms_0 rfl dX9_isWordAt_26 ?_
      obtain ⟨g1, hf⟩ := um_gu hf
      refine um_iald (pc := 29) Cx hW ms_7 rfl (um_ix_in g1) dX9_isWordAt_29 ?_
      refine lv_iload_n (pc := 30) hx hb dX9_isWordAt_30 rfl (lv_at hl 1 rfl) ?_
      refine lv_icmp_ne (pc := 31) (tgt := 84) hx hb dX9_isWordAt_31 (by decide) (fun c1 => ?_) (fun c1 => ?_)
      · have hf := um_ie c1 hf
        clear c1
        refine lv_iconst (pc := 84) (v := (0 : Int32)) hx hb dX9_isWordAt_84 (by decide) ?_
        exact um_zretR (pc := 85) Cx hW hS hf rfl dX9_isWordAt_85
      · have hf := um_it c1 hf
        clear c1
        refine lv_aload_n (pc := 34) hx hb dX9_isWordAt_34 rfl (lv_at hl 0 rfl) ?_
        refine gF_X9_28 (pc := 35) Cx hW ms_0 rfl dX9_isWordAt_35 ?_
        refine lv_aload_n (pc := 38) hx hb dX9_isWordAt_38 rfl (lv_at hl 0 rfl) ?_
        refine gF_X9_158 (pc := 39) Cx hW ms_0 rfl dX9_isWordAt_39 ?_
        refine lv_iconst (pc := 42) (v := (1 : Int32)) hx hb dX9_isWordAt_42 (by decide) ?_
        refine lv_iadd (pc := 43) hx hb dX9_isWordAt_43 ?_
        obtain ⟨g2, hf⟩ := um_gu hf
        refine um_iald (pc := 44) Cx hW ms_7 rfl (um_ix_in g2) dX9_isWordAt_44 ?_
        refine lv_iload_n (pc := 45) hx hb dX9_isWordAt_45 rfl (lv_at hl 2 rfl) ?_
        refine lv_icmp_ne (pc := 46) (tgt := 84) hx hb dX9_isWordAt_46 (by decide) (fun c1 => ?_) (fun c1 => ?_)
        · have hf := um_ie c1 hf
          clear c1
          refine lv_iconst (pc := 84) (v := (0 : Int32)) hx hb dX9_isWordAt_84 (by decide) ?_
          exact um_zretR (pc := 85) Cx hW hS hf rfl dX9_isWordAt_85
        · have hf := um_it c1 hf
          clear c1
          refine lv_aload_n (pc := 49) hx hb dX9_isWordAt_49 rfl (lv_at hl 0 rfl) ?_
          refine gF_X9_28 (pc := 50) Cx hW ms_0 rfl dX9_isWordAt_50 ?_
          refine lv_aload_n (pc := 53) hx hb dX9_isWordAt_53 rfl (lv_at hl 0 rfl) ?_
          refine gF_X9_158 (pc := 54) Cx hW ms_0 rfl dX9_isWordAt_54 ?_
          refine lv_iconst (pc := 57) (v := (2 : Int32)) hx hb dX9_isWordAt_57 (by decide) ?_
          refine lv_iadd (pc := 58) hx hb dX9_isWordAt_58 ?_
          obtain ⟨g3, hf⟩ := um_gu hf
          refine um_iald (pc := 59) Cx hW ms_7 rfl (um_ix_in g3) dX9_isWordAt_59 ?_
          refine lv_iload_n (pc := 60) hx hb dX9_isWordAt_60 rfl (lv_at hl 3 rfl) ?_
          refine lv_icmp_ne (pc := 61) (tgt := 84) hx hb dX9_isWordAt_61 (by decide) (fun c1 => ?_) (fun c1 => ?_)
          · have hf := um_ie c1 hf
            clear c1
            refine lv_iconst (pc := 84) (v := (0 : Int32)) hx hb dX9_isWordAt_84 (by decide) ?_
            exact um_zretR (pc := 85) Cx hW hS hf rfl dX9_isWordAt_85
          · have hf := um_it c1 hf
            clear c1
            refine lv_aload_n (pc := 64) hx hb dX9_isWordAt_64 rfl (lv_at hl 0 rfl) ?_
            refine gF_X9_28 (pc := 65) Cx hW ms_0 rfl dX9_isWordAt_65 ?_
            refine lv_aload_n (pc := 68) hx hb dX9_isWordAt_68 rfl (lv_at hl 0 rfl) ?_
            refine gF_X9_158 (pc := 69) Cx hW ms_0 rfl dX9_isWordAt_69 ?_
            refine lv_iconst (pc := 72) (v := (3 : Int32)) hx hb dX9_isWordAt_72 (by decide) ?_
            refine lv_iadd (pc := 73) hx hb dX9_isWordAt_73 ?_
            obtain ⟨g4, hf⟩ := um_gu hf
            refine um_iald (pc := 74) Cx hW ms_7 rfl (um_ix_in g4) dX9_isWordAt_74 ?_
            refine lv_iload (pc := 75) hx hb dX9_isWordAt_75 (lv_at hl 4 rfl) ?_
            refine lv_icmp_ne (pc := 77) (tgt := 84) hx hb dX9_isWordAt_77 (by decide) (fun c1 => ?_) (fun c1 => ?_)
            · have hf := um_ie c1 hf
              clear c1
              refine lv_iconst (pc := 84) (v := (0 : Int32)) hx hb dX9_isWordAt_84 (by decide) ?_
              exact um_zretR (pc := 85) Cx hW hS hf rfl dX9_isWordAt_85
            · have hf := um_it c1 hf
              clear c1
              refine lv_iconst (pc := 80) (v := (1 : Int32)) hx hb dX9_isWordAt_80 (by decide) ?_
              refine lv_goto (pc := 81) (tgt := 85) hx hb dX9_isWordAt_81 (by decide) ?_
              exact um_zretR (pc := 85) Cx hW hS hf rfl dX9_isWordAt_85
theorem c_X9_isWordAt {σ : um_S} {r : Bool} (a1 : Int32) (a2 : Int32) (a3 : Int32) (a4 : Int32)  (hf : f_X9_isWordAt a1 a2 a3 a4 σ = some r) : um_M l yX9_isWordAt cX9_isWordAt 5 (some FieldType.boolean) (0) (0) Z msh α σ [.ref (α 0), .int a1, .int a2, .int a3, .int a4] (some (.int (um_b r))) σ :=
  um_start (by decide) (Nat.le_of_ble_eq_true rfl) (fun p e s m below meth c ls Cx hW hS hl => b_X9_isWordAt a1 a2 a3 a4 hf Cx hW hS hl)
noncomputable def f_X9_keep  (σ : um_S) : Option (Int32 × um_S) :=
    um_let (um_wr σ 0 3 (um_b true)) fun σ1 =>
    ((f_X9_setAside 1 2 σ1).bind fun σ4 =>
    (some (σ4.1 1 0, σ4)))
set_option maxRecDepth 100000 in
set_option maxHeartbeats 4000000 in
theorem b_X9_keep {H : Heap} {locs : List Loc} {ls : Array Slot} {σ : um_S} {σ' : um_S} {r : Int32}   (hf : f_X9_keep σ = some (r, σ')) (Cx : um_C p s m meth c args cX9_keep 1 (some FieldType.int) RX9 Z) (hW : um_W Z msh α σ H) (hS : va_S (um_D msh α) s.heap H locs) (hl : lv_has ls 1 [(0, .ref (α 0))]) : um_G p l e (1) (23) s m args below meth c Z msh α σ' (some (.int r)) H locs (F0 m 0 ls []) := by
  have hx := Cx.1
  have hb := Cx.2.1
  have hown := Cx.2.2.2.2.1
  have hts := Cx.2.2.2.2.2.1
  rw [f_X9_keep] at hf
  refine lv_aload_n (pc := 0) hx hb dX9_keep_0 rfl (lv_at hl 0 rfl) ?_
  refine lv_iconst (pc := 1) (v := (1 : Int32)) hx hb dX9_keep_1 (by decide) ?_
  refine gP_X9_393 (b := true) (pc := 2) Cx hW hS ms_0 rfl dX9_keep_2 ?_
  clear hW hS
  intro H locs hW hS
  obtain ⟨σ1, e2, hf⟩ := um_le hf
  rw [← e2] at hW
  clear e2
  refine lv_aload_n (pc := 5) hx hb dX9_keep_5 rfl (lv_at hl 0 rfl) ?_
  refine lv_aload_n (pc := 6) hx hb dX9_keep_6 rfl (lv_at hl 0 rfl) ?_
  refine gF_X9_7 (pc := 7) Cx hW ms_0 rfl dX9_keep_7 ?_
  refine lv_aload_n (pc := 10) hx hb dX9_keep_10 rfl (lv_at hl 0 rfl) ?_
  refine gF_X9_13 (pc := 11) Cx hW ms_0 rfl dX9_keep_11 ?_
  obtain ⟨σ4, hc3, hf⟩ := um_bi hf
  refine um_cVv (pc := 14) (As := [.ref (α 1), .ref (α 2)]) (rest := []) Cx (c_X9_setAside 1 2 ms_1 ms_2 hc3) kV_X9_setAside (Or.inl qM_X9_397) hW hS ms_0 rfl rfl hl rfl (Nat.le_of_ble_eq_true rfl) (Nat.le_of_ble_eq_true rfl) (Nat.le_of_ble_eq_true rfl) dX9_keep_14 (Nat.le_refl _) (Nat.le_refl _) ?_
  clear hW hS hc3
  intro H locs hW hS
  refine lv_aload_n (pc := 17) hx hb dX9_keep_17 rfl (lv_at hl 0 rfl) ?_
  refine gF_X9_7 (pc := 18) Cx hW ms_0 rfl dX9_keep_18 ?_
  refine lv_iconst (pc := 21) (v := (0 : Int32)) hx hb dX9_keep_21 (by decide) ?_
  refine um_iaj (pc := 22) (n := 3790) 0 rfl Cx hW ms_1 rfl (um_ix_in (by decide)) dX9_keep_22 ?_
  exact um_iret (pc := 23) Cx hW hS hf dX9_keep_23
theorem c_X9_keep {σ : um_S} {σ' : um_S} {r : Int32}   (hf : f_X9_keep σ = some (r, σ')) : um_M l yX9_keep cX9_keep 1 (some FieldType.int) (1) (23) Z msh α σ [.ref (α 0)] (some (.int r)) σ' :=
  um_start (by decide) (Nat.le_of_ble_eq_true rfl) (fun p e s m below meth c ls Cx hW hS hl => b_X9_keep hf Cx hW hS hl)
noncomputable def f_X9_key  (σ : um_S) : Option (Int32) :=
    (f_X9_isWordAt (102 : Int32) (101 : Int32) (97 : Int32) (114 : Int32) σ).bind fun x2 =>
    (um_let (fun (x4 : Int32) =>
    ((f_X9_isLong (116 : Int32) (105 : Int32) (99 : Int32) (107 : Int32) (101 : Int32) (116 : Int32) σ).bind fun x6 =>
    (if (um_b x6) = 0 then
    ((f_X9_isLong (112 : Int32) (97 : Int32) (114 : Int32) (100 : Int32) (111 : Int32) (110 : Int32) σ).bind fun x8 =>
    (if (um_b x8) = 0 then
    (some x4)
    else
    (some (1 : Int32))))
    else
    (some (0 : Int32))))) fun k3 =>
    (if (um_b x2) = 0 then
    ((f_X9_isWordAt (115 : Int32) (116 : Int32) (111 : Int32) (112 : Int32) σ).bind fun x10 =>
    (if (um_b x10) = 0 then
    ((f_X9_isLong (105 : Int32) (114 : Int32) (111 : Int32) (110 : Int32) (115 : Int32) (0 : Int32) σ).bind fun x12 =>
    (if (um_b x12) = 0 then
    (k3 (-1 : Int32))
    else
    (k3 (2 : Int32))))
    else
    (k3 (4 : Int32))))
    else
    (k3 (3 : Int32))))
set_option maxRecDepth 100000 in
set_option maxHeartbeats 4000000 in
theorem b_X9_key {H : Heap} {locs : List Loc} {ls : Array Slot} {σ : um_S} {r : Int32}   (hf : f_X9_key σ = some r) (Cx : um_C p s m meth c args cX9_key 2 (some FieldType.int) RX9 Z) (hW : um_W Z msh α σ H) (hS : va_S (um_D msh α) s.heap H locs) (hl : lv_has ls 2 [(0, .ref (α 0))]) : um_G p l e (1) (27) s m args below meth c Z msh α σ (some (.int r)) H locs (F0 m 0 ls []) := by
  have hx := Cx.1
  have hb := Cx.2.1
  have hown := Cx.2.2.2.2.1
  have hts := Cx.2.2.2.2.2.1
  rw [f_X9_key] at hf
  refine lv_aload_n (pc := 0) hx hb dX9_key_0 rfl (lv_at hl 0 rfl) ?_
  refine lv_bipush (pc := 1) (v := (102 : Int32)) hx hb dX9_key_1 (by decide) ?_
  refine lv_bipush (pc := 3) (v := (101 : Int32)) hx hb dX9_key_3 (by decide) ?_
  refine lv_bipush (pc := 5) (v := (97 : Int32)) hx hb dX9_key_5 (by decide) ?_
  refine lv_bipush (pc := 7) (v := (114 : Int32)) hx hb dX9_key_7 (by decide) ?_
  obtain ⟨x2, hc1, hf⟩ := um_bi hf
  refine um_cVi (pc := 9) (As := [.int (102 : Int32), .int (101 : Int32), .int (97 : Int32), .int (114 : Int32)]) (rest := []) Cx (c_X9_isWordAt (102 : Int32) (101 : Int32) (97 : Int32) (114 : Int32) hc1) kV_X9_isWordAt (Or.inl qM_X9_173) hW hS ms_0 rfl rfl hl rfl (Nat.le_of_ble_eq_true rfl) (Nat.le_of_ble_eq_true rfl) (Nat.le_of_ble_eq_true rfl) dX9_key_9 (Nat.le_refl _) (Nat.le_refl _) ?_
  clear hW hS hc1
  intro H locs hW hS
  obtain ⟨k3, hk3, hf⟩ := um_j1 hf
  have J3 : ∀ (x4 : Int32), k3 x4 = some r → ∀ (H : Heap) (locs : List Loc) (ls : Array Slot), um_W Z msh α σ H → va_S (um_D msh α) s.heap H locs → lv_has ls 2 [(0, .ref (α 0))] → um_G p l e (1) (27) s m args below meth c Z msh α σ (some (.int r)) H locs (F0 m 61 ls [.int x4]) := by
    intro x4 hf H locs ls hW hS hl
    rw [hk3] at hf
    refine lv_istore_n (pc := 61) (lv' := [(1, .int x4), (0, .ref (α 0))]) hx hb dX9_key_61 rfl hl (by decide) rfl ?_
    clear hl
    intro ls hl
    refine lv_aload_n (pc := 62) hx hb dX9_key_62 rfl (lv_at hl 1 rfl) ?_
    refine lv_bipush (pc := 63) (v := (116 : Int32)) hx hb dX9_key_63 (by decide) ?_
    refine lv_bipush (pc := 65) (v := (105 : Int32)) hx hb dX9_key_65 (by decide) ?_
    refine lv_bipush (pc := 67) (v := (99 : Int32)) hx hb dX9_key_67 (by decide) ?_
    refine lv_bipush (pc := 69) (v := (107 : Int32)) hx hb dX9_key_69 (by decide) ?_
    refine lv_bipush (pc := 71) (v := (101 : Int32)) hx hb dX9_key_71 (by decide) ?_
    refine lv_bipush (pc := 73) (v := (116 : Int32)) hx hb dX9_key_73 (by decide) ?_
    obtain ⟨x6, hc5, hf⟩ := um_bi hf
    refine um_cVi (pc := 75) (As := [.int (116 : Int32), .int (105 : Int32), .int (99 : Int32), .int (107 : Int32), .int (101 : Int32), .int (116 : Int32)]) (rest := []) Cx (c_X9_isLong (116 : Int32) (105 : Int32) (99 : Int32) (107 : Int32) (101 : Int32) (116 : Int32) hc5) kV_X9_isLong (Or.inl qM_X9_177) hW hS ms_0 rfl rfl hl rfl (Nat.le_of_ble_eq_true rfl) (Nat.le_of_ble_eq_true rfl) (Nat.le_of_ble_eq_true rfl) dX9_key_75 (Nat.le_refl _) (Nat.le_refl _) ?_
    clear hW hS hc5
    intro H locs hW hS
    refine lv_if_eq (pc := 78) (tgt := 85) hx hb dX9_key_78 (by decide) (fun c1 => ?_) (fun c1 => ?_)
    · have hf := um_it c1 hf
      clear c1
      refine lv_aload_n (pc := 85) hx hb dX9_key_85 rfl (lv_at hl 1 rfl) ?_
      refine lv_bipush (pc := 86) (v := (112 : Int32)) hx hb dX9_key_86 (by decide) ?_
      refine lv_bipush (pc := 88) (v := (97 : Int32)) hx hb dX9_key_88 (by decide) ?_
      refine lv_bipush (pc := 90) (v := (114 : Int32)) hx hb dX9_key_90 (by decide) ?_
      refine lv_bipush (pc := 92) (v := (100 : Int32)) hx hb dX9_key_92 (by decide) ?_
      refine lv_bipush (pc := 94) (v := (111 : Int32)) hx hb dX9_key_94 (by decide) ?_
      refine lv_bipush (pc := 96) (v := (110 : Int32)) hx hb dX9_key_96 (by decide) ?_
      obtain ⟨x8, hc7, hf⟩ := um_bi hf
      refine um_cVi (pc := 98) (As := [.int (112 : Int32), .int (97 : Int32), .int (114 : Int32), .int (100 : Int32), .int (111 : Int32), .int (110 : Int32)]) (rest := []) Cx (c_X9_isLong (112 : Int32) (97 : Int32) (114 : Int32) (100 : Int32) (111 : Int32) (110 : Int32) hc7) kV_X9_isLong (Or.inl qM_X9_177) hW hS ms_0 rfl rfl hl rfl (Nat.le_of_ble_eq_true rfl) (Nat.le_of_ble_eq_true rfl) (Nat.le_of_ble_eq_true rfl) dX9_key_98 (Nat.le_refl _) (Nat.le_refl _) ?_
      clear hW hS hc7
      intro H locs hW hS
      refine lv_if_eq (pc := 101) (tgt := 108) hx hb dX9_key_101 (by decide) (fun c1 => ?_) (fun c1 => ?_)
      · have hf := um_it c1 hf
        clear c1
        refine lv_iload_n (pc := 108) hx hb dX9_key_108 rfl (lv_at hl 0 rfl) ?_
        exact um_iretR (pc := 109) Cx hW hS hf dX9_key_109
      · have hf := um_ie c1 hf
        clear c1
        refine lv_iconst (pc := 104) (v := (1 : Int32)) hx hb dX9_key_104 (by decide) ?_
        refine lv_goto (pc := 105) (tgt := 109) hx hb dX9_key_105 (by decide) ?_
        exact um_iretR (pc := 109) Cx hW hS hf dX9_key_109
    · have hf := um_ie c1 hf
      clear c1
      refine lv_iconst (pc := 81) (v := (0 : Int32)) hx hb dX9_key_81 (by decide) ?_
      refine lv_goto (pc := 82) (tgt := 109) hx hb dX9_key_82 (by decide) ?_
      exact um_iretR (pc := 109) Cx hW hS hf dX9_key_109
  refine lv_if_eq (pc := 12) (tgt := 19) hx hb dX9_key_12 (by decide) (fun c1 => ?_) (fun c1 => ?_)
  · have hf := um_it c1 hf
    clear c1
    refine lv_aload_n (pc := 19) hx hb dX9_key_19 rfl (lv_at hl 0 rfl) ?_
    refine lv_bipush (pc := 20) (v := (115 : Int32)) hx hb dX9_key_20 (by decide) ?_
    refine lv_bipush (pc := 22) (v := (116 : Int32)) hx hb dX9_key_22 (by decide) ?_
    refine lv_bipush (pc := 24) (v := (111 : Int32)) hx hb dX9_key_24 (by decide) ?_
    refine lv_bipush (pc := 26) (v := (112 : Int32)) hx hb dX9_key_26 (by decide) ?_
    obtain ⟨x10, hc9, hf⟩ := um_bi hf
    refine um_cVi (pc := 28) (As := [.int (115 : Int32), .int (116 : Int32), .int (111 : Int32), .int (112 : Int32)]) (rest := []) Cx (c_X9_isWordAt (115 : Int32) (116 : Int32) (111 : Int32) (112 : Int32) hc9) kV_X9_isWordAt (Or.inl qM_X9_173) hW hS ms_0 rfl rfl hl rfl (Nat.le_of_ble_eq_true rfl) (Nat.le_of_ble_eq_true rfl) (Nat.le_of_ble_eq_true rfl) dX9_key_28 (Nat.le_refl _) (Nat.le_refl _) ?_
    clear hW hS hc9
    intro H locs hW hS
    refine lv_if_eq (pc := 31) (tgt := 38) hx hb dX9_key_31 (by decide) (fun c1 => ?_) (fun c1 => ?_)
    · have hf := um_it c1 hf
      clear c1
      refine lv_aload_n (pc := 38) hx hb dX9_key_38 rfl (lv_at hl 0 rfl) ?_
      refine lv_bipush (pc := 39) (v := (105 : Int32)) hx hb dX9_key_39 (by decide) ?_
      refine lv_bipush (pc := 41) (v := (114 : Int32)) hx hb dX9_key_41 (by decide) ?_
      refine lv_bipush (pc := 43) (v := (111 : Int32)) hx hb dX9_key_43 (by decide) ?_
      refine lv_bipush (pc := 45) (v := (110 : Int32)) hx hb dX9_key_45 (by decide) ?_
      refine lv_bipush (pc := 47) (v := (115 : Int32)) hx hb dX9_key_47 (by decide) ?_
      refine lv_iconst (pc := 49) (v := (0 : Int32)) hx hb dX9_key_49 (by decide) ?_
      obtain ⟨x12, hc11, hf⟩ := um_bi hf
      refine um_cVi (pc := 50) (As := [.int (105 : Int32), .int (114 : Int32), .int (111 : Int32), .int (110 : Int32), .int (115 : Int32), .int (0 : Int32)]) (rest := []) Cx (c_X9_isLong (105 : Int32) (114 : Int32) (111 : Int32) (110 : Int32) (115 : Int32) (0 : Int32) hc11) kV_X9_isLong (Or.inl qM_X9_177) hW hS ms_0 rfl rfl hl rfl (Nat.le_of_ble_eq_true rfl) (Nat.le_of_ble_eq_true rfl) (Nat.le_of_ble_eq_true rfl) dX9_key_50 (Nat.le_refl _) (Nat.le_refl _) ?_
      clear hW hS hc11
      intro H locs hW hS
      refine lv_if_eq (pc := 53) (tgt := 60) hx hb dX9_key_53 (by decide) (fun c1 => ?_) (fun c1 => ?_)
      · have hf := um_it c1 hf
        clear c1
        refine lv_iconst (pc := 60) (v := (-1 : Int32)) hx hb dX9_key_60 (by decide) ?_
        exact J3 (-1 : Int32) hf _ _ _ hW hS hl
      · have hf := um_ie c1 hf
        clear c1
        refine lv_iconst (pc := 56) (v := (2 : Int32)) hx hb dX9_key_56 (by decide) ?_
        refine lv_goto (pc := 57) (tgt := 61) hx hb dX9_key_57 (by decide) ?_
        exact J3 (2 : Int32) hf _ _ _ hW hS hl
    · have hf := um_ie c1 hf
      clear c1
      refine lv_iconst (pc := 34) (v := (4 : Int32)) hx hb dX9_key_34 (by decide) ?_
      refine lv_goto (pc := 35) (tgt := 61) hx hb dX9_key_35 (by decide) ?_
      exact J3 (4 : Int32) hf _ _ _ hW hS hl
  · have hf := um_ie c1 hf
    clear c1
    refine lv_iconst (pc := 15) (v := (3 : Int32)) hx hb dX9_key_15 (by decide) ?_
    refine lv_goto (pc := 16) (tgt := 61) hx hb dX9_key_16 (by decide) ?_
    exact J3 (3 : Int32) hf _ _ _ hW hS hl
theorem c_X9_key {σ : um_S} {r : Int32}   (hf : f_X9_key σ = some r) : um_M l yX9_key cX9_key 2 (some FieldType.int) (1) (27) Z msh α σ [.ref (α 0)] (some (.int r)) σ :=
  um_start (by decide) (Nat.le_of_ble_eq_true rfl) (fun p e s m below meth c ls Cx hW hS hl => b_X9_key hf Cx hW hS hl)
noncomputable def f_X9_letter (a1 : Int32) (a2 : Int32) (a3 : Int32) (σ : um_S) : Option (Int32 × um_S) :=
    (f_X9_isMan a1 σ).bind fun x2 =>
    (if (um_b x2) = 0 then
    (some ((-1000000001 : Int32), σ))
    else
    ((f_X9_isIn (a2.toInt64) (0 : Int64) (1 : Int64) σ).bind fun x4 =>
    (if (um_b x4) = 0 then
    (some ((-1000000001 : Int32), σ))
    else
    ((f_X9_isIn (a3.toInt64) (1 : Int64) (99 : Int64) σ).bind fun x6 =>
    (if (um_b x6) = 0 then
    (some ((-1000000001 : Int32), σ))
    else
    (um_let (fun (_u : Unit) =>
    (if (σ.1 1 8) = (20 : Int32) then
    (some ((-1000000003 : Int32), σ))
    else
    (um_let ((570 : Int32) + ((5 : Int32) * (σ.1 1 8))) fun x8 =>
    (if um_ix x8 3790 then
    (um_let (um_wr σ 1 x8.toNatClampNeg a1) fun σ11 =>
    (if um_ix (x8 + (1 : Int32)) 3790 then
    (um_let (um_wr σ11 1 (x8 + (1 : Int32)).toNatClampNeg a2) fun σ14 =>
    (if um_ix (x8 + (2 : Int32)) 3790 then
    (um_let (um_wr σ14 1 (x8 + (2 : Int32)).toNatClampNeg ((σ14.1 1 0) + a3)) fun σ17 =>
    (if um_ix (x8 + (3 : Int32)) 3790 then
    (um_let (um_wr σ17 1 (x8 + (3 : Int32)).toNatClampNeg (0 : Int32)) fun σ20 =>
    (if um_ix (x8 + (4 : Int32)) 3790 then
    (um_let (um_wr σ20 1 (x8 + (4 : Int32)).toNatClampNeg (0 : Int32)) fun σ23 =>
    (um_let (um_wr σ23 1 8 ((σ23.1 1 8) + (1 : Int32))) fun σ25 =>
    (some ((σ25.1 1 8) - (1 : Int32), σ25)))) else none)) else none)) else none)) else none)) else none)))) fun k7 =>
    (if a2 = (1 : Int32) then
    ((f_X9_isDead a1 σ).bind fun x28 =>
    (if (um_b x28) = 0 then
    (k7 ())
    else
    (some ((-1000000002 : Int32), σ))))
    else
    (k7 ()))))))))
set_option maxRecDepth 100000 in
set_option maxHeartbeats 4000000 in
theorem b_X9_letter {H : Heap} {locs : List Loc} {ls : Array Slot} {σ : um_S} {σ' : um_S} {r : Int32} (a1 : Int32) (a2 : Int32) (a3 : Int32)  (hf : f_X9_letter a1 a2 a3 σ = some (r, σ')) (Cx : um_C p s m meth c args cX9_letter 5 (some FieldType.int) RX9 Z) (hW : um_W Z msh α σ H) (hS : va_S (um_D msh α) s.heap H locs) (hl : lv_has ls 5 [(0, .ref (α 0)), (1, .int a1), (2, .int a2), (3, .int a3)]) : um_G p l e (2) (46) s m args below meth c Z msh α σ' (some (.int r)) H locs (F0 m 0 ls []) := by
  have hx := Cx.1
  have hb := Cx.2.1
  have hown := Cx.2.2.2.2.1
  have hts := Cx.2.2.2.2.2.1
  rw [f_X9_letter] at hf
  refine lv_aload_n (pc := 0) hx hb dX9_letter_0 rfl (lv_at hl 0 rfl) ?_
  refine lv_iload_n (pc := 1) hx hb dX9_letter_1 rfl (lv_at hl 1 rfl) ?_
  obtain ⟨x2, hc1, hf⟩ := um_bi hf
  refine um_cVi (pc := 2) (As := [.int a1]) (rest := []) Cx (c_X9_isMan a1 hc1) kV_X9_isMan (Or.inl qM_X9_101) hW hS ms_0 rfl rfl hl rfl (Nat.le_of_ble_eq_true rfl) (Nat.le_of_ble_eq_true rfl) (Nat.le_of_ble_eq_true rfl) dX9_letter_2 (Nat.le_refl _) (Nat.le_refl _) ?_
  clear hW hS hc1
  intro H locs hW hS
  refine lv_if_eq (pc := 5) (tgt := 30) hx hb dX9_letter_5 (by decide) (fun c1 => ?_) (fun c1 => ?_)
  · have hf := um_it c1 hf
    clear c1
    refine lv_ldc (pc := 30) hx hb hown (hts _ qC_X9_87) dX9_letter_30 ?_
    exact um_iret (pc := 32) Cx hW hS hf dX9_letter_32
  · have hf := um_ie c1 hf
    clear c1
    refine lv_iload_n (pc := 8) hx hb dX9_letter_8 rfl (lv_at hl 2 rfl) ?_
    refine lv_i2l (pc := 9) hx hb dX9_letter_9 rfl ?_
    refine lv_lconst (pc := 10) (v := (0 : Int64)) hx hb dX9_letter_10 (by decide) ?_
    refine lv_lconst (pc := 11) (v := (1 : Int64)) hx hb dX9_letter_11 (by decide) ?_
    obtain ⟨x4, hc3, hf⟩ := um_bi hf
    refine um_cSi (pc := 12) (As := [.long (a2.toInt64), .long (0 : Int64), .long (1 : Int64)]) (rest := []) Cx (c_X9_isIn (a2.toInt64) (0 : Int64) (1 : Int64) hc3) kS_X9_isIn (Or.inl qM_X9_60) hW hS rfl hl rfl (Nat.le_of_ble_eq_true rfl) (Nat.le_of_ble_eq_true rfl) (Nat.le_of_ble_eq_true rfl) dX9_letter_12 (Nat.le_refl _) (Nat.le_refl _) ?_
    clear hW hS hc3
    intro H locs hW hS
    refine lv_if_eq (pc := 15) (tgt := 30) hx hb dX9_letter_15 (by decide) (fun c1 => ?_) (fun c1 => ?_)
    · have hf := um_it c1 hf
      clear c1
      refine lv_ldc (pc := 30) hx hb hown (hts _ qC_X9_87) dX9_letter_30 ?_
      exact um_iret (pc := 32) Cx hW hS hf dX9_letter_32
    · have hf := um_ie c1 hf
      clear c1
      refine lv_iload_n (pc := 18) hx hb dX9_letter_18 rfl (lv_at hl 3 rfl) ?_
      refine lv_i2l (pc := 19) hx hb dX9_letter_19 rfl ?_
      refine lv_lconst (pc := 20) (v := (1 : Int64)) hx hb dX9_letter_20 (by decide) ?_
      refine lv_ldc2 (pc := 21) hx hb hown (hts _ qL_X9_127) dX9_letter_21 ?_
      obtain ⟨x6, hc5, hf⟩ := um_bi hf
      refine um_cSi (pc := 24) (As := [.long (a3.toInt64), .long (1 : Int64), .long (99 : Int64)]) (rest := []) Cx (c_X9_isIn (a3.toInt64) (1 : Int64) (99 : Int64) hc5) kS_X9_isIn (Or.inl qM_X9_60) hW hS rfl hl rfl (Nat.le_of_ble_eq_true rfl) (Nat.le_of_ble_eq_true rfl) (Nat.le_of_ble_eq_true rfl) dX9_letter_24 (Nat.le_refl _) (Nat.le_refl _) ?_
      clear hW hS hc5
      intro H locs hW hS
      refine lv_if_ne (pc := 27) (tgt := 33) hx hb dX9_letter_27 (by decide) (fun c1 => ?_) (fun c1 => ?_)
      · have hf := um_ie c1 hf
        clear c1
        refine lv_iload_n (pc := 33) hx hb dX9_letter_33 rfl (lv_at hl 2 rfl) ?_
        refine lv_iconst (pc := 34) (v := (1 : Int32)) hx hb dX9_letter_34 (by decide) ?_
        obtain ⟨k7, hk7, hf⟩ := um_j1 hf
        have J7 : ∀ (_u : Unit), k7 _u = some (r, σ') → ∀ (H : Heap) (locs : List Loc) (ls : Array Slot), um_W Z msh α σ H → va_S (um_D msh α) s.heap H locs → lv_has ls 5 [(0, .ref (α 0)), (1, .int a1), (2, .int a2), (3, .int a3)] → um_G p l e (2) (46) s m args below meth c Z msh α σ' (some (.int r)) H locs (F0 m 49 ls []) := by
          intro _u hf H locs ls hW hS hl
          rw [hk7] at hf
          refine lv_aload_n (pc := 49) hx hb dX9_letter_49 rfl (lv_at hl 0 rfl) ?_
          refine gF_X9_7 (pc := 50) Cx hW ms_0 rfl dX9_letter_50 ?_
          refine lv_bipush (pc := 53) (v := (8 : Int32)) hx hb dX9_letter_53 (by decide) ?_
          refine um_iaj (pc := 55) (n := 3790) 8 rfl Cx hW ms_1 rfl (um_ix_in (by decide)) dX9_letter_55 ?_
          refine lv_bipush (pc := 56) (v := (20 : Int32)) hx hb dX9_letter_56 (by decide) ?_
          refine lv_icmp_ne (pc := 58) (tgt := 64) hx hb dX9_letter_58 (by decide) (fun c1 => ?_) (fun c1 => ?_)
          · have hf := um_ie c1 hf
            clear c1
            refine lv_sipush (pc := 64) (v := (570 : Int32)) hx hb dX9_letter_64 (by decide) ?_
            refine lv_iconst (pc := 67) (v := (5 : Int32)) hx hb dX9_letter_67 (by decide) ?_
            refine lv_aload_n (pc := 68) hx hb dX9_letter_68 rfl (lv_at hl 0 rfl) ?_
            refine gF_X9_7 (pc := 69) Cx hW ms_0 rfl dX9_letter_69 ?_
            refine lv_bipush (pc := 72) (v := (8 : Int32)) hx hb dX9_letter_72 (by decide) ?_
            refine um_iaj (pc := 74) (n := 3790) 8 rfl Cx hW ms_1 rfl (um_ix_in (by decide)) dX9_letter_74 ?_
            refine lv_imul (pc := 75) hx hb dX9_letter_75 ?_
            refine lv_iadd (pc := 76) hx hb dX9_letter_76 ?_
            obtain ⟨x8, e9, hf⟩ := um_le hf
            refine um_top e9 ?_
            clear e9
            refine lv_istore (pc := 77) (lv' := [(4, .int x8), (0, .ref (α 0)), (1, .int a1), (2, .int a2), (3, .int a3)]) hx hb dX9_letter_77 hl (by decide) rfl ?_
            clear hl
            intro ls hl
            refine lv_aload_n (pc := 79) hx hb dX9_letter_79 rfl (lv_at hl 1 rfl) ?_
            refine gF_X9_7 (pc := 80) Cx hW ms_0 rfl dX9_letter_80 ?_
            refine lv_iload (pc := 83) hx hb dX9_letter_83 (lv_at hl 0 rfl) ?_
            refine lv_iload_n (pc := 85) hx hb dX9_letter_85 rfl (lv_at hl 2 rfl) ?_
            obtain ⟨g10, hf⟩ := um_gu hf
            refine um_iast (pc := 86) Cx hW hS ms_1 rfl (um_ix_in g10) dX9_letter_86 ?_
            clear hW hS
            intro H locs hW hS
            obtain ⟨σ11, e12, hf⟩ := um_le hf
            rw [← e12] at hW
            clear e12
            refine lv_aload_n (pc := 87) hx hb dX9_letter_87 rfl (lv_at hl 1 rfl) ?_
            refine gF_X9_7 (pc := 88) Cx hW ms_0 rfl dX9_letter_88 ?_
            refine lv_iload (pc := 91) hx hb dX9_letter_91 (lv_at hl 0 rfl) ?_
            refine lv_iconst (pc := 93) (v := (1 : Int32)) hx hb dX9_letter_93 (by decide) ?_
            refine lv_iadd (pc := 94) hx hb dX9_letter_94 ?_
            refine lv_iload_n (pc := 95) hx hb dX9_letter_95 rfl (lv_at hl 3 rfl) ?_
            obtain ⟨g13, hf⟩ := um_gu hf
            refine um_iast (pc := 96) Cx hW hS ms_1 rfl (um_ix_in g13) dX9_letter_96 ?_
            clear hW hS
            intro H locs hW hS
            obtain ⟨σ14, e15, hf⟩ := um_le hf
            rw [← e15] at hW
            clear e15
            refine lv_aload_n (pc := 97) hx hb dX9_letter_97 rfl (lv_at hl 1 rfl) ?_
            refine gF_X9_7 (pc := 98) Cx hW ms_0 rfl dX9_letter_98 ?_
            refine lv_iload (pc := 101) hx hb dX9_letter_101 (lv_at hl 0 rfl) ?_
            refine lv_iconst (pc := 103) (v := (2 : Int32)) hx hb dX9_letter_103 (by decide) ?_
            refine lv_iadd (pc := 104) hx hb dX9_letter_104 ?_
            refine lv_aload_n (pc := 105) hx hb dX9_letter_105 rfl (lv_at hl 1 rfl) ?_
            refine gF_X9_7 (pc := 106) Cx hW ms_0 rfl dX9_letter_106 ?_
            refine lv_iconst (pc := 109) (v := (0 : Int32)) hx hb dX9_letter_109 (by decide) ?_
            refine um_iaj (pc := 110) (n := 3790) 0 rfl Cx hW ms_1 rfl (um_ix_in (by decide)) dX9_letter_110 ?_
            refine lv_iload_n (pc := 111) hx hb dX9_letter_111 rfl (lv_at hl 4 rfl) ?_
            refine lv_iadd (pc := 112) hx hb dX9_letter_112 ?_
            obtain ⟨g16, hf⟩ := um_gu hf
            refine um_iast (pc := 113) Cx hW hS ms_1 rfl (um_ix_in g16) dX9_letter_113 ?_
            clear hW hS
            intro H locs hW hS
            obtain ⟨σ17, e18, hf⟩ := um_le hf
            rw [← e18] at hW
            clear e18
            refine lv_aload_n (pc := 114) hx hb dX9_letter_114 rfl (lv_at hl 1 rfl) ?_
            refine gF_X9_7 (pc := 115) Cx hW ms_0 rfl dX9_letter_115 ?_
            refine lv_iload (pc := 118) hx hb dX9_letter_118 (lv_at hl 0 rfl) ?_
            refine lv_iconst (pc := 120) (v := (3 : Int32)) hx hb dX9_letter_120 (by decide) ?_
            refine lv_iadd (pc := 121) hx hb dX9_letter_121 ?_
            refine lv_iconst (pc := 122) (v := (0 : Int32)) hx hb dX9_letter_122 (by decide) ?_
            obtain ⟨g19, hf⟩ := um_gu hf
            refine um_iast (pc := 123) Cx hW hS ms_1 rfl (um_ix_in g19) dX9_letter_123 ?_
            clear hW hS
            intro H locs hW hS
            obtain ⟨σ20, e21, hf⟩ := um_le hf
            rw [← e21] at hW
            clear e21
            refine lv_aload_n (pc := 124) hx hb dX9_letter_124 rfl (lv_at hl 1 rfl) ?_
            refine gF_X9_7 (pc := 125) Cx hW ms_0 rfl dX9_letter_125 ?_
            refine lv_iload (pc := 128) hx hb dX9_letter_128 (lv_at hl 0 rfl) ?_
            refine lv_iconst (pc := 130) (v := (4 : Int32)) hx hb dX9_letter_130 (by decide) ?_
            refine lv_iadd (pc := 131) hx hb dX9_letter_131 ?_
            refine lv_iconst (pc := 132) (v := (0 : Int32)) hx hb dX9_letter_132 (by decide) ?_
            obtain ⟨g22, hf⟩ := um_gu hf
            refine um_iast (pc := 133) Cx hW hS ms_1 rfl (um_ix_in g22) dX9_letter_133 ?_
            clear hW hS
            intro H locs hW hS
            obtain ⟨σ23, e24, hf⟩ := um_le hf
            rw [← e24] at hW
            clear e24
            refine lv_aload_n (pc := 134) hx hb dX9_letter_134 rfl (lv_at hl 1 rfl) ?_
            refine gF_X9_7 (pc := 135) Cx hW ms_0 rfl dX9_letter_135 ?_
            refine lv_bipush (pc := 138) (v := (8 : Int32)) hx hb dX9_letter_138 (by decide) ?_
            refine lv_dup2_11 (pc := 140) hx hb dX9_letter_140 rfl rfl ?_
            refine um_iaj (pc := 141) (n := 3790) 8 rfl Cx hW ms_1 rfl (um_ix_in (by decide)) dX9_letter_141 ?_
            refine lv_iconst (pc := 142) (v := (1 : Int32)) hx hb dX9_letter_142 (by decide) ?_
            refine lv_iadd (pc := 143) hx hb dX9_letter_143 ?_
            refine um_isj (pc := 144) (n := 3790) 8 rfl Cx hW hS ms_1 rfl (um_ix_in (by decide)) dX9_letter_144 ?_
            clear hW hS
            intro H locs hW hS
            obtain ⟨σ25, e26, hf⟩ := um_le hf
            rw [← e26] at hW
            clear e26
            refine lv_aload_n (pc := 145) hx hb dX9_letter_145 rfl (lv_at hl 1 rfl) ?_
            refine gF_X9_7 (pc := 146) Cx hW ms_0 rfl dX9_letter_146 ?_
            refine lv_bipush (pc := 149) (v := (8 : Int32)) hx hb dX9_letter_149 (by decide) ?_
            refine um_iaj (pc := 151) (n := 3790) 8 rfl Cx hW ms_1 rfl (um_ix_in (by decide)) dX9_letter_151 ?_
            refine lv_iconst (pc := 152) (v := (1 : Int32)) hx hb dX9_letter_152 (by decide) ?_
            refine lv_isub (pc := 153) hx hb dX9_letter_153 ?_
            exact um_iret (pc := 154) Cx hW hS hf dX9_letter_154
          · have hf := um_it c1 hf
            clear c1
            refine lv_ldc (pc := 61) hx hb hown (hts _ qC_X9_88) dX9_letter_61 ?_
            exact um_iret (pc := 63) Cx hW hS hf dX9_letter_63
        refine lv_icmp_ne (pc := 35) (tgt := 49) hx hb dX9_letter_35 (by decide) (fun c1 => ?_) (fun c1 => ?_)
        · have hf := um_ie c1 hf
          clear c1
          exact J7 () hf _ _ _ hW hS hl
        · have hf := um_it c1 hf
          clear c1
          refine lv_aload_n (pc := 38) hx hb dX9_letter_38 rfl (lv_at hl 0 rfl) ?_
          refine lv_iload_n (pc := 39) hx hb dX9_letter_39 rfl (lv_at hl 1 rfl) ?_
          obtain ⟨x28, hc27, hf⟩ := um_bi hf
          refine um_cVi (pc := 40) (As := [.int a1]) (rest := []) Cx (c_X9_isDead a1 hc27) kV_X9_isDead (Or.inl qM_X9_70) hW hS ms_0 rfl rfl hl rfl (Nat.le_of_ble_eq_true rfl) (Nat.le_of_ble_eq_true rfl) (Nat.le_of_ble_eq_true rfl) dX9_letter_40 (Nat.le_refl _) (Nat.le_refl _) ?_
          clear hW hS hc27
          intro H locs hW hS
          refine lv_if_eq (pc := 43) (tgt := 49) hx hb dX9_letter_43 (by decide) (fun c1 => ?_) (fun c1 => ?_)
          · have hf := um_it c1 hf
            clear c1
            exact J7 () hf _ _ _ hW hS hl
          · have hf := um_ie c1 hf
            clear c1
            refine lv_ldc (pc := 46) hx hb hown (hts _ qC_X9_106) dX9_letter_46 ?_
            exact um_iret (pc := 48) Cx hW hS hf dX9_letter_48
      · have hf := um_it c1 hf
        clear c1
        refine lv_ldc (pc := 30) hx hb hown (hts _ qC_X9_87) dX9_letter_30 ?_
        exact um_iret (pc := 32) Cx hW hS hf dX9_letter_32
theorem c_X9_letter {σ : um_S} {σ' : um_S} {r : Int32} (a1 : Int32) (a2 : Int32) (a3 : Int32)  (hf : f_X9_letter a1 a2 a3 σ = some (r, σ')) : um_M l yX9_letter cX9_letter 5 (some FieldType.int) (2) (46) Z msh α σ [.ref (α 0), .int a1, .int a2, .int a3] (some (.int r)) σ' :=
  um_start (by decide) (Nat.le_of_ble_eq_true rfl) (fun p e s m below meth c ls Cx hW hS hl => b_X9_letter a1 a2 a3 hf Cx hW hS hl)
noncomputable def f_X9_letterTold (a1 : Int32) (a2 : Int32) (σ : um_S) : Option (Int32) :=
    (f_X9_isIn (a1.toInt64) (0 : Int64) (((σ.1 1 8) - (1 : Int32)).toInt64) σ).bind fun x2 =>
    (if (um_b x2) = 0 then
    (some (-1000000001 : Int32))
    else
    ((f_X9_isIn (a2.toInt64) (0 : Int64) (4 : Int64) σ).bind fun x4 =>
    (if (um_b x4) = 0 then
    (some (-1000000001 : Int32))
    else
    (if um_ix (((570 : Int32) + ((5 : Int32) * a1)) + a2) 3790 then
    (some (σ.1 1 (((570 : Int32) + ((5 : Int32) * a1)) + a2).toNatClampNeg)) else none))))
set_option maxRecDepth 100000 in
set_option maxHeartbeats 4000000 in
theorem b_X9_letterTold {H : Heap} {locs : List Loc} {ls : Array Slot} {σ : um_S} {r : Int32} (a1 : Int32) (a2 : Int32)  (hf : f_X9_letterTold a1 a2 σ = some r) (Cx : um_C p s m meth c args cX9_letterTold 3 (some FieldType.int) RX9 Z) (hW : um_W Z msh α σ H) (hS : va_S (um_D msh α) s.heap H locs) (hl : lv_has ls 3 [(0, .ref (α 0)), (1, .int a1), (2, .int a2)]) : um_G p l e (1) (25) s m args below meth c Z msh α σ (some (.int r)) H locs (F0 m 0 ls []) := by
  have hx := Cx.1
  have hb := Cx.2.1
  have hown := Cx.2.2.2.2.1
  have hts := Cx.2.2.2.2.2.1
  rw [f_X9_letterTold] at hf
  refine lv_iload_n (pc := 0) hx hb dX9_letterTold_0 rfl (lv_at hl 1 rfl) ?_
  refine lv_i2l (pc := 1) hx hb dX9_letterTold_1 rfl ?_
  refine lv_lconst (pc := 2) (v := (0 : Int64)) hx hb dX9_letterTold_2 (by decide) ?_
  refine lv_aload_n (pc := 3) hx hb dX9_letterTold_3 rfl (lv_at hl 0 rfl) ?_
  refine gF_X9_7 (pc := 4) Cx hW ms_0 rfl dX9_letterTold_4 ?_
  refine lv_bipush (pc := 7) (v := (8 : Int32)) hx hb dX9_letterTold_7 (by decide) ?_
  refine um_iaj (pc := 9) (n := 3790) 8 rfl Cx hW ms_1 rfl (um_ix_in (by decide)) dX9_letterTold_9 ?_
  refine lv_iconst (pc := 10) (v := (1 : Int32)) hx hb dX9_letterTold_10 (by decide) ?_
  refine lv_isub (pc := 11) hx hb dX9_letterTold_11 ?_
  refine lv_i2l (pc := 12) hx hb dX9_letterTold_12 rfl ?_
  obtain ⟨x2, hc1, hf⟩ := um_bi hf
  refine um_cSi (pc := 13) (As := [.long (a1.toInt64), .long (0 : Int64), .long (((σ.1 1 8) - (1 : Int32)).toInt64)]) (rest := []) Cx (c_X9_isIn (a1.toInt64) (0 : Int64) (((σ.1 1 8) - (1 : Int32)).toInt64) hc1) kS_X9_isIn (Or.inl qM_X9_60) hW hS rfl hl rfl (Nat.le_of_ble_eq_true rfl) (Nat.le_of_ble_eq_true rfl) (Nat.le_of_ble_eq_true rfl) dX9_letterTold_13 (Nat.le_refl _) (Nat.le_refl _) ?_
  clear hW hS hc1
  intro H locs hW hS
  refine lv_if_eq (pc := 16) (tgt := 48) hx hb dX9_letterTold_16 (by decide) (fun c1 => ?_) (fun c1 => ?_)
  · have hf := um_it c1 hf
    clear c1
    refine lv_ldc (pc := 48) hx hb hown (hts _ qC_X9_87) dX9_letterTold_48 ?_
    exact um_iretR (pc := 50) Cx hW hS hf dX9_letterTold_50
  · have hf := um_ie c1 hf
    clear c1
    refine lv_iload_n (pc := 19) hx hb dX9_letterTold_19 rfl (lv_at hl 2 rfl) ?_
    refine lv_i2l (pc := 20) hx hb dX9_letterTold_20 rfl ?_
    refine lv_lconst (pc := 21) (v := (0 : Int64)) hx hb dX9_letterTold_21 (by decide) ?_
    refine lv_ldc2 (pc := 22) hx hb hown (hts _ qL_X9_80) dX9_letterTold_22 ?_
    obtain ⟨x4, hc3, hf⟩ := um_bi hf
    refine um_cSi (pc := 25) (As := [.long (a2.toInt64), .long (0 : Int64), .long (4 : Int64)]) (rest := []) Cx (c_X9_isIn (a2.toInt64) (0 : Int64) (4 : Int64) hc3) kS_X9_isIn (Or.inl qM_X9_60) hW hS rfl hl rfl (Nat.le_of_ble_eq_true rfl) (Nat.le_of_ble_eq_true rfl) (Nat.le_of_ble_eq_true rfl) dX9_letterTold_25 (Nat.le_refl _) (Nat.le_refl _) ?_
    clear hW hS hc3
    intro H locs hW hS
    refine lv_if_eq (pc := 28) (tgt := 48) hx hb dX9_letterTold_28 (by decide) (fun c1 => ?_) (fun c1 => ?_)
    · have hf := um_it c1 hf
      clear c1
      refine lv_ldc (pc := 48) hx hb hown (hts _ qC_X9_87) dX9_letterTold_48 ?_
      exact um_iretR (pc := 50) Cx hW hS hf dX9_letterTold_50
    · have hf := um_ie c1 hf
      clear c1
      refine lv_aload_n (pc := 31) hx hb dX9_letterTold_31 rfl (lv_at hl 0 rfl) ?_
      refine gF_X9_7 (pc := 32) Cx hW ms_0 rfl dX9_letterTold_32 ?_
      refine lv_sipush (pc := 35) (v := (570 : Int32)) hx hb dX9_letterTold_35 (by decide) ?_
      refine lv_iconst (pc := 38) (v := (5 : Int32)) hx hb dX9_letterTold_38 (by decide) ?_
      refine lv_iload_n (pc := 39) hx hb dX9_letterTold_39 rfl (lv_at hl 1 rfl) ?_
      refine lv_imul (pc := 40) hx hb dX9_letterTold_40 ?_
      refine lv_iadd (pc := 41) hx hb dX9_letterTold_41 ?_
      refine lv_iload_n (pc := 42) hx hb dX9_letterTold_42 rfl (lv_at hl 2 rfl) ?_
      refine lv_iadd (pc := 43) hx hb dX9_letterTold_43 ?_
      obtain ⟨g5, hf⟩ := um_gu hf
      refine um_iald (pc := 44) Cx hW ms_1 rfl (um_ix_in g5) dX9_letterTold_44 ?_
      refine lv_goto (pc := 45) (tgt := 50) hx hb dX9_letterTold_45 (by decide) ?_
      exact um_iretR (pc := 50) Cx hW hS hf dX9_letterTold_50
theorem c_X9_letterTold {σ : um_S} {r : Int32} (a1 : Int32) (a2 : Int32)  (hf : f_X9_letterTold a1 a2 σ = some r) : um_M l yX9_letterTold cX9_letterTold 3 (some FieldType.int) (1) (25) Z msh α σ [.ref (α 0), .int a1, .int a2] (some (.int r)) σ :=
  um_start (by decide) (Nat.le_of_ble_eq_true rfl) (fun p e s m below meth c ls Cx hW hS hl => b_X9_letterTold a1 a2 hf Cx hW hS hl)
noncomputable def f_X9_look (a1 : Int32) (a2 : Int32) (a3 : Int32) (a4 : Int32) (σ : um_S) : Option (Int32 × um_S) :=
    (f_X9_isIn (a1.toInt64) (0 : Int64) (8 : Int64) σ).bind fun x2 =>
    (if (um_b x2) = 0 then
    (some ((-1000000001 : Int32), σ))
    else
    ((f_X9_isIn (a2.toInt64) (0 : Int64) (6 : Int64) σ).bind fun x4 =>
    (if (um_b x4) = 0 then
    (some ((-1000000001 : Int32), σ))
    else
    ((f_X9_isIn (a3.toInt64) (0 : Int64) (70 : Int64) σ).bind fun x6 =>
    (if (um_b x6) = 0 then
    (some ((-1000000001 : Int32), σ))
    else
    ((f_X9_isIn (a4.toInt64) (0 : Int64) (255 : Int64) σ).bind fun x8 =>
    (if (um_b x8) = 0 then
    (some ((-1000000001 : Int32), σ))
    else
    (if (σ.1 1 6) = (10 : Int32) then
    (some ((-1000000003 : Int32), σ))
    else
    (um_let ((440 : Int32) + ((4 : Int32) * (σ.1 1 6))) fun x9 =>
    (if um_ix x9 3790 then
    (um_let (um_wr σ 1 x9.toNatClampNeg a1) fun σ12 =>
    (if um_ix (x9 + (1 : Int32)) 3790 then
    (um_let (um_wr σ12 1 (x9 + (1 : Int32)).toNatClampNeg a2) fun σ15 =>
    (if um_ix (x9 + (2 : Int32)) 3790 then
    (um_let (um_wr σ15 1 (x9 + (2 : Int32)).toNatClampNeg a3) fun σ18 =>
    (if um_ix (x9 + (3 : Int32)) 3790 then
    (um_let (um_wr σ18 1 (x9 + (3 : Int32)).toNatClampNeg a4) fun σ21 =>
    (um_let (um_wr σ21 1 6 ((σ21.1 1 6) + (1 : Int32))) fun σ23 =>
    (some ((σ23.1 1 6) - (1 : Int32), σ23)))) else none)) else none)) else none)) else none))))))))))
set_option maxRecDepth 100000 in
set_option maxHeartbeats 4000000 in
theorem b_X9_look {H : Heap} {locs : List Loc} {ls : Array Slot} {σ : um_S} {σ' : um_S} {r : Int32} (a1 : Int32) (a2 : Int32) (a3 : Int32) (a4 : Int32)  (hf : f_X9_look a1 a2 a3 a4 σ = some (r, σ')) (Cx : um_C p s m meth c args cX9_look 6 (some FieldType.int) RX9 Z) (hW : um_W Z msh α σ H) (hS : va_S (um_D msh α) s.heap H locs) (hl : lv_has ls 6 [(0, .ref (α 0)), (1, .int a1), (2, .int a2), (3, .int a3), (4, .int a4)]) : um_G p l e (1) (25) s m args below meth c Z msh α σ' (some (.int r)) H locs (F0 m 0 ls []) := by
  have hx := Cx.1
  have hb := Cx.2.1
  have hown := Cx.2.2.2.2.1
  have hts := Cx.2.2.2.2.2.1
  rw [f_X9_look] at hf
  refine lv_iload_n (pc := 0) hx hb dX9_look_0 rfl (lv_at hl 1 rfl) ?_
  refine lv_i2l (pc := 1) hx hb dX9_look_1 rfl ?_
  refine lv_lconst (pc := 2) (v := (0 : Int64)) hx hb dX9_look_2 (by decide) ?_
  refine lv_ldc2 (pc := 3) hx hb hown (hts _ qL_X9_314) dX9_look_3 ?_
  obtain ⟨x2, hc1, hf⟩ := um_bi hf
  refine um_cSi (pc := 6) (As := [.long (a1.toInt64), .long (0 : Int64), .long (8 : Int64)]) (rest := []) Cx (c_X9_isIn (a1.toInt64) (0 : Int64) (8 : Int64) hc1) kS_X9_isIn (Or.inl qM_X9_60) hW hS rfl hl rfl (Nat.le_of_ble_eq_true rfl) (Nat.le_of_ble_eq_true rfl) (Nat.le_of_ble_eq_true rfl) dX9_look_6 (Nat.le_refl _) (Nat.le_refl _) ?_
  clear hW hS hc1
  intro H locs hW hS
  refine lv_if_eq (pc := 9) (tgt := 49) hx hb dX9_look_9 (by decide) (fun c1 => ?_) (fun c1 => ?_)
  · have hf := um_it c1 hf
    clear c1
    refine lv_ldc (pc := 49) hx hb hown (hts _ qC_X9_87) dX9_look_49 ?_
    exact um_iret (pc := 51) Cx hW hS hf dX9_look_51
  · have hf := um_ie c1 hf
    clear c1
    refine lv_iload_n (pc := 12) hx hb dX9_look_12 rfl (lv_at hl 2 rfl) ?_
    refine lv_i2l (pc := 13) hx hb dX9_look_13 rfl ?_
    refine lv_lconst (pc := 14) (v := (0 : Int64)) hx hb dX9_look_14 (by decide) ?_
    refine lv_ldc2 (pc := 15) hx hb hown (hts _ qL_X9_316) dX9_look_15 ?_
    obtain ⟨x4, hc3, hf⟩ := um_bi hf
    refine um_cSi (pc := 18) (As := [.long (a2.toInt64), .long (0 : Int64), .long (6 : Int64)]) (rest := []) Cx (c_X9_isIn (a2.toInt64) (0 : Int64) (6 : Int64) hc3) kS_X9_isIn (Or.inl qM_X9_60) hW hS rfl hl rfl (Nat.le_of_ble_eq_true rfl) (Nat.le_of_ble_eq_true rfl) (Nat.le_of_ble_eq_true rfl) dX9_look_18 (Nat.le_refl _) (Nat.le_refl _) ?_
    clear hW hS hc3
    intro H locs hW hS
    refine lv_if_eq (pc := 21) (tgt := 49) hx hb dX9_look_21 (by decide) (fun c1 => ?_) (fun c1 => ?_)
    · have hf := um_it c1 hf
      clear c1
      refine lv_ldc (pc := 49) hx hb hown (hts _ qC_X9_87) dX9_look_49 ?_
      exact um_iret (pc := 51) Cx hW hS hf dX9_look_51
    · have hf := um_ie c1 hf
      clear c1
      refine lv_iload_n (pc := 24) hx hb dX9_look_24 rfl (lv_at hl 3 rfl) ?_
      refine lv_i2l (pc := 25) hx hb dX9_look_25 rfl ?_
      refine lv_lconst (pc := 26) (v := (0 : Int64)) hx hb dX9_look_26 (by decide) ?_
      refine lv_ldc2 (pc := 27) hx hb hown (hts _ qL_X9_93) dX9_look_27 ?_
      obtain ⟨x6, hc5, hf⟩ := um_bi hf
      refine um_cSi (pc := 30) (As := [.long (a3.toInt64), .long (0 : Int64), .long (70 : Int64)]) (rest := []) Cx (c_X9_isIn (a3.toInt64) (0 : Int64) (70 : Int64) hc5) kS_X9_isIn (Or.inl qM_X9_60) hW hS rfl hl rfl (Nat.le_of_ble_eq_true rfl) (Nat.le_of_ble_eq_true rfl) (Nat.le_of_ble_eq_true rfl) dX9_look_30 (Nat.le_refl _) (Nat.le_refl _) ?_
      clear hW hS hc5
      intro H locs hW hS
      refine lv_if_eq (pc := 33) (tgt := 49) hx hb dX9_look_33 (by decide) (fun c1 => ?_) (fun c1 => ?_)
      · have hf := um_it c1 hf
        clear c1
        refine lv_ldc (pc := 49) hx hb hown (hts _ qC_X9_87) dX9_look_49 ?_
        exact um_iret (pc := 51) Cx hW hS hf dX9_look_51
      · have hf := um_ie c1 hf
        clear c1
        refine lv_iload (pc := 36) hx hb dX9_look_36 (lv_at hl 4 rfl) ?_
        refine lv_i2l (pc := 38) hx hb dX9_look_38 rfl ?_
        refine lv_lconst (pc := 39) (v := (0 : Int64)) hx hb dX9_look_39 (by decide) ?_
        refine lv_ldc2 (pc := 40) hx hb hown (hts _ qL_X9_95) dX9_look_40 ?_
        obtain ⟨x8, hc7, hf⟩ := um_bi hf
        refine um_cSi (pc := 43) (As := [.long (a4.toInt64), .long (0 : Int64), .long (255 : Int64)]) (rest := []) Cx (c_X9_isIn (a4.toInt64) (0 : Int64) (255 : Int64) hc7) kS_X9_isIn (Or.inl qM_X9_60) hW hS rfl hl rfl (Nat.le_of_ble_eq_true rfl) (Nat.le_of_ble_eq_true rfl) (Nat.le_of_ble_eq_true rfl) dX9_look_43 (Nat.le_refl _) (Nat.le_refl _) ?_
        clear hW hS hc7
        intro H locs hW hS
        refine lv_if_ne (pc := 46) (tgt := 52) hx hb dX9_look_46 (by decide) (fun c1 => ?_) (fun c1 => ?_)
        · have hf := um_ie c1 hf
          clear c1
          refine lv_aload_n (pc := 52) hx hb dX9_look_52 rfl (lv_at hl 0 rfl) ?_
          refine gF_X9_7 (pc := 53) Cx hW ms_0 rfl dX9_look_53 ?_
          refine lv_bipush (pc := 56) (v := (6 : Int32)) hx hb dX9_look_56 (by decide) ?_
          refine um_iaj (pc := 58) (n := 3790) 6 rfl Cx hW ms_1 rfl (um_ix_in (by decide)) dX9_look_58 ?_
          refine lv_bipush (pc := 59) (v := (10 : Int32)) hx hb dX9_look_59 (by decide) ?_
          refine lv_icmp_ne (pc := 61) (tgt := 67) hx hb dX9_look_61 (by decide) (fun c1 => ?_) (fun c1 => ?_)
          · have hf := um_ie c1 hf
            clear c1
            refine lv_sipush (pc := 67) (v := (440 : Int32)) hx hb dX9_look_67 (by decide) ?_
            refine lv_iconst (pc := 70) (v := (4 : Int32)) hx hb dX9_look_70 (by decide) ?_
            refine lv_aload_n (pc := 71) hx hb dX9_look_71 rfl (lv_at hl 0 rfl) ?_
            refine gF_X9_7 (pc := 72) Cx hW ms_0 rfl dX9_look_72 ?_
            refine lv_bipush (pc := 75) (v := (6 : Int32)) hx hb dX9_look_75 (by decide) ?_
            refine um_iaj (pc := 77) (n := 3790) 6 rfl Cx hW ms_1 rfl (um_ix_in (by decide)) dX9_look_77 ?_
            refine lv_imul (pc := 78) hx hb dX9_look_78 ?_
            refine lv_iadd (pc := 79) hx hb dX9_look_79 ?_
            obtain ⟨x9, e10, hf⟩ := um_le hf
            refine um_top e10 ?_
            clear e10
            refine lv_istore (pc := 80) (lv' := [(5, .int x9), (0, .ref (α 0)), (1, .int a1), (2, .int a2), (3, .int a3), (4, .int a4)]) hx hb dX9_look_80 hl (by decide) rfl ?_
            clear hl
            intro ls hl
            refine lv_aload_n (pc := 82) hx hb dX9_look_82 rfl (lv_at hl 1 rfl) ?_
            refine gF_X9_7 (pc := 83) Cx hW ms_0 rfl dX9_look_83 ?_
            refine lv_iload (pc := 86) hx hb dX9_look_86 (lv_at hl 0 rfl) ?_
            refine lv_iload_n (pc := 88) hx hb dX9_look_88 rfl (lv_at hl 2 rfl) ?_
            obtain ⟨g11, hf⟩ := um_gu hf
            refine um_iast (pc := 89) Cx hW hS ms_1 rfl (um_ix_in g11) dX9_look_89 ?_
            clear hW hS
            intro H locs hW hS
            obtain ⟨σ12, e13, hf⟩ := um_le hf
            rw [← e13] at hW
            clear e13
            refine lv_aload_n (pc := 90) hx hb dX9_look_90 rfl (lv_at hl 1 rfl) ?_
            refine gF_X9_7 (pc := 91) Cx hW ms_0 rfl dX9_look_91 ?_
            refine lv_iload (pc := 94) hx hb dX9_look_94 (lv_at hl 0 rfl) ?_
            refine lv_iconst (pc := 96) (v := (1 : Int32)) hx hb dX9_look_96 (by decide) ?_
            refine lv_iadd (pc := 97) hx hb dX9_look_97 ?_
            refine lv_iload_n (pc := 98) hx hb dX9_look_98 rfl (lv_at hl 3 rfl) ?_
            obtain ⟨g14, hf⟩ := um_gu hf
            refine um_iast (pc := 99) Cx hW hS ms_1 rfl (um_ix_in g14) dX9_look_99 ?_
            clear hW hS
            intro H locs hW hS
            obtain ⟨σ15, e16, hf⟩ := um_le hf
            rw [← e16] at hW
            clear e16
            refine lv_aload_n (pc := 100) hx hb dX9_look_100 rfl (lv_at hl 1 rfl) ?_
            refine gF_X9_7 (pc := 101) Cx hW ms_0 rfl dX9_look_101 ?_
            refine lv_iload (pc := 104) hx hb dX9_look_104 (lv_at hl 0 rfl) ?_
            refine lv_iconst (pc := 106) (v := (2 : Int32)) hx hb dX9_look_106 (by decide) ?_
            refine lv_iadd (pc := 107) hx hb dX9_look_107 ?_
            refine lv_iload_n (pc := 108) hx hb dX9_look_108 rfl (lv_at hl 4 rfl) ?_
            obtain ⟨g17, hf⟩ := um_gu hf
            refine um_iast (pc := 109) Cx hW hS ms_1 rfl (um_ix_in g17) dX9_look_109 ?_
            clear hW hS
            intro H locs hW hS
            obtain ⟨σ18, e19, hf⟩ := um_le hf
            rw [← e19] at hW
            clear e19
            refine lv_aload_n (pc := 110) hx hb dX9_look_110 rfl (lv_at hl 1 rfl) ?_
            refine gF_X9_7 (pc := 111) Cx hW ms_0 rfl dX9_look_111 ?_
            refine lv_iload (pc := 114) hx hb dX9_look_114 (lv_at hl 0 rfl) ?_
            refine lv_iconst (pc := 116) (v := (3 : Int32)) hx hb dX9_look_116 (by decide) ?_
            refine lv_iadd (pc := 117) hx hb dX9_look_117 ?_
            refine lv_iload (pc := 118) hx hb dX9_look_118 (lv_at hl 5 rfl) ?_
            obtain ⟨g20, hf⟩ := um_gu hf
            refine um_iast (pc := 120) Cx hW hS ms_1 rfl (um_ix_in g20) dX9_look_120 ?_
            clear hW hS
            intro H locs hW hS
            obtain ⟨σ21, e22, hf⟩ := um_le hf
            rw [← e22] at hW
            clear e22
            refine lv_aload_n (pc := 121) hx hb dX9_look_121 rfl (lv_at hl 1 rfl) ?_
            refine gF_X9_7 (pc := 122) Cx hW ms_0 rfl dX9_look_122 ?_
            refine lv_bipush (pc := 125) (v := (6 : Int32)) hx hb dX9_look_125 (by decide) ?_
            refine lv_dup2_11 (pc := 127) hx hb dX9_look_127 rfl rfl ?_
            refine um_iaj (pc := 128) (n := 3790) 6 rfl Cx hW ms_1 rfl (um_ix_in (by decide)) dX9_look_128 ?_
            refine lv_iconst (pc := 129) (v := (1 : Int32)) hx hb dX9_look_129 (by decide) ?_
            refine lv_iadd (pc := 130) hx hb dX9_look_130 ?_
            refine um_isj (pc := 131) (n := 3790) 6 rfl Cx hW hS ms_1 rfl (um_ix_in (by decide)) dX9_look_131 ?_
            clear hW hS
            intro H locs hW hS
            obtain ⟨σ23, e24, hf⟩ := um_le hf
            rw [← e24] at hW
            clear e24
            refine lv_aload_n (pc := 132) hx hb dX9_look_132 rfl (lv_at hl 1 rfl) ?_
            refine gF_X9_7 (pc := 133) Cx hW ms_0 rfl dX9_look_133 ?_
            refine lv_bipush (pc := 136) (v := (6 : Int32)) hx hb dX9_look_136 (by decide) ?_
            refine um_iaj (pc := 138) (n := 3790) 6 rfl Cx hW ms_1 rfl (um_ix_in (by decide)) dX9_look_138 ?_
            refine lv_iconst (pc := 139) (v := (1 : Int32)) hx hb dX9_look_139 (by decide) ?_
            refine lv_isub (pc := 140) hx hb dX9_look_140 ?_
            exact um_iret (pc := 141) Cx hW hS hf dX9_look_141
          · have hf := um_it c1 hf
            clear c1
            refine lv_ldc (pc := 64) hx hb hown (hts _ qC_X9_88) dX9_look_64 ?_
            exact um_iret (pc := 66) Cx hW hS hf dX9_look_66
        · have hf := um_it c1 hf
          clear c1
          refine lv_ldc (pc := 49) hx hb hown (hts _ qC_X9_87) dX9_look_49 ?_
          exact um_iret (pc := 51) Cx hW hS hf dX9_look_51
theorem c_X9_look {σ : um_S} {σ' : um_S} {r : Int32} (a1 : Int32) (a2 : Int32) (a3 : Int32) (a4 : Int32)  (hf : f_X9_look a1 a2 a3 a4 σ = some (r, σ')) : um_M l yX9_look cX9_look 6 (some FieldType.int) (1) (25) Z msh α σ [.ref (α 0), .int a1, .int a2, .int a3, .int a4] (some (.int r)) σ' :=
  um_start (by decide) (Nat.le_of_ble_eq_true rfl) (fun p e s m below meth c ls Cx hW hS hl => b_X9_look a1 a2 a3 a4 hf Cx hW hS hl)
noncomputable def f_X9_man (a1 : Int32) (a2 : Int32) (a3 : Int32) (a4 : Int32) (a5 : Int32) (σ : um_S) : Option (Int32 × um_S) :=
    (f_X9_isIn (a1.toInt64) (0 : Int64) (((σ.1 1 1) - (1 : Int32)).toInt64) σ).bind fun x2 =>
    (um_let (fun (x4 : Int32) =>
    (if x4 = 0 then
    (some ((-1000000001 : Int32), σ))
    else
    ((f_X9_isIn (a2.toInt64) (0 : Int64) (7 : Int64) σ).bind fun x6 =>
    (if (um_b x6) = 0 then
    (some ((-1000000001 : Int32), σ))
    else
    ((f_X9_isIn (a3.toInt64) (0 : Int64) (5 : Int64) σ).bind fun x8 =>
    (if (um_b x8) = 0 then
    (some ((-1000000001 : Int32), σ))
    else
    ((f_X9_isIn (a4.toInt64) (10 : Int64) (70 : Int64) σ).bind fun x10 =>
    (if (um_b x10) = 0 then
    (some ((-1000000001 : Int32), σ))
    else
    ((f_X9_isIn (a5.toInt64) (0 : Int64) (255 : Int64) σ).bind fun x12 =>
    (if (um_b x12) = 0 then
    (some ((-1000000001 : Int32), σ))
    else
    (if (σ.1 1 2) = (14 : Int32) then
    (some ((-1000000003 : Int32), σ))
    else
    ((f_X9_manAt (σ.1 1 2) σ).bind fun x14 =>
    (if um_ix (x14 + (0 : Int32)) 3790 then
    (um_let (um_wr σ 1 (x14 + (0 : Int32)).toNatClampNeg a2) fun σ16 =>
    (if um_ix (x14 + (1 : Int32)) 3790 then
    (um_let (um_wr σ16 1 (x14 + (1 : Int32)).toNatClampNeg a3) fun σ19 =>
    (if um_ix (x14 + (2 : Int32)) 3790 then
    (um_let (um_wr σ19 1 (x14 + (2 : Int32)).toNatClampNeg a4) fun σ22 =>
    (if um_ix (x14 + (3 : Int32)) 3790 then
    (um_let (um_wr σ22 1 (x14 + (3 : Int32)).toNatClampNeg a5) fun σ25 =>
    (if um_ix (x14 + (4 : Int32)) 3790 then
    (um_let (um_wr σ25 1 (x14 + (4 : Int32)).toNatClampNeg (-1 : Int32)) fun σ28 =>
    (if um_ix (x14 + (9 : Int32)) 3790 then
    (um_let (um_wr σ28 1 (x14 + (9 : Int32)).toNatClampNeg (0 : Int32)) fun σ31 =>
    (if um_ix (x14 + (10 : Int32)) 3790 then
    (um_let (um_wr σ31 1 (x14 + (10 : Int32)).toNatClampNeg (-1 : Int32)) fun σ34 =>
    (if um_ix (x14 + (11 : Int32)) 3790 then
    (um_let (um_wr σ34 1 (x14 + (11 : Int32)).toNatClampNeg (0 : Int32)) fun σ37 =>
    (if um_ix (x14 + (12 : Int32)) 3790 then
    (um_let (um_wr σ37 1 (x14 + (12 : Int32)).toNatClampNeg (364 : Int32)) fun σ40 =>
    (if um_ix (x14 + (13 : Int32)) 3790 then
    (um_let (um_wr σ40 1 (x14 + (13 : Int32)).toNatClampNeg a1) fun σ43 =>
    ((f_X9_becomesOf (σ43.1 1 2) (1 : Int32) (0 : Int32) σ43).bind fun σ46 =>
    (um_let (um_wr σ46 1 2 ((σ46.1 1 2) + (1 : Int32))) fun σ47 =>
    (some ((σ47.1 1 2) - (1 : Int32), σ47))))) else none)) else none)) else none)) else none)) else none)) else none)) else none)) else none)) else none)) else none))))))))))))) fun k3 =>
    (um_let (fun (_u : Unit) =>
    (k3 (0 : Int32))) fun k49 =>
    (if (um_b x2) = 0 then
    (k49 ())
    else
    (if um_ix (((30 : Int32) + ((2 : Int32) * a1)) + (1 : Int32)) 3790 then
    (if (σ.1 1 (((30 : Int32) + ((2 : Int32) * a1)) + (1 : Int32)).toNatClampNeg) < (σ.1 1 0) then
    (k49 ())
    else
    (k3 (1 : Int32))) else none))))
set_option maxRecDepth 100000 in
set_option maxHeartbeats 4000000 in
theorem b_X9_man {H : Heap} {locs : List Loc} {ls : Array Slot} {σ : um_S} {σ' : um_S} {r : Int32} (a1 : Int32) (a2 : Int32) (a3 : Int32) (a4 : Int32) (a5 : Int32)  (hf : f_X9_man a1 a2 a3 a4 a5 σ = some (r, σ')) (Cx : um_C p s m meth c args cX9_man 8 (some FieldType.int) RX9 Z) (hW : um_W Z msh α σ H) (hS : va_S (um_D msh α) s.heap H locs) (hl : lv_has ls 8 [(0, .ref (α 0)), (1, .int a1), (2, .int a2), (3, .int a3), (4, .int a4), (5, .int a5)]) : um_G p l e (2) (45) s m args below meth c Z msh α σ' (some (.int r)) H locs (F0 m 0 ls []) := by
  have hx := Cx.1
  have hb := Cx.2.1
  have hown := Cx.2.2.2.2.1
  have hts := Cx.2.2.2.2.2.1
  rw [f_X9_man] at hf
  refine lv_iload_n (pc := 0) hx hb dX9_man_0 rfl (lv_at hl 1 rfl) ?_
  refine lv_i2l (pc := 1) hx hb dX9_man_1 rfl ?_
  refine lv_lconst (pc := 2) (v := (0 : Int64)) hx hb dX9_man_2 (by decide) ?_
  refine lv_aload_n (pc := 3) hx hb dX9_man_3 rfl (lv_at hl 0 rfl) ?_
  refine gF_X9_7 (pc := 4) Cx hW ms_0 rfl dX9_man_4 ?_
  refine lv_iconst (pc := 7) (v := (1 : Int32)) hx hb dX9_man_7 (by decide) ?_
  refine um_iaj (pc := 8) (n := 3790) 1 rfl Cx hW ms_1 rfl (um_ix_in (by decide)) dX9_man_8 ?_
  refine lv_iconst (pc := 9) (v := (1 : Int32)) hx hb dX9_man_9 (by decide) ?_
  refine lv_isub (pc := 10) hx hb dX9_man_10 ?_
  refine lv_i2l (pc := 11) hx hb dX9_man_11 rfl ?_
  obtain ⟨x2, hc1, hf⟩ := um_bi hf
  refine um_cSi (pc := 12) (As := [.long (a1.toInt64), .long (0 : Int64), .long (((σ.1 1 1) - (1 : Int32)).toInt64)]) (rest := []) Cx (c_X9_isIn (a1.toInt64) (0 : Int64) (((σ.1 1 1) - (1 : Int32)).toInt64) hc1) kS_X9_isIn (Or.inl qM_X9_60) hW hS rfl hl rfl (Nat.le_of_ble_eq_true rfl) (Nat.le_of_ble_eq_true rfl) (Nat.le_of_ble_eq_true rfl) dX9_man_12 (Nat.le_refl _) (Nat.le_refl _) ?_
  clear hW hS hc1
  intro H locs hW hS
  obtain ⟨k3, hk3, hf⟩ := um_j1 hf
  have J3 : ∀ (x4 : Int32), k3 x4 = some (r, σ') → ∀ (H : Heap) (locs : List Loc) (ls : Array Slot), um_W Z msh α σ H → va_S (um_D msh α) s.heap H locs → lv_has ls 8 [(0, .ref (α 0)), (1, .int a1), (2, .int a2), (3, .int a3), (4, .int a4), (5, .int a5)] → um_G p l e (2) (45) s m args below meth c Z msh α σ' (some (.int r)) H locs (F0 m 45 ls [.int x4]) := by
    intro x4 hf H locs ls hW hS hl
    rw [hk3] at hf
    refine lv_istore (pc := 45) (lv' := [(6, .int x4), (0, .ref (α 0)), (1, .int a1), (2, .int a2), (3, .int a3), (4, .int a4), (5, .int a5)]) hx hb dX9_man_45 hl (by decide) rfl ?_
    clear hl
    intro ls hl
    refine lv_iload (pc := 47) hx hb dX9_man_47 (lv_at hl 0 rfl) ?_
    refine lv_if_eq (pc := 49) (tgt := 104) hx hb dX9_man_49 (by decide) (fun c1 => ?_) (fun c1 => ?_)
    · have hf := um_it c1 hf
      clear c1
      refine lv_ldc (pc := 104) hx hb hown (hts _ qC_X9_87) dX9_man_104 ?_
      exact um_iret (pc := 106) Cx hW hS hf dX9_man_106
    · have hf := um_ie c1 hf
      clear c1
      refine lv_iload_n (pc := 52) hx hb dX9_man_52 rfl (lv_at hl 3 rfl) ?_
      refine lv_i2l (pc := 53) hx hb dX9_man_53 rfl ?_
      refine lv_lconst (pc := 54) (v := (0 : Int64)) hx hb dX9_man_54 (by decide) ?_
      refine lv_ldc2 (pc := 55) hx hb hown (hts _ qL_X9_89) dX9_man_55 ?_
      obtain ⟨x6, hc5, hf⟩ := um_bi hf
      refine um_cSi (pc := 58) (As := [.long (a2.toInt64), .long (0 : Int64), .long (7 : Int64)]) (rest := []) Cx (c_X9_isIn (a2.toInt64) (0 : Int64) (7 : Int64) hc5) kS_X9_isIn (Or.inl qM_X9_60) hW hS rfl hl rfl (Nat.le_of_ble_eq_true rfl) (Nat.le_of_ble_eq_true rfl) (Nat.le_of_ble_eq_true rfl) dX9_man_58 (Nat.le_refl _) (Nat.le_refl _) ?_
      clear hW hS hc5
      intro H locs hW hS
      refine lv_if_eq (pc := 61) (tgt := 104) hx hb dX9_man_61 (by decide) (fun c1 => ?_) (fun c1 => ?_)
      · have hf := um_it c1 hf
        clear c1
        refine lv_ldc (pc := 104) hx hb hown (hts _ qC_X9_87) dX9_man_104 ?_
        exact um_iret (pc := 106) Cx hW hS hf dX9_man_106
      · have hf := um_ie c1 hf
        clear c1
        refine lv_iload_n (pc := 64) hx hb dX9_man_64 rfl (lv_at hl 4 rfl) ?_
        refine lv_i2l (pc := 65) hx hb dX9_man_65 rfl ?_
        refine lv_lconst (pc := 66) (v := (0 : Int64)) hx hb dX9_man_66 (by decide) ?_
        refine lv_ldc2 (pc := 67) hx hb hown (hts _ qL_X9_64) dX9_man_67 ?_
        obtain ⟨x8, hc7, hf⟩ := um_bi hf
        refine um_cSi (pc := 70) (As := [.long (a3.toInt64), .long (0 : Int64), .long (5 : Int64)]) (rest := []) Cx (c_X9_isIn (a3.toInt64) (0 : Int64) (5 : Int64) hc7) kS_X9_isIn (Or.inl qM_X9_60) hW hS rfl hl rfl (Nat.le_of_ble_eq_true rfl) (Nat.le_of_ble_eq_true rfl) (Nat.le_of_ble_eq_true rfl) dX9_man_70 (Nat.le_refl _) (Nat.le_refl _) ?_
        clear hW hS hc7
        intro H locs hW hS
        refine lv_if_eq (pc := 73) (tgt := 104) hx hb dX9_man_73 (by decide) (fun c1 => ?_) (fun c1 => ?_)
        · have hf := um_it c1 hf
          clear c1
          refine lv_ldc (pc := 104) hx hb hown (hts _ qC_X9_87) dX9_man_104 ?_
          exact um_iret (pc := 106) Cx hW hS hf dX9_man_106
        · have hf := um_ie c1 hf
          clear c1
          refine lv_iload (pc := 76) hx hb dX9_man_76 (lv_at hl 5 rfl) ?_
          refine lv_i2l (pc := 78) hx hb dX9_man_78 rfl ?_
          refine lv_ldc2 (pc := 79) hx hb hown (hts _ qL_X9_91) dX9_man_79 ?_
          refine lv_ldc2 (pc := 82) hx hb hown (hts _ qL_X9_93) dX9_man_82 ?_
          obtain ⟨x10, hc9, hf⟩ := um_bi hf
          refine um_cSi (pc := 85) (As := [.long (a4.toInt64), .long (10 : Int64), .long (70 : Int64)]) (rest := []) Cx (c_X9_isIn (a4.toInt64) (10 : Int64) (70 : Int64) hc9) kS_X9_isIn (Or.inl qM_X9_60) hW hS rfl hl rfl (Nat.le_of_ble_eq_true rfl) (Nat.le_of_ble_eq_true rfl) (Nat.le_of_ble_eq_true rfl) dX9_man_85 (Nat.le_refl _) (Nat.le_refl _) ?_
          clear hW hS hc9
          intro H locs hW hS
          refine lv_if_eq (pc := 88) (tgt := 104) hx hb dX9_man_88 (by decide) (fun c1 => ?_) (fun c1 => ?_)
          · have hf := um_it c1 hf
            clear c1
            refine lv_ldc (pc := 104) hx hb hown (hts _ qC_X9_87) dX9_man_104 ?_
            exact um_iret (pc := 106) Cx hW hS hf dX9_man_106
          · have hf := um_ie c1 hf
            clear c1
            refine lv_iload (pc := 91) hx hb dX9_man_91 (lv_at hl 6 rfl) ?_
            refine lv_i2l (pc := 93) hx hb dX9_man_93 rfl ?_
            refine lv_lconst (pc := 94) (v := (0 : Int64)) hx hb dX9_man_94 (by decide) ?_
            refine lv_ldc2 (pc := 95) hx hb hown (hts _ qL_X9_95) dX9_man_95 ?_
            obtain ⟨x12, hc11, hf⟩ := um_bi hf
            refine um_cSi (pc := 98) (As := [.long (a5.toInt64), .long (0 : Int64), .long (255 : Int64)]) (rest := []) Cx (c_X9_isIn (a5.toInt64) (0 : Int64) (255 : Int64) hc11) kS_X9_isIn (Or.inl qM_X9_60) hW hS rfl hl rfl (Nat.le_of_ble_eq_true rfl) (Nat.le_of_ble_eq_true rfl) (Nat.le_of_ble_eq_true rfl) dX9_man_98 (Nat.le_refl _) (Nat.le_refl _) ?_
            clear hW hS hc11
            intro H locs hW hS
            refine lv_if_ne (pc := 101) (tgt := 107) hx hb dX9_man_101 (by decide) (fun c1 => ?_) (fun c1 => ?_)
            · have hf := um_ie c1 hf
              clear c1
              refine lv_aload_n (pc := 107) hx hb dX9_man_107 rfl (lv_at hl 1 rfl) ?_
              refine gF_X9_7 (pc := 108) Cx hW ms_0 rfl dX9_man_108 ?_
              refine lv_iconst (pc := 111) (v := (2 : Int32)) hx hb dX9_man_111 (by decide) ?_
              refine um_iaj (pc := 112) (n := 3790) 2 rfl Cx hW ms_1 rfl (um_ix_in (by decide)) dX9_man_112 ?_
              refine lv_bipush (pc := 113) (v := (14 : Int32)) hx hb dX9_man_113 (by decide) ?_
              refine lv_icmp_ne (pc := 115) (tgt := 121) hx hb dX9_man_115 (by decide) (fun c1 => ?_) (fun c1 => ?_)
              · have hf := um_ie c1 hf
                clear c1
                refine lv_aload_n (pc := 121) hx hb dX9_man_121 rfl (lv_at hl 1 rfl) ?_
                refine lv_aload_n (pc := 122) hx hb dX9_man_122 rfl (lv_at hl 1 rfl) ?_
                refine gF_X9_7 (pc := 123) Cx hW ms_0 rfl dX9_man_123 ?_
                refine lv_iconst (pc := 126) (v := (2 : Int32)) hx hb dX9_man_126 (by decide) ?_
                refine um_iaj (pc := 127) (n := 3790) 2 rfl Cx hW ms_1 rfl (um_ix_in (by decide)) dX9_man_127 ?_
                obtain ⟨x14, hc13, hf⟩ := um_bi hf
                refine um_cVi (pc := 128) (As := [.int (σ.1 1 2)]) (rest := []) Cx (c_X9_manAt (σ.1 1 2) hc13) kV_X9_manAt (Or.inl qM_X9_66) hW hS ms_0 rfl rfl hl rfl (Nat.le_of_ble_eq_true rfl) (Nat.le_of_ble_eq_true rfl) (Nat.le_of_ble_eq_true rfl) dX9_man_128 (Nat.le_refl _) (Nat.le_refl _) ?_
                clear hW hS hc13
                intro H locs hW hS
                refine lv_istore (pc := 131) (lv' := [(7, .int x14), (6, .int x4), (0, .ref (α 0)), (1, .int a1), (2, .int a2), (3, .int a3), (4, .int a4), (5, .int a5)]) hx hb dX9_man_131 hl (by decide) rfl ?_
                clear hl
                intro ls hl
                refine lv_aload_n (pc := 133) hx hb dX9_man_133 rfl (lv_at hl 2 rfl) ?_
                refine gF_X9_7 (pc := 134) Cx hW ms_0 rfl dX9_man_134 ?_
                refine lv_iload (pc := 137) hx hb dX9_man_137 (lv_at hl 0 rfl) ?_
                refine lv_iconst (pc := 139) (v := (0 : Int32)) hx hb dX9_man_139 (by decide) ?_
                refine lv_iadd (pc := 140) hx hb dX9_man_140 ?_
                refine lv_iload_n (pc := 141) hx hb dX9_man_141 rfl (lv_at hl 4 rfl) ?_
                obtain ⟨g15, hf⟩ := um_gu hf
                refine um_iast (pc := 142) Cx hW hS ms_1 rfl (um_ix_in g15) dX9_man_142 ?_
                clear hW hS
                intro H locs hW hS
                obtain ⟨σ16, e17, hf⟩ := um_le hf
                rw [← e17] at hW
                clear e17
                refine lv_aload_n (pc := 143) hx hb dX9_man_143 rfl (lv_at hl 2 rfl) ?_
                refine gF_X9_7 (pc := 144) Cx hW ms_0 rfl dX9_man_144 ?_
                refine lv_iload (pc := 147) hx hb dX9_man_147 (lv_at hl 0 rfl) ?_
                refine lv_iconst (pc := 149) (v := (1 : Int32)) hx hb dX9_man_149 (by decide) ?_
                refine lv_iadd (pc := 150) hx hb dX9_man_150 ?_
                refine lv_iload_n (pc := 151) hx hb dX9_man_151 rfl (lv_at hl 5 rfl) ?_
                obtain ⟨g18, hf⟩ := um_gu hf
                refine um_iast (pc := 152) Cx hW hS ms_1 rfl (um_ix_in g18) dX9_man_152 ?_
                clear hW hS
                intro H locs hW hS
                obtain ⟨σ19, e20, hf⟩ := um_le hf
                rw [← e20] at hW
                clear e20
                refine lv_aload_n (pc := 153) hx hb dX9_man_153 rfl (lv_at hl 2 rfl) ?_
                refine gF_X9_7 (pc := 154) Cx hW ms_0 rfl dX9_man_154 ?_
                refine lv_iload (pc := 157) hx hb dX9_man_157 (lv_at hl 0 rfl) ?_
                refine lv_iconst (pc := 159) (v := (2 : Int32)) hx hb dX9_man_159 (by decide) ?_
                refine lv_iadd (pc := 160) hx hb dX9_man_160 ?_
                refine lv_iload (pc := 161) hx hb dX9_man_161 (lv_at hl 6 rfl) ?_
                obtain ⟨g21, hf⟩ := um_gu hf
                refine um_iast (pc := 163) Cx hW hS ms_1 rfl (um_ix_in g21) dX9_man_163 ?_
                clear hW hS
                intro H locs hW hS
                obtain ⟨σ22, e23, hf⟩ := um_le hf
                rw [← e23] at hW
                clear e23
                refine lv_aload_n (pc := 164) hx hb dX9_man_164 rfl (lv_at hl 2 rfl) ?_
                refine gF_X9_7 (pc := 165) Cx hW ms_0 rfl dX9_man_165 ?_
                refine lv_iload (pc := 168) hx hb dX9_man_168 (lv_at hl 0 rfl) ?_
                refine lv_iconst (pc := 170) (v := (3 : Int32)) hx hb dX9_man_170 (by decide) ?_
                refine lv_iadd (pc := 171) hx hb dX9_man_171 ?_
                refine lv_iload (pc := 172) hx hb dX9_man_172 (lv_at hl 7 rfl) ?_
                obtain ⟨g24, hf⟩ := um_gu hf
                refine um_iast (pc := 174) Cx hW hS ms_1 rfl (um_ix_in g24) dX9_man_174 ?_
                clear hW hS
                intro H locs hW hS
                obtain ⟨σ25, e26, hf⟩ := um_le hf
                rw [← e26] at hW
                clear e26
                refine lv_aload_n (pc := 175) hx hb dX9_man_175 rfl (lv_at hl 2 rfl) ?_
                refine gF_X9_7 (pc := 176) Cx hW ms_0 rfl dX9_man_176 ?_
                refine lv_iload (pc := 179) hx hb dX9_man_179 (lv_at hl 0 rfl) ?_
                refine lv_iconst (pc := 181) (v := (4 : Int32)) hx hb dX9_man_181 (by decide) ?_
                refine lv_iadd (pc := 182) hx hb dX9_man_182 ?_
                refine lv_iconst (pc := 183) (v := (-1 : Int32)) hx hb dX9_man_183 (by decide) ?_
                obtain ⟨g27, hf⟩ := um_gu hf
                refine um_iast (pc := 184) Cx hW hS ms_1 rfl (um_ix_in g27) dX9_man_184 ?_
                clear hW hS
                intro H locs hW hS
                obtain ⟨σ28, e29, hf⟩ := um_le hf
                rw [← e29] at hW
                clear e29
                refine lv_aload_n (pc := 185) hx hb dX9_man_185 rfl (lv_at hl 2 rfl) ?_
                refine gF_X9_7 (pc := 186) Cx hW ms_0 rfl dX9_man_186 ?_
                refine lv_iload (pc := 189) hx hb dX9_man_189 (lv_at hl 0 rfl) ?_
                refine lv_bipush (pc := 191) (v := (9 : Int32)) hx hb dX9_man_191 (by decide) ?_
                refine lv_iadd (pc := 193) hx hb dX9_man_193 ?_
                refine lv_iconst (pc := 194) (v := (0 : Int32)) hx hb dX9_man_194 (by decide) ?_
                obtain ⟨g30, hf⟩ := um_gu hf
                refine um_iast (pc := 195) Cx hW hS ms_1 rfl (um_ix_in g30) dX9_man_195 ?_
                clear hW hS
                intro H locs hW hS
                obtain ⟨σ31, e32, hf⟩ := um_le hf
                rw [← e32] at hW
                clear e32
                refine lv_aload_n (pc := 196) hx hb dX9_man_196 rfl (lv_at hl 2 rfl) ?_
                refine gF_X9_7 (pc := 197) Cx hW ms_0 rfl dX9_man_197 ?_
                refine lv_iload (pc := 200) hx hb dX9_man_200 (lv_at hl 0 rfl) ?_
                refine lv_bipush (pc := 202) (v := (10 : Int32)) hx hb dX9_man_202 (by decide) ?_
                refine lv_iadd (pc := 204) hx hb dX9_man_204 ?_
                refine lv_iconst (pc := 205) (v := (-1 : Int32)) hx hb dX9_man_205 (by decide) ?_
                obtain ⟨g33, hf⟩ := um_gu hf
                refine um_iast (pc := 206) Cx hW hS ms_1 rfl (um_ix_in g33) dX9_man_206 ?_
                clear hW hS
                intro H locs hW hS
                obtain ⟨σ34, e35, hf⟩ := um_le hf
                rw [← e35] at hW
                clear e35
                refine lv_aload_n (pc := 207) hx hb dX9_man_207 rfl (lv_at hl 2 rfl) ?_
                refine gF_X9_7 (pc := 208) Cx hW ms_0 rfl dX9_man_208 ?_
                refine lv_iload (pc := 211) hx hb dX9_man_211 (lv_at hl 0 rfl) ?_
                refine lv_bipush (pc := 213) (v := (11 : Int32)) hx hb dX9_man_213 (by decide) ?_
                refine lv_iadd (pc := 215) hx hb dX9_man_215 ?_
                refine lv_iconst (pc := 216) (v := (0 : Int32)) hx hb dX9_man_216 (by decide) ?_
                obtain ⟨g36, hf⟩ := um_gu hf
                refine um_iast (pc := 217) Cx hW hS ms_1 rfl (um_ix_in g36) dX9_man_217 ?_
                clear hW hS
                intro H locs hW hS
                obtain ⟨σ37, e38, hf⟩ := um_le hf
                rw [← e38] at hW
                clear e38
                refine lv_aload_n (pc := 218) hx hb dX9_man_218 rfl (lv_at hl 2 rfl) ?_
                refine gF_X9_7 (pc := 219) Cx hW ms_0 rfl dX9_man_219 ?_
                refine lv_iload (pc := 222) hx hb dX9_man_222 (lv_at hl 0 rfl) ?_
                refine lv_bipush (pc := 224) (v := (12 : Int32)) hx hb dX9_man_224 (by decide) ?_
                refine lv_iadd (pc := 226) hx hb dX9_man_226 ?_
                refine lv_sipush (pc := 227) (v := (364 : Int32)) hx hb dX9_man_227 (by decide) ?_
                obtain ⟨g39, hf⟩ := um_gu hf
                refine um_iast (pc := 230) Cx hW hS ms_1 rfl (um_ix_in g39) dX9_man_230 ?_
                clear hW hS
                intro H locs hW hS
                obtain ⟨σ40, e41, hf⟩ := um_le hf
                rw [← e41] at hW
                clear e41
                refine lv_aload_n (pc := 231) hx hb dX9_man_231 rfl (lv_at hl 2 rfl) ?_
                refine gF_X9_7 (pc := 232) Cx hW ms_0 rfl dX9_man_232 ?_
                refine lv_iload (pc := 235) hx hb dX9_man_235 (lv_at hl 0 rfl) ?_
                refine lv_bipush (pc := 237) (v := (13 : Int32)) hx hb dX9_man_237 (by decide) ?_
                refine lv_iadd (pc := 239) hx hb dX9_man_239 ?_
                refine lv_iload_n (pc := 240) hx hb dX9_man_240 rfl (lv_at hl 3 rfl) ?_
                obtain ⟨g42, hf⟩ := um_gu hf
                refine um_iast (pc := 241) Cx hW hS ms_1 rfl (um_ix_in g42) dX9_man_241 ?_
                clear hW hS
                intro H locs hW hS
                obtain ⟨σ43, e44, hf⟩ := um_le hf
                rw [← e44] at hW
                clear e44
                refine lv_aload_n (pc := 242) hx hb dX9_man_242 rfl (lv_at hl 2 rfl) ?_
                refine lv_aload_n (pc := 243) hx hb dX9_man_243 rfl (lv_at hl 2 rfl) ?_
                refine gF_X9_7 (pc := 244) Cx hW ms_0 rfl dX9_man_244 ?_
                refine lv_iconst (pc := 247) (v := (2 : Int32)) hx hb dX9_man_247 (by decide) ?_
                refine um_iaj (pc := 248) (n := 3790) 2 rfl Cx hW ms_1 rfl (um_ix_in (by decide)) dX9_man_248 ?_
                refine lv_iconst (pc := 249) (v := (1 : Int32)) hx hb dX9_man_249 (by decide) ?_
                refine lv_iconst (pc := 250) (v := (0 : Int32)) hx hb dX9_man_250 (by decide) ?_
                obtain ⟨σ46, hc45, hf⟩ := um_bi hf
                refine um_cVv (pc := 251) (As := [.int (σ43.1 1 2), .int (1 : Int32), .int (0 : Int32)]) (rest := []) Cx (c_X9_becomesOf (σ43.1 1 2) (1 : Int32) (0 : Int32) hc45) kV_X9_becomesOf (Or.inl qM_X9_97) hW hS ms_0 rfl rfl hl rfl (Nat.le_of_ble_eq_true rfl) (Nat.le_of_ble_eq_true rfl) (Nat.le_of_ble_eq_true rfl) dX9_man_251 (Nat.le_refl _) (Nat.le_refl _) ?_
                clear hW hS hc45
                intro H locs hW hS
                refine lv_aload_n (pc := 254) hx hb dX9_man_254 rfl (lv_at hl 2 rfl) ?_
                refine gF_X9_7 (pc := 255) Cx hW ms_0 rfl dX9_man_255 ?_
                refine lv_iconst (pc := 258) (v := (2 : Int32)) hx hb dX9_man_258 (by decide) ?_
                refine lv_dup2_11 (pc := 259) hx hb dX9_man_259 rfl rfl ?_
                refine um_iaj (pc := 260) (n := 3790) 2 rfl Cx hW ms_1 rfl (um_ix_in (by decide)) dX9_man_260 ?_
                refine lv_iconst (pc := 261) (v := (1 : Int32)) hx hb dX9_man_261 (by decide) ?_
                refine lv_iadd (pc := 262) hx hb dX9_man_262 ?_
                refine um_isj (pc := 263) (n := 3790) 2 rfl Cx hW hS ms_1 rfl (um_ix_in (by decide)) dX9_man_263 ?_
                clear hW hS
                intro H locs hW hS
                obtain ⟨σ47, e48, hf⟩ := um_le hf
                rw [← e48] at hW
                clear e48
                refine lv_aload_n (pc := 264) hx hb dX9_man_264 rfl (lv_at hl 2 rfl) ?_
                refine gF_X9_7 (pc := 265) Cx hW ms_0 rfl dX9_man_265 ?_
                refine lv_iconst (pc := 268) (v := (2 : Int32)) hx hb dX9_man_268 (by decide) ?_
                refine um_iaj (pc := 269) (n := 3790) 2 rfl Cx hW ms_1 rfl (um_ix_in (by decide)) dX9_man_269 ?_
                refine lv_iconst (pc := 270) (v := (1 : Int32)) hx hb dX9_man_270 (by decide) ?_
                refine lv_isub (pc := 271) hx hb dX9_man_271 ?_
                exact um_iret (pc := 272) Cx hW hS hf dX9_man_272
              · have hf := um_it c1 hf
                clear c1
                refine lv_ldc (pc := 118) hx hb hown (hts _ qC_X9_88) dX9_man_118 ?_
                exact um_iret (pc := 120) Cx hW hS hf dX9_man_120
            · have hf := um_it c1 hf
              clear c1
              refine lv_ldc (pc := 104) hx hb hown (hts _ qC_X9_87) dX9_man_104 ?_
              exact um_iret (pc := 106) Cx hW hS hf dX9_man_106
  obtain ⟨k49, hk49, hf⟩ := um_j1 hf
  have J49 : ∀ (_u : Unit), k49 _u = some (r, σ') → ∀ (H : Heap) (locs : List Loc) (ls : Array Slot), um_W Z msh α σ H → va_S (um_D msh α) s.heap H locs → lv_has ls 8 [(0, .ref (α 0)), (1, .int a1), (2, .int a2), (3, .int a3), (4, .int a4), (5, .int a5)] → um_G p l e (2) (45) s m args below meth c Z msh α σ' (some (.int r)) H locs (F0 m 44 ls []) := by
    intro _u hf H locs ls hW hS hl
    rw [hk49] at hf
    refine lv_iconst (pc := 44) (v := (0 : Int32)) hx hb dX9_man_44 (by decide) ?_
    exact J3 (0 : Int32) hf _ _ _ hW hS hl
  refine lv_if_eq (pc := 15) (tgt := 44) hx hb dX9_man_15 (by decide) (fun c1 => ?_) (fun c1 => ?_)
  · have hf := um_it c1 hf
    clear c1
    exact J49 () hf _ _ _ hW hS hl
  · have hf := um_ie c1 hf
    clear c1
    refine lv_aload_n (pc := 18) hx hb dX9_man_18 rfl (lv_at hl 0 rfl) ?_
    refine gF_X9_7 (pc := 19) Cx hW ms_0 rfl dX9_man_19 ?_
    refine lv_bipush (pc := 22) (v := (30 : Int32)) hx hb dX9_man_22 (by decide) ?_
    refine lv_iconst (pc := 24) (v := (2 : Int32)) hx hb dX9_man_24 (by decide) ?_
    refine lv_iload_n (pc := 25) hx hb dX9_man_25 rfl (lv_at hl 1 rfl) ?_
    refine lv_imul (pc := 26) hx hb dX9_man_26 ?_
    refine lv_iadd (pc := 27) hx hb dX9_man_27 ?_
    refine lv_iconst (pc := 28) (v := (1 : Int32)) hx hb dX9_man_28 (by decide) ?_
    refine lv_iadd (pc := 29) hx hb dX9_man_29 ?_
    obtain ⟨g50, hf⟩ := um_gu hf
    refine um_iald (pc := 30) Cx hW ms_1 rfl (um_ix_in g50) dX9_man_30 ?_
    refine lv_aload_n (pc := 31) hx hb dX9_man_31 rfl (lv_at hl 0 rfl) ?_
    refine gF_X9_7 (pc := 32) Cx hW ms_0 rfl dX9_man_32 ?_
    refine lv_iconst (pc := 35) (v := (0 : Int32)) hx hb dX9_man_35 (by decide) ?_
    refine um_iaj (pc := 36) (n := 3790) 0 rfl Cx hW ms_1 rfl (um_ix_in (by decide)) dX9_man_36 ?_
    refine lv_icmp_lt (pc := 37) (tgt := 44) hx hb dX9_man_37 (by decide) (fun c1 => ?_) (fun c1 => ?_)
    · have hf := um_it c1 hf
      clear c1
      exact J49 () hf _ _ _ hW hS hl
    · have hf := um_ie c1 hf
      clear c1
      refine lv_iconst (pc := 40) (v := (1 : Int32)) hx hb dX9_man_40 (by decide) ?_
      refine lv_goto (pc := 41) (tgt := 45) hx hb dX9_man_41 (by decide) ?_
      exact J3 (1 : Int32) hf _ _ _ hW hS hl
theorem c_X9_man {σ : um_S} {σ' : um_S} {r : Int32} (a1 : Int32) (a2 : Int32) (a3 : Int32) (a4 : Int32) (a5 : Int32)  (hf : f_X9_man a1 a2 a3 a4 a5 σ = some (r, σ')) : um_M l yX9_man cX9_man 8 (some FieldType.int) (2) (45) Z msh α σ [.ref (α 0), .int a1, .int a2, .int a3, .int a4, .int a5] (some (.int r)) σ' :=
  um_start (by decide) (Nat.le_of_ble_eq_true rfl) (fun p e s m below meth c ls Cx hW hS hl => b_X9_man a1 a2 a3 a4 a5 hf Cx hW hS hl)
noncomputable def f_X9_mark (a1 : Int32) (a2 : Int32) (σ : um_S) : Option (Int32 × um_S) :=
    (f_X9_isMan a1 σ).bind fun x2 =>
    (if (um_b x2) = 0 then
    (some ((-1000000001 : Int32), σ))
    else
    ((f_X9_isIn (a2.toInt64) (0 : Int64) (3 : Int64) σ).bind fun x4 =>
    (if (um_b x4) = 0 then
    (some ((-1000000001 : Int32), σ))
    else
    ((f_X9_isOut a1 σ).bind fun x6 =>
    (if (um_b x6) = 0 then
    (if (σ.1 1 4) = (40 : Int32) then
    (some ((-1000000003 : Int32), σ))
    else
    ((f_X9_marks a1 a2 σ).bind fun σ8 =>
    (some ((σ8.1 1 4) - (1 : Int32), σ8))))
    else
    (some ((-1000000002 : Int32), σ)))))))
set_option maxRecDepth 100000 in
set_option maxHeartbeats 4000000 in
theorem b_X9_mark {H : Heap} {locs : List Loc} {ls : Array Slot} {σ : um_S} {σ' : um_S} {r : Int32} (a1 : Int32) (a2 : Int32)  (hf : f_X9_mark a1 a2 σ = some (r, σ')) (Cx : um_C p s m meth c args cX9_mark 3 (some FieldType.int) RX9 Z) (hW : um_W Z msh α σ H) (hS : va_S (um_D msh α) s.heap H locs) (hl : lv_has ls 3 [(0, .ref (α 0)), (1, .int a1), (2, .int a2)]) : um_G p l e (3) (63) s m args below meth c Z msh α σ' (some (.int r)) H locs (F0 m 0 ls []) := by
  have hx := Cx.1
  have hb := Cx.2.1
  have hown := Cx.2.2.2.2.1
  have hts := Cx.2.2.2.2.2.1
  rw [f_X9_mark] at hf
  refine lv_aload_n (pc := 0) hx hb dX9_mark_0 rfl (lv_at hl 0 rfl) ?_
  refine lv_iload_n (pc := 1) hx hb dX9_mark_1 rfl (lv_at hl 1 rfl) ?_
  obtain ⟨x2, hc1, hf⟩ := um_bi hf
  refine um_cVi (pc := 2) (As := [.int a1]) (rest := []) Cx (c_X9_isMan a1 hc1) kV_X9_isMan (Or.inl qM_X9_101) hW hS ms_0 rfl rfl hl rfl (Nat.le_of_ble_eq_true rfl) (Nat.le_of_ble_eq_true rfl) (Nat.le_of_ble_eq_true rfl) dX9_mark_2 (Nat.le_refl _) (Nat.le_refl _) ?_
  clear hW hS hc1
  intro H locs hW hS
  refine lv_if_eq (pc := 5) (tgt := 20) hx hb dX9_mark_5 (by decide) (fun c1 => ?_) (fun c1 => ?_)
  · have hf := um_it c1 hf
    clear c1
    refine lv_ldc (pc := 20) hx hb hown (hts _ qC_X9_87) dX9_mark_20 ?_
    exact um_iret (pc := 22) Cx hW hS hf dX9_mark_22
  · have hf := um_ie c1 hf
    clear c1
    refine lv_iload_n (pc := 8) hx hb dX9_mark_8 rfl (lv_at hl 2 rfl) ?_
    refine lv_i2l (pc := 9) hx hb dX9_mark_9 rfl ?_
    refine lv_lconst (pc := 10) (v := (0 : Int64)) hx hb dX9_mark_10 (by decide) ?_
    refine lv_ldc2 (pc := 11) hx hb hown (hts _ qL_X9_260) dX9_mark_11 ?_
    obtain ⟨x4, hc3, hf⟩ := um_bi hf
    refine um_cSi (pc := 14) (As := [.long (a2.toInt64), .long (0 : Int64), .long (3 : Int64)]) (rest := []) Cx (c_X9_isIn (a2.toInt64) (0 : Int64) (3 : Int64) hc3) kS_X9_isIn (Or.inl qM_X9_60) hW hS rfl hl rfl (Nat.le_of_ble_eq_true rfl) (Nat.le_of_ble_eq_true rfl) (Nat.le_of_ble_eq_true rfl) dX9_mark_14 (Nat.le_refl _) (Nat.le_refl _) ?_
    clear hW hS hc3
    intro H locs hW hS
    refine lv_if_ne (pc := 17) (tgt := 23) hx hb dX9_mark_17 (by decide) (fun c1 => ?_) (fun c1 => ?_)
    · have hf := um_ie c1 hf
      clear c1
      refine lv_aload_n (pc := 23) hx hb dX9_mark_23 rfl (lv_at hl 0 rfl) ?_
      refine lv_iload_n (pc := 24) hx hb dX9_mark_24 rfl (lv_at hl 1 rfl) ?_
      obtain ⟨x6, hc5, hf⟩ := um_bi hf
      refine um_cVi (pc := 25) (As := [.int a1]) (rest := []) Cx (c_X9_isOut a1 hc5) kV_X9_isOut (Or.inl qM_X9_262) hW hS ms_0 rfl rfl hl rfl (Nat.le_of_ble_eq_true rfl) (Nat.le_of_ble_eq_true rfl) (Nat.le_of_ble_eq_true rfl) dX9_mark_25 (Nat.le_refl _) (Nat.le_refl _) ?_
      clear hW hS hc5
      intro H locs hW hS
      refine lv_if_eq (pc := 28) (tgt := 34) hx hb dX9_mark_28 (by decide) (fun c1 => ?_) (fun c1 => ?_)
      · have hf := um_it c1 hf
        clear c1
        refine lv_aload_n (pc := 34) hx hb dX9_mark_34 rfl (lv_at hl 0 rfl) ?_
        refine gF_X9_7 (pc := 35) Cx hW ms_0 rfl dX9_mark_35 ?_
        refine lv_iconst (pc := 38) (v := (4 : Int32)) hx hb dX9_mark_38 (by decide) ?_
        refine um_iaj (pc := 39) (n := 3790) 4 rfl Cx hW ms_1 rfl (um_ix_in (by decide)) dX9_mark_39 ?_
        refine lv_bipush (pc := 40) (v := (40 : Int32)) hx hb dX9_mark_40 (by decide) ?_
        refine lv_icmp_ne (pc := 42) (tgt := 48) hx hb dX9_mark_42 (by decide) (fun c1 => ?_) (fun c1 => ?_)
        · have hf := um_ie c1 hf
          clear c1
          refine lv_aload_n (pc := 48) hx hb dX9_mark_48 rfl (lv_at hl 0 rfl) ?_
          refine lv_iload_n (pc := 49) hx hb dX9_mark_49 rfl (lv_at hl 1 rfl) ?_
          refine lv_iload_n (pc := 50) hx hb dX9_mark_50 rfl (lv_at hl 2 rfl) ?_
          obtain ⟨σ8, hc7, hf⟩ := um_bi hf
          refine um_cVv (pc := 51) (As := [.int a1, .int a2]) (rest := []) Cx (c_X9_marks a1 a2 hc7) kV_X9_marks (Or.inl qM_X9_265) hW hS ms_0 rfl rfl hl rfl (Nat.le_of_ble_eq_true rfl) (Nat.le_of_ble_eq_true rfl) (Nat.le_of_ble_eq_true rfl) dX9_mark_51 (Nat.le_refl _) (Nat.le_refl _) ?_
          clear hW hS hc7
          intro H locs hW hS
          refine lv_aload_n (pc := 54) hx hb dX9_mark_54 rfl (lv_at hl 0 rfl) ?_
          refine gF_X9_7 (pc := 55) Cx hW ms_0 rfl dX9_mark_55 ?_
          refine lv_iconst (pc := 58) (v := (4 : Int32)) hx hb dX9_mark_58 (by decide) ?_
          refine um_iaj (pc := 59) (n := 3790) 4 rfl Cx hW ms_1 rfl (um_ix_in (by decide)) dX9_mark_59 ?_
          refine lv_iconst (pc := 60) (v := (1 : Int32)) hx hb dX9_mark_60 (by decide) ?_
          refine lv_isub (pc := 61) hx hb dX9_mark_61 ?_
          exact um_iret (pc := 62) Cx hW hS hf dX9_mark_62
        · have hf := um_it c1 hf
          clear c1
          refine lv_ldc (pc := 45) hx hb hown (hts _ qC_X9_88) dX9_mark_45 ?_
          exact um_iret (pc := 47) Cx hW hS hf dX9_mark_47
      · have hf := um_ie c1 hf
        clear c1
        refine lv_ldc (pc := 31) hx hb hown (hts _ qC_X9_106) dX9_mark_31 ?_
        exact um_iret (pc := 33) Cx hW hS hf dX9_mark_33
    · have hf := um_it c1 hf
      clear c1
      refine lv_ldc (pc := 20) hx hb hown (hts _ qC_X9_87) dX9_mark_20 ?_
      exact um_iret (pc := 22) Cx hW hS hf dX9_mark_22
theorem c_X9_mark {σ : um_S} {σ' : um_S} {r : Int32} (a1 : Int32) (a2 : Int32)  (hf : f_X9_mark a1 a2 σ = some (r, σ')) : um_M l yX9_mark cX9_mark 3 (some FieldType.int) (3) (63) Z msh α σ [.ref (α 0), .int a1, .int a2] (some (.int r)) σ' :=
  um_start (by decide) (Nat.le_of_ble_eq_true rfl) (fun p e s m below meth c ls Cx hW hS hl => b_X9_mark a1 a2 hf Cx hW hS hl)
noncomputable def f_X9_markTold (a1 : Int32) (a2 : Int32) (σ : um_S) : Option (Int32) :=
    (f_X9_isMark a1 σ).bind fun x2 =>
    (if (um_b x2) = 0 then
    (some (-1000000001 : Int32))
    else
    ((f_X9_isIn (a2.toInt64) (0 : Int64) (3 : Int64) σ).bind fun x4 =>
    (if (um_b x4) = 0 then
    (some (-1000000001 : Int32))
    else
    ((f_X9_markAt a1 σ).bind fun x6 =>
    (if um_ix (x6 + a2) 3790 then
    (some (σ.1 1 (x6 + a2).toNatClampNeg)) else none)))))
set_option maxRecDepth 100000 in
set_option maxHeartbeats 4000000 in
theorem b_X9_markTold {H : Heap} {locs : List Loc} {ls : Array Slot} {σ : um_S} {r : Int32} (a1 : Int32) (a2 : Int32)  (hf : f_X9_markTold a1 a2 σ = some r) (Cx : um_C p s m meth c args cX9_markTold 3 (some FieldType.int) RX9 Z) (hW : um_W Z msh α σ H) (hS : va_S (um_D msh α) s.heap H locs) (hl : lv_has ls 3 [(0, .ref (α 0)), (1, .int a1), (2, .int a2)]) : um_G p l e (2) (46) s m args below meth c Z msh α σ (some (.int r)) H locs (F0 m 0 ls []) := by
  have hx := Cx.1
  have hb := Cx.2.1
  have hown := Cx.2.2.2.2.1
  have hts := Cx.2.2.2.2.2.1
  rw [f_X9_markTold] at hf
  refine lv_aload_n (pc := 0) hx hb dX9_markTold_0 rfl (lv_at hl 0 rfl) ?_
  refine lv_iload_n (pc := 1) hx hb dX9_markTold_1 rfl (lv_at hl 1 rfl) ?_
  obtain ⟨x2, hc1, hf⟩ := um_bi hf
  refine um_cVi (pc := 2) (As := [.int a1]) (rest := []) Cx (c_X9_isMark a1 hc1) kV_X9_isMark (Or.inl qM_X9_268) hW hS ms_0 rfl rfl hl rfl (Nat.le_of_ble_eq_true rfl) (Nat.le_of_ble_eq_true rfl) (Nat.le_of_ble_eq_true rfl) dX9_markTold_2 (Nat.le_refl _) (Nat.le_refl _) ?_
  clear hW hS hc1
  intro H locs hW hS
  refine lv_if_eq (pc := 5) (tgt := 35) hx hb dX9_markTold_5 (by decide) (fun c1 => ?_) (fun c1 => ?_)
  · have hf := um_it c1 hf
    clear c1
    refine lv_ldc (pc := 35) hx hb hown (hts _ qC_X9_87) dX9_markTold_35 ?_
    exact um_iretR (pc := 37) Cx hW hS hf dX9_markTold_37
  · have hf := um_ie c1 hf
    clear c1
    refine lv_iload_n (pc := 8) hx hb dX9_markTold_8 rfl (lv_at hl 2 rfl) ?_
    refine lv_i2l (pc := 9) hx hb dX9_markTold_9 rfl ?_
    refine lv_lconst (pc := 10) (v := (0 : Int64)) hx hb dX9_markTold_10 (by decide) ?_
    refine lv_ldc2 (pc := 11) hx hb hown (hts _ qL_X9_260) dX9_markTold_11 ?_
    obtain ⟨x4, hc3, hf⟩ := um_bi hf
    refine um_cSi (pc := 14) (As := [.long (a2.toInt64), .long (0 : Int64), .long (3 : Int64)]) (rest := []) Cx (c_X9_isIn (a2.toInt64) (0 : Int64) (3 : Int64) hc3) kS_X9_isIn (Or.inl qM_X9_60) hW hS rfl hl rfl (Nat.le_of_ble_eq_true rfl) (Nat.le_of_ble_eq_true rfl) (Nat.le_of_ble_eq_true rfl) dX9_markTold_14 (Nat.le_refl _) (Nat.le_refl _) ?_
    clear hW hS hc3
    intro H locs hW hS
    refine lv_if_eq (pc := 17) (tgt := 35) hx hb dX9_markTold_17 (by decide) (fun c1 => ?_) (fun c1 => ?_)
    · have hf := um_it c1 hf
      clear c1
      refine lv_ldc (pc := 35) hx hb hown (hts _ qC_X9_87) dX9_markTold_35 ?_
      exact um_iretR (pc := 37) Cx hW hS hf dX9_markTold_37
    · have hf := um_ie c1 hf
      clear c1
      refine lv_aload_n (pc := 20) hx hb dX9_markTold_20 rfl (lv_at hl 0 rfl) ?_
      refine gF_X9_7 (pc := 21) Cx hW ms_0 rfl dX9_markTold_21 ?_
      refine lv_aload_n (pc := 24) hx hb dX9_markTold_24 rfl (lv_at hl 0 rfl) ?_
      refine lv_iload_n (pc := 25) hx hb dX9_markTold_25 rfl (lv_at hl 1 rfl) ?_
      obtain ⟨x6, hc5, hf⟩ := um_bi hf
      refine um_cVi (pc := 26) (As := [.int a1]) (rest := [.ref (α 1)]) Cx (c_X9_markAt a1 hc5) kV_X9_markAt (Or.inl qM_X9_111) hW hS ms_0 rfl rfl hl rfl (Nat.le_of_ble_eq_true rfl) (Nat.le_of_ble_eq_true rfl) (Nat.le_of_ble_eq_true rfl) dX9_markTold_26 (Nat.le_refl _) (Nat.le_refl _) ?_
      clear hW hS hc5
      intro H locs hW hS
      refine lv_iload_n (pc := 29) hx hb dX9_markTold_29 rfl (lv_at hl 2 rfl) ?_
      refine lv_iadd (pc := 30) hx hb dX9_markTold_30 ?_
      obtain ⟨g7, hf⟩ := um_gu hf
      refine um_iald (pc := 31) Cx hW ms_1 rfl (um_ix_in g7) dX9_markTold_31 ?_
      refine lv_goto (pc := 32) (tgt := 37) hx hb dX9_markTold_32 (by decide) ?_
      exact um_iretR (pc := 37) Cx hW hS hf dX9_markTold_37
theorem c_X9_markTold {σ : um_S} {r : Int32} (a1 : Int32) (a2 : Int32)  (hf : f_X9_markTold a1 a2 σ = some r) : um_M l yX9_markTold cX9_markTold 3 (some FieldType.int) (2) (46) Z msh α σ [.ref (α 0), .int a1, .int a2] (some (.int r)) σ :=
  um_start (by decide) (Nat.le_of_ble_eq_true rfl) (fun p e s m below meth c ls Cx hW hS hl => b_X9_markTold a1 a2 hf Cx hW hS hl)
