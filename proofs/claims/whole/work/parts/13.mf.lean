variable {p : Program} {l : Launch} {e : Env} {s : State} {m : MethodId} {args : Array Value} {below : List Frame} {meth : Method} {c : Code} {Z : um_Z} {α : Nat → Nat} {sh : Nat → Option um_Sh}
noncomputable def f_X9_isMuster (a0 : Int32) (σ : um_S) : Option (Bool) :=
    (f_X9_isIn (a0.toInt64) (0 : Int64) (3 : Int64) σ).bind fun x2 =>
    (some x2)
set_option maxRecDepth 100000 in
set_option maxHeartbeats 4000000 in
theorem b_X9_isMuster {H : Heap} {locs : List Loc} {ls : Array Slot} {σ : um_S} {r : Bool} (a0 : Int32)  (hf : f_X9_isMuster a0 σ = some r) (Cx : um_C p s m meth c args cX9_isMuster 1 (some FieldType.boolean) RX9 Z) (hW : um_W Z msh α σ H) (hS : va_S (um_D msh α) s.heap H locs) (hl : lv_has ls 1 [(0, .int a0)]) : um_G p l e (1) (25) s m args below meth c Z msh α σ (some (.int (um_b r))) H locs (F0 m 0 ls []) := by
  have hx := Cx.1
  have hb := Cx.2.1
  have hown := Cx.2.2.2.2.1
  have hts := Cx.2.2.2.2.2.1
  rw [f_X9_isMuster] at hf
  refine lv_iload_n (pc := 0) hx hb dX9_isMuster_0 rfl (lv_at hl 0 rfl) ?_
  refine lv_i2l (pc := 1) hx hb dX9_isMuster_1 rfl ?_
  refine lv_lconst (pc := 2) (v := (0 : Int64)) hx hb dX9_isMuster_2 (by decide) ?_
  refine lv_ldc2 (pc := 3) hx hb hown (hts _ qL_X9_260) dX9_isMuster_3 ?_
  obtain ⟨x2, hc1, hf⟩ := um_bi hf
  refine um_cSi (pc := 6) (As := [.long (a0.toInt64), .long (0 : Int64), .long (3 : Int64)]) (rest := []) Cx (c_X9_isIn (a0.toInt64) (0 : Int64) (3 : Int64) hc1) kS_X9_isIn (Or.inl qM_X9_60) hW hS rfl hl rfl (Nat.le_of_ble_eq_true rfl) (Nat.le_of_ble_eq_true rfl) (Nat.le_of_ble_eq_true rfl) dX9_isMuster_6 (Nat.le_refl _) (Nat.le_refl _) ?_
  clear hW hS hc1
  intro H locs hW hS
  exact um_zretR (pc := 9) Cx hW hS hf rfl dX9_isMuster_9
theorem c_X9_isMuster {σ : um_S} {r : Bool} (a0 : Int32)  (hf : f_X9_isMuster a0 σ = some r) : um_M l yX9_isMuster cX9_isMuster 1 (some FieldType.boolean) (1) (25) Z msh α σ [.int a0] (some (.int (um_b r))) σ :=
  um_start (by decide) (Nat.le_of_ble_eq_true rfl) (fun p e s m below meth c ls Cx hW hS hl => b_X9_isMuster a0 hf Cx hW hS hl)
noncomputable def f_X9_copy_l113 (v1 : Int32) (v2 : Int32) (v3 : Int32) (v4 : Int32) (v5 : Int32) : Nat → Int32 → um_S → Option (um_S)
  | 0, _, _ => none
  | n + 1, v6, σ =>
    if v5 ≤ v6 then
    (some σ)
    else
    (if um_ix ((((24 : Int32) * v1) + v2) + v6) 96 then
    (if um_ix v6 24 then
    (um_let (um_wr σ 14 v6.toNatClampNeg (σ.1 6 ((((24 : Int32) * v1) + v2) + v6).toNatClampNeg)) fun σ3 =>
    (f_X9_copy_l113 v1 v2 v3 v4 v5 n (v6 + (1 : Int32)) σ3)) else none) else none)
noncomputable def f_X9_copy_l150 (v3 : Int32) (v4 : Int32) (v5 : Int32) : Nat → Int32 → um_S → Option (um_S)
  | 0, _, _ => none
  | n + 1, v6, σ =>
    if v5 ≤ v6 then
    (some σ)
    else
    (if um_ix v6 24 then
    (if um_ix ((((24 : Int32) * v3) + v4) + v6) 96 then
    (um_let (um_wr σ 6 ((((24 : Int32) * v3) + v4) + v6).toNatClampNeg (σ.1 14 v6.toNatClampNeg)) fun σ3 =>
    (f_X9_copy_l150 v3 v4 v5 n (v6 + (1 : Int32)) σ3)) else none) else none)
noncomputable def f_X9_copy (a1 : Int32) (a2 : Int32) (a3 : Int32) (a4 : Int32) (a5 : Int32) (σ : um_S) : Option (Int32 × um_S) :=
    (f_X9_isMuster a1 σ).bind fun x2 =>
    (if (um_b x2) = 0 then
    (some ((-1000000001 : Int32), σ))
    else
    ((f_X9_isMuster a3 σ).bind fun x4 =>
    (if (um_b x4) = 0 then
    (some ((-1000000001 : Int32), σ))
    else
    (if um_ix a1 4 then
    (if (σ.1 4 a1.toNatClampNeg) < 0 then
    (some ((-1000000011 : Int32), σ))
    else
    (if um_ix a3 4 then
    (if 0 ≤ (σ.1 4 a3.toNatClampNeg) then
    (if um_ix a1 4 then
    (if um_ix a3 4 then
    (if (σ.1 4 a1.toNatClampNeg) = (σ.1 4 a3.toNatClampNeg) then
    (if a2 < 0 then
    (some ((-1000000013 : Int32), σ))
    else
    (if a4 < 0 then
    (some ((-1000000013 : Int32), σ))
    else
    (if a5 < 0 then
    (some ((-1000000013 : Int32), σ))
    else
    (if um_ix a1 4 then
    (if 0 < (lg_cmp ((a2.toInt64) + (a5.toInt64)) ((σ.1 5 a1.toNatClampNeg).toInt64)) then
    (some ((-1000000013 : Int32), σ))
    else
    (if um_ix a3 4 then
    (if (lg_cmp ((a4.toInt64) + (a5.toInt64)) ((σ.1 5 a3.toNatClampNeg).toInt64)) ≤ 0 then
    ((f_X9_copy_l113 a1 a2 a3 a4 a5 um_N (0 : Int32) σ).bind fun σ11 =>
    ((f_X9_copy_l150 a3 a4 a5 um_N (0 : Int32) σ11).bind fun σ13 =>
    (some (a5, σ13))))
    else
    (some ((-1000000013 : Int32), σ))) else none)) else none))))
    else
    (some ((-1000000012 : Int32), σ))) else none) else none)
    else
    (some ((-1000000011 : Int32), σ))) else none)) else none))))
set_option maxRecDepth 100000 in
set_option maxHeartbeats 4000000 in
theorem t_X9_copy_l113 {Q : State → Prop} {σo : um_S} (v1 : Int32) (v2 : Int32) (v3 : Int32) (v4 : Int32) (v5 : Int32)  (Cx : um_C p s m meth c args cX9_copy 7 (some FieldType.int) RX9 Z) (hE : ∀ (H : Heap) (locs : List Loc) (ls : Array Slot), um_W Z msh α σo H → va_S (um_D msh α) s.heap H locs → lv_has ls 7 [(0, .ref (α 0)), (3, .int v3), (4, .int v4), (5, .int v5)] → W p l e { frames := 2, cells := 0, slots := 0, locals := 45 } s m args below meth c H locs 0 0 Q (F0 m 147 ls [])) : ∀ (n : Nat) (v6 : Int32) (σ : um_S) (H : Heap) (locs : List Loc) (ls : Array Slot), f_X9_copy_l113 v1 v2 v3 v4 v5 n v6 σ = some σo → um_W Z msh α σ H → va_S (um_D msh α) s.heap H locs → lv_has ls 7 [(0, .ref (α 0)), (1, .int v1), (2, .int v2), (3, .int v3), (4, .int v4), (5, .int v5), (6, .int v6)] → W p l e { frames := 2, cells := 0, slots := 0, locals := 45 } s m args below meth c H locs 0 0 Q (F0 m 113 ls []) := by
  have hx := Cx.1
  have hb := Cx.2.1
  have hown := Cx.2.2.2.2.1
  have hts := Cx.2.2.2.2.2.1
  intro n
  induction n with
  | zero =>
    intro v6 σ H locs ls hf hW hS hl
    cases hf
  | succ n ih =>
    intro v6 σ H locs ls hf hW hS hl
    rw [f_X9_copy_l113] at hf
    refine lv_iload (pc := 113) hx hb dX9_copy_113 (lv_at hl 6 rfl) ?_
    refine lv_iload (pc := 115) hx hb dX9_copy_115 (lv_at hl 5 rfl) ?_
    refine lv_icmp_ge (pc := 117) (tgt := 147) hx hb dX9_copy_117 (by decide) (fun c1 => ?_) (fun c1 => ?_)
    · have hf := um_it c1 hf
      clear c1
      cases hf
      exact hE _ _ _ hW hS (lv_sub hl [0, 3, 4, 5] rfl)
    · have hf := um_ie c1 hf
      clear c1
      refine lv_aload_n (pc := 120) hx hb dX9_copy_120 rfl (lv_at hl 0 rfl) ?_
      refine gF_X9_50 (pc := 121) Cx hW ms_0 rfl dX9_copy_121 ?_
      refine lv_iload (pc := 124) hx hb dX9_copy_124 (lv_at hl 6 rfl) ?_
      refine lv_aload_n (pc := 126) hx hb dX9_copy_126 rfl (lv_at hl 0 rfl) ?_
      refine gF_X9_25 (pc := 127) Cx hW ms_0 rfl dX9_copy_127 ?_
      refine lv_bipush (pc := 130) (v := (24 : Int32)) hx hb dX9_copy_130 (by decide) ?_
      refine lv_iload_n (pc := 132) hx hb dX9_copy_132 rfl (lv_at hl 1 rfl) ?_
      refine lv_imul (pc := 133) hx hb dX9_copy_133 ?_
      refine lv_iload_n (pc := 134) hx hb dX9_copy_134 rfl (lv_at hl 2 rfl) ?_
      refine lv_iadd (pc := 135) hx hb dX9_copy_135 ?_
      refine lv_iload (pc := 136) hx hb dX9_copy_136 (lv_at hl 6 rfl) ?_
      refine lv_iadd (pc := 138) hx hb dX9_copy_138 ?_
      obtain ⟨g1, hf⟩ := um_gu hf
      refine um_iald (pc := 139) Cx hW ms_6 rfl (um_ix_in g1) dX9_copy_139 ?_
      obtain ⟨g2, hf⟩ := um_gu hf
      refine um_iast (pc := 140) Cx hW hS ms_14 rfl (um_ix_in g2) dX9_copy_140 ?_
      clear hW hS
      intro H locs hW hS
      obtain ⟨σ3, e4, hf⟩ := um_le hf
      rw [← e4] at hW
      clear e4
      refine lv_iinc (pc := 141) (v := v6 + (1 : Int32)) (lv' := [(6, .int (v6 + (1 : Int32))), (0, .ref (α 0)), (1, .int v1), (2, .int v2), (3, .int v3), (4, .int v4), (5, .int v5)]) hx hb dX9_copy_141 hl (k := 6) rfl rfl (by decide) rfl ?_
      clear hl
      intro ls hl
      refine lv_goto (pc := 144) (tgt := 113) hx hb dX9_copy_144 (by decide) ?_
      exact ih _ _ _ _ _ hf hW hS (lv_sub hl [1, 2, 3, 4, 5, 6, 0] rfl)
set_option maxRecDepth 100000 in
set_option maxHeartbeats 4000000 in
theorem t_X9_copy_l150 {Q : State → Prop} {σo : um_S} (v3 : Int32) (v4 : Int32) (v5 : Int32)  (Cx : um_C p s m meth c args cX9_copy 7 (some FieldType.int) RX9 Z) (hE : ∀ (H : Heap) (locs : List Loc) (ls : Array Slot), um_W Z msh α σo H → va_S (um_D msh α) s.heap H locs → lv_has ls 7 [(5, .int v5)] → W p l e { frames := 2, cells := 0, slots := 0, locals := 45 } s m args below meth c H locs 0 0 Q (F0 m 185 ls [])) : ∀ (n : Nat) (v6 : Int32) (σ : um_S) (H : Heap) (locs : List Loc) (ls : Array Slot), f_X9_copy_l150 v3 v4 v5 n v6 σ = some σo → um_W Z msh α σ H → va_S (um_D msh α) s.heap H locs → lv_has ls 7 [(0, .ref (α 0)), (3, .int v3), (4, .int v4), (5, .int v5), (6, .int v6)] → W p l e { frames := 2, cells := 0, slots := 0, locals := 45 } s m args below meth c H locs 0 0 Q (F0 m 150 ls []) := by
  have hx := Cx.1
  have hb := Cx.2.1
  have hown := Cx.2.2.2.2.1
  have hts := Cx.2.2.2.2.2.1
  intro n
  induction n with
  | zero =>
    intro v6 σ H locs ls hf hW hS hl
    cases hf
  | succ n ih =>
    intro v6 σ H locs ls hf hW hS hl
    rw [f_X9_copy_l150] at hf
    refine lv_iload (pc := 150) hx hb dX9_copy_150 (lv_at hl 4 rfl) ?_
    refine lv_iload (pc := 152) hx hb dX9_copy_152 (lv_at hl 3 rfl) ?_
    refine lv_icmp_ge (pc := 154) (tgt := 185) hx hb dX9_copy_154 (by decide) (fun c1 => ?_) (fun c1 => ?_)
    · have hf := um_it c1 hf
      clear c1
      cases hf
      exact hE _ _ _ hW hS (lv_sub hl [3] rfl)
    · have hf := um_ie c1 hf
      clear c1
      refine lv_aload_n (pc := 157) hx hb dX9_copy_157 rfl (lv_at hl 0 rfl) ?_
      refine gF_X9_25 (pc := 158) Cx hW ms_0 rfl dX9_copy_158 ?_
      refine lv_bipush (pc := 161) (v := (24 : Int32)) hx hb dX9_copy_161 (by decide) ?_
      refine lv_iload_n (pc := 163) hx hb dX9_copy_163 rfl (lv_at hl 1 rfl) ?_
      refine lv_imul (pc := 164) hx hb dX9_copy_164 ?_
      refine lv_iload (pc := 165) hx hb dX9_copy_165 (lv_at hl 2 rfl) ?_
      refine lv_iadd (pc := 167) hx hb dX9_copy_167 ?_
      refine lv_iload (pc := 168) hx hb dX9_copy_168 (lv_at hl 4 rfl) ?_
      refine lv_iadd (pc := 170) hx hb dX9_copy_170 ?_
      refine lv_aload_n (pc := 171) hx hb dX9_copy_171 rfl (lv_at hl 0 rfl) ?_
      refine gF_X9_50 (pc := 172) Cx hW ms_0 rfl dX9_copy_172 ?_
      refine lv_iload (pc := 175) hx hb dX9_copy_175 (lv_at hl 4 rfl) ?_
      obtain ⟨g1, hf⟩ := um_gu hf
      refine um_iald (pc := 177) Cx hW ms_14 rfl (um_ix_in g1) dX9_copy_177 ?_
      obtain ⟨g2, hf⟩ := um_gu hf
      refine um_iast (pc := 178) Cx hW hS ms_6 rfl (um_ix_in g2) dX9_copy_178 ?_
      clear hW hS
      intro H locs hW hS
      obtain ⟨σ3, e4, hf⟩ := um_le hf
      rw [← e4] at hW
      clear e4
      refine lv_iinc (pc := 179) (v := v6 + (1 : Int32)) (lv' := [(6, .int (v6 + (1 : Int32))), (0, .ref (α 0)), (3, .int v3), (4, .int v4), (5, .int v5)]) hx hb dX9_copy_179 hl (k := 4) rfl rfl (by decide) rfl ?_
      clear hl
      intro ls hl
      refine lv_goto (pc := 182) (tgt := 150) hx hb dX9_copy_182 (by decide) ?_
      exact ih _ _ _ _ _ hf hW hS (lv_sub hl [1, 2, 3, 4, 0] rfl)
set_option maxRecDepth 100000 in
set_option maxHeartbeats 4000000 in
theorem b_X9_copy {H : Heap} {locs : List Loc} {ls : Array Slot} {σ : um_S} {σ' : um_S} {r : Int32} (a1 : Int32) (a2 : Int32) (a3 : Int32) (a4 : Int32) (a5 : Int32)  (hf : f_X9_copy a1 a2 a3 a4 a5 σ = some (r, σ')) (Cx : um_C p s m meth c args cX9_copy 7 (some FieldType.int) RX9 Z) (hW : um_W Z msh α σ H) (hS : va_S (um_D msh α) s.heap H locs) (hl : lv_has ls 7 [(0, .ref (α 0)), (1, .int a1), (2, .int a2), (3, .int a3), (4, .int a4), (5, .int a5)]) : um_G p l e (2) (45) s m args below meth c Z msh α σ' (some (.int r)) H locs (F0 m 0 ls []) := by
  have hx := Cx.1
  have hb := Cx.2.1
  have hown := Cx.2.2.2.2.1
  have hts := Cx.2.2.2.2.2.1
  rw [f_X9_copy] at hf
  refine lv_iload_n (pc := 0) hx hb dX9_copy_0 rfl (lv_at hl 1 rfl) ?_
  obtain ⟨x2, hc1, hf⟩ := um_bi hf
  refine um_cSi (pc := 1) (As := [.int a1]) (rest := []) Cx (c_X9_isMuster a1 hc1) kS_X9_isMuster (Or.inl qM_X9_374) hW hS rfl hl rfl (Nat.le_of_ble_eq_true rfl) (Nat.le_of_ble_eq_true rfl) (Nat.le_of_ble_eq_true rfl) dX9_copy_1 (Nat.le_refl _) (Nat.le_refl _) ?_
  clear hW hS hc1
  intro H locs hW hS
  refine lv_if_eq (pc := 4) (tgt := 14) hx hb dX9_copy_4 (by decide) (fun c1 => ?_) (fun c1 => ?_)
  · have hf := um_it c1 hf
    clear c1
    refine lv_ldc (pc := 14) hx hb hown (hts _ qC_X9_87) dX9_copy_14 ?_
    exact um_iret (pc := 16) Cx hW hS hf dX9_copy_16
  · have hf := um_ie c1 hf
    clear c1
    refine lv_iload_n (pc := 7) hx hb dX9_copy_7 rfl (lv_at hl 3 rfl) ?_
    obtain ⟨x4, hc3, hf⟩ := um_bi hf
    refine um_cSi (pc := 8) (As := [.int a3]) (rest := []) Cx (c_X9_isMuster a3 hc3) kS_X9_isMuster (Or.inl qM_X9_374) hW hS rfl hl rfl (Nat.le_of_ble_eq_true rfl) (Nat.le_of_ble_eq_true rfl) (Nat.le_of_ble_eq_true rfl) dX9_copy_8 (Nat.le_refl _) (Nat.le_refl _) ?_
    clear hW hS hc3
    intro H locs hW hS
    refine lv_if_ne (pc := 11) (tgt := 17) hx hb dX9_copy_11 (by decide) (fun c1 => ?_) (fun c1 => ?_)
    · have hf := um_ie c1 hf
      clear c1
      refine lv_aload_n (pc := 17) hx hb dX9_copy_17 rfl (lv_at hl 0 rfl) ?_
      refine gF_X9_19 (pc := 18) Cx hW ms_0 rfl dX9_copy_18 ?_
      refine lv_iload_n (pc := 21) hx hb dX9_copy_21 rfl (lv_at hl 1 rfl) ?_
      obtain ⟨g5, hf⟩ := um_gu hf
      refine um_iald (pc := 22) Cx hW ms_4 rfl (um_ix_in g5) dX9_copy_22 ?_
      refine lv_if_lt (pc := 23) (tgt := 35) hx hb dX9_copy_23 (by decide) (fun c1 => ?_) (fun c1 => ?_)
      · have hf := um_it c1 hf
        clear c1
        refine lv_ldcw (pc := 35) hx hb hown (hts _ qC_X9_380) dX9_copy_35 ?_
        exact um_iret (pc := 38) Cx hW hS hf dX9_copy_38
      · have hf := um_ie c1 hf
        clear c1
        refine lv_aload_n (pc := 26) hx hb dX9_copy_26 rfl (lv_at hl 0 rfl) ?_
        refine gF_X9_19 (pc := 27) Cx hW ms_0 rfl dX9_copy_27 ?_
        refine lv_iload_n (pc := 30) hx hb dX9_copy_30 rfl (lv_at hl 3 rfl) ?_
        obtain ⟨g6, hf⟩ := um_gu hf
        refine um_iald (pc := 31) Cx hW ms_4 rfl (um_ix_in g6) dX9_copy_31 ?_
        refine lv_if_ge (pc := 32) (tgt := 39) hx hb dX9_copy_32 (by decide) (fun c1 => ?_) (fun c1 => ?_)
        · have hf := um_it c1 hf
          clear c1
          refine lv_aload_n (pc := 39) hx hb dX9_copy_39 rfl (lv_at hl 0 rfl) ?_
          refine gF_X9_19 (pc := 40) Cx hW ms_0 rfl dX9_copy_40 ?_
          refine lv_iload_n (pc := 43) hx hb dX9_copy_43 rfl (lv_at hl 1 rfl) ?_
          obtain ⟨g7, hf⟩ := um_gu hf
          refine um_iald (pc := 44) Cx hW ms_4 rfl (um_ix_in g7) dX9_copy_44 ?_
          refine lv_aload_n (pc := 45) hx hb dX9_copy_45 rfl (lv_at hl 0 rfl) ?_
          refine gF_X9_19 (pc := 46) Cx hW ms_0 rfl dX9_copy_46 ?_
          refine lv_iload_n (pc := 49) hx hb dX9_copy_49 rfl (lv_at hl 3 rfl) ?_
          obtain ⟨g8, hf⟩ := um_gu hf
          refine um_iald (pc := 50) Cx hW ms_4 rfl (um_ix_in g8) dX9_copy_50 ?_
          refine lv_icmp_eq (pc := 51) (tgt := 57) hx hb dX9_copy_51 (by decide) (fun c1 => ?_) (fun c1 => ?_)
          · have hf := um_it c1 hf
            clear c1
            refine lv_iload_n (pc := 57) hx hb dX9_copy_57 rfl (lv_at hl 2 rfl) ?_
            refine lv_if_lt (pc := 58) (tgt := 106) hx hb dX9_copy_58 (by decide) (fun c1 => ?_) (fun c1 => ?_)
            · have hf := um_it c1 hf
              clear c1
              refine lv_ldcw (pc := 106) hx hb hown (hts _ qC_X9_381) dX9_copy_106 ?_
              exact um_iret (pc := 109) Cx hW hS hf dX9_copy_109
            · have hf := um_ie c1 hf
              clear c1
              refine lv_iload (pc := 61) hx hb dX9_copy_61 (lv_at hl 4 rfl) ?_
              refine lv_if_lt (pc := 63) (tgt := 106) hx hb dX9_copy_63 (by decide) (fun c1 => ?_) (fun c1 => ?_)
              · have hf := um_it c1 hf
                clear c1
                refine lv_ldcw (pc := 106) hx hb hown (hts _ qC_X9_381) dX9_copy_106 ?_
                exact um_iret (pc := 109) Cx hW hS hf dX9_copy_109
              · have hf := um_ie c1 hf
                clear c1
                refine lv_iload (pc := 66) hx hb dX9_copy_66 (lv_at hl 5 rfl) ?_
                refine lv_if_lt (pc := 68) (tgt := 106) hx hb dX9_copy_68 (by decide) (fun c1 => ?_) (fun c1 => ?_)
                · have hf := um_it c1 hf
                  clear c1
                  refine lv_ldcw (pc := 106) hx hb hown (hts _ qC_X9_381) dX9_copy_106 ?_
                  exact um_iret (pc := 109) Cx hW hS hf dX9_copy_109
                · have hf := um_ie c1 hf
                  clear c1
                  refine lv_iload_n (pc := 71) hx hb dX9_copy_71 rfl (lv_at hl 2 rfl) ?_
                  refine lv_i2l (pc := 72) hx hb dX9_copy_72 rfl ?_
                  refine lv_iload (pc := 73) hx hb dX9_copy_73 (lv_at hl 5 rfl) ?_
                  refine lv_i2l (pc := 75) hx hb dX9_copy_75 rfl ?_
                  refine lv_ladd (pc := 76) hx hb dX9_copy_76 ?_
                  refine lv_aload_n (pc := 77) hx hb dX9_copy_77 rfl (lv_at hl 0 rfl) ?_
                  refine gF_X9_22 (pc := 78) Cx hW ms_0 rfl dX9_copy_78 ?_
                  refine lv_iload_n (pc := 81) hx hb dX9_copy_81 rfl (lv_at hl 1 rfl) ?_
                  obtain ⟨g9, hf⟩ := um_gu hf
                  refine um_iald (pc := 82) Cx hW ms_5 rfl (um_ix_in g9) dX9_copy_82 ?_
                  refine lv_i2l (pc := 83) hx hb dX9_copy_83 rfl ?_
                  refine W.lcmp (pc := 84) hx hb dX9_copy_84 ?_
                  refine lv_if_gt (pc := 85) (tgt := 106) hx hb dX9_copy_85 (by decide) (fun c1 => ?_) (fun c1 => ?_)
                  · have hf := um_it c1 hf
                    clear c1
                    refine lv_ldcw (pc := 106) hx hb hown (hts _ qC_X9_381) dX9_copy_106 ?_
                    exact um_iret (pc := 109) Cx hW hS hf dX9_copy_109
                  · have hf := um_ie c1 hf
                    clear c1
                    refine lv_iload (pc := 88) hx hb dX9_copy_88 (lv_at hl 4 rfl) ?_
                    refine lv_i2l (pc := 90) hx hb dX9_copy_90 rfl ?_
                    refine lv_iload (pc := 91) hx hb dX9_copy_91 (lv_at hl 5 rfl) ?_
                    refine lv_i2l (pc := 93) hx hb dX9_copy_93 rfl ?_
                    refine lv_ladd (pc := 94) hx hb dX9_copy_94 ?_
                    refine lv_aload_n (pc := 95) hx hb dX9_copy_95 rfl (lv_at hl 0 rfl) ?_
                    refine gF_X9_22 (pc := 96) Cx hW ms_0 rfl dX9_copy_96 ?_
                    refine lv_iload_n (pc := 99) hx hb dX9_copy_99 rfl (lv_at hl 3 rfl) ?_
                    obtain ⟨g10, hf⟩ := um_gu hf
                    refine um_iald (pc := 100) Cx hW ms_5 rfl (um_ix_in g10) dX9_copy_100 ?_
                    refine lv_i2l (pc := 101) hx hb dX9_copy_101 rfl ?_
                    refine W.lcmp (pc := 102) hx hb dX9_copy_102 ?_
                    refine lv_if_le (pc := 103) (tgt := 110) hx hb dX9_copy_103 (by decide) (fun c1 => ?_) (fun c1 => ?_)
                    · have hf := um_it c1 hf
                      clear c1
                      refine lv_iconst (pc := 110) (v := (0 : Int32)) hx hb dX9_copy_110 (by decide) ?_
                      refine lv_istore (pc := 111) (lv' := [(6, .int (0 : Int32)), (0, .ref (α 0)), (1, .int a1), (2, .int a2), (3, .int a3), (4, .int a4), (5, .int a5)]) hx hb dX9_copy_111 hl (by decide) rfl ?_
                      clear hl
                      intro ls hl
                      obtain ⟨σ11, hc12, hf⟩ := um_bi hf
                      refine t_X9_copy_l113 a1 a2 a3 a4 a5 Cx ?_ um_N _ _ _ _ _ hc12 hW hS (lv_sub hl [1, 2, 3, 4, 5, 6, 0] rfl)
                      clear hW hS hl hc12
                      intro H locs ls hW hS hl
                      refine lv_iconst (pc := 147) (v := (0 : Int32)) hx hb dX9_copy_147 (by decide) ?_
                      refine lv_istore (pc := 148) (lv' := [(6, .int (0 : Int32)), (0, .ref (α 0)), (3, .int a3), (4, .int a4), (5, .int a5)]) hx hb dX9_copy_148 hl (by decide) rfl ?_
                      clear hl
                      intro ls hl
                      obtain ⟨σ13, hc14, hf⟩ := um_bi hf
                      refine t_X9_copy_l150 a3 a4 a5 Cx ?_ um_N _ _ _ _ _ hc14 hW hS (lv_sub hl [1, 2, 3, 4, 0] rfl)
                      clear hW hS hl hc14
                      intro H locs ls hW hS hl
                      refine lv_iload (pc := 185) hx hb dX9_copy_185 (lv_at hl 0 rfl) ?_
                      exact um_iret (pc := 187) Cx hW hS hf dX9_copy_187
                    · have hf := um_ie c1 hf
                      clear c1
                      refine lv_ldcw (pc := 106) hx hb hown (hts _ qC_X9_381) dX9_copy_106 ?_
                      exact um_iret (pc := 109) Cx hW hS hf dX9_copy_109
          · have hf := um_ie c1 hf
            clear c1
            refine lv_ldc (pc := 54) hx hb hown (hts _ qC_X9_122) dX9_copy_54 ?_
            exact um_iret (pc := 56) Cx hW hS hf dX9_copy_56
        · have hf := um_ie c1 hf
          clear c1
          refine lv_ldcw (pc := 35) hx hb hown (hts _ qC_X9_380) dX9_copy_35 ?_
          exact um_iret (pc := 38) Cx hW hS hf dX9_copy_38
    · have hf := um_it c1 hf
      clear c1
      refine lv_ldc (pc := 14) hx hb hown (hts _ qC_X9_87) dX9_copy_14 ?_
      exact um_iret (pc := 16) Cx hW hS hf dX9_copy_16
theorem c_X9_copy {σ : um_S} {σ' : um_S} {r : Int32} (a1 : Int32) (a2 : Int32) (a3 : Int32) (a4 : Int32) (a5 : Int32)  (hf : f_X9_copy a1 a2 a3 a4 a5 σ = some (r, σ')) : um_M l yX9_copy cX9_copy 7 (some FieldType.int) (2) (45) Z msh α σ [.ref (α 0), .int a1, .int a2, .int a3, .int a4, .int a5] (some (.int r)) σ' :=
  um_start (by decide) (Nat.le_of_ble_eq_true rfl) (fun p e s m below meth c ls Cx hW hS hl => b_X9_copy a1 a2 a3 a4 a5 hf Cx hW hS hl)
noncomputable def f_X9_men_l4 (v1 : Int32) (σ : um_S) : Nat → Int32 → Int32 → Option (Int32)
  | 0, _, _ => none
  | n + 1, v2, v3 =>
    if (σ.1 1 2) ≤ v3 then
    (some v2)
    else
    (um_let (fun (_u : Unit) =>
    (um_let (v2 + (1 : Int32)) fun x2 =>
    (f_X9_men_l4 v1 σ n x2 (v3 + (1 : Int32))))) fun k1 =>
    (if v1 = 0 then
    (k1 ())
    else
    (if v1 = (1 : Int32) then
    ((f_X9_isDead v3 σ).bind fun x17 =>
    (if (um_b x17) = 0 then
    (um_let (v2 + (0 : Int32)) fun x18 =>
    (f_X9_men_l4 v1 σ n x18 (v3 + (1 : Int32))))
    else
    (k1 ())))
    else
    ((f_X9_isDead v3 σ).bind fun x5 =>
    (if (um_b x5) = 0 then
    (if v1 = (2 : Int32) then
    ((f_X9_hasLanded v3 σ).bind fun x13 =>
    (if (um_b x13) = 0 then
    (k1 ())
    else
    (um_let (v2 + (0 : Int32)) fun x14 =>
    (f_X9_men_l4 v1 σ n x14 (v3 + (1 : Int32))))))
    else
    ((f_X9_kindOf v3 σ).bind fun x9 =>
    (if x9 = (v1 - (3 : Int32)) then
    (k1 ())
    else
    (um_let (v2 + (0 : Int32)) fun x10 =>
    (f_X9_men_l4 v1 σ n x10 (v3 + (1 : Int32)))))))
    else
    (um_let (v2 + (0 : Int32)) fun x6 =>
    (f_X9_men_l4 v1 σ n x6 (v3 + (1 : Int32)))))))))
noncomputable def f_X9_men (a1 : Int32) (σ : um_S) : Option (Int32) :=
    (f_X9_men_l4 a1 σ um_N (0 : Int32) (0 : Int32)).bind fun x1 =>
    (some x1)
set_option maxRecDepth 100000 in
set_option maxHeartbeats 4000000 in
theorem t_X9_men_l4 {Q : State → Prop} {o2 : Int32} {σ : um_S} (v1 : Int32)  (Cx : um_C p s m meth c args cX9_men 4 (some FieldType.int) RX9 Z) (hE : ∀ (H : Heap) (locs : List Loc) (ls : Array Slot), um_W Z msh α σ H → va_S (um_D msh α) s.heap H locs → lv_has ls 4 [(2, .int o2)] → W p l e { frames := 2, cells := 0, slots := 0, locals := 42 } s m args below meth c H locs 0 0 Q (F0 m 83 ls [])) : ∀ (n : Nat) (v2 : Int32) (v3 : Int32) (H : Heap) (locs : List Loc) (ls : Array Slot), f_X9_men_l4 v1 σ n v2 v3 = some o2 → um_W Z msh α σ H → va_S (um_D msh α) s.heap H locs → lv_has ls 4 [(0, .ref (α 0)), (1, .int v1), (2, .int v2), (3, .int v3)] → W p l e { frames := 2, cells := 0, slots := 0, locals := 42 } s m args below meth c H locs 0 0 Q (F0 m 4 ls []) := by
  have hx := Cx.1
  have hb := Cx.2.1
  have hown := Cx.2.2.2.2.1
  have hts := Cx.2.2.2.2.2.1
  intro n
  induction n with
  | zero =>
    intro v2 v3 H locs ls hf hW hS hl
    cases hf
  | succ n ih =>
    intro v2 v3 H locs ls hf hW hS hl
    rw [f_X9_men_l4] at hf
    refine lv_iload_n (pc := 4) hx hb dX9_men_4 rfl (lv_at hl 3 rfl) ?_
    refine lv_aload_n (pc := 5) hx hb dX9_men_5 rfl (lv_at hl 0 rfl) ?_
    refine gF_X9_7 (pc := 6) Cx hW ms_0 rfl dX9_men_6 ?_
    refine lv_iconst (pc := 9) (v := (2 : Int32)) hx hb dX9_men_9 (by decide) ?_
    refine um_iaj (pc := 10) (n := 3790) 2 rfl Cx hW ms_1 rfl (um_ix_in (by decide)) dX9_men_10 ?_
    refine lv_icmp_ge (pc := 11) (tgt := 83) hx hb dX9_men_11 (by decide) (fun c1 => ?_) (fun c1 => ?_)
    · have hf := um_it c1 hf
      clear c1
      cases hf
      exact hE _ _ _ hW hS (lv_sub hl [2] rfl)
    · have hf := um_ie c1 hf
      clear c1
      refine lv_iload_n (pc := 14) hx hb dX9_men_14 rfl (lv_at hl 2 rfl) ?_
      refine lv_iload_n (pc := 15) hx hb dX9_men_15 rfl (lv_at hl 1 rfl) ?_
      obtain ⟨k1, hk1, hf⟩ := um_j1 hf
      have J1 : ∀ (_u : Unit), k1 _u = some o2 → ∀ (H : Heap) (locs : List Loc) (ls : Array Slot), um_W Z msh α σ H → va_S (um_D msh α) s.heap H locs → lv_has ls 4 [(0, .ref (α 0)), (1, .int v1), (3, .int v3)] → W p l e { frames := 2, cells := 0, slots := 0, locals := 42 } s m args below meth c H locs 0 0 Q (F0 m 70 ls [.int v2]) := by
        intro _u hf H locs ls hW hS hl
        rw [hk1] at hf
        refine lv_iconst (pc := 70) (v := (1 : Int32)) hx hb dX9_men_70 (by decide) ?_
        refine lv_goto (pc := 71) (tgt := 75) hx hb dX9_men_71 (by decide) ?_
        refine lv_iadd (pc := 75) hx hb dX9_men_75 ?_
        obtain ⟨x2, e3, hf⟩ := um_le hf
        refine um_top e3 ?_
        clear e3
        refine lv_istore_n (pc := 76) (lv' := [(2, .int x2), (0, .ref (α 0)), (1, .int v1), (3, .int v3)]) hx hb dX9_men_76 rfl hl (by decide) rfl ?_
        clear hl
        intro ls hl
        refine lv_iinc (pc := 77) (v := v3 + (1 : Int32)) (lv' := [(3, .int (v3 + (1 : Int32))), (2, .int x2), (0, .ref (α 0)), (1, .int v1)]) hx hb dX9_men_77 hl (k := 3) rfl rfl (by decide) rfl ?_
        clear hl
        intro ls hl
        refine lv_goto (pc := 80) (tgt := 4) hx hb dX9_men_80 (by decide) ?_
        exact ih _ _ _ _ _ hf hW hS (lv_sub hl [2, 3, 1, 0] rfl)
      refine lv_if_eq (pc := 16) (tgt := 70) hx hb dX9_men_16 (by decide) (fun c1 => ?_) (fun c1 => ?_)
      · have hf := um_it c1 hf
        clear c1
        exact J1 () hf _ _ _ hW hS (lv_sub hl [0, 1, 3] rfl)
      · have hf := um_ie c1 hf
        clear c1
        refine lv_iload_n (pc := 19) hx hb dX9_men_19 rfl (lv_at hl 1 rfl) ?_
        refine lv_iconst (pc := 20) (v := (1 : Int32)) hx hb dX9_men_20 (by decide) ?_
        refine lv_icmp_ne (pc := 21) (tgt := 35) hx hb dX9_men_21 (by decide) (fun c1 => ?_) (fun c1 => ?_)
        · have hf := um_ie c1 hf
          clear c1
          refine lv_aload_n (pc := 35) hx hb dX9_men_35 rfl (lv_at hl 0 rfl) ?_
          refine lv_iload_n (pc := 36) hx hb dX9_men_36 rfl (lv_at hl 3 rfl) ?_
          obtain ⟨x5, hc4, hf⟩ := um_bi hf
          refine um_cVi (pc := 37) (As := [.int v3]) (rest := [.int v2]) Cx (c_X9_isDead v3 hc4) kV_X9_isDead (Or.inl qM_X9_70) hW hS ms_0 rfl rfl hl rfl (Nat.le_of_ble_eq_true rfl) (Nat.le_of_ble_eq_true rfl) (Nat.le_of_ble_eq_true rfl) dX9_men_37 (Nat.le_refl _) (Nat.le_refl _) ?_
          clear hW hS hc4
          intro H locs hW hS
          refine lv_if_ne (pc := 40) (tgt := 74) hx hb dX9_men_40 (by decide) (fun c1 => ?_) (fun c1 => ?_)
          · have hf := um_ie c1 hf
            clear c1
            refine lv_iconst (pc := 74) (v := (0 : Int32)) hx hb dX9_men_74 (by decide) ?_
            refine lv_iadd (pc := 75) hx hb dX9_men_75 ?_
            obtain ⟨x6, e7, hf⟩ := um_le hf
            refine um_top e7 ?_
            clear e7
            refine lv_istore_n (pc := 76) (lv' := [(2, .int x6), (0, .ref (α 0)), (1, .int v1), (3, .int v3)]) hx hb dX9_men_76 rfl hl (by decide) rfl ?_
            clear hl
            intro ls hl
            refine lv_iinc (pc := 77) (v := v3 + (1 : Int32)) (lv' := [(3, .int (v3 + (1 : Int32))), (2, .int x6), (0, .ref (α 0)), (1, .int v1)]) hx hb dX9_men_77 hl (k := 3) rfl rfl (by decide) rfl ?_
            clear hl
            intro ls hl
            refine lv_goto (pc := 80) (tgt := 4) hx hb dX9_men_80 (by decide) ?_
            exact ih _ _ _ _ _ hf hW hS (lv_sub hl [2, 3, 1, 0] rfl)
          · have hf := um_it c1 hf
            clear c1
            refine lv_iload_n (pc := 43) hx hb dX9_men_43 rfl (lv_at hl 1 rfl) ?_
            refine lv_iconst (pc := 44) (v := (2 : Int32)) hx hb dX9_men_44 (by decide) ?_
            refine lv_icmp_ne (pc := 45) (tgt := 59) hx hb dX9_men_45 (by decide) (fun c1 => ?_) (fun c1 => ?_)
            · have hf := um_ie c1 hf
              clear c1
              refine lv_aload_n (pc := 59) hx hb dX9_men_59 rfl (lv_at hl 0 rfl) ?_
              refine lv_iload_n (pc := 60) hx hb dX9_men_60 rfl (lv_at hl 3 rfl) ?_
              obtain ⟨x9, hc8, hf⟩ := um_bi hf
              refine um_cVi (pc := 61) (As := [.int v3]) (rest := [.int v2]) Cx (c_X9_kindOf v3 hc8) kV_X9_kindOf (Or.inl qM_X9_77) hW hS ms_0 rfl rfl hl rfl (Nat.le_of_ble_eq_true rfl) (Nat.le_of_ble_eq_true rfl) (Nat.le_of_ble_eq_true rfl) dX9_men_61 (Nat.le_refl _) (Nat.le_refl _) ?_
              clear hW hS hc8
              intro H locs hW hS
              refine lv_iload_n (pc := 64) hx hb dX9_men_64 rfl (lv_at hl 1 rfl) ?_
              refine lv_iconst (pc := 65) (v := (3 : Int32)) hx hb dX9_men_65 (by decide) ?_
              refine lv_isub (pc := 66) hx hb dX9_men_66 ?_
              refine lv_icmp_ne (pc := 67) (tgt := 74) hx hb dX9_men_67 (by decide) (fun c1 => ?_) (fun c1 => ?_)
              · have hf := um_ie c1 hf
                clear c1
                refine lv_iconst (pc := 74) (v := (0 : Int32)) hx hb dX9_men_74 (by decide) ?_
                refine lv_iadd (pc := 75) hx hb dX9_men_75 ?_
                obtain ⟨x10, e11, hf⟩ := um_le hf
                refine um_top e11 ?_
                clear e11
                refine lv_istore_n (pc := 76) (lv' := [(2, .int x10), (0, .ref (α 0)), (1, .int v1), (3, .int v3)]) hx hb dX9_men_76 rfl hl (by decide) rfl ?_
                clear hl
                intro ls hl
                refine lv_iinc (pc := 77) (v := v3 + (1 : Int32)) (lv' := [(3, .int (v3 + (1 : Int32))), (2, .int x10), (0, .ref (α 0)), (1, .int v1)]) hx hb dX9_men_77 hl (k := 3) rfl rfl (by decide) rfl ?_
                clear hl
                intro ls hl
                refine lv_goto (pc := 80) (tgt := 4) hx hb dX9_men_80 (by decide) ?_
                exact ih _ _ _ _ _ hf hW hS (lv_sub hl [2, 3, 1, 0] rfl)
              · have hf := um_it c1 hf
                clear c1
                exact J1 () hf _ _ _ hW hS (lv_sub hl [0, 1, 3] rfl)
            · have hf := um_it c1 hf
              clear c1
              refine lv_aload_n (pc := 48) hx hb dX9_men_48 rfl (lv_at hl 0 rfl) ?_
              refine lv_iload_n (pc := 49) hx hb dX9_men_49 rfl (lv_at hl 3 rfl) ?_
              obtain ⟨x13, hc12, hf⟩ := um_bi hf
              refine um_cVi (pc := 50) (As := [.int v3]) (rest := [.int v2]) Cx (c_X9_hasLanded v3 hc12) kV_X9_hasLanded (Or.inl qM_X9_74) hW hS ms_0 rfl rfl hl rfl (Nat.le_of_ble_eq_true rfl) (Nat.le_of_ble_eq_true rfl) (Nat.le_of_ble_eq_true rfl) dX9_men_50 (Nat.le_refl _) (Nat.le_refl _) ?_
              clear hW hS hc12
              intro H locs hW hS
              refine lv_if_ne (pc := 53) (tgt := 74) hx hb dX9_men_53 (by decide) (fun c1 => ?_) (fun c1 => ?_)
              · have hf := um_ie c1 hf
                clear c1
                refine lv_iconst (pc := 74) (v := (0 : Int32)) hx hb dX9_men_74 (by decide) ?_
                refine lv_iadd (pc := 75) hx hb dX9_men_75 ?_
                obtain ⟨x14, e15, hf⟩ := um_le hf
                refine um_top e15 ?_
                clear e15
                refine lv_istore_n (pc := 76) (lv' := [(2, .int x14), (0, .ref (α 0)), (1, .int v1), (3, .int v3)]) hx hb dX9_men_76 rfl hl (by decide) rfl ?_
                clear hl
                intro ls hl
                refine lv_iinc (pc := 77) (v := v3 + (1 : Int32)) (lv' := [(3, .int (v3 + (1 : Int32))), (2, .int x14), (0, .ref (α 0)), (1, .int v1)]) hx hb dX9_men_77 hl (k := 3) rfl rfl (by decide) rfl ?_
                clear hl
                intro ls hl
                refine lv_goto (pc := 80) (tgt := 4) hx hb dX9_men_80 (by decide) ?_
                exact ih _ _ _ _ _ hf hW hS (lv_sub hl [2, 3, 1, 0] rfl)
              · have hf := um_it c1 hf
                clear c1
                refine lv_goto (pc := 56) (tgt := 70) hx hb dX9_men_56 (by decide) ?_
                exact J1 () hf _ _ _ hW hS (lv_sub hl [0, 1, 3] rfl)
        · have hf := um_it c1 hf
          clear c1
          refine lv_aload_n (pc := 24) hx hb dX9_men_24 rfl (lv_at hl 0 rfl) ?_
          refine lv_iload_n (pc := 25) hx hb dX9_men_25 rfl (lv_at hl 3 rfl) ?_
          obtain ⟨x17, hc16, hf⟩ := um_bi hf
          refine um_cVi (pc := 26) (As := [.int v3]) (rest := [.int v2]) Cx (c_X9_isDead v3 hc16) kV_X9_isDead (Or.inl qM_X9_70) hW hS ms_0 rfl rfl hl rfl (Nat.le_of_ble_eq_true rfl) (Nat.le_of_ble_eq_true rfl) (Nat.le_of_ble_eq_true rfl) dX9_men_26 (Nat.le_refl _) (Nat.le_refl _) ?_
          clear hW hS hc16
          intro H locs hW hS
          refine lv_if_eq (pc := 29) (tgt := 74) hx hb dX9_men_29 (by decide) (fun c1 => ?_) (fun c1 => ?_)
          · have hf := um_it c1 hf
            clear c1
            refine lv_iconst (pc := 74) (v := (0 : Int32)) hx hb dX9_men_74 (by decide) ?_
            refine lv_iadd (pc := 75) hx hb dX9_men_75 ?_
            obtain ⟨x18, e19, hf⟩ := um_le hf
            refine um_top e19 ?_
            clear e19
            refine lv_istore_n (pc := 76) (lv' := [(2, .int x18), (0, .ref (α 0)), (1, .int v1), (3, .int v3)]) hx hb dX9_men_76 rfl hl (by decide) rfl ?_
            clear hl
            intro ls hl
            refine lv_iinc (pc := 77) (v := v3 + (1 : Int32)) (lv' := [(3, .int (v3 + (1 : Int32))), (2, .int x18), (0, .ref (α 0)), (1, .int v1)]) hx hb dX9_men_77 hl (k := 3) rfl rfl (by decide) rfl ?_
            clear hl
            intro ls hl
            refine lv_goto (pc := 80) (tgt := 4) hx hb dX9_men_80 (by decide) ?_
            exact ih _ _ _ _ _ hf hW hS (lv_sub hl [2, 3, 1, 0] rfl)
          · have hf := um_ie c1 hf
            clear c1
            refine lv_goto (pc := 32) (tgt := 70) hx hb dX9_men_32 (by decide) ?_
            exact J1 () hf _ _ _ hW hS (lv_sub hl [0, 1, 3] rfl)
set_option maxRecDepth 100000 in
set_option maxHeartbeats 4000000 in
theorem b_X9_men {H : Heap} {locs : List Loc} {ls : Array Slot} {σ : um_S} {r : Int32} (a1 : Int32)  (hf : f_X9_men a1 σ = some r) (Cx : um_C p s m meth c args cX9_men 4 (some FieldType.int) RX9 Z) (hW : um_W Z msh α σ H) (hS : va_S (um_D msh α) s.heap H locs) (hl : lv_has ls 4 [(0, .ref (α 0)), (1, .int a1)]) : um_G p l e (2) (42) s m args below meth c Z msh α σ (some (.int r)) H locs (F0 m 0 ls []) := by
  have hx := Cx.1
  have hb := Cx.2.1
  have hown := Cx.2.2.2.2.1
  have hts := Cx.2.2.2.2.2.1
  rw [f_X9_men] at hf
  refine lv_iconst (pc := 0) (v := (0 : Int32)) hx hb dX9_men_0 (by decide) ?_
  refine lv_istore_n (pc := 1) (lv' := [(2, .int (0 : Int32)), (0, .ref (α 0)), (1, .int a1)]) hx hb dX9_men_1 rfl hl (by decide) rfl ?_
  clear hl
  intro ls hl
  refine lv_iconst (pc := 2) (v := (0 : Int32)) hx hb dX9_men_2 (by decide) ?_
  refine lv_istore_n (pc := 3) (lv' := [(3, .int (0 : Int32)), (2, .int (0 : Int32)), (0, .ref (α 0)), (1, .int a1)]) hx hb dX9_men_3 rfl hl (by decide) rfl ?_
  clear hl
  intro ls hl
  obtain ⟨x1, hc2, hf⟩ := um_bi hf
  refine t_X9_men_l4 a1 Cx ?_ um_N _ _ _ _ _ hc2 hW hS (lv_sub hl [2, 3, 1, 0] rfl)
  clear hW hS hl hc2
  intro H locs ls hW hS hl
  refine lv_iload_n (pc := 83) hx hb dX9_men_83 rfl (lv_at hl 0 rfl) ?_
  exact um_iretR (pc := 84) Cx hW hS hf dX9_men_84
theorem c_X9_men {σ : um_S} {r : Int32} (a1 : Int32)  (hf : f_X9_men a1 σ = some r) : um_M l yX9_men cX9_men 4 (some FieldType.int) (2) (42) Z msh α σ [.ref (α 0), .int a1] (some (.int r)) σ :=
  um_start (by decide) (Nat.le_of_ble_eq_true rfl) (fun p e s m below meth c ls Cx hW hS hl => b_X9_men a1 hf Cx hW hS hl)
noncomputable def f_X9_count (a1 : Int32) (σ : um_S) : Option (Int32) :=
    (f_X9_isIn (a1.toInt64) (1 : Int64) (11 : Int64) σ).bind fun x2 =>
    (if (um_b x2) = 0 then
    (if a1 = (0 : Int32) then
    (some (σ.1 1 1))
    else
    (if a1 = (1 : Int32) then
    (some (-1000000001 : Int32))
    else
    (if a1 = (2 : Int32) then
    (some (-1000000001 : Int32))
    else
    (if a1 = (3 : Int32) then
    (some (-1000000001 : Int32))
    else
    (if a1 = (4 : Int32) then
    (some (-1000000001 : Int32))
    else
    (if a1 = (5 : Int32) then
    (some (-1000000001 : Int32))
    else
    (if a1 = (6 : Int32) then
    (some (-1000000001 : Int32))
    else
    (if a1 = (7 : Int32) then
    (some (-1000000001 : Int32))
    else
    (if a1 = (8 : Int32) then
    (some (-1000000001 : Int32))
    else
    (if a1 = (9 : Int32) then
    (some (-1000000001 : Int32))
    else
    (if a1 = (10 : Int32) then
    (some (-1000000001 : Int32))
    else
    (if a1 = (11 : Int32) then
    (some (-1000000001 : Int32))
    else
    (if a1 = (12 : Int32) then
    (some (σ.1 1 3))
    else
    (if a1 = (13 : Int32) then
    (some (σ.1 1 4))
    else
    (if a1 = (14 : Int32) then
    (some (σ.1 1 5))
    else
    (if a1 = (15 : Int32) then
    (some (σ.1 1 6))
    else
    (if a1 = (16 : Int32) then
    (some (σ.1 1 7))
    else
    (if a1 = (17 : Int32) then
    (some (σ.1 1 8))
    else
    (if a1 = (18 : Int32) then
    (some (σ.1 1 10))
    else
    (if a1 = (19 : Int32) then
    (some (σ.1 0 27))
    else
    (if a1 = (20 : Int32) then
    (some (σ.1 0 8))
    else
    (if a1 = (21 : Int32) then
    (some (σ.1 1 0))
    else
    (if a1 = (22 : Int32) then
    (some (σ.1 1 9))
    else
    (some (-1000000001 : Int32)))))))))))))))))))))))))
    else
    ((f_X9_men (a1 - (1 : Int32)) σ).bind fun x4 =>
    (some x4)))
set_option maxRecDepth 100000 in
set_option maxHeartbeats 4000000 in
theorem b_X9_count {H : Heap} {locs : List Loc} {ls : Array Slot} {σ : um_S} {r : Int32} (a1 : Int32)  (hf : f_X9_count a1 σ = some r) (Cx : um_C p s m meth c args cX9_count 2 (some FieldType.int) RX9 Z) (hW : um_W Z msh α σ H) (hS : va_S (um_D msh α) s.heap H locs) (hl : lv_has ls 2 [(0, .ref (α 0)), (1, .int a1)]) : um_G p l e (3) (65) s m args below meth c Z msh α σ (some (.int r)) H locs (F0 m 0 ls []) := by
  have hx := Cx.1
  have hb := Cx.2.1
  have hown := Cx.2.2.2.2.1
  have hts := Cx.2.2.2.2.2.1
  rw [f_X9_count] at hf
  refine lv_iload_n (pc := 0) hx hb dX9_count_0 rfl (lv_at hl 1 rfl) ?_
  refine lv_i2l (pc := 1) hx hb dX9_count_1 rfl ?_
  refine lv_lconst (pc := 2) (v := (1 : Int64)) hx hb dX9_count_2 (by decide) ?_
  refine lv_ldc2 (pc := 3) hx hb hown (hts _ qL_X9_114) dX9_count_3 ?_
  obtain ⟨x2, hc1, hf⟩ := um_bi hf
  refine um_cSi (pc := 6) (As := [.long (a1.toInt64), .long (1 : Int64), .long (11 : Int64)]) (rest := []) Cx (c_X9_isIn (a1.toInt64) (1 : Int64) (11 : Int64) hc1) kS_X9_isIn (Or.inl qM_X9_60) hW hS rfl hl rfl (Nat.le_of_ble_eq_true rfl) (Nat.le_of_ble_eq_true rfl) (Nat.le_of_ble_eq_true rfl) dX9_count_6 (Nat.le_refl _) (Nat.le_refl _) ?_
  clear hW hS hc1
  intro H locs hW hS
  refine lv_if_eq (pc := 9) (tgt := 20) hx hb dX9_count_9 (by decide) (fun c1 => ?_) (fun c1 => ?_)
  · have hf := um_it c1 hf
    clear c1
    refine lv_iload_n (pc := 20) hx hb dX9_count_20 rfl (lv_at hl 1 rfl) ?_
    by_cases c1 : a1 = (0 : Int32)
    · have hf := um_it c1 hf
      refine lv_tableIn (pc := 21) (tgt := 128) hx hb dX9_count_21 (by rw [c1]; decide) (by rw [c1]; decide) (by rw [c1]; rfl) (by decide) ?_
      refine lv_aload_n (pc := 128) hx hb dX9_count_128 rfl (lv_at hl 0 rfl) ?_
      refine gF_X9_7 (pc := 129) Cx hW ms_0 rfl dX9_count_129 ?_
      refine lv_iconst (pc := 132) (v := (1 : Int32)) hx hb dX9_count_132 (by decide) ?_
      refine um_iaj (pc := 133) (n := 3790) 1 rfl Cx hW ms_1 rfl (um_ix_in (by decide)) dX9_count_133 ?_
      exact um_iretR (pc := 134) Cx hW hS hf dX9_count_134
    have hf := um_ie c1 hf
    by_cases c2 : a1 = (1 : Int32)
    · have hf := um_it c2 hf
      refine lv_tableIn (pc := 21) (tgt := 213) hx hb dX9_count_21 (by rw [c2]; decide) (by rw [c2]; decide) (by rw [c2]; rfl) (by decide) ?_
      refine lv_ldc (pc := 213) hx hb hown (hts _ qC_X9_87) dX9_count_213 ?_
      exact um_iretR (pc := 215) Cx hW hS hf dX9_count_215
    have hf := um_ie c2 hf
    by_cases c3 : a1 = (2 : Int32)
    · have hf := um_it c3 hf
      refine lv_tableIn (pc := 21) (tgt := 213) hx hb dX9_count_21 (by rw [c3]; decide) (by rw [c3]; decide) (by rw [c3]; rfl) (by decide) ?_
      refine lv_ldc (pc := 213) hx hb hown (hts _ qC_X9_87) dX9_count_213 ?_
      exact um_iretR (pc := 215) Cx hW hS hf dX9_count_215
    have hf := um_ie c3 hf
    by_cases c4 : a1 = (3 : Int32)
    · have hf := um_it c4 hf
      refine lv_tableIn (pc := 21) (tgt := 213) hx hb dX9_count_21 (by rw [c4]; decide) (by rw [c4]; decide) (by rw [c4]; rfl) (by decide) ?_
      refine lv_ldc (pc := 213) hx hb hown (hts _ qC_X9_87) dX9_count_213 ?_
      exact um_iretR (pc := 215) Cx hW hS hf dX9_count_215
    have hf := um_ie c4 hf
    by_cases c5 : a1 = (4 : Int32)
    · have hf := um_it c5 hf
      refine lv_tableIn (pc := 21) (tgt := 213) hx hb dX9_count_21 (by rw [c5]; decide) (by rw [c5]; decide) (by rw [c5]; rfl) (by decide) ?_
      refine lv_ldc (pc := 213) hx hb hown (hts _ qC_X9_87) dX9_count_213 ?_
      exact um_iretR (pc := 215) Cx hW hS hf dX9_count_215
    have hf := um_ie c5 hf
    by_cases c6 : a1 = (5 : Int32)
    · have hf := um_it c6 hf
      refine lv_tableIn (pc := 21) (tgt := 213) hx hb dX9_count_21 (by rw [c6]; decide) (by rw [c6]; decide) (by rw [c6]; rfl) (by decide) ?_
      refine lv_ldc (pc := 213) hx hb hown (hts _ qC_X9_87) dX9_count_213 ?_
      exact um_iretR (pc := 215) Cx hW hS hf dX9_count_215
    have hf := um_ie c6 hf
    by_cases c7 : a1 = (6 : Int32)
    · have hf := um_it c7 hf
      refine lv_tableIn (pc := 21) (tgt := 213) hx hb dX9_count_21 (by rw [c7]; decide) (by rw [c7]; decide) (by rw [c7]; rfl) (by decide) ?_
      refine lv_ldc (pc := 213) hx hb hown (hts _ qC_X9_87) dX9_count_213 ?_
      exact um_iretR (pc := 215) Cx hW hS hf dX9_count_215
    have hf := um_ie c7 hf
    by_cases c8 : a1 = (7 : Int32)
    · have hf := um_it c8 hf
      refine lv_tableIn (pc := 21) (tgt := 213) hx hb dX9_count_21 (by rw [c8]; decide) (by rw [c8]; decide) (by rw [c8]; rfl) (by decide) ?_
      refine lv_ldc (pc := 213) hx hb hown (hts _ qC_X9_87) dX9_count_213 ?_
      exact um_iretR (pc := 215) Cx hW hS hf dX9_count_215
    have hf := um_ie c8 hf
    by_cases c9 : a1 = (8 : Int32)
    · have hf := um_it c9 hf
      refine lv_tableIn (pc := 21) (tgt := 213) hx hb dX9_count_21 (by rw [c9]; decide) (by rw [c9]; decide) (by rw [c9]; rfl) (by decide) ?_
      refine lv_ldc (pc := 213) hx hb hown (hts _ qC_X9_87) dX9_count_213 ?_
      exact um_iretR (pc := 215) Cx hW hS hf dX9_count_215
    have hf := um_ie c9 hf
    by_cases c10 : a1 = (9 : Int32)
    · have hf := um_it c10 hf
      refine lv_tableIn (pc := 21) (tgt := 213) hx hb dX9_count_21 (by rw [c10]; decide) (by rw [c10]; decide) (by rw [c10]; rfl) (by decide) ?_
      refine lv_ldc (pc := 213) hx hb hown (hts _ qC_X9_87) dX9_count_213 ?_
      exact um_iretR (pc := 215) Cx hW hS hf dX9_count_215
    have hf := um_ie c10 hf
    by_cases c11 : a1 = (10 : Int32)
    · have hf := um_it c11 hf
      refine lv_tableIn (pc := 21) (tgt := 213) hx hb dX9_count_21 (by rw [c11]; decide) (by rw [c11]; decide) (by rw [c11]; rfl) (by decide) ?_
      refine lv_ldc (pc := 213) hx hb hown (hts _ qC_X9_87) dX9_count_213 ?_
      exact um_iretR (pc := 215) Cx hW hS hf dX9_count_215
    have hf := um_ie c11 hf
    by_cases c12 : a1 = (11 : Int32)
    · have hf := um_it c12 hf
      refine lv_tableIn (pc := 21) (tgt := 213) hx hb dX9_count_21 (by rw [c12]; decide) (by rw [c12]; decide) (by rw [c12]; rfl) (by decide) ?_
      refine lv_ldc (pc := 213) hx hb hown (hts _ qC_X9_87) dX9_count_213 ?_
      exact um_iretR (pc := 215) Cx hW hS hf dX9_count_215
    have hf := um_ie c12 hf
    by_cases c13 : a1 = (12 : Int32)
    · have hf := um_it c13 hf
      refine lv_tableIn (pc := 21) (tgt := 135) hx hb dX9_count_21 (by rw [c13]; decide) (by rw [c13]; decide) (by rw [c13]; rfl) (by decide) ?_
      refine lv_aload_n (pc := 135) hx hb dX9_count_135 rfl (lv_at hl 0 rfl) ?_
      refine gF_X9_7 (pc := 136) Cx hW ms_0 rfl dX9_count_136 ?_
      refine lv_iconst (pc := 139) (v := (3 : Int32)) hx hb dX9_count_139 (by decide) ?_
      refine um_iaj (pc := 140) (n := 3790) 3 rfl Cx hW ms_1 rfl (um_ix_in (by decide)) dX9_count_140 ?_
      exact um_iretR (pc := 141) Cx hW hS hf dX9_count_141
    have hf := um_ie c13 hf
    by_cases c14 : a1 = (13 : Int32)
    · have hf := um_it c14 hf
      refine lv_tableIn (pc := 21) (tgt := 142) hx hb dX9_count_21 (by rw [c14]; decide) (by rw [c14]; decide) (by rw [c14]; rfl) (by decide) ?_
      refine lv_aload_n (pc := 142) hx hb dX9_count_142 rfl (lv_at hl 0 rfl) ?_
      refine gF_X9_7 (pc := 143) Cx hW ms_0 rfl dX9_count_143 ?_
      refine lv_iconst (pc := 146) (v := (4 : Int32)) hx hb dX9_count_146 (by decide) ?_
      refine um_iaj (pc := 147) (n := 3790) 4 rfl Cx hW ms_1 rfl (um_ix_in (by decide)) dX9_count_147 ?_
      exact um_iretR (pc := 148) Cx hW hS hf dX9_count_148
    have hf := um_ie c14 hf
    by_cases c15 : a1 = (14 : Int32)
    · have hf := um_it c15 hf
      refine lv_tableIn (pc := 21) (tgt := 149) hx hb dX9_count_21 (by rw [c15]; decide) (by rw [c15]; decide) (by rw [c15]; rfl) (by decide) ?_
      refine lv_aload_n (pc := 149) hx hb dX9_count_149 rfl (lv_at hl 0 rfl) ?_
      refine gF_X9_7 (pc := 150) Cx hW ms_0 rfl dX9_count_150 ?_
      refine lv_iconst (pc := 153) (v := (5 : Int32)) hx hb dX9_count_153 (by decide) ?_
      refine um_iaj (pc := 154) (n := 3790) 5 rfl Cx hW ms_1 rfl (um_ix_in (by decide)) dX9_count_154 ?_
      exact um_iretR (pc := 155) Cx hW hS hf dX9_count_155
    have hf := um_ie c15 hf
    by_cases c16 : a1 = (15 : Int32)
    · have hf := um_it c16 hf
      refine lv_tableIn (pc := 21) (tgt := 156) hx hb dX9_count_21 (by rw [c16]; decide) (by rw [c16]; decide) (by rw [c16]; rfl) (by decide) ?_
      refine lv_aload_n (pc := 156) hx hb dX9_count_156 rfl (lv_at hl 0 rfl) ?_
      refine gF_X9_7 (pc := 157) Cx hW ms_0 rfl dX9_count_157 ?_
      refine lv_bipush (pc := 160) (v := (6 : Int32)) hx hb dX9_count_160 (by decide) ?_
      refine um_iaj (pc := 162) (n := 3790) 6 rfl Cx hW ms_1 rfl (um_ix_in (by decide)) dX9_count_162 ?_
      exact um_iretR (pc := 163) Cx hW hS hf dX9_count_163
    have hf := um_ie c16 hf
    by_cases c17 : a1 = (16 : Int32)
    · have hf := um_it c17 hf
      refine lv_tableIn (pc := 21) (tgt := 164) hx hb dX9_count_21 (by rw [c17]; decide) (by rw [c17]; decide) (by rw [c17]; rfl) (by decide) ?_
      refine lv_aload_n (pc := 164) hx hb dX9_count_164 rfl (lv_at hl 0 rfl) ?_
      refine gF_X9_7 (pc := 165) Cx hW ms_0 rfl dX9_count_165 ?_
      refine lv_bipush (pc := 168) (v := (7 : Int32)) hx hb dX9_count_168 (by decide) ?_
      refine um_iaj (pc := 170) (n := 3790) 7 rfl Cx hW ms_1 rfl (um_ix_in (by decide)) dX9_count_170 ?_
      exact um_iretR (pc := 171) Cx hW hS hf dX9_count_171
    have hf := um_ie c17 hf
    by_cases c18 : a1 = (17 : Int32)
    · have hf := um_it c18 hf
      refine lv_tableIn (pc := 21) (tgt := 172) hx hb dX9_count_21 (by rw [c18]; decide) (by rw [c18]; decide) (by rw [c18]; rfl) (by decide) ?_
      refine lv_aload_n (pc := 172) hx hb dX9_count_172 rfl (lv_at hl 0 rfl) ?_
      refine gF_X9_7 (pc := 173) Cx hW ms_0 rfl dX9_count_173 ?_
      refine lv_bipush (pc := 176) (v := (8 : Int32)) hx hb dX9_count_176 (by decide) ?_
      refine um_iaj (pc := 178) (n := 3790) 8 rfl Cx hW ms_1 rfl (um_ix_in (by decide)) dX9_count_178 ?_
      exact um_iretR (pc := 179) Cx hW hS hf dX9_count_179
    have hf := um_ie c18 hf
    by_cases c19 : a1 = (18 : Int32)
    · have hf := um_it c19 hf
      refine lv_tableIn (pc := 21) (tgt := 180) hx hb dX9_count_21 (by rw [c19]; decide) (by rw [c19]; decide) (by rw [c19]; rfl) (by decide) ?_
      refine lv_aload_n (pc := 180) hx hb dX9_count_180 rfl (lv_at hl 0 rfl) ?_
      refine gF_X9_7 (pc := 181) Cx hW ms_0 rfl dX9_count_181 ?_
      refine lv_bipush (pc := 184) (v := (10 : Int32)) hx hb dX9_count_184 (by decide) ?_
      refine um_iaj (pc := 186) (n := 3790) 10 rfl Cx hW ms_1 rfl (um_ix_in (by decide)) dX9_count_186 ?_
      exact um_iretR (pc := 187) Cx hW hS hf dX9_count_187
    have hf := um_ie c19 hf
    by_cases c20 : a1 = (19 : Int32)
    · have hf := um_it c20 hf
      refine lv_tableIn (pc := 21) (tgt := 188) hx hb dX9_count_21 (by rw [c20]; decide) (by rw [c20]; decide) (by rw [c20]; rfl) (by decide) ?_
      refine lv_aload_n (pc := 188) hx hb dX9_count_188 rfl (lv_at hl 0 rfl) ?_
      refine gF_X9_388 (pc := 189) Cx hW ms_0 rfl dX9_count_189 ?_
      exact um_iretR (pc := 192) Cx hW hS hf dX9_count_192
    have hf := um_ie c20 hf
    by_cases c21 : a1 = (20 : Int32)
    · have hf := um_it c21 hf
      refine lv_tableIn (pc := 21) (tgt := 193) hx hb dX9_count_21 (by rw [c21]; decide) (by rw [c21]; decide) (by rw [c21]; rfl) (by decide) ?_
      refine lv_aload_n (pc := 193) hx hb dX9_count_193 rfl (lv_at hl 0 rfl) ?_
      refine gF_X9_140 (pc := 194) Cx hW ms_0 rfl dX9_count_194 ?_
      exact um_iretR (pc := 197) Cx hW hS hf dX9_count_197
    have hf := um_ie c21 hf
    by_cases c22 : a1 = (21 : Int32)
    · have hf := um_it c22 hf
      refine lv_tableIn (pc := 21) (tgt := 198) hx hb dX9_count_21 (by rw [c22]; decide) (by rw [c22]; decide) (by rw [c22]; rfl) (by decide) ?_
      refine lv_aload_n (pc := 198) hx hb dX9_count_198 rfl (lv_at hl 0 rfl) ?_
      refine gF_X9_7 (pc := 199) Cx hW ms_0 rfl dX9_count_199 ?_
      refine lv_iconst (pc := 202) (v := (0 : Int32)) hx hb dX9_count_202 (by decide) ?_
      refine um_iaj (pc := 203) (n := 3790) 0 rfl Cx hW ms_1 rfl (um_ix_in (by decide)) dX9_count_203 ?_
      exact um_iretR (pc := 204) Cx hW hS hf dX9_count_204
    have hf := um_ie c22 hf
    by_cases c23 : a1 = (22 : Int32)
    · have hf := um_it c23 hf
      refine lv_tableIn (pc := 21) (tgt := 205) hx hb dX9_count_21 (by rw [c23]; decide) (by rw [c23]; decide) (by rw [c23]; rfl) (by decide) ?_
      refine lv_aload_n (pc := 205) hx hb dX9_count_205 rfl (lv_at hl 0 rfl) ?_
      refine gF_X9_7 (pc := 206) Cx hW ms_0 rfl dX9_count_206 ?_
      refine lv_bipush (pc := 209) (v := (9 : Int32)) hx hb dX9_count_209 (by decide) ?_
      refine um_iaj (pc := 211) (n := 3790) 9 rfl Cx hW ms_1 rfl (um_ix_in (by decide)) dX9_count_211 ?_
      exact um_iretR (pc := 212) Cx hW hS hf dX9_count_212
    have hf := um_ie c23 hf
    have ho : a1.toInt < 0 ∨ 22 < a1.toInt := um_tabO (lo := 0) (hi := 22) (fun z z1 z2 => by
      rcases (show z = 0 ∨ z = 1 ∨ z = 2 ∨ z = 3 ∨ z = 4 ∨ z = 5 ∨ z = 6 ∨ z = 7 ∨ z = 8 ∨ z = 9 ∨ z = 10 ∨ z = 11 ∨ z = 12 ∨ z = 13 ∨ z = 14 ∨ z = 15 ∨ z = 16 ∨ z = 17 ∨ z = 18 ∨ z = 19 ∨ z = 20 ∨ z = 21 ∨ z = 22 by omega) with rfl | rfl | rfl | rfl | rfl | rfl | rfl | rfl | rfl | rfl | rfl | rfl | rfl | rfl | rfl | rfl | rfl | rfl | rfl | rfl | rfl | rfl | rfl
      · exact c1
      · exact c2
      · exact c3
      · exact c4
      · exact c5
      · exact c6
      · exact c7
      · exact c8
      · exact c9
      · exact c10
      · exact c11
      · exact c12
      · exact c13
      · exact c14
      · exact c15
      · exact c16
      · exact c17
      · exact c18
      · exact c19
      · exact c20
      · exact c21
      · exact c22
      · exact c23)
    refine lv_tableOut (pc := 21) (tgt := 213) hx hb dX9_count_21 ho (by decide) ?_
    refine lv_ldc (pc := 213) hx hb hown (hts _ qC_X9_87) dX9_count_213 ?_
    exact um_iretR (pc := 215) Cx hW hS hf dX9_count_215
  · have hf := um_ie c1 hf
    clear c1
    refine lv_aload_n (pc := 12) hx hb dX9_count_12 rfl (lv_at hl 0 rfl) ?_
    refine lv_iload_n (pc := 13) hx hb dX9_count_13 rfl (lv_at hl 1 rfl) ?_
    refine lv_iconst (pc := 14) (v := (1 : Int32)) hx hb dX9_count_14 (by decide) ?_
    refine lv_isub (pc := 15) hx hb dX9_count_15 ?_
    obtain ⟨x4, hc3, hf⟩ := um_bi hf
    refine um_cVi (pc := 16) (As := [.int (a1 - (1 : Int32))]) (rest := []) Cx (c_X9_men (a1 - (1 : Int32)) hc3) kV_X9_men (Or.inl qM_X9_401) hW hS ms_0 rfl rfl hl rfl (Nat.le_of_ble_eq_true rfl) (Nat.le_of_ble_eq_true rfl) (Nat.le_of_ble_eq_true rfl) dX9_count_16 (Nat.le_refl _) (Nat.le_refl _) ?_
    clear hW hS hc3
    intro H locs hW hS
    exact um_iretR (pc := 19) Cx hW hS hf dX9_count_19
theorem c_X9_count {σ : um_S} {r : Int32} (a1 : Int32)  (hf : f_X9_count a1 σ = some r) : um_M l yX9_count cX9_count 2 (some FieldType.int) (3) (65) Z msh α σ [.ref (α 0), .int a1] (some (.int r)) σ :=
  um_start (by decide) (Nat.le_of_ble_eq_true rfl) (fun p e s m below meth c ls Cx hW hS hl => b_X9_count a1 hf Cx hW hS hl)
noncomputable def f_X9_dies (a1 : Int32) (σ : um_S) : Option (Int32 × um_S) :=
    (f_X9_isMan a1 σ).bind fun x2 =>
    (if (um_b x2) = 0 then
    (some ((-1000000001 : Int32), σ))
    else
    ((f_X9_isDead a1 σ).bind fun x4 =>
    (if (um_b x4) = 0 then
    ((f_X9_manAt a1 σ).bind fun x6 =>
    (if um_ix (x6 + (11 : Int32)) 3790 then
    (um_let (um_wr σ 1 (x6 + (11 : Int32)).toNatClampNeg (1 : Int32)) fun σ8 =>
    ((f_X9_manAt a1 σ8).bind fun x11 =>
    (if um_ix (x11 + (4 : Int32)) 3790 then
    (um_let (um_wr σ8 1 (x11 + (4 : Int32)).toNatClampNeg (-1 : Int32)) fun σ13 =>
    (some ((1 : Int32), σ13))) else none))) else none))
    else
    (some ((-1000000002 : Int32), σ)))))
set_option maxRecDepth 100000 in
set_option maxHeartbeats 4000000 in
theorem b_X9_dies {H : Heap} {locs : List Loc} {ls : Array Slot} {σ : um_S} {σ' : um_S} {r : Int32} (a1 : Int32)  (hf : f_X9_dies a1 σ = some (r, σ')) (Cx : um_C p s m meth c args cX9_dies 2 (some FieldType.int) RX9 Z) (hW : um_W Z msh α σ H) (hS : va_S (um_D msh α) s.heap H locs) (hl : lv_has ls 2 [(0, .ref (α 0)), (1, .int a1)]) : um_G p l e (2) (46) s m args below meth c Z msh α σ' (some (.int r)) H locs (F0 m 0 ls []) := by
  have hx := Cx.1
  have hb := Cx.2.1
  have hown := Cx.2.2.2.2.1
  have hts := Cx.2.2.2.2.2.1
  rw [f_X9_dies] at hf
  refine lv_aload_n (pc := 0) hx hb dX9_dies_0 rfl (lv_at hl 0 rfl) ?_
  refine lv_iload_n (pc := 1) hx hb dX9_dies_1 rfl (lv_at hl 1 rfl) ?_
  obtain ⟨x2, hc1, hf⟩ := um_bi hf
  refine um_cVi (pc := 2) (As := [.int a1]) (rest := []) Cx (c_X9_isMan a1 hc1) kV_X9_isMan (Or.inl qM_X9_101) hW hS ms_0 rfl rfl hl rfl (Nat.le_of_ble_eq_true rfl) (Nat.le_of_ble_eq_true rfl) (Nat.le_of_ble_eq_true rfl) dX9_dies_2 (Nat.le_refl _) (Nat.le_refl _) ?_
  clear hW hS hc1
  intro H locs hW hS
  refine lv_if_ne (pc := 5) (tgt := 11) hx hb dX9_dies_5 (by decide) (fun c1 => ?_) (fun c1 => ?_)
  · have hf := um_ie c1 hf
    clear c1
    refine lv_aload_n (pc := 11) hx hb dX9_dies_11 rfl (lv_at hl 0 rfl) ?_
    refine lv_iload_n (pc := 12) hx hb dX9_dies_12 rfl (lv_at hl 1 rfl) ?_
    obtain ⟨x4, hc3, hf⟩ := um_bi hf
    refine um_cVi (pc := 13) (As := [.int a1]) (rest := []) Cx (c_X9_isDead a1 hc3) kV_X9_isDead (Or.inl qM_X9_70) hW hS ms_0 rfl rfl hl rfl (Nat.le_of_ble_eq_true rfl) (Nat.le_of_ble_eq_true rfl) (Nat.le_of_ble_eq_true rfl) dX9_dies_13 (Nat.le_refl _) (Nat.le_refl _) ?_
    clear hW hS hc3
    intro H locs hW hS
    refine lv_if_eq (pc := 16) (tgt := 22) hx hb dX9_dies_16 (by decide) (fun c1 => ?_) (fun c1 => ?_)
    · have hf := um_it c1 hf
      clear c1
      refine lv_aload_n (pc := 22) hx hb dX9_dies_22 rfl (lv_at hl 0 rfl) ?_
      refine gF_X9_7 (pc := 23) Cx hW ms_0 rfl dX9_dies_23 ?_
      refine lv_aload_n (pc := 26) hx hb dX9_dies_26 rfl (lv_at hl 0 rfl) ?_
      refine lv_iload_n (pc := 27) hx hb dX9_dies_27 rfl (lv_at hl 1 rfl) ?_
      obtain ⟨x6, hc5, hf⟩ := um_bi hf
      refine um_cVi (pc := 28) (As := [.int a1]) (rest := [.ref (α 1)]) Cx (c_X9_manAt a1 hc5) kV_X9_manAt (Or.inl qM_X9_66) hW hS ms_0 rfl rfl hl rfl (Nat.le_of_ble_eq_true rfl) (Nat.le_of_ble_eq_true rfl) (Nat.le_of_ble_eq_true rfl) dX9_dies_28 (Nat.le_refl _) (Nat.le_refl _) ?_
      clear hW hS hc5
      intro H locs hW hS
      refine lv_bipush (pc := 31) (v := (11 : Int32)) hx hb dX9_dies_31 (by decide) ?_
      refine lv_iadd (pc := 33) hx hb dX9_dies_33 ?_
      refine lv_iconst (pc := 34) (v := (1 : Int32)) hx hb dX9_dies_34 (by decide) ?_
      obtain ⟨g7, hf⟩ := um_gu hf
      refine um_iast (pc := 35) Cx hW hS ms_1 rfl (um_ix_in g7) dX9_dies_35 ?_
      clear hW hS
      intro H locs hW hS
      obtain ⟨σ8, e9, hf⟩ := um_le hf
      rw [← e9] at hW
      clear e9
      refine lv_aload_n (pc := 36) hx hb dX9_dies_36 rfl (lv_at hl 0 rfl) ?_
      refine gF_X9_7 (pc := 37) Cx hW ms_0 rfl dX9_dies_37 ?_
      refine lv_aload_n (pc := 40) hx hb dX9_dies_40 rfl (lv_at hl 0 rfl) ?_
      refine lv_iload_n (pc := 41) hx hb dX9_dies_41 rfl (lv_at hl 1 rfl) ?_
      obtain ⟨x11, hc10, hf⟩ := um_bi hf
      refine um_cVi (pc := 42) (As := [.int a1]) (rest := [.ref (α 1)]) Cx (c_X9_manAt a1 hc10) kV_X9_manAt (Or.inl qM_X9_66) hW hS ms_0 rfl rfl hl rfl (Nat.le_of_ble_eq_true rfl) (Nat.le_of_ble_eq_true rfl) (Nat.le_of_ble_eq_true rfl) dX9_dies_42 (Nat.le_refl _) (Nat.le_refl _) ?_
      clear hW hS hc10
      intro H locs hW hS
      refine lv_iconst (pc := 45) (v := (4 : Int32)) hx hb dX9_dies_45 (by decide) ?_
      refine lv_iadd (pc := 46) hx hb dX9_dies_46 ?_
      refine lv_iconst (pc := 47) (v := (-1 : Int32)) hx hb dX9_dies_47 (by decide) ?_
      obtain ⟨g12, hf⟩ := um_gu hf
      refine um_iast (pc := 48) Cx hW hS ms_1 rfl (um_ix_in g12) dX9_dies_48 ?_
      clear hW hS
      intro H locs hW hS
      obtain ⟨σ13, e14, hf⟩ := um_le hf
      rw [← e14] at hW
      clear e14
      refine lv_iconst (pc := 49) (v := (1 : Int32)) hx hb dX9_dies_49 (by decide) ?_
      exact um_iret (pc := 50) Cx hW hS hf dX9_dies_50
    · have hf := um_ie c1 hf
      clear c1
      refine lv_ldc (pc := 19) hx hb hown (hts _ qC_X9_106) dX9_dies_19 ?_
      exact um_iret (pc := 21) Cx hW hS hf dX9_dies_21
  · have hf := um_it c1 hf
    clear c1
    refine lv_ldc (pc := 8) hx hb hown (hts _ qC_X9_87) dX9_dies_8 ?_
    exact um_iret (pc := 10) Cx hW hS hf dX9_dies_10
theorem c_X9_dies {σ : um_S} {σ' : um_S} {r : Int32} (a1 : Int32)  (hf : f_X9_dies a1 σ = some (r, σ')) : um_M l yX9_dies cX9_dies 2 (some FieldType.int) (2) (46) Z msh α σ [.ref (α 0), .int a1] (some (.int r)) σ' :=
  um_start (by decide) (Nat.le_of_ble_eq_true rfl) (fun p e s m below meth c ls Cx hW hS hl => b_X9_dies a1 hf Cx hW hS hl)
noncomputable def f_X9_dueBy_l9 (v2 : Int32) (v3 : Int32) : Nat → Int32 → um_S → Option ((Int32 × um_S) ⊕ (um_S))
  | 0, _, _ => none
  | n + 1, v4, σ =>
    if (600 : Int32) ≤ v4 then
    (some (.inr σ))
    else
    (if um_ix (v3 + (10 : Int32)) 3790 then
    (if um_ix (v3 + (12 : Int32)) 3790 then
    (um_b2 (f_X9_ruleOf (0 : Int32) (((σ.1 1 0) + v4) - (σ.1 1 (v3 + (10 : Int32)).toNatClampNeg)) v2 (σ.1 1 (v3 + (12 : Int32)).toNatClampNeg) σ) fun x5 σ4 =>
    (if x5 = 0 then
    (f_X9_dueBy_l9 v2 v3 n (v4 + (1 : Int32)) σ4)
    else
    (some (.inl ((σ4.1 1 0) + v4, σ4))))) else none) else none)
noncomputable def f_X9_dueBy (a1 : Int32) (a2 : Int32) (σ : um_S) : Option (Int32 × um_S) :=
    (f_X9_manAt a1 σ).bind fun x2 =>
    (um_s1 (f_X9_dueBy_l9 a2 x2 um_N (0 : Int32) σ) fun σ3 =>
    (some ((-1000000005 : Int32), σ3)))
set_option maxRecDepth 100000 in
set_option maxHeartbeats 4000000 in
theorem t_X9_dueBy_l9 {σ' : um_S} {r : Int32} {out : (Int32 × um_S) ⊕ (um_S)}  (v2 : Int32) (v3 : Int32)  (Cx : um_C p s m meth c args cX9_dueBy 5 (some FieldType.int) RX9 Z) (hR : ∀ a, out = .inl a → some a = some (r, σ')) (hE : ∀ (σo : um_S), out = .inr σo → ∀ (H : Heap) (locs : List Loc) (ls : Array Slot), um_W Z msh α σo H → va_S (um_D msh α) s.heap H locs → lv_has ls 5 [] → um_G p l e (3) (72) s m args below meth c Z msh α σ' (some (.int r)) H locs (F0 m 70 ls [])) : ∀ (n : Nat) (v4 : Int32) (σ : um_S) (H : Heap) (locs : List Loc) (ls : Array Slot), f_X9_dueBy_l9 v2 v3 n v4 σ = some out → um_W Z msh α σ H → va_S (um_D msh α) s.heap H locs → lv_has ls 5 [(0, .ref (α 0)), (2, .int v2), (3, .int v3), (4, .int v4)] → um_G p l e (3) (72) s m args below meth c Z msh α σ' (some (.int r)) H locs (F0 m 9 ls []) := by
  have hx := Cx.1
  have hb := Cx.2.1
  have hown := Cx.2.2.2.2.1
  have hts := Cx.2.2.2.2.2.1
  intro n
  induction n with
  | zero =>
    intro v4 σ H locs ls hf hW hS hl
    cases hf
  | succ n ih =>
    intro v4 σ H locs ls hf hW hS hl
    rw [f_X9_dueBy_l9] at hf
    refine lv_iload (pc := 9) hx hb dX9_dueBy_9 (lv_at hl 3 rfl) ?_
    refine lv_sipush (pc := 11) (v := (600 : Int32)) hx hb dX9_dueBy_11 (by decide) ?_
    refine lv_icmp_ge (pc := 14) (tgt := 70) hx hb dX9_dueBy_14 (by decide) (fun c1 => ?_) (fun c1 => ?_)
    · have hf := um_it c1 hf
      clear c1
      exact hE _ (Option.some.inj hf).symm _ _ _ hW hS (lv_sub hl [] rfl)
    · have hf := um_ie c1 hf
      clear c1
      refine lv_aload_n (pc := 17) hx hb dX9_dueBy_17 rfl (lv_at hl 0 rfl) ?_
      refine lv_iconst (pc := 18) (v := (0 : Int32)) hx hb dX9_dueBy_18 (by decide) ?_
      refine lv_aload_n (pc := 19) hx hb dX9_dueBy_19 rfl (lv_at hl 0 rfl) ?_
      refine gF_X9_7 (pc := 20) Cx hW ms_0 rfl dX9_dueBy_20 ?_
      refine lv_iconst (pc := 23) (v := (0 : Int32)) hx hb dX9_dueBy_23 (by decide) ?_
      refine um_iaj (pc := 24) (n := 3790) 0 rfl Cx hW ms_1 rfl (um_ix_in (by decide)) dX9_dueBy_24 ?_
      refine lv_iload (pc := 25) hx hb dX9_dueBy_25 (lv_at hl 3 rfl) ?_
      refine lv_iadd (pc := 27) hx hb dX9_dueBy_27 ?_
      refine lv_aload_n (pc := 28) hx hb dX9_dueBy_28 rfl (lv_at hl 0 rfl) ?_
      refine gF_X9_7 (pc := 29) Cx hW ms_0 rfl dX9_dueBy_29 ?_
      refine lv_iload_n (pc := 32) hx hb dX9_dueBy_32 rfl (lv_at hl 2 rfl) ?_
      refine lv_bipush (pc := 33) (v := (10 : Int32)) hx hb dX9_dueBy_33 (by decide) ?_
      refine lv_iadd (pc := 35) hx hb dX9_dueBy_35 ?_
      obtain ⟨g1, hf⟩ := um_gu hf
      refine um_iald (pc := 36) Cx hW ms_1 rfl (um_ix_in g1) dX9_dueBy_36 ?_
      refine lv_isub (pc := 37) hx hb dX9_dueBy_37 ?_
      refine lv_iload_n (pc := 38) hx hb dX9_dueBy_38 rfl (lv_at hl 1 rfl) ?_
      refine lv_aload_n (pc := 39) hx hb dX9_dueBy_39 rfl (lv_at hl 0 rfl) ?_
      refine gF_X9_7 (pc := 40) Cx hW ms_0 rfl dX9_dueBy_40 ?_
      refine lv_iload_n (pc := 43) hx hb dX9_dueBy_43 rfl (lv_at hl 2 rfl) ?_
      refine lv_bipush (pc := 44) (v := (12 : Int32)) hx hb dX9_dueBy_44 (by decide) ?_
      refine lv_iadd (pc := 46) hx hb dX9_dueBy_46 ?_
      obtain ⟨g2, hf⟩ := um_gu hf
      refine um_iald (pc := 47) Cx hW ms_1 rfl (um_ix_in g2) dX9_dueBy_47 ?_
      obtain ⟨x5, σ4, hc3, hf⟩ := um_bi2 hf
      refine um_cVi (pc := 48) (As := [.int (0 : Int32), .int (((σ.1 1 0) + v4) - (σ.1 1 (v3 + (10 : Int32)).toNatClampNeg)), .int v2, .int (σ.1 1 (v3 + (12 : Int32)).toNatClampNeg)]) (rest := []) Cx (c_X9_ruleOf (0 : Int32) (((σ.1 1 0) + v4) - (σ.1 1 (v3 + (10 : Int32)).toNatClampNeg)) v2 (σ.1 1 (v3 + (12 : Int32)).toNatClampNeg) hc3) kV_X9_ruleOf (Or.inl qM_X9_256) hW hS ms_0 rfl rfl hl rfl (Nat.le_of_ble_eq_true rfl) (Nat.le_of_ble_eq_true rfl) (Nat.le_of_ble_eq_true rfl) dX9_dueBy_48 (Nat.le_refl _) (Nat.le_refl _) ?_
      clear hW hS hc3
      intro H locs hW hS
      refine lv_if_eq (pc := 51) (tgt := 64) hx hb dX9_dueBy_51 (by decide) (fun c1 => ?_) (fun c1 => ?_)
      · have hf := um_it c1 hf
        clear c1
        refine lv_iinc (pc := 64) (v := v4 + (1 : Int32)) (lv' := [(4, .int (v4 + (1 : Int32))), (0, .ref (α 0)), (2, .int v2), (3, .int v3)]) hx hb dX9_dueBy_64 hl (k := 3) rfl rfl (by decide) rfl ?_
        clear hl
        intro ls hl
        refine lv_goto (pc := 67) (tgt := 9) hx hb dX9_dueBy_67 (by decide) ?_
        exact ih _ _ _ _ _ hf hW hS (lv_sub hl [1, 2, 3, 0] rfl)
      · have hf := um_ie c1 hf
        clear c1
        refine lv_aload_n (pc := 54) hx hb dX9_dueBy_54 rfl (lv_at hl 0 rfl) ?_
        refine gF_X9_7 (pc := 55) Cx hW ms_0 rfl dX9_dueBy_55 ?_
        refine lv_iconst (pc := 58) (v := (0 : Int32)) hx hb dX9_dueBy_58 (by decide) ?_
        refine um_iaj (pc := 59) (n := 3790) 0 rfl Cx hW ms_1 rfl (um_ix_in (by decide)) dX9_dueBy_59 ?_
        refine lv_iload (pc := 60) hx hb dX9_dueBy_60 (lv_at hl 3 rfl) ?_
        refine lv_iadd (pc := 62) hx hb dX9_dueBy_62 ?_
        exact um_iret (pc := 63) Cx hW hS (hR _ (Option.some.inj hf).symm) dX9_dueBy_63
set_option maxRecDepth 100000 in
set_option maxHeartbeats 4000000 in
theorem b_X9_dueBy {H : Heap} {locs : List Loc} {ls : Array Slot} {σ : um_S} {σ' : um_S} {r : Int32} (a1 : Int32) (a2 : Int32)  (hf : f_X9_dueBy a1 a2 σ = some (r, σ')) (Cx : um_C p s m meth c args cX9_dueBy 5 (some FieldType.int) RX9 Z) (hW : um_W Z msh α σ H) (hS : va_S (um_D msh α) s.heap H locs) (hl : lv_has ls 5 [(0, .ref (α 0)), (1, .int a1), (2, .int a2)]) : um_G p l e (3) (72) s m args below meth c Z msh α σ' (some (.int r)) H locs (F0 m 0 ls []) := by
  have hx := Cx.1
  have hb := Cx.2.1
  have hown := Cx.2.2.2.2.1
  have hts := Cx.2.2.2.2.2.1
  rw [f_X9_dueBy] at hf
  refine lv_aload_n (pc := 0) hx hb dX9_dueBy_0 rfl (lv_at hl 0 rfl) ?_
  refine lv_iload_n (pc := 1) hx hb dX9_dueBy_1 rfl (lv_at hl 1 rfl) ?_
  obtain ⟨x2, hc1, hf⟩ := um_bi hf
  refine um_cVi (pc := 2) (As := [.int a1]) (rest := []) Cx (c_X9_manAt a1 hc1) kV_X9_manAt (Or.inl qM_X9_66) hW hS ms_0 rfl rfl hl rfl (Nat.le_of_ble_eq_true rfl) (Nat.le_of_ble_eq_true rfl) (Nat.le_of_ble_eq_true rfl) dX9_dueBy_2 (Nat.le_refl _) (Nat.le_refl _) ?_
  clear hW hS hc1
  intro H locs hW hS
  refine lv_istore_n (pc := 5) (lv' := [(3, .int x2), (0, .ref (α 0)), (1, .int a1), (2, .int a2)]) hx hb dX9_dueBy_5 rfl hl (by decide) rfl ?_
  clear hl
  intro ls hl
  refine lv_iconst (pc := 6) (v := (0 : Int32)) hx hb dX9_dueBy_6 (by decide) ?_
  refine lv_istore (pc := 7) (lv' := [(4, .int (0 : Int32)), (3, .int x2), (0, .ref (α 0)), (1, .int a1), (2, .int a2)]) hx hb dX9_dueBy_7 hl (by decide) rfl ?_
  clear hl
  intro ls hl
  obtain ⟨q5, hc4, hr6, hg7⟩ := um_si1 hf
  refine t_X9_dueBy_l9 a2 x2 Cx hr6 ?_ um_N _ _ _ _ _ hc4 hW hS (lv_sub hl [2, 4, 1, 0] rfl)
  clear hW hS hl hc4
  intro σ3 hq8 H locs ls hW hS hl
  have hf := hg7 _ hq8
  refine lv_ldc (pc := 70) hx hb hown (hts _ qC_X9_59) dX9_dueBy_70 ?_
  exact um_iret (pc := 72) Cx hW hS hf dX9_dueBy_72
theorem c_X9_dueBy {σ : um_S} {σ' : um_S} {r : Int32} (a1 : Int32) (a2 : Int32)  (hf : f_X9_dueBy a1 a2 σ = some (r, σ')) : um_M l yX9_dueBy cX9_dueBy 5 (some FieldType.int) (3) (72) Z msh α σ [.ref (α 0), .int a1, .int a2] (some (.int r)) σ' :=
  um_start (by decide) (Nat.le_of_ble_eq_true rfl) (fun p e s m below meth c ls Cx hW hS hl => b_X9_dueBy a1 a2 hf Cx hW hS hl)
noncomputable def f_X9_due (a1 : Int32) (σ : um_S) : Option (Int32 × um_S) :=
    (f_X9_isMan a1 σ).bind fun x2 =>
    (if (um_b x2) = 0 then
    (some ((-1000000001 : Int32), σ))
    else
    ((f_X9_isOut a1 σ).bind fun x4 =>
    (if (um_b x4) = 0 then
    ((f_X9_marksOf a1 σ).bind fun x6 =>
    (um_b2 (f_X9_dueBy a1 x6 σ) fun x9 σ8 =>
    (some (x9, σ8))))
    else
    (some ((-1000000002 : Int32), σ)))))
set_option maxRecDepth 100000 in
set_option maxHeartbeats 4000000 in
theorem b_X9_due {H : Heap} {locs : List Loc} {ls : Array Slot} {σ : um_S} {σ' : um_S} {r : Int32} (a1 : Int32)  (hf : f_X9_due a1 σ = some (r, σ')) (Cx : um_C p s m meth c args cX9_due 2 (some FieldType.int) RX9 Z) (hW : um_W Z msh α σ H) (hS : va_S (um_D msh α) s.heap H locs) (hl : lv_has ls 2 [(0, .ref (α 0)), (1, .int a1)]) : um_G p l e (4) (96) s m args below meth c Z msh α σ' (some (.int r)) H locs (F0 m 0 ls []) := by
  have hx := Cx.1
  have hb := Cx.2.1
  have hown := Cx.2.2.2.2.1
  have hts := Cx.2.2.2.2.2.1
  rw [f_X9_due] at hf
  refine lv_aload_n (pc := 0) hx hb dX9_due_0 rfl (lv_at hl 0 rfl) ?_
  refine lv_iload_n (pc := 1) hx hb dX9_due_1 rfl (lv_at hl 1 rfl) ?_
  obtain ⟨x2, hc1, hf⟩ := um_bi hf
  refine um_cVi (pc := 2) (As := [.int a1]) (rest := []) Cx (c_X9_isMan a1 hc1) kV_X9_isMan (Or.inl qM_X9_101) hW hS ms_0 rfl rfl hl rfl (Nat.le_of_ble_eq_true rfl) (Nat.le_of_ble_eq_true rfl) (Nat.le_of_ble_eq_true rfl) dX9_due_2 (Nat.le_refl _) (Nat.le_refl _) ?_
  clear hW hS hc1
  intro H locs hW hS
  refine lv_if_ne (pc := 5) (tgt := 11) hx hb dX9_due_5 (by decide) (fun c1 => ?_) (fun c1 => ?_)
  · have hf := um_ie c1 hf
    clear c1
    refine lv_aload_n (pc := 11) hx hb dX9_due_11 rfl (lv_at hl 0 rfl) ?_
    refine lv_iload_n (pc := 12) hx hb dX9_due_12 rfl (lv_at hl 1 rfl) ?_
    obtain ⟨x4, hc3, hf⟩ := um_bi hf
    refine um_cVi (pc := 13) (As := [.int a1]) (rest := []) Cx (c_X9_isOut a1 hc3) kV_X9_isOut (Or.inl qM_X9_262) hW hS ms_0 rfl rfl hl rfl (Nat.le_of_ble_eq_true rfl) (Nat.le_of_ble_eq_true rfl) (Nat.le_of_ble_eq_true rfl) dX9_due_13 (Nat.le_refl _) (Nat.le_refl _) ?_
    clear hW hS hc3
    intro H locs hW hS
    refine lv_if_eq (pc := 16) (tgt := 24) hx hb dX9_due_16 (by decide) (fun c1 => ?_) (fun c1 => ?_)
    · have hf := um_it c1 hf
      clear c1
      refine lv_aload_n (pc := 24) hx hb dX9_due_24 rfl (lv_at hl 0 rfl) ?_
      refine lv_iload_n (pc := 25) hx hb dX9_due_25 rfl (lv_at hl 1 rfl) ?_
      refine lv_aload_n (pc := 26) hx hb dX9_due_26 rfl (lv_at hl 0 rfl) ?_
      refine lv_iload_n (pc := 27) hx hb dX9_due_27 rfl (lv_at hl 1 rfl) ?_
      obtain ⟨x6, hc5, hf⟩ := um_bi hf
      refine um_cVi (pc := 28) (As := [.int a1]) (rest := [.int a1, .ref (α 0)]) Cx (c_X9_marksOf a1 hc5) kV_X9_marksOf (Or.inl qM_X9_116) hW hS ms_0 rfl rfl hl rfl (Nat.le_of_ble_eq_true rfl) (Nat.le_of_ble_eq_true rfl) (Nat.le_of_ble_eq_true rfl) dX9_due_28 (Nat.le_refl _) (Nat.le_refl _) ?_
      clear hW hS hc5
      intro H locs hW hS
      obtain ⟨x9, σ8, hc7, hf⟩ := um_bi2 hf
      refine um_cVi (pc := 31) (As := [.int a1, .int x6]) (rest := []) Cx (c_X9_dueBy a1 x6 hc7) kV_X9_dueBy (Or.inl qM_X9_271) hW hS ms_0 rfl rfl hl rfl (Nat.le_of_ble_eq_true rfl) (Nat.le_of_ble_eq_true rfl) (Nat.le_of_ble_eq_true rfl) dX9_due_31 (Nat.le_refl _) (Nat.le_refl _) ?_
      clear hW hS hc7
      intro H locs hW hS
      exact um_iret (pc := 34) Cx hW hS hf dX9_due_34
    · have hf := um_ie c1 hf
      clear c1
      refine lv_ldc (pc := 19) hx hb hown (hts _ qC_X9_106) dX9_due_19 ?_
      refine lv_goto (pc := 21) (tgt := 34) hx hb dX9_due_21 (by decide) ?_
      exact um_iret (pc := 34) Cx hW hS hf dX9_due_34
  · have hf := um_it c1 hf
    clear c1
    refine lv_ldc (pc := 8) hx hb hown (hts _ qC_X9_87) dX9_due_8 ?_
    exact um_iret (pc := 10) Cx hW hS hf dX9_due_10
theorem c_X9_due {σ : um_S} {σ' : um_S} {r : Int32} (a1 : Int32)  (hf : f_X9_due a1 σ = some (r, σ')) : um_M l yX9_due cX9_due 2 (some FieldType.int) (4) (96) Z msh α σ [.ref (α 0), .int a1] (some (.int r)) σ' :=
  um_start (by decide) (Nat.le_of_ble_eq_true rfl) (fun p e s m below meth c ls Cx hW hS hl => b_X9_due a1 hf Cx hW hS hl)
noncomputable def f_X9_feed_l18 (v1 : Int32) (v2 : Int32) (v3 : Int32) : Nat → Int32 → um_S → Option (um_S)
  | 0, _, _ => none
  | n + 1, v4, σ =>
    if (12 : Int32) ≤ v4 then
    (some σ)
    else
    (um_let (fun (x2 : Int32) =>
    (if um_ix (σ.1 0 8) 96 then
    (um_let (um_wr σ 7 (σ.1 0 8).toNatClampNeg ((x2 >>> (((24 : Int32) - ((8 : Int32) * (v4 - v4 / (4 : Int32) * (4 : Int32)))) &&& 31)) &&& (255 : Int32))) fun σ4 =>
    (um_let (um_wr σ4 0 8 ((σ4.1 0 8) + (1 : Int32))) fun σ6 =>
    (f_X9_feed_l18 v1 v2 v3 n (v4 + (1 : Int32)) σ6))) else none)) fun k1 =>
    (if (4 : Int32) ≤ v4 then
    (if (8 : Int32) ≤ v4 then
    (k1 v3)
    else
    (k1 v2))
    else
    (k1 v1)))
noncomputable def f_X9_feed (a1 : Int32) (a2 : Int32) (a3 : Int32) (σ : um_S) : Option (Int32 × um_S) :=
    if ((σ.1 0 8) + (12 : Int32)) ≤ (96 : Int32) then
    ((f_X9_feed_l18 a1 a2 a3 um_N (0 : Int32) σ).bind fun σ1 =>
    (some (σ1.1 0 8, σ1)))
    else
    (some ((-1000000003 : Int32), σ))
set_option maxRecDepth 100000 in
set_option maxHeartbeats 4000000 in
theorem t_X9_feed_l18 {Q : State → Prop} {σo : um_S} (v1 : Int32) (v2 : Int32) (v3 : Int32)  (Cx : um_C p s m meth c args cX9_feed 6 (some FieldType.int) RX9 Z) (hE : ∀ (H : Heap) (locs : List Loc) (ls : Array Slot), um_W Z msh α σo H → va_S (um_D msh α) s.heap H locs → lv_has ls 6 [(0, .ref (α 0))] → W p l e { frames := 0, cells := 0, slots := 0, locals := 0 } s m args below meth c H locs 0 0 Q (F0 m 91 ls [])) : ∀ (n : Nat) (v4 : Int32) (σ : um_S) (H : Heap) (locs : List Loc) (ls : Array Slot), f_X9_feed_l18 v1 v2 v3 n v4 σ = some σo → um_W Z msh α σ H → va_S (um_D msh α) s.heap H locs → lv_has ls 6 [(0, .ref (α 0)), (1, .int v1), (2, .int v2), (3, .int v3), (4, .int v4)] → W p l e { frames := 0, cells := 0, slots := 0, locals := 0 } s m args below meth c H locs 0 0 Q (F0 m 18 ls []) := by
  have hx := Cx.1
  have hb := Cx.2.1
  have hown := Cx.2.2.2.2.1
  have hts := Cx.2.2.2.2.2.1
  intro n
  induction n with
  | zero =>
    intro v4 σ H locs ls hf hW hS hl
    cases hf
  | succ n ih =>
    intro v4 σ H locs ls hf hW hS hl
    rw [f_X9_feed_l18] at hf
    refine lv_iload (pc := 18) hx hb dX9_feed_18 (lv_at hl 4 rfl) ?_
    refine lv_bipush (pc := 20) (v := (12 : Int32)) hx hb dX9_feed_20 (by decide) ?_
    refine lv_icmp_ge (pc := 22) (tgt := 91) hx hb dX9_feed_22 (by decide) (fun c1 => ?_) (fun c1 => ?_)
    · have hf := um_it c1 hf
      clear c1
      cases hf
      exact hE _ _ _ hW hS (lv_sub hl [0] rfl)
    · have hf := um_ie c1 hf
      clear c1
      refine lv_iload (pc := 25) hx hb dX9_feed_25 (lv_at hl 4 rfl) ?_
      refine lv_iconst (pc := 27) (v := (4 : Int32)) hx hb dX9_feed_27 (by decide) ?_
      obtain ⟨k1, hk1, hf⟩ := um_j1 hf
      have J1 : ∀ (x2 : Int32), k1 x2 = some σo → ∀ (H : Heap) (locs : List Loc) (ls : Array Slot), um_W Z msh α σ H → va_S (um_D msh α) s.heap H locs → lv_has ls 6 [(0, .ref (α 0)), (1, .int v1), (2, .int v2), (3, .int v3), (4, .int v4)] → W p l e { frames := 0, cells := 0, slots := 0, locals := 0 } s m args below meth c H locs 0 0 Q (F0 m 47 ls [.int x2]) := by
        intro x2 hf H locs ls hW hS hl
        rw [hk1] at hf
        refine lv_istore (pc := 47) (lv' := [(5, .int x2), (0, .ref (α 0)), (1, .int v1), (2, .int v2), (3, .int v3), (4, .int v4)]) hx hb dX9_feed_47 hl (by decide) rfl ?_
        clear hl
        intro ls hl
        refine lv_aload_n (pc := 49) hx hb dX9_feed_49 rfl (lv_at hl 1 rfl) ?_
        refine gF_X9_28 (pc := 50) Cx hW ms_0 rfl dX9_feed_50 ?_
        refine lv_aload_n (pc := 53) hx hb dX9_feed_53 rfl (lv_at hl 1 rfl) ?_
        refine gF_X9_140 (pc := 54) Cx hW ms_0 rfl dX9_feed_54 ?_
        refine lv_iload (pc := 57) hx hb dX9_feed_57 (lv_at hl 0 rfl) ?_
        refine lv_bipush (pc := 59) (v := (24 : Int32)) hx hb dX9_feed_59 (by decide) ?_
        refine lv_bipush (pc := 61) (v := (8 : Int32)) hx hb dX9_feed_61 (by decide) ?_
        refine lv_iload (pc := 63) hx hb dX9_feed_63 (lv_at hl 5 rfl) ?_
        refine lv_iconst (pc := 65) (v := (4 : Int32)) hx hb dX9_feed_65 (by decide) ?_
        refine lv_irem (pc := 66) hx hb dX9_feed_66 (by decide) ?_
        refine lv_imul (pc := 67) hx hb dX9_feed_67 ?_
        refine lv_isub (pc := 68) hx hb dX9_feed_68 ?_
        refine lv_ishr (pc := 69) hx hb dX9_feed_69 ?_
        refine lv_sipush (pc := 70) (v := (255 : Int32)) hx hb dX9_feed_70 (by decide) ?_
        refine lv_iand (pc := 73) hx hb dX9_feed_73 ?_
        obtain ⟨g3, hf⟩ := um_gu hf
        refine um_iast (pc := 74) Cx hW hS ms_7 rfl (um_ix_in g3) dX9_feed_74 ?_
        clear hW hS
        intro H locs hW hS
        obtain ⟨σ4, e5, hf⟩ := um_le hf
        rw [← e5] at hW
        clear e5
        refine lv_aload_n (pc := 75) hx hb dX9_feed_75 rfl (lv_at hl 1 rfl) ?_
        refine lv_dup (pc := 76) hx hb dX9_feed_76 rfl ?_
        refine gF_X9_140 (pc := 77) Cx hW ms_0 rfl dX9_feed_77 ?_
        refine lv_iconst (pc := 80) (v := (1 : Int32)) hx hb dX9_feed_80 (by decide) ?_
        refine lv_iadd (pc := 81) hx hb dX9_feed_81 ?_
        refine gP_X9_140 (pc := 82) Cx hW hS ms_0 rfl dX9_feed_82 ?_
        clear hW hS
        intro H locs hW hS
        obtain ⟨σ6, e7, hf⟩ := um_le hf
        rw [← e7] at hW
        clear e7
        refine lv_iinc (pc := 85) (v := v4 + (1 : Int32)) (lv' := [(4, .int (v4 + (1 : Int32))), (5, .int x2), (0, .ref (α 0)), (1, .int v1), (2, .int v2), (3, .int v3)]) hx hb dX9_feed_85 hl (k := 5) rfl rfl (by decide) rfl ?_
        clear hl
        intro ls hl
        refine lv_goto (pc := 88) (tgt := 18) hx hb dX9_feed_88 (by decide) ?_
        exact ih _ _ _ _ _ hf hW hS (lv_sub hl [2, 3, 4, 5, 0] rfl)
      refine lv_icmp_ge (pc := 28) (tgt := 35) hx hb dX9_feed_28 (by decide) (fun c1 => ?_) (fun c1 => ?_)
      · have hf := um_it c1 hf
        clear c1
        refine lv_iload (pc := 35) hx hb dX9_feed_35 (lv_at hl 4 rfl) ?_
        refine lv_bipush (pc := 37) (v := (8 : Int32)) hx hb dX9_feed_37 (by decide) ?_
        refine lv_icmp_ge (pc := 39) (tgt := 46) hx hb dX9_feed_39 (by decide) (fun c1 => ?_) (fun c1 => ?_)
        · have hf := um_it c1 hf
          clear c1
          refine lv_iload_n (pc := 46) hx hb dX9_feed_46 rfl (lv_at hl 3 rfl) ?_
          exact J1 v3 hf _ _ _ hW hS hl
        · have hf := um_ie c1 hf
          clear c1
          refine lv_iload_n (pc := 42) hx hb dX9_feed_42 rfl (lv_at hl 2 rfl) ?_
          refine lv_goto (pc := 43) (tgt := 47) hx hb dX9_feed_43 (by decide) ?_
          exact J1 v2 hf _ _ _ hW hS hl
      · have hf := um_ie c1 hf
        clear c1
        refine lv_iload_n (pc := 31) hx hb dX9_feed_31 rfl (lv_at hl 1 rfl) ?_
        refine lv_goto (pc := 32) (tgt := 47) hx hb dX9_feed_32 (by decide) ?_
        exact J1 v1 hf _ _ _ hW hS hl
set_option maxRecDepth 100000 in
set_option maxHeartbeats 4000000 in
theorem b_X9_feed {H : Heap} {locs : List Loc} {ls : Array Slot} {σ : um_S} {σ' : um_S} {r : Int32} (a1 : Int32) (a2 : Int32) (a3 : Int32)  (hf : f_X9_feed a1 a2 a3 σ = some (r, σ')) (Cx : um_C p s m meth c args cX9_feed 6 (some FieldType.int) RX9 Z) (hW : um_W Z msh α σ H) (hS : va_S (um_D msh α) s.heap H locs) (hl : lv_has ls 6 [(0, .ref (α 0)), (1, .int a1), (2, .int a2), (3, .int a3)]) : um_G p l e (0) (0) s m args below meth c Z msh α σ' (some (.int r)) H locs (F0 m 0 ls []) := by
  have hx := Cx.1
  have hb := Cx.2.1
  have hown := Cx.2.2.2.2.1
  have hts := Cx.2.2.2.2.2.1
  rw [f_X9_feed] at hf
  refine lv_aload_n (pc := 0) hx hb dX9_feed_0 rfl (lv_at hl 0 rfl) ?_
  refine gF_X9_140 (pc := 1) Cx hW ms_0 rfl dX9_feed_1 ?_
  refine lv_bipush (pc := 4) (v := (12 : Int32)) hx hb dX9_feed_4 (by decide) ?_
  refine lv_iadd (pc := 6) hx hb dX9_feed_6 ?_
  refine lv_bipush (pc := 7) (v := (96 : Int32)) hx hb dX9_feed_7 (by decide) ?_
  refine lv_icmp_le (pc := 9) (tgt := 15) hx hb dX9_feed_9 (by decide) (fun c1 => ?_) (fun c1 => ?_)
  · have hf := um_it c1 hf
    clear c1
    refine lv_iconst (pc := 15) (v := (0 : Int32)) hx hb dX9_feed_15 (by decide) ?_
    refine lv_istore (pc := 16) (lv' := [(4, .int (0 : Int32)), (0, .ref (α 0)), (1, .int a1), (2, .int a2), (3, .int a3)]) hx hb dX9_feed_16 hl (by decide) rfl ?_
    clear hl
    intro ls hl
    obtain ⟨σ1, hc2, hf⟩ := um_bi hf
    refine t_X9_feed_l18 a1 a2 a3 Cx ?_ um_N _ _ _ _ _ hc2 hW hS (lv_sub hl [1, 2, 3, 4, 0] rfl)
    clear hW hS hl hc2
    intro H locs ls hW hS hl
    refine lv_aload_n (pc := 91) hx hb dX9_feed_91 rfl (lv_at hl 0 rfl) ?_
    refine gF_X9_140 (pc := 92) Cx hW ms_0 rfl dX9_feed_92 ?_
    exact um_iret (pc := 95) Cx hW hS hf dX9_feed_95
  · have hf := um_ie c1 hf
    clear c1
    refine lv_ldc (pc := 12) hx hb hown (hts _ qC_X9_88) dX9_feed_12 ?_
    exact um_iret (pc := 14) Cx hW hS hf dX9_feed_14
theorem c_X9_feed {σ : um_S} {σ' : um_S} {r : Int32} (a1 : Int32) (a2 : Int32) (a3 : Int32)  (hf : f_X9_feed a1 a2 a3 σ = some (r, σ')) : um_M l yX9_feed cX9_feed 6 (some FieldType.int) (0) (0) Z msh α σ [.ref (α 0), .int a1, .int a2, .int a3] (some (.int r)) σ' :=
  um_start (by decide) (Nat.le_of_ble_eq_true rfl) (fun p e s m below meth c ls Cx hW hS hl => b_X9_feed a1 a2 a3 hf Cx hW hS hl)
noncomputable def f_X9_goes (a1 : Int32) (σ : um_S) : Option (Int32 × um_S) :=
    (f_X9_isMan a1 σ).bind fun x2 =>
    (if (um_b x2) = 0 then
    (some ((-1000000001 : Int32), σ))
    else
    ((f_X9_assignAll σ).bind fun σ4 =>
    (if um_ix a1 14 then
    ((f_X9_orNone (σ4.1 11 a1.toNatClampNeg) σ4).bind fun x7 =>
    (some (x7, σ4))) else none)))
set_option maxRecDepth 100000 in
set_option maxHeartbeats 4000000 in
theorem b_X9_goes {H : Heap} {locs : List Loc} {ls : Array Slot} {σ : um_S} {σ' : um_S} {r : Int32} (a1 : Int32)  (hf : f_X9_goes a1 σ = some (r, σ')) (Cx : um_C p s m meth c args cX9_goes 2 (some FieldType.int) RX9 Z) (hW : um_W Z msh α σ H) (hS : va_S (um_D msh α) s.heap H locs) (hl : lv_has ls 2 [(0, .ref (α 0)), (1, .int a1)]) : um_G p l e (36) (772) s m args below meth c Z msh α σ' (some (.int r)) H locs (F0 m 0 ls []) := by
  have hx := Cx.1
  have hb := Cx.2.1
  have hown := Cx.2.2.2.2.1
  have hts := Cx.2.2.2.2.2.1
  rw [f_X9_goes] at hf
  refine lv_aload_n (pc := 0) hx hb dX9_goes_0 rfl (lv_at hl 0 rfl) ?_
  refine lv_iload_n (pc := 1) hx hb dX9_goes_1 rfl (lv_at hl 1 rfl) ?_
  obtain ⟨x2, hc1, hf⟩ := um_bi hf
  refine um_cVi (pc := 2) (As := [.int a1]) (rest := []) Cx (c_X9_isMan a1 hc1) kV_X9_isMan (Or.inl qM_X9_101) hW hS ms_0 rfl rfl hl rfl (Nat.le_of_ble_eq_true rfl) (Nat.le_of_ble_eq_true rfl) (Nat.le_of_ble_eq_true rfl) dX9_goes_2 (Nat.le_refl _) (Nat.le_refl _) ?_
  clear hW hS hc1
  intro H locs hW hS
  refine lv_if_ne (pc := 5) (tgt := 11) hx hb dX9_goes_5 (by decide) (fun c1 => ?_) (fun c1 => ?_)
  · have hf := um_ie c1 hf
    clear c1
    refine lv_aload_n (pc := 11) hx hb dX9_goes_11 rfl (lv_at hl 0 rfl) ?_
    obtain ⟨σ4, hc3, hf⟩ := um_bi hf
    refine um_cVv (pc := 12) (As := []) (rest := []) Cx (c_X9_assignAll hc3) kV_X9_assignAll (Or.inl qM_X9_356) hW hS ms_0 rfl rfl hl rfl (Nat.le_of_ble_eq_true rfl) (Nat.le_of_ble_eq_true rfl) (Nat.le_of_ble_eq_true rfl) dX9_goes_12 (Nat.le_refl _) (Nat.le_refl _) ?_
    clear hW hS hc3
    intro H locs hW hS
    refine lv_aload_n (pc := 15) hx hb dX9_goes_15 rfl (lv_at hl 0 rfl) ?_
    refine gF_X9_40 (pc := 16) Cx hW ms_0 rfl dX9_goes_16 ?_
    refine lv_iload_n (pc := 19) hx hb dX9_goes_19 rfl (lv_at hl 1 rfl) ?_
    obtain ⟨g5, hf⟩ := um_gu hf
    refine um_iald (pc := 20) Cx hW ms_11 rfl (um_ix_in g5) dX9_goes_20 ?_
    obtain ⟨x7, hc6, hf⟩ := um_bi hf
    refine um_cSi (pc := 21) (As := [.int (σ4.1 11 a1.toNatClampNeg)]) (rest := []) Cx (c_X9_orNone (σ4.1 11 a1.toNatClampNeg) hc6) kS_X9_orNone (Or.inl qM_X9_119) hW hS rfl hl rfl (Nat.le_of_ble_eq_true rfl) (Nat.le_of_ble_eq_true rfl) (Nat.le_of_ble_eq_true rfl) dX9_goes_21 (Nat.le_refl _) (Nat.le_refl _) ?_
    clear hW hS hc6
    intro H locs hW hS
    exact um_iret (pc := 24) Cx hW hS hf dX9_goes_24
  · have hf := um_it c1 hf
    clear c1
    refine lv_ldc (pc := 8) hx hb hown (hts _ qC_X9_87) dX9_goes_8 ?_
    exact um_iret (pc := 10) Cx hW hS hf dX9_goes_10
theorem c_X9_goes {σ : um_S} {σ' : um_S} {r : Int32} (a1 : Int32)  (hf : f_X9_goes a1 σ = some (r, σ')) : um_M l yX9_goes cX9_goes 2 (some FieldType.int) (36) (772) Z msh α σ [.ref (α 0), .int a1] (some (.int r)) σ' :=
  um_start (by decide) (Nat.le_of_ble_eq_true rfl) (fun p e s m below meth c ls Cx hW hS hl => b_X9_goes a1 hf Cx hW hS hl)
noncomputable def f_X9_meanOf_l9 (v1 : Int32) (v2 : Int32) (v3 : Int32) (σ : um_S) : Nat → Int32 → Int32 → Int32 → Option (Int32 × Int32)
  | 0, _, _, _ => none
  | n + 1, v4, v5, v6 =>
    if (σ.1 1 7) ≤ v6 then
    (some (v4, v5))
    else
    (um_let ((480 : Int32) + ((3 : Int32) * v6)) fun x1 =>
    (if um_ix (x1 + (1 : Int32)) 3790 then
    (if (σ.1 1 (x1 + (1 : Int32)).toNatClampNeg) = v2 then
    (if um_ix x1 3790 then
    (um_let (fun (x6 : Int32) =>
    (if x6 = v3 then
    (f_X9_meanOf_l9 v1 v2 v3 σ n v4 v5 (v6 + (1 : Int32)))
    else
    (if um_ix (x1 + (2 : Int32)) 3790 then
    (um_let (v4 + (σ.1 1 (x1 + (2 : Int32)).toNatClampNeg)) fun x8 =>
    (f_X9_meanOf_l9 v1 v2 v3 σ n x8 (v5 + (1 : Int32)) (v6 + (1 : Int32)))) else none))) fun k5 =>
    (if (σ.1 1 x1.toNatClampNeg) = v1 then
    (k5 (1 : Int32))
    else
    (k5 (0 : Int32)))) else none)
    else
    (f_X9_meanOf_l9 v1 v2 v3 σ n v4 v5 (v6 + (1 : Int32)))) else none))
noncomputable def f_X9_meanOf (a1 : Int32) (a2 : Int32) (a3 : Int32) (σ : um_S) : Option (Int32) :=
    um_b2 (f_X9_meanOf_l9 a1 a2 a3 σ um_N (0 : Int32) (0 : Int32) (0 : Int32)) fun x1 x2 =>
    (if x2 = 0 then
    (some (-1 : Int32))
    else
    (if x2 = 0 then none else
    (some (x1 / x2))))
set_option maxRecDepth 100000 in
set_option maxHeartbeats 4000000 in
theorem t_X9_meanOf_l9 {Q : State → Prop} {o4 : Int32} {o5 : Int32} {σ : um_S} (v1 : Int32) (v2 : Int32) (v3 : Int32)  (Cx : um_C p s m meth c args cX9_meanOf 8 (some FieldType.int) RX9 Z) (hE : ∀ (H : Heap) (locs : List Loc) (ls : Array Slot), um_W Z msh α σ H → va_S (um_D msh α) s.heap H locs → lv_has ls 8 [(4, .int o4), (5, .int o5)] → W p l e { frames := 0, cells := 0, slots := 0, locals := 0 } s m args below meth c H locs 0 0 Q (F0 m 87 ls [])) : ∀ (n : Nat) (v4 : Int32) (v5 : Int32) (v6 : Int32) (H : Heap) (locs : List Loc) (ls : Array Slot), f_X9_meanOf_l9 v1 v2 v3 σ n v4 v5 v6 = some (o4, o5) → um_W Z msh α σ H → va_S (um_D msh α) s.heap H locs → lv_has ls 8 [(0, .ref (α 0)), (1, .int v1), (2, .int v2), (3, .int v3), (4, .int v4), (5, .int v5), (6, .int v6)] → W p l e { frames := 0, cells := 0, slots := 0, locals := 0 } s m args below meth c H locs 0 0 Q (F0 m 9 ls []) := by
  have hx := Cx.1
  have hb := Cx.2.1
  have hown := Cx.2.2.2.2.1
  have hts := Cx.2.2.2.2.2.1
  intro n
  induction n with
  | zero =>
    intro v4 v5 v6 H locs ls hf hW hS hl
    cases hf
  | succ n ih =>
    intro v4 v5 v6 H locs ls hf hW hS hl
    rw [f_X9_meanOf_l9] at hf
    refine lv_iload (pc := 9) hx hb dX9_meanOf_9 (lv_at hl 6 rfl) ?_
    refine lv_aload_n (pc := 11) hx hb dX9_meanOf_11 rfl (lv_at hl 0 rfl) ?_
    refine gF_X9_7 (pc := 12) Cx hW ms_0 rfl dX9_meanOf_12 ?_
    refine lv_bipush (pc := 15) (v := (7 : Int32)) hx hb dX9_meanOf_15 (by decide) ?_
    refine um_iaj (pc := 17) (n := 3790) 7 rfl Cx hW ms_1 rfl (um_ix_in (by decide)) dX9_meanOf_17 ?_
    refine lv_icmp_ge (pc := 18) (tgt := 87) hx hb dX9_meanOf_18 (by decide) (fun c1 => ?_) (fun c1 => ?_)
    · have hf := um_it c1 hf
      clear c1
      cases hf
      exact hE _ _ _ hW hS (lv_sub hl [4, 5] rfl)
    · have hf := um_ie c1 hf
      clear c1
      refine lv_sipush (pc := 21) (v := (480 : Int32)) hx hb dX9_meanOf_21 (by decide) ?_
      refine lv_iconst (pc := 24) (v := (3 : Int32)) hx hb dX9_meanOf_24 (by decide) ?_
      refine lv_iload (pc := 25) hx hb dX9_meanOf_25 (lv_at hl 6 rfl) ?_
      refine lv_imul (pc := 27) hx hb dX9_meanOf_27 ?_
      refine lv_iadd (pc := 28) hx hb dX9_meanOf_28 ?_
      obtain ⟨x1, e2, hf⟩ := um_le hf
      refine um_top e2 ?_
      clear e2
      refine lv_istore (pc := 29) (lv' := [(7, .int x1), (0, .ref (α 0)), (1, .int v1), (2, .int v2), (3, .int v3), (4, .int v4), (5, .int v5), (6, .int v6)]) hx hb dX9_meanOf_29 hl (by decide) rfl ?_
      clear hl
      intro ls hl
      refine lv_aload_n (pc := 31) hx hb dX9_meanOf_31 rfl (lv_at hl 1 rfl) ?_
      refine gF_X9_7 (pc := 32) Cx hW ms_0 rfl dX9_meanOf_32 ?_
      refine lv_iload (pc := 35) hx hb dX9_meanOf_35 (lv_at hl 0 rfl) ?_
      refine lv_iconst (pc := 37) (v := (1 : Int32)) hx hb dX9_meanOf_37 (by decide) ?_
      refine lv_iadd (pc := 38) hx hb dX9_meanOf_38 ?_
      obtain ⟨g3, hf⟩ := um_gu hf
      refine um_iald (pc := 39) Cx hW ms_1 rfl (um_ix_in g3) dX9_meanOf_39 ?_
      refine lv_iload_n (pc := 40) hx hb dX9_meanOf_40 rfl (lv_at hl 3 rfl) ?_
      refine lv_icmp_ne (pc := 41) (tgt := 81) hx hb dX9_meanOf_41 (by decide) (fun c1 => ?_) (fun c1 => ?_)
      · have hf := um_ie c1 hf
        clear c1
        refine lv_iinc (pc := 81) (v := v6 + (1 : Int32)) (lv' := [(6, .int (v6 + (1 : Int32))), (7, .int x1), (0, .ref (α 0)), (1, .int v1), (2, .int v2), (3, .int v3), (4, .int v4), (5, .int v5)]) hx hb dX9_meanOf_81 hl (k := 7) rfl rfl (by decide) rfl ?_
        clear hl
        intro ls hl
        refine lv_goto (pc := 84) (tgt := 9) hx hb dX9_meanOf_84 (by decide) ?_
        exact ih _ _ _ _ _ _ hf hW hS (lv_sub hl [2, 3, 4, 5, 6, 7, 0] rfl)
      · have hf := um_it c1 hf
        clear c1
        refine lv_aload_n (pc := 44) hx hb dX9_meanOf_44 rfl (lv_at hl 1 rfl) ?_
        refine gF_X9_7 (pc := 45) Cx hW ms_0 rfl dX9_meanOf_45 ?_
        refine lv_iload (pc := 48) hx hb dX9_meanOf_48 (lv_at hl 0 rfl) ?_
        obtain ⟨g4, hf⟩ := um_gu hf
        refine um_iald (pc := 50) Cx hW ms_1 rfl (um_ix_in g4) dX9_meanOf_50 ?_
        refine lv_iload_n (pc := 51) hx hb dX9_meanOf_51 rfl (lv_at hl 2 rfl) ?_
        obtain ⟨k5, hk5, hf⟩ := um_j1 hf
        have J5 : ∀ (x6 : Int32), k5 x6 = some (o4, o5) → ∀ (H : Heap) (locs : List Loc) (ls : Array Slot), um_W Z msh α σ H → va_S (um_D msh α) s.heap H locs → lv_has ls 8 [(0, .ref (α 0)), (1, .int v1), (2, .int v2), (3, .int v3), (4, .int v4), (5, .int v5), (6, .int v6), (7, .int x1)] → W p l e { frames := 0, cells := 0, slots := 0, locals := 0 } s m args below meth c H locs 0 0 Q (F0 m 60 ls [.int x6]) := by
          intro x6 hf H locs ls hW hS hl
          rw [hk5] at hf
          refine lv_iload_n (pc := 60) hx hb dX9_meanOf_60 rfl (lv_at hl 3 rfl) ?_
          refine lv_icmp_eq (pc := 61) (tgt := 81) hx hb dX9_meanOf_61 (by decide) (fun c1 => ?_) (fun c1 => ?_)
          · have hf := um_it c1 hf
            clear c1
            refine lv_iinc (pc := 81) (v := v6 + (1 : Int32)) (lv' := [(6, .int (v6 + (1 : Int32))), (0, .ref (α 0)), (1, .int v1), (2, .int v2), (3, .int v3), (4, .int v4), (5, .int v5), (7, .int x1)]) hx hb dX9_meanOf_81 hl (k := 6) rfl rfl (by decide) rfl ?_
            clear hl
            intro ls hl
            refine lv_goto (pc := 84) (tgt := 9) hx hb dX9_meanOf_84 (by decide) ?_
            exact ih _ _ _ _ _ _ hf hW hS (lv_sub hl [1, 2, 3, 4, 5, 6, 0] rfl)
          · have hf := um_ie c1 hf
            clear c1
            refine lv_iload (pc := 64) hx hb dX9_meanOf_64 (lv_at hl 4 rfl) ?_
            refine lv_aload_n (pc := 66) hx hb dX9_meanOf_66 rfl (lv_at hl 0 rfl) ?_
            refine gF_X9_7 (pc := 67) Cx hW ms_0 rfl dX9_meanOf_67 ?_
            refine lv_iload (pc := 70) hx hb dX9_meanOf_70 (lv_at hl 7 rfl) ?_
            refine lv_iconst (pc := 72) (v := (2 : Int32)) hx hb dX9_meanOf_72 (by decide) ?_
            refine lv_iadd (pc := 73) hx hb dX9_meanOf_73 ?_
            obtain ⟨g7, hf⟩ := um_gu hf
            refine um_iald (pc := 74) Cx hW ms_1 rfl (um_ix_in g7) dX9_meanOf_74 ?_
            refine lv_iadd (pc := 75) hx hb dX9_meanOf_75 ?_
            obtain ⟨x8, e9, hf⟩ := um_le hf
            refine um_top e9 ?_
            clear e9
            refine lv_istore (pc := 76) (lv' := [(4, .int x8), (0, .ref (α 0)), (1, .int v1), (2, .int v2), (3, .int v3), (5, .int v5), (6, .int v6), (7, .int x1)]) hx hb dX9_meanOf_76 hl (by decide) rfl ?_
            clear hl
            intro ls hl
            refine lv_iinc (pc := 78) (v := v5 + (1 : Int32)) (lv' := [(5, .int (v5 + (1 : Int32))), (4, .int x8), (0, .ref (α 0)), (1, .int v1), (2, .int v2), (3, .int v3), (6, .int v6), (7, .int x1)]) hx hb dX9_meanOf_78 hl (k := 5) rfl rfl (by decide) rfl ?_
            clear hl
            intro ls hl
            refine lv_iinc (pc := 81) (v := v6 + (1 : Int32)) (lv' := [(6, .int (v6 + (1 : Int32))), (5, .int (v5 + (1 : Int32))), (4, .int x8), (0, .ref (α 0)), (1, .int v1), (2, .int v2), (3, .int v3), (7, .int x1)]) hx hb dX9_meanOf_81 hl (k := 6) rfl rfl (by decide) rfl ?_
            clear hl
            intro ls hl
            refine lv_goto (pc := 84) (tgt := 9) hx hb dX9_meanOf_84 (by decide) ?_
            exact ih _ _ _ _ _ _ hf hW hS (lv_sub hl [3, 4, 5, 6, 2, 1, 0] rfl)
        refine lv_icmp_ne (pc := 52) (tgt := 59) hx hb dX9_meanOf_52 (by decide) (fun c1 => ?_) (fun c1 => ?_)
        · have hf := um_ie c1 hf
          clear c1
          refine lv_iconst (pc := 59) (v := (0 : Int32)) hx hb dX9_meanOf_59 (by decide) ?_
          exact J5 (0 : Int32) hf _ _ _ hW hS (lv_sub hl [1, 2, 3, 4, 5, 6, 7, 0] rfl)
        · have hf := um_it c1 hf
          clear c1
          refine lv_iconst (pc := 55) (v := (1 : Int32)) hx hb dX9_meanOf_55 (by decide) ?_
          refine lv_goto (pc := 56) (tgt := 60) hx hb dX9_meanOf_56 (by decide) ?_
          exact J5 (1 : Int32) hf _ _ _ hW hS (lv_sub hl [1, 2, 3, 4, 5, 6, 7, 0] rfl)
set_option maxRecDepth 100000 in
set_option maxHeartbeats 4000000 in
theorem b_X9_meanOf {H : Heap} {locs : List Loc} {ls : Array Slot} {σ : um_S} {r : Int32} (a1 : Int32) (a2 : Int32) (a3 : Int32)  (hf : f_X9_meanOf a1 a2 a3 σ = some r) (Cx : um_C p s m meth c args cX9_meanOf 8 (some FieldType.int) RX9 Z) (hW : um_W Z msh α σ H) (hS : va_S (um_D msh α) s.heap H locs) (hl : lv_has ls 8 [(0, .ref (α 0)), (1, .int a1), (2, .int a2), (3, .int a3)]) : um_G p l e (0) (0) s m args below meth c Z msh α σ (some (.int r)) H locs (F0 m 0 ls []) := by
  have hx := Cx.1
  have hb := Cx.2.1
  have hown := Cx.2.2.2.2.1
  have hts := Cx.2.2.2.2.2.1
  rw [f_X9_meanOf] at hf
  refine lv_iconst (pc := 0) (v := (0 : Int32)) hx hb dX9_meanOf_0 (by decide) ?_
  refine lv_istore (pc := 1) (lv' := [(4, .int (0 : Int32)), (0, .ref (α 0)), (1, .int a1), (2, .int a2), (3, .int a3)]) hx hb dX9_meanOf_1 hl (by decide) rfl ?_
  clear hl
  intro ls hl
  refine lv_iconst (pc := 3) (v := (0 : Int32)) hx hb dX9_meanOf_3 (by decide) ?_
  refine lv_istore (pc := 4) (lv' := [(5, .int (0 : Int32)), (4, .int (0 : Int32)), (0, .ref (α 0)), (1, .int a1), (2, .int a2), (3, .int a3)]) hx hb dX9_meanOf_4 hl (by decide) rfl ?_
  clear hl
  intro ls hl
  refine lv_iconst (pc := 6) (v := (0 : Int32)) hx hb dX9_meanOf_6 (by decide) ?_
  refine lv_istore (pc := 7) (lv' := [(6, .int (0 : Int32)), (5, .int (0 : Int32)), (4, .int (0 : Int32)), (0, .ref (α 0)), (1, .int a1), (2, .int a2), (3, .int a3)]) hx hb dX9_meanOf_7 hl (by decide) rfl ?_
  clear hl
  intro ls hl
  obtain ⟨x1, x2, hc3, hf⟩ := um_bi2 hf
  refine t_X9_meanOf_l9 a1 a2 a3 Cx ?_ um_N _ _ _ _ _ _ hc3 hW hS (lv_sub hl [3, 4, 5, 6, 2, 1, 0] rfl)
  clear hW hS hl hc3
  intro H locs ls hW hS hl
  refine lv_iload (pc := 87) hx hb dX9_meanOf_87 (lv_at hl 1 rfl) ?_
  refine lv_if_ne (pc := 89) (tgt := 96) hx hb dX9_meanOf_89 (by decide) (fun c1 => ?_) (fun c1 => ?_)
  · have hf := um_ie c1 hf
    clear c1
    refine lv_iload (pc := 96) hx hb dX9_meanOf_96 (lv_at hl 0 rfl) ?_
    refine lv_iload (pc := 98) hx hb dX9_meanOf_98 (lv_at hl 1 rfl) ?_
    obtain ⟨g4, hf⟩ := um_gn hf
    refine lv_idiv (pc := 100) hx hb dX9_meanOf_100 g4 ?_
    exact um_iretR (pc := 101) Cx hW hS hf dX9_meanOf_101
  · have hf := um_it c1 hf
    clear c1
    refine lv_iconst (pc := 92) (v := (-1 : Int32)) hx hb dX9_meanOf_92 (by decide) ?_
    refine lv_goto (pc := 93) (tgt := 101) hx hb dX9_meanOf_93 (by decide) ?_
    exact um_iretR (pc := 101) Cx hW hS hf dX9_meanOf_101
theorem c_X9_meanOf {σ : um_S} {r : Int32} (a1 : Int32) (a2 : Int32) (a3 : Int32)  (hf : f_X9_meanOf a1 a2 a3 σ = some r) : um_M l yX9_meanOf cX9_meanOf 8 (some FieldType.int) (0) (0) Z msh α σ [.ref (α 0), .int a1, .int a2, .int a3] (some (.int r)) σ :=
  um_start (by decide) (Nat.le_of_ble_eq_true rfl) (fun p e s m below meth c ls Cx hW hS hl => b_X9_meanOf a1 a2 a3 hf Cx hW hS hl)
noncomputable def f_X9_harsh_l19 (v1 : Int32) (σ : um_S) : Nat → Int32 → Int32 → Option (Int32)
  | 0, _, _ => none
  | n + 1, v2, v3 =>
    if (4 : Int32) ≤ v3 then
    (some v2)
    else
    ((f_X9_meanOf v3 v1 (0 : Int32) σ).bind fun x2 =>
    ((f_X9_meanOf v3 v1 (1 : Int32) σ).bind fun x4 =>
    (if x2 < 0 then
    (um_let (v2 ||| (0 : Int32)) fun x5 =>
    (f_X9_harsh_l19 v1 σ n x5 (v3 + (1 : Int32))))
    else
    (if x4 < 0 then
    (um_let (v2 ||| (0 : Int32)) fun x7 =>
    (f_X9_harsh_l19 v1 σ n x7 (v3 + (1 : Int32))))
    else
    (if x2 ≤ ((2 : Int32) * x4) then
    (um_let (v2 ||| (0 : Int32)) fun x9 =>
    (f_X9_harsh_l19 v1 σ n x9 (v3 + (1 : Int32))))
    else
    (um_let (v2 ||| ((1 : Int32) <<< (v3 &&& 31))) fun x11 =>
    (f_X9_harsh_l19 v1 σ n x11 (v3 + (1 : Int32)))))))))
noncomputable def f_X9_harsh (a1 : Int32) (σ : um_S) : Option (Int32) :=
    (f_X9_isIn (a1.toInt64) (0 : Int64) (7 : Int64) σ).bind fun x2 =>
    (if (um_b x2) = 0 then
    (some (-1000000001 : Int32))
    else
    ((f_X9_harsh_l19 a1 σ um_N (0 : Int32) (0 : Int32)).bind fun x3 =>
    (some x3)))
set_option maxRecDepth 100000 in
set_option maxHeartbeats 4000000 in
theorem t_X9_harsh_l19 {Q : State → Prop} {o2 : Int32} {σ : um_S} (v1 : Int32)  (Cx : um_C p s m meth c args cX9_harsh 6 (some FieldType.int) RX9 Z) (hE : ∀ (H : Heap) (locs : List Loc) (ls : Array Slot), um_W Z msh α σ H → va_S (um_D msh α) s.heap H locs → lv_has ls 6 [(2, .int o2)] → W p l e { frames := 1, cells := 0, slots := 0, locals := 27 } s m args below meth c H locs 0 0 Q (F0 m 77 ls [])) : ∀ (n : Nat) (v2 : Int32) (v3 : Int32) (H : Heap) (locs : List Loc) (ls : Array Slot), f_X9_harsh_l19 v1 σ n v2 v3 = some o2 → um_W Z msh α σ H → va_S (um_D msh α) s.heap H locs → lv_has ls 6 [(0, .ref (α 0)), (1, .int v1), (2, .int v2), (3, .int v3)] → W p l e { frames := 1, cells := 0, slots := 0, locals := 27 } s m args below meth c H locs 0 0 Q (F0 m 19 ls []) := by
  have hx := Cx.1
  have hb := Cx.2.1
  have hown := Cx.2.2.2.2.1
  have hts := Cx.2.2.2.2.2.1
  intro n
  induction n with
  | zero =>
    intro v2 v3 H locs ls hf hW hS hl
    cases hf
  | succ n ih =>
    intro v2 v3 H locs ls hf hW hS hl
    rw [f_X9_harsh_l19] at hf
    refine lv_iload_n (pc := 19) hx hb dX9_harsh_19 rfl (lv_at hl 3 rfl) ?_
    refine lv_iconst (pc := 20) (v := (4 : Int32)) hx hb dX9_harsh_20 (by decide) ?_
    refine lv_icmp_ge (pc := 21) (tgt := 77) hx hb dX9_harsh_21 (by decide) (fun c1 => ?_) (fun c1 => ?_)
    · have hf := um_it c1 hf
      clear c1
      cases hf
      exact hE _ _ _ hW hS (lv_sub hl [2] rfl)
    · have hf := um_ie c1 hf
      clear c1
      refine lv_aload_n (pc := 24) hx hb dX9_harsh_24 rfl (lv_at hl 0 rfl) ?_
      refine lv_iload_n (pc := 25) hx hb dX9_harsh_25 rfl (lv_at hl 3 rfl) ?_
      refine lv_iload_n (pc := 26) hx hb dX9_harsh_26 rfl (lv_at hl 1 rfl) ?_
      refine lv_iconst (pc := 27) (v := (0 : Int32)) hx hb dX9_harsh_27 (by decide) ?_
      obtain ⟨x2, hc1, hf⟩ := um_bi hf
      refine um_cVi (pc := 28) (As := [.int v3, .int v1, .int (0 : Int32)]) (rest := []) Cx (c_X9_meanOf v3 v1 (0 : Int32) hc1) kV_X9_meanOf (Or.inl qM_X9_361) hW hS ms_0 rfl rfl hl rfl (Nat.le_of_ble_eq_true rfl) (Nat.le_of_ble_eq_true rfl) (Nat.le_of_ble_eq_true rfl) dX9_harsh_28 (Nat.le_refl _) (Nat.le_refl _) ?_
      clear hW hS hc1
      intro H locs hW hS
      refine lv_istore (pc := 31) (lv' := [(4, .int x2), (0, .ref (α 0)), (1, .int v1), (2, .int v2), (3, .int v3)]) hx hb dX9_harsh_31 hl (by decide) rfl ?_
      clear hl
      intro ls hl
      refine lv_aload_n (pc := 33) hx hb dX9_harsh_33 rfl (lv_at hl 1 rfl) ?_
      refine lv_iload_n (pc := 34) hx hb dX9_harsh_34 rfl (lv_at hl 4 rfl) ?_
      refine lv_iload_n (pc := 35) hx hb dX9_harsh_35 rfl (lv_at hl 2 rfl) ?_
      refine lv_iconst (pc := 36) (v := (1 : Int32)) hx hb dX9_harsh_36 (by decide) ?_
      obtain ⟨x4, hc3, hf⟩ := um_bi hf
      refine um_cVi (pc := 37) (As := [.int v3, .int v1, .int (1 : Int32)]) (rest := []) Cx (c_X9_meanOf v3 v1 (1 : Int32) hc3) kV_X9_meanOf (Or.inl qM_X9_361) hW hS ms_0 rfl rfl hl rfl (Nat.le_of_ble_eq_true rfl) (Nat.le_of_ble_eq_true rfl) (Nat.le_of_ble_eq_true rfl) dX9_harsh_37 (Nat.le_refl _) (Nat.le_refl _) ?_
      clear hW hS hc3
      intro H locs hW hS
      refine lv_istore (pc := 40) (lv' := [(5, .int x4), (4, .int x2), (0, .ref (α 0)), (1, .int v1), (2, .int v2), (3, .int v3)]) hx hb dX9_harsh_40 hl (by decide) rfl ?_
      clear hl
      intro ls hl
      refine lv_iload_n (pc := 42) hx hb dX9_harsh_42 rfl (lv_at hl 4 rfl) ?_
      refine lv_iload (pc := 43) hx hb dX9_harsh_43 (lv_at hl 1 rfl) ?_
      refine lv_if_lt (pc := 45) (tgt := 68) hx hb dX9_harsh_45 (by decide) (fun c1 => ?_) (fun c1 => ?_)
      · have hf := um_it c1 hf
        clear c1
        refine lv_iconst (pc := 68) (v := (0 : Int32)) hx hb dX9_harsh_68 (by decide) ?_
        refine lv_ior (pc := 69) hx hb dX9_harsh_69 ?_
        obtain ⟨x5, e6, hf⟩ := um_le hf
        refine um_top e6 ?_
        clear e6
        refine lv_istore_n (pc := 70) (lv' := [(2, .int x5), (5, .int x4), (4, .int x2), (0, .ref (α 0)), (1, .int v1), (3, .int v3)]) hx hb dX9_harsh_70 rfl hl (by decide) rfl ?_
        clear hl
        intro ls hl
        refine lv_iinc (pc := 71) (v := v3 + (1 : Int32)) (lv' := [(3, .int (v3 + (1 : Int32))), (2, .int x5), (5, .int x4), (4, .int x2), (0, .ref (α 0)), (1, .int v1)]) hx hb dX9_harsh_71 hl (k := 5) rfl rfl (by decide) rfl ?_
        clear hl
        intro ls hl
        refine lv_goto (pc := 74) (tgt := 19) hx hb dX9_harsh_74 (by decide) ?_
        exact ih _ _ _ _ _ hf hW hS (lv_sub hl [4, 5, 1, 0] rfl)
      · have hf := um_ie c1 hf
        clear c1
        refine lv_iload (pc := 48) hx hb dX9_harsh_48 (lv_at hl 0 rfl) ?_
        refine lv_if_lt (pc := 50) (tgt := 68) hx hb dX9_harsh_50 (by decide) (fun c1 => ?_) (fun c1 => ?_)
        · have hf := um_it c1 hf
          clear c1
          refine lv_iconst (pc := 68) (v := (0 : Int32)) hx hb dX9_harsh_68 (by decide) ?_
          refine lv_ior (pc := 69) hx hb dX9_harsh_69 ?_
          obtain ⟨x7, e8, hf⟩ := um_le hf
          refine um_top e8 ?_
          clear e8
          refine lv_istore_n (pc := 70) (lv' := [(2, .int x7), (5, .int x4), (4, .int x2), (0, .ref (α 0)), (1, .int v1), (3, .int v3)]) hx hb dX9_harsh_70 rfl hl (by decide) rfl ?_
          clear hl
          intro ls hl
          refine lv_iinc (pc := 71) (v := v3 + (1 : Int32)) (lv' := [(3, .int (v3 + (1 : Int32))), (2, .int x7), (5, .int x4), (4, .int x2), (0, .ref (α 0)), (1, .int v1)]) hx hb dX9_harsh_71 hl (k := 5) rfl rfl (by decide) rfl ?_
          clear hl
          intro ls hl
          refine lv_goto (pc := 74) (tgt := 19) hx hb dX9_harsh_74 (by decide) ?_
          exact ih _ _ _ _ _ hf hW hS (lv_sub hl [4, 5, 1, 0] rfl)
        · have hf := um_ie c1 hf
          clear c1
          refine lv_iload (pc := 53) hx hb dX9_harsh_53 (lv_at hl 1 rfl) ?_
          refine lv_iconst (pc := 55) (v := (2 : Int32)) hx hb dX9_harsh_55 (by decide) ?_
          refine lv_iload (pc := 56) hx hb dX9_harsh_56 (lv_at hl 0 rfl) ?_
          refine lv_imul (pc := 58) hx hb dX9_harsh_58 ?_
          refine lv_icmp_le (pc := 59) (tgt := 68) hx hb dX9_harsh_59 (by decide) (fun c1 => ?_) (fun c1 => ?_)
          · have hf := um_it c1 hf
            clear c1
            refine lv_iconst (pc := 68) (v := (0 : Int32)) hx hb dX9_harsh_68 (by decide) ?_
            refine lv_ior (pc := 69) hx hb dX9_harsh_69 ?_
            obtain ⟨x9, e10, hf⟩ := um_le hf
            refine um_top e10 ?_
            clear e10
            refine lv_istore_n (pc := 70) (lv' := [(2, .int x9), (5, .int x4), (4, .int x2), (0, .ref (α 0)), (1, .int v1), (3, .int v3)]) hx hb dX9_harsh_70 rfl hl (by decide) rfl ?_
            clear hl
            intro ls hl
            refine lv_iinc (pc := 71) (v := v3 + (1 : Int32)) (lv' := [(3, .int (v3 + (1 : Int32))), (2, .int x9), (5, .int x4), (4, .int x2), (0, .ref (α 0)), (1, .int v1)]) hx hb dX9_harsh_71 hl (k := 5) rfl rfl (by decide) rfl ?_
            clear hl
            intro ls hl
            refine lv_goto (pc := 74) (tgt := 19) hx hb dX9_harsh_74 (by decide) ?_
            exact ih _ _ _ _ _ hf hW hS (lv_sub hl [4, 5, 1, 0] rfl)
          · have hf := um_ie c1 hf
            clear c1
            refine lv_iconst (pc := 62) (v := (1 : Int32)) hx hb dX9_harsh_62 (by decide) ?_
            refine lv_iload_n (pc := 63) hx hb dX9_harsh_63 rfl (lv_at hl 5 rfl) ?_
            refine lv_ishl (pc := 64) hx hb dX9_harsh_64 ?_
            refine lv_goto (pc := 65) (tgt := 69) hx hb dX9_harsh_65 (by decide) ?_
            refine lv_ior (pc := 69) hx hb dX9_harsh_69 ?_
            obtain ⟨x11, e12, hf⟩ := um_le hf
            refine um_top e12 ?_
            clear e12
            refine lv_istore_n (pc := 70) (lv' := [(2, .int x11), (5, .int x4), (4, .int x2), (0, .ref (α 0)), (1, .int v1), (3, .int v3)]) hx hb dX9_harsh_70 rfl hl (by decide) rfl ?_
            clear hl
            intro ls hl
            refine lv_iinc (pc := 71) (v := v3 + (1 : Int32)) (lv' := [(3, .int (v3 + (1 : Int32))), (2, .int x11), (5, .int x4), (4, .int x2), (0, .ref (α 0)), (1, .int v1)]) hx hb dX9_harsh_71 hl (k := 5) rfl rfl (by decide) rfl ?_
            clear hl
            intro ls hl
            refine lv_goto (pc := 74) (tgt := 19) hx hb dX9_harsh_74 (by decide) ?_
            exact ih _ _ _ _ _ hf hW hS (lv_sub hl [4, 5, 1, 0] rfl)
set_option maxRecDepth 100000 in
set_option maxHeartbeats 4000000 in
theorem b_X9_harsh {H : Heap} {locs : List Loc} {ls : Array Slot} {σ : um_S} {r : Int32} (a1 : Int32)  (hf : f_X9_harsh a1 σ = some r) (Cx : um_C p s m meth c args cX9_harsh 6 (some FieldType.int) RX9 Z) (hW : um_W Z msh α σ H) (hS : va_S (um_D msh α) s.heap H locs) (hl : lv_has ls 6 [(0, .ref (α 0)), (1, .int a1)]) : um_G p l e (1) (27) s m args below meth c Z msh α σ (some (.int r)) H locs (F0 m 0 ls []) := by
  have hx := Cx.1
  have hb := Cx.2.1
  have hown := Cx.2.2.2.2.1
  have hts := Cx.2.2.2.2.2.1
  rw [f_X9_harsh] at hf
  refine lv_iload_n (pc := 0) hx hb dX9_harsh_0 rfl (lv_at hl 1 rfl) ?_
  refine lv_i2l (pc := 1) hx hb dX9_harsh_1 rfl ?_
  refine lv_lconst (pc := 2) (v := (0 : Int64)) hx hb dX9_harsh_2 (by decide) ?_
  refine lv_ldc2 (pc := 3) hx hb hown (hts _ qL_X9_89) dX9_harsh_3 ?_
  obtain ⟨x2, hc1, hf⟩ := um_bi hf
  refine um_cSi (pc := 6) (As := [.long (a1.toInt64), .long (0 : Int64), .long (7 : Int64)]) (rest := []) Cx (c_X9_isIn (a1.toInt64) (0 : Int64) (7 : Int64) hc1) kS_X9_isIn (Or.inl qM_X9_60) hW hS rfl hl rfl (Nat.le_of_ble_eq_true rfl) (Nat.le_of_ble_eq_true rfl) (Nat.le_of_ble_eq_true rfl) dX9_harsh_6 (Nat.le_refl _) (Nat.le_refl _) ?_
  clear hW hS hc1
  intro H locs hW hS
  refine lv_if_ne (pc := 9) (tgt := 15) hx hb dX9_harsh_9 (by decide) (fun c1 => ?_) (fun c1 => ?_)
  · have hf := um_ie c1 hf
    clear c1
    refine lv_iconst (pc := 15) (v := (0 : Int32)) hx hb dX9_harsh_15 (by decide) ?_
    refine lv_istore_n (pc := 16) (lv' := [(2, .int (0 : Int32)), (0, .ref (α 0)), (1, .int a1)]) hx hb dX9_harsh_16 rfl hl (by decide) rfl ?_
    clear hl
    intro ls hl
    refine lv_iconst (pc := 17) (v := (0 : Int32)) hx hb dX9_harsh_17 (by decide) ?_
    refine lv_istore_n (pc := 18) (lv' := [(3, .int (0 : Int32)), (2, .int (0 : Int32)), (0, .ref (α 0)), (1, .int a1)]) hx hb dX9_harsh_18 rfl hl (by decide) rfl ?_
    clear hl
    intro ls hl
    obtain ⟨x3, hc4, hf⟩ := um_bi hf
    refine t_X9_harsh_l19 a1 Cx ?_ um_N _ _ _ _ _ hc4 hW hS (lv_sub hl [2, 3, 1, 0] rfl)
    clear hW hS hl hc4
    intro H locs ls hW hS hl
    refine lv_iload_n (pc := 77) hx hb dX9_harsh_77 rfl (lv_at hl 0 rfl) ?_
    exact um_iretR (pc := 78) Cx hW hS hf dX9_harsh_78
  · have hf := um_it c1 hf
    clear c1
    refine lv_ldc (pc := 12) hx hb hown (hts _ qC_X9_87) dX9_harsh_12 ?_
    exact um_iretR (pc := 14) Cx hW hS hf dX9_harsh_14
theorem c_X9_harsh {σ : um_S} {r : Int32} (a1 : Int32)  (hf : f_X9_harsh a1 σ = some r) : um_M l yX9_harsh cX9_harsh 6 (some FieldType.int) (1) (27) Z msh α σ [.ref (α 0), .int a1] (some (.int r)) σ :=
  um_start (by decide) (Nat.le_of_ble_eq_true rfl) (fun p e s m below meth c ls Cx hW hS hl => b_X9_harsh a1 hf Cx hW hS hl)
noncomputable def f_X9_has (a1 : Int32) (a2 : Int32) (σ : um_S) : Option (Int32) :=
    (f_X9_isMaster a1 σ).bind fun x2 =>
    (if (um_b x2) = 0 then
    (some (-1000000001 : Int32))
    else
    ((f_X9_isIn (a2.toInt64) (0 : Int64) (4 : Int64) σ).bind fun x4 =>
    (if (um_b x4) = 0 then
    (some (-1000000001 : Int32))
    else
    (if a2 = (4 : Int32) then
    ((f_X9_assignedTo a1 σ).bind fun x9 =>
    (some x9))
    else
    ((f_X9_masterAt a1 σ).bind fun x6 =>
    (if um_ix (x6 + a2) 3790 then
    (some (σ.1 1 (x6 + a2).toNatClampNeg)) else none))))))
set_option maxRecDepth 100000 in
set_option maxHeartbeats 4000000 in
theorem b_X9_has {H : Heap} {locs : List Loc} {ls : Array Slot} {σ : um_S} {r : Int32} (a1 : Int32) (a2 : Int32)  (hf : f_X9_has a1 a2 σ = some r) (Cx : um_C p s m meth c args cX9_has 3 (some FieldType.int) RX9 Z) (hW : um_W Z msh α σ H) (hS : va_S (um_D msh α) s.heap H locs) (hl : lv_has ls 3 [(0, .ref (α 0)), (1, .int a1), (2, .int a2)]) : um_G p l e (3) (65) s m args below meth c Z msh α σ (some (.int r)) H locs (F0 m 0 ls []) := by
  have hx := Cx.1
  have hb := Cx.2.1
  have hown := Cx.2.2.2.2.1
  have hts := Cx.2.2.2.2.2.1
  rw [f_X9_has] at hf
  refine lv_aload_n (pc := 0) hx hb dX9_has_0 rfl (lv_at hl 0 rfl) ?_
  refine lv_iload_n (pc := 1) hx hb dX9_has_1 rfl (lv_at hl 1 rfl) ?_
  obtain ⟨x2, hc1, hf⟩ := um_bi hf
  refine um_cVi (pc := 2) (As := [.int a1]) (rest := []) Cx (c_X9_isMaster a1 hc1) kV_X9_isMaster (Or.inl qM_X9_132) hW hS ms_0 rfl rfl hl rfl (Nat.le_of_ble_eq_true rfl) (Nat.le_of_ble_eq_true rfl) (Nat.le_of_ble_eq_true rfl) dX9_has_2 (Nat.le_refl _) (Nat.le_refl _) ?_
  clear hW hS hc1
  intro H locs hW hS
  refine lv_if_eq (pc := 5) (tgt := 20) hx hb dX9_has_5 (by decide) (fun c1 => ?_) (fun c1 => ?_)
  · have hf := um_it c1 hf
    clear c1
    refine lv_ldc (pc := 20) hx hb hown (hts _ qC_X9_87) dX9_has_20 ?_
    exact um_iretR (pc := 22) Cx hW hS hf dX9_has_22
  · have hf := um_ie c1 hf
    clear c1
    refine lv_iload_n (pc := 8) hx hb dX9_has_8 rfl (lv_at hl 2 rfl) ?_
    refine lv_i2l (pc := 9) hx hb dX9_has_9 rfl ?_
    refine lv_lconst (pc := 10) (v := (0 : Int64)) hx hb dX9_has_10 (by decide) ?_
    refine lv_ldc2 (pc := 11) hx hb hown (hts _ qL_X9_80) dX9_has_11 ?_
    obtain ⟨x4, hc3, hf⟩ := um_bi hf
    refine um_cSi (pc := 14) (As := [.long (a2.toInt64), .long (0 : Int64), .long (4 : Int64)]) (rest := []) Cx (c_X9_isIn (a2.toInt64) (0 : Int64) (4 : Int64) hc3) kS_X9_isIn (Or.inl qM_X9_60) hW hS rfl hl rfl (Nat.le_of_ble_eq_true rfl) (Nat.le_of_ble_eq_true rfl) (Nat.le_of_ble_eq_true rfl) dX9_has_14 (Nat.le_refl _) (Nat.le_refl _) ?_
    clear hW hS hc3
    intro H locs hW hS
    refine lv_if_ne (pc := 17) (tgt := 23) hx hb dX9_has_17 (by decide) (fun c1 => ?_) (fun c1 => ?_)
    · have hf := um_ie c1 hf
      clear c1
      refine lv_iload_n (pc := 23) hx hb dX9_has_23 rfl (lv_at hl 2 rfl) ?_
      refine lv_iconst (pc := 24) (v := (4 : Int32)) hx hb dX9_has_24 (by decide) ?_
      refine lv_icmp_ne (pc := 25) (tgt := 36) hx hb dX9_has_25 (by decide) (fun c1 => ?_) (fun c1 => ?_)
      · have hf := um_ie c1 hf
        clear c1
        refine lv_aload_n (pc := 36) hx hb dX9_has_36 rfl (lv_at hl 0 rfl) ?_
        refine gF_X9_7 (pc := 37) Cx hW ms_0 rfl dX9_has_37 ?_
        refine lv_aload_n (pc := 40) hx hb dX9_has_40 rfl (lv_at hl 0 rfl) ?_
        refine lv_iload_n (pc := 41) hx hb dX9_has_41 rfl (lv_at hl 1 rfl) ?_
        obtain ⟨x6, hc5, hf⟩ := um_bi hf
        refine um_cVi (pc := 42) (As := [.int a1]) (rest := [.ref (α 1)]) Cx (c_X9_masterAt a1 hc5) kV_X9_masterAt (Or.inl qM_X9_129) hW hS ms_0 rfl rfl hl rfl (Nat.le_of_ble_eq_true rfl) (Nat.le_of_ble_eq_true rfl) (Nat.le_of_ble_eq_true rfl) dX9_has_42 (Nat.le_refl _) (Nat.le_refl _) ?_
        clear hW hS hc5
        intro H locs hW hS
        refine lv_iload_n (pc := 45) hx hb dX9_has_45 rfl (lv_at hl 2 rfl) ?_
        refine lv_iadd (pc := 46) hx hb dX9_has_46 ?_
        obtain ⟨g7, hf⟩ := um_gu hf
        refine um_iald (pc := 47) Cx hW ms_1 rfl (um_ix_in g7) dX9_has_47 ?_
        exact um_iretR (pc := 48) Cx hW hS hf dX9_has_48
      · have hf := um_it c1 hf
        clear c1
        refine lv_aload_n (pc := 28) hx hb dX9_has_28 rfl (lv_at hl 0 rfl) ?_
        refine lv_iload_n (pc := 29) hx hb dX9_has_29 rfl (lv_at hl 1 rfl) ?_
        obtain ⟨x9, hc8, hf⟩ := um_bi hf
        refine um_cVi (pc := 30) (As := [.int a1]) (rest := []) Cx (c_X9_assignedTo a1 hc8) kV_X9_assignedTo (Or.inl qM_X9_135) hW hS ms_0 rfl rfl hl rfl (Nat.le_of_ble_eq_true rfl) (Nat.le_of_ble_eq_true rfl) (Nat.le_of_ble_eq_true rfl) dX9_has_30 (Nat.le_refl _) (Nat.le_refl _) ?_
        clear hW hS hc8
        intro H locs hW hS
        refine lv_goto (pc := 33) (tgt := 48) hx hb dX9_has_33 (by decide) ?_
        exact um_iretR (pc := 48) Cx hW hS hf dX9_has_48
    · have hf := um_it c1 hf
      clear c1
      refine lv_ldc (pc := 20) hx hb hown (hts _ qC_X9_87) dX9_has_20 ?_
      exact um_iretR (pc := 22) Cx hW hS hf dX9_has_22
theorem c_X9_has {σ : um_S} {r : Int32} (a1 : Int32) (a2 : Int32)  (hf : f_X9_has a1 a2 σ = some r) : um_M l yX9_has cX9_has 3 (some FieldType.int) (3) (65) Z msh α σ [.ref (α 0), .int a1, .int a2] (some (.int r)) σ :=
  um_start (by decide) (Nat.le_of_ble_eq_true rfl) (fun p e s m below meth c ls Cx hW hS hl => b_X9_has a1 a2 hf Cx hW hS hl)
noncomputable def f_X9_isPlace (a0 : Int32) (σ : um_S) : Option (Bool) :=
    (f_X9_isIn (a0.toInt64) (0 : Int64) (5 : Int64) σ).bind fun x2 =>
    (some x2)
set_option maxRecDepth 100000 in
set_option maxHeartbeats 4000000 in
theorem b_X9_isPlace {H : Heap} {locs : List Loc} {ls : Array Slot} {σ : um_S} {r : Bool} (a0 : Int32)  (hf : f_X9_isPlace a0 σ = some r) (Cx : um_C p s m meth c args cX9_isPlace 1 (some FieldType.boolean) RX9 Z) (hW : um_W Z msh α σ H) (hS : va_S (um_D msh α) s.heap H locs) (hl : lv_has ls 1 [(0, .int a0)]) : um_G p l e (1) (25) s m args below meth c Z msh α σ (some (.int (um_b r))) H locs (F0 m 0 ls []) := by
  have hx := Cx.1
  have hb := Cx.2.1
  have hown := Cx.2.2.2.2.1
  have hts := Cx.2.2.2.2.2.1
  rw [f_X9_isPlace] at hf
  refine lv_iload_n (pc := 0) hx hb dX9_isPlace_0 rfl (lv_at hl 0 rfl) ?_
  refine lv_i2l (pc := 1) hx hb dX9_isPlace_1 rfl ?_
  refine lv_lconst (pc := 2) (v := (0 : Int64)) hx hb dX9_isPlace_2 (by decide) ?_
  refine lv_ldc2 (pc := 3) hx hb hown (hts _ qL_X9_64) dX9_isPlace_3 ?_
  obtain ⟨x2, hc1, hf⟩ := um_bi hf
  refine um_cSi (pc := 6) (As := [.long (a0.toInt64), .long (0 : Int64), .long (5 : Int64)]) (rest := []) Cx (c_X9_isIn (a0.toInt64) (0 : Int64) (5 : Int64) hc1) kS_X9_isIn (Or.inl qM_X9_60) hW hS rfl hl rfl (Nat.le_of_ble_eq_true rfl) (Nat.le_of_ble_eq_true rfl) (Nat.le_of_ble_eq_true rfl) dX9_isPlace_6 (Nat.le_refl _) (Nat.le_refl _) ?_
  clear hW hS hc1
  intro H locs hW hS
  exact um_zretR (pc := 9) Cx hW hS hf rfl dX9_isPlace_9
theorem c_X9_isPlace {σ : um_S} {r : Bool} (a0 : Int32)  (hf : f_X9_isPlace a0 σ = some r) : um_M l yX9_isPlace cX9_isPlace 1 (some FieldType.boolean) (1) (25) Z msh α σ [.int a0] (some (.int (um_b r))) σ :=
  um_start (by decide) (Nat.le_of_ble_eq_true rfl) (fun p e s m below meth c ls Cx hW hS hl => b_X9_isPlace a0 hf Cx hW hS hl)
noncomputable def f_X9_hungry (a1 : Int32) (σ : um_S) : Option (Int32) :=
    (f_X9_isPlace a1 σ).bind fun x2 =>
    (if (um_b x2) = 0 then
    (some (-1000000001 : Int32))
    else
    (if um_ix ((17 : Int32) + a1) 3790 then
    (some (σ.1 1 ((17 : Int32) + a1).toNatClampNeg)) else none))
set_option maxRecDepth 100000 in
set_option maxHeartbeats 4000000 in
theorem b_X9_hungry {H : Heap} {locs : List Loc} {ls : Array Slot} {σ : um_S} {r : Int32} (a1 : Int32)  (hf : f_X9_hungry a1 σ = some r) (Cx : um_C p s m meth c args cX9_hungry 2 (some FieldType.int) RX9 Z) (hW : um_W Z msh α σ H) (hS : va_S (um_D msh α) s.heap H locs) (hl : lv_has ls 2 [(0, .ref (α 0)), (1, .int a1)]) : um_G p l e (2) (45) s m args below meth c Z msh α σ (some (.int r)) H locs (F0 m 0 ls []) := by
  have hx := Cx.1
  have hb := Cx.2.1
  have hown := Cx.2.2.2.2.1
  have hts := Cx.2.2.2.2.2.1
  rw [f_X9_hungry] at hf
  refine lv_iload_n (pc := 0) hx hb dX9_hungry_0 rfl (lv_at hl 1 rfl) ?_
  obtain ⟨x2, hc1, hf⟩ := um_bi hf
  refine um_cSi (pc := 1) (As := [.int a1]) (rest := []) Cx (c_X9_isPlace a1 hc1) kS_X9_isPlace (Or.inl qM_X9_82) hW hS rfl hl rfl (Nat.le_of_ble_eq_true rfl) (Nat.le_of_ble_eq_true rfl) (Nat.le_of_ble_eq_true rfl) dX9_hungry_1 (Nat.le_refl _) (Nat.le_refl _) ?_
  clear hW hS hc1
  intro H locs hW hS
  refine lv_if_eq (pc := 4) (tgt := 19) hx hb dX9_hungry_4 (by decide) (fun c1 => ?_) (fun c1 => ?_)
  · have hf := um_it c1 hf
    clear c1
    refine lv_ldc (pc := 19) hx hb hown (hts _ qC_X9_87) dX9_hungry_19 ?_
    exact um_iretR (pc := 21) Cx hW hS hf dX9_hungry_21
  · have hf := um_ie c1 hf
    clear c1
    refine lv_aload_n (pc := 7) hx hb dX9_hungry_7 rfl (lv_at hl 0 rfl) ?_
    refine gF_X9_7 (pc := 8) Cx hW ms_0 rfl dX9_hungry_8 ?_
    refine lv_bipush (pc := 11) (v := (17 : Int32)) hx hb dX9_hungry_11 (by decide) ?_
    refine lv_iload_n (pc := 13) hx hb dX9_hungry_13 rfl (lv_at hl 1 rfl) ?_
    refine lv_iadd (pc := 14) hx hb dX9_hungry_14 ?_
    obtain ⟨g3, hf⟩ := um_gu hf
    refine um_iald (pc := 15) Cx hW ms_1 rfl (um_ix_in g3) dX9_hungry_15 ?_
    refine lv_goto (pc := 16) (tgt := 21) hx hb dX9_hungry_16 (by decide) ?_
    exact um_iretR (pc := 21) Cx hW hS hf dX9_hungry_21
theorem c_X9_hungry {σ : um_S} {r : Int32} (a1 : Int32)  (hf : f_X9_hungry a1 σ = some r) : um_M l yX9_hungry cX9_hungry 2 (some FieldType.int) (2) (45) Z msh α σ [.ref (α 0), .int a1] (some (.int r)) σ :=
  um_start (by decide) (Nat.le_of_ble_eq_true rfl) (fun p e s m below meth c ls Cx hW hS hl => b_X9_hungry a1 hf Cx hW hS hl)
