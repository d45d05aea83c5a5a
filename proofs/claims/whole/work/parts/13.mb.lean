variable {p : Program} {l : Launch} {e : Env} {s : State} {m : MethodId} {args : Array Value} {below : List Frame} {meth : Method} {c : Code} {Z : um_Z} {α : Nat → Nat} {sh : Nat → Option um_Sh}
noncomputable def fk_X9_part0 (P : Int32 → um_S → Option (Bool × um_S)) (a1 : Int32) (σ : um_S) : Option (Bool × um_S) :=
    if (σ.1 0 11) = (2 : Int32) then
    ((f_X9_step (0 : Int32) (σ.1 0 12) σ).bind fun σ40 =>
    (um_let (um_wr σ40 0 18 ((σ40.1 0 18) + (1 : Int32))) fun σ41 =>
    ((f_X9_next σ41).bind fun σ44 =>
    (some (true, σ44)))))
    else
    (um_let (fun (_u : Unit) =>
    ((f_X9_isSign (33 : Int32) σ).bind fun x3 =>
    (um_let (fun (_u : Unit) =>
    ((f_X9_isSign (40 : Int32) σ).bind fun x6 =>
    (if (um_b x6) = 0 then
    (some (false, σ))
    else
    (if (σ.1 0 14) = (8 : Int32) then
    (some (false, σ))
    else
    (um_let (um_wr σ 0 14 ((σ.1 0 14) + (1 : Int32))) fun σ7 =>
    ((f_X9_next σ7).bind fun σ10 =>
    (um_b2 (f_X9_either P a1 σ10) fun x13 σ12 =>
    (if (um_b x13) = 0 then
    (some (false, σ12))
    else
    ((f_X9_isSign (41 : Int32) σ12).bind fun x15 =>
    (if (um_b x15) = 0 then
    (some (false, σ12))
    else
    (um_let (um_wr σ12 0 14 ((σ12.1 0 14) - (1 : Int32))) fun σ16 =>
    ((f_X9_next σ16).bind fun σ19 =>
    (some (true, σ19)))))))))))))) fun k4 =>
    (if (um_b x3) = 0 then
    (k4 ())
    else
    (if (8 : Int32) ≤ (σ.1 0 15) then
    (k4 ())
    else
    (um_let (um_wr σ 0 15 ((σ.1 0 15) + (1 : Int32))) fun σ20 =>
    ((f_X9_next σ20).bind fun σ23 =>
    (um_b2 (P a1 σ23) fun x26 σ25 =>
    (if (um_b x26) = 0 then
    (some (false, σ25))
    else
    (um_let (um_wr σ25 0 15 ((σ25.1 0 15) - (1 : Int32))) fun σ27 =>
    ((f_X9_step (2 : Int32) (33 : Int32) σ27).bind fun σ30 =>
    (some (true, σ30))))))))))))) fun k1 =>
    (if (σ.1 0 11) = (1 : Int32) then
    (if (σ.1 0 13) = 0 then
    (k1 ())
    else
    ((f_X9_isName a1 (σ.1 0 13) σ).bind fun x32 =>
    (if (um_b x32) = 0 then
    (k1 ())
    else
    ((f_X9_step (1 : Int32) (σ.1 0 13) σ).bind fun σ34 =>
    (um_let (um_wr σ34 0 18 ((σ34.1 0 18) + (1 : Int32))) fun σ35 =>
    ((f_X9_next σ35).bind fun σ38 =>
    (some (true, σ38))))))))
    else
    (k1 ())))
set_option maxRecDepth 100000 in
set_option maxHeartbeats 4000000 in
theorem b_X9_part0 {H : Heap} {locs : List Loc} {ls : Array Slot} {σ : um_S} {σ' : um_S} {r : Bool} {P : Int32 → um_S → Option (Bool × um_S)} {FP LP : Nat} (hP : ∀ (a1 : Int32) (σ : um_S) (r : Bool) (σ' : um_S), P a1 σ = some (r, σ') → um_M l yX9_part0 cX9_part0 2 (some FieldType.boolean) FP LP Z msh α σ [.ref (α 0), .int a1] (some (.int (um_b r))) σ') (a1 : Int32)  (hf : fk_X9_part0 P a1 σ = some (r, σ')) (Cx : um_C p s m meth c args cX9_part0 2 (some FieldType.boolean) RX9 Z) (hW : um_W Z msh α σ H) (hS : va_S (um_D msh α) s.heap H locs) (hl : lv_has ls 2 [(0, .ref (α 0)), (1, .int a1)]) : um_G p l e (FP + 8) (LP + 176) s m args below meth c Z msh α σ' (some (.int (um_b r))) H locs (F0 m 0 ls []) := by
  have hx := Cx.1
  have hb := Cx.2.1
  have hown := Cx.2.2.2.2.1
  have hts := Cx.2.2.2.2.2.1
  rw [fk_X9_part0] at hf
  refine lv_aload_n (pc := 0) hx hb dX9_part0_0 rfl (lv_at hl 0 rfl) ?_
  refine gF_X9_155 (pc := 1) Cx hW ms_0 rfl dX9_part0_1 ?_
  refine lv_iconst (pc := 4) (v := (2 : Int32)) hx hb dX9_part0_4 (by decide) ?_
  refine lv_icmp_ne (pc := 5) (tgt := 33) hx hb dX9_part0_5 (by decide) (fun c1 => ?_) (fun c1 => ?_)
  · have hf := um_ie c1 hf
    clear c1
    refine lv_aload_n (pc := 33) hx hb dX9_part0_33 rfl (lv_at hl 0 rfl) ?_
    refine gF_X9_155 (pc := 34) Cx hW ms_0 rfl dX9_part0_34 ?_
    refine lv_iconst (pc := 37) (v := (1 : Int32)) hx hb dX9_part0_37 (by decide) ?_
    obtain ⟨k1, hk1, hf⟩ := um_j1 hf
    have J1 : ∀ (_u : Unit), k1 _u = some (r, σ') → ∀ (H : Heap) (locs : List Loc) (ls : Array Slot), um_W Z msh α σ H → va_S (um_D msh α) s.heap H locs → lv_has ls 2 [(0, .ref (α 0)), (1, .int a1)] → um_G p l e (FP + 8) (LP + 176) s m args below meth c Z msh α σ' (some (.int (um_b r))) H locs (F0 m 84 ls []) := by
      intro _u hf H locs ls hW hS hl
      rw [hk1] at hf
      refine lv_aload_n (pc := 84) hx hb dX9_part0_84 rfl (lv_at hl 0 rfl) ?_
      refine lv_bipush (pc := 85) (v := (33 : Int32)) hx hb dX9_part0_85 (by decide) ?_
      obtain ⟨x3, hc2, hf⟩ := um_bi hf
      refine um_cVi (pc := 87) (As := [.int (33 : Int32)]) (rest := []) Cx (c_X9_isSign (33 : Int32) hc2) kV_X9_isSign (Or.inl qM_X9_190) hW hS ms_0 rfl rfl hl rfl (Nat.le_of_ble_eq_true rfl) (by dsimp only; omega) (by dsimp only; omega) dX9_part0_87 (Nat.le_refl _) (Nat.le_refl _) ?_
      clear hW hS hc2
      intro H locs hW hS
      obtain ⟨k4, hk4, hf⟩ := um_j1 hf
      have J4 : ∀ (_u : Unit), k4 _u = some (r, σ') → ∀ (H : Heap) (locs : List Loc) (ls : Array Slot), um_W Z msh α σ H → va_S (um_D msh α) s.heap H locs → lv_has ls 2 [(0, .ref (α 0)), (1, .int a1)] → um_G p l e (FP + 8) (LP + 176) s m args below meth c Z msh α σ' (some (.int (um_b r))) H locs (F0 m 145 ls []) := by
        intro _u hf H locs ls hW hS hl
        rw [hk4] at hf
        refine lv_aload_n (pc := 145) hx hb dX9_part0_145 rfl (lv_at hl 0 rfl) ?_
        refine lv_bipush (pc := 146) (v := (40 : Int32)) hx hb dX9_part0_146 (by decide) ?_
        obtain ⟨x6, hc5, hf⟩ := um_bi hf
        refine um_cVi (pc := 148) (As := [.int (40 : Int32)]) (rest := []) Cx (c_X9_isSign (40 : Int32) hc5) kV_X9_isSign (Or.inl qM_X9_190) hW hS ms_0 rfl rfl hl rfl (Nat.le_of_ble_eq_true rfl) (by dsimp only; omega) (by dsimp only; omega) dX9_part0_148 (Nat.le_refl _) (Nat.le_refl _) ?_
        clear hW hS hc5
        intro H locs hW hS
        refine lv_if_eq (pc := 151) (tgt := 163) hx hb dX9_part0_151 (by decide) (fun c1 => ?_) (fun c1 => ?_)
        · have hf := um_it c1 hf
          clear c1
          refine lv_iconst (pc := 163) (v := (0 : Int32)) hx hb dX9_part0_163 (by decide) ?_
          exact um_zret (pc := 164) Cx hW hS hf rfl dX9_part0_164
        · have hf := um_ie c1 hf
          clear c1
          refine lv_aload_n (pc := 154) hx hb dX9_part0_154 rfl (lv_at hl 0 rfl) ?_
          refine gF_X9_222 (pc := 155) Cx hW ms_0 rfl dX9_part0_155 ?_
          refine lv_bipush (pc := 158) (v := (8 : Int32)) hx hb dX9_part0_158 (by decide) ?_
          refine lv_icmp_ne (pc := 160) (tgt := 165) hx hb dX9_part0_160 (by decide) (fun c1 => ?_) (fun c1 => ?_)
          · have hf := um_ie c1 hf
            clear c1
            refine lv_aload_n (pc := 165) hx hb dX9_part0_165 rfl (lv_at hl 0 rfl) ?_
            refine lv_dup (pc := 166) hx hb dX9_part0_166 rfl ?_
            refine gF_X9_222 (pc := 167) Cx hW ms_0 rfl dX9_part0_167 ?_
            refine lv_iconst (pc := 170) (v := (1 : Int32)) hx hb dX9_part0_170 (by decide) ?_
            refine lv_iadd (pc := 171) hx hb dX9_part0_171 ?_
            refine gP_X9_222 (pc := 172) Cx hW hS ms_0 rfl dX9_part0_172 ?_
            clear hW hS
            intro H locs hW hS
            obtain ⟨σ7, e8, hf⟩ := um_le hf
            rw [← e8] at hW
            clear e8
            refine lv_aload_n (pc := 175) hx hb dX9_part0_175 rfl (lv_at hl 0 rfl) ?_
            obtain ⟨σ10, hc9, hf⟩ := um_bi hf
            refine um_cVv (pc := 176) (As := []) (rest := []) Cx (c_X9_next hc9) kV_X9_next (Or.inl qM_X9_193) hW hS ms_0 rfl rfl hl rfl (Nat.le_of_ble_eq_true rfl) (by dsimp only; omega) (by dsimp only; omega) dX9_part0_176 (Nat.le_refl _) (Nat.le_refl _) ?_
            clear hW hS hc9
            intro H locs hW hS
            refine lv_aload_n (pc := 179) hx hb dX9_part0_179 rfl (lv_at hl 0 rfl) ?_
            refine lv_iload_n (pc := 180) hx hb dX9_part0_180 rfl (lv_at hl 1 rfl) ?_
            obtain ⟨x13, σ12, hc11, hf⟩ := um_bi2 hf
            refine um_cVi (pc := 181) (As := [.int a1]) (rest := []) Cx (c_X9_either hP a1 hc11) kV_X9_either (Or.inl qM_X9_225) hW hS ms_0 rfl rfl hl rfl (Nat.le_of_ble_eq_true rfl) (by dsimp only; omega) (by dsimp only; omega) dX9_part0_181 (Nat.le_refl _) (Nat.le_refl _) ?_
            clear hW hS hc11
            intro H locs hW hS
            refine lv_if_eq (pc := 184) (tgt := 196) hx hb dX9_part0_184 (by decide) (fun c1 => ?_) (fun c1 => ?_)
            · have hf := um_it c1 hf
              clear c1
              refine lv_iconst (pc := 196) (v := (0 : Int32)) hx hb dX9_part0_196 (by decide) ?_
              exact um_zret (pc := 197) Cx hW hS hf rfl dX9_part0_197
            · have hf := um_ie c1 hf
              clear c1
              refine lv_aload_n (pc := 187) hx hb dX9_part0_187 rfl (lv_at hl 0 rfl) ?_
              refine lv_bipush (pc := 188) (v := (41 : Int32)) hx hb dX9_part0_188 (by decide) ?_
              obtain ⟨x15, hc14, hf⟩ := um_bi hf
              refine um_cVi (pc := 190) (As := [.int (41 : Int32)]) (rest := []) Cx (c_X9_isSign (41 : Int32) hc14) kV_X9_isSign (Or.inl qM_X9_190) hW hS ms_0 rfl rfl hl rfl (Nat.le_of_ble_eq_true rfl) (by dsimp only; omega) (by dsimp only; omega) dX9_part0_190 (Nat.le_refl _) (Nat.le_refl _) ?_
              clear hW hS hc14
              intro H locs hW hS
              refine lv_if_ne (pc := 193) (tgt := 198) hx hb dX9_part0_193 (by decide) (fun c1 => ?_) (fun c1 => ?_)
              · have hf := um_ie c1 hf
                clear c1
                refine lv_aload_n (pc := 198) hx hb dX9_part0_198 rfl (lv_at hl 0 rfl) ?_
                refine lv_dup (pc := 199) hx hb dX9_part0_199 rfl ?_
                refine gF_X9_222 (pc := 200) Cx hW ms_0 rfl dX9_part0_200 ?_
                refine lv_iconst (pc := 203) (v := (1 : Int32)) hx hb dX9_part0_203 (by decide) ?_
                refine lv_isub (pc := 204) hx hb dX9_part0_204 ?_
                refine gP_X9_222 (pc := 205) Cx hW hS ms_0 rfl dX9_part0_205 ?_
                clear hW hS
                intro H locs hW hS
                obtain ⟨σ16, e17, hf⟩ := um_le hf
                rw [← e17] at hW
                clear e17
                refine lv_aload_n (pc := 208) hx hb dX9_part0_208 rfl (lv_at hl 0 rfl) ?_
                obtain ⟨σ19, hc18, hf⟩ := um_bi hf
                refine um_cVv (pc := 209) (As := []) (rest := []) Cx (c_X9_next hc18) kV_X9_next (Or.inl qM_X9_193) hW hS ms_0 rfl rfl hl rfl (Nat.le_of_ble_eq_true rfl) (by dsimp only; omega) (by dsimp only; omega) dX9_part0_209 (Nat.le_refl _) (Nat.le_refl _) ?_
                clear hW hS hc18
                intro H locs hW hS
                refine lv_iconst (pc := 212) (v := (1 : Int32)) hx hb dX9_part0_212 (by decide) ?_
                exact um_zret (pc := 213) Cx hW hS hf rfl dX9_part0_213
              · have hf := um_it c1 hf
                clear c1
                refine lv_iconst (pc := 196) (v := (0 : Int32)) hx hb dX9_part0_196 (by decide) ?_
                exact um_zret (pc := 197) Cx hW hS hf rfl dX9_part0_197
          · have hf := um_it c1 hf
            clear c1
            refine lv_iconst (pc := 163) (v := (0 : Int32)) hx hb dX9_part0_163 (by decide) ?_
            exact um_zret (pc := 164) Cx hW hS hf rfl dX9_part0_164
      refine lv_if_eq (pc := 90) (tgt := 145) hx hb dX9_part0_90 (by decide) (fun c1 => ?_) (fun c1 => ?_)
      · have hf := um_it c1 hf
        clear c1
        exact J4 () hf _ _ _ hW hS hl
      · have hf := um_ie c1 hf
        clear c1
        refine lv_aload_n (pc := 93) hx hb dX9_part0_93 rfl (lv_at hl 0 rfl) ?_
        refine gF_X9_219 (pc := 94) Cx hW ms_0 rfl dX9_part0_94 ?_
        refine lv_bipush (pc := 97) (v := (8 : Int32)) hx hb dX9_part0_97 (by decide) ?_
        refine lv_icmp_ge (pc := 99) (tgt := 145) hx hb dX9_part0_99 (by decide) (fun c1 => ?_) (fun c1 => ?_)
        · have hf := um_it c1 hf
          clear c1
          exact J4 () hf _ _ _ hW hS hl
        · have hf := um_ie c1 hf
          clear c1
          refine lv_aload_n (pc := 102) hx hb dX9_part0_102 rfl (lv_at hl 0 rfl) ?_
          refine lv_dup (pc := 103) hx hb dX9_part0_103 rfl ?_
          refine gF_X9_219 (pc := 104) Cx hW ms_0 rfl dX9_part0_104 ?_
          refine lv_iconst (pc := 107) (v := (1 : Int32)) hx hb dX9_part0_107 (by decide) ?_
          refine lv_iadd (pc := 108) hx hb dX9_part0_108 ?_
          refine gP_X9_219 (pc := 109) Cx hW hS ms_0 rfl dX9_part0_109 ?_
          clear hW hS
          intro H locs hW hS
          obtain ⟨σ20, e21, hf⟩ := um_le hf
          rw [← e21] at hW
          clear e21
          refine lv_aload_n (pc := 112) hx hb dX9_part0_112 rfl (lv_at hl 0 rfl) ?_
          obtain ⟨σ23, hc22, hf⟩ := um_bi hf
          refine um_cVv (pc := 113) (As := []) (rest := []) Cx (c_X9_next hc22) kV_X9_next (Or.inl qM_X9_193) hW hS ms_0 rfl rfl hl rfl (Nat.le_of_ble_eq_true rfl) (by dsimp only; omega) (by dsimp only; omega) dX9_part0_113 (Nat.le_refl _) (Nat.le_refl _) ?_
          clear hW hS hc22
          intro H locs hW hS
          refine lv_aload_n (pc := 116) hx hb dX9_part0_116 rfl (lv_at hl 0 rfl) ?_
          refine lv_iload_n (pc := 117) hx hb dX9_part0_117 rfl (lv_at hl 1 rfl) ?_
          obtain ⟨x26, σ25, hc24, hf⟩ := um_bi2 hf
          refine um_cVi (pc := 118) (As := [.int a1]) (rest := []) Cx (hP a1 _ _ _ hc24) kV_X9_part0 (Or.inl qM_X9_209) hW hS ms_0 rfl rfl hl rfl (Nat.le_of_ble_eq_true rfl) (by dsimp only; omega) (by dsimp only; omega) dX9_part0_118 (Nat.le_refl _) (Nat.le_refl _) ?_
          clear hW hS hc24
          intro H locs hW hS
          refine lv_if_ne (pc := 121) (tgt := 126) hx hb dX9_part0_121 (by decide) (fun c1 => ?_) (fun c1 => ?_)
          · have hf := um_ie c1 hf
            clear c1
            refine lv_aload_n (pc := 126) hx hb dX9_part0_126 rfl (lv_at hl 0 rfl) ?_
            refine lv_dup (pc := 127) hx hb dX9_part0_127 rfl ?_
            refine gF_X9_219 (pc := 128) Cx hW ms_0 rfl dX9_part0_128 ?_
            refine lv_iconst (pc := 131) (v := (1 : Int32)) hx hb dX9_part0_131 (by decide) ?_
            refine lv_isub (pc := 132) hx hb dX9_part0_132 ?_
            refine gP_X9_219 (pc := 133) Cx hW hS ms_0 rfl dX9_part0_133 ?_
            clear hW hS
            intro H locs hW hS
            obtain ⟨σ27, e28, hf⟩ := um_le hf
            rw [← e28] at hW
            clear e28
            refine lv_aload_n (pc := 136) hx hb dX9_part0_136 rfl (lv_at hl 0 rfl) ?_
            refine lv_iconst (pc := 137) (v := (2 : Int32)) hx hb dX9_part0_137 (by decide) ?_
            refine lv_bipush (pc := 138) (v := (33 : Int32)) hx hb dX9_part0_138 (by decide) ?_
            obtain ⟨σ30, hc29, hf⟩ := um_bi hf
            refine um_cVv (pc := 140) (As := [.int (2 : Int32), .int (33 : Int32)]) (rest := []) Cx (c_X9_step (2 : Int32) (33 : Int32) hc29) kV_X9_step (Or.inl qM_X9_196) hW hS ms_0 rfl rfl hl rfl (Nat.le_of_ble_eq_true rfl) (by dsimp only; omega) (by dsimp only; omega) dX9_part0_140 (Nat.le_refl _) (Nat.le_refl _) ?_
            clear hW hS hc29
            intro H locs hW hS
            refine lv_iconst (pc := 143) (v := (1 : Int32)) hx hb dX9_part0_143 (by decide) ?_
            exact um_zret (pc := 144) Cx hW hS hf rfl dX9_part0_144
          · have hf := um_it c1 hf
            clear c1
            refine lv_iconst (pc := 124) (v := (0 : Int32)) hx hb dX9_part0_124 (by decide) ?_
            exact um_zret (pc := 125) Cx hW hS hf rfl dX9_part0_125
    refine lv_icmp_ne (pc := 38) (tgt := 84) hx hb dX9_part0_38 (by decide) (fun c1 => ?_) (fun c1 => ?_)
    · have hf := um_ie c1 hf
      clear c1
      exact J1 () hf _ _ _ hW hS hl
    · have hf := um_it c1 hf
      clear c1
      refine lv_aload_n (pc := 41) hx hb dX9_part0_41 rfl (lv_at hl 0 rfl) ?_
      refine gF_X9_164 (pc := 42) Cx hW ms_0 rfl dX9_part0_42 ?_
      refine lv_if_eq (pc := 45) (tgt := 84) hx hb dX9_part0_45 (by decide) (fun c1 => ?_) (fun c1 => ?_)
      · have hf := um_it c1 hf
        clear c1
        exact J1 () hf _ _ _ hW hS hl
      · have hf := um_ie c1 hf
        clear c1
        refine lv_iload_n (pc := 48) hx hb dX9_part0_48 rfl (lv_at hl 1 rfl) ?_
        refine lv_aload_n (pc := 49) hx hb dX9_part0_49 rfl (lv_at hl 0 rfl) ?_
        refine gF_X9_164 (pc := 50) Cx hW ms_0 rfl dX9_part0_50 ?_
        obtain ⟨x32, hc31, hf⟩ := um_bi hf
        refine um_cSi (pc := 53) (As := [.int a1, .int (σ.1 0 13)]) (rest := []) Cx (c_X9_isName a1 (σ.1 0 13) hc31) kS_X9_isName (Or.inl qM_X9_215) hW hS rfl hl rfl (Nat.le_of_ble_eq_true rfl) (by dsimp only; omega) (by dsimp only; omega) dX9_part0_53 (Nat.le_refl _) (Nat.le_refl _) ?_
        clear hW hS hc31
        intro H locs hW hS
        refine lv_if_eq (pc := 56) (tgt := 84) hx hb dX9_part0_56 (by decide) (fun c1 => ?_) (fun c1 => ?_)
        · have hf := um_it c1 hf
          clear c1
          exact J1 () hf _ _ _ hW hS hl
        · have hf := um_ie c1 hf
          clear c1
          refine lv_aload_n (pc := 59) hx hb dX9_part0_59 rfl (lv_at hl 0 rfl) ?_
          refine lv_iconst (pc := 60) (v := (1 : Int32)) hx hb dX9_part0_60 (by decide) ?_
          refine lv_aload_n (pc := 61) hx hb dX9_part0_61 rfl (lv_at hl 0 rfl) ?_
          refine gF_X9_164 (pc := 62) Cx hW ms_0 rfl dX9_part0_62 ?_
          obtain ⟨σ34, hc33, hf⟩ := um_bi hf
          refine um_cVv (pc := 65) (As := [.int (1 : Int32), .int (σ.1 0 13)]) (rest := []) Cx (c_X9_step (1 : Int32) (σ.1 0 13) hc33) kV_X9_step (Or.inl qM_X9_196) hW hS ms_0 rfl rfl hl rfl (Nat.le_of_ble_eq_true rfl) (by dsimp only; omega) (by dsimp only; omega) dX9_part0_65 (Nat.le_refl _) (Nat.le_refl _) ?_
          clear hW hS hc33
          intro H locs hW hS
          refine lv_aload_n (pc := 68) hx hb dX9_part0_68 rfl (lv_at hl 0 rfl) ?_
          refine lv_dup (pc := 69) hx hb dX9_part0_69 rfl ?_
          refine gF_X9_212 (pc := 70) Cx hW ms_0 rfl dX9_part0_70 ?_
          refine lv_iconst (pc := 73) (v := (1 : Int32)) hx hb dX9_part0_73 (by decide) ?_
          refine lv_iadd (pc := 74) hx hb dX9_part0_74 ?_
          refine gP_X9_212 (pc := 75) Cx hW hS ms_0 rfl dX9_part0_75 ?_
          clear hW hS
          intro H locs hW hS
          obtain ⟨σ35, e36, hf⟩ := um_le hf
          rw [← e36] at hW
          clear e36
          refine lv_aload_n (pc := 78) hx hb dX9_part0_78 rfl (lv_at hl 0 rfl) ?_
          obtain ⟨σ38, hc37, hf⟩ := um_bi hf
          refine um_cVv (pc := 79) (As := []) (rest := []) Cx (c_X9_next hc37) kV_X9_next (Or.inl qM_X9_193) hW hS ms_0 rfl rfl hl rfl (Nat.le_of_ble_eq_true rfl) (by dsimp only; omega) (by dsimp only; omega) dX9_part0_79 (Nat.le_refl _) (Nat.le_refl _) ?_
          clear hW hS hc37
          intro H locs hW hS
          refine lv_iconst (pc := 82) (v := (1 : Int32)) hx hb dX9_part0_82 (by decide) ?_
          exact um_zret (pc := 83) Cx hW hS hf rfl dX9_part0_83
  · have hf := um_it c1 hf
    clear c1
    refine lv_aload_n (pc := 8) hx hb dX9_part0_8 rfl (lv_at hl 0 rfl) ?_
    refine lv_iconst (pc := 9) (v := (0 : Int32)) hx hb dX9_part0_9 (by decide) ?_
    refine lv_aload_n (pc := 10) hx hb dX9_part0_10 rfl (lv_at hl 0 rfl) ?_
    refine gF_X9_170 (pc := 11) Cx hW ms_0 rfl dX9_part0_11 ?_
    obtain ⟨σ40, hc39, hf⟩ := um_bi hf
    refine um_cVv (pc := 14) (As := [.int (0 : Int32), .int (σ.1 0 12)]) (rest := []) Cx (c_X9_step (0 : Int32) (σ.1 0 12) hc39) kV_X9_step (Or.inl qM_X9_196) hW hS ms_0 rfl rfl hl rfl (Nat.le_of_ble_eq_true rfl) (by dsimp only; omega) (by dsimp only; omega) dX9_part0_14 (Nat.le_refl _) (Nat.le_refl _) ?_
    clear hW hS hc39
    intro H locs hW hS
    refine lv_aload_n (pc := 17) hx hb dX9_part0_17 rfl (lv_at hl 0 rfl) ?_
    refine lv_dup (pc := 18) hx hb dX9_part0_18 rfl ?_
    refine gF_X9_212 (pc := 19) Cx hW ms_0 rfl dX9_part0_19 ?_
    refine lv_iconst (pc := 22) (v := (1 : Int32)) hx hb dX9_part0_22 (by decide) ?_
    refine lv_iadd (pc := 23) hx hb dX9_part0_23 ?_
    refine gP_X9_212 (pc := 24) Cx hW hS ms_0 rfl dX9_part0_24 ?_
    clear hW hS
    intro H locs hW hS
    obtain ⟨σ41, e42, hf⟩ := um_le hf
    rw [← e42] at hW
    clear e42
    refine lv_aload_n (pc := 27) hx hb dX9_part0_27 rfl (lv_at hl 0 rfl) ?_
    obtain ⟨σ44, hc43, hf⟩ := um_bi hf
    refine um_cVv (pc := 28) (As := []) (rest := []) Cx (c_X9_next hc43) kV_X9_next (Or.inl qM_X9_193) hW hS ms_0 rfl rfl hl rfl (Nat.le_of_ble_eq_true rfl) (by dsimp only; omega) (by dsimp only; omega) dX9_part0_28 (Nat.le_refl _) (Nat.le_refl _) ?_
    clear hW hS hc43
    intro H locs hW hS
    refine lv_iconst (pc := 31) (v := (1 : Int32)) hx hb dX9_part0_31 (by decide) ?_
    exact um_zret (pc := 32) Cx hW hS hf rfl dX9_part0_32
theorem c_X9_part0 {σ : um_S} {σ' : um_S} {r : Bool} {P : Int32 → um_S → Option (Bool × um_S)} {FP LP : Nat} (hP : ∀ (a1 : Int32) (σ : um_S) (r : Bool) (σ' : um_S), P a1 σ = some (r, σ') → um_M l yX9_part0 cX9_part0 2 (some FieldType.boolean) FP LP Z msh α σ [.ref (α 0), .int a1] (some (.int (um_b r))) σ') (a1 : Int32)  (hf : fk_X9_part0 P a1 σ = some (r, σ')) : um_M l yX9_part0 cX9_part0 2 (some FieldType.boolean) (FP + 8) (LP + 176) Z msh α σ [.ref (α 0), .int a1] (some (.int (um_b r))) σ' :=
  um_start (by decide) (Nat.le_of_ble_eq_true rfl) (fun p e s m below meth c ls Cx hW hS hl => b_X9_part0 hP a1 hf Cx hW hS hl)
noncomputable def f_X9_part0 : Nat → Int32 → um_S → Option (Bool × um_S)
  | 0, _, _ => none
  | d + 1, a, σ => fk_X9_part0 (f_X9_part0 d) a σ
theorem cd_X9_part0 : ∀ (d : Nat) (a1 : Int32) (σ : um_S) (r : Bool) (σ' : um_S), f_X9_part0 d a1 σ = some (r, σ') → um_M l yX9_part0 cX9_part0 2 (some FieldType.boolean) (8 * d) (176 * d) Z msh α σ [.ref (α 0), .int a1] (some (.int (um_b r))) σ'
  | 0, a1, σ, r, σ', h => by cases h
  | d + 1, a1, σ, r, σ', h => by
    have h1 := c_X9_part0 (fun a σ r σ' h => cd_X9_part0 d a σ r σ' h) a1 h
    exact h1
noncomputable def f_X9_setAside_l2 (h1 : Nat) (h2 : Nat) : Nat → Int32 → um_S → Option (um_S)
  | 0, _, _ => none
  | n + 1, v3, σ =>
    if (3790 : Int32) ≤ v3 then
    (some σ)
    else
    (if um_ix v3 3790 then
    (if um_ix v3 3790 then
    (um_let (um_wr σ h2 v3.toNatClampNeg (σ.1 h1 v3.toNatClampNeg)) fun σ3 =>
    (f_X9_setAside_l2 h1 h2 n (v3 + (1 : Int32)) σ3)) else none) else none)
noncomputable def f_X9_setAside (h1 : Nat) (h2 : Nat) (σ : um_S) : Option (um_S) :=
    (f_X9_setAside_l2 h1 h2 um_N (0 : Int32) σ).bind fun σ1 =>
    (some σ1)
set_option maxRecDepth 100000 in
set_option maxHeartbeats 4000000 in
theorem t_X9_setAside_l2 {Q : State → Prop} {σo : um_S} (h1 : Nat) (h2 : Nat) (hh1 : msh h1 = some (.inl (0, some 3790))) (hh2 : msh h2 = some (.inl (0, some 3790))) (Cx : um_C p s m meth c args cX9_setAside 4 none RX9 Z) (hE : ∀ (H : Heap) (locs : List Loc) (ls : Array Slot), um_W Z msh α σo H → va_S (um_D msh α) s.heap H locs → lv_has ls 4 [] → W p l e { frames := 0, cells := 0, slots := 0, locals := 0 } s m args below meth c H locs 0 0 Q (F0 m 21 ls [])) : ∀ (n : Nat) (v3 : Int32) (σ : um_S) (H : Heap) (locs : List Loc) (ls : Array Slot), f_X9_setAside_l2 h1 h2 n v3 σ = some σo → um_W Z msh α σ H → va_S (um_D msh α) s.heap H locs → lv_has ls 4 [(1, .ref (α h1)), (2, .ref (α h2)), (3, .int v3)] → W p l e { frames := 0, cells := 0, slots := 0, locals := 0 } s m args below meth c H locs 0 0 Q (F0 m 2 ls []) := by
  have hx := Cx.1
  have hb := Cx.2.1
  have hown := Cx.2.2.2.2.1
  have hts := Cx.2.2.2.2.2.1
  intro n
  induction n with
  | zero =>
    intro v3 σ H locs ls hf hW hS hl
    cases hf
  | succ n ih =>
    intro v3 σ H locs ls hf hW hS hl
    rw [f_X9_setAside_l2] at hf
    refine lv_iload_n (pc := 2) hx hb dX9_setAside_2 rfl (lv_at hl 2 rfl) ?_
    refine lv_sipush (pc := 3) (v := (3790 : Int32)) hx hb dX9_setAside_3 (by decide) ?_
    refine lv_icmp_ge (pc := 6) (tgt := 21) hx hb dX9_setAside_6 (by decide) (fun c1 => ?_) (fun c1 => ?_)
    · have hf := um_it c1 hf
      clear c1
      cases hf
      exact hE _ _ _ hW hS (lv_sub hl [] rfl)
    · have hf := um_ie c1 hf
      clear c1
      refine lv_aload_n (pc := 9) hx hb dX9_setAside_9 rfl (lv_at hl 1 rfl) ?_
      refine lv_iload_n (pc := 10) hx hb dX9_setAside_10 rfl (lv_at hl 2 rfl) ?_
      refine lv_aload_n (pc := 11) hx hb dX9_setAside_11 rfl (lv_at hl 0 rfl) ?_
      refine lv_iload_n (pc := 12) hx hb dX9_setAside_12 rfl (lv_at hl 2 rfl) ?_
      obtain ⟨g1, hf⟩ := um_gu hf
      refine um_iald (pc := 13) Cx hW hh1 rfl (um_ix_in g1) dX9_setAside_13 ?_
      obtain ⟨g2, hf⟩ := um_gu hf
      refine um_iast (pc := 14) Cx hW hS hh2 rfl (um_ix_in g2) dX9_setAside_14 ?_
      clear hW hS
      intro H locs hW hS
      obtain ⟨σ3, e4, hf⟩ := um_le hf
      rw [← e4] at hW
      clear e4
      refine lv_iinc (pc := 15) (v := v3 + (1 : Int32)) (lv' := [(3, .int (v3 + (1 : Int32))), (1, .ref (α h1)), (2, .ref (α h2))]) hx hb dX9_setAside_15 hl (k := 2) rfl rfl (by decide) rfl ?_
      clear hl
      intro ls hl
      refine lv_goto (pc := 18) (tgt := 2) hx hb dX9_setAside_18 (by decide) ?_
      exact ih _ _ _ _ _ hf hW hS (lv_sub hl [1, 2, 0] rfl)
set_option maxRecDepth 100000 in
set_option maxHeartbeats 4000000 in
theorem b_X9_setAside {H : Heap} {locs : List Loc} {ls : Array Slot} {σ : um_S} {σ' : um_S} (h1 : Nat) (h2 : Nat) (hh1 : msh h1 = some (.inl (0, some 3790))) (hh2 : msh h2 = some (.inl (0, some 3790))) (hf : f_X9_setAside h1 h2 σ = some σ') (Cx : um_C p s m meth c args cX9_setAside 4 none RX9 Z) (hW : um_W Z msh α σ H) (hS : va_S (um_D msh α) s.heap H locs) (hl : lv_has ls 4 [(0, .ref (α 0)), (1, .ref (α h1)), (2, .ref (α h2))]) : um_G p l e (0) (0) s m args below meth c Z msh α σ' none H locs (F0 m 0 ls []) := by
  have hx := Cx.1
  have hb := Cx.2.1
  have hown := Cx.2.2.2.2.1
  have hts := Cx.2.2.2.2.2.1
  rw [f_X9_setAside] at hf
  refine lv_iconst (pc := 0) (v := (0 : Int32)) hx hb dX9_setAside_0 (by decide) ?_
  refine lv_istore_n (pc := 1) (lv' := [(3, .int (0 : Int32)), (0, .ref (α 0)), (1, .ref (α h1)), (2, .ref (α h2))]) hx hb dX9_setAside_1 rfl hl (by decide) rfl ?_
  clear hl
  intro ls hl
  obtain ⟨σ1, hc2, hf⟩ := um_bi hf
  refine t_X9_setAside_l2 h1 h2 hh1 hh2 Cx ?_ um_N _ _ _ _ _ hc2 hW hS (lv_sub hl [2, 3, 0] rfl)
  clear hW hS hl hc2
  intro H locs ls hW hS hl
  exact um_vret (pc := 21) Cx hW hS hf dX9_setAside_21
theorem c_X9_setAside {σ : um_S} {σ' : um_S} (h1 : Nat) (h2 : Nat) (hh1 : msh h1 = some (.inl (0, some 3790))) (hh2 : msh h2 = some (.inl (0, some 3790))) (hf : f_X9_setAside h1 h2 σ = some σ') : um_M l yX9_setAside cX9_setAside 4 none (0) (0) Z msh α σ [.ref (α 0), .ref (α h1), .ref (α h2)] none σ' :=
  um_start (by decide) (Nat.le_of_ble_eq_true rfl) (fun p e s m below meth c ls Cx hW hS hl => b_X9_setAside h1 h2 hh1 hh2 hf Cx hW hS hl)
noncomputable def f_X9_again  (σ : um_S) : Option (Int32 × um_S) :=
    if (σ.1 0 3) = 0 then
    (some ((-1000000002 : Int32), σ))
    else
    ((f_X9_setAside 2 1 σ).bind fun σ2 =>
    (some (σ2.1 1 0, σ2)))
set_option maxRecDepth 100000 in
set_option maxHeartbeats 4000000 in
theorem b_X9_again {H : Heap} {locs : List Loc} {ls : Array Slot} {σ : um_S} {σ' : um_S} {r : Int32}   (hf : f_X9_again σ = some (r, σ')) (Cx : um_C p s m meth c args cX9_again 1 (some FieldType.int) RX9 Z) (hW : um_W Z msh α σ H) (hS : va_S (um_D msh α) s.heap H locs) (hl : lv_has ls 1 [(0, .ref (α 0))]) : um_G p l e (1) (23) s m args below meth c Z msh α σ' (some (.int r)) H locs (F0 m 0 ls []) := by
  have hx := Cx.1
  have hb := Cx.2.1
  have hown := Cx.2.2.2.2.1
  have hts := Cx.2.2.2.2.2.1
  rw [f_X9_again] at hf
  refine lv_aload_n (pc := 0) hx hb dX9_again_0 rfl (lv_at hl 0 rfl) ?_
  refine gF_X9_393 (pc := 1) Cx hW ms_0 rfl dX9_again_1 ?_
  refine lv_if_ne (pc := 4) (tgt := 10) hx hb dX9_again_4 (by decide) (fun c1 => ?_) (fun c1 => ?_)
  · have hf := um_ie c1 hf
    clear c1
    refine lv_aload_n (pc := 10) hx hb dX9_again_10 rfl (lv_at hl 0 rfl) ?_
    refine lv_aload_n (pc := 11) hx hb dX9_again_11 rfl (lv_at hl 0 rfl) ?_
    refine gF_X9_13 (pc := 12) Cx hW ms_0 rfl dX9_again_12 ?_
    refine lv_aload_n (pc := 15) hx hb dX9_again_15 rfl (lv_at hl 0 rfl) ?_
    refine gF_X9_7 (pc := 16) Cx hW ms_0 rfl dX9_again_16 ?_
    obtain ⟨σ2, hc1, hf⟩ := um_bi hf
    refine um_cVv (pc := 19) (As := [.ref (α 2), .ref (α 1)]) (rest := []) Cx (c_X9_setAside 2 1 ms_2 ms_1 hc1) kV_X9_setAside (Or.inl qM_X9_397) hW hS ms_0 rfl rfl hl rfl (Nat.le_of_ble_eq_true rfl) (Nat.le_of_ble_eq_true rfl) (Nat.le_of_ble_eq_true rfl) dX9_again_19 (Nat.le_refl _) (Nat.le_refl _) ?_
    clear hW hS hc1
    intro H locs hW hS
    refine lv_aload_n (pc := 22) hx hb dX9_again_22 rfl (lv_at hl 0 rfl) ?_
    refine gF_X9_7 (pc := 23) Cx hW ms_0 rfl dX9_again_23 ?_
    refine lv_iconst (pc := 26) (v := (0 : Int32)) hx hb dX9_again_26 (by decide) ?_
    refine um_iaj (pc := 27) (n := 3790) 0 rfl Cx hW ms_1 rfl (um_ix_in (by decide)) dX9_again_27 ?_
    exact um_iret (pc := 28) Cx hW hS hf dX9_again_28
  · have hf := um_it c1 hf
    clear c1
    refine lv_ldc (pc := 7) hx hb hown (hts _ qC_X9_106) dX9_again_7 ?_
    exact um_iret (pc := 9) Cx hW hS hf dX9_again_9
theorem c_X9_again {σ : um_S} {σ' : um_S} {r : Int32}   (hf : f_X9_again σ = some (r, σ')) : um_M l yX9_again cX9_again 1 (some FieldType.int) (1) (23) Z msh α σ [.ref (α 0)] (some (.int r)) σ' :=
  um_start (by decide) (Nat.le_of_ble_eq_true rfl) (fun p e s m below meth c ls Cx hW hS hl => b_X9_again hf Cx hW hS hl)
noncomputable def f_X9_isMan (a1 : Int32) (σ : um_S) : Option (Bool) :=
    (f_X9_isIn (a1.toInt64) (0 : Int64) (((σ.1 1 2) - (1 : Int32)).toInt64) σ).bind fun x2 =>
    (some x2)
set_option maxRecDepth 100000 in
set_option maxHeartbeats 4000000 in
theorem b_X9_isMan {H : Heap} {locs : List Loc} {ls : Array Slot} {σ : um_S} {r : Bool} (a1 : Int32)  (hf : f_X9_isMan a1 σ = some r) (Cx : um_C p s m meth c args cX9_isMan 2 (some FieldType.boolean) RX9 Z) (hW : um_W Z msh α σ H) (hS : va_S (um_D msh α) s.heap H locs) (hl : lv_has ls 2 [(0, .ref (α 0)), (1, .int a1)]) : um_G p l e (1) (25) s m args below meth c Z msh α σ (some (.int (um_b r))) H locs (F0 m 0 ls []) := by
  have hx := Cx.1
  have hb := Cx.2.1
  have hown := Cx.2.2.2.2.1
  have hts := Cx.2.2.2.2.2.1
  rw [f_X9_isMan] at hf
  refine lv_iload_n (pc := 0) hx hb dX9_isMan_0 rfl (lv_at hl 1 rfl) ?_
  refine lv_i2l (pc := 1) hx hb dX9_isMan_1 rfl ?_
  refine lv_lconst (pc := 2) (v := (0 : Int64)) hx hb dX9_isMan_2 (by decide) ?_
  refine lv_aload_n (pc := 3) hx hb dX9_isMan_3 rfl (lv_at hl 0 rfl) ?_
  refine gF_X9_7 (pc := 4) Cx hW ms_0 rfl dX9_isMan_4 ?_
  refine lv_iconst (pc := 7) (v := (2 : Int32)) hx hb dX9_isMan_7 (by decide) ?_
  refine um_iaj (pc := 8) (n := 3790) 2 rfl Cx hW ms_1 rfl (um_ix_in (by decide)) dX9_isMan_8 ?_
  refine lv_iconst (pc := 9) (v := (1 : Int32)) hx hb dX9_isMan_9 (by decide) ?_
  refine lv_isub (pc := 10) hx hb dX9_isMan_10 ?_
  refine lv_i2l (pc := 11) hx hb dX9_isMan_11 rfl ?_
  obtain ⟨x2, hc1, hf⟩ := um_bi hf
  refine um_cSi (pc := 12) (As := [.long (a1.toInt64), .long (0 : Int64), .long (((σ.1 1 2) - (1 : Int32)).toInt64)]) (rest := []) Cx (c_X9_isIn (a1.toInt64) (0 : Int64) (((σ.1 1 2) - (1 : Int32)).toInt64) hc1) kS_X9_isIn (Or.inl qM_X9_60) hW hS rfl hl rfl (Nat.le_of_ble_eq_true rfl) (Nat.le_of_ble_eq_true rfl) (Nat.le_of_ble_eq_true rfl) dX9_isMan_12 (Nat.le_refl _) (Nat.le_refl _) ?_
  clear hW hS hc1
  intro H locs hW hS
  exact um_zretR (pc := 15) Cx hW hS hf rfl dX9_isMan_15
theorem c_X9_isMan {σ : um_S} {r : Bool} (a1 : Int32)  (hf : f_X9_isMan a1 σ = some r) : um_M l yX9_isMan cX9_isMan 2 (some FieldType.boolean) (1) (25) Z msh α σ [.ref (α 0), .int a1] (some (.int (um_b r))) σ :=
  um_start (by decide) (Nat.le_of_ble_eq_true rfl) (fun p e s m below meth c ls Cx hW hS hl => b_X9_isMan a1 hf Cx hW hS hl)
noncomputable def f_X9_manAt (a1 : Int32) (σ : um_S) : Option (Int32) :=
    some ((50 : Int32) + ((14 : Int32) * a1))
set_option maxRecDepth 100000 in
set_option maxHeartbeats 4000000 in
theorem b_X9_manAt {H : Heap} {locs : List Loc} {ls : Array Slot} {σ : um_S} {r : Int32} (a1 : Int32)  (hf : f_X9_manAt a1 σ = some r) (Cx : um_C p s m meth c args cX9_manAt 2 (some FieldType.int) RX9 Z) (hW : um_W Z msh α σ H) (hS : va_S (um_D msh α) s.heap H locs) (hl : lv_has ls 2 [(0, .ref (α 0)), (1, .int a1)]) : um_G p l e (0) (0) s m args below meth c Z msh α σ (some (.int r)) H locs (F0 m 0 ls []) := by
  have hx := Cx.1
  have hb := Cx.2.1
  have hown := Cx.2.2.2.2.1
  have hts := Cx.2.2.2.2.2.1
  rw [f_X9_manAt] at hf
  refine lv_bipush (pc := 0) (v := (50 : Int32)) hx hb dX9_manAt_0 (by decide) ?_
  refine lv_bipush (pc := 2) (v := (14 : Int32)) hx hb dX9_manAt_2 (by decide) ?_
  refine lv_iload_n (pc := 4) hx hb dX9_manAt_4 rfl (lv_at hl 1 rfl) ?_
  refine lv_imul (pc := 5) hx hb dX9_manAt_5 ?_
  refine lv_iadd (pc := 6) hx hb dX9_manAt_6 ?_
  exact um_iretR (pc := 7) Cx hW hS hf dX9_manAt_7
theorem c_X9_manAt {σ : um_S} {r : Int32} (a1 : Int32)  (hf : f_X9_manAt a1 σ = some r) : um_M l yX9_manAt cX9_manAt 2 (some FieldType.int) (0) (0) Z msh α σ [.ref (α 0), .int a1] (some (.int r)) σ :=
  um_start (by decide) (Nat.le_of_ble_eq_true rfl) (fun p e s m below meth c ls Cx hW hS hl => b_X9_manAt a1 hf Cx hW hS hl)
noncomputable def f_X9_kindOf (a1 : Int32) (σ : um_S) : Option (Int32) :=
    (f_X9_manAt a1 σ).bind fun x2 =>
    (if um_ix (x2 + (5 : Int32)) 3790 then
    (some (σ.1 1 (x2 + (5 : Int32)).toNatClampNeg)) else none)
set_option maxRecDepth 100000 in
set_option maxHeartbeats 4000000 in
theorem b_X9_kindOf {H : Heap} {locs : List Loc} {ls : Array Slot} {σ : um_S} {r : Int32} (a1 : Int32)  (hf : f_X9_kindOf a1 σ = some r) (Cx : um_C p s m meth c args cX9_kindOf 2 (some FieldType.int) RX9 Z) (hW : um_W Z msh α σ H) (hS : va_S (um_D msh α) s.heap H locs) (hl : lv_has ls 2 [(0, .ref (α 0)), (1, .int a1)]) : um_G p l e (1) (21) s m args below meth c Z msh α σ (some (.int r)) H locs (F0 m 0 ls []) := by
  have hx := Cx.1
  have hb := Cx.2.1
  have hown := Cx.2.2.2.2.1
  have hts := Cx.2.2.2.2.2.1
  rw [f_X9_kindOf] at hf
  refine lv_aload_n (pc := 0) hx hb dX9_kindOf_0 rfl (lv_at hl 0 rfl) ?_
  refine gF_X9_7 (pc := 1) Cx hW ms_0 rfl dX9_kindOf_1 ?_
  refine lv_aload_n (pc := 4) hx hb dX9_kindOf_4 rfl (lv_at hl 0 rfl) ?_
  refine lv_iload_n (pc := 5) hx hb dX9_kindOf_5 rfl (lv_at hl 1 rfl) ?_
  obtain ⟨x2, hc1, hf⟩ := um_bi hf
  refine um_cVi (pc := 6) (As := [.int a1]) (rest := [.ref (α 1)]) Cx (c_X9_manAt a1 hc1) kV_X9_manAt (Or.inl qM_X9_66) hW hS ms_0 rfl rfl hl rfl (Nat.le_of_ble_eq_true rfl) (Nat.le_of_ble_eq_true rfl) (Nat.le_of_ble_eq_true rfl) dX9_kindOf_6 (Nat.le_refl _) (Nat.le_refl _) ?_
  clear hW hS hc1
  intro H locs hW hS
  refine lv_iconst (pc := 9) (v := (5 : Int32)) hx hb dX9_kindOf_9 (by decide) ?_
  refine lv_iadd (pc := 10) hx hb dX9_kindOf_10 ?_
  obtain ⟨g3, hf⟩ := um_gu hf
  refine um_iald (pc := 11) Cx hW ms_1 rfl (um_ix_in g3) dX9_kindOf_11 ?_
  exact um_iretR (pc := 12) Cx hW hS hf dX9_kindOf_12
theorem c_X9_kindOf {σ : um_S} {r : Int32} (a1 : Int32)  (hf : f_X9_kindOf a1 σ = some r) : um_M l yX9_kindOf cX9_kindOf 2 (some FieldType.int) (1) (21) Z msh α σ [.ref (α 0), .int a1] (some (.int r)) σ :=
  um_start (by decide) (Nat.le_of_ble_eq_true rfl) (fun p e s m below meth c ls Cx hW hS hl => b_X9_kindOf a1 hf Cx hW hS hl)
noncomputable def f_X9_as (a1 : Int32) (a2 : Int32) (σ : um_S) : Option (Int32) :=
    (f_X9_isMan a1 σ).bind fun x2 =>
    (if (um_b x2) = 0 then
    (some (-1000000001 : Int32))
    else
    ((f_X9_isIn (a2.toInt64) (0 : Int64) (7 : Int64) σ).bind fun x4 =>
    (if (um_b x4) = 0 then
    (some (-1000000001 : Int32))
    else
    ((f_X9_kindOf a1 σ).bind fun x6 =>
    (um_let (fun (x8 : Int32) =>
    (if x8 = 0 then
    (some (-1000000012 : Int32))
    else
    ((f_X9_manAt a1 σ).bind fun x10 =>
    (if um_ix (x10 + (6 : Int32)) 3790 then
    (some (σ.1 1 (x10 + (6 : Int32)).toNatClampNeg)) else none)))) fun k7 =>
    (um_let (fun (_u : Unit) =>
    (k7 (1 : Int32))) fun k12 =>
    (if a2 = 0 then
    (k12 ())
    else
    (if a2 = x6 then
    (k12 ())
    else
    (um_let (fun (_u : Unit) =>
    (k7 (0 : Int32))) fun k13 =>
    (if a2 = (1 : Int32) then
    ((f_X9_isIn (x6.toInt64) (1 : Int64) (4 : Int64) σ).bind fun x15 =>
    (if (um_b x15) = 0 then
    (if x6 = (7 : Int32) then
    (k12 ())
    else
    (k13 ()))
    else
    (k12 ())))
    else
    (k13 ())))))))))))
set_option maxRecDepth 100000 in
set_option maxHeartbeats 4000000 in
theorem b_X9_as {H : Heap} {locs : List Loc} {ls : Array Slot} {σ : um_S} {r : Int32} (a1 : Int32) (a2 : Int32)  (hf : f_X9_as a1 a2 σ = some r) (Cx : um_C p s m meth c args cX9_as 5 (some FieldType.int) RX9 Z) (hW : um_W Z msh α σ H) (hS : va_S (um_D msh α) s.heap H locs) (hl : lv_has ls 5 [(0, .ref (α 0)), (1, .int a1), (2, .int a2)]) : um_G p l e (2) (46) s m args below meth c Z msh α σ (some (.int r)) H locs (F0 m 0 ls []) := by
  have hx := Cx.1
  have hb := Cx.2.1
  have hown := Cx.2.2.2.2.1
  have hts := Cx.2.2.2.2.2.1
  rw [f_X9_as] at hf
  refine lv_aload_n (pc := 0) hx hb dX9_as_0 rfl (lv_at hl 0 rfl) ?_
  refine lv_iload_n (pc := 1) hx hb dX9_as_1 rfl (lv_at hl 1 rfl) ?_
  obtain ⟨x2, hc1, hf⟩ := um_bi hf
  refine um_cVi (pc := 2) (As := [.int a1]) (rest := []) Cx (c_X9_isMan a1 hc1) kV_X9_isMan (Or.inl qM_X9_101) hW hS ms_0 rfl rfl hl rfl (Nat.le_of_ble_eq_true rfl) (Nat.le_of_ble_eq_true rfl) (Nat.le_of_ble_eq_true rfl) dX9_as_2 (Nat.le_refl _) (Nat.le_refl _) ?_
  clear hW hS hc1
  intro H locs hW hS
  refine lv_if_eq (pc := 5) (tgt := 20) hx hb dX9_as_5 (by decide) (fun c1 => ?_) (fun c1 => ?_)
  · have hf := um_it c1 hf
    clear c1
    refine lv_ldc (pc := 20) hx hb hown (hts _ qC_X9_87) dX9_as_20 ?_
    exact um_iretR (pc := 22) Cx hW hS hf dX9_as_22
  · have hf := um_ie c1 hf
    clear c1
    refine lv_iload_n (pc := 8) hx hb dX9_as_8 rfl (lv_at hl 2 rfl) ?_
    refine lv_i2l (pc := 9) hx hb dX9_as_9 rfl ?_
    refine lv_lconst (pc := 10) (v := (0 : Int64)) hx hb dX9_as_10 (by decide) ?_
    refine lv_ldc2 (pc := 11) hx hb hown (hts _ qL_X9_89) dX9_as_11 ?_
    obtain ⟨x4, hc3, hf⟩ := um_bi hf
    refine um_cSi (pc := 14) (As := [.long (a2.toInt64), .long (0 : Int64), .long (7 : Int64)]) (rest := []) Cx (c_X9_isIn (a2.toInt64) (0 : Int64) (7 : Int64) hc3) kS_X9_isIn (Or.inl qM_X9_60) hW hS rfl hl rfl (Nat.le_of_ble_eq_true rfl) (Nat.le_of_ble_eq_true rfl) (Nat.le_of_ble_eq_true rfl) dX9_as_14 (Nat.le_refl _) (Nat.le_refl _) ?_
    clear hW hS hc3
    intro H locs hW hS
    refine lv_if_ne (pc := 17) (tgt := 23) hx hb dX9_as_17 (by decide) (fun c1 => ?_) (fun c1 => ?_)
    · have hf := um_ie c1 hf
      clear c1
      refine lv_aload_n (pc := 23) hx hb dX9_as_23 rfl (lv_at hl 0 rfl) ?_
      refine lv_iload_n (pc := 24) hx hb dX9_as_24 rfl (lv_at hl 1 rfl) ?_
      obtain ⟨x6, hc5, hf⟩ := um_bi hf
      refine um_cVi (pc := 25) (As := [.int a1]) (rest := []) Cx (c_X9_kindOf a1 hc5) kV_X9_kindOf (Or.inl qM_X9_77) hW hS ms_0 rfl rfl hl rfl (Nat.le_of_ble_eq_true rfl) (Nat.le_of_ble_eq_true rfl) (Nat.le_of_ble_eq_true rfl) dX9_as_25 (Nat.le_refl _) (Nat.le_refl _) ?_
      clear hW hS hc5
      intro H locs hW hS
      refine lv_istore_n (pc := 28) (lv' := [(3, .int x6), (0, .ref (α 0)), (1, .int a1), (2, .int a2)]) hx hb dX9_as_28 rfl hl (by decide) rfl ?_
      clear hl
      intro ls hl
      refine lv_iload_n (pc := 29) hx hb dX9_as_29 rfl (lv_at hl 3 rfl) ?_
      obtain ⟨k7, hk7, hf⟩ := um_j1 hf
      have J7 : ∀ (x8 : Int32), k7 x8 = some r → ∀ (H : Heap) (locs : List Loc) (ls : Array Slot), um_W Z msh α σ H → va_S (um_D msh α) s.heap H locs → lv_has ls 5 [(0, .ref (α 0)), (1, .int a1)] → um_G p l e (2) (46) s m args below meth c Z msh α σ (some (.int r)) H locs (F0 m 66 ls [.int x8]) := by
        intro x8 hf H locs ls hW hS hl
        rw [hk7] at hf
        refine lv_istore (pc := 66) (lv' := [(4, .int x8), (0, .ref (α 0)), (1, .int a1)]) hx hb dX9_as_66 hl (by decide) rfl ?_
        clear hl
        intro ls hl
        refine lv_iload (pc := 68) hx hb dX9_as_68 (lv_at hl 0 rfl) ?_
        refine lv_if_eq (pc := 70) (tgt := 89) hx hb dX9_as_70 (by decide) (fun c1 => ?_) (fun c1 => ?_)
        · have hf := um_it c1 hf
          clear c1
          refine lv_ldc (pc := 89) hx hb hown (hts _ qC_X9_122) dX9_as_89 ?_
          exact um_iretR (pc := 91) Cx hW hS hf dX9_as_91
        · have hf := um_ie c1 hf
          clear c1
          refine lv_aload_n (pc := 73) hx hb dX9_as_73 rfl (lv_at hl 1 rfl) ?_
          refine gF_X9_7 (pc := 74) Cx hW ms_0 rfl dX9_as_74 ?_
          refine lv_aload_n (pc := 77) hx hb dX9_as_77 rfl (lv_at hl 1 rfl) ?_
          refine lv_iload_n (pc := 78) hx hb dX9_as_78 rfl (lv_at hl 2 rfl) ?_
          obtain ⟨x10, hc9, hf⟩ := um_bi hf
          refine um_cVi (pc := 79) (As := [.int a1]) (rest := [.ref (α 1)]) Cx (c_X9_manAt a1 hc9) kV_X9_manAt (Or.inl qM_X9_66) hW hS ms_0 rfl rfl hl rfl (Nat.le_of_ble_eq_true rfl) (Nat.le_of_ble_eq_true rfl) (Nat.le_of_ble_eq_true rfl) dX9_as_79 (Nat.le_refl _) (Nat.le_refl _) ?_
          clear hW hS hc9
          intro H locs hW hS
          refine lv_bipush (pc := 82) (v := (6 : Int32)) hx hb dX9_as_82 (by decide) ?_
          refine lv_iadd (pc := 84) hx hb dX9_as_84 ?_
          obtain ⟨g11, hf⟩ := um_gu hf
          refine um_iald (pc := 85) Cx hW ms_1 rfl (um_ix_in g11) dX9_as_85 ?_
          refine lv_goto (pc := 86) (tgt := 91) hx hb dX9_as_86 (by decide) ?_
          exact um_iretR (pc := 91) Cx hW hS hf dX9_as_91
      obtain ⟨k12, hk12, hf⟩ := um_j1 hf
      have J12 : ∀ (_u : Unit), k12 _u = some r → ∀ (H : Heap) (locs : List Loc) (ls : Array Slot), um_W Z msh α σ H → va_S (um_D msh α) s.heap H locs → lv_has ls 5 [(0, .ref (α 0)), (1, .int a1)] → um_G p l e (2) (46) s m args below meth c Z msh α σ (some (.int r)) H locs (F0 m 61 ls []) := by
        intro _u hf H locs ls hW hS hl
        rw [hk12] at hf
        refine lv_iconst (pc := 61) (v := (1 : Int32)) hx hb dX9_as_61 (by decide) ?_
        refine lv_goto (pc := 62) (tgt := 66) hx hb dX9_as_62 (by decide) ?_
        exact J7 (1 : Int32) hf _ _ _ hW hS hl
      refine lv_if_eq (pc := 30) (tgt := 61) hx hb dX9_as_30 (by decide) (fun c1 => ?_) (fun c1 => ?_)
      · have hf := um_it c1 hf
        clear c1
        exact J12 () hf _ _ _ hW hS (lv_sub hl [1, 2] rfl)
      · have hf := um_ie c1 hf
        clear c1
        refine lv_iload_n (pc := 33) hx hb dX9_as_33 rfl (lv_at hl 3 rfl) ?_
        refine lv_iload_n (pc := 34) hx hb dX9_as_34 rfl (lv_at hl 0 rfl) ?_
        refine lv_icmp_eq (pc := 35) (tgt := 61) hx hb dX9_as_35 (by decide) (fun c1 => ?_) (fun c1 => ?_)
        · have hf := um_it c1 hf
          clear c1
          exact J12 () hf _ _ _ hW hS (lv_sub hl [1, 2] rfl)
        · have hf := um_ie c1 hf
          clear c1
          refine lv_iload_n (pc := 38) hx hb dX9_as_38 rfl (lv_at hl 3 rfl) ?_
          refine lv_iconst (pc := 39) (v := (1 : Int32)) hx hb dX9_as_39 (by decide) ?_
          obtain ⟨k13, hk13, hf⟩ := um_j1 hf
          have J13 : ∀ (_u : Unit), k13 _u = some r → ∀ (H : Heap) (locs : List Loc) (ls : Array Slot), um_W Z msh α σ H → va_S (um_D msh α) s.heap H locs → lv_has ls 5 [(0, .ref (α 0)), (1, .int a1)] → um_G p l e (2) (46) s m args below meth c Z msh α σ (some (.int r)) H locs (F0 m 65 ls []) := by
            intro _u hf H locs ls hW hS hl
            rw [hk13] at hf
            refine lv_iconst (pc := 65) (v := (0 : Int32)) hx hb dX9_as_65 (by decide) ?_
            exact J7 (0 : Int32) hf _ _ _ hW hS hl
          refine lv_icmp_ne (pc := 40) (tgt := 65) hx hb dX9_as_40 (by decide) (fun c1 => ?_) (fun c1 => ?_)
          · have hf := um_ie c1 hf
            clear c1
            exact J13 () hf _ _ _ hW hS (lv_sub hl [1, 2] rfl)
          · have hf := um_it c1 hf
            clear c1
            refine lv_iload_n (pc := 43) hx hb dX9_as_43 rfl (lv_at hl 0 rfl) ?_
            refine lv_i2l (pc := 44) hx hb dX9_as_44 rfl ?_
            refine lv_lconst (pc := 45) (v := (1 : Int64)) hx hb dX9_as_45 (by decide) ?_
            refine lv_ldc2 (pc := 46) hx hb hown (hts _ qL_X9_80) dX9_as_46 ?_
            obtain ⟨x15, hc14, hf⟩ := um_bi hf
            refine um_cSi (pc := 49) (As := [.long (x6.toInt64), .long (1 : Int64), .long (4 : Int64)]) (rest := []) Cx (c_X9_isIn (x6.toInt64) (1 : Int64) (4 : Int64) hc14) kS_X9_isIn (Or.inl qM_X9_60) hW hS rfl hl rfl (Nat.le_of_ble_eq_true rfl) (Nat.le_of_ble_eq_true rfl) (Nat.le_of_ble_eq_true rfl) dX9_as_49 (Nat.le_refl _) (Nat.le_refl _) ?_
            clear hW hS hc14
            intro H locs hW hS
            refine lv_if_ne (pc := 52) (tgt := 61) hx hb dX9_as_52 (by decide) (fun c1 => ?_) (fun c1 => ?_)
            · have hf := um_ie c1 hf
              clear c1
              exact J12 () hf _ _ _ hW hS (lv_sub hl [1, 2] rfl)
            · have hf := um_it c1 hf
              clear c1
              refine lv_iload_n (pc := 55) hx hb dX9_as_55 rfl (lv_at hl 0 rfl) ?_
              refine lv_bipush (pc := 56) (v := (7 : Int32)) hx hb dX9_as_56 (by decide) ?_
              refine lv_icmp_ne (pc := 58) (tgt := 65) hx hb dX9_as_58 (by decide) (fun c1 => ?_) (fun c1 => ?_)
              · have hf := um_ie c1 hf
                clear c1
                exact J13 () hf _ _ _ hW hS (lv_sub hl [1, 2] rfl)
              · have hf := um_it c1 hf
                clear c1
                exact J12 () hf _ _ _ hW hS (lv_sub hl [1, 2] rfl)
    · have hf := um_it c1 hf
      clear c1
      refine lv_ldc (pc := 20) hx hb hown (hts _ qC_X9_87) dX9_as_20 ?_
      exact um_iretR (pc := 22) Cx hW hS hf dX9_as_22
theorem c_X9_as {σ : um_S} {r : Int32} (a1 : Int32) (a2 : Int32)  (hf : f_X9_as a1 a2 σ = some r) : um_M l yX9_as cX9_as 5 (some FieldType.int) (2) (46) Z msh α σ [.ref (α 0), .int a1, .int a2] (some (.int r)) σ :=
  um_start (by decide) (Nat.le_of_ble_eq_true rfl) (fun p e s m below meth c ls Cx hW hS hl => b_X9_as a1 a2 hf Cx hW hS hl)
noncomputable def f_X9_isDead (a1 : Int32) (σ : um_S) : Option (Bool) :=
    (f_X9_manAt a1 σ).bind fun x2 =>
    (if um_ix (x2 + (11 : Int32)) 3790 then
    (if (σ.1 1 (x2 + (11 : Int32)).toNatClampNeg) = (1 : Int32) then
    (some true)
    else
    (some false)) else none)
set_option maxRecDepth 100000 in
set_option maxHeartbeats 4000000 in
theorem b_X9_isDead {H : Heap} {locs : List Loc} {ls : Array Slot} {σ : um_S} {r : Bool} (a1 : Int32)  (hf : f_X9_isDead a1 σ = some r) (Cx : um_C p s m meth c args cX9_isDead 2 (some FieldType.boolean) RX9 Z) (hW : um_W Z msh α σ H) (hS : va_S (um_D msh α) s.heap H locs) (hl : lv_has ls 2 [(0, .ref (α 0)), (1, .int a1)]) : um_G p l e (1) (21) s m args below meth c Z msh α σ (some (.int (um_b r))) H locs (F0 m 0 ls []) := by
  have hx := Cx.1
  have hb := Cx.2.1
  have hown := Cx.2.2.2.2.1
  have hts := Cx.2.2.2.2.2.1
  rw [f_X9_isDead] at hf
  refine lv_aload_n (pc := 0) hx hb dX9_isDead_0 rfl (lv_at hl 0 rfl) ?_
  refine gF_X9_7 (pc := 1) Cx hW ms_0 rfl dX9_isDead_1 ?_
  refine lv_aload_n (pc := 4) hx hb dX9_isDead_4 rfl (lv_at hl 0 rfl) ?_
  refine lv_iload_n (pc := 5) hx hb dX9_isDead_5 rfl (lv_at hl 1 rfl) ?_
  obtain ⟨x2, hc1, hf⟩ := um_bi hf
  refine um_cVi (pc := 6) (As := [.int a1]) (rest := [.ref (α 1)]) Cx (c_X9_manAt a1 hc1) kV_X9_manAt (Or.inl qM_X9_66) hW hS ms_0 rfl rfl hl rfl (Nat.le_of_ble_eq_true rfl) (Nat.le_of_ble_eq_true rfl) (Nat.le_of_ble_eq_true rfl) dX9_isDead_6 (Nat.le_refl _) (Nat.le_refl _) ?_
  clear hW hS hc1
  intro H locs hW hS
  refine lv_bipush (pc := 9) (v := (11 : Int32)) hx hb dX9_isDead_9 (by decide) ?_
  refine lv_iadd (pc := 11) hx hb dX9_isDead_11 ?_
  obtain ⟨g3, hf⟩ := um_gu hf
  refine um_iald (pc := 12) Cx hW ms_1 rfl (um_ix_in g3) dX9_isDead_12 ?_
  refine lv_iconst (pc := 13) (v := (1 : Int32)) hx hb dX9_isDead_13 (by decide) ?_
  refine lv_icmp_ne (pc := 14) (tgt := 21) hx hb dX9_isDead_14 (by decide) (fun c1 => ?_) (fun c1 => ?_)
  · have hf := um_ie c1 hf
    clear c1
    refine lv_iconst (pc := 21) (v := (0 : Int32)) hx hb dX9_isDead_21 (by decide) ?_
    exact um_zretR (pc := 22) Cx hW hS hf rfl dX9_isDead_22
  · have hf := um_it c1 hf
    clear c1
    refine lv_iconst (pc := 17) (v := (1 : Int32)) hx hb dX9_isDead_17 (by decide) ?_
    refine lv_goto (pc := 18) (tgt := 22) hx hb dX9_isDead_18 (by decide) ?_
    exact um_zretR (pc := 22) Cx hW hS hf rfl dX9_isDead_22
theorem c_X9_isDead {σ : um_S} {r : Bool} (a1 : Int32)  (hf : f_X9_isDead a1 σ = some r) : um_M l yX9_isDead cX9_isDead 2 (some FieldType.boolean) (1) (21) Z msh α σ [.ref (α 0), .int a1] (some (.int (um_b r))) σ :=
  um_start (by decide) (Nat.le_of_ble_eq_true rfl) (fun p e s m below meth c ls Cx hW hS hl => b_X9_isDead a1 hf Cx hW hS hl)
noncomputable def f_X9_assignedTo_l4 (v1 : Int32) (σ : um_S) : Nat → Int32 → Int32 → Option (Int32)
  | 0, _, _ => none
  | n + 1, v2, v3 =>
    if (σ.1 1 2) ≤ v3 then
    (some v2)
    else
    ((f_X9_kindOf v3 σ).bind fun x2 =>
    (if x2 = (2 : Int32) then
    ((f_X9_isDead v3 σ).bind fun x6 =>
    (if (um_b x6) = 0 then
    ((f_X9_manAt v3 σ).bind fun x10 =>
    (if um_ix (x10 + (6 : Int32)) 3790 then
    (if (σ.1 1 (x10 + (6 : Int32)).toNatClampNeg) = v1 then
    (um_let (v2 + (1 : Int32)) fun x14 =>
    (f_X9_assignedTo_l4 v1 σ n x14 (v3 + (1 : Int32))))
    else
    (um_let (v2 + (0 : Int32)) fun x12 =>
    (f_X9_assignedTo_l4 v1 σ n x12 (v3 + (1 : Int32))))) else none))
    else
    (um_let (v2 + (0 : Int32)) fun x7 =>
    (f_X9_assignedTo_l4 v1 σ n x7 (v3 + (1 : Int32))))))
    else
    (um_let (v2 + (0 : Int32)) fun x3 =>
    (f_X9_assignedTo_l4 v1 σ n x3 (v3 + (1 : Int32))))))
noncomputable def f_X9_assignedTo (a1 : Int32) (σ : um_S) : Option (Int32) :=
    (f_X9_assignedTo_l4 a1 σ um_N (0 : Int32) (0 : Int32)).bind fun x1 =>
    (some x1)
set_option maxRecDepth 100000 in
set_option maxHeartbeats 4000000 in
theorem t_X9_assignedTo_l4 {Q : State → Prop} {o2 : Int32} {σ : um_S} (v1 : Int32)  (Cx : um_C p s m meth c args cX9_assignedTo 4 (some FieldType.int) RX9 Z) (hE : ∀ (H : Heap) (locs : List Loc) (ls : Array Slot), um_W Z msh α σ H → va_S (um_D msh α) s.heap H locs → lv_has ls 4 [(2, .int o2)] → W p l e { frames := 2, cells := 0, slots := 0, locals := 42 } s m args below meth c H locs 0 0 Q (F0 m 62 ls [])) : ∀ (n : Nat) (v2 : Int32) (v3 : Int32) (H : Heap) (locs : List Loc) (ls : Array Slot), f_X9_assignedTo_l4 v1 σ n v2 v3 = some o2 → um_W Z msh α σ H → va_S (um_D msh α) s.heap H locs → lv_has ls 4 [(0, .ref (α 0)), (1, .int v1), (2, .int v2), (3, .int v3)] → W p l e { frames := 2, cells := 0, slots := 0, locals := 42 } s m args below meth c H locs 0 0 Q (F0 m 4 ls []) := by
  have hx := Cx.1
  have hb := Cx.2.1
  have hown := Cx.2.2.2.2.1
  have hts := Cx.2.2.2.2.2.1
  intro n
  induction n with
  | zero =>
    intro v2 v3 H locs ls hf hW hS hl
    cases hf
  | succ n ih =>
    intro v2 v3 H locs ls hf hW hS hl
    rw [f_X9_assignedTo_l4] at hf
    refine lv_iload_n (pc := 4) hx hb dX9_assignedTo_4 rfl (lv_at hl 3 rfl) ?_
    refine lv_aload_n (pc := 5) hx hb dX9_assignedTo_5 rfl (lv_at hl 0 rfl) ?_
    refine gF_X9_7 (pc := 6) Cx hW ms_0 rfl dX9_assignedTo_6 ?_
    refine lv_iconst (pc := 9) (v := (2 : Int32)) hx hb dX9_assignedTo_9 (by decide) ?_
    refine um_iaj (pc := 10) (n := 3790) 2 rfl Cx hW ms_1 rfl (um_ix_in (by decide)) dX9_assignedTo_10 ?_
    refine lv_icmp_ge (pc := 11) (tgt := 62) hx hb dX9_assignedTo_11 (by decide) (fun c1 => ?_) (fun c1 => ?_)
    · have hf := um_it c1 hf
      clear c1
      cases hf
      exact hE _ _ _ hW hS (lv_sub hl [2] rfl)
    · have hf := um_ie c1 hf
      clear c1
      refine lv_iload_n (pc := 14) hx hb dX9_assignedTo_14 rfl (lv_at hl 2 rfl) ?_
      refine lv_aload_n (pc := 15) hx hb dX9_assignedTo_15 rfl (lv_at hl 0 rfl) ?_
      refine lv_iload_n (pc := 16) hx hb dX9_assignedTo_16 rfl (lv_at hl 3 rfl) ?_
      obtain ⟨x2, hc1, hf⟩ := um_bi hf
      refine um_cVi (pc := 17) (As := [.int v3]) (rest := [.int v2]) Cx (c_X9_kindOf v3 hc1) kV_X9_kindOf (Or.inl qM_X9_77) hW hS ms_0 rfl rfl hl rfl (Nat.le_of_ble_eq_true rfl) (Nat.le_of_ble_eq_true rfl) (Nat.le_of_ble_eq_true rfl) dX9_assignedTo_17 (Nat.le_refl _) (Nat.le_refl _) ?_
      clear hW hS hc1
      intro H locs hW hS
      refine lv_iconst (pc := 20) (v := (2 : Int32)) hx hb dX9_assignedTo_20 (by decide) ?_
      refine lv_icmp_ne (pc := 21) (tgt := 53) hx hb dX9_assignedTo_21 (by decide) (fun c1 => ?_) (fun c1 => ?_)
      · have hf := um_ie c1 hf
        clear c1
        refine lv_iconst (pc := 53) (v := (0 : Int32)) hx hb dX9_assignedTo_53 (by decide) ?_
        refine lv_iadd (pc := 54) hx hb dX9_assignedTo_54 ?_
        obtain ⟨x3, e4, hf⟩ := um_le hf
        refine um_top e4 ?_
        clear e4
        refine lv_istore_n (pc := 55) (lv' := [(2, .int x3), (0, .ref (α 0)), (1, .int v1), (3, .int v3)]) hx hb dX9_assignedTo_55 rfl hl (by decide) rfl ?_
        clear hl
        intro ls hl
        refine lv_iinc (pc := 56) (v := v3 + (1 : Int32)) (lv' := [(3, .int (v3 + (1 : Int32))), (2, .int x3), (0, .ref (α 0)), (1, .int v1)]) hx hb dX9_assignedTo_56 hl (k := 3) rfl rfl (by decide) rfl ?_
        clear hl
        intro ls hl
        refine lv_goto (pc := 59) (tgt := 4) hx hb dX9_assignedTo_59 (by decide) ?_
        exact ih _ _ _ _ _ hf hW hS (lv_sub hl [2, 3, 1, 0] rfl)
      · have hf := um_it c1 hf
        clear c1
        refine lv_aload_n (pc := 24) hx hb dX9_assignedTo_24 rfl (lv_at hl 0 rfl) ?_
        refine lv_iload_n (pc := 25) hx hb dX9_assignedTo_25 rfl (lv_at hl 3 rfl) ?_
        obtain ⟨x6, hc5, hf⟩ := um_bi hf
        refine um_cVi (pc := 26) (As := [.int v3]) (rest := [.int v2]) Cx (c_X9_isDead v3 hc5) kV_X9_isDead (Or.inl qM_X9_70) hW hS ms_0 rfl rfl hl rfl (Nat.le_of_ble_eq_true rfl) (Nat.le_of_ble_eq_true rfl) (Nat.le_of_ble_eq_true rfl) dX9_assignedTo_26 (Nat.le_refl _) (Nat.le_refl _) ?_
        clear hW hS hc5
        intro H locs hW hS
        refine lv_if_ne (pc := 29) (tgt := 53) hx hb dX9_assignedTo_29 (by decide) (fun c1 => ?_) (fun c1 => ?_)
        · have hf := um_ie c1 hf
          clear c1
          refine lv_iconst (pc := 53) (v := (0 : Int32)) hx hb dX9_assignedTo_53 (by decide) ?_
          refine lv_iadd (pc := 54) hx hb dX9_assignedTo_54 ?_
          obtain ⟨x7, e8, hf⟩ := um_le hf
          refine um_top e8 ?_
          clear e8
          refine lv_istore_n (pc := 55) (lv' := [(2, .int x7), (0, .ref (α 0)), (1, .int v1), (3, .int v3)]) hx hb dX9_assignedTo_55 rfl hl (by decide) rfl ?_
          clear hl
          intro ls hl
          refine lv_iinc (pc := 56) (v := v3 + (1 : Int32)) (lv' := [(3, .int (v3 + (1 : Int32))), (2, .int x7), (0, .ref (α 0)), (1, .int v1)]) hx hb dX9_assignedTo_56 hl (k := 3) rfl rfl (by decide) rfl ?_
          clear hl
          intro ls hl
          refine lv_goto (pc := 59) (tgt := 4) hx hb dX9_assignedTo_59 (by decide) ?_
          exact ih _ _ _ _ _ hf hW hS (lv_sub hl [2, 3, 1, 0] rfl)
        · have hf := um_it c1 hf
          clear c1
          refine lv_aload_n (pc := 32) hx hb dX9_assignedTo_32 rfl (lv_at hl 0 rfl) ?_
          refine gF_X9_7 (pc := 33) Cx hW ms_0 rfl dX9_assignedTo_33 ?_
          refine lv_aload_n (pc := 36) hx hb dX9_assignedTo_36 rfl (lv_at hl 0 rfl) ?_
          refine lv_iload_n (pc := 37) hx hb dX9_assignedTo_37 rfl (lv_at hl 3 rfl) ?_
          obtain ⟨x10, hc9, hf⟩ := um_bi hf
          refine um_cVi (pc := 38) (As := [.int v3]) (rest := [.ref (α 1), .int v2]) Cx (c_X9_manAt v3 hc9) kV_X9_manAt (Or.inl qM_X9_66) hW hS ms_0 rfl rfl hl rfl (Nat.le_of_ble_eq_true rfl) (Nat.le_of_ble_eq_true rfl) (Nat.le_of_ble_eq_true rfl) dX9_assignedTo_38 (Nat.le_refl _) (Nat.le_refl _) ?_
          clear hW hS hc9
          intro H locs hW hS
          refine lv_bipush (pc := 41) (v := (6 : Int32)) hx hb dX9_assignedTo_41 (by decide) ?_
          refine lv_iadd (pc := 43) hx hb dX9_assignedTo_43 ?_
          obtain ⟨g11, hf⟩ := um_gu hf
          refine um_iald (pc := 44) Cx hW ms_1 rfl (um_ix_in g11) dX9_assignedTo_44 ?_
          refine lv_iload_n (pc := 45) hx hb dX9_assignedTo_45 rfl (lv_at hl 1 rfl) ?_
          refine lv_icmp_ne (pc := 46) (tgt := 53) hx hb dX9_assignedTo_46 (by decide) (fun c1 => ?_) (fun c1 => ?_)
          · have hf := um_ie c1 hf
            clear c1
            refine lv_iconst (pc := 53) (v := (0 : Int32)) hx hb dX9_assignedTo_53 (by decide) ?_
            refine lv_iadd (pc := 54) hx hb dX9_assignedTo_54 ?_
            obtain ⟨x12, e13, hf⟩ := um_le hf
            refine um_top e13 ?_
            clear e13
            refine lv_istore_n (pc := 55) (lv' := [(2, .int x12), (0, .ref (α 0)), (1, .int v1), (3, .int v3)]) hx hb dX9_assignedTo_55 rfl hl (by decide) rfl ?_
            clear hl
            intro ls hl
            refine lv_iinc (pc := 56) (v := v3 + (1 : Int32)) (lv' := [(3, .int (v3 + (1 : Int32))), (2, .int x12), (0, .ref (α 0)), (1, .int v1)]) hx hb dX9_assignedTo_56 hl (k := 3) rfl rfl (by decide) rfl ?_
            clear hl
            intro ls hl
            refine lv_goto (pc := 59) (tgt := 4) hx hb dX9_assignedTo_59 (by decide) ?_
            exact ih _ _ _ _ _ hf hW hS (lv_sub hl [2, 3, 1, 0] rfl)
          · have hf := um_it c1 hf
            clear c1
            refine lv_iconst (pc := 49) (v := (1 : Int32)) hx hb dX9_assignedTo_49 (by decide) ?_
            refine lv_goto (pc := 50) (tgt := 54) hx hb dX9_assignedTo_50 (by decide) ?_
            refine lv_iadd (pc := 54) hx hb dX9_assignedTo_54 ?_
            obtain ⟨x14, e15, hf⟩ := um_le hf
            refine um_top e15 ?_
            clear e15
            refine lv_istore_n (pc := 55) (lv' := [(2, .int x14), (0, .ref (α 0)), (1, .int v1), (3, .int v3)]) hx hb dX9_assignedTo_55 rfl hl (by decide) rfl ?_
            clear hl
            intro ls hl
            refine lv_iinc (pc := 56) (v := v3 + (1 : Int32)) (lv' := [(3, .int (v3 + (1 : Int32))), (2, .int x14), (0, .ref (α 0)), (1, .int v1)]) hx hb dX9_assignedTo_56 hl (k := 3) rfl rfl (by decide) rfl ?_
            clear hl
            intro ls hl
            refine lv_goto (pc := 59) (tgt := 4) hx hb dX9_assignedTo_59 (by decide) ?_
            exact ih _ _ _ _ _ hf hW hS (lv_sub hl [2, 3, 1, 0] rfl)
set_option maxRecDepth 100000 in
set_option maxHeartbeats 4000000 in
theorem b_X9_assignedTo {H : Heap} {locs : List Loc} {ls : Array Slot} {σ : um_S} {r : Int32} (a1 : Int32)  (hf : f_X9_assignedTo a1 σ = some r) (Cx : um_C p s m meth c args cX9_assignedTo 4 (some FieldType.int) RX9 Z) (hW : um_W Z msh α σ H) (hS : va_S (um_D msh α) s.heap H locs) (hl : lv_has ls 4 [(0, .ref (α 0)), (1, .int a1)]) : um_G p l e (2) (42) s m args below meth c Z msh α σ (some (.int r)) H locs (F0 m 0 ls []) := by
  have hx := Cx.1
  have hb := Cx.2.1
  have hown := Cx.2.2.2.2.1
  have hts := Cx.2.2.2.2.2.1
  rw [f_X9_assignedTo] at hf
  refine lv_iconst (pc := 0) (v := (0 : Int32)) hx hb dX9_assignedTo_0 (by decide) ?_
  refine lv_istore_n (pc := 1) (lv' := [(2, .int (0 : Int32)), (0, .ref (α 0)), (1, .int a1)]) hx hb dX9_assignedTo_1 rfl hl (by decide) rfl ?_
  clear hl
  intro ls hl
  refine lv_iconst (pc := 2) (v := (0 : Int32)) hx hb dX9_assignedTo_2 (by decide) ?_
  refine lv_istore_n (pc := 3) (lv' := [(3, .int (0 : Int32)), (2, .int (0 : Int32)), (0, .ref (α 0)), (1, .int a1)]) hx hb dX9_assignedTo_3 rfl hl (by decide) rfl ?_
  clear hl
  intro ls hl
  obtain ⟨x1, hc2, hf⟩ := um_bi hf
  refine t_X9_assignedTo_l4 a1 Cx ?_ um_N _ _ _ _ _ hc2 hW hS (lv_sub hl [2, 3, 1, 0] rfl)
  clear hW hS hl hc2
  intro H locs ls hW hS hl
  refine lv_iload_n (pc := 62) hx hb dX9_assignedTo_62 rfl (lv_at hl 0 rfl) ?_
  exact um_iretR (pc := 63) Cx hW hS hf dX9_assignedTo_63
theorem c_X9_assignedTo {σ : um_S} {r : Int32} (a1 : Int32)  (hf : f_X9_assignedTo a1 σ = some r) : um_M l yX9_assignedTo cX9_assignedTo 4 (some FieldType.int) (2) (42) Z msh α σ [.ref (α 0), .int a1] (some (.int r)) σ :=
  um_start (by decide) (Nat.le_of_ble_eq_true rfl) (fun p e s m below meth c ls Cx hW hS hl => b_X9_assignedTo a1 hf Cx hW hS hl)
noncomputable def f_X9_becomesOf (a1 : Int32) (a2 : Int32) (a3 : Int32) (σ : um_S) : Option (um_S) :=
    (f_X9_manAt a1 σ).bind fun x2 =>
    (if um_ix (x2 + (5 : Int32)) 3790 then
    (um_let (um_wr σ 1 (x2 + (5 : Int32)).toNatClampNeg a2) fun σ4 =>
    (if um_ix (x2 + (6 : Int32)) 3790 then
    (um_let (um_wr σ4 1 (x2 + (6 : Int32)).toNatClampNeg a3) fun σ7 =>
    (if um_ix (x2 + (7 : Int32)) 3790 then
    (um_let (um_wr σ7 1 (x2 + (7 : Int32)).toNatClampNeg (σ7.1 1 0)) fun σ10 =>
    (some σ10)) else none)) else none)) else none)
set_option maxRecDepth 100000 in
set_option maxHeartbeats 4000000 in
theorem b_X9_becomesOf {H : Heap} {locs : List Loc} {ls : Array Slot} {σ : um_S} {σ' : um_S} (a1 : Int32) (a2 : Int32) (a3 : Int32)  (hf : f_X9_becomesOf a1 a2 a3 σ = some σ') (Cx : um_C p s m meth c args cX9_becomesOf 5 none RX9 Z) (hW : um_W Z msh α σ H) (hS : va_S (um_D msh α) s.heap H locs) (hl : lv_has ls 5 [(0, .ref (α 0)), (1, .int a1), (2, .int a2), (3, .int a3)]) : um_G p l e (1) (21) s m args below meth c Z msh α σ' none H locs (F0 m 0 ls []) := by
  have hx := Cx.1
  have hb := Cx.2.1
  have hown := Cx.2.2.2.2.1
  have hts := Cx.2.2.2.2.2.1
  rw [f_X9_becomesOf] at hf
  refine lv_aload_n (pc := 0) hx hb dX9_becomesOf_0 rfl (lv_at hl 0 rfl) ?_
  refine lv_iload_n (pc := 1) hx hb dX9_becomesOf_1 rfl (lv_at hl 1 rfl) ?_
  obtain ⟨x2, hc1, hf⟩ := um_bi hf
  refine um_cVi (pc := 2) (As := [.int a1]) (rest := []) Cx (c_X9_manAt a1 hc1) kV_X9_manAt (Or.inl qM_X9_66) hW hS ms_0 rfl rfl hl rfl (Nat.le_of_ble_eq_true rfl) (Nat.le_of_ble_eq_true rfl) (Nat.le_of_ble_eq_true rfl) dX9_becomesOf_2 (Nat.le_refl _) (Nat.le_refl _) ?_
  clear hW hS hc1
  intro H locs hW hS
  refine lv_istore (pc := 5) (lv' := [(4, .int x2), (0, .ref (α 0)), (1, .int a1), (2, .int a2), (3, .int a3)]) hx hb dX9_becomesOf_5 hl (by decide) rfl ?_
  clear hl
  intro ls hl
  refine lv_aload_n (pc := 7) hx hb dX9_becomesOf_7 rfl (lv_at hl 1 rfl) ?_
  refine gF_X9_7 (pc := 8) Cx hW ms_0 rfl dX9_becomesOf_8 ?_
  refine lv_iload (pc := 11) hx hb dX9_becomesOf_11 (lv_at hl 0 rfl) ?_
  refine lv_iconst (pc := 13) (v := (5 : Int32)) hx hb dX9_becomesOf_13 (by decide) ?_
  refine lv_iadd (pc := 14) hx hb dX9_becomesOf_14 ?_
  refine lv_iload_n (pc := 15) hx hb dX9_becomesOf_15 rfl (lv_at hl 3 rfl) ?_
  obtain ⟨g3, hf⟩ := um_gu hf
  refine um_iast (pc := 16) Cx hW hS ms_1 rfl (um_ix_in g3) dX9_becomesOf_16 ?_
  clear hW hS
  intro H locs hW hS
  obtain ⟨σ4, e5, hf⟩ := um_le hf
  rw [← e5] at hW
  clear e5
  refine lv_aload_n (pc := 17) hx hb dX9_becomesOf_17 rfl (lv_at hl 1 rfl) ?_
  refine gF_X9_7 (pc := 18) Cx hW ms_0 rfl dX9_becomesOf_18 ?_
  refine lv_iload (pc := 21) hx hb dX9_becomesOf_21 (lv_at hl 0 rfl) ?_
  refine lv_bipush (pc := 23) (v := (6 : Int32)) hx hb dX9_becomesOf_23 (by decide) ?_
  refine lv_iadd (pc := 25) hx hb dX9_becomesOf_25 ?_
  refine lv_iload_n (pc := 26) hx hb dX9_becomesOf_26 rfl (lv_at hl 4 rfl) ?_
  obtain ⟨g6, hf⟩ := um_gu hf
  refine um_iast (pc := 27) Cx hW hS ms_1 rfl (um_ix_in g6) dX9_becomesOf_27 ?_
  clear hW hS
  intro H locs hW hS
  obtain ⟨σ7, e8, hf⟩ := um_le hf
  rw [← e8] at hW
  clear e8
  refine lv_aload_n (pc := 28) hx hb dX9_becomesOf_28 rfl (lv_at hl 1 rfl) ?_
  refine gF_X9_7 (pc := 29) Cx hW ms_0 rfl dX9_becomesOf_29 ?_
  refine lv_iload (pc := 32) hx hb dX9_becomesOf_32 (lv_at hl 0 rfl) ?_
  refine lv_bipush (pc := 34) (v := (7 : Int32)) hx hb dX9_becomesOf_34 (by decide) ?_
  refine lv_iadd (pc := 36) hx hb dX9_becomesOf_36 ?_
  refine lv_aload_n (pc := 37) hx hb dX9_becomesOf_37 rfl (lv_at hl 1 rfl) ?_
  refine gF_X9_7 (pc := 38) Cx hW ms_0 rfl dX9_becomesOf_38 ?_
  refine lv_iconst (pc := 41) (v := (0 : Int32)) hx hb dX9_becomesOf_41 (by decide) ?_
  refine um_iaj (pc := 42) (n := 3790) 0 rfl Cx hW ms_1 rfl (um_ix_in (by decide)) dX9_becomesOf_42 ?_
  obtain ⟨g9, hf⟩ := um_gu hf
  refine um_iast (pc := 43) Cx hW hS ms_1 rfl (um_ix_in g9) dX9_becomesOf_43 ?_
  clear hW hS
  intro H locs hW hS
  obtain ⟨σ10, e11, hf⟩ := um_le hf
  rw [← e11] at hW
  clear e11
  exact um_vret (pc := 44) Cx hW hS hf dX9_becomesOf_44
theorem c_X9_becomesOf {σ : um_S} {σ' : um_S} (a1 : Int32) (a2 : Int32) (a3 : Int32)  (hf : f_X9_becomesOf a1 a2 a3 σ = some σ') : um_M l yX9_becomesOf cX9_becomesOf 5 none (1) (21) Z msh α σ [.ref (α 0), .int a1, .int a2, .int a3] none σ' :=
  um_start (by decide) (Nat.le_of_ble_eq_true rfl) (fun p e s m below meth c ls Cx hW hS hl => b_X9_becomesOf a1 a2 a3 hf Cx hW hS hl)
noncomputable def f_X9_isMaster (a1 : Int32) (σ : um_S) : Option (Bool) :=
    (f_X9_isIn (a1.toInt64) (0 : Int64) (((σ.1 1 3) - (1 : Int32)).toInt64) σ).bind fun x2 =>
    (some x2)
set_option maxRecDepth 100000 in
set_option maxHeartbeats 4000000 in
theorem b_X9_isMaster {H : Heap} {locs : List Loc} {ls : Array Slot} {σ : um_S} {r : Bool} (a1 : Int32)  (hf : f_X9_isMaster a1 σ = some r) (Cx : um_C p s m meth c args cX9_isMaster 2 (some FieldType.boolean) RX9 Z) (hW : um_W Z msh α σ H) (hS : va_S (um_D msh α) s.heap H locs) (hl : lv_has ls 2 [(0, .ref (α 0)), (1, .int a1)]) : um_G p l e (1) (25) s m args below meth c Z msh α σ (some (.int (um_b r))) H locs (F0 m 0 ls []) := by
  have hx := Cx.1
  have hb := Cx.2.1
  have hown := Cx.2.2.2.2.1
  have hts := Cx.2.2.2.2.2.1
  rw [f_X9_isMaster] at hf
  refine lv_iload_n (pc := 0) hx hb dX9_isMaster_0 rfl (lv_at hl 1 rfl) ?_
  refine lv_i2l (pc := 1) hx hb dX9_isMaster_1 rfl ?_
  refine lv_lconst (pc := 2) (v := (0 : Int64)) hx hb dX9_isMaster_2 (by decide) ?_
  refine lv_aload_n (pc := 3) hx hb dX9_isMaster_3 rfl (lv_at hl 0 rfl) ?_
  refine gF_X9_7 (pc := 4) Cx hW ms_0 rfl dX9_isMaster_4 ?_
  refine lv_iconst (pc := 7) (v := (3 : Int32)) hx hb dX9_isMaster_7 (by decide) ?_
  refine um_iaj (pc := 8) (n := 3790) 3 rfl Cx hW ms_1 rfl (um_ix_in (by decide)) dX9_isMaster_8 ?_
  refine lv_iconst (pc := 9) (v := (1 : Int32)) hx hb dX9_isMaster_9 (by decide) ?_
  refine lv_isub (pc := 10) hx hb dX9_isMaster_10 ?_
  refine lv_i2l (pc := 11) hx hb dX9_isMaster_11 rfl ?_
  obtain ⟨x2, hc1, hf⟩ := um_bi hf
  refine um_cSi (pc := 12) (As := [.long (a1.toInt64), .long (0 : Int64), .long (((σ.1 1 3) - (1 : Int32)).toInt64)]) (rest := []) Cx (c_X9_isIn (a1.toInt64) (0 : Int64) (((σ.1 1 3) - (1 : Int32)).toInt64) hc1) kS_X9_isIn (Or.inl qM_X9_60) hW hS rfl hl rfl (Nat.le_of_ble_eq_true rfl) (Nat.le_of_ble_eq_true rfl) (Nat.le_of_ble_eq_true rfl) dX9_isMaster_12 (Nat.le_refl _) (Nat.le_refl _) ?_
  clear hW hS hc1
  intro H locs hW hS
  exact um_zretR (pc := 15) Cx hW hS hf rfl dX9_isMaster_15
theorem c_X9_isMaster {σ : um_S} {r : Bool} (a1 : Int32)  (hf : f_X9_isMaster a1 σ = some r) : um_M l yX9_isMaster cX9_isMaster 2 (some FieldType.boolean) (1) (25) Z msh α σ [.ref (α 0), .int a1] (some (.int (um_b r))) σ :=
  um_start (by decide) (Nat.le_of_ble_eq_true rfl) (fun p e s m below meth c ls Cx hW hS hl => b_X9_isMaster a1 hf Cx hW hS hl)
noncomputable def f_X9_hasLanded (a1 : Int32) (σ : um_S) : Option (Bool) :=
    (f_X9_manAt a1 σ).bind fun x2 =>
    (if um_ix (x2 + (10 : Int32)) 3790 then
    (if (σ.1 1 (x2 + (10 : Int32)).toNatClampNeg) < 0 then
    (some false)
    else
    (some true)) else none)
set_option maxRecDepth 100000 in
set_option maxHeartbeats 4000000 in
theorem b_X9_hasLanded {H : Heap} {locs : List Loc} {ls : Array Slot} {σ : um_S} {r : Bool} (a1 : Int32)  (hf : f_X9_hasLanded a1 σ = some r) (Cx : um_C p s m meth c args cX9_hasLanded 2 (some FieldType.boolean) RX9 Z) (hW : um_W Z msh α σ H) (hS : va_S (um_D msh α) s.heap H locs) (hl : lv_has ls 2 [(0, .ref (α 0)), (1, .int a1)]) : um_G p l e (1) (21) s m args below meth c Z msh α σ (some (.int (um_b r))) H locs (F0 m 0 ls []) := by
  have hx := Cx.1
  have hb := Cx.2.1
  have hown := Cx.2.2.2.2.1
  have hts := Cx.2.2.2.2.2.1
  rw [f_X9_hasLanded] at hf
  refine lv_aload_n (pc := 0) hx hb dX9_hasLanded_0 rfl (lv_at hl 0 rfl) ?_
  refine gF_X9_7 (pc := 1) Cx hW ms_0 rfl dX9_hasLanded_1 ?_
  refine lv_aload_n (pc := 4) hx hb dX9_hasLanded_4 rfl (lv_at hl 0 rfl) ?_
  refine lv_iload_n (pc := 5) hx hb dX9_hasLanded_5 rfl (lv_at hl 1 rfl) ?_
  obtain ⟨x2, hc1, hf⟩ := um_bi hf
  refine um_cVi (pc := 6) (As := [.int a1]) (rest := [.ref (α 1)]) Cx (c_X9_manAt a1 hc1) kV_X9_manAt (Or.inl qM_X9_66) hW hS ms_0 rfl rfl hl rfl (Nat.le_of_ble_eq_true rfl) (Nat.le_of_ble_eq_true rfl) (Nat.le_of_ble_eq_true rfl) dX9_hasLanded_6 (Nat.le_refl _) (Nat.le_refl _) ?_
  clear hW hS hc1
  intro H locs hW hS
  refine lv_bipush (pc := 9) (v := (10 : Int32)) hx hb dX9_hasLanded_9 (by decide) ?_
  refine lv_iadd (pc := 11) hx hb dX9_hasLanded_11 ?_
  obtain ⟨g3, hf⟩ := um_gu hf
  refine um_iald (pc := 12) Cx hW ms_1 rfl (um_ix_in g3) dX9_hasLanded_12 ?_
  refine lv_if_lt (pc := 13) (tgt := 20) hx hb dX9_hasLanded_13 (by decide) (fun c1 => ?_) (fun c1 => ?_)
  · have hf := um_it c1 hf
    clear c1
    refine lv_iconst (pc := 20) (v := (0 : Int32)) hx hb dX9_hasLanded_20 (by decide) ?_
    exact um_zretR (pc := 21) Cx hW hS hf rfl dX9_hasLanded_21
  · have hf := um_ie c1 hf
    clear c1
    refine lv_iconst (pc := 16) (v := (1 : Int32)) hx hb dX9_hasLanded_16 (by decide) ?_
    refine lv_goto (pc := 17) (tgt := 21) hx hb dX9_hasLanded_17 (by decide) ?_
    exact um_zretR (pc := 21) Cx hW hS hf rfl dX9_hasLanded_21
theorem c_X9_hasLanded {σ : um_S} {r : Bool} (a1 : Int32)  (hf : f_X9_hasLanded a1 σ = some r) : um_M l yX9_hasLanded cX9_hasLanded 2 (some FieldType.boolean) (1) (21) Z msh α σ [.ref (α 0), .int a1] (some (.int (um_b r))) σ :=
  um_start (by decide) (Nat.le_of_ble_eq_true rfl) (fun p e s m below meth c ls Cx hW hS hl => b_X9_hasLanded a1 hf Cx hW hS hl)
noncomputable def f_X9_isOut (a1 : Int32) (σ : um_S) : Option (Bool) :=
    (f_X9_isDead a1 σ).bind fun x2 =>
    (if (um_b x2) = 0 then
    ((f_X9_hasLanded a1 σ).bind fun x4 =>
    (if (um_b x4) = 0 then
    (some true)
    else
    (some false)))
    else
    (some true))
set_option maxRecDepth 100000 in
set_option maxHeartbeats 4000000 in
theorem b_X9_isOut {H : Heap} {locs : List Loc} {ls : Array Slot} {σ : um_S} {r : Bool} (a1 : Int32)  (hf : f_X9_isOut a1 σ = some r) (Cx : um_C p s m meth c args cX9_isOut 2 (some FieldType.boolean) RX9 Z) (hW : um_W Z msh α σ H) (hS : va_S (um_D msh α) s.heap H locs) (hl : lv_has ls 2 [(0, .ref (α 0)), (1, .int a1)]) : um_G p l e (2) (42) s m args below meth c Z msh α σ (some (.int (um_b r))) H locs (F0 m 0 ls []) := by
  have hx := Cx.1
  have hb := Cx.2.1
  have hown := Cx.2.2.2.2.1
  have hts := Cx.2.2.2.2.2.1
  rw [f_X9_isOut] at hf
  refine lv_aload_n (pc := 0) hx hb dX9_isOut_0 rfl (lv_at hl 0 rfl) ?_
  refine lv_iload_n (pc := 1) hx hb dX9_isOut_1 rfl (lv_at hl 1 rfl) ?_
  obtain ⟨x2, hc1, hf⟩ := um_bi hf
  refine um_cVi (pc := 2) (As := [.int a1]) (rest := []) Cx (c_X9_isDead a1 hc1) kV_X9_isDead (Or.inl qM_X9_70) hW hS ms_0 rfl rfl hl rfl (Nat.le_of_ble_eq_true rfl) (Nat.le_of_ble_eq_true rfl) (Nat.le_of_ble_eq_true rfl) dX9_isOut_2 (Nat.le_refl _) (Nat.le_refl _) ?_
  clear hW hS hc1
  intro H locs hW hS
  refine lv_if_ne (pc := 5) (tgt := 16) hx hb dX9_isOut_5 (by decide) (fun c1 => ?_) (fun c1 => ?_)
  · have hf := um_ie c1 hf
    clear c1
    refine lv_iconst (pc := 16) (v := (1 : Int32)) hx hb dX9_isOut_16 (by decide) ?_
    refine lv_goto (pc := 17) (tgt := 21) hx hb dX9_isOut_17 (by decide) ?_
    exact um_zretR (pc := 21) Cx hW hS hf rfl dX9_isOut_21
  · have hf := um_it c1 hf
    clear c1
    refine lv_aload_n (pc := 8) hx hb dX9_isOut_8 rfl (lv_at hl 0 rfl) ?_
    refine lv_iload_n (pc := 9) hx hb dX9_isOut_9 rfl (lv_at hl 1 rfl) ?_
    obtain ⟨x4, hc3, hf⟩ := um_bi hf
    refine um_cVi (pc := 10) (As := [.int a1]) (rest := []) Cx (c_X9_hasLanded a1 hc3) kV_X9_hasLanded (Or.inl qM_X9_74) hW hS ms_0 rfl rfl hl rfl (Nat.le_of_ble_eq_true rfl) (Nat.le_of_ble_eq_true rfl) (Nat.le_of_ble_eq_true rfl) dX9_isOut_10 (Nat.le_refl _) (Nat.le_refl _) ?_
    clear hW hS hc3
    intro H locs hW hS
    refine lv_if_ne (pc := 13) (tgt := 20) hx hb dX9_isOut_13 (by decide) (fun c1 => ?_) (fun c1 => ?_)
    · have hf := um_ie c1 hf
      clear c1
      refine lv_iconst (pc := 20) (v := (0 : Int32)) hx hb dX9_isOut_20 (by decide) ?_
      exact um_zretR (pc := 21) Cx hW hS hf rfl dX9_isOut_21
    · have hf := um_it c1 hf
      clear c1
      refine lv_iconst (pc := 16) (v := (1 : Int32)) hx hb dX9_isOut_16 (by decide) ?_
      refine lv_goto (pc := 17) (tgt := 21) hx hb dX9_isOut_17 (by decide) ?_
      exact um_zretR (pc := 21) Cx hW hS hf rfl dX9_isOut_21
theorem c_X9_isOut {σ : um_S} {r : Bool} (a1 : Int32)  (hf : f_X9_isOut a1 σ = some r) : um_M l yX9_isOut cX9_isOut 2 (some FieldType.boolean) (2) (42) Z msh α σ [.ref (α 0), .int a1] (some (.int (um_b r))) σ :=
  um_start (by decide) (Nat.le_of_ble_eq_true rfl) (fun p e s m below meth c ls Cx hW hS hl => b_X9_isOut a1 hf Cx hW hS hl)
noncomputable def f_X9_masterAt (a1 : Int32) (σ : um_S) : Option (Int32) :=
    some ((250 : Int32) + ((4 : Int32) * a1))
set_option maxRecDepth 100000 in
set_option maxHeartbeats 4000000 in
theorem b_X9_masterAt {H : Heap} {locs : List Loc} {ls : Array Slot} {σ : um_S} {r : Int32} (a1 : Int32)  (hf : f_X9_masterAt a1 σ = some r) (Cx : um_C p s m meth c args cX9_masterAt 2 (some FieldType.int) RX9 Z) (hW : um_W Z msh α σ H) (hS : va_S (um_D msh α) s.heap H locs) (hl : lv_has ls 2 [(0, .ref (α 0)), (1, .int a1)]) : um_G p l e (0) (0) s m args below meth c Z msh α σ (some (.int r)) H locs (F0 m 0 ls []) := by
  have hx := Cx.1
  have hb := Cx.2.1
  have hown := Cx.2.2.2.2.1
  have hts := Cx.2.2.2.2.2.1
  rw [f_X9_masterAt] at hf
  refine lv_sipush (pc := 0) (v := (250 : Int32)) hx hb dX9_masterAt_0 (by decide) ?_
  refine lv_iconst (pc := 3) (v := (4 : Int32)) hx hb dX9_masterAt_3 (by decide) ?_
  refine lv_iload_n (pc := 4) hx hb dX9_masterAt_4 rfl (lv_at hl 1 rfl) ?_
  refine lv_imul (pc := 5) hx hb dX9_masterAt_5 ?_
  refine lv_iadd (pc := 6) hx hb dX9_masterAt_6 ?_
  exact um_iretR (pc := 7) Cx hW hS hf dX9_masterAt_7
theorem c_X9_masterAt {σ : um_S} {r : Int32} (a1 : Int32)  (hf : f_X9_masterAt a1 σ = some r) : um_M l yX9_masterAt cX9_masterAt 2 (some FieldType.int) (0) (0) Z msh α σ [.ref (α 0), .int a1] (some (.int r)) σ :=
  um_start (by decide) (Nat.le_of_ble_eq_true rfl) (fun p e s m below meth c ls Cx hW hS hl => b_X9_masterAt a1 hf Cx hW hS hl)
noncomputable def f_X9_wants (a1 : Int32) (a2 : Int32) (σ : um_S) : Option (Bool) :=
    (f_X9_masterAt a1 σ).bind fun x2 =>
    (if um_ix x2 3790 then
    ((f_X9_manAt a2 σ).bind fun x5 =>
    (if um_ix (x5 + (4 : Int32)) 3790 then
    (if (σ.1 1 x2.toNatClampNeg) = (σ.1 1 (x5 + (4 : Int32)).toNatClampNeg) then
    (if um_ix (x2 + (1 : Int32)) 3790 then
    ((f_X9_manAt a2 σ).bind fun x9 =>
    (if um_ix (x9 + (1 : Int32)) 3790 then
    (if (((σ.1 1 (x2 + (1 : Int32)).toNatClampNeg) >>> ((σ.1 1 (x9 + (1 : Int32)).toNatClampNeg) &&& 31)) &&& (1 : Int32)) = (1 : Int32) then
    (some true)
    else
    (some false)) else none)) else none)
    else
    (some false)) else none)) else none)
set_option maxRecDepth 100000 in
set_option maxHeartbeats 4000000 in
theorem b_X9_wants {H : Heap} {locs : List Loc} {ls : Array Slot} {σ : um_S} {r : Bool} (a1 : Int32) (a2 : Int32)  (hf : f_X9_wants a1 a2 σ = some r) (Cx : um_C p s m meth c args cX9_wants 4 (some FieldType.boolean) RX9 Z) (hW : um_W Z msh α σ H) (hS : va_S (um_D msh α) s.heap H locs) (hl : lv_has ls 4 [(0, .ref (α 0)), (1, .int a1), (2, .int a2)]) : um_G p l e (1) (21) s m args below meth c Z msh α σ (some (.int (um_b r))) H locs (F0 m 0 ls []) := by
  have hx := Cx.1
  have hb := Cx.2.1
  have hown := Cx.2.2.2.2.1
  have hts := Cx.2.2.2.2.2.1
  rw [f_X9_wants] at hf
  refine lv_aload_n (pc := 0) hx hb dX9_wants_0 rfl (lv_at hl 0 rfl) ?_
  refine lv_iload_n (pc := 1) hx hb dX9_wants_1 rfl (lv_at hl 1 rfl) ?_
  obtain ⟨x2, hc1, hf⟩ := um_bi hf
  refine um_cVi (pc := 2) (As := [.int a1]) (rest := []) Cx (c_X9_masterAt a1 hc1) kV_X9_masterAt (Or.inl qM_X9_129) hW hS ms_0 rfl rfl hl rfl (Nat.le_of_ble_eq_true rfl) (Nat.le_of_ble_eq_true rfl) (Nat.le_of_ble_eq_true rfl) dX9_wants_2 (Nat.le_refl _) (Nat.le_refl _) ?_
  clear hW hS hc1
  intro H locs hW hS
  refine lv_istore_n (pc := 5) (lv' := [(3, .int x2), (0, .ref (α 0)), (1, .int a1), (2, .int a2)]) hx hb dX9_wants_5 rfl hl (by decide) rfl ?_
  clear hl
  intro ls hl
  refine lv_aload_n (pc := 6) hx hb dX9_wants_6 rfl (lv_at hl 1 rfl) ?_
  refine gF_X9_7 (pc := 7) Cx hW ms_0 rfl dX9_wants_7 ?_
  refine lv_iload_n (pc := 10) hx hb dX9_wants_10 rfl (lv_at hl 0 rfl) ?_
  obtain ⟨g3, hf⟩ := um_gu hf
  refine um_iald (pc := 11) Cx hW ms_1 rfl (um_ix_in g3) dX9_wants_11 ?_
  refine lv_aload_n (pc := 12) hx hb dX9_wants_12 rfl (lv_at hl 1 rfl) ?_
  refine gF_X9_7 (pc := 13) Cx hW ms_0 rfl dX9_wants_13 ?_
  refine lv_aload_n (pc := 16) hx hb dX9_wants_16 rfl (lv_at hl 1 rfl) ?_
  refine lv_iload_n (pc := 17) hx hb dX9_wants_17 rfl (lv_at hl 3 rfl) ?_
  obtain ⟨x5, hc4, hf⟩ := um_bi hf
  refine um_cVi (pc := 18) (As := [.int a2]) (rest := [.ref (α 1), .int (σ.1 1 x2.toNatClampNeg)]) Cx (c_X9_manAt a2 hc4) kV_X9_manAt (Or.inl qM_X9_66) hW hS ms_0 rfl rfl hl rfl (Nat.le_of_ble_eq_true rfl) (Nat.le_of_ble_eq_true rfl) (Nat.le_of_ble_eq_true rfl) dX9_wants_18 (Nat.le_refl _) (Nat.le_refl _) ?_
  clear hW hS hc4
  intro H locs hW hS
  refine lv_iconst (pc := 21) (v := (4 : Int32)) hx hb dX9_wants_21 (by decide) ?_
  refine lv_iadd (pc := 22) hx hb dX9_wants_22 ?_
  obtain ⟨g6, hf⟩ := um_gu hf
  refine um_iald (pc := 23) Cx hW ms_1 rfl (um_ix_in g6) dX9_wants_23 ?_
  refine lv_icmp_ne (pc := 24) (tgt := 58) hx hb dX9_wants_24 (by decide) (fun c1 => ?_) (fun c1 => ?_)
  · have hf := um_ie c1 hf
    clear c1
    refine lv_iconst (pc := 58) (v := (0 : Int32)) hx hb dX9_wants_58 (by decide) ?_
    exact um_zretR (pc := 59) Cx hW hS hf rfl dX9_wants_59
  · have hf := um_it c1 hf
    clear c1
    refine lv_aload_n (pc := 27) hx hb dX9_wants_27 rfl (lv_at hl 1 rfl) ?_
    refine gF_X9_7 (pc := 28) Cx hW ms_0 rfl dX9_wants_28 ?_
    refine lv_iload_n (pc := 31) hx hb dX9_wants_31 rfl (lv_at hl 0 rfl) ?_
    refine lv_iconst (pc := 32) (v := (1 : Int32)) hx hb dX9_wants_32 (by decide) ?_
    refine lv_iadd (pc := 33) hx hb dX9_wants_33 ?_
    obtain ⟨g7, hf⟩ := um_gu hf
    refine um_iald (pc := 34) Cx hW ms_1 rfl (um_ix_in g7) dX9_wants_34 ?_
    refine lv_aload_n (pc := 35) hx hb dX9_wants_35 rfl (lv_at hl 1 rfl) ?_
    refine gF_X9_7 (pc := 36) Cx hW ms_0 rfl dX9_wants_36 ?_
    refine lv_aload_n (pc := 39) hx hb dX9_wants_39 rfl (lv_at hl 1 rfl) ?_
    refine lv_iload_n (pc := 40) hx hb dX9_wants_40 rfl (lv_at hl 3 rfl) ?_
    obtain ⟨x9, hc8, hf⟩ := um_bi hf
    refine um_cVi (pc := 41) (As := [.int a2]) (rest := [.ref (α 1), .int (σ.1 1 (x2 + (1 : Int32)).toNatClampNeg)]) Cx (c_X9_manAt a2 hc8) kV_X9_manAt (Or.inl qM_X9_66) hW hS ms_0 rfl rfl hl rfl (Nat.le_of_ble_eq_true rfl) (Nat.le_of_ble_eq_true rfl) (Nat.le_of_ble_eq_true rfl) dX9_wants_41 (Nat.le_refl _) (Nat.le_refl _) ?_
    clear hW hS hc8
    intro H locs hW hS
    refine lv_iconst (pc := 44) (v := (1 : Int32)) hx hb dX9_wants_44 (by decide) ?_
    refine lv_iadd (pc := 45) hx hb dX9_wants_45 ?_
    obtain ⟨g10, hf⟩ := um_gu hf
    refine um_iald (pc := 46) Cx hW ms_1 rfl (um_ix_in g10) dX9_wants_46 ?_
    refine lv_ishr (pc := 47) hx hb dX9_wants_47 ?_
    refine lv_iconst (pc := 48) (v := (1 : Int32)) hx hb dX9_wants_48 (by decide) ?_
    refine lv_iand (pc := 49) hx hb dX9_wants_49 ?_
    refine lv_iconst (pc := 50) (v := (1 : Int32)) hx hb dX9_wants_50 (by decide) ?_
    refine lv_icmp_ne (pc := 51) (tgt := 58) hx hb dX9_wants_51 (by decide) (fun c1 => ?_) (fun c1 => ?_)
    · have hf := um_ie c1 hf
      clear c1
      refine lv_iconst (pc := 58) (v := (0 : Int32)) hx hb dX9_wants_58 (by decide) ?_
      exact um_zretR (pc := 59) Cx hW hS hf rfl dX9_wants_59
    · have hf := um_it c1 hf
      clear c1
      refine lv_iconst (pc := 54) (v := (1 : Int32)) hx hb dX9_wants_54 (by decide) ?_
      refine lv_goto (pc := 55) (tgt := 59) hx hb dX9_wants_55 (by decide) ?_
      exact um_zretR (pc := 59) Cx hW hS hf rfl dX9_wants_59
theorem c_X9_wants {σ : um_S} {r : Bool} (a1 : Int32) (a2 : Int32)  (hf : f_X9_wants a1 a2 σ = some r) : um_M l yX9_wants cX9_wants 4 (some FieldType.boolean) (1) (21) Z msh α σ [.ref (α 0), .int a1, .int a2] (some (.int (um_b r))) σ :=
  um_start (by decide) (Nat.le_of_ble_eq_true rfl) (fun p e s m below meth c ls Cx hW hS hl => b_X9_wants a1 a2 hf Cx hW hS hl)
noncomputable def f_X9_assign (a1 : Int32) (a2 : Int32) (σ : um_S) : Option (Int32 × um_S) :=
    (f_X9_isMan a1 σ).bind fun x2 =>
    (if (um_b x2) = 0 then
    (some ((-1000000001 : Int32), σ))
    else
    ((f_X9_isMaster a2 σ).bind fun x4 =>
    (if (um_b x4) = 0 then
    (some ((-1000000001 : Int32), σ))
    else
    ((f_X9_kindOf a1 σ).bind fun x6 =>
    (if x6 = (1 : Int32) then
    ((f_X9_isOut a1 σ).bind fun x8 =>
    (if (um_b x8) = 0 then
    ((f_X9_wants a2 a1 σ).bind fun x10 =>
    (if (um_b x10) = 0 then
    (some ((-1000000002 : Int32), σ))
    else
    ((f_X9_assignedTo a2 σ).bind fun x12 =>
    ((f_X9_masterAt a2 σ).bind fun x14 =>
    (if um_ix (x14 + (2 : Int32)) 3790 then
    (if x12 < (σ.1 1 (x14 + (2 : Int32)).toNatClampNeg) then
    ((f_X9_becomesOf a1 (2 : Int32) a2 σ).bind fun σ17 =>
    (some ((1 : Int32), σ17)))
    else
    (some ((-1000000002 : Int32), σ))) else none)))))
    else
    (some ((-1000000002 : Int32), σ))))
    else
    (some ((-1000000012 : Int32), σ)))))))
set_option maxRecDepth 100000 in
set_option maxHeartbeats 4000000 in
theorem b_X9_assign {H : Heap} {locs : List Loc} {ls : Array Slot} {σ : um_S} {σ' : um_S} {r : Int32} (a1 : Int32) (a2 : Int32)  (hf : f_X9_assign a1 a2 σ = some (r, σ')) (Cx : um_C p s m meth c args cX9_assign 3 (some FieldType.int) RX9 Z) (hW : um_W Z msh α σ H) (hS : va_S (um_D msh α) s.heap H locs) (hl : lv_has ls 3 [(0, .ref (α 0)), (1, .int a1), (2, .int a2)]) : um_G p l e (3) (65) s m args below meth c Z msh α σ' (some (.int r)) H locs (F0 m 0 ls []) := by
  have hx := Cx.1
  have hb := Cx.2.1
  have hown := Cx.2.2.2.2.1
  have hts := Cx.2.2.2.2.2.1
  rw [f_X9_assign] at hf
  refine lv_aload_n (pc := 0) hx hb dX9_assign_0 rfl (lv_at hl 0 rfl) ?_
  refine lv_iload_n (pc := 1) hx hb dX9_assign_1 rfl (lv_at hl 1 rfl) ?_
  obtain ⟨x2, hc1, hf⟩ := um_bi hf
  refine um_cVi (pc := 2) (As := [.int a1]) (rest := []) Cx (c_X9_isMan a1 hc1) kV_X9_isMan (Or.inl qM_X9_101) hW hS ms_0 rfl rfl hl rfl (Nat.le_of_ble_eq_true rfl) (Nat.le_of_ble_eq_true rfl) (Nat.le_of_ble_eq_true rfl) dX9_assign_2 (Nat.le_refl _) (Nat.le_refl _) ?_
  clear hW hS hc1
  intro H locs hW hS
  refine lv_if_eq (pc := 5) (tgt := 16) hx hb dX9_assign_5 (by decide) (fun c1 => ?_) (fun c1 => ?_)
  · have hf := um_it c1 hf
    clear c1
    refine lv_ldc (pc := 16) hx hb hown (hts _ qC_X9_87) dX9_assign_16 ?_
    exact um_iret (pc := 18) Cx hW hS hf dX9_assign_18
  · have hf := um_ie c1 hf
    clear c1
    refine lv_aload_n (pc := 8) hx hb dX9_assign_8 rfl (lv_at hl 0 rfl) ?_
    refine lv_iload_n (pc := 9) hx hb dX9_assign_9 rfl (lv_at hl 2 rfl) ?_
    obtain ⟨x4, hc3, hf⟩ := um_bi hf
    refine um_cVi (pc := 10) (As := [.int a2]) (rest := []) Cx (c_X9_isMaster a2 hc3) kV_X9_isMaster (Or.inl qM_X9_132) hW hS ms_0 rfl rfl hl rfl (Nat.le_of_ble_eq_true rfl) (Nat.le_of_ble_eq_true rfl) (Nat.le_of_ble_eq_true rfl) dX9_assign_10 (Nat.le_refl _) (Nat.le_refl _) ?_
    clear hW hS hc3
    intro H locs hW hS
    refine lv_if_ne (pc := 13) (tgt := 19) hx hb dX9_assign_13 (by decide) (fun c1 => ?_) (fun c1 => ?_)
    · have hf := um_ie c1 hf
      clear c1
      refine lv_aload_n (pc := 19) hx hb dX9_assign_19 rfl (lv_at hl 0 rfl) ?_
      refine lv_iload_n (pc := 20) hx hb dX9_assign_20 rfl (lv_at hl 1 rfl) ?_
      obtain ⟨x6, hc5, hf⟩ := um_bi hf
      refine um_cVi (pc := 21) (As := [.int a1]) (rest := []) Cx (c_X9_kindOf a1 hc5) kV_X9_kindOf (Or.inl qM_X9_77) hW hS ms_0 rfl rfl hl rfl (Nat.le_of_ble_eq_true rfl) (Nat.le_of_ble_eq_true rfl) (Nat.le_of_ble_eq_true rfl) dX9_assign_21 (Nat.le_refl _) (Nat.le_refl _) ?_
      clear hW hS hc5
      intro H locs hW hS
      refine lv_iconst (pc := 24) (v := (1 : Int32)) hx hb dX9_assign_24 (by decide) ?_
      refine lv_icmp_eq (pc := 25) (tgt := 31) hx hb dX9_assign_25 (by decide) (fun c1 => ?_) (fun c1 => ?_)
      · have hf := um_it c1 hf
        clear c1
        refine lv_aload_n (pc := 31) hx hb dX9_assign_31 rfl (lv_at hl 0 rfl) ?_
        refine lv_iload_n (pc := 32) hx hb dX9_assign_32 rfl (lv_at hl 1 rfl) ?_
        obtain ⟨x8, hc7, hf⟩ := um_bi hf
        refine um_cVi (pc := 33) (As := [.int a1]) (rest := []) Cx (c_X9_isOut a1 hc7) kV_X9_isOut (Or.inl qM_X9_262) hW hS ms_0 rfl rfl hl rfl (Nat.le_of_ble_eq_true rfl) (Nat.le_of_ble_eq_true rfl) (Nat.le_of_ble_eq_true rfl) dX9_assign_33 (Nat.le_refl _) (Nat.le_refl _) ?_
        clear hW hS hc7
        intro H locs hW hS
        refine lv_if_ne (pc := 36) (tgt := 68) hx hb dX9_assign_36 (by decide) (fun c1 => ?_) (fun c1 => ?_)
        · have hf := um_ie c1 hf
          clear c1
          refine lv_ldc (pc := 68) hx hb hown (hts _ qC_X9_106) dX9_assign_68 ?_
          exact um_iret (pc := 70) Cx hW hS hf dX9_assign_70
        · have hf := um_it c1 hf
          clear c1
          refine lv_aload_n (pc := 39) hx hb dX9_assign_39 rfl (lv_at hl 0 rfl) ?_
          refine lv_iload_n (pc := 40) hx hb dX9_assign_40 rfl (lv_at hl 2 rfl) ?_
          refine lv_iload_n (pc := 41) hx hb dX9_assign_41 rfl (lv_at hl 1 rfl) ?_
          obtain ⟨x10, hc9, hf⟩ := um_bi hf
          refine um_cVi (pc := 42) (As := [.int a2, .int a1]) (rest := []) Cx (c_X9_wants a2 a1 hc9) kV_X9_wants (Or.inl qM_X9_274) hW hS ms_0 rfl rfl hl rfl (Nat.le_of_ble_eq_true rfl) (Nat.le_of_ble_eq_true rfl) (Nat.le_of_ble_eq_true rfl) dX9_assign_42 (Nat.le_refl _) (Nat.le_refl _) ?_
          clear hW hS hc9
          intro H locs hW hS
          refine lv_if_eq (pc := 45) (tgt := 68) hx hb dX9_assign_45 (by decide) (fun c1 => ?_) (fun c1 => ?_)
          · have hf := um_it c1 hf
            clear c1
            refine lv_ldc (pc := 68) hx hb hown (hts _ qC_X9_106) dX9_assign_68 ?_
            exact um_iret (pc := 70) Cx hW hS hf dX9_assign_70
          · have hf := um_ie c1 hf
            clear c1
            refine lv_aload_n (pc := 48) hx hb dX9_assign_48 rfl (lv_at hl 0 rfl) ?_
            refine lv_iload_n (pc := 49) hx hb dX9_assign_49 rfl (lv_at hl 2 rfl) ?_
            obtain ⟨x12, hc11, hf⟩ := um_bi hf
            refine um_cVi (pc := 50) (As := [.int a2]) (rest := []) Cx (c_X9_assignedTo a2 hc11) kV_X9_assignedTo (Or.inl qM_X9_135) hW hS ms_0 rfl rfl hl rfl (Nat.le_of_ble_eq_true rfl) (Nat.le_of_ble_eq_true rfl) (Nat.le_of_ble_eq_true rfl) dX9_assign_50 (Nat.le_refl _) (Nat.le_refl _) ?_
            clear hW hS hc11
            intro H locs hW hS
            refine lv_aload_n (pc := 53) hx hb dX9_assign_53 rfl (lv_at hl 0 rfl) ?_
            refine gF_X9_7 (pc := 54) Cx hW ms_0 rfl dX9_assign_54 ?_
            refine lv_aload_n (pc := 57) hx hb dX9_assign_57 rfl (lv_at hl 0 rfl) ?_
            refine lv_iload_n (pc := 58) hx hb dX9_assign_58 rfl (lv_at hl 2 rfl) ?_
            obtain ⟨x14, hc13, hf⟩ := um_bi hf
            refine um_cVi (pc := 59) (As := [.int a2]) (rest := [.ref (α 1), .int x12]) Cx (c_X9_masterAt a2 hc13) kV_X9_masterAt (Or.inl qM_X9_129) hW hS ms_0 rfl rfl hl rfl (Nat.le_of_ble_eq_true rfl) (Nat.le_of_ble_eq_true rfl) (Nat.le_of_ble_eq_true rfl) dX9_assign_59 (Nat.le_refl _) (Nat.le_refl _) ?_
            clear hW hS hc13
            intro H locs hW hS
            refine lv_iconst (pc := 62) (v := (2 : Int32)) hx hb dX9_assign_62 (by decide) ?_
            refine lv_iadd (pc := 63) hx hb dX9_assign_63 ?_
            obtain ⟨g15, hf⟩ := um_gu hf
            refine um_iald (pc := 64) Cx hW ms_1 rfl (um_ix_in g15) dX9_assign_64 ?_
            refine lv_icmp_lt (pc := 65) (tgt := 71) hx hb dX9_assign_65 (by decide) (fun c1 => ?_) (fun c1 => ?_)
            · have hf := um_it c1 hf
              clear c1
              refine lv_aload_n (pc := 71) hx hb dX9_assign_71 rfl (lv_at hl 0 rfl) ?_
              refine lv_iload_n (pc := 72) hx hb dX9_assign_72 rfl (lv_at hl 1 rfl) ?_
              refine lv_iconst (pc := 73) (v := (2 : Int32)) hx hb dX9_assign_73 (by decide) ?_
              refine lv_iload_n (pc := 74) hx hb dX9_assign_74 rfl (lv_at hl 2 rfl) ?_
              obtain ⟨σ17, hc16, hf⟩ := um_bi hf
              refine um_cVv (pc := 75) (As := [.int a1, .int (2 : Int32), .int a2]) (rest := []) Cx (c_X9_becomesOf a1 (2 : Int32) a2 hc16) kV_X9_becomesOf (Or.inl qM_X9_97) hW hS ms_0 rfl rfl hl rfl (Nat.le_of_ble_eq_true rfl) (Nat.le_of_ble_eq_true rfl) (Nat.le_of_ble_eq_true rfl) dX9_assign_75 (Nat.le_refl _) (Nat.le_refl _) ?_
              clear hW hS hc16
              intro H locs hW hS
              refine lv_iconst (pc := 78) (v := (1 : Int32)) hx hb dX9_assign_78 (by decide) ?_
              exact um_iret (pc := 79) Cx hW hS hf dX9_assign_79
            · have hf := um_ie c1 hf
              clear c1
              refine lv_ldc (pc := 68) hx hb hown (hts _ qC_X9_106) dX9_assign_68 ?_
              exact um_iret (pc := 70) Cx hW hS hf dX9_assign_70
      · have hf := um_ie c1 hf
        clear c1
        refine lv_ldc (pc := 28) hx hb hown (hts _ qC_X9_122) dX9_assign_28 ?_
        exact um_iret (pc := 30) Cx hW hS hf dX9_assign_30
    · have hf := um_it c1 hf
      clear c1
      refine lv_ldc (pc := 16) hx hb hown (hts _ qC_X9_87) dX9_assign_16 ?_
      exact um_iret (pc := 18) Cx hW hS hf dX9_assign_18
theorem c_X9_assign {σ : um_S} {σ' : um_S} {r : Int32} (a1 : Int32) (a2 : Int32)  (hf : f_X9_assign a1 a2 σ = some (r, σ')) : um_M l yX9_assign cX9_assign 3 (some FieldType.int) (3) (65) Z msh α σ [.ref (α 0), .int a1, .int a2] (some (.int r)) σ' :=
  um_start (by decide) (Nat.le_of_ble_eq_true rfl) (fun p e s m below meth c ls Cx hW hS hl => b_X9_assign a1 a2 hf Cx hW hS hl)
noncomputable def f_X9_canGo (a1 : Int32) (a2 : Int32) (σ : um_S) : Option (Bool) :=
    (f_X9_kindOf a1 σ).bind fun x2 =>
    (if x2 = (1 : Int32) then
    ((f_X9_isOut a1 σ).bind fun x4 =>
    (if (um_b x4) = 0 then
    ((f_X9_wants a2 a1 σ).bind fun x6 =>
    (if (um_b x6) = 0 then
    (some false)
    else
    (some true)))
    else
    (some false)))
    else
    (some false))
set_option maxRecDepth 100000 in
set_option maxHeartbeats 4000000 in
theorem b_X9_canGo {H : Heap} {locs : List Loc} {ls : Array Slot} {σ : um_S} {r : Bool} (a1 : Int32) (a2 : Int32)  (hf : f_X9_canGo a1 a2 σ = some r) (Cx : um_C p s m meth c args cX9_canGo 3 (some FieldType.boolean) RX9 Z) (hW : um_W Z msh α σ H) (hS : va_S (um_D msh α) s.heap H locs) (hl : lv_has ls 3 [(0, .ref (α 0)), (1, .int a1), (2, .int a2)]) : um_G p l e (3) (63) s m args below meth c Z msh α σ (some (.int (um_b r))) H locs (F0 m 0 ls []) := by
  have hx := Cx.1
  have hb := Cx.2.1
  have hown := Cx.2.2.2.2.1
  have hts := Cx.2.2.2.2.2.1
  rw [f_X9_canGo] at hf
  refine lv_aload_n (pc := 0) hx hb dX9_canGo_0 rfl (lv_at hl 0 rfl) ?_
  refine lv_iload_n (pc := 1) hx hb dX9_canGo_1 rfl (lv_at hl 1 rfl) ?_
  obtain ⟨x2, hc1, hf⟩ := um_bi hf
  refine um_cVi (pc := 2) (As := [.int a1]) (rest := []) Cx (c_X9_kindOf a1 hc1) kV_X9_kindOf (Or.inl qM_X9_77) hW hS ms_0 rfl rfl hl rfl (Nat.le_of_ble_eq_true rfl) (Nat.le_of_ble_eq_true rfl) (Nat.le_of_ble_eq_true rfl) dX9_canGo_2 (Nat.le_refl _) (Nat.le_refl _) ?_
  clear hW hS hc1
  intro H locs hW hS
  refine lv_iconst (pc := 5) (v := (1 : Int32)) hx hb dX9_canGo_5 (by decide) ?_
  refine lv_icmp_ne (pc := 6) (tgt := 30) hx hb dX9_canGo_6 (by decide) (fun c1 => ?_) (fun c1 => ?_)
  · have hf := um_ie c1 hf
    clear c1
    refine lv_iconst (pc := 30) (v := (0 : Int32)) hx hb dX9_canGo_30 (by decide) ?_
    exact um_zretR (pc := 31) Cx hW hS hf rfl dX9_canGo_31
  · have hf := um_it c1 hf
    clear c1
    refine lv_aload_n (pc := 9) hx hb dX9_canGo_9 rfl (lv_at hl 0 rfl) ?_
    refine lv_iload_n (pc := 10) hx hb dX9_canGo_10 rfl (lv_at hl 1 rfl) ?_
    obtain ⟨x4, hc3, hf⟩ := um_bi hf
    refine um_cVi (pc := 11) (As := [.int a1]) (rest := []) Cx (c_X9_isOut a1 hc3) kV_X9_isOut (Or.inl qM_X9_262) hW hS ms_0 rfl rfl hl rfl (Nat.le_of_ble_eq_true rfl) (Nat.le_of_ble_eq_true rfl) (Nat.le_of_ble_eq_true rfl) dX9_canGo_11 (Nat.le_refl _) (Nat.le_refl _) ?_
    clear hW hS hc3
    intro H locs hW hS
    refine lv_if_ne (pc := 14) (tgt := 30) hx hb dX9_canGo_14 (by decide) (fun c1 => ?_) (fun c1 => ?_)
    · have hf := um_ie c1 hf
      clear c1
      refine lv_iconst (pc := 30) (v := (0 : Int32)) hx hb dX9_canGo_30 (by decide) ?_
      exact um_zretR (pc := 31) Cx hW hS hf rfl dX9_canGo_31
    · have hf := um_it c1 hf
      clear c1
      refine lv_aload_n (pc := 17) hx hb dX9_canGo_17 rfl (lv_at hl 0 rfl) ?_
      refine lv_iload_n (pc := 18) hx hb dX9_canGo_18 rfl (lv_at hl 2 rfl) ?_
      refine lv_iload_n (pc := 19) hx hb dX9_canGo_19 rfl (lv_at hl 1 rfl) ?_
      obtain ⟨x6, hc5, hf⟩ := um_bi hf
      refine um_cVi (pc := 20) (As := [.int a2, .int a1]) (rest := []) Cx (c_X9_wants a2 a1 hc5) kV_X9_wants (Or.inl qM_X9_274) hW hS ms_0 rfl rfl hl rfl (Nat.le_of_ble_eq_true rfl) (Nat.le_of_ble_eq_true rfl) (Nat.le_of_ble_eq_true rfl) dX9_canGo_20 (Nat.le_refl _) (Nat.le_refl _) ?_
      clear hW hS hc5
      intro H locs hW hS
      refine lv_if_eq (pc := 23) (tgt := 30) hx hb dX9_canGo_23 (by decide) (fun c1 => ?_) (fun c1 => ?_)
      · have hf := um_it c1 hf
        clear c1
        refine lv_iconst (pc := 30) (v := (0 : Int32)) hx hb dX9_canGo_30 (by decide) ?_
        exact um_zretR (pc := 31) Cx hW hS hf rfl dX9_canGo_31
      · have hf := um_ie c1 hf
        clear c1
        refine lv_iconst (pc := 26) (v := (1 : Int32)) hx hb dX9_canGo_26 (by decide) ?_
        refine lv_goto (pc := 27) (tgt := 31) hx hb dX9_canGo_27 (by decide) ?_
        exact um_zretR (pc := 31) Cx hW hS hf rfl dX9_canGo_31
theorem c_X9_canGo {σ : um_S} {r : Bool} (a1 : Int32) (a2 : Int32)  (hf : f_X9_canGo a1 a2 σ = some r) : um_M l yX9_canGo cX9_canGo 3 (some FieldType.boolean) (3) (63) Z msh α σ [.ref (α 0), .int a1, .int a2] (some (.int (um_b r))) σ :=
  um_start (by decide) (Nat.le_of_ble_eq_true rfl) (fun p e s m below meth c ls Cx hW hS hl => b_X9_canGo a1 a2 hf Cx hW hS hl)
noncomputable def f_X9_goingTo_l4 (v1 : Int32) (σ : um_S) : Nat → Int32 → Int32 → Option (Int32)
  | 0, _, _ => none
  | n + 1, v2, v3 =>
    if (σ.1 1 2) ≤ v3 then
    (some v2)
    else
    (if um_ix v3 14 then
    (if (σ.1 11 v3.toNatClampNeg) = v1 then
    (um_let (v2 + (1 : Int32)) fun x4 =>
    (f_X9_goingTo_l4 v1 σ n x4 (v3 + (1 : Int32))))
    else
    (um_let (v2 + (0 : Int32)) fun x2 =>
    (f_X9_goingTo_l4 v1 σ n x2 (v3 + (1 : Int32))))) else none)
noncomputable def f_X9_goingTo (a1 : Int32) (σ : um_S) : Option (Int32) :=
    (f_X9_goingTo_l4 a1 σ um_N (0 : Int32) (0 : Int32)).bind fun x1 =>
    (some x1)
set_option maxRecDepth 100000 in
set_option maxHeartbeats 4000000 in
theorem t_X9_goingTo_l4 {Q : State → Prop} {o2 : Int32} {σ : um_S} (v1 : Int32)  (Cx : um_C p s m meth c args cX9_goingTo 4 (some FieldType.int) RX9 Z) (hE : ∀ (H : Heap) (locs : List Loc) (ls : Array Slot), um_W Z msh α σ H → va_S (um_D msh α) s.heap H locs → lv_has ls 4 [(2, .int o2)] → W p l e { frames := 0, cells := 0, slots := 0, locals := 0 } s m args below meth c H locs 0 0 Q (F0 m 38 ls [])) : ∀ (n : Nat) (v2 : Int32) (v3 : Int32) (H : Heap) (locs : List Loc) (ls : Array Slot), f_X9_goingTo_l4 v1 σ n v2 v3 = some o2 → um_W Z msh α σ H → va_S (um_D msh α) s.heap H locs → lv_has ls 4 [(0, .ref (α 0)), (1, .int v1), (2, .int v2), (3, .int v3)] → W p l e { frames := 0, cells := 0, slots := 0, locals := 0 } s m args below meth c H locs 0 0 Q (F0 m 4 ls []) := by
  have hx := Cx.1
  have hb := Cx.2.1
  have hown := Cx.2.2.2.2.1
  have hts := Cx.2.2.2.2.2.1
  intro n
  induction n with
  | zero =>
    intro v2 v3 H locs ls hf hW hS hl
    cases hf
  | succ n ih =>
    intro v2 v3 H locs ls hf hW hS hl
    rw [f_X9_goingTo_l4] at hf
    refine lv_iload_n (pc := 4) hx hb dX9_goingTo_4 rfl (lv_at hl 3 rfl) ?_
    refine lv_aload_n (pc := 5) hx hb dX9_goingTo_5 rfl (lv_at hl 0 rfl) ?_
    refine gF_X9_7 (pc := 6) Cx hW ms_0 rfl dX9_goingTo_6 ?_
    refine lv_iconst (pc := 9) (v := (2 : Int32)) hx hb dX9_goingTo_9 (by decide) ?_
    refine um_iaj (pc := 10) (n := 3790) 2 rfl Cx hW ms_1 rfl (um_ix_in (by decide)) dX9_goingTo_10 ?_
    refine lv_icmp_ge (pc := 11) (tgt := 38) hx hb dX9_goingTo_11 (by decide) (fun c1 => ?_) (fun c1 => ?_)
    · have hf := um_it c1 hf
      clear c1
      cases hf
      exact hE _ _ _ hW hS (lv_sub hl [2] rfl)
    · have hf := um_ie c1 hf
      clear c1
      refine lv_iload_n (pc := 14) hx hb dX9_goingTo_14 rfl (lv_at hl 2 rfl) ?_
      refine lv_aload_n (pc := 15) hx hb dX9_goingTo_15 rfl (lv_at hl 0 rfl) ?_
      refine gF_X9_40 (pc := 16) Cx hW ms_0 rfl dX9_goingTo_16 ?_
      refine lv_iload_n (pc := 19) hx hb dX9_goingTo_19 rfl (lv_at hl 3 rfl) ?_
      obtain ⟨g1, hf⟩ := um_gu hf
      refine um_iald (pc := 20) Cx hW ms_11 rfl (um_ix_in g1) dX9_goingTo_20 ?_
      refine lv_iload_n (pc := 21) hx hb dX9_goingTo_21 rfl (lv_at hl 1 rfl) ?_
      refine lv_icmp_ne (pc := 22) (tgt := 29) hx hb dX9_goingTo_22 (by decide) (fun c1 => ?_) (fun c1 => ?_)
      · have hf := um_ie c1 hf
        clear c1
        refine lv_iconst (pc := 29) (v := (0 : Int32)) hx hb dX9_goingTo_29 (by decide) ?_
        refine lv_iadd (pc := 30) hx hb dX9_goingTo_30 ?_
        obtain ⟨x2, e3, hf⟩ := um_le hf
        refine um_top e3 ?_
        clear e3
        refine lv_istore_n (pc := 31) (lv' := [(2, .int x2), (0, .ref (α 0)), (1, .int v1), (3, .int v3)]) hx hb dX9_goingTo_31 rfl hl (by decide) rfl ?_
        clear hl
        intro ls hl
        refine lv_iinc (pc := 32) (v := v3 + (1 : Int32)) (lv' := [(3, .int (v3 + (1 : Int32))), (2, .int x2), (0, .ref (α 0)), (1, .int v1)]) hx hb dX9_goingTo_32 hl (k := 3) rfl rfl (by decide) rfl ?_
        clear hl
        intro ls hl
        refine lv_goto (pc := 35) (tgt := 4) hx hb dX9_goingTo_35 (by decide) ?_
        exact ih _ _ _ _ _ hf hW hS (lv_sub hl [2, 3, 1, 0] rfl)
      · have hf := um_it c1 hf
        clear c1
        refine lv_iconst (pc := 25) (v := (1 : Int32)) hx hb dX9_goingTo_25 (by decide) ?_
        refine lv_goto (pc := 26) (tgt := 30) hx hb dX9_goingTo_26 (by decide) ?_
        refine lv_iadd (pc := 30) hx hb dX9_goingTo_30 ?_
        obtain ⟨x4, e5, hf⟩ := um_le hf
        refine um_top e5 ?_
        clear e5
        refine lv_istore_n (pc := 31) (lv' := [(2, .int x4), (0, .ref (α 0)), (1, .int v1), (3, .int v3)]) hx hb dX9_goingTo_31 rfl hl (by decide) rfl ?_
        clear hl
        intro ls hl
        refine lv_iinc (pc := 32) (v := v3 + (1 : Int32)) (lv' := [(3, .int (v3 + (1 : Int32))), (2, .int x4), (0, .ref (α 0)), (1, .int v1)]) hx hb dX9_goingTo_32 hl (k := 3) rfl rfl (by decide) rfl ?_
        clear hl
        intro ls hl
        refine lv_goto (pc := 35) (tgt := 4) hx hb dX9_goingTo_35 (by decide) ?_
        exact ih _ _ _ _ _ hf hW hS (lv_sub hl [2, 3, 1, 0] rfl)
set_option maxRecDepth 100000 in
set_option maxHeartbeats 4000000 in
theorem b_X9_goingTo {H : Heap} {locs : List Loc} {ls : Array Slot} {σ : um_S} {r : Int32} (a1 : Int32)  (hf : f_X9_goingTo a1 σ = some r) (Cx : um_C p s m meth c args cX9_goingTo 4 (some FieldType.int) RX9 Z) (hW : um_W Z msh α σ H) (hS : va_S (um_D msh α) s.heap H locs) (hl : lv_has ls 4 [(0, .ref (α 0)), (1, .int a1)]) : um_G p l e (0) (0) s m args below meth c Z msh α σ (some (.int r)) H locs (F0 m 0 ls []) := by
  have hx := Cx.1
  have hb := Cx.2.1
  have hown := Cx.2.2.2.2.1
  have hts := Cx.2.2.2.2.2.1
  rw [f_X9_goingTo] at hf
  refine lv_iconst (pc := 0) (v := (0 : Int32)) hx hb dX9_goingTo_0 (by decide) ?_
  refine lv_istore_n (pc := 1) (lv' := [(2, .int (0 : Int32)), (0, .ref (α 0)), (1, .int a1)]) hx hb dX9_goingTo_1 rfl hl (by decide) rfl ?_
  clear hl
  intro ls hl
  refine lv_iconst (pc := 2) (v := (0 : Int32)) hx hb dX9_goingTo_2 (by decide) ?_
  refine lv_istore_n (pc := 3) (lv' := [(3, .int (0 : Int32)), (2, .int (0 : Int32)), (0, .ref (α 0)), (1, .int a1)]) hx hb dX9_goingTo_3 rfl hl (by decide) rfl ?_
  clear hl
  intro ls hl
  obtain ⟨x1, hc2, hf⟩ := um_bi hf
  refine t_X9_goingTo_l4 a1 Cx ?_ um_N _ _ _ _ _ hc2 hW hS (lv_sub hl [2, 3, 1, 0] rfl)
  clear hW hS hl hc2
  intro H locs ls hW hS hl
  refine lv_iload_n (pc := 38) hx hb dX9_goingTo_38 rfl (lv_at hl 0 rfl) ?_
  exact um_iretR (pc := 39) Cx hW hS hf dX9_goingTo_39
theorem c_X9_goingTo {σ : um_S} {r : Int32} (a1 : Int32)  (hf : f_X9_goingTo a1 σ = some r) : um_M l yX9_goingTo cX9_goingTo 4 (some FieldType.int) (0) (0) Z msh α σ [.ref (α 0), .int a1] (some (.int r)) σ :=
  um_start (by decide) (Nat.le_of_ble_eq_true rfl) (fun p e s m below meth c ls Cx hW hS hl => b_X9_goingTo a1 hf Cx hW hS hl)
