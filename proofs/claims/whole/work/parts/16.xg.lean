variable {p : Program} {l : Launch} {e : Env} {s : State} {m : MethodId} {args : Array Value} {below : List Frame} {meth : Method} {c : Code} {Z : um_Z} {α : Nat → Nat} {sh : Nat → Option um_Sh}
noncomputable def f_X6_next_l30 (v1 : Int32) : Nat → um_S → Option (um_S)
  | 0, _ => none
  | n + 1, σ =>
    if (96 : Int32) ≤ (σ.1 4 2) then
    (some σ)
    else
    ((f_X6_byteAt (σ.1 4 2) σ).bind fun x2 =>
    (if x2 = (32 : Int32) then
    (um_let (um_wr σ 4 2 ((σ.1 4 2) + (1 : Int32))) fun σ3 =>
    (f_X6_next_l30 v1 n σ3))
    else
    (some σ)))
noncomputable def f_X6_next_l153  : Nat → um_S → Option (um_S)
  | 0, _ => none
  | n + 1, σ =>
    if (96 : Int32) ≤ (σ.1 4 3) then
    (some σ)
    else
    ((f_X6_sortAt (σ.1 4 3) σ).bind fun x2 =>
    (if x2 = (σ.1 4 4) then
    (um_let (um_wr σ 4 3 ((σ.1 4 3) + (1 : Int32))) fun σ3 =>
    (f_X6_next_l153 n σ3))
    else
    (some σ)))
noncomputable def f_X6_next  (σ : um_S) : Option (um_S) :=
    um_let (fun (x2 : Int32) =>
    (um_let (um_wr σ 4 2 (σ.1 4 3)) fun σ3 =>
    ((f_X6_next_l30 x2 um_N σ3).bind fun σ5 =>
    (um_let (fun (x8 : Bool) =>
    (um_let (um_wr σ5 4 5 (um_b x8)) fun σ9 =>
    ((f_X6_sortAt (σ9.1 4 2) σ9).bind fun x12 =>
    (um_let (um_wr σ9 4 4 x12) fun σ13 =>
    (um_let (fun (x16 : Int32) =>
    (um_let (um_wr σ13 4 3 x16) fun σ17 =>
    (um_let (fun (_u : Unit) =>
    ((f_X6_next_l153 um_N σ17).bind fun σ20 =>
    (some σ20))) fun k19 =>
    (if (σ17.1 4 4) = (1 : Int32) then
    (k19 ())
    else
    (if (σ17.1 4 4) = (2 : Int32) then
    (k19 ())
    else
    (some σ17)))))) fun k15 =>
    (if (σ13.1 4 4) = 0 then
    (k15 (σ13.1 4 2))
    else
    (k15 ((σ13.1 4 2) + (1 : Int32))))))))) fun k7 =>
    (um_let (fun (_u : Unit) =>
    (k7 false)) fun k22 =>
    (if x2 = 0 then
    (k22 ())
    else
    (if (σ5.1 4 2) = (σ5.1 4 3) then
    ((f_X6_sortAt (σ5.1 4 2) σ5).bind fun x24 =>
    (if x24 = (3 : Int32) then
    (k22 ())
    else
    (k7 true)))
    else
    (k22 ())))))))) fun k1 =>
    (um_let (fun (_u : Unit) =>
    (k1 (1 : Int32))) fun k25 =>
    (if (σ.1 4 4) = (1 : Int32) then
    (k25 ())
    else
    (if (σ.1 4 4) = (2 : Int32) then
    (k25 ())
    else
    (k1 (0 : Int32)))))
set_option maxRecDepth 100000 in
set_option maxHeartbeats 4000000 in
theorem t_X6_next_l30 {Q : State → Prop} {σo : um_S} (v1 : Int32) (hX : um_X sh) (Cx : um_C p s m meth c args cX6_next 2 none RX6 Z) (hE : ∀ (H : Heap) (locs : List Loc) (ls : Array Slot), um_W Z sh α σo H → va_S (um_D sh α) s.heap H locs → lv_has ls 2 [(0, .ref (α 4)), (1, .int v1)] → W p l e { frames := 2, cells := 0, slots := 0, locals := 43 } s m args below meth c H locs 0 0 Q (F0 m 65 ls [])) : ∀ (n : Nat) (σ : um_S) (H : Heap) (locs : List Loc) (ls : Array Slot), f_X6_next_l30 v1 n σ = some σo → um_W Z sh α σ H → va_S (um_D sh α) s.heap H locs → lv_has ls 2 [(0, .ref (α 4)), (1, .int v1)] → W p l e { frames := 2, cells := 0, slots := 0, locals := 43 } s m args below meth c H locs 0 0 Q (F0 m 30 ls []) := by
  have hx := Cx.1
  have hb := Cx.2.1
  have hown := Cx.2.2.2.2.1
  have hts := Cx.2.2.2.2.2.1
  intro n
  induction n with
  | zero =>
    intro σ H locs ls hf hW hS hl
    cases hf
  | succ n ih =>
    intro σ H locs ls hf hW hS hl
    rw [f_X6_next_l30] at hf
    refine lv_aload_n (pc := 30) hx hb dX6_next_30 rfl (lv_at hl 0 rfl) ?_
    refine gF_X6_43 (pc := 31) Cx hW (hX 4 _ rfl) rfl dX6_next_31 ?_
    refine lv_bipush (pc := 34) (v := (96 : Int32)) hx hb dX6_next_34 (by decide) ?_
    refine lv_icmp_ge (pc := 36) (tgt := 65) hx hb dX6_next_36 (by decide) (fun c1 => ?_) (fun c1 => ?_)
    · have hf := um_it c1 hf
      clear c1
      cases hf
      exact hE _ _ _ hW hS hl
    · have hf := um_ie c1 hf
      clear c1
      refine lv_aload_n (pc := 39) hx hb dX6_next_39 rfl (lv_at hl 0 rfl) ?_
      refine lv_aload_n (pc := 40) hx hb dX6_next_40 rfl (lv_at hl 0 rfl) ?_
      refine gF_X6_43 (pc := 41) Cx hW (hX 4 _ rfl) rfl dX6_next_41 ?_
      obtain ⟨x2, hc1, hf⟩ := um_bi hf
      refine um_cVi (pc := 44) (As := [.int (σ.1 4 2)]) (rest := []) Cx (c_X6_byteAt (σ.1 4 2) hX hc1) kV_X6_byteAt (Or.inl qM_X6_104) hW hS (hX 4 _ rfl) rfl rfl hl rfl (Nat.le_of_ble_eq_true rfl) (Nat.le_of_ble_eq_true rfl) (Nat.le_of_ble_eq_true rfl) dX6_next_44 (Nat.le_refl _) (Nat.le_refl _) ?_
      clear hW hS hc1
      intro H locs hW hS
      refine lv_bipush (pc := 47) (v := (32 : Int32)) hx hb dX6_next_47 (by decide) ?_
      refine lv_icmp_ne (pc := 49) (tgt := 65) hx hb dX6_next_49 (by decide) (fun c1 => ?_) (fun c1 => ?_)
      · have hf := um_ie c1 hf
        clear c1
        cases hf
        exact hE _ _ _ hW hS hl
      · have hf := um_it c1 hf
        clear c1
        refine lv_aload_n (pc := 52) hx hb dX6_next_52 rfl (lv_at hl 0 rfl) ?_
        refine lv_dup (pc := 53) hx hb dX6_next_53 rfl ?_
        refine gF_X6_43 (pc := 54) Cx hW (hX 4 _ rfl) rfl dX6_next_54 ?_
        refine lv_iconst (pc := 57) (v := (1 : Int32)) hx hb dX6_next_57 (by decide) ?_
        refine lv_iadd (pc := 58) hx hb dX6_next_58 ?_
        refine gP_X6_43 (pc := 59) Cx hW hS (hX 4 _ rfl) rfl dX6_next_59 ?_
        clear hW hS
        intro H locs hW hS
        obtain ⟨σ3, e4, hf⟩ := um_le hf
        rw [← e4] at hW
        clear e4
        refine lv_goto (pc := 62) (tgt := 30) hx hb dX6_next_62 (by decide) ?_
        exact ih _ _ _ _ hf hW hS hl
set_option maxRecDepth 100000 in
set_option maxHeartbeats 4000000 in
theorem t_X6_next_l153 {Q : State → Prop} {σo : um_S}  (hX : um_X sh) (Cx : um_C p s m meth c args cX6_next 2 none RX6 Z) (hE : ∀ (H : Heap) (locs : List Loc) (ls : Array Slot), um_W Z sh α σo H → va_S (um_D sh α) s.heap H locs → lv_has ls 2 [] → W p l e { frames := 2, cells := 0, slots := 0, locals := 43 } s m args below meth c H locs 0 0 Q (F0 m 190 ls [])) : ∀ (n : Nat) (σ : um_S) (H : Heap) (locs : List Loc) (ls : Array Slot), f_X6_next_l153 n σ = some σo → um_W Z sh α σ H → va_S (um_D sh α) s.heap H locs → lv_has ls 2 [(0, .ref (α 4))] → W p l e { frames := 2, cells := 0, slots := 0, locals := 43 } s m args below meth c H locs 0 0 Q (F0 m 153 ls []) := by
  have hx := Cx.1
  have hb := Cx.2.1
  have hown := Cx.2.2.2.2.1
  have hts := Cx.2.2.2.2.2.1
  intro n
  induction n with
  | zero =>
    intro σ H locs ls hf hW hS hl
    cases hf
  | succ n ih =>
    intro σ H locs ls hf hW hS hl
    rw [f_X6_next_l153] at hf
    refine lv_aload_n (pc := 153) hx hb dX6_next_153 rfl (lv_at hl 0 rfl) ?_
    refine gF_X6_92 (pc := 154) Cx hW (hX 4 _ rfl) rfl dX6_next_154 ?_
    refine lv_bipush (pc := 157) (v := (96 : Int32)) hx hb dX6_next_157 (by decide) ?_
    refine lv_icmp_ge (pc := 159) (tgt := 190) hx hb dX6_next_159 (by decide) (fun c1 => ?_) (fun c1 => ?_)
    · have hf := um_it c1 hf
      clear c1
      cases hf
      exact hE _ _ _ hW hS (lv_sub hl [] rfl)
    · have hf := um_ie c1 hf
      clear c1
      refine lv_aload_n (pc := 162) hx hb dX6_next_162 rfl (lv_at hl 0 rfl) ?_
      refine lv_aload_n (pc := 163) hx hb dX6_next_163 rfl (lv_at hl 0 rfl) ?_
      refine gF_X6_92 (pc := 164) Cx hW (hX 4 _ rfl) rfl dX6_next_164 ?_
      obtain ⟨x2, hc1, hf⟩ := um_bi hf
      refine um_cVi (pc := 167) (As := [.int (σ.1 4 3)]) (rest := []) Cx (c_X6_sortAt (σ.1 4 3) hX hc1) kV_X6_sortAt (Or.inl qM_X6_108) hW hS (hX 4 _ rfl) rfl rfl hl rfl (Nat.le_of_ble_eq_true rfl) (Nat.le_of_ble_eq_true rfl) (Nat.le_of_ble_eq_true rfl) dX6_next_167 (Nat.le_refl _) (Nat.le_refl _) ?_
      clear hW hS hc1
      intro H locs hW hS
      refine lv_aload_n (pc := 170) hx hb dX6_next_170 rfl (lv_at hl 0 rfl) ?_
      refine gF_X6_46 (pc := 171) Cx hW (hX 4 _ rfl) rfl dX6_next_171 ?_
      refine lv_icmp_ne (pc := 174) (tgt := 190) hx hb dX6_next_174 (by decide) (fun c1 => ?_) (fun c1 => ?_)
      · have hf := um_ie c1 hf
        clear c1
        cases hf
        exact hE _ _ _ hW hS (lv_sub hl [] rfl)
      · have hf := um_it c1 hf
        clear c1
        refine lv_aload_n (pc := 177) hx hb dX6_next_177 rfl (lv_at hl 0 rfl) ?_
        refine lv_dup (pc := 178) hx hb dX6_next_178 rfl ?_
        refine gF_X6_92 (pc := 179) Cx hW (hX 4 _ rfl) rfl dX6_next_179 ?_
        refine lv_iconst (pc := 182) (v := (1 : Int32)) hx hb dX6_next_182 (by decide) ?_
        refine lv_iadd (pc := 183) hx hb dX6_next_183 ?_
        refine gP_X6_92 (pc := 184) Cx hW hS (hX 4 _ rfl) rfl dX6_next_184 ?_
        clear hW hS
        intro H locs hW hS
        obtain ⟨σ3, e4, hf⟩ := um_le hf
        rw [← e4] at hW
        clear e4
        refine lv_goto (pc := 187) (tgt := 153) hx hb dX6_next_187 (by decide) ?_
        exact ih _ _ _ _ hf hW hS hl
set_option maxRecDepth 100000 in
set_option maxHeartbeats 4000000 in
theorem b_X6_next {H : Heap} {locs : List Loc} {ls : Array Slot} {σ : um_S} {σ' : um_S}  (hX : um_X sh) (hf : f_X6_next σ = some σ') (Cx : um_C p s m meth c args cX6_next 2 none RX6 Z) (hW : um_W Z sh α σ H) (hS : va_S (um_D sh α) s.heap H locs) (hl : lv_has ls 2 [(0, .ref (α 4))]) : um_G p l e (2) (43) s m args below meth c Z sh α σ' none H locs (F0 m 0 ls []) := by
  have hx := Cx.1
  have hb := Cx.2.1
  have hown := Cx.2.2.2.2.1
  have hts := Cx.2.2.2.2.2.1
  rw [f_X6_next] at hf
  refine lv_aload_n (pc := 0) hx hb dX6_next_0 rfl (lv_at hl 0 rfl) ?_
  refine gF_X6_46 (pc := 1) Cx hW (hX 4 _ rfl) rfl dX6_next_1 ?_
  refine lv_iconst (pc := 4) (v := (1 : Int32)) hx hb dX6_next_4 (by decide) ?_
  obtain ⟨k1, hk1, hf⟩ := um_j1 hf
  have J1 : ∀ (x2 : Int32), k1 x2 = some σ' → ∀ (H : Heap) (locs : List Loc) (ls : Array Slot), um_W Z sh α σ H → va_S (um_D sh α) s.heap H locs → lv_has ls 2 [(0, .ref (α 4))] → um_G p l e (2) (43) s m args below meth c Z sh α σ' none H locs (F0 m 21 ls [.int x2]) := by
    intro x2 hf H locs ls hW hS hl
    rw [hk1] at hf
    refine lv_istore_n (pc := 21) (lv' := [(1, .int x2), (0, .ref (α 4))]) hx hb dX6_next_21 rfl hl (by decide) rfl ?_
    clear hl
    intro ls hl
    refine lv_aload_n (pc := 22) hx hb dX6_next_22 rfl (lv_at hl 1 rfl) ?_
    refine lv_aload_n (pc := 23) hx hb dX6_next_23 rfl (lv_at hl 1 rfl) ?_
    refine gF_X6_92 (pc := 24) Cx hW (hX 4 _ rfl) rfl dX6_next_24 ?_
    refine gP_X6_43 (pc := 27) Cx hW hS (hX 4 _ rfl) rfl dX6_next_27 ?_
    clear hW hS
    intro H locs hW hS
    obtain ⟨σ3, e4, hf⟩ := um_le hf
    rw [← e4] at hW
    clear e4
    obtain ⟨σ5, hc6, hf⟩ := um_bi hf
    refine t_X6_next_l30 x2 hX Cx ?_ um_N _ _ _ _ hc6 hW hS (lv_sub hl [1, 0] rfl)
    clear hW hS hl hc6
    intro H locs ls hW hS hl
    refine lv_aload_n (pc := 65) hx hb dX6_next_65 rfl (lv_at hl 0 rfl) ?_
    refine lv_iload_n (pc := 66) hx hb dX6_next_66 rfl (lv_at hl 1 rfl) ?_
    obtain ⟨k7, hk7, hf⟩ := um_j1 hf
    have J7 : ∀ (x8 : Bool), k7 x8 = some σ' → ∀ (H : Heap) (locs : List Loc) (ls : Array Slot), um_W Z sh α σ5 H → va_S (um_D sh α) s.heap H locs → lv_has ls 2 [(0, .ref (α 4))] → um_G p l e (2) (43) s m args below meth c Z sh α σ' none H locs (F0 m 98 ls [.int (um_b x8), .ref (α 4)]) := by
      intro x8 hf H locs ls hW hS hl
      rw [hk7] at hf
      refine gP_X6_53 (b := x8) (pc := 98) Cx hW hS (hX 4 _ rfl) rfl dX6_next_98 ?_
      clear hW hS
      intro H locs hW hS
      obtain ⟨σ9, e10, hf⟩ := um_le hf
      rw [← e10] at hW
      clear e10
      refine lv_aload_n (pc := 101) hx hb dX6_next_101 rfl (lv_at hl 0 rfl) ?_
      refine lv_aload_n (pc := 102) hx hb dX6_next_102 rfl (lv_at hl 0 rfl) ?_
      refine lv_aload_n (pc := 103) hx hb dX6_next_103 rfl (lv_at hl 0 rfl) ?_
      refine gF_X6_43 (pc := 104) Cx hW (hX 4 _ rfl) rfl dX6_next_104 ?_
      obtain ⟨x12, hc11, hf⟩ := um_bi hf
      refine um_cVi (pc := 107) (As := [.int (σ9.1 4 2)]) (rest := [.ref (α 4)]) Cx (c_X6_sortAt (σ9.1 4 2) hX hc11) kV_X6_sortAt (Or.inl qM_X6_108) hW hS (hX 4 _ rfl) rfl rfl hl rfl (Nat.le_of_ble_eq_true rfl) (Nat.le_of_ble_eq_true rfl) (Nat.le_of_ble_eq_true rfl) dX6_next_107 (Nat.le_refl _) (Nat.le_refl _) ?_
      clear hW hS hc11
      intro H locs hW hS
      refine gP_X6_46 (pc := 110) Cx hW hS (hX 4 _ rfl) rfl dX6_next_110 ?_
      clear hW hS
      intro H locs hW hS
      obtain ⟨σ13, e14, hf⟩ := um_le hf
      rw [← e14] at hW
      clear e14
      refine lv_aload_n (pc := 113) hx hb dX6_next_113 rfl (lv_at hl 0 rfl) ?_
      refine lv_aload_n (pc := 114) hx hb dX6_next_114 rfl (lv_at hl 0 rfl) ?_
      refine gF_X6_46 (pc := 115) Cx hW (hX 4 _ rfl) rfl dX6_next_115 ?_
      obtain ⟨k15, hk15, hf⟩ := um_j1 hf
      have J15 : ∀ (x16 : Int32), k15 x16 = some σ' → ∀ (H : Heap) (locs : List Loc) (ls : Array Slot), um_W Z sh α σ13 H → va_S (um_D sh α) s.heap H locs → lv_has ls 2 [(0, .ref (α 4))] → um_G p l e (2) (43) s m args below meth c Z sh α σ' none H locs (F0 m 134 ls [.int x16, .ref (α 4)]) := by
        intro x16 hf H locs ls hW hS hl
        rw [hk15] at hf
        refine gP_X6_92 (pc := 134) Cx hW hS (hX 4 _ rfl) rfl dX6_next_134 ?_
        clear hW hS
        intro H locs hW hS
        obtain ⟨σ17, e18, hf⟩ := um_le hf
        rw [← e18] at hW
        clear e18
        refine lv_aload_n (pc := 137) hx hb dX6_next_137 rfl (lv_at hl 0 rfl) ?_
        refine gF_X6_46 (pc := 138) Cx hW (hX 4 _ rfl) rfl dX6_next_138 ?_
        refine lv_iconst (pc := 141) (v := (1 : Int32)) hx hb dX6_next_141 (by decide) ?_
        obtain ⟨k19, hk19, hf⟩ := um_j1 hf
        have J19 : ∀ (_u : Unit), k19 _u = some σ' → ∀ (H : Heap) (locs : List Loc) (ls : Array Slot), um_W Z sh α σ17 H → va_S (um_D sh α) s.heap H locs → lv_has ls 2 [(0, .ref (α 4))] → um_G p l e (2) (43) s m args below meth c Z sh α σ' none H locs (F0 m 153 ls []) := by
          intro _u hf H locs ls hW hS hl
          rw [hk19] at hf
          obtain ⟨σ20, hc21, hf⟩ := um_bi hf
          refine t_X6_next_l153 hX Cx ?_ um_N _ _ _ _ hc21 hW hS hl
          clear hW hS hl hc21
          intro H locs ls hW hS hl
          exact um_vret (pc := 190) Cx hW hS hf dX6_next_190
        refine lv_icmp_eq (pc := 142) (tgt := 153) hx hb dX6_next_142 (by decide) (fun c1 => ?_) (fun c1 => ?_)
        · have hf := um_it c1 hf
          clear c1
          exact J19 () hf _ _ _ hW hS hl
        · have hf := um_ie c1 hf
          clear c1
          refine lv_aload_n (pc := 145) hx hb dX6_next_145 rfl (lv_at hl 0 rfl) ?_
          refine gF_X6_46 (pc := 146) Cx hW (hX 4 _ rfl) rfl dX6_next_146 ?_
          refine lv_iconst (pc := 149) (v := (2 : Int32)) hx hb dX6_next_149 (by decide) ?_
          refine lv_icmp_ne (pc := 150) (tgt := 190) hx hb dX6_next_150 (by decide) (fun c1 => ?_) (fun c1 => ?_)
          · have hf := um_ie c1 hf
            clear c1
            exact um_vret (pc := 190) Cx hW hS hf dX6_next_190
          · have hf := um_it c1 hf
            clear c1
            exact J19 () hf _ _ _ hW hS hl
      refine lv_if_ne (pc := 118) (tgt := 128) hx hb dX6_next_118 (by decide) (fun c1 => ?_) (fun c1 => ?_)
      · have hf := um_ie c1 hf
        clear c1
        refine lv_aload_n (pc := 128) hx hb dX6_next_128 rfl (lv_at hl 0 rfl) ?_
        refine gF_X6_43 (pc := 129) Cx hW (hX 4 _ rfl) rfl dX6_next_129 ?_
        refine lv_iconst (pc := 132) (v := (1 : Int32)) hx hb dX6_next_132 (by decide) ?_
        refine lv_iadd (pc := 133) hx hb dX6_next_133 ?_
        exact J15 ((σ13.1 4 2) + (1 : Int32)) hf _ _ _ hW hS hl
      · have hf := um_it c1 hf
        clear c1
        refine lv_aload_n (pc := 121) hx hb dX6_next_121 rfl (lv_at hl 0 rfl) ?_
        refine gF_X6_43 (pc := 122) Cx hW (hX 4 _ rfl) rfl dX6_next_122 ?_
        refine lv_goto (pc := 125) (tgt := 134) hx hb dX6_next_125 (by decide) ?_
        exact J15 (σ13.1 4 2) hf _ _ _ hW hS hl
    obtain ⟨k22, hk22, hf⟩ := um_j1 hf
    have J22 : ∀ (_u : Unit), k22 _u = some σ' → ∀ (H : Heap) (locs : List Loc) (ls : Array Slot), um_W Z sh α σ5 H → va_S (um_D sh α) s.heap H locs → lv_has ls 2 [(0, .ref (α 4))] → um_G p l e (2) (43) s m args below meth c Z sh α σ' none H locs (F0 m 97 ls [.ref (α 4)]) := by
      intro _u hf H locs ls hW hS hl
      rw [hk22] at hf
      refine lv_iconst (pc := 97) (v := (0 : Int32)) hx hb dX6_next_97 (by decide) ?_
      exact J7 false hf _ _ _ hW hS hl
    refine lv_if_eq (pc := 67) (tgt := 97) hx hb dX6_next_67 (by decide) (fun c1 => ?_) (fun c1 => ?_)
    · have hf := um_it c1 hf
      clear c1
      exact J22 () hf _ _ _ hW hS (lv_sub hl [0] rfl)
    · have hf := um_ie c1 hf
      clear c1
      refine lv_aload_n (pc := 70) hx hb dX6_next_70 rfl (lv_at hl 0 rfl) ?_
      refine gF_X6_43 (pc := 71) Cx hW (hX 4 _ rfl) rfl dX6_next_71 ?_
      refine lv_aload_n (pc := 74) hx hb dX6_next_74 rfl (lv_at hl 0 rfl) ?_
      refine gF_X6_92 (pc := 75) Cx hW (hX 4 _ rfl) rfl dX6_next_75 ?_
      refine lv_icmp_ne (pc := 78) (tgt := 97) hx hb dX6_next_78 (by decide) (fun c1 => ?_) (fun c1 => ?_)
      · have hf := um_ie c1 hf
        clear c1
        exact J22 () hf _ _ _ hW hS (lv_sub hl [0] rfl)
      · have hf := um_it c1 hf
        clear c1
        refine lv_aload_n (pc := 81) hx hb dX6_next_81 rfl (lv_at hl 0 rfl) ?_
        refine lv_aload_n (pc := 82) hx hb dX6_next_82 rfl (lv_at hl 0 rfl) ?_
        refine gF_X6_43 (pc := 83) Cx hW (hX 4 _ rfl) rfl dX6_next_83 ?_
        obtain ⟨x24, hc23, hf⟩ := um_bi hf
        refine um_cVi (pc := 86) (As := [.int (σ5.1 4 2)]) (rest := [.ref (α 4)]) Cx (c_X6_sortAt (σ5.1 4 2) hX hc23) kV_X6_sortAt (Or.inl qM_X6_108) hW hS (hX 4 _ rfl) rfl rfl hl rfl (Nat.le_of_ble_eq_true rfl) (Nat.le_of_ble_eq_true rfl) (Nat.le_of_ble_eq_true rfl) dX6_next_86 (Nat.le_refl _) (Nat.le_refl _) ?_
        clear hW hS hc23
        intro H locs hW hS
        refine lv_iconst (pc := 89) (v := (3 : Int32)) hx hb dX6_next_89 (by decide) ?_
        refine lv_icmp_eq (pc := 90) (tgt := 97) hx hb dX6_next_90 (by decide) (fun c1 => ?_) (fun c1 => ?_)
        · have hf := um_it c1 hf
          clear c1
          exact J22 () hf _ _ _ hW hS (lv_sub hl [0] rfl)
        · have hf := um_ie c1 hf
          clear c1
          refine lv_iconst (pc := 93) (v := (1 : Int32)) hx hb dX6_next_93 (by decide) ?_
          refine lv_goto (pc := 94) (tgt := 98) hx hb dX6_next_94 (by decide) ?_
          exact J7 true hf _ _ _ hW hS (lv_sub hl [0] rfl)
  obtain ⟨k25, hk25, hf⟩ := um_j1 hf
  have J25 : ∀ (_u : Unit), k25 _u = some σ' → ∀ (H : Heap) (locs : List Loc) (ls : Array Slot), um_W Z sh α σ H → va_S (um_D sh α) s.heap H locs → lv_has ls 2 [(0, .ref (α 4))] → um_G p l e (2) (43) s m args below meth c Z sh α σ' none H locs (F0 m 16 ls []) := by
    intro _u hf H locs ls hW hS hl
    rw [hk25] at hf
    refine lv_iconst (pc := 16) (v := (1 : Int32)) hx hb dX6_next_16 (by decide) ?_
    refine lv_goto (pc := 17) (tgt := 21) hx hb dX6_next_17 (by decide) ?_
    exact J1 (1 : Int32) hf _ _ _ hW hS hl
  refine lv_icmp_eq (pc := 5) (tgt := 16) hx hb dX6_next_5 (by decide) (fun c1 => ?_) (fun c1 => ?_)
  · have hf := um_it c1 hf
    clear c1
    exact J25 () hf _ _ _ hW hS hl
  · have hf := um_ie c1 hf
    clear c1
    refine lv_aload_n (pc := 8) hx hb dX6_next_8 rfl (lv_at hl 0 rfl) ?_
    refine gF_X6_46 (pc := 9) Cx hW (hX 4 _ rfl) rfl dX6_next_9 ?_
    refine lv_iconst (pc := 12) (v := (2 : Int32)) hx hb dX6_next_12 (by decide) ?_
    refine lv_icmp_ne (pc := 13) (tgt := 20) hx hb dX6_next_13 (by decide) (fun c1 => ?_) (fun c1 => ?_)
    · have hf := um_ie c1 hf
      clear c1
      refine lv_iconst (pc := 20) (v := (0 : Int32)) hx hb dX6_next_20 (by decide) ?_
      exact J1 (0 : Int32) hf _ _ _ hW hS hl
    · have hf := um_it c1 hf
      clear c1
      exact J25 () hf _ _ _ hW hS hl
theorem c_X6_next {σ : um_S} {σ' : um_S}  (hX : um_X sh) (hf : f_X6_next σ = some σ') : um_M l yX6_next cX6_next 2 none (2) (43) Z sh α σ [.ref (α 4)] none σ' :=
  um_start (by decide) (Nat.le_of_ble_eq_true rfl) (fun p e s m below meth c ls Cx hW hS hl => b_X6_next hX hf Cx hW hS hl)
noncomputable def f_X6_takesClosing  (σ : um_S) : Option (Bool × um_S) :=
    if 0 < (σ.1 4 13) then
    ((f_X6_settle (1 : Int32) σ).bind fun σ2 =>
    (um_b2 (f_X6_takeSign σ2) fun x5 σ4 =>
    (um_let (um_wr σ4 4 13 ((σ4.1 4 13) - (1 : Int32))) fun σ6 =>
    ((f_X6_endPart σ6).bind fun σ9 =>
    (some (true, σ9))))))
    else
    (some (false, σ))
set_option maxRecDepth 100000 in
set_option maxHeartbeats 4000000 in
theorem b_X6_takesClosing {H : Heap} {locs : List Loc} {ls : Array Slot} {σ : um_S} {σ' : um_S} {r : Bool}  (hX : um_X sh) (hf : f_X6_takesClosing σ = some (r, σ')) (Cx : um_C p s m meth c args cX6_takesClosing 1 (some FieldType.boolean) RX6 Z) (hW : um_W Z sh α σ H) (hS : va_S (um_D sh α) s.heap H locs) (hl : lv_has ls 1 [(0, .ref (α 4))]) : um_G p l e (3) (73) s m args below meth c Z sh α σ' (some (.int (um_b r))) H locs (F0 m 0 ls []) := by
  have hx := Cx.1
  have hb := Cx.2.1
  have hown := Cx.2.2.2.2.1
  have hts := Cx.2.2.2.2.2.1
  rw [f_X6_takesClosing] at hf
  refine lv_aload_n (pc := 0) hx hb dX6_takesClosing_0 rfl (lv_at hl 0 rfl) ?_
  refine gF_X6_98 (pc := 1) Cx hW (hX 4 _ rfl) rfl dX6_takesClosing_1 ?_
  refine lv_if_gt (pc := 4) (tgt := 9) hx hb dX6_takesClosing_4 (by decide) (fun c1 => ?_) (fun c1 => ?_)
  · have hf := um_it c1 hf
    clear c1
    refine lv_aload_n (pc := 9) hx hb dX6_takesClosing_9 rfl (lv_at hl 0 rfl) ?_
    refine lv_iconst (pc := 10) (v := (1 : Int32)) hx hb dX6_takesClosing_10 (by decide) ?_
    obtain ⟨σ2, hc1, hf⟩ := um_bi hf
    refine um_cVv (pc := 11) (As := [.int (1 : Int32)]) (rest := []) Cx (c_X6_settle (1 : Int32) hX hc1) kV_X6_settle (Or.inl qM_X6_66) hW hS (hX 4 _ rfl) rfl rfl hl rfl (Nat.le_of_ble_eq_true rfl) (Nat.le_of_ble_eq_true rfl) (Nat.le_of_ble_eq_true rfl) dX6_takesClosing_11 (Nat.le_refl _) (Nat.le_refl _) ?_
    clear hW hS hc1
    intro H locs hW hS
    refine lv_aload_n (pc := 14) hx hb dX6_takesClosing_14 rfl (lv_at hl 0 rfl) ?_
    obtain ⟨x5, σ4, hc3, hf⟩ := um_bi2 hf
    refine um_cVi (pc := 15) (As := []) (rest := []) Cx (c_X6_takeSign hX hc3) kV_X6_takeSign (Or.inl qM_X6_170) hW hS (hX 4 _ rfl) rfl rfl hl rfl (Nat.le_of_ble_eq_true rfl) (Nat.le_of_ble_eq_true rfl) (Nat.le_of_ble_eq_true rfl) dX6_takesClosing_15 (Nat.le_refl _) (Nat.le_refl _) ?_
    clear hW hS hc3
    intro H locs hW hS
    refine lv_pop (pc := 18) hx hb dX6_takesClosing_18 rfl ?_
    refine lv_aload_n (pc := 19) hx hb dX6_takesClosing_19 rfl (lv_at hl 0 rfl) ?_
    refine lv_dup (pc := 20) hx hb dX6_takesClosing_20 rfl ?_
    refine gF_X6_98 (pc := 21) Cx hW (hX 4 _ rfl) rfl dX6_takesClosing_21 ?_
    refine lv_iconst (pc := 24) (v := (1 : Int32)) hx hb dX6_takesClosing_24 (by decide) ?_
    refine lv_isub (pc := 25) hx hb dX6_takesClosing_25 ?_
    refine gP_X6_98 (pc := 26) Cx hW hS (hX 4 _ rfl) rfl dX6_takesClosing_26 ?_
    clear hW hS
    intro H locs hW hS
    obtain ⟨σ6, e7, hf⟩ := um_le hf
    rw [← e7] at hW
    clear e7
    refine lv_aload_n (pc := 29) hx hb dX6_takesClosing_29 rfl (lv_at hl 0 rfl) ?_
    obtain ⟨σ9, hc8, hf⟩ := um_bi hf
    refine um_cVv (pc := 30) (As := []) (rest := []) Cx (c_X6_endPart hX hc8) kV_X6_endPart (Or.inl qM_X6_164) hW hS (hX 4 _ rfl) rfl rfl hl rfl (Nat.le_of_ble_eq_true rfl) (Nat.le_of_ble_eq_true rfl) (Nat.le_of_ble_eq_true rfl) dX6_takesClosing_30 (Nat.le_refl _) (Nat.le_refl _) ?_
    clear hW hS hc8
    intro H locs hW hS
    refine lv_iconst (pc := 33) (v := (1 : Int32)) hx hb dX6_takesClosing_33 (by decide) ?_
    exact um_zret (pc := 34) Cx hW hS hf rfl dX6_takesClosing_34
  · have hf := um_ie c1 hf
    clear c1
    refine lv_iconst (pc := 7) (v := (0 : Int32)) hx hb dX6_takesClosing_7 (by decide) ?_
    exact um_zret (pc := 8) Cx hW hS hf rfl dX6_takesClosing_8
theorem c_X6_takesClosing {σ : um_S} {σ' : um_S} {r : Bool}  (hX : um_X sh) (hf : f_X6_takesClosing σ = some (r, σ')) : um_M l yX6_takesClosing cX6_takesClosing 1 (some FieldType.boolean) (3) (73) Z sh α σ [.ref (α 4)] (some (.int (um_b r))) σ' :=
  um_start (by decide) (Nat.le_of_ble_eq_true rfl) (fun p e s m below meth c ls Cx hW hS hl => b_X6_takesClosing hX hf Cx hW hS hl)
noncomputable def f_X6_waitsWith (a1 : Int32) (σ : um_S) : Option (Bool × um_S) :=
    if (σ.1 4 10) < 0 then
    (some (false, σ))
    else
    (if (σ.1 4 10) < (nI 96) then
    (if um_ix (σ.1 4 10) 96 then
    (um_let (um_wr σ 10 (σ.1 4 10).toNatClampNeg a1) fun σ2 =>
    (um_let (um_wr σ2 4 10 ((σ2.1 4 10) + (1 : Int32))) fun σ4 =>
    (some (true, σ4)))) else none)
    else
    (some (false, σ)))
set_option maxRecDepth 100000 in
set_option maxHeartbeats 4000000 in
theorem b_X6_waitsWith {H : Heap} {locs : List Loc} {ls : Array Slot} {σ : um_S} {σ' : um_S} {r : Bool} (a1 : Int32) (hX : um_X sh) (hf : f_X6_waitsWith a1 σ = some (r, σ')) (Cx : um_C p s m meth c args cX6_waitsWith 2 (some FieldType.boolean) RX6 Z) (hW : um_W Z sh α σ H) (hS : va_S (um_D sh α) s.heap H locs) (hl : lv_has ls 2 [(0, .ref (α 4)), (1, .int a1)]) : um_G p l e (0) (0) s m args below meth c Z sh α σ' (some (.int (um_b r))) H locs (F0 m 0 ls []) := by
  have hx := Cx.1
  have hb := Cx.2.1
  have hown := Cx.2.2.2.2.1
  have hts := Cx.2.2.2.2.2.1
  rw [f_X6_waitsWith] at hf
  refine lv_aload_n (pc := 0) hx hb dX6_waitsWith_0 rfl (lv_at hl 0 rfl) ?_
  refine gF_X6_95 (pc := 1) Cx hW (hX 4 _ rfl) rfl dX6_waitsWith_1 ?_
  refine lv_if_lt (pc := 4) (tgt := 19) hx hb dX6_waitsWith_4 (by decide) (fun c1 => ?_) (fun c1 => ?_)
  · have hf := um_it c1 hf
    clear c1
    refine lv_iconst (pc := 19) (v := (0 : Int32)) hx hb dX6_waitsWith_19 (by decide) ?_
    exact um_zret (pc := 20) Cx hW hS hf rfl dX6_waitsWith_20
  · have hf := um_ie c1 hf
    clear c1
    refine lv_aload_n (pc := 7) hx hb dX6_waitsWith_7 rfl (lv_at hl 0 rfl) ?_
    refine gF_X6_95 (pc := 8) Cx hW (hX 4 _ rfl) rfl dX6_waitsWith_8 ?_
    refine lv_aload_n (pc := 11) hx hb dX6_waitsWith_11 rfl (lv_at hl 0 rfl) ?_
    refine gF_X6_19 (pc := 12) Cx hW (hX 4 _ rfl) rfl dX6_waitsWith_12 ?_
    refine um_alen (pc := 15) (n := 96) Cx hW (hX 10 _ rfl) rfl (by decide) dX6_waitsWith_15 ?_
    refine lv_icmp_lt (pc := 16) (tgt := 21) hx hb dX6_waitsWith_16 (by decide) (fun c1 => ?_) (fun c1 => ?_)
    · have hf := um_it c1 hf
      clear c1
      refine lv_aload_n (pc := 21) hx hb dX6_waitsWith_21 rfl (lv_at hl 0 rfl) ?_
      refine gF_X6_19 (pc := 22) Cx hW (hX 4 _ rfl) rfl dX6_waitsWith_22 ?_
      refine lv_aload_n (pc := 25) hx hb dX6_waitsWith_25 rfl (lv_at hl 0 rfl) ?_
      refine gF_X6_95 (pc := 26) Cx hW (hX 4 _ rfl) rfl dX6_waitsWith_26 ?_
      refine lv_iload_n (pc := 29) hx hb dX6_waitsWith_29 rfl (lv_at hl 1 rfl) ?_
      obtain ⟨g1, hf⟩ := um_gu hf
      refine um_iast (pc := 30) Cx hW hS (hX 10 _ rfl) rfl (um_ix_in g1) dX6_waitsWith_30 ?_
      clear hW hS
      intro H locs hW hS
      obtain ⟨σ2, e3, hf⟩ := um_le hf
      rw [← e3] at hW
      clear e3
      refine lv_aload_n (pc := 31) hx hb dX6_waitsWith_31 rfl (lv_at hl 0 rfl) ?_
      refine lv_dup (pc := 32) hx hb dX6_waitsWith_32 rfl ?_
      refine gF_X6_95 (pc := 33) Cx hW (hX 4 _ rfl) rfl dX6_waitsWith_33 ?_
      refine lv_iconst (pc := 36) (v := (1 : Int32)) hx hb dX6_waitsWith_36 (by decide) ?_
      refine lv_iadd (pc := 37) hx hb dX6_waitsWith_37 ?_
      refine gP_X6_95 (pc := 38) Cx hW hS (hX 4 _ rfl) rfl dX6_waitsWith_38 ?_
      clear hW hS
      intro H locs hW hS
      obtain ⟨σ4, e5, hf⟩ := um_le hf
      rw [← e5] at hW
      clear e5
      refine lv_iconst (pc := 41) (v := (1 : Int32)) hx hb dX6_waitsWith_41 (by decide) ?_
      exact um_zret (pc := 42) Cx hW hS hf rfl dX6_waitsWith_42
    · have hf := um_ie c1 hf
      clear c1
      refine lv_iconst (pc := 19) (v := (0 : Int32)) hx hb dX6_waitsWith_19 (by decide) ?_
      exact um_zret (pc := 20) Cx hW hS hf rfl dX6_waitsWith_20
theorem c_X6_waitsWith {σ : um_S} {σ' : um_S} {r : Bool} (a1 : Int32) (hX : um_X sh) (hf : f_X6_waitsWith a1 σ = some (r, σ')) : um_M l yX6_waitsWith cX6_waitsWith 2 (some FieldType.boolean) (0) (0) Z sh α σ [.ref (α 4), .int a1] (some (.int (um_b r))) σ' :=
  um_start (by decide) (Nat.le_of_ble_eq_true rfl) (fun p e s m below meth c ls Cx hW hS hl => b_X6_waitsWith a1 hX hf Cx hW hS hl)
noncomputable def f_X6_takesJoin  (σ : um_S) : Option (Bool × um_S) :=
    (f_X6_byteAt (σ.1 4 2) σ).bind fun x2 =>
    (if x2 = (41 : Int32) then
    (um_b2 (f_X6_takesClosing σ) fun x21 σ20 =>
    (some (x21, σ20)))
    else
    ((f_X6_rankOf x2 σ).bind fun x4 =>
    (if x4 = 0 then
    (some (false, σ))
    else
    ((f_X6_settle (x4 + (1 : Int32)) σ).bind fun σ6 =>
    (um_let (fun (_u : Unit) =>
    ((f_X6_settle x4 σ6).bind fun σ9 =>
    (um_let (um_wr σ9 4 6 (um_b true)) fun σ10 =>
    (um_b2 (f_X6_waitsWith x2 σ10) fun x14 σ13 =>
    (some (x14, σ13)))))) fun k7 =>
    (if x4 = (3 : Int32) then
    ((f_X6_topSign σ6).bind fun x16 =>
    ((f_X6_rankOf x16 σ6).bind fun x18 =>
    (if x18 = (3 : Int32) then
    (some (false, σ6))
    else
    (k7 ()))))
    else
    (k7 ())))))))
set_option maxRecDepth 100000 in
set_option maxHeartbeats 4000000 in
theorem b_X6_takesJoin {H : Heap} {locs : List Loc} {ls : Array Slot} {σ : um_S} {σ' : um_S} {r : Bool}  (hX : um_X sh) (hf : f_X6_takesJoin σ = some (r, σ')) (Cx : um_C p s m meth c args cX6_takesJoin 3 (some FieldType.boolean) RX6 Z) (hW : um_W Z sh α σ H) (hS : va_S (um_D sh α) s.heap H locs) (hl : lv_has ls 3 [(0, .ref (α 4))]) : um_G p l e (4) (93) s m args below meth c Z sh α σ' (some (.int (um_b r))) H locs (F0 m 0 ls []) := by
  have hx := Cx.1
  have hb := Cx.2.1
  have hown := Cx.2.2.2.2.1
  have hts := Cx.2.2.2.2.2.1
  rw [f_X6_takesJoin] at hf
  refine lv_aload_n (pc := 0) hx hb dX6_takesJoin_0 rfl (lv_at hl 0 rfl) ?_
  refine lv_aload_n (pc := 1) hx hb dX6_takesJoin_1 rfl (lv_at hl 0 rfl) ?_
  refine gF_X6_43 (pc := 2) Cx hW (hX 4 _ rfl) rfl dX6_takesJoin_2 ?_
  obtain ⟨x2, hc1, hf⟩ := um_bi hf
  refine um_cVi (pc := 5) (As := [.int (σ.1 4 2)]) (rest := []) Cx (c_X6_byteAt (σ.1 4 2) hX hc1) kV_X6_byteAt (Or.inl qM_X6_104) hW hS (hX 4 _ rfl) rfl rfl hl rfl (Nat.le_of_ble_eq_true rfl) (Nat.le_of_ble_eq_true rfl) (Nat.le_of_ble_eq_true rfl) dX6_takesJoin_5 (Nat.le_refl _) (Nat.le_refl _) ?_
  clear hW hS hc1
  intro H locs hW hS
  refine lv_istore_n (pc := 8) (lv' := [(1, .int x2), (0, .ref (α 4))]) hx hb dX6_takesJoin_8 rfl hl (by decide) rfl ?_
  clear hl
  intro ls hl
  refine lv_iload_n (pc := 9) hx hb dX6_takesJoin_9 rfl (lv_at hl 0 rfl) ?_
  refine lv_bipush (pc := 10) (v := (41 : Int32)) hx hb dX6_takesJoin_10 (by decide) ?_
  refine lv_icmp_ne (pc := 12) (tgt := 20) hx hb dX6_takesJoin_12 (by decide) (fun c1 => ?_) (fun c1 => ?_)
  · have hf := um_ie c1 hf
    clear c1
    refine lv_iload_n (pc := 20) hx hb dX6_takesJoin_20 rfl (lv_at hl 0 rfl) ?_
    obtain ⟨x4, hc3, hf⟩ := um_bi hf
    refine um_cSi (pc := 21) (As := [.int x2]) (rest := []) Cx (c_X6_rankOf x2 hX hc3) kS_X6_rankOf (Or.inl qM_X6_176) hW hS rfl hl rfl (Nat.le_of_ble_eq_true rfl) (Nat.le_of_ble_eq_true rfl) (Nat.le_of_ble_eq_true rfl) dX6_takesJoin_21 (Nat.le_refl _) (Nat.le_refl _) ?_
    clear hW hS hc3
    intro H locs hW hS
    refine lv_istore_n (pc := 24) (lv' := [(2, .int x4), (1, .int x2), (0, .ref (α 4))]) hx hb dX6_takesJoin_24 rfl hl (by decide) rfl ?_
    clear hl
    intro ls hl
    refine lv_iload_n (pc := 25) hx hb dX6_takesJoin_25 rfl (lv_at hl 0 rfl) ?_
    refine lv_if_ne (pc := 26) (tgt := 31) hx hb dX6_takesJoin_26 (by decide) (fun c1 => ?_) (fun c1 => ?_)
    · have hf := um_ie c1 hf
      clear c1
      refine lv_aload_n (pc := 31) hx hb dX6_takesJoin_31 rfl (lv_at hl 2 rfl) ?_
      refine lv_iload_n (pc := 32) hx hb dX6_takesJoin_32 rfl (lv_at hl 0 rfl) ?_
      refine lv_iconst (pc := 33) (v := (1 : Int32)) hx hb dX6_takesJoin_33 (by decide) ?_
      refine lv_iadd (pc := 34) hx hb dX6_takesJoin_34 ?_
      obtain ⟨σ6, hc5, hf⟩ := um_bi hf
      refine um_cVv (pc := 35) (As := [.int (x4 + (1 : Int32))]) (rest := []) Cx (c_X6_settle (x4 + (1 : Int32)) hX hc5) kV_X6_settle (Or.inl qM_X6_66) hW hS (hX 4 _ rfl) rfl rfl hl rfl (Nat.le_of_ble_eq_true rfl) (Nat.le_of_ble_eq_true rfl) (Nat.le_of_ble_eq_true rfl) dX6_takesJoin_35 (Nat.le_refl _) (Nat.le_refl _) ?_
      clear hW hS hc5
      intro H locs hW hS
      refine lv_iload_n (pc := 38) hx hb dX6_takesJoin_38 rfl (lv_at hl 0 rfl) ?_
      refine lv_iconst (pc := 39) (v := (3 : Int32)) hx hb dX6_takesJoin_39 (by decide) ?_
      obtain ⟨k7, hk7, hf⟩ := um_j1 hf
      have J7 : ∀ (_u : Unit), k7 _u = some (r, σ') → ∀ (H : Heap) (locs : List Loc) (ls : Array Slot), um_W Z sh α σ6 H → va_S (um_D sh α) s.heap H locs → lv_has ls 3 [(0, .ref (α 4)), (1, .int x2), (2, .int x4)] → um_G p l e (4) (93) s m args below meth c Z sh α σ' (some (.int (um_b r))) H locs (F0 m 56 ls []) := by
        intro _u hf H locs ls hW hS hl
        rw [hk7] at hf
        refine lv_aload_n (pc := 56) hx hb dX6_takesJoin_56 rfl (lv_at hl 0 rfl) ?_
        refine lv_iload_n (pc := 57) hx hb dX6_takesJoin_57 rfl (lv_at hl 2 rfl) ?_
        obtain ⟨σ9, hc8, hf⟩ := um_bi hf
        refine um_cVv (pc := 58) (As := [.int x4]) (rest := []) Cx (c_X6_settle x4 hX hc8) kV_X6_settle (Or.inl qM_X6_66) hW hS (hX 4 _ rfl) rfl rfl hl rfl (Nat.le_of_ble_eq_true rfl) (Nat.le_of_ble_eq_true rfl) (Nat.le_of_ble_eq_true rfl) dX6_takesJoin_58 (Nat.le_refl _) (Nat.le_refl _) ?_
        clear hW hS hc8
        intro H locs hW hS
        refine lv_aload_n (pc := 61) hx hb dX6_takesJoin_61 rfl (lv_at hl 0 rfl) ?_
        refine lv_iconst (pc := 62) (v := (1 : Int32)) hx hb dX6_takesJoin_62 (by decide) ?_
        refine gP_X6_57 (b := true) (pc := 63) Cx hW hS (hX 4 _ rfl) rfl dX6_takesJoin_63 ?_
        clear hW hS
        intro H locs hW hS
        obtain ⟨σ10, e11, hf⟩ := um_le hf
        rw [← e11] at hW
        clear e11
        refine lv_aload_n (pc := 66) hx hb dX6_takesJoin_66 rfl (lv_at hl 0 rfl) ?_
        refine lv_iload_n (pc := 67) hx hb dX6_takesJoin_67 rfl (lv_at hl 1 rfl) ?_
        obtain ⟨x14, σ13, hc12, hf⟩ := um_bi2 hf
        refine um_cVi (pc := 68) (As := [.int x2]) (rest := []) Cx (c_X6_waitsWith x2 hX hc12) kV_X6_waitsWith (Or.inl qM_X6_158) hW hS (hX 4 _ rfl) rfl rfl hl rfl (Nat.le_of_ble_eq_true rfl) (Nat.le_of_ble_eq_true rfl) (Nat.le_of_ble_eq_true rfl) dX6_takesJoin_68 (Nat.le_refl _) (Nat.le_refl _) ?_
        clear hW hS hc12
        intro H locs hW hS
        exact um_zret (pc := 71) Cx hW hS hf rfl dX6_takesJoin_71
      refine lv_icmp_ne (pc := 40) (tgt := 56) hx hb dX6_takesJoin_40 (by decide) (fun c1 => ?_) (fun c1 => ?_)
      · have hf := um_ie c1 hf
        clear c1
        exact J7 () hf _ _ _ hW hS (lv_sub hl [2, 1, 0] rfl)
      · have hf := um_it c1 hf
        clear c1
        refine lv_aload_n (pc := 43) hx hb dX6_takesJoin_43 rfl (lv_at hl 2 rfl) ?_
        obtain ⟨x16, hc15, hf⟩ := um_bi hf
        refine um_cVi (pc := 44) (As := []) (rest := []) Cx (c_X6_topSign hX hc15) kV_X6_topSign (Or.inl qM_X6_167) hW hS (hX 4 _ rfl) rfl rfl hl rfl (Nat.le_of_ble_eq_true rfl) (Nat.le_of_ble_eq_true rfl) (Nat.le_of_ble_eq_true rfl) dX6_takesJoin_44 (Nat.le_refl _) (Nat.le_refl _) ?_
        clear hW hS hc15
        intro H locs hW hS
        obtain ⟨x18, hc17, hf⟩ := um_bi hf
        refine um_cSi (pc := 47) (As := [.int x16]) (rest := []) Cx (c_X6_rankOf x16 hX hc17) kS_X6_rankOf (Or.inl qM_X6_176) hW hS rfl hl rfl (Nat.le_of_ble_eq_true rfl) (Nat.le_of_ble_eq_true rfl) (Nat.le_of_ble_eq_true rfl) dX6_takesJoin_47 (Nat.le_refl _) (Nat.le_refl _) ?_
        clear hW hS hc17
        intro H locs hW hS
        refine lv_iconst (pc := 50) (v := (3 : Int32)) hx hb dX6_takesJoin_50 (by decide) ?_
        refine lv_icmp_ne (pc := 51) (tgt := 56) hx hb dX6_takesJoin_51 (by decide) (fun c1 => ?_) (fun c1 => ?_)
        · have hf := um_ie c1 hf
          clear c1
          exact J7 () hf _ _ _ hW hS (lv_sub hl [2, 1, 0] rfl)
        · have hf := um_it c1 hf
          clear c1
          refine lv_iconst (pc := 54) (v := (0 : Int32)) hx hb dX6_takesJoin_54 (by decide) ?_
          exact um_zret (pc := 55) Cx hW hS hf rfl dX6_takesJoin_55
    · have hf := um_it c1 hf
      clear c1
      refine lv_iconst (pc := 29) (v := (0 : Int32)) hx hb dX6_takesJoin_29 (by decide) ?_
      exact um_zret (pc := 30) Cx hW hS hf rfl dX6_takesJoin_30
  · have hf := um_it c1 hf
    clear c1
    refine lv_aload_n (pc := 15) hx hb dX6_takesJoin_15 rfl (lv_at hl 1 rfl) ?_
    obtain ⟨x21, σ20, hc19, hf⟩ := um_bi2 hf
    refine um_cVi (pc := 16) (As := []) (rest := []) Cx (c_X6_takesClosing hX hc19) kV_X6_takesClosing (Or.inl qM_X6_173) hW hS (hX 4 _ rfl) rfl rfl hl rfl (Nat.le_of_ble_eq_true rfl) (Nat.le_of_ble_eq_true rfl) (Nat.le_of_ble_eq_true rfl) dX6_takesJoin_16 (Nat.le_refl _) (Nat.le_refl _) ?_
    clear hW hS hc19
    intro H locs hW hS
    exact um_zret (pc := 19) Cx hW hS hf rfl dX6_takesJoin_19
theorem c_X6_takesJoin {σ : um_S} {σ' : um_S} {r : Bool}  (hX : um_X sh) (hf : f_X6_takesJoin σ = some (r, σ')) : um_M l yX6_takesJoin cX6_takesJoin 3 (some FieldType.boolean) (4) (93) Z sh α σ [.ref (α 4)] (some (.int (um_b r))) σ' :=
  um_start (by decide) (Nat.le_of_ble_eq_true rfl) (fun p e s m below meth c ls Cx hW hS hl => b_X6_takesJoin hX hf Cx hW hS hl)
noncomputable def f_X6_namesOf (a0 : Int32) (σ : um_S) : Option (Nat) :=
    if a0 = (0 : Int32) then
    (some 5)
    else
    (if a0 = (1 : Int32) then
    (some 5)
    else
    (if a0 = (2 : Int32) then
    (some 6)
    else
    (if a0 = (3 : Int32) then
    (some 7)
    else
    (some 8))))
set_option maxRecDepth 100000 in
set_option maxHeartbeats 4000000 in
theorem b_X6_namesOf {H : Heap} {locs : List Loc} {ls : Array Slot} {σ : um_S} {r : Nat} (a0 : Int32) (hX : um_X sh) (hf : f_X6_namesOf a0 σ = some r) (Cx : um_C p s m meth c args cX6_namesOf 1 (some (FieldType.object "java/lang/String")) RX6 Z) (hW : um_W Z sh α σ H) (hS : va_S (um_D sh α) s.heap H locs) (hl : lv_has ls 1 [(0, .int a0)]) : um_G p l e (0) (0) s m args below meth c Z sh α σ (some (.ref (Z.2.2.2.2.1 r))) H locs (F0 m 0 ls []) := by
  have hx := Cx.1
  have hb := Cx.2.1
  have hown := Cx.2.2.2.2.1
  have hts := Cx.2.2.2.2.2.1
  rw [f_X6_namesOf] at hf
  refine lv_iload_n (pc := 0) hx hb dX6_namesOf_0 rfl (lv_at hl 0 rfl) ?_
  by_cases c1 : a0 = (0 : Int32)
  · have hf := um_it c1 hf
    refine lv_tableIn (pc := 1) (tgt := 32) hx hb dX6_namesOf_1 (by rw [c1]; decide) (by rw [c1]; decide) (by rw [c1]; rfl) (by decide) ?_
    refine va_ldcS (pc := 32) hx hb hown ((um_st Cx).2.2.2.2.1 5 (by decide)) dX6_namesOf_32 ?_
    exact um_sret (pc := 34) Cx (Or.inl ⟨_, rfl⟩) hW hS hf dX6_namesOf_34
  have hf := um_ie c1 hf
  by_cases c2 : a0 = (1 : Int32)
  · have hf := um_it c2 hf
    refine lv_tableIn (pc := 1) (tgt := 35) hx hb dX6_namesOf_1 (by rw [c2]; decide) (by rw [c2]; decide) (by rw [c2]; rfl) (by decide) ?_
    refine va_ldcS (pc := 35) hx hb hown ((um_st Cx).2.2.2.2.1 5 (by decide)) dX6_namesOf_35 ?_
    exact um_sret (pc := 37) Cx (Or.inl ⟨_, rfl⟩) hW hS hf dX6_namesOf_37
  have hf := um_ie c2 hf
  by_cases c3 : a0 = (2 : Int32)
  · have hf := um_it c3 hf
    refine lv_tableIn (pc := 1) (tgt := 38) hx hb dX6_namesOf_1 (by rw [c3]; decide) (by rw [c3]; decide) (by rw [c3]; rfl) (by decide) ?_
    refine va_ldcS (pc := 38) hx hb hown ((um_st Cx).2.2.2.2.1 6 (by decide)) dX6_namesOf_38 ?_
    exact um_sret (pc := 40) Cx (Or.inl ⟨_, rfl⟩) hW hS hf dX6_namesOf_40
  have hf := um_ie c3 hf
  by_cases c4 : a0 = (3 : Int32)
  · have hf := um_it c4 hf
    refine lv_tableIn (pc := 1) (tgt := 41) hx hb dX6_namesOf_1 (by rw [c4]; decide) (by rw [c4]; decide) (by rw [c4]; rfl) (by decide) ?_
    refine va_ldcS (pc := 41) hx hb hown ((um_st Cx).2.2.2.2.1 7 (by decide)) dX6_namesOf_41 ?_
    exact um_sret (pc := 43) Cx (Or.inl ⟨_, rfl⟩) hW hS hf dX6_namesOf_43
  have hf := um_ie c4 hf
  have ho : a0.toInt < 0 ∨ 3 < a0.toInt := um_tabO (lo := 0) (hi := 3) (fun z z1 z2 => by
    rcases (show z = 0 ∨ z = 1 ∨ z = 2 ∨ z = 3 by omega) with rfl | rfl | rfl | rfl
    · exact c1
    · exact c2
    · exact c3
    · exact c4)
  refine lv_tableOut (pc := 1) (tgt := 44) hx hb dX6_namesOf_1 ho (by decide) ?_
  refine va_ldcS (pc := 44) hx hb hown ((um_st Cx).2.2.2.2.1 8 (by decide)) dX6_namesOf_44 ?_
  exact um_sret (pc := 46) Cx (Or.inl ⟨_, rfl⟩) hW hS hf dX6_namesOf_46
theorem c_X6_namesOf {σ : um_S} {r : Nat} (a0 : Int32) (hX : um_X sh) (hf : f_X6_namesOf a0 σ = some r) : um_M l yX6_namesOf cX6_namesOf 1 (some (FieldType.object "java/lang/String")) (0) (0) Z sh α σ [.int a0] (some (.ref (Z.2.2.2.2.1 r))) σ :=
  um_start (by decide) (Nat.le_of_ble_eq_true rfl) (fun p e s m below meth c ls Cx hW hS hl => b_X6_namesOf a0 hX hf Cx hW hS hl)
theorem f_X6_namesOf_lt {a0 : Int32} {σ : um_S} {i : Nat} (h : f_X6_namesOf a0 σ = some i) : i < 9 := by
  unfold f_X6_namesOf at h
  repeat' split at h
  all_goals (cases h; decide)
noncomputable def f_X6_numberHere_l7 (σ : um_S) : Nat → Int32 → Int32 → Option (Int32)
  | 0, _, _ => none
  | n + 1, v1, v2 =>
    if (σ.1 4 3) ≤ v2 then
    (some v1)
    else
    ((f_X6_byteAt v2 σ).bind fun x2 =>
    (um_let (((v1 * (10 : Int32)) + x2) - (48 : Int32)) fun x3 =>
    (f_X6_numberHere_l7 σ n x3 (v2 + (1 : Int32)))))
noncomputable def f_X6_numberHere  (σ : um_S) : Option (Int32) :=
    um_let (σ.1 4 2) fun x1 =>
    ((f_X6_numberHere_l7 σ um_N (0 : Int32) x1).bind fun x3 =>
    (some x3))
set_option maxRecDepth 100000 in
set_option maxHeartbeats 4000000 in
theorem t_X6_numberHere_l7 {Q : State → Prop} {o1 : Int32} {σ : um_S}  (hX : um_X sh) (Cx : um_C p s m meth c args cX6_numberHere 3 (some FieldType.int) RX6 Z) (hE : ∀ (H : Heap) (locs : List Loc) (ls : Array Slot), um_W Z sh α σ H → va_S (um_D sh α) s.heap H locs → lv_has ls 3 [(1, .int o1)] → W p l e { frames := 1, cells := 0, slots := 0, locals := 21 } s m args below meth c H locs 0 0 Q (F0 m 35 ls [])) : ∀ (n : Nat) (v1 : Int32) (v2 : Int32) (H : Heap) (locs : List Loc) (ls : Array Slot), f_X6_numberHere_l7 σ n v1 v2 = some o1 → um_W Z sh α σ H → va_S (um_D sh α) s.heap H locs → lv_has ls 3 [(0, .ref (α 4)), (1, .int v1), (2, .int v2)] → W p l e { frames := 1, cells := 0, slots := 0, locals := 21 } s m args below meth c H locs 0 0 Q (F0 m 7 ls []) := by
  have hx := Cx.1
  have hb := Cx.2.1
  have hown := Cx.2.2.2.2.1
  have hts := Cx.2.2.2.2.2.1
  intro n
  induction n with
  | zero =>
    intro v1 v2 H locs ls hf hW hS hl
    cases hf
  | succ n ih =>
    intro v1 v2 H locs ls hf hW hS hl
    rw [f_X6_numberHere_l7] at hf
    refine lv_iload_n (pc := 7) hx hb dX6_numberHere_7 rfl (lv_at hl 2 rfl) ?_
    refine lv_aload_n (pc := 8) hx hb dX6_numberHere_8 rfl (lv_at hl 0 rfl) ?_
    refine gF_X6_92 (pc := 9) Cx hW (hX 4 _ rfl) rfl dX6_numberHere_9 ?_
    refine lv_icmp_ge (pc := 12) (tgt := 35) hx hb dX6_numberHere_12 (by decide) (fun c1 => ?_) (fun c1 => ?_)
    · have hf := um_it c1 hf
      clear c1
      cases hf
      exact hE _ _ _ hW hS (lv_sub hl [1] rfl)
    · have hf := um_ie c1 hf
      clear c1
      refine lv_iload_n (pc := 15) hx hb dX6_numberHere_15 rfl (lv_at hl 1 rfl) ?_
      refine lv_bipush (pc := 16) (v := (10 : Int32)) hx hb dX6_numberHere_16 (by decide) ?_
      refine lv_imul (pc := 18) hx hb dX6_numberHere_18 ?_
      refine lv_aload_n (pc := 19) hx hb dX6_numberHere_19 rfl (lv_at hl 0 rfl) ?_
      refine lv_iload_n (pc := 20) hx hb dX6_numberHere_20 rfl (lv_at hl 2 rfl) ?_
      obtain ⟨x2, hc1, hf⟩ := um_bi hf
      refine um_cVi (pc := 21) (As := [.int v2]) (rest := [.int (v1 * (10 : Int32))]) Cx (c_X6_byteAt v2 hX hc1) kV_X6_byteAt (Or.inl qM_X6_104) hW hS (hX 4 _ rfl) rfl rfl hl rfl (Nat.le_of_ble_eq_true rfl) (Nat.le_of_ble_eq_true rfl) (Nat.le_of_ble_eq_true rfl) dX6_numberHere_21 (Nat.le_refl _) (Nat.le_refl _) ?_
      clear hW hS hc1
      intro H locs hW hS
      refine lv_iadd (pc := 24) hx hb dX6_numberHere_24 ?_
      refine lv_bipush (pc := 25) (v := (48 : Int32)) hx hb dX6_numberHere_25 (by decide) ?_
      refine lv_isub (pc := 27) hx hb dX6_numberHere_27 ?_
      obtain ⟨x3, e4, hf⟩ := um_le hf
      refine um_top e4 ?_
      clear e4
      refine lv_istore_n (pc := 28) (lv' := [(1, .int x3), (0, .ref (α 4)), (2, .int v2)]) hx hb dX6_numberHere_28 rfl hl (by decide) rfl ?_
      clear hl
      intro ls hl
      refine lv_iinc (pc := 29) (v := v2 + (1 : Int32)) (lv' := [(2, .int (v2 + (1 : Int32))), (1, .int x3), (0, .ref (α 4))]) hx hb dX6_numberHere_29 hl (k := 2) rfl rfl (by decide) rfl ?_
      clear hl
      intro ls hl
      refine lv_goto (pc := 32) (tgt := 7) hx hb dX6_numberHere_32 (by decide) ?_
      exact ih _ _ _ _ _ hf hW hS (lv_sub hl [2, 1, 0] rfl)
set_option maxRecDepth 100000 in
set_option maxHeartbeats 4000000 in
theorem b_X6_numberHere {H : Heap} {locs : List Loc} {ls : Array Slot} {σ : um_S} {r : Int32}  (hX : um_X sh) (hf : f_X6_numberHere σ = some r) (Cx : um_C p s m meth c args cX6_numberHere 3 (some FieldType.int) RX6 Z) (hW : um_W Z sh α σ H) (hS : va_S (um_D sh α) s.heap H locs) (hl : lv_has ls 3 [(0, .ref (α 4))]) : um_G p l e (1) (21) s m args below meth c Z sh α σ (some (.int r)) H locs (F0 m 0 ls []) := by
  have hx := Cx.1
  have hb := Cx.2.1
  have hown := Cx.2.2.2.2.1
  have hts := Cx.2.2.2.2.2.1
  rw [f_X6_numberHere] at hf
  refine lv_iconst (pc := 0) (v := (0 : Int32)) hx hb dX6_numberHere_0 (by decide) ?_
  refine lv_istore_n (pc := 1) (lv' := [(1, .int (0 : Int32)), (0, .ref (α 4))]) hx hb dX6_numberHere_1 rfl hl (by decide) rfl ?_
  clear hl
  intro ls hl
  refine lv_aload_n (pc := 2) hx hb dX6_numberHere_2 rfl (lv_at hl 1 rfl) ?_
  refine gF_X6_43 (pc := 3) Cx hW (hX 4 _ rfl) rfl dX6_numberHere_3 ?_
  obtain ⟨x1, e2, hf⟩ := um_le hf
  refine um_top e2 ?_
  clear e2
  refine lv_istore_n (pc := 6) (lv' := [(2, .int x1), (1, .int (0 : Int32)), (0, .ref (α 4))]) hx hb dX6_numberHere_6 rfl hl (by decide) rfl ?_
  clear hl
  intro ls hl
  obtain ⟨x3, hc4, hf⟩ := um_bi hf
  refine t_X6_numberHere_l7 hX Cx ?_ um_N _ _ _ _ _ hc4 hW hS (lv_sub hl [2, 1, 0] rfl)
  clear hW hS hl hc4
  intro H locs ls hW hS hl
  refine lv_iload_n (pc := 35) hx hb dX6_numberHere_35 rfl (lv_at hl 0 rfl) ?_
  exact um_iretR (pc := 36) Cx hW hS hf dX6_numberHere_36
theorem c_X6_numberHere {σ : um_S} {r : Int32}  (hX : um_X sh) (hf : f_X6_numberHere σ = some r) : um_M l yX6_numberHere cX6_numberHere 3 (some FieldType.int) (1) (21) Z sh α σ [.ref (α 4)] (some (.int r)) σ :=
  um_start (by decide) (Nat.le_of_ble_eq_true rfl) (fun p e s m below meth c ls Cx hW hS hl => b_X6_numberHere hX hf Cx hW hS hl)
noncomputable def f_X6_takesValue (a1 : Int32) (σ : um_S) : Option (Bool × um_S) :=
    (f_X6_write a1 σ).bind fun σ2 =>
    (um_let (um_wr σ2 4 12 ((σ2.1 4 12) + (1 : Int32))) fun σ3 =>
    ((f_X6_endPart σ3).bind fun σ6 =>
    (some (true, σ6))))
set_option maxRecDepth 100000 in
set_option maxHeartbeats 4000000 in
theorem b_X6_takesValue {H : Heap} {locs : List Loc} {ls : Array Slot} {σ : um_S} {σ' : um_S} {r : Bool} (a1 : Int32) (hX : um_X sh) (hf : f_X6_takesValue a1 σ = some (r, σ')) (Cx : um_C p s m meth c args cX6_takesValue 2 (some FieldType.boolean) RX6 Z) (hW : um_W Z sh α σ H) (hS : va_S (um_D sh α) s.heap H locs) (hl : lv_has ls 2 [(0, .ref (α 4)), (1, .int a1)]) : um_G p l e (3) (72) s m args below meth c Z sh α σ' (some (.int (um_b r))) H locs (F0 m 0 ls []) := by
  have hx := Cx.1
  have hb := Cx.2.1
  have hown := Cx.2.2.2.2.1
  have hts := Cx.2.2.2.2.2.1
  rw [f_X6_takesValue] at hf
  refine lv_aload_n (pc := 0) hx hb dX6_takesValue_0 rfl (lv_at hl 0 rfl) ?_
  refine lv_iload_n (pc := 1) hx hb dX6_takesValue_1 rfl (lv_at hl 1 rfl) ?_
  obtain ⟨σ2, hc1, hf⟩ := um_bi hf
  refine um_cVv (pc := 2) (As := [.int a1]) (rest := []) Cx (c_X6_write a1 hX hc1) kV_X6_write (Or.inl qM_X6_161) hW hS (hX 4 _ rfl) rfl rfl hl rfl (Nat.le_of_ble_eq_true rfl) (Nat.le_of_ble_eq_true rfl) (Nat.le_of_ble_eq_true rfl) dX6_takesValue_2 (Nat.le_refl _) (Nat.le_refl _) ?_
  clear hW hS hc1
  intro H locs hW hS
  refine lv_aload_n (pc := 5) hx hb dX6_takesValue_5 rfl (lv_at hl 0 rfl) ?_
  refine lv_dup (pc := 6) hx hb dX6_takesValue_6 rfl ?_
  refine gF_X6_71 (pc := 7) Cx hW (hX 4 _ rfl) rfl dX6_takesValue_7 ?_
  refine lv_iconst (pc := 10) (v := (1 : Int32)) hx hb dX6_takesValue_10 (by decide) ?_
  refine lv_iadd (pc := 11) hx hb dX6_takesValue_11 ?_
  refine gP_X6_71 (pc := 12) Cx hW hS (hX 4 _ rfl) rfl dX6_takesValue_12 ?_
  clear hW hS
  intro H locs hW hS
  obtain ⟨σ3, e4, hf⟩ := um_le hf
  rw [← e4] at hW
  clear e4
  refine lv_aload_n (pc := 15) hx hb dX6_takesValue_15 rfl (lv_at hl 0 rfl) ?_
  obtain ⟨σ6, hc5, hf⟩ := um_bi hf
  refine um_cVv (pc := 16) (As := []) (rest := []) Cx (c_X6_endPart hX hc5) kV_X6_endPart (Or.inl qM_X6_164) hW hS (hX 4 _ rfl) rfl rfl hl rfl (Nat.le_of_ble_eq_true rfl) (Nat.le_of_ble_eq_true rfl) (Nat.le_of_ble_eq_true rfl) dX6_takesValue_16 (Nat.le_refl _) (Nat.le_refl _) ?_
  clear hW hS hc5
  intro H locs hW hS
  refine lv_iconst (pc := 19) (v := (1 : Int32)) hx hb dX6_takesValue_19 (by decide) ?_
  exact um_zret (pc := 20) Cx hW hS hf rfl dX6_takesValue_20
theorem c_X6_takesValue {σ : um_S} {σ' : um_S} {r : Bool} (a1 : Int32) (hX : um_X sh) (hf : f_X6_takesValue a1 σ = some (r, σ')) : um_M l yX6_takesValue cX6_takesValue 2 (some FieldType.boolean) (3) (72) Z sh α σ [.ref (α 4), .int a1] (some (.int (um_b r))) σ' :=
  um_start (by decide) (Nat.le_of_ble_eq_true rfl) (fun p e s m below meth c ls Cx hW hS hl => b_X6_takesValue a1 hX hf Cx hW hS hl)
noncomputable def f_X6_takesPart  (σ : um_S) : Option (Bool × um_S) :=
    if (σ.1 4 4) = (2 : Int32) then
    (if (4 : Int32) < ((σ.1 4 3) - (σ.1 4 2)) then
    (some (false, σ))
    else
    ((f_X6_numberHere σ).bind fun x26 =>
    (um_b2 (f_X6_takesValue x26 σ) fun x29 σ28 =>
    (if (um_b x29) = 0 then
    (some (false, σ28))
    else
    (some (true, σ28))))))
    else
    (if (σ.1 4 4) = (1 : Int32) then
    (um_let (fun (x15 : Int32) =>
    (if x15 < 0 then
    (some (false, σ))
    else
    (um_b2 (f_X6_takesValue ((-1 : Int32) - x15) σ) fun x18 σ17 =>
    (if (um_b x18) = 0 then
    (some (false, σ17))
    else
    (some (true, σ17)))))) fun k14 =>
    (if ((σ.1 4 3) - (σ.1 4 2)) = (1 : Int32) then
    ((f_X6_namesOf (σ.1 4 11) σ).bind fun x20 =>
    ((f_X6_byteAt (σ.1 4 2) σ).bind fun x22 =>
    ((f_J0_indexOf_0f7a4 x20 ((x22.toUInt32 % 65536).toInt32) σ).bind fun x24 =>
    (k14 x24))))
    else
    (k14 (-1 : Int32))))
    else
    ((f_X6_byteAt (σ.1 4 2) σ).bind fun x2 =>
    (um_let (fun (_u : Unit) =>
    (if x2 = (40 : Int32) then
    (if (8 : Int32) ≤ (σ.1 4 13) then
    (some (false, σ))
    else
    (um_let (um_wr σ 4 13 ((σ.1 4 13) + (1 : Int32))) fun σ4 =>
    (um_b2 (f_X6_waitsWith x2 σ4) fun x8 σ7 =>
    (some (x8, σ7)))))
    else
    (some (false, σ)))) fun k3 =>
    (if x2 = (33 : Int32) then
    (if (8 : Int32) ≤ (σ.1 4 14) then
    (k3 ())
    else
    (um_let (um_wr σ 4 14 ((σ.1 4 14) + (1 : Int32))) fun σ9 =>
    (um_b2 (f_X6_waitsWith x2 σ9) fun x13 σ12 =>
    (some (x13, σ12)))))
    else
    (k3 ())))))
set_option maxRecDepth 100000 in
set_option maxHeartbeats 4000000 in
theorem b_X6_takesPart {H : Heap} {locs : List Loc} {ls : Array Slot} {σ : um_S} {σ' : um_S} {r : Bool}  (hX : um_X sh) (hf : f_X6_takesPart σ = some (r, σ')) (Cx : um_C p s m meth c args cX6_takesPart 2 (some FieldType.boolean) RX6 Z) (hW : um_W Z sh α σ H) (hS : va_S (um_D sh α) s.heap H locs) (hl : lv_has ls 2 [(0, .ref (α 4))]) : um_G p l e (4) (96) s m args below meth c Z sh α σ' (some (.int (um_b r))) H locs (F0 m 0 ls []) := by
  have hx := Cx.1
  have hb := Cx.2.1
  have hown := Cx.2.2.2.2.1
  have hts := Cx.2.2.2.2.2.1
  rw [f_X6_takesPart] at hf
  refine lv_aload_n (pc := 0) hx hb dX6_takesPart_0 rfl (lv_at hl 0 rfl) ?_
  refine gF_X6_46 (pc := 1) Cx hW (hX 4 _ rfl) rfl dX6_takesPart_1 ?_
  refine lv_iconst (pc := 4) (v := (2 : Int32)) hx hb dX6_takesPart_4 (by decide) ?_
  refine lv_icmp_ne (pc := 5) (tgt := 38) hx hb dX6_takesPart_5 (by decide) (fun c1 => ?_) (fun c1 => ?_)
  · have hf := um_ie c1 hf
    clear c1
    refine lv_aload_n (pc := 38) hx hb dX6_takesPart_38 rfl (lv_at hl 0 rfl) ?_
    refine gF_X6_46 (pc := 39) Cx hW (hX 4 _ rfl) rfl dX6_takesPart_39 ?_
    refine lv_iconst (pc := 42) (v := (1 : Int32)) hx hb dX6_takesPart_42 (by decide) ?_
    refine lv_icmp_ne (pc := 43) (tgt := 103) hx hb dX6_takesPart_43 (by decide) (fun c1 => ?_) (fun c1 => ?_)
    · have hf := um_ie c1 hf
      clear c1
      refine lv_aload_n (pc := 103) hx hb dX6_takesPart_103 rfl (lv_at hl 0 rfl) ?_
      refine lv_aload_n (pc := 104) hx hb dX6_takesPart_104 rfl (lv_at hl 0 rfl) ?_
      refine gF_X6_43 (pc := 105) Cx hW (hX 4 _ rfl) rfl dX6_takesPart_105 ?_
      obtain ⟨x2, hc1, hf⟩ := um_bi hf
      refine um_cVi (pc := 108) (As := [.int (σ.1 4 2)]) (rest := []) Cx (c_X6_byteAt (σ.1 4 2) hX hc1) kV_X6_byteAt (Or.inl qM_X6_104) hW hS (hX 4 _ rfl) rfl rfl hl rfl (Nat.le_of_ble_eq_true rfl) (Nat.le_of_ble_eq_true rfl) (Nat.le_of_ble_eq_true rfl) dX6_takesPart_108 (Nat.le_refl _) (Nat.le_refl _) ?_
      clear hW hS hc1
      intro H locs hW hS
      refine lv_istore_n (pc := 111) (lv' := [(1, .int x2), (0, .ref (α 4))]) hx hb dX6_takesPart_111 rfl hl (by decide) rfl ?_
      clear hl
      intro ls hl
      refine lv_iload_n (pc := 112) hx hb dX6_takesPart_112 rfl (lv_at hl 0 rfl) ?_
      refine lv_bipush (pc := 113) (v := (33 : Int32)) hx hb dX6_takesPart_113 (by decide) ?_
      obtain ⟨k3, hk3, hf⟩ := um_j1 hf
      have J3 : ∀ (_u : Unit), k3 _u = some (r, σ') → ∀ (H : Heap) (locs : List Loc) (ls : Array Slot), um_W Z sh α σ H → va_S (um_D sh α) s.heap H locs → lv_has ls 2 [(0, .ref (α 4)), (1, .int x2)] → um_G p l e (4) (96) s m args below meth c Z sh α σ' (some (.int (um_b r))) H locs (F0 m 143 ls []) := by
        intro _u hf H locs ls hW hS hl
        rw [hk3] at hf
        refine lv_iload_n (pc := 143) hx hb dX6_takesPart_143 rfl (lv_at hl 1 rfl) ?_
        refine lv_bipush (pc := 144) (v := (40 : Int32)) hx hb dX6_takesPart_144 (by decide) ?_
        refine lv_icmp_ne (pc := 146) (tgt := 174) hx hb dX6_takesPart_146 (by decide) (fun c1 => ?_) (fun c1 => ?_)
        · have hf := um_ie c1 hf
          clear c1
          refine lv_iconst (pc := 174) (v := (0 : Int32)) hx hb dX6_takesPart_174 (by decide) ?_
          exact um_zret (pc := 175) Cx hW hS hf rfl dX6_takesPart_175
        · have hf := um_it c1 hf
          clear c1
          refine lv_aload_n (pc := 149) hx hb dX6_takesPart_149 rfl (lv_at hl 0 rfl) ?_
          refine gF_X6_98 (pc := 150) Cx hW (hX 4 _ rfl) rfl dX6_takesPart_150 ?_
          refine lv_bipush (pc := 153) (v := (8 : Int32)) hx hb dX6_takesPart_153 (by decide) ?_
          refine lv_icmp_ge (pc := 155) (tgt := 174) hx hb dX6_takesPart_155 (by decide) (fun c1 => ?_) (fun c1 => ?_)
          · have hf := um_it c1 hf
            clear c1
            refine lv_iconst (pc := 174) (v := (0 : Int32)) hx hb dX6_takesPart_174 (by decide) ?_
            exact um_zret (pc := 175) Cx hW hS hf rfl dX6_takesPart_175
          · have hf := um_ie c1 hf
            clear c1
            refine lv_aload_n (pc := 158) hx hb dX6_takesPart_158 rfl (lv_at hl 0 rfl) ?_
            refine lv_dup (pc := 159) hx hb dX6_takesPart_159 rfl ?_
            refine gF_X6_98 (pc := 160) Cx hW (hX 4 _ rfl) rfl dX6_takesPart_160 ?_
            refine lv_iconst (pc := 163) (v := (1 : Int32)) hx hb dX6_takesPart_163 (by decide) ?_
            refine lv_iadd (pc := 164) hx hb dX6_takesPart_164 ?_
            refine gP_X6_98 (pc := 165) Cx hW hS (hX 4 _ rfl) rfl dX6_takesPart_165 ?_
            clear hW hS
            intro H locs hW hS
            obtain ⟨σ4, e5, hf⟩ := um_le hf
            rw [← e5] at hW
            clear e5
            refine lv_aload_n (pc := 168) hx hb dX6_takesPart_168 rfl (lv_at hl 0 rfl) ?_
            refine lv_iload_n (pc := 169) hx hb dX6_takesPart_169 rfl (lv_at hl 1 rfl) ?_
            obtain ⟨x8, σ7, hc6, hf⟩ := um_bi2 hf
            refine um_cVi (pc := 170) (As := [.int x2]) (rest := []) Cx (c_X6_waitsWith x2 hX hc6) kV_X6_waitsWith (Or.inl qM_X6_158) hW hS (hX 4 _ rfl) rfl rfl hl rfl (Nat.le_of_ble_eq_true rfl) (Nat.le_of_ble_eq_true rfl) (Nat.le_of_ble_eq_true rfl) dX6_takesPart_170 (Nat.le_refl _) (Nat.le_refl _) ?_
            clear hW hS hc6
            intro H locs hW hS
            exact um_zret (pc := 173) Cx hW hS hf rfl dX6_takesPart_173
      refine lv_icmp_ne (pc := 115) (tgt := 143) hx hb dX6_takesPart_115 (by decide) (fun c1 => ?_) (fun c1 => ?_)
      · have hf := um_ie c1 hf
        clear c1
        exact J3 () hf _ _ _ hW hS (lv_sub hl [1, 0] rfl)
      · have hf := um_it c1 hf
        clear c1
        refine lv_aload_n (pc := 118) hx hb dX6_takesPart_118 rfl (lv_at hl 1 rfl) ?_
        refine gF_X6_101 (pc := 119) Cx hW (hX 4 _ rfl) rfl dX6_takesPart_119 ?_
        refine lv_bipush (pc := 122) (v := (8 : Int32)) hx hb dX6_takesPart_122 (by decide) ?_
        refine lv_icmp_ge (pc := 124) (tgt := 143) hx hb dX6_takesPart_124 (by decide) (fun c1 => ?_) (fun c1 => ?_)
        · have hf := um_it c1 hf
          clear c1
          exact J3 () hf _ _ _ hW hS (lv_sub hl [1, 0] rfl)
        · have hf := um_ie c1 hf
          clear c1
          refine lv_aload_n (pc := 127) hx hb dX6_takesPart_127 rfl (lv_at hl 1 rfl) ?_
          refine lv_dup (pc := 128) hx hb dX6_takesPart_128 rfl ?_
          refine gF_X6_101 (pc := 129) Cx hW (hX 4 _ rfl) rfl dX6_takesPart_129 ?_
          refine lv_iconst (pc := 132) (v := (1 : Int32)) hx hb dX6_takesPart_132 (by decide) ?_
          refine lv_iadd (pc := 133) hx hb dX6_takesPart_133 ?_
          refine gP_X6_101 (pc := 134) Cx hW hS (hX 4 _ rfl) rfl dX6_takesPart_134 ?_
          clear hW hS
          intro H locs hW hS
          obtain ⟨σ9, e10, hf⟩ := um_le hf
          rw [← e10] at hW
          clear e10
          refine lv_aload_n (pc := 137) hx hb dX6_takesPart_137 rfl (lv_at hl 1 rfl) ?_
          refine lv_iload_n (pc := 138) hx hb dX6_takesPart_138 rfl (lv_at hl 0 rfl) ?_
          obtain ⟨x13, σ12, hc11, hf⟩ := um_bi2 hf
          refine um_cVi (pc := 139) (As := [.int x2]) (rest := []) Cx (c_X6_waitsWith x2 hX hc11) kV_X6_waitsWith (Or.inl qM_X6_158) hW hS (hX 4 _ rfl) rfl rfl hl rfl (Nat.le_of_ble_eq_true rfl) (Nat.le_of_ble_eq_true rfl) (Nat.le_of_ble_eq_true rfl) dX6_takesPart_139 (Nat.le_refl _) (Nat.le_refl _) ?_
          clear hW hS hc11
          intro H locs hW hS
          exact um_zret (pc := 142) Cx hW hS hf rfl dX6_takesPart_142
    · have hf := um_it c1 hf
      clear c1
      refine lv_aload_n (pc := 46) hx hb dX6_takesPart_46 rfl (lv_at hl 0 rfl) ?_
      refine gF_X6_92 (pc := 47) Cx hW (hX 4 _ rfl) rfl dX6_takesPart_47 ?_
      refine lv_aload_n (pc := 50) hx hb dX6_takesPart_50 rfl (lv_at hl 0 rfl) ?_
      refine gF_X6_43 (pc := 51) Cx hW (hX 4 _ rfl) rfl dX6_takesPart_51 ?_
      refine lv_isub (pc := 54) hx hb dX6_takesPart_54 ?_
      refine lv_iconst (pc := 55) (v := (1 : Int32)) hx hb dX6_takesPart_55 (by decide) ?_
      obtain ⟨k14, hk14, hf⟩ := um_j1 hf
      have J14 : ∀ (x15 : Int32), k14 x15 = some (r, σ') → ∀ (H : Heap) (locs : List Loc) (ls : Array Slot), um_W Z sh α σ H → va_S (um_D sh α) s.heap H locs → lv_has ls 2 [(0, .ref (α 4))] → um_G p l e (4) (96) s m args below meth c Z sh α σ' (some (.int (um_b r))) H locs (F0 m 82 ls [.int x15]) := by
        intro x15 hf H locs ls hW hS hl
        rw [hk14] at hf
        refine lv_istore_n (pc := 82) (lv' := [(1, .int x15), (0, .ref (α 4))]) hx hb dX6_takesPart_82 rfl hl (by decide) rfl ?_
        clear hl
        intro ls hl
        refine lv_iload_n (pc := 83) hx hb dX6_takesPart_83 rfl (lv_at hl 0 rfl) ?_
        refine lv_if_lt (pc := 84) (tgt := 101) hx hb dX6_takesPart_84 (by decide) (fun c1 => ?_) (fun c1 => ?_)
        · have hf := um_it c1 hf
          clear c1
          refine lv_iconst (pc := 101) (v := (0 : Int32)) hx hb dX6_takesPart_101 (by decide) ?_
          exact um_zret (pc := 102) Cx hW hS hf rfl dX6_takesPart_102
        · have hf := um_ie c1 hf
          clear c1
          refine lv_aload_n (pc := 87) hx hb dX6_takesPart_87 rfl (lv_at hl 1 rfl) ?_
          refine lv_iconst (pc := 88) (v := (-1 : Int32)) hx hb dX6_takesPart_88 (by decide) ?_
          refine lv_iload_n (pc := 89) hx hb dX6_takesPart_89 rfl (lv_at hl 0 rfl) ?_
          refine lv_isub (pc := 90) hx hb dX6_takesPart_90 ?_
          obtain ⟨x18, σ17, hc16, hf⟩ := um_bi2 hf
          refine um_cVi (pc := 91) (As := [.int ((-1 : Int32) - x15)]) (rest := []) Cx (c_X6_takesValue ((-1 : Int32) - x15) hX hc16) kV_X6_takesValue (Or.inl qM_X6_148) hW hS (hX 4 _ rfl) rfl rfl hl rfl (Nat.le_of_ble_eq_true rfl) (Nat.le_of_ble_eq_true rfl) (Nat.le_of_ble_eq_true rfl) dX6_takesPart_91 (Nat.le_refl _) (Nat.le_refl _) ?_
          clear hW hS hc16
          intro H locs hW hS
          refine lv_if_eq (pc := 94) (tgt := 101) hx hb dX6_takesPart_94 (by decide) (fun c1 => ?_) (fun c1 => ?_)
          · have hf := um_it c1 hf
            clear c1
            refine lv_iconst (pc := 101) (v := (0 : Int32)) hx hb dX6_takesPart_101 (by decide) ?_
            exact um_zret (pc := 102) Cx hW hS hf rfl dX6_takesPart_102
          · have hf := um_ie c1 hf
            clear c1
            refine lv_iconst (pc := 97) (v := (1 : Int32)) hx hb dX6_takesPart_97 (by decide) ?_
            refine lv_goto (pc := 98) (tgt := 102) hx hb dX6_takesPart_98 (by decide) ?_
            exact um_zret (pc := 102) Cx hW hS hf rfl dX6_takesPart_102
      refine lv_icmp_ne (pc := 56) (tgt := 81) hx hb dX6_takesPart_56 (by decide) (fun c1 => ?_) (fun c1 => ?_)
      · have hf := um_ie c1 hf
        clear c1
        refine lv_iconst (pc := 81) (v := (-1 : Int32)) hx hb dX6_takesPart_81 (by decide) ?_
        exact J14 (-1 : Int32) hf _ _ _ hW hS hl
      · have hf := um_it c1 hf
        clear c1
        refine lv_aload_n (pc := 59) hx hb dX6_takesPart_59 rfl (lv_at hl 0 rfl) ?_
        refine gF_X6_40 (pc := 60) Cx hW (hX 4 _ rfl) rfl dX6_takesPart_60 ?_
        obtain ⟨x20, hc19, hf⟩ := um_bi hf
        refine um_cSr (pc := 63) (As := [.int (σ.1 4 11)]) (rest := []) Cx (c_X6_namesOf (σ.1 4 11) hX hc19) kS_X6_namesOf (Or.inl qM_X6_152) hW hS rfl hl rfl (Nat.le_of_ble_eq_true rfl) (Nat.le_of_ble_eq_true rfl) (Nat.le_of_ble_eq_true rfl) dX6_takesPart_63 (Nat.le_refl _) (Nat.le_refl _) ?_
        clear hW hS
        intro H locs hW hS
        have hq20 := f_X6_namesOf_lt hc19
        clear hc19
        refine lv_aload_n (pc := 66) hx hb dX6_takesPart_66 rfl (lv_at hl 0 rfl) ?_
        refine lv_aload_n (pc := 67) hx hb dX6_takesPart_67 rfl (lv_at hl 0 rfl) ?_
        refine gF_X6_43 (pc := 68) Cx hW (hX 4 _ rfl) rfl dX6_takesPart_68 ?_
        obtain ⟨x22, hc21, hf⟩ := um_bi hf
        refine um_cVi (pc := 71) (As := [.int (σ.1 4 2)]) (rest := [.ref (Z.2.2.2.2.1 x20)]) Cx (c_X6_byteAt (σ.1 4 2) hX hc21) kV_X6_byteAt (Or.inl qM_X6_104) hW hS (hX 4 _ rfl) rfl rfl hl rfl (Nat.le_of_ble_eq_true rfl) (Nat.le_of_ble_eq_true rfl) (Nat.le_of_ble_eq_true rfl) dX6_takesPart_71 (Nat.le_refl _) (Nat.le_refl _) ?_
        clear hW hS hc21
        intro H locs hW hS
        refine lv_i2c (pc := 74) hx hb dX6_takesPart_74 rfl ?_
        obtain ⟨x24, hc23, hf⟩ := um_bi hf
        refine um_cTi (pc := 75) (As := [.int ((x22.toUInt32 % 65536).toInt32)]) (rest := []) Cx (c_J0_indexOf_0f7a4 x20 ((x22.toUInt32 % 65536).toInt32) hq20 hX hc23) kV_J0_indexOf_0f7a4 qM_X6_155 hW hS hq20 rfl hl rfl (Nat.le_of_ble_eq_true rfl) (Nat.le_of_ble_eq_true rfl) (Nat.le_of_ble_eq_true rfl) dX6_takesPart_75 (Nat.le_refl _) (Nat.le_refl _) ?_
        clear hW hS hc23
        intro H locs hW hS
        refine lv_goto (pc := 78) (tgt := 82) hx hb dX6_takesPart_78 (by decide) ?_
        exact J14 x24 hf _ _ _ hW hS hl
  · have hf := um_it c1 hf
    clear c1
    refine lv_aload_n (pc := 8) hx hb dX6_takesPart_8 rfl (lv_at hl 0 rfl) ?_
    refine gF_X6_92 (pc := 9) Cx hW (hX 4 _ rfl) rfl dX6_takesPart_9 ?_
    refine lv_aload_n (pc := 12) hx hb dX6_takesPart_12 rfl (lv_at hl 0 rfl) ?_
    refine gF_X6_43 (pc := 13) Cx hW (hX 4 _ rfl) rfl dX6_takesPart_13 ?_
    refine lv_isub (pc := 16) hx hb dX6_takesPart_16 ?_
    refine lv_iconst (pc := 17) (v := (4 : Int32)) hx hb dX6_takesPart_17 (by decide) ?_
    refine lv_icmp_gt (pc := 18) (tgt := 36) hx hb dX6_takesPart_18 (by decide) (fun c1 => ?_) (fun c1 => ?_)
    · have hf := um_it c1 hf
      clear c1
      refine lv_iconst (pc := 36) (v := (0 : Int32)) hx hb dX6_takesPart_36 (by decide) ?_
      exact um_zret (pc := 37) Cx hW hS hf rfl dX6_takesPart_37
    · have hf := um_ie c1 hf
      clear c1
      refine lv_aload_n (pc := 21) hx hb dX6_takesPart_21 rfl (lv_at hl 0 rfl) ?_
      refine lv_aload_n (pc := 22) hx hb dX6_takesPart_22 rfl (lv_at hl 0 rfl) ?_
      obtain ⟨x26, hc25, hf⟩ := um_bi hf
      refine um_cVi (pc := 23) (As := []) (rest := [.ref (α 4)]) Cx (c_X6_numberHere hX hc25) kV_X6_numberHere (Or.inl qM_X6_145) hW hS (hX 4 _ rfl) rfl rfl hl rfl (Nat.le_of_ble_eq_true rfl) (Nat.le_of_ble_eq_true rfl) (Nat.le_of_ble_eq_true rfl) dX6_takesPart_23 (Nat.le_refl _) (Nat.le_refl _) ?_
      clear hW hS hc25
      intro H locs hW hS
      obtain ⟨x29, σ28, hc27, hf⟩ := um_bi2 hf
      refine um_cVi (pc := 26) (As := [.int x26]) (rest := []) Cx (c_X6_takesValue x26 hX hc27) kV_X6_takesValue (Or.inl qM_X6_148) hW hS (hX 4 _ rfl) rfl rfl hl rfl (Nat.le_of_ble_eq_true rfl) (Nat.le_of_ble_eq_true rfl) (Nat.le_of_ble_eq_true rfl) dX6_takesPart_26 (Nat.le_refl _) (Nat.le_refl _) ?_
      clear hW hS hc27
      intro H locs hW hS
      refine lv_if_eq (pc := 29) (tgt := 36) hx hb dX6_takesPart_29 (by decide) (fun c1 => ?_) (fun c1 => ?_)
      · have hf := um_it c1 hf
        clear c1
        refine lv_iconst (pc := 36) (v := (0 : Int32)) hx hb dX6_takesPart_36 (by decide) ?_
        exact um_zret (pc := 37) Cx hW hS hf rfl dX6_takesPart_37
      · have hf := um_ie c1 hf
        clear c1
        refine lv_iconst (pc := 32) (v := (1 : Int32)) hx hb dX6_takesPart_32 (by decide) ?_
        refine lv_goto (pc := 33) (tgt := 37) hx hb dX6_takesPart_33 (by decide) ?_
        exact um_zret (pc := 37) Cx hW hS hf rfl dX6_takesPart_37
theorem c_X6_takesPart {σ : um_S} {σ' : um_S} {r : Bool}  (hX : um_X sh) (hf : f_X6_takesPart σ = some (r, σ')) : um_M l yX6_takesPart cX6_takesPart 2 (some FieldType.boolean) (4) (96) Z sh α σ [.ref (α 4)] (some (.int (um_b r))) σ' :=
  um_start (by decide) (Nat.le_of_ble_eq_true rfl) (fun p e s m below meth c ls Cx hW hS hl => b_X6_takesPart hX hf Cx hW hS hl)
noncomputable def f_X6_faultPlace_l30  : Nat → Int32 → um_S → Option ((Int32 × um_S) ⊕ (um_S))
  | 0, _, _ => none
  | n + 1, v1, σ =>
    if (96 : Int32) < v1 then
    (some (.inr σ))
    else
    ((f_X6_next σ).bind fun σ2 =>
    (if (σ2.1 4 4) = 0 then
    ((f_X6_endsTooSoon σ2).bind fun x10 =>
    (if (um_b x10) = 0 then
    (some (.inl ((-1 : Int32), σ2)))
    else
    (some (.inl (σ2.1 4 2, σ2)))))
    else
    (if (σ2.1 4 5) = 0 then
    (if (σ2.1 4 6) = 0 then
    (um_b2 (f_X6_takesJoin σ2) fun x5 σ4 =>
    (if (um_b x5) = 0 then
    (some (.inl (σ4.1 4 2, σ4)))
    else
    (f_X6_faultPlace_l30 n (v1 + (1 : Int32)) σ4)))
    else
    (um_b2 (f_X6_takesPart σ2) fun x8 σ7 =>
    (if (um_b x8) = 0 then
    (some (.inl (σ7.1 4 2, σ7)))
    else
    (f_X6_faultPlace_l30 n (v1 + (1 : Int32)) σ7))))
    else
    (some (.inl (σ2.1 4 2, σ2))))))
noncomputable def f_X6_faultPlace  (σ : um_S) : Option (Int32 × um_S) :=
    (f_X6_begin σ).bind fun σ2 =>
    ((f_X6_next σ2).bind fun σ4 =>
    ((f_X6_keyHere σ4).bind fun x6 =>
    (um_let (um_wr σ4 4 11 x6) fun σ7 =>
    (if 0 ≤ (σ7.1 4 11) then
    (um_s1 (f_X6_faultPlace_l30 um_N (0 : Int32) σ7) fun σ9 =>
    (some (σ9.1 4 2, σ9)))
    else
    (some (σ7.1 4 2, σ7))))))
set_option maxRecDepth 100000 in
set_option maxHeartbeats 4000000 in
theorem t_X6_faultPlace_l30 {σ' : um_S} {r : Int32} {out : (Int32 × um_S) ⊕ (um_S)}   (hX : um_X sh) (Cx : um_C p s m meth c args cX6_faultPlace 2 (some FieldType.int) RX6 Z) (hR : ∀ a, out = .inl a → some a = some (r, σ')) (hE : ∀ (σo : um_S), out = .inr σo → ∀ (H : Heap) (locs : List Loc) (ls : Array Slot), um_W Z sh α σo H → va_S (um_D sh α) s.heap H locs → lv_has ls 2 [(0, .ref (α 4))] → um_G p l e (6) (128) s m args below meth c Z sh α σ' (some (.int r)) H locs (F0 m 105 ls [])) : ∀ (n : Nat) (v1 : Int32) (σ : um_S) (H : Heap) (locs : List Loc) (ls : Array Slot), f_X6_faultPlace_l30 n v1 σ = some out → um_W Z sh α σ H → va_S (um_D sh α) s.heap H locs → lv_has ls 2 [(0, .ref (α 4)), (1, .int v1)] → um_G p l e (6) (128) s m args below meth c Z sh α σ' (some (.int r)) H locs (F0 m 30 ls []) := by
  have hx := Cx.1
  have hb := Cx.2.1
  have hown := Cx.2.2.2.2.1
  have hts := Cx.2.2.2.2.2.1
  intro n
  induction n with
  | zero =>
    intro v1 σ H locs ls hf hW hS hl
    cases hf
  | succ n ih =>
    intro v1 σ H locs ls hf hW hS hl
    rw [f_X6_faultPlace_l30] at hf
    refine lv_iload_n (pc := 30) hx hb dX6_faultPlace_30 rfl (lv_at hl 1 rfl) ?_
    refine lv_bipush (pc := 31) (v := (96 : Int32)) hx hb dX6_faultPlace_31 (by decide) ?_
    refine lv_icmp_gt (pc := 33) (tgt := 105) hx hb dX6_faultPlace_33 (by decide) (fun c1 => ?_) (fun c1 => ?_)
    · have hf := um_it c1 hf
      clear c1
      exact hE _ (Option.some.inj hf).symm _ _ _ hW hS (lv_sub hl [0] rfl)
    · have hf := um_ie c1 hf
      clear c1
      refine lv_aload_n (pc := 36) hx hb dX6_faultPlace_36 rfl (lv_at hl 0 rfl) ?_
      obtain ⟨σ2, hc1, hf⟩ := um_bi hf
      refine um_cVv (pc := 37) (As := []) (rest := []) Cx (c_X6_next hX hc1) kV_X6_next (Or.inl qM_X6_33) hW hS (hX 4 _ rfl) rfl rfl hl rfl (Nat.le_of_ble_eq_true rfl) (Nat.le_of_ble_eq_true rfl) (Nat.le_of_ble_eq_true rfl) dX6_faultPlace_37 (Nat.le_refl _) (Nat.le_refl _) ?_
      clear hW hS hc1
      intro H locs hW hS
      refine lv_aload_n (pc := 40) hx hb dX6_faultPlace_40 rfl (lv_at hl 0 rfl) ?_
      refine gF_X6_46 (pc := 41) Cx hW (hX 4 _ rfl) rfl dX6_faultPlace_41 ?_
      refine lv_if_ne (pc := 44) (tgt := 63) hx hb dX6_faultPlace_44 (by decide) (fun c1 => ?_) (fun c1 => ?_)
      · have hf := um_ie c1 hf
        clear c1
        refine lv_aload_n (pc := 63) hx hb dX6_faultPlace_63 rfl (lv_at hl 0 rfl) ?_
        refine gF_X6_53 (pc := 64) Cx hW (hX 4 _ rfl) rfl dX6_faultPlace_64 ?_
        refine lv_if_ne (pc := 67) (tgt := 94) hx hb dX6_faultPlace_67 (by decide) (fun c1 => ?_) (fun c1 => ?_)
        · have hf := um_ie c1 hf
          clear c1
          refine lv_aload_n (pc := 94) hx hb dX6_faultPlace_94 rfl (lv_at hl 0 rfl) ?_
          refine gF_X6_43 (pc := 95) Cx hW (hX 4 _ rfl) rfl dX6_faultPlace_95 ?_
          exact um_iret (pc := 98) Cx hW hS (hR _ (Option.some.inj hf).symm) dX6_faultPlace_98
        · have hf := um_it c1 hf
          clear c1
          refine lv_aload_n (pc := 70) hx hb dX6_faultPlace_70 rfl (lv_at hl 0 rfl) ?_
          refine gF_X6_57 (pc := 71) Cx hW (hX 4 _ rfl) rfl dX6_faultPlace_71 ?_
          refine lv_if_eq (pc := 74) (tgt := 87) hx hb dX6_faultPlace_74 (by decide) (fun c1 => ?_) (fun c1 => ?_)
          · have hf := um_it c1 hf
            clear c1
            refine lv_aload_n (pc := 87) hx hb dX6_faultPlace_87 rfl (lv_at hl 0 rfl) ?_
            obtain ⟨x5, σ4, hc3, hf⟩ := um_bi2 hf
            refine um_cVi (pc := 88) (As := []) (rest := []) Cx (c_X6_takesJoin hX hc3) kV_X6_takesJoin (Or.inl qM_X6_63) hW hS (hX 4 _ rfl) rfl rfl hl rfl (Nat.le_of_ble_eq_true rfl) (Nat.le_of_ble_eq_true rfl) (Nat.le_of_ble_eq_true rfl) dX6_faultPlace_88 (Nat.le_refl _) (Nat.le_refl _) ?_
            clear hW hS hc3
            intro H locs hW hS
            refine lv_if_ne (pc := 91) (tgt := 99) hx hb dX6_faultPlace_91 (by decide) (fun c1 => ?_) (fun c1 => ?_)
            · have hf := um_ie c1 hf
              clear c1
              refine lv_iinc (pc := 99) (v := v1 + (1 : Int32)) (lv' := [(1, .int (v1 + (1 : Int32))), (0, .ref (α 4))]) hx hb dX6_faultPlace_99 hl (k := 1) rfl rfl (by decide) rfl ?_
              clear hl
              intro ls hl
              refine lv_goto (pc := 102) (tgt := 30) hx hb dX6_faultPlace_102 (by decide) ?_
              exact ih _ _ _ _ _ hf hW hS (lv_sub hl [1, 0] rfl)
            · have hf := um_it c1 hf
              clear c1
              refine lv_aload_n (pc := 94) hx hb dX6_faultPlace_94 rfl (lv_at hl 0 rfl) ?_
              refine gF_X6_43 (pc := 95) Cx hW (hX 4 _ rfl) rfl dX6_faultPlace_95 ?_
              exact um_iret (pc := 98) Cx hW hS (hR _ (Option.some.inj hf).symm) dX6_faultPlace_98
          · have hf := um_ie c1 hf
            clear c1
            refine lv_aload_n (pc := 77) hx hb dX6_faultPlace_77 rfl (lv_at hl 0 rfl) ?_
            obtain ⟨x8, σ7, hc6, hf⟩ := um_bi2 hf
            refine um_cVi (pc := 78) (As := []) (rest := []) Cx (c_X6_takesPart hX hc6) kV_X6_takesPart (Or.inl qM_X6_60) hW hS (hX 4 _ rfl) rfl rfl hl rfl (Nat.le_of_ble_eq_true rfl) (Nat.le_of_ble_eq_true rfl) (Nat.le_of_ble_eq_true rfl) dX6_faultPlace_78 (Nat.le_refl _) (Nat.le_refl _) ?_
            clear hW hS hc6
            intro H locs hW hS
            refine lv_if_eq (pc := 81) (tgt := 94) hx hb dX6_faultPlace_81 (by decide) (fun c1 => ?_) (fun c1 => ?_)
            · have hf := um_it c1 hf
              clear c1
              refine lv_aload_n (pc := 94) hx hb dX6_faultPlace_94 rfl (lv_at hl 0 rfl) ?_
              refine gF_X6_43 (pc := 95) Cx hW (hX 4 _ rfl) rfl dX6_faultPlace_95 ?_
              exact um_iret (pc := 98) Cx hW hS (hR _ (Option.some.inj hf).symm) dX6_faultPlace_98
            · have hf := um_ie c1 hf
              clear c1
              refine lv_goto (pc := 84) (tgt := 99) hx hb dX6_faultPlace_84 (by decide) ?_
              refine lv_iinc (pc := 99) (v := v1 + (1 : Int32)) (lv' := [(1, .int (v1 + (1 : Int32))), (0, .ref (α 4))]) hx hb dX6_faultPlace_99 hl (k := 1) rfl rfl (by decide) rfl ?_
              clear hl
              intro ls hl
              refine lv_goto (pc := 102) (tgt := 30) hx hb dX6_faultPlace_102 (by decide) ?_
              exact ih _ _ _ _ _ hf hW hS (lv_sub hl [1, 0] rfl)
      · have hf := um_it c1 hf
        clear c1
        refine lv_aload_n (pc := 47) hx hb dX6_faultPlace_47 rfl (lv_at hl 0 rfl) ?_
        obtain ⟨x10, hc9, hf⟩ := um_bi hf
        refine um_cVi (pc := 48) (As := []) (rest := []) Cx (c_X6_endsTooSoon hX hc9) kV_X6_endsTooSoon (Or.inl qM_X6_49) hW hS (hX 4 _ rfl) rfl rfl hl rfl (Nat.le_of_ble_eq_true rfl) (Nat.le_of_ble_eq_true rfl) (Nat.le_of_ble_eq_true rfl) dX6_faultPlace_48 (Nat.le_refl _) (Nat.le_refl _) ?_
        clear hW hS hc9
        intro H locs hW hS
        refine lv_if_eq (pc := 51) (tgt := 61) hx hb dX6_faultPlace_51 (by decide) (fun c1 => ?_) (fun c1 => ?_)
        · have hf := um_it c1 hf
          clear c1
          refine lv_iconst (pc := 61) (v := (-1 : Int32)) hx hb dX6_faultPlace_61 (by decide) ?_
          exact um_iret (pc := 62) Cx hW hS (hR _ (Option.some.inj hf).symm) dX6_faultPlace_62
        · have hf := um_ie c1 hf
          clear c1
          refine lv_aload_n (pc := 54) hx hb dX6_faultPlace_54 rfl (lv_at hl 0 rfl) ?_
          refine gF_X6_43 (pc := 55) Cx hW (hX 4 _ rfl) rfl dX6_faultPlace_55 ?_
          refine lv_goto (pc := 58) (tgt := 62) hx hb dX6_faultPlace_58 (by decide) ?_
          exact um_iret (pc := 62) Cx hW hS (hR _ (Option.some.inj hf).symm) dX6_faultPlace_62
set_option maxRecDepth 100000 in
set_option maxHeartbeats 4000000 in
theorem b_X6_faultPlace {H : Heap} {locs : List Loc} {ls : Array Slot} {σ : um_S} {σ' : um_S} {r : Int32}  (hX : um_X sh) (hf : f_X6_faultPlace σ = some (r, σ')) (Cx : um_C p s m meth c args cX6_faultPlace 2 (some FieldType.int) RX6 Z) (hW : um_W Z sh α σ H) (hS : va_S (um_D sh α) s.heap H locs) (hl : lv_has ls 2 [(0, .ref (α 4))]) : um_G p l e (6) (128) s m args below meth c Z sh α σ' (some (.int r)) H locs (F0 m 0 ls []) := by
  have hx := Cx.1
  have hb := Cx.2.1
  have hown := Cx.2.2.2.2.1
  have hts := Cx.2.2.2.2.2.1
  rw [f_X6_faultPlace] at hf
  refine lv_aload_n (pc := 0) hx hb dX6_faultPlace_0 rfl (lv_at hl 0 rfl) ?_
  obtain ⟨σ2, hc1, hf⟩ := um_bi hf
  refine um_cVv (pc := 1) (As := []) (rest := []) Cx (c_X6_begin hX hc1) kV_X6_begin (Or.inl qM_X6_30) hW hS (hX 4 _ rfl) rfl rfl hl rfl (Nat.le_of_ble_eq_true rfl) (Nat.le_of_ble_eq_true rfl) (Nat.le_of_ble_eq_true rfl) dX6_faultPlace_1 (Nat.le_refl _) (Nat.le_refl _) ?_
  clear hW hS hc1
  intro H locs hW hS
  refine lv_aload_n (pc := 4) hx hb dX6_faultPlace_4 rfl (lv_at hl 0 rfl) ?_
  obtain ⟨σ4, hc3, hf⟩ := um_bi hf
  refine um_cVv (pc := 5) (As := []) (rest := []) Cx (c_X6_next hX hc3) kV_X6_next (Or.inl qM_X6_33) hW hS (hX 4 _ rfl) rfl rfl hl rfl (Nat.le_of_ble_eq_true rfl) (Nat.le_of_ble_eq_true rfl) (Nat.le_of_ble_eq_true rfl) dX6_faultPlace_5 (Nat.le_refl _) (Nat.le_refl _) ?_
  clear hW hS hc3
  intro H locs hW hS
  refine lv_aload_n (pc := 8) hx hb dX6_faultPlace_8 rfl (lv_at hl 0 rfl) ?_
  refine lv_aload_n (pc := 9) hx hb dX6_faultPlace_9 rfl (lv_at hl 0 rfl) ?_
  obtain ⟨x6, hc5, hf⟩ := um_bi hf
  refine um_cVi (pc := 10) (As := []) (rest := [.ref (α 4)]) Cx (c_X6_keyHere hX hc5) kV_X6_keyHere (Or.inl qM_X6_36) hW hS (hX 4 _ rfl) rfl rfl hl rfl (Nat.le_of_ble_eq_true rfl) (Nat.le_of_ble_eq_true rfl) (Nat.le_of_ble_eq_true rfl) dX6_faultPlace_10 (Nat.le_refl _) (Nat.le_refl _) ?_
  clear hW hS hc5
  intro H locs hW hS
  refine gP_X6_40 (pc := 13) Cx hW hS (hX 4 _ rfl) rfl dX6_faultPlace_13 ?_
  clear hW hS
  intro H locs hW hS
  obtain ⟨σ7, e8, hf⟩ := um_le hf
  rw [← e8] at hW
  clear e8
  refine lv_aload_n (pc := 16) hx hb dX6_faultPlace_16 rfl (lv_at hl 0 rfl) ?_
  refine gF_X6_40 (pc := 17) Cx hW (hX 4 _ rfl) rfl dX6_faultPlace_17 ?_
  refine lv_if_ge (pc := 20) (tgt := 28) hx hb dX6_faultPlace_20 (by decide) (fun c1 => ?_) (fun c1 => ?_)
  · have hf := um_it c1 hf
    clear c1
    refine lv_iconst (pc := 28) (v := (0 : Int32)) hx hb dX6_faultPlace_28 (by decide) ?_
    refine lv_istore_n (pc := 29) (lv' := [(1, .int (0 : Int32)), (0, .ref (α 4))]) hx hb dX6_faultPlace_29 rfl hl (by decide) rfl ?_
    clear hl
    intro ls hl
    obtain ⟨q11, hc10, hr12, hg13⟩ := um_si1 hf
    refine t_X6_faultPlace_l30 hX Cx hr12 ?_ um_N _ _ _ _ _ hc10 hW hS (lv_sub hl [1, 0] rfl)
    clear hW hS hl hc10
    intro σ9 hq14 H locs ls hW hS hl
    have hf := hg13 _ hq14
    refine lv_aload_n (pc := 105) hx hb dX6_faultPlace_105 rfl (lv_at hl 0 rfl) ?_
    refine gF_X6_43 (pc := 106) Cx hW (hX 4 _ rfl) rfl dX6_faultPlace_106 ?_
    exact um_iret (pc := 109) Cx hW hS hf dX6_faultPlace_109
  · have hf := um_ie c1 hf
    clear c1
    refine lv_aload_n (pc := 23) hx hb dX6_faultPlace_23 rfl (lv_at hl 0 rfl) ?_
    refine gF_X6_43 (pc := 24) Cx hW (hX 4 _ rfl) rfl dX6_faultPlace_24 ?_
    exact um_iret (pc := 27) Cx hW hS hf dX6_faultPlace_27
theorem c_X6_faultPlace {σ : um_S} {σ' : um_S} {r : Int32}  (hX : um_X sh) (hf : f_X6_faultPlace σ = some (r, σ')) : um_M l yX6_faultPlace cX6_faultPlace 2 (some FieldType.int) (6) (128) Z sh α σ [.ref (α 4)] (some (.int r)) σ' :=
  um_start (by decide) (Nat.le_of_ble_eq_true rfl) (fun p e s m below meth c ls Cx hW hS hl => b_X6_faultPlace hX hf Cx hW hS hl)
noncomputable def f_X8_again  (σ : um_S) : Option (Int32 × um_S) :=
    if (σ.1 0 3) = 0 then
    (some ((-1000000002 : Int32), σ))
    else
    ((f_X4_becomeAs 1 2 σ).bind fun σ2 =>
    (some (σ2.1 1 12, σ2)))
set_option maxRecDepth 100000 in
set_option maxHeartbeats 4000000 in
theorem b_X8_again {H : Heap} {locs : List Loc} {ls : Array Slot} {σ : um_S} {σ' : um_S} {r : Int32}  (hX : um_X sh) (hf : f_X8_again σ = some (r, σ')) (Cx : um_C p s m meth c args cX8_again 1 (some FieldType.int) RX8 Z) (hW : um_W Z sh α σ H) (hS : va_S (um_D sh α) s.heap H locs) (hl : lv_has ls 1 [(0, .ref (α 0))]) : um_G p l e (3) (102) s m args below meth c Z sh α σ' (some (.int r)) H locs (F0 m 0 ls []) := by
  have hx := Cx.1
  have hb := Cx.2.1
  have hown := Cx.2.2.2.2.1
  have hts := Cx.2.2.2.2.2.1
  rw [f_X8_again] at hf
  refine lv_aload_n (pc := 0) hx hb dX8_again_0 rfl (lv_at hl 0 rfl) ?_
  refine gF_X8_300 (pc := 1) Cx hW (hX 0 _ rfl) rfl dX8_again_1 ?_
  refine lv_if_ne (pc := 4) (tgt := 10) hx hb dX8_again_4 (by decide) (fun c1 => ?_) (fun c1 => ?_)
  · have hf := um_ie c1 hf
    clear c1
    refine lv_aload_n (pc := 10) hx hb dX8_again_10 rfl (lv_at hl 0 rfl) ?_
    refine gF_X8_10 (pc := 11) Cx hW (hX 0 _ rfl) rfl dX8_again_11 ?_
    refine lv_aload_n (pc := 14) hx hb dX8_again_14 rfl (lv_at hl 0 rfl) ?_
    refine gF_X8_16 (pc := 15) Cx hW (hX 0 _ rfl) rfl dX8_again_15 ?_
    obtain ⟨σ2, hc1, hf⟩ := um_bi hf
    refine um_cVv (pc := 18) (As := [.ref (α 2)]) (rest := []) Cx (c_X4_becomeAs 1 2 (Or.inl rfl) (Or.inr (Or.inl rfl)) hX hc1) kV_X4_becomeAs (Or.inl qM_X8_304) hW hS (xs_shore hX (Or.inl rfl)) rfl rfl hl rfl (Nat.le_of_ble_eq_true rfl) (Nat.le_of_ble_eq_true rfl) (Nat.le_of_ble_eq_true rfl) dX8_again_18 (Nat.le_refl _) (Nat.le_refl _) ?_
    clear hW hS hc1
    intro H locs hW hS
    refine lv_aload_n (pc := 21) hx hb dX8_again_21 rfl (lv_at hl 0 rfl) ?_
    refine gF_X8_10 (pc := 22) Cx hW (hX 0 _ rfl) rfl dX8_again_22 ?_
    refine gF_X8_51 (pc := 25) Cx hW (xs_shore hX (Or.inl rfl)) rfl dX8_again_25 ?_
    exact um_iret (pc := 28) Cx hW hS hf dX8_again_28
  · have hf := um_it c1 hf
    clear c1
    refine lv_ldc (pc := 7) hx hb hown (hts _ qC_X8_88) dX8_again_7 ?_
    exact um_iret (pc := 9) Cx hW hS hf dX8_again_9
theorem c_X8_again {σ : um_S} {σ' : um_S} {r : Int32}  (hX : um_X sh) (hf : f_X8_again σ = some (r, σ')) : um_M l yX8_again cX8_again 1 (some FieldType.int) (3) (102) Z sh α σ [.ref (α 0)] (some (.int r)) σ' :=
  um_start (by decide) (Nat.le_of_ble_eq_true rfl) (fun p e s m below meth c ls Cx hW hS hl => b_X8_again hX hf Cx hW hS hl)
noncomputable def f_X8_isUnder_l4 (v1 : Int32) (σ : um_S) : Nat → Int32 → Int32 → Option ((Bool) ⊕ (Unit))
  | 0, _, _ => none
  | n + 1, v2, v3 =>
    if (8 : Int32) ≤ v3 then
    (some (.inr ()))
    else
    (if v2 = v1 then
    (some (.inl true))
    else
    (if v2 < 0 then
    (some (.inl false))
    else
    (if v2 < (8 : Int32) then
    (if um_ix v2 8 then
    (um_let (um_ka.getD v2.toNatClampNeg 0) fun x2 =>
    (f_X8_isUnder_l4 v1 σ n x2 (v3 + (1 : Int32)))) else none)
    else
    (some (.inl false)))))
noncomputable def f_X8_isUnder (a0 : Int32) (a1 : Int32) (σ : um_S) : Option (Bool) :=
    um_s0 (f_X8_isUnder_l4 a1 σ um_N a0 (0 : Int32)) 
    (some false)
set_option maxRecDepth 100000 in
set_option maxHeartbeats 4000000 in
theorem t_X8_isUnder_l4 {r : Bool} {out : (Bool) ⊕ (Unit)}  {σ : um_S} (v1 : Int32) (hX : um_X sh) (Cx : um_C p s m meth c args cX8_isUnder 4 (some FieldType.boolean) RX8 Z) (hR : ∀ a, out = .inl a → some a = some r) (hE : out = .inr () → ∀ (H : Heap) (locs : List Loc) (ls : Array Slot), um_W Z sh α σ H → va_S (um_D sh α) s.heap H locs → lv_has ls 4 [] → um_G p l e (0) (0) s m args below meth c Z sh α σ (some (.int (um_b r))) H locs (F0 m 45 ls [])) : ∀ (n : Nat) (v2 : Int32) (v3 : Int32) (H : Heap) (locs : List Loc) (ls : Array Slot), f_X8_isUnder_l4 v1 σ n v2 v3 = some out → um_W Z sh α σ H → va_S (um_D sh α) s.heap H locs → lv_has ls 4 [(1, .int v1), (2, .int v2), (3, .int v3)] → um_G p l e (0) (0) s m args below meth c Z sh α σ (some (.int (um_b r))) H locs (F0 m 4 ls []) := by
  have hx := Cx.1
  have hb := Cx.2.1
  have hown := Cx.2.2.2.2.1
  have hts := Cx.2.2.2.2.2.1
  intro n
  induction n with
  | zero =>
    intro v2 v3 H locs ls hf hW hS hl
    cases hf
  | succ n ih =>
    intro v2 v3 H locs ls hf hW hS hl
    rw [f_X8_isUnder_l4] at hf
    refine lv_iload_n (pc := 4) hx hb dX8_isUnder_4 rfl (lv_at hl 2 rfl) ?_
    refine um_gka (pc := 5) Cx hW hS (hts _ qF_X8_334) dX8_isUnder_5 ?_
    refine um_kalen (pc := 8) Cx hW hS dX8_isUnder_8 ?_
    refine lv_icmp_ge (pc := 9) (tgt := 45) hx hb dX8_isUnder_9 (by decide) (fun c1 => ?_) (fun c1 => ?_)
    · have hf := um_it c1 hf
      clear c1
      exact hE (Option.some.inj hf).symm _ _ _ hW hS (lv_sub hl [] rfl)
    · have hf := um_ie c1 hf
      clear c1
      refine lv_iload_n (pc := 12) hx hb dX8_isUnder_12 rfl (lv_at hl 1 rfl) ?_
      refine lv_iload_n (pc := 13) hx hb dX8_isUnder_13 rfl (lv_at hl 0 rfl) ?_
      refine lv_icmp_ne (pc := 14) (tgt := 19) hx hb dX8_isUnder_14 (by decide) (fun c1 => ?_) (fun c1 => ?_)
      · have hf := um_ie c1 hf
        clear c1
        refine lv_iload_n (pc := 19) hx hb dX8_isUnder_19 rfl (lv_at hl 1 rfl) ?_
        refine lv_if_lt (pc := 20) (tgt := 31) hx hb dX8_isUnder_20 (by decide) (fun c1 => ?_) (fun c1 => ?_)
        · have hf := um_it c1 hf
          clear c1
          refine lv_iconst (pc := 31) (v := (0 : Int32)) hx hb dX8_isUnder_31 (by decide) ?_
          exact um_zretR (pc := 32) Cx hW hS (hR _ (Option.some.inj hf).symm) rfl dX8_isUnder_32
        · have hf := um_ie c1 hf
          clear c1
          refine lv_iload_n (pc := 23) hx hb dX8_isUnder_23 rfl (lv_at hl 1 rfl) ?_
          refine um_gka (pc := 24) Cx hW hS (hts _ qF_X8_334) dX8_isUnder_24 ?_
          refine um_kalen (pc := 27) Cx hW hS dX8_isUnder_27 ?_
          refine lv_icmp_lt (pc := 28) (tgt := 33) hx hb dX8_isUnder_28 (by decide) (fun c1 => ?_) (fun c1 => ?_)
          · have hf := um_it c1 hf
            clear c1
            refine um_gka (pc := 33) Cx hW hS (hts _ qF_X8_334) dX8_isUnder_33 ?_
            refine lv_iload_n (pc := 36) hx hb dX8_isUnder_36 rfl (lv_at hl 1 rfl) ?_
            obtain ⟨g1, hf⟩ := um_gu hf
            refine um_kald (pc := 37) Cx hW hS g1 dX8_isUnder_37 ?_
            obtain ⟨x2, e3, hf⟩ := um_le hf
            refine um_top e3 ?_
            clear e3
            refine lv_istore_n (pc := 38) (lv' := [(2, .int x2), (1, .int v1), (3, .int v3)]) hx hb dX8_isUnder_38 rfl hl (by decide) rfl ?_
            clear hl
            intro ls hl
            refine lv_iinc (pc := 39) (v := v3 + (1 : Int32)) (lv' := [(3, .int (v3 + (1 : Int32))), (2, .int x2), (1, .int v1)]) hx hb dX8_isUnder_39 hl (k := 2) rfl rfl (by decide) rfl ?_
            clear hl
            intro ls hl
            refine lv_goto (pc := 42) (tgt := 4) hx hb dX8_isUnder_42 (by decide) ?_
            exact ih _ _ _ _ _ hf hW hS (lv_sub hl [2, 1, 0] rfl)
          · have hf := um_ie c1 hf
            clear c1
            refine lv_iconst (pc := 31) (v := (0 : Int32)) hx hb dX8_isUnder_31 (by decide) ?_
            exact um_zretR (pc := 32) Cx hW hS (hR _ (Option.some.inj hf).symm) rfl dX8_isUnder_32
      · have hf := um_it c1 hf
        clear c1
        refine lv_iconst (pc := 17) (v := (1 : Int32)) hx hb dX8_isUnder_17 (by decide) ?_
        exact um_zretR (pc := 18) Cx hW hS (hR _ (Option.some.inj hf).symm) rfl dX8_isUnder_18
set_option maxRecDepth 100000 in
set_option maxHeartbeats 4000000 in
theorem b_X8_isUnder {H : Heap} {locs : List Loc} {ls : Array Slot} {σ : um_S} {r : Bool} (a0 : Int32) (a1 : Int32) (hX : um_X sh) (hf : f_X8_isUnder a0 a1 σ = some r) (Cx : um_C p s m meth c args cX8_isUnder 4 (some FieldType.boolean) RX8 Z) (hW : um_W Z sh α σ H) (hS : va_S (um_D sh α) s.heap H locs) (hl : lv_has ls 4 [(0, .int a0), (1, .int a1)]) : um_G p l e (0) (0) s m args below meth c Z sh α σ (some (.int (um_b r))) H locs (F0 m 0 ls []) := by
  have hx := Cx.1
  have hb := Cx.2.1
  have hown := Cx.2.2.2.2.1
  have hts := Cx.2.2.2.2.2.1
  rw [f_X8_isUnder] at hf
  refine lv_iload_n (pc := 0) hx hb dX8_isUnder_0 rfl (lv_at hl 0 rfl) ?_
  refine lv_istore_n (pc := 1) (lv' := [(2, .int a0), (0, .int a0), (1, .int a1)]) hx hb dX8_isUnder_1 rfl hl (by decide) rfl ?_
  clear hl
  intro ls hl
  refine lv_iconst (pc := 2) (v := (0 : Int32)) hx hb dX8_isUnder_2 (by decide) ?_
  refine lv_istore_n (pc := 3) (lv' := [(3, .int (0 : Int32)), (2, .int a0), (0, .int a0), (1, .int a1)]) hx hb dX8_isUnder_3 rfl hl (by decide) rfl ?_
  clear hl
  intro ls hl
  obtain ⟨q2, hc1, hr3, hg4⟩ := um_si0 hf
  refine t_X8_isUnder_l4 a1 hX Cx hr3 ?_ um_N _ _ _ _ _ hc1 hW hS (lv_sub hl [3, 1, 0] rfl)
  clear hW hS hl hc1
  intro  hq5 H locs ls hW hS hl
  have hf := hg4 hq5
  refine lv_iconst (pc := 45) (v := (0 : Int32)) hx hb dX8_isUnder_45 (by decide) ?_
  exact um_zretR (pc := 46) Cx hW hS hf rfl dX8_isUnder_46
theorem c_X8_isUnder {σ : um_S} {r : Bool} (a0 : Int32) (a1 : Int32) (hX : um_X sh) (hf : f_X8_isUnder a0 a1 σ = some r) : um_M l yX8_isUnder cX8_isUnder 4 (some FieldType.boolean) (0) (0) Z sh α σ [.int a0, .int a1] (some (.int (um_b r))) σ :=
  um_start (by decide) (Nat.le_of_ble_eq_true rfl) (fun p e s m below meth c ls Cx hW hS hl => b_X8_isUnder a0 a1 hX hf Cx hW hS hl)
noncomputable def f_X8_as (a1 : Int32) (a2 : Int32) (σ : um_S) : Option (Int32) :=
    (f_X5_holds (20 * 1 + 1) a1 σ).bind fun x2 =>
    (if (um_b x2) = 0 then
    (some (-1000000001 : Int32))
    else
    ((f_X8_within a2 (0 : Int32) (7 : Int32) σ).bind fun x4 =>
    (if (um_b x4) = 0 then
    (some (-1000000001 : Int32))
    else
    ((f_X5_get (20 * 1 + 1) a1 (5 : Int32) σ).bind fun x6 =>
    ((f_X8_isUnder x6 a2 σ).bind fun x8 =>
    (if (um_b x8) = 0 then
    (some (-1000000012 : Int32))
    else
    ((f_X5_get (20 * 1 + 1) a1 (6 : Int32) σ).bind fun x10 =>
    (some x10))))))))
set_option maxRecDepth 100000 in
set_option maxHeartbeats 4000000 in
theorem b_X8_as {H : Heap} {locs : List Loc} {ls : Array Slot} {σ : um_S} {r : Int32} (a1 : Int32) (a2 : Int32) (hX : um_X sh) (hf : f_X8_as a1 a2 σ = some r) (Cx : um_C p s m meth c args cX8_as 3 (some FieldType.int) RX8 Z) (hW : um_W Z sh α σ H) (hS : va_S (um_D sh α) s.heap H locs) (hl : lv_has ls 3 [(0, .ref (α 0)), (1, .int a1), (2, .int a2)]) : um_G p l e (1) (24) s m args below meth c Z sh α σ (some (.int r)) H locs (F0 m 0 ls []) := by
  have hx := Cx.1
  have hb := Cx.2.1
  have hown := Cx.2.2.2.2.1
  have hts := Cx.2.2.2.2.2.1
  rw [f_X8_as] at hf
  refine lv_aload_n (pc := 0) hx hb dX8_as_0 rfl (lv_at hl 0 rfl) ?_
  refine gF_X8_10 (pc := 1) Cx hW (hX 0 _ rfl) rfl dX8_as_1 ?_
  refine gF_X8_77 (pc := 4) Cx hW (xs_shore hX (Or.inl rfl)) rfl dX8_as_4 ?_
  refine lv_iload_n (pc := 7) hx hb dX8_as_7 rfl (lv_at hl 1 rfl) ?_
  obtain ⟨x2, hc1, hf⟩ := um_bi hf
  refine um_cVi (pc := 8) (As := [.int a1]) (rest := []) Cx (c_X5_holds (20 * 1 + 1) a1 (xs_ht (Or.inl rfl) 1 rfl) hX hc1) kV_X5_holds (Or.inl qM_X8_70) hW hS (xs_tab hX (xs_ht (Or.inl rfl) 1 rfl)) rfl rfl hl rfl (Nat.le_of_ble_eq_true rfl) (Nat.le_of_ble_eq_true rfl) (Nat.le_of_ble_eq_true rfl) dX8_as_8 (Nat.le_refl _) (Nat.le_refl _) ?_
  clear hW hS hc1
  intro H locs hW hS
  refine lv_if_eq (pc := 11) (tgt := 24) hx hb dX8_as_11 (by decide) (fun c1 => ?_) (fun c1 => ?_)
  · have hf := um_it c1 hf
    clear c1
    refine lv_ldc (pc := 24) hx hb hown (hts _ qC_X8_59) dX8_as_24 ?_
    exact um_iretR (pc := 26) Cx hW hS hf dX8_as_26
  · have hf := um_ie c1 hf
    clear c1
    refine lv_iload_n (pc := 14) hx hb dX8_as_14 rfl (lv_at hl 2 rfl) ?_
    refine lv_iconst (pc := 15) (v := (0 : Int32)) hx hb dX8_as_15 (by decide) ?_
    refine lv_bipush (pc := 16) (v := (7 : Int32)) hx hb dX8_as_16 (by decide) ?_
    obtain ⟨x4, hc3, hf⟩ := um_bi hf
    refine um_cSi (pc := 18) (As := [.int a2, .int (0 : Int32), .int (7 : Int32)]) (rest := []) Cx (c_X8_within a2 (0 : Int32) (7 : Int32) hX hc3) kS_X8_within (Or.inl qM_X8_55) hW hS rfl hl rfl (Nat.le_of_ble_eq_true rfl) (Nat.le_of_ble_eq_true rfl) (Nat.le_of_ble_eq_true rfl) dX8_as_18 (Nat.le_refl _) (Nat.le_refl _) ?_
    clear hW hS hc3
    intro H locs hW hS
    refine lv_if_ne (pc := 21) (tgt := 27) hx hb dX8_as_21 (by decide) (fun c1 => ?_) (fun c1 => ?_)
    · have hf := um_ie c1 hf
      clear c1
      refine lv_aload_n (pc := 27) hx hb dX8_as_27 rfl (lv_at hl 0 rfl) ?_
      refine gF_X8_10 (pc := 28) Cx hW (hX 0 _ rfl) rfl dX8_as_28 ?_
      refine gF_X8_77 (pc := 31) Cx hW (xs_shore hX (Or.inl rfl)) rfl dX8_as_31 ?_
      refine lv_iload_n (pc := 34) hx hb dX8_as_34 rfl (lv_at hl 1 rfl) ?_
      refine lv_iconst (pc := 35) (v := (5 : Int32)) hx hb dX8_as_35 (by decide) ?_
      obtain ⟨x6, hc5, hf⟩ := um_bi hf
      refine um_cVi (pc := 36) (As := [.int a1, .int (5 : Int32)]) (rest := []) Cx (c_X5_get (20 * 1 + 1) a1 (5 : Int32) (xs_ht (Or.inl rfl) 1 rfl) hX hc5) kV_X5_get (Or.inl qM_X8_73) hW hS (xs_tab hX (xs_ht (Or.inl rfl) 1 rfl)) rfl rfl hl rfl (Nat.le_of_ble_eq_true rfl) (Nat.le_of_ble_eq_true rfl) (Nat.le_of_ble_eq_true rfl) dX8_as_36 (Nat.le_refl _) (Nat.le_refl _) ?_
      clear hW hS hc5
      intro H locs hW hS
      refine lv_iload_n (pc := 39) hx hb dX8_as_39 rfl (lv_at hl 2 rfl) ?_
      obtain ⟨x8, hc7, hf⟩ := um_bi hf
      refine um_cSi (pc := 40) (As := [.int x6, .int a2]) (rest := []) Cx (c_X8_isUnder x6 a2 hX hc7) kS_X8_isUnder (Or.inl qM_X8_97) hW hS rfl hl rfl (Nat.le_of_ble_eq_true rfl) (Nat.le_of_ble_eq_true rfl) (Nat.le_of_ble_eq_true rfl) dX8_as_40 (Nat.le_refl _) (Nat.le_refl _) ?_
      clear hW hS hc7
      intro H locs hW hS
      refine lv_if_ne (pc := 43) (tgt := 49) hx hb dX8_as_43 (by decide) (fun c1 => ?_) (fun c1 => ?_)
      · have hf := um_ie c1 hf
        clear c1
        refine lv_aload_n (pc := 49) hx hb dX8_as_49 rfl (lv_at hl 0 rfl) ?_
        refine gF_X8_10 (pc := 50) Cx hW (hX 0 _ rfl) rfl dX8_as_50 ?_
        refine gF_X8_77 (pc := 53) Cx hW (xs_shore hX (Or.inl rfl)) rfl dX8_as_53 ?_
        refine lv_iload_n (pc := 56) hx hb dX8_as_56 rfl (lv_at hl 1 rfl) ?_
        refine lv_bipush (pc := 57) (v := (6 : Int32)) hx hb dX8_as_57 (by decide) ?_
        obtain ⟨x10, hc9, hf⟩ := um_bi hf
        refine um_cVi (pc := 59) (As := [.int a1, .int (6 : Int32)]) (rest := []) Cx (c_X5_get (20 * 1 + 1) a1 (6 : Int32) (xs_ht (Or.inl rfl) 1 rfl) hX hc9) kV_X5_get (Or.inl qM_X8_73) hW hS (xs_tab hX (xs_ht (Or.inl rfl) 1 rfl)) rfl rfl hl rfl (Nat.le_of_ble_eq_true rfl) (Nat.le_of_ble_eq_true rfl) (Nat.le_of_ble_eq_true rfl) dX8_as_59 (Nat.le_refl _) (Nat.le_refl _) ?_
        clear hW hS hc9
        intro H locs hW hS
        exact um_iretR (pc := 62) Cx hW hS hf dX8_as_62
      · have hf := um_it c1 hf
        clear c1
        refine lv_ldc (pc := 46) hx hb hown (hts _ qC_X8_101) dX8_as_46 ?_
        exact um_iretR (pc := 48) Cx hW hS hf dX8_as_48
    · have hf := um_it c1 hf
      clear c1
      refine lv_ldc (pc := 24) hx hb hown (hts _ qC_X8_59) dX8_as_24 ?_
      exact um_iretR (pc := 26) Cx hW hS hf dX8_as_26
theorem c_X8_as {σ : um_S} {r : Int32} (a1 : Int32) (a2 : Int32) (hX : um_X sh) (hf : f_X8_as a1 a2 σ = some r) : um_M l yX8_as cX8_as 3 (some FieldType.int) (1) (24) Z sh α σ [.ref (α 0), .int a1, .int a2] (some (.int r)) σ :=
  um_start (by decide) (Nat.le_of_ble_eq_true rfl) (fun p e s m below meth c ls Cx hW hS hl => b_X8_as a1 a2 hX hf Cx hW hS hl)
noncomputable def f_X8_assign (a1 : Int32) (a2 : Int32) (σ : um_S) : Option (Int32 × um_S) :=
    (f_X5_holds (20 * 1 + 1) a1 σ).bind fun x2 =>
    (if (um_b x2) = 0 then
    (some ((-1000000001 : Int32), σ))
    else
    ((f_X5_holds (20 * 1 + 2) a2 σ).bind fun x4 =>
    (if (um_b x4) = 0 then
    (some ((-1000000001 : Int32), σ))
    else
    ((f_X5_get (20 * 1 + 1) a1 (5 : Int32) σ).bind fun x6 =>
    (if x6 = (1 : Int32) then
    ((f_X4_isWantedBy 1 a1 a2 σ).bind fun x8 =>
    (if (um_b x8) = 0 then
    (some ((-1000000002 : Int32), σ))
    else
    ((f_X4_freeHands 1 a2 σ).bind fun x10 =>
    (if 0 < x10 then
    ((f_X4_become 1 a1 (2 : Int32) a2 σ).bind fun σ12 =>
    (some ((1 : Int32), σ12)))
    else
    (some ((-1000000002 : Int32), σ))))))
    else
    (some ((-1000000012 : Int32), σ)))))))
set_option maxRecDepth 100000 in
set_option maxHeartbeats 4000000 in
theorem b_X8_assign {H : Heap} {locs : List Loc} {ls : Array Slot} {σ : um_S} {σ' : um_S} {r : Int32} (a1 : Int32) (a2 : Int32) (hX : um_X sh) (hf : f_X8_assign a1 a2 σ = some (r, σ')) (Cx : um_C p s m meth c args cX8_assign 3 (some FieldType.int) RX8 Z) (hW : um_W Z sh α σ H) (hS : va_S (um_D sh α) s.heap H locs) (hl : lv_has ls 3 [(0, .ref (α 0)), (1, .int a1), (2, .int a2)]) : um_G p l e (4) (90) s m args below meth c Z sh α σ' (some (.int r)) H locs (F0 m 0 ls []) := by
  have hx := Cx.1
  have hb := Cx.2.1
  have hown := Cx.2.2.2.2.1
  have hts := Cx.2.2.2.2.2.1
  rw [f_X8_assign] at hf
  refine lv_aload_n (pc := 0) hx hb dX8_assign_0 rfl (lv_at hl 0 rfl) ?_
  refine gF_X8_10 (pc := 1) Cx hW (hX 0 _ rfl) rfl dX8_assign_1 ?_
  refine gF_X8_77 (pc := 4) Cx hW (xs_shore hX (Or.inl rfl)) rfl dX8_assign_4 ?_
  refine lv_iload_n (pc := 7) hx hb dX8_assign_7 rfl (lv_at hl 1 rfl) ?_
  obtain ⟨x2, hc1, hf⟩ := um_bi hf
  refine um_cVi (pc := 8) (As := [.int a1]) (rest := []) Cx (c_X5_holds (20 * 1 + 1) a1 (xs_ht (Or.inl rfl) 1 rfl) hX hc1) kV_X5_holds (Or.inl qM_X8_70) hW hS (xs_tab hX (xs_ht (Or.inl rfl) 1 rfl)) rfl rfl hl rfl (Nat.le_of_ble_eq_true rfl) (Nat.le_of_ble_eq_true rfl) (Nat.le_of_ble_eq_true rfl) dX8_assign_8 (Nat.le_refl _) (Nat.le_refl _) ?_
  clear hW hS hc1
  intro H locs hW hS
  refine lv_if_eq (pc := 11) (tgt := 28) hx hb dX8_assign_11 (by decide) (fun c1 => ?_) (fun c1 => ?_)
  · have hf := um_it c1 hf
    clear c1
    refine lv_ldc (pc := 28) hx hb hown (hts _ qC_X8_59) dX8_assign_28 ?_
    exact um_iret (pc := 30) Cx hW hS hf dX8_assign_30
  · have hf := um_ie c1 hf
    clear c1
    refine lv_aload_n (pc := 14) hx hb dX8_assign_14 rfl (lv_at hl 0 rfl) ?_
    refine gF_X8_10 (pc := 15) Cx hW (hX 0 _ rfl) rfl dX8_assign_15 ?_
    refine gF_X8_110 (pc := 18) Cx hW (xs_shore hX (Or.inl rfl)) rfl dX8_assign_18 ?_
    refine lv_iload_n (pc := 21) hx hb dX8_assign_21 rfl (lv_at hl 2 rfl) ?_
    obtain ⟨x4, hc3, hf⟩ := um_bi hf
    refine um_cVi (pc := 22) (As := [.int a2]) (rest := []) Cx (c_X5_holds (20 * 1 + 2) a2 (xs_ht (Or.inl rfl) 2 rfl) hX hc3) kV_X5_holds (Or.inl qM_X8_70) hW hS (xs_tab hX (xs_ht (Or.inl rfl) 2 rfl)) rfl rfl hl rfl (Nat.le_of_ble_eq_true rfl) (Nat.le_of_ble_eq_true rfl) (Nat.le_of_ble_eq_true rfl) dX8_assign_22 (Nat.le_refl _) (Nat.le_refl _) ?_
    clear hW hS hc3
    intro H locs hW hS
    refine lv_if_ne (pc := 25) (tgt := 31) hx hb dX8_assign_25 (by decide) (fun c1 => ?_) (fun c1 => ?_)
    · have hf := um_ie c1 hf
      clear c1
      refine lv_aload_n (pc := 31) hx hb dX8_assign_31 rfl (lv_at hl 0 rfl) ?_
      refine gF_X8_10 (pc := 32) Cx hW (hX 0 _ rfl) rfl dX8_assign_32 ?_
      refine gF_X8_77 (pc := 35) Cx hW (xs_shore hX (Or.inl rfl)) rfl dX8_assign_35 ?_
      refine lv_iload_n (pc := 38) hx hb dX8_assign_38 rfl (lv_at hl 1 rfl) ?_
      refine lv_iconst (pc := 39) (v := (5 : Int32)) hx hb dX8_assign_39 (by decide) ?_
      obtain ⟨x6, hc5, hf⟩ := um_bi hf
      refine um_cVi (pc := 40) (As := [.int a1, .int (5 : Int32)]) (rest := []) Cx (c_X5_get (20 * 1 + 1) a1 (5 : Int32) (xs_ht (Or.inl rfl) 1 rfl) hX hc5) kV_X5_get (Or.inl qM_X8_73) hW hS (xs_tab hX (xs_ht (Or.inl rfl) 1 rfl)) rfl rfl hl rfl (Nat.le_of_ble_eq_true rfl) (Nat.le_of_ble_eq_true rfl) (Nat.le_of_ble_eq_true rfl) dX8_assign_40 (Nat.le_refl _) (Nat.le_refl _) ?_
      clear hW hS hc5
      intro H locs hW hS
      refine lv_iconst (pc := 43) (v := (1 : Int32)) hx hb dX8_assign_43 (by decide) ?_
      refine lv_icmp_eq (pc := 44) (tgt := 50) hx hb dX8_assign_44 (by decide) (fun c1 => ?_) (fun c1 => ?_)
      · have hf := um_it c1 hf
        clear c1
        refine lv_aload_n (pc := 50) hx hb dX8_assign_50 rfl (lv_at hl 0 rfl) ?_
        refine gF_X8_10 (pc := 51) Cx hW (hX 0 _ rfl) rfl dX8_assign_51 ?_
        refine lv_iload_n (pc := 54) hx hb dX8_assign_54 rfl (lv_at hl 1 rfl) ?_
        refine lv_iload_n (pc := 55) hx hb dX8_assign_55 rfl (lv_at hl 2 rfl) ?_
        obtain ⟨x8, hc7, hf⟩ := um_bi hf
        refine um_cVi (pc := 56) (As := [.int a1, .int a2]) (rest := []) Cx (c_X4_isWantedBy 1 a1 a2 (Or.inl rfl) hX hc7) kV_X4_isWantedBy (Or.inl qM_X8_167) hW hS (xs_shore hX (Or.inl rfl)) rfl rfl hl rfl (Nat.le_of_ble_eq_true rfl) (Nat.le_of_ble_eq_true rfl) (Nat.le_of_ble_eq_true rfl) dX8_assign_56 (Nat.le_refl _) (Nat.le_refl _) ?_
        clear hW hS hc7
        intro H locs hW hS
        refine lv_if_eq (pc := 59) (tgt := 73) hx hb dX8_assign_59 (by decide) (fun c1 => ?_) (fun c1 => ?_)
        · have hf := um_it c1 hf
          clear c1
          refine lv_ldc (pc := 73) hx hb hown (hts _ qC_X8_88) dX8_assign_73 ?_
          exact um_iret (pc := 75) Cx hW hS hf dX8_assign_75
        · have hf := um_ie c1 hf
          clear c1
          refine lv_aload_n (pc := 62) hx hb dX8_assign_62 rfl (lv_at hl 0 rfl) ?_
          refine gF_X8_10 (pc := 63) Cx hW (hX 0 _ rfl) rfl dX8_assign_63 ?_
          refine lv_iload_n (pc := 66) hx hb dX8_assign_66 rfl (lv_at hl 2 rfl) ?_
          obtain ⟨x10, hc9, hf⟩ := um_bi hf
          refine um_cVi (pc := 67) (As := [.int a2]) (rest := []) Cx (c_X4_freeHands 1 a2 (Or.inl rfl) hX hc9) kV_X4_freeHands (Or.inl qM_X8_170) hW hS (xs_shore hX (Or.inl rfl)) rfl rfl hl rfl (Nat.le_of_ble_eq_true rfl) (Nat.le_of_ble_eq_true rfl) (Nat.le_of_ble_eq_true rfl) dX8_assign_67 (Nat.le_refl _) (Nat.le_refl _) ?_
          clear hW hS hc9
          intro H locs hW hS
          refine lv_if_gt (pc := 70) (tgt := 76) hx hb dX8_assign_70 (by decide) (fun c1 => ?_) (fun c1 => ?_)
          · have hf := um_it c1 hf
            clear c1
            refine lv_aload_n (pc := 76) hx hb dX8_assign_76 rfl (lv_at hl 0 rfl) ?_
            refine gF_X8_10 (pc := 77) Cx hW (hX 0 _ rfl) rfl dX8_assign_77 ?_
            refine lv_iload_n (pc := 80) hx hb dX8_assign_80 rfl (lv_at hl 1 rfl) ?_
            refine lv_iconst (pc := 81) (v := (2 : Int32)) hx hb dX8_assign_81 (by decide) ?_
            refine lv_iload_n (pc := 82) hx hb dX8_assign_82 rfl (lv_at hl 2 rfl) ?_
            obtain ⟨σ12, hc11, hf⟩ := um_bi hf
            refine um_cVv (pc := 83) (As := [.int a1, .int (2 : Int32), .int a2]) (rest := []) Cx (c_X4_become 1 a1 (2 : Int32) a2 (Or.inl rfl) hX hc11) kV_X4_become (Or.inl qM_X8_173) hW hS (xs_shore hX (Or.inl rfl)) rfl rfl hl rfl (Nat.le_of_ble_eq_true rfl) (Nat.le_of_ble_eq_true rfl) (Nat.le_of_ble_eq_true rfl) dX8_assign_83 (Nat.le_refl _) (Nat.le_refl _) ?_
            clear hW hS hc11
            intro H locs hW hS
            refine lv_iconst (pc := 86) (v := (1 : Int32)) hx hb dX8_assign_86 (by decide) ?_
            exact um_iret (pc := 87) Cx hW hS hf dX8_assign_87
          · have hf := um_ie c1 hf
            clear c1
            refine lv_ldc (pc := 73) hx hb hown (hts _ qC_X8_88) dX8_assign_73 ?_
            exact um_iret (pc := 75) Cx hW hS hf dX8_assign_75
      · have hf := um_ie c1 hf
        clear c1
        refine lv_ldc (pc := 47) hx hb hown (hts _ qC_X8_101) dX8_assign_47 ?_
        exact um_iret (pc := 49) Cx hW hS hf dX8_assign_49
    · have hf := um_it c1 hf
      clear c1
      refine lv_ldc (pc := 28) hx hb hown (hts _ qC_X8_59) dX8_assign_28 ?_
      exact um_iret (pc := 30) Cx hW hS hf dX8_assign_30
theorem c_X8_assign {σ : um_S} {σ' : um_S} {r : Int32} (a1 : Int32) (a2 : Int32) (hX : um_X sh) (hf : f_X8_assign a1 a2 σ = some (r, σ')) : um_M l yX8_assign cX8_assign 3 (some FieldType.int) (4) (90) Z sh α σ [.ref (α 0), .int a1, .int a2] (some (.int r)) σ' :=
  um_start (by decide) (Nat.le_of_ble_eq_true rfl) (fun p e s m below meth c ls Cx hW hS hl => b_X8_assign a1 a2 hX hf Cx hW hS hl)
noncomputable def f_X8_back (a1 : Int32) (σ : um_S) : Option (Int32 × um_S) :=
    (f_X5_holds (20 * 1 + 1) a1 σ).bind fun x2 =>
    (if (um_b x2) = 0 then
    (some ((-1000000001 : Int32), σ))
    else
    ((f_X5_get (20 * 1 + 1) a1 (5 : Int32) σ).bind fun x4 =>
    (if x4 = (2 : Int32) then
    ((f_X4_isDead 1 a1 σ).bind fun x6 =>
    (if (um_b x6) = 0 then
    ((f_X5_get (20 * 1 + 1) a1 (6 : Int32) σ).bind fun x8 =>
    ((f_X4_become 1 a1 (1 : Int32) (0 : Int32) σ).bind fun σ10 =>
    (some (x8, σ10))))
    else
    (some ((-1000000002 : Int32), σ))))
    else
    (some ((-1000000012 : Int32), σ)))))
set_option maxRecDepth 100000 in
set_option maxHeartbeats 4000000 in
theorem b_X8_back {H : Heap} {locs : List Loc} {ls : Array Slot} {σ : um_S} {σ' : um_S} {r : Int32} (a1 : Int32) (hX : um_X sh) (hf : f_X8_back a1 σ = some (r, σ')) (Cx : um_C p s m meth c args cX8_back 3 (some FieldType.int) RX8 Z) (hW : um_W Z sh α σ H) (hS : va_S (um_D sh α) s.heap H locs) (hl : lv_has ls 3 [(0, .ref (α 0)), (1, .int a1)]) : um_G p l e (2) (48) s m args below meth c Z sh α σ' (some (.int r)) H locs (F0 m 0 ls []) := by
  have hx := Cx.1
  have hb := Cx.2.1
  have hown := Cx.2.2.2.2.1
  have hts := Cx.2.2.2.2.2.1
  rw [f_X8_back] at hf
  refine lv_aload_n (pc := 0) hx hb dX8_back_0 rfl (lv_at hl 0 rfl) ?_
  refine gF_X8_10 (pc := 1) Cx hW (hX 0 _ rfl) rfl dX8_back_1 ?_
  refine gF_X8_77 (pc := 4) Cx hW (xs_shore hX (Or.inl rfl)) rfl dX8_back_4 ?_
  refine lv_iload_n (pc := 7) hx hb dX8_back_7 rfl (lv_at hl 1 rfl) ?_
  obtain ⟨x2, hc1, hf⟩ := um_bi hf
  refine um_cVi (pc := 8) (As := [.int a1]) (rest := []) Cx (c_X5_holds (20 * 1 + 1) a1 (xs_ht (Or.inl rfl) 1 rfl) hX hc1) kV_X5_holds (Or.inl qM_X8_70) hW hS (xs_tab hX (xs_ht (Or.inl rfl) 1 rfl)) rfl rfl hl rfl (Nat.le_of_ble_eq_true rfl) (Nat.le_of_ble_eq_true rfl) (Nat.le_of_ble_eq_true rfl) dX8_back_8 (Nat.le_refl _) (Nat.le_refl _) ?_
  clear hW hS hc1
  intro H locs hW hS
  refine lv_if_ne (pc := 11) (tgt := 17) hx hb dX8_back_11 (by decide) (fun c1 => ?_) (fun c1 => ?_)
  · have hf := um_ie c1 hf
    clear c1
    refine lv_aload_n (pc := 17) hx hb dX8_back_17 rfl (lv_at hl 0 rfl) ?_
    refine gF_X8_10 (pc := 18) Cx hW (hX 0 _ rfl) rfl dX8_back_18 ?_
    refine gF_X8_77 (pc := 21) Cx hW (xs_shore hX (Or.inl rfl)) rfl dX8_back_21 ?_
    refine lv_iload_n (pc := 24) hx hb dX8_back_24 rfl (lv_at hl 1 rfl) ?_
    refine lv_iconst (pc := 25) (v := (5 : Int32)) hx hb dX8_back_25 (by decide) ?_
    obtain ⟨x4, hc3, hf⟩ := um_bi hf
    refine um_cVi (pc := 26) (As := [.int a1, .int (5 : Int32)]) (rest := []) Cx (c_X5_get (20 * 1 + 1) a1 (5 : Int32) (xs_ht (Or.inl rfl) 1 rfl) hX hc3) kV_X5_get (Or.inl qM_X8_73) hW hS (xs_tab hX (xs_ht (Or.inl rfl) 1 rfl)) rfl rfl hl rfl (Nat.le_of_ble_eq_true rfl) (Nat.le_of_ble_eq_true rfl) (Nat.le_of_ble_eq_true rfl) dX8_back_26 (Nat.le_refl _) (Nat.le_refl _) ?_
    clear hW hS hc3
    intro H locs hW hS
    refine lv_iconst (pc := 29) (v := (2 : Int32)) hx hb dX8_back_29 (by decide) ?_
    refine lv_icmp_eq (pc := 30) (tgt := 36) hx hb dX8_back_30 (by decide) (fun c1 => ?_) (fun c1 => ?_)
    · have hf := um_it c1 hf
      clear c1
      refine lv_aload_n (pc := 36) hx hb dX8_back_36 rfl (lv_at hl 0 rfl) ?_
      refine gF_X8_10 (pc := 37) Cx hW (hX 0 _ rfl) rfl dX8_back_37 ?_
      refine lv_iload_n (pc := 40) hx hb dX8_back_40 rfl (lv_at hl 1 rfl) ?_
      obtain ⟨x6, hc5, hf⟩ := um_bi hf
      refine um_cVi (pc := 41) (As := [.int a1]) (rest := []) Cx (c_X4_isDead 1 a1 (Or.inl rfl) hX hc5) kV_X4_isDead (Or.inl qM_X8_102) hW hS (xs_shore hX (Or.inl rfl)) rfl rfl hl rfl (Nat.le_of_ble_eq_true rfl) (Nat.le_of_ble_eq_true rfl) (Nat.le_of_ble_eq_true rfl) dX8_back_41 (Nat.le_refl _) (Nat.le_refl _) ?_
      clear hW hS hc5
      intro H locs hW hS
      refine lv_if_eq (pc := 44) (tgt := 50) hx hb dX8_back_44 (by decide) (fun c1 => ?_) (fun c1 => ?_)
      · have hf := um_it c1 hf
        clear c1
        refine lv_aload_n (pc := 50) hx hb dX8_back_50 rfl (lv_at hl 0 rfl) ?_
        refine gF_X8_10 (pc := 51) Cx hW (hX 0 _ rfl) rfl dX8_back_51 ?_
        refine gF_X8_77 (pc := 54) Cx hW (xs_shore hX (Or.inl rfl)) rfl dX8_back_54 ?_
        refine lv_iload_n (pc := 57) hx hb dX8_back_57 rfl (lv_at hl 1 rfl) ?_
        refine lv_bipush (pc := 58) (v := (6 : Int32)) hx hb dX8_back_58 (by decide) ?_
        obtain ⟨x8, hc7, hf⟩ := um_bi hf
        refine um_cVi (pc := 60) (As := [.int a1, .int (6 : Int32)]) (rest := []) Cx (c_X5_get (20 * 1 + 1) a1 (6 : Int32) (xs_ht (Or.inl rfl) 1 rfl) hX hc7) kV_X5_get (Or.inl qM_X8_73) hW hS (xs_tab hX (xs_ht (Or.inl rfl) 1 rfl)) rfl rfl hl rfl (Nat.le_of_ble_eq_true rfl) (Nat.le_of_ble_eq_true rfl) (Nat.le_of_ble_eq_true rfl) dX8_back_60 (Nat.le_refl _) (Nat.le_refl _) ?_
        clear hW hS hc7
        intro H locs hW hS
        refine lv_istore_n (pc := 63) (lv' := [(2, .int x8), (0, .ref (α 0)), (1, .int a1)]) hx hb dX8_back_63 rfl hl (by decide) rfl ?_
        clear hl
        intro ls hl
        refine lv_aload_n (pc := 64) hx hb dX8_back_64 rfl (lv_at hl 1 rfl) ?_
        refine gF_X8_10 (pc := 65) Cx hW (hX 0 _ rfl) rfl dX8_back_65 ?_
        refine lv_iload_n (pc := 68) hx hb dX8_back_68 rfl (lv_at hl 2 rfl) ?_
        refine lv_iconst (pc := 69) (v := (1 : Int32)) hx hb dX8_back_69 (by decide) ?_
        refine lv_iconst (pc := 70) (v := (0 : Int32)) hx hb dX8_back_70 (by decide) ?_
        obtain ⟨σ10, hc9, hf⟩ := um_bi hf
        refine um_cVv (pc := 71) (As := [.int a1, .int (1 : Int32), .int (0 : Int32)]) (rest := []) Cx (c_X4_become 1 a1 (1 : Int32) (0 : Int32) (Or.inl rfl) hX hc9) kV_X4_become (Or.inl qM_X8_173) hW hS (xs_shore hX (Or.inl rfl)) rfl rfl hl rfl (Nat.le_of_ble_eq_true rfl) (Nat.le_of_ble_eq_true rfl) (Nat.le_of_ble_eq_true rfl) dX8_back_71 (Nat.le_refl _) (Nat.le_refl _) ?_
        clear hW hS hc9
        intro H locs hW hS
        refine lv_iload_n (pc := 74) hx hb dX8_back_74 rfl (lv_at hl 0 rfl) ?_
        exact um_iret (pc := 75) Cx hW hS hf dX8_back_75
      · have hf := um_ie c1 hf
        clear c1
        refine lv_ldc (pc := 47) hx hb hown (hts _ qC_X8_88) dX8_back_47 ?_
        exact um_iret (pc := 49) Cx hW hS hf dX8_back_49
    · have hf := um_ie c1 hf
      clear c1
      refine lv_ldc (pc := 33) hx hb hown (hts _ qC_X8_101) dX8_back_33 ?_
      exact um_iret (pc := 35) Cx hW hS hf dX8_back_35
  · have hf := um_it c1 hf
    clear c1
    refine lv_ldc (pc := 14) hx hb hown (hts _ qC_X8_59) dX8_back_14 ?_
    exact um_iret (pc := 16) Cx hW hS hf dX8_back_16
theorem c_X8_back {σ : um_S} {σ' : um_S} {r : Int32} (a1 : Int32) (hX : um_X sh) (hf : f_X8_back a1 σ = some (r, σ')) : um_M l yX8_back cX8_back 3 (some FieldType.int) (2) (48) Z sh α σ [.ref (α 0), .int a1] (some (.int r)) σ' :=
  um_start (by decide) (Nat.le_of_ble_eq_true rfl) (fun p e s m below meth c ls Cx hW hS hl => b_X8_back a1 hX hf Cx hW hS hl)
noncomputable def f_X8_carries (a1 : Int32) (σ : um_S) : Option (Int32) :=
    (f_X8_within a1 (1 : Int32) (999 : Int32) σ).bind fun x2 =>
    (if (um_b x2) = 0 then
    (some (-1000000001 : Int32))
    else
    ((f_X3_carryingSet (20 * 1 + 9) a1 σ).bind fun x4 =>
    (some x4)))
set_option maxRecDepth 100000 in
set_option maxHeartbeats 4000000 in
theorem b_X8_carries {H : Heap} {locs : List Loc} {ls : Array Slot} {σ : um_S} {r : Int32} (a1 : Int32) (hX : um_X sh) (hf : f_X8_carries a1 σ = some r) (Cx : um_C p s m meth c args cX8_carries 2 (some FieldType.int) RX8 Z) (hW : um_W Z sh α σ H) (hS : va_S (um_D sh α) s.heap H locs) (hl : lv_has ls 2 [(0, .ref (α 0)), (1, .int a1)]) : um_G p l e (3) (74) s m args below meth c Z sh α σ (some (.int r)) H locs (F0 m 0 ls []) := by
  have hx := Cx.1
  have hb := Cx.2.1
  have hown := Cx.2.2.2.2.1
  have hts := Cx.2.2.2.2.2.1
  rw [f_X8_carries] at hf
  refine lv_iload_n (pc := 0) hx hb dX8_carries_0 rfl (lv_at hl 1 rfl) ?_
  refine lv_iconst (pc := 1) (v := (1 : Int32)) hx hb dX8_carries_1 (by decide) ?_
  refine lv_sipush (pc := 2) (v := (999 : Int32)) hx hb dX8_carries_2 (by decide) ?_
  obtain ⟨x2, hc1, hf⟩ := um_bi hf
  refine um_cSi (pc := 5) (As := [.int a1, .int (1 : Int32), .int (999 : Int32)]) (rest := []) Cx (c_X8_within a1 (1 : Int32) (999 : Int32) hX hc1) kS_X8_within (Or.inl qM_X8_55) hW hS rfl hl rfl (Nat.le_of_ble_eq_true rfl) (Nat.le_of_ble_eq_true rfl) (Nat.le_of_ble_eq_true rfl) dX8_carries_5 (Nat.le_refl _) (Nat.le_refl _) ?_
  clear hW hS hc1
  intro H locs hW hS
  refine lv_if_eq (pc := 8) (tgt := 25) hx hb dX8_carries_8 (by decide) (fun c1 => ?_) (fun c1 => ?_)
  · have hf := um_it c1 hf
    clear c1
    refine lv_ldc (pc := 25) hx hb hown (hts _ qC_X8_59) dX8_carries_25 ?_
    exact um_iretR (pc := 27) Cx hW hS hf dX8_carries_27
  · have hf := um_ie c1 hf
    clear c1
    refine lv_aload_n (pc := 11) hx hb dX8_carries_11 rfl (lv_at hl 0 rfl) ?_
    refine gF_X8_10 (pc := 12) Cx hW (hX 0 _ rfl) rfl dX8_carries_12 ?_
    refine gF_X8_250 (pc := 15) Cx hW (xs_shore hX (Or.inl rfl)) rfl dX8_carries_15 ?_
    refine lv_iload_n (pc := 18) hx hb dX8_carries_18 rfl (lv_at hl 1 rfl) ?_
    obtain ⟨x4, hc3, hf⟩ := um_bi hf
    refine um_cSi (pc := 19) (As := [.ref (α (20 * 1 + 9)), .int a1]) (rest := []) Cx (c_X3_carryingSet (20 * 1 + 9) a1 (xs_ht (Or.inl rfl) 9 rfl) hX hc3) kS_X3_carryingSet (Or.inl qM_X8_253) hW hS rfl hl rfl (Nat.le_of_ble_eq_true rfl) (Nat.le_of_ble_eq_true rfl) (Nat.le_of_ble_eq_true rfl) dX8_carries_19 (Nat.le_refl _) (Nat.le_refl _) ?_
    clear hW hS hc3
    intro H locs hW hS
    refine lv_goto (pc := 22) (tgt := 27) hx hb dX8_carries_22 (by decide) ?_
    exact um_iretR (pc := 27) Cx hW hS hf dX8_carries_27
theorem c_X8_carries {σ : um_S} {r : Int32} (a1 : Int32) (hX : um_X sh) (hf : f_X8_carries a1 σ = some r) : um_M l yX8_carries cX8_carries 2 (some FieldType.int) (3) (74) Z sh α σ [.ref (α 0), .int a1] (some (.int r)) σ :=
  um_start (by decide) (Nat.le_of_ble_eq_true rfl) (fun p e s m below meth c ls Cx hW hS hl => b_X8_carries a1 hX hf Cx hW hS hl)
