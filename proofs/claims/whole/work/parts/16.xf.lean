variable {p : Program} {l : Launch} {e : Env} {s : State} {m : MethodId} {args : Array Value} {below : List Frame} {meth : Method} {c : Code} {Z : um_Z} {α : Nat → Nat} {sh : Nat → Option um_Sh}
noncomputable def f_X4_passWeek_l6 (h0 : Nat) : Nat → Int32 → um_S → Option (um_S)
  | 0, _, _ => none
  | n + 1, v1, σ =>
    if (6 : Int32) ≤ v1 then
    (some σ)
    else
    ((f_X4_eatAt h0 v1 σ).bind fun σ2 =>
    (f_X4_passWeek_l6 h0 n (v1 + (1 : Int32)) σ2))
noncomputable def f_X4_passWeek_l25 (h0 : Nat) : Nat → Int32 → um_S → Option (um_S)
  | 0, _, _ => none
  | n + 1, v1, σ =>
    if (σ.1 (20 * h0 + 1) 2) ≤ v1 then
    (some σ)
    else
    ((f_X4_isAtPlace h0 v1 σ).bind fun x2 =>
    (if (um_b x2) = 0 then
    (f_X4_passWeek_l25 h0 n (v1 + (1 : Int32)) σ)
    else
    ((f_X4_isServing h0 v1 σ).bind fun x4 =>
    (if (um_b x4) = 0 then
    (f_X4_passWeek_l25 h0 n (v1 + (1 : Int32)) σ)
    else
    ((f_X4_tempt h0 v1 σ).bind fun σ6 =>
    (f_X4_passWeek_l25 h0 n (v1 + (1 : Int32)) σ6))))))
noncomputable def f_X4_passWeek_l65 (h0 : Nat) : Nat → Int32 → um_S → Option (um_S)
  | 0, _, _ => none
  | n + 1, v1, σ =>
    if (σ.1 (20 * h0 + 1) 2) ≤ v1 then
    (some σ)
    else
    ((f_X4_isAtPlace h0 v1 σ).bind fun x2 =>
    (if (um_b x2) = 0 then
    (f_X4_passWeek_l65 h0 n (v1 + (1 : Int32)) σ)
    else
    ((f_X4_earn h0 v1 σ).bind fun σ4 =>
    (f_X4_passWeek_l65 h0 n (v1 + (1 : Int32)) σ4))))
noncomputable def f_X4_passWeek_l97 (h0 : Nat) : Nat → Int32 → um_S → Option (um_S)
  | 0, _, _ => none
  | n + 1, v1, σ =>
    if (σ.1 (20 * h0 + 1) 2) ≤ v1 then
    (some σ)
    else
    ((f_X4_isAtPlace h0 v1 σ).bind fun x2 =>
    (if (um_b x2) = 0 then
    (f_X4_passWeek_l97 h0 n (v1 + (1 : Int32)) σ)
    else
    ((f_X4_release h0 v1 σ).bind fun σ4 =>
    (f_X4_passWeek_l97 h0 n (v1 + (1 : Int32)) σ4))))
noncomputable def f_X4_passWeek (h0 : Nat) (σ : um_S) : Option (um_S) :=
    (f_X4_landShips h0 σ).bind fun σ2 =>
    ((f_X4_passWeek_l6 h0 um_N (0 : Int32) σ2).bind fun σ3 =>
    ((f_X4_passWeek_l25 h0 um_N (0 : Int32) σ3).bind fun σ5 =>
    ((f_X4_passWeek_l65 h0 um_N (0 : Int32) σ5).bind fun σ7 =>
    ((f_X4_passWeek_l97 h0 um_N (0 : Int32) σ7).bind fun σ9 =>
    ((f_X4_bringLetters h0 σ9).bind fun σ12 =>
    (um_let (um_wr σ12 h0 12 ((σ12.1 h0 12) + (1 : Int32))) fun σ13 =>
    (some σ13)))))))
set_option maxRecDepth 100000 in
set_option maxHeartbeats 4000000 in
theorem t_X4_passWeek_l6 {Q : State → Prop} {σo : um_S} (h0 : Nat) (hh0 : um_h h0) (hX : um_X sh) (Cx : um_C p s m meth c args cX4_passWeek 2 none RX4 Z) (hE : ∀ (H : Heap) (locs : List Loc) (ls : Array Slot), um_W Z sh α σo H → va_S (um_D sh α) s.heap H locs → lv_has ls 2 [(0, .ref (α h0))] → W p l e { frames := 5, cells := 0, slots := 0, locals := 124 } s m args below meth c H locs 0 0 Q (F0 m 23 ls [])) : ∀ (n : Nat) (v1 : Int32) (σ : um_S) (H : Heap) (locs : List Loc) (ls : Array Slot), f_X4_passWeek_l6 h0 n v1 σ = some σo → um_W Z sh α σ H → va_S (um_D sh α) s.heap H locs → lv_has ls 2 [(0, .ref (α h0)), (1, .int v1)] → W p l e { frames := 5, cells := 0, slots := 0, locals := 124 } s m args below meth c H locs 0 0 Q (F0 m 6 ls []) := by
  have hx := Cx.1
  have hb := Cx.2.1
  have hown := Cx.2.2.2.2.1
  have hts := Cx.2.2.2.2.2.1
  intro n
  induction n with
  | zero =>
    intro v1 σ H locs ls hf hW hS hl
    cases hf
  | succ n ih =>
    intro v1 σ H locs ls hf hW hS hl
    rw [f_X4_passWeek_l6] at hf
    refine lv_iload_n (pc := 6) hx hb dX4_passWeek_6 rfl (lv_at hl 1 rfl) ?_
    refine lv_bipush (pc := 7) (v := (6 : Int32)) hx hb dX4_passWeek_7 (by decide) ?_
    refine lv_icmp_ge (pc := 9) (tgt := 23) hx hb dX4_passWeek_9 (by decide) (fun c1 => ?_) (fun c1 => ?_)
    · have hf := um_it c1 hf
      clear c1
      cases hf
      exact hE _ _ _ hW hS (lv_sub hl [0] rfl)
    · have hf := um_ie c1 hf
      clear c1
      refine lv_aload_n (pc := 12) hx hb dX4_passWeek_12 rfl (lv_at hl 0 rfl) ?_
      refine lv_iload_n (pc := 13) hx hb dX4_passWeek_13 rfl (lv_at hl 1 rfl) ?_
      obtain ⟨σ2, hc1, hf⟩ := um_bi hf
      refine um_cVv (pc := 14) (As := [.int v1]) (rest := []) Cx (c_X4_eatAt h0 v1 hh0 hX hc1) kV_X4_eatAt (Or.inl qM_X4_143) hW hS (xs_shore hX hh0) rfl rfl hl rfl (Nat.le_of_ble_eq_true rfl) (Nat.le_of_ble_eq_true rfl) (Nat.le_of_ble_eq_true rfl) dX4_passWeek_14 (Nat.le_refl _) (Nat.le_refl _) ?_
      clear hW hS hc1
      intro H locs hW hS
      refine lv_iinc (pc := 17) (v := v1 + (1 : Int32)) (lv' := [(1, .int (v1 + (1 : Int32))), (0, .ref (α h0))]) hx hb dX4_passWeek_17 hl (k := 1) rfl rfl (by decide) rfl ?_
      clear hl
      intro ls hl
      refine lv_goto (pc := 20) (tgt := 6) hx hb dX4_passWeek_20 (by decide) ?_
      exact ih _ _ _ _ _ hf hW hS (lv_sub hl [1, 0] rfl)
set_option maxRecDepth 100000 in
set_option maxHeartbeats 4000000 in
theorem t_X4_passWeek_l25 {Q : State → Prop} {σo : um_S} (h0 : Nat) (hh0 : um_h h0) (hX : um_X sh) (Cx : um_C p s m meth c args cX4_passWeek 2 none RX4 Z) (hE : ∀ (H : Heap) (locs : List Loc) (ls : Array Slot), um_W Z sh α σo H → va_S (um_D sh α) s.heap H locs → lv_has ls 2 [(0, .ref (α h0))] → W p l e { frames := 5, cells := 0, slots := 0, locals := 124 } s m args below meth c H locs 0 0 Q (F0 m 63 ls [])) : ∀ (n : Nat) (v1 : Int32) (σ : um_S) (H : Heap) (locs : List Loc) (ls : Array Slot), f_X4_passWeek_l25 h0 n v1 σ = some σo → um_W Z sh α σ H → va_S (um_D sh α) s.heap H locs → lv_has ls 2 [(0, .ref (α h0)), (1, .int v1)] → W p l e { frames := 5, cells := 0, slots := 0, locals := 124 } s m args below meth c H locs 0 0 Q (F0 m 25 ls []) := by
  have hx := Cx.1
  have hb := Cx.2.1
  have hown := Cx.2.2.2.2.1
  have hts := Cx.2.2.2.2.2.1
  intro n
  induction n with
  | zero =>
    intro v1 σ H locs ls hf hW hS hl
    cases hf
  | succ n ih =>
    intro v1 σ H locs ls hf hW hS hl
    rw [f_X4_passWeek_l25] at hf
    refine lv_iload_n (pc := 25) hx hb dX4_passWeek_25 rfl (lv_at hl 1 rfl) ?_
    refine lv_aload_n (pc := 26) hx hb dX4_passWeek_26 rfl (lv_at hl 0 rfl) ?_
    refine gF_X4_20 (pc := 27) Cx hW (xs_shore hX hh0) rfl dX4_passWeek_27 ?_
    refine gF_X4_100 (pc := 30) Cx hW (xs_tab hX (xs_ht hh0 1 rfl)) rfl dX4_passWeek_30 ?_
    refine lv_icmp_ge (pc := 33) (tgt := 63) hx hb dX4_passWeek_33 (by decide) (fun c1 => ?_) (fun c1 => ?_)
    · have hf := um_it c1 hf
      clear c1
      cases hf
      exact hE _ _ _ hW hS (lv_sub hl [0] rfl)
    · have hf := um_ie c1 hf
      clear c1
      refine lv_aload_n (pc := 36) hx hb dX4_passWeek_36 rfl (lv_at hl 0 rfl) ?_
      refine lv_iload_n (pc := 37) hx hb dX4_passWeek_37 rfl (lv_at hl 1 rfl) ?_
      obtain ⟨x2, hc1, hf⟩ := um_bi hf
      refine um_cVi (pc := 38) (As := [.int v1]) (rest := []) Cx (c_X4_isAtPlace h0 v1 hh0 hX hc1) kV_X4_isAtPlace (Or.inl qM_X4_110) hW hS (xs_shore hX hh0) rfl rfl hl rfl (Nat.le_of_ble_eq_true rfl) (Nat.le_of_ble_eq_true rfl) (Nat.le_of_ble_eq_true rfl) dX4_passWeek_38 (Nat.le_refl _) (Nat.le_refl _) ?_
      clear hW hS hc1
      intro H locs hW hS
      refine lv_if_eq (pc := 41) (tgt := 57) hx hb dX4_passWeek_41 (by decide) (fun c1 => ?_) (fun c1 => ?_)
      · have hf := um_it c1 hf
        clear c1
        refine lv_iinc (pc := 57) (v := v1 + (1 : Int32)) (lv' := [(1, .int (v1 + (1 : Int32))), (0, .ref (α h0))]) hx hb dX4_passWeek_57 hl (k := 1) rfl rfl (by decide) rfl ?_
        clear hl
        intro ls hl
        refine lv_goto (pc := 60) (tgt := 25) hx hb dX4_passWeek_60 (by decide) ?_
        exact ih _ _ _ _ _ hf hW hS (lv_sub hl [1, 0] rfl)
      · have hf := um_ie c1 hf
        clear c1
        refine lv_aload_n (pc := 44) hx hb dX4_passWeek_44 rfl (lv_at hl 0 rfl) ?_
        refine lv_iload_n (pc := 45) hx hb dX4_passWeek_45 rfl (lv_at hl 1 rfl) ?_
        obtain ⟨x4, hc3, hf⟩ := um_bi hf
        refine um_cVi (pc := 46) (As := [.int v1]) (rest := []) Cx (c_X4_isServing h0 v1 hh0 hX hc3) kV_X4_isServing (Or.inl qM_X4_147) hW hS (xs_shore hX hh0) rfl rfl hl rfl (Nat.le_of_ble_eq_true rfl) (Nat.le_of_ble_eq_true rfl) (Nat.le_of_ble_eq_true rfl) dX4_passWeek_46 (Nat.le_refl _) (Nat.le_refl _) ?_
        clear hW hS hc3
        intro H locs hW hS
        refine lv_if_eq (pc := 49) (tgt := 57) hx hb dX4_passWeek_49 (by decide) (fun c1 => ?_) (fun c1 => ?_)
        · have hf := um_it c1 hf
          clear c1
          refine lv_iinc (pc := 57) (v := v1 + (1 : Int32)) (lv' := [(1, .int (v1 + (1 : Int32))), (0, .ref (α h0))]) hx hb dX4_passWeek_57 hl (k := 1) rfl rfl (by decide) rfl ?_
          clear hl
          intro ls hl
          refine lv_goto (pc := 60) (tgt := 25) hx hb dX4_passWeek_60 (by decide) ?_
          exact ih _ _ _ _ _ hf hW hS (lv_sub hl [1, 0] rfl)
        · have hf := um_ie c1 hf
          clear c1
          refine lv_aload_n (pc := 52) hx hb dX4_passWeek_52 rfl (lv_at hl 0 rfl) ?_
          refine lv_iload_n (pc := 53) hx hb dX4_passWeek_53 rfl (lv_at hl 1 rfl) ?_
          obtain ⟨σ6, hc5, hf⟩ := um_bi hf
          refine um_cVv (pc := 54) (As := [.int v1]) (rest := []) Cx (c_X4_tempt h0 v1 hh0 hX hc5) kV_X4_tempt (Or.inl qM_X4_150) hW hS (xs_shore hX hh0) rfl rfl hl rfl (Nat.le_of_ble_eq_true rfl) (Nat.le_of_ble_eq_true rfl) (Nat.le_of_ble_eq_true rfl) dX4_passWeek_54 (Nat.le_refl _) (Nat.le_refl _) ?_
          clear hW hS hc5
          intro H locs hW hS
          refine lv_iinc (pc := 57) (v := v1 + (1 : Int32)) (lv' := [(1, .int (v1 + (1 : Int32))), (0, .ref (α h0))]) hx hb dX4_passWeek_57 hl (k := 1) rfl rfl (by decide) rfl ?_
          clear hl
          intro ls hl
          refine lv_goto (pc := 60) (tgt := 25) hx hb dX4_passWeek_60 (by decide) ?_
          exact ih _ _ _ _ _ hf hW hS (lv_sub hl [1, 0] rfl)
set_option maxRecDepth 100000 in
set_option maxHeartbeats 4000000 in
theorem t_X4_passWeek_l65 {Q : State → Prop} {σo : um_S} (h0 : Nat) (hh0 : um_h h0) (hX : um_X sh) (Cx : um_C p s m meth c args cX4_passWeek 2 none RX4 Z) (hE : ∀ (H : Heap) (locs : List Loc) (ls : Array Slot), um_W Z sh α σo H → va_S (um_D sh α) s.heap H locs → lv_has ls 2 [(0, .ref (α h0))] → W p l e { frames := 5, cells := 0, slots := 0, locals := 124 } s m args below meth c H locs 0 0 Q (F0 m 95 ls [])) : ∀ (n : Nat) (v1 : Int32) (σ : um_S) (H : Heap) (locs : List Loc) (ls : Array Slot), f_X4_passWeek_l65 h0 n v1 σ = some σo → um_W Z sh α σ H → va_S (um_D sh α) s.heap H locs → lv_has ls 2 [(0, .ref (α h0)), (1, .int v1)] → W p l e { frames := 5, cells := 0, slots := 0, locals := 124 } s m args below meth c H locs 0 0 Q (F0 m 65 ls []) := by
  have hx := Cx.1
  have hb := Cx.2.1
  have hown := Cx.2.2.2.2.1
  have hts := Cx.2.2.2.2.2.1
  intro n
  induction n with
  | zero =>
    intro v1 σ H locs ls hf hW hS hl
    cases hf
  | succ n ih =>
    intro v1 σ H locs ls hf hW hS hl
    rw [f_X4_passWeek_l65] at hf
    refine lv_iload_n (pc := 65) hx hb dX4_passWeek_65 rfl (lv_at hl 1 rfl) ?_
    refine lv_aload_n (pc := 66) hx hb dX4_passWeek_66 rfl (lv_at hl 0 rfl) ?_
    refine gF_X4_20 (pc := 67) Cx hW (xs_shore hX hh0) rfl dX4_passWeek_67 ?_
    refine gF_X4_100 (pc := 70) Cx hW (xs_tab hX (xs_ht hh0 1 rfl)) rfl dX4_passWeek_70 ?_
    refine lv_icmp_ge (pc := 73) (tgt := 95) hx hb dX4_passWeek_73 (by decide) (fun c1 => ?_) (fun c1 => ?_)
    · have hf := um_it c1 hf
      clear c1
      cases hf
      exact hE _ _ _ hW hS (lv_sub hl [0] rfl)
    · have hf := um_ie c1 hf
      clear c1
      refine lv_aload_n (pc := 76) hx hb dX4_passWeek_76 rfl (lv_at hl 0 rfl) ?_
      refine lv_iload_n (pc := 77) hx hb dX4_passWeek_77 rfl (lv_at hl 1 rfl) ?_
      obtain ⟨x2, hc1, hf⟩ := um_bi hf
      refine um_cVi (pc := 78) (As := [.int v1]) (rest := []) Cx (c_X4_isAtPlace h0 v1 hh0 hX hc1) kV_X4_isAtPlace (Or.inl qM_X4_110) hW hS (xs_shore hX hh0) rfl rfl hl rfl (Nat.le_of_ble_eq_true rfl) (Nat.le_of_ble_eq_true rfl) (Nat.le_of_ble_eq_true rfl) dX4_passWeek_78 (Nat.le_refl _) (Nat.le_refl _) ?_
      clear hW hS hc1
      intro H locs hW hS
      refine lv_if_eq (pc := 81) (tgt := 89) hx hb dX4_passWeek_81 (by decide) (fun c1 => ?_) (fun c1 => ?_)
      · have hf := um_it c1 hf
        clear c1
        refine lv_iinc (pc := 89) (v := v1 + (1 : Int32)) (lv' := [(1, .int (v1 + (1 : Int32))), (0, .ref (α h0))]) hx hb dX4_passWeek_89 hl (k := 1) rfl rfl (by decide) rfl ?_
        clear hl
        intro ls hl
        refine lv_goto (pc := 92) (tgt := 65) hx hb dX4_passWeek_92 (by decide) ?_
        exact ih _ _ _ _ _ hf hW hS (lv_sub hl [1, 0] rfl)
      · have hf := um_ie c1 hf
        clear c1
        refine lv_aload_n (pc := 84) hx hb dX4_passWeek_84 rfl (lv_at hl 0 rfl) ?_
        refine lv_iload_n (pc := 85) hx hb dX4_passWeek_85 rfl (lv_at hl 1 rfl) ?_
        obtain ⟨σ4, hc3, hf⟩ := um_bi hf
        refine um_cVv (pc := 86) (As := [.int v1]) (rest := []) Cx (c_X4_earn h0 v1 hh0 hX hc3) kV_X4_earn (Or.inl qM_X4_153) hW hS (xs_shore hX hh0) rfl rfl hl rfl (Nat.le_of_ble_eq_true rfl) (Nat.le_of_ble_eq_true rfl) (Nat.le_of_ble_eq_true rfl) dX4_passWeek_86 (Nat.le_refl _) (Nat.le_refl _) ?_
        clear hW hS hc3
        intro H locs hW hS
        refine lv_iinc (pc := 89) (v := v1 + (1 : Int32)) (lv' := [(1, .int (v1 + (1 : Int32))), (0, .ref (α h0))]) hx hb dX4_passWeek_89 hl (k := 1) rfl rfl (by decide) rfl ?_
        clear hl
        intro ls hl
        refine lv_goto (pc := 92) (tgt := 65) hx hb dX4_passWeek_92 (by decide) ?_
        exact ih _ _ _ _ _ hf hW hS (lv_sub hl [1, 0] rfl)
set_option maxRecDepth 100000 in
set_option maxHeartbeats 4000000 in
theorem t_X4_passWeek_l97 {Q : State → Prop} {σo : um_S} (h0 : Nat) (hh0 : um_h h0) (hX : um_X sh) (Cx : um_C p s m meth c args cX4_passWeek 2 none RX4 Z) (hE : ∀ (H : Heap) (locs : List Loc) (ls : Array Slot), um_W Z sh α σo H → va_S (um_D sh α) s.heap H locs → lv_has ls 2 [(0, .ref (α h0))] → W p l e { frames := 5, cells := 0, slots := 0, locals := 124 } s m args below meth c H locs 0 0 Q (F0 m 127 ls [])) : ∀ (n : Nat) (v1 : Int32) (σ : um_S) (H : Heap) (locs : List Loc) (ls : Array Slot), f_X4_passWeek_l97 h0 n v1 σ = some σo → um_W Z sh α σ H → va_S (um_D sh α) s.heap H locs → lv_has ls 2 [(0, .ref (α h0)), (1, .int v1)] → W p l e { frames := 5, cells := 0, slots := 0, locals := 124 } s m args below meth c H locs 0 0 Q (F0 m 97 ls []) := by
  have hx := Cx.1
  have hb := Cx.2.1
  have hown := Cx.2.2.2.2.1
  have hts := Cx.2.2.2.2.2.1
  intro n
  induction n with
  | zero =>
    intro v1 σ H locs ls hf hW hS hl
    cases hf
  | succ n ih =>
    intro v1 σ H locs ls hf hW hS hl
    rw [f_X4_passWeek_l97] at hf
    refine lv_iload_n (pc := 97) hx hb dX4_passWeek_97 rfl (lv_at hl 1 rfl) ?_
    refine lv_aload_n (pc := 98) hx hb dX4_passWeek_98 rfl (lv_at hl 0 rfl) ?_
    refine gF_X4_20 (pc := 99) Cx hW (xs_shore hX hh0) rfl dX4_passWeek_99 ?_
    refine gF_X4_100 (pc := 102) Cx hW (xs_tab hX (xs_ht hh0 1 rfl)) rfl dX4_passWeek_102 ?_
    refine lv_icmp_ge (pc := 105) (tgt := 127) hx hb dX4_passWeek_105 (by decide) (fun c1 => ?_) (fun c1 => ?_)
    · have hf := um_it c1 hf
      clear c1
      cases hf
      exact hE _ _ _ hW hS (lv_sub hl [0] rfl)
    · have hf := um_ie c1 hf
      clear c1
      refine lv_aload_n (pc := 108) hx hb dX4_passWeek_108 rfl (lv_at hl 0 rfl) ?_
      refine lv_iload_n (pc := 109) hx hb dX4_passWeek_109 rfl (lv_at hl 1 rfl) ?_
      obtain ⟨x2, hc1, hf⟩ := um_bi hf
      refine um_cVi (pc := 110) (As := [.int v1]) (rest := []) Cx (c_X4_isAtPlace h0 v1 hh0 hX hc1) kV_X4_isAtPlace (Or.inl qM_X4_110) hW hS (xs_shore hX hh0) rfl rfl hl rfl (Nat.le_of_ble_eq_true rfl) (Nat.le_of_ble_eq_true rfl) (Nat.le_of_ble_eq_true rfl) dX4_passWeek_110 (Nat.le_refl _) (Nat.le_refl _) ?_
      clear hW hS hc1
      intro H locs hW hS
      refine lv_if_eq (pc := 113) (tgt := 121) hx hb dX4_passWeek_113 (by decide) (fun c1 => ?_) (fun c1 => ?_)
      · have hf := um_it c1 hf
        clear c1
        refine lv_iinc (pc := 121) (v := v1 + (1 : Int32)) (lv' := [(1, .int (v1 + (1 : Int32))), (0, .ref (α h0))]) hx hb dX4_passWeek_121 hl (k := 1) rfl rfl (by decide) rfl ?_
        clear hl
        intro ls hl
        refine lv_goto (pc := 124) (tgt := 97) hx hb dX4_passWeek_124 (by decide) ?_
        exact ih _ _ _ _ _ hf hW hS (lv_sub hl [1, 0] rfl)
      · have hf := um_ie c1 hf
        clear c1
        refine lv_aload_n (pc := 116) hx hb dX4_passWeek_116 rfl (lv_at hl 0 rfl) ?_
        refine lv_iload_n (pc := 117) hx hb dX4_passWeek_117 rfl (lv_at hl 1 rfl) ?_
        obtain ⟨σ4, hc3, hf⟩ := um_bi hf
        refine um_cVv (pc := 118) (As := [.int v1]) (rest := []) Cx (c_X4_release h0 v1 hh0 hX hc3) kV_X4_release (Or.inl qM_X4_156) hW hS (xs_shore hX hh0) rfl rfl hl rfl (Nat.le_of_ble_eq_true rfl) (Nat.le_of_ble_eq_true rfl) (Nat.le_of_ble_eq_true rfl) dX4_passWeek_118 (Nat.le_refl _) (Nat.le_refl _) ?_
        clear hW hS hc3
        intro H locs hW hS
        refine lv_iinc (pc := 121) (v := v1 + (1 : Int32)) (lv' := [(1, .int (v1 + (1 : Int32))), (0, .ref (α h0))]) hx hb dX4_passWeek_121 hl (k := 1) rfl rfl (by decide) rfl ?_
        clear hl
        intro ls hl
        refine lv_goto (pc := 124) (tgt := 97) hx hb dX4_passWeek_124 (by decide) ?_
        exact ih _ _ _ _ _ hf hW hS (lv_sub hl [1, 0] rfl)
set_option maxRecDepth 100000 in
set_option maxHeartbeats 4000000 in
theorem b_X4_passWeek {H : Heap} {locs : List Loc} {ls : Array Slot} {σ : um_S} {σ' : um_S} (h0 : Nat) (hh0 : um_h h0) (hX : um_X sh) (hf : f_X4_passWeek h0 σ = some σ') (Cx : um_C p s m meth c args cX4_passWeek 2 none RX4 Z) (hW : um_W Z sh α σ H) (hS : va_S (um_D sh α) s.heap H locs) (hl : lv_has ls 2 [(0, .ref (α h0))]) : um_G p l e (5) (124) s m args below meth c Z sh α σ' none H locs (F0 m 0 ls []) := by
  have hx := Cx.1
  have hb := Cx.2.1
  have hown := Cx.2.2.2.2.1
  have hts := Cx.2.2.2.2.2.1
  rw [f_X4_passWeek] at hf
  refine lv_aload_n (pc := 0) hx hb dX4_passWeek_0 rfl (lv_at hl 0 rfl) ?_
  obtain ⟨σ2, hc1, hf⟩ := um_bi hf
  refine um_cVv (pc := 1) (As := []) (rest := []) Cx (c_X4_landShips h0 hh0 hX hc1) kV_X4_landShips (Or.inl qM_X4_140) hW hS (xs_shore hX hh0) rfl rfl hl rfl (Nat.le_of_ble_eq_true rfl) (Nat.le_of_ble_eq_true rfl) (Nat.le_of_ble_eq_true rfl) dX4_passWeek_1 (Nat.le_refl _) (Nat.le_refl _) ?_
  clear hW hS hc1
  intro H locs hW hS
  refine lv_iconst (pc := 4) (v := (0 : Int32)) hx hb dX4_passWeek_4 (by decide) ?_
  refine lv_istore_n (pc := 5) (lv' := [(1, .int (0 : Int32)), (0, .ref (α h0))]) hx hb dX4_passWeek_5 rfl hl (by decide) rfl ?_
  clear hl
  intro ls hl
  obtain ⟨σ3, hc4, hf⟩ := um_bi hf
  refine t_X4_passWeek_l6 h0 hh0 hX Cx ?_ um_N _ _ _ _ _ hc4 hW hS (lv_sub hl [1, 0] rfl)
  clear hW hS hl hc4
  intro H locs ls hW hS hl
  refine lv_iconst (pc := 23) (v := (0 : Int32)) hx hb dX4_passWeek_23 (by decide) ?_
  refine lv_istore_n (pc := 24) (lv' := [(1, .int (0 : Int32)), (0, .ref (α h0))]) hx hb dX4_passWeek_24 rfl hl (by decide) rfl ?_
  clear hl
  intro ls hl
  obtain ⟨σ5, hc6, hf⟩ := um_bi hf
  refine t_X4_passWeek_l25 h0 hh0 hX Cx ?_ um_N _ _ _ _ _ hc6 hW hS (lv_sub hl [1, 0] rfl)
  clear hW hS hl hc6
  intro H locs ls hW hS hl
  refine lv_iconst (pc := 63) (v := (0 : Int32)) hx hb dX4_passWeek_63 (by decide) ?_
  refine lv_istore_n (pc := 64) (lv' := [(1, .int (0 : Int32)), (0, .ref (α h0))]) hx hb dX4_passWeek_64 rfl hl (by decide) rfl ?_
  clear hl
  intro ls hl
  obtain ⟨σ7, hc8, hf⟩ := um_bi hf
  refine t_X4_passWeek_l65 h0 hh0 hX Cx ?_ um_N _ _ _ _ _ hc8 hW hS (lv_sub hl [1, 0] rfl)
  clear hW hS hl hc8
  intro H locs ls hW hS hl
  refine lv_iconst (pc := 95) (v := (0 : Int32)) hx hb dX4_passWeek_95 (by decide) ?_
  refine lv_istore_n (pc := 96) (lv' := [(1, .int (0 : Int32)), (0, .ref (α h0))]) hx hb dX4_passWeek_96 rfl hl (by decide) rfl ?_
  clear hl
  intro ls hl
  obtain ⟨σ9, hc10, hf⟩ := um_bi hf
  refine t_X4_passWeek_l97 h0 hh0 hX Cx ?_ um_N _ _ _ _ _ hc10 hW hS (lv_sub hl [1, 0] rfl)
  clear hW hS hl hc10
  intro H locs ls hW hS hl
  refine lv_aload_n (pc := 127) hx hb dX4_passWeek_127 rfl (lv_at hl 0 rfl) ?_
  obtain ⟨σ12, hc11, hf⟩ := um_bi hf
  refine um_cVv (pc := 128) (As := []) (rest := []) Cx (c_X4_bringLetters h0 hh0 hX hc11) kV_X4_bringLetters (Or.inl qM_X4_159) hW hS (xs_shore hX hh0) rfl rfl hl rfl (Nat.le_of_ble_eq_true rfl) (Nat.le_of_ble_eq_true rfl) (Nat.le_of_ble_eq_true rfl) dX4_passWeek_128 (Nat.le_refl _) (Nat.le_refl _) ?_
  clear hW hS hc11
  intro H locs hW hS
  refine lv_aload_n (pc := 131) hx hb dX4_passWeek_131 rfl (lv_at hl 0 rfl) ?_
  refine lv_dup (pc := 132) hx hb dX4_passWeek_132 rfl ?_
  refine gF_X4_64 (pc := 133) Cx hW (xs_shore hX hh0) rfl dX4_passWeek_133 ?_
  refine lv_iconst (pc := 136) (v := (1 : Int32)) hx hb dX4_passWeek_136 (by decide) ?_
  refine lv_iadd (pc := 137) hx hb dX4_passWeek_137 ?_
  refine gP_X4_64 (pc := 138) Cx hW hS (xs_shore hX hh0) rfl dX4_passWeek_138 ?_
  clear hW hS
  intro H locs hW hS
  obtain ⟨σ13, e14, hf⟩ := um_le hf
  rw [← e14] at hW
  clear e14
  exact um_vret (pc := 141) Cx hW hS hf dX4_passWeek_141
theorem c_X4_passWeek {σ : um_S} {σ' : um_S} (h0 : Nat) (hh0 : um_h h0) (hX : um_X sh) (hf : f_X4_passWeek h0 σ = some σ') : um_M l yX4_passWeek cX4_passWeek 2 none (5) (124) Z sh α σ [.ref (α h0)] none σ' :=
  um_start (by decide) (Nat.le_of_ble_eq_true rfl) (fun p e s m below meth c ls Cx hW hS hl => b_X4_passWeek h0 hh0 hX hf Cx hW hS hl)
noncomputable def f_X4_ticketWeek_l50 (h0 : Nat) (v2 : Int32) (v3 : Option Nat) (v4 : Int32) (v5 : Int32) : Nat → Int32 → um_S → Option ((Int32 × um_S) ⊕ (um_S))
  | 0, _, _ => none
  | n + 1, v6, σ =>
    if ((σ.1 h0 12) + (600 : Int32)) ≤ v6 then
    (some (.inr σ))
    else
    (um_let (v6 - v4) fun x1 =>
    (um_opt v3
    ((f_X1_unwritten (0 : Int32) x1 σ).bind fun x6 =>
    (if x6 = 0 then
    (f_X4_ticketWeek_l50 h0 v2 v3 v4 v5 n (v6 + (1 : Int32)) σ)
    else
    (some (.inl (v6, σ)))))
    fun q3 =>
    (um_b2 (f_X7_value q3 x1 v2 v5 σ) fun x9 σ8 =>
    (if x9 = 0 then
    (f_X4_ticketWeek_l50 h0 v2 v3 v4 v5 n (v6 + (1 : Int32)) σ8)
    else
    (some (.inl (v6, σ8)))))))
noncomputable def f_X4_ticketWeek (h0 : Nat) (a1 : Int32) (a2 : Int32) (σ : um_S) : Option (Int32 × um_S) :=
    (f_X1_counting h0 (0 : Int32) (σ.1 h0 12) σ).bind fun x2 =>
    ((f_X1_textAt h0 x2 σ).bind fun x4 =>
    ((f_X5_get (20 * h0 + 1) a1 (10 : Int32) σ).bind fun x6 =>
    ((f_X5_get (20 * h0 + 1) a1 (13 : Int32) σ).bind fun x8 =>
    (um_let (σ.1 h0 12) fun x9 =>
    (um_s1 (f_X4_ticketWeek_l50 h0 a2 x4 x6 x8 um_N x9 σ) fun σ11 =>
    (some ((-1000000005 : Int32), σ11)))))))
set_option maxRecDepth 100000 in
set_option maxHeartbeats 4000000 in
theorem t_X4_ticketWeek_l50 {σ' : um_S} {r : Int32} {out : (Int32 × um_S) ⊕ (um_S)}  (h0 : Nat) (v2 : Int32) (v3 : Option Nat) (v4 : Int32) (v5 : Int32) (hh0 : um_h h0) (hv3 : ∀ q, v3 = some q → um_txt sh q) (hX : um_X sh) (Cx : um_C p s m meth c args cX4_ticketWeek 9 (some FieldType.int) RX4 Z) (hR : ∀ a, out = .inl a → some a = some (r, σ')) (hE : ∀ (σo : um_S), out = .inr σo → ∀ (H : Heap) (locs : List Loc) (ls : Array Slot), um_W Z sh α σo H → va_S (um_D sh α) s.heap H locs → lv_has ls 9 [] → um_G p l e (2) (48) s m args below meth c Z sh α σ' (some (.int r)) H locs (F0 m 108 ls [])) : ∀ (n : Nat) (v6 : Int32) (σ : um_S) (H : Heap) (locs : List Loc) (ls : Array Slot), f_X4_ticketWeek_l50 h0 v2 v3 v4 v5 n v6 σ = some out → um_W Z sh α σ H → va_S (um_D sh α) s.heap H locs → lv_has ls 9 [(0, .ref (α h0)), (2, .int v2), (3, va_rf (Option.map α v3)), (4, .int v4), (5, .int v5), (6, .int v6)] → um_G p l e (2) (48) s m args below meth c Z sh α σ' (some (.int r)) H locs (F0 m 50 ls []) := by
  have hx := Cx.1
  have hb := Cx.2.1
  have hown := Cx.2.2.2.2.1
  have hts := Cx.2.2.2.2.2.1
  intro n
  induction n with
  | zero =>
    intro v6 σ H locs ls hf hW hS hl
    cases hf
  | succ n ih =>
    intro v6 σ H locs ls hf hW hS hl
    rw [f_X4_ticketWeek_l50] at hf
    refine lv_iload (pc := 50) hx hb dX4_ticketWeek_50 (lv_at hl 5 rfl) ?_
    refine lv_aload_n (pc := 52) hx hb dX4_ticketWeek_52 rfl (lv_at hl 0 rfl) ?_
    refine gF_X4_64 (pc := 53) Cx hW (xs_shore hX hh0) rfl dX4_ticketWeek_53 ?_
    refine lv_sipush (pc := 56) (v := (600 : Int32)) hx hb dX4_ticketWeek_56 (by decide) ?_
    refine lv_iadd (pc := 59) hx hb dX4_ticketWeek_59 ?_
    refine lv_icmp_ge (pc := 60) (tgt := 108) hx hb dX4_ticketWeek_60 (by decide) (fun c1 => ?_) (fun c1 => ?_)
    · have hf := um_it c1 hf
      clear c1
      exact hE _ (Option.some.inj hf).symm _ _ _ hW hS (lv_sub hl [] rfl)
    · have hf := um_ie c1 hf
      clear c1
      refine lv_iload (pc := 63) hx hb dX4_ticketWeek_63 (lv_at hl 5 rfl) ?_
      refine lv_iload (pc := 65) hx hb dX4_ticketWeek_65 (lv_at hl 3 rfl) ?_
      refine lv_isub (pc := 67) hx hb dX4_ticketWeek_67 ?_
      obtain ⟨x1, e2, hf⟩ := um_le hf
      refine um_top e2 ?_
      clear e2
      refine lv_istore (pc := 68) (lv' := [(7, .int x1), (0, .ref (α h0)), (2, .int v2), (3, va_rf (Option.map α v3)), (4, .int v4), (5, .int v5), (6, .int v6)]) hx hb dX4_ticketWeek_68 hl (by decide) rfl ?_
      clear hl
      intro ls hl
      rcases v3 with _ | q3
      · have hf := um_oN hf
        have hl : lv_has ls 9 [(7, .int x1), (0, .ref (α h0)), (2, .int v2), (3, .null), (4, .int v4), (5, .int v5), (6, .int v6)] := hl
        refine lv_aload_nN (pc := 70)  hx hb dX4_ticketWeek_70 rfl (lv_at hl 3 rfl) ?_
        refine lv_ifnonnullN (pc := 71) hx hb dX4_ticketWeek_71 ?_
        refine lv_iconst (pc := 74) (v := (0 : Int32)) hx hb dX4_ticketWeek_74 (by decide) ?_
        refine lv_iload (pc := 75) hx hb dX4_ticketWeek_75 (lv_at hl 0 rfl) ?_
        obtain ⟨x6, hc5, hf⟩ := um_bi hf
        refine um_cSi (pc := 77) (As := [.int (0 : Int32), .int x1]) (rest := []) Cx (c_X1_unwritten (0 : Int32) x1 hX hc5) kS_X1_unwritten (Or.inl qM_X4_127) hW hS rfl hl rfl (Nat.le_of_ble_eq_true rfl) (Nat.le_of_ble_eq_true rfl) (Nat.le_of_ble_eq_true rfl) dX4_ticketWeek_77 (Nat.le_refl _) (Nat.le_refl _) ?_
        clear hW hS hc5
        intro H locs hW hS
        refine lv_goto (pc := 80) (tgt := 92) hx hb dX4_ticketWeek_80 (by decide) ?_
        refine lv_istore (pc := 92) (lv' := [(8, .int x6), (7, .int x1), (0, .ref (α h0)), (2, .int v2), (3, .null), (4, .int v4), (5, .int v5), (6, .int v6)]) hx hb dX4_ticketWeek_92 hl (by decide) rfl ?_
        clear hl
        intro ls hl
        refine lv_iload (pc := 94) hx hb dX4_ticketWeek_94 (lv_at hl 0 rfl) ?_
        refine lv_if_eq (pc := 96) (tgt := 102) hx hb dX4_ticketWeek_96 (by decide) (fun c1 => ?_) (fun c1 => ?_)
        · have hf := um_it c1 hf
          clear c1
          refine lv_iinc (pc := 102) (v := v6 + (1 : Int32)) (lv' := [(6, .int (v6 + (1 : Int32))), (8, .int x6), (7, .int x1), (0, .ref (α h0)), (2, .int v2), (3, .null), (4, .int v4), (5, .int v5)]) hx hb dX4_ticketWeek_102 hl (k := 7) rfl rfl (by decide) rfl ?_
          clear hl
          intro ls hl
          refine lv_goto (pc := 105) (tgt := 50) hx hb dX4_ticketWeek_105 (by decide) ?_
          exact ih _ _ _ _ _ hf hW hS (lv_sub hl [3, 4, 5, 6, 7, 0] rfl)
        · have hf := um_ie c1 hf
          clear c1
          refine lv_iload (pc := 99) hx hb dX4_ticketWeek_99 (lv_at hl 7 rfl) ?_
          exact um_iret (pc := 101) Cx hW hS (hR _ (Option.some.inj hf).symm) dX4_ticketWeek_101
      · have hf := um_oS hf
        have hq4 := hv3 q3 rfl
        have hl : lv_has ls 9 [(7, .int x1), (0, .ref (α h0)), (2, .int v2), (3, .ref (α q3)), (4, .int v4), (5, .int v5), (6, .int v6)] := hl
        refine lv_aload_n (pc := 70) hx hb dX4_ticketWeek_70 rfl (lv_at hl 3 rfl) ?_
        refine lv_ifnonnull (pc := 71) (tgt := 83) hx hb dX4_ticketWeek_71 (by decide) ?_
        refine lv_aload_n (pc := 83) hx hb dX4_ticketWeek_83 rfl (lv_at hl 3 rfl) ?_
        refine lv_iload (pc := 84) hx hb dX4_ticketWeek_84 (lv_at hl 0 rfl) ?_
        refine lv_iload_n (pc := 86) hx hb dX4_ticketWeek_86 rfl (lv_at hl 2 rfl) ?_
        refine lv_iload (pc := 87) hx hb dX4_ticketWeek_87 (lv_at hl 5 rfl) ?_
        obtain ⟨x9, σ8, hc7, hf⟩ := um_bi2 hf
        refine um_cVi (pc := 89) (As := [.int x1, .int v2, .int v5]) (rest := []) Cx (c_X7_value q3 x1 v2 v5 hq4 hX hc7) kV_X7_value (Or.inl qM_X4_130) hW hS hq4.1 rfl rfl hl rfl (Nat.le_of_ble_eq_true rfl) (Nat.le_of_ble_eq_true rfl) (Nat.le_of_ble_eq_true rfl) dX4_ticketWeek_89 (Nat.le_refl _) (Nat.le_refl _) ?_
        clear hW hS hc7
        intro H locs hW hS
        refine lv_istore (pc := 92) (lv' := [(8, .int x9), (7, .int x1), (0, .ref (α h0)), (2, .int v2), (3, .ref (α q3)), (4, .int v4), (5, .int v5), (6, .int v6)]) hx hb dX4_ticketWeek_92 hl (by decide) rfl ?_
        clear hl
        intro ls hl
        refine lv_iload (pc := 94) hx hb dX4_ticketWeek_94 (lv_at hl 0 rfl) ?_
        refine lv_if_eq (pc := 96) (tgt := 102) hx hb dX4_ticketWeek_96 (by decide) (fun c1 => ?_) (fun c1 => ?_)
        · have hf := um_it c1 hf
          clear c1
          refine lv_iinc (pc := 102) (v := v6 + (1 : Int32)) (lv' := [(6, .int (v6 + (1 : Int32))), (8, .int x9), (7, .int x1), (0, .ref (α h0)), (2, .int v2), (3, .ref (α q3)), (4, .int v4), (5, .int v5)]) hx hb dX4_ticketWeek_102 hl (k := 7) rfl rfl (by decide) rfl ?_
          clear hl
          intro ls hl
          refine lv_goto (pc := 105) (tgt := 50) hx hb dX4_ticketWeek_105 (by decide) ?_
          exact ih _ _ _ _ _ hf hW hS (lv_sub hl [3, 4, 5, 6, 7, 0] rfl)
        · have hf := um_ie c1 hf
          clear c1
          refine lv_iload (pc := 99) hx hb dX4_ticketWeek_99 (lv_at hl 7 rfl) ?_
          exact um_iret (pc := 101) Cx hW hS (hR _ (Option.some.inj hf).symm) dX4_ticketWeek_101
set_option maxRecDepth 100000 in
set_option maxHeartbeats 4000000 in
theorem b_X4_ticketWeek {H : Heap} {locs : List Loc} {ls : Array Slot} {σ : um_S} {σ' : um_S} {r : Int32} (h0 : Nat) (a1 : Int32) (a2 : Int32) (hh0 : um_h h0) (hX : um_X sh) (hf : f_X4_ticketWeek h0 a1 a2 σ = some (r, σ')) (Cx : um_C p s m meth c args cX4_ticketWeek 9 (some FieldType.int) RX4 Z) (hW : um_W Z sh α σ H) (hS : va_S (um_D sh α) s.heap H locs) (hl : lv_has ls 9 [(0, .ref (α h0)), (1, .int a1), (2, .int a2)]) : um_G p l e (2) (48) s m args below meth c Z sh α σ' (some (.int r)) H locs (F0 m 0 ls []) := by
  have hx := Cx.1
  have hb := Cx.2.1
  have hown := Cx.2.2.2.2.1
  have hts := Cx.2.2.2.2.2.1
  rw [f_X4_ticketWeek] at hf
  refine lv_aload_n (pc := 0) hx hb dX4_ticketWeek_0 rfl (lv_at hl 0 rfl) ?_
  refine gF_X4_53 (pc := 1) Cx hW (xs_shore hX hh0) rfl dX4_ticketWeek_1 ?_
  refine lv_aload_n (pc := 4) hx hb dX4_ticketWeek_4 rfl (lv_at hl 0 rfl) ?_
  refine gF_X4_53 (pc := 5) Cx hW (xs_shore hX hh0) rfl dX4_ticketWeek_5 ?_
  refine lv_iconst (pc := 8) (v := (0 : Int32)) hx hb dX4_ticketWeek_8 (by decide) ?_
  refine lv_aload_n (pc := 9) hx hb dX4_ticketWeek_9 rfl (lv_at hl 0 rfl) ?_
  refine gF_X4_64 (pc := 10) Cx hW (xs_shore hX hh0) rfl dX4_ticketWeek_10 ?_
  obtain ⟨x2, hc1, hf⟩ := um_bi hf
  refine um_cVi (pc := 13) (As := [.int (0 : Int32), .int (σ.1 h0 12)]) (rest := [.ref (α (20 * h0 + 11))]) Cx (c_X1_counting h0 (0 : Int32) (σ.1 h0 12) hh0 hX hc1) kV_X1_counting (Or.inl qM_X4_120) hW hS (xs_law hX hh0) rfl rfl hl rfl (Nat.le_of_ble_eq_true rfl) (Nat.le_of_ble_eq_true rfl) (Nat.le_of_ble_eq_true rfl) dX4_ticketWeek_13 (Nat.le_refl _) (Nat.le_refl _) ?_
  clear hW hS hc1
  intro H locs hW hS
  obtain ⟨x4, hc3, hf⟩ := um_bi hf
  refine um_cVr (pc := 16) (As := [.int x2]) (rest := []) Cx (c_X1_textAt h0 x2 hh0 hX hc3) kV_X1_textAt (Or.inl qM_X4_123) hW hS (xs_law hX hh0) rfl rfl hl rfl (Nat.le_of_ble_eq_true rfl) (Nat.le_of_ble_eq_true rfl) (Nat.le_of_ble_eq_true rfl) dX4_ticketWeek_16 (Nat.le_refl _) (Nat.le_refl _) ?_
  clear hW hS
  intro H locs hW hS
  have hq4 : ∀ q, x4 = some q → um_txt sh q := fun q h => f_X1_textAt_txt hW (by rw [h] at hc3; exact hc3)
  clear hc3
  refine um_astore_n (pc := 19) (lv' := [(3, va_rf (Option.map α x4)), (0, .ref (α h0)), (1, .int a1), (2, .int a2)]) hx hb dX4_ticketWeek_19 rfl hl (by decide) rfl ?_
  clear hl
  intro ls hl
  refine lv_aload_n (pc := 20) hx hb dX4_ticketWeek_20 rfl (lv_at hl 1 rfl) ?_
  refine gF_X4_20 (pc := 21) Cx hW (xs_shore hX hh0) rfl dX4_ticketWeek_21 ?_
  refine lv_iload_n (pc := 24) hx hb dX4_ticketWeek_24 rfl (lv_at hl 2 rfl) ?_
  refine lv_bipush (pc := 25) (v := (10 : Int32)) hx hb dX4_ticketWeek_25 (by decide) ?_
  obtain ⟨x6, hc5, hf⟩ := um_bi hf
  refine um_cVi (pc := 27) (As := [.int a1, .int (10 : Int32)]) (rest := []) Cx (c_X5_get (20 * h0 + 1) a1 (10 : Int32) (xs_ht hh0 1 rfl) hX hc5) kV_X5_get (Or.inl qM_X4_82) hW hS (xs_tab hX (xs_ht hh0 1 rfl)) rfl rfl hl rfl (Nat.le_of_ble_eq_true rfl) (Nat.le_of_ble_eq_true rfl) (Nat.le_of_ble_eq_true rfl) dX4_ticketWeek_27 (Nat.le_refl _) (Nat.le_refl _) ?_
  clear hW hS hc5
  intro H locs hW hS
  refine lv_istore (pc := 30) (lv' := [(4, .int x6), (3, va_rf (Option.map α x4)), (0, .ref (α h0)), (1, .int a1), (2, .int a2)]) hx hb dX4_ticketWeek_30 hl (by decide) (by simp [um_rfcat]) ?_
  clear hl
  intro ls hl
  refine lv_aload_n (pc := 32) hx hb dX4_ticketWeek_32 rfl (lv_at hl 2 rfl) ?_
  refine gF_X4_20 (pc := 33) Cx hW (xs_shore hX hh0) rfl dX4_ticketWeek_33 ?_
  refine lv_iload_n (pc := 36) hx hb dX4_ticketWeek_36 rfl (lv_at hl 3 rfl) ?_
  refine lv_bipush (pc := 37) (v := (13 : Int32)) hx hb dX4_ticketWeek_37 (by decide) ?_
  obtain ⟨x8, hc7, hf⟩ := um_bi hf
  refine um_cVi (pc := 39) (As := [.int a1, .int (13 : Int32)]) (rest := []) Cx (c_X5_get (20 * h0 + 1) a1 (13 : Int32) (xs_ht hh0 1 rfl) hX hc7) kV_X5_get (Or.inl qM_X4_82) hW hS (xs_tab hX (xs_ht hh0 1 rfl)) rfl rfl hl rfl (Nat.le_of_ble_eq_true rfl) (Nat.le_of_ble_eq_true rfl) (Nat.le_of_ble_eq_true rfl) dX4_ticketWeek_39 (Nat.le_refl _) (Nat.le_refl _) ?_
  clear hW hS hc7
  intro H locs hW hS
  refine lv_istore (pc := 42) (lv' := [(5, .int x8), (4, .int x6), (3, va_rf (Option.map α x4)), (0, .ref (α h0)), (1, .int a1), (2, .int a2)]) hx hb dX4_ticketWeek_42 hl (by decide) rfl ?_
  clear hl
  intro ls hl
  refine lv_aload_n (pc := 44) hx hb dX4_ticketWeek_44 rfl (lv_at hl 3 rfl) ?_
  refine gF_X4_64 (pc := 45) Cx hW (xs_shore hX hh0) rfl dX4_ticketWeek_45 ?_
  obtain ⟨x9, e10, hf⟩ := um_le hf
  refine um_top e10 ?_
  clear e10
  refine lv_istore (pc := 48) (lv' := [(6, .int x9), (5, .int x8), (4, .int x6), (3, va_rf (Option.map α x4)), (0, .ref (α h0)), (1, .int a1), (2, .int a2)]) hx hb dX4_ticketWeek_48 hl (by decide) rfl ?_
  clear hl
  intro ls hl
  obtain ⟨q13, hc12, hr14, hg15⟩ := um_si1 hf
  refine t_X4_ticketWeek_l50 h0 a2 x4 x6 x8 hh0 hq4 hX Cx hr14 ?_ um_N _ _ _ _ _ hc12 hW hS (lv_sub hl [4, 6, 3, 2, 1, 0] rfl)
  clear hW hS hl hc12
  intro σ11 hq16 H locs ls hW hS hl
  have hf := hg15 _ hq16
  refine lv_ldc (pc := 108) hx hb hown (hts _ qC_X4_78) dX4_ticketWeek_108 ?_
  exact um_iret (pc := 110) Cx hW hS hf dX4_ticketWeek_110
theorem c_X4_ticketWeek {σ : um_S} {σ' : um_S} {r : Int32} (h0 : Nat) (a1 : Int32) (a2 : Int32) (hh0 : um_h h0) (hX : um_X sh) (hf : f_X4_ticketWeek h0 a1 a2 σ = some (r, σ')) : um_M l yX4_ticketWeek cX4_ticketWeek 9 (some FieldType.int) (2) (48) Z sh α σ [.ref (α h0), .int a1, .int a2] (some (.int r)) σ' :=
  um_start (by decide) (Nat.le_of_ble_eq_true rfl) (fun p e s m below meth c ls Cx hW hS hl => b_X4_ticketWeek h0 a1 a2 hh0 hX hf Cx hW hS hl)
noncomputable def f_X5_holds (h0 : Nat) (a1 : Int32) (σ : um_S) : Option (Bool) :=
    if a1 < 0 then
    (some false)
    else
    (if (σ.1 h0 2) ≤ a1 then
    (some false)
    else
    (some true))
set_option maxRecDepth 100000 in
set_option maxHeartbeats 4000000 in
theorem b_X5_holds {H : Heap} {locs : List Loc} {ls : Array Slot} {σ : um_S} {r : Bool} (h0 : Nat) (a1 : Int32) (hh0 : xT h0 = true) (hX : um_X sh) (hf : f_X5_holds h0 a1 σ = some r) (Cx : um_C p s m meth c args cX5_holds 2 (some FieldType.boolean) RX5 Z) (hW : um_W Z sh α σ H) (hS : va_S (um_D sh α) s.heap H locs) (hl : lv_has ls 2 [(0, .ref (α h0)), (1, .int a1)]) : um_G p l e (0) (0) s m args below meth c Z sh α σ (some (.int (um_b r))) H locs (F0 m 0 ls []) := by
  have hx := Cx.1
  have hb := Cx.2.1
  have hown := Cx.2.2.2.2.1
  have hts := Cx.2.2.2.2.2.1
  rw [f_X5_holds] at hf
  refine lv_iload_n (pc := 0) hx hb dX5_holds_0 rfl (lv_at hl 1 rfl) ?_
  refine lv_if_lt (pc := 1) (tgt := 16) hx hb dX5_holds_1 (by decide) (fun c1 => ?_) (fun c1 => ?_)
  · have hf := um_it c1 hf
    clear c1
    refine lv_iconst (pc := 16) (v := (0 : Int32)) hx hb dX5_holds_16 (by decide) ?_
    exact um_zretR (pc := 17) Cx hW hS hf rfl dX5_holds_17
  · have hf := um_ie c1 hf
    clear c1
    refine lv_iload_n (pc := 4) hx hb dX5_holds_4 rfl (lv_at hl 1 rfl) ?_
    refine lv_aload_n (pc := 5) hx hb dX5_holds_5 rfl (lv_at hl 0 rfl) ?_
    refine gF_X5_25 (pc := 6) Cx hW (xs_tab hX hh0) rfl dX5_holds_6 ?_
    refine lv_icmp_ge (pc := 9) (tgt := 16) hx hb dX5_holds_9 (by decide) (fun c1 => ?_) (fun c1 => ?_)
    · have hf := um_it c1 hf
      clear c1
      refine lv_iconst (pc := 16) (v := (0 : Int32)) hx hb dX5_holds_16 (by decide) ?_
      exact um_zretR (pc := 17) Cx hW hS hf rfl dX5_holds_17
    · have hf := um_ie c1 hf
      clear c1
      refine lv_iconst (pc := 12) (v := (1 : Int32)) hx hb dX5_holds_12 (by decide) ?_
      refine lv_goto (pc := 13) (tgt := 17) hx hb dX5_holds_13 (by decide) ?_
      exact um_zretR (pc := 17) Cx hW hS hf rfl dX5_holds_17
theorem c_X5_holds {σ : um_S} {r : Bool} (h0 : Nat) (a1 : Int32) (hh0 : xT h0 = true) (hX : um_X sh) (hf : f_X5_holds h0 a1 σ = some r) : um_M l yX5_holds cX5_holds 2 (some FieldType.boolean) (0) (0) Z sh α σ [.ref (α h0), .int a1] (some (.int (um_b r))) σ :=
  um_start (by decide) (Nat.le_of_ble_eq_true rfl) (fun p e s m below meth c ls Cx hW hS hl => b_X5_holds h0 a1 hh0 hX hf Cx hW hS hl)
noncomputable def f_X5_swap (h0 : Nat) (a1 : Int32) (a2 : Int32) (a3 : Int32) (σ : um_S) : Option (Int32 × um_S) :=
    (f_X5_get h0 a1 a2 σ).bind fun x2 =>
    ((f_X5_set h0 a1 a2 a3 σ).bind fun σ4 =>
    (some (x2, σ4)))
set_option maxRecDepth 100000 in
set_option maxHeartbeats 4000000 in
theorem b_X5_swap {H : Heap} {locs : List Loc} {ls : Array Slot} {σ : um_S} {σ' : um_S} {r : Int32} (h0 : Nat) (a1 : Int32) (a2 : Int32) (a3 : Int32) (hh0 : xT h0 = true) (hX : um_X sh) (hf : f_X5_swap h0 a1 a2 a3 σ = some (r, σ')) (Cx : um_C p s m meth c args cX5_swap 5 (some FieldType.int) RX5 Z) (hW : um_W Z sh α σ H) (hS : va_S (um_D sh α) s.heap H locs) (hl : lv_has ls 5 [(0, .ref (α h0)), (1, .int a1), (2, .int a2), (3, .int a3)]) : um_G p l e (1) (25) s m args below meth c Z sh α σ' (some (.int r)) H locs (F0 m 0 ls []) := by
  have hx := Cx.1
  have hb := Cx.2.1
  have hown := Cx.2.2.2.2.1
  have hts := Cx.2.2.2.2.2.1
  rw [f_X5_swap] at hf
  refine lv_aload_n (pc := 0) hx hb dX5_swap_0 rfl (lv_at hl 0 rfl) ?_
  refine lv_iload_n (pc := 1) hx hb dX5_swap_1 rfl (lv_at hl 1 rfl) ?_
  refine lv_iload_n (pc := 2) hx hb dX5_swap_2 rfl (lv_at hl 2 rfl) ?_
  obtain ⟨x2, hc1, hf⟩ := um_bi hf
  refine um_cVi (pc := 3) (As := [.int a1, .int a2]) (rest := []) Cx (c_X5_get h0 a1 a2 hh0 hX hc1) kV_X5_get (Or.inl qM_X5_28) hW hS (xs_tab hX hh0) rfl rfl hl rfl (Nat.le_of_ble_eq_true rfl) (Nat.le_of_ble_eq_true rfl) (Nat.le_of_ble_eq_true rfl) dX5_swap_3 (Nat.le_refl _) (Nat.le_refl _) ?_
  clear hW hS hc1
  intro H locs hW hS
  refine lv_istore (pc := 6) (lv' := [(4, .int x2), (0, .ref (α h0)), (1, .int a1), (2, .int a2), (3, .int a3)]) hx hb dX5_swap_6 hl (by decide) rfl ?_
  clear hl
  intro ls hl
  refine lv_aload_n (pc := 8) hx hb dX5_swap_8 rfl (lv_at hl 1 rfl) ?_
  refine lv_iload_n (pc := 9) hx hb dX5_swap_9 rfl (lv_at hl 2 rfl) ?_
  refine lv_iload_n (pc := 10) hx hb dX5_swap_10 rfl (lv_at hl 3 rfl) ?_
  refine lv_iload_n (pc := 11) hx hb dX5_swap_11 rfl (lv_at hl 4 rfl) ?_
  obtain ⟨σ4, hc3, hf⟩ := um_bi hf
  refine um_cVv (pc := 12) (As := [.int a1, .int a2, .int a3]) (rest := []) Cx (c_X5_set h0 a1 a2 a3 hh0 hX hc3) kV_X5_set (Or.inl qM_X5_31) hW hS (xs_tab hX hh0) rfl rfl hl rfl (Nat.le_of_ble_eq_true rfl) (Nat.le_of_ble_eq_true rfl) (Nat.le_of_ble_eq_true rfl) dX5_swap_12 (Nat.le_refl _) (Nat.le_refl _) ?_
  clear hW hS hc3
  intro H locs hW hS
  refine lv_iload (pc := 15) hx hb dX5_swap_15 (lv_at hl 0 rfl) ?_
  exact um_iret (pc := 17) Cx hW hS hf dX5_swap_17
theorem c_X5_swap {σ : um_S} {σ' : um_S} {r : Int32} (h0 : Nat) (a1 : Int32) (a2 : Int32) (a3 : Int32) (hh0 : xT h0 = true) (hX : um_X sh) (hf : f_X5_swap h0 a1 a2 a3 σ = some (r, σ')) : um_M l yX5_swap cX5_swap 5 (some FieldType.int) (1) (25) Z sh α σ [.ref (α h0), .int a1, .int a2, .int a3] (some (.int r)) σ' :=
  um_start (by decide) (Nat.le_of_ble_eq_true rfl) (fun p e s m below meth c ls Cx hW hS hl => b_X5_swap h0 a1 a2 a3 hh0 hX hf Cx hW hS hl)
noncomputable def f_X6_appendOne_l3 (v1 : Int32) : Nat → Int32 → um_S → Option (um_S)
  | 0, _, _ => none
  | n + 1, v2, σ =>
    if v2 < 0 then
    (some σ)
    else
    (um_let (fun (σ2 : um_S) =>
    (um_let (um_wr σ2 4 1 ((σ2.1 4 1) + (1 : Int32))) fun σ3 =>
    (f_X6_appendOne_l3 v1 n (v2 + (-8 : Int32)) σ3))) fun k1 =>
    (if (σ.1 4 1) < 0 then
    (k1 σ)
    else
    (if (nI 96) ≤ (σ.1 4 1) then
    (k1 σ)
    else
    (if um_ix (σ.1 4 1) 96 then
    (um_let (um_wr σ 8 (σ.1 4 1).toNatClampNeg ((v1 >>> (v2 &&& 31)).toInt8.toInt32).toInt8.toInt32) fun σ6 =>
    (k1 σ6)) else none))))
noncomputable def f_X6_appendOne (a1 : Int32) (σ : um_S) : Option (um_S) :=
    (f_X6_appendOne_l3 a1 um_N (24 : Int32) σ).bind fun σ1 =>
    (some σ1)
set_option maxRecDepth 100000 in
set_option maxHeartbeats 4000000 in
theorem t_X6_appendOne_l3 {Q : State → Prop} {σo : um_S} (v1 : Int32) (hX : um_X sh) (Cx : um_C p s m meth c args cX6_appendOne 3 none RX6 Z) (hE : ∀ (H : Heap) (locs : List Loc) (ls : Array Slot), um_W Z sh α σo H → va_S (um_D sh α) s.heap H locs → lv_has ls 3 [] → W p l e { frames := 0, cells := 0, slots := 0, locals := 0 } s m args below meth c H locs 0 0 Q (F0 m 55 ls [])) : ∀ (n : Nat) (v2 : Int32) (σ : um_S) (H : Heap) (locs : List Loc) (ls : Array Slot), f_X6_appendOne_l3 v1 n v2 σ = some σo → um_W Z sh α σ H → va_S (um_D sh α) s.heap H locs → lv_has ls 3 [(0, .ref (α 4)), (1, .int v1), (2, .int v2)] → W p l e { frames := 0, cells := 0, slots := 0, locals := 0 } s m args below meth c H locs 0 0 Q (F0 m 3 ls []) := by
  have hx := Cx.1
  have hb := Cx.2.1
  have hown := Cx.2.2.2.2.1
  have hts := Cx.2.2.2.2.2.1
  intro n
  induction n with
  | zero =>
    intro v2 σ H locs ls hf hW hS hl
    cases hf
  | succ n ih =>
    intro v2 σ H locs ls hf hW hS hl
    rw [f_X6_appendOne_l3] at hf
    refine lv_iload_n (pc := 3) hx hb dX6_appendOne_3 rfl (lv_at hl 2 rfl) ?_
    refine lv_if_lt (pc := 4) (tgt := 55) hx hb dX6_appendOne_4 (by decide) (fun c1 => ?_) (fun c1 => ?_)
    · have hf := um_it c1 hf
      clear c1
      cases hf
      exact hE _ _ _ hW hS (lv_sub hl [] rfl)
    · have hf := um_ie c1 hf
      clear c1
      refine lv_aload_n (pc := 7) hx hb dX6_appendOne_7 rfl (lv_at hl 0 rfl) ?_
      refine gF_X6_22 (pc := 8) Cx hW (hX 4 _ rfl) rfl dX6_appendOne_8 ?_
      obtain ⟨k1, hk1, hf⟩ := um_j1 hf
      have J1 : ∀ (σ2 : um_S), k1 σ2 = some σo → ∀ (H : Heap) (locs : List Loc) (ls : Array Slot), um_W Z sh α σ2 H → va_S (um_D sh α) s.heap H locs → lv_has ls 3 [(0, .ref (α 4)), (1, .int v1), (2, .int v2)] → W p l e { frames := 0, cells := 0, slots := 0, locals := 0 } s m args below meth c H locs 0 0 Q (F0 m 39 ls []) := by
        intro σ2 hf H locs ls hW hS hl
        rw [hk1] at hf
        refine lv_aload_n (pc := 39) hx hb dX6_appendOne_39 rfl (lv_at hl 0 rfl) ?_
        refine lv_dup (pc := 40) hx hb dX6_appendOne_40 rfl ?_
        refine gF_X6_22 (pc := 41) Cx hW (hX 4 _ rfl) rfl dX6_appendOne_41 ?_
        refine lv_iconst (pc := 44) (v := (1 : Int32)) hx hb dX6_appendOne_44 (by decide) ?_
        refine lv_iadd (pc := 45) hx hb dX6_appendOne_45 ?_
        refine gP_X6_22 (pc := 46) Cx hW hS (hX 4 _ rfl) rfl dX6_appendOne_46 ?_
        clear hW hS
        intro H locs hW hS
        obtain ⟨σ3, e4, hf⟩ := um_le hf
        rw [← e4] at hW
        clear e4
        refine lv_iinc (pc := 49) (v := v2 + (-8 : Int32)) (lv' := [(2, .int (v2 + (-8 : Int32))), (0, .ref (α 4)), (1, .int v1)]) hx hb dX6_appendOne_49 hl (k := 2) rfl rfl (by decide) rfl ?_
        clear hl
        intro ls hl
        refine lv_goto (pc := 52) (tgt := 3) hx hb dX6_appendOne_52 (by decide) ?_
        exact ih _ _ _ _ _ hf hW hS (lv_sub hl [1, 2, 0] rfl)
      refine lv_if_lt (pc := 11) (tgt := 39) hx hb dX6_appendOne_11 (by decide) (fun c1 => ?_) (fun c1 => ?_)
      · have hf := um_it c1 hf
        clear c1
        exact J1 σ hf _ _ _ hW hS hl
      · have hf := um_ie c1 hf
        clear c1
        refine lv_aload_n (pc := 14) hx hb dX6_appendOne_14 rfl (lv_at hl 0 rfl) ?_
        refine gF_X6_22 (pc := 15) Cx hW (hX 4 _ rfl) rfl dX6_appendOne_15 ?_
        refine lv_aload_n (pc := 18) hx hb dX6_appendOne_18 rfl (lv_at hl 0 rfl) ?_
        refine gF_X6_9 (pc := 19) Cx hW (hX 4 _ rfl) rfl dX6_appendOne_19 ?_
        refine um_alen (pc := 22) (n := 96) Cx hW (hX 8 _ rfl) rfl (by decide) dX6_appendOne_22 ?_
        refine lv_icmp_ge (pc := 23) (tgt := 39) hx hb dX6_appendOne_23 (by decide) (fun c1 => ?_) (fun c1 => ?_)
        · have hf := um_it c1 hf
          clear c1
          exact J1 σ hf _ _ _ hW hS hl
        · have hf := um_ie c1 hf
          clear c1
          refine lv_aload_n (pc := 26) hx hb dX6_appendOne_26 rfl (lv_at hl 0 rfl) ?_
          refine gF_X6_9 (pc := 27) Cx hW (hX 4 _ rfl) rfl dX6_appendOne_27 ?_
          refine lv_aload_n (pc := 30) hx hb dX6_appendOne_30 rfl (lv_at hl 0 rfl) ?_
          refine gF_X6_22 (pc := 31) Cx hW (hX 4 _ rfl) rfl dX6_appendOne_31 ?_
          refine lv_iload_n (pc := 34) hx hb dX6_appendOne_34 rfl (lv_at hl 1 rfl) ?_
          refine lv_iload_n (pc := 35) hx hb dX6_appendOne_35 rfl (lv_at hl 2 rfl) ?_
          refine lv_ishr (pc := 36) hx hb dX6_appendOne_36 ?_
          refine lv_i2b (pc := 37) hx hb dX6_appendOne_37 rfl ?_
          obtain ⟨g5, hf⟩ := um_gu hf
          refine um_bast (pc := 38) Cx hW hS (hX 8 _ rfl) rfl (um_ix_in g5) dX6_appendOne_38 ?_
          clear hW hS
          intro H locs hW hS
          obtain ⟨σ6, e7, hf⟩ := um_le hf
          rw [← e7] at hW
          clear e7
          exact J1 σ6 hf _ _ _ hW hS hl
set_option maxRecDepth 100000 in
set_option maxHeartbeats 4000000 in
theorem b_X6_appendOne {H : Heap} {locs : List Loc} {ls : Array Slot} {σ : um_S} {σ' : um_S} (a1 : Int32) (hX : um_X sh) (hf : f_X6_appendOne a1 σ = some σ') (Cx : um_C p s m meth c args cX6_appendOne 3 none RX6 Z) (hW : um_W Z sh α σ H) (hS : va_S (um_D sh α) s.heap H locs) (hl : lv_has ls 3 [(0, .ref (α 4)), (1, .int a1)]) : um_G p l e (0) (0) s m args below meth c Z sh α σ' none H locs (F0 m 0 ls []) := by
  have hx := Cx.1
  have hb := Cx.2.1
  have hown := Cx.2.2.2.2.1
  have hts := Cx.2.2.2.2.2.1
  rw [f_X6_appendOne] at hf
  refine lv_bipush (pc := 0) (v := (24 : Int32)) hx hb dX6_appendOne_0 (by decide) ?_
  refine lv_istore_n (pc := 2) (lv' := [(2, .int (24 : Int32)), (0, .ref (α 4)), (1, .int a1)]) hx hb dX6_appendOne_2 rfl hl (by decide) rfl ?_
  clear hl
  intro ls hl
  obtain ⟨σ1, hc2, hf⟩ := um_bi hf
  refine t_X6_appendOne_l3 a1 hX Cx ?_ um_N _ _ _ _ _ hc2 hW hS (lv_sub hl [1, 2, 0] rfl)
  clear hW hS hl hc2
  intro H locs ls hW hS hl
  exact um_vret (pc := 55) Cx hW hS hf dX6_appendOne_55
theorem c_X6_appendOne {σ : um_S} {σ' : um_S} (a1 : Int32) (hX : um_X sh) (hf : f_X6_appendOne a1 σ = some σ') : um_M l yX6_appendOne cX6_appendOne 3 none (0) (0) Z sh α σ [.ref (α 4), .int a1] none σ' :=
  um_start (by decide) (Nat.le_of_ble_eq_true rfl) (fun p e s m below meth c ls Cx hW hS hl => b_X6_appendOne a1 hX hf Cx hW hS hl)
noncomputable def f_X6_append (a1 : Int32) (a2 : Int32) (a3 : Int32) (σ : um_S) : Option (Bool × um_S) :=
    if (σ.1 4 1) < 0 then
    (some (false, σ))
    else
    (if ((σ.1 4 1) + (12 : Int32)) ≤ (nI 96) then
    ((f_X6_appendOne a1 σ).bind fun σ2 =>
    ((f_X6_appendOne a2 σ2).bind fun σ4 =>
    ((f_X6_appendOne a3 σ4).bind fun σ6 =>
    (some (true, σ6)))))
    else
    (some (false, σ)))
set_option maxRecDepth 100000 in
set_option maxHeartbeats 4000000 in
theorem b_X6_append {H : Heap} {locs : List Loc} {ls : Array Slot} {σ : um_S} {σ' : um_S} {r : Bool} (a1 : Int32) (a2 : Int32) (a3 : Int32) (hX : um_X sh) (hf : f_X6_append a1 a2 a3 σ = some (r, σ')) (Cx : um_C p s m meth c args cX6_append 4 (some FieldType.boolean) RX6 Z) (hW : um_W Z sh α σ H) (hS : va_S (um_D sh α) s.heap H locs) (hl : lv_has ls 4 [(0, .ref (α 4)), (1, .int a1), (2, .int a2), (3, .int a3)]) : um_G p l e (1) (22) s m args below meth c Z sh α σ' (some (.int (um_b r))) H locs (F0 m 0 ls []) := by
  have hx := Cx.1
  have hb := Cx.2.1
  have hown := Cx.2.2.2.2.1
  have hts := Cx.2.2.2.2.2.1
  rw [f_X6_append] at hf
  refine lv_aload_n (pc := 0) hx hb dX6_append_0 rfl (lv_at hl 0 rfl) ?_
  refine gF_X6_22 (pc := 1) Cx hW (hX 4 _ rfl) rfl dX6_append_1 ?_
  refine lv_if_lt (pc := 4) (tgt := 22) hx hb dX6_append_4 (by decide) (fun c1 => ?_) (fun c1 => ?_)
  · have hf := um_it c1 hf
    clear c1
    refine lv_iconst (pc := 22) (v := (0 : Int32)) hx hb dX6_append_22 (by decide) ?_
    exact um_zret (pc := 23) Cx hW hS hf rfl dX6_append_23
  · have hf := um_ie c1 hf
    clear c1
    refine lv_aload_n (pc := 7) hx hb dX6_append_7 rfl (lv_at hl 0 rfl) ?_
    refine gF_X6_22 (pc := 8) Cx hW (hX 4 _ rfl) rfl dX6_append_8 ?_
    refine lv_bipush (pc := 11) (v := (12 : Int32)) hx hb dX6_append_11 (by decide) ?_
    refine lv_iadd (pc := 13) hx hb dX6_append_13 ?_
    refine lv_aload_n (pc := 14) hx hb dX6_append_14 rfl (lv_at hl 0 rfl) ?_
    refine gF_X6_9 (pc := 15) Cx hW (hX 4 _ rfl) rfl dX6_append_15 ?_
    refine um_alen (pc := 18) (n := 96) Cx hW (hX 8 _ rfl) rfl (by decide) dX6_append_18 ?_
    refine lv_icmp_le (pc := 19) (tgt := 24) hx hb dX6_append_19 (by decide) (fun c1 => ?_) (fun c1 => ?_)
    · have hf := um_it c1 hf
      clear c1
      refine lv_aload_n (pc := 24) hx hb dX6_append_24 rfl (lv_at hl 0 rfl) ?_
      refine lv_iload_n (pc := 25) hx hb dX6_append_25 rfl (lv_at hl 1 rfl) ?_
      obtain ⟨σ2, hc1, hf⟩ := um_bi hf
      refine um_cVv (pc := 26) (As := [.int a1]) (rest := []) Cx (c_X6_appendOne a1 hX hc1) kV_X6_appendOne (Or.inl qM_X6_26) hW hS (hX 4 _ rfl) rfl rfl hl rfl (Nat.le_of_ble_eq_true rfl) (Nat.le_of_ble_eq_true rfl) (Nat.le_of_ble_eq_true rfl) dX6_append_26 (Nat.le_refl _) (Nat.le_refl _) ?_
      clear hW hS hc1
      intro H locs hW hS
      refine lv_aload_n (pc := 29) hx hb dX6_append_29 rfl (lv_at hl 0 rfl) ?_
      refine lv_iload_n (pc := 30) hx hb dX6_append_30 rfl (lv_at hl 2 rfl) ?_
      obtain ⟨σ4, hc3, hf⟩ := um_bi hf
      refine um_cVv (pc := 31) (As := [.int a2]) (rest := []) Cx (c_X6_appendOne a2 hX hc3) kV_X6_appendOne (Or.inl qM_X6_26) hW hS (hX 4 _ rfl) rfl rfl hl rfl (Nat.le_of_ble_eq_true rfl) (Nat.le_of_ble_eq_true rfl) (Nat.le_of_ble_eq_true rfl) dX6_append_31 (Nat.le_refl _) (Nat.le_refl _) ?_
      clear hW hS hc3
      intro H locs hW hS
      refine lv_aload_n (pc := 34) hx hb dX6_append_34 rfl (lv_at hl 0 rfl) ?_
      refine lv_iload_n (pc := 35) hx hb dX6_append_35 rfl (lv_at hl 3 rfl) ?_
      obtain ⟨σ6, hc5, hf⟩ := um_bi hf
      refine um_cVv (pc := 36) (As := [.int a3]) (rest := []) Cx (c_X6_appendOne a3 hX hc5) kV_X6_appendOne (Or.inl qM_X6_26) hW hS (hX 4 _ rfl) rfl rfl hl rfl (Nat.le_of_ble_eq_true rfl) (Nat.le_of_ble_eq_true rfl) (Nat.le_of_ble_eq_true rfl) dX6_append_36 (Nat.le_refl _) (Nat.le_refl _) ?_
      clear hW hS hc5
      intro H locs hW hS
      refine lv_iconst (pc := 39) (v := (1 : Int32)) hx hb dX6_append_39 (by decide) ?_
      exact um_zret (pc := 40) Cx hW hS hf rfl dX6_append_40
    · have hf := um_ie c1 hf
      clear c1
      refine lv_iconst (pc := 22) (v := (0 : Int32)) hx hb dX6_append_22 (by decide) ?_
      exact um_zret (pc := 23) Cx hW hS hf rfl dX6_append_23
theorem c_X6_append {σ : um_S} {σ' : um_S} {r : Bool} (a1 : Int32) (a2 : Int32) (a3 : Int32) (hX : um_X sh) (hf : f_X6_append a1 a2 a3 σ = some (r, σ')) : um_M l yX6_append cX6_append 4 (some FieldType.boolean) (1) (22) Z sh α σ [.ref (α 4), .int a1, .int a2, .int a3] (some (.int (um_b r))) σ' :=
  um_start (by decide) (Nat.le_of_ble_eq_true rfl) (fun p e s m below meth c ls Cx hW hS hl => b_X6_append a1 a2 a3 hX hf Cx hW hS hl)
noncomputable def f_X6_rankOf (a0 : Int32) (σ : um_S) : Option (Int32) :=
    if a0 = (38 : Int32) then
    (some (2 : Int32))
    else
    (if a0 = (42 : Int32) then
    (some (5 : Int32))
    else
    (if a0 = (43 : Int32) then
    (some (4 : Int32))
    else
    (if a0 = (45 : Int32) then
    (some (4 : Int32))
    else
    (if a0 = (47 : Int32) then
    (some (5 : Int32))
    else
    (if a0 = (60 : Int32) then
    (some (3 : Int32))
    else
    (if a0 = (61 : Int32) then
    (some (3 : Int32))
    else
    (if a0 = (62 : Int32) then
    (some (3 : Int32))
    else
    (if a0 = (124 : Int32) then
    (some (1 : Int32))
    else
    (some (0 : Int32))))))))))
set_option maxRecDepth 100000 in
set_option maxHeartbeats 4000000 in
theorem b_X6_rankOf {H : Heap} {locs : List Loc} {ls : Array Slot} {σ : um_S} {r : Int32} (a0 : Int32) (hX : um_X sh) (hf : f_X6_rankOf a0 σ = some r) (Cx : um_C p s m meth c args cX6_rankOf 1 (some FieldType.int) RX6 Z) (hW : um_W Z sh α σ H) (hS : va_S (um_D sh α) s.heap H locs) (hl : lv_has ls 1 [(0, .int a0)]) : um_G p l e (0) (0) s m args below meth c Z sh α σ (some (.int r)) H locs (F0 m 0 ls []) := by
  have hx := Cx.1
  have hb := Cx.2.1
  have hown := Cx.2.2.2.2.1
  have hts := Cx.2.2.2.2.2.1
  rw [f_X6_rankOf] at hf
  refine lv_iload_n (pc := 0) hx hb dX6_rankOf_0 rfl (lv_at hl 0 rfl) ?_
  by_cases c1 : a0 = (38 : Int32)
  · have hf := um_it c1 hf
    refine lv_lookup (pc := 1) (tgt := 86) hx hb dX6_rankOf_1 (by decide) (by first | (rw [c1]; done) | (rw [c1]; rfl)) (by decide) ?_
    refine lv_iconst (pc := 86) (v := (2 : Int32)) hx hb dX6_rankOf_86 (by decide) ?_
    exact um_iretR (pc := 87) Cx hW hS hf dX6_rankOf_87
  have hf := um_ie c1 hf
  by_cases c2 : a0 = (42 : Int32)
  · have hf := um_it c2 hf
    refine lv_lookup (pc := 1) (tgt := 98) hx hb dX6_rankOf_1 (by decide) (by first | (rw [c2]; done) | (rw [c2]; rfl)) (by decide) ?_
    refine lv_iconst (pc := 98) (v := (5 : Int32)) hx hb dX6_rankOf_98 (by decide) ?_
    exact um_iretR (pc := 99) Cx hW hS hf dX6_rankOf_99
  have hf := um_ie c2 hf
  by_cases c3 : a0 = (43 : Int32)
  · have hf := um_it c3 hf
    refine lv_lookup (pc := 1) (tgt := 94) hx hb dX6_rankOf_1 (by decide) (by first | (rw [c3]; done) | (rw [c3]; rfl)) (by decide) ?_
    refine lv_iconst (pc := 94) (v := (4 : Int32)) hx hb dX6_rankOf_94 (by decide) ?_
    exact um_iretR (pc := 95) Cx hW hS hf dX6_rankOf_95
  have hf := um_ie c3 hf
  by_cases c4 : a0 = (45 : Int32)
  · have hf := um_it c4 hf
    refine lv_lookup (pc := 1) (tgt := 96) hx hb dX6_rankOf_1 (by decide) (by first | (rw [c4]; done) | (rw [c4]; rfl)) (by decide) ?_
    refine lv_iconst (pc := 96) (v := (4 : Int32)) hx hb dX6_rankOf_96 (by decide) ?_
    exact um_iretR (pc := 97) Cx hW hS hf dX6_rankOf_97
  have hf := um_ie c4 hf
  by_cases c5 : a0 = (47 : Int32)
  · have hf := um_it c5 hf
    refine lv_lookup (pc := 1) (tgt := 100) hx hb dX6_rankOf_1 (by decide) (by first | (rw [c5]; done) | (rw [c5]; rfl)) (by decide) ?_
    refine lv_iconst (pc := 100) (v := (5 : Int32)) hx hb dX6_rankOf_100 (by decide) ?_
    exact um_iretR (pc := 101) Cx hW hS hf dX6_rankOf_101
  have hf := um_ie c5 hf
  by_cases c6 : a0 = (60 : Int32)
  · have hf := um_it c6 hf
    refine lv_lookup (pc := 1) (tgt := 88) hx hb dX6_rankOf_1 (by decide) (by first | (rw [c6]; done) | (rw [c6]; rfl)) (by decide) ?_
    refine lv_iconst (pc := 88) (v := (3 : Int32)) hx hb dX6_rankOf_88 (by decide) ?_
    exact um_iretR (pc := 89) Cx hW hS hf dX6_rankOf_89
  have hf := um_ie c6 hf
  by_cases c7 : a0 = (61 : Int32)
  · have hf := um_it c7 hf
    refine lv_lookup (pc := 1) (tgt := 90) hx hb dX6_rankOf_1 (by decide) (by first | (rw [c7]; done) | (rw [c7]; rfl)) (by decide) ?_
    refine lv_iconst (pc := 90) (v := (3 : Int32)) hx hb dX6_rankOf_90 (by decide) ?_
    exact um_iretR (pc := 91) Cx hW hS hf dX6_rankOf_91
  have hf := um_ie c7 hf
  by_cases c8 : a0 = (62 : Int32)
  · have hf := um_it c8 hf
    refine lv_lookup (pc := 1) (tgt := 92) hx hb dX6_rankOf_1 (by decide) (by first | (rw [c8]; done) | (rw [c8]; rfl)) (by decide) ?_
    refine lv_iconst (pc := 92) (v := (3 : Int32)) hx hb dX6_rankOf_92 (by decide) ?_
    exact um_iretR (pc := 93) Cx hW hS hf dX6_rankOf_93
  have hf := um_ie c8 hf
  by_cases c9 : a0 = (124 : Int32)
  · have hf := um_it c9 hf
    refine lv_lookup (pc := 1) (tgt := 84) hx hb dX6_rankOf_1 (by decide) (by first | (rw [c9]; done) | (rw [c9]; rfl)) (by decide) ?_
    refine lv_iconst (pc := 84) (v := (1 : Int32)) hx hb dX6_rankOf_84 (by decide) ?_
    exact um_iretR (pc := 85) Cx hW hS hf dX6_rankOf_85
  have hf := um_ie c9 hf
  have ho : Op.lookupswitch.offset [(38, 85), (42, 97), (43, 93), (45, 95), (47, 99), (60, 87), (61, 89), (62, 91), (124, 83)] 101 a0.toInt = 101 := um_lookO _ _ _ (fun q hq => by
    simp only [List.mem_cons, List.not_mem_nil, or_false] at hq
    rcases hq with rfl | rfl | rfl | rfl | rfl | rfl | rfl | rfl | rfl
    · exact c1
    · exact c2
    · exact c3
    · exact c4
    · exact c5
    · exact c6
    · exact c7
    · exact c8
    · exact c9)
  refine lv_lookup (pc := 1) (tgt := 102) hx hb dX6_rankOf_1 (by decide) ho (by decide) ?_
  refine lv_iconst (pc := 102) (v := (0 : Int32)) hx hb dX6_rankOf_102 (by decide) ?_
  exact um_iretR (pc := 103) Cx hW hS hf dX6_rankOf_103
theorem c_X6_rankOf {σ : um_S} {r : Int32} (a0 : Int32) (hX : um_X sh) (hf : f_X6_rankOf a0 σ = some r) : um_M l yX6_rankOf cX6_rankOf 1 (some FieldType.int) (0) (0) Z sh α σ [.int a0] (some (.int r)) σ :=
  um_start (by decide) (Nat.le_of_ble_eq_true rfl) (fun p e s m below meth c ls Cx hW hS hl => b_X6_rankOf a0 hX hf Cx hW hS hl)
noncomputable def f_X6_topSign  (σ : um_S) : Option (Int32) :=
    if (σ.1 4 10) ≤ 0 then
    (some (0 : Int32))
    else
    (if (nI 96) < (σ.1 4 10) then
    (some (0 : Int32))
    else
    (if um_ix ((σ.1 4 10) - (1 : Int32)) 96 then
    (some (σ.1 10 ((σ.1 4 10) - (1 : Int32)).toNatClampNeg)) else none))
set_option maxRecDepth 100000 in
set_option maxHeartbeats 4000000 in
theorem b_X6_topSign {H : Heap} {locs : List Loc} {ls : Array Slot} {σ : um_S} {r : Int32}  (hX : um_X sh) (hf : f_X6_topSign σ = some r) (Cx : um_C p s m meth c args cX6_topSign 1 (some FieldType.int) RX6 Z) (hW : um_W Z sh α σ H) (hS : va_S (um_D sh α) s.heap H locs) (hl : lv_has ls 1 [(0, .ref (α 4))]) : um_G p l e (0) (0) s m args below meth c Z sh α σ (some (.int r)) H locs (F0 m 0 ls []) := by
  have hx := Cx.1
  have hb := Cx.2.1
  have hown := Cx.2.2.2.2.1
  have hts := Cx.2.2.2.2.2.1
  rw [f_X6_topSign] at hf
  refine lv_aload_n (pc := 0) hx hb dX6_topSign_0 rfl (lv_at hl 0 rfl) ?_
  refine gF_X6_95 (pc := 1) Cx hW (hX 4 _ rfl) rfl dX6_topSign_1 ?_
  refine lv_if_le (pc := 4) (tgt := 33) hx hb dX6_topSign_4 (by decide) (fun c1 => ?_) (fun c1 => ?_)
  · have hf := um_it c1 hf
    clear c1
    refine lv_iconst (pc := 33) (v := (0 : Int32)) hx hb dX6_topSign_33 (by decide) ?_
    exact um_iretR (pc := 34) Cx hW hS hf dX6_topSign_34
  · have hf := um_ie c1 hf
    clear c1
    refine lv_aload_n (pc := 7) hx hb dX6_topSign_7 rfl (lv_at hl 0 rfl) ?_
    refine gF_X6_95 (pc := 8) Cx hW (hX 4 _ rfl) rfl dX6_topSign_8 ?_
    refine lv_aload_n (pc := 11) hx hb dX6_topSign_11 rfl (lv_at hl 0 rfl) ?_
    refine gF_X6_19 (pc := 12) Cx hW (hX 4 _ rfl) rfl dX6_topSign_12 ?_
    refine um_alen (pc := 15) (n := 96) Cx hW (hX 10 _ rfl) rfl (by decide) dX6_topSign_15 ?_
    refine lv_icmp_gt (pc := 16) (tgt := 33) hx hb dX6_topSign_16 (by decide) (fun c1 => ?_) (fun c1 => ?_)
    · have hf := um_it c1 hf
      clear c1
      refine lv_iconst (pc := 33) (v := (0 : Int32)) hx hb dX6_topSign_33 (by decide) ?_
      exact um_iretR (pc := 34) Cx hW hS hf dX6_topSign_34
    · have hf := um_ie c1 hf
      clear c1
      refine lv_aload_n (pc := 19) hx hb dX6_topSign_19 rfl (lv_at hl 0 rfl) ?_
      refine gF_X6_19 (pc := 20) Cx hW (hX 4 _ rfl) rfl dX6_topSign_20 ?_
      refine lv_aload_n (pc := 23) hx hb dX6_topSign_23 rfl (lv_at hl 0 rfl) ?_
      refine gF_X6_95 (pc := 24) Cx hW (hX 4 _ rfl) rfl dX6_topSign_24 ?_
      refine lv_iconst (pc := 27) (v := (1 : Int32)) hx hb dX6_topSign_27 (by decide) ?_
      refine lv_isub (pc := 28) hx hb dX6_topSign_28 ?_
      obtain ⟨g1, hf⟩ := um_gu hf
      refine um_iald (pc := 29) Cx hW (hX 10 _ rfl) rfl (um_ix_in g1) dX6_topSign_29 ?_
      refine lv_goto (pc := 30) (tgt := 34) hx hb dX6_topSign_30 (by decide) ?_
      exact um_iretR (pc := 34) Cx hW hS hf dX6_topSign_34
theorem c_X6_topSign {σ : um_S} {r : Int32}  (hX : um_X sh) (hf : f_X6_topSign σ = some r) : um_M l yX6_topSign cX6_topSign 1 (some FieldType.int) (0) (0) Z sh α σ [.ref (α 4)] (some (.int r)) σ :=
  um_start (by decide) (Nat.le_of_ble_eq_true rfl) (fun p e s m below meth c ls Cx hW hS hl => b_X6_topSign hX hf Cx hW hS hl)
noncomputable def f_X6_takeSign  (σ : um_S) : Option (Int32 × um_S) :=
    (f_X6_topSign σ).bind fun x2 =>
    (um_let (um_wr σ 4 10 (if (0 : Int32) < ((σ.1 4 10) - (1 : Int32)) then ((σ.1 4 10) - (1 : Int32)) else (0 : Int32))) fun σ3 =>
    (some (x2, σ3)))
set_option maxRecDepth 100000 in
set_option maxHeartbeats 4000000 in
theorem b_X6_takeSign {H : Heap} {locs : List Loc} {ls : Array Slot} {σ : um_S} {σ' : um_S} {r : Int32}  (hX : um_X sh) (hf : f_X6_takeSign σ = some (r, σ')) (Cx : um_C p s m meth c args cX6_takeSign 2 (some FieldType.int) RX6 Z) (hW : um_W Z sh α σ H) (hS : va_S (um_D sh α) s.heap H locs) (hl : lv_has ls 2 [(0, .ref (α 4))]) : um_G p l e (1) (30) s m args below meth c Z sh α σ' (some (.int r)) H locs (F0 m 0 ls []) := by
  have hx := Cx.1
  have hb := Cx.2.1
  have hown := Cx.2.2.2.2.1
  have hts := Cx.2.2.2.2.2.1
  rw [f_X6_takeSign] at hf
  refine lv_aload_n (pc := 0) hx hb dX6_takeSign_0 rfl (lv_at hl 0 rfl) ?_
  obtain ⟨x2, hc1, hf⟩ := um_bi hf
  refine um_cVi (pc := 1) (As := []) (rest := []) Cx (c_X6_topSign hX hc1) kV_X6_topSign (Or.inl qM_X6_167) hW hS (hX 4 _ rfl) rfl rfl hl rfl (Nat.le_of_ble_eq_true rfl) (Nat.le_of_ble_eq_true rfl) (Nat.le_of_ble_eq_true rfl) dX6_takeSign_1 (Nat.le_refl _) (Nat.le_refl _) ?_
  clear hW hS hc1
  intro H locs hW hS
  refine lv_istore_n (pc := 4) (lv' := [(1, .int x2), (0, .ref (α 4))]) hx hb dX6_takeSign_4 rfl hl (by decide) rfl ?_
  clear hl
  intro ls hl
  refine lv_aload_n (pc := 5) hx hb dX6_takeSign_5 rfl (lv_at hl 1 rfl) ?_
  refine lv_iconst (pc := 6) (v := (0 : Int32)) hx hb dX6_takeSign_6 (by decide) ?_
  refine lv_aload_n (pc := 7) hx hb dX6_takeSign_7 rfl (lv_at hl 1 rfl) ?_
  refine gF_X6_95 (pc := 8) Cx hW (hX 4 _ rfl) rfl dX6_takeSign_8 ?_
  refine lv_iconst (pc := 11) (v := (1 : Int32)) hx hb dX6_takeSign_11 (by decide) ?_
  refine lv_isub (pc := 12) hx hb dX6_takeSign_12 ?_
  refine va_mmax (pc := 13) (rest := [.ref (α 4)]) hx hb (Cx.2.2.2.1.trans hl.1.symm) hown (hts _ qM_X6_77) (hts _ qT_J9_max_7cf53) (hts _ qN_J9) (hts _ qK_J9_max_7cf53) (Nat.le_of_ble_eq_true rfl) (Nat.le_of_ble_eq_true rfl) (Nat.le_refl _) (Nat.le_refl _) dX6_takeSign_13 ?_
  refine gP_X6_95 (pc := 16) Cx hW hS (hX 4 _ rfl) rfl dX6_takeSign_16 ?_
  clear hW hS
  intro H locs hW hS
  obtain ⟨σ3, e4, hf⟩ := um_le hf
  rw [← e4] at hW
  clear e4
  refine lv_iload_n (pc := 19) hx hb dX6_takeSign_19 rfl (lv_at hl 0 rfl) ?_
  exact um_iret (pc := 20) Cx hW hS hf dX6_takeSign_20
theorem c_X6_takeSign {σ : um_S} {σ' : um_S} {r : Int32}  (hX : um_X sh) (hf : f_X6_takeSign σ = some (r, σ')) : um_M l yX6_takeSign cX6_takeSign 2 (some FieldType.int) (1) (30) Z sh α σ [.ref (α 4)] (some (.int r)) σ' :=
  um_start (by decide) (Nat.le_of_ble_eq_true rfl) (fun p e s m below meth c ls Cx hW hS hl => b_X6_takeSign hX hf Cx hW hS hl)
noncomputable def f_X6_write (a1 : Int32) (σ : um_S) : Option (um_S) :=
    if (σ.1 4 9) < 0 then
    (some σ)
    else
    (if (σ.1 4 9) < (nI 96) then
    (if um_ix (σ.1 4 9) 96 then
    (um_let (um_wr σ 9 (σ.1 4 9).toNatClampNeg a1) fun σ2 =>
    (um_let (um_wr σ2 4 9 ((σ2.1 4 9) + (1 : Int32))) fun σ4 =>
    (some σ4))) else none)
    else
    (some σ))
set_option maxRecDepth 100000 in
set_option maxHeartbeats 4000000 in
theorem b_X6_write {H : Heap} {locs : List Loc} {ls : Array Slot} {σ : um_S} {σ' : um_S} (a1 : Int32) (hX : um_X sh) (hf : f_X6_write a1 σ = some σ') (Cx : um_C p s m meth c args cX6_write 2 none RX6 Z) (hW : um_W Z sh α σ H) (hS : va_S (um_D sh α) s.heap H locs) (hl : lv_has ls 2 [(0, .ref (α 4)), (1, .int a1)]) : um_G p l e (0) (0) s m args below meth c Z sh α σ' none H locs (F0 m 0 ls []) := by
  have hx := Cx.1
  have hb := Cx.2.1
  have hown := Cx.2.2.2.2.1
  have hts := Cx.2.2.2.2.2.1
  rw [f_X6_write] at hf
  refine lv_aload_n (pc := 0) hx hb dX6_write_0 rfl (lv_at hl 0 rfl) ?_
  refine gF_X6_74 (pc := 1) Cx hW (hX 4 _ rfl) rfl dX6_write_1 ?_
  refine lv_if_lt (pc := 4) (tgt := 19) hx hb dX6_write_4 (by decide) (fun c1 => ?_) (fun c1 => ?_)
  · have hf := um_it c1 hf
    clear c1
    exact um_vret (pc := 19) Cx hW hS hf dX6_write_19
  · have hf := um_ie c1 hf
    clear c1
    refine lv_aload_n (pc := 7) hx hb dX6_write_7 rfl (lv_at hl 0 rfl) ?_
    refine gF_X6_74 (pc := 8) Cx hW (hX 4 _ rfl) rfl dX6_write_8 ?_
    refine lv_aload_n (pc := 11) hx hb dX6_write_11 rfl (lv_at hl 0 rfl) ?_
    refine gF_X6_15 (pc := 12) Cx hW (hX 4 _ rfl) rfl dX6_write_12 ?_
    refine um_alen (pc := 15) (n := 96) Cx hW (hX 9 _ rfl) rfl (by decide) dX6_write_15 ?_
    refine lv_icmp_lt (pc := 16) (tgt := 20) hx hb dX6_write_16 (by decide) (fun c1 => ?_) (fun c1 => ?_)
    · have hf := um_it c1 hf
      clear c1
      refine lv_aload_n (pc := 20) hx hb dX6_write_20 rfl (lv_at hl 0 rfl) ?_
      refine gF_X6_15 (pc := 21) Cx hW (hX 4 _ rfl) rfl dX6_write_21 ?_
      refine lv_aload_n (pc := 24) hx hb dX6_write_24 rfl (lv_at hl 0 rfl) ?_
      refine gF_X6_74 (pc := 25) Cx hW (hX 4 _ rfl) rfl dX6_write_25 ?_
      refine lv_iload_n (pc := 28) hx hb dX6_write_28 rfl (lv_at hl 1 rfl) ?_
      obtain ⟨g1, hf⟩ := um_gu hf
      refine um_iast (pc := 29) Cx hW hS (hX 9 _ rfl) rfl (um_ix_in g1) dX6_write_29 ?_
      clear hW hS
      intro H locs hW hS
      obtain ⟨σ2, e3, hf⟩ := um_le hf
      rw [← e3] at hW
      clear e3
      refine lv_aload_n (pc := 30) hx hb dX6_write_30 rfl (lv_at hl 0 rfl) ?_
      refine lv_dup (pc := 31) hx hb dX6_write_31 rfl ?_
      refine gF_X6_74 (pc := 32) Cx hW (hX 4 _ rfl) rfl dX6_write_32 ?_
      refine lv_iconst (pc := 35) (v := (1 : Int32)) hx hb dX6_write_35 (by decide) ?_
      refine lv_iadd (pc := 36) hx hb dX6_write_36 ?_
      refine gP_X6_74 (pc := 37) Cx hW hS (hX 4 _ rfl) rfl dX6_write_37 ?_
      clear hW hS
      intro H locs hW hS
      obtain ⟨σ4, e5, hf⟩ := um_le hf
      rw [← e5] at hW
      clear e5
      exact um_vret (pc := 40) Cx hW hS hf dX6_write_40
    · have hf := um_ie c1 hf
      clear c1
      exact um_vret (pc := 19) Cx hW hS hf dX6_write_19
theorem c_X6_write {σ : um_S} {σ' : um_S} (a1 : Int32) (hX : um_X sh) (hf : f_X6_write a1 σ = some σ') : um_M l yX6_write cX6_write 2 none (0) (0) Z sh α σ [.ref (α 4), .int a1] none σ' :=
  um_start (by decide) (Nat.le_of_ble_eq_true rfl) (fun p e s m below meth c ls Cx hW hS hl => b_X6_write a1 hX hf Cx hW hS hl)
noncomputable def f_X6_settle_l2 (v1 : Int32) : Nat → Int32 → um_S → Option (um_S)
  | 0, _, _ => none
  | n + 1, v2, σ =>
    if (96 : Int32) ≤ v2 then
    (some σ)
    else
    ((f_X6_topSign σ).bind fun x2 =>
    ((f_X6_rankOf x2 σ).bind fun x4 =>
    (if x4 < v1 then
    (some σ)
    else
    (um_b2 (f_X6_takeSign σ) fun x7 σ6 =>
    ((f_X6_write (-x7) σ6).bind fun σ9 =>
    (f_X6_settle_l2 v1 n (v2 + (1 : Int32)) σ9))))))
noncomputable def f_X6_settle (a1 : Int32) (σ : um_S) : Option (um_S) :=
    (f_X6_settle_l2 a1 um_N (0 : Int32) σ).bind fun σ1 =>
    (some σ1)
set_option maxRecDepth 100000 in
set_option maxHeartbeats 4000000 in
theorem t_X6_settle_l2 {Q : State → Prop} {σo : um_S} (v1 : Int32) (hX : um_X sh) (Cx : um_C p s m meth c args cX6_settle 3 none RX6 Z) (hE : ∀ (H : Heap) (locs : List Loc) (ls : Array Slot), um_W Z sh α σo H → va_S (um_D sh α) s.heap H locs → lv_has ls 3 [] → W p l e { frames := 2, cells := 0, slots := 0, locals := 51 } s m args below meth c H locs 0 0 Q (F0 m 34 ls [])) : ∀ (n : Nat) (v2 : Int32) (σ : um_S) (H : Heap) (locs : List Loc) (ls : Array Slot), f_X6_settle_l2 v1 n v2 σ = some σo → um_W Z sh α σ H → va_S (um_D sh α) s.heap H locs → lv_has ls 3 [(0, .ref (α 4)), (1, .int v1), (2, .int v2)] → W p l e { frames := 2, cells := 0, slots := 0, locals := 51 } s m args below meth c H locs 0 0 Q (F0 m 2 ls []) := by
  have hx := Cx.1
  have hb := Cx.2.1
  have hown := Cx.2.2.2.2.1
  have hts := Cx.2.2.2.2.2.1
  intro n
  induction n with
  | zero =>
    intro v2 σ H locs ls hf hW hS hl
    cases hf
  | succ n ih =>
    intro v2 σ H locs ls hf hW hS hl
    rw [f_X6_settle_l2] at hf
    refine lv_iload_n (pc := 2) hx hb dX6_settle_2 rfl (lv_at hl 2 rfl) ?_
    refine lv_bipush (pc := 3) (v := (96 : Int32)) hx hb dX6_settle_3 (by decide) ?_
    refine lv_icmp_ge (pc := 5) (tgt := 34) hx hb dX6_settle_5 (by decide) (fun c1 => ?_) (fun c1 => ?_)
    · have hf := um_it c1 hf
      clear c1
      cases hf
      exact hE _ _ _ hW hS (lv_sub hl [] rfl)
    · have hf := um_ie c1 hf
      clear c1
      refine lv_aload_n (pc := 8) hx hb dX6_settle_8 rfl (lv_at hl 0 rfl) ?_
      obtain ⟨x2, hc1, hf⟩ := um_bi hf
      refine um_cVi (pc := 9) (As := []) (rest := []) Cx (c_X6_topSign hX hc1) kV_X6_topSign (Or.inl qM_X6_167) hW hS (hX 4 _ rfl) rfl rfl hl rfl (Nat.le_of_ble_eq_true rfl) (Nat.le_of_ble_eq_true rfl) (Nat.le_of_ble_eq_true rfl) dX6_settle_9 (Nat.le_refl _) (Nat.le_refl _) ?_
      clear hW hS hc1
      intro H locs hW hS
      obtain ⟨x4, hc3, hf⟩ := um_bi hf
      refine um_cSi (pc := 12) (As := [.int x2]) (rest := []) Cx (c_X6_rankOf x2 hX hc3) kS_X6_rankOf (Or.inl qM_X6_176) hW hS rfl hl rfl (Nat.le_of_ble_eq_true rfl) (Nat.le_of_ble_eq_true rfl) (Nat.le_of_ble_eq_true rfl) dX6_settle_12 (Nat.le_refl _) (Nat.le_refl _) ?_
      clear hW hS hc3
      intro H locs hW hS
      refine lv_iload_n (pc := 15) hx hb dX6_settle_15 rfl (lv_at hl 1 rfl) ?_
      refine lv_icmp_lt (pc := 16) (tgt := 34) hx hb dX6_settle_16 (by decide) (fun c1 => ?_) (fun c1 => ?_)
      · have hf := um_it c1 hf
        clear c1
        cases hf
        exact hE _ _ _ hW hS (lv_sub hl [] rfl)
      · have hf := um_ie c1 hf
        clear c1
        refine lv_aload_n (pc := 19) hx hb dX6_settle_19 rfl (lv_at hl 0 rfl) ?_
        refine lv_aload_n (pc := 20) hx hb dX6_settle_20 rfl (lv_at hl 0 rfl) ?_
        obtain ⟨x7, σ6, hc5, hf⟩ := um_bi2 hf
        refine um_cVi (pc := 21) (As := []) (rest := [.ref (α 4)]) Cx (c_X6_takeSign hX hc5) kV_X6_takeSign (Or.inl qM_X6_170) hW hS (hX 4 _ rfl) rfl rfl hl rfl (Nat.le_of_ble_eq_true rfl) (Nat.le_of_ble_eq_true rfl) (Nat.le_of_ble_eq_true rfl) dX6_settle_21 (Nat.le_refl _) (Nat.le_refl _) ?_
        clear hW hS hc5
        intro H locs hW hS
        refine lv_ineg (pc := 24) hx hb dX6_settle_24 ?_
        obtain ⟨σ9, hc8, hf⟩ := um_bi hf
        refine um_cVv (pc := 25) (As := [.int (-x7)]) (rest := []) Cx (c_X6_write (-x7) hX hc8) kV_X6_write (Or.inl qM_X6_161) hW hS (hX 4 _ rfl) rfl rfl hl rfl (Nat.le_of_ble_eq_true rfl) (Nat.le_of_ble_eq_true rfl) (Nat.le_of_ble_eq_true rfl) dX6_settle_25 (Nat.le_refl _) (Nat.le_refl _) ?_
        clear hW hS hc8
        intro H locs hW hS
        refine lv_iinc (pc := 28) (v := v2 + (1 : Int32)) (lv' := [(2, .int (v2 + (1 : Int32))), (0, .ref (α 4)), (1, .int v1)]) hx hb dX6_settle_28 hl (k := 2) rfl rfl (by decide) rfl ?_
        clear hl
        intro ls hl
        refine lv_goto (pc := 31) (tgt := 2) hx hb dX6_settle_31 (by decide) ?_
        exact ih _ _ _ _ _ hf hW hS (lv_sub hl [1, 2, 0] rfl)
set_option maxRecDepth 100000 in
set_option maxHeartbeats 4000000 in
theorem b_X6_settle {H : Heap} {locs : List Loc} {ls : Array Slot} {σ : um_S} {σ' : um_S} (a1 : Int32) (hX : um_X sh) (hf : f_X6_settle a1 σ = some σ') (Cx : um_C p s m meth c args cX6_settle 3 none RX6 Z) (hW : um_W Z sh α σ H) (hS : va_S (um_D sh α) s.heap H locs) (hl : lv_has ls 3 [(0, .ref (α 4)), (1, .int a1)]) : um_G p l e (2) (51) s m args below meth c Z sh α σ' none H locs (F0 m 0 ls []) := by
  have hx := Cx.1
  have hb := Cx.2.1
  have hown := Cx.2.2.2.2.1
  have hts := Cx.2.2.2.2.2.1
  rw [f_X6_settle] at hf
  refine lv_iconst (pc := 0) (v := (0 : Int32)) hx hb dX6_settle_0 (by decide) ?_
  refine lv_istore_n (pc := 1) (lv' := [(2, .int (0 : Int32)), (0, .ref (α 4)), (1, .int a1)]) hx hb dX6_settle_1 rfl hl (by decide) rfl ?_
  clear hl
  intro ls hl
  obtain ⟨σ1, hc2, hf⟩ := um_bi hf
  refine t_X6_settle_l2 a1 hX Cx ?_ um_N _ _ _ _ _ hc2 hW hS (lv_sub hl [1, 2, 0] rfl)
  clear hW hS hl hc2
  intro H locs ls hW hS hl
  exact um_vret (pc := 34) Cx hW hS hf dX6_settle_34
theorem c_X6_settle {σ : um_S} {σ' : um_S} (a1 : Int32) (hX : um_X sh) (hf : f_X6_settle a1 σ = some σ') : um_M l yX6_settle cX6_settle 3 none (2) (51) Z sh α σ [.ref (α 4), .int a1] none σ' :=
  um_start (by decide) (Nat.le_of_ble_eq_true rfl) (fun p e s m below meth c ls Cx hW hS hl => b_X6_settle a1 hX hf Cx hW hS hl)
noncomputable def f_X6_begin  (σ : um_S) : Option (um_S) :=
    um_let (um_wr σ 4 2 (0 : Int32)) fun σ1 =>
    (um_let (um_wr σ1 4 3 (0 : Int32)) fun σ3 =>
    (um_let (um_wr σ3 4 4 (0 : Int32)) fun σ5 =>
    (um_let (um_wr σ5 4 6 (um_b true)) fun σ7 =>
    (um_let (um_wr σ7 4 9 (0 : Int32)) fun σ9 =>
    (um_let (um_wr σ9 4 10 (0 : Int32)) fun σ11 =>
    (um_let (um_wr σ11 4 12 (0 : Int32)) fun σ13 =>
    (um_let (um_wr σ13 4 13 (0 : Int32)) fun σ15 =>
    (um_let (um_wr σ15 4 14 (0 : Int32)) fun σ17 =>
    (some σ17)))))))))
set_option maxRecDepth 100000 in
set_option maxHeartbeats 4000000 in
theorem b_X6_begin {H : Heap} {locs : List Loc} {ls : Array Slot} {σ : um_S} {σ' : um_S}  (hX : um_X sh) (hf : f_X6_begin σ = some σ') (Cx : um_C p s m meth c args cX6_begin 1 none RX6 Z) (hW : um_W Z sh α σ H) (hS : va_S (um_D sh α) s.heap H locs) (hl : lv_has ls 1 [(0, .ref (α 4))]) : um_G p l e (0) (0) s m args below meth c Z sh α σ' none H locs (F0 m 0 ls []) := by
  have hx := Cx.1
  have hb := Cx.2.1
  have hown := Cx.2.2.2.2.1
  have hts := Cx.2.2.2.2.2.1
  rw [f_X6_begin] at hf
  refine lv_aload_n (pc := 0) hx hb dX6_begin_0 rfl (lv_at hl 0 rfl) ?_
  refine lv_iconst (pc := 1) (v := (0 : Int32)) hx hb dX6_begin_1 (by decide) ?_
  refine gP_X6_43 (pc := 2) Cx hW hS (hX 4 _ rfl) rfl dX6_begin_2 ?_
  clear hW hS
  intro H locs hW hS
  obtain ⟨σ1, e2, hf⟩ := um_le hf
  rw [← e2] at hW
  clear e2
  refine lv_aload_n (pc := 5) hx hb dX6_begin_5 rfl (lv_at hl 0 rfl) ?_
  refine lv_iconst (pc := 6) (v := (0 : Int32)) hx hb dX6_begin_6 (by decide) ?_
  refine gP_X6_92 (pc := 7) Cx hW hS (hX 4 _ rfl) rfl dX6_begin_7 ?_
  clear hW hS
  intro H locs hW hS
  obtain ⟨σ3, e4, hf⟩ := um_le hf
  rw [← e4] at hW
  clear e4
  refine lv_aload_n (pc := 10) hx hb dX6_begin_10 rfl (lv_at hl 0 rfl) ?_
  refine lv_iconst (pc := 11) (v := (0 : Int32)) hx hb dX6_begin_11 (by decide) ?_
  refine gP_X6_46 (pc := 12) Cx hW hS (hX 4 _ rfl) rfl dX6_begin_12 ?_
  clear hW hS
  intro H locs hW hS
  obtain ⟨σ5, e6, hf⟩ := um_le hf
  rw [← e6] at hW
  clear e6
  refine lv_aload_n (pc := 15) hx hb dX6_begin_15 rfl (lv_at hl 0 rfl) ?_
  refine lv_iconst (pc := 16) (v := (1 : Int32)) hx hb dX6_begin_16 (by decide) ?_
  refine gP_X6_57 (b := true) (pc := 17) Cx hW hS (hX 4 _ rfl) rfl dX6_begin_17 ?_
  clear hW hS
  intro H locs hW hS
  obtain ⟨σ7, e8, hf⟩ := um_le hf
  rw [← e8] at hW
  clear e8
  refine lv_aload_n (pc := 20) hx hb dX6_begin_20 rfl (lv_at hl 0 rfl) ?_
  refine lv_iconst (pc := 21) (v := (0 : Int32)) hx hb dX6_begin_21 (by decide) ?_
  refine gP_X6_74 (pc := 22) Cx hW hS (hX 4 _ rfl) rfl dX6_begin_22 ?_
  clear hW hS
  intro H locs hW hS
  obtain ⟨σ9, e10, hf⟩ := um_le hf
  rw [← e10] at hW
  clear e10
  refine lv_aload_n (pc := 25) hx hb dX6_begin_25 rfl (lv_at hl 0 rfl) ?_
  refine lv_iconst (pc := 26) (v := (0 : Int32)) hx hb dX6_begin_26 (by decide) ?_
  refine gP_X6_95 (pc := 27) Cx hW hS (hX 4 _ rfl) rfl dX6_begin_27 ?_
  clear hW hS
  intro H locs hW hS
  obtain ⟨σ11, e12, hf⟩ := um_le hf
  rw [← e12] at hW
  clear e12
  refine lv_aload_n (pc := 30) hx hb dX6_begin_30 rfl (lv_at hl 0 rfl) ?_
  refine lv_iconst (pc := 31) (v := (0 : Int32)) hx hb dX6_begin_31 (by decide) ?_
  refine gP_X6_71 (pc := 32) Cx hW hS (hX 4 _ rfl) rfl dX6_begin_32 ?_
  clear hW hS
  intro H locs hW hS
  obtain ⟨σ13, e14, hf⟩ := um_le hf
  rw [← e14] at hW
  clear e14
  refine lv_aload_n (pc := 35) hx hb dX6_begin_35 rfl (lv_at hl 0 rfl) ?_
  refine lv_iconst (pc := 36) (v := (0 : Int32)) hx hb dX6_begin_36 (by decide) ?_
  refine gP_X6_98 (pc := 37) Cx hW hS (hX 4 _ rfl) rfl dX6_begin_37 ?_
  clear hW hS
  intro H locs hW hS
  obtain ⟨σ15, e16, hf⟩ := um_le hf
  rw [← e16] at hW
  clear e16
  refine lv_aload_n (pc := 40) hx hb dX6_begin_40 rfl (lv_at hl 0 rfl) ?_
  refine lv_iconst (pc := 41) (v := (0 : Int32)) hx hb dX6_begin_41 (by decide) ?_
  refine gP_X6_101 (pc := 42) Cx hW hS (hX 4 _ rfl) rfl dX6_begin_42 ?_
  clear hW hS
  intro H locs hW hS
  obtain ⟨σ17, e18, hf⟩ := um_le hf
  rw [← e18] at hW
  clear e18
  exact um_vret (pc := 45) Cx hW hS hf dX6_begin_45
theorem c_X6_begin {σ : um_S} {σ' : um_S}  (hX : um_X sh) (hf : f_X6_begin σ = some σ') : um_M l yX6_begin cX6_begin 1 none (0) (0) Z sh α σ [.ref (α 4)] none σ' :=
  um_start (by decide) (Nat.le_of_ble_eq_true rfl) (fun p e s m below meth c ls Cx hW hS hl => b_X6_begin hX hf Cx hW hS hl)
noncomputable def f_X6_byteAt (a1 : Int32) (σ : um_S) : Option (Int32) :=
    if a1 < 0 then
    (some (-1 : Int32))
    else
    (if (σ.1 4 1) ≤ a1 then
    (some (-1 : Int32))
    else
    (if (nI 96) ≤ a1 then
    (some (-1 : Int32))
    else
    (if um_ix a1 96 then
    (some ((σ.1 8 a1.toNatClampNeg) &&& (255 : Int32))) else none)))
set_option maxRecDepth 100000 in
set_option maxHeartbeats 4000000 in
theorem b_X6_byteAt {H : Heap} {locs : List Loc} {ls : Array Slot} {σ : um_S} {r : Int32} (a1 : Int32) (hX : um_X sh) (hf : f_X6_byteAt a1 σ = some r) (Cx : um_C p s m meth c args cX6_byteAt 2 (some FieldType.int) RX6 Z) (hW : um_W Z sh α σ H) (hS : va_S (um_D sh α) s.heap H locs) (hl : lv_has ls 2 [(0, .ref (α 4)), (1, .int a1)]) : um_G p l e (0) (0) s m args below meth c Z sh α σ (some (.int r)) H locs (F0 m 0 ls []) := by
  have hx := Cx.1
  have hb := Cx.2.1
  have hown := Cx.2.2.2.2.1
  have hts := Cx.2.2.2.2.2.1
  rw [f_X6_byteAt] at hf
  refine lv_iload_n (pc := 0) hx hb dX6_byteAt_0 rfl (lv_at hl 1 rfl) ?_
  refine lv_if_lt (pc := 1) (tgt := 34) hx hb dX6_byteAt_1 (by decide) (fun c1 => ?_) (fun c1 => ?_)
  · have hf := um_it c1 hf
    clear c1
    refine lv_iconst (pc := 34) (v := (-1 : Int32)) hx hb dX6_byteAt_34 (by decide) ?_
    exact um_iretR (pc := 35) Cx hW hS hf dX6_byteAt_35
  · have hf := um_ie c1 hf
    clear c1
    refine lv_iload_n (pc := 4) hx hb dX6_byteAt_4 rfl (lv_at hl 1 rfl) ?_
    refine lv_aload_n (pc := 5) hx hb dX6_byteAt_5 rfl (lv_at hl 0 rfl) ?_
    refine gF_X6_22 (pc := 6) Cx hW (hX 4 _ rfl) rfl dX6_byteAt_6 ?_
    refine lv_icmp_ge (pc := 9) (tgt := 34) hx hb dX6_byteAt_9 (by decide) (fun c1 => ?_) (fun c1 => ?_)
    · have hf := um_it c1 hf
      clear c1
      refine lv_iconst (pc := 34) (v := (-1 : Int32)) hx hb dX6_byteAt_34 (by decide) ?_
      exact um_iretR (pc := 35) Cx hW hS hf dX6_byteAt_35
    · have hf := um_ie c1 hf
      clear c1
      refine lv_iload_n (pc := 12) hx hb dX6_byteAt_12 rfl (lv_at hl 1 rfl) ?_
      refine lv_aload_n (pc := 13) hx hb dX6_byteAt_13 rfl (lv_at hl 0 rfl) ?_
      refine gF_X6_9 (pc := 14) Cx hW (hX 4 _ rfl) rfl dX6_byteAt_14 ?_
      refine um_alen (pc := 17) (n := 96) Cx hW (hX 8 _ rfl) rfl (by decide) dX6_byteAt_17 ?_
      refine lv_icmp_ge (pc := 18) (tgt := 34) hx hb dX6_byteAt_18 (by decide) (fun c1 => ?_) (fun c1 => ?_)
      · have hf := um_it c1 hf
        clear c1
        refine lv_iconst (pc := 34) (v := (-1 : Int32)) hx hb dX6_byteAt_34 (by decide) ?_
        exact um_iretR (pc := 35) Cx hW hS hf dX6_byteAt_35
      · have hf := um_ie c1 hf
        clear c1
        refine lv_aload_n (pc := 21) hx hb dX6_byteAt_21 rfl (lv_at hl 0 rfl) ?_
        refine gF_X6_9 (pc := 22) Cx hW (hX 4 _ rfl) rfl dX6_byteAt_22 ?_
        refine lv_iload_n (pc := 25) hx hb dX6_byteAt_25 rfl (lv_at hl 1 rfl) ?_
        obtain ⟨g1, hf⟩ := um_gu hf
        refine um_bald (pc := 26) Cx hW (hX 8 _ rfl) rfl (um_ix_in g1) dX6_byteAt_26 ?_
        refine lv_sipush (pc := 27) (v := (255 : Int32)) hx hb dX6_byteAt_27 (by decide) ?_
        refine lv_iand (pc := 30) hx hb dX6_byteAt_30 ?_
        refine lv_goto (pc := 31) (tgt := 35) hx hb dX6_byteAt_31 (by decide) ?_
        exact um_iretR (pc := 35) Cx hW hS hf dX6_byteAt_35
theorem c_X6_byteAt {σ : um_S} {r : Int32} (a1 : Int32) (hX : um_X sh) (hf : f_X6_byteAt a1 σ = some r) : um_M l yX6_byteAt cX6_byteAt 2 (some FieldType.int) (0) (0) Z sh α σ [.ref (α 4), .int a1] (some (.int r)) σ :=
  um_start (by decide) (Nat.le_of_ble_eq_true rfl) (fun p e s m below meth c ls Cx hW hS hl => b_X6_byteAt a1 hX hf Cx hW hS hl)
noncomputable def f_X6_endPart_l2  : Nat → Int32 → um_S → Option (um_S)
  | 0, _, _ => none
  | n + 1, v1, σ =>
    if (8 : Int32) ≤ v1 then
    (some σ)
    else
    ((f_X6_topSign σ).bind fun x2 =>
    (if x2 = (33 : Int32) then
    (um_b2 (f_X6_takeSign σ) fun x5 σ4 =>
    ((f_X6_write (-x5) σ4).bind fun σ7 =>
    (um_let (um_wr σ7 4 14 ((σ7.1 4 14) - (1 : Int32))) fun σ8 =>
    (f_X6_endPart_l2 n (v1 + (1 : Int32)) σ8))))
    else
    (some σ)))
noncomputable def f_X6_endPart  (σ : um_S) : Option (um_S) :=
    (f_X6_endPart_l2 um_N (0 : Int32) σ).bind fun σ1 =>
    (um_let (um_wr σ1 4 6 (um_b false)) fun σ3 =>
    (some σ3))
set_option maxRecDepth 100000 in
set_option maxHeartbeats 4000000 in
theorem t_X6_endPart_l2 {Q : State → Prop} {σo : um_S}  (hX : um_X sh) (Cx : um_C p s m meth c args cX6_endPart 2 none RX6 Z) (hE : ∀ (H : Heap) (locs : List Loc) (ls : Array Slot), um_W Z sh α σo H → va_S (um_D sh α) s.heap H locs → lv_has ls 2 [(0, .ref (α 4))] → W p l e { frames := 2, cells := 0, slots := 0, locals := 51 } s m args below meth c H locs 0 0 Q (F0 m 42 ls [])) : ∀ (n : Nat) (v1 : Int32) (σ : um_S) (H : Heap) (locs : List Loc) (ls : Array Slot), f_X6_endPart_l2 n v1 σ = some σo → um_W Z sh α σ H → va_S (um_D sh α) s.heap H locs → lv_has ls 2 [(0, .ref (α 4)), (1, .int v1)] → W p l e { frames := 2, cells := 0, slots := 0, locals := 51 } s m args below meth c H locs 0 0 Q (F0 m 2 ls []) := by
  have hx := Cx.1
  have hb := Cx.2.1
  have hown := Cx.2.2.2.2.1
  have hts := Cx.2.2.2.2.2.1
  intro n
  induction n with
  | zero =>
    intro v1 σ H locs ls hf hW hS hl
    cases hf
  | succ n ih =>
    intro v1 σ H locs ls hf hW hS hl
    rw [f_X6_endPart_l2] at hf
    refine lv_iload_n (pc := 2) hx hb dX6_endPart_2 rfl (lv_at hl 1 rfl) ?_
    refine lv_bipush (pc := 3) (v := (8 : Int32)) hx hb dX6_endPart_3 (by decide) ?_
    refine lv_icmp_ge (pc := 5) (tgt := 42) hx hb dX6_endPart_5 (by decide) (fun c1 => ?_) (fun c1 => ?_)
    · have hf := um_it c1 hf
      clear c1
      cases hf
      exact hE _ _ _ hW hS (lv_sub hl [0] rfl)
    · have hf := um_ie c1 hf
      clear c1
      refine lv_aload_n (pc := 8) hx hb dX6_endPart_8 rfl (lv_at hl 0 rfl) ?_
      obtain ⟨x2, hc1, hf⟩ := um_bi hf
      refine um_cVi (pc := 9) (As := []) (rest := []) Cx (c_X6_topSign hX hc1) kV_X6_topSign (Or.inl qM_X6_167) hW hS (hX 4 _ rfl) rfl rfl hl rfl (Nat.le_of_ble_eq_true rfl) (Nat.le_of_ble_eq_true rfl) (Nat.le_of_ble_eq_true rfl) dX6_endPart_9 (Nat.le_refl _) (Nat.le_refl _) ?_
      clear hW hS hc1
      intro H locs hW hS
      refine lv_bipush (pc := 12) (v := (33 : Int32)) hx hb dX6_endPart_12 (by decide) ?_
      refine lv_icmp_ne (pc := 14) (tgt := 42) hx hb dX6_endPart_14 (by decide) (fun c1 => ?_) (fun c1 => ?_)
      · have hf := um_ie c1 hf
        clear c1
        cases hf
        exact hE _ _ _ hW hS (lv_sub hl [0] rfl)
      · have hf := um_it c1 hf
        clear c1
        refine lv_aload_n (pc := 17) hx hb dX6_endPart_17 rfl (lv_at hl 0 rfl) ?_
        refine lv_aload_n (pc := 18) hx hb dX6_endPart_18 rfl (lv_at hl 0 rfl) ?_
        obtain ⟨x5, σ4, hc3, hf⟩ := um_bi2 hf
        refine um_cVi (pc := 19) (As := []) (rest := [.ref (α 4)]) Cx (c_X6_takeSign hX hc3) kV_X6_takeSign (Or.inl qM_X6_170) hW hS (hX 4 _ rfl) rfl rfl hl rfl (Nat.le_of_ble_eq_true rfl) (Nat.le_of_ble_eq_true rfl) (Nat.le_of_ble_eq_true rfl) dX6_endPart_19 (Nat.le_refl _) (Nat.le_refl _) ?_
        clear hW hS hc3
        intro H locs hW hS
        refine lv_ineg (pc := 22) hx hb dX6_endPart_22 ?_
        obtain ⟨σ7, hc6, hf⟩ := um_bi hf
        refine um_cVv (pc := 23) (As := [.int (-x5)]) (rest := []) Cx (c_X6_write (-x5) hX hc6) kV_X6_write (Or.inl qM_X6_161) hW hS (hX 4 _ rfl) rfl rfl hl rfl (Nat.le_of_ble_eq_true rfl) (Nat.le_of_ble_eq_true rfl) (Nat.le_of_ble_eq_true rfl) dX6_endPart_23 (Nat.le_refl _) (Nat.le_refl _) ?_
        clear hW hS hc6
        intro H locs hW hS
        refine lv_aload_n (pc := 26) hx hb dX6_endPart_26 rfl (lv_at hl 0 rfl) ?_
        refine lv_dup (pc := 27) hx hb dX6_endPart_27 rfl ?_
        refine gF_X6_101 (pc := 28) Cx hW (hX 4 _ rfl) rfl dX6_endPart_28 ?_
        refine lv_iconst (pc := 31) (v := (1 : Int32)) hx hb dX6_endPart_31 (by decide) ?_
        refine lv_isub (pc := 32) hx hb dX6_endPart_32 ?_
        refine gP_X6_101 (pc := 33) Cx hW hS (hX 4 _ rfl) rfl dX6_endPart_33 ?_
        clear hW hS
        intro H locs hW hS
        obtain ⟨σ8, e9, hf⟩ := um_le hf
        rw [← e9] at hW
        clear e9
        refine lv_iinc (pc := 36) (v := v1 + (1 : Int32)) (lv' := [(1, .int (v1 + (1 : Int32))), (0, .ref (α 4))]) hx hb dX6_endPart_36 hl (k := 1) rfl rfl (by decide) rfl ?_
        clear hl
        intro ls hl
        refine lv_goto (pc := 39) (tgt := 2) hx hb dX6_endPart_39 (by decide) ?_
        exact ih _ _ _ _ _ hf hW hS (lv_sub hl [1, 0] rfl)
set_option maxRecDepth 100000 in
set_option maxHeartbeats 4000000 in
theorem b_X6_endPart {H : Heap} {locs : List Loc} {ls : Array Slot} {σ : um_S} {σ' : um_S}  (hX : um_X sh) (hf : f_X6_endPart σ = some σ') (Cx : um_C p s m meth c args cX6_endPart 2 none RX6 Z) (hW : um_W Z sh α σ H) (hS : va_S (um_D sh α) s.heap H locs) (hl : lv_has ls 2 [(0, .ref (α 4))]) : um_G p l e (2) (51) s m args below meth c Z sh α σ' none H locs (F0 m 0 ls []) := by
  have hx := Cx.1
  have hb := Cx.2.1
  have hown := Cx.2.2.2.2.1
  have hts := Cx.2.2.2.2.2.1
  rw [f_X6_endPart] at hf
  refine lv_iconst (pc := 0) (v := (0 : Int32)) hx hb dX6_endPart_0 (by decide) ?_
  refine lv_istore_n (pc := 1) (lv' := [(1, .int (0 : Int32)), (0, .ref (α 4))]) hx hb dX6_endPart_1 rfl hl (by decide) rfl ?_
  clear hl
  intro ls hl
  obtain ⟨σ1, hc2, hf⟩ := um_bi hf
  refine t_X6_endPart_l2 hX Cx ?_ um_N _ _ _ _ _ hc2 hW hS (lv_sub hl [1, 0] rfl)
  clear hW hS hl hc2
  intro H locs ls hW hS hl
  refine lv_aload_n (pc := 42) hx hb dX6_endPart_42 rfl (lv_at hl 0 rfl) ?_
  refine lv_iconst (pc := 43) (v := (0 : Int32)) hx hb dX6_endPart_43 (by decide) ?_
  refine gP_X6_57 (b := false) (pc := 44) Cx hW hS (hX 4 _ rfl) rfl dX6_endPart_44 ?_
  clear hW hS
  intro H locs hW hS
  obtain ⟨σ3, e4, hf⟩ := um_le hf
  rw [← e4] at hW
  clear e4
  exact um_vret (pc := 47) Cx hW hS hf dX6_endPart_47
theorem c_X6_endPart {σ : um_S} {σ' : um_S}  (hX : um_X sh) (hf : f_X6_endPart σ = some σ') : um_M l yX6_endPart cX6_endPart 2 none (2) (51) Z sh α σ [.ref (α 4)] none σ' :=
  um_start (by decide) (Nat.le_of_ble_eq_true rfl) (fun p e s m below meth c ls Cx hW hS hl => b_X6_endPart hX hf Cx hW hS hl)
noncomputable def f_X6_endsTooSoon  (σ : um_S) : Option (Bool) :=
    if (σ.1 4 6) = 0 then
    (if (σ.1 4 13) ≤ 0 then
    (some false)
    else
    (some true))
    else
    (some true)
set_option maxRecDepth 100000 in
set_option maxHeartbeats 4000000 in
theorem b_X6_endsTooSoon {H : Heap} {locs : List Loc} {ls : Array Slot} {σ : um_S} {r : Bool}  (hX : um_X sh) (hf : f_X6_endsTooSoon σ = some r) (Cx : um_C p s m meth c args cX6_endsTooSoon 1 (some FieldType.boolean) RX6 Z) (hW : um_W Z sh α σ H) (hS : va_S (um_D sh α) s.heap H locs) (hl : lv_has ls 1 [(0, .ref (α 4))]) : um_G p l e (0) (0) s m args below meth c Z sh α σ (some (.int (um_b r))) H locs (F0 m 0 ls []) := by
  have hx := Cx.1
  have hb := Cx.2.1
  have hown := Cx.2.2.2.2.1
  have hts := Cx.2.2.2.2.2.1
  rw [f_X6_endsTooSoon] at hf
  refine lv_aload_n (pc := 0) hx hb dX6_endsTooSoon_0 rfl (lv_at hl 0 rfl) ?_
  refine gF_X6_57 (pc := 1) Cx hW (hX 4 _ rfl) rfl dX6_endsTooSoon_1 ?_
  refine lv_if_ne (pc := 4) (tgt := 14) hx hb dX6_endsTooSoon_4 (by decide) (fun c1 => ?_) (fun c1 => ?_)
  · have hf := um_ie c1 hf
    clear c1
    refine lv_iconst (pc := 14) (v := (1 : Int32)) hx hb dX6_endsTooSoon_14 (by decide) ?_
    refine lv_goto (pc := 15) (tgt := 19) hx hb dX6_endsTooSoon_15 (by decide) ?_
    exact um_zretR (pc := 19) Cx hW hS hf rfl dX6_endsTooSoon_19
  · have hf := um_it c1 hf
    clear c1
    refine lv_aload_n (pc := 7) hx hb dX6_endsTooSoon_7 rfl (lv_at hl 0 rfl) ?_
    refine gF_X6_98 (pc := 8) Cx hW (hX 4 _ rfl) rfl dX6_endsTooSoon_8 ?_
    refine lv_if_le (pc := 11) (tgt := 18) hx hb dX6_endsTooSoon_11 (by decide) (fun c1 => ?_) (fun c1 => ?_)
    · have hf := um_it c1 hf
      clear c1
      refine lv_iconst (pc := 18) (v := (0 : Int32)) hx hb dX6_endsTooSoon_18 (by decide) ?_
      exact um_zretR (pc := 19) Cx hW hS hf rfl dX6_endsTooSoon_19
    · have hf := um_ie c1 hf
      clear c1
      refine lv_iconst (pc := 14) (v := (1 : Int32)) hx hb dX6_endsTooSoon_14 (by decide) ?_
      refine lv_goto (pc := 15) (tgt := 19) hx hb dX6_endsTooSoon_15 (by decide) ?_
      exact um_zretR (pc := 19) Cx hW hS hf rfl dX6_endsTooSoon_19
theorem c_X6_endsTooSoon {σ : um_S} {r : Bool}  (hX : um_X sh) (hf : f_X6_endsTooSoon σ = some r) : um_M l yX6_endsTooSoon cX6_endsTooSoon 1 (some FieldType.boolean) (0) (0) Z sh α σ [.ref (α 4)] (some (.int (um_b r))) σ :=
  um_start (by decide) (Nat.le_of_ble_eq_true rfl) (fun p e s m below meth c ls Cx hW hS hl => b_X6_endsTooSoon hX hf Cx hW hS hl)
noncomputable def f_X6_isWord_l20 (a1 : Nat) (σ : um_S) : Nat → Int32 → Option ((Bool) ⊕ (Unit))
  | 0, _ => none
  | n + 1, v2 =>
    (f_J0_length_8abf5 a1 σ).bind fun x2 =>
    (if x2 ≤ v2 then
    (some (.inr ()))
    else
    ((f_X6_byteAt ((σ.1 4 2) + v2) σ).bind fun x4 =>
    ((f_J0_charAt_5068e a1 v2 σ).bind fun x6 =>
    (if x4 = x6 then
    (f_X6_isWord_l20 a1 σ n (v2 + (1 : Int32)))
    else
    (some (.inl false))))))
noncomputable def f_X6_isWord (a1 : Nat) (σ : um_S) : Option (Bool) :=
    (f_J0_length_8abf5 a1 σ).bind fun x2 =>
    (if ((σ.1 4 3) - (σ.1 4 2)) = x2 then
    (um_s0 (f_X6_isWord_l20 a1 σ um_N (0 : Int32)) 
    (some true))
    else
    (some false))
set_option maxRecDepth 100000 in
set_option maxHeartbeats 4000000 in
theorem t_X6_isWord_l20 {r : Bool} {out : (Bool) ⊕ (Unit)}  {σ : um_S} (a1 : Nat) (hh1 : a1 < 9) (hX : um_X sh) (Cx : um_C p s m meth c args cX6_isWord 3 (some FieldType.boolean) RX6 Z) (hR : ∀ a, out = .inl a → some a = some r) (hE : out = .inr () → ∀ (H : Heap) (locs : List Loc) (ls : Array Slot), um_W Z sh α σ H → va_S (um_D sh α) s.heap H locs → lv_has ls 3 [] → um_G p l e (4) (85) s m args below meth c Z sh α σ (some (.int (um_b r))) H locs (F0 m 54 ls [])) : ∀ (n : Nat) (v2 : Int32) (H : Heap) (locs : List Loc) (ls : Array Slot), f_X6_isWord_l20 a1 σ n v2 = some out → um_W Z sh α σ H → va_S (um_D sh α) s.heap H locs → lv_has ls 3 [(0, .ref (α 4)), (1, .ref (Z.2.2.2.2.1 a1)), (2, .int v2)] → um_G p l e (4) (85) s m args below meth c Z sh α σ (some (.int (um_b r))) H locs (F0 m 20 ls []) := by
  have hx := Cx.1
  have hb := Cx.2.1
  have hown := Cx.2.2.2.2.1
  have hts := Cx.2.2.2.2.2.1
  intro n
  induction n with
  | zero =>
    intro v2 H locs ls hf hW hS hl
    cases hf
  | succ n ih =>
    intro v2 H locs ls hf hW hS hl
    rw [f_X6_isWord_l20] at hf
    refine lv_iload_n (pc := 20) hx hb dX6_isWord_20 rfl (lv_at hl 2 rfl) ?_
    refine lv_aload_n (pc := 21) hx hb dX6_isWord_21 rfl (lv_at hl 1 rfl) ?_
    obtain ⟨x2, hc1, hf⟩ := um_bi hf
    refine um_cTi (pc := 22) (As := []) (rest := [.int v2]) Cx (c_J0_length_8abf5 a1 hh1 hX hc1) kV_J0_length_8abf5 qM_X6_119 hW hS hh1 rfl hl rfl (Nat.le_of_ble_eq_true rfl) (Nat.le_of_ble_eq_true rfl) (Nat.le_of_ble_eq_true rfl) dX6_isWord_22 (Nat.le_refl _) (Nat.le_refl _) ?_
    clear hW hS hc1
    intro H locs hW hS
    refine lv_icmp_ge (pc := 25) (tgt := 54) hx hb dX6_isWord_25 (by decide) (fun c1 => ?_) (fun c1 => ?_)
    · have hf := um_it c1 hf
      clear c1
      exact hE (Option.some.inj hf).symm _ _ _ hW hS (lv_sub hl [] rfl)
    · have hf := um_ie c1 hf
      clear c1
      refine lv_aload_n (pc := 28) hx hb dX6_isWord_28 rfl (lv_at hl 0 rfl) ?_
      refine lv_aload_n (pc := 29) hx hb dX6_isWord_29 rfl (lv_at hl 0 rfl) ?_
      refine gF_X6_43 (pc := 30) Cx hW (hX 4 _ rfl) rfl dX6_isWord_30 ?_
      refine lv_iload_n (pc := 33) hx hb dX6_isWord_33 rfl (lv_at hl 2 rfl) ?_
      refine lv_iadd (pc := 34) hx hb dX6_isWord_34 ?_
      obtain ⟨x4, hc3, hf⟩ := um_bi hf
      refine um_cVi (pc := 35) (As := [.int ((σ.1 4 2) + v2)]) (rest := []) Cx (c_X6_byteAt ((σ.1 4 2) + v2) hX hc3) kV_X6_byteAt (Or.inl qM_X6_104) hW hS (hX 4 _ rfl) rfl rfl hl rfl (Nat.le_of_ble_eq_true rfl) (Nat.le_of_ble_eq_true rfl) (Nat.le_of_ble_eq_true rfl) dX6_isWord_35 (Nat.le_refl _) (Nat.le_refl _) ?_
      clear hW hS hc3
      intro H locs hW hS
      refine lv_aload_n (pc := 38) hx hb dX6_isWord_38 rfl (lv_at hl 1 rfl) ?_
      refine lv_iload_n (pc := 39) hx hb dX6_isWord_39 rfl (lv_at hl 2 rfl) ?_
      obtain ⟨x6, hc5, hf⟩ := um_bi hf
      refine um_cTi (pc := 40) (As := [.int v2]) (rest := [.int x4]) Cx (c_J0_charAt_5068e a1 v2 hh1 hX hc5) kV_J0_charAt_5068e qM_X6_123 hW hS hh1 rfl hl rfl (Nat.le_of_ble_eq_true rfl) (Nat.le_of_ble_eq_true rfl) (Nat.le_of_ble_eq_true rfl) dX6_isWord_40 (Nat.le_refl _) (Nat.le_refl _) ?_
      have hnx6 := f_J0_charAt_5068e_nc hc5
      clear hW hS hc5
      intro H locs hW hS
      refine lv_icmp_eq (pc := 43) (tgt := 48) hx hb dX6_isWord_43 (by decide) (fun c1 => ?_) (fun c1 => ?_)
      · have hf := um_it c1 hf
        clear c1
        refine lv_iinc (pc := 48) (v := v2 + (1 : Int32)) (lv' := [(2, .int (v2 + (1 : Int32))), (0, .ref (α 4)), (1, .ref (Z.2.2.2.2.1 a1))]) hx hb dX6_isWord_48 hl (k := 2) rfl rfl (by decide) rfl ?_
        clear hl
        intro ls hl
        refine lv_goto (pc := 51) (tgt := 20) hx hb dX6_isWord_51 (by decide) ?_
        exact ih _ _ _ _ hf hW hS (lv_sub hl [1, 2, 0] rfl)
      · have hf := um_ie c1 hf
        clear c1
        refine lv_iconst (pc := 46) (v := (0 : Int32)) hx hb dX6_isWord_46 (by decide) ?_
        exact um_zretR (pc := 47) Cx hW hS (hR _ (Option.some.inj hf).symm) rfl dX6_isWord_47
set_option maxRecDepth 100000 in
set_option maxHeartbeats 4000000 in
theorem b_X6_isWord {H : Heap} {locs : List Loc} {ls : Array Slot} {σ : um_S} {r : Bool} (a1 : Nat) (hh1 : a1 < 9) (hX : um_X sh) (hf : f_X6_isWord a1 σ = some r) (Cx : um_C p s m meth c args cX6_isWord 3 (some FieldType.boolean) RX6 Z) (hW : um_W Z sh α σ H) (hS : va_S (um_D sh α) s.heap H locs) (hl : lv_has ls 3 [(0, .ref (α 4)), (1, .ref (Z.2.2.2.2.1 a1))]) : um_G p l e (4) (85) s m args below meth c Z sh α σ (some (.int (um_b r))) H locs (F0 m 0 ls []) := by
  have hx := Cx.1
  have hb := Cx.2.1
  have hown := Cx.2.2.2.2.1
  have hts := Cx.2.2.2.2.2.1
  rw [f_X6_isWord] at hf
  refine lv_aload_n (pc := 0) hx hb dX6_isWord_0 rfl (lv_at hl 0 rfl) ?_
  refine gF_X6_92 (pc := 1) Cx hW (hX 4 _ rfl) rfl dX6_isWord_1 ?_
  refine lv_aload_n (pc := 4) hx hb dX6_isWord_4 rfl (lv_at hl 0 rfl) ?_
  refine gF_X6_43 (pc := 5) Cx hW (hX 4 _ rfl) rfl dX6_isWord_5 ?_
  refine lv_isub (pc := 8) hx hb dX6_isWord_8 ?_
  refine lv_aload_n (pc := 9) hx hb dX6_isWord_9 rfl (lv_at hl 1 rfl) ?_
  obtain ⟨x2, hc1, hf⟩ := um_bi hf
  refine um_cTi (pc := 10) (As := []) (rest := [.int ((σ.1 4 3) - (σ.1 4 2))]) Cx (c_J0_length_8abf5 a1 hh1 hX hc1) kV_J0_length_8abf5 qM_X6_119 hW hS hh1 rfl hl rfl (Nat.le_of_ble_eq_true rfl) (Nat.le_of_ble_eq_true rfl) (Nat.le_of_ble_eq_true rfl) dX6_isWord_10 (Nat.le_refl _) (Nat.le_refl _) ?_
  clear hW hS hc1
  intro H locs hW hS
  refine lv_icmp_eq (pc := 13) (tgt := 18) hx hb dX6_isWord_13 (by decide) (fun c1 => ?_) (fun c1 => ?_)
  · have hf := um_it c1 hf
    clear c1
    refine lv_iconst (pc := 18) (v := (0 : Int32)) hx hb dX6_isWord_18 (by decide) ?_
    refine lv_istore_n (pc := 19) (lv' := [(2, .int (0 : Int32)), (0, .ref (α 4)), (1, .ref (Z.2.2.2.2.1 a1))]) hx hb dX6_isWord_19 rfl hl (by decide) rfl ?_
    clear hl
    intro ls hl
    obtain ⟨q4, hc3, hr5, hg6⟩ := um_si0 hf
    refine t_X6_isWord_l20 a1 hh1 hX Cx hr5 ?_ um_N _ _ _ _ hc3 hW hS (lv_sub hl [1, 2, 0] rfl)
    clear hW hS hl hc3
    intro  hq7 H locs ls hW hS hl
    have hf := hg6 hq7
    refine lv_iconst (pc := 54) (v := (1 : Int32)) hx hb dX6_isWord_54 (by decide) ?_
    exact um_zretR (pc := 55) Cx hW hS hf rfl dX6_isWord_55
  · have hf := um_ie c1 hf
    clear c1
    refine lv_iconst (pc := 16) (v := (0 : Int32)) hx hb dX6_isWord_16 (by decide) ?_
    exact um_zretR (pc := 17) Cx hW hS hf rfl dX6_isWord_17
theorem c_X6_isWord {σ : um_S} {r : Bool} (a1 : Nat) (hh1 : a1 < 9) (hX : um_X sh) (hf : f_X6_isWord a1 σ = some r) : um_M l yX6_isWord cX6_isWord 3 (some FieldType.boolean) (4) (85) Z sh α σ [.ref (α 4), .ref (Z.2.2.2.2.1 a1)] (some (.int (um_b r))) σ :=
  um_start (by decide) (Nat.le_of_ble_eq_true rfl) (fun p e s m below meth c ls Cx hW hS hl => b_X6_isWord a1 hh1 hX hf Cx hW hS hl)
noncomputable def f_X6_keyWord (a0 : Int32) (σ : um_S) : Option (Nat) :=
    if a0 = (0 : Int32) then
    (some 0)
    else
    (if a0 = (1 : Int32) then
    (some 1)
    else
    (if a0 = (2 : Int32) then
    (some 2)
    else
    (if a0 = (3 : Int32) then
    (some 3)
    else
    (some 4))))
set_option maxRecDepth 100000 in
set_option maxHeartbeats 4000000 in
theorem b_X6_keyWord {H : Heap} {locs : List Loc} {ls : Array Slot} {σ : um_S} {r : Nat} (a0 : Int32) (hX : um_X sh) (hf : f_X6_keyWord a0 σ = some r) (Cx : um_C p s m meth c args cX6_keyWord 1 (some (FieldType.object "java/lang/String")) RX6 Z) (hW : um_W Z sh α σ H) (hS : va_S (um_D sh α) s.heap H locs) (hl : lv_has ls 1 [(0, .int a0)]) : um_G p l e (0) (0) s m args below meth c Z sh α σ (some (.ref (Z.2.2.2.2.1 r))) H locs (F0 m 0 ls []) := by
  have hx := Cx.1
  have hb := Cx.2.1
  have hown := Cx.2.2.2.2.1
  have hts := Cx.2.2.2.2.2.1
  rw [f_X6_keyWord] at hf
  refine lv_iload_n (pc := 0) hx hb dX6_keyWord_0 rfl (lv_at hl 0 rfl) ?_
  by_cases c1 : a0 = (0 : Int32)
  · have hf := um_it c1 hf
    refine lv_tableIn (pc := 1) (tgt := 32) hx hb dX6_keyWord_1 (by rw [c1]; decide) (by rw [c1]; decide) (by rw [c1]; rfl) (by decide) ?_
    refine va_ldcS (pc := 32) hx hb hown ((um_st Cx).2.2.2.2.1 0 (by decide)) dX6_keyWord_32 ?_
    exact um_sret (pc := 34) Cx (Or.inl ⟨_, rfl⟩) hW hS hf dX6_keyWord_34
  have hf := um_ie c1 hf
  by_cases c2 : a0 = (1 : Int32)
  · have hf := um_it c2 hf
    refine lv_tableIn (pc := 1) (tgt := 35) hx hb dX6_keyWord_1 (by rw [c2]; decide) (by rw [c2]; decide) (by rw [c2]; rfl) (by decide) ?_
    refine va_ldcS (pc := 35) hx hb hown ((um_st Cx).2.2.2.2.1 1 (by decide)) dX6_keyWord_35 ?_
    exact um_sret (pc := 37) Cx (Or.inl ⟨_, rfl⟩) hW hS hf dX6_keyWord_37
  have hf := um_ie c2 hf
  by_cases c3 : a0 = (2 : Int32)
  · have hf := um_it c3 hf
    refine lv_tableIn (pc := 1) (tgt := 38) hx hb dX6_keyWord_1 (by rw [c3]; decide) (by rw [c3]; decide) (by rw [c3]; rfl) (by decide) ?_
    refine va_ldcS (pc := 38) hx hb hown ((um_st Cx).2.2.2.2.1 2 (by decide)) dX6_keyWord_38 ?_
    exact um_sret (pc := 40) Cx (Or.inl ⟨_, rfl⟩) hW hS hf dX6_keyWord_40
  have hf := um_ie c3 hf
  by_cases c4 : a0 = (3 : Int32)
  · have hf := um_it c4 hf
    refine lv_tableIn (pc := 1) (tgt := 41) hx hb dX6_keyWord_1 (by rw [c4]; decide) (by rw [c4]; decide) (by rw [c4]; rfl) (by decide) ?_
    refine va_ldcS (pc := 41) hx hb hown ((um_st Cx).2.2.2.2.1 3 (by decide)) dX6_keyWord_41 ?_
    exact um_sret (pc := 43) Cx (Or.inl ⟨_, rfl⟩) hW hS hf dX6_keyWord_43
  have hf := um_ie c4 hf
  have ho : a0.toInt < 0 ∨ 3 < a0.toInt := um_tabO (lo := 0) (hi := 3) (fun z z1 z2 => by
    rcases (show z = 0 ∨ z = 1 ∨ z = 2 ∨ z = 3 by omega) with rfl | rfl | rfl | rfl
    · exact c1
    · exact c2
    · exact c3
    · exact c4)
  refine lv_tableOut (pc := 1) (tgt := 44) hx hb dX6_keyWord_1 ho (by decide) ?_
  refine va_ldcS (pc := 44) hx hb hown ((um_st Cx).2.2.2.2.1 4 (by decide)) dX6_keyWord_44 ?_
  exact um_sret (pc := 46) Cx (Or.inl ⟨_, rfl⟩) hW hS hf dX6_keyWord_46
theorem c_X6_keyWord {σ : um_S} {r : Nat} (a0 : Int32) (hX : um_X sh) (hf : f_X6_keyWord a0 σ = some r) : um_M l yX6_keyWord cX6_keyWord 1 (some (FieldType.object "java/lang/String")) (0) (0) Z sh α σ [.int a0] (some (.ref (Z.2.2.2.2.1 r))) σ :=
  um_start (by decide) (Nat.le_of_ble_eq_true rfl) (fun p e s m below meth c ls Cx hW hS hl => b_X6_keyWord a0 hX hf Cx hW hS hl)
theorem f_X6_keyWord_lt {a0 : Int32} {σ : um_S} {i : Nat} (h : f_X6_keyWord a0 σ = some i) : i < 9 := by
  unfold f_X6_keyWord at h
  repeat' split at h
  all_goals (cases h; decide)
noncomputable def f_X6_keyHere_l2 (σ : um_S) : Nat → Int32 → Option ((Int32) ⊕ (Unit))
  | 0, _ => none
  | n + 1, v1 =>
    if (5 : Int32) ≤ v1 then
    (some (.inr ()))
    else
    ((f_X6_keyWord v1 σ).bind fun x2 =>
    ((f_X6_isWord x2 σ).bind fun x4 =>
    (if (um_b x4) = 0 then
    (f_X6_keyHere_l2 σ n (v1 + (1 : Int32)))
    else
    (some (.inl v1)))))
noncomputable def f_X6_keyHere  (σ : um_S) : Option (Int32) :=
    um_s0 (f_X6_keyHere_l2 σ um_N (0 : Int32)) 
    (some (-1 : Int32))
set_option maxRecDepth 100000 in
set_option maxHeartbeats 4000000 in
theorem t_X6_keyHere_l2 {r : Int32} {out : (Int32) ⊕ (Unit)}  {σ : um_S}  (hX : um_X sh) (Cx : um_C p s m meth c args cX6_keyHere 2 (some FieldType.int) RX6 Z) (hR : ∀ a, out = .inl a → some a = some r) (hE : out = .inr () → ∀ (H : Heap) (locs : List Loc) (ls : Array Slot), um_W Z sh α σ H → va_S (um_D sh α) s.heap H locs → lv_has ls 2 [] → um_G p l e (5) (107) s m args below meth c Z sh α σ (some (.int r)) H locs (F0 m 26 ls [])) : ∀ (n : Nat) (v1 : Int32) (H : Heap) (locs : List Loc) (ls : Array Slot), f_X6_keyHere_l2 σ n v1 = some out → um_W Z sh α σ H → va_S (um_D sh α) s.heap H locs → lv_has ls 2 [(0, .ref (α 4)), (1, .int v1)] → um_G p l e (5) (107) s m args below meth c Z sh α σ (some (.int r)) H locs (F0 m 2 ls []) := by
  have hx := Cx.1
  have hb := Cx.2.1
  have hown := Cx.2.2.2.2.1
  have hts := Cx.2.2.2.2.2.1
  intro n
  induction n with
  | zero =>
    intro v1 H locs ls hf hW hS hl
    cases hf
  | succ n ih =>
    intro v1 H locs ls hf hW hS hl
    rw [f_X6_keyHere_l2] at hf
    refine lv_iload_n (pc := 2) hx hb dX6_keyHere_2 rfl (lv_at hl 1 rfl) ?_
    refine lv_iconst (pc := 3) (v := (5 : Int32)) hx hb dX6_keyHere_3 (by decide) ?_
    refine lv_icmp_ge (pc := 4) (tgt := 26) hx hb dX6_keyHere_4 (by decide) (fun c1 => ?_) (fun c1 => ?_)
    · have hf := um_it c1 hf
      clear c1
      exact hE (Option.some.inj hf).symm _ _ _ hW hS (lv_sub hl [] rfl)
    · have hf := um_ie c1 hf
      clear c1
      refine lv_aload_n (pc := 7) hx hb dX6_keyHere_7 rfl (lv_at hl 0 rfl) ?_
      refine lv_iload_n (pc := 8) hx hb dX6_keyHere_8 rfl (lv_at hl 1 rfl) ?_
      obtain ⟨x2, hc1, hf⟩ := um_bi hf
      refine um_cSr (pc := 9) (As := [.int v1]) (rest := [.ref (α 4)]) Cx (c_X6_keyWord v1 hX hc1) kS_X6_keyWord (Or.inl qM_X6_111) hW hS rfl hl rfl (Nat.le_of_ble_eq_true rfl) (Nat.le_of_ble_eq_true rfl) (Nat.le_of_ble_eq_true rfl) dX6_keyHere_9 (Nat.le_refl _) (Nat.le_refl _) ?_
      clear hW hS
      intro H locs hW hS
      have hq2 := f_X6_keyWord_lt hc1
      clear hc1
      obtain ⟨x4, hc3, hf⟩ := um_bi hf
      refine um_cVi (pc := 12) (As := [.ref (Z.2.2.2.2.1 x2)]) (rest := []) Cx (c_X6_isWord x2 hq2 hX hc3) kV_X6_isWord (Or.inl qM_X6_115) hW hS (hX 4 _ rfl) rfl rfl hl rfl (Nat.le_of_ble_eq_true rfl) (Nat.le_of_ble_eq_true rfl) (Nat.le_of_ble_eq_true rfl) dX6_keyHere_12 (Nat.le_refl _) (Nat.le_refl _) ?_
      clear hW hS hc3
      intro H locs hW hS
      refine lv_if_eq (pc := 15) (tgt := 20) hx hb dX6_keyHere_15 (by decide) (fun c1 => ?_) (fun c1 => ?_)
      · have hf := um_it c1 hf
        clear c1
        refine lv_iinc (pc := 20) (v := v1 + (1 : Int32)) (lv' := [(1, .int (v1 + (1 : Int32))), (0, .ref (α 4))]) hx hb dX6_keyHere_20 hl (k := 1) rfl rfl (by decide) rfl ?_
        clear hl
        intro ls hl
        refine lv_goto (pc := 23) (tgt := 2) hx hb dX6_keyHere_23 (by decide) ?_
        exact ih _ _ _ _ hf hW hS (lv_sub hl [1, 0] rfl)
      · have hf := um_ie c1 hf
        clear c1
        refine lv_iload_n (pc := 18) hx hb dX6_keyHere_18 rfl (lv_at hl 1 rfl) ?_
        exact um_iretR (pc := 19) Cx hW hS (hR _ (Option.some.inj hf).symm) dX6_keyHere_19
set_option maxRecDepth 100000 in
set_option maxHeartbeats 4000000 in
theorem b_X6_keyHere {H : Heap} {locs : List Loc} {ls : Array Slot} {σ : um_S} {r : Int32}  (hX : um_X sh) (hf : f_X6_keyHere σ = some r) (Cx : um_C p s m meth c args cX6_keyHere 2 (some FieldType.int) RX6 Z) (hW : um_W Z sh α σ H) (hS : va_S (um_D sh α) s.heap H locs) (hl : lv_has ls 2 [(0, .ref (α 4))]) : um_G p l e (5) (107) s m args below meth c Z sh α σ (some (.int r)) H locs (F0 m 0 ls []) := by
  have hx := Cx.1
  have hb := Cx.2.1
  have hown := Cx.2.2.2.2.1
  have hts := Cx.2.2.2.2.2.1
  rw [f_X6_keyHere] at hf
  refine lv_iconst (pc := 0) (v := (0 : Int32)) hx hb dX6_keyHere_0 (by decide) ?_
  refine lv_istore_n (pc := 1) (lv' := [(1, .int (0 : Int32)), (0, .ref (α 4))]) hx hb dX6_keyHere_1 rfl hl (by decide) rfl ?_
  clear hl
  intro ls hl
  obtain ⟨q2, hc1, hr3, hg4⟩ := um_si0 hf
  refine t_X6_keyHere_l2 hX Cx hr3 ?_ um_N _ _ _ _ hc1 hW hS (lv_sub hl [1, 0] rfl)
  clear hW hS hl hc1
  intro  hq5 H locs ls hW hS hl
  have hf := hg4 hq5
  refine lv_iconst (pc := 26) (v := (-1 : Int32)) hx hb dX6_keyHere_26 (by decide) ?_
  exact um_iretR (pc := 27) Cx hW hS hf dX6_keyHere_27
theorem c_X6_keyHere {σ : um_S} {r : Int32}  (hX : um_X sh) (hf : f_X6_keyHere σ = some r) : um_M l yX6_keyHere cX6_keyHere 2 (some FieldType.int) (5) (107) Z sh α σ [.ref (α 4)] (some (.int r)) σ :=
  um_start (by decide) (Nat.le_of_ble_eq_true rfl) (fun p e s m below meth c ls Cx hW hS hl => b_X6_keyHere hX hf Cx hW hS hl)
noncomputable def f_X6_sortAt (a1 : Int32) (σ : um_S) : Option (Int32) :=
    (f_X6_byteAt a1 σ).bind fun x2 =>
    (if 0 ≤ x2 then
    (um_let (fun (_u : Unit) =>
    (if x2 < (48 : Int32) then
    (some (3 : Int32))
    else
    (if (57 : Int32) < x2 then
    (some (3 : Int32))
    else
    (some (2 : Int32))))) fun k3 =>
    (if x2 < (97 : Int32) then
    (k3 ())
    else
    (if (122 : Int32) < x2 then
    (k3 ())
    else
    (some (1 : Int32)))))
    else
    (some (0 : Int32)))
set_option maxRecDepth 100000 in
set_option maxHeartbeats 4000000 in
theorem b_X6_sortAt {H : Heap} {locs : List Loc} {ls : Array Slot} {σ : um_S} {r : Int32} (a1 : Int32) (hX : um_X sh) (hf : f_X6_sortAt a1 σ = some r) (Cx : um_C p s m meth c args cX6_sortAt 3 (some FieldType.int) RX6 Z) (hW : um_W Z sh α σ H) (hS : va_S (um_D sh α) s.heap H locs) (hl : lv_has ls 3 [(0, .ref (α 4)), (1, .int a1)]) : um_G p l e (1) (21) s m args below meth c Z sh α σ (some (.int r)) H locs (F0 m 0 ls []) := by
  have hx := Cx.1
  have hb := Cx.2.1
  have hown := Cx.2.2.2.2.1
  have hts := Cx.2.2.2.2.2.1
  rw [f_X6_sortAt] at hf
  refine lv_aload_n (pc := 0) hx hb dX6_sortAt_0 rfl (lv_at hl 0 rfl) ?_
  refine lv_iload_n (pc := 1) hx hb dX6_sortAt_1 rfl (lv_at hl 1 rfl) ?_
  obtain ⟨x2, hc1, hf⟩ := um_bi hf
  refine um_cVi (pc := 2) (As := [.int a1]) (rest := []) Cx (c_X6_byteAt a1 hX hc1) kV_X6_byteAt (Or.inl qM_X6_104) hW hS (hX 4 _ rfl) rfl rfl hl rfl (Nat.le_of_ble_eq_true rfl) (Nat.le_of_ble_eq_true rfl) (Nat.le_of_ble_eq_true rfl) dX6_sortAt_2 (Nat.le_refl _) (Nat.le_refl _) ?_
  clear hW hS hc1
  intro H locs hW hS
  refine lv_istore_n (pc := 5) (lv' := [(2, .int x2), (0, .ref (α 4)), (1, .int a1)]) hx hb dX6_sortAt_5 rfl hl (by decide) rfl ?_
  clear hl
  intro ls hl
  refine lv_iload_n (pc := 6) hx hb dX6_sortAt_6 rfl (lv_at hl 0 rfl) ?_
  refine lv_if_ge (pc := 7) (tgt := 12) hx hb dX6_sortAt_7 (by decide) (fun c1 => ?_) (fun c1 => ?_)
  · have hf := um_it c1 hf
    clear c1
    refine lv_iload_n (pc := 12) hx hb dX6_sortAt_12 rfl (lv_at hl 0 rfl) ?_
    refine lv_bipush (pc := 13) (v := (97 : Int32)) hx hb dX6_sortAt_13 (by decide) ?_
    obtain ⟨k3, hk3, hf⟩ := um_j1 hf
    have J3 : ∀ (_u : Unit), k3 _u = some r → ∀ (H : Heap) (locs : List Loc) (ls : Array Slot), um_W Z sh α σ H → va_S (um_D sh α) s.heap H locs → lv_has ls 3 [(2, .int x2)] → um_G p l e (1) (21) s m args below meth c Z sh α σ (some (.int r)) H locs (F0 m 26 ls []) := by
      intro _u hf H locs ls hW hS hl
      rw [hk3] at hf
      refine lv_iload_n (pc := 26) hx hb dX6_sortAt_26 rfl (lv_at hl 0 rfl) ?_
      refine lv_bipush (pc := 27) (v := (48 : Int32)) hx hb dX6_sortAt_27 (by decide) ?_
      refine lv_icmp_lt (pc := 29) (tgt := 42) hx hb dX6_sortAt_29 (by decide) (fun c1 => ?_) (fun c1 => ?_)
      · have hf := um_it c1 hf
        clear c1
        refine lv_iconst (pc := 42) (v := (3 : Int32)) hx hb dX6_sortAt_42 (by decide) ?_
        exact um_iretR (pc := 43) Cx hW hS hf dX6_sortAt_43
      · have hf := um_ie c1 hf
        clear c1
        refine lv_iload_n (pc := 32) hx hb dX6_sortAt_32 rfl (lv_at hl 0 rfl) ?_
        refine lv_bipush (pc := 33) (v := (57 : Int32)) hx hb dX6_sortAt_33 (by decide) ?_
        refine lv_icmp_gt (pc := 35) (tgt := 42) hx hb dX6_sortAt_35 (by decide) (fun c1 => ?_) (fun c1 => ?_)
        · have hf := um_it c1 hf
          clear c1
          refine lv_iconst (pc := 42) (v := (3 : Int32)) hx hb dX6_sortAt_42 (by decide) ?_
          exact um_iretR (pc := 43) Cx hW hS hf dX6_sortAt_43
        · have hf := um_ie c1 hf
          clear c1
          refine lv_iconst (pc := 38) (v := (2 : Int32)) hx hb dX6_sortAt_38 (by decide) ?_
          refine lv_goto (pc := 39) (tgt := 43) hx hb dX6_sortAt_39 (by decide) ?_
          exact um_iretR (pc := 43) Cx hW hS hf dX6_sortAt_43
    refine lv_icmp_lt (pc := 15) (tgt := 26) hx hb dX6_sortAt_15 (by decide) (fun c1 => ?_) (fun c1 => ?_)
    · have hf := um_it c1 hf
      clear c1
      exact J3 () hf _ _ _ hW hS (lv_sub hl [0] rfl)
    · have hf := um_ie c1 hf
      clear c1
      refine lv_iload_n (pc := 18) hx hb dX6_sortAt_18 rfl (lv_at hl 0 rfl) ?_
      refine lv_bipush (pc := 19) (v := (122 : Int32)) hx hb dX6_sortAt_19 (by decide) ?_
      refine lv_icmp_gt (pc := 21) (tgt := 26) hx hb dX6_sortAt_21 (by decide) (fun c1 => ?_) (fun c1 => ?_)
      · have hf := um_it c1 hf
        clear c1
        exact J3 () hf _ _ _ hW hS (lv_sub hl [0] rfl)
      · have hf := um_ie c1 hf
        clear c1
        refine lv_iconst (pc := 24) (v := (1 : Int32)) hx hb dX6_sortAt_24 (by decide) ?_
        exact um_iretR (pc := 25) Cx hW hS hf dX6_sortAt_25
  · have hf := um_ie c1 hf
    clear c1
    refine lv_iconst (pc := 10) (v := (0 : Int32)) hx hb dX6_sortAt_10 (by decide) ?_
    exact um_iretR (pc := 11) Cx hW hS hf dX6_sortAt_11
theorem c_X6_sortAt {σ : um_S} {r : Int32} (a1 : Int32) (hX : um_X sh) (hf : f_X6_sortAt a1 σ = some r) : um_M l yX6_sortAt cX6_sortAt 3 (some FieldType.int) (1) (21) Z sh α σ [.ref (α 4), .int a1] (some (.int r)) σ :=
  um_start (by decide) (Nat.le_of_ble_eq_true rfl) (fun p e s m below meth c ls Cx hW hS hl => b_X6_sortAt a1 hX hf Cx hW hS hl)
