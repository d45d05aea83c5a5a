variable {p : Program} {l : Launch} {e : Env} {s : State} {m : MethodId} {args : Array Value} {below : List Frame} {meth : Method} {c : Code} {Z : um_Z} {α : Nat → Nat} {sh : Nat → Option um_Sh}
noncomputable def f_X9_marks (a1 : Int32) (a2 : Int32) (σ : um_S) : Option (um_S) :=
    if (40 : Int32) ≤ (σ.1 1 4) then
    (some σ)
    else
    ((f_X9_markAt (σ.1 1 4) σ).bind fun x2 =>
    (if um_ix x2 3790 then
    (um_let (um_wr σ 1 x2.toNatClampNeg a1) fun σ4 =>
    (if um_ix (x2 + (1 : Int32)) 3790 then
    (um_let (um_wr σ4 1 (x2 + (1 : Int32)).toNatClampNeg (σ4.1 1 0)) fun σ7 =>
    (if um_ix (x2 + (2 : Int32)) 3790 then
    (um_let (um_wr σ7 1 (x2 + (2 : Int32)).toNatClampNeg a2) fun σ10 =>
    (if um_ix (x2 + (3 : Int32)) 3790 then
    (um_let (um_wr σ10 1 (x2 + (3 : Int32)).toNatClampNeg (0 : Int32)) fun σ13 =>
    (um_let (um_wr σ13 1 4 ((σ13.1 1 4) + (1 : Int32))) fun σ15 =>
    (some σ15))) else none)) else none)) else none)) else none))
set_option maxRecDepth 100000 in
set_option maxHeartbeats 4000000 in
theorem b_X9_marks {H : Heap} {locs : List Loc} {ls : Array Slot} {σ : um_S} {σ' : um_S} (a1 : Int32) (a2 : Int32)  (hf : f_X9_marks a1 a2 σ = some σ') (Cx : um_C p s m meth c args cX9_marks 4 none RX9 Z) (hW : um_W Z msh α σ H) (hS : va_S (um_D msh α) s.heap H locs) (hl : lv_has ls 4 [(0, .ref (α 0)), (1, .int a1), (2, .int a2)]) : um_G p l e (1) (21) s m args below meth c Z msh α σ' none H locs (F0 m 0 ls []) := by
  have hx := Cx.1
  have hb := Cx.2.1
  have hown := Cx.2.2.2.2.1
  have hts := Cx.2.2.2.2.2.1
  rw [f_X9_marks] at hf
  refine lv_aload_n (pc := 0) hx hb dX9_marks_0 rfl (lv_at hl 0 rfl) ?_
  refine gF_X9_7 (pc := 1) Cx hW ms_0 rfl dX9_marks_1 ?_
  refine lv_iconst (pc := 4) (v := (4 : Int32)) hx hb dX9_marks_4 (by decide) ?_
  refine um_iaj (pc := 5) (n := 3790) 4 rfl Cx hW ms_1 rfl (um_ix_in (by decide)) dX9_marks_5 ?_
  refine lv_bipush (pc := 6) (v := (40 : Int32)) hx hb dX9_marks_6 (by decide) ?_
  refine lv_icmp_ge (pc := 8) (tgt := 71) hx hb dX9_marks_8 (by decide) (fun c1 => ?_) (fun c1 => ?_)
  · have hf := um_it c1 hf
    clear c1
    exact um_vret (pc := 71) Cx hW hS hf dX9_marks_71
  · have hf := um_ie c1 hf
    clear c1
    refine lv_aload_n (pc := 11) hx hb dX9_marks_11 rfl (lv_at hl 0 rfl) ?_
    refine lv_aload_n (pc := 12) hx hb dX9_marks_12 rfl (lv_at hl 0 rfl) ?_
    refine gF_X9_7 (pc := 13) Cx hW ms_0 rfl dX9_marks_13 ?_
    refine lv_iconst (pc := 16) (v := (4 : Int32)) hx hb dX9_marks_16 (by decide) ?_
    refine um_iaj (pc := 17) (n := 3790) 4 rfl Cx hW ms_1 rfl (um_ix_in (by decide)) dX9_marks_17 ?_
    obtain ⟨x2, hc1, hf⟩ := um_bi hf
    refine um_cVi (pc := 18) (As := [.int (σ.1 1 4)]) (rest := []) Cx (c_X9_markAt (σ.1 1 4) hc1) kV_X9_markAt (Or.inl qM_X9_111) hW hS ms_0 rfl rfl hl rfl (Nat.le_of_ble_eq_true rfl) (Nat.le_of_ble_eq_true rfl) (Nat.le_of_ble_eq_true rfl) dX9_marks_18 (Nat.le_refl _) (Nat.le_refl _) ?_
    clear hW hS hc1
    intro H locs hW hS
    refine lv_istore_n (pc := 21) (lv' := [(3, .int x2), (0, .ref (α 0)), (1, .int a1), (2, .int a2)]) hx hb dX9_marks_21 rfl hl (by decide) rfl ?_
    clear hl
    intro ls hl
    refine lv_aload_n (pc := 22) hx hb dX9_marks_22 rfl (lv_at hl 1 rfl) ?_
    refine gF_X9_7 (pc := 23) Cx hW ms_0 rfl dX9_marks_23 ?_
    refine lv_iload_n (pc := 26) hx hb dX9_marks_26 rfl (lv_at hl 0 rfl) ?_
    refine lv_iload_n (pc := 27) hx hb dX9_marks_27 rfl (lv_at hl 2 rfl) ?_
    obtain ⟨g3, hf⟩ := um_gu hf
    refine um_iast (pc := 28) Cx hW hS ms_1 rfl (um_ix_in g3) dX9_marks_28 ?_
    clear hW hS
    intro H locs hW hS
    obtain ⟨σ4, e5, hf⟩ := um_le hf
    rw [← e5] at hW
    clear e5
    refine lv_aload_n (pc := 29) hx hb dX9_marks_29 rfl (lv_at hl 1 rfl) ?_
    refine gF_X9_7 (pc := 30) Cx hW ms_0 rfl dX9_marks_30 ?_
    refine lv_iload_n (pc := 33) hx hb dX9_marks_33 rfl (lv_at hl 0 rfl) ?_
    refine lv_iconst (pc := 34) (v := (1 : Int32)) hx hb dX9_marks_34 (by decide) ?_
    refine lv_iadd (pc := 35) hx hb dX9_marks_35 ?_
    refine lv_aload_n (pc := 36) hx hb dX9_marks_36 rfl (lv_at hl 1 rfl) ?_
    refine gF_X9_7 (pc := 37) Cx hW ms_0 rfl dX9_marks_37 ?_
    refine lv_iconst (pc := 40) (v := (0 : Int32)) hx hb dX9_marks_40 (by decide) ?_
    refine um_iaj (pc := 41) (n := 3790) 0 rfl Cx hW ms_1 rfl (um_ix_in (by decide)) dX9_marks_41 ?_
    obtain ⟨g6, hf⟩ := um_gu hf
    refine um_iast (pc := 42) Cx hW hS ms_1 rfl (um_ix_in g6) dX9_marks_42 ?_
    clear hW hS
    intro H locs hW hS
    obtain ⟨σ7, e8, hf⟩ := um_le hf
    rw [← e8] at hW
    clear e8
    refine lv_aload_n (pc := 43) hx hb dX9_marks_43 rfl (lv_at hl 1 rfl) ?_
    refine gF_X9_7 (pc := 44) Cx hW ms_0 rfl dX9_marks_44 ?_
    refine lv_iload_n (pc := 47) hx hb dX9_marks_47 rfl (lv_at hl 0 rfl) ?_
    refine lv_iconst (pc := 48) (v := (2 : Int32)) hx hb dX9_marks_48 (by decide) ?_
    refine lv_iadd (pc := 49) hx hb dX9_marks_49 ?_
    refine lv_iload_n (pc := 50) hx hb dX9_marks_50 rfl (lv_at hl 3 rfl) ?_
    obtain ⟨g9, hf⟩ := um_gu hf
    refine um_iast (pc := 51) Cx hW hS ms_1 rfl (um_ix_in g9) dX9_marks_51 ?_
    clear hW hS
    intro H locs hW hS
    obtain ⟨σ10, e11, hf⟩ := um_le hf
    rw [← e11] at hW
    clear e11
    refine lv_aload_n (pc := 52) hx hb dX9_marks_52 rfl (lv_at hl 1 rfl) ?_
    refine gF_X9_7 (pc := 53) Cx hW ms_0 rfl dX9_marks_53 ?_
    refine lv_iload_n (pc := 56) hx hb dX9_marks_56 rfl (lv_at hl 0 rfl) ?_
    refine lv_iconst (pc := 57) (v := (3 : Int32)) hx hb dX9_marks_57 (by decide) ?_
    refine lv_iadd (pc := 58) hx hb dX9_marks_58 ?_
    refine lv_iconst (pc := 59) (v := (0 : Int32)) hx hb dX9_marks_59 (by decide) ?_
    obtain ⟨g12, hf⟩ := um_gu hf
    refine um_iast (pc := 60) Cx hW hS ms_1 rfl (um_ix_in g12) dX9_marks_60 ?_
    clear hW hS
    intro H locs hW hS
    obtain ⟨σ13, e14, hf⟩ := um_le hf
    rw [← e14] at hW
    clear e14
    refine lv_aload_n (pc := 61) hx hb dX9_marks_61 rfl (lv_at hl 1 rfl) ?_
    refine gF_X9_7 (pc := 62) Cx hW ms_0 rfl dX9_marks_62 ?_
    refine lv_iconst (pc := 65) (v := (4 : Int32)) hx hb dX9_marks_65 (by decide) ?_
    refine lv_dup2_11 (pc := 66) hx hb dX9_marks_66 rfl rfl ?_
    refine um_iaj (pc := 67) (n := 3790) 4 rfl Cx hW ms_1 rfl (um_ix_in (by decide)) dX9_marks_67 ?_
    refine lv_iconst (pc := 68) (v := (1 : Int32)) hx hb dX9_marks_68 (by decide) ?_
    refine lv_iadd (pc := 69) hx hb dX9_marks_69 ?_
    refine um_isj (pc := 70) (n := 3790) 4 rfl Cx hW hS ms_1 rfl (um_ix_in (by decide)) dX9_marks_70 ?_
    clear hW hS
    intro H locs hW hS
    obtain ⟨σ15, e16, hf⟩ := um_le hf
    rw [← e16] at hW
    clear e16
    exact um_vret (pc := 71) Cx hW hS hf dX9_marks_71
theorem c_X9_marks {σ : um_S} {σ' : um_S} (a1 : Int32) (a2 : Int32)  (hf : f_X9_marks a1 a2 σ = some σ') : um_M l yX9_marks cX9_marks 4 none (1) (21) Z msh α σ [.ref (α 0), .int a1, .int a2] none σ' :=
  um_start (by decide) (Nat.le_of_ble_eq_true rfl) (fun p e s m below meth c ls Cx hW hS hl => b_X9_marks a1 a2 hf Cx hW hS hl)
noncomputable def f_X9_marksOf_l4 (v1 : Int32) (σ : um_S) : Nat → Int32 → Int32 → Option (Int32)
  | 0, _, _ => none
  | n + 1, v2, v3 =>
    if (σ.1 1 4) ≤ v3 then
    (some v2)
    else
    ((f_X9_markAt v3 σ).bind fun x2 =>
    (if um_ix x2 3790 then
    (if (σ.1 1 x2.toNatClampNeg) = v1 then
    ((f_X9_markAt v3 σ).bind fun x7 =>
    (if um_ix (x7 + (3 : Int32)) 3790 then
    (if (σ.1 1 (x7 + (3 : Int32)).toNatClampNeg) = 0 then
    (um_let (v2 + (1 : Int32)) fun x11 =>
    (f_X9_marksOf_l4 v1 σ n x11 (v3 + (1 : Int32))))
    else
    (um_let (v2 + (0 : Int32)) fun x9 =>
    (f_X9_marksOf_l4 v1 σ n x9 (v3 + (1 : Int32))))) else none))
    else
    (um_let (v2 + (0 : Int32)) fun x4 =>
    (f_X9_marksOf_l4 v1 σ n x4 (v3 + (1 : Int32))))) else none))
noncomputable def f_X9_marksOf (a1 : Int32) (σ : um_S) : Option (Int32) :=
    (f_X9_marksOf_l4 a1 σ um_N (0 : Int32) (0 : Int32)).bind fun x1 =>
    (some x1)
set_option maxRecDepth 100000 in
set_option maxHeartbeats 4000000 in
theorem t_X9_marksOf_l4 {Q : State → Prop} {o2 : Int32} {σ : um_S} (v1 : Int32)  (Cx : um_C p s m meth c args cX9_marksOf 4 (some FieldType.int) RX9 Z) (hE : ∀ (H : Heap) (locs : List Loc) (ls : Array Slot), um_W Z msh α σ H → va_S (um_D msh α) s.heap H locs → lv_has ls 4 [(2, .int o2)] → W p l e { frames := 1, cells := 0, slots := 0, locals := 21 } s m args below meth c H locs 0 0 Q (F0 m 57 ls [])) : ∀ (n : Nat) (v2 : Int32) (v3 : Int32) (H : Heap) (locs : List Loc) (ls : Array Slot), f_X9_marksOf_l4 v1 σ n v2 v3 = some o2 → um_W Z msh α σ H → va_S (um_D msh α) s.heap H locs → lv_has ls 4 [(0, .ref (α 0)), (1, .int v1), (2, .int v2), (3, .int v3)] → W p l e { frames := 1, cells := 0, slots := 0, locals := 21 } s m args below meth c H locs 0 0 Q (F0 m 4 ls []) := by
  have hx := Cx.1
  have hb := Cx.2.1
  have hown := Cx.2.2.2.2.1
  have hts := Cx.2.2.2.2.2.1
  intro n
  induction n with
  | zero =>
    intro v2 v3 H locs ls hf hW hS hl
    cases hf
  | succ n ih =>
    intro v2 v3 H locs ls hf hW hS hl
    rw [f_X9_marksOf_l4] at hf
    refine lv_iload_n (pc := 4) hx hb dX9_marksOf_4 rfl (lv_at hl 3 rfl) ?_
    refine lv_aload_n (pc := 5) hx hb dX9_marksOf_5 rfl (lv_at hl 0 rfl) ?_
    refine gF_X9_7 (pc := 6) Cx hW ms_0 rfl dX9_marksOf_6 ?_
    refine lv_iconst (pc := 9) (v := (4 : Int32)) hx hb dX9_marksOf_9 (by decide) ?_
    refine um_iaj (pc := 10) (n := 3790) 4 rfl Cx hW ms_1 rfl (um_ix_in (by decide)) dX9_marksOf_10 ?_
    refine lv_icmp_ge (pc := 11) (tgt := 57) hx hb dX9_marksOf_11 (by decide) (fun c1 => ?_) (fun c1 => ?_)
    · have hf := um_it c1 hf
      clear c1
      cases hf
      exact hE _ _ _ hW hS (lv_sub hl [2] rfl)
    · have hf := um_ie c1 hf
      clear c1
      refine lv_iload_n (pc := 14) hx hb dX9_marksOf_14 rfl (lv_at hl 2 rfl) ?_
      refine lv_aload_n (pc := 15) hx hb dX9_marksOf_15 rfl (lv_at hl 0 rfl) ?_
      refine gF_X9_7 (pc := 16) Cx hW ms_0 rfl dX9_marksOf_16 ?_
      refine lv_aload_n (pc := 19) hx hb dX9_marksOf_19 rfl (lv_at hl 0 rfl) ?_
      refine lv_iload_n (pc := 20) hx hb dX9_marksOf_20 rfl (lv_at hl 3 rfl) ?_
      obtain ⟨x2, hc1, hf⟩ := um_bi hf
      refine um_cVi (pc := 21) (As := [.int v3]) (rest := [.ref (α 1), .int v2]) Cx (c_X9_markAt v3 hc1) kV_X9_markAt (Or.inl qM_X9_111) hW hS ms_0 rfl rfl hl rfl (Nat.le_of_ble_eq_true rfl) (Nat.le_of_ble_eq_true rfl) (Nat.le_of_ble_eq_true rfl) dX9_marksOf_21 (Nat.le_refl _) (Nat.le_refl _) ?_
      clear hW hS hc1
      intro H locs hW hS
      obtain ⟨g3, hf⟩ := um_gu hf
      refine um_iald (pc := 24) Cx hW ms_1 rfl (um_ix_in g3) dX9_marksOf_24 ?_
      refine lv_iload_n (pc := 25) hx hb dX9_marksOf_25 rfl (lv_at hl 1 rfl) ?_
      refine lv_icmp_ne (pc := 26) (tgt := 48) hx hb dX9_marksOf_26 (by decide) (fun c1 => ?_) (fun c1 => ?_)
      · have hf := um_ie c1 hf
        clear c1
        refine lv_iconst (pc := 48) (v := (0 : Int32)) hx hb dX9_marksOf_48 (by decide) ?_
        refine lv_iadd (pc := 49) hx hb dX9_marksOf_49 ?_
        obtain ⟨x4, e5, hf⟩ := um_le hf
        refine um_top e5 ?_
        clear e5
        refine lv_istore_n (pc := 50) (lv' := [(2, .int x4), (0, .ref (α 0)), (1, .int v1), (3, .int v3)]) hx hb dX9_marksOf_50 rfl hl (by decide) rfl ?_
        clear hl
        intro ls hl
        refine lv_iinc (pc := 51) (v := v3 + (1 : Int32)) (lv' := [(3, .int (v3 + (1 : Int32))), (2, .int x4), (0, .ref (α 0)), (1, .int v1)]) hx hb dX9_marksOf_51 hl (k := 3) rfl rfl (by decide) rfl ?_
        clear hl
        intro ls hl
        refine lv_goto (pc := 54) (tgt := 4) hx hb dX9_marksOf_54 (by decide) ?_
        exact ih _ _ _ _ _ hf hW hS (lv_sub hl [2, 3, 1, 0] rfl)
      · have hf := um_it c1 hf
        clear c1
        refine lv_aload_n (pc := 29) hx hb dX9_marksOf_29 rfl (lv_at hl 0 rfl) ?_
        refine gF_X9_7 (pc := 30) Cx hW ms_0 rfl dX9_marksOf_30 ?_
        refine lv_aload_n (pc := 33) hx hb dX9_marksOf_33 rfl (lv_at hl 0 rfl) ?_
        refine lv_iload_n (pc := 34) hx hb dX9_marksOf_34 rfl (lv_at hl 3 rfl) ?_
        obtain ⟨x7, hc6, hf⟩ := um_bi hf
        refine um_cVi (pc := 35) (As := [.int v3]) (rest := [.ref (α 1), .int v2]) Cx (c_X9_markAt v3 hc6) kV_X9_markAt (Or.inl qM_X9_111) hW hS ms_0 rfl rfl hl rfl (Nat.le_of_ble_eq_true rfl) (Nat.le_of_ble_eq_true rfl) (Nat.le_of_ble_eq_true rfl) dX9_marksOf_35 (Nat.le_refl _) (Nat.le_refl _) ?_
        clear hW hS hc6
        intro H locs hW hS
        refine lv_iconst (pc := 38) (v := (3 : Int32)) hx hb dX9_marksOf_38 (by decide) ?_
        refine lv_iadd (pc := 39) hx hb dX9_marksOf_39 ?_
        obtain ⟨g8, hf⟩ := um_gu hf
        refine um_iald (pc := 40) Cx hW ms_1 rfl (um_ix_in g8) dX9_marksOf_40 ?_
        refine lv_if_ne (pc := 41) (tgt := 48) hx hb dX9_marksOf_41 (by decide) (fun c1 => ?_) (fun c1 => ?_)
        · have hf := um_ie c1 hf
          clear c1
          refine lv_iconst (pc := 48) (v := (0 : Int32)) hx hb dX9_marksOf_48 (by decide) ?_
          refine lv_iadd (pc := 49) hx hb dX9_marksOf_49 ?_
          obtain ⟨x9, e10, hf⟩ := um_le hf
          refine um_top e10 ?_
          clear e10
          refine lv_istore_n (pc := 50) (lv' := [(2, .int x9), (0, .ref (α 0)), (1, .int v1), (3, .int v3)]) hx hb dX9_marksOf_50 rfl hl (by decide) rfl ?_
          clear hl
          intro ls hl
          refine lv_iinc (pc := 51) (v := v3 + (1 : Int32)) (lv' := [(3, .int (v3 + (1 : Int32))), (2, .int x9), (0, .ref (α 0)), (1, .int v1)]) hx hb dX9_marksOf_51 hl (k := 3) rfl rfl (by decide) rfl ?_
          clear hl
          intro ls hl
          refine lv_goto (pc := 54) (tgt := 4) hx hb dX9_marksOf_54 (by decide) ?_
          exact ih _ _ _ _ _ hf hW hS (lv_sub hl [2, 3, 1, 0] rfl)
        · have hf := um_it c1 hf
          clear c1
          refine lv_iconst (pc := 44) (v := (1 : Int32)) hx hb dX9_marksOf_44 (by decide) ?_
          refine lv_goto (pc := 45) (tgt := 49) hx hb dX9_marksOf_45 (by decide) ?_
          refine lv_iadd (pc := 49) hx hb dX9_marksOf_49 ?_
          obtain ⟨x11, e12, hf⟩ := um_le hf
          refine um_top e12 ?_
          clear e12
          refine lv_istore_n (pc := 50) (lv' := [(2, .int x11), (0, .ref (α 0)), (1, .int v1), (3, .int v3)]) hx hb dX9_marksOf_50 rfl hl (by decide) rfl ?_
          clear hl
          intro ls hl
          refine lv_iinc (pc := 51) (v := v3 + (1 : Int32)) (lv' := [(3, .int (v3 + (1 : Int32))), (2, .int x11), (0, .ref (α 0)), (1, .int v1)]) hx hb dX9_marksOf_51 hl (k := 3) rfl rfl (by decide) rfl ?_
          clear hl
          intro ls hl
          refine lv_goto (pc := 54) (tgt := 4) hx hb dX9_marksOf_54 (by decide) ?_
          exact ih _ _ _ _ _ hf hW hS (lv_sub hl [2, 3, 1, 0] rfl)
set_option maxRecDepth 100000 in
set_option maxHeartbeats 4000000 in
theorem b_X9_marksOf {H : Heap} {locs : List Loc} {ls : Array Slot} {σ : um_S} {r : Int32} (a1 : Int32)  (hf : f_X9_marksOf a1 σ = some r) (Cx : um_C p s m meth c args cX9_marksOf 4 (some FieldType.int) RX9 Z) (hW : um_W Z msh α σ H) (hS : va_S (um_D msh α) s.heap H locs) (hl : lv_has ls 4 [(0, .ref (α 0)), (1, .int a1)]) : um_G p l e (1) (21) s m args below meth c Z msh α σ (some (.int r)) H locs (F0 m 0 ls []) := by
  have hx := Cx.1
  have hb := Cx.2.1
  have hown := Cx.2.2.2.2.1
  have hts := Cx.2.2.2.2.2.1
  rw [f_X9_marksOf] at hf
  refine lv_iconst (pc := 0) (v := (0 : Int32)) hx hb dX9_marksOf_0 (by decide) ?_
  refine lv_istore_n (pc := 1) (lv' := [(2, .int (0 : Int32)), (0, .ref (α 0)), (1, .int a1)]) hx hb dX9_marksOf_1 rfl hl (by decide) rfl ?_
  clear hl
  intro ls hl
  refine lv_iconst (pc := 2) (v := (0 : Int32)) hx hb dX9_marksOf_2 (by decide) ?_
  refine lv_istore_n (pc := 3) (lv' := [(3, .int (0 : Int32)), (2, .int (0 : Int32)), (0, .ref (α 0)), (1, .int a1)]) hx hb dX9_marksOf_3 rfl hl (by decide) rfl ?_
  clear hl
  intro ls hl
  obtain ⟨x1, hc2, hf⟩ := um_bi hf
  refine t_X9_marksOf_l4 a1 Cx ?_ um_N _ _ _ _ _ hc2 hW hS (lv_sub hl [2, 3, 1, 0] rfl)
  clear hW hS hl hc2
  intro H locs ls hW hS hl
  refine lv_iload_n (pc := 57) hx hb dX9_marksOf_57 rfl (lv_at hl 0 rfl) ?_
  exact um_iretR (pc := 58) Cx hW hS hf dX9_marksOf_58
theorem c_X9_marksOf {σ : um_S} {r : Int32} (a1 : Int32)  (hf : f_X9_marksOf a1 σ = some r) : um_M l yX9_marksOf cX9_marksOf 4 (some FieldType.int) (1) (21) Z msh α σ [.ref (α 0), .int a1] (some (.int r)) σ :=
  um_start (by decide) (Nat.le_of_ble_eq_true rfl) (fun p e s m below meth c ls Cx hW hS hl => b_X9_marksOf a1 hf Cx hW hS hl)
noncomputable def f_X9_textAt (a1 : Int32) (σ : um_S) : Option (Int32) :=
    some ((780 : Int32) + ((200 : Int32) * a1))
set_option maxRecDepth 100000 in
set_option maxHeartbeats 4000000 in
theorem b_X9_textAt {H : Heap} {locs : List Loc} {ls : Array Slot} {σ : um_S} {r : Int32} (a1 : Int32)  (hf : f_X9_textAt a1 σ = some r) (Cx : um_C p s m meth c args cX9_textAt 2 (some FieldType.int) RX9 Z) (hW : um_W Z msh α σ H) (hS : va_S (um_D msh α) s.heap H locs) (hl : lv_has ls 2 [(0, .ref (α 0)), (1, .int a1)]) : um_G p l e (0) (0) s m args below meth c Z msh α σ (some (.int r)) H locs (F0 m 0 ls []) := by
  have hx := Cx.1
  have hb := Cx.2.1
  have hown := Cx.2.2.2.2.1
  have hts := Cx.2.2.2.2.2.1
  rw [f_X9_textAt] at hf
  refine lv_sipush (pc := 0) (v := (780 : Int32)) hx hb dX9_textAt_0 (by decide) ?_
  refine lv_sipush (pc := 3) (v := (200 : Int32)) hx hb dX9_textAt_3 (by decide) ?_
  refine lv_iload_n (pc := 6) hx hb dX9_textAt_6 rfl (lv_at hl 1 rfl) ?_
  refine lv_imul (pc := 7) hx hb dX9_textAt_7 ?_
  refine lv_iadd (pc := 8) hx hb dX9_textAt_8 ?_
  exact um_iretR (pc := 9) Cx hW hS hf dX9_textAt_9
theorem c_X9_textAt {σ : um_S} {r : Int32} (a1 : Int32)  (hf : f_X9_textAt a1 σ = some r) : um_M l yX9_textAt cX9_textAt 2 (some FieldType.int) (0) (0) Z msh α σ [.ref (α 0), .int a1] (some (.int r)) σ :=
  um_start (by decide) (Nat.le_of_ble_eq_true rfl) (fun p e s m below meth c ls Cx hW hS hl => b_X9_textAt a1 hf Cx hW hS hl)
noncomputable def f_X9_counts_l4 (v1 : Int32) (σ : um_S) : Nat → Int32 → Int32 → Option (Int32)
  | 0, _, _ => none
  | n + 1, v2, v3 =>
    if (σ.1 1 5) ≤ v3 then
    (some v2)
    else
    ((f_X9_textAt v3 σ).bind fun x2 =>
    (if um_ix (x2 + (0 : Int32)) 3790 then
    (um_let (fun (x5 : Int32) =>
    (if x5 = 0 then
    (f_X9_counts_l4 v1 σ n v2 (v3 + (1 : Int32)))
    else
    (if v2 < 0 then
    (f_X9_counts_l4 v1 σ n v3 (v3 + (1 : Int32)))
    else
    ((f_X9_textAt v3 σ).bind fun x7 =>
    (if um_ix (x7 + (1 : Int32)) 3790 then
    ((f_X9_textAt v2 σ).bind fun x10 =>
    (if um_ix (x10 + (1 : Int32)) 3790 then
    (if (σ.1 1 (x7 + (1 : Int32)).toNatClampNeg) < (σ.1 1 (x10 + (1 : Int32)).toNatClampNeg) then
    (f_X9_counts_l4 v1 σ n v2 (v3 + (1 : Int32)))
    else
    (f_X9_counts_l4 v1 σ n v3 (v3 + (1 : Int32)))) else none)) else none))))) fun k4 =>
    (um_let (fun (_u : Unit) =>
    (k4 (0 : Int32))) fun k12 =>
    (if (σ.1 1 (x2 + (0 : Int32)).toNatClampNeg) = v1 then
    ((f_X9_textAt v3 σ).bind fun x14 =>
    (if um_ix (x14 + (1 : Int32)) 3790 then
    (if (σ.1 1 0) < (σ.1 1 (x14 + (1 : Int32)).toNatClampNeg) then
    (k12 ())
    else
    (k4 (1 : Int32))) else none))
    else
    (k12 ())))) else none))
noncomputable def f_X9_counts (a1 : Int32) (σ : um_S) : Option (Int32) :=
    (f_X9_counts_l4 a1 σ um_N (-1 : Int32) (0 : Int32)).bind fun x1 =>
    (some x1)
set_option maxRecDepth 100000 in
set_option maxHeartbeats 4000000 in
theorem t_X9_counts_l4 {Q : State → Prop} {o2 : Int32} {σ : um_S} (v1 : Int32)  (Cx : um_C p s m meth c args cX9_counts 5 (some FieldType.int) RX9 Z) (hE : ∀ (H : Heap) (locs : List Loc) (ls : Array Slot), um_W Z msh α σ H → va_S (um_D msh α) s.heap H locs → lv_has ls 5 [(2, .int o2)] → W p l e { frames := 1, cells := 0, slots := 0, locals := 21 } s m args below meth c H locs 0 0 Q (F0 m 106 ls [])) : ∀ (n : Nat) (v2 : Int32) (v3 : Int32) (H : Heap) (locs : List Loc) (ls : Array Slot), f_X9_counts_l4 v1 σ n v2 v3 = some o2 → um_W Z msh α σ H → va_S (um_D msh α) s.heap H locs → lv_has ls 5 [(0, .ref (α 0)), (1, .int v1), (2, .int v2), (3, .int v3)] → W p l e { frames := 1, cells := 0, slots := 0, locals := 21 } s m args below meth c H locs 0 0 Q (F0 m 4 ls []) := by
  have hx := Cx.1
  have hb := Cx.2.1
  have hown := Cx.2.2.2.2.1
  have hts := Cx.2.2.2.2.2.1
  intro n
  induction n with
  | zero =>
    intro v2 v3 H locs ls hf hW hS hl
    cases hf
  | succ n ih =>
    intro v2 v3 H locs ls hf hW hS hl
    rw [f_X9_counts_l4] at hf
    refine lv_iload_n (pc := 4) hx hb dX9_counts_4 rfl (lv_at hl 3 rfl) ?_
    refine lv_aload_n (pc := 5) hx hb dX9_counts_5 rfl (lv_at hl 0 rfl) ?_
    refine gF_X9_7 (pc := 6) Cx hW ms_0 rfl dX9_counts_6 ?_
    refine lv_iconst (pc := 9) (v := (5 : Int32)) hx hb dX9_counts_9 (by decide) ?_
    refine um_iaj (pc := 10) (n := 3790) 5 rfl Cx hW ms_1 rfl (um_ix_in (by decide)) dX9_counts_10 ?_
    refine lv_icmp_ge (pc := 11) (tgt := 106) hx hb dX9_counts_11 (by decide) (fun c1 => ?_) (fun c1 => ?_)
    · have hf := um_it c1 hf
      clear c1
      cases hf
      exact hE _ _ _ hW hS (lv_sub hl [2] rfl)
    · have hf := um_ie c1 hf
      clear c1
      refine lv_aload_n (pc := 14) hx hb dX9_counts_14 rfl (lv_at hl 0 rfl) ?_
      refine gF_X9_7 (pc := 15) Cx hW ms_0 rfl dX9_counts_15 ?_
      refine lv_aload_n (pc := 18) hx hb dX9_counts_18 rfl (lv_at hl 0 rfl) ?_
      refine lv_iload_n (pc := 19) hx hb dX9_counts_19 rfl (lv_at hl 3 rfl) ?_
      obtain ⟨x2, hc1, hf⟩ := um_bi hf
      refine um_cVi (pc := 20) (As := [.int v3]) (rest := [.ref (α 1)]) Cx (c_X9_textAt v3 hc1) kV_X9_textAt (Or.inl qM_X9_228) hW hS ms_0 rfl rfl hl rfl (Nat.le_of_ble_eq_true rfl) (Nat.le_of_ble_eq_true rfl) (Nat.le_of_ble_eq_true rfl) dX9_counts_20 (Nat.le_refl _) (Nat.le_refl _) ?_
      clear hW hS hc1
      intro H locs hW hS
      refine lv_iconst (pc := 23) (v := (0 : Int32)) hx hb dX9_counts_23 (by decide) ?_
      refine lv_iadd (pc := 24) hx hb dX9_counts_24 ?_
      obtain ⟨g3, hf⟩ := um_gu hf
      refine um_iald (pc := 25) Cx hW ms_1 rfl (um_ix_in g3) dX9_counts_25 ?_
      refine lv_iload_n (pc := 26) hx hb dX9_counts_26 rfl (lv_at hl 1 rfl) ?_
      obtain ⟨k4, hk4, hf⟩ := um_j1 hf
      have J4 : ∀ (x5 : Int32), k4 x5 = some o2 → ∀ (H : Heap) (locs : List Loc) (ls : Array Slot), um_W Z msh α σ H → va_S (um_D msh α) s.heap H locs → lv_has ls 5 [(0, .ref (α 0)), (1, .int v1), (2, .int v2), (3, .int v3)] → W p l e { frames := 1, cells := 0, slots := 0, locals := 21 } s m args below meth c H locs 0 0 Q (F0 m 56 ls [.int x5]) := by
        intro x5 hf H locs ls hW hS hl
        rw [hk4] at hf
        refine lv_istore (pc := 56) (lv' := [(4, .int x5), (0, .ref (α 0)), (1, .int v1), (2, .int v2), (3, .int v3)]) hx hb dX9_counts_56 hl (by decide) rfl ?_
        clear hl
        intro ls hl
        refine lv_iload (pc := 58) hx hb dX9_counts_58 (lv_at hl 0 rfl) ?_
        refine lv_if_eq (pc := 60) (tgt := 98) hx hb dX9_counts_60 (by decide) (fun c1 => ?_) (fun c1 => ?_)
        · have hf := um_it c1 hf
          clear c1
          refine lv_iload_n (pc := 98) hx hb dX9_counts_98 rfl (lv_at hl 3 rfl) ?_
          refine lv_istore_n (pc := 99) (lv' := [(2, .int v2), (4, .int x5), (0, .ref (α 0)), (1, .int v1), (3, .int v3)]) hx hb dX9_counts_99 rfl hl (by decide) rfl ?_
          clear hl
          intro ls hl
          refine lv_iinc (pc := 100) (v := v3 + (1 : Int32)) (lv' := [(3, .int (v3 + (1 : Int32))), (2, .int v2), (4, .int x5), (0, .ref (α 0)), (1, .int v1)]) hx hb dX9_counts_100 hl (k := 4) rfl rfl (by decide) rfl ?_
          clear hl
          intro ls hl
          refine lv_goto (pc := 103) (tgt := 4) hx hb dX9_counts_103 (by decide) ?_
          exact ih _ _ _ _ _ hf hW hS (lv_sub hl [3, 4, 1, 0] rfl)
        · have hf := um_ie c1 hf
          clear c1
          refine lv_iload_n (pc := 63) hx hb dX9_counts_63 rfl (lv_at hl 3 rfl) ?_
          refine lv_if_lt (pc := 64) (tgt := 94) hx hb dX9_counts_64 (by decide) (fun c1 => ?_) (fun c1 => ?_)
          · have hf := um_it c1 hf
            clear c1
            refine lv_iload_n (pc := 94) hx hb dX9_counts_94 rfl (lv_at hl 4 rfl) ?_
            refine lv_goto (pc := 95) (tgt := 99) hx hb dX9_counts_95 (by decide) ?_
            refine lv_istore_n (pc := 99) (lv' := [(2, .int v3), (4, .int x5), (0, .ref (α 0)), (1, .int v1), (3, .int v3)]) hx hb dX9_counts_99 rfl hl (by decide) rfl ?_
            clear hl
            intro ls hl
            refine lv_iinc (pc := 100) (v := v3 + (1 : Int32)) (lv' := [(3, .int (v3 + (1 : Int32))), (2, .int v3), (4, .int x5), (0, .ref (α 0)), (1, .int v1)]) hx hb dX9_counts_100 hl (k := 4) rfl rfl (by decide) rfl ?_
            clear hl
            intro ls hl
            refine lv_goto (pc := 103) (tgt := 4) hx hb dX9_counts_103 (by decide) ?_
            exact ih _ _ _ _ _ hf hW hS (lv_sub hl [3, 4, 1, 0] rfl)
          · have hf := um_ie c1 hf
            clear c1
            refine lv_aload_n (pc := 67) hx hb dX9_counts_67 rfl (lv_at hl 1 rfl) ?_
            refine gF_X9_7 (pc := 68) Cx hW ms_0 rfl dX9_counts_68 ?_
            refine lv_aload_n (pc := 71) hx hb dX9_counts_71 rfl (lv_at hl 1 rfl) ?_
            refine lv_iload_n (pc := 72) hx hb dX9_counts_72 rfl (lv_at hl 4 rfl) ?_
            obtain ⟨x7, hc6, hf⟩ := um_bi hf
            refine um_cVi (pc := 73) (As := [.int v3]) (rest := [.ref (α 1)]) Cx (c_X9_textAt v3 hc6) kV_X9_textAt (Or.inl qM_X9_228) hW hS ms_0 rfl rfl hl rfl (Nat.le_of_ble_eq_true rfl) (Nat.le_of_ble_eq_true rfl) (Nat.le_of_ble_eq_true rfl) dX9_counts_73 (Nat.le_refl _) (Nat.le_refl _) ?_
            clear hW hS hc6
            intro H locs hW hS
            refine lv_iconst (pc := 76) (v := (1 : Int32)) hx hb dX9_counts_76 (by decide) ?_
            refine lv_iadd (pc := 77) hx hb dX9_counts_77 ?_
            obtain ⟨g8, hf⟩ := um_gu hf
            refine um_iald (pc := 78) Cx hW ms_1 rfl (um_ix_in g8) dX9_counts_78 ?_
            refine lv_aload_n (pc := 79) hx hb dX9_counts_79 rfl (lv_at hl 1 rfl) ?_
            refine gF_X9_7 (pc := 80) Cx hW ms_0 rfl dX9_counts_80 ?_
            refine lv_aload_n (pc := 83) hx hb dX9_counts_83 rfl (lv_at hl 1 rfl) ?_
            refine lv_iload_n (pc := 84) hx hb dX9_counts_84 rfl (lv_at hl 3 rfl) ?_
            obtain ⟨x10, hc9, hf⟩ := um_bi hf
            refine um_cVi (pc := 85) (As := [.int v2]) (rest := [.ref (α 1), .int (σ.1 1 (x7 + (1 : Int32)).toNatClampNeg)]) Cx (c_X9_textAt v2 hc9) kV_X9_textAt (Or.inl qM_X9_228) hW hS ms_0 rfl rfl hl rfl (Nat.le_of_ble_eq_true rfl) (Nat.le_of_ble_eq_true rfl) (Nat.le_of_ble_eq_true rfl) dX9_counts_85 (Nat.le_refl _) (Nat.le_refl _) ?_
            clear hW hS hc9
            intro H locs hW hS
            refine lv_iconst (pc := 88) (v := (1 : Int32)) hx hb dX9_counts_88 (by decide) ?_
            refine lv_iadd (pc := 89) hx hb dX9_counts_89 ?_
            obtain ⟨g11, hf⟩ := um_gu hf
            refine um_iald (pc := 90) Cx hW ms_1 rfl (um_ix_in g11) dX9_counts_90 ?_
            refine lv_icmp_lt (pc := 91) (tgt := 98) hx hb dX9_counts_91 (by decide) (fun c1 => ?_) (fun c1 => ?_)
            · have hf := um_it c1 hf
              clear c1
              refine lv_iload_n (pc := 98) hx hb dX9_counts_98 rfl (lv_at hl 3 rfl) ?_
              refine lv_istore_n (pc := 99) (lv' := [(2, .int v2), (4, .int x5), (0, .ref (α 0)), (1, .int v1), (3, .int v3)]) hx hb dX9_counts_99 rfl hl (by decide) rfl ?_
              clear hl
              intro ls hl
              refine lv_iinc (pc := 100) (v := v3 + (1 : Int32)) (lv' := [(3, .int (v3 + (1 : Int32))), (2, .int v2), (4, .int x5), (0, .ref (α 0)), (1, .int v1)]) hx hb dX9_counts_100 hl (k := 4) rfl rfl (by decide) rfl ?_
              clear hl
              intro ls hl
              refine lv_goto (pc := 103) (tgt := 4) hx hb dX9_counts_103 (by decide) ?_
              exact ih _ _ _ _ _ hf hW hS (lv_sub hl [3, 4, 1, 0] rfl)
            · have hf := um_ie c1 hf
              clear c1
              refine lv_iload_n (pc := 94) hx hb dX9_counts_94 rfl (lv_at hl 4 rfl) ?_
              refine lv_goto (pc := 95) (tgt := 99) hx hb dX9_counts_95 (by decide) ?_
              refine lv_istore_n (pc := 99) (lv' := [(2, .int v3), (4, .int x5), (0, .ref (α 0)), (1, .int v1), (3, .int v3)]) hx hb dX9_counts_99 rfl hl (by decide) rfl ?_
              clear hl
              intro ls hl
              refine lv_iinc (pc := 100) (v := v3 + (1 : Int32)) (lv' := [(3, .int (v3 + (1 : Int32))), (2, .int v3), (4, .int x5), (0, .ref (α 0)), (1, .int v1)]) hx hb dX9_counts_100 hl (k := 4) rfl rfl (by decide) rfl ?_
              clear hl
              intro ls hl
              refine lv_goto (pc := 103) (tgt := 4) hx hb dX9_counts_103 (by decide) ?_
              exact ih _ _ _ _ _ hf hW hS (lv_sub hl [3, 4, 1, 0] rfl)
      obtain ⟨k12, hk12, hf⟩ := um_j1 hf
      have J12 : ∀ (_u : Unit), k12 _u = some o2 → ∀ (H : Heap) (locs : List Loc) (ls : Array Slot), um_W Z msh α σ H → va_S (um_D msh α) s.heap H locs → lv_has ls 5 [(0, .ref (α 0)), (1, .int v1), (2, .int v2), (3, .int v3)] → W p l e { frames := 1, cells := 0, slots := 0, locals := 21 } s m args below meth c H locs 0 0 Q (F0 m 55 ls []) := by
        intro _u hf H locs ls hW hS hl
        rw [hk12] at hf
        refine lv_iconst (pc := 55) (v := (0 : Int32)) hx hb dX9_counts_55 (by decide) ?_
        exact J4 (0 : Int32) hf _ _ _ hW hS hl
      refine lv_icmp_ne (pc := 27) (tgt := 55) hx hb dX9_counts_27 (by decide) (fun c1 => ?_) (fun c1 => ?_)
      · have hf := um_ie c1 hf
        clear c1
        exact J12 () hf _ _ _ hW hS hl
      · have hf := um_it c1 hf
        clear c1
        refine lv_aload_n (pc := 30) hx hb dX9_counts_30 rfl (lv_at hl 0 rfl) ?_
        refine gF_X9_7 (pc := 31) Cx hW ms_0 rfl dX9_counts_31 ?_
        refine lv_aload_n (pc := 34) hx hb dX9_counts_34 rfl (lv_at hl 0 rfl) ?_
        refine lv_iload_n (pc := 35) hx hb dX9_counts_35 rfl (lv_at hl 3 rfl) ?_
        obtain ⟨x14, hc13, hf⟩ := um_bi hf
        refine um_cVi (pc := 36) (As := [.int v3]) (rest := [.ref (α 1)]) Cx (c_X9_textAt v3 hc13) kV_X9_textAt (Or.inl qM_X9_228) hW hS ms_0 rfl rfl hl rfl (Nat.le_of_ble_eq_true rfl) (Nat.le_of_ble_eq_true rfl) (Nat.le_of_ble_eq_true rfl) dX9_counts_36 (Nat.le_refl _) (Nat.le_refl _) ?_
        clear hW hS hc13
        intro H locs hW hS
        refine lv_iconst (pc := 39) (v := (1 : Int32)) hx hb dX9_counts_39 (by decide) ?_
        refine lv_iadd (pc := 40) hx hb dX9_counts_40 ?_
        obtain ⟨g15, hf⟩ := um_gu hf
        refine um_iald (pc := 41) Cx hW ms_1 rfl (um_ix_in g15) dX9_counts_41 ?_
        refine lv_aload_n (pc := 42) hx hb dX9_counts_42 rfl (lv_at hl 0 rfl) ?_
        refine gF_X9_7 (pc := 43) Cx hW ms_0 rfl dX9_counts_43 ?_
        refine lv_iconst (pc := 46) (v := (0 : Int32)) hx hb dX9_counts_46 (by decide) ?_
        refine um_iaj (pc := 47) (n := 3790) 0 rfl Cx hW ms_1 rfl (um_ix_in (by decide)) dX9_counts_47 ?_
        refine lv_icmp_gt (pc := 48) (tgt := 55) hx hb dX9_counts_48 (by decide) (fun c1 => ?_) (fun c1 => ?_)
        · have hf := um_it c1 hf
          clear c1
          exact J12 () hf _ _ _ hW hS hl
        · have hf := um_ie c1 hf
          clear c1
          refine lv_iconst (pc := 51) (v := (1 : Int32)) hx hb dX9_counts_51 (by decide) ?_
          refine lv_goto (pc := 52) (tgt := 56) hx hb dX9_counts_52 (by decide) ?_
          exact J4 (1 : Int32) hf _ _ _ hW hS hl
set_option maxRecDepth 100000 in
set_option maxHeartbeats 4000000 in
theorem b_X9_counts {H : Heap} {locs : List Loc} {ls : Array Slot} {σ : um_S} {r : Int32} (a1 : Int32)  (hf : f_X9_counts a1 σ = some r) (Cx : um_C p s m meth c args cX9_counts 5 (some FieldType.int) RX9 Z) (hW : um_W Z msh α σ H) (hS : va_S (um_D msh α) s.heap H locs) (hl : lv_has ls 5 [(0, .ref (α 0)), (1, .int a1)]) : um_G p l e (1) (21) s m args below meth c Z msh α σ (some (.int r)) H locs (F0 m 0 ls []) := by
  have hx := Cx.1
  have hb := Cx.2.1
  have hown := Cx.2.2.2.2.1
  have hts := Cx.2.2.2.2.2.1
  rw [f_X9_counts] at hf
  refine lv_iconst (pc := 0) (v := (-1 : Int32)) hx hb dX9_counts_0 (by decide) ?_
  refine lv_istore_n (pc := 1) (lv' := [(2, .int (-1 : Int32)), (0, .ref (α 0)), (1, .int a1)]) hx hb dX9_counts_1 rfl hl (by decide) rfl ?_
  clear hl
  intro ls hl
  refine lv_iconst (pc := 2) (v := (0 : Int32)) hx hb dX9_counts_2 (by decide) ?_
  refine lv_istore_n (pc := 3) (lv' := [(3, .int (0 : Int32)), (2, .int (-1 : Int32)), (0, .ref (α 0)), (1, .int a1)]) hx hb dX9_counts_3 rfl hl (by decide) rfl ?_
  clear hl
  intro ls hl
  obtain ⟨x1, hc2, hf⟩ := um_bi hf
  refine t_X9_counts_l4 a1 Cx ?_ um_N _ _ _ _ _ hc2 hW hS (lv_sub hl [2, 3, 1, 0] rfl)
  clear hW hS hl hc2
  intro H locs ls hW hS hl
  refine lv_iload_n (pc := 106) hx hb dX9_counts_106 rfl (lv_at hl 0 rfl) ?_
  exact um_iretR (pc := 107) Cx hW hS hf dX9_counts_107
theorem c_X9_counts {σ : um_S} {r : Int32} (a1 : Int32)  (hf : f_X9_counts a1 σ = some r) : um_M l yX9_counts cX9_counts 5 (some FieldType.int) (1) (21) Z msh α σ [.ref (α 0), .int a1] (some (.int r)) σ :=
  um_start (by decide) (Nat.le_of_ble_eq_true rfl) (fun p e s m below meth c ls Cx hW hS hl => b_X9_counts a1 hf Cx hW hS hl)
noncomputable def f_X9_heldIn (a0 : Int32) (a1 : Int32) (σ : um_S) : Option (Int32) :=
    um_let (fun (x2 : Int32) =>
    (if 0 ≤ x2 then
    (some x2)
    else
    (some (0 : Int32)))) fun k1 =>
    (if a0 ≤ a1 then
    (k1 a0)
    else
    (k1 a1))
set_option maxRecDepth 100000 in
set_option maxHeartbeats 4000000 in
theorem b_X9_heldIn {H : Heap} {locs : List Loc} {ls : Array Slot} {σ : um_S} {r : Int32} (a0 : Int32) (a1 : Int32)  (hf : f_X9_heldIn a0 a1 σ = some r) (Cx : um_C p s m meth c args cX9_heldIn 3 (some FieldType.int) RX9 Z) (hW : um_W Z msh α σ H) (hS : va_S (um_D msh α) s.heap H locs) (hl : lv_has ls 3 [(0, .int a0), (1, .int a1)]) : um_G p l e (0) (0) s m args below meth c Z msh α σ (some (.int r)) H locs (F0 m 0 ls []) := by
  have hx := Cx.1
  have hb := Cx.2.1
  have hown := Cx.2.2.2.2.1
  have hts := Cx.2.2.2.2.2.1
  rw [f_X9_heldIn] at hf
  refine lv_iload_n (pc := 0) hx hb dX9_heldIn_0 rfl (lv_at hl 0 rfl) ?_
  refine lv_iload_n (pc := 1) hx hb dX9_heldIn_1 rfl (lv_at hl 1 rfl) ?_
  obtain ⟨k1, hk1, hf⟩ := um_j1 hf
  have J1 : ∀ (x2 : Int32), k1 x2 = some r → ∀ (H : Heap) (locs : List Loc) (ls : Array Slot), um_W Z msh α σ H → va_S (um_D msh α) s.heap H locs → lv_has ls 3 [] → um_G p l e (0) (0) s m args below meth c Z msh α σ (some (.int r)) H locs (F0 m 10 ls [.int x2]) := by
    intro x2 hf H locs ls hW hS hl
    rw [hk1] at hf
    refine lv_istore_n (pc := 10) (lv' := [(2, .int x2)]) hx hb dX9_heldIn_10 rfl hl (by decide) rfl ?_
    clear hl
    intro ls hl
    refine lv_iload_n (pc := 11) hx hb dX9_heldIn_11 rfl (lv_at hl 0 rfl) ?_
    refine lv_if_ge (pc := 12) (tgt := 19) hx hb dX9_heldIn_12 (by decide) (fun c1 => ?_) (fun c1 => ?_)
    · have hf := um_it c1 hf
      clear c1
      refine lv_iload_n (pc := 19) hx hb dX9_heldIn_19 rfl (lv_at hl 0 rfl) ?_
      exact um_iretR (pc := 20) Cx hW hS hf dX9_heldIn_20
    · have hf := um_ie c1 hf
      clear c1
      refine lv_iconst (pc := 15) (v := (0 : Int32)) hx hb dX9_heldIn_15 (by decide) ?_
      refine lv_goto (pc := 16) (tgt := 20) hx hb dX9_heldIn_16 (by decide) ?_
      exact um_iretR (pc := 20) Cx hW hS hf dX9_heldIn_20
  refine lv_icmp_le (pc := 2) (tgt := 9) hx hb dX9_heldIn_2 (by decide) (fun c1 => ?_) (fun c1 => ?_)
  · have hf := um_it c1 hf
    clear c1
    refine lv_iload_n (pc := 9) hx hb dX9_heldIn_9 rfl (lv_at hl 0 rfl) ?_
    exact J1 a0 hf _ _ _ hW hS (lv_sub hl [] rfl)
  · have hf := um_ie c1 hf
    clear c1
    refine lv_iload_n (pc := 5) hx hb dX9_heldIn_5 rfl (lv_at hl 1 rfl) ?_
    refine lv_goto (pc := 6) (tgt := 10) hx hb dX9_heldIn_6 (by decide) ?_
    exact J1 a1 hf _ _ _ hW hS (lv_sub hl [] rfl)
theorem c_X9_heldIn {σ : um_S} {r : Int32} (a0 : Int32) (a1 : Int32)  (hf : f_X9_heldIn a0 a1 σ = some r) : um_M l yX9_heldIn cX9_heldIn 3 (some FieldType.int) (0) (0) Z msh α σ [.int a0, .int a1] (some (.int r)) σ :=
  um_start (by decide) (Nat.le_of_ble_eq_true rfl) (fun p e s m below meth c ls Cx hW hS hl => b_X9_heldIn a0 a1 hf Cx hW hS hl)
noncomputable def f_X9_joined (a0 : Int32) (a1 : Int32) (a2 : Int32) (σ : um_S) : Option (Int32) :=
    um_let (fun (_u : Unit) =>
    (if a1 = 0 then
    (if a2 = 0 then
    (some (0 : Int32))
    else
    (some (1 : Int32)))
    else
    (some (1 : Int32)))) fun k1 =>
    (if a0 = (38 : Int32) then
    (if a1 = 0 then
    (some (0 : Int32))
    else
    (if a2 = 0 then
    (some (0 : Int32))
    else
    (some (1 : Int32))))
    else
    (if a0 = (39 : Int32) then
    (k1 ())
    else
    (if a0 = (40 : Int32) then
    (k1 ())
    else
    (if a0 = (41 : Int32) then
    (k1 ())
    else
    (if a0 = (42 : Int32) then
    (some (a1 * a2))
    else
    (if a0 = (43 : Int32) then
    (some (a1 + a2))
    else
    (if a0 = (44 : Int32) then
    (k1 ())
    else
    (if a0 = (45 : Int32) then
    (some (a1 - a2))
    else
    (if a0 = (46 : Int32) then
    (k1 ())
    else
    (if a0 = (47 : Int32) then
    (if a2 = 0 then
    (some (0 : Int32))
    else
    (if a2 = (-1 : Int32) then
    (some (-a1))
    else
    (if a2 = 0 then none else
    (some (a1 / a2)))))
    else
    (if a0 = (48 : Int32) then
    (k1 ())
    else
    (if a0 = (49 : Int32) then
    (k1 ())
    else
    (if a0 = (50 : Int32) then
    (k1 ())
    else
    (if a0 = (51 : Int32) then
    (k1 ())
    else
    (if a0 = (52 : Int32) then
    (k1 ())
    else
    (if a0 = (53 : Int32) then
    (k1 ())
    else
    (if a0 = (54 : Int32) then
    (k1 ())
    else
    (if a0 = (55 : Int32) then
    (k1 ())
    else
    (if a0 = (56 : Int32) then
    (k1 ())
    else
    (if a0 = (57 : Int32) then
    (k1 ())
    else
    (if a0 = (58 : Int32) then
    (k1 ())
    else
    (if a0 = (59 : Int32) then
    (k1 ())
    else
    (if a0 = (60 : Int32) then
    (if a2 ≤ a1 then
    (some (0 : Int32))
    else
    (some (1 : Int32)))
    else
    (if a0 = (61 : Int32) then
    (if a1 = a2 then
    (some (1 : Int32))
    else
    (some (0 : Int32)))
    else
    (if a0 = (62 : Int32) then
    (if a1 ≤ a2 then
    (some (0 : Int32))
    else
    (some (1 : Int32)))
    else
    (k1 ()))))))))))))))))))))))))))
set_option maxRecDepth 100000 in
set_option maxHeartbeats 4000000 in
theorem b_X9_joined {H : Heap} {locs : List Loc} {ls : Array Slot} {σ : um_S} {r : Int32} (a0 : Int32) (a1 : Int32) (a2 : Int32)  (hf : f_X9_joined a0 a1 a2 σ = some r) (Cx : um_C p s m meth c args cX9_joined 3 (some FieldType.int) RX9 Z) (hW : um_W Z msh α σ H) (hS : va_S (um_D msh α) s.heap H locs) (hl : lv_has ls 3 [(0, .int a0), (1, .int a1), (2, .int a2)]) : um_G p l e (0) (0) s m args below meth c Z msh α σ (some (.int r)) H locs (F0 m 0 ls []) := by
  have hx := Cx.1
  have hb := Cx.2.1
  have hown := Cx.2.2.2.2.1
  have hts := Cx.2.2.2.2.2.1
  rw [f_X9_joined] at hf
  refine lv_iload_n (pc := 0) hx hb dX9_joined_0 rfl (lv_at hl 0 rfl) ?_
  obtain ⟨k1, hk1, hf⟩ := um_j1 hf
  have J1 : ∀ (_u : Unit), k1 _u = some r → ∀ (H : Heap) (locs : List Loc) (ls : Array Slot), um_W Z msh α σ H → va_S (um_D msh α) s.heap H locs → lv_has ls 3 [(1, .int a1), (2, .int a2)] → um_G p l e (0) (0) s m args below meth c Z msh α σ (some (.int r)) H locs (F0 m 197 ls []) := by
    intro _u hf H locs ls hW hS hl
    rw [hk1] at hf
    refine lv_iload_n (pc := 197) hx hb dX9_joined_197 rfl (lv_at hl 0 rfl) ?_
    refine lv_if_ne (pc := 198) (tgt := 205) hx hb dX9_joined_198 (by decide) (fun c1 => ?_) (fun c1 => ?_)
    · have hf := um_ie c1 hf
      clear c1
      refine lv_iconst (pc := 205) (v := (1 : Int32)) hx hb dX9_joined_205 (by decide) ?_
      refine lv_goto (pc := 206) (tgt := 210) hx hb dX9_joined_206 (by decide) ?_
      exact um_iretR (pc := 210) Cx hW hS hf dX9_joined_210
    · have hf := um_it c1 hf
      clear c1
      refine lv_iload_n (pc := 201) hx hb dX9_joined_201 rfl (lv_at hl 1 rfl) ?_
      refine lv_if_eq (pc := 202) (tgt := 209) hx hb dX9_joined_202 (by decide) (fun c1 => ?_) (fun c1 => ?_)
      · have hf := um_it c1 hf
        clear c1
        refine lv_iconst (pc := 209) (v := (0 : Int32)) hx hb dX9_joined_209 (by decide) ?_
        exact um_iretR (pc := 210) Cx hW hS hf dX9_joined_210
      · have hf := um_ie c1 hf
        clear c1
        refine lv_iconst (pc := 205) (v := (1 : Int32)) hx hb dX9_joined_205 (by decide) ?_
        refine lv_goto (pc := 206) (tgt := 210) hx hb dX9_joined_206 (by decide) ?_
        exact um_iretR (pc := 210) Cx hW hS hf dX9_joined_210
  by_cases c1 : a0 = (38 : Int32)
  · have hf := um_it c1 hf
    refine lv_tableIn (pc := 1) (tgt := 183) hx hb dX9_joined_1 (by rw [c1]; decide) (by rw [c1]; decide) (by rw [c1]; rfl) (by decide) ?_
    refine lv_iload_n (pc := 183) hx hb dX9_joined_183 rfl (lv_at hl 1 rfl) ?_
    refine lv_if_eq (pc := 184) (tgt := 195) hx hb dX9_joined_184 (by decide) (fun c1 => ?_) (fun c1 => ?_)
    · have hf := um_it c1 hf
      clear c1
      refine lv_iconst (pc := 195) (v := (0 : Int32)) hx hb dX9_joined_195 (by decide) ?_
      exact um_iretR (pc := 196) Cx hW hS hf dX9_joined_196
    · have hf := um_ie c1 hf
      clear c1
      refine lv_iload_n (pc := 187) hx hb dX9_joined_187 rfl (lv_at hl 2 rfl) ?_
      refine lv_if_eq (pc := 188) (tgt := 195) hx hb dX9_joined_188 (by decide) (fun c1 => ?_) (fun c1 => ?_)
      · have hf := um_it c1 hf
        clear c1
        refine lv_iconst (pc := 195) (v := (0 : Int32)) hx hb dX9_joined_195 (by decide) ?_
        exact um_iretR (pc := 196) Cx hW hS hf dX9_joined_196
      · have hf := um_ie c1 hf
        clear c1
        refine lv_iconst (pc := 191) (v := (1 : Int32)) hx hb dX9_joined_191 (by decide) ?_
        refine lv_goto (pc := 192) (tgt := 196) hx hb dX9_joined_192 (by decide) ?_
        exact um_iretR (pc := 196) Cx hW hS hf dX9_joined_196
  have hf := um_ie c1 hf
  by_cases c2 : a0 = (39 : Int32)
  · have hf := um_it c2 hf
    refine lv_tableIn (pc := 1) (tgt := 197) hx hb dX9_joined_1 (by rw [c2]; decide) (by rw [c2]; decide) (by rw [c2]; rfl) (by decide) ?_
    exact J1 () hf _ _ _ hW hS (lv_sub hl [1, 2] rfl)
  have hf := um_ie c2 hf
  by_cases c3 : a0 = (40 : Int32)
  · have hf := um_it c3 hf
    refine lv_tableIn (pc := 1) (tgt := 197) hx hb dX9_joined_1 (by rw [c3]; decide) (by rw [c3]; decide) (by rw [c3]; rfl) (by decide) ?_
    exact J1 () hf _ _ _ hW hS (lv_sub hl [1, 2] rfl)
  have hf := um_ie c3 hf
  by_cases c4 : a0 = (41 : Int32)
  · have hf := um_it c4 hf
    refine lv_tableIn (pc := 1) (tgt := 197) hx hb dX9_joined_1 (by rw [c4]; decide) (by rw [c4]; decide) (by rw [c4]; rfl) (by decide) ?_
    exact J1 () hf _ _ _ hW hS (lv_sub hl [1, 2] rfl)
  have hf := um_ie c4 hf
  by_cases c5 : a0 = (42 : Int32)
  · have hf := um_it c5 hf
    refine lv_tableIn (pc := 1) (tgt := 124) hx hb dX9_joined_1 (by rw [c5]; decide) (by rw [c5]; decide) (by rw [c5]; rfl) (by decide) ?_
    refine lv_iload_n (pc := 124) hx hb dX9_joined_124 rfl (lv_at hl 1 rfl) ?_
    refine lv_iload_n (pc := 125) hx hb dX9_joined_125 rfl (lv_at hl 2 rfl) ?_
    refine lv_imul (pc := 126) hx hb dX9_joined_126 ?_
    exact um_iretR (pc := 127) Cx hW hS hf dX9_joined_127
  have hf := um_ie c5 hf
  by_cases c6 : a0 = (43 : Int32)
  · have hf := um_it c6 hf
    refine lv_tableIn (pc := 1) (tgt := 116) hx hb dX9_joined_1 (by rw [c6]; decide) (by rw [c6]; decide) (by rw [c6]; rfl) (by decide) ?_
    refine lv_iload_n (pc := 116) hx hb dX9_joined_116 rfl (lv_at hl 1 rfl) ?_
    refine lv_iload_n (pc := 117) hx hb dX9_joined_117 rfl (lv_at hl 2 rfl) ?_
    refine lv_iadd (pc := 118) hx hb dX9_joined_118 ?_
    exact um_iretR (pc := 119) Cx hW hS hf dX9_joined_119
  have hf := um_ie c6 hf
  by_cases c7 : a0 = (44 : Int32)
  · have hf := um_it c7 hf
    refine lv_tableIn (pc := 1) (tgt := 197) hx hb dX9_joined_1 (by rw [c7]; decide) (by rw [c7]; decide) (by rw [c7]; rfl) (by decide) ?_
    exact J1 () hf _ _ _ hW hS (lv_sub hl [1, 2] rfl)
  have hf := um_ie c7 hf
  by_cases c8 : a0 = (45 : Int32)
  · have hf := um_it c8 hf
    refine lv_tableIn (pc := 1) (tgt := 120) hx hb dX9_joined_1 (by rw [c8]; decide) (by rw [c8]; decide) (by rw [c8]; rfl) (by decide) ?_
    refine lv_iload_n (pc := 120) hx hb dX9_joined_120 rfl (lv_at hl 1 rfl) ?_
    refine lv_iload_n (pc := 121) hx hb dX9_joined_121 rfl (lv_at hl 2 rfl) ?_
    refine lv_isub (pc := 122) hx hb dX9_joined_122 ?_
    exact um_iretR (pc := 123) Cx hW hS hf dX9_joined_123
  have hf := um_ie c8 hf
  by_cases c9 : a0 = (46 : Int32)
  · have hf := um_it c9 hf
    refine lv_tableIn (pc := 1) (tgt := 197) hx hb dX9_joined_1 (by rw [c9]; decide) (by rw [c9]; decide) (by rw [c9]; rfl) (by decide) ?_
    exact J1 () hf _ _ _ hW hS (lv_sub hl [1, 2] rfl)
  have hf := um_ie c9 hf
  by_cases c10 : a0 = (47 : Int32)
  · have hf := um_it c10 hf
    refine lv_tableIn (pc := 1) (tgt := 128) hx hb dX9_joined_1 (by rw [c10]; decide) (by rw [c10]; decide) (by rw [c10]; rfl) (by decide) ?_
    refine lv_iload_n (pc := 128) hx hb dX9_joined_128 rfl (lv_at hl 2 rfl) ?_
    refine lv_if_ne (pc := 129) (tgt := 136) hx hb dX9_joined_129 (by decide) (fun c1 => ?_) (fun c1 => ?_)
    · have hf := um_ie c1 hf
      clear c1
      refine lv_iload_n (pc := 136) hx hb dX9_joined_136 rfl (lv_at hl 2 rfl) ?_
      refine lv_iconst (pc := 137) (v := (-1 : Int32)) hx hb dX9_joined_137 (by decide) ?_
      refine lv_icmp_ne (pc := 138) (tgt := 146) hx hb dX9_joined_138 (by decide) (fun c1 => ?_) (fun c1 => ?_)
      · have hf := um_ie c1 hf
        clear c1
        refine lv_iload_n (pc := 146) hx hb dX9_joined_146 rfl (lv_at hl 1 rfl) ?_
        refine lv_iload_n (pc := 147) hx hb dX9_joined_147 rfl (lv_at hl 2 rfl) ?_
        obtain ⟨g2, hf⟩ := um_gn hf
        refine lv_idiv (pc := 148) hx hb dX9_joined_148 g2 ?_
        exact um_iretR (pc := 149) Cx hW hS hf dX9_joined_149
      · have hf := um_it c1 hf
        clear c1
        refine lv_iload_n (pc := 141) hx hb dX9_joined_141 rfl (lv_at hl 1 rfl) ?_
        refine lv_ineg (pc := 142) hx hb dX9_joined_142 ?_
        refine lv_goto (pc := 143) (tgt := 149) hx hb dX9_joined_143 (by decide) ?_
        exact um_iretR (pc := 149) Cx hW hS hf dX9_joined_149
    · have hf := um_it c1 hf
      clear c1
      refine lv_iconst (pc := 132) (v := (0 : Int32)) hx hb dX9_joined_132 (by decide) ?_
      refine lv_goto (pc := 133) (tgt := 149) hx hb dX9_joined_133 (by decide) ?_
      exact um_iretR (pc := 149) Cx hW hS hf dX9_joined_149
  have hf := um_ie c10 hf
  by_cases c11 : a0 = (48 : Int32)
  · have hf := um_it c11 hf
    refine lv_tableIn (pc := 1) (tgt := 197) hx hb dX9_joined_1 (by rw [c11]; decide) (by rw [c11]; decide) (by rw [c11]; rfl) (by decide) ?_
    exact J1 () hf _ _ _ hW hS (lv_sub hl [1, 2] rfl)
  have hf := um_ie c11 hf
  by_cases c12 : a0 = (49 : Int32)
  · have hf := um_it c12 hf
    refine lv_tableIn (pc := 1) (tgt := 197) hx hb dX9_joined_1 (by rw [c12]; decide) (by rw [c12]; decide) (by rw [c12]; rfl) (by decide) ?_
    exact J1 () hf _ _ _ hW hS (lv_sub hl [1, 2] rfl)
  have hf := um_ie c12 hf
  by_cases c13 : a0 = (50 : Int32)
  · have hf := um_it c13 hf
    refine lv_tableIn (pc := 1) (tgt := 197) hx hb dX9_joined_1 (by rw [c13]; decide) (by rw [c13]; decide) (by rw [c13]; rfl) (by decide) ?_
    exact J1 () hf _ _ _ hW hS (lv_sub hl [1, 2] rfl)
  have hf := um_ie c13 hf
  by_cases c14 : a0 = (51 : Int32)
  · have hf := um_it c14 hf
    refine lv_tableIn (pc := 1) (tgt := 197) hx hb dX9_joined_1 (by rw [c14]; decide) (by rw [c14]; decide) (by rw [c14]; rfl) (by decide) ?_
    exact J1 () hf _ _ _ hW hS (lv_sub hl [1, 2] rfl)
  have hf := um_ie c14 hf
  by_cases c15 : a0 = (52 : Int32)
  · have hf := um_it c15 hf
    refine lv_tableIn (pc := 1) (tgt := 197) hx hb dX9_joined_1 (by rw [c15]; decide) (by rw [c15]; decide) (by rw [c15]; rfl) (by decide) ?_
    exact J1 () hf _ _ _ hW hS (lv_sub hl [1, 2] rfl)
  have hf := um_ie c15 hf
  by_cases c16 : a0 = (53 : Int32)
  · have hf := um_it c16 hf
    refine lv_tableIn (pc := 1) (tgt := 197) hx hb dX9_joined_1 (by rw [c16]; decide) (by rw [c16]; decide) (by rw [c16]; rfl) (by decide) ?_
    exact J1 () hf _ _ _ hW hS (lv_sub hl [1, 2] rfl)
  have hf := um_ie c16 hf
  by_cases c17 : a0 = (54 : Int32)
  · have hf := um_it c17 hf
    refine lv_tableIn (pc := 1) (tgt := 197) hx hb dX9_joined_1 (by rw [c17]; decide) (by rw [c17]; decide) (by rw [c17]; rfl) (by decide) ?_
    exact J1 () hf _ _ _ hW hS (lv_sub hl [1, 2] rfl)
  have hf := um_ie c17 hf
  by_cases c18 : a0 = (55 : Int32)
  · have hf := um_it c18 hf
    refine lv_tableIn (pc := 1) (tgt := 197) hx hb dX9_joined_1 (by rw [c18]; decide) (by rw [c18]; decide) (by rw [c18]; rfl) (by decide) ?_
    exact J1 () hf _ _ _ hW hS (lv_sub hl [1, 2] rfl)
  have hf := um_ie c18 hf
  by_cases c19 : a0 = (56 : Int32)
  · have hf := um_it c19 hf
    refine lv_tableIn (pc := 1) (tgt := 197) hx hb dX9_joined_1 (by rw [c19]; decide) (by rw [c19]; decide) (by rw [c19]; rfl) (by decide) ?_
    exact J1 () hf _ _ _ hW hS (lv_sub hl [1, 2] rfl)
  have hf := um_ie c19 hf
  by_cases c20 : a0 = (57 : Int32)
  · have hf := um_it c20 hf
    refine lv_tableIn (pc := 1) (tgt := 197) hx hb dX9_joined_1 (by rw [c20]; decide) (by rw [c20]; decide) (by rw [c20]; rfl) (by decide) ?_
    exact J1 () hf _ _ _ hW hS (lv_sub hl [1, 2] rfl)
  have hf := um_ie c20 hf
  by_cases c21 : a0 = (58 : Int32)
  · have hf := um_it c21 hf
    refine lv_tableIn (pc := 1) (tgt := 197) hx hb dX9_joined_1 (by rw [c21]; decide) (by rw [c21]; decide) (by rw [c21]; rfl) (by decide) ?_
    exact J1 () hf _ _ _ hW hS (lv_sub hl [1, 2] rfl)
  have hf := um_ie c21 hf
  by_cases c22 : a0 = (59 : Int32)
  · have hf := um_it c22 hf
    refine lv_tableIn (pc := 1) (tgt := 197) hx hb dX9_joined_1 (by rw [c22]; decide) (by rw [c22]; decide) (by rw [c22]; rfl) (by decide) ?_
    exact J1 () hf _ _ _ hW hS (lv_sub hl [1, 2] rfl)
  have hf := um_ie c22 hf
  by_cases c23 : a0 = (60 : Int32)
  · have hf := um_it c23 hf
    refine lv_tableIn (pc := 1) (tgt := 150) hx hb dX9_joined_1 (by rw [c23]; decide) (by rw [c23]; decide) (by rw [c23]; rfl) (by decide) ?_
    refine lv_iload_n (pc := 150) hx hb dX9_joined_150 rfl (lv_at hl 1 rfl) ?_
    refine lv_iload_n (pc := 151) hx hb dX9_joined_151 rfl (lv_at hl 2 rfl) ?_
    refine lv_icmp_ge (pc := 152) (tgt := 159) hx hb dX9_joined_152 (by decide) (fun c1 => ?_) (fun c1 => ?_)
    · have hf := um_it c1 hf
      clear c1
      refine lv_iconst (pc := 159) (v := (0 : Int32)) hx hb dX9_joined_159 (by decide) ?_
      exact um_iretR (pc := 160) Cx hW hS hf dX9_joined_160
    · have hf := um_ie c1 hf
      clear c1
      refine lv_iconst (pc := 155) (v := (1 : Int32)) hx hb dX9_joined_155 (by decide) ?_
      refine lv_goto (pc := 156) (tgt := 160) hx hb dX9_joined_156 (by decide) ?_
      exact um_iretR (pc := 160) Cx hW hS hf dX9_joined_160
  have hf := um_ie c23 hf
  by_cases c24 : a0 = (61 : Int32)
  · have hf := um_it c24 hf
    refine lv_tableIn (pc := 1) (tgt := 172) hx hb dX9_joined_1 (by rw [c24]; decide) (by rw [c24]; decide) (by rw [c24]; rfl) (by decide) ?_
    refine lv_iload_n (pc := 172) hx hb dX9_joined_172 rfl (lv_at hl 1 rfl) ?_
    refine lv_iload_n (pc := 173) hx hb dX9_joined_173 rfl (lv_at hl 2 rfl) ?_
    refine lv_icmp_ne (pc := 174) (tgt := 181) hx hb dX9_joined_174 (by decide) (fun c1 => ?_) (fun c1 => ?_)
    · have hf := um_ie c1 hf
      clear c1
      refine lv_iconst (pc := 181) (v := (0 : Int32)) hx hb dX9_joined_181 (by decide) ?_
      exact um_iretR (pc := 182) Cx hW hS hf dX9_joined_182
    · have hf := um_it c1 hf
      clear c1
      refine lv_iconst (pc := 177) (v := (1 : Int32)) hx hb dX9_joined_177 (by decide) ?_
      refine lv_goto (pc := 178) (tgt := 182) hx hb dX9_joined_178 (by decide) ?_
      exact um_iretR (pc := 182) Cx hW hS hf dX9_joined_182
  have hf := um_ie c24 hf
  by_cases c25 : a0 = (62 : Int32)
  · have hf := um_it c25 hf
    refine lv_tableIn (pc := 1) (tgt := 161) hx hb dX9_joined_1 (by rw [c25]; decide) (by rw [c25]; decide) (by rw [c25]; rfl) (by decide) ?_
    refine lv_iload_n (pc := 161) hx hb dX9_joined_161 rfl (lv_at hl 1 rfl) ?_
    refine lv_iload_n (pc := 162) hx hb dX9_joined_162 rfl (lv_at hl 2 rfl) ?_
    refine lv_icmp_le (pc := 163) (tgt := 170) hx hb dX9_joined_163 (by decide) (fun c1 => ?_) (fun c1 => ?_)
    · have hf := um_it c1 hf
      clear c1
      refine lv_iconst (pc := 170) (v := (0 : Int32)) hx hb dX9_joined_170 (by decide) ?_
      exact um_iretR (pc := 171) Cx hW hS hf dX9_joined_171
    · have hf := um_ie c1 hf
      clear c1
      refine lv_iconst (pc := 166) (v := (1 : Int32)) hx hb dX9_joined_166 (by decide) ?_
      refine lv_goto (pc := 167) (tgt := 171) hx hb dX9_joined_167 (by decide) ?_
      exact um_iretR (pc := 171) Cx hW hS hf dX9_joined_171
  have hf := um_ie c25 hf
  have ho : a0.toInt < 38 ∨ 62 < a0.toInt := um_tabO (lo := 38) (hi := 62) (fun z z1 z2 => by
    rcases (show z = 38 ∨ z = 39 ∨ z = 40 ∨ z = 41 ∨ z = 42 ∨ z = 43 ∨ z = 44 ∨ z = 45 ∨ z = 46 ∨ z = 47 ∨ z = 48 ∨ z = 49 ∨ z = 50 ∨ z = 51 ∨ z = 52 ∨ z = 53 ∨ z = 54 ∨ z = 55 ∨ z = 56 ∨ z = 57 ∨ z = 58 ∨ z = 59 ∨ z = 60 ∨ z = 61 ∨ z = 62 by omega) with rfl | rfl | rfl | rfl | rfl | rfl | rfl | rfl | rfl | rfl | rfl | rfl | rfl | rfl | rfl | rfl | rfl | rfl | rfl | rfl | rfl | rfl | rfl | rfl | rfl
    · exact c1
    · exact c2
    · exact c3
    · exact c4
    · exact c5
    · exact c6
    · exact c7
    · exact c8
    · exact c9
    · exact c10
    · exact c11
    · exact c12
    · exact c13
    · exact c14
    · exact c15
    · exact c16
    · exact c17
    · exact c18
    · exact c19
    · exact c20
    · exact c21
    · exact c22
    · exact c23
    · exact c24
    · exact c25)
  refine lv_tableOut (pc := 1) (tgt := 197) hx hb dX9_joined_1 ho (by decide) ?_
  exact J1 () hf _ _ _ hW hS (lv_sub hl [1, 2] rfl)
theorem c_X9_joined {σ : um_S} {r : Int32} (a0 : Int32) (a1 : Int32) (a2 : Int32)  (hf : f_X9_joined a0 a1 a2 σ = some r) : um_M l yX9_joined cX9_joined 3 (some FieldType.int) (0) (0) Z msh α σ [.int a0, .int a1, .int a2] (some (.int r)) σ :=
  um_start (by decide) (Nat.le_of_ble_eq_true rfl) (fun p e s m below meth c ls Cx hW hS hl => b_X9_joined a0 a1 a2 hf Cx hW hS hl)
noncomputable def f_X9_worked_l4 (v1 : Int32) : Nat → Int32 → Int32 → um_S → Option (um_S)
  | 0, _, _, _ => none
  | n + 1, v2, v3, σ =>
    (f_X9_textAt v1 σ).bind fun x2 =>
    (if um_ix (x2 + (3 : Int32)) 3790 then
    (if (σ.1 1 (x2 + (3 : Int32)).toNatClampNeg) ≤ v3 then
    (some σ)
    else
    ((f_X9_textAt v1 σ).bind fun x5 =>
    (if um_ix ((x5 + (4 : Int32)) + ((2 : Int32) * v3)) 3790 then
    (um_let (σ.1 1 ((x5 + (4 : Int32)) + ((2 : Int32) * v3)).toNatClampNeg) fun x7 =>
    ((f_X9_textAt v1 σ).bind fun x10 =>
    (if um_ix (((x10 + (4 : Int32)) + ((2 : Int32) * v3)) + (1 : Int32)) 3790 then
    (um_let (σ.1 1 (((x10 + (4 : Int32)) + ((2 : Int32) * v3)) + (1 : Int32)).toNatClampNeg) fun x12 =>
    (if x7 = (2 : Int32) then
    (if x12 = (33 : Int32) then
    (if um_ix (v2 - (1 : Int32)) 100 then
    (if (σ.1 9 (v2 - (1 : Int32)).toNatClampNeg) = 0 then
    (if um_ix (v2 - (1 : Int32)) 100 then
    (um_let (um_wr σ 9 (v2 - (1 : Int32)).toNatClampNeg (1 : Int32)) fun σ26 =>
    (f_X9_worked_l4 v1 n v2 (v3 + (1 : Int32)) σ26)) else none)
    else
    (if um_ix (v2 - (1 : Int32)) 100 then
    (um_let (um_wr σ 9 (v2 - (1 : Int32)).toNatClampNeg (0 : Int32)) fun σ23 =>
    (f_X9_worked_l4 v1 n v2 (v3 + (1 : Int32)) σ23)) else none)) else none)
    else
    (if um_ix ((v2 + (-1 : Int32)) - (1 : Int32)) 100 then
    (if um_ix (v2 + (-1 : Int32)) 100 then
    ((f_X9_joined x12 (σ.1 9 ((v2 + (-1 : Int32)) - (1 : Int32)).toNatClampNeg) (σ.1 9 (v2 + (-1 : Int32)).toNatClampNeg) σ).bind fun x17 =>
    (if um_ix ((v2 + (-1 : Int32)) - (1 : Int32)) 100 then
    (um_let (um_wr σ 9 ((v2 + (-1 : Int32)) - (1 : Int32)).toNatClampNeg x17) fun σ19 =>
    (f_X9_worked_l4 v1 n (v2 + (-1 : Int32)) (v3 + (1 : Int32)) σ19)) else none)) else none) else none))
    else
    (if x7 = 0 then
    (if um_ix v2 100 then
    (um_let (um_wr σ 9 v2.toNatClampNeg x12) fun σ33 =>
    (f_X9_worked_l4 v1 n (v2 + (1 : Int32)) (v3 + (1 : Int32)) σ33)) else none)
    else
    (if um_ix x12 128 then
    (if um_ix v2 100 then
    (um_let (um_wr σ 9 v2.toNatClampNeg (σ.1 8 x12.toNatClampNeg)) fun σ30 =>
    (f_X9_worked_l4 v1 n (v2 + (1 : Int32)) (v3 + (1 : Int32)) σ30)) else none) else none)))) else none))) else none))) else none)
noncomputable def f_X9_worked (a1 : Int32) (σ : um_S) : Option (Int32 × um_S) :=
    (f_X9_worked_l4 a1 um_N (0 : Int32) (0 : Int32) σ).bind fun σ1 =>
    (some (σ1.1 9 0, σ1))
set_option maxRecDepth 100000 in
set_option maxHeartbeats 4000000 in
theorem t_X9_worked_l4 {Q : State → Prop} {σo : um_S} (v1 : Int32)  (Cx : um_C p s m meth c args cX9_worked 6 (some FieldType.int) RX9 Z) (hE : ∀ (H : Heap) (locs : List Loc) (ls : Array Slot), um_W Z msh α σo H → va_S (um_D msh α) s.heap H locs → lv_has ls 6 [(0, .ref (α 0))] → W p l e { frames := 1, cells := 0, slots := 0, locals := 22 } s m args below meth c H locs 0 0 Q (F0 m 163 ls [])) : ∀ (n : Nat) (v2 : Int32) (v3 : Int32) (σ : um_S) (H : Heap) (locs : List Loc) (ls : Array Slot), f_X9_worked_l4 v1 n v2 v3 σ = some σo → um_W Z msh α σ H → va_S (um_D msh α) s.heap H locs → lv_has ls 6 [(0, .ref (α 0)), (1, .int v1), (2, .int v2), (3, .int v3)] → W p l e { frames := 1, cells := 0, slots := 0, locals := 22 } s m args below meth c H locs 0 0 Q (F0 m 4 ls []) := by
  have hx := Cx.1
  have hb := Cx.2.1
  have hown := Cx.2.2.2.2.1
  have hts := Cx.2.2.2.2.2.1
  intro n
  induction n with
  | zero =>
    intro v2 v3 σ H locs ls hf hW hS hl
    cases hf
  | succ n ih =>
    intro v2 v3 σ H locs ls hf hW hS hl
    rw [f_X9_worked_l4] at hf
    refine lv_iload_n (pc := 4) hx hb dX9_worked_4 rfl (lv_at hl 3 rfl) ?_
    refine lv_aload_n (pc := 5) hx hb dX9_worked_5 rfl (lv_at hl 0 rfl) ?_
    refine gF_X9_7 (pc := 6) Cx hW ms_0 rfl dX9_worked_6 ?_
    refine lv_aload_n (pc := 9) hx hb dX9_worked_9 rfl (lv_at hl 0 rfl) ?_
    refine lv_iload_n (pc := 10) hx hb dX9_worked_10 rfl (lv_at hl 1 rfl) ?_
    obtain ⟨x2, hc1, hf⟩ := um_bi hf
    refine um_cVi (pc := 11) (As := [.int v1]) (rest := [.ref (α 1), .int v3]) Cx (c_X9_textAt v1 hc1) kV_X9_textAt (Or.inl qM_X9_228) hW hS ms_0 rfl rfl hl rfl (Nat.le_of_ble_eq_true rfl) (Nat.le_of_ble_eq_true rfl) (Nat.le_of_ble_eq_true rfl) dX9_worked_11 (Nat.le_refl _) (Nat.le_refl _) ?_
    clear hW hS hc1
    intro H locs hW hS
    refine lv_iconst (pc := 14) (v := (3 : Int32)) hx hb dX9_worked_14 (by decide) ?_
    refine lv_iadd (pc := 15) hx hb dX9_worked_15 ?_
    obtain ⟨g3, hf⟩ := um_gu hf
    refine um_iald (pc := 16) Cx hW ms_1 rfl (um_ix_in g3) dX9_worked_16 ?_
    refine lv_icmp_ge (pc := 17) (tgt := 163) hx hb dX9_worked_17 (by decide) (fun c1 => ?_) (fun c1 => ?_)
    · have hf := um_it c1 hf
      clear c1
      cases hf
      exact hE _ _ _ hW hS (lv_sub hl [0] rfl)
    · have hf := um_ie c1 hf
      clear c1
      refine lv_aload_n (pc := 20) hx hb dX9_worked_20 rfl (lv_at hl 0 rfl) ?_
      refine gF_X9_7 (pc := 21) Cx hW ms_0 rfl dX9_worked_21 ?_
      refine lv_aload_n (pc := 24) hx hb dX9_worked_24 rfl (lv_at hl 0 rfl) ?_
      refine lv_iload_n (pc := 25) hx hb dX9_worked_25 rfl (lv_at hl 1 rfl) ?_
      obtain ⟨x5, hc4, hf⟩ := um_bi hf
      refine um_cVi (pc := 26) (As := [.int v1]) (rest := [.ref (α 1)]) Cx (c_X9_textAt v1 hc4) kV_X9_textAt (Or.inl qM_X9_228) hW hS ms_0 rfl rfl hl rfl (Nat.le_of_ble_eq_true rfl) (Nat.le_of_ble_eq_true rfl) (Nat.le_of_ble_eq_true rfl) dX9_worked_26 (Nat.le_refl _) (Nat.le_refl _) ?_
      clear hW hS hc4
      intro H locs hW hS
      refine lv_iconst (pc := 29) (v := (4 : Int32)) hx hb dX9_worked_29 (by decide) ?_
      refine lv_iadd (pc := 30) hx hb dX9_worked_30 ?_
      refine lv_iconst (pc := 31) (v := (2 : Int32)) hx hb dX9_worked_31 (by decide) ?_
      refine lv_iload_n (pc := 32) hx hb dX9_worked_32 rfl (lv_at hl 3 rfl) ?_
      refine lv_imul (pc := 33) hx hb dX9_worked_33 ?_
      refine lv_iadd (pc := 34) hx hb dX9_worked_34 ?_
      obtain ⟨g6, hf⟩ := um_gu hf
      refine um_iald (pc := 35) Cx hW ms_1 rfl (um_ix_in g6) dX9_worked_35 ?_
      obtain ⟨x7, e8, hf⟩ := um_le hf
      refine um_top e8 ?_
      clear e8
      refine lv_istore (pc := 36) (lv' := [(4, .int x7), (0, .ref (α 0)), (1, .int v1), (2, .int v2), (3, .int v3)]) hx hb dX9_worked_36 hl (by decide) rfl ?_
      clear hl
      intro ls hl
      refine lv_aload_n (pc := 38) hx hb dX9_worked_38 rfl (lv_at hl 1 rfl) ?_
      refine gF_X9_7 (pc := 39) Cx hW ms_0 rfl dX9_worked_39 ?_
      refine lv_aload_n (pc := 42) hx hb dX9_worked_42 rfl (lv_at hl 1 rfl) ?_
      refine lv_iload_n (pc := 43) hx hb dX9_worked_43 rfl (lv_at hl 2 rfl) ?_
      obtain ⟨x10, hc9, hf⟩ := um_bi hf
      refine um_cVi (pc := 44) (As := [.int v1]) (rest := [.ref (α 1)]) Cx (c_X9_textAt v1 hc9) kV_X9_textAt (Or.inl qM_X9_228) hW hS ms_0 rfl rfl hl rfl (Nat.le_of_ble_eq_true rfl) (Nat.le_of_ble_eq_true rfl) (Nat.le_of_ble_eq_true rfl) dX9_worked_44 (Nat.le_refl _) (Nat.le_refl _) ?_
      clear hW hS hc9
      intro H locs hW hS
      refine lv_iconst (pc := 47) (v := (4 : Int32)) hx hb dX9_worked_47 (by decide) ?_
      refine lv_iadd (pc := 48) hx hb dX9_worked_48 ?_
      refine lv_iconst (pc := 49) (v := (2 : Int32)) hx hb dX9_worked_49 (by decide) ?_
      refine lv_iload_n (pc := 50) hx hb dX9_worked_50 rfl (lv_at hl 4 rfl) ?_
      refine lv_imul (pc := 51) hx hb dX9_worked_51 ?_
      refine lv_iadd (pc := 52) hx hb dX9_worked_52 ?_
      refine lv_iconst (pc := 53) (v := (1 : Int32)) hx hb dX9_worked_53 (by decide) ?_
      refine lv_iadd (pc := 54) hx hb dX9_worked_54 ?_
      obtain ⟨g11, hf⟩ := um_gu hf
      refine um_iald (pc := 55) Cx hW ms_1 rfl (um_ix_in g11) dX9_worked_55 ?_
      obtain ⟨x12, e13, hf⟩ := um_le hf
      refine um_top e13 ?_
      clear e13
      refine lv_istore (pc := 56) (lv' := [(5, .int x12), (4, .int x7), (0, .ref (α 0)), (1, .int v1), (2, .int v2), (3, .int v3)]) hx hb dX9_worked_56 hl (by decide) rfl ?_
      clear hl
      intro ls hl
      refine lv_iload (pc := 58) hx hb dX9_worked_58 (lv_at hl 1 rfl) ?_
      refine lv_iconst (pc := 60) (v := (2 : Int32)) hx hb dX9_worked_60 (by decide) ?_
      refine lv_icmp_eq (pc := 61) (tgt := 93) hx hb dX9_worked_61 (by decide) (fun c1 => ?_) (fun c1 => ?_)
      · have hf := um_it c1 hf
        clear c1
        refine lv_iload (pc := 93) hx hb dX9_worked_93 (lv_at hl 0 rfl) ?_
        refine lv_bipush (pc := 95) (v := (33 : Int32)) hx hb dX9_worked_95 (by decide) ?_
        refine lv_icmp_ne (pc := 97) (tgt := 127) hx hb dX9_worked_97 (by decide) (fun c1 => ?_) (fun c1 => ?_)
        · have hf := um_ie c1 hf
          clear c1
          refine lv_iinc (pc := 127) (v := v2 + (-1 : Int32)) (lv' := [(2, .int (v2 + (-1 : Int32))), (5, .int x12), (4, .int x7), (0, .ref (α 0)), (1, .int v1), (3, .int v3)]) hx hb dX9_worked_127 hl (k := 4) rfl rfl (by decide) rfl ?_
          clear hl
          intro ls hl
          refine lv_aload_n (pc := 130) hx hb dX9_worked_130 rfl (lv_at hl 3 rfl) ?_
          refine gF_X9_34 (pc := 131) Cx hW ms_0 rfl dX9_worked_131 ?_
          refine lv_iload_n (pc := 134) hx hb dX9_worked_134 rfl (lv_at hl 0 rfl) ?_
          refine lv_iconst (pc := 135) (v := (1 : Int32)) hx hb dX9_worked_135 (by decide) ?_
          refine lv_isub (pc := 136) hx hb dX9_worked_136 ?_
          refine lv_iload (pc := 137) hx hb dX9_worked_137 (lv_at hl 1 rfl) ?_
          refine lv_aload_n (pc := 139) hx hb dX9_worked_139 rfl (lv_at hl 3 rfl) ?_
          refine gF_X9_34 (pc := 140) Cx hW ms_0 rfl dX9_worked_140 ?_
          refine lv_iload_n (pc := 143) hx hb dX9_worked_143 rfl (lv_at hl 0 rfl) ?_
          refine lv_iconst (pc := 144) (v := (1 : Int32)) hx hb dX9_worked_144 (by decide) ?_
          refine lv_isub (pc := 145) hx hb dX9_worked_145 ?_
          obtain ⟨g14, hf⟩ := um_gu hf
          refine um_iald (pc := 146) Cx hW ms_9 rfl (um_ix_in g14) dX9_worked_146 ?_
          refine lv_aload_n (pc := 147) hx hb dX9_worked_147 rfl (lv_at hl 3 rfl) ?_
          refine gF_X9_34 (pc := 148) Cx hW ms_0 rfl dX9_worked_148 ?_
          refine lv_iload_n (pc := 151) hx hb dX9_worked_151 rfl (lv_at hl 0 rfl) ?_
          obtain ⟨g15, hf⟩ := um_gu hf
          refine um_iald (pc := 152) Cx hW ms_9 rfl (um_ix_in g15) dX9_worked_152 ?_
          obtain ⟨x17, hc16, hf⟩ := um_bi hf
          refine um_cSi (pc := 153) (As := [.int x12, .int (σ.1 9 ((v2 + (-1 : Int32)) - (1 : Int32)).toNatClampNeg), .int (σ.1 9 (v2 + (-1 : Int32)).toNatClampNeg)]) (rest := [.int ((v2 + (-1 : Int32)) - (1 : Int32)), .ref (α 9)]) Cx (c_X9_joined x12 (σ.1 9 ((v2 + (-1 : Int32)) - (1 : Int32)).toNatClampNeg) (σ.1 9 (v2 + (-1 : Int32)).toNatClampNeg) hc16) kS_X9_joined (Or.inl qM_X9_246) hW hS rfl hl rfl (Nat.le_of_ble_eq_true rfl) (Nat.le_of_ble_eq_true rfl) (Nat.le_of_ble_eq_true rfl) dX9_worked_153 (Nat.le_refl _) (Nat.le_refl _) ?_
          clear hW hS hc16
          intro H locs hW hS
          obtain ⟨g18, hf⟩ := um_gu hf
          refine um_iast (pc := 156) Cx hW hS ms_9 rfl (um_ix_in g18) dX9_worked_156 ?_
          clear hW hS
          intro H locs hW hS
          obtain ⟨σ19, e20, hf⟩ := um_le hf
          rw [← e20] at hW
          clear e20
          refine lv_iinc (pc := 157) (v := v3 + (1 : Int32)) (lv' := [(3, .int (v3 + (1 : Int32))), (2, .int (v2 + (-1 : Int32))), (5, .int x12), (4, .int x7), (0, .ref (α 0)), (1, .int v1)]) hx hb dX9_worked_157 hl (k := 5) rfl rfl (by decide) rfl ?_
          clear hl
          intro ls hl
          refine lv_goto (pc := 160) (tgt := 4) hx hb dX9_worked_160 (by decide) ?_
          exact ih _ _ _ _ _ _ hf hW hS (lv_sub hl [4, 5, 1, 0] rfl)
        · have hf := um_it c1 hf
          clear c1
          refine lv_aload_n (pc := 100) hx hb dX9_worked_100 rfl (lv_at hl 2 rfl) ?_
          refine gF_X9_34 (pc := 101) Cx hW ms_0 rfl dX9_worked_101 ?_
          refine lv_iload_n (pc := 104) hx hb dX9_worked_104 rfl (lv_at hl 4 rfl) ?_
          refine lv_iconst (pc := 105) (v := (1 : Int32)) hx hb dX9_worked_105 (by decide) ?_
          refine lv_isub (pc := 106) hx hb dX9_worked_106 ?_
          refine lv_aload_n (pc := 107) hx hb dX9_worked_107 rfl (lv_at hl 2 rfl) ?_
          refine gF_X9_34 (pc := 108) Cx hW ms_0 rfl dX9_worked_108 ?_
          refine lv_iload_n (pc := 111) hx hb dX9_worked_111 rfl (lv_at hl 4 rfl) ?_
          refine lv_iconst (pc := 112) (v := (1 : Int32)) hx hb dX9_worked_112 (by decide) ?_
          refine lv_isub (pc := 113) hx hb dX9_worked_113 ?_
          obtain ⟨g21, hf⟩ := um_gu hf
          refine um_iald (pc := 114) Cx hW ms_9 rfl (um_ix_in g21) dX9_worked_114 ?_
          refine lv_if_ne (pc := 115) (tgt := 122) hx hb dX9_worked_115 (by decide) (fun c1 => ?_) (fun c1 => ?_)
          · have hf := um_ie c1 hf
            clear c1
            refine lv_iconst (pc := 122) (v := (0 : Int32)) hx hb dX9_worked_122 (by decide) ?_
            obtain ⟨g22, hf⟩ := um_gu hf
            refine um_iast (pc := 123) Cx hW hS ms_9 rfl (um_ix_in g22) dX9_worked_123 ?_
            clear hW hS
            intro H locs hW hS
            obtain ⟨σ23, e24, hf⟩ := um_le hf
            rw [← e24] at hW
            clear e24
            refine lv_goto (pc := 124) (tgt := 157) hx hb dX9_worked_124 (by decide) ?_
            refine lv_iinc (pc := 157) (v := v3 + (1 : Int32)) (lv' := [(3, .int (v3 + (1 : Int32))), (5, .int x12), (4, .int x7), (0, .ref (α 0)), (1, .int v1), (2, .int v2)]) hx hb dX9_worked_157 hl (k := 5) rfl rfl (by decide) rfl ?_
            clear hl
            intro ls hl
            refine lv_goto (pc := 160) (tgt := 4) hx hb dX9_worked_160 (by decide) ?_
            exact ih _ _ _ _ _ _ hf hW hS (lv_sub hl [3, 4, 5, 0] rfl)
          · have hf := um_it c1 hf
            clear c1
            refine lv_iconst (pc := 118) (v := (1 : Int32)) hx hb dX9_worked_118 (by decide) ?_
            refine lv_goto (pc := 119) (tgt := 123) hx hb dX9_worked_119 (by decide) ?_
            obtain ⟨g25, hf⟩ := um_gu hf
            refine um_iast (pc := 123) Cx hW hS ms_9 rfl (um_ix_in g25) dX9_worked_123 ?_
            clear hW hS
            intro H locs hW hS
            obtain ⟨σ26, e27, hf⟩ := um_le hf
            rw [← e27] at hW
            clear e27
            refine lv_goto (pc := 124) (tgt := 157) hx hb dX9_worked_124 (by decide) ?_
            refine lv_iinc (pc := 157) (v := v3 + (1 : Int32)) (lv' := [(3, .int (v3 + (1 : Int32))), (5, .int x12), (4, .int x7), (0, .ref (α 0)), (1, .int v1), (2, .int v2)]) hx hb dX9_worked_157 hl (k := 5) rfl rfl (by decide) rfl ?_
            clear hl
            intro ls hl
            refine lv_goto (pc := 160) (tgt := 4) hx hb dX9_worked_160 (by decide) ?_
            exact ih _ _ _ _ _ _ hf hW hS (lv_sub hl [3, 4, 5, 0] rfl)
      · have hf := um_ie c1 hf
        clear c1
        refine lv_aload_n (pc := 64) hx hb dX9_worked_64 rfl (lv_at hl 2 rfl) ?_
        refine gF_X9_34 (pc := 65) Cx hW ms_0 rfl dX9_worked_65 ?_
        refine lv_iload_n (pc := 68) hx hb dX9_worked_68 rfl (lv_at hl 4 rfl) ?_
        refine lv_iload (pc := 69) hx hb dX9_worked_69 (lv_at hl 1 rfl) ?_
        refine lv_if_ne (pc := 71) (tgt := 79) hx hb dX9_worked_71 (by decide) (fun c1 => ?_) (fun c1 => ?_)
        · have hf := um_ie c1 hf
          clear c1
          refine lv_aload_n (pc := 79) hx hb dX9_worked_79 rfl (lv_at hl 2 rfl) ?_
          refine gF_X9_31 (pc := 80) Cx hW ms_0 rfl dX9_worked_80 ?_
          refine lv_iload (pc := 83) hx hb dX9_worked_83 (lv_at hl 0 rfl) ?_
          obtain ⟨g28, hf⟩ := um_gu hf
          refine um_iald (pc := 85) Cx hW ms_8 rfl (um_ix_in g28) dX9_worked_85 ?_
          obtain ⟨g29, hf⟩ := um_gu hf
          refine um_iast (pc := 86) Cx hW hS ms_9 rfl (um_ix_in g29) dX9_worked_86 ?_
          clear hW hS
          intro H locs hW hS
          obtain ⟨σ30, e31, hf⟩ := um_le hf
          rw [← e31] at hW
          clear e31
          refine lv_iinc (pc := 87) (v := v2 + (1 : Int32)) (lv' := [(2, .int (v2 + (1 : Int32))), (5, .int x12), (4, .int x7), (0, .ref (α 0)), (1, .int v1), (3, .int v3)]) hx hb dX9_worked_87 hl (k := 4) rfl rfl (by decide) rfl ?_
          clear hl
          intro ls hl
          refine lv_goto (pc := 90) (tgt := 157) hx hb dX9_worked_90 (by decide) ?_
          refine lv_iinc (pc := 157) (v := v3 + (1 : Int32)) (lv' := [(3, .int (v3 + (1 : Int32))), (2, .int (v2 + (1 : Int32))), (5, .int x12), (4, .int x7), (0, .ref (α 0)), (1, .int v1)]) hx hb dX9_worked_157 hl (k := 5) rfl rfl (by decide) rfl ?_
          clear hl
          intro ls hl
          refine lv_goto (pc := 160) (tgt := 4) hx hb dX9_worked_160 (by decide) ?_
          exact ih _ _ _ _ _ _ hf hW hS (lv_sub hl [4, 5, 1, 0] rfl)
        · have hf := um_it c1 hf
          clear c1
          refine lv_iload (pc := 74) hx hb dX9_worked_74 (lv_at hl 0 rfl) ?_
          refine lv_goto (pc := 76) (tgt := 86) hx hb dX9_worked_76 (by decide) ?_
          obtain ⟨g32, hf⟩ := um_gu hf
          refine um_iast (pc := 86) Cx hW hS ms_9 rfl (um_ix_in g32) dX9_worked_86 ?_
          clear hW hS
          intro H locs hW hS
          obtain ⟨σ33, e34, hf⟩ := um_le hf
          rw [← e34] at hW
          clear e34
          refine lv_iinc (pc := 87) (v := v2 + (1 : Int32)) (lv' := [(2, .int (v2 + (1 : Int32))), (5, .int x12), (4, .int x7), (0, .ref (α 0)), (1, .int v1), (3, .int v3)]) hx hb dX9_worked_87 hl (k := 4) rfl rfl (by decide) rfl ?_
          clear hl
          intro ls hl
          refine lv_goto (pc := 90) (tgt := 157) hx hb dX9_worked_90 (by decide) ?_
          refine lv_iinc (pc := 157) (v := v3 + (1 : Int32)) (lv' := [(3, .int (v3 + (1 : Int32))), (2, .int (v2 + (1 : Int32))), (5, .int x12), (4, .int x7), (0, .ref (α 0)), (1, .int v1)]) hx hb dX9_worked_157 hl (k := 5) rfl rfl (by decide) rfl ?_
          clear hl
          intro ls hl
          refine lv_goto (pc := 160) (tgt := 4) hx hb dX9_worked_160 (by decide) ?_
          exact ih _ _ _ _ _ _ hf hW hS (lv_sub hl [4, 5, 1, 0] rfl)
set_option maxRecDepth 100000 in
set_option maxHeartbeats 4000000 in
theorem b_X9_worked {H : Heap} {locs : List Loc} {ls : Array Slot} {σ : um_S} {σ' : um_S} {r : Int32} (a1 : Int32)  (hf : f_X9_worked a1 σ = some (r, σ')) (Cx : um_C p s m meth c args cX9_worked 6 (some FieldType.int) RX9 Z) (hW : um_W Z msh α σ H) (hS : va_S (um_D msh α) s.heap H locs) (hl : lv_has ls 6 [(0, .ref (α 0)), (1, .int a1)]) : um_G p l e (1) (22) s m args below meth c Z msh α σ' (some (.int r)) H locs (F0 m 0 ls []) := by
  have hx := Cx.1
  have hb := Cx.2.1
  have hown := Cx.2.2.2.2.1
  have hts := Cx.2.2.2.2.2.1
  rw [f_X9_worked] at hf
  refine lv_iconst (pc := 0) (v := (0 : Int32)) hx hb dX9_worked_0 (by decide) ?_
  refine lv_istore_n (pc := 1) (lv' := [(2, .int (0 : Int32)), (0, .ref (α 0)), (1, .int a1)]) hx hb dX9_worked_1 rfl hl (by decide) rfl ?_
  clear hl
  intro ls hl
  refine lv_iconst (pc := 2) (v := (0 : Int32)) hx hb dX9_worked_2 (by decide) ?_
  refine lv_istore_n (pc := 3) (lv' := [(3, .int (0 : Int32)), (2, .int (0 : Int32)), (0, .ref (α 0)), (1, .int a1)]) hx hb dX9_worked_3 rfl hl (by decide) rfl ?_
  clear hl
  intro ls hl
  obtain ⟨σ1, hc2, hf⟩ := um_bi hf
  refine t_X9_worked_l4 a1 Cx ?_ um_N _ _ _ _ _ _ hc2 hW hS (lv_sub hl [2, 3, 1, 0] rfl)
  clear hW hS hl hc2
  intro H locs ls hW hS hl
  refine lv_aload_n (pc := 163) hx hb dX9_worked_163 rfl (lv_at hl 0 rfl) ?_
  refine gF_X9_34 (pc := 164) Cx hW ms_0 rfl dX9_worked_164 ?_
  refine lv_iconst (pc := 167) (v := (0 : Int32)) hx hb dX9_worked_167 (by decide) ?_
  refine um_iaj (pc := 168) (n := 100) 0 rfl Cx hW ms_9 rfl (um_ix_in (by decide)) dX9_worked_168 ?_
  exact um_iret (pc := 169) Cx hW hS hf dX9_worked_169
theorem c_X9_worked {σ : um_S} {σ' : um_S} {r : Int32} (a1 : Int32)  (hf : f_X9_worked a1 σ = some (r, σ')) : um_M l yX9_worked cX9_worked 6 (some FieldType.int) (1) (22) Z msh α σ [.ref (α 0), .int a1] (some (.int r)) σ' :=
  um_start (by decide) (Nat.le_of_ble_eq_true rfl) (fun p e s m below meth c ls Cx hW hS hl => b_X9_worked a1 hf Cx hW hS hl)
noncomputable def f_X9_ruleOf (a1 : Int32) (a2 : Int32) (a3 : Int32) (a4 : Int32) (σ : um_S) : Option (Int32 × um_S) :=
    (f_X9_counts a1 σ).bind fun x2 =>
    (if a1 = (2 : Int32) then
    (um_let (um_wr σ 8 111 a2) fun σ3 =>
    (um_let (um_wr σ3 8 109 a3) fun σ5 =>
    (um_let (fun (x8 : Int32) (σ9 : um_S) =>
    ((f_X9_heldIn x8 (99 : Int32) σ9).bind fun x11 =>
    (some (x11, σ9)))) fun k7 =>
    (if 0 ≤ x2 then
    (um_b2 (f_X9_worked x2 σ5) fun x14 σ13 =>
    (k7 x14 σ13))
    else
    (k7 (4 : Int32) σ5)))))
    else
    (if a1 = (3 : Int32) then
    (um_let (um_wr σ 8 107 a2) fun σ15 =>
    (um_let (um_wr σ15 8 109 a3) fun σ17 =>
    (um_let (um_wr σ17 8 112 a4) fun σ19 =>
    (um_let (fun (x22 : Int32) (σ23 : um_S) =>
    ((f_X9_heldIn x22 (100 : Int32) σ23).bind fun x25 =>
    (some (x25, σ23)))) fun k21 =>
    (if 0 ≤ x2 then
    (um_b2 (f_X9_worked x2 σ19) fun x28 σ27 =>
    (k21 x28 σ27))
    else
    (k21 (0 : Int32) σ19))))))
    else
    (if a1 = (4 : Int32) then
    (um_let (um_wr σ 8 101 a2) fun σ29 =>
    (um_let (um_wr σ29 8 100 a3) fun σ31 =>
    (um_let (fun (x34 : Int32) (σ35 : um_S) =>
    ((f_X9_heldIn x34 a2 σ35).bind fun x37 =>
    (some (x37, σ35)))) fun k33 =>
    (if 0 ≤ x2 then
    (um_b2 (f_X9_worked x2 σ31) fun x40 σ39 =>
    (k33 x40 σ39))
    else
    (k33 (0 : Int32) σ31)))))
    else
    (um_let (um_wr σ 8 119 a2) fun σ41 =>
    (um_let (um_wr σ41 8 109 a3) fun σ43 =>
    (um_let (um_wr σ43 8 116 a4) fun σ45 =>
    (if x2 < 0 then
    (if a1 = 0 then
    (if a2 ≤ (208 : Int32) then
    (some ((0 : Int32), σ45))
    else
    (some ((1 : Int32), σ45)))
    else
    (some ((0 : Int32), σ45)))
    else
    (um_b2 (f_X9_worked x2 σ45) fun x49 σ48 =>
    (some (x49, σ48))))))))))
set_option maxRecDepth 100000 in
set_option maxHeartbeats 4000000 in
theorem b_X9_ruleOf {H : Heap} {locs : List Loc} {ls : Array Slot} {σ : um_S} {σ' : um_S} {r : Int32} (a1 : Int32) (a2 : Int32) (a3 : Int32) (a4 : Int32)  (hf : f_X9_ruleOf a1 a2 a3 a4 σ = some (r, σ')) (Cx : um_C p s m meth c args cX9_ruleOf 6 (some FieldType.int) RX9 Z) (hW : um_W Z msh α σ H) (hS : va_S (um_D msh α) s.heap H locs) (hl : lv_has ls 6 [(0, .ref (α 0)), (1, .int a1), (2, .int a2), (3, .int a3), (4, .int a4)]) : um_G p l e (2) (47) s m args below meth c Z msh α σ' (some (.int r)) H locs (F0 m 0 ls []) := by
  have hx := Cx.1
  have hb := Cx.2.1
  have hown := Cx.2.2.2.2.1
  have hts := Cx.2.2.2.2.2.1
  rw [f_X9_ruleOf] at hf
  refine lv_aload_n (pc := 0) hx hb dX9_ruleOf_0 rfl (lv_at hl 0 rfl) ?_
  refine lv_iload_n (pc := 1) hx hb dX9_ruleOf_1 rfl (lv_at hl 1 rfl) ?_
  obtain ⟨x2, hc1, hf⟩ := um_bi hf
  refine um_cVi (pc := 2) (As := [.int a1]) (rest := []) Cx (c_X9_counts a1 hc1) kV_X9_counts (Or.inl qM_X9_243) hW hS ms_0 rfl rfl hl rfl (Nat.le_of_ble_eq_true rfl) (Nat.le_of_ble_eq_true rfl) (Nat.le_of_ble_eq_true rfl) dX9_ruleOf_2 (Nat.le_refl _) (Nat.le_refl _) ?_
  clear hW hS hc1
  intro H locs hW hS
  refine lv_istore (pc := 5) (lv' := [(5, .int x2), (0, .ref (α 0)), (1, .int a1), (2, .int a2), (3, .int a3), (4, .int a4)]) hx hb dX9_ruleOf_5 hl (by decide) rfl ?_
  clear hl
  intro ls hl
  refine lv_iload_n (pc := 7) hx hb dX9_ruleOf_7 rfl (lv_at hl 2 rfl) ?_
  by_cases c1 : a1 = (2 : Int32)
  · have hf := um_it c1 hf
    refine lv_tableIn (pc := 8) (tgt := 36) hx hb dX9_ruleOf_8 (by rw [c1]; decide) (by rw [c1]; decide) (by rw [c1]; rfl) (by decide) ?_
    refine lv_aload_n (pc := 36) hx hb dX9_ruleOf_36 rfl (lv_at hl 1 rfl) ?_
    refine gF_X9_31 (pc := 37) Cx hW ms_0 rfl dX9_ruleOf_37 ?_
    refine lv_bipush (pc := 40) (v := (111 : Int32)) hx hb dX9_ruleOf_40 (by decide) ?_
    refine lv_iload_n (pc := 42) hx hb dX9_ruleOf_42 rfl (lv_at hl 3 rfl) ?_
    refine um_isj (pc := 43) (n := 128) 111 rfl Cx hW hS ms_8 rfl (um_ix_in (by decide)) dX9_ruleOf_43 ?_
    clear hW hS
    intro H locs hW hS
    obtain ⟨σ3, e4, hf⟩ := um_le hf
    rw [← e4] at hW
    clear e4
    refine lv_aload_n (pc := 44) hx hb dX9_ruleOf_44 rfl (lv_at hl 1 rfl) ?_
    refine gF_X9_31 (pc := 45) Cx hW ms_0 rfl dX9_ruleOf_45 ?_
    refine lv_bipush (pc := 48) (v := (109 : Int32)) hx hb dX9_ruleOf_48 (by decide) ?_
    refine lv_iload_n (pc := 50) hx hb dX9_ruleOf_50 rfl (lv_at hl 4 rfl) ?_
    refine um_isj (pc := 51) (n := 128) 109 rfl Cx hW hS ms_8 rfl (um_ix_in (by decide)) dX9_ruleOf_51 ?_
    clear hW hS
    intro H locs hW hS
    obtain ⟨σ5, e6, hf⟩ := um_le hf
    rw [← e6] at hW
    clear e6
    refine lv_iload (pc := 52) hx hb dX9_ruleOf_52 (lv_at hl 0 rfl) ?_
    obtain ⟨k7, hk7, hf⟩ := um_j2 hf
    have J7 : ∀ (x8 : Int32) (σ9 : um_S), k7 x8 σ9 = some (r, σ') → ∀ (H : Heap) (locs : List Loc) (ls : Array Slot), um_W Z msh α σ9 H → va_S (um_D msh α) s.heap H locs → lv_has ls 6 [] → um_G p l e (2) (47) s m args below meth c Z msh α σ' (some (.int r)) H locs (F0 m 67 ls [.int x8]) := by
      intro x8 σ9 hf H locs ls hW hS hl
      rw [hk7] at hf
      refine lv_bipush (pc := 67) (v := (99 : Int32)) hx hb dX9_ruleOf_67 (by decide) ?_
      obtain ⟨x11, hc10, hf⟩ := um_bi hf
      refine um_cSi (pc := 69) (As := [.int x8, .int (99 : Int32)]) (rest := []) Cx (c_X9_heldIn x8 (99 : Int32) hc10) kS_X9_heldIn (Or.inl qM_X9_253) hW hS rfl hl rfl (Nat.le_of_ble_eq_true rfl) (Nat.le_of_ble_eq_true rfl) (Nat.le_of_ble_eq_true rfl) dX9_ruleOf_69 (Nat.le_refl _) (Nat.le_refl _) ?_
      clear hW hS hc10
      intro H locs hW hS
      exact um_iret (pc := 72) Cx hW hS hf dX9_ruleOf_72
    refine lv_if_ge (pc := 54) (tgt := 61) hx hb dX9_ruleOf_54 (by decide) (fun c1 => ?_) (fun c1 => ?_)
    · have hf := um_it c1 hf
      clear c1
      refine lv_aload_n (pc := 61) hx hb dX9_ruleOf_61 rfl (lv_at hl 1 rfl) ?_
      refine lv_iload (pc := 62) hx hb dX9_ruleOf_62 (lv_at hl 0 rfl) ?_
      obtain ⟨x14, σ13, hc12, hf⟩ := um_bi2 hf
      refine um_cVi (pc := 64) (As := [.int x2]) (rest := []) Cx (c_X9_worked x2 hc12) kV_X9_worked (Or.inl qM_X9_250) hW hS ms_0 rfl rfl hl rfl (Nat.le_of_ble_eq_true rfl) (Nat.le_of_ble_eq_true rfl) (Nat.le_of_ble_eq_true rfl) dX9_ruleOf_64 (Nat.le_refl _) (Nat.le_refl _) ?_
      clear hW hS hc12
      intro H locs hW hS
      exact J7 x14 σ13 hf _ _ _ hW hS (lv_sub hl [] rfl)
    · have hf := um_ie c1 hf
      clear c1
      refine lv_iconst (pc := 57) (v := (4 : Int32)) hx hb dX9_ruleOf_57 (by decide) ?_
      refine lv_goto (pc := 58) (tgt := 67) hx hb dX9_ruleOf_58 (by decide) ?_
      exact J7 (4 : Int32) σ5 hf _ _ _ hW hS (lv_sub hl [] rfl)
  have hf := um_ie c1 hf
  by_cases c2 : a1 = (3 : Int32)
  · have hf := um_it c2 hf
    refine lv_tableIn (pc := 8) (tgt := 73) hx hb dX9_ruleOf_8 (by rw [c2]; decide) (by rw [c2]; decide) (by rw [c2]; rfl) (by decide) ?_
    refine lv_aload_n (pc := 73) hx hb dX9_ruleOf_73 rfl (lv_at hl 1 rfl) ?_
    refine gF_X9_31 (pc := 74) Cx hW ms_0 rfl dX9_ruleOf_74 ?_
    refine lv_bipush (pc := 77) (v := (107 : Int32)) hx hb dX9_ruleOf_77 (by decide) ?_
    refine lv_iload_n (pc := 79) hx hb dX9_ruleOf_79 rfl (lv_at hl 3 rfl) ?_
    refine um_isj (pc := 80) (n := 128) 107 rfl Cx hW hS ms_8 rfl (um_ix_in (by decide)) dX9_ruleOf_80 ?_
    clear hW hS
    intro H locs hW hS
    obtain ⟨σ15, e16, hf⟩ := um_le hf
    rw [← e16] at hW
    clear e16
    refine lv_aload_n (pc := 81) hx hb dX9_ruleOf_81 rfl (lv_at hl 1 rfl) ?_
    refine gF_X9_31 (pc := 82) Cx hW ms_0 rfl dX9_ruleOf_82 ?_
    refine lv_bipush (pc := 85) (v := (109 : Int32)) hx hb dX9_ruleOf_85 (by decide) ?_
    refine lv_iload_n (pc := 87) hx hb dX9_ruleOf_87 rfl (lv_at hl 4 rfl) ?_
    refine um_isj (pc := 88) (n := 128) 109 rfl Cx hW hS ms_8 rfl (um_ix_in (by decide)) dX9_ruleOf_88 ?_
    clear hW hS
    intro H locs hW hS
    obtain ⟨σ17, e18, hf⟩ := um_le hf
    rw [← e18] at hW
    clear e18
    refine lv_aload_n (pc := 89) hx hb dX9_ruleOf_89 rfl (lv_at hl 1 rfl) ?_
    refine gF_X9_31 (pc := 90) Cx hW ms_0 rfl dX9_ruleOf_90 ?_
    refine lv_bipush (pc := 93) (v := (112 : Int32)) hx hb dX9_ruleOf_93 (by decide) ?_
    refine lv_iload (pc := 95) hx hb dX9_ruleOf_95 (lv_at hl 5 rfl) ?_
    refine um_isj (pc := 97) (n := 128) 112 rfl Cx hW hS ms_8 rfl (um_ix_in (by decide)) dX9_ruleOf_97 ?_
    clear hW hS
    intro H locs hW hS
    obtain ⟨σ19, e20, hf⟩ := um_le hf
    rw [← e20] at hW
    clear e20
    refine lv_iload (pc := 98) hx hb dX9_ruleOf_98 (lv_at hl 0 rfl) ?_
    obtain ⟨k21, hk21, hf⟩ := um_j2 hf
    have J21 : ∀ (x22 : Int32) (σ23 : um_S), k21 x22 σ23 = some (r, σ') → ∀ (H : Heap) (locs : List Loc) (ls : Array Slot), um_W Z msh α σ23 H → va_S (um_D msh α) s.heap H locs → lv_has ls 6 [] → um_G p l e (2) (47) s m args below meth c Z msh α σ' (some (.int r)) H locs (F0 m 113 ls [.int x22]) := by
      intro x22 σ23 hf H locs ls hW hS hl
      rw [hk21] at hf
      refine lv_bipush (pc := 113) (v := (100 : Int32)) hx hb dX9_ruleOf_113 (by decide) ?_
      obtain ⟨x25, hc24, hf⟩ := um_bi hf
      refine um_cSi (pc := 115) (As := [.int x22, .int (100 : Int32)]) (rest := []) Cx (c_X9_heldIn x22 (100 : Int32) hc24) kS_X9_heldIn (Or.inl qM_X9_253) hW hS rfl hl rfl (Nat.le_of_ble_eq_true rfl) (Nat.le_of_ble_eq_true rfl) (Nat.le_of_ble_eq_true rfl) dX9_ruleOf_115 (Nat.le_refl _) (Nat.le_refl _) ?_
      clear hW hS hc24
      intro H locs hW hS
      exact um_iret (pc := 118) Cx hW hS hf dX9_ruleOf_118
    refine lv_if_ge (pc := 100) (tgt := 107) hx hb dX9_ruleOf_100 (by decide) (fun c1 => ?_) (fun c1 => ?_)
    · have hf := um_it c1 hf
      clear c1
      refine lv_aload_n (pc := 107) hx hb dX9_ruleOf_107 rfl (lv_at hl 1 rfl) ?_
      refine lv_iload (pc := 108) hx hb dX9_ruleOf_108 (lv_at hl 0 rfl) ?_
      obtain ⟨x28, σ27, hc26, hf⟩ := um_bi2 hf
      refine um_cVi (pc := 110) (As := [.int x2]) (rest := []) Cx (c_X9_worked x2 hc26) kV_X9_worked (Or.inl qM_X9_250) hW hS ms_0 rfl rfl hl rfl (Nat.le_of_ble_eq_true rfl) (Nat.le_of_ble_eq_true rfl) (Nat.le_of_ble_eq_true rfl) dX9_ruleOf_110 (Nat.le_refl _) (Nat.le_refl _) ?_
      clear hW hS hc26
      intro H locs hW hS
      exact J21 x28 σ27 hf _ _ _ hW hS (lv_sub hl [] rfl)
    · have hf := um_ie c1 hf
      clear c1
      refine lv_iconst (pc := 103) (v := (0 : Int32)) hx hb dX9_ruleOf_103 (by decide) ?_
      refine lv_goto (pc := 104) (tgt := 113) hx hb dX9_ruleOf_104 (by decide) ?_
      exact J21 (0 : Int32) σ19 hf _ _ _ hW hS (lv_sub hl [] rfl)
  have hf := um_ie c2 hf
  by_cases c3 : a1 = (4 : Int32)
  · have hf := um_it c3 hf
    refine lv_tableIn (pc := 8) (tgt := 119) hx hb dX9_ruleOf_8 (by rw [c3]; decide) (by rw [c3]; decide) (by rw [c3]; rfl) (by decide) ?_
    refine lv_aload_n (pc := 119) hx hb dX9_ruleOf_119 rfl (lv_at hl 1 rfl) ?_
    refine gF_X9_31 (pc := 120) Cx hW ms_0 rfl dX9_ruleOf_120 ?_
    refine lv_bipush (pc := 123) (v := (101 : Int32)) hx hb dX9_ruleOf_123 (by decide) ?_
    refine lv_iload_n (pc := 125) hx hb dX9_ruleOf_125 rfl (lv_at hl 3 rfl) ?_
    refine um_isj (pc := 126) (n := 128) 101 rfl Cx hW hS ms_8 rfl (um_ix_in (by decide)) dX9_ruleOf_126 ?_
    clear hW hS
    intro H locs hW hS
    obtain ⟨σ29, e30, hf⟩ := um_le hf
    rw [← e30] at hW
    clear e30
    refine lv_aload_n (pc := 127) hx hb dX9_ruleOf_127 rfl (lv_at hl 1 rfl) ?_
    refine gF_X9_31 (pc := 128) Cx hW ms_0 rfl dX9_ruleOf_128 ?_
    refine lv_bipush (pc := 131) (v := (100 : Int32)) hx hb dX9_ruleOf_131 (by decide) ?_
    refine lv_iload_n (pc := 133) hx hb dX9_ruleOf_133 rfl (lv_at hl 4 rfl) ?_
    refine um_isj (pc := 134) (n := 128) 100 rfl Cx hW hS ms_8 rfl (um_ix_in (by decide)) dX9_ruleOf_134 ?_
    clear hW hS
    intro H locs hW hS
    obtain ⟨σ31, e32, hf⟩ := um_le hf
    rw [← e32] at hW
    clear e32
    refine lv_iload (pc := 135) hx hb dX9_ruleOf_135 (lv_at hl 0 rfl) ?_
    obtain ⟨k33, hk33, hf⟩ := um_j2 hf
    have J33 : ∀ (x34 : Int32) (σ35 : um_S), k33 x34 σ35 = some (r, σ') → ∀ (H : Heap) (locs : List Loc) (ls : Array Slot), um_W Z msh α σ35 H → va_S (um_D msh α) s.heap H locs → lv_has ls 6 [(2, .int a2)] → um_G p l e (2) (47) s m args below meth c Z msh α σ' (some (.int r)) H locs (F0 m 150 ls [.int x34]) := by
      intro x34 σ35 hf H locs ls hW hS hl
      rw [hk33] at hf
      refine lv_iload_n (pc := 150) hx hb dX9_ruleOf_150 rfl (lv_at hl 0 rfl) ?_
      obtain ⟨x37, hc36, hf⟩ := um_bi hf
      refine um_cSi (pc := 151) (As := [.int x34, .int a2]) (rest := []) Cx (c_X9_heldIn x34 a2 hc36) kS_X9_heldIn (Or.inl qM_X9_253) hW hS rfl hl rfl (Nat.le_of_ble_eq_true rfl) (Nat.le_of_ble_eq_true rfl) (Nat.le_of_ble_eq_true rfl) dX9_ruleOf_151 (Nat.le_refl _) (Nat.le_refl _) ?_
      clear hW hS hc36
      intro H locs hW hS
      exact um_iret (pc := 154) Cx hW hS hf dX9_ruleOf_154
    refine lv_if_ge (pc := 137) (tgt := 144) hx hb dX9_ruleOf_137 (by decide) (fun c1 => ?_) (fun c1 => ?_)
    · have hf := um_it c1 hf
      clear c1
      refine lv_aload_n (pc := 144) hx hb dX9_ruleOf_144 rfl (lv_at hl 1 rfl) ?_
      refine lv_iload (pc := 145) hx hb dX9_ruleOf_145 (lv_at hl 0 rfl) ?_
      obtain ⟨x40, σ39, hc38, hf⟩ := um_bi2 hf
      refine um_cVi (pc := 147) (As := [.int x2]) (rest := []) Cx (c_X9_worked x2 hc38) kV_X9_worked (Or.inl qM_X9_250) hW hS ms_0 rfl rfl hl rfl (Nat.le_of_ble_eq_true rfl) (Nat.le_of_ble_eq_true rfl) (Nat.le_of_ble_eq_true rfl) dX9_ruleOf_147 (Nat.le_refl _) (Nat.le_refl _) ?_
      clear hW hS hc38
      intro H locs hW hS
      exact J33 x40 σ39 hf _ _ _ hW hS (lv_sub hl [3] rfl)
    · have hf := um_ie c1 hf
      clear c1
      refine lv_iconst (pc := 140) (v := (0 : Int32)) hx hb dX9_ruleOf_140 (by decide) ?_
      refine lv_goto (pc := 141) (tgt := 150) hx hb dX9_ruleOf_141 (by decide) ?_
      exact J33 (0 : Int32) σ31 hf _ _ _ hW hS (lv_sub hl [3] rfl)
  have hf := um_ie c3 hf
  have ho : a1.toInt < 2 ∨ 4 < a1.toInt := um_tabO (lo := 2) (hi := 4) (fun z z1 z2 => by
    rcases (show z = 2 ∨ z = 3 ∨ z = 4 by omega) with rfl | rfl | rfl
    · exact c1
    · exact c2
    · exact c3)
  refine lv_tableOut (pc := 8) (tgt := 155) hx hb dX9_ruleOf_8 ho (by decide) ?_
  refine lv_aload_n (pc := 155) hx hb dX9_ruleOf_155 rfl (lv_at hl 1 rfl) ?_
  refine gF_X9_31 (pc := 156) Cx hW ms_0 rfl dX9_ruleOf_156 ?_
  refine lv_bipush (pc := 159) (v := (119 : Int32)) hx hb dX9_ruleOf_159 (by decide) ?_
  refine lv_iload_n (pc := 161) hx hb dX9_ruleOf_161 rfl (lv_at hl 3 rfl) ?_
  refine um_isj (pc := 162) (n := 128) 119 rfl Cx hW hS ms_8 rfl (um_ix_in (by decide)) dX9_ruleOf_162 ?_
  clear hW hS
  intro H locs hW hS
  obtain ⟨σ41, e42, hf⟩ := um_le hf
  rw [← e42] at hW
  clear e42
  refine lv_aload_n (pc := 163) hx hb dX9_ruleOf_163 rfl (lv_at hl 1 rfl) ?_
  refine gF_X9_31 (pc := 164) Cx hW ms_0 rfl dX9_ruleOf_164 ?_
  refine lv_bipush (pc := 167) (v := (109 : Int32)) hx hb dX9_ruleOf_167 (by decide) ?_
  refine lv_iload_n (pc := 169) hx hb dX9_ruleOf_169 rfl (lv_at hl 4 rfl) ?_
  refine um_isj (pc := 170) (n := 128) 109 rfl Cx hW hS ms_8 rfl (um_ix_in (by decide)) dX9_ruleOf_170 ?_
  clear hW hS
  intro H locs hW hS
  obtain ⟨σ43, e44, hf⟩ := um_le hf
  rw [← e44] at hW
  clear e44
  refine lv_aload_n (pc := 171) hx hb dX9_ruleOf_171 rfl (lv_at hl 1 rfl) ?_
  refine gF_X9_31 (pc := 172) Cx hW ms_0 rfl dX9_ruleOf_172 ?_
  refine lv_bipush (pc := 175) (v := (116 : Int32)) hx hb dX9_ruleOf_175 (by decide) ?_
  refine lv_iload (pc := 177) hx hb dX9_ruleOf_177 (lv_at hl 5 rfl) ?_
  refine um_isj (pc := 179) (n := 128) 116 rfl Cx hW hS ms_8 rfl (um_ix_in (by decide)) dX9_ruleOf_179 ?_
  clear hW hS
  intro H locs hW hS
  obtain ⟨σ45, e46, hf⟩ := um_le hf
  rw [← e46] at hW
  clear e46
  refine lv_iload (pc := 180) hx hb dX9_ruleOf_180 (lv_at hl 0 rfl) ?_
  refine lv_if_lt (pc := 182) (tgt := 194) hx hb dX9_ruleOf_182 (by decide) (fun c1 => ?_) (fun c1 => ?_)
  · have hf := um_it c1 hf
    clear c1
    refine lv_iload_n (pc := 194) hx hb dX9_ruleOf_194 rfl (lv_at hl 2 rfl) ?_
    refine lv_if_ne (pc := 195) (tgt := 209) hx hb dX9_ruleOf_195 (by decide) (fun c1 => ?_) (fun c1 => ?_)
    · have hf := um_ie c1 hf
      clear c1
      refine lv_iconst (pc := 209) (v := (0 : Int32)) hx hb dX9_ruleOf_209 (by decide) ?_
      exact um_iret (pc := 210) Cx hW hS hf dX9_ruleOf_210
    · have hf := um_it c1 hf
      clear c1
      refine lv_iload_n (pc := 198) hx hb dX9_ruleOf_198 rfl (lv_at hl 3 rfl) ?_
      refine lv_sipush (pc := 199) (v := (208 : Int32)) hx hb dX9_ruleOf_199 (by decide) ?_
      refine lv_icmp_le (pc := 202) (tgt := 209) hx hb dX9_ruleOf_202 (by decide) (fun c1 => ?_) (fun c1 => ?_)
      · have hf := um_it c1 hf
        clear c1
        refine lv_iconst (pc := 209) (v := (0 : Int32)) hx hb dX9_ruleOf_209 (by decide) ?_
        exact um_iret (pc := 210) Cx hW hS hf dX9_ruleOf_210
      · have hf := um_ie c1 hf
        clear c1
        refine lv_iconst (pc := 205) (v := (1 : Int32)) hx hb dX9_ruleOf_205 (by decide) ?_
        refine lv_goto (pc := 206) (tgt := 210) hx hb dX9_ruleOf_206 (by decide) ?_
        exact um_iret (pc := 210) Cx hW hS hf dX9_ruleOf_210
  · have hf := um_ie c1 hf
    clear c1
    refine lv_aload_n (pc := 185) hx hb dX9_ruleOf_185 rfl (lv_at hl 1 rfl) ?_
    refine lv_iload (pc := 186) hx hb dX9_ruleOf_186 (lv_at hl 0 rfl) ?_
    obtain ⟨x49, σ48, hc47, hf⟩ := um_bi2 hf
    refine um_cVi (pc := 188) (As := [.int x2]) (rest := []) Cx (c_X9_worked x2 hc47) kV_X9_worked (Or.inl qM_X9_250) hW hS ms_0 rfl rfl hl rfl (Nat.le_of_ble_eq_true rfl) (Nat.le_of_ble_eq_true rfl) (Nat.le_of_ble_eq_true rfl) dX9_ruleOf_188 (Nat.le_refl _) (Nat.le_refl _) ?_
    clear hW hS hc47
    intro H locs hW hS
    refine lv_goto (pc := 191) (tgt := 210) hx hb dX9_ruleOf_191 (by decide) ?_
    exact um_iret (pc := 210) Cx hW hS hf dX9_ruleOf_210
theorem c_X9_ruleOf {σ : um_S} {σ' : um_S} {r : Int32} (a1 : Int32) (a2 : Int32) (a3 : Int32) (a4 : Int32)  (hf : f_X9_ruleOf a1 a2 a3 a4 σ = some (r, σ')) : um_M l yX9_ruleOf cX9_ruleOf 6 (some FieldType.int) (2) (47) Z msh α σ [.ref (α 0), .int a1, .int a2, .int a3, .int a4] (some (.int r)) σ' :=
  um_start (by decide) (Nat.le_of_ble_eq_true rfl) (fun p e s m below meth c ls Cx hW hS hl => b_X9_ruleOf a1 a2 a3 a4 hf Cx hW hS hl)
noncomputable def f_X9_caught (a1 : Int32) (σ : um_S) : Option (Int32 × um_S) :=
    (f_X9_isMan a1 σ).bind fun x2 =>
    (if (um_b x2) = 0 then
    (some ((-1000000001 : Int32), σ))
    else
    ((f_X9_kindOf a1 σ).bind fun x4 =>
    (if x4 = (7 : Int32) then
    ((f_X9_isDead a1 σ).bind fun x6 =>
    (if (um_b x6) = 0 then
    ((f_X9_marksOf a1 σ).bind fun x8 =>
    (um_b2 (f_X9_ruleOf (2 : Int32) (3 : Int32) (x8 + (1 : Int32)) (0 : Int32) σ) fun x11 σ10 =>
    ((f_X9_manAt a1 σ10).bind fun x13 =>
    ((f_X9_manAt a1 σ10).bind fun x15 =>
    (if um_ix (x15 + (6 : Int32)) 3790 then
    (if um_ix (x13 + (4 : Int32)) 3790 then
    (um_let (um_wr σ10 1 (x13 + (4 : Int32)).toNatClampNeg (σ10.1 1 (x15 + (6 : Int32)).toNatClampNeg)) fun σ18 =>
    ((f_X9_marks a1 (3 : Int32) σ18).bind fun σ21 =>
    (um_let (fun (x23 : Int32) =>
    ((f_X9_becomesOf a1 (3 : Int32) ((σ21.1 1 0) + x23) σ21).bind fun σ25 =>
    ((f_X9_manAt a1 σ25).bind fun x27 =>
    (if um_ix (x27 + (6 : Int32)) 3790 then
    (some (σ25.1 1 (x27 + (6 : Int32)).toNatClampNeg, σ25)) else none)))) fun k22 =>
    (if (1 : Int32) ≤ x11 then
    (k22 x11)
    else
    (k22 (1 : Int32)))))) else none) else none)))))
    else
    (some ((-1000000002 : Int32), σ))))
    else
    (some ((-1000000012 : Int32), σ)))))
set_option maxRecDepth 100000 in
set_option maxHeartbeats 4000000 in
theorem b_X9_caught {H : Heap} {locs : List Loc} {ls : Array Slot} {σ : um_S} {σ' : um_S} {r : Int32} (a1 : Int32)  (hf : f_X9_caught a1 σ = some (r, σ')) (Cx : um_C p s m meth c args cX9_caught 3 (some FieldType.int) RX9 Z) (hW : um_W Z msh α σ H) (hS : va_S (um_D msh α) s.heap H locs) (hl : lv_has ls 3 [(0, .ref (α 0)), (1, .int a1)]) : um_G p l e (3) (72) s m args below meth c Z msh α σ' (some (.int r)) H locs (F0 m 0 ls []) := by
  have hx := Cx.1
  have hb := Cx.2.1
  have hown := Cx.2.2.2.2.1
  have hts := Cx.2.2.2.2.2.1
  rw [f_X9_caught] at hf
  refine lv_aload_n (pc := 0) hx hb dX9_caught_0 rfl (lv_at hl 0 rfl) ?_
  refine lv_iload_n (pc := 1) hx hb dX9_caught_1 rfl (lv_at hl 1 rfl) ?_
  obtain ⟨x2, hc1, hf⟩ := um_bi hf
  refine um_cVi (pc := 2) (As := [.int a1]) (rest := []) Cx (c_X9_isMan a1 hc1) kV_X9_isMan (Or.inl qM_X9_101) hW hS ms_0 rfl rfl hl rfl (Nat.le_of_ble_eq_true rfl) (Nat.le_of_ble_eq_true rfl) (Nat.le_of_ble_eq_true rfl) dX9_caught_2 (Nat.le_refl _) (Nat.le_refl _) ?_
  clear hW hS hc1
  intro H locs hW hS
  refine lv_if_ne (pc := 5) (tgt := 11) hx hb dX9_caught_5 (by decide) (fun c1 => ?_) (fun c1 => ?_)
  · have hf := um_ie c1 hf
    clear c1
    refine lv_aload_n (pc := 11) hx hb dX9_caught_11 rfl (lv_at hl 0 rfl) ?_
    refine lv_iload_n (pc := 12) hx hb dX9_caught_12 rfl (lv_at hl 1 rfl) ?_
    obtain ⟨x4, hc3, hf⟩ := um_bi hf
    refine um_cVi (pc := 13) (As := [.int a1]) (rest := []) Cx (c_X9_kindOf a1 hc3) kV_X9_kindOf (Or.inl qM_X9_77) hW hS ms_0 rfl rfl hl rfl (Nat.le_of_ble_eq_true rfl) (Nat.le_of_ble_eq_true rfl) (Nat.le_of_ble_eq_true rfl) dX9_caught_13 (Nat.le_refl _) (Nat.le_refl _) ?_
    clear hW hS hc3
    intro H locs hW hS
    refine lv_bipush (pc := 16) (v := (7 : Int32)) hx hb dX9_caught_16 (by decide) ?_
    refine lv_icmp_eq (pc := 18) (tgt := 24) hx hb dX9_caught_18 (by decide) (fun c1 => ?_) (fun c1 => ?_)
    · have hf := um_it c1 hf
      clear c1
      refine lv_aload_n (pc := 24) hx hb dX9_caught_24 rfl (lv_at hl 0 rfl) ?_
      refine lv_iload_n (pc := 25) hx hb dX9_caught_25 rfl (lv_at hl 1 rfl) ?_
      obtain ⟨x6, hc5, hf⟩ := um_bi hf
      refine um_cVi (pc := 26) (As := [.int a1]) (rest := []) Cx (c_X9_isDead a1 hc5) kV_X9_isDead (Or.inl qM_X9_70) hW hS ms_0 rfl rfl hl rfl (Nat.le_of_ble_eq_true rfl) (Nat.le_of_ble_eq_true rfl) (Nat.le_of_ble_eq_true rfl) dX9_caught_26 (Nat.le_refl _) (Nat.le_refl _) ?_
      clear hW hS hc5
      intro H locs hW hS
      refine lv_if_eq (pc := 29) (tgt := 35) hx hb dX9_caught_29 (by decide) (fun c1 => ?_) (fun c1 => ?_)
      · have hf := um_it c1 hf
        clear c1
        refine lv_aload_n (pc := 35) hx hb dX9_caught_35 rfl (lv_at hl 0 rfl) ?_
        refine lv_iconst (pc := 36) (v := (2 : Int32)) hx hb dX9_caught_36 (by decide) ?_
        refine lv_iconst (pc := 37) (v := (3 : Int32)) hx hb dX9_caught_37 (by decide) ?_
        refine lv_aload_n (pc := 38) hx hb dX9_caught_38 rfl (lv_at hl 0 rfl) ?_
        refine lv_iload_n (pc := 39) hx hb dX9_caught_39 rfl (lv_at hl 1 rfl) ?_
        obtain ⟨x8, hc7, hf⟩ := um_bi hf
        refine um_cVi (pc := 40) (As := [.int a1]) (rest := [.int (3 : Int32), .int (2 : Int32), .ref (α 0)]) Cx (c_X9_marksOf a1 hc7) kV_X9_marksOf (Or.inl qM_X9_116) hW hS ms_0 rfl rfl hl rfl (Nat.le_of_ble_eq_true rfl) (Nat.le_of_ble_eq_true rfl) (Nat.le_of_ble_eq_true rfl) dX9_caught_40 (Nat.le_refl _) (Nat.le_refl _) ?_
        clear hW hS hc7
        intro H locs hW hS
        refine lv_iconst (pc := 43) (v := (1 : Int32)) hx hb dX9_caught_43 (by decide) ?_
        refine lv_iadd (pc := 44) hx hb dX9_caught_44 ?_
        refine lv_iconst (pc := 45) (v := (0 : Int32)) hx hb dX9_caught_45 (by decide) ?_
        obtain ⟨x11, σ10, hc9, hf⟩ := um_bi2 hf
        refine um_cVi (pc := 46) (As := [.int (2 : Int32), .int (3 : Int32), .int (x8 + (1 : Int32)), .int (0 : Int32)]) (rest := []) Cx (c_X9_ruleOf (2 : Int32) (3 : Int32) (x8 + (1 : Int32)) (0 : Int32) hc9) kV_X9_ruleOf (Or.inl qM_X9_256) hW hS ms_0 rfl rfl hl rfl (Nat.le_of_ble_eq_true rfl) (Nat.le_of_ble_eq_true rfl) (Nat.le_of_ble_eq_true rfl) dX9_caught_46 (Nat.le_refl _) (Nat.le_refl _) ?_
        clear hW hS hc9
        intro H locs hW hS
        refine lv_istore_n (pc := 49) (lv' := [(2, .int x11), (0, .ref (α 0)), (1, .int a1)]) hx hb dX9_caught_49 rfl hl (by decide) rfl ?_
        clear hl
        intro ls hl
        refine lv_aload_n (pc := 50) hx hb dX9_caught_50 rfl (lv_at hl 1 rfl) ?_
        refine gF_X9_7 (pc := 51) Cx hW ms_0 rfl dX9_caught_51 ?_
        refine lv_aload_n (pc := 54) hx hb dX9_caught_54 rfl (lv_at hl 1 rfl) ?_
        refine lv_iload_n (pc := 55) hx hb dX9_caught_55 rfl (lv_at hl 2 rfl) ?_
        obtain ⟨x13, hc12, hf⟩ := um_bi hf
        refine um_cVi (pc := 56) (As := [.int a1]) (rest := [.ref (α 1)]) Cx (c_X9_manAt a1 hc12) kV_X9_manAt (Or.inl qM_X9_66) hW hS ms_0 rfl rfl hl rfl (Nat.le_of_ble_eq_true rfl) (Nat.le_of_ble_eq_true rfl) (Nat.le_of_ble_eq_true rfl) dX9_caught_56 (Nat.le_refl _) (Nat.le_refl _) ?_
        clear hW hS hc12
        intro H locs hW hS
        refine lv_iconst (pc := 59) (v := (4 : Int32)) hx hb dX9_caught_59 (by decide) ?_
        refine lv_iadd (pc := 60) hx hb dX9_caught_60 ?_
        refine lv_aload_n (pc := 61) hx hb dX9_caught_61 rfl (lv_at hl 1 rfl) ?_
        refine gF_X9_7 (pc := 62) Cx hW ms_0 rfl dX9_caught_62 ?_
        refine lv_aload_n (pc := 65) hx hb dX9_caught_65 rfl (lv_at hl 1 rfl) ?_
        refine lv_iload_n (pc := 66) hx hb dX9_caught_66 rfl (lv_at hl 2 rfl) ?_
        obtain ⟨x15, hc14, hf⟩ := um_bi hf
        refine um_cVi (pc := 67) (As := [.int a1]) (rest := [.ref (α 1), .int (x13 + (4 : Int32)), .ref (α 1)]) Cx (c_X9_manAt a1 hc14) kV_X9_manAt (Or.inl qM_X9_66) hW hS ms_0 rfl rfl hl rfl (Nat.le_of_ble_eq_true rfl) (Nat.le_of_ble_eq_true rfl) (Nat.le_of_ble_eq_true rfl) dX9_caught_67 (Nat.le_refl _) (Nat.le_refl _) ?_
        clear hW hS hc14
        intro H locs hW hS
        refine lv_bipush (pc := 70) (v := (6 : Int32)) hx hb dX9_caught_70 (by decide) ?_
        refine lv_iadd (pc := 72) hx hb dX9_caught_72 ?_
        obtain ⟨g16, hf⟩ := um_gu hf
        refine um_iald (pc := 73) Cx hW ms_1 rfl (um_ix_in g16) dX9_caught_73 ?_
        obtain ⟨g17, hf⟩ := um_gu hf
        refine um_iast (pc := 74) Cx hW hS ms_1 rfl (um_ix_in g17) dX9_caught_74 ?_
        clear hW hS
        intro H locs hW hS
        obtain ⟨σ18, e19, hf⟩ := um_le hf
        rw [← e19] at hW
        clear e19
        refine lv_aload_n (pc := 75) hx hb dX9_caught_75 rfl (lv_at hl 1 rfl) ?_
        refine lv_iload_n (pc := 76) hx hb dX9_caught_76 rfl (lv_at hl 2 rfl) ?_
        refine lv_iconst (pc := 77) (v := (3 : Int32)) hx hb dX9_caught_77 (by decide) ?_
        obtain ⟨σ21, hc20, hf⟩ := um_bi hf
        refine um_cVv (pc := 78) (As := [.int a1, .int (3 : Int32)]) (rest := []) Cx (c_X9_marks a1 (3 : Int32) hc20) kV_X9_marks (Or.inl qM_X9_265) hW hS ms_0 rfl rfl hl rfl (Nat.le_of_ble_eq_true rfl) (Nat.le_of_ble_eq_true rfl) (Nat.le_of_ble_eq_true rfl) dX9_caught_78 (Nat.le_refl _) (Nat.le_refl _) ?_
        clear hW hS hc20
        intro H locs hW hS
        refine lv_aload_n (pc := 81) hx hb dX9_caught_81 rfl (lv_at hl 1 rfl) ?_
        refine lv_iload_n (pc := 82) hx hb dX9_caught_82 rfl (lv_at hl 2 rfl) ?_
        refine lv_iconst (pc := 83) (v := (3 : Int32)) hx hb dX9_caught_83 (by decide) ?_
        refine lv_aload_n (pc := 84) hx hb dX9_caught_84 rfl (lv_at hl 1 rfl) ?_
        refine gF_X9_7 (pc := 85) Cx hW ms_0 rfl dX9_caught_85 ?_
        refine lv_iconst (pc := 88) (v := (0 : Int32)) hx hb dX9_caught_88 (by decide) ?_
        refine um_iaj (pc := 89) (n := 3790) 0 rfl Cx hW ms_1 rfl (um_ix_in (by decide)) dX9_caught_89 ?_
        refine lv_iload_n (pc := 90) hx hb dX9_caught_90 rfl (lv_at hl 0 rfl) ?_
        refine lv_iconst (pc := 91) (v := (1 : Int32)) hx hb dX9_caught_91 (by decide) ?_
        obtain ⟨k22, hk22, hf⟩ := um_j1 hf
        have J22 : ∀ (x23 : Int32), k22 x23 = some (r, σ') → ∀ (H : Heap) (locs : List Loc) (ls : Array Slot), um_W Z msh α σ21 H → va_S (um_D msh α) s.heap H locs → lv_has ls 3 [(0, .ref (α 0)), (1, .int a1)] → um_G p l e (3) (72) s m args below meth c Z msh α σ' (some (.int r)) H locs (F0 m 100 ls [.int x23, .int (σ21.1 1 0), .int (3 : Int32), .int a1, .ref (α 0)]) := by
          intro x23 hf H locs ls hW hS hl
          rw [hk22] at hf
          refine lv_iadd (pc := 100) hx hb dX9_caught_100 ?_
          obtain ⟨σ25, hc24, hf⟩ := um_bi hf
          refine um_cVv (pc := 101) (As := [.int a1, .int (3 : Int32), .int ((σ21.1 1 0) + x23)]) (rest := []) Cx (c_X9_becomesOf a1 (3 : Int32) ((σ21.1 1 0) + x23) hc24) kV_X9_becomesOf (Or.inl qM_X9_97) hW hS ms_0 rfl rfl hl rfl (Nat.le_of_ble_eq_true rfl) (Nat.le_of_ble_eq_true rfl) (Nat.le_of_ble_eq_true rfl) dX9_caught_101 (Nat.le_refl _) (Nat.le_refl _) ?_
          clear hW hS hc24
          intro H locs hW hS
          refine lv_aload_n (pc := 104) hx hb dX9_caught_104 rfl (lv_at hl 0 rfl) ?_
          refine gF_X9_7 (pc := 105) Cx hW ms_0 rfl dX9_caught_105 ?_
          refine lv_aload_n (pc := 108) hx hb dX9_caught_108 rfl (lv_at hl 0 rfl) ?_
          refine lv_iload_n (pc := 109) hx hb dX9_caught_109 rfl (lv_at hl 1 rfl) ?_
          obtain ⟨x27, hc26, hf⟩ := um_bi hf
          refine um_cVi (pc := 110) (As := [.int a1]) (rest := [.ref (α 1)]) Cx (c_X9_manAt a1 hc26) kV_X9_manAt (Or.inl qM_X9_66) hW hS ms_0 rfl rfl hl rfl (Nat.le_of_ble_eq_true rfl) (Nat.le_of_ble_eq_true rfl) (Nat.le_of_ble_eq_true rfl) dX9_caught_110 (Nat.le_refl _) (Nat.le_refl _) ?_
          clear hW hS hc26
          intro H locs hW hS
          refine lv_bipush (pc := 113) (v := (6 : Int32)) hx hb dX9_caught_113 (by decide) ?_
          refine lv_iadd (pc := 115) hx hb dX9_caught_115 ?_
          obtain ⟨g28, hf⟩ := um_gu hf
          refine um_iald (pc := 116) Cx hW ms_1 rfl (um_ix_in g28) dX9_caught_116 ?_
          exact um_iret (pc := 117) Cx hW hS hf dX9_caught_117
        refine lv_icmp_ge (pc := 92) (tgt := 99) hx hb dX9_caught_92 (by decide) (fun c1 => ?_) (fun c1 => ?_)
        · have hf := um_it c1 hf
          clear c1
          refine lv_iload_n (pc := 99) hx hb dX9_caught_99 rfl (lv_at hl 0 rfl) ?_
          exact J22 x11 hf _ _ _ hW hS (lv_sub hl [1, 2] rfl)
        · have hf := um_ie c1 hf
          clear c1
          refine lv_iconst (pc := 95) (v := (1 : Int32)) hx hb dX9_caught_95 (by decide) ?_
          refine lv_goto (pc := 96) (tgt := 100) hx hb dX9_caught_96 (by decide) ?_
          exact J22 (1 : Int32) hf _ _ _ hW hS (lv_sub hl [1, 2] rfl)
      · have hf := um_ie c1 hf
        clear c1
        refine lv_ldc (pc := 32) hx hb hown (hts _ qC_X9_106) dX9_caught_32 ?_
        exact um_iret (pc := 34) Cx hW hS hf dX9_caught_34
    · have hf := um_ie c1 hf
      clear c1
      refine lv_ldc (pc := 21) hx hb hown (hts _ qC_X9_122) dX9_caught_21 ?_
      exact um_iret (pc := 23) Cx hW hS hf dX9_caught_23
  · have hf := um_it c1 hf
    clear c1
    refine lv_ldc (pc := 8) hx hb hown (hts _ qC_X9_87) dX9_caught_8 ?_
    exact um_iret (pc := 10) Cx hW hS hf dX9_caught_10
theorem c_X9_caught {σ : um_S} {σ' : um_S} {r : Int32} (a1 : Int32)  (hf : f_X9_caught a1 σ = some (r, σ')) : um_M l yX9_caught cX9_caught 3 (some FieldType.int) (3) (72) Z msh α σ [.ref (α 0), .int a1] (some (.int r)) σ' :=
  um_start (by decide) (Nat.le_of_ble_eq_true rfl) (fun p e s m below meth c ls Cx hW hS hl => b_X9_caught a1 hf Cx hW hS hl)
noncomputable def f_X9_earn (a1 : Int32) (σ : um_S) : Option (um_S) :=
    (f_X9_manAt a1 σ).bind fun x2 =>
    ((f_X9_kindOf a1 σ).bind fun x4 =>
    (um_let (fun (_u : Unit) =>
    ((f_X9_kindOf a1 σ).bind fun x7 =>
    (um_let (fun (x9 : Int32) =>
    (if um_ix (x2 + (0 : Int32)) 3790 then
    (um_b2 (f_X9_ruleOf (4 : Int32) x9 (σ.1 1 (x2 + (0 : Int32)).toNatClampNeg) (0 : Int32) σ) fun x13 σ12 =>
    (um_let (um_wr σ12 1 10 ((σ12.1 1 10) + x13)) fun σ14 =>
    (if um_ix (x2 + (9 : Int32)) 3790 then
    (if um_ix (x2 + (9 : Int32)) 3790 then
    (um_let (um_wr σ14 1 (x2 + (9 : Int32)).toNatClampNeg ((σ14.1 1 (x2 + (9 : Int32)).toNatClampNeg) + (x9 - x13))) fun σ18 =>
    (some σ18)) else none) else none))) else none)) fun k8 =>
    (if x7 = (4 : Int32) then
    (k8 (5 : Int32))
    else
    (if um_ix (x2 + (6 : Int32)) 3790 then
    ((f_X9_masterAt (σ.1 1 (x2 + (6 : Int32)).toNatClampNeg) σ).bind fun x22 =>
    (if um_ix (x22 + (3 : Int32)) 3790 then
    (k8 (σ.1 1 (x22 + (3 : Int32)).toNatClampNeg)) else none)) else none))))) fun k5 =>
    (if x4 = (2 : Int32) then
    (k5 ())
    else
    ((f_X9_kindOf a1 σ).bind fun x25 =>
    (if x25 = (4 : Int32) then
    (k5 ())
    else
    (some σ))))))
set_option maxRecDepth 100000 in
set_option maxHeartbeats 4000000 in
theorem b_X9_earn {H : Heap} {locs : List Loc} {ls : Array Slot} {σ : um_S} {σ' : um_S} (a1 : Int32)  (hf : f_X9_earn a1 σ = some σ') (Cx : um_C p s m meth c args cX9_earn 5 none RX9 Z) (hW : um_W Z msh α σ H) (hS : va_S (um_D msh α) s.heap H locs) (hl : lv_has ls 5 [(0, .ref (α 0)), (1, .int a1)]) : um_G p l e (3) (72) s m args below meth c Z msh α σ' none H locs (F0 m 0 ls []) := by
  have hx := Cx.1
  have hb := Cx.2.1
  have hown := Cx.2.2.2.2.1
  have hts := Cx.2.2.2.2.2.1
  rw [f_X9_earn] at hf
  refine lv_aload_n (pc := 0) hx hb dX9_earn_0 rfl (lv_at hl 0 rfl) ?_
  refine lv_iload_n (pc := 1) hx hb dX9_earn_1 rfl (lv_at hl 1 rfl) ?_
  obtain ⟨x2, hc1, hf⟩ := um_bi hf
  refine um_cVi (pc := 2) (As := [.int a1]) (rest := []) Cx (c_X9_manAt a1 hc1) kV_X9_manAt (Or.inl qM_X9_66) hW hS ms_0 rfl rfl hl rfl (Nat.le_of_ble_eq_true rfl) (Nat.le_of_ble_eq_true rfl) (Nat.le_of_ble_eq_true rfl) dX9_earn_2 (Nat.le_refl _) (Nat.le_refl _) ?_
  clear hW hS hc1
  intro H locs hW hS
  refine lv_istore_n (pc := 5) (lv' := [(2, .int x2), (0, .ref (α 0)), (1, .int a1)]) hx hb dX9_earn_5 rfl hl (by decide) rfl ?_
  clear hl
  intro ls hl
  refine lv_aload_n (pc := 6) hx hb dX9_earn_6 rfl (lv_at hl 1 rfl) ?_
  refine lv_iload_n (pc := 7) hx hb dX9_earn_7 rfl (lv_at hl 2 rfl) ?_
  obtain ⟨x4, hc3, hf⟩ := um_bi hf
  refine um_cVi (pc := 8) (As := [.int a1]) (rest := []) Cx (c_X9_kindOf a1 hc3) kV_X9_kindOf (Or.inl qM_X9_77) hW hS ms_0 rfl rfl hl rfl (Nat.le_of_ble_eq_true rfl) (Nat.le_of_ble_eq_true rfl) (Nat.le_of_ble_eq_true rfl) dX9_earn_8 (Nat.le_refl _) (Nat.le_refl _) ?_
  clear hW hS hc3
  intro H locs hW hS
  refine lv_iconst (pc := 11) (v := (2 : Int32)) hx hb dX9_earn_11 (by decide) ?_
  obtain ⟨k5, hk5, hf⟩ := um_j1 hf
  have J5 : ∀ (_u : Unit), k5 _u = some σ' → ∀ (H : Heap) (locs : List Loc) (ls : Array Slot), um_W Z msh α σ H → va_S (um_D msh α) s.heap H locs → lv_has ls 5 [(0, .ref (α 0)), (1, .int a1), (2, .int x2)] → um_G p l e (3) (72) s m args below meth c Z msh α σ' none H locs (F0 m 25 ls []) := by
    intro _u hf H locs ls hW hS hl
    rw [hk5] at hf
    refine lv_aload_n (pc := 25) hx hb dX9_earn_25 rfl (lv_at hl 0 rfl) ?_
    refine lv_iload_n (pc := 26) hx hb dX9_earn_26 rfl (lv_at hl 1 rfl) ?_
    obtain ⟨x7, hc6, hf⟩ := um_bi hf
    refine um_cVi (pc := 27) (As := [.int a1]) (rest := []) Cx (c_X9_kindOf a1 hc6) kV_X9_kindOf (Or.inl qM_X9_77) hW hS ms_0 rfl rfl hl rfl (Nat.le_of_ble_eq_true rfl) (Nat.le_of_ble_eq_true rfl) (Nat.le_of_ble_eq_true rfl) dX9_earn_27 (Nat.le_refl _) (Nat.le_refl _) ?_
    clear hW hS hc6
    intro H locs hW hS
    refine lv_iconst (pc := 30) (v := (4 : Int32)) hx hb dX9_earn_30 (by decide) ?_
    obtain ⟨k8, hk8, hf⟩ := um_j1 hf
    have J8 : ∀ (x9 : Int32), k8 x9 = some σ' → ∀ (H : Heap) (locs : List Loc) (ls : Array Slot), um_W Z msh α σ H → va_S (um_D msh α) s.heap H locs → lv_has ls 5 [(0, .ref (α 0)), (2, .int x2)] → um_G p l e (3) (72) s m args below meth c Z msh α σ' none H locs (F0 m 58 ls [.int x9]) := by
      intro x9 hf H locs ls hW hS hl
      rw [hk8] at hf
      refine lv_istore_n (pc := 58) (lv' := [(3, .int x9), (0, .ref (α 0)), (2, .int x2)]) hx hb dX9_earn_58 rfl hl (by decide) rfl ?_
      clear hl
      intro ls hl
      refine lv_aload_n (pc := 59) hx hb dX9_earn_59 rfl (lv_at hl 1 rfl) ?_
      refine lv_iconst (pc := 60) (v := (4 : Int32)) hx hb dX9_earn_60 (by decide) ?_
      refine lv_iload_n (pc := 61) hx hb dX9_earn_61 rfl (lv_at hl 0 rfl) ?_
      refine lv_aload_n (pc := 62) hx hb dX9_earn_62 rfl (lv_at hl 1 rfl) ?_
      refine gF_X9_7 (pc := 63) Cx hW ms_0 rfl dX9_earn_63 ?_
      refine lv_iload_n (pc := 66) hx hb dX9_earn_66 rfl (lv_at hl 2 rfl) ?_
      refine lv_iconst (pc := 67) (v := (0 : Int32)) hx hb dX9_earn_67 (by decide) ?_
      refine lv_iadd (pc := 68) hx hb dX9_earn_68 ?_
      obtain ⟨g10, hf⟩ := um_gu hf
      refine um_iald (pc := 69) Cx hW ms_1 rfl (um_ix_in g10) dX9_earn_69 ?_
      refine lv_iconst (pc := 70) (v := (0 : Int32)) hx hb dX9_earn_70 (by decide) ?_
      obtain ⟨x13, σ12, hc11, hf⟩ := um_bi2 hf
      refine um_cVi (pc := 71) (As := [.int (4 : Int32), .int x9, .int (σ.1 1 (x2 + (0 : Int32)).toNatClampNeg), .int (0 : Int32)]) (rest := []) Cx (c_X9_ruleOf (4 : Int32) x9 (σ.1 1 (x2 + (0 : Int32)).toNatClampNeg) (0 : Int32) hc11) kV_X9_ruleOf (Or.inl qM_X9_256) hW hS ms_0 rfl rfl hl rfl (Nat.le_of_ble_eq_true rfl) (Nat.le_of_ble_eq_true rfl) (Nat.le_of_ble_eq_true rfl) dX9_earn_71 (Nat.le_refl _) (Nat.le_refl _) ?_
      clear hW hS hc11
      intro H locs hW hS
      refine lv_istore (pc := 74) (lv' := [(4, .int x13), (3, .int x9), (0, .ref (α 0)), (2, .int x2)]) hx hb dX9_earn_74 hl (by decide) rfl ?_
      clear hl
      intro ls hl
      refine lv_aload_n (pc := 76) hx hb dX9_earn_76 rfl (lv_at hl 2 rfl) ?_
      refine gF_X9_7 (pc := 77) Cx hW ms_0 rfl dX9_earn_77 ?_
      refine lv_bipush (pc := 80) (v := (10 : Int32)) hx hb dX9_earn_80 (by decide) ?_
      refine lv_dup2_11 (pc := 82) hx hb dX9_earn_82 rfl rfl ?_
      refine um_iaj (pc := 83) (n := 3790) 10 rfl Cx hW ms_1 rfl (um_ix_in (by decide)) dX9_earn_83 ?_
      refine lv_iload (pc := 84) hx hb dX9_earn_84 (lv_at hl 0 rfl) ?_
      refine lv_iadd (pc := 86) hx hb dX9_earn_86 ?_
      refine um_isj (pc := 87) (n := 3790) 10 rfl Cx hW hS ms_1 rfl (um_ix_in (by decide)) dX9_earn_87 ?_
      clear hW hS
      intro H locs hW hS
      obtain ⟨σ14, e15, hf⟩ := um_le hf
      rw [← e15] at hW
      clear e15
      refine lv_aload_n (pc := 88) hx hb dX9_earn_88 rfl (lv_at hl 2 rfl) ?_
      refine gF_X9_7 (pc := 89) Cx hW ms_0 rfl dX9_earn_89 ?_
      refine lv_iload_n (pc := 92) hx hb dX9_earn_92 rfl (lv_at hl 3 rfl) ?_
      refine lv_bipush (pc := 93) (v := (9 : Int32)) hx hb dX9_earn_93 (by decide) ?_
      refine lv_iadd (pc := 95) hx hb dX9_earn_95 ?_
      refine lv_dup2_11 (pc := 96) hx hb dX9_earn_96 rfl rfl ?_
      obtain ⟨g16, hf⟩ := um_gu hf
      refine um_iald (pc := 97) Cx hW ms_1 rfl (um_ix_in g16) dX9_earn_97 ?_
      refine lv_iload_n (pc := 98) hx hb dX9_earn_98 rfl (lv_at hl 1 rfl) ?_
      refine lv_iload (pc := 99) hx hb dX9_earn_99 (lv_at hl 0 rfl) ?_
      refine lv_isub (pc := 101) hx hb dX9_earn_101 ?_
      refine lv_iadd (pc := 102) hx hb dX9_earn_102 ?_
      obtain ⟨g17, hf⟩ := um_gu hf
      refine um_iast (pc := 103) Cx hW hS ms_1 rfl (um_ix_in g17) dX9_earn_103 ?_
      clear hW hS
      intro H locs hW hS
      obtain ⟨σ18, e19, hf⟩ := um_le hf
      rw [← e19] at hW
      clear e19
      exact um_vret (pc := 104) Cx hW hS hf dX9_earn_104
    refine lv_icmp_ne (pc := 31) (tgt := 38) hx hb dX9_earn_31 (by decide) (fun c1 => ?_) (fun c1 => ?_)
    · have hf := um_ie c1 hf
      clear c1
      refine lv_aload_n (pc := 38) hx hb dX9_earn_38 rfl (lv_at hl 0 rfl) ?_
      refine gF_X9_7 (pc := 39) Cx hW ms_0 rfl dX9_earn_39 ?_
      refine lv_aload_n (pc := 42) hx hb dX9_earn_42 rfl (lv_at hl 0 rfl) ?_
      refine lv_aload_n (pc := 43) hx hb dX9_earn_43 rfl (lv_at hl 0 rfl) ?_
      refine gF_X9_7 (pc := 44) Cx hW ms_0 rfl dX9_earn_44 ?_
      refine lv_iload_n (pc := 47) hx hb dX9_earn_47 rfl (lv_at hl 2 rfl) ?_
      refine lv_bipush (pc := 48) (v := (6 : Int32)) hx hb dX9_earn_48 (by decide) ?_
      refine lv_iadd (pc := 50) hx hb dX9_earn_50 ?_
      obtain ⟨g20, hf⟩ := um_gu hf
      refine um_iald (pc := 51) Cx hW ms_1 rfl (um_ix_in g20) dX9_earn_51 ?_
      obtain ⟨x22, hc21, hf⟩ := um_bi hf
      refine um_cVi (pc := 52) (As := [.int (σ.1 1 (x2 + (6 : Int32)).toNatClampNeg)]) (rest := [.ref (α 1)]) Cx (c_X9_masterAt (σ.1 1 (x2 + (6 : Int32)).toNatClampNeg) hc21) kV_X9_masterAt (Or.inl qM_X9_129) hW hS ms_0 rfl rfl hl rfl (Nat.le_of_ble_eq_true rfl) (Nat.le_of_ble_eq_true rfl) (Nat.le_of_ble_eq_true rfl) dX9_earn_52 (Nat.le_refl _) (Nat.le_refl _) ?_
      clear hW hS hc21
      intro H locs hW hS
      refine lv_iconst (pc := 55) (v := (3 : Int32)) hx hb dX9_earn_55 (by decide) ?_
      refine lv_iadd (pc := 56) hx hb dX9_earn_56 ?_
      obtain ⟨g23, hf⟩ := um_gu hf
      refine um_iald (pc := 57) Cx hW ms_1 rfl (um_ix_in g23) dX9_earn_57 ?_
      exact J8 (σ.1 1 (x22 + (3 : Int32)).toNatClampNeg) hf _ _ _ hW hS (lv_sub hl [0, 2] rfl)
    · have hf := um_it c1 hf
      clear c1
      refine lv_iconst (pc := 34) (v := (5 : Int32)) hx hb dX9_earn_34 (by decide) ?_
      refine lv_goto (pc := 35) (tgt := 58) hx hb dX9_earn_35 (by decide) ?_
      exact J8 (5 : Int32) hf _ _ _ hW hS (lv_sub hl [0, 2] rfl)
  refine lv_icmp_eq (pc := 12) (tgt := 25) hx hb dX9_earn_12 (by decide) (fun c1 => ?_) (fun c1 => ?_)
  · have hf := um_it c1 hf
    clear c1
    exact J5 () hf _ _ _ hW hS (lv_sub hl [1, 2, 0] rfl)
  · have hf := um_ie c1 hf
    clear c1
    refine lv_aload_n (pc := 15) hx hb dX9_earn_15 rfl (lv_at hl 1 rfl) ?_
    refine lv_iload_n (pc := 16) hx hb dX9_earn_16 rfl (lv_at hl 2 rfl) ?_
    obtain ⟨x25, hc24, hf⟩ := um_bi hf
    refine um_cVi (pc := 17) (As := [.int a1]) (rest := []) Cx (c_X9_kindOf a1 hc24) kV_X9_kindOf (Or.inl qM_X9_77) hW hS ms_0 rfl rfl hl rfl (Nat.le_of_ble_eq_true rfl) (Nat.le_of_ble_eq_true rfl) (Nat.le_of_ble_eq_true rfl) dX9_earn_17 (Nat.le_refl _) (Nat.le_refl _) ?_
    clear hW hS hc24
    intro H locs hW hS
    refine lv_iconst (pc := 20) (v := (4 : Int32)) hx hb dX9_earn_20 (by decide) ?_
    refine lv_icmp_eq (pc := 21) (tgt := 25) hx hb dX9_earn_21 (by decide) (fun c1 => ?_) (fun c1 => ?_)
    · have hf := um_it c1 hf
      clear c1
      exact J5 () hf _ _ _ hW hS (lv_sub hl [1, 2, 0] rfl)
    · have hf := um_ie c1 hf
      clear c1
      exact um_vret (pc := 24) Cx hW hS hf dX9_earn_24
theorem c_X9_earn {σ : um_S} {σ' : um_S} (a1 : Int32)  (hf : f_X9_earn a1 σ = some σ') : um_M l yX9_earn cX9_earn 5 none (3) (72) Z msh α σ [.ref (α 0), .int a1] none σ' :=
  um_start (by decide) (Nat.le_of_ble_eq_true rfl) (fun p e s m below meth c ls Cx hW hS hl => b_X9_earn a1 hf Cx hW hS hl)
noncomputable def f_X9_least (a0 : Int32) (a1 : Int32) (σ : um_S) : Option (Int32) :=
    if a1 ≤ a0 then
    (some a1)
    else
    (some a0)
set_option maxRecDepth 100000 in
set_option maxHeartbeats 4000000 in
theorem b_X9_least {H : Heap} {locs : List Loc} {ls : Array Slot} {σ : um_S} {r : Int32} (a0 : Int32) (a1 : Int32)  (hf : f_X9_least a0 a1 σ = some r) (Cx : um_C p s m meth c args cX9_least 2 (some FieldType.int) RX9 Z) (hW : um_W Z msh α σ H) (hS : va_S (um_D msh α) s.heap H locs) (hl : lv_has ls 2 [(0, .int a0), (1, .int a1)]) : um_G p l e (0) (0) s m args below meth c Z msh α σ (some (.int r)) H locs (F0 m 0 ls []) := by
  have hx := Cx.1
  have hb := Cx.2.1
  have hown := Cx.2.2.2.2.1
  have hts := Cx.2.2.2.2.2.1
  rw [f_X9_least] at hf
  refine lv_iload_n (pc := 0) hx hb dX9_least_0 rfl (lv_at hl 0 rfl) ?_
  refine lv_iload_n (pc := 1) hx hb dX9_least_1 rfl (lv_at hl 1 rfl) ?_
  refine lv_icmp_ge (pc := 2) (tgt := 9) hx hb dX9_least_2 (by decide) (fun c1 => ?_) (fun c1 => ?_)
  · have hf := um_it c1 hf
    clear c1
    refine lv_iload_n (pc := 9) hx hb dX9_least_9 rfl (lv_at hl 1 rfl) ?_
    exact um_iretR (pc := 10) Cx hW hS hf dX9_least_10
  · have hf := um_ie c1 hf
    clear c1
    refine lv_iload_n (pc := 5) hx hb dX9_least_5 rfl (lv_at hl 0 rfl) ?_
    refine lv_goto (pc := 6) (tgt := 10) hx hb dX9_least_6 (by decide) ?_
    exact um_iretR (pc := 10) Cx hW hS hf dX9_least_10
theorem c_X9_least {σ : um_S} {r : Int32} (a0 : Int32) (a1 : Int32)  (hf : f_X9_least a0 a1 σ = some r) : um_M l yX9_least cX9_least 2 (some FieldType.int) (0) (0) Z msh α σ [.int a0, .int a1] (some (.int r)) σ :=
  um_start (by decide) (Nat.le_of_ble_eq_true rfl) (fun p e s m below meth c ls Cx hW hS hl => b_X9_least a0 a1 hf Cx hW hS hl)
