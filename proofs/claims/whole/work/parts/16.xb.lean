variable {p : Program} {l : Launch} {e : Env} {s : State} {m : MethodId} {args : Array Value} {below : List Frame} {meth : Method} {c : Code} {Z : um_Z} {α : Nat → Nat} {sh : Nat → Option um_Sh}
noncomputable def f_X0_passing_l5 (v1 : Int32) (v2 : Int32) (σ : um_S) : Nat → Int32 → Int32 → Option (Int32)
  | 0, _, _ => none
  | n + 1, v3, v4 =>
    if (σ.1 5 3) ≤ v4 then
    (some v3)
    else
    (if (nI 6) ≤ v4 then
    (some v3)
    else
    (if ((v1 >>> (v4 &&& 31)) &&& (1 : Int32)) = (1 : Int32) then
    (if um_ix v4 6 then
    (um_let (v3 + (σ.1 12 v4.toNatClampNeg)) fun x2 =>
    (f_X0_passing_l5 v1 v2 σ n x2 (v4 + (1 : Int32)))) else none)
    else
    (f_X0_passing_l5 v1 v2 σ n v3 (v4 + (1 : Int32)))))
noncomputable def f_X0_passing_l57 (v1 : Int32) (σ : um_S) : Nat → Int32 → Int32 → Option (Int32)
  | 0, _, _ => none
  | n + 1, v3, v4 =>
    if (σ.1 5 2) ≤ v4 then
    (some v3)
    else
    (if (nI 14) ≤ v4 then
    (some v3)
    else
    (if um_ix v4 14 then
    (if ((σ.1 11 v4.toNatClampNeg) &&& (v1 ^^^ (-1 : Int32))) = 0 then
    (f_X0_passing_l57 v1 σ n v3 (v4 + (1 : Int32)))
    else
    (f_X0_passing_l57 v1 σ n (v3 + (1 : Int32)) (v4 + (1 : Int32)))) else none))
noncomputable def f_X0_passing (a1 : Int32) (a2 : Int32) (σ : um_S) : Option (Int32) :=
    (f_X0_passing_l5 a1 a2 σ um_N (0 : Int32) (0 : Int32)).bind fun x1 =>
    (um_let (if (0 : Int32) < a2 then a2 else (0 : Int32)) fun x3 =>
    ((f_X0_passing_l57 a1 σ um_N x1 x3).bind fun x5 =>
    (some x5)))
set_option maxRecDepth 100000 in
set_option maxHeartbeats 4000000 in
theorem t_X0_passing_l5 {Q : State → Prop} {o3 : Int32} {σ : um_S} (v1 : Int32) (v2 : Int32) (hX : um_X sh) (Cx : um_C p s m meth c args cX0_passing 5 (some FieldType.int) RX0 Z) (hE : ∀ (H : Heap) (locs : List Loc) (ls : Array Slot), um_W Z sh α σ H → va_S (um_D sh α) s.heap H locs → lv_has ls 5 [(0, .ref (α 5)), (1, .int v1), (2, .int v2), (3, .int o3)] → W p l e { frames := 1, cells := 0, slots := 0, locals := 30 } s m args below meth c H locs 0 0 Q (F0 m 50 ls [])) : ∀ (n : Nat) (v3 : Int32) (v4 : Int32) (H : Heap) (locs : List Loc) (ls : Array Slot), f_X0_passing_l5 v1 v2 σ n v3 v4 = some o3 → um_W Z sh α σ H → va_S (um_D sh α) s.heap H locs → lv_has ls 5 [(0, .ref (α 5)), (1, .int v1), (2, .int v2), (3, .int v3), (4, .int v4)] → W p l e { frames := 1, cells := 0, slots := 0, locals := 30 } s m args below meth c H locs 0 0 Q (F0 m 5 ls []) := by
  have hx := Cx.1
  have hb := Cx.2.1
  have hown := Cx.2.2.2.2.1
  have hts := Cx.2.2.2.2.2.1
  intro n
  induction n with
  | zero =>
    intro v3 v4 H locs ls hf hW hS hl
    cases hf
  | succ n ih =>
    intro v3 v4 H locs ls hf hW hS hl
    rw [f_X0_passing_l5] at hf
    refine lv_iload (pc := 5) hx hb dX0_passing_5 (lv_at hl 4 rfl) ?_
    refine lv_aload_n (pc := 7) hx hb dX0_passing_7 rfl (lv_at hl 0 rfl) ?_
    refine gF_X0_41 (pc := 8) Cx hW (hX 5 _ rfl) rfl dX0_passing_8 ?_
    refine lv_icmp_ge (pc := 11) (tgt := 50) hx hb dX0_passing_11 (by decide) (fun c1 => ?_) (fun c1 => ?_)
    · have hf := um_it c1 hf
      clear c1
      cases hf
      exact hE _ _ _ hW hS (lv_sub hl [0, 1, 2, 3] rfl)
    · have hf := um_ie c1 hf
      clear c1
      refine lv_iload (pc := 14) hx hb dX0_passing_14 (lv_at hl 4 rfl) ?_
      refine lv_aload_n (pc := 16) hx hb dX0_passing_16 rfl (lv_at hl 0 rfl) ?_
      refine gF_X0_15 (pc := 17) Cx hW (hX 5 _ rfl) rfl dX0_passing_17 ?_
      refine um_alen (pc := 20) (n := 6) Cx hW (hX 12 _ rfl) rfl (by decide) dX0_passing_20 ?_
      refine lv_icmp_ge (pc := 21) (tgt := 50) hx hb dX0_passing_21 (by decide) (fun c1 => ?_) (fun c1 => ?_)
      · have hf := um_it c1 hf
        clear c1
        cases hf
        exact hE _ _ _ hW hS (lv_sub hl [0, 1, 2, 3] rfl)
      · have hf := um_ie c1 hf
        clear c1
        refine lv_iload_n (pc := 24) hx hb dX0_passing_24 rfl (lv_at hl 1 rfl) ?_
        refine lv_iload (pc := 25) hx hb dX0_passing_25 (lv_at hl 4 rfl) ?_
        refine lv_ishr (pc := 27) hx hb dX0_passing_27 ?_
        refine lv_iconst (pc := 28) (v := (1 : Int32)) hx hb dX0_passing_28 (by decide) ?_
        refine lv_iand (pc := 29) hx hb dX0_passing_29 ?_
        refine lv_iconst (pc := 30) (v := (1 : Int32)) hx hb dX0_passing_30 (by decide) ?_
        refine lv_icmp_ne (pc := 31) (tgt := 44) hx hb dX0_passing_31 (by decide) (fun c1 => ?_) (fun c1 => ?_)
        · have hf := um_ie c1 hf
          clear c1
          refine lv_iinc (pc := 44) (v := v4 + (1 : Int32)) (lv' := [(4, .int (v4 + (1 : Int32))), (0, .ref (α 5)), (1, .int v1), (2, .int v2), (3, .int v3)]) hx hb dX0_passing_44 hl (k := 4) rfl rfl (by decide) rfl ?_
          clear hl
          intro ls hl
          refine lv_goto (pc := 47) (tgt := 5) hx hb dX0_passing_47 (by decide) ?_
          exact ih _ _ _ _ _ hf hW hS (lv_sub hl [1, 2, 3, 4, 0] rfl)
        · have hf := um_it c1 hf
          clear c1
          refine lv_iload_n (pc := 34) hx hb dX0_passing_34 rfl (lv_at hl 3 rfl) ?_
          refine lv_aload_n (pc := 35) hx hb dX0_passing_35 rfl (lv_at hl 0 rfl) ?_
          refine gF_X0_15 (pc := 36) Cx hW (hX 5 _ rfl) rfl dX0_passing_36 ?_
          refine lv_iload (pc := 39) hx hb dX0_passing_39 (lv_at hl 4 rfl) ?_
          obtain ⟨g1, hf⟩ := um_gu hf
          refine um_iald (pc := 41) Cx hW (hX 12 _ rfl) rfl (um_ix_in g1) dX0_passing_41 ?_
          refine lv_iadd (pc := 42) hx hb dX0_passing_42 ?_
          obtain ⟨x2, e3, hf⟩ := um_le hf
          refine um_top e3 ?_
          clear e3
          refine lv_istore_n (pc := 43) (lv' := [(3, .int x2), (0, .ref (α 5)), (1, .int v1), (2, .int v2), (4, .int v4)]) hx hb dX0_passing_43 rfl hl (by decide) rfl ?_
          clear hl
          intro ls hl
          refine lv_iinc (pc := 44) (v := v4 + (1 : Int32)) (lv' := [(4, .int (v4 + (1 : Int32))), (3, .int x2), (0, .ref (α 5)), (1, .int v1), (2, .int v2)]) hx hb dX0_passing_44 hl (k := 4) rfl rfl (by decide) rfl ?_
          clear hl
          intro ls hl
          refine lv_goto (pc := 47) (tgt := 5) hx hb dX0_passing_47 (by decide) ?_
          exact ih _ _ _ _ _ hf hW hS (lv_sub hl [2, 3, 4, 1, 0] rfl)
set_option maxRecDepth 100000 in
set_option maxHeartbeats 4000000 in
theorem t_X0_passing_l57 {Q : State → Prop} {o3 : Int32} {σ : um_S} (v1 : Int32) (hX : um_X sh) (Cx : um_C p s m meth c args cX0_passing 5 (some FieldType.int) RX0 Z) (hE : ∀ (H : Heap) (locs : List Loc) (ls : Array Slot), um_W Z sh α σ H → va_S (um_D sh α) s.heap H locs → lv_has ls 5 [(3, .int o3)] → W p l e { frames := 1, cells := 0, slots := 0, locals := 30 } s m args below meth c H locs 0 0 Q (F0 m 99 ls [])) : ∀ (n : Nat) (v3 : Int32) (v4 : Int32) (H : Heap) (locs : List Loc) (ls : Array Slot), f_X0_passing_l57 v1 σ n v3 v4 = some o3 → um_W Z sh α σ H → va_S (um_D sh α) s.heap H locs → lv_has ls 5 [(0, .ref (α 5)), (1, .int v1), (3, .int v3), (4, .int v4)] → W p l e { frames := 1, cells := 0, slots := 0, locals := 30 } s m args below meth c H locs 0 0 Q (F0 m 57 ls []) := by
  have hx := Cx.1
  have hb := Cx.2.1
  have hown := Cx.2.2.2.2.1
  have hts := Cx.2.2.2.2.2.1
  intro n
  induction n with
  | zero =>
    intro v3 v4 H locs ls hf hW hS hl
    cases hf
  | succ n ih =>
    intro v3 v4 H locs ls hf hW hS hl
    rw [f_X0_passing_l57] at hf
    refine lv_iload (pc := 57) hx hb dX0_passing_57 (lv_at hl 3 rfl) ?_
    refine lv_aload_n (pc := 59) hx hb dX0_passing_59 rfl (lv_at hl 0 rfl) ?_
    refine gF_X0_36 (pc := 60) Cx hW (hX 5 _ rfl) rfl dX0_passing_60 ?_
    refine lv_icmp_ge (pc := 63) (tgt := 99) hx hb dX0_passing_63 (by decide) (fun c1 => ?_) (fun c1 => ?_)
    · have hf := um_it c1 hf
      clear c1
      cases hf
      exact hE _ _ _ hW hS (lv_sub hl [2] rfl)
    · have hf := um_ie c1 hf
      clear c1
      refine lv_iload (pc := 66) hx hb dX0_passing_66 (lv_at hl 3 rfl) ?_
      refine lv_aload_n (pc := 68) hx hb dX0_passing_68 rfl (lv_at hl 0 rfl) ?_
      refine gF_X0_9 (pc := 69) Cx hW (hX 5 _ rfl) rfl dX0_passing_69 ?_
      refine um_alen (pc := 72) (n := 14) Cx hW (hX 11 _ rfl) rfl (by decide) dX0_passing_72 ?_
      refine lv_icmp_ge (pc := 73) (tgt := 99) hx hb dX0_passing_73 (by decide) (fun c1 => ?_) (fun c1 => ?_)
      · have hf := um_it c1 hf
        clear c1
        cases hf
        exact hE _ _ _ hW hS (lv_sub hl [2] rfl)
      · have hf := um_ie c1 hf
        clear c1
        refine lv_aload_n (pc := 76) hx hb dX0_passing_76 rfl (lv_at hl 0 rfl) ?_
        refine gF_X0_9 (pc := 77) Cx hW (hX 5 _ rfl) rfl dX0_passing_77 ?_
        refine lv_iload (pc := 80) hx hb dX0_passing_80 (lv_at hl 3 rfl) ?_
        obtain ⟨g1, hf⟩ := um_gu hf
        refine um_iald (pc := 82) Cx hW (hX 11 _ rfl) rfl (um_ix_in g1) dX0_passing_82 ?_
        refine lv_iload_n (pc := 83) hx hb dX0_passing_83 rfl (lv_at hl 1 rfl) ?_
        refine lv_iconst (pc := 84) (v := (-1 : Int32)) hx hb dX0_passing_84 (by decide) ?_
        refine lv_ixor (pc := 85) hx hb dX0_passing_85 ?_
        refine lv_iand (pc := 86) hx hb dX0_passing_86 ?_
        refine lv_if_eq (pc := 87) (tgt := 93) hx hb dX0_passing_87 (by decide) (fun c1 => ?_) (fun c1 => ?_)
        · have hf := um_it c1 hf
          clear c1
          refine lv_iinc (pc := 93) (v := v4 + (1 : Int32)) (lv' := [(4, .int (v4 + (1 : Int32))), (0, .ref (α 5)), (1, .int v1), (3, .int v3)]) hx hb dX0_passing_93 hl (k := 3) rfl rfl (by decide) rfl ?_
          clear hl
          intro ls hl
          refine lv_goto (pc := 96) (tgt := 57) hx hb dX0_passing_96 (by decide) ?_
          exact ih _ _ _ _ _ hf hW hS (lv_sub hl [1, 2, 3, 0] rfl)
        · have hf := um_ie c1 hf
          clear c1
          refine lv_iinc (pc := 90) (v := v3 + (1 : Int32)) (lv' := [(3, .int (v3 + (1 : Int32))), (0, .ref (α 5)), (1, .int v1), (4, .int v4)]) hx hb dX0_passing_90 hl (k := 2) rfl rfl (by decide) rfl ?_
          clear hl
          intro ls hl
          refine lv_iinc (pc := 93) (v := v4 + (1 : Int32)) (lv' := [(4, .int (v4 + (1 : Int32))), (3, .int (v3 + (1 : Int32))), (0, .ref (α 5)), (1, .int v1)]) hx hb dX0_passing_93 hl (k := 3) rfl rfl (by decide) rfl ?_
          clear hl
          intro ls hl
          refine lv_goto (pc := 96) (tgt := 57) hx hb dX0_passing_96 (by decide) ?_
          exact ih _ _ _ _ _ hf hW hS (lv_sub hl [2, 3, 1, 0] rfl)
set_option maxRecDepth 100000 in
set_option maxHeartbeats 4000000 in
theorem b_X0_passing {H : Heap} {locs : List Loc} {ls : Array Slot} {σ : um_S} {r : Int32} (a1 : Int32) (a2 : Int32) (hX : um_X sh) (hf : f_X0_passing a1 a2 σ = some r) (Cx : um_C p s m meth c args cX0_passing 5 (some FieldType.int) RX0 Z) (hW : um_W Z sh α σ H) (hS : va_S (um_D sh α) s.heap H locs) (hl : lv_has ls 5 [(0, .ref (α 5)), (1, .int a1), (2, .int a2)]) : um_G p l e (1) (30) s m args below meth c Z sh α σ (some (.int r)) H locs (F0 m 0 ls []) := by
  have hx := Cx.1
  have hb := Cx.2.1
  have hown := Cx.2.2.2.2.1
  have hts := Cx.2.2.2.2.2.1
  rw [f_X0_passing] at hf
  refine lv_iconst (pc := 0) (v := (0 : Int32)) hx hb dX0_passing_0 (by decide) ?_
  refine lv_istore_n (pc := 1) (lv' := [(3, .int (0 : Int32)), (0, .ref (α 5)), (1, .int a1), (2, .int a2)]) hx hb dX0_passing_1 rfl hl (by decide) rfl ?_
  clear hl
  intro ls hl
  refine lv_iconst (pc := 2) (v := (0 : Int32)) hx hb dX0_passing_2 (by decide) ?_
  refine lv_istore (pc := 3) (lv' := [(4, .int (0 : Int32)), (3, .int (0 : Int32)), (0, .ref (α 5)), (1, .int a1), (2, .int a2)]) hx hb dX0_passing_3 hl (by decide) rfl ?_
  clear hl
  intro ls hl
  obtain ⟨x1, hc2, hf⟩ := um_bi hf
  refine t_X0_passing_l5 a1 a2 hX Cx ?_ um_N _ _ _ _ _ hc2 hW hS (lv_sub hl [2, 3, 4, 1, 0] rfl)
  clear hW hS hl hc2
  intro H locs ls hW hS hl
  refine lv_iconst (pc := 50) (v := (0 : Int32)) hx hb dX0_passing_50 (by decide) ?_
  refine lv_iload_n (pc := 51) hx hb dX0_passing_51 rfl (lv_at hl 2 rfl) ?_
  refine va_mmax (pc := 52) (rest := []) hx hb (Cx.2.2.2.1.trans hl.1.symm) hown (hts _ qM_X0_47) (hts _ qT_J9_max_7cf53) (hts _ qN_J9) (hts _ qK_J9_max_7cf53) (Nat.le_of_ble_eq_true rfl) (Nat.le_of_ble_eq_true rfl) (Nat.le_refl _) (Nat.le_refl _) dX0_passing_52 ?_
  obtain ⟨x3, e4, hf⟩ := um_le hf
  refine um_top e4 ?_
  clear e4
  refine lv_istore (pc := 55) (lv' := [(4, .int x3), (0, .ref (α 5)), (1, .int a1), (2, .int a2), (3, .int x1)]) hx hb dX0_passing_55 hl (by decide) rfl ?_
  clear hl
  intro ls hl
  obtain ⟨x5, hc6, hf⟩ := um_bi hf
  refine t_X0_passing_l57 a1 hX Cx ?_ um_N _ _ _ _ _ hc6 hW hS (lv_sub hl [1, 2, 4, 0] rfl)
  clear hW hS hl hc6
  intro H locs ls hW hS hl
  refine lv_iload_n (pc := 99) hx hb dX0_passing_99 rfl (lv_at hl 0 rfl) ?_
  exact um_iretR (pc := 100) Cx hW hS hf dX0_passing_100
theorem c_X0_passing {σ : um_S} {r : Int32} (a1 : Int32) (a2 : Int32) (hX : um_X sh) (hf : f_X0_passing a1 a2 σ = some r) : um_M l yX0_passing cX0_passing 5 (some FieldType.int) (1) (30) Z sh α σ [.ref (α 5), .int a1, .int a2] (some (.int r)) σ :=
  um_start (by decide) (Nat.le_of_ble_eq_true rfl) (fun p e s m below meth c ls Cx hW hS hl => b_X0_passing a1 a2 hX hf Cx hW hS hl)
noncomputable def f_X0_greatest_l7 (v1 : Int32) (σ : um_S) : Nat → Int32 → Int32 → Option (Int32)
  | 0, _, _ => none
  | n + 1, v2, v3 =>
    if ((1 : Int32) <<< ((σ.1 5 3) &&& 31)) ≤ v3 then
    (some v2)
    else
    ((f_X0_passing v3 v1 σ).bind fun x2 =>
    (um_let (if x2 < v2 then x2 else v2) fun x3 =>
    (f_X0_greatest_l7 v1 σ n x3 (v3 + (1 : Int32)))))
noncomputable def f_X0_greatest (a1 : Int32) (σ : um_S) : Option (Int32) :=
    um_let (σ.1 5 2) fun x1 =>
    ((f_X0_greatest_l7 a1 σ um_N x1 (0 : Int32)).bind fun x3 =>
    (some x3))
set_option maxRecDepth 100000 in
set_option maxHeartbeats 4000000 in
theorem t_X0_greatest_l7 {Q : State → Prop} {o2 : Int32} {σ : um_S} (v1 : Int32) (hX : um_X sh) (Cx : um_C p s m meth c args cX0_greatest 4 (some FieldType.int) RX0 Z) (hE : ∀ (H : Heap) (locs : List Loc) (ls : Array Slot), um_W Z sh α σ H → va_S (um_D sh α) s.heap H locs → lv_has ls 4 [(2, .int o2)] → W p l e { frames := 2, cells := 0, slots := 0, locals := 54 } s m args below meth c H locs 0 0 Q (F0 m 34 ls [])) : ∀ (n : Nat) (v2 : Int32) (v3 : Int32) (H : Heap) (locs : List Loc) (ls : Array Slot), f_X0_greatest_l7 v1 σ n v2 v3 = some o2 → um_W Z sh α σ H → va_S (um_D sh α) s.heap H locs → lv_has ls 4 [(0, .ref (α 5)), (1, .int v1), (2, .int v2), (3, .int v3)] → W p l e { frames := 2, cells := 0, slots := 0, locals := 54 } s m args below meth c H locs 0 0 Q (F0 m 7 ls []) := by
  have hx := Cx.1
  have hb := Cx.2.1
  have hown := Cx.2.2.2.2.1
  have hts := Cx.2.2.2.2.2.1
  intro n
  induction n with
  | zero =>
    intro v2 v3 H locs ls hf hW hS hl
    cases hf
  | succ n ih =>
    intro v2 v3 H locs ls hf hW hS hl
    rw [f_X0_greatest_l7] at hf
    refine lv_iload_n (pc := 7) hx hb dX0_greatest_7 rfl (lv_at hl 3 rfl) ?_
    refine lv_iconst (pc := 8) (v := (1 : Int32)) hx hb dX0_greatest_8 (by decide) ?_
    refine lv_aload_n (pc := 9) hx hb dX0_greatest_9 rfl (lv_at hl 0 rfl) ?_
    refine gF_X0_41 (pc := 10) Cx hW (hX 5 _ rfl) rfl dX0_greatest_10 ?_
    refine lv_ishl (pc := 13) hx hb dX0_greatest_13 ?_
    refine lv_icmp_ge (pc := 14) (tgt := 34) hx hb dX0_greatest_14 (by decide) (fun c1 => ?_) (fun c1 => ?_)
    · have hf := um_it c1 hf
      clear c1
      cases hf
      exact hE _ _ _ hW hS (lv_sub hl [2] rfl)
    · have hf := um_ie c1 hf
      clear c1
      refine lv_iload_n (pc := 17) hx hb dX0_greatest_17 rfl (lv_at hl 2 rfl) ?_
      refine lv_aload_n (pc := 18) hx hb dX0_greatest_18 rfl (lv_at hl 0 rfl) ?_
      refine lv_iload_n (pc := 19) hx hb dX0_greatest_19 rfl (lv_at hl 3 rfl) ?_
      refine lv_iload_n (pc := 20) hx hb dX0_greatest_20 rfl (lv_at hl 1 rfl) ?_
      obtain ⟨x2, hc1, hf⟩ := um_bi hf
      refine um_cVi (pc := 21) (As := [.int v3, .int v1]) (rest := [.int v2]) Cx (c_X0_passing v3 v1 hX hc1) kV_X0_passing (Or.inl qM_X0_61) hW hS (hX 5 _ rfl) rfl rfl hl rfl (Nat.le_of_ble_eq_true rfl) (Nat.le_of_ble_eq_true rfl) (Nat.le_of_ble_eq_true rfl) dX0_greatest_21 (Nat.le_refl _) (Nat.le_refl _) ?_
      clear hW hS hc1
      intro H locs hW hS
      refine va_mmin (pc := 24) (rest := []) hx hb (Cx.2.2.2.1.trans hl.1.symm) hown (hts _ qM_X0_30) (hts _ qT_J9_min_7cf53) (hts _ qN_J9) (hts _ qK_J9_min_7cf53) (Nat.le_of_ble_eq_true rfl) (Nat.le_of_ble_eq_true rfl) (Nat.le_refl _) (Nat.le_refl _) dX0_greatest_24 ?_
      obtain ⟨x3, e4, hf⟩ := um_le hf
      refine um_top e4 ?_
      clear e4
      refine lv_istore_n (pc := 27) (lv' := [(2, .int x3), (0, .ref (α 5)), (1, .int v1), (3, .int v3)]) hx hb dX0_greatest_27 rfl hl (by decide) rfl ?_
      clear hl
      intro ls hl
      refine lv_iinc (pc := 28) (v := v3 + (1 : Int32)) (lv' := [(3, .int (v3 + (1 : Int32))), (2, .int x3), (0, .ref (α 5)), (1, .int v1)]) hx hb dX0_greatest_28 hl (k := 3) rfl rfl (by decide) rfl ?_
      clear hl
      intro ls hl
      refine lv_goto (pc := 31) (tgt := 7) hx hb dX0_greatest_31 (by decide) ?_
      exact ih _ _ _ _ _ hf hW hS (lv_sub hl [2, 3, 1, 0] rfl)
set_option maxRecDepth 100000 in
set_option maxHeartbeats 4000000 in
theorem b_X0_greatest {H : Heap} {locs : List Loc} {ls : Array Slot} {σ : um_S} {r : Int32} (a1 : Int32) (hX : um_X sh) (hf : f_X0_greatest a1 σ = some r) (Cx : um_C p s m meth c args cX0_greatest 4 (some FieldType.int) RX0 Z) (hW : um_W Z sh α σ H) (hS : va_S (um_D sh α) s.heap H locs) (hl : lv_has ls 4 [(0, .ref (α 5)), (1, .int a1)]) : um_G p l e (2) (54) s m args below meth c Z sh α σ (some (.int r)) H locs (F0 m 0 ls []) := by
  have hx := Cx.1
  have hb := Cx.2.1
  have hown := Cx.2.2.2.2.1
  have hts := Cx.2.2.2.2.2.1
  rw [f_X0_greatest] at hf
  refine lv_aload_n (pc := 0) hx hb dX0_greatest_0 rfl (lv_at hl 0 rfl) ?_
  refine gF_X0_36 (pc := 1) Cx hW (hX 5 _ rfl) rfl dX0_greatest_1 ?_
  obtain ⟨x1, e2, hf⟩ := um_le hf
  refine um_top e2 ?_
  clear e2
  refine lv_istore_n (pc := 4) (lv' := [(2, .int x1), (0, .ref (α 5)), (1, .int a1)]) hx hb dX0_greatest_4 rfl hl (by decide) rfl ?_
  clear hl
  intro ls hl
  refine lv_iconst (pc := 5) (v := (0 : Int32)) hx hb dX0_greatest_5 (by decide) ?_
  refine lv_istore_n (pc := 6) (lv' := [(3, .int (0 : Int32)), (2, .int x1), (0, .ref (α 5)), (1, .int a1)]) hx hb dX0_greatest_6 rfl hl (by decide) rfl ?_
  clear hl
  intro ls hl
  obtain ⟨x3, hc4, hf⟩ := um_bi hf
  refine t_X0_greatest_l7 a1 hX Cx ?_ um_N _ _ _ _ _ hc4 hW hS (lv_sub hl [2, 3, 1, 0] rfl)
  clear hW hS hl hc4
  intro H locs ls hW hS hl
  refine lv_iload_n (pc := 34) hx hb dX0_greatest_34 rfl (lv_at hl 0 rfl) ?_
  exact um_iretR (pc := 35) Cx hW hS hf dX0_greatest_35
theorem c_X0_greatest {σ : um_S} {r : Int32} (a1 : Int32) (hX : um_X sh) (hf : f_X0_greatest a1 σ = some r) : um_M l yX0_greatest cX0_greatest 4 (some FieldType.int) (2) (54) Z sh α σ [.ref (α 5), .int a1] (some (.int r)) σ :=
  um_start (by decide) (Nat.le_of_ble_eq_true rfl) (fun p e s m below meth c ls Cx hW hS hl => b_X0_greatest a1 hX hf Cx hW hS hl)
noncomputable def f_X0_take_l18 (v1 : Int32) (v2 : Int32) : Nat → Int32 → um_S → Option ((Int32 × um_S) ⊕ (um_S))
  | 0, _, _ => none
  | n + 1, v3, σ =>
    if (σ.1 5 3) ≤ v3 then
    (some (.inr σ))
    else
    (if (nI 6) ≤ v3 then
    (some (.inr σ))
    else
    (if um_ix v1 14 then
    (if (((σ.1 11 v1.toNatClampNeg) >>> (v3 &&& 31)) &&& (1 : Int32)) = (1 : Int32) then
    (if um_ix v3 6 then
    (if (σ.1 12 v3.toNatClampNeg) ≤ 0 then
    (f_X0_take_l18 v1 v2 n (v3 + (1 : Int32)) σ)
    else
    (if um_ix v3 6 then
    (if um_ix v3 6 then
    (um_let (um_wr σ 12 v3.toNatClampNeg ((σ.1 12 v3.toNatClampNeg) - (1 : Int32))) fun σ5 =>
    ((f_X0_greatest (v1 + (1 : Int32)) σ5).bind fun x8 =>
    (if (x8 + (1 : Int32)) = v2 then
    (some (.inl (v3, σ5)))
    else
    (if um_ix v3 6 then
    (if um_ix v3 6 then
    (um_let (um_wr σ5 12 v3.toNatClampNeg ((σ5.1 12 v3.toNatClampNeg) + (1 : Int32))) fun σ11 =>
    (f_X0_take_l18 v1 v2 n (v3 + (1 : Int32)) σ11)) else none) else none)))) else none) else none)) else none)
    else
    (f_X0_take_l18 v1 v2 n (v3 + (1 : Int32)) σ)) else none))
noncomputable def f_X0_take (a1 : Int32) (a2 : Int32) (σ : um_S) : Option (Int32 × um_S) :=
    if a1 < 0 then
    (some ((-1000000005 : Int32), σ))
    else
    (if a1 < (nI 14) then
    (um_s1 (f_X0_take_l18 a1 a2 um_N (0 : Int32) σ) fun σ1 =>
    (some ((-1000000005 : Int32), σ1)))
    else
    (some ((-1000000005 : Int32), σ)))
set_option maxRecDepth 100000 in
set_option maxHeartbeats 4000000 in
theorem t_X0_take_l18 {σ' : um_S} {r : Int32} {out : (Int32 × um_S) ⊕ (um_S)}  (v1 : Int32) (v2 : Int32) (hX : um_X sh) (Cx : um_C p s m meth c args cX0_take 4 (some FieldType.int) RX0 Z) (hR : ∀ a, out = .inl a → some a = some (r, σ')) (hE : ∀ (σo : um_S), out = .inr σo → ∀ (H : Heap) (locs : List Loc) (ls : Array Slot), um_W Z sh α σo H → va_S (um_D sh α) s.heap H locs → lv_has ls 4 [] → um_G p l e (3) (77) s m args below meth c Z sh α σ' (some (.int r)) H locs (F0 m 99 ls [])) : ∀ (n : Nat) (v3 : Int32) (σ : um_S) (H : Heap) (locs : List Loc) (ls : Array Slot), f_X0_take_l18 v1 v2 n v3 σ = some out → um_W Z sh α σ H → va_S (um_D sh α) s.heap H locs → lv_has ls 4 [(0, .ref (α 5)), (1, .int v1), (2, .int v2), (3, .int v3)] → um_G p l e (3) (77) s m args below meth c Z sh α σ' (some (.int r)) H locs (F0 m 18 ls []) := by
  have hx := Cx.1
  have hb := Cx.2.1
  have hown := Cx.2.2.2.2.1
  have hts := Cx.2.2.2.2.2.1
  intro n
  induction n with
  | zero =>
    intro v3 σ H locs ls hf hW hS hl
    cases hf
  | succ n ih =>
    intro v3 σ H locs ls hf hW hS hl
    rw [f_X0_take_l18] at hf
    refine lv_iload_n (pc := 18) hx hb dX0_take_18 rfl (lv_at hl 3 rfl) ?_
    refine lv_aload_n (pc := 19) hx hb dX0_take_19 rfl (lv_at hl 0 rfl) ?_
    refine gF_X0_41 (pc := 20) Cx hW (hX 5 _ rfl) rfl dX0_take_20 ?_
    refine lv_icmp_ge (pc := 23) (tgt := 99) hx hb dX0_take_23 (by decide) (fun c1 => ?_) (fun c1 => ?_)
    · have hf := um_it c1 hf
      clear c1
      exact hE _ (Option.some.inj hf).symm _ _ _ hW hS (lv_sub hl [] rfl)
    · have hf := um_ie c1 hf
      clear c1
      refine lv_iload_n (pc := 26) hx hb dX0_take_26 rfl (lv_at hl 3 rfl) ?_
      refine lv_aload_n (pc := 27) hx hb dX0_take_27 rfl (lv_at hl 0 rfl) ?_
      refine gF_X0_15 (pc := 28) Cx hW (hX 5 _ rfl) rfl dX0_take_28 ?_
      refine um_alen (pc := 31) (n := 6) Cx hW (hX 12 _ rfl) rfl (by decide) dX0_take_31 ?_
      refine lv_icmp_ge (pc := 32) (tgt := 99) hx hb dX0_take_32 (by decide) (fun c1 => ?_) (fun c1 => ?_)
      · have hf := um_it c1 hf
        clear c1
        exact hE _ (Option.some.inj hf).symm _ _ _ hW hS (lv_sub hl [] rfl)
      · have hf := um_ie c1 hf
        clear c1
        refine lv_aload_n (pc := 35) hx hb dX0_take_35 rfl (lv_at hl 0 rfl) ?_
        refine gF_X0_9 (pc := 36) Cx hW (hX 5 _ rfl) rfl dX0_take_36 ?_
        refine lv_iload_n (pc := 39) hx hb dX0_take_39 rfl (lv_at hl 1 rfl) ?_
        obtain ⟨g1, hf⟩ := um_gu hf
        refine um_iald (pc := 40) Cx hW (hX 11 _ rfl) rfl (um_ix_in g1) dX0_take_40 ?_
        refine lv_iload_n (pc := 41) hx hb dX0_take_41 rfl (lv_at hl 3 rfl) ?_
        refine lv_ishr (pc := 42) hx hb dX0_take_42 ?_
        refine lv_iconst (pc := 43) (v := (1 : Int32)) hx hb dX0_take_43 (by decide) ?_
        refine lv_iand (pc := 44) hx hb dX0_take_44 ?_
        refine lv_iconst (pc := 45) (v := (1 : Int32)) hx hb dX0_take_45 (by decide) ?_
        refine lv_icmp_ne (pc := 46) (tgt := 93) hx hb dX0_take_46 (by decide) (fun c1 => ?_) (fun c1 => ?_)
        · have hf := um_ie c1 hf
          clear c1
          refine lv_iinc (pc := 93) (v := v3 + (1 : Int32)) (lv' := [(3, .int (v3 + (1 : Int32))), (0, .ref (α 5)), (1, .int v1), (2, .int v2)]) hx hb dX0_take_93 hl (k := 3) rfl rfl (by decide) rfl ?_
          clear hl
          intro ls hl
          refine lv_goto (pc := 96) (tgt := 18) hx hb dX0_take_96 (by decide) ?_
          exact ih _ _ _ _ _ hf hW hS (lv_sub hl [1, 2, 3, 0] rfl)
        · have hf := um_it c1 hf
          clear c1
          refine lv_aload_n (pc := 49) hx hb dX0_take_49 rfl (lv_at hl 0 rfl) ?_
          refine gF_X0_15 (pc := 50) Cx hW (hX 5 _ rfl) rfl dX0_take_50 ?_
          refine lv_iload_n (pc := 53) hx hb dX0_take_53 rfl (lv_at hl 3 rfl) ?_
          obtain ⟨g2, hf⟩ := um_gu hf
          refine um_iald (pc := 54) Cx hW (hX 12 _ rfl) rfl (um_ix_in g2) dX0_take_54 ?_
          refine lv_if_le (pc := 55) (tgt := 93) hx hb dX0_take_55 (by decide) (fun c1 => ?_) (fun c1 => ?_)
          · have hf := um_it c1 hf
            clear c1
            refine lv_iinc (pc := 93) (v := v3 + (1 : Int32)) (lv' := [(3, .int (v3 + (1 : Int32))), (0, .ref (α 5)), (1, .int v1), (2, .int v2)]) hx hb dX0_take_93 hl (k := 3) rfl rfl (by decide) rfl ?_
            clear hl
            intro ls hl
            refine lv_goto (pc := 96) (tgt := 18) hx hb dX0_take_96 (by decide) ?_
            exact ih _ _ _ _ _ hf hW hS (lv_sub hl [1, 2, 3, 0] rfl)
          · have hf := um_ie c1 hf
            clear c1
            refine lv_aload_n (pc := 58) hx hb dX0_take_58 rfl (lv_at hl 0 rfl) ?_
            refine gF_X0_15 (pc := 59) Cx hW (hX 5 _ rfl) rfl dX0_take_59 ?_
            refine lv_iload_n (pc := 62) hx hb dX0_take_62 rfl (lv_at hl 3 rfl) ?_
            refine lv_dup2_11 (pc := 63) hx hb dX0_take_63 rfl rfl ?_
            obtain ⟨g3, hf⟩ := um_gu hf
            refine um_iald (pc := 64) Cx hW (hX 12 _ rfl) rfl (um_ix_in g3) dX0_take_64 ?_
            refine lv_iconst (pc := 65) (v := (1 : Int32)) hx hb dX0_take_65 (by decide) ?_
            refine lv_isub (pc := 66) hx hb dX0_take_66 ?_
            obtain ⟨g4, hf⟩ := um_gu hf
            refine um_iast (pc := 67) Cx hW hS (hX 12 _ rfl) rfl (um_ix_in g4) dX0_take_67 ?_
            clear hW hS
            intro H locs hW hS
            obtain ⟨σ5, e6, hf⟩ := um_le hf
            rw [← e6] at hW
            clear e6
            refine lv_aload_n (pc := 68) hx hb dX0_take_68 rfl (lv_at hl 0 rfl) ?_
            refine lv_iload_n (pc := 69) hx hb dX0_take_69 rfl (lv_at hl 1 rfl) ?_
            refine lv_iconst (pc := 70) (v := (1 : Int32)) hx hb dX0_take_70 (by decide) ?_
            refine lv_iadd (pc := 71) hx hb dX0_take_71 ?_
            obtain ⟨x8, hc7, hf⟩ := um_bi hf
            refine um_cVi (pc := 72) (As := [.int (v1 + (1 : Int32))]) (rest := []) Cx (c_X0_greatest (v1 + (1 : Int32)) hX hc7) kV_X0_greatest (Or.inl qM_X0_64) hW hS (hX 5 _ rfl) rfl rfl hl rfl (Nat.le_of_ble_eq_true rfl) (Nat.le_of_ble_eq_true rfl) (Nat.le_of_ble_eq_true rfl) dX0_take_72 (Nat.le_refl _) (Nat.le_refl _) ?_
            clear hW hS hc7
            intro H locs hW hS
            refine lv_iconst (pc := 75) (v := (1 : Int32)) hx hb dX0_take_75 (by decide) ?_
            refine lv_iadd (pc := 76) hx hb dX0_take_76 ?_
            refine lv_iload_n (pc := 77) hx hb dX0_take_77 rfl (lv_at hl 2 rfl) ?_
            refine lv_icmp_ne (pc := 78) (tgt := 83) hx hb dX0_take_78 (by decide) (fun c1 => ?_) (fun c1 => ?_)
            · have hf := um_ie c1 hf
              clear c1
              refine lv_aload_n (pc := 83) hx hb dX0_take_83 rfl (lv_at hl 0 rfl) ?_
              refine gF_X0_15 (pc := 84) Cx hW (hX 5 _ rfl) rfl dX0_take_84 ?_
              refine lv_iload_n (pc := 87) hx hb dX0_take_87 rfl (lv_at hl 3 rfl) ?_
              refine lv_dup2_11 (pc := 88) hx hb dX0_take_88 rfl rfl ?_
              obtain ⟨g9, hf⟩ := um_gu hf
              refine um_iald (pc := 89) Cx hW (hX 12 _ rfl) rfl (um_ix_in g9) dX0_take_89 ?_
              refine lv_iconst (pc := 90) (v := (1 : Int32)) hx hb dX0_take_90 (by decide) ?_
              refine lv_iadd (pc := 91) hx hb dX0_take_91 ?_
              obtain ⟨g10, hf⟩ := um_gu hf
              refine um_iast (pc := 92) Cx hW hS (hX 12 _ rfl) rfl (um_ix_in g10) dX0_take_92 ?_
              clear hW hS
              intro H locs hW hS
              obtain ⟨σ11, e12, hf⟩ := um_le hf
              rw [← e12] at hW
              clear e12
              refine lv_iinc (pc := 93) (v := v3 + (1 : Int32)) (lv' := [(3, .int (v3 + (1 : Int32))), (0, .ref (α 5)), (1, .int v1), (2, .int v2)]) hx hb dX0_take_93 hl (k := 3) rfl rfl (by decide) rfl ?_
              clear hl
              intro ls hl
              refine lv_goto (pc := 96) (tgt := 18) hx hb dX0_take_96 (by decide) ?_
              exact ih _ _ _ _ _ hf hW hS (lv_sub hl [1, 2, 3, 0] rfl)
            · have hf := um_it c1 hf
              clear c1
              refine lv_iload_n (pc := 81) hx hb dX0_take_81 rfl (lv_at hl 3 rfl) ?_
              exact um_iret (pc := 82) Cx hW hS (hR _ (Option.some.inj hf).symm) dX0_take_82
set_option maxRecDepth 100000 in
set_option maxHeartbeats 4000000 in
theorem b_X0_take {H : Heap} {locs : List Loc} {ls : Array Slot} {σ : um_S} {σ' : um_S} {r : Int32} (a1 : Int32) (a2 : Int32) (hX : um_X sh) (hf : f_X0_take a1 a2 σ = some (r, σ')) (Cx : um_C p s m meth c args cX0_take 4 (some FieldType.int) RX0 Z) (hW : um_W Z sh α σ H) (hS : va_S (um_D sh α) s.heap H locs) (hl : lv_has ls 4 [(0, .ref (α 5)), (1, .int a1), (2, .int a2)]) : um_G p l e (3) (77) s m args below meth c Z sh α σ' (some (.int r)) H locs (F0 m 0 ls []) := by
  have hx := Cx.1
  have hb := Cx.2.1
  have hown := Cx.2.2.2.2.1
  have hts := Cx.2.2.2.2.2.1
  rw [f_X0_take] at hf
  refine lv_iload_n (pc := 0) hx hb dX0_take_0 rfl (lv_at hl 1 rfl) ?_
  refine lv_if_lt (pc := 1) (tgt := 13) hx hb dX0_take_1 (by decide) (fun c1 => ?_) (fun c1 => ?_)
  · have hf := um_it c1 hf
    clear c1
    refine lv_ldc (pc := 13) hx hb hown (hts _ qC_X0_67) dX0_take_13 ?_
    exact um_iret (pc := 15) Cx hW hS hf dX0_take_15
  · have hf := um_ie c1 hf
    clear c1
    refine lv_iload_n (pc := 4) hx hb dX0_take_4 rfl (lv_at hl 1 rfl) ?_
    refine lv_aload_n (pc := 5) hx hb dX0_take_5 rfl (lv_at hl 0 rfl) ?_
    refine gF_X0_9 (pc := 6) Cx hW (hX 5 _ rfl) rfl dX0_take_6 ?_
    refine um_alen (pc := 9) (n := 14) Cx hW (hX 11 _ rfl) rfl (by decide) dX0_take_9 ?_
    refine lv_icmp_lt (pc := 10) (tgt := 16) hx hb dX0_take_10 (by decide) (fun c1 => ?_) (fun c1 => ?_)
    · have hf := um_it c1 hf
      clear c1
      refine lv_iconst (pc := 16) (v := (0 : Int32)) hx hb dX0_take_16 (by decide) ?_
      refine lv_istore_n (pc := 17) (lv' := [(3, .int (0 : Int32)), (0, .ref (α 5)), (1, .int a1), (2, .int a2)]) hx hb dX0_take_17 rfl hl (by decide) rfl ?_
      clear hl
      intro ls hl
      obtain ⟨q3, hc2, hr4, hg5⟩ := um_si1 hf
      refine t_X0_take_l18 a1 a2 hX Cx hr4 ?_ um_N _ _ _ _ _ hc2 hW hS (lv_sub hl [1, 2, 3, 0] rfl)
      clear hW hS hl hc2
      intro σ1 hq6 H locs ls hW hS hl
      have hf := hg5 _ hq6
      refine lv_ldc (pc := 99) hx hb hown (hts _ qC_X0_67) dX0_take_99 ?_
      exact um_iret (pc := 101) Cx hW hS hf dX0_take_101
    · have hf := um_ie c1 hf
      clear c1
      refine lv_ldc (pc := 13) hx hb hown (hts _ qC_X0_67) dX0_take_13 ?_
      exact um_iret (pc := 15) Cx hW hS hf dX0_take_15
theorem c_X0_take {σ : um_S} {σ' : um_S} {r : Int32} (a1 : Int32) (a2 : Int32) (hX : um_X sh) (hf : f_X0_take a1 a2 σ = some (r, σ')) : um_M l yX0_take cX0_take 4 (some FieldType.int) (3) (77) Z sh α σ [.ref (α 5), .int a1, .int a2] (some (.int r)) σ' :=
  um_start (by decide) (Nat.le_of_ble_eq_true rfl) (fun p e s m below meth c ls Cx hW hS hl => b_X0_take a1 a2 hX hf Cx hW hS hl)
noncomputable def f_X0_masterFor_l12 (v1 : Int32) : Nat → Int32 → Int32 → Int32 → um_S → Option (Int32 × um_S)
  | 0, _, _, _, _ => none
  | n + 1, v2, v3, v4, σ =>
    if v1 < v4 then
    (some (v3, σ))
    else
    (if (σ.1 5 2) ≤ v4 then
    (some (v3, σ))
    else
    (um_b2 (f_X0_take v4 v2 σ) fun x3 σ2 =>
    (if x3 = (-1000000005 : Int32) then
    (f_X0_masterFor_l12 v1 n v2 x3 (v4 + (1 : Int32)) σ2)
    else
    (f_X0_masterFor_l12 v1 n (v2 + (-1 : Int32)) x3 (v4 + (1 : Int32)) σ2))))
noncomputable def f_X0_masterFor (a1 : Int32) (σ : um_S) : Option (Int32 × um_S) :=
    (f_X0_greatest (0 : Int32) σ).bind fun x2 =>
    (um_b2 (f_X0_masterFor_l12 a1 um_N x2 (-1000000005 : Int32) (0 : Int32) σ) fun x3 σ4 =>
    (some (x3, σ4)))
set_option maxRecDepth 100000 in
set_option maxHeartbeats 4000000 in
theorem t_X0_masterFor_l12 {Q : State → Prop} {o3 : Int32} {σo : um_S} (v1 : Int32) (hX : um_X sh) (Cx : um_C p s m meth c args cX0_masterFor 5 (some FieldType.int) RX0 Z) (hE : ∀ (H : Heap) (locs : List Loc) (ls : Array Slot), um_W Z sh α σo H → va_S (um_D sh α) s.heap H locs → lv_has ls 5 [(3, .int o3)] → W p l e { frames := 4, cells := 0, slots := 0, locals := 100 } s m args below meth c H locs 0 0 Q (F0 m 50 ls [])) : ∀ (n : Nat) (v2 : Int32) (v3 : Int32) (v4 : Int32) (σ : um_S) (H : Heap) (locs : List Loc) (ls : Array Slot), f_X0_masterFor_l12 v1 n v2 v3 v4 σ = some (o3, σo) → um_W Z sh α σ H → va_S (um_D sh α) s.heap H locs → lv_has ls 5 [(0, .ref (α 5)), (1, .int v1), (2, .int v2), (3, .int v3), (4, .int v4)] → W p l e { frames := 4, cells := 0, slots := 0, locals := 100 } s m args below meth c H locs 0 0 Q (F0 m 12 ls []) := by
  have hx := Cx.1
  have hb := Cx.2.1
  have hown := Cx.2.2.2.2.1
  have hts := Cx.2.2.2.2.2.1
  intro n
  induction n with
  | zero =>
    intro v2 v3 v4 σ H locs ls hf hW hS hl
    cases hf
  | succ n ih =>
    intro v2 v3 v4 σ H locs ls hf hW hS hl
    rw [f_X0_masterFor_l12] at hf
    refine lv_iload (pc := 12) hx hb dX0_masterFor_12 (lv_at hl 4 rfl) ?_
    refine lv_iload_n (pc := 14) hx hb dX0_masterFor_14 rfl (lv_at hl 1 rfl) ?_
    refine lv_icmp_gt (pc := 15) (tgt := 50) hx hb dX0_masterFor_15 (by decide) (fun c1 => ?_) (fun c1 => ?_)
    · have hf := um_it c1 hf
      clear c1
      cases hf
      exact hE _ _ _ hW hS (lv_sub hl [3] rfl)
    · have hf := um_ie c1 hf
      clear c1
      refine lv_iload (pc := 18) hx hb dX0_masterFor_18 (lv_at hl 4 rfl) ?_
      refine lv_aload_n (pc := 20) hx hb dX0_masterFor_20 rfl (lv_at hl 0 rfl) ?_
      refine gF_X0_36 (pc := 21) Cx hW (hX 5 _ rfl) rfl dX0_masterFor_21 ?_
      refine lv_icmp_ge (pc := 24) (tgt := 50) hx hb dX0_masterFor_24 (by decide) (fun c1 => ?_) (fun c1 => ?_)
      · have hf := um_it c1 hf
        clear c1
        cases hf
        exact hE _ _ _ hW hS (lv_sub hl [3] rfl)
      · have hf := um_ie c1 hf
        clear c1
        refine lv_aload_n (pc := 27) hx hb dX0_masterFor_27 rfl (lv_at hl 0 rfl) ?_
        refine lv_iload (pc := 28) hx hb dX0_masterFor_28 (lv_at hl 4 rfl) ?_
        refine lv_iload_n (pc := 30) hx hb dX0_masterFor_30 rfl (lv_at hl 2 rfl) ?_
        obtain ⟨x3, σ2, hc1, hf⟩ := um_bi2 hf
        refine um_cVi (pc := 31) (As := [.int v4, .int v2]) (rest := []) Cx (c_X0_take v4 v2 hX hc1) kV_X0_take (Or.inl qM_X0_68) hW hS (hX 5 _ rfl) rfl rfl hl rfl (Nat.le_of_ble_eq_true rfl) (Nat.le_of_ble_eq_true rfl) (Nat.le_of_ble_eq_true rfl) dX0_masterFor_31 (Nat.le_refl _) (Nat.le_refl _) ?_
        clear hW hS hc1
        intro H locs hW hS
        refine lv_istore_n (pc := 34) (lv' := [(3, .int x3), (0, .ref (α 5)), (1, .int v1), (2, .int v2), (4, .int v4)]) hx hb dX0_masterFor_34 rfl hl (by decide) rfl ?_
        clear hl
        intro ls hl
        refine lv_iload_n (pc := 35) hx hb dX0_masterFor_35 rfl (lv_at hl 0 rfl) ?_
        refine lv_ldc (pc := 36) hx hb hown (hts _ qC_X0_67) dX0_masterFor_36 ?_
        refine lv_icmp_eq (pc := 38) (tgt := 44) hx hb dX0_masterFor_38 (by decide) (fun c1 => ?_) (fun c1 => ?_)
        · have hf := um_it c1 hf
          clear c1
          refine lv_iinc (pc := 44) (v := v4 + (1 : Int32)) (lv' := [(4, .int (v4 + (1 : Int32))), (3, .int x3), (0, .ref (α 5)), (1, .int v1), (2, .int v2)]) hx hb dX0_masterFor_44 hl (k := 4) rfl rfl (by decide) rfl ?_
          clear hl
          intro ls hl
          refine lv_goto (pc := 47) (tgt := 12) hx hb dX0_masterFor_47 (by decide) ?_
          exact ih _ _ _ _ _ _ _ hf hW hS (lv_sub hl [2, 3, 4, 1, 0] rfl)
        · have hf := um_ie c1 hf
          clear c1
          refine lv_iinc (pc := 41) (v := v2 + (-1 : Int32)) (lv' := [(2, .int (v2 + (-1 : Int32))), (3, .int x3), (0, .ref (α 5)), (1, .int v1), (4, .int v4)]) hx hb dX0_masterFor_41 hl (k := 3) rfl rfl (by decide) rfl ?_
          clear hl
          intro ls hl
          refine lv_iinc (pc := 44) (v := v4 + (1 : Int32)) (lv' := [(4, .int (v4 + (1 : Int32))), (2, .int (v2 + (-1 : Int32))), (3, .int x3), (0, .ref (α 5)), (1, .int v1)]) hx hb dX0_masterFor_44 hl (k := 4) rfl rfl (by decide) rfl ?_
          clear hl
          intro ls hl
          refine lv_goto (pc := 47) (tgt := 12) hx hb dX0_masterFor_47 (by decide) ?_
          exact ih _ _ _ _ _ _ _ hf hW hS (lv_sub hl [3, 4, 1, 2, 0] rfl)
set_option maxRecDepth 100000 in
set_option maxHeartbeats 4000000 in
theorem b_X0_masterFor {H : Heap} {locs : List Loc} {ls : Array Slot} {σ : um_S} {σ' : um_S} {r : Int32} (a1 : Int32) (hX : um_X sh) (hf : f_X0_masterFor a1 σ = some (r, σ')) (Cx : um_C p s m meth c args cX0_masterFor 5 (some FieldType.int) RX0 Z) (hW : um_W Z sh α σ H) (hS : va_S (um_D sh α) s.heap H locs) (hl : lv_has ls 5 [(0, .ref (α 5)), (1, .int a1)]) : um_G p l e (4) (100) s m args below meth c Z sh α σ' (some (.int r)) H locs (F0 m 0 ls []) := by
  have hx := Cx.1
  have hb := Cx.2.1
  have hown := Cx.2.2.2.2.1
  have hts := Cx.2.2.2.2.2.1
  rw [f_X0_masterFor] at hf
  refine lv_aload_n (pc := 0) hx hb dX0_masterFor_0 rfl (lv_at hl 0 rfl) ?_
  refine lv_iconst (pc := 1) (v := (0 : Int32)) hx hb dX0_masterFor_1 (by decide) ?_
  obtain ⟨x2, hc1, hf⟩ := um_bi hf
  refine um_cVi (pc := 2) (As := [.int (0 : Int32)]) (rest := []) Cx (c_X0_greatest (0 : Int32) hX hc1) kV_X0_greatest (Or.inl qM_X0_64) hW hS (hX 5 _ rfl) rfl rfl hl rfl (Nat.le_of_ble_eq_true rfl) (Nat.le_of_ble_eq_true rfl) (Nat.le_of_ble_eq_true rfl) dX0_masterFor_2 (Nat.le_refl _) (Nat.le_refl _) ?_
  clear hW hS hc1
  intro H locs hW hS
  refine lv_istore_n (pc := 5) (lv' := [(2, .int x2), (0, .ref (α 5)), (1, .int a1)]) hx hb dX0_masterFor_5 rfl hl (by decide) rfl ?_
  clear hl
  intro ls hl
  refine lv_ldc (pc := 6) hx hb hown (hts _ qC_X0_67) dX0_masterFor_6 ?_
  refine lv_istore_n (pc := 8) (lv' := [(3, .int (-1000000005 : Int32)), (2, .int x2), (0, .ref (α 5)), (1, .int a1)]) hx hb dX0_masterFor_8 rfl hl (by decide) rfl ?_
  clear hl
  intro ls hl
  refine lv_iconst (pc := 9) (v := (0 : Int32)) hx hb dX0_masterFor_9 (by decide) ?_
  refine lv_istore (pc := 10) (lv' := [(4, .int (0 : Int32)), (3, .int (-1000000005 : Int32)), (2, .int x2), (0, .ref (α 5)), (1, .int a1)]) hx hb dX0_masterFor_10 hl (by decide) rfl ?_
  clear hl
  intro ls hl
  obtain ⟨x3, σ4, hc5, hf⟩ := um_bi2 hf
  refine t_X0_masterFor_l12 a1 hX Cx ?_ um_N _ _ _ _ _ _ _ hc5 hW hS (lv_sub hl [3, 4, 2, 1, 0] rfl)
  clear hW hS hl hc5
  intro H locs ls hW hS hl
  refine lv_iload_n (pc := 50) hx hb dX0_masterFor_50 rfl (lv_at hl 0 rfl) ?_
  exact um_iret (pc := 51) Cx hW hS hf dX0_masterFor_51
theorem c_X0_masterFor {σ : um_S} {σ' : um_S} {r : Int32} (a1 : Int32) (hX : um_X sh) (hf : f_X0_masterFor a1 σ = some (r, σ')) : um_M l yX0_masterFor cX0_masterFor 5 (some FieldType.int) (4) (100) Z sh α σ [.ref (α 5), .int a1] (some (.int r)) σ' :=
  um_start (by decide) (Nat.le_of_ble_eq_true rfl) (fun p e s m below meth c ls Cx hW hS hl => b_X0_masterFor a1 hX hf Cx hW hS hl)
noncomputable def f_X1_add (h0 : Nat) (h1 : Nat) (σ : um_S) : Option (Int32 × um_S) :=
    um_let (σ.1 (20 * h0 + 11) 1) fun x1 =>
    (if x1 < 0 then
    (some ((-1000000003 : Int32), σ))
    else
    (if x1 < (nI 14) then
    (if um_ix x1 14 then
    (um_let (um_wt σ (20 * h0 + 111) x1.toNatClampNeg (some h1)) fun σ4 =>
    (um_let (um_wr σ4 (20 * h0 + 11) 1 ((σ4.1 (20 * h0 + 11) 1) + (1 : Int32))) fun σ6 =>
    (some (x1, σ6)))) else none)
    else
    (some ((-1000000003 : Int32), σ))))
set_option maxRecDepth 100000 in
set_option maxHeartbeats 4000000 in
theorem b_X1_add {H : Heap} {locs : List Loc} {ls : Array Slot} {σ : um_S} {σ' : um_S} {r : Int32} (h0 : Nat) (h1 : Nat) (hh0 : um_h h0) (hh1 : um_txt sh h1) (hX : um_X sh) (hf : f_X1_add h0 h1 σ = some (r, σ')) (Cx : um_C p s m meth c args cX1_add 3 (some FieldType.int) RX1 Z) (hW : um_W Z sh α σ H) (hS : va_S (um_D sh α) s.heap H locs) (hl : lv_has ls 3 [(0, .ref (α (20 * h0 + 11))), (1, .ref (α h1))]) : um_G p l e (0) (0) s m args below meth c Z sh α σ' (some (.int r)) H locs (F0 m 0 ls []) := by
  have hx := Cx.1
  have hb := Cx.2.1
  have hown := Cx.2.2.2.2.1
  have hts := Cx.2.2.2.2.2.1
  rw [f_X1_add] at hf
  refine lv_aload_n (pc := 0) hx hb dX1_add_0 rfl (lv_at hl 0 rfl) ?_
  refine gF_X1_17 (pc := 1) Cx hW (xs_law hX hh0) rfl dX1_add_1 ?_
  obtain ⟨x1, e2, hf⟩ := um_le hf
  refine um_top e2 ?_
  clear e2
  refine lv_istore_n (pc := 4) (lv' := [(2, .int x1), (0, .ref (α (20 * h0 + 11))), (1, .ref (α h1))]) hx hb dX1_add_4 rfl hl (by decide) rfl ?_
  clear hl
  intro ls hl
  refine lv_iload_n (pc := 5) hx hb dX1_add_5 rfl (lv_at hl 0 rfl) ?_
  refine lv_if_lt (pc := 6) (tgt := 18) hx hb dX1_add_6 (by decide) (fun c1 => ?_) (fun c1 => ?_)
  · have hf := um_it c1 hf
    clear c1
    refine lv_ldc (pc := 18) hx hb hown (hts _ qC_X1_21) dX1_add_18 ?_
    exact um_iret (pc := 20) Cx hW hS hf dX1_add_20
  · have hf := um_ie c1 hf
    clear c1
    refine lv_iload_n (pc := 9) hx hb dX1_add_9 rfl (lv_at hl 0 rfl) ?_
    refine lv_aload_n (pc := 10) hx hb dX1_add_10 rfl (lv_at hl 1 rfl) ?_
    refine gF_X1_11 (pc := 11) Cx hW (xs_law hX hh0) rfl dX1_add_11 ?_
    refine um_alen (pc := 14) (n := 14) Cx hW (xs_txs hX hh0) rfl (by decide) dX1_add_14 ?_
    refine lv_icmp_lt (pc := 15) (tgt := 21) hx hb dX1_add_15 (by decide) (fun c1 => ?_) (fun c1 => ?_)
    · have hf := um_it c1 hf
      clear c1
      refine lv_aload_n (pc := 21) hx hb dX1_add_21 rfl (lv_at hl 1 rfl) ?_
      refine gF_X1_11 (pc := 22) Cx hW (xs_law hX hh0) rfl dX1_add_22 ?_
      refine lv_iload_n (pc := 25) hx hb dX1_add_25 rfl (lv_at hl 0 rfl) ?_
      refine lv_aload_n (pc := 26) hx hb dX1_add_26 rfl (lv_at hl 2 rfl) ?_
      obtain ⟨g3, hf⟩ := um_gu hf
      refine um_aast (pc := 27) Cx hW hS (xs_txs hX hh0) rfl (um_ix_in g3) hh1 dX1_add_27 ?_
      clear hW hS
      intro H locs hW hS
      obtain ⟨σ4, e5, hf⟩ := um_le hf
      rw [← e5] at hW
      clear e5
      refine lv_aload_n (pc := 28) hx hb dX1_add_28 rfl (lv_at hl 1 rfl) ?_
      refine lv_dup (pc := 29) hx hb dX1_add_29 rfl ?_
      refine gF_X1_17 (pc := 30) Cx hW (xs_law hX hh0) rfl dX1_add_30 ?_
      refine lv_iconst (pc := 33) (v := (1 : Int32)) hx hb dX1_add_33 (by decide) ?_
      refine lv_iadd (pc := 34) hx hb dX1_add_34 ?_
      refine gP_X1_17 (pc := 35) Cx hW hS (xs_law hX hh0) rfl dX1_add_35 ?_
      clear hW hS
      intro H locs hW hS
      obtain ⟨σ6, e7, hf⟩ := um_le hf
      rw [← e7] at hW
      clear e7
      refine lv_iload_n (pc := 38) hx hb dX1_add_38 rfl (lv_at hl 0 rfl) ?_
      exact um_iret (pc := 39) Cx hW hS hf dX1_add_39
    · have hf := um_ie c1 hf
      clear c1
      refine lv_ldc (pc := 18) hx hb hown (hts _ qC_X1_21) dX1_add_18 ?_
      exact um_iret (pc := 20) Cx hW hS hf dX1_add_20
theorem c_X1_add {σ : um_S} {σ' : um_S} {r : Int32} (h0 : Nat) (h1 : Nat) (hh0 : um_h h0) (hh1 : um_txt sh h1) (hX : um_X sh) (hf : f_X1_add h0 h1 σ = some (r, σ')) : um_M l yX1_add cX1_add 3 (some FieldType.int) (0) (0) Z sh α σ [.ref (α (20 * h0 + 11)), .ref (α h1)] (some (.int r)) σ' :=
  um_start (by decide) (Nat.le_of_ble_eq_true rfl) (fun p e s m below meth c ls Cx hW hS hl => b_X1_add h0 h1 hh0 hh1 hX hf Cx hW hS hl)
noncomputable def f_X1_becomeAs_l2 (h0 : Nat) (h1 : Nat) : Nat → Int32 → um_S → Option (um_S)
  | 0, _, _ => none
  | n + 1, v2, σ =>
    if (nI 14) ≤ v2 then
    (some σ)
    else
    (if (nI 14) ≤ v2 then
    (some σ)
    else
    (if um_ix v2 14 then
    (if um_ix v2 14 then
    (um_let (um_wt σ (20 * h0 + 111) v2.toNatClampNeg (σ.2.1 (20 * h1 + 111) v2.toNatClampNeg)) fun σ3 =>
    (f_X1_becomeAs_l2 h0 h1 n (v2 + (1 : Int32)) σ3)) else none) else none))
noncomputable def f_X1_becomeAs (h0 : Nat) (h1 : Nat) (σ : um_S) : Option (um_S) :=
    (f_X1_becomeAs_l2 h0 h1 um_N (0 : Int32) σ).bind fun σ1 =>
    (um_let (um_wr σ1 (20 * h0 + 11) 1 (σ1.1 (20 * h1 + 11) 1)) fun σ3 =>
    (some σ3))
set_option maxRecDepth 100000 in
set_option maxHeartbeats 4000000 in
theorem t_X1_becomeAs_l2 {Q : State → Prop} {σo : um_S} (h0 : Nat) (h1 : Nat) (hh0 : um_h h0) (hh1 : um_h h1) (hX : um_X sh) (Cx : um_C p s m meth c args cX1_becomeAs 3 none RX1 Z) (hE : ∀ (H : Heap) (locs : List Loc) (ls : Array Slot), um_W Z sh α σo H → va_S (um_D sh α) s.heap H locs → lv_has ls 3 [(0, .ref (α (20 * h0 + 11))), (1, .ref (α (20 * h1 + 11)))] → W p l e { frames := 0, cells := 0, slots := 0, locals := 0 } s m args below meth c H locs 0 0 Q (F0 m 38 ls [])) : ∀ (n : Nat) (v2 : Int32) (σ : um_S) (H : Heap) (locs : List Loc) (ls : Array Slot), f_X1_becomeAs_l2 h0 h1 n v2 σ = some σo → um_W Z sh α σ H → va_S (um_D sh α) s.heap H locs → lv_has ls 3 [(0, .ref (α (20 * h0 + 11))), (1, .ref (α (20 * h1 + 11))), (2, .int v2)] → W p l e { frames := 0, cells := 0, slots := 0, locals := 0 } s m args below meth c H locs 0 0 Q (F0 m 2 ls []) := by
  have hx := Cx.1
  have hb := Cx.2.1
  have hown := Cx.2.2.2.2.1
  have hts := Cx.2.2.2.2.2.1
  intro n
  induction n with
  | zero =>
    intro v2 σ H locs ls hf hW hS hl
    cases hf
  | succ n ih =>
    intro v2 σ H locs ls hf hW hS hl
    rw [f_X1_becomeAs_l2] at hf
    refine lv_iload_n (pc := 2) hx hb dX1_becomeAs_2 rfl (lv_at hl 2 rfl) ?_
    refine lv_aload_n (pc := 3) hx hb dX1_becomeAs_3 rfl (lv_at hl 0 rfl) ?_
    refine gF_X1_11 (pc := 4) Cx hW (xs_law hX hh0) rfl dX1_becomeAs_4 ?_
    refine um_alen (pc := 7) (n := 14) Cx hW (xs_txs hX hh0) rfl (by decide) dX1_becomeAs_7 ?_
    refine lv_icmp_ge (pc := 8) (tgt := 38) hx hb dX1_becomeAs_8 (by decide) (fun c1 => ?_) (fun c1 => ?_)
    · have hf := um_it c1 hf
      clear c1
      cases hf
      exact hE _ _ _ hW hS (lv_sub hl [0, 1] rfl)
    · have hf := um_ie c1 hf
      clear c1
      refine lv_iload_n (pc := 11) hx hb dX1_becomeAs_11 rfl (lv_at hl 2 rfl) ?_
      refine lv_aload_n (pc := 12) hx hb dX1_becomeAs_12 rfl (lv_at hl 1 rfl) ?_
      refine gF_X1_11 (pc := 13) Cx hW (xs_law hX hh1) rfl dX1_becomeAs_13 ?_
      refine um_alen (pc := 16) (n := 14) Cx hW (xs_txs hX hh1) rfl (by decide) dX1_becomeAs_16 ?_
      refine lv_icmp_ge (pc := 17) (tgt := 38) hx hb dX1_becomeAs_17 (by decide) (fun c1 => ?_) (fun c1 => ?_)
      · have hf := um_it c1 hf
        clear c1
        cases hf
        exact hE _ _ _ hW hS (lv_sub hl [0, 1] rfl)
      · have hf := um_ie c1 hf
        clear c1
        refine lv_aload_n (pc := 20) hx hb dX1_becomeAs_20 rfl (lv_at hl 0 rfl) ?_
        refine gF_X1_11 (pc := 21) Cx hW (xs_law hX hh0) rfl dX1_becomeAs_21 ?_
        refine lv_iload_n (pc := 24) hx hb dX1_becomeAs_24 rfl (lv_at hl 2 rfl) ?_
        refine lv_aload_n (pc := 25) hx hb dX1_becomeAs_25 rfl (lv_at hl 1 rfl) ?_
        refine gF_X1_11 (pc := 26) Cx hW (xs_law hX hh1) rfl dX1_becomeAs_26 ?_
        refine lv_iload_n (pc := 29) hx hb dX1_becomeAs_29 rfl (lv_at hl 2 rfl) ?_
        obtain ⟨g1, hf⟩ := um_gu hf
        refine um_aald (pc := 30) Cx hW (xs_txs hX hh1) rfl (um_ix_in g1) dX1_becomeAs_30 ?_
        obtain ⟨g2, hf⟩ := um_gu hf
        refine um_aasto (pc := 31) Cx hW hS (xs_txs hX hh0) rfl (um_ix_in g2) (fun q hq => hW.2.2.2 _ _ q hq) dX1_becomeAs_31 ?_
        clear hW hS
        intro H locs hW hS
        obtain ⟨σ3, e4, hf⟩ := um_le hf
        rw [← e4] at hW
        clear e4
        refine lv_iinc (pc := 32) (v := v2 + (1 : Int32)) (lv' := [(2, .int (v2 + (1 : Int32))), (0, .ref (α (20 * h0 + 11))), (1, .ref (α (20 * h1 + 11)))]) hx hb dX1_becomeAs_32 hl (k := 2) rfl rfl (by decide) rfl ?_
        clear hl
        intro ls hl
        refine lv_goto (pc := 35) (tgt := 2) hx hb dX1_becomeAs_35 (by decide) ?_
        exact ih _ _ _ _ _ hf hW hS (lv_sub hl [1, 2, 0] rfl)
set_option maxRecDepth 100000 in
set_option maxHeartbeats 4000000 in
theorem b_X1_becomeAs {H : Heap} {locs : List Loc} {ls : Array Slot} {σ : um_S} {σ' : um_S} (h0 : Nat) (h1 : Nat) (hh0 : um_h h0) (hh1 : um_h h1) (hX : um_X sh) (hf : f_X1_becomeAs h0 h1 σ = some σ') (Cx : um_C p s m meth c args cX1_becomeAs 3 none RX1 Z) (hW : um_W Z sh α σ H) (hS : va_S (um_D sh α) s.heap H locs) (hl : lv_has ls 3 [(0, .ref (α (20 * h0 + 11))), (1, .ref (α (20 * h1 + 11)))]) : um_G p l e (0) (0) s m args below meth c Z sh α σ' none H locs (F0 m 0 ls []) := by
  have hx := Cx.1
  have hb := Cx.2.1
  have hown := Cx.2.2.2.2.1
  have hts := Cx.2.2.2.2.2.1
  rw [f_X1_becomeAs] at hf
  refine lv_iconst (pc := 0) (v := (0 : Int32)) hx hb dX1_becomeAs_0 (by decide) ?_
  refine lv_istore_n (pc := 1) (lv' := [(2, .int (0 : Int32)), (0, .ref (α (20 * h0 + 11))), (1, .ref (α (20 * h1 + 11)))]) hx hb dX1_becomeAs_1 rfl hl (by decide) rfl ?_
  clear hl
  intro ls hl
  obtain ⟨σ1, hc2, hf⟩ := um_bi hf
  refine t_X1_becomeAs_l2 h0 h1 hh0 hh1 hX Cx ?_ um_N _ _ _ _ _ hc2 hW hS (lv_sub hl [1, 2, 0] rfl)
  clear hW hS hl hc2
  intro H locs ls hW hS hl
  refine lv_aload_n (pc := 38) hx hb dX1_becomeAs_38 rfl (lv_at hl 0 rfl) ?_
  refine lv_aload_n (pc := 39) hx hb dX1_becomeAs_39 rfl (lv_at hl 1 rfl) ?_
  refine gF_X1_17 (pc := 40) Cx hW (xs_law hX hh1) rfl dX1_becomeAs_40 ?_
  refine gP_X1_17 (pc := 43) Cx hW hS (xs_law hX hh0) rfl dX1_becomeAs_43 ?_
  clear hW hS
  intro H locs hW hS
  obtain ⟨σ3, e4, hf⟩ := um_le hf
  rw [← e4] at hW
  clear e4
  exact um_vret (pc := 46) Cx hW hS hf dX1_becomeAs_46
theorem c_X1_becomeAs {σ : um_S} {σ' : um_S} (h0 : Nat) (h1 : Nat) (hh0 : um_h h0) (hh1 : um_h h1) (hX : um_X sh) (hf : f_X1_becomeAs h0 h1 σ = some σ') : um_M l yX1_becomeAs cX1_becomeAs 3 none (0) (0) Z sh α σ [.ref (α (20 * h0 + 11)), .ref (α (20 * h1 + 11))] none σ' :=
  um_start (by decide) (Nat.le_of_ble_eq_true rfl) (fun p e s m below meth c ls Cx hW hS hl => b_X1_becomeAs h0 h1 hh0 hh1 hX hf Cx hW hS hl)
noncomputable def f_X1_textAt (h0 : Nat) (a1 : Int32) (σ : um_S) : Option (Option Nat) :=
    if a1 < 0 then
    (some none)
    else
    (if (σ.1 (20 * h0 + 11) 1) ≤ a1 then
    (some none)
    else
    (if (nI 14) ≤ a1 then
    (some none)
    else
    (if um_ix a1 14 then
    (some (σ.2.1 (20 * h0 + 111) a1.toNatClampNeg)) else none)))
set_option maxRecDepth 100000 in
set_option maxHeartbeats 4000000 in
theorem b_X1_textAt {H : Heap} {locs : List Loc} {ls : Array Slot} {σ : um_S} {r : Option Nat} (h0 : Nat) (a1 : Int32) (hh0 : um_h h0) (hX : um_X sh) (hf : f_X1_textAt h0 a1 σ = some r) (Cx : um_C p s m meth c args cX1_textAt 2 (some (FieldType.object "TicketShore$Text")) RX1 Z) (hW : um_W Z sh α σ H) (hS : va_S (um_D sh α) s.heap H locs) (hl : lv_has ls 2 [(0, .ref (α (20 * h0 + 11))), (1, .int a1)]) : um_G p l e (0) (0) s m args below meth c Z sh α σ (some (va_rf (Option.map α r))) H locs (F0 m 0 ls []) := by
  have hx := Cx.1
  have hb := Cx.2.1
  have hown := Cx.2.2.2.2.1
  have hts := Cx.2.2.2.2.2.1
  rw [f_X1_textAt] at hf
  refine lv_iload_n (pc := 0) hx hb dX1_textAt_0 rfl (lv_at hl 1 rfl) ?_
  refine lv_if_lt (pc := 1) (tgt := 30) hx hb dX1_textAt_1 (by decide) (fun c1 => ?_) (fun c1 => ?_)
  · have hf := um_it c1 hf
    clear c1
    refine lv_null (pc := 30) hx hb dX1_textAt_30 ?_
    exact um_aretR (r0 := none) (pc := 31) Cx (Or.inl ⟨_, rfl⟩) hW hS hf dX1_textAt_31
  · have hf := um_ie c1 hf
    clear c1
    refine lv_iload_n (pc := 4) hx hb dX1_textAt_4 rfl (lv_at hl 1 rfl) ?_
    refine lv_aload_n (pc := 5) hx hb dX1_textAt_5 rfl (lv_at hl 0 rfl) ?_
    refine gF_X1_17 (pc := 6) Cx hW (xs_law hX hh0) rfl dX1_textAt_6 ?_
    refine lv_icmp_ge (pc := 9) (tgt := 30) hx hb dX1_textAt_9 (by decide) (fun c1 => ?_) (fun c1 => ?_)
    · have hf := um_it c1 hf
      clear c1
      refine lv_null (pc := 30) hx hb dX1_textAt_30 ?_
      exact um_aretR (r0 := none) (pc := 31) Cx (Or.inl ⟨_, rfl⟩) hW hS hf dX1_textAt_31
    · have hf := um_ie c1 hf
      clear c1
      refine lv_iload_n (pc := 12) hx hb dX1_textAt_12 rfl (lv_at hl 1 rfl) ?_
      refine lv_aload_n (pc := 13) hx hb dX1_textAt_13 rfl (lv_at hl 0 rfl) ?_
      refine gF_X1_11 (pc := 14) Cx hW (xs_law hX hh0) rfl dX1_textAt_14 ?_
      refine um_alen (pc := 17) (n := 14) Cx hW (xs_txs hX hh0) rfl (by decide) dX1_textAt_17 ?_
      refine lv_icmp_ge (pc := 18) (tgt := 30) hx hb dX1_textAt_18 (by decide) (fun c1 => ?_) (fun c1 => ?_)
      · have hf := um_it c1 hf
        clear c1
        refine lv_null (pc := 30) hx hb dX1_textAt_30 ?_
        exact um_aretR (r0 := none) (pc := 31) Cx (Or.inl ⟨_, rfl⟩) hW hS hf dX1_textAt_31
      · have hf := um_ie c1 hf
        clear c1
        refine lv_aload_n (pc := 21) hx hb dX1_textAt_21 rfl (lv_at hl 0 rfl) ?_
        refine gF_X1_11 (pc := 22) Cx hW (xs_law hX hh0) rfl dX1_textAt_22 ?_
        refine lv_iload_n (pc := 25) hx hb dX1_textAt_25 rfl (lv_at hl 1 rfl) ?_
        obtain ⟨g1, hf⟩ := um_gu hf
        refine um_aald (pc := 26) Cx hW (xs_txs hX hh0) rfl (um_ix_in g1) dX1_textAt_26 ?_
        refine lv_goto (pc := 27) (tgt := 31) hx hb dX1_textAt_27 (by decide) ?_
        exact um_aretR (r0 := (σ.2.1 (20 * h0 + 111) a1.toNatClampNeg)) (pc := 31) Cx (Or.inl ⟨_, rfl⟩) hW hS hf dX1_textAt_31
theorem c_X1_textAt {σ : um_S} {r : Option Nat} (h0 : Nat) (a1 : Int32) (hh0 : um_h h0) (hX : um_X sh) (hf : f_X1_textAt h0 a1 σ = some r) : um_M l yX1_textAt cX1_textAt 2 (some (FieldType.object "TicketShore$Text")) (0) (0) Z sh α σ [.ref (α (20 * h0 + 11)), .int a1] (some (va_rf (Option.map α r))) σ :=
  um_start (by decide) (Nat.le_of_ble_eq_true rfl) (fun p e s m below meth c ls Cx hW hS hl => b_X1_textAt h0 a1 hh0 hX hf Cx hW hS hl)
theorem f_X1_textAt_txt {H : Heap} {σ : um_S} (hW : um_W Z sh α σ H) {h0 q : Nat} {a1 : Int32} (h : f_X1_textAt h0 a1 σ = some (some q)) : um_txt sh q := by
  unfold f_X1_textAt at h
  repeat' split at h
  all_goals first | (cases h; done) | exact hW.2.2.2 _ _ _ (Option.some.inj h)
noncomputable def f_X1_counting_l8 (h0 : Nat) (v1 : Int32) (v2 : Int32) (σ : um_S) : Nat → Int32 → Int32 → Int32 → Option (Int32)
  | 0, _, _, _ => none
  | n + 1, v3, v4, v5 =>
    if (σ.1 (20 * h0 + 11) 1) ≤ v5 then
    (some v3)
    else
    ((f_X1_textAt h0 v5 σ).bind fun x2 =>
    (um_opt x2
    (f_X1_counting_l8 h0 v1 v2 σ n v3 v4 (v5 + (1 : Int32)))
    fun q3 =>
    (if (σ.1 q3 0) = v1 then
    (if v2 < (σ.1 q3 1) then
    (f_X1_counting_l8 h0 v1 v2 σ n v3 v4 (v5 + (1 : Int32)))
    else
    (if (σ.1 q3 1) < v4 then
    (f_X1_counting_l8 h0 v1 v2 σ n v3 v4 (v5 + (1 : Int32)))
    else
    (um_let (σ.1 q3 1) fun x5 =>
    (f_X1_counting_l8 h0 v1 v2 σ n v5 x5 (v5 + (1 : Int32))))))
    else
    (f_X1_counting_l8 h0 v1 v2 σ n v3 v4 (v5 + (1 : Int32))))))
noncomputable def f_X1_counting (h0 : Nat) (a1 : Int32) (a2 : Int32) (σ : um_S) : Option (Int32) :=
    (f_X1_counting_l8 h0 a1 a2 σ um_N (-1 : Int32) (0 : Int32) (0 : Int32)).bind fun x1 =>
    (some x1)
set_option maxRecDepth 100000 in
set_option maxHeartbeats 4000000 in
theorem t_X1_counting_l8 {Q : State → Prop} {o3 : Int32} {σ : um_S} (h0 : Nat) (v1 : Int32) (v2 : Int32) (hh0 : um_h h0) (hX : um_X sh) (Cx : um_C p s m meth c args cX1_counting 7 (some FieldType.int) RX1 Z) (hE : ∀ (H : Heap) (locs : List Loc) (ls : Array Slot), um_W Z sh α σ H → va_S (um_D sh α) s.heap H locs → lv_has ls 7 [(3, .int o3)] → W p l e { frames := 1, cells := 0, slots := 0, locals := 21 } s m args below meth c H locs 0 0 Q (F0 m 74 ls [])) : ∀ (n : Nat) (v3 : Int32) (v4 : Int32) (v5 : Int32) (H : Heap) (locs : List Loc) (ls : Array Slot), f_X1_counting_l8 h0 v1 v2 σ n v3 v4 v5 = some o3 → um_W Z sh α σ H → va_S (um_D sh α) s.heap H locs → lv_has ls 7 [(0, .ref (α (20 * h0 + 11))), (1, .int v1), (2, .int v2), (3, .int v3), (4, .int v4), (5, .int v5)] → W p l e { frames := 1, cells := 0, slots := 0, locals := 21 } s m args below meth c H locs 0 0 Q (F0 m 8 ls []) := by
  have hx := Cx.1
  have hb := Cx.2.1
  have hown := Cx.2.2.2.2.1
  have hts := Cx.2.2.2.2.2.1
  intro n
  induction n with
  | zero =>
    intro v3 v4 v5 H locs ls hf hW hS hl
    cases hf
  | succ n ih =>
    intro v3 v4 v5 H locs ls hf hW hS hl
    rw [f_X1_counting_l8] at hf
    refine lv_iload (pc := 8) hx hb dX1_counting_8 (lv_at hl 5 rfl) ?_
    refine lv_aload_n (pc := 10) hx hb dX1_counting_10 rfl (lv_at hl 0 rfl) ?_
    refine gF_X1_17 (pc := 11) Cx hW (xs_law hX hh0) rfl dX1_counting_11 ?_
    refine lv_icmp_ge (pc := 14) (tgt := 74) hx hb dX1_counting_14 (by decide) (fun c1 => ?_) (fun c1 => ?_)
    · have hf := um_it c1 hf
      clear c1
      cases hf
      exact hE _ _ _ hW hS (lv_sub hl [3] rfl)
    · have hf := um_ie c1 hf
      clear c1
      refine lv_aload_n (pc := 17) hx hb dX1_counting_17 rfl (lv_at hl 0 rfl) ?_
      refine lv_iload (pc := 18) hx hb dX1_counting_18 (lv_at hl 5 rfl) ?_
      obtain ⟨x2, hc1, hf⟩ := um_bi hf
      refine um_cVr (pc := 20) (As := [.int v5]) (rest := []) Cx (c_X1_textAt h0 v5 hh0 hX hc1) kV_X1_textAt (Or.inl qM_X1_22) hW hS (xs_law hX hh0) rfl rfl hl rfl (Nat.le_of_ble_eq_true rfl) (Nat.le_of_ble_eq_true rfl) (Nat.le_of_ble_eq_true rfl) dX1_counting_20 (Nat.le_refl _) (Nat.le_refl _) ?_
      clear hW hS
      intro H locs hW hS
      have hq2 : ∀ q, x2 = some q → um_txt sh q := fun q h => f_X1_textAt_txt hW (by rw [h] at hc1; exact hc1)
      clear hc1
      refine um_astore (pc := 23) (lv' := [(6, va_rf (Option.map α x2)), (0, .ref (α (20 * h0 + 11))), (1, .int v1), (2, .int v2), (3, .int v3), (4, .int v4), (5, .int v5)]) hx hb dX1_counting_23 hl (by decide) rfl ?_
      clear hl
      intro ls hl
      rcases x2 with _ | q3
      · have hf := um_oN hf
        have hl : lv_has ls 7 [(6, .null), (0, .ref (α (20 * h0 + 11))), (1, .int v1), (2, .int v2), (3, .int v3), (4, .int v4), (5, .int v5)] := hl
        refine lv_aloadN (pc := 25)  hx hb dX1_counting_25 (lv_at hl 0 rfl) ?_
        refine lv_ifnullN (pc := 27) (tgt := 68) hx hb dX1_counting_27 (by decide) ?_
        refine lv_iinc (pc := 68) (v := v5 + (1 : Int32)) (lv' := [(5, .int (v5 + (1 : Int32))), (6, .null), (0, .ref (α (20 * h0 + 11))), (1, .int v1), (2, .int v2), (3, .int v3), (4, .int v4)]) hx hb dX1_counting_68 hl (k := 6) rfl rfl (by decide) rfl ?_
        clear hl
        intro ls hl
        refine lv_goto (pc := 71) (tgt := 8) hx hb dX1_counting_71 (by decide) ?_
        exact ih _ _ _ _ _ _ hf hW hS (lv_sub hl [2, 3, 4, 5, 6, 0] rfl)
      · have hf := um_oS hf
        have hq4 := hq2 q3 rfl
        have hl : lv_has ls 7 [(6, .ref (α q3)), (0, .ref (α (20 * h0 + 11))), (1, .int v1), (2, .int v2), (3, .int v3), (4, .int v4), (5, .int v5)] := hl
        refine lv_aload (pc := 25) hx hb dX1_counting_25 (lv_at hl 0 rfl) ?_
        refine lv_ifnull (pc := 27) hx hb dX1_counting_27 ?_
        refine lv_aload (pc := 30) hx hb dX1_counting_30 (lv_at hl 0 rfl) ?_
        refine gF_X1_26 (pc := 32) Cx hW hq4.1 rfl dX1_counting_32 ?_
        refine lv_iload_n (pc := 35) hx hb dX1_counting_35 rfl (lv_at hl 2 rfl) ?_
        refine lv_icmp_ne (pc := 36) (tgt := 68) hx hb dX1_counting_36 (by decide) (fun c1 => ?_) (fun c1 => ?_)
        · have hf := um_ie c1 hf
          clear c1
          refine lv_iinc (pc := 68) (v := v5 + (1 : Int32)) (lv' := [(5, .int (v5 + (1 : Int32))), (6, .ref (α q3)), (0, .ref (α (20 * h0 + 11))), (1, .int v1), (2, .int v2), (3, .int v3), (4, .int v4)]) hx hb dX1_counting_68 hl (k := 6) rfl rfl (by decide) rfl ?_
          clear hl
          intro ls hl
          refine lv_goto (pc := 71) (tgt := 8) hx hb dX1_counting_71 (by decide) ?_
          exact ih _ _ _ _ _ _ hf hW hS (lv_sub hl [2, 3, 4, 5, 6, 0] rfl)
        · have hf := um_it c1 hf
          clear c1
          refine lv_aload (pc := 39) hx hb dX1_counting_39 (lv_at hl 0 rfl) ?_
          refine gF_X1_29 (pc := 41) Cx hW hq4.1 rfl dX1_counting_41 ?_
          refine lv_iload_n (pc := 44) hx hb dX1_counting_44 rfl (lv_at hl 3 rfl) ?_
          refine lv_icmp_gt (pc := 45) (tgt := 68) hx hb dX1_counting_45 (by decide) (fun c1 => ?_) (fun c1 => ?_)
          · have hf := um_it c1 hf
            clear c1
            refine lv_iinc (pc := 68) (v := v5 + (1 : Int32)) (lv' := [(5, .int (v5 + (1 : Int32))), (6, .ref (α q3)), (0, .ref (α (20 * h0 + 11))), (1, .int v1), (2, .int v2), (3, .int v3), (4, .int v4)]) hx hb dX1_counting_68 hl (k := 6) rfl rfl (by decide) rfl ?_
            clear hl
            intro ls hl
            refine lv_goto (pc := 71) (tgt := 8) hx hb dX1_counting_71 (by decide) ?_
            exact ih _ _ _ _ _ _ hf hW hS (lv_sub hl [2, 3, 4, 5, 6, 0] rfl)
          · have hf := um_ie c1 hf
            clear c1
            refine lv_aload (pc := 48) hx hb dX1_counting_48 (lv_at hl 0 rfl) ?_
            refine gF_X1_29 (pc := 50) Cx hW hq4.1 rfl dX1_counting_50 ?_
            refine lv_iload (pc := 53) hx hb dX1_counting_53 (lv_at hl 5 rfl) ?_
            refine lv_icmp_lt (pc := 55) (tgt := 68) hx hb dX1_counting_55 (by decide) (fun c1 => ?_) (fun c1 => ?_)
            · have hf := um_it c1 hf
              clear c1
              refine lv_iinc (pc := 68) (v := v5 + (1 : Int32)) (lv' := [(5, .int (v5 + (1 : Int32))), (6, .ref (α q3)), (0, .ref (α (20 * h0 + 11))), (1, .int v1), (2, .int v2), (3, .int v3), (4, .int v4)]) hx hb dX1_counting_68 hl (k := 6) rfl rfl (by decide) rfl ?_
              clear hl
              intro ls hl
              refine lv_goto (pc := 71) (tgt := 8) hx hb dX1_counting_71 (by decide) ?_
              exact ih _ _ _ _ _ _ hf hW hS (lv_sub hl [2, 3, 4, 5, 6, 0] rfl)
            · have hf := um_ie c1 hf
              clear c1
              refine lv_iload (pc := 58) hx hb dX1_counting_58 (lv_at hl 6 rfl) ?_
              refine lv_istore_n (pc := 60) (lv' := [(3, .int v5), (6, .ref (α q3)), (0, .ref (α (20 * h0 + 11))), (1, .int v1), (2, .int v2), (4, .int v4), (5, .int v5)]) hx hb dX1_counting_60 rfl hl (by decide) rfl ?_
              clear hl
              intro ls hl
              refine lv_aload (pc := 61) hx hb dX1_counting_61 (lv_at hl 1 rfl) ?_
              refine gF_X1_29 (pc := 63) Cx hW hq4.1 rfl dX1_counting_63 ?_
              obtain ⟨x5, e6, hf⟩ := um_le hf
              refine um_top e6 ?_
              clear e6
              refine lv_istore (pc := 66) (lv' := [(4, .int x5), (3, .int v5), (6, .ref (α q3)), (0, .ref (α (20 * h0 + 11))), (1, .int v1), (2, .int v2), (5, .int v5)]) hx hb dX1_counting_66 hl (by decide) rfl ?_
              clear hl
              intro ls hl
              refine lv_iinc (pc := 68) (v := v5 + (1 : Int32)) (lv' := [(5, .int (v5 + (1 : Int32))), (4, .int x5), (3, .int v5), (6, .ref (α q3)), (0, .ref (α (20 * h0 + 11))), (1, .int v1), (2, .int v2)]) hx hb dX1_counting_68 hl (k := 6) rfl rfl (by decide) rfl ?_
              clear hl
              intro ls hl
              refine lv_goto (pc := 71) (tgt := 8) hx hb dX1_counting_71 (by decide) ?_
              exact ih _ _ _ _ _ _ hf hW hS (lv_sub hl [4, 5, 6, 2, 1, 0] rfl)
set_option maxRecDepth 100000 in
set_option maxHeartbeats 4000000 in
theorem b_X1_counting {H : Heap} {locs : List Loc} {ls : Array Slot} {σ : um_S} {r : Int32} (h0 : Nat) (a1 : Int32) (a2 : Int32) (hh0 : um_h h0) (hX : um_X sh) (hf : f_X1_counting h0 a1 a2 σ = some r) (Cx : um_C p s m meth c args cX1_counting 7 (some FieldType.int) RX1 Z) (hW : um_W Z sh α σ H) (hS : va_S (um_D sh α) s.heap H locs) (hl : lv_has ls 7 [(0, .ref (α (20 * h0 + 11))), (1, .int a1), (2, .int a2)]) : um_G p l e (1) (21) s m args below meth c Z sh α σ (some (.int r)) H locs (F0 m 0 ls []) := by
  have hx := Cx.1
  have hb := Cx.2.1
  have hown := Cx.2.2.2.2.1
  have hts := Cx.2.2.2.2.2.1
  rw [f_X1_counting] at hf
  refine lv_iconst (pc := 0) (v := (-1 : Int32)) hx hb dX1_counting_0 (by decide) ?_
  refine lv_istore_n (pc := 1) (lv' := [(3, .int (-1 : Int32)), (0, .ref (α (20 * h0 + 11))), (1, .int a1), (2, .int a2)]) hx hb dX1_counting_1 rfl hl (by decide) rfl ?_
  clear hl
  intro ls hl
  refine lv_iconst (pc := 2) (v := (0 : Int32)) hx hb dX1_counting_2 (by decide) ?_
  refine lv_istore (pc := 3) (lv' := [(4, .int (0 : Int32)), (3, .int (-1 : Int32)), (0, .ref (α (20 * h0 + 11))), (1, .int a1), (2, .int a2)]) hx hb dX1_counting_3 hl (by decide) rfl ?_
  clear hl
  intro ls hl
  refine lv_iconst (pc := 5) (v := (0 : Int32)) hx hb dX1_counting_5 (by decide) ?_
  refine lv_istore (pc := 6) (lv' := [(5, .int (0 : Int32)), (4, .int (0 : Int32)), (3, .int (-1 : Int32)), (0, .ref (α (20 * h0 + 11))), (1, .int a1), (2, .int a2)]) hx hb dX1_counting_6 hl (by decide) rfl ?_
  clear hl
  intro ls hl
  obtain ⟨x1, hc2, hf⟩ := um_bi hf
  refine t_X1_counting_l8 h0 a1 a2 hh0 hX Cx ?_ um_N _ _ _ _ _ _ hc2 hW hS (lv_sub hl [3, 4, 5, 2, 1, 0] rfl)
  clear hW hS hl hc2
  intro H locs ls hW hS hl
  refine lv_iload_n (pc := 74) hx hb dX1_counting_74 rfl (lv_at hl 0 rfl) ?_
  exact um_iretR (pc := 75) Cx hW hS hf dX1_counting_75
theorem c_X1_counting {σ : um_S} {r : Int32} (h0 : Nat) (a1 : Int32) (a2 : Int32) (hh0 : um_h h0) (hX : um_X sh) (hf : f_X1_counting h0 a1 a2 σ = some r) : um_M l yX1_counting cX1_counting 7 (some FieldType.int) (1) (21) Z sh α σ [.ref (α (20 * h0 + 11)), .int a1, .int a2] (some (.int r)) σ :=
  um_start (by decide) (Nat.le_of_ble_eq_true rfl) (fun p e s m below meth c ls Cx hW hS hl => b_X1_counting h0 a1 a2 hh0 hX hf Cx hW hS hl)
noncomputable def f_X1_held (a0 : Int32) (a1 : Int32) (σ : um_S) : Option (Int32) :=
    some (if (0 : Int32) < (if a1 < a0 then a1 else a0) then (if a1 < a0 then a1 else a0) else (0 : Int32))
set_option maxRecDepth 100000 in
set_option maxHeartbeats 4000000 in
theorem b_X1_held {H : Heap} {locs : List Loc} {ls : Array Slot} {σ : um_S} {r : Int32} (a0 : Int32) (a1 : Int32) (hX : um_X sh) (hf : f_X1_held a0 a1 σ = some r) (Cx : um_C p s m meth c args cX1_held 2 (some FieldType.int) RX1 Z) (hW : um_W Z sh α σ H) (hS : va_S (um_D sh α) s.heap H locs) (hl : lv_has ls 2 [(0, .int a0), (1, .int a1)]) : um_G p l e (1) (30) s m args below meth c Z sh α σ (some (.int r)) H locs (F0 m 0 ls []) := by
  have hx := Cx.1
  have hb := Cx.2.1
  have hown := Cx.2.2.2.2.1
  have hts := Cx.2.2.2.2.2.1
  rw [f_X1_held] at hf
  refine lv_iconst (pc := 0) (v := (0 : Int32)) hx hb dX1_held_0 (by decide) ?_
  refine lv_iload_n (pc := 1) hx hb dX1_held_1 rfl (lv_at hl 0 rfl) ?_
  refine lv_iload_n (pc := 2) hx hb dX1_held_2 rfl (lv_at hl 1 rfl) ?_
  refine va_mmin (pc := 3) (rest := [.int (0 : Int32)]) hx hb (Cx.2.2.2.1.trans hl.1.symm) hown (hts _ qM_X1_46) (hts _ qT_J9_min_7cf53) (hts _ qN_J9) (hts _ qK_J9_min_7cf53) (Nat.le_of_ble_eq_true rfl) (Nat.le_of_ble_eq_true rfl) (Nat.le_refl _) (Nat.le_refl _) dX1_held_3 ?_
  refine va_mmax (pc := 6) (rest := []) hx hb (Cx.2.2.2.1.trans hl.1.symm) hown (hts _ qM_X1_51) (hts _ qT_J9_max_7cf53) (hts _ qN_J9) (hts _ qK_J9_max_7cf53) (Nat.le_of_ble_eq_true rfl) (Nat.le_of_ble_eq_true rfl) (Nat.le_refl _) (Nat.le_refl _) dX1_held_6 ?_
  exact um_iretR (pc := 9) Cx hW hS hf dX1_held_9
theorem c_X1_held {σ : um_S} {r : Int32} (a0 : Int32) (a1 : Int32) (hX : um_X sh) (hf : f_X1_held a0 a1 σ = some r) : um_M l yX1_held cX1_held 2 (some FieldType.int) (1) (30) Z sh α σ [.int a0, .int a1] (some (.int r)) σ :=
  um_start (by decide) (Nat.le_of_ble_eq_true rfl) (fun p e s m below meth c ls Cx hW hS hl => b_X1_held a0 a1 hX hf Cx hW hS hl)
noncomputable def f_X1_unwritten (a0 : Int32) (a1 : Int32) (σ : um_S) : Option (Int32) :=
    if a0 = 0 then
    (if a1 ≤ (208 : Int32) then
    (some (0 : Int32))
    else
    (some (1 : Int32)))
    else
    (if a0 = (2 : Int32) then
    (some (4 : Int32))
    else
    (some (0 : Int32)))
set_option maxRecDepth 100000 in
set_option maxHeartbeats 4000000 in
theorem b_X1_unwritten {H : Heap} {locs : List Loc} {ls : Array Slot} {σ : um_S} {r : Int32} (a0 : Int32) (a1 : Int32) (hX : um_X sh) (hf : f_X1_unwritten a0 a1 σ = some r) (Cx : um_C p s m meth c args cX1_unwritten 2 (some FieldType.int) RX1 Z) (hW : um_W Z sh α σ H) (hS : va_S (um_D sh α) s.heap H locs) (hl : lv_has ls 2 [(0, .int a0), (1, .int a1)]) : um_G p l e (0) (0) s m args below meth c Z sh α σ (some (.int r)) H locs (F0 m 0 ls []) := by
  have hx := Cx.1
  have hb := Cx.2.1
  have hown := Cx.2.2.2.2.1
  have hts := Cx.2.2.2.2.2.1
  rw [f_X1_unwritten] at hf
  refine lv_iload_n (pc := 0) hx hb dX1_unwritten_0 rfl (lv_at hl 0 rfl) ?_
  refine lv_if_ne (pc := 1) (tgt := 17) hx hb dX1_unwritten_1 (by decide) (fun c1 => ?_) (fun c1 => ?_)
  · have hf := um_ie c1 hf
    clear c1
    refine lv_iload_n (pc := 17) hx hb dX1_unwritten_17 rfl (lv_at hl 0 rfl) ?_
    refine lv_iconst (pc := 18) (v := (2 : Int32)) hx hb dX1_unwritten_18 (by decide) ?_
    refine lv_icmp_ne (pc := 19) (tgt := 26) hx hb dX1_unwritten_19 (by decide) (fun c1 => ?_) (fun c1 => ?_)
    · have hf := um_ie c1 hf
      clear c1
      refine lv_iconst (pc := 26) (v := (0 : Int32)) hx hb dX1_unwritten_26 (by decide) ?_
      exact um_iretR (pc := 27) Cx hW hS hf dX1_unwritten_27
    · have hf := um_it c1 hf
      clear c1
      refine lv_iconst (pc := 22) (v := (4 : Int32)) hx hb dX1_unwritten_22 (by decide) ?_
      refine lv_goto (pc := 23) (tgt := 27) hx hb dX1_unwritten_23 (by decide) ?_
      exact um_iretR (pc := 27) Cx hW hS hf dX1_unwritten_27
  · have hf := um_it c1 hf
    clear c1
    refine lv_iload_n (pc := 4) hx hb dX1_unwritten_4 rfl (lv_at hl 1 rfl) ?_
    refine lv_sipush (pc := 5) (v := (208 : Int32)) hx hb dX1_unwritten_5 (by decide) ?_
    refine lv_icmp_le (pc := 8) (tgt := 15) hx hb dX1_unwritten_8 (by decide) (fun c1 => ?_) (fun c1 => ?_)
    · have hf := um_it c1 hf
      clear c1
      refine lv_iconst (pc := 15) (v := (0 : Int32)) hx hb dX1_unwritten_15 (by decide) ?_
      exact um_iretR (pc := 16) Cx hW hS hf dX1_unwritten_16
    · have hf := um_ie c1 hf
      clear c1
      refine lv_iconst (pc := 11) (v := (1 : Int32)) hx hb dX1_unwritten_11 (by decide) ?_
      refine lv_goto (pc := 12) (tgt := 16) hx hb dX1_unwritten_12 (by decide) ?_
      exact um_iretR (pc := 16) Cx hW hS hf dX1_unwritten_16
theorem c_X1_unwritten {σ : um_S} {r : Int32} (a0 : Int32) (a1 : Int32) (hX : um_X sh) (hf : f_X1_unwritten a0 a1 σ = some r) : um_M l yX1_unwritten cX1_unwritten 2 (some FieldType.int) (0) (0) Z sh α σ [.int a0, .int a1] (some (.int r)) σ :=
  um_start (by decide) (Nat.le_of_ble_eq_true rfl) (fun p e s m below meth c ls Cx hW hS hl => b_X1_unwritten a0 a1 hX hf Cx hW hS hl)
noncomputable def f_X7_joined (a0 : Int32) (a1 : Int32) (a2 : Int32) (σ : um_S) : Option (Int32) :=
    um_let (fun (_u : Unit) =>
    (if a1 = 0 then
    (if a2 = 0 then
    (some (0 : Int32))
    else
    (some (1 : Int32)))
    else
    (some (1 : Int32)))) fun k1 =>
    (if a0 = (38 : Int32) then
    (if a1 = 0 then
    (some (0 : Int32))
    else
    (if a2 = 0 then
    (some (0 : Int32))
    else
    (some (1 : Int32))))
    else
    (if a0 = (39 : Int32) then
    (k1 ())
    else
    (if a0 = (40 : Int32) then
    (k1 ())
    else
    (if a0 = (41 : Int32) then
    (k1 ())
    else
    (if a0 = (42 : Int32) then
    (some (a1 * a2))
    else
    (if a0 = (43 : Int32) then
    (some (a1 + a2))
    else
    (if a0 = (44 : Int32) then
    (k1 ())
    else
    (if a0 = (45 : Int32) then
    (some (a1 - a2))
    else
    (if a0 = (46 : Int32) then
    (k1 ())
    else
    (if a0 = (47 : Int32) then
    (if a2 = 0 then
    (some (0 : Int32))
    else
    (if a2 = 0 then none else
    (some (a1 / a2))))
    else
    (if a0 = (48 : Int32) then
    (k1 ())
    else
    (if a0 = (49 : Int32) then
    (k1 ())
    else
    (if a0 = (50 : Int32) then
    (k1 ())
    else
    (if a0 = (51 : Int32) then
    (k1 ())
    else
    (if a0 = (52 : Int32) then
    (k1 ())
    else
    (if a0 = (53 : Int32) then
    (k1 ())
    else
    (if a0 = (54 : Int32) then
    (k1 ())
    else
    (if a0 = (55 : Int32) then
    (k1 ())
    else
    (if a0 = (56 : Int32) then
    (k1 ())
    else
    (if a0 = (57 : Int32) then
    (k1 ())
    else
    (if a0 = (58 : Int32) then
    (k1 ())
    else
    (if a0 = (59 : Int32) then
    (k1 ())
    else
    (if a0 = (60 : Int32) then
    (if a2 ≤ a1 then
    (some (0 : Int32))
    else
    (some (1 : Int32)))
    else
    (if a0 = (61 : Int32) then
    (if a1 = a2 then
    (some (1 : Int32))
    else
    (some (0 : Int32)))
    else
    (if a0 = (62 : Int32) then
    (if a1 ≤ a2 then
    (some (0 : Int32))
    else
    (some (1 : Int32)))
    else
    (k1 ()))))))))))))))))))))))))))
set_option maxRecDepth 100000 in
set_option maxHeartbeats 4000000 in
theorem b_X7_joined {H : Heap} {locs : List Loc} {ls : Array Slot} {σ : um_S} {r : Int32} (a0 : Int32) (a1 : Int32) (a2 : Int32) (hX : um_X sh) (hf : f_X7_joined a0 a1 a2 σ = some r) (Cx : um_C p s m meth c args cX7_joined 3 (some FieldType.int) RX7 Z) (hW : um_W Z sh α σ H) (hS : va_S (um_D sh α) s.heap H locs) (hl : lv_has ls 3 [(0, .int a0), (1, .int a1), (2, .int a2)]) : um_G p l e (0) (0) s m args below meth c Z sh α σ (some (.int r)) H locs (F0 m 0 ls []) := by
  have hx := Cx.1
  have hb := Cx.2.1
  have hown := Cx.2.2.2.2.1
  have hts := Cx.2.2.2.2.2.1
  rw [f_X7_joined] at hf
  refine lv_iload_n (pc := 0) hx hb dX7_joined_0 rfl (lv_at hl 0 rfl) ?_
  obtain ⟨k1, hk1, hf⟩ := um_j1 hf
  have J1 : ∀ (_u : Unit), k1 _u = some r → ∀ (H : Heap) (locs : List Loc) (ls : Array Slot), um_W Z sh α σ H → va_S (um_D sh α) s.heap H locs → lv_has ls 3 [(1, .int a1), (2, .int a2)] → um_G p l e (0) (0) s m args below meth c Z sh α σ (some (.int r)) H locs (F0 m 187 ls []) := by
    intro _u hf H locs ls hW hS hl
    rw [hk1] at hf
    refine lv_iload_n (pc := 187) hx hb dX7_joined_187 rfl (lv_at hl 0 rfl) ?_
    refine lv_if_ne (pc := 188) (tgt := 195) hx hb dX7_joined_188 (by decide) (fun c1 => ?_) (fun c1 => ?_)
    · have hf := um_ie c1 hf
      clear c1
      refine lv_iconst (pc := 195) (v := (1 : Int32)) hx hb dX7_joined_195 (by decide) ?_
      refine lv_goto (pc := 196) (tgt := 200) hx hb dX7_joined_196 (by decide) ?_
      exact um_iretR (pc := 200) Cx hW hS hf dX7_joined_200
    · have hf := um_it c1 hf
      clear c1
      refine lv_iload_n (pc := 191) hx hb dX7_joined_191 rfl (lv_at hl 1 rfl) ?_
      refine lv_if_eq (pc := 192) (tgt := 199) hx hb dX7_joined_192 (by decide) (fun c1 => ?_) (fun c1 => ?_)
      · have hf := um_it c1 hf
        clear c1
        refine lv_iconst (pc := 199) (v := (0 : Int32)) hx hb dX7_joined_199 (by decide) ?_
        exact um_iretR (pc := 200) Cx hW hS hf dX7_joined_200
      · have hf := um_ie c1 hf
        clear c1
        refine lv_iconst (pc := 195) (v := (1 : Int32)) hx hb dX7_joined_195 (by decide) ?_
        refine lv_goto (pc := 196) (tgt := 200) hx hb dX7_joined_196 (by decide) ?_
        exact um_iretR (pc := 200) Cx hW hS hf dX7_joined_200
  by_cases c1 : a0 = (38 : Int32)
  · have hf := um_it c1 hf
    refine lv_tableIn (pc := 1) (tgt := 173) hx hb dX7_joined_1 (by rw [c1]; decide) (by rw [c1]; decide) (by rw [c1]; rfl) (by decide) ?_
    refine lv_iload_n (pc := 173) hx hb dX7_joined_173 rfl (lv_at hl 1 rfl) ?_
    refine lv_if_eq (pc := 174) (tgt := 185) hx hb dX7_joined_174 (by decide) (fun c1 => ?_) (fun c1 => ?_)
    · have hf := um_it c1 hf
      clear c1
      refine lv_iconst (pc := 185) (v := (0 : Int32)) hx hb dX7_joined_185 (by decide) ?_
      exact um_iretR (pc := 186) Cx hW hS hf dX7_joined_186
    · have hf := um_ie c1 hf
      clear c1
      refine lv_iload_n (pc := 177) hx hb dX7_joined_177 rfl (lv_at hl 2 rfl) ?_
      refine lv_if_eq (pc := 178) (tgt := 185) hx hb dX7_joined_178 (by decide) (fun c1 => ?_) (fun c1 => ?_)
      · have hf := um_it c1 hf
        clear c1
        refine lv_iconst (pc := 185) (v := (0 : Int32)) hx hb dX7_joined_185 (by decide) ?_
        exact um_iretR (pc := 186) Cx hW hS hf dX7_joined_186
      · have hf := um_ie c1 hf
        clear c1
        refine lv_iconst (pc := 181) (v := (1 : Int32)) hx hb dX7_joined_181 (by decide) ?_
        refine lv_goto (pc := 182) (tgt := 186) hx hb dX7_joined_182 (by decide) ?_
        exact um_iretR (pc := 186) Cx hW hS hf dX7_joined_186
  have hf := um_ie c1 hf
  by_cases c2 : a0 = (39 : Int32)
  · have hf := um_it c2 hf
    refine lv_tableIn (pc := 1) (tgt := 187) hx hb dX7_joined_1 (by rw [c2]; decide) (by rw [c2]; decide) (by rw [c2]; rfl) (by decide) ?_
    exact J1 () hf _ _ _ hW hS (lv_sub hl [1, 2] rfl)
  have hf := um_ie c2 hf
  by_cases c3 : a0 = (40 : Int32)
  · have hf := um_it c3 hf
    refine lv_tableIn (pc := 1) (tgt := 187) hx hb dX7_joined_1 (by rw [c3]; decide) (by rw [c3]; decide) (by rw [c3]; rfl) (by decide) ?_
    exact J1 () hf _ _ _ hW hS (lv_sub hl [1, 2] rfl)
  have hf := um_ie c3 hf
  by_cases c4 : a0 = (41 : Int32)
  · have hf := um_it c4 hf
    refine lv_tableIn (pc := 1) (tgt := 187) hx hb dX7_joined_1 (by rw [c4]; decide) (by rw [c4]; decide) (by rw [c4]; rfl) (by decide) ?_
    exact J1 () hf _ _ _ hW hS (lv_sub hl [1, 2] rfl)
  have hf := um_ie c4 hf
  by_cases c5 : a0 = (42 : Int32)
  · have hf := um_it c5 hf
    refine lv_tableIn (pc := 1) (tgt := 124) hx hb dX7_joined_1 (by rw [c5]; decide) (by rw [c5]; decide) (by rw [c5]; rfl) (by decide) ?_
    refine lv_iload_n (pc := 124) hx hb dX7_joined_124 rfl (lv_at hl 1 rfl) ?_
    refine lv_iload_n (pc := 125) hx hb dX7_joined_125 rfl (lv_at hl 2 rfl) ?_
    refine lv_imul (pc := 126) hx hb dX7_joined_126 ?_
    exact um_iretR (pc := 127) Cx hW hS hf dX7_joined_127
  have hf := um_ie c5 hf
  by_cases c6 : a0 = (43 : Int32)
  · have hf := um_it c6 hf
    refine lv_tableIn (pc := 1) (tgt := 116) hx hb dX7_joined_1 (by rw [c6]; decide) (by rw [c6]; decide) (by rw [c6]; rfl) (by decide) ?_
    refine lv_iload_n (pc := 116) hx hb dX7_joined_116 rfl (lv_at hl 1 rfl) ?_
    refine lv_iload_n (pc := 117) hx hb dX7_joined_117 rfl (lv_at hl 2 rfl) ?_
    refine lv_iadd (pc := 118) hx hb dX7_joined_118 ?_
    exact um_iretR (pc := 119) Cx hW hS hf dX7_joined_119
  have hf := um_ie c6 hf
  by_cases c7 : a0 = (44 : Int32)
  · have hf := um_it c7 hf
    refine lv_tableIn (pc := 1) (tgt := 187) hx hb dX7_joined_1 (by rw [c7]; decide) (by rw [c7]; decide) (by rw [c7]; rfl) (by decide) ?_
    exact J1 () hf _ _ _ hW hS (lv_sub hl [1, 2] rfl)
  have hf := um_ie c7 hf
  by_cases c8 : a0 = (45 : Int32)
  · have hf := um_it c8 hf
    refine lv_tableIn (pc := 1) (tgt := 120) hx hb dX7_joined_1 (by rw [c8]; decide) (by rw [c8]; decide) (by rw [c8]; rfl) (by decide) ?_
    refine lv_iload_n (pc := 120) hx hb dX7_joined_120 rfl (lv_at hl 1 rfl) ?_
    refine lv_iload_n (pc := 121) hx hb dX7_joined_121 rfl (lv_at hl 2 rfl) ?_
    refine lv_isub (pc := 122) hx hb dX7_joined_122 ?_
    exact um_iretR (pc := 123) Cx hW hS hf dX7_joined_123
  have hf := um_ie c8 hf
  by_cases c9 : a0 = (46 : Int32)
  · have hf := um_it c9 hf
    refine lv_tableIn (pc := 1) (tgt := 187) hx hb dX7_joined_1 (by rw [c9]; decide) (by rw [c9]; decide) (by rw [c9]; rfl) (by decide) ?_
    exact J1 () hf _ _ _ hW hS (lv_sub hl [1, 2] rfl)
  have hf := um_ie c9 hf
  by_cases c10 : a0 = (47 : Int32)
  · have hf := um_it c10 hf
    refine lv_tableIn (pc := 1) (tgt := 128) hx hb dX7_joined_1 (by rw [c10]; decide) (by rw [c10]; decide) (by rw [c10]; rfl) (by decide) ?_
    refine lv_iload_n (pc := 128) hx hb dX7_joined_128 rfl (lv_at hl 2 rfl) ?_
    refine lv_if_ne (pc := 129) (tgt := 136) hx hb dX7_joined_129 (by decide) (fun c1 => ?_) (fun c1 => ?_)
    · have hf := um_ie c1 hf
      clear c1
      refine lv_iload_n (pc := 136) hx hb dX7_joined_136 rfl (lv_at hl 1 rfl) ?_
      refine lv_iload_n (pc := 137) hx hb dX7_joined_137 rfl (lv_at hl 2 rfl) ?_
      obtain ⟨g2, hf⟩ := um_gn hf
      refine lv_idiv (pc := 138) hx hb dX7_joined_138 g2 ?_
      exact um_iretR (pc := 139) Cx hW hS hf dX7_joined_139
    · have hf := um_it c1 hf
      clear c1
      refine lv_iconst (pc := 132) (v := (0 : Int32)) hx hb dX7_joined_132 (by decide) ?_
      refine lv_goto (pc := 133) (tgt := 139) hx hb dX7_joined_133 (by decide) ?_
      exact um_iretR (pc := 139) Cx hW hS hf dX7_joined_139
  have hf := um_ie c10 hf
  by_cases c11 : a0 = (48 : Int32)
  · have hf := um_it c11 hf
    refine lv_tableIn (pc := 1) (tgt := 187) hx hb dX7_joined_1 (by rw [c11]; decide) (by rw [c11]; decide) (by rw [c11]; rfl) (by decide) ?_
    exact J1 () hf _ _ _ hW hS (lv_sub hl [1, 2] rfl)
  have hf := um_ie c11 hf
  by_cases c12 : a0 = (49 : Int32)
  · have hf := um_it c12 hf
    refine lv_tableIn (pc := 1) (tgt := 187) hx hb dX7_joined_1 (by rw [c12]; decide) (by rw [c12]; decide) (by rw [c12]; rfl) (by decide) ?_
    exact J1 () hf _ _ _ hW hS (lv_sub hl [1, 2] rfl)
  have hf := um_ie c12 hf
  by_cases c13 : a0 = (50 : Int32)
  · have hf := um_it c13 hf
    refine lv_tableIn (pc := 1) (tgt := 187) hx hb dX7_joined_1 (by rw [c13]; decide) (by rw [c13]; decide) (by rw [c13]; rfl) (by decide) ?_
    exact J1 () hf _ _ _ hW hS (lv_sub hl [1, 2] rfl)
  have hf := um_ie c13 hf
  by_cases c14 : a0 = (51 : Int32)
  · have hf := um_it c14 hf
    refine lv_tableIn (pc := 1) (tgt := 187) hx hb dX7_joined_1 (by rw [c14]; decide) (by rw [c14]; decide) (by rw [c14]; rfl) (by decide) ?_
    exact J1 () hf _ _ _ hW hS (lv_sub hl [1, 2] rfl)
  have hf := um_ie c14 hf
  by_cases c15 : a0 = (52 : Int32)
  · have hf := um_it c15 hf
    refine lv_tableIn (pc := 1) (tgt := 187) hx hb dX7_joined_1 (by rw [c15]; decide) (by rw [c15]; decide) (by rw [c15]; rfl) (by decide) ?_
    exact J1 () hf _ _ _ hW hS (lv_sub hl [1, 2] rfl)
  have hf := um_ie c15 hf
  by_cases c16 : a0 = (53 : Int32)
  · have hf := um_it c16 hf
    refine lv_tableIn (pc := 1) (tgt := 187) hx hb dX7_joined_1 (by rw [c16]; decide) (by rw [c16]; decide) (by rw [c16]; rfl) (by decide) ?_
    exact J1 () hf _ _ _ hW hS (lv_sub hl [1, 2] rfl)
  have hf := um_ie c16 hf
  by_cases c17 : a0 = (54 : Int32)
  · have hf := um_it c17 hf
    refine lv_tableIn (pc := 1) (tgt := 187) hx hb dX7_joined_1 (by rw [c17]; decide) (by rw [c17]; decide) (by rw [c17]; rfl) (by decide) ?_
    exact J1 () hf _ _ _ hW hS (lv_sub hl [1, 2] rfl)
  have hf := um_ie c17 hf
  by_cases c18 : a0 = (55 : Int32)
  · have hf := um_it c18 hf
    refine lv_tableIn (pc := 1) (tgt := 187) hx hb dX7_joined_1 (by rw [c18]; decide) (by rw [c18]; decide) (by rw [c18]; rfl) (by decide) ?_
    exact J1 () hf _ _ _ hW hS (lv_sub hl [1, 2] rfl)
  have hf := um_ie c18 hf
  by_cases c19 : a0 = (56 : Int32)
  · have hf := um_it c19 hf
    refine lv_tableIn (pc := 1) (tgt := 187) hx hb dX7_joined_1 (by rw [c19]; decide) (by rw [c19]; decide) (by rw [c19]; rfl) (by decide) ?_
    exact J1 () hf _ _ _ hW hS (lv_sub hl [1, 2] rfl)
  have hf := um_ie c19 hf
  by_cases c20 : a0 = (57 : Int32)
  · have hf := um_it c20 hf
    refine lv_tableIn (pc := 1) (tgt := 187) hx hb dX7_joined_1 (by rw [c20]; decide) (by rw [c20]; decide) (by rw [c20]; rfl) (by decide) ?_
    exact J1 () hf _ _ _ hW hS (lv_sub hl [1, 2] rfl)
  have hf := um_ie c20 hf
  by_cases c21 : a0 = (58 : Int32)
  · have hf := um_it c21 hf
    refine lv_tableIn (pc := 1) (tgt := 187) hx hb dX7_joined_1 (by rw [c21]; decide) (by rw [c21]; decide) (by rw [c21]; rfl) (by decide) ?_
    exact J1 () hf _ _ _ hW hS (lv_sub hl [1, 2] rfl)
  have hf := um_ie c21 hf
  by_cases c22 : a0 = (59 : Int32)
  · have hf := um_it c22 hf
    refine lv_tableIn (pc := 1) (tgt := 187) hx hb dX7_joined_1 (by rw [c22]; decide) (by rw [c22]; decide) (by rw [c22]; rfl) (by decide) ?_
    exact J1 () hf _ _ _ hW hS (lv_sub hl [1, 2] rfl)
  have hf := um_ie c22 hf
  by_cases c23 : a0 = (60 : Int32)
  · have hf := um_it c23 hf
    refine lv_tableIn (pc := 1) (tgt := 140) hx hb dX7_joined_1 (by rw [c23]; decide) (by rw [c23]; decide) (by rw [c23]; rfl) (by decide) ?_
    refine lv_iload_n (pc := 140) hx hb dX7_joined_140 rfl (lv_at hl 1 rfl) ?_
    refine lv_iload_n (pc := 141) hx hb dX7_joined_141 rfl (lv_at hl 2 rfl) ?_
    refine lv_icmp_ge (pc := 142) (tgt := 149) hx hb dX7_joined_142 (by decide) (fun c1 => ?_) (fun c1 => ?_)
    · have hf := um_it c1 hf
      clear c1
      refine lv_iconst (pc := 149) (v := (0 : Int32)) hx hb dX7_joined_149 (by decide) ?_
      exact um_iretR (pc := 150) Cx hW hS hf dX7_joined_150
    · have hf := um_ie c1 hf
      clear c1
      refine lv_iconst (pc := 145) (v := (1 : Int32)) hx hb dX7_joined_145 (by decide) ?_
      refine lv_goto (pc := 146) (tgt := 150) hx hb dX7_joined_146 (by decide) ?_
      exact um_iretR (pc := 150) Cx hW hS hf dX7_joined_150
  have hf := um_ie c23 hf
  by_cases c24 : a0 = (61 : Int32)
  · have hf := um_it c24 hf
    refine lv_tableIn (pc := 1) (tgt := 151) hx hb dX7_joined_1 (by rw [c24]; decide) (by rw [c24]; decide) (by rw [c24]; rfl) (by decide) ?_
    refine lv_iload_n (pc := 151) hx hb dX7_joined_151 rfl (lv_at hl 1 rfl) ?_
    refine lv_iload_n (pc := 152) hx hb dX7_joined_152 rfl (lv_at hl 2 rfl) ?_
    refine lv_icmp_ne (pc := 153) (tgt := 160) hx hb dX7_joined_153 (by decide) (fun c1 => ?_) (fun c1 => ?_)
    · have hf := um_ie c1 hf
      clear c1
      refine lv_iconst (pc := 160) (v := (0 : Int32)) hx hb dX7_joined_160 (by decide) ?_
      exact um_iretR (pc := 161) Cx hW hS hf dX7_joined_161
    · have hf := um_it c1 hf
      clear c1
      refine lv_iconst (pc := 156) (v := (1 : Int32)) hx hb dX7_joined_156 (by decide) ?_
      refine lv_goto (pc := 157) (tgt := 161) hx hb dX7_joined_157 (by decide) ?_
      exact um_iretR (pc := 161) Cx hW hS hf dX7_joined_161
  have hf := um_ie c24 hf
  by_cases c25 : a0 = (62 : Int32)
  · have hf := um_it c25 hf
    refine lv_tableIn (pc := 1) (tgt := 162) hx hb dX7_joined_1 (by rw [c25]; decide) (by rw [c25]; decide) (by rw [c25]; rfl) (by decide) ?_
    refine lv_iload_n (pc := 162) hx hb dX7_joined_162 rfl (lv_at hl 1 rfl) ?_
    refine lv_iload_n (pc := 163) hx hb dX7_joined_163 rfl (lv_at hl 2 rfl) ?_
    refine lv_icmp_le (pc := 164) (tgt := 171) hx hb dX7_joined_164 (by decide) (fun c1 => ?_) (fun c1 => ?_)
    · have hf := um_it c1 hf
      clear c1
      refine lv_iconst (pc := 171) (v := (0 : Int32)) hx hb dX7_joined_171 (by decide) ?_
      exact um_iretR (pc := 172) Cx hW hS hf dX7_joined_172
    · have hf := um_ie c1 hf
      clear c1
      refine lv_iconst (pc := 167) (v := (1 : Int32)) hx hb dX7_joined_167 (by decide) ?_
      refine lv_goto (pc := 168) (tgt := 172) hx hb dX7_joined_168 (by decide) ?_
      exact um_iretR (pc := 172) Cx hW hS hf dX7_joined_172
  have hf := um_ie c25 hf
  have ho : a0.toInt < 38 ∨ 62 < a0.toInt := um_tabO (lo := 38) (hi := 62) (fun z z1 z2 => by
    rcases (show z = 38 ∨ z = 39 ∨ z = 40 ∨ z = 41 ∨ z = 42 ∨ z = 43 ∨ z = 44 ∨ z = 45 ∨ z = 46 ∨ z = 47 ∨ z = 48 ∨ z = 49 ∨ z = 50 ∨ z = 51 ∨ z = 52 ∨ z = 53 ∨ z = 54 ∨ z = 55 ∨ z = 56 ∨ z = 57 ∨ z = 58 ∨ z = 59 ∨ z = 60 ∨ z = 61 ∨ z = 62 by omega) with rfl | rfl | rfl | rfl | rfl | rfl | rfl | rfl | rfl | rfl | rfl | rfl | rfl | rfl | rfl | rfl | rfl | rfl | rfl | rfl | rfl | rfl | rfl | rfl | rfl
    · exact c1
    · exact c2
    · exact c3
    · exact c4
    · exact c5
    · exact c6
    · exact c7
    · exact c8
    · exact c9
    · exact c10
    · exact c11
    · exact c12
    · exact c13
    · exact c14
    · exact c15
    · exact c16
    · exact c17
    · exact c18
    · exact c19
    · exact c20
    · exact c21
    · exact c22
    · exact c23
    · exact c24
    · exact c25)
  refine lv_tableOut (pc := 1) (tgt := 187) hx hb dX7_joined_1 ho (by decide) ?_
  exact J1 () hf _ _ _ hW hS (lv_sub hl [1, 2] rfl)
theorem c_X7_joined {σ : um_S} {r : Int32} (a0 : Int32) (a1 : Int32) (a2 : Int32) (hX : um_X sh) (hf : f_X7_joined a0 a1 a2 σ = some r) : um_M l yX7_joined cX7_joined 3 (some FieldType.int) (0) (0) Z sh α σ [.int a0, .int a1, .int a2] (some (.int r)) σ :=
  um_start (by decide) (Nat.le_of_ble_eq_true rfl) (fun p e s m below meth c ls Cx hW hS hl => b_X7_joined a0 a1 a2 hX hf Cx hW hS hl)
noncomputable def f_X7_value_l6 (h0 : Nat) (v1 : Int32) (v2 : Int32) (v3 : Int32) : Nat → Int32 → Int32 → um_S → Option (um_S)
  | 0, _, _, _ => none
  | n + 1, v4, v5, σ =>
    if (nI (σ.2.2 (h0 + 1))) ≤ v5 then
    (some σ)
    else
    (if um_ix v5 (σ.2.2 (h0 + 1)) then
    (um_let (σ.1 (h0 + 1) v5.toNatClampNeg) fun x2 =>
    (if x2 < (-3 : Int32) then
    (if x2 = (-33 : Int32) then
    (if v4 < (1 : Int32) then
    (f_X7_value_l6 h0 v1 v2 v3 n v4 (v5 + (1 : Int32)) σ)
    else
    (if (nI (σ.2.2 (h0 + 2))) < v4 then
    (f_X7_value_l6 h0 v1 v2 v3 n v4 (v5 + (1 : Int32)) σ)
    else
    (if um_ix (v4 - (1 : Int32)) (σ.2.2 (h0 + 2)) then
    (if (σ.1 (h0 + 2) (v4 - (1 : Int32)).toNatClampNeg) = 0 then
    (if um_ix (v4 - (1 : Int32)) (σ.2.2 (h0 + 2)) then
    (um_let (um_wr σ (h0 + 2) (v4 - (1 : Int32)).toNatClampNeg (1 : Int32)) fun σ16 =>
    (f_X7_value_l6 h0 v1 v2 v3 n v4 (v5 + (1 : Int32)) σ16)) else none)
    else
    (if um_ix (v4 - (1 : Int32)) (σ.2.2 (h0 + 2)) then
    (um_let (um_wr σ (h0 + 2) (v4 - (1 : Int32)).toNatClampNeg (0 : Int32)) fun σ13 =>
    (f_X7_value_l6 h0 v1 v2 v3 n v4 (v5 + (1 : Int32)) σ13)) else none)) else none)))
    else
    (if v4 < (2 : Int32) then
    (f_X7_value_l6 h0 v1 v2 v3 n v4 (v5 + (1 : Int32)) σ)
    else
    (if (nI (σ.2.2 (h0 + 2))) < v4 then
    (f_X7_value_l6 h0 v1 v2 v3 n v4 (v5 + (1 : Int32)) σ)
    else
    (if um_ix ((v4 + (-1 : Int32)) - (1 : Int32)) (σ.2.2 (h0 + 2)) then
    (if um_ix (v4 + (-1 : Int32)) (σ.2.2 (h0 + 2)) then
    ((f_X7_joined (-x2) (σ.1 (h0 + 2) ((v4 + (-1 : Int32)) - (1 : Int32)).toNatClampNeg) (σ.1 (h0 + 2) (v4 + (-1 : Int32)).toNatClampNeg) σ).bind fun x7 =>
    (if um_ix ((v4 + (-1 : Int32)) - (1 : Int32)) (σ.2.2 (h0 + 2)) then
    (um_let (um_wr σ (h0 + 2) ((v4 + (-1 : Int32)) - (1 : Int32)).toNatClampNeg x7) fun σ9 =>
    (f_X7_value_l6 h0 v1 v2 v3 n (v4 + (-1 : Int32)) (v5 + (1 : Int32)) σ9)) else none)) else none) else none))))
    else
    (if (nI (σ.2.2 (h0 + 2))) ≤ v4 then
    (f_X7_value_l6 h0 v1 v2 v3 n (v4 + (1 : Int32)) (v5 + (1 : Int32)) σ)
    else
    (if x2 < 0 then
    (if x2 = (-1 : Int32) then
    (if um_ix v4 (σ.2.2 (h0 + 2)) then
    (um_let (um_wr σ (h0 + 2) v4.toNatClampNeg v1) fun σ25 =>
    (f_X7_value_l6 h0 v1 v2 v3 n (v4 + (1 : Int32)) (v5 + (1 : Int32)) σ25)) else none)
    else
    (if x2 = (-2 : Int32) then
    (if um_ix v4 (σ.2.2 (h0 + 2)) then
    (um_let (um_wr σ (h0 + 2) v4.toNatClampNeg v2) fun σ22 =>
    (f_X7_value_l6 h0 v1 v2 v3 n (v4 + (1 : Int32)) (v5 + (1 : Int32)) σ22)) else none)
    else
    (if um_ix v4 (σ.2.2 (h0 + 2)) then
    (um_let (um_wr σ (h0 + 2) v4.toNatClampNeg v3) fun σ19 =>
    (f_X7_value_l6 h0 v1 v2 v3 n (v4 + (1 : Int32)) (v5 + (1 : Int32)) σ19)) else none)))
    else
    (if um_ix v4 (σ.2.2 (h0 + 2)) then
    (um_let (um_wr σ (h0 + 2) v4.toNatClampNeg x2) fun σ28 =>
    (f_X7_value_l6 h0 v1 v2 v3 n (v4 + (1 : Int32)) (v5 + (1 : Int32)) σ28)) else none))))) else none)
noncomputable def f_X7_value (h0 : Nat) (a1 : Int32) (a2 : Int32) (a3 : Int32) (σ : um_S) : Option (Int32 × um_S) :=
    (f_X7_value_l6 h0 a1 a2 a3 um_N (0 : Int32) (0 : Int32) σ).bind fun σ1 =>
    (if (nI (σ1.2.2 (h0 + 2))) ≤ 0 then
    (some ((0 : Int32), σ1))
    else
    (if um_ix (0 : Int32) (σ1.2.2 (h0 + 2)) then
    (some (σ1.1 (h0 + 2) (0 : Int32).toNatClampNeg, σ1)) else none))
set_option maxRecDepth 100000 in
set_option maxHeartbeats 4000000 in
theorem t_X7_value_l6 {Q : State → Prop} {σo : um_S} (h0 : Nat) (v1 : Int32) (v2 : Int32) (v3 : Int32) (hh0 : um_txt sh h0) (hX : um_X sh) (Cx : um_C p s m meth c args cX7_value 7 (some FieldType.int) RX7 Z) (hE : ∀ (H : Heap) (locs : List Loc) (ls : Array Slot), um_W Z sh α σo H → va_S (um_D sh α) s.heap H locs → lv_has ls 7 [(0, .ref (α h0))] → W p l e { frames := 1, cells := 0, slots := 0, locals := 22 } s m args below meth c H locs 0 0 Q (F0 m 195 ls [])) : ∀ (n : Nat) (v4 : Int32) (v5 : Int32) (σ : um_S) (H : Heap) (locs : List Loc) (ls : Array Slot), f_X7_value_l6 h0 v1 v2 v3 n v4 v5 σ = some σo → um_W Z sh α σ H → va_S (um_D sh α) s.heap H locs → lv_has ls 7 [(0, .ref (α h0)), (1, .int v1), (2, .int v2), (3, .int v3), (4, .int v4), (5, .int v5)] → W p l e { frames := 1, cells := 0, slots := 0, locals := 22 } s m args below meth c H locs 0 0 Q (F0 m 6 ls []) := by
  have hx := Cx.1
  have hb := Cx.2.1
  have hown := Cx.2.2.2.2.1
  have hts := Cx.2.2.2.2.2.1
  intro n
  induction n with
  | zero =>
    intro v4 v5 σ H locs ls hf hW hS hl
    cases hf
  | succ n ih =>
    intro v4 v5 σ H locs ls hf hW hS hl
    rw [f_X7_value_l6] at hf
    refine lv_iload (pc := 6) hx hb dX7_value_6 (lv_at hl 5 rfl) ?_
    refine lv_aload_n (pc := 8) hx hb dX7_value_8 rfl (lv_at hl 0 rfl) ?_
    refine gF_X7_19 (pc := 9) Cx hW hh0.1 rfl dX7_value_9 ?_
    refine um_alen (pc := 12) (n := (σ.2.2 (h0 + 1))) Cx hW hh0.2.1 rfl (by decide) dX7_value_12 ?_
    refine lv_icmp_ge (pc := 13) (tgt := 195) hx hb dX7_value_13 (by decide) (fun c1 => ?_) (fun c1 => ?_)
    · have hf := um_it c1 hf
      clear c1
      cases hf
      exact hE _ _ _ hW hS (lv_sub hl [0] rfl)
    · have hf := um_ie c1 hf
      clear c1
      refine lv_aload_n (pc := 16) hx hb dX7_value_16 rfl (lv_at hl 0 rfl) ?_
      refine gF_X7_19 (pc := 17) Cx hW hh0.1 rfl dX7_value_17 ?_
      refine lv_iload (pc := 20) hx hb dX7_value_20 (lv_at hl 5 rfl) ?_
      obtain ⟨g1, hf⟩ := um_gu hf
      refine um_iald (pc := 22) Cx hW hh0.2.1 rfl (um_ix_in g1) dX7_value_22 ?_
      obtain ⟨x2, e3, hf⟩ := um_le hf
      refine um_top e3 ?_
      clear e3
      refine lv_istore (pc := 23) (lv' := [(6, .int x2), (0, .ref (α h0)), (1, .int v1), (2, .int v2), (3, .int v3), (4, .int v4), (5, .int v5)]) hx hb dX7_value_23 hl (by decide) rfl ?_
      clear hl
      intro ls hl
      refine lv_iload (pc := 25) hx hb dX7_value_25 (lv_at hl 0 rfl) ?_
      refine lv_bipush (pc := 27) (v := (-3 : Int32)) hx hb dX7_value_27 (by decide) ?_
      refine lv_icmp_lt (pc := 29) (tgt := 87) hx hb dX7_value_29 (by decide) (fun c1 => ?_) (fun c1 => ?_)
      · have hf := um_it c1 hf
        clear c1
        refine lv_iload (pc := 87) hx hb dX7_value_87 (lv_at hl 0 rfl) ?_
        refine lv_bipush (pc := 89) (v := (-33 : Int32)) hx hb dX7_value_89 (by decide) ?_
        refine lv_icmp_ne (pc := 91) (tgt := 139) hx hb dX7_value_91 (by decide) (fun c1 => ?_) (fun c1 => ?_)
        · have hf := um_ie c1 hf
          clear c1
          refine lv_iload (pc := 139) hx hb dX7_value_139 (lv_at hl 5 rfl) ?_
          refine lv_iconst (pc := 141) (v := (2 : Int32)) hx hb dX7_value_141 (by decide) ?_
          refine lv_icmp_lt (pc := 142) (tgt := 189) hx hb dX7_value_142 (by decide) (fun c1 => ?_) (fun c1 => ?_)
          · have hf := um_it c1 hf
            clear c1
            refine lv_iinc (pc := 189) (v := v5 + (1 : Int32)) (lv' := [(5, .int (v5 + (1 : Int32))), (6, .int x2), (0, .ref (α h0)), (1, .int v1), (2, .int v2), (3, .int v3), (4, .int v4)]) hx hb dX7_value_189 hl (k := 6) rfl rfl (by decide) rfl ?_
            clear hl
            intro ls hl
            refine lv_goto (pc := 192) (tgt := 6) hx hb dX7_value_192 (by decide) ?_
            exact ih _ _ _ _ _ _ hf hW hS (lv_sub hl [2, 3, 4, 5, 6, 0] rfl)
          · have hf := um_ie c1 hf
            clear c1
            refine lv_iload (pc := 145) hx hb dX7_value_145 (lv_at hl 5 rfl) ?_
            refine lv_aload_n (pc := 147) hx hb dX7_value_147 rfl (lv_at hl 1 rfl) ?_
            refine gF_X7_29 (pc := 148) Cx hW hh0.1 rfl dX7_value_148 ?_
            refine um_alen (pc := 151) (n := (σ.2.2 (h0 + 2))) Cx hW hh0.2.2 rfl (by decide) dX7_value_151 ?_
            refine lv_icmp_gt (pc := 152) (tgt := 189) hx hb dX7_value_152 (by decide) (fun c1 => ?_) (fun c1 => ?_)
            · have hf := um_it c1 hf
              clear c1
              refine lv_iinc (pc := 189) (v := v5 + (1 : Int32)) (lv' := [(5, .int (v5 + (1 : Int32))), (6, .int x2), (0, .ref (α h0)), (1, .int v1), (2, .int v2), (3, .int v3), (4, .int v4)]) hx hb dX7_value_189 hl (k := 6) rfl rfl (by decide) rfl ?_
              clear hl
              intro ls hl
              refine lv_goto (pc := 192) (tgt := 6) hx hb dX7_value_192 (by decide) ?_
              exact ih _ _ _ _ _ _ hf hW hS (lv_sub hl [2, 3, 4, 5, 6, 0] rfl)
            · have hf := um_ie c1 hf
              clear c1
              refine lv_iinc (pc := 155) (v := v4 + (-1 : Int32)) (lv' := [(4, .int (v4 + (-1 : Int32))), (6, .int x2), (0, .ref (α h0)), (1, .int v1), (2, .int v2), (3, .int v3), (5, .int v5)]) hx hb dX7_value_155 hl (k := 5) rfl rfl (by decide) rfl ?_
              clear hl
              intro ls hl
              refine lv_aload_n (pc := 158) hx hb dX7_value_158 rfl (lv_at hl 2 rfl) ?_
              refine gF_X7_29 (pc := 159) Cx hW hh0.1 rfl dX7_value_159 ?_
              refine lv_iload (pc := 162) hx hb dX7_value_162 (lv_at hl 0 rfl) ?_
              refine lv_iconst (pc := 164) (v := (1 : Int32)) hx hb dX7_value_164 (by decide) ?_
              refine lv_isub (pc := 165) hx hb dX7_value_165 ?_
              refine lv_iload (pc := 166) hx hb dX7_value_166 (lv_at hl 1 rfl) ?_
              refine lv_ineg (pc := 168) hx hb dX7_value_168 ?_
              refine lv_aload_n (pc := 169) hx hb dX7_value_169 rfl (lv_at hl 2 rfl) ?_
              refine gF_X7_29 (pc := 170) Cx hW hh0.1 rfl dX7_value_170 ?_
              refine lv_iload (pc := 173) hx hb dX7_value_173 (lv_at hl 0 rfl) ?_
              refine lv_iconst (pc := 175) (v := (1 : Int32)) hx hb dX7_value_175 (by decide) ?_
              refine lv_isub (pc := 176) hx hb dX7_value_176 ?_
              obtain ⟨g4, hf⟩ := um_gu hf
              refine um_iald (pc := 177) Cx hW hh0.2.2 rfl (um_ix_in g4) dX7_value_177 ?_
              refine lv_aload_n (pc := 178) hx hb dX7_value_178 rfl (lv_at hl 2 rfl) ?_
              refine gF_X7_29 (pc := 179) Cx hW hh0.1 rfl dX7_value_179 ?_
              refine lv_iload (pc := 182) hx hb dX7_value_182 (lv_at hl 0 rfl) ?_
              obtain ⟨g5, hf⟩ := um_gu hf
              refine um_iald (pc := 184) Cx hW hh0.2.2 rfl (um_ix_in g5) dX7_value_184 ?_
              obtain ⟨x7, hc6, hf⟩ := um_bi hf
              refine um_cSi (pc := 185) (As := [.int (-x2), .int (σ.1 (h0 + 2) ((v4 + (-1 : Int32)) - (1 : Int32)).toNatClampNeg), .int (σ.1 (h0 + 2) (v4 + (-1 : Int32)).toNatClampNeg)]) (rest := [.int ((v4 + (-1 : Int32)) - (1 : Int32)), .ref (α (h0 + 2))]) Cx (c_X7_joined (-x2) (σ.1 (h0 + 2) ((v4 + (-1 : Int32)) - (1 : Int32)).toNatClampNeg) (σ.1 (h0 + 2) (v4 + (-1 : Int32)).toNatClampNeg) hX hc6) kS_X7_joined (Or.inl qM_X7_32) hW hS rfl hl rfl (Nat.le_of_ble_eq_true rfl) (Nat.le_of_ble_eq_true rfl) (Nat.le_of_ble_eq_true rfl) dX7_value_185 (Nat.le_refl _) (Nat.le_refl _) ?_
              clear hW hS hc6
              intro H locs hW hS
              obtain ⟨g8, hf⟩ := um_gu hf
              refine um_iast (pc := 188) Cx hW hS hh0.2.2 rfl (um_ix_in g8) dX7_value_188 ?_
              clear hW hS
              intro H locs hW hS
              obtain ⟨σ9, e10, hf⟩ := um_le hf
              rw [← e10] at hW
              clear e10
              refine lv_iinc (pc := 189) (v := v5 + (1 : Int32)) (lv' := [(5, .int (v5 + (1 : Int32))), (4, .int (v4 + (-1 : Int32))), (6, .int x2), (0, .ref (α h0)), (1, .int v1), (2, .int v2), (3, .int v3)]) hx hb dX7_value_189 hl (k := 6) rfl rfl (by decide) rfl ?_
              clear hl
              intro ls hl
              refine lv_goto (pc := 192) (tgt := 6) hx hb dX7_value_192 (by decide) ?_
              exact ih _ _ _ _ _ _ hf hW hS (lv_sub hl [3, 4, 5, 6, 1, 0] rfl)
        · have hf := um_it c1 hf
          clear c1
          refine lv_iload (pc := 94) hx hb dX7_value_94 (lv_at hl 5 rfl) ?_
          refine lv_iconst (pc := 96) (v := (1 : Int32)) hx hb dX7_value_96 (by decide) ?_
          refine lv_icmp_lt (pc := 97) (tgt := 189) hx hb dX7_value_97 (by decide) (fun c1 => ?_) (fun c1 => ?_)
          · have hf := um_it c1 hf
            clear c1
            refine lv_iinc (pc := 189) (v := v5 + (1 : Int32)) (lv' := [(5, .int (v5 + (1 : Int32))), (6, .int x2), (0, .ref (α h0)), (1, .int v1), (2, .int v2), (3, .int v3), (4, .int v4)]) hx hb dX7_value_189 hl (k := 6) rfl rfl (by decide) rfl ?_
            clear hl
            intro ls hl
            refine lv_goto (pc := 192) (tgt := 6) hx hb dX7_value_192 (by decide) ?_
            exact ih _ _ _ _ _ _ hf hW hS (lv_sub hl [2, 3, 4, 5, 6, 0] rfl)
          · have hf := um_ie c1 hf
            clear c1
            refine lv_iload (pc := 100) hx hb dX7_value_100 (lv_at hl 5 rfl) ?_
            refine lv_aload_n (pc := 102) hx hb dX7_value_102 rfl (lv_at hl 1 rfl) ?_
            refine gF_X7_29 (pc := 103) Cx hW hh0.1 rfl dX7_value_103 ?_
            refine um_alen (pc := 106) (n := (σ.2.2 (h0 + 2))) Cx hW hh0.2.2 rfl (by decide) dX7_value_106 ?_
            refine lv_icmp_gt (pc := 107) (tgt := 189) hx hb dX7_value_107 (by decide) (fun c1 => ?_) (fun c1 => ?_)
            · have hf := um_it c1 hf
              clear c1
              refine lv_iinc (pc := 189) (v := v5 + (1 : Int32)) (lv' := [(5, .int (v5 + (1 : Int32))), (6, .int x2), (0, .ref (α h0)), (1, .int v1), (2, .int v2), (3, .int v3), (4, .int v4)]) hx hb dX7_value_189 hl (k := 6) rfl rfl (by decide) rfl ?_
              clear hl
              intro ls hl
              refine lv_goto (pc := 192) (tgt := 6) hx hb dX7_value_192 (by decide) ?_
              exact ih _ _ _ _ _ _ hf hW hS (lv_sub hl [2, 3, 4, 5, 6, 0] rfl)
            · have hf := um_ie c1 hf
              clear c1
              refine lv_aload_n (pc := 110) hx hb dX7_value_110 rfl (lv_at hl 1 rfl) ?_
              refine gF_X7_29 (pc := 111) Cx hW hh0.1 rfl dX7_value_111 ?_
              refine lv_iload (pc := 114) hx hb dX7_value_114 (lv_at hl 5 rfl) ?_
              refine lv_iconst (pc := 116) (v := (1 : Int32)) hx hb dX7_value_116 (by decide) ?_
              refine lv_isub (pc := 117) hx hb dX7_value_117 ?_
              refine lv_aload_n (pc := 118) hx hb dX7_value_118 rfl (lv_at hl 1 rfl) ?_
              refine gF_X7_29 (pc := 119) Cx hW hh0.1 rfl dX7_value_119 ?_
              refine lv_iload (pc := 122) hx hb dX7_value_122 (lv_at hl 5 rfl) ?_
              refine lv_iconst (pc := 124) (v := (1 : Int32)) hx hb dX7_value_124 (by decide) ?_
              refine lv_isub (pc := 125) hx hb dX7_value_125 ?_
              obtain ⟨g11, hf⟩ := um_gu hf
              refine um_iald (pc := 126) Cx hW hh0.2.2 rfl (um_ix_in g11) dX7_value_126 ?_
              refine lv_if_ne (pc := 127) (tgt := 134) hx hb dX7_value_127 (by decide) (fun c1 => ?_) (fun c1 => ?_)
              · have hf := um_ie c1 hf
                clear c1
                refine lv_iconst (pc := 134) (v := (0 : Int32)) hx hb dX7_value_134 (by decide) ?_
                obtain ⟨g12, hf⟩ := um_gu hf
                refine um_iast (pc := 135) Cx hW hS hh0.2.2 rfl (um_ix_in g12) dX7_value_135 ?_
                clear hW hS
                intro H locs hW hS
                obtain ⟨σ13, e14, hf⟩ := um_le hf
                rw [← e14] at hW
                clear e14
                refine lv_goto (pc := 136) (tgt := 189) hx hb dX7_value_136 (by decide) ?_
                refine lv_iinc (pc := 189) (v := v5 + (1 : Int32)) (lv' := [(5, .int (v5 + (1 : Int32))), (6, .int x2), (0, .ref (α h0)), (1, .int v1), (2, .int v2), (3, .int v3), (4, .int v4)]) hx hb dX7_value_189 hl (k := 6) rfl rfl (by decide) rfl ?_
                clear hl
                intro ls hl
                refine lv_goto (pc := 192) (tgt := 6) hx hb dX7_value_192 (by decide) ?_
                exact ih _ _ _ _ _ _ hf hW hS (lv_sub hl [2, 3, 4, 5, 6, 0] rfl)
              · have hf := um_it c1 hf
                clear c1
                refine lv_iconst (pc := 130) (v := (1 : Int32)) hx hb dX7_value_130 (by decide) ?_
                refine lv_goto (pc := 131) (tgt := 135) hx hb dX7_value_131 (by decide) ?_
                obtain ⟨g15, hf⟩ := um_gu hf
                refine um_iast (pc := 135) Cx hW hS hh0.2.2 rfl (um_ix_in g15) dX7_value_135 ?_
                clear hW hS
                intro H locs hW hS
                obtain ⟨σ16, e17, hf⟩ := um_le hf
                rw [← e17] at hW
                clear e17
                refine lv_goto (pc := 136) (tgt := 189) hx hb dX7_value_136 (by decide) ?_
                refine lv_iinc (pc := 189) (v := v5 + (1 : Int32)) (lv' := [(5, .int (v5 + (1 : Int32))), (6, .int x2), (0, .ref (α h0)), (1, .int v1), (2, .int v2), (3, .int v3), (4, .int v4)]) hx hb dX7_value_189 hl (k := 6) rfl rfl (by decide) rfl ?_
                clear hl
                intro ls hl
                refine lv_goto (pc := 192) (tgt := 6) hx hb dX7_value_192 (by decide) ?_
                exact ih _ _ _ _ _ _ hf hW hS (lv_sub hl [2, 3, 4, 5, 6, 0] rfl)
      · have hf := um_ie c1 hf
        clear c1
        refine lv_iload (pc := 32) hx hb dX7_value_32 (lv_at hl 5 rfl) ?_
        refine lv_aload_n (pc := 34) hx hb dX7_value_34 rfl (lv_at hl 1 rfl) ?_
        refine gF_X7_29 (pc := 35) Cx hW hh0.1 rfl dX7_value_35 ?_
        refine um_alen (pc := 38) (n := (σ.2.2 (h0 + 2))) Cx hW hh0.2.2 rfl (by decide) dX7_value_38 ?_
        refine lv_icmp_ge (pc := 39) (tgt := 81) hx hb dX7_value_39 (by decide) (fun c1 => ?_) (fun c1 => ?_)
        · have hf := um_it c1 hf
          clear c1
          refine lv_iinc (pc := 81) (v := v4 + (1 : Int32)) (lv' := [(4, .int (v4 + (1 : Int32))), (6, .int x2), (0, .ref (α h0)), (1, .int v1), (2, .int v2), (3, .int v3), (5, .int v5)]) hx hb dX7_value_81 hl (k := 5) rfl rfl (by decide) rfl ?_
          clear hl
          intro ls hl
          refine lv_goto (pc := 84) (tgt := 189) hx hb dX7_value_84 (by decide) ?_
          refine lv_iinc (pc := 189) (v := v5 + (1 : Int32)) (lv' := [(5, .int (v5 + (1 : Int32))), (4, .int (v4 + (1 : Int32))), (6, .int x2), (0, .ref (α h0)), (1, .int v1), (2, .int v2), (3, .int v3)]) hx hb dX7_value_189 hl (k := 6) rfl rfl (by decide) rfl ?_
          clear hl
          intro ls hl
          refine lv_goto (pc := 192) (tgt := 6) hx hb dX7_value_192 (by decide) ?_
          exact ih _ _ _ _ _ _ hf hW hS (lv_sub hl [3, 4, 5, 6, 1, 0] rfl)
        · have hf := um_ie c1 hf
          clear c1
          refine lv_aload_n (pc := 42) hx hb dX7_value_42 rfl (lv_at hl 1 rfl) ?_
          refine gF_X7_29 (pc := 43) Cx hW hh0.1 rfl dX7_value_43 ?_
          refine lv_iload (pc := 46) hx hb dX7_value_46 (lv_at hl 5 rfl) ?_
          refine lv_iload (pc := 48) hx hb dX7_value_48 (lv_at hl 0 rfl) ?_
          refine lv_if_lt (pc := 50) (tgt := 58) hx hb dX7_value_50 (by decide) (fun c1 => ?_) (fun c1 => ?_)
          · have hf := um_it c1 hf
            clear c1
            refine lv_iload (pc := 58) hx hb dX7_value_58 (lv_at hl 0 rfl) ?_
            refine lv_iconst (pc := 60) (v := (-1 : Int32)) hx hb dX7_value_60 (by decide) ?_
            refine lv_icmp_ne (pc := 61) (tgt := 68) hx hb dX7_value_61 (by decide) (fun c1 => ?_) (fun c1 => ?_)
            · have hf := um_ie c1 hf
              clear c1
              refine lv_iload (pc := 68) hx hb dX7_value_68 (lv_at hl 0 rfl) ?_
              refine lv_bipush (pc := 70) (v := (-2 : Int32)) hx hb dX7_value_70 (by decide) ?_
              refine lv_icmp_ne (pc := 72) (tgt := 79) hx hb dX7_value_72 (by decide) (fun c1 => ?_) (fun c1 => ?_)
              · have hf := um_ie c1 hf
                clear c1
                refine lv_iload_n (pc := 79) hx hb dX7_value_79 rfl (lv_at hl 4 rfl) ?_
                obtain ⟨g18, hf⟩ := um_gu hf
                refine um_iast (pc := 80) Cx hW hS hh0.2.2 rfl (um_ix_in g18) dX7_value_80 ?_
                clear hW hS
                intro H locs hW hS
                obtain ⟨σ19, e20, hf⟩ := um_le hf
                rw [← e20] at hW
                clear e20
                refine lv_iinc (pc := 81) (v := v4 + (1 : Int32)) (lv' := [(4, .int (v4 + (1 : Int32))), (6, .int x2), (0, .ref (α h0)), (1, .int v1), (2, .int v2), (3, .int v3), (5, .int v5)]) hx hb dX7_value_81 hl (k := 5) rfl rfl (by decide) rfl ?_
                clear hl
                intro ls hl
                refine lv_goto (pc := 84) (tgt := 189) hx hb dX7_value_84 (by decide) ?_
                refine lv_iinc (pc := 189) (v := v5 + (1 : Int32)) (lv' := [(5, .int (v5 + (1 : Int32))), (4, .int (v4 + (1 : Int32))), (6, .int x2), (0, .ref (α h0)), (1, .int v1), (2, .int v2), (3, .int v3)]) hx hb dX7_value_189 hl (k := 6) rfl rfl (by decide) rfl ?_
                clear hl
                intro ls hl
                refine lv_goto (pc := 192) (tgt := 6) hx hb dX7_value_192 (by decide) ?_
                exact ih _ _ _ _ _ _ hf hW hS (lv_sub hl [3, 4, 5, 6, 1, 0] rfl)
              · have hf := um_it c1 hf
                clear c1
                refine lv_iload_n (pc := 75) hx hb dX7_value_75 rfl (lv_at hl 3 rfl) ?_
                refine lv_goto (pc := 76) (tgt := 80) hx hb dX7_value_76 (by decide) ?_
                obtain ⟨g21, hf⟩ := um_gu hf
                refine um_iast (pc := 80) Cx hW hS hh0.2.2 rfl (um_ix_in g21) dX7_value_80 ?_
                clear hW hS
                intro H locs hW hS
                obtain ⟨σ22, e23, hf⟩ := um_le hf
                rw [← e23] at hW
                clear e23
                refine lv_iinc (pc := 81) (v := v4 + (1 : Int32)) (lv' := [(4, .int (v4 + (1 : Int32))), (6, .int x2), (0, .ref (α h0)), (1, .int v1), (2, .int v2), (3, .int v3), (5, .int v5)]) hx hb dX7_value_81 hl (k := 5) rfl rfl (by decide) rfl ?_
                clear hl
                intro ls hl
                refine lv_goto (pc := 84) (tgt := 189) hx hb dX7_value_84 (by decide) ?_
                refine lv_iinc (pc := 189) (v := v5 + (1 : Int32)) (lv' := [(5, .int (v5 + (1 : Int32))), (4, .int (v4 + (1 : Int32))), (6, .int x2), (0, .ref (α h0)), (1, .int v1), (2, .int v2), (3, .int v3)]) hx hb dX7_value_189 hl (k := 6) rfl rfl (by decide) rfl ?_
                clear hl
                intro ls hl
                refine lv_goto (pc := 192) (tgt := 6) hx hb dX7_value_192 (by decide) ?_
                exact ih _ _ _ _ _ _ hf hW hS (lv_sub hl [3, 4, 5, 6, 1, 0] rfl)
            · have hf := um_it c1 hf
              clear c1
              refine lv_iload_n (pc := 64) hx hb dX7_value_64 rfl (lv_at hl 2 rfl) ?_
              refine lv_goto (pc := 65) (tgt := 80) hx hb dX7_value_65 (by decide) ?_
              obtain ⟨g24, hf⟩ := um_gu hf
              refine um_iast (pc := 80) Cx hW hS hh0.2.2 rfl (um_ix_in g24) dX7_value_80 ?_
              clear hW hS
              intro H locs hW hS
              obtain ⟨σ25, e26, hf⟩ := um_le hf
              rw [← e26] at hW
              clear e26
              refine lv_iinc (pc := 81) (v := v4 + (1 : Int32)) (lv' := [(4, .int (v4 + (1 : Int32))), (6, .int x2), (0, .ref (α h0)), (1, .int v1), (2, .int v2), (3, .int v3), (5, .int v5)]) hx hb dX7_value_81 hl (k := 5) rfl rfl (by decide) rfl ?_
              clear hl
              intro ls hl
              refine lv_goto (pc := 84) (tgt := 189) hx hb dX7_value_84 (by decide) ?_
              refine lv_iinc (pc := 189) (v := v5 + (1 : Int32)) (lv' := [(5, .int (v5 + (1 : Int32))), (4, .int (v4 + (1 : Int32))), (6, .int x2), (0, .ref (α h0)), (1, .int v1), (2, .int v2), (3, .int v3)]) hx hb dX7_value_189 hl (k := 6) rfl rfl (by decide) rfl ?_
              clear hl
              intro ls hl
              refine lv_goto (pc := 192) (tgt := 6) hx hb dX7_value_192 (by decide) ?_
              exact ih _ _ _ _ _ _ hf hW hS (lv_sub hl [3, 4, 5, 6, 1, 0] rfl)
          · have hf := um_ie c1 hf
            clear c1
            refine lv_iload (pc := 53) hx hb dX7_value_53 (lv_at hl 0 rfl) ?_
            refine lv_goto (pc := 55) (tgt := 80) hx hb dX7_value_55 (by decide) ?_
            obtain ⟨g27, hf⟩ := um_gu hf
            refine um_iast (pc := 80) Cx hW hS hh0.2.2 rfl (um_ix_in g27) dX7_value_80 ?_
            clear hW hS
            intro H locs hW hS
            obtain ⟨σ28, e29, hf⟩ := um_le hf
            rw [← e29] at hW
            clear e29
            refine lv_iinc (pc := 81) (v := v4 + (1 : Int32)) (lv' := [(4, .int (v4 + (1 : Int32))), (6, .int x2), (0, .ref (α h0)), (1, .int v1), (2, .int v2), (3, .int v3), (5, .int v5)]) hx hb dX7_value_81 hl (k := 5) rfl rfl (by decide) rfl ?_
            clear hl
            intro ls hl
            refine lv_goto (pc := 84) (tgt := 189) hx hb dX7_value_84 (by decide) ?_
            refine lv_iinc (pc := 189) (v := v5 + (1 : Int32)) (lv' := [(5, .int (v5 + (1 : Int32))), (4, .int (v4 + (1 : Int32))), (6, .int x2), (0, .ref (α h0)), (1, .int v1), (2, .int v2), (3, .int v3)]) hx hb dX7_value_189 hl (k := 6) rfl rfl (by decide) rfl ?_
            clear hl
            intro ls hl
            refine lv_goto (pc := 192) (tgt := 6) hx hb dX7_value_192 (by decide) ?_
            exact ih _ _ _ _ _ _ hf hW hS (lv_sub hl [3, 4, 5, 6, 1, 0] rfl)
set_option maxRecDepth 100000 in
set_option maxHeartbeats 4000000 in
theorem b_X7_value {H : Heap} {locs : List Loc} {ls : Array Slot} {σ : um_S} {σ' : um_S} {r : Int32} (h0 : Nat) (a1 : Int32) (a2 : Int32) (a3 : Int32) (hh0 : um_txt sh h0) (hX : um_X sh) (hf : f_X7_value h0 a1 a2 a3 σ = some (r, σ')) (Cx : um_C p s m meth c args cX7_value 7 (some FieldType.int) RX7 Z) (hW : um_W Z sh α σ H) (hS : va_S (um_D sh α) s.heap H locs) (hl : lv_has ls 7 [(0, .ref (α h0)), (1, .int a1), (2, .int a2), (3, .int a3)]) : um_G p l e (1) (22) s m args below meth c Z sh α σ' (some (.int r)) H locs (F0 m 0 ls []) := by
  have hx := Cx.1
  have hb := Cx.2.1
  have hown := Cx.2.2.2.2.1
  have hts := Cx.2.2.2.2.2.1
  rw [f_X7_value] at hf
  refine lv_iconst (pc := 0) (v := (0 : Int32)) hx hb dX7_value_0 (by decide) ?_
  refine lv_istore (pc := 1) (lv' := [(4, .int (0 : Int32)), (0, .ref (α h0)), (1, .int a1), (2, .int a2), (3, .int a3)]) hx hb dX7_value_1 hl (by decide) rfl ?_
  clear hl
  intro ls hl
  refine lv_iconst (pc := 3) (v := (0 : Int32)) hx hb dX7_value_3 (by decide) ?_
  refine lv_istore (pc := 4) (lv' := [(5, .int (0 : Int32)), (4, .int (0 : Int32)), (0, .ref (α h0)), (1, .int a1), (2, .int a2), (3, .int a3)]) hx hb dX7_value_4 hl (by decide) rfl ?_
  clear hl
  intro ls hl
  obtain ⟨σ1, hc2, hf⟩ := um_bi hf
  refine t_X7_value_l6 h0 a1 a2 a3 hh0 hX Cx ?_ um_N _ _ _ _ _ _ hc2 hW hS (lv_sub hl [2, 3, 4, 5, 1, 0] rfl)
  clear hW hS hl hc2
  intro H locs ls hW hS hl
  refine lv_aload_n (pc := 195) hx hb dX7_value_195 rfl (lv_at hl 0 rfl) ?_
  refine gF_X7_29 (pc := 196) Cx hW hh0.1 rfl dX7_value_196 ?_
  refine um_alen (pc := 199) (n := (σ1.2.2 (h0 + 2))) Cx hW hh0.2.2 rfl (by decide) dX7_value_199 ?_
  refine lv_if_le (pc := 200) (tgt := 212) hx hb dX7_value_200 (by decide) (fun c1 => ?_) (fun c1 => ?_)
  · have hf := um_it c1 hf
    clear c1
    refine lv_iconst (pc := 212) (v := (0 : Int32)) hx hb dX7_value_212 (by decide) ?_
    exact um_iret (pc := 213) Cx hW hS hf dX7_value_213
  · have hf := um_ie c1 hf
    clear c1
    refine lv_aload_n (pc := 203) hx hb dX7_value_203 rfl (lv_at hl 0 rfl) ?_
    refine gF_X7_29 (pc := 204) Cx hW hh0.1 rfl dX7_value_204 ?_
    refine lv_iconst (pc := 207) (v := (0 : Int32)) hx hb dX7_value_207 (by decide) ?_
    obtain ⟨g3, hf⟩ := um_gu hf
    refine um_iald (pc := 208) Cx hW hh0.2.2 rfl (um_ix_in g3) dX7_value_208 ?_
    refine lv_goto (pc := 209) (tgt := 213) hx hb dX7_value_209 (by decide) ?_
    exact um_iret (pc := 213) Cx hW hS hf dX7_value_213
theorem c_X7_value {σ : um_S} {σ' : um_S} {r : Int32} (h0 : Nat) (a1 : Int32) (a2 : Int32) (a3 : Int32) (hh0 : um_txt sh h0) (hX : um_X sh) (hf : f_X7_value h0 a1 a2 a3 σ = some (r, σ')) : um_M l yX7_value cX7_value 7 (some FieldType.int) (1) (22) Z sh α σ [.ref (α h0), .int a1, .int a2, .int a3] (some (.int r)) σ' :=
  um_start (by decide) (Nat.le_of_ble_eq_true rfl) (fun p e s m below meth c ls Cx hW hS hl => b_X7_value h0 a1 a2 a3 hh0 hX hf Cx hW hS hl)
