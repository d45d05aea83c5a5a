variable {p : Program} {l : Launch} {e : Env} {s : State} {m : MethodId} {args : Array Value} {below : List Frame} {meth : Method} {c : Code} {Z : um_Z} {α : Nat → Nat} {sh : Nat → Option um_Sh}
noncomputable def f_X3_meanLashes_l9 (h0 : Nat) (v1 : Int32) (v2 : Int32) (v3 : Int32) (σ : um_S) : Nat → Int32 → Int32 → Int32 → Option (Int32 × Int32)
  | 0, _, _, _ => none
  | n + 1, v4, v5, v6 =>
    if (σ.1 h0 2) ≤ v6 then
    (some (v4, v5))
    else
    ((f_X5_get h0 v6 (0 : Int32) σ).bind fun x2 =>
    (um_let (fun (x4 : Int32) =>
    (if x4 = v3 then
    ((f_X5_get h0 v6 (1 : Int32) σ).bind fun x6 =>
    (if x6 = v2 then
    ((f_X5_get h0 v6 (2 : Int32) σ).bind fun x8 =>
    (um_let (v4 + x8) fun x9 =>
    (f_X3_meanLashes_l9 h0 v1 v2 v3 σ n x9 (v5 + (1 : Int32)) (v6 + (1 : Int32)))))
    else
    (f_X3_meanLashes_l9 h0 v1 v2 v3 σ n v4 v5 (v6 + (1 : Int32)))))
    else
    (f_X3_meanLashes_l9 h0 v1 v2 v3 σ n v4 v5 (v6 + (1 : Int32))))) fun k3 =>
    (if x2 = v1 then
    (k3 (1 : Int32))
    else
    (k3 (0 : Int32)))))
noncomputable def f_X3_meanLashes (h0 : Nat) (a1 : Int32) (a2 : Int32) (a3 : Int32) (σ : um_S) : Option (Int32) :=
    um_b2 (f_X3_meanLashes_l9 h0 a1 a2 a3 σ um_N (0 : Int32) (0 : Int32) (0 : Int32)) fun x1 x2 =>
    (if x2 = 0 then
    (some (-1000000005 : Int32))
    else
    (if x2 = 0 then none else
    (some (x1 / x2))))
set_option maxRecDepth 100000 in
set_option maxHeartbeats 4000000 in
theorem t_X3_meanLashes_l9 {Q : State → Prop} {o4 : Int32} {o5 : Int32} {σ : um_S} (h0 : Nat) (v1 : Int32) (v2 : Int32) (v3 : Int32) (hh0 : xT h0 = true) (hX : um_X sh) (Cx : um_C p s m meth c args cX3_meanLashes 8 (some FieldType.int) RX3 Z) (hE : ∀ (H : Heap) (locs : List Loc) (ls : Array Slot), um_W Z sh α σ H → va_S (um_D sh α) s.heap H locs → lv_has ls 8 [(4, .int o4), (5, .int o5)] → W p l e { frames := 1, cells := 0, slots := 0, locals := 24 } s m args below meth c H locs 0 0 Q (F0 m 74 ls [])) : ∀ (n : Nat) (v4 : Int32) (v5 : Int32) (v6 : Int32) (H : Heap) (locs : List Loc) (ls : Array Slot), f_X3_meanLashes_l9 h0 v1 v2 v3 σ n v4 v5 v6 = some (o4, o5) → um_W Z sh α σ H → va_S (um_D sh α) s.heap H locs → lv_has ls 8 [(0, .ref (α h0)), (1, .int v1), (2, .int v2), (3, .int v3), (4, .int v4), (5, .int v5), (6, .int v6)] → W p l e { frames := 1, cells := 0, slots := 0, locals := 24 } s m args below meth c H locs 0 0 Q (F0 m 9 ls []) := by
  have hx := Cx.1
  have hb := Cx.2.1
  have hown := Cx.2.2.2.2.1
  have hts := Cx.2.2.2.2.2.1
  intro n
  induction n with
  | zero =>
    intro v4 v5 v6 H locs ls hf hW hS hl
    cases hf
  | succ n ih =>
    intro v4 v5 v6 H locs ls hf hW hS hl
    rw [f_X3_meanLashes_l9] at hf
    refine lv_iload (pc := 9) hx hb dX3_meanLashes_9 (lv_at hl 6 rfl) ?_
    refine lv_aload_n (pc := 11) hx hb dX3_meanLashes_11 rfl (lv_at hl 0 rfl) ?_
    refine gF_X3_22 (pc := 12) Cx hW (xs_tab hX hh0) rfl dX3_meanLashes_12 ?_
    refine lv_icmp_ge (pc := 15) (tgt := 74) hx hb dX3_meanLashes_15 (by decide) (fun c1 => ?_) (fun c1 => ?_)
    · have hf := um_it c1 hf
      clear c1
      cases hf
      exact hE _ _ _ hW hS (lv_sub hl [4, 5] rfl)
    · have hf := um_ie c1 hf
      clear c1
      refine lv_aload_n (pc := 18) hx hb dX3_meanLashes_18 rfl (lv_at hl 0 rfl) ?_
      refine lv_iload (pc := 19) hx hb dX3_meanLashes_19 (lv_at hl 6 rfl) ?_
      refine lv_iconst (pc := 21) (v := (0 : Int32)) hx hb dX3_meanLashes_21 (by decide) ?_
      obtain ⟨x2, hc1, hf⟩ := um_bi hf
      refine um_cVi (pc := 22) (As := [.int v6, .int (0 : Int32)]) (rest := []) Cx (c_X5_get h0 v6 (0 : Int32) hh0 hX hc1) kV_X5_get (Or.inl qM_X3_16) hW hS (xs_tab hX hh0) rfl rfl hl rfl (Nat.le_of_ble_eq_true rfl) (Nat.le_of_ble_eq_true rfl) (Nat.le_of_ble_eq_true rfl) dX3_meanLashes_22 (Nat.le_refl _) (Nat.le_refl _) ?_
      clear hW hS hc1
      intro H locs hW hS
      refine lv_iload_n (pc := 25) hx hb dX3_meanLashes_25 rfl (lv_at hl 1 rfl) ?_
      obtain ⟨k3, hk3, hf⟩ := um_j1 hf
      have J3 : ∀ (x4 : Int32), k3 x4 = some (o4, o5) → ∀ (H : Heap) (locs : List Loc) (ls : Array Slot), um_W Z sh α σ H → va_S (um_D sh α) s.heap H locs → lv_has ls 8 [(0, .ref (α h0)), (1, .int v1), (2, .int v2), (3, .int v3), (4, .int v4), (5, .int v5), (6, .int v6)] → W p l e { frames := 1, cells := 0, slots := 0, locals := 24 } s m args below meth c H locs 0 0 Q (F0 m 34 ls [.int x4]) := by
        intro x4 hf H locs ls hW hS hl
        rw [hk3] at hf
        refine lv_istore (pc := 34) (lv' := [(7, .int x4), (0, .ref (α h0)), (1, .int v1), (2, .int v2), (3, .int v3), (4, .int v4), (5, .int v5), (6, .int v6)]) hx hb dX3_meanLashes_34 hl (by decide) rfl ?_
        clear hl
        intro ls hl
        refine lv_iload (pc := 36) hx hb dX3_meanLashes_36 (lv_at hl 0 rfl) ?_
        refine lv_iload_n (pc := 38) hx hb dX3_meanLashes_38 rfl (lv_at hl 4 rfl) ?_
        refine lv_icmp_ne (pc := 39) (tgt := 68) hx hb dX3_meanLashes_39 (by decide) (fun c1 => ?_) (fun c1 => ?_)
        · have hf := um_ie c1 hf
          clear c1
          refine lv_iinc (pc := 68) (v := v6 + (1 : Int32)) (lv' := [(6, .int (v6 + (1 : Int32))), (7, .int x4), (0, .ref (α h0)), (1, .int v1), (2, .int v2), (3, .int v3), (4, .int v4), (5, .int v5)]) hx hb dX3_meanLashes_68 hl (k := 7) rfl rfl (by decide) rfl ?_
          clear hl
          intro ls hl
          refine lv_goto (pc := 71) (tgt := 9) hx hb dX3_meanLashes_71 (by decide) ?_
          exact ih _ _ _ _ _ _ hf hW hS (lv_sub hl [2, 3, 4, 5, 6, 7, 0] rfl)
        · have hf := um_it c1 hf
          clear c1
          refine lv_aload_n (pc := 42) hx hb dX3_meanLashes_42 rfl (lv_at hl 1 rfl) ?_
          refine lv_iload (pc := 43) hx hb dX3_meanLashes_43 (lv_at hl 7 rfl) ?_
          refine lv_iconst (pc := 45) (v := (1 : Int32)) hx hb dX3_meanLashes_45 (by decide) ?_
          obtain ⟨x6, hc5, hf⟩ := um_bi hf
          refine um_cVi (pc := 46) (As := [.int v6, .int (1 : Int32)]) (rest := []) Cx (c_X5_get h0 v6 (1 : Int32) hh0 hX hc5) kV_X5_get (Or.inl qM_X3_16) hW hS (xs_tab hX hh0) rfl rfl hl rfl (Nat.le_of_ble_eq_true rfl) (Nat.le_of_ble_eq_true rfl) (Nat.le_of_ble_eq_true rfl) dX3_meanLashes_46 (Nat.le_refl _) (Nat.le_refl _) ?_
          clear hW hS hc5
          intro H locs hW hS
          refine lv_iload_n (pc := 49) hx hb dX3_meanLashes_49 rfl (lv_at hl 3 rfl) ?_
          refine lv_icmp_ne (pc := 50) (tgt := 68) hx hb dX3_meanLashes_50 (by decide) (fun c1 => ?_) (fun c1 => ?_)
          · have hf := um_ie c1 hf
            clear c1
            refine lv_iinc (pc := 68) (v := v6 + (1 : Int32)) (lv' := [(6, .int (v6 + (1 : Int32))), (7, .int x4), (0, .ref (α h0)), (1, .int v1), (2, .int v2), (3, .int v3), (4, .int v4), (5, .int v5)]) hx hb dX3_meanLashes_68 hl (k := 7) rfl rfl (by decide) rfl ?_
            clear hl
            intro ls hl
            refine lv_goto (pc := 71) (tgt := 9) hx hb dX3_meanLashes_71 (by decide) ?_
            exact ih _ _ _ _ _ _ hf hW hS (lv_sub hl [2, 3, 4, 5, 6, 7, 0] rfl)
          · have hf := um_it c1 hf
            clear c1
            refine lv_iload (pc := 53) hx hb dX3_meanLashes_53 (lv_at hl 5 rfl) ?_
            refine lv_aload_n (pc := 55) hx hb dX3_meanLashes_55 rfl (lv_at hl 1 rfl) ?_
            refine lv_iload (pc := 56) hx hb dX3_meanLashes_56 (lv_at hl 7 rfl) ?_
            refine lv_iconst (pc := 58) (v := (2 : Int32)) hx hb dX3_meanLashes_58 (by decide) ?_
            obtain ⟨x8, hc7, hf⟩ := um_bi hf
            refine um_cVi (pc := 59) (As := [.int v6, .int (2 : Int32)]) (rest := [.int v4]) Cx (c_X5_get h0 v6 (2 : Int32) hh0 hX hc7) kV_X5_get (Or.inl qM_X3_16) hW hS (xs_tab hX hh0) rfl rfl hl rfl (Nat.le_of_ble_eq_true rfl) (Nat.le_of_ble_eq_true rfl) (Nat.le_of_ble_eq_true rfl) dX3_meanLashes_59 (Nat.le_refl _) (Nat.le_refl _) ?_
            clear hW hS hc7
            intro H locs hW hS
            refine lv_iadd (pc := 62) hx hb dX3_meanLashes_62 ?_
            obtain ⟨x9, e10, hf⟩ := um_le hf
            refine um_top e10 ?_
            clear e10
            refine lv_istore (pc := 63) (lv' := [(4, .int x9), (7, .int x4), (0, .ref (α h0)), (1, .int v1), (2, .int v2), (3, .int v3), (5, .int v5), (6, .int v6)]) hx hb dX3_meanLashes_63 hl (by decide) rfl ?_
            clear hl
            intro ls hl
            refine lv_iinc (pc := 65) (v := v5 + (1 : Int32)) (lv' := [(5, .int (v5 + (1 : Int32))), (4, .int x9), (7, .int x4), (0, .ref (α h0)), (1, .int v1), (2, .int v2), (3, .int v3), (6, .int v6)]) hx hb dX3_meanLashes_65 hl (k := 6) rfl rfl (by decide) rfl ?_
            clear hl
            intro ls hl
            refine lv_iinc (pc := 68) (v := v6 + (1 : Int32)) (lv' := [(6, .int (v6 + (1 : Int32))), (5, .int (v5 + (1 : Int32))), (4, .int x9), (7, .int x4), (0, .ref (α h0)), (1, .int v1), (2, .int v2), (3, .int v3)]) hx hb dX3_meanLashes_68 hl (k := 7) rfl rfl (by decide) rfl ?_
            clear hl
            intro ls hl
            refine lv_goto (pc := 71) (tgt := 9) hx hb dX3_meanLashes_71 (by decide) ?_
            exact ih _ _ _ _ _ _ hf hW hS (lv_sub hl [4, 5, 6, 7, 2, 1, 0] rfl)
      refine lv_icmp_ne (pc := 26) (tgt := 33) hx hb dX3_meanLashes_26 (by decide) (fun c1 => ?_) (fun c1 => ?_)
      · have hf := um_ie c1 hf
        clear c1
        refine lv_iconst (pc := 33) (v := (0 : Int32)) hx hb dX3_meanLashes_33 (by decide) ?_
        exact J3 (0 : Int32) hf _ _ _ hW hS hl
      · have hf := um_it c1 hf
        clear c1
        refine lv_iconst (pc := 29) (v := (1 : Int32)) hx hb dX3_meanLashes_29 (by decide) ?_
        refine lv_goto (pc := 30) (tgt := 34) hx hb dX3_meanLashes_30 (by decide) ?_
        exact J3 (1 : Int32) hf _ _ _ hW hS hl
set_option maxRecDepth 100000 in
set_option maxHeartbeats 4000000 in
theorem b_X3_meanLashes {H : Heap} {locs : List Loc} {ls : Array Slot} {σ : um_S} {r : Int32} (h0 : Nat) (a1 : Int32) (a2 : Int32) (a3 : Int32) (hh0 : xT h0 = true) (hX : um_X sh) (hf : f_X3_meanLashes h0 a1 a2 a3 σ = some r) (Cx : um_C p s m meth c args cX3_meanLashes 8 (some FieldType.int) RX3 Z) (hW : um_W Z sh α σ H) (hS : va_S (um_D sh α) s.heap H locs) (hl : lv_has ls 8 [(0, .ref (α h0)), (1, .int a1), (2, .int a2), (3, .int a3)]) : um_G p l e (1) (24) s m args below meth c Z sh α σ (some (.int r)) H locs (F0 m 0 ls []) := by
  have hx := Cx.1
  have hb := Cx.2.1
  have hown := Cx.2.2.2.2.1
  have hts := Cx.2.2.2.2.2.1
  rw [f_X3_meanLashes] at hf
  refine lv_iconst (pc := 0) (v := (0 : Int32)) hx hb dX3_meanLashes_0 (by decide) ?_
  refine lv_istore (pc := 1) (lv' := [(4, .int (0 : Int32)), (0, .ref (α h0)), (1, .int a1), (2, .int a2), (3, .int a3)]) hx hb dX3_meanLashes_1 hl (by decide) rfl ?_
  clear hl
  intro ls hl
  refine lv_iconst (pc := 3) (v := (0 : Int32)) hx hb dX3_meanLashes_3 (by decide) ?_
  refine lv_istore (pc := 4) (lv' := [(5, .int (0 : Int32)), (4, .int (0 : Int32)), (0, .ref (α h0)), (1, .int a1), (2, .int a2), (3, .int a3)]) hx hb dX3_meanLashes_4 hl (by decide) rfl ?_
  clear hl
  intro ls hl
  refine lv_iconst (pc := 6) (v := (0 : Int32)) hx hb dX3_meanLashes_6 (by decide) ?_
  refine lv_istore (pc := 7) (lv' := [(6, .int (0 : Int32)), (5, .int (0 : Int32)), (4, .int (0 : Int32)), (0, .ref (α h0)), (1, .int a1), (2, .int a2), (3, .int a3)]) hx hb dX3_meanLashes_7 hl (by decide) rfl ?_
  clear hl
  intro ls hl
  obtain ⟨x1, x2, hc3, hf⟩ := um_bi2 hf
  refine t_X3_meanLashes_l9 h0 a1 a2 a3 hh0 hX Cx ?_ um_N _ _ _ _ _ _ hc3 hW hS (lv_sub hl [3, 4, 5, 6, 2, 1, 0] rfl)
  clear hW hS hl hc3
  intro H locs ls hW hS hl
  refine lv_iload (pc := 74) hx hb dX3_meanLashes_74 (lv_at hl 1 rfl) ?_
  refine lv_if_ne (pc := 76) (tgt := 84) hx hb dX3_meanLashes_76 (by decide) (fun c1 => ?_) (fun c1 => ?_)
  · have hf := um_ie c1 hf
    clear c1
    refine lv_iload (pc := 84) hx hb dX3_meanLashes_84 (lv_at hl 0 rfl) ?_
    refine lv_iload (pc := 86) hx hb dX3_meanLashes_86 (lv_at hl 1 rfl) ?_
    obtain ⟨g4, hf⟩ := um_gn hf
    refine lv_idiv (pc := 88) hx hb dX3_meanLashes_88 g4 ?_
    exact um_iretR (pc := 89) Cx hW hS hf dX3_meanLashes_89
  · have hf := um_it c1 hf
    clear c1
    refine lv_ldc (pc := 79) hx hb hown (hts _ qC_X3_26) dX3_meanLashes_79 ?_
    refine lv_goto (pc := 81) (tgt := 89) hx hb dX3_meanLashes_81 (by decide) ?_
    exact um_iretR (pc := 89) Cx hW hS hf dX3_meanLashes_89
theorem c_X3_meanLashes {σ : um_S} {r : Int32} (h0 : Nat) (a1 : Int32) (a2 : Int32) (a3 : Int32) (hh0 : xT h0 = true) (hX : um_X sh) (hf : f_X3_meanLashes h0 a1 a2 a3 σ = some r) : um_M l yX3_meanLashes cX3_meanLashes 8 (some FieldType.int) (1) (24) Z sh α σ [.ref (α h0), .int a1, .int a2, .int a3] (some (.int r)) σ :=
  um_start (by decide) (Nat.le_of_ble_eq_true rfl) (fun p e s m below meth c ls Cx hW hS hl => b_X3_meanLashes h0 a1 a2 a3 hh0 hX hf Cx hW hS hl)
noncomputable def f_X3_harshJudges_l4 (h0 : Nat) (v1 : Int32) (σ : um_S) : Nat → Int32 → Int32 → Option (Int32)
  | 0, _, _ => none
  | n + 1, v2, v3 =>
    if (4 : Int32) ≤ v3 then
    (some v2)
    else
    ((f_X3_meanLashes h0 v3 v1 (1 : Int32) σ).bind fun x2 =>
    ((f_X3_meanLashes h0 v3 v1 (0 : Int32) σ).bind fun x4 =>
    (if x2 = (-1000000005 : Int32) then
    (f_X3_harshJudges_l4 h0 v1 σ n v2 (v3 + (1 : Int32)))
    else
    (if x4 = (-1000000005 : Int32) then
    (f_X3_harshJudges_l4 h0 v1 σ n v2 (v3 + (1 : Int32)))
    else
    (if x2 ≤ ((2 : Int32) * x4) then
    (f_X3_harshJudges_l4 h0 v1 σ n v2 (v3 + (1 : Int32)))
    else
    (um_let (v2 ||| ((1 : Int32) <<< (v3 &&& 31))) fun x5 =>
    (f_X3_harshJudges_l4 h0 v1 σ n x5 (v3 + (1 : Int32)))))))))
noncomputable def f_X3_harshJudges (h0 : Nat) (a1 : Int32) (σ : um_S) : Option (Int32) :=
    (f_X3_harshJudges_l4 h0 a1 σ um_N (0 : Int32) (0 : Int32)).bind fun x1 =>
    (some x1)
set_option maxRecDepth 100000 in
set_option maxHeartbeats 4000000 in
theorem t_X3_harshJudges_l4 {Q : State → Prop} {o2 : Int32} {σ : um_S} (h0 : Nat) (v1 : Int32) (hh0 : xT h0 = true) (hX : um_X sh) (Cx : um_C p s m meth c args cX3_harshJudges 6 (some FieldType.int) RX3 Z) (hE : ∀ (H : Heap) (locs : List Loc) (ls : Array Slot), um_W Z sh α σ H → va_S (um_D sh α) s.heap H locs → lv_has ls 6 [(2, .int o2)] → W p l e { frames := 2, cells := 0, slots := 0, locals := 51 } s m args below meth c H locs 0 0 Q (F0 m 62 ls [])) : ∀ (n : Nat) (v2 : Int32) (v3 : Int32) (H : Heap) (locs : List Loc) (ls : Array Slot), f_X3_harshJudges_l4 h0 v1 σ n v2 v3 = some o2 → um_W Z sh α σ H → va_S (um_D sh α) s.heap H locs → lv_has ls 6 [(0, .ref (α h0)), (1, .int v1), (2, .int v2), (3, .int v3)] → W p l e { frames := 2, cells := 0, slots := 0, locals := 51 } s m args below meth c H locs 0 0 Q (F0 m 4 ls []) := by
  have hx := Cx.1
  have hb := Cx.2.1
  have hown := Cx.2.2.2.2.1
  have hts := Cx.2.2.2.2.2.1
  intro n
  induction n with
  | zero =>
    intro v2 v3 H locs ls hf hW hS hl
    cases hf
  | succ n ih =>
    intro v2 v3 H locs ls hf hW hS hl
    rw [f_X3_harshJudges_l4] at hf
    refine lv_iload_n (pc := 4) hx hb dX3_harshJudges_4 rfl (lv_at hl 3 rfl) ?_
    refine lv_iconst (pc := 5) (v := (4 : Int32)) hx hb dX3_harshJudges_5 (by decide) ?_
    refine lv_icmp_ge (pc := 6) (tgt := 62) hx hb dX3_harshJudges_6 (by decide) (fun c1 => ?_) (fun c1 => ?_)
    · have hf := um_it c1 hf
      clear c1
      cases hf
      exact hE _ _ _ hW hS (lv_sub hl [2] rfl)
    · have hf := um_ie c1 hf
      clear c1
      refine lv_aload_n (pc := 9) hx hb dX3_harshJudges_9 rfl (lv_at hl 0 rfl) ?_
      refine lv_iload_n (pc := 10) hx hb dX3_harshJudges_10 rfl (lv_at hl 3 rfl) ?_
      refine lv_iload_n (pc := 11) hx hb dX3_harshJudges_11 rfl (lv_at hl 1 rfl) ?_
      refine lv_iconst (pc := 12) (v := (1 : Int32)) hx hb dX3_harshJudges_12 (by decide) ?_
      obtain ⟨x2, hc1, hf⟩ := um_bi hf
      refine um_cSi (pc := 13) (As := [.ref (α h0), .int v3, .int v1, .int (1 : Int32)]) (rest := []) Cx (c_X3_meanLashes h0 v3 v1 (1 : Int32) hh0 hX hc1) kS_X3_meanLashes (Or.inl qM_X3_27) hW hS rfl hl rfl (Nat.le_of_ble_eq_true rfl) (Nat.le_of_ble_eq_true rfl) (Nat.le_of_ble_eq_true rfl) dX3_harshJudges_13 (Nat.le_refl _) (Nat.le_refl _) ?_
      clear hW hS hc1
      intro H locs hW hS
      refine lv_istore (pc := 16) (lv' := [(4, .int x2), (0, .ref (α h0)), (1, .int v1), (2, .int v2), (3, .int v3)]) hx hb dX3_harshJudges_16 hl (by decide) rfl ?_
      clear hl
      intro ls hl
      refine lv_aload_n (pc := 18) hx hb dX3_harshJudges_18 rfl (lv_at hl 1 rfl) ?_
      refine lv_iload_n (pc := 19) hx hb dX3_harshJudges_19 rfl (lv_at hl 4 rfl) ?_
      refine lv_iload_n (pc := 20) hx hb dX3_harshJudges_20 rfl (lv_at hl 2 rfl) ?_
      refine lv_iconst (pc := 21) (v := (0 : Int32)) hx hb dX3_harshJudges_21 (by decide) ?_
      obtain ⟨x4, hc3, hf⟩ := um_bi hf
      refine um_cSi (pc := 22) (As := [.ref (α h0), .int v3, .int v1, .int (0 : Int32)]) (rest := []) Cx (c_X3_meanLashes h0 v3 v1 (0 : Int32) hh0 hX hc3) kS_X3_meanLashes (Or.inl qM_X3_27) hW hS rfl hl rfl (Nat.le_of_ble_eq_true rfl) (Nat.le_of_ble_eq_true rfl) (Nat.le_of_ble_eq_true rfl) dX3_harshJudges_22 (Nat.le_refl _) (Nat.le_refl _) ?_
      clear hW hS hc3
      intro H locs hW hS
      refine lv_istore (pc := 25) (lv' := [(5, .int x4), (4, .int x2), (0, .ref (α h0)), (1, .int v1), (2, .int v2), (3, .int v3)]) hx hb dX3_harshJudges_25 hl (by decide) rfl ?_
      clear hl
      intro ls hl
      refine lv_iload (pc := 27) hx hb dX3_harshJudges_27 (lv_at hl 1 rfl) ?_
      refine lv_ldc (pc := 29) hx hb hown (hts _ qC_X3_26) dX3_harshJudges_29 ?_
      refine lv_icmp_eq (pc := 31) (tgt := 56) hx hb dX3_harshJudges_31 (by decide) (fun c1 => ?_) (fun c1 => ?_)
      · have hf := um_it c1 hf
        clear c1
        refine lv_iinc (pc := 56) (v := v3 + (1 : Int32)) (lv' := [(3, .int (v3 + (1 : Int32))), (5, .int x4), (4, .int x2), (0, .ref (α h0)), (1, .int v1), (2, .int v2)]) hx hb dX3_harshJudges_56 hl (k := 5) rfl rfl (by decide) rfl ?_
        clear hl
        intro ls hl
        refine lv_goto (pc := 59) (tgt := 4) hx hb dX3_harshJudges_59 (by decide) ?_
        exact ih _ _ _ _ _ hf hW hS (lv_sub hl [3, 4, 5, 0] rfl)
      · have hf := um_ie c1 hf
        clear c1
        refine lv_iload (pc := 34) hx hb dX3_harshJudges_34 (lv_at hl 0 rfl) ?_
        refine lv_ldc (pc := 36) hx hb hown (hts _ qC_X3_26) dX3_harshJudges_36 ?_
        refine lv_icmp_eq (pc := 38) (tgt := 56) hx hb dX3_harshJudges_38 (by decide) (fun c1 => ?_) (fun c1 => ?_)
        · have hf := um_it c1 hf
          clear c1
          refine lv_iinc (pc := 56) (v := v3 + (1 : Int32)) (lv' := [(3, .int (v3 + (1 : Int32))), (5, .int x4), (4, .int x2), (0, .ref (α h0)), (1, .int v1), (2, .int v2)]) hx hb dX3_harshJudges_56 hl (k := 5) rfl rfl (by decide) rfl ?_
          clear hl
          intro ls hl
          refine lv_goto (pc := 59) (tgt := 4) hx hb dX3_harshJudges_59 (by decide) ?_
          exact ih _ _ _ _ _ hf hW hS (lv_sub hl [3, 4, 5, 0] rfl)
        · have hf := um_ie c1 hf
          clear c1
          refine lv_iload (pc := 41) hx hb dX3_harshJudges_41 (lv_at hl 1 rfl) ?_
          refine lv_iconst (pc := 43) (v := (2 : Int32)) hx hb dX3_harshJudges_43 (by decide) ?_
          refine lv_iload (pc := 44) hx hb dX3_harshJudges_44 (lv_at hl 0 rfl) ?_
          refine lv_imul (pc := 46) hx hb dX3_harshJudges_46 ?_
          refine lv_icmp_le (pc := 47) (tgt := 56) hx hb dX3_harshJudges_47 (by decide) (fun c1 => ?_) (fun c1 => ?_)
          · have hf := um_it c1 hf
            clear c1
            refine lv_iinc (pc := 56) (v := v3 + (1 : Int32)) (lv' := [(3, .int (v3 + (1 : Int32))), (5, .int x4), (4, .int x2), (0, .ref (α h0)), (1, .int v1), (2, .int v2)]) hx hb dX3_harshJudges_56 hl (k := 5) rfl rfl (by decide) rfl ?_
            clear hl
            intro ls hl
            refine lv_goto (pc := 59) (tgt := 4) hx hb dX3_harshJudges_59 (by decide) ?_
            exact ih _ _ _ _ _ hf hW hS (lv_sub hl [3, 4, 5, 0] rfl)
          · have hf := um_ie c1 hf
            clear c1
            refine lv_iload_n (pc := 50) hx hb dX3_harshJudges_50 rfl (lv_at hl 4 rfl) ?_
            refine lv_iconst (pc := 51) (v := (1 : Int32)) hx hb dX3_harshJudges_51 (by decide) ?_
            refine lv_iload_n (pc := 52) hx hb dX3_harshJudges_52 rfl (lv_at hl 5 rfl) ?_
            refine lv_ishl (pc := 53) hx hb dX3_harshJudges_53 ?_
            refine lv_ior (pc := 54) hx hb dX3_harshJudges_54 ?_
            obtain ⟨x5, e6, hf⟩ := um_le hf
            refine um_top e6 ?_
            clear e6
            refine lv_istore_n (pc := 55) (lv' := [(2, .int x5), (5, .int x4), (4, .int x2), (0, .ref (α h0)), (1, .int v1), (3, .int v3)]) hx hb dX3_harshJudges_55 rfl hl (by decide) rfl ?_
            clear hl
            intro ls hl
            refine lv_iinc (pc := 56) (v := v3 + (1 : Int32)) (lv' := [(3, .int (v3 + (1 : Int32))), (2, .int x5), (5, .int x4), (4, .int x2), (0, .ref (α h0)), (1, .int v1)]) hx hb dX3_harshJudges_56 hl (k := 5) rfl rfl (by decide) rfl ?_
            clear hl
            intro ls hl
            refine lv_goto (pc := 59) (tgt := 4) hx hb dX3_harshJudges_59 (by decide) ?_
            exact ih _ _ _ _ _ hf hW hS (lv_sub hl [4, 5, 1, 0] rfl)
set_option maxRecDepth 100000 in
set_option maxHeartbeats 4000000 in
theorem b_X3_harshJudges {H : Heap} {locs : List Loc} {ls : Array Slot} {σ : um_S} {r : Int32} (h0 : Nat) (a1 : Int32) (hh0 : xT h0 = true) (hX : um_X sh) (hf : f_X3_harshJudges h0 a1 σ = some r) (Cx : um_C p s m meth c args cX3_harshJudges 6 (some FieldType.int) RX3 Z) (hW : um_W Z sh α σ H) (hS : va_S (um_D sh α) s.heap H locs) (hl : lv_has ls 6 [(0, .ref (α h0)), (1, .int a1)]) : um_G p l e (2) (51) s m args below meth c Z sh α σ (some (.int r)) H locs (F0 m 0 ls []) := by
  have hx := Cx.1
  have hb := Cx.2.1
  have hown := Cx.2.2.2.2.1
  have hts := Cx.2.2.2.2.2.1
  rw [f_X3_harshJudges] at hf
  refine lv_iconst (pc := 0) (v := (0 : Int32)) hx hb dX3_harshJudges_0 (by decide) ?_
  refine lv_istore_n (pc := 1) (lv' := [(2, .int (0 : Int32)), (0, .ref (α h0)), (1, .int a1)]) hx hb dX3_harshJudges_1 rfl hl (by decide) rfl ?_
  clear hl
  intro ls hl
  refine lv_iconst (pc := 2) (v := (0 : Int32)) hx hb dX3_harshJudges_2 (by decide) ?_
  refine lv_istore_n (pc := 3) (lv' := [(3, .int (0 : Int32)), (2, .int (0 : Int32)), (0, .ref (α h0)), (1, .int a1)]) hx hb dX3_harshJudges_3 rfl hl (by decide) rfl ?_
  clear hl
  intro ls hl
  obtain ⟨x1, hc2, hf⟩ := um_bi hf
  refine t_X3_harshJudges_l4 h0 a1 hh0 hX Cx ?_ um_N _ _ _ _ _ hc2 hW hS (lv_sub hl [2, 3, 1, 0] rfl)
  clear hW hS hl hc2
  intro H locs ls hW hS hl
  refine lv_iload_n (pc := 62) hx hb dX3_harshJudges_62 rfl (lv_at hl 0 rfl) ?_
  exact um_iretR (pc := 63) Cx hW hS hf dX3_harshJudges_63
theorem c_X3_harshJudges {σ : um_S} {r : Int32} (h0 : Nat) (a1 : Int32) (hh0 : xT h0 = true) (hX : um_X sh) (hf : f_X3_harshJudges h0 a1 σ = some r) : um_M l yX3_harshJudges cX3_harshJudges 6 (some FieldType.int) (2) (51) Z sh α σ [.ref (α h0), .int a1] (some (.int r)) σ :=
  um_start (by decide) (Nat.le_of_ble_eq_true rfl) (fun p e s m below meth c ls Cx hW hS hl => b_X3_harshJudges h0 a1 hh0 hX hf Cx hW hS hl)
noncomputable def f_X3_shorten_l10 (h0 : Nat) (h1 : Nat) (v2 : Int32) : Nat → Int32 → um_S → Option (um_S)
  | 0, _, _ => none
  | n + 1, v3, σ =>
    if (nI 6) ≤ v3 then
    (some σ)
    else
    ((f_X5_get h0 v2 v3 σ).bind fun x2 =>
    (if x2 ≤ 0 then
    (f_X3_shorten_l10 h0 h1 v2 n (v3 + (1 : Int32)) σ)
    else
    (if um_ix v2 6 then
    (if um_ix v3 6 then
    (if (σ.1 h1 v3.toNatClampNeg) ≤ ((σ.1 h1 v2.toNatClampNeg) + x2) then
    (f_X3_shorten_l10 h0 h1 v2 n (v3 + (1 : Int32)) σ)
    else
    (if um_ix v2 6 then
    (if um_ix v3 6 then
    (um_let (um_wr σ h1 v3.toNatClampNeg ((σ.1 h1 v2.toNatClampNeg) + x2)) fun σ7 =>
    (f_X3_shorten_l10 h0 h1 v2 n (v3 + (1 : Int32)) σ7)) else none) else none)) else none) else none)))
noncomputable def f_X3_shorten_l2 (h0 : Nat) (h1 : Nat) : Nat → Int32 → um_S → Option (um_S)
  | 0, _, _ => none
  | n + 1, v2, σ =>
    if (nI 6) ≤ v2 then
    (some σ)
    else
    ((f_X3_shorten_l10 h0 h1 v2 um_N (0 : Int32) σ).bind fun σ1 =>
    (f_X3_shorten_l2 h0 h1 n (v2 + (1 : Int32)) σ1))
noncomputable def f_X3_shorten (h0 : Nat) (h1 : Nat) (σ : um_S) : Option (um_S) :=
    (f_X3_shorten_l2 h0 h1 um_N (0 : Int32) σ).bind fun σ1 =>
    (some σ1)
set_option maxRecDepth 100000 in
set_option maxHeartbeats 4000000 in
theorem t_X3_shorten_l10 {Q : State → Prop} {σo : um_S} (h0 : Nat) (h1 : Nat) (v2 : Int32) (hh0 : xT h0 = true) (hh1 : sh h1 = some (.inl (0, some 6))) (hX : um_X sh) (Cx : um_C p s m meth c args cX3_shorten 5 none RX3 Z) (hE : ∀ (H : Heap) (locs : List Loc) (ls : Array Slot), um_W Z sh α σo H → va_S (um_D sh α) s.heap H locs → lv_has ls 5 [(0, .ref (α h0)), (1, .ref (α h1)), (2, .int v2)] → W p l e { frames := 1, cells := 0, slots := 0, locals := 24 } s m args below meth c H locs 0 0 Q (F0 m 56 ls [])) : ∀ (n : Nat) (v3 : Int32) (σ : um_S) (H : Heap) (locs : List Loc) (ls : Array Slot), f_X3_shorten_l10 h0 h1 v2 n v3 σ = some σo → um_W Z sh α σ H → va_S (um_D sh α) s.heap H locs → lv_has ls 5 [(0, .ref (α h0)), (1, .ref (α h1)), (2, .int v2), (3, .int v3)] → W p l e { frames := 1, cells := 0, slots := 0, locals := 24 } s m args below meth c H locs 0 0 Q (F0 m 10 ls []) := by
  have hx := Cx.1
  have hb := Cx.2.1
  have hown := Cx.2.2.2.2.1
  have hts := Cx.2.2.2.2.2.1
  intro n
  induction n with
  | zero =>
    intro v3 σ H locs ls hf hW hS hl
    cases hf
  | succ n ih =>
    intro v3 σ H locs ls hf hW hS hl
    rw [f_X3_shorten_l10] at hf
    refine lv_iload_n (pc := 10) hx hb dX3_shorten_10 rfl (lv_at hl 3 rfl) ?_
    refine lv_aload_n (pc := 11) hx hb dX3_shorten_11 rfl (lv_at hl 1 rfl) ?_
    refine um_alen (pc := 12) (n := 6) Cx hW hh1 rfl (by decide) dX3_shorten_12 ?_
    refine lv_icmp_ge (pc := 13) (tgt := 56) hx hb dX3_shorten_13 (by decide) (fun c1 => ?_) (fun c1 => ?_)
    · have hf := um_it c1 hf
      clear c1
      cases hf
      exact hE _ _ _ hW hS (lv_sub hl [0, 1, 2] rfl)
    · have hf := um_ie c1 hf
      clear c1
      refine lv_aload_n (pc := 16) hx hb dX3_shorten_16 rfl (lv_at hl 0 rfl) ?_
      refine lv_iload_n (pc := 17) hx hb dX3_shorten_17 rfl (lv_at hl 2 rfl) ?_
      refine lv_iload_n (pc := 18) hx hb dX3_shorten_18 rfl (lv_at hl 3 rfl) ?_
      obtain ⟨x2, hc1, hf⟩ := um_bi hf
      refine um_cVi (pc := 19) (As := [.int v2, .int v3]) (rest := []) Cx (c_X5_get h0 v2 v3 hh0 hX hc1) kV_X5_get (Or.inl qM_X3_16) hW hS (xs_tab hX hh0) rfl rfl hl rfl (Nat.le_of_ble_eq_true rfl) (Nat.le_of_ble_eq_true rfl) (Nat.le_of_ble_eq_true rfl) dX3_shorten_19 (Nat.le_refl _) (Nat.le_refl _) ?_
      clear hW hS hc1
      intro H locs hW hS
      refine lv_istore (pc := 22) (lv' := [(4, .int x2), (0, .ref (α h0)), (1, .ref (α h1)), (2, .int v2), (3, .int v3)]) hx hb dX3_shorten_22 hl (by decide) rfl ?_
      clear hl
      intro ls hl
      refine lv_iload (pc := 24) hx hb dX3_shorten_24 (lv_at hl 0 rfl) ?_
      refine lv_if_le (pc := 26) (tgt := 50) hx hb dX3_shorten_26 (by decide) (fun c1 => ?_) (fun c1 => ?_)
      · have hf := um_it c1 hf
        clear c1
        refine lv_iinc (pc := 50) (v := v3 + (1 : Int32)) (lv' := [(3, .int (v3 + (1 : Int32))), (4, .int x2), (0, .ref (α h0)), (1, .ref (α h1)), (2, .int v2)]) hx hb dX3_shorten_50 hl (k := 4) rfl rfl (by decide) rfl ?_
        clear hl
        intro ls hl
        refine lv_goto (pc := 53) (tgt := 10) hx hb dX3_shorten_53 (by decide) ?_
        exact ih _ _ _ _ _ hf hW hS (lv_sub hl [2, 3, 4, 0] rfl)
      · have hf := um_ie c1 hf
        clear c1
        refine lv_aload_n (pc := 29) hx hb dX3_shorten_29 rfl (lv_at hl 2 rfl) ?_
        refine lv_iload_n (pc := 30) hx hb dX3_shorten_30 rfl (lv_at hl 3 rfl) ?_
        obtain ⟨g3, hf⟩ := um_gu hf
        refine um_iald (pc := 31) Cx hW hh1 rfl (um_ix_in g3) dX3_shorten_31 ?_
        refine lv_iload (pc := 32) hx hb dX3_shorten_32 (lv_at hl 0 rfl) ?_
        refine lv_iadd (pc := 34) hx hb dX3_shorten_34 ?_
        refine lv_aload_n (pc := 35) hx hb dX3_shorten_35 rfl (lv_at hl 2 rfl) ?_
        refine lv_iload_n (pc := 36) hx hb dX3_shorten_36 rfl (lv_at hl 4 rfl) ?_
        obtain ⟨g4, hf⟩ := um_gu hf
        refine um_iald (pc := 37) Cx hW hh1 rfl (um_ix_in g4) dX3_shorten_37 ?_
        refine lv_icmp_ge (pc := 38) (tgt := 50) hx hb dX3_shorten_38 (by decide) (fun c1 => ?_) (fun c1 => ?_)
        · have hf := um_it c1 hf
          clear c1
          refine lv_iinc (pc := 50) (v := v3 + (1 : Int32)) (lv' := [(3, .int (v3 + (1 : Int32))), (4, .int x2), (0, .ref (α h0)), (1, .ref (α h1)), (2, .int v2)]) hx hb dX3_shorten_50 hl (k := 4) rfl rfl (by decide) rfl ?_
          clear hl
          intro ls hl
          refine lv_goto (pc := 53) (tgt := 10) hx hb dX3_shorten_53 (by decide) ?_
          exact ih _ _ _ _ _ hf hW hS (lv_sub hl [2, 3, 4, 0] rfl)
        · have hf := um_ie c1 hf
          clear c1
          refine lv_aload_n (pc := 41) hx hb dX3_shorten_41 rfl (lv_at hl 2 rfl) ?_
          refine lv_iload_n (pc := 42) hx hb dX3_shorten_42 rfl (lv_at hl 4 rfl) ?_
          refine lv_aload_n (pc := 43) hx hb dX3_shorten_43 rfl (lv_at hl 2 rfl) ?_
          refine lv_iload_n (pc := 44) hx hb dX3_shorten_44 rfl (lv_at hl 3 rfl) ?_
          obtain ⟨g5, hf⟩ := um_gu hf
          refine um_iald (pc := 45) Cx hW hh1 rfl (um_ix_in g5) dX3_shorten_45 ?_
          refine lv_iload (pc := 46) hx hb dX3_shorten_46 (lv_at hl 0 rfl) ?_
          refine lv_iadd (pc := 48) hx hb dX3_shorten_48 ?_
          obtain ⟨g6, hf⟩ := um_gu hf
          refine um_iast (pc := 49) Cx hW hS hh1 rfl (um_ix_in g6) dX3_shorten_49 ?_
          clear hW hS
          intro H locs hW hS
          obtain ⟨σ7, e8, hf⟩ := um_le hf
          rw [← e8] at hW
          clear e8
          refine lv_iinc (pc := 50) (v := v3 + (1 : Int32)) (lv' := [(3, .int (v3 + (1 : Int32))), (4, .int x2), (0, .ref (α h0)), (1, .ref (α h1)), (2, .int v2)]) hx hb dX3_shorten_50 hl (k := 4) rfl rfl (by decide) rfl ?_
          clear hl
          intro ls hl
          refine lv_goto (pc := 53) (tgt := 10) hx hb dX3_shorten_53 (by decide) ?_
          exact ih _ _ _ _ _ hf hW hS (lv_sub hl [2, 3, 4, 0] rfl)
set_option maxRecDepth 100000 in
set_option maxHeartbeats 4000000 in
theorem t_X3_shorten_l2 {Q : State → Prop} {σo : um_S} (h0 : Nat) (h1 : Nat) (hh0 : xT h0 = true) (hh1 : sh h1 = some (.inl (0, some 6))) (hX : um_X sh) (Cx : um_C p s m meth c args cX3_shorten 5 none RX3 Z) (hE : ∀ (H : Heap) (locs : List Loc) (ls : Array Slot), um_W Z sh α σo H → va_S (um_D sh α) s.heap H locs → lv_has ls 5 [] → W p l e { frames := 1, cells := 0, slots := 0, locals := 24 } s m args below meth c H locs 0 0 Q (F0 m 62 ls [])) : ∀ (n : Nat) (v2 : Int32) (σ : um_S) (H : Heap) (locs : List Loc) (ls : Array Slot), f_X3_shorten_l2 h0 h1 n v2 σ = some σo → um_W Z sh α σ H → va_S (um_D sh α) s.heap H locs → lv_has ls 5 [(0, .ref (α h0)), (1, .ref (α h1)), (2, .int v2)] → W p l e { frames := 1, cells := 0, slots := 0, locals := 24 } s m args below meth c H locs 0 0 Q (F0 m 2 ls []) := by
  have hx := Cx.1
  have hb := Cx.2.1
  have hown := Cx.2.2.2.2.1
  have hts := Cx.2.2.2.2.2.1
  intro n
  induction n with
  | zero =>
    intro v2 σ H locs ls hf hW hS hl
    cases hf
  | succ n ih =>
    intro v2 σ H locs ls hf hW hS hl
    rw [f_X3_shorten_l2] at hf
    refine lv_iload_n (pc := 2) hx hb dX3_shorten_2 rfl (lv_at hl 2 rfl) ?_
    refine lv_aload_n (pc := 3) hx hb dX3_shorten_3 rfl (lv_at hl 1 rfl) ?_
    refine um_alen (pc := 4) (n := 6) Cx hW hh1 rfl (by decide) dX3_shorten_4 ?_
    refine lv_icmp_ge (pc := 5) (tgt := 62) hx hb dX3_shorten_5 (by decide) (fun c1 => ?_) (fun c1 => ?_)
    · have hf := um_it c1 hf
      clear c1
      cases hf
      exact hE _ _ _ hW hS (lv_sub hl [] rfl)
    · have hf := um_ie c1 hf
      clear c1
      refine lv_iconst (pc := 8) (v := (0 : Int32)) hx hb dX3_shorten_8 (by decide) ?_
      refine lv_istore_n (pc := 9) (lv' := [(3, .int (0 : Int32)), (0, .ref (α h0)), (1, .ref (α h1)), (2, .int v2)]) hx hb dX3_shorten_9 rfl hl (by decide) rfl ?_
      clear hl
      intro ls hl
      obtain ⟨σ1, hc2, hf⟩ := um_bi hf
      refine t_X3_shorten_l10 h0 h1 v2 hh0 hh1 hX Cx ?_ um_N _ _ _ _ _ hc2 hW hS (lv_sub hl [1, 2, 3, 0] rfl)
      clear hW hS hl hc2
      intro H locs ls hW hS hl
      refine lv_iinc (pc := 56) (v := v2 + (1 : Int32)) (lv' := [(2, .int (v2 + (1 : Int32))), (0, .ref (α h0)), (1, .ref (α h1))]) hx hb dX3_shorten_56 hl (k := 2) rfl rfl (by decide) rfl ?_
      clear hl
      intro ls hl
      refine lv_goto (pc := 59) (tgt := 2) hx hb dX3_shorten_59 (by decide) ?_
      exact ih _ _ _ _ _ hf hW hS (lv_sub hl [1, 2, 0] rfl)
set_option maxRecDepth 100000 in
set_option maxHeartbeats 4000000 in
theorem b_X3_shorten {H : Heap} {locs : List Loc} {ls : Array Slot} {σ : um_S} {σ' : um_S} (h0 : Nat) (h1 : Nat) (hh0 : xT h0 = true) (hh1 : sh h1 = some (.inl (0, some 6))) (hX : um_X sh) (hf : f_X3_shorten h0 h1 σ = some σ') (Cx : um_C p s m meth c args cX3_shorten 5 none RX3 Z) (hW : um_W Z sh α σ H) (hS : va_S (um_D sh α) s.heap H locs) (hl : lv_has ls 5 [(0, .ref (α h0)), (1, .ref (α h1))]) : um_G p l e (1) (24) s m args below meth c Z sh α σ' none H locs (F0 m 0 ls []) := by
  have hx := Cx.1
  have hb := Cx.2.1
  have hown := Cx.2.2.2.2.1
  have hts := Cx.2.2.2.2.2.1
  rw [f_X3_shorten] at hf
  refine lv_iconst (pc := 0) (v := (0 : Int32)) hx hb dX3_shorten_0 (by decide) ?_
  refine lv_istore_n (pc := 1) (lv' := [(2, .int (0 : Int32)), (0, .ref (α h0)), (1, .ref (α h1))]) hx hb dX3_shorten_1 rfl hl (by decide) rfl ?_
  clear hl
  intro ls hl
  obtain ⟨σ1, hc2, hf⟩ := um_bi hf
  refine t_X3_shorten_l2 h0 h1 hh0 hh1 hX Cx ?_ um_N _ _ _ _ _ hc2 hW hS (lv_sub hl [1, 2, 0] rfl)
  clear hW hS hl hc2
  intro H locs ls hW hS hl
  exact um_vret (pc := 62) Cx hW hS hf dX3_shorten_62
theorem c_X3_shorten {σ : um_S} {σ' : um_S} (h0 : Nat) (h1 : Nat) (hh0 : xT h0 = true) (hh1 : sh h1 = some (.inl (0, some 6))) (hX : um_X sh) (hf : f_X3_shorten h0 h1 σ = some σ') : um_M l yX3_shorten cX3_shorten 5 none (1) (24) Z sh α σ [.ref (α h0), .ref (α h1)] none σ' :=
  um_start (by decide) (Nat.le_of_ble_eq_true rfl) (fun p e s m below meth c ls Cx hW hS hl => b_X3_shorten h0 h1 hh0 hh1 hX hf Cx hW hS hl)
noncomputable def f_X4_become (h0 : Nat) (a1 : Int32) (a2 : Int32) (a3 : Int32) (σ : um_S) : Option (um_S) :=
    (f_X5_set (20 * h0 + 1) a1 (5 : Int32) a2 σ).bind fun σ2 =>
    ((f_X5_set (20 * h0 + 1) a1 (6 : Int32) a3 σ2).bind fun σ4 =>
    ((f_X5_set (20 * h0 + 1) a1 (7 : Int32) (σ4.1 h0 12) σ4).bind fun σ6 =>
    (some σ6)))
set_option maxRecDepth 100000 in
set_option maxHeartbeats 4000000 in
theorem b_X4_become {H : Heap} {locs : List Loc} {ls : Array Slot} {σ : um_S} {σ' : um_S} (h0 : Nat) (a1 : Int32) (a2 : Int32) (a3 : Int32) (hh0 : um_h h0) (hX : um_X sh) (hf : f_X4_become h0 a1 a2 a3 σ = some σ') (Cx : um_C p s m meth c args cX4_become 4 none RX4 Z) (hW : um_W Z sh α σ H) (hS : va_S (um_D sh α) s.heap H locs) (hl : lv_has ls 4 [(0, .ref (α h0)), (1, .int a1), (2, .int a2), (3, .int a3)]) : um_G p l e (1) (25) s m args below meth c Z sh α σ' none H locs (F0 m 0 ls []) := by
  have hx := Cx.1
  have hb := Cx.2.1
  have hown := Cx.2.2.2.2.1
  have hts := Cx.2.2.2.2.2.1
  rw [f_X4_become] at hf
  refine lv_aload_n (pc := 0) hx hb dX4_become_0 rfl (lv_at hl 0 rfl) ?_
  refine gF_X4_20 (pc := 1) Cx hW (xs_shore hX hh0) rfl dX4_become_1 ?_
  refine lv_iload_n (pc := 4) hx hb dX4_become_4 rfl (lv_at hl 1 rfl) ?_
  refine lv_iconst (pc := 5) (v := (5 : Int32)) hx hb dX4_become_5 (by decide) ?_
  refine lv_iload_n (pc := 6) hx hb dX4_become_6 rfl (lv_at hl 2 rfl) ?_
  obtain ⟨σ2, hc1, hf⟩ := um_bi hf
  refine um_cVv (pc := 7) (As := [.int a1, .int (5 : Int32), .int a2]) (rest := []) Cx (c_X5_set (20 * h0 + 1) a1 (5 : Int32) a2 (xs_ht hh0 1 rfl) hX hc1) kV_X5_set (Or.inl qM_X4_79) hW hS (xs_tab hX (xs_ht hh0 1 rfl)) rfl rfl hl rfl (Nat.le_of_ble_eq_true rfl) (Nat.le_of_ble_eq_true rfl) (Nat.le_of_ble_eq_true rfl) dX4_become_7 (Nat.le_refl _) (Nat.le_refl _) ?_
  clear hW hS hc1
  intro H locs hW hS
  refine lv_aload_n (pc := 10) hx hb dX4_become_10 rfl (lv_at hl 0 rfl) ?_
  refine gF_X4_20 (pc := 11) Cx hW (xs_shore hX hh0) rfl dX4_become_11 ?_
  refine lv_iload_n (pc := 14) hx hb dX4_become_14 rfl (lv_at hl 1 rfl) ?_
  refine lv_bipush (pc := 15) (v := (6 : Int32)) hx hb dX4_become_15 (by decide) ?_
  refine lv_iload_n (pc := 17) hx hb dX4_become_17 rfl (lv_at hl 3 rfl) ?_
  obtain ⟨σ4, hc3, hf⟩ := um_bi hf
  refine um_cVv (pc := 18) (As := [.int a1, .int (6 : Int32), .int a3]) (rest := []) Cx (c_X5_set (20 * h0 + 1) a1 (6 : Int32) a3 (xs_ht hh0 1 rfl) hX hc3) kV_X5_set (Or.inl qM_X4_79) hW hS (xs_tab hX (xs_ht hh0 1 rfl)) rfl rfl hl rfl (Nat.le_of_ble_eq_true rfl) (Nat.le_of_ble_eq_true rfl) (Nat.le_of_ble_eq_true rfl) dX4_become_18 (Nat.le_refl _) (Nat.le_refl _) ?_
  clear hW hS hc3
  intro H locs hW hS
  refine lv_aload_n (pc := 21) hx hb dX4_become_21 rfl (lv_at hl 0 rfl) ?_
  refine gF_X4_20 (pc := 22) Cx hW (xs_shore hX hh0) rfl dX4_become_22 ?_
  refine lv_iload_n (pc := 25) hx hb dX4_become_25 rfl (lv_at hl 1 rfl) ?_
  refine lv_bipush (pc := 26) (v := (7 : Int32)) hx hb dX4_become_26 (by decide) ?_
  refine lv_aload_n (pc := 28) hx hb dX4_become_28 rfl (lv_at hl 0 rfl) ?_
  refine gF_X4_64 (pc := 29) Cx hW (xs_shore hX hh0) rfl dX4_become_29 ?_
  obtain ⟨σ6, hc5, hf⟩ := um_bi hf
  refine um_cVv (pc := 32) (As := [.int a1, .int (7 : Int32), .int (σ4.1 h0 12)]) (rest := []) Cx (c_X5_set (20 * h0 + 1) a1 (7 : Int32) (σ4.1 h0 12) (xs_ht hh0 1 rfl) hX hc5) kV_X5_set (Or.inl qM_X4_79) hW hS (xs_tab hX (xs_ht hh0 1 rfl)) rfl rfl hl rfl (Nat.le_of_ble_eq_true rfl) (Nat.le_of_ble_eq_true rfl) (Nat.le_of_ble_eq_true rfl) dX4_become_32 (Nat.le_refl _) (Nat.le_refl _) ?_
  clear hW hS hc5
  intro H locs hW hS
  exact um_vret (pc := 35) Cx hW hS hf dX4_become_35
theorem c_X4_become {σ : um_S} {σ' : um_S} (h0 : Nat) (a1 : Int32) (a2 : Int32) (a3 : Int32) (hh0 : um_h h0) (hX : um_X sh) (hf : f_X4_become h0 a1 a2 a3 σ = some σ') : um_M l yX4_become cX4_become 4 none (1) (25) Z sh α σ [.ref (α h0), .int a1, .int a2, .int a3] none σ' :=
  um_start (by decide) (Nat.le_of_ble_eq_true rfl) (fun p e s m below meth c ls Cx hW hS hl => b_X4_become h0 a1 a2 a3 hh0 hX hf Cx hW hS hl)
noncomputable def f_X5_becomeAs (h0 : Nat) (h1 : Nat) (σ : um_S) : Option (um_S) :=
    if um_cpk (if (nI (xl h0)) < (nI (xl h1)) then (nI (xl h0)) else (nI (xl h1))) (xl h1) (xl h0) then
    (um_let (um_cp σ (h0 + 100) (h1 + 100) (if (nI (xl h0)) < (nI (xl h1)) then (nI (xl h0)) else (nI (xl h1))).toNatClampNeg) fun σ2 =>
    (um_let (um_wr σ2 h0 2 (σ2.1 h1 2)) fun σ4 =>
    (some σ4))) else none
set_option maxRecDepth 100000 in
set_option maxHeartbeats 4000000 in
theorem b_X5_becomeAs {H : Heap} {locs : List Loc} {ls : Array Slot} {σ : um_S} {σ' : um_S} (h0 : Nat) (h1 : Nat) (hh0 : xT h0 = true) (hh1 : xT h1 = true) (hX : um_X sh) (hf : f_X5_becomeAs h0 h1 σ = some σ') (Cx : um_C p s m meth c args cX5_becomeAs 2 none RX5 Z) (hW : um_W Z sh α σ H) (hS : va_S (um_D sh α) s.heap H locs) (hl : lv_has ls 2 [(0, .ref (α h0)), (1, .ref (α h1))]) : um_G p l e (1) (60) s m args below meth c Z sh α σ' none H locs (F0 m 0 ls []) := by
  have hx := Cx.1
  have hb := Cx.2.1
  have hown := Cx.2.2.2.2.1
  have hts := Cx.2.2.2.2.2.1
  rw [f_X5_becomeAs] at hf
  refine lv_aload_n (pc := 0) hx hb dX5_becomeAs_0 rfl (lv_at hl 1 rfl) ?_
  refine gF_X5_21 (pc := 1) Cx hW (xs_tab hX hh1) rfl dX5_becomeAs_1 ?_
  refine lv_iconst (pc := 4) (v := (0 : Int32)) hx hb dX5_becomeAs_4 (by decide) ?_
  refine lv_aload_n (pc := 5) hx hb dX5_becomeAs_5 rfl (lv_at hl 0 rfl) ?_
  refine gF_X5_21 (pc := 6) Cx hW (xs_tab hX hh0) rfl dX5_becomeAs_6 ?_
  refine lv_iconst (pc := 9) (v := (0 : Int32)) hx hb dX5_becomeAs_9 (by decide) ?_
  refine lv_aload_n (pc := 10) hx hb dX5_becomeAs_10 rfl (lv_at hl 1 rfl) ?_
  refine gF_X5_21 (pc := 11) Cx hW (xs_tab hX hh1) rfl dX5_becomeAs_11 ?_
  refine um_alen (pc := 14) (n := (xl h1)) Cx hW (xs_cel hX hh1) rfl (by decide) dX5_becomeAs_14 ?_
  refine lv_aload_n (pc := 15) hx hb dX5_becomeAs_15 rfl (lv_at hl 0 rfl) ?_
  refine gF_X5_21 (pc := 16) Cx hW (xs_tab hX hh0) rfl dX5_becomeAs_16 ?_
  refine um_alen (pc := 19) (n := (xl h0)) Cx hW (xs_cel hX hh0) rfl (by decide) dX5_becomeAs_19 ?_
  refine va_mmin (pc := 20) (rest := [.int (0 : Int32), .ref (α (h0 + 100)), .int (0 : Int32), .ref (α (h1 + 100))]) hx hb (Cx.2.2.2.1.trans hl.1.symm) hown (hts _ qM_X5_36) (hts _ qT_J9_min_7cf53) (hts _ qN_J9) (hts _ qK_J9_min_7cf53) (Nat.le_of_ble_eq_true rfl) (Nat.le_of_ble_eq_true rfl) (Nat.le_refl _) (Nat.le_refl _) dX5_becomeAs_20 ?_
  obtain ⟨g1, hf⟩ := um_gu hf
  refine um_copy (pc := 23) (rest := []) Cx hl qM_X5_39 hW hS (xs_cel hX hh1) rfl (xs_cel hX hh0) rfl (um_cpk0 g1) (um_cpk1 g1) (um_cpk2 g1) (Nat.le_of_ble_eq_true rfl) (Nat.le_of_ble_eq_true rfl) dX5_becomeAs_23 ?_
  clear hW hS
  intro H locs hW hS
  obtain ⟨σ2, e3, hf⟩ := um_le hf
  rw [← e3] at hW
  clear e3
  refine lv_aload_n (pc := 26) hx hb dX5_becomeAs_26 rfl (lv_at hl 0 rfl) ?_
  refine lv_aload_n (pc := 27) hx hb dX5_becomeAs_27 rfl (lv_at hl 1 rfl) ?_
  refine gF_X5_25 (pc := 28) Cx hW (xs_tab hX hh1) rfl dX5_becomeAs_28 ?_
  refine gP_X5_25 (pc := 31) Cx hW hS (xs_tab hX hh0) rfl dX5_becomeAs_31 ?_
  clear hW hS
  intro H locs hW hS
  obtain ⟨σ4, e5, hf⟩ := um_le hf
  rw [← e5] at hW
  clear e5
  exact um_vret (pc := 34) Cx hW hS hf dX5_becomeAs_34
theorem c_X5_becomeAs {σ : um_S} {σ' : um_S} (h0 : Nat) (h1 : Nat) (hh0 : xT h0 = true) (hh1 : xT h1 = true) (hX : um_X sh) (hf : f_X5_becomeAs h0 h1 σ = some σ') : um_M l yX5_becomeAs cX5_becomeAs 2 none (1) (60) Z sh α σ [.ref (α h0), .ref (α h1)] none σ' :=
  um_start (by decide) (Nat.le_of_ble_eq_true rfl) (fun p e s m below meth c ls Cx hW hS hl => b_X5_becomeAs h0 h1 hh0 hh1 hX hf Cx hW hS hl)
noncomputable def f_X4_becomeAs (h0 : Nat) (h1 : Nat) (σ : um_S) : Option (um_S) :=
    (f_X5_becomeAs (20 * h0 + 0) (20 * h1 + 0) σ).bind fun σ2 =>
    ((f_X5_becomeAs (20 * h0 + 1) (20 * h1 + 1) σ2).bind fun σ4 =>
    ((f_X5_becomeAs (20 * h0 + 2) (20 * h1 + 2) σ4).bind fun σ6 =>
    ((f_X5_becomeAs (20 * h0 + 3) (20 * h1 + 3) σ6).bind fun σ8 =>
    ((f_X5_becomeAs (20 * h0 + 4) (20 * h1 + 4) σ8).bind fun σ10 =>
    ((f_X5_becomeAs (20 * h0 + 5) (20 * h1 + 5) σ10).bind fun σ12 =>
    ((f_X5_becomeAs (20 * h0 + 6) (20 * h1 + 6) σ12).bind fun σ14 =>
    ((f_X5_becomeAs (20 * h0 + 7) (20 * h1 + 7) σ14).bind fun σ16 =>
    ((f_X5_becomeAs (20 * h0 + 8) (20 * h1 + 8) σ16).bind fun σ18 =>
    ((f_X5_becomeAs (20 * h0 + 9) (20 * h1 + 9) σ18).bind fun σ20 =>
    ((f_X5_becomeAs (20 * h0 + 10) (20 * h1 + 10) σ20).bind fun σ22 =>
    ((f_X1_becomeAs h0 h1 σ22).bind fun σ24 =>
    (um_let (um_wr σ24 h0 12 (σ24.1 h1 12)) fun σ25 =>
    (um_let (um_wr σ25 h0 13 (σ25.1 h1 13)) fun σ27 =>
    (um_let (um_wr σ27 h0 14 (σ27.1 h1 14)) fun σ29 =>
    (some σ29)))))))))))))))
set_option maxRecDepth 100000 in
set_option maxHeartbeats 4000000 in
theorem b_X4_becomeAs {H : Heap} {locs : List Loc} {ls : Array Slot} {σ : um_S} {σ' : um_S} (h0 : Nat) (h1 : Nat) (hh0 : um_h h0) (hh1 : um_h h1) (hX : um_X sh) (hf : f_X4_becomeAs h0 h1 σ = some σ') (Cx : um_C p s m meth c args cX4_becomeAs 2 none RX4 Z) (hW : um_W Z sh α σ H) (hS : va_S (um_D sh α) s.heap H locs) (hl : lv_has ls 2 [(0, .ref (α h0)), (1, .ref (α h1))]) : um_G p l e (2) (81) s m args below meth c Z sh α σ' none H locs (F0 m 0 ls []) := by
  have hx := Cx.1
  have hb := Cx.2.1
  have hown := Cx.2.2.2.2.1
  have hts := Cx.2.2.2.2.2.1
  rw [f_X4_becomeAs] at hf
  refine lv_aload_n (pc := 0) hx hb dX4_becomeAs_0 rfl (lv_at hl 0 rfl) ?_
  refine gF_X4_14 (pc := 1) Cx hW (xs_shore hX hh0) rfl dX4_becomeAs_1 ?_
  refine lv_aload_n (pc := 4) hx hb dX4_becomeAs_4 rfl (lv_at hl 1 rfl) ?_
  refine gF_X4_14 (pc := 5) Cx hW (xs_shore hX hh1) rfl dX4_becomeAs_5 ?_
  obtain ⟨σ2, hc1, hf⟩ := um_bi hf
  refine um_cVv (pc := 8) (As := [.ref (α (20 * h1 + 0))]) (rest := []) Cx (c_X5_becomeAs (20 * h0 + 0) (20 * h1 + 0) (xs_ht hh0 0 rfl) (xs_ht hh1 0 rfl) hX hc1) kV_X5_becomeAs (Or.inl qM_X4_57) hW hS (xs_tab hX (xs_ht hh0 0 rfl)) rfl rfl hl rfl (Nat.le_of_ble_eq_true rfl) (Nat.le_of_ble_eq_true rfl) (Nat.le_of_ble_eq_true rfl) dX4_becomeAs_8 (Nat.le_refl _) (Nat.le_refl _) ?_
  clear hW hS hc1
  intro H locs hW hS
  refine lv_aload_n (pc := 11) hx hb dX4_becomeAs_11 rfl (lv_at hl 0 rfl) ?_
  refine gF_X4_20 (pc := 12) Cx hW (xs_shore hX hh0) rfl dX4_becomeAs_12 ?_
  refine lv_aload_n (pc := 15) hx hb dX4_becomeAs_15 rfl (lv_at hl 1 rfl) ?_
  refine gF_X4_20 (pc := 16) Cx hW (xs_shore hX hh1) rfl dX4_becomeAs_16 ?_
  obtain ⟨σ4, hc3, hf⟩ := um_bi hf
  refine um_cVv (pc := 19) (As := [.ref (α (20 * h1 + 1))]) (rest := []) Cx (c_X5_becomeAs (20 * h0 + 1) (20 * h1 + 1) (xs_ht hh0 1 rfl) (xs_ht hh1 1 rfl) hX hc3) kV_X5_becomeAs (Or.inl qM_X4_57) hW hS (xs_tab hX (xs_ht hh0 1 rfl)) rfl rfl hl rfl (Nat.le_of_ble_eq_true rfl) (Nat.le_of_ble_eq_true rfl) (Nat.le_of_ble_eq_true rfl) dX4_becomeAs_19 (Nat.le_refl _) (Nat.le_refl _) ?_
  clear hW hS hc3
  intro H locs hW hS
  refine lv_aload_n (pc := 22) hx hb dX4_becomeAs_22 rfl (lv_at hl 0 rfl) ?_
  refine gF_X4_23 (pc := 23) Cx hW (xs_shore hX hh0) rfl dX4_becomeAs_23 ?_
  refine lv_aload_n (pc := 26) hx hb dX4_becomeAs_26 rfl (lv_at hl 1 rfl) ?_
  refine gF_X4_23 (pc := 27) Cx hW (xs_shore hX hh1) rfl dX4_becomeAs_27 ?_
  obtain ⟨σ6, hc5, hf⟩ := um_bi hf
  refine um_cVv (pc := 30) (As := [.ref (α (20 * h1 + 2))]) (rest := []) Cx (c_X5_becomeAs (20 * h0 + 2) (20 * h1 + 2) (xs_ht hh0 2 rfl) (xs_ht hh1 2 rfl) hX hc5) kV_X5_becomeAs (Or.inl qM_X4_57) hW hS (xs_tab hX (xs_ht hh0 2 rfl)) rfl rfl hl rfl (Nat.le_of_ble_eq_true rfl) (Nat.le_of_ble_eq_true rfl) (Nat.le_of_ble_eq_true rfl) dX4_becomeAs_30 (Nat.le_refl _) (Nat.le_refl _) ?_
  clear hW hS hc5
  intro H locs hW hS
  refine lv_aload_n (pc := 33) hx hb dX4_becomeAs_33 rfl (lv_at hl 0 rfl) ?_
  refine gF_X4_26 (pc := 34) Cx hW (xs_shore hX hh0) rfl dX4_becomeAs_34 ?_
  refine lv_aload_n (pc := 37) hx hb dX4_becomeAs_37 rfl (lv_at hl 1 rfl) ?_
  refine gF_X4_26 (pc := 38) Cx hW (xs_shore hX hh1) rfl dX4_becomeAs_38 ?_
  obtain ⟨σ8, hc7, hf⟩ := um_bi hf
  refine um_cVv (pc := 41) (As := [.ref (α (20 * h1 + 3))]) (rest := []) Cx (c_X5_becomeAs (20 * h0 + 3) (20 * h1 + 3) (xs_ht hh0 3 rfl) (xs_ht hh1 3 rfl) hX hc7) kV_X5_becomeAs (Or.inl qM_X4_57) hW hS (xs_tab hX (xs_ht hh0 3 rfl)) rfl rfl hl rfl (Nat.le_of_ble_eq_true rfl) (Nat.le_of_ble_eq_true rfl) (Nat.le_of_ble_eq_true rfl) dX4_becomeAs_41 (Nat.le_refl _) (Nat.le_refl _) ?_
  clear hW hS hc7
  intro H locs hW hS
  refine lv_aload_n (pc := 44) hx hb dX4_becomeAs_44 rfl (lv_at hl 0 rfl) ?_
  refine gF_X4_29 (pc := 45) Cx hW (xs_shore hX hh0) rfl dX4_becomeAs_45 ?_
  refine lv_aload_n (pc := 48) hx hb dX4_becomeAs_48 rfl (lv_at hl 1 rfl) ?_
  refine gF_X4_29 (pc := 49) Cx hW (xs_shore hX hh1) rfl dX4_becomeAs_49 ?_
  obtain ⟨σ10, hc9, hf⟩ := um_bi hf
  refine um_cVv (pc := 52) (As := [.ref (α (20 * h1 + 4))]) (rest := []) Cx (c_X5_becomeAs (20 * h0 + 4) (20 * h1 + 4) (xs_ht hh0 4 rfl) (xs_ht hh1 4 rfl) hX hc9) kV_X5_becomeAs (Or.inl qM_X4_57) hW hS (xs_tab hX (xs_ht hh0 4 rfl)) rfl rfl hl rfl (Nat.le_of_ble_eq_true rfl) (Nat.le_of_ble_eq_true rfl) (Nat.le_of_ble_eq_true rfl) dX4_becomeAs_52 (Nat.le_refl _) (Nat.le_refl _) ?_
  clear hW hS hc9
  intro H locs hW hS
  refine lv_aload_n (pc := 55) hx hb dX4_becomeAs_55 rfl (lv_at hl 0 rfl) ?_
  refine gF_X4_32 (pc := 56) Cx hW (xs_shore hX hh0) rfl dX4_becomeAs_56 ?_
  refine lv_aload_n (pc := 59) hx hb dX4_becomeAs_59 rfl (lv_at hl 1 rfl) ?_
  refine gF_X4_32 (pc := 60) Cx hW (xs_shore hX hh1) rfl dX4_becomeAs_60 ?_
  obtain ⟨σ12, hc11, hf⟩ := um_bi hf
  refine um_cVv (pc := 63) (As := [.ref (α (20 * h1 + 5))]) (rest := []) Cx (c_X5_becomeAs (20 * h0 + 5) (20 * h1 + 5) (xs_ht hh0 5 rfl) (xs_ht hh1 5 rfl) hX hc11) kV_X5_becomeAs (Or.inl qM_X4_57) hW hS (xs_tab hX (xs_ht hh0 5 rfl)) rfl rfl hl rfl (Nat.le_of_ble_eq_true rfl) (Nat.le_of_ble_eq_true rfl) (Nat.le_of_ble_eq_true rfl) dX4_becomeAs_63 (Nat.le_refl _) (Nat.le_refl _) ?_
  clear hW hS hc11
  intro H locs hW hS
  refine lv_aload_n (pc := 66) hx hb dX4_becomeAs_66 rfl (lv_at hl 0 rfl) ?_
  refine gF_X4_35 (pc := 67) Cx hW (xs_shore hX hh0) rfl dX4_becomeAs_67 ?_
  refine lv_aload_n (pc := 70) hx hb dX4_becomeAs_70 rfl (lv_at hl 1 rfl) ?_
  refine gF_X4_35 (pc := 71) Cx hW (xs_shore hX hh1) rfl dX4_becomeAs_71 ?_
  obtain ⟨σ14, hc13, hf⟩ := um_bi hf
  refine um_cVv (pc := 74) (As := [.ref (α (20 * h1 + 6))]) (rest := []) Cx (c_X5_becomeAs (20 * h0 + 6) (20 * h1 + 6) (xs_ht hh0 6 rfl) (xs_ht hh1 6 rfl) hX hc13) kV_X5_becomeAs (Or.inl qM_X4_57) hW hS (xs_tab hX (xs_ht hh0 6 rfl)) rfl rfl hl rfl (Nat.le_of_ble_eq_true rfl) (Nat.le_of_ble_eq_true rfl) (Nat.le_of_ble_eq_true rfl) dX4_becomeAs_74 (Nat.le_refl _) (Nat.le_refl _) ?_
  clear hW hS hc13
  intro H locs hW hS
  refine lv_aload_n (pc := 77) hx hb dX4_becomeAs_77 rfl (lv_at hl 0 rfl) ?_
  refine gF_X4_38 (pc := 78) Cx hW (xs_shore hX hh0) rfl dX4_becomeAs_78 ?_
  refine lv_aload_n (pc := 81) hx hb dX4_becomeAs_81 rfl (lv_at hl 1 rfl) ?_
  refine gF_X4_38 (pc := 82) Cx hW (xs_shore hX hh1) rfl dX4_becomeAs_82 ?_
  obtain ⟨σ16, hc15, hf⟩ := um_bi hf
  refine um_cVv (pc := 85) (As := [.ref (α (20 * h1 + 7))]) (rest := []) Cx (c_X5_becomeAs (20 * h0 + 7) (20 * h1 + 7) (xs_ht hh0 7 rfl) (xs_ht hh1 7 rfl) hX hc15) kV_X5_becomeAs (Or.inl qM_X4_57) hW hS (xs_tab hX (xs_ht hh0 7 rfl)) rfl rfl hl rfl (Nat.le_of_ble_eq_true rfl) (Nat.le_of_ble_eq_true rfl) (Nat.le_of_ble_eq_true rfl) dX4_becomeAs_85 (Nat.le_refl _) (Nat.le_refl _) ?_
  clear hW hS hc15
  intro H locs hW hS
  refine lv_aload_n (pc := 88) hx hb dX4_becomeAs_88 rfl (lv_at hl 0 rfl) ?_
  refine gF_X4_41 (pc := 89) Cx hW (xs_shore hX hh0) rfl dX4_becomeAs_89 ?_
  refine lv_aload_n (pc := 92) hx hb dX4_becomeAs_92 rfl (lv_at hl 1 rfl) ?_
  refine gF_X4_41 (pc := 93) Cx hW (xs_shore hX hh1) rfl dX4_becomeAs_93 ?_
  obtain ⟨σ18, hc17, hf⟩ := um_bi hf
  refine um_cVv (pc := 96) (As := [.ref (α (20 * h1 + 8))]) (rest := []) Cx (c_X5_becomeAs (20 * h0 + 8) (20 * h1 + 8) (xs_ht hh0 8 rfl) (xs_ht hh1 8 rfl) hX hc17) kV_X5_becomeAs (Or.inl qM_X4_57) hW hS (xs_tab hX (xs_ht hh0 8 rfl)) rfl rfl hl rfl (Nat.le_of_ble_eq_true rfl) (Nat.le_of_ble_eq_true rfl) (Nat.le_of_ble_eq_true rfl) dX4_becomeAs_96 (Nat.le_refl _) (Nat.le_refl _) ?_
  clear hW hS hc17
  intro H locs hW hS
  refine lv_aload_n (pc := 99) hx hb dX4_becomeAs_99 rfl (lv_at hl 0 rfl) ?_
  refine gF_X4_44 (pc := 100) Cx hW (xs_shore hX hh0) rfl dX4_becomeAs_100 ?_
  refine lv_aload_n (pc := 103) hx hb dX4_becomeAs_103 rfl (lv_at hl 1 rfl) ?_
  refine gF_X4_44 (pc := 104) Cx hW (xs_shore hX hh1) rfl dX4_becomeAs_104 ?_
  obtain ⟨σ20, hc19, hf⟩ := um_bi hf
  refine um_cVv (pc := 107) (As := [.ref (α (20 * h1 + 9))]) (rest := []) Cx (c_X5_becomeAs (20 * h0 + 9) (20 * h1 + 9) (xs_ht hh0 9 rfl) (xs_ht hh1 9 rfl) hX hc19) kV_X5_becomeAs (Or.inl qM_X4_57) hW hS (xs_tab hX (xs_ht hh0 9 rfl)) rfl rfl hl rfl (Nat.le_of_ble_eq_true rfl) (Nat.le_of_ble_eq_true rfl) (Nat.le_of_ble_eq_true rfl) dX4_becomeAs_107 (Nat.le_refl _) (Nat.le_refl _) ?_
  clear hW hS hc19
  intro H locs hW hS
  refine lv_aload_n (pc := 110) hx hb dX4_becomeAs_110 rfl (lv_at hl 0 rfl) ?_
  refine gF_X4_47 (pc := 111) Cx hW (xs_shore hX hh0) rfl dX4_becomeAs_111 ?_
  refine lv_aload_n (pc := 114) hx hb dX4_becomeAs_114 rfl (lv_at hl 1 rfl) ?_
  refine gF_X4_47 (pc := 115) Cx hW (xs_shore hX hh1) rfl dX4_becomeAs_115 ?_
  obtain ⟨σ22, hc21, hf⟩ := um_bi hf
  refine um_cVv (pc := 118) (As := [.ref (α (20 * h1 + 10))]) (rest := []) Cx (c_X5_becomeAs (20 * h0 + 10) (20 * h1 + 10) (xs_ht hh0 10 rfl) (xs_ht hh1 10 rfl) hX hc21) kV_X5_becomeAs (Or.inl qM_X4_57) hW hS (xs_tab hX (xs_ht hh0 10 rfl)) rfl rfl hl rfl (Nat.le_of_ble_eq_true rfl) (Nat.le_of_ble_eq_true rfl) (Nat.le_of_ble_eq_true rfl) dX4_becomeAs_118 (Nat.le_refl _) (Nat.le_refl _) ?_
  clear hW hS hc21
  intro H locs hW hS
  refine lv_aload_n (pc := 121) hx hb dX4_becomeAs_121 rfl (lv_at hl 0 rfl) ?_
  refine gF_X4_53 (pc := 122) Cx hW (xs_shore hX hh0) rfl dX4_becomeAs_122 ?_
  refine lv_aload_n (pc := 125) hx hb dX4_becomeAs_125 rfl (lv_at hl 1 rfl) ?_
  refine gF_X4_53 (pc := 126) Cx hW (xs_shore hX hh1) rfl dX4_becomeAs_126 ?_
  obtain ⟨σ24, hc23, hf⟩ := um_bi hf
  refine um_cVv (pc := 129) (As := [.ref (α (20 * h1 + 11))]) (rest := []) Cx (c_X1_becomeAs h0 h1 hh0 hh1 hX hc23) kV_X1_becomeAs (Or.inl qM_X4_61) hW hS (xs_law hX hh0) rfl rfl hl rfl (Nat.le_of_ble_eq_true rfl) (Nat.le_of_ble_eq_true rfl) (Nat.le_of_ble_eq_true rfl) dX4_becomeAs_129 (Nat.le_refl _) (Nat.le_refl _) ?_
  clear hW hS hc23
  intro H locs hW hS
  refine lv_aload_n (pc := 132) hx hb dX4_becomeAs_132 rfl (lv_at hl 0 rfl) ?_
  refine lv_aload_n (pc := 133) hx hb dX4_becomeAs_133 rfl (lv_at hl 1 rfl) ?_
  refine gF_X4_64 (pc := 134) Cx hW (xs_shore hX hh1) rfl dX4_becomeAs_134 ?_
  refine gP_X4_64 (pc := 137) Cx hW hS (xs_shore hX hh0) rfl dX4_becomeAs_137 ?_
  clear hW hS
  intro H locs hW hS
  obtain ⟨σ25, e26, hf⟩ := um_le hf
  rw [← e26] at hW
  clear e26
  refine lv_aload_n (pc := 140) hx hb dX4_becomeAs_140 rfl (lv_at hl 0 rfl) ?_
  refine lv_aload_n (pc := 141) hx hb dX4_becomeAs_141 rfl (lv_at hl 1 rfl) ?_
  refine gF_X4_68 (pc := 142) Cx hW (xs_shore hX hh1) rfl dX4_becomeAs_142 ?_
  refine gP_X4_68 (pc := 145) Cx hW hS (xs_shore hX hh0) rfl dX4_becomeAs_145 ?_
  clear hW hS
  intro H locs hW hS
  obtain ⟨σ27, e28, hf⟩ := um_le hf
  rw [← e28] at hW
  clear e28
  refine lv_aload_n (pc := 148) hx hb dX4_becomeAs_148 rfl (lv_at hl 0 rfl) ?_
  refine lv_aload_n (pc := 149) hx hb dX4_becomeAs_149 rfl (lv_at hl 1 rfl) ?_
  refine gF_X4_71 (pc := 150) Cx hW (xs_shore hX hh1) rfl dX4_becomeAs_150 ?_
  refine gP_X4_71 (pc := 153) Cx hW hS (xs_shore hX hh0) rfl dX4_becomeAs_153 ?_
  clear hW hS
  intro H locs hW hS
  obtain ⟨σ29, e30, hf⟩ := um_le hf
  rw [← e30] at hW
  clear e30
  exact um_vret (pc := 156) Cx hW hS hf dX4_becomeAs_156
theorem c_X4_becomeAs {σ : um_S} {σ' : um_S} (h0 : Nat) (h1 : Nat) (hh0 : um_h h0) (hh1 : um_h h1) (hX : um_X sh) (hf : f_X4_becomeAs h0 h1 σ = some σ') : um_M l yX4_becomeAs cX4_becomeAs 2 none (2) (81) Z sh α σ [.ref (α h0), .ref (α h1)] none σ' :=
  um_start (by decide) (Nat.le_of_ble_eq_true rfl) (fun p e s m below meth c ls Cx hW hS hl => b_X4_becomeAs h0 h1 hh0 hh1 hX hf Cx hW hS hl)
noncomputable def f_X4_bringLetters_l2 (h0 : Nat) : Nat → Int32 → um_S → Option (um_S)
  | 0, _, _ => none
  | n + 1, v1, σ =>
    if (σ.1 (20 * h0 + 4) 2) ≤ v1 then
    (some σ)
    else
    ((f_X5_get (20 * h0 + 4) v1 (2 : Int32) σ).bind fun x2 =>
    (if x2 = (σ.1 h0 12) then
    ((f_X5_set (20 * h0 + 4) v1 (3 : Int32) (1 : Int32) σ).bind fun σ4 =>
    ((f_X5_get (20 * h0 + 4) v1 (0 : Int32) σ4).bind fun x6 =>
    ((f_X4_isDead h0 x6 σ4).bind fun x8 =>
    (um_let (fun (x10 : Int32) =>
    ((f_X5_set (20 * h0 + 4) v1 (4 : Int32) x10 σ4).bind fun σ12 =>
    (f_X4_bringLetters_l2 h0 n (v1 + (1 : Int32)) σ12))) fun k9 =>
    (if (um_b x8) = 0 then
    (k9 (0 : Int32))
    else
    (k9 (1 : Int32)))))))
    else
    (f_X4_bringLetters_l2 h0 n (v1 + (1 : Int32)) σ)))
noncomputable def f_X4_bringLetters (h0 : Nat) (σ : um_S) : Option (um_S) :=
    (f_X4_bringLetters_l2 h0 um_N (0 : Int32) σ).bind fun σ1 =>
    (some σ1)
set_option maxRecDepth 100000 in
set_option maxHeartbeats 4000000 in
theorem t_X4_bringLetters_l2 {Q : State → Prop} {σo : um_S} (h0 : Nat) (hh0 : um_h h0) (hX : um_X sh) (Cx : um_C p s m meth c args cX4_bringLetters 2 none RX4 Z) (hE : ∀ (H : Heap) (locs : List Loc) (ls : Array Slot), um_W Z sh α σo H → va_S (um_D sh α) s.heap H locs → lv_has ls 2 [] → W p l e { frames := 2, cells := 0, slots := 0, locals := 45 } s m args below meth c H locs 0 0 Q (F0 m 75 ls [])) : ∀ (n : Nat) (v1 : Int32) (σ : um_S) (H : Heap) (locs : List Loc) (ls : Array Slot), f_X4_bringLetters_l2 h0 n v1 σ = some σo → um_W Z sh α σ H → va_S (um_D sh α) s.heap H locs → lv_has ls 2 [(0, .ref (α h0)), (1, .int v1)] → W p l e { frames := 2, cells := 0, slots := 0, locals := 45 } s m args below meth c H locs 0 0 Q (F0 m 2 ls []) := by
  have hx := Cx.1
  have hb := Cx.2.1
  have hown := Cx.2.2.2.2.1
  have hts := Cx.2.2.2.2.2.1
  intro n
  induction n with
  | zero =>
    intro v1 σ H locs ls hf hW hS hl
    cases hf
  | succ n ih =>
    intro v1 σ H locs ls hf hW hS hl
    rw [f_X4_bringLetters_l2] at hf
    refine lv_iload_n (pc := 2) hx hb dX4_bringLetters_2 rfl (lv_at hl 1 rfl) ?_
    refine lv_aload_n (pc := 3) hx hb dX4_bringLetters_3 rfl (lv_at hl 0 rfl) ?_
    refine gF_X4_29 (pc := 4) Cx hW (xs_shore hX hh0) rfl dX4_bringLetters_4 ?_
    refine gF_X4_100 (pc := 7) Cx hW (xs_tab hX (xs_ht hh0 4 rfl)) rfl dX4_bringLetters_7 ?_
    refine lv_icmp_ge (pc := 10) (tgt := 75) hx hb dX4_bringLetters_10 (by decide) (fun c1 => ?_) (fun c1 => ?_)
    · have hf := um_it c1 hf
      clear c1
      cases hf
      exact hE _ _ _ hW hS (lv_sub hl [] rfl)
    · have hf := um_ie c1 hf
      clear c1
      refine lv_aload_n (pc := 13) hx hb dX4_bringLetters_13 rfl (lv_at hl 0 rfl) ?_
      refine gF_X4_29 (pc := 14) Cx hW (xs_shore hX hh0) rfl dX4_bringLetters_14 ?_
      refine lv_iload_n (pc := 17) hx hb dX4_bringLetters_17 rfl (lv_at hl 1 rfl) ?_
      refine lv_iconst (pc := 18) (v := (2 : Int32)) hx hb dX4_bringLetters_18 (by decide) ?_
      obtain ⟨x2, hc1, hf⟩ := um_bi hf
      refine um_cVi (pc := 19) (As := [.int v1, .int (2 : Int32)]) (rest := []) Cx (c_X5_get (20 * h0 + 4) v1 (2 : Int32) (xs_ht hh0 4 rfl) hX hc1) kV_X5_get (Or.inl qM_X4_82) hW hS (xs_tab hX (xs_ht hh0 4 rfl)) rfl rfl hl rfl (Nat.le_of_ble_eq_true rfl) (Nat.le_of_ble_eq_true rfl) (Nat.le_of_ble_eq_true rfl) dX4_bringLetters_19 (Nat.le_refl _) (Nat.le_refl _) ?_
      clear hW hS hc1
      intro H locs hW hS
      refine lv_aload_n (pc := 22) hx hb dX4_bringLetters_22 rfl (lv_at hl 0 rfl) ?_
      refine gF_X4_64 (pc := 23) Cx hW (xs_shore hX hh0) rfl dX4_bringLetters_23 ?_
      refine lv_icmp_ne (pc := 26) (tgt := 69) hx hb dX4_bringLetters_26 (by decide) (fun c1 => ?_) (fun c1 => ?_)
      · have hf := um_ie c1 hf
        clear c1
        refine lv_iinc (pc := 69) (v := v1 + (1 : Int32)) (lv' := [(1, .int (v1 + (1 : Int32))), (0, .ref (α h0))]) hx hb dX4_bringLetters_69 hl (k := 1) rfl rfl (by decide) rfl ?_
        clear hl
        intro ls hl
        refine lv_goto (pc := 72) (tgt := 2) hx hb dX4_bringLetters_72 (by decide) ?_
        exact ih _ _ _ _ _ hf hW hS (lv_sub hl [1, 0] rfl)
      · have hf := um_it c1 hf
        clear c1
        refine lv_aload_n (pc := 29) hx hb dX4_bringLetters_29 rfl (lv_at hl 0 rfl) ?_
        refine gF_X4_29 (pc := 30) Cx hW (xs_shore hX hh0) rfl dX4_bringLetters_30 ?_
        refine lv_iload_n (pc := 33) hx hb dX4_bringLetters_33 rfl (lv_at hl 1 rfl) ?_
        refine lv_iconst (pc := 34) (v := (3 : Int32)) hx hb dX4_bringLetters_34 (by decide) ?_
        refine lv_iconst (pc := 35) (v := (1 : Int32)) hx hb dX4_bringLetters_35 (by decide) ?_
        obtain ⟨σ4, hc3, hf⟩ := um_bi hf
        refine um_cVv (pc := 36) (As := [.int v1, .int (3 : Int32), .int (1 : Int32)]) (rest := []) Cx (c_X5_set (20 * h0 + 4) v1 (3 : Int32) (1 : Int32) (xs_ht hh0 4 rfl) hX hc3) kV_X5_set (Or.inl qM_X4_79) hW hS (xs_tab hX (xs_ht hh0 4 rfl)) rfl rfl hl rfl (Nat.le_of_ble_eq_true rfl) (Nat.le_of_ble_eq_true rfl) (Nat.le_of_ble_eq_true rfl) dX4_bringLetters_36 (Nat.le_refl _) (Nat.le_refl _) ?_
        clear hW hS hc3
        intro H locs hW hS
        refine lv_aload_n (pc := 39) hx hb dX4_bringLetters_39 rfl (lv_at hl 0 rfl) ?_
        refine gF_X4_29 (pc := 40) Cx hW (xs_shore hX hh0) rfl dX4_bringLetters_40 ?_
        refine lv_iload_n (pc := 43) hx hb dX4_bringLetters_43 rfl (lv_at hl 1 rfl) ?_
        refine lv_iconst (pc := 44) (v := (4 : Int32)) hx hb dX4_bringLetters_44 (by decide) ?_
        refine lv_aload_n (pc := 45) hx hb dX4_bringLetters_45 rfl (lv_at hl 0 rfl) ?_
        refine lv_aload_n (pc := 46) hx hb dX4_bringLetters_46 rfl (lv_at hl 0 rfl) ?_
        refine gF_X4_29 (pc := 47) Cx hW (xs_shore hX hh0) rfl dX4_bringLetters_47 ?_
        refine lv_iload_n (pc := 50) hx hb dX4_bringLetters_50 rfl (lv_at hl 1 rfl) ?_
        refine lv_iconst (pc := 51) (v := (0 : Int32)) hx hb dX4_bringLetters_51 (by decide) ?_
        obtain ⟨x6, hc5, hf⟩ := um_bi hf
        refine um_cVi (pc := 52) (As := [.int v1, .int (0 : Int32)]) (rest := [.ref (α h0), .int (4 : Int32), .int v1, .ref (α (20 * h0 + 4))]) Cx (c_X5_get (20 * h0 + 4) v1 (0 : Int32) (xs_ht hh0 4 rfl) hX hc5) kV_X5_get (Or.inl qM_X4_82) hW hS (xs_tab hX (xs_ht hh0 4 rfl)) rfl rfl hl rfl (Nat.le_of_ble_eq_true rfl) (Nat.le_of_ble_eq_true rfl) (Nat.le_of_ble_eq_true rfl) dX4_bringLetters_52 (Nat.le_refl _) (Nat.le_refl _) ?_
        clear hW hS hc5
        intro H locs hW hS
        obtain ⟨x8, hc7, hf⟩ := um_bi hf
        refine um_cVi (pc := 55) (As := [.int x6]) (rest := [.int (4 : Int32), .int v1, .ref (α (20 * h0 + 4))]) Cx (c_X4_isDead h0 x6 hh0 hX hc7) kV_X4_isDead (Or.inl qM_X4_86) hW hS (xs_shore hX hh0) rfl rfl hl rfl (Nat.le_of_ble_eq_true rfl) (Nat.le_of_ble_eq_true rfl) (Nat.le_of_ble_eq_true rfl) dX4_bringLetters_55 (Nat.le_refl _) (Nat.le_refl _) ?_
        clear hW hS hc7
        intro H locs hW hS
        obtain ⟨k9, hk9, hf⟩ := um_j1 hf
        have J9 : ∀ (x10 : Int32), k9 x10 = some σo → ∀ (H : Heap) (locs : List Loc) (ls : Array Slot), um_W Z sh α σ4 H → va_S (um_D sh α) s.heap H locs → lv_has ls 2 [(0, .ref (α h0)), (1, .int v1)] → W p l e { frames := 2, cells := 0, slots := 0, locals := 45 } s m args below meth c H locs 0 0 Q (F0 m 66 ls [.int x10, .int (4 : Int32), .int v1, .ref (α (20 * h0 + 4))]) := by
          intro x10 hf H locs ls hW hS hl
          rw [hk9] at hf
          obtain ⟨σ12, hc11, hf⟩ := um_bi hf
          refine um_cVv (pc := 66) (As := [.int v1, .int (4 : Int32), .int x10]) (rest := []) Cx (c_X5_set (20 * h0 + 4) v1 (4 : Int32) x10 (xs_ht hh0 4 rfl) hX hc11) kV_X5_set (Or.inl qM_X4_79) hW hS (xs_tab hX (xs_ht hh0 4 rfl)) rfl rfl hl rfl (Nat.le_of_ble_eq_true rfl) (Nat.le_of_ble_eq_true rfl) (Nat.le_of_ble_eq_true rfl) dX4_bringLetters_66 (Nat.le_refl _) (Nat.le_refl _) ?_
          clear hW hS hc11
          intro H locs hW hS
          refine lv_iinc (pc := 69) (v := v1 + (1 : Int32)) (lv' := [(1, .int (v1 + (1 : Int32))), (0, .ref (α h0))]) hx hb dX4_bringLetters_69 hl (k := 1) rfl rfl (by decide) rfl ?_
          clear hl
          intro ls hl
          refine lv_goto (pc := 72) (tgt := 2) hx hb dX4_bringLetters_72 (by decide) ?_
          exact ih _ _ _ _ _ hf hW hS (lv_sub hl [1, 0] rfl)
        refine lv_if_eq (pc := 58) (tgt := 65) hx hb dX4_bringLetters_58 (by decide) (fun c1 => ?_) (fun c1 => ?_)
        · have hf := um_it c1 hf
          clear c1
          refine lv_iconst (pc := 65) (v := (0 : Int32)) hx hb dX4_bringLetters_65 (by decide) ?_
          exact J9 (0 : Int32) hf _ _ _ hW hS hl
        · have hf := um_ie c1 hf
          clear c1
          refine lv_iconst (pc := 61) (v := (1 : Int32)) hx hb dX4_bringLetters_61 (by decide) ?_
          refine lv_goto (pc := 62) (tgt := 66) hx hb dX4_bringLetters_62 (by decide) ?_
          exact J9 (1 : Int32) hf _ _ _ hW hS hl
set_option maxRecDepth 100000 in
set_option maxHeartbeats 4000000 in
theorem b_X4_bringLetters {H : Heap} {locs : List Loc} {ls : Array Slot} {σ : um_S} {σ' : um_S} (h0 : Nat) (hh0 : um_h h0) (hX : um_X sh) (hf : f_X4_bringLetters h0 σ = some σ') (Cx : um_C p s m meth c args cX4_bringLetters 2 none RX4 Z) (hW : um_W Z sh α σ H) (hS : va_S (um_D sh α) s.heap H locs) (hl : lv_has ls 2 [(0, .ref (α h0))]) : um_G p l e (2) (45) s m args below meth c Z sh α σ' none H locs (F0 m 0 ls []) := by
  have hx := Cx.1
  have hb := Cx.2.1
  have hown := Cx.2.2.2.2.1
  have hts := Cx.2.2.2.2.2.1
  rw [f_X4_bringLetters] at hf
  refine lv_iconst (pc := 0) (v := (0 : Int32)) hx hb dX4_bringLetters_0 (by decide) ?_
  refine lv_istore_n (pc := 1) (lv' := [(1, .int (0 : Int32)), (0, .ref (α h0))]) hx hb dX4_bringLetters_1 rfl hl (by decide) rfl ?_
  clear hl
  intro ls hl
  obtain ⟨σ1, hc2, hf⟩ := um_bi hf
  refine t_X4_bringLetters_l2 h0 hh0 hX Cx ?_ um_N _ _ _ _ _ hc2 hW hS (lv_sub hl [1, 0] rfl)
  clear hW hS hl hc2
  intro H locs ls hW hS hl
  exact um_vret (pc := 75) Cx hW hS hf dX4_bringLetters_75
theorem c_X4_bringLetters {σ : um_S} {σ' : um_S} (h0 : Nat) (hh0 : um_h h0) (hX : um_X sh) (hf : f_X4_bringLetters h0 σ = some σ') : um_M l yX4_bringLetters cX4_bringLetters 2 none (2) (45) Z sh α σ [.ref (α h0)] none σ' :=
  um_start (by decide) (Nat.le_of_ble_eq_true rfl) (fun p e s m below meth c ls Cx hW hS hl => b_X4_bringLetters h0 hh0 hX hf Cx hW hS hl)
noncomputable def f_X4_deadMen_l4 (h0 : Nat) (σ : um_S) : Nat → Int32 → Int32 → Option (Int32)
  | 0, _, _ => none
  | n + 1, v1, v2 =>
    if (σ.1 (20 * h0 + 1) 2) ≤ v2 then
    (some v1)
    else
    ((f_X4_isDead h0 v2 σ).bind fun x2 =>
    (if (um_b x2) = 0 then
    (f_X4_deadMen_l4 h0 σ n v1 (v2 + (1 : Int32)))
    else
    (f_X4_deadMen_l4 h0 σ n (v1 + (1 : Int32)) (v2 + (1 : Int32)))))
noncomputable def f_X4_deadMen (h0 : Nat) (σ : um_S) : Option (Int32) :=
    (f_X4_deadMen_l4 h0 σ um_N (0 : Int32) (0 : Int32)).bind fun x1 =>
    (some x1)
set_option maxRecDepth 100000 in
set_option maxHeartbeats 4000000 in
theorem t_X4_deadMen_l4 {Q : State → Prop} {o1 : Int32} {σ : um_S} (h0 : Nat) (hh0 : um_h h0) (hX : um_X sh) (Cx : um_C p s m meth c args cX4_deadMen 3 (some FieldType.int) RX4 Z) (hE : ∀ (H : Heap) (locs : List Loc) (ls : Array Slot), um_W Z sh α σ H → va_S (um_D sh α) s.heap H locs → lv_has ls 3 [(1, .int o1)] → W p l e { frames := 2, cells := 0, slots := 0, locals := 45 } s m args below meth c H locs 0 0 Q (F0 m 32 ls [])) : ∀ (n : Nat) (v1 : Int32) (v2 : Int32) (H : Heap) (locs : List Loc) (ls : Array Slot), f_X4_deadMen_l4 h0 σ n v1 v2 = some o1 → um_W Z sh α σ H → va_S (um_D sh α) s.heap H locs → lv_has ls 3 [(0, .ref (α h0)), (1, .int v1), (2, .int v2)] → W p l e { frames := 2, cells := 0, slots := 0, locals := 45 } s m args below meth c H locs 0 0 Q (F0 m 4 ls []) := by
  have hx := Cx.1
  have hb := Cx.2.1
  have hown := Cx.2.2.2.2.1
  have hts := Cx.2.2.2.2.2.1
  intro n
  induction n with
  | zero =>
    intro v1 v2 H locs ls hf hW hS hl
    cases hf
  | succ n ih =>
    intro v1 v2 H locs ls hf hW hS hl
    rw [f_X4_deadMen_l4] at hf
    refine lv_iload_n (pc := 4) hx hb dX4_deadMen_4 rfl (lv_at hl 2 rfl) ?_
    refine lv_aload_n (pc := 5) hx hb dX4_deadMen_5 rfl (lv_at hl 0 rfl) ?_
    refine gF_X4_20 (pc := 6) Cx hW (xs_shore hX hh0) rfl dX4_deadMen_6 ?_
    refine gF_X4_100 (pc := 9) Cx hW (xs_tab hX (xs_ht hh0 1 rfl)) rfl dX4_deadMen_9 ?_
    refine lv_icmp_ge (pc := 12) (tgt := 32) hx hb dX4_deadMen_12 (by decide) (fun c1 => ?_) (fun c1 => ?_)
    · have hf := um_it c1 hf
      clear c1
      cases hf
      exact hE _ _ _ hW hS (lv_sub hl [1] rfl)
    · have hf := um_ie c1 hf
      clear c1
      refine lv_aload_n (pc := 15) hx hb dX4_deadMen_15 rfl (lv_at hl 0 rfl) ?_
      refine lv_iload_n (pc := 16) hx hb dX4_deadMen_16 rfl (lv_at hl 2 rfl) ?_
      obtain ⟨x2, hc1, hf⟩ := um_bi hf
      refine um_cVi (pc := 17) (As := [.int v2]) (rest := []) Cx (c_X4_isDead h0 v2 hh0 hX hc1) kV_X4_isDead (Or.inl qM_X4_86) hW hS (xs_shore hX hh0) rfl rfl hl rfl (Nat.le_of_ble_eq_true rfl) (Nat.le_of_ble_eq_true rfl) (Nat.le_of_ble_eq_true rfl) dX4_deadMen_17 (Nat.le_refl _) (Nat.le_refl _) ?_
      clear hW hS hc1
      intro H locs hW hS
      refine lv_if_eq (pc := 20) (tgt := 26) hx hb dX4_deadMen_20 (by decide) (fun c1 => ?_) (fun c1 => ?_)
      · have hf := um_it c1 hf
        clear c1
        refine lv_iinc (pc := 26) (v := v2 + (1 : Int32)) (lv' := [(2, .int (v2 + (1 : Int32))), (0, .ref (α h0)), (1, .int v1)]) hx hb dX4_deadMen_26 hl (k := 2) rfl rfl (by decide) rfl ?_
        clear hl
        intro ls hl
        refine lv_goto (pc := 29) (tgt := 4) hx hb dX4_deadMen_29 (by decide) ?_
        exact ih _ _ _ _ _ hf hW hS (lv_sub hl [1, 2, 0] rfl)
      · have hf := um_ie c1 hf
        clear c1
        refine lv_iinc (pc := 23) (v := v1 + (1 : Int32)) (lv' := [(1, .int (v1 + (1 : Int32))), (0, .ref (α h0)), (2, .int v2)]) hx hb dX4_deadMen_23 hl (k := 1) rfl rfl (by decide) rfl ?_
        clear hl
        intro ls hl
        refine lv_iinc (pc := 26) (v := v2 + (1 : Int32)) (lv' := [(2, .int (v2 + (1 : Int32))), (1, .int (v1 + (1 : Int32))), (0, .ref (α h0))]) hx hb dX4_deadMen_26 hl (k := 2) rfl rfl (by decide) rfl ?_
        clear hl
        intro ls hl
        refine lv_goto (pc := 29) (tgt := 4) hx hb dX4_deadMen_29 (by decide) ?_
        exact ih _ _ _ _ _ hf hW hS (lv_sub hl [2, 1, 0] rfl)
set_option maxRecDepth 100000 in
set_option maxHeartbeats 4000000 in
theorem b_X4_deadMen {H : Heap} {locs : List Loc} {ls : Array Slot} {σ : um_S} {r : Int32} (h0 : Nat) (hh0 : um_h h0) (hX : um_X sh) (hf : f_X4_deadMen h0 σ = some r) (Cx : um_C p s m meth c args cX4_deadMen 3 (some FieldType.int) RX4 Z) (hW : um_W Z sh α σ H) (hS : va_S (um_D sh α) s.heap H locs) (hl : lv_has ls 3 [(0, .ref (α h0))]) : um_G p l e (2) (45) s m args below meth c Z sh α σ (some (.int r)) H locs (F0 m 0 ls []) := by
  have hx := Cx.1
  have hb := Cx.2.1
  have hown := Cx.2.2.2.2.1
  have hts := Cx.2.2.2.2.2.1
  rw [f_X4_deadMen] at hf
  refine lv_iconst (pc := 0) (v := (0 : Int32)) hx hb dX4_deadMen_0 (by decide) ?_
  refine lv_istore_n (pc := 1) (lv' := [(1, .int (0 : Int32)), (0, .ref (α h0))]) hx hb dX4_deadMen_1 rfl hl (by decide) rfl ?_
  clear hl
  intro ls hl
  refine lv_iconst (pc := 2) (v := (0 : Int32)) hx hb dX4_deadMen_2 (by decide) ?_
  refine lv_istore_n (pc := 3) (lv' := [(2, .int (0 : Int32)), (1, .int (0 : Int32)), (0, .ref (α h0))]) hx hb dX4_deadMen_3 rfl hl (by decide) rfl ?_
  clear hl
  intro ls hl
  obtain ⟨x1, hc2, hf⟩ := um_bi hf
  refine t_X4_deadMen_l4 h0 hh0 hX Cx ?_ um_N _ _ _ _ _ hc2 hW hS (lv_sub hl [2, 1, 0] rfl)
  clear hW hS hl hc2
  intro H locs ls hW hS hl
  refine lv_iload_n (pc := 32) hx hb dX4_deadMen_32 rfl (lv_at hl 0 rfl) ?_
  exact um_iretR (pc := 33) Cx hW hS hf dX4_deadMen_33
theorem c_X4_deadMen {σ : um_S} {r : Int32} (h0 : Nat) (hh0 : um_h h0) (hX : um_X sh) (hf : f_X4_deadMen h0 σ = some r) : um_M l yX4_deadMen cX4_deadMen 3 (some FieldType.int) (2) (45) Z sh α σ [.ref (α h0)] (some (.int r)) σ :=
  um_start (by decide) (Nat.le_of_ble_eq_true rfl) (fun p e s m below meth c ls Cx hW hS hl => b_X4_deadMen h0 hh0 hX hf Cx hW hS hl)
noncomputable def f_X4_earn (h0 : Nat) (a1 : Int32) (σ : um_S) : Option (um_S) :=
    (f_X5_get (20 * h0 + 1) a1 (5 : Int32) σ).bind fun x2 =>
    (um_let (fun (_u : Unit) =>
    (um_let (fun (x5 : Int32) =>
    ((f_X5_get (20 * h0 + 1) a1 (0 : Int32) σ).bind fun x7 =>
    (um_b2 (f_X1_rule h0 (4 : Int32) (σ.1 h0 12) x5 x7 (0 : Int32) σ) fun x10 σ9 =>
    (um_let (um_wr σ9 h0 14 ((σ9.1 h0 14) + x10)) fun σ11 =>
    ((f_X5_get (20 * h0 + 1) a1 (9 : Int32) σ11).bind fun x14 =>
    ((f_X5_set (20 * h0 + 1) a1 (9 : Int32) ((x14 + x5) - x10) σ11).bind fun σ16 =>
    (some σ16))))))) fun k4 =>
    (if x2 = (4 : Int32) then
    (k4 (5 : Int32))
    else
    ((f_X5_get (20 * h0 + 1) a1 (6 : Int32) σ).bind fun x18 =>
    ((f_X5_get (20 * h0 + 2) x18 (3 : Int32) σ).bind fun x20 =>
    (k4 x20)))))) fun k3 =>
    (if x2 = (2 : Int32) then
    (k3 ())
    else
    (if x2 = (4 : Int32) then
    (k3 ())
    else
    (some σ))))
set_option maxRecDepth 100000 in
set_option maxHeartbeats 4000000 in
theorem b_X4_earn {H : Heap} {locs : List Loc} {ls : Array Slot} {σ : um_S} {σ' : um_S} (h0 : Nat) (a1 : Int32) (hh0 : um_h h0) (hX : um_X sh) (hf : f_X4_earn h0 a1 σ = some σ') (Cx : um_C p s m meth c args cX4_earn 5 none RX4 Z) (hW : um_W Z sh α σ H) (hS : va_S (um_D sh α) s.heap H locs) (hl : lv_has ls 5 [(0, .ref (α h0)), (1, .int a1)]) : um_G p l e (3) (78) s m args below meth c Z sh α σ' none H locs (F0 m 0 ls []) := by
  have hx := Cx.1
  have hb := Cx.2.1
  have hown := Cx.2.2.2.2.1
  have hts := Cx.2.2.2.2.2.1
  rw [f_X4_earn] at hf
  refine lv_aload_n (pc := 0) hx hb dX4_earn_0 rfl (lv_at hl 0 rfl) ?_
  refine gF_X4_20 (pc := 1) Cx hW (xs_shore hX hh0) rfl dX4_earn_1 ?_
  refine lv_iload_n (pc := 4) hx hb dX4_earn_4 rfl (lv_at hl 1 rfl) ?_
  refine lv_iconst (pc := 5) (v := (5 : Int32)) hx hb dX4_earn_5 (by decide) ?_
  obtain ⟨x2, hc1, hf⟩ := um_bi hf
  refine um_cVi (pc := 6) (As := [.int a1, .int (5 : Int32)]) (rest := []) Cx (c_X5_get (20 * h0 + 1) a1 (5 : Int32) (xs_ht hh0 1 rfl) hX hc1) kV_X5_get (Or.inl qM_X4_82) hW hS (xs_tab hX (xs_ht hh0 1 rfl)) rfl rfl hl rfl (Nat.le_of_ble_eq_true rfl) (Nat.le_of_ble_eq_true rfl) (Nat.le_of_ble_eq_true rfl) dX4_earn_6 (Nat.le_refl _) (Nat.le_refl _) ?_
  clear hW hS hc1
  intro H locs hW hS
  refine lv_istore_n (pc := 9) (lv' := [(2, .int x2), (0, .ref (α h0)), (1, .int a1)]) hx hb dX4_earn_9 rfl hl (by decide) rfl ?_
  clear hl
  intro ls hl
  refine lv_iload_n (pc := 10) hx hb dX4_earn_10 rfl (lv_at hl 0 rfl) ?_
  refine lv_iconst (pc := 11) (v := (2 : Int32)) hx hb dX4_earn_11 (by decide) ?_
  obtain ⟨k3, hk3, hf⟩ := um_j1 hf
  have J3 : ∀ (_u : Unit), k3 _u = some σ' → ∀ (H : Heap) (locs : List Loc) (ls : Array Slot), um_W Z sh α σ H → va_S (um_D sh α) s.heap H locs → lv_has ls 5 [(0, .ref (α h0)), (1, .int a1), (2, .int x2)] → um_G p l e (3) (78) s m args below meth c Z sh α σ' none H locs (F0 m 21 ls []) := by
    intro _u hf H locs ls hW hS hl
    rw [hk3] at hf
    refine lv_iload_n (pc := 21) hx hb dX4_earn_21 rfl (lv_at hl 2 rfl) ?_
    refine lv_iconst (pc := 22) (v := (4 : Int32)) hx hb dX4_earn_22 (by decide) ?_
    obtain ⟨k4, hk4, hf⟩ := um_j1 hf
    have J4 : ∀ (x5 : Int32), k4 x5 = some σ' → ∀ (H : Heap) (locs : List Loc) (ls : Array Slot), um_W Z sh α σ H → va_S (um_D sh α) s.heap H locs → lv_has ls 5 [(0, .ref (α h0)), (1, .int a1)] → um_G p l e (3) (78) s m args below meth c Z sh α σ' none H locs (F0 m 48 ls [.int x5]) := by
      intro x5 hf H locs ls hW hS hl
      rw [hk4] at hf
      refine lv_istore_n (pc := 48) (lv' := [(3, .int x5), (0, .ref (α h0)), (1, .int a1)]) hx hb dX4_earn_48 rfl hl (by decide) rfl ?_
      clear hl
      intro ls hl
      refine lv_aload_n (pc := 49) hx hb dX4_earn_49 rfl (lv_at hl 1 rfl) ?_
      refine gF_X4_53 (pc := 50) Cx hW (xs_shore hX hh0) rfl dX4_earn_50 ?_
      refine lv_iconst (pc := 53) (v := (4 : Int32)) hx hb dX4_earn_53 (by decide) ?_
      refine lv_aload_n (pc := 54) hx hb dX4_earn_54 rfl (lv_at hl 1 rfl) ?_
      refine gF_X4_64 (pc := 55) Cx hW (xs_shore hX hh0) rfl dX4_earn_55 ?_
      refine lv_iload_n (pc := 58) hx hb dX4_earn_58 rfl (lv_at hl 0 rfl) ?_
      refine lv_aload_n (pc := 59) hx hb dX4_earn_59 rfl (lv_at hl 1 rfl) ?_
      refine gF_X4_20 (pc := 60) Cx hW (xs_shore hX hh0) rfl dX4_earn_60 ?_
      refine lv_iload_n (pc := 63) hx hb dX4_earn_63 rfl (lv_at hl 2 rfl) ?_
      refine lv_iconst (pc := 64) (v := (0 : Int32)) hx hb dX4_earn_64 (by decide) ?_
      obtain ⟨x7, hc6, hf⟩ := um_bi hf
      refine um_cVi (pc := 65) (As := [.int a1, .int (0 : Int32)]) (rest := [.int x5, .int (σ.1 h0 12), .int (4 : Int32), .ref (α (20 * h0 + 11))]) Cx (c_X5_get (20 * h0 + 1) a1 (0 : Int32) (xs_ht hh0 1 rfl) hX hc6) kV_X5_get (Or.inl qM_X4_82) hW hS (xs_tab hX (xs_ht hh0 1 rfl)) rfl rfl hl rfl (Nat.le_of_ble_eq_true rfl) (Nat.le_of_ble_eq_true rfl) (Nat.le_of_ble_eq_true rfl) dX4_earn_65 (Nat.le_refl _) (Nat.le_refl _) ?_
      clear hW hS hc6
      intro H locs hW hS
      refine lv_iconst (pc := 68) (v := (0 : Int32)) hx hb dX4_earn_68 (by decide) ?_
      obtain ⟨x10, σ9, hc8, hf⟩ := um_bi2 hf
      refine um_cVi (pc := 69) (As := [.int (4 : Int32), .int (σ.1 h0 12), .int x5, .int x7, .int (0 : Int32)]) (rest := []) Cx (c_X1_rule h0 (4 : Int32) (σ.1 h0 12) x5 x7 (0 : Int32) hh0 hX hc8) kV_X1_rule (Or.inl qM_X4_116) hW hS (xs_law hX hh0) rfl rfl hl rfl (Nat.le_of_ble_eq_true rfl) (Nat.le_of_ble_eq_true rfl) (Nat.le_of_ble_eq_true rfl) dX4_earn_69 (Nat.le_refl _) (Nat.le_refl _) ?_
      clear hW hS hc8
      intro H locs hW hS
      refine lv_istore (pc := 72) (lv' := [(4, .int x10), (3, .int x5), (0, .ref (α h0)), (1, .int a1)]) hx hb dX4_earn_72 hl (by decide) rfl ?_
      clear hl
      intro ls hl
      refine lv_aload_n (pc := 74) hx hb dX4_earn_74 rfl (lv_at hl 2 rfl) ?_
      refine lv_dup (pc := 75) hx hb dX4_earn_75 rfl ?_
      refine gF_X4_71 (pc := 76) Cx hW (xs_shore hX hh0) rfl dX4_earn_76 ?_
      refine lv_iload (pc := 79) hx hb dX4_earn_79 (lv_at hl 0 rfl) ?_
      refine lv_iadd (pc := 81) hx hb dX4_earn_81 ?_
      refine gP_X4_71 (pc := 82) Cx hW hS (xs_shore hX hh0) rfl dX4_earn_82 ?_
      clear hW hS
      intro H locs hW hS
      obtain ⟨σ11, e12, hf⟩ := um_le hf
      rw [← e12] at hW
      clear e12
      refine lv_aload_n (pc := 85) hx hb dX4_earn_85 rfl (lv_at hl 2 rfl) ?_
      refine gF_X4_20 (pc := 86) Cx hW (xs_shore hX hh0) rfl dX4_earn_86 ?_
      refine lv_iload_n (pc := 89) hx hb dX4_earn_89 rfl (lv_at hl 3 rfl) ?_
      refine lv_bipush (pc := 90) (v := (9 : Int32)) hx hb dX4_earn_90 (by decide) ?_
      refine lv_aload_n (pc := 92) hx hb dX4_earn_92 rfl (lv_at hl 2 rfl) ?_
      refine gF_X4_20 (pc := 93) Cx hW (xs_shore hX hh0) rfl dX4_earn_93 ?_
      refine lv_iload_n (pc := 96) hx hb dX4_earn_96 rfl (lv_at hl 3 rfl) ?_
      refine lv_bipush (pc := 97) (v := (9 : Int32)) hx hb dX4_earn_97 (by decide) ?_
      obtain ⟨x14, hc13, hf⟩ := um_bi hf
      refine um_cVi (pc := 99) (As := [.int a1, .int (9 : Int32)]) (rest := [.int (9 : Int32), .int a1, .ref (α (20 * h0 + 1))]) Cx (c_X5_get (20 * h0 + 1) a1 (9 : Int32) (xs_ht hh0 1 rfl) hX hc13) kV_X5_get (Or.inl qM_X4_82) hW hS (xs_tab hX (xs_ht hh0 1 rfl)) rfl rfl hl rfl (Nat.le_of_ble_eq_true rfl) (Nat.le_of_ble_eq_true rfl) (Nat.le_of_ble_eq_true rfl) dX4_earn_99 (Nat.le_refl _) (Nat.le_refl _) ?_
      clear hW hS hc13
      intro H locs hW hS
      refine lv_iload_n (pc := 102) hx hb dX4_earn_102 rfl (lv_at hl 1 rfl) ?_
      refine lv_iadd (pc := 103) hx hb dX4_earn_103 ?_
      refine lv_iload (pc := 104) hx hb dX4_earn_104 (lv_at hl 0 rfl) ?_
      refine lv_isub (pc := 106) hx hb dX4_earn_106 ?_
      obtain ⟨σ16, hc15, hf⟩ := um_bi hf
      refine um_cVv (pc := 107) (As := [.int a1, .int (9 : Int32), .int ((x14 + x5) - x10)]) (rest := []) Cx (c_X5_set (20 * h0 + 1) a1 (9 : Int32) ((x14 + x5) - x10) (xs_ht hh0 1 rfl) hX hc15) kV_X5_set (Or.inl qM_X4_79) hW hS (xs_tab hX (xs_ht hh0 1 rfl)) rfl rfl hl rfl (Nat.le_of_ble_eq_true rfl) (Nat.le_of_ble_eq_true rfl) (Nat.le_of_ble_eq_true rfl) dX4_earn_107 (Nat.le_refl _) (Nat.le_refl _) ?_
      clear hW hS hc15
      intro H locs hW hS
      exact um_vret (pc := 110) Cx hW hS hf dX4_earn_110
    refine lv_icmp_ne (pc := 23) (tgt := 30) hx hb dX4_earn_23 (by decide) (fun c1 => ?_) (fun c1 => ?_)
    · have hf := um_ie c1 hf
      clear c1
      refine lv_aload_n (pc := 30) hx hb dX4_earn_30 rfl (lv_at hl 0 rfl) ?_
      refine gF_X4_23 (pc := 31) Cx hW (xs_shore hX hh0) rfl dX4_earn_31 ?_
      refine lv_aload_n (pc := 34) hx hb dX4_earn_34 rfl (lv_at hl 0 rfl) ?_
      refine gF_X4_20 (pc := 35) Cx hW (xs_shore hX hh0) rfl dX4_earn_35 ?_
      refine lv_iload_n (pc := 38) hx hb dX4_earn_38 rfl (lv_at hl 1 rfl) ?_
      refine lv_bipush (pc := 39) (v := (6 : Int32)) hx hb dX4_earn_39 (by decide) ?_
      obtain ⟨x18, hc17, hf⟩ := um_bi hf
      refine um_cVi (pc := 41) (As := [.int a1, .int (6 : Int32)]) (rest := [.ref (α (20 * h0 + 2))]) Cx (c_X5_get (20 * h0 + 1) a1 (6 : Int32) (xs_ht hh0 1 rfl) hX hc17) kV_X5_get (Or.inl qM_X4_82) hW hS (xs_tab hX (xs_ht hh0 1 rfl)) rfl rfl hl rfl (Nat.le_of_ble_eq_true rfl) (Nat.le_of_ble_eq_true rfl) (Nat.le_of_ble_eq_true rfl) dX4_earn_41 (Nat.le_refl _) (Nat.le_refl _) ?_
      clear hW hS hc17
      intro H locs hW hS
      refine lv_iconst (pc := 44) (v := (3 : Int32)) hx hb dX4_earn_44 (by decide) ?_
      obtain ⟨x20, hc19, hf⟩ := um_bi hf
      refine um_cVi (pc := 45) (As := [.int x18, .int (3 : Int32)]) (rest := []) Cx (c_X5_get (20 * h0 + 2) x18 (3 : Int32) (xs_ht hh0 2 rfl) hX hc19) kV_X5_get (Or.inl qM_X4_82) hW hS (xs_tab hX (xs_ht hh0 2 rfl)) rfl rfl hl rfl (Nat.le_of_ble_eq_true rfl) (Nat.le_of_ble_eq_true rfl) (Nat.le_of_ble_eq_true rfl) dX4_earn_45 (Nat.le_refl _) (Nat.le_refl _) ?_
      clear hW hS hc19
      intro H locs hW hS
      exact J4 x20 hf _ _ _ hW hS (lv_sub hl [0, 1] rfl)
    · have hf := um_it c1 hf
      clear c1
      refine lv_iconst (pc := 26) (v := (5 : Int32)) hx hb dX4_earn_26 (by decide) ?_
      refine lv_goto (pc := 27) (tgt := 48) hx hb dX4_earn_27 (by decide) ?_
      exact J4 (5 : Int32) hf _ _ _ hW hS (lv_sub hl [0, 1] rfl)
  refine lv_icmp_eq (pc := 12) (tgt := 21) hx hb dX4_earn_12 (by decide) (fun c1 => ?_) (fun c1 => ?_)
  · have hf := um_it c1 hf
    clear c1
    exact J3 () hf _ _ _ hW hS (lv_sub hl [1, 2, 0] rfl)
  · have hf := um_ie c1 hf
    clear c1
    refine lv_iload_n (pc := 15) hx hb dX4_earn_15 rfl (lv_at hl 0 rfl) ?_
    refine lv_iconst (pc := 16) (v := (4 : Int32)) hx hb dX4_earn_16 (by decide) ?_
    refine lv_icmp_eq (pc := 17) (tgt := 21) hx hb dX4_earn_17 (by decide) (fun c1 => ?_) (fun c1 => ?_)
    · have hf := um_it c1 hf
      clear c1
      exact J3 () hf _ _ _ hW hS (lv_sub hl [1, 2, 0] rfl)
    · have hf := um_ie c1 hf
      clear c1
      exact um_vret (pc := 20) Cx hW hS hf dX4_earn_20
theorem c_X4_earn {σ : um_S} {σ' : um_S} (h0 : Nat) (a1 : Int32) (hh0 : um_h h0) (hX : um_X sh) (hf : f_X4_earn h0 a1 σ = some σ') : um_M l yX4_earn cX4_earn 5 none (3) (78) Z sh α σ [.ref (α h0), .int a1] none σ' :=
  um_start (by decide) (Nat.le_of_ble_eq_true rfl) (fun p e s m below meth c ls Cx hW hS hl => b_X4_earn h0 a1 hh0 hX hf Cx hW hS hl)
noncomputable def f_X4_eatAt_l4 (h0 : Nat) (v1 : Int32) (σ : um_S) : Nat → Int32 → Int32 → Option (Int32)
  | 0, _, _ => none
  | n + 1, v2, v3 =>
    if (σ.1 (20 * h0 + 1) 2) ≤ v3 then
    (some v2)
    else
    ((f_X5_get (20 * h0 + 1) v3 (4 : Int32) σ).bind fun x2 =>
    (if x2 = v1 then
    ((f_X5_get (20 * h0 + 1) v3 (5 : Int32) σ).bind fun x4 =>
    (if x4 = (3 : Int32) then
    (um_let (v2 + (1 : Int32)) fun x7 =>
    (f_X4_eatAt_l4 h0 v1 σ n x7 (v3 + (1 : Int32))))
    else
    (um_let (v2 + (2 : Int32)) fun x5 =>
    (f_X4_eatAt_l4 h0 v1 σ n x5 (v3 + (1 : Int32))))))
    else
    (f_X4_eatAt_l4 h0 v1 σ n v2 (v3 + (1 : Int32)))))
noncomputable def f_X4_eatAt (h0 : Nat) (a1 : Int32) (σ : um_S) : Option (um_S) :=
    (f_X4_eatAt_l4 h0 a1 σ um_N (0 : Int32) (0 : Int32)).bind fun x1 =>
    ((f_X5_get (20 * h0 + 7) a1 (0 : Int32) σ).bind fun x4 =>
    (um_let (fun (x6 : Int32) =>
    ((f_X5_set (20 * h0 + 7) a1 (1 : Int32) x6 σ).bind fun σ8 =>
    ((f_X5_set (20 * h0 + 7) a1 (0 : Int32) (if (0 : Int32) < (x4 - x1) then (x4 - x1) else (0 : Int32)) σ8).bind fun σ10 =>
    (some σ10)))) fun k5 =>
    (if x1 ≤ x4 then
    (k5 (0 : Int32))
    else
    (k5 (1 : Int32)))))
set_option maxRecDepth 100000 in
set_option maxHeartbeats 4000000 in
theorem t_X4_eatAt_l4 {Q : State → Prop} {o2 : Int32} {σ : um_S} (h0 : Nat) (v1 : Int32) (hh0 : um_h h0) (hX : um_X sh) (Cx : um_C p s m meth c args cX4_eatAt 4 none RX4 Z) (hE : ∀ (H : Heap) (locs : List Loc) (ls : Array Slot), um_W Z sh α σ H → va_S (um_D sh α) s.heap H locs → lv_has ls 4 [(0, .ref (α h0)), (1, .int v1), (2, .int o2)] → W p l e { frames := 1, cells := 0, slots := 0, locals := 30 } s m args below meth c H locs 0 0 Q (F0 m 55 ls [])) : ∀ (n : Nat) (v2 : Int32) (v3 : Int32) (H : Heap) (locs : List Loc) (ls : Array Slot), f_X4_eatAt_l4 h0 v1 σ n v2 v3 = some o2 → um_W Z sh α σ H → va_S (um_D sh α) s.heap H locs → lv_has ls 4 [(0, .ref (α h0)), (1, .int v1), (2, .int v2), (3, .int v3)] → W p l e { frames := 1, cells := 0, slots := 0, locals := 30 } s m args below meth c H locs 0 0 Q (F0 m 4 ls []) := by
  have hx := Cx.1
  have hb := Cx.2.1
  have hown := Cx.2.2.2.2.1
  have hts := Cx.2.2.2.2.2.1
  intro n
  induction n with
  | zero =>
    intro v2 v3 H locs ls hf hW hS hl
    cases hf
  | succ n ih =>
    intro v2 v3 H locs ls hf hW hS hl
    rw [f_X4_eatAt_l4] at hf
    refine lv_iload_n (pc := 4) hx hb dX4_eatAt_4 rfl (lv_at hl 3 rfl) ?_
    refine lv_aload_n (pc := 5) hx hb dX4_eatAt_5 rfl (lv_at hl 0 rfl) ?_
    refine gF_X4_20 (pc := 6) Cx hW (xs_shore hX hh0) rfl dX4_eatAt_6 ?_
    refine gF_X4_100 (pc := 9) Cx hW (xs_tab hX (xs_ht hh0 1 rfl)) rfl dX4_eatAt_9 ?_
    refine lv_icmp_ge (pc := 12) (tgt := 55) hx hb dX4_eatAt_12 (by decide) (fun c1 => ?_) (fun c1 => ?_)
    · have hf := um_it c1 hf
      clear c1
      cases hf
      exact hE _ _ _ hW hS (lv_sub hl [0, 1, 2] rfl)
    · have hf := um_ie c1 hf
      clear c1
      refine lv_aload_n (pc := 15) hx hb dX4_eatAt_15 rfl (lv_at hl 0 rfl) ?_
      refine gF_X4_20 (pc := 16) Cx hW (xs_shore hX hh0) rfl dX4_eatAt_16 ?_
      refine lv_iload_n (pc := 19) hx hb dX4_eatAt_19 rfl (lv_at hl 3 rfl) ?_
      refine lv_iconst (pc := 20) (v := (4 : Int32)) hx hb dX4_eatAt_20 (by decide) ?_
      obtain ⟨x2, hc1, hf⟩ := um_bi hf
      refine um_cVi (pc := 21) (As := [.int v3, .int (4 : Int32)]) (rest := []) Cx (c_X5_get (20 * h0 + 1) v3 (4 : Int32) (xs_ht hh0 1 rfl) hX hc1) kV_X5_get (Or.inl qM_X4_82) hW hS (xs_tab hX (xs_ht hh0 1 rfl)) rfl rfl hl rfl (Nat.le_of_ble_eq_true rfl) (Nat.le_of_ble_eq_true rfl) (Nat.le_of_ble_eq_true rfl) dX4_eatAt_21 (Nat.le_refl _) (Nat.le_refl _) ?_
      clear hW hS hc1
      intro H locs hW hS
      refine lv_iload_n (pc := 24) hx hb dX4_eatAt_24 rfl (lv_at hl 1 rfl) ?_
      refine lv_icmp_ne (pc := 25) (tgt := 49) hx hb dX4_eatAt_25 (by decide) (fun c1 => ?_) (fun c1 => ?_)
      · have hf := um_ie c1 hf
        clear c1
        refine lv_iinc (pc := 49) (v := v3 + (1 : Int32)) (lv' := [(3, .int (v3 + (1 : Int32))), (0, .ref (α h0)), (1, .int v1), (2, .int v2)]) hx hb dX4_eatAt_49 hl (k := 3) rfl rfl (by decide) rfl ?_
        clear hl
        intro ls hl
        refine lv_goto (pc := 52) (tgt := 4) hx hb dX4_eatAt_52 (by decide) ?_
        exact ih _ _ _ _ _ hf hW hS (lv_sub hl [1, 2, 3, 0] rfl)
      · have hf := um_it c1 hf
        clear c1
        refine lv_iload_n (pc := 28) hx hb dX4_eatAt_28 rfl (lv_at hl 2 rfl) ?_
        refine lv_aload_n (pc := 29) hx hb dX4_eatAt_29 rfl (lv_at hl 0 rfl) ?_
        refine gF_X4_20 (pc := 30) Cx hW (xs_shore hX hh0) rfl dX4_eatAt_30 ?_
        refine lv_iload_n (pc := 33) hx hb dX4_eatAt_33 rfl (lv_at hl 3 rfl) ?_
        refine lv_iconst (pc := 34) (v := (5 : Int32)) hx hb dX4_eatAt_34 (by decide) ?_
        obtain ⟨x4, hc3, hf⟩ := um_bi hf
        refine um_cVi (pc := 35) (As := [.int v3, .int (5 : Int32)]) (rest := [.int v2]) Cx (c_X5_get (20 * h0 + 1) v3 (5 : Int32) (xs_ht hh0 1 rfl) hX hc3) kV_X5_get (Or.inl qM_X4_82) hW hS (xs_tab hX (xs_ht hh0 1 rfl)) rfl rfl hl rfl (Nat.le_of_ble_eq_true rfl) (Nat.le_of_ble_eq_true rfl) (Nat.le_of_ble_eq_true rfl) dX4_eatAt_35 (Nat.le_refl _) (Nat.le_refl _) ?_
        clear hW hS hc3
        intro H locs hW hS
        refine lv_iconst (pc := 38) (v := (3 : Int32)) hx hb dX4_eatAt_38 (by decide) ?_
        refine lv_icmp_ne (pc := 39) (tgt := 46) hx hb dX4_eatAt_39 (by decide) (fun c1 => ?_) (fun c1 => ?_)
        · have hf := um_ie c1 hf
          clear c1
          refine lv_iconst (pc := 46) (v := (2 : Int32)) hx hb dX4_eatAt_46 (by decide) ?_
          refine lv_iadd (pc := 47) hx hb dX4_eatAt_47 ?_
          obtain ⟨x5, e6, hf⟩ := um_le hf
          refine um_top e6 ?_
          clear e6
          refine lv_istore_n (pc := 48) (lv' := [(2, .int x5), (0, .ref (α h0)), (1, .int v1), (3, .int v3)]) hx hb dX4_eatAt_48 rfl hl (by decide) rfl ?_
          clear hl
          intro ls hl
          refine lv_iinc (pc := 49) (v := v3 + (1 : Int32)) (lv' := [(3, .int (v3 + (1 : Int32))), (2, .int x5), (0, .ref (α h0)), (1, .int v1)]) hx hb dX4_eatAt_49 hl (k := 3) rfl rfl (by decide) rfl ?_
          clear hl
          intro ls hl
          refine lv_goto (pc := 52) (tgt := 4) hx hb dX4_eatAt_52 (by decide) ?_
          exact ih _ _ _ _ _ hf hW hS (lv_sub hl [2, 3, 1, 0] rfl)
        · have hf := um_it c1 hf
          clear c1
          refine lv_iconst (pc := 42) (v := (1 : Int32)) hx hb dX4_eatAt_42 (by decide) ?_
          refine lv_goto (pc := 43) (tgt := 47) hx hb dX4_eatAt_43 (by decide) ?_
          refine lv_iadd (pc := 47) hx hb dX4_eatAt_47 ?_
          obtain ⟨x7, e8, hf⟩ := um_le hf
          refine um_top e8 ?_
          clear e8
          refine lv_istore_n (pc := 48) (lv' := [(2, .int x7), (0, .ref (α h0)), (1, .int v1), (3, .int v3)]) hx hb dX4_eatAt_48 rfl hl (by decide) rfl ?_
          clear hl
          intro ls hl
          refine lv_iinc (pc := 49) (v := v3 + (1 : Int32)) (lv' := [(3, .int (v3 + (1 : Int32))), (2, .int x7), (0, .ref (α h0)), (1, .int v1)]) hx hb dX4_eatAt_49 hl (k := 3) rfl rfl (by decide) rfl ?_
          clear hl
          intro ls hl
          refine lv_goto (pc := 52) (tgt := 4) hx hb dX4_eatAt_52 (by decide) ?_
          exact ih _ _ _ _ _ hf hW hS (lv_sub hl [2, 3, 1, 0] rfl)
set_option maxRecDepth 100000 in
set_option maxHeartbeats 4000000 in
theorem b_X4_eatAt {H : Heap} {locs : List Loc} {ls : Array Slot} {σ : um_S} {σ' : um_S} (h0 : Nat) (a1 : Int32) (hh0 : um_h h0) (hX : um_X sh) (hf : f_X4_eatAt h0 a1 σ = some σ') (Cx : um_C p s m meth c args cX4_eatAt 4 none RX4 Z) (hW : um_W Z sh α σ H) (hS : va_S (um_D sh α) s.heap H locs) (hl : lv_has ls 4 [(0, .ref (α h0)), (1, .int a1)]) : um_G p l e (1) (30) s m args below meth c Z sh α σ' none H locs (F0 m 0 ls []) := by
  have hx := Cx.1
  have hb := Cx.2.1
  have hown := Cx.2.2.2.2.1
  have hts := Cx.2.2.2.2.2.1
  rw [f_X4_eatAt] at hf
  refine lv_iconst (pc := 0) (v := (0 : Int32)) hx hb dX4_eatAt_0 (by decide) ?_
  refine lv_istore_n (pc := 1) (lv' := [(2, .int (0 : Int32)), (0, .ref (α h0)), (1, .int a1)]) hx hb dX4_eatAt_1 rfl hl (by decide) rfl ?_
  clear hl
  intro ls hl
  refine lv_iconst (pc := 2) (v := (0 : Int32)) hx hb dX4_eatAt_2 (by decide) ?_
  refine lv_istore_n (pc := 3) (lv' := [(3, .int (0 : Int32)), (2, .int (0 : Int32)), (0, .ref (α h0)), (1, .int a1)]) hx hb dX4_eatAt_3 rfl hl (by decide) rfl ?_
  clear hl
  intro ls hl
  obtain ⟨x1, hc2, hf⟩ := um_bi hf
  refine t_X4_eatAt_l4 h0 a1 hh0 hX Cx ?_ um_N _ _ _ _ _ hc2 hW hS (lv_sub hl [2, 3, 1, 0] rfl)
  clear hW hS hl hc2
  intro H locs ls hW hS hl
  refine lv_aload_n (pc := 55) hx hb dX4_eatAt_55 rfl (lv_at hl 0 rfl) ?_
  refine gF_X4_38 (pc := 56) Cx hW (xs_shore hX hh0) rfl dX4_eatAt_56 ?_
  refine lv_iload_n (pc := 59) hx hb dX4_eatAt_59 rfl (lv_at hl 1 rfl) ?_
  refine lv_iconst (pc := 60) (v := (0 : Int32)) hx hb dX4_eatAt_60 (by decide) ?_
  obtain ⟨x4, hc3, hf⟩ := um_bi hf
  refine um_cVi (pc := 61) (As := [.int a1, .int (0 : Int32)]) (rest := []) Cx (c_X5_get (20 * h0 + 7) a1 (0 : Int32) (xs_ht hh0 7 rfl) hX hc3) kV_X5_get (Or.inl qM_X4_82) hW hS (xs_tab hX (xs_ht hh0 7 rfl)) rfl rfl hl rfl (Nat.le_of_ble_eq_true rfl) (Nat.le_of_ble_eq_true rfl) (Nat.le_of_ble_eq_true rfl) dX4_eatAt_61 (Nat.le_refl _) (Nat.le_refl _) ?_
  clear hW hS hc3
  intro H locs hW hS
  refine lv_istore_n (pc := 64) (lv' := [(3, .int x4), (0, .ref (α h0)), (1, .int a1), (2, .int x1)]) hx hb dX4_eatAt_64 rfl hl (by decide) rfl ?_
  clear hl
  intro ls hl
  refine lv_aload_n (pc := 65) hx hb dX4_eatAt_65 rfl (lv_at hl 1 rfl) ?_
  refine gF_X4_38 (pc := 66) Cx hW (xs_shore hX hh0) rfl dX4_eatAt_66 ?_
  refine lv_iload_n (pc := 69) hx hb dX4_eatAt_69 rfl (lv_at hl 2 rfl) ?_
  refine lv_iconst (pc := 70) (v := (1 : Int32)) hx hb dX4_eatAt_70 (by decide) ?_
  refine lv_iload_n (pc := 71) hx hb dX4_eatAt_71 rfl (lv_at hl 0 rfl) ?_
  refine lv_iload_n (pc := 72) hx hb dX4_eatAt_72 rfl (lv_at hl 3 rfl) ?_
  obtain ⟨k5, hk5, hf⟩ := um_j1 hf
  have J5 : ∀ (x6 : Int32), k5 x6 = some σ' → ∀ (H : Heap) (locs : List Loc) (ls : Array Slot), um_W Z sh α σ H → va_S (um_D sh α) s.heap H locs → lv_has ls 4 [(0, .ref (α h0)), (1, .int a1), (2, .int x1), (3, .int x4)] → um_G p l e (1) (30) s m args below meth c Z sh α σ' none H locs (F0 m 81 ls [.int x6, .int (1 : Int32), .int a1, .ref (α (20 * h0 + 7))]) := by
    intro x6 hf H locs ls hW hS hl
    rw [hk5] at hf
    obtain ⟨σ8, hc7, hf⟩ := um_bi hf
    refine um_cVv (pc := 81) (As := [.int a1, .int (1 : Int32), .int x6]) (rest := []) Cx (c_X5_set (20 * h0 + 7) a1 (1 : Int32) x6 (xs_ht hh0 7 rfl) hX hc7) kV_X5_set (Or.inl qM_X4_79) hW hS (xs_tab hX (xs_ht hh0 7 rfl)) rfl rfl hl rfl (Nat.le_of_ble_eq_true rfl) (Nat.le_of_ble_eq_true rfl) (Nat.le_of_ble_eq_true rfl) dX4_eatAt_81 (Nat.le_refl _) (Nat.le_refl _) ?_
    clear hW hS hc7
    intro H locs hW hS
    refine lv_aload_n (pc := 84) hx hb dX4_eatAt_84 rfl (lv_at hl 0 rfl) ?_
    refine gF_X4_38 (pc := 85) Cx hW (xs_shore hX hh0) rfl dX4_eatAt_85 ?_
    refine lv_iload_n (pc := 88) hx hb dX4_eatAt_88 rfl (lv_at hl 1 rfl) ?_
    refine lv_iconst (pc := 89) (v := (0 : Int32)) hx hb dX4_eatAt_89 (by decide) ?_
    refine lv_iconst (pc := 90) (v := (0 : Int32)) hx hb dX4_eatAt_90 (by decide) ?_
    refine lv_iload_n (pc := 91) hx hb dX4_eatAt_91 rfl (lv_at hl 3 rfl) ?_
    refine lv_iload_n (pc := 92) hx hb dX4_eatAt_92 rfl (lv_at hl 2 rfl) ?_
    refine lv_isub (pc := 93) hx hb dX4_eatAt_93 ?_
    refine va_mmax (pc := 94) (rest := [.int (0 : Int32), .int a1, .ref (α (20 * h0 + 7))]) hx hb (Cx.2.2.2.1.trans hl.1.symm) hown (hts _ qM_X4_165) (hts _ qT_J9_max_7cf53) (hts _ qN_J9) (hts _ qK_J9_max_7cf53) (Nat.le_of_ble_eq_true rfl) (Nat.le_of_ble_eq_true rfl) (Nat.le_refl _) (Nat.le_refl _) dX4_eatAt_94 ?_
    obtain ⟨σ10, hc9, hf⟩ := um_bi hf
    refine um_cVv (pc := 97) (As := [.int a1, .int (0 : Int32), .int (if (0 : Int32) < (x4 - x1) then (x4 - x1) else (0 : Int32))]) (rest := []) Cx (c_X5_set (20 * h0 + 7) a1 (0 : Int32) (if (0 : Int32) < (x4 - x1) then (x4 - x1) else (0 : Int32)) (xs_ht hh0 7 rfl) hX hc9) kV_X5_set (Or.inl qM_X4_79) hW hS (xs_tab hX (xs_ht hh0 7 rfl)) rfl rfl hl rfl (Nat.le_of_ble_eq_true rfl) (Nat.le_of_ble_eq_true rfl) (Nat.le_of_ble_eq_true rfl) dX4_eatAt_97 (Nat.le_refl _) (Nat.le_refl _) ?_
    clear hW hS hc9
    intro H locs hW hS
    exact um_vret (pc := 100) Cx hW hS hf dX4_eatAt_100
  refine lv_icmp_ge (pc := 73) (tgt := 80) hx hb dX4_eatAt_73 (by decide) (fun c1 => ?_) (fun c1 => ?_)
  · have hf := um_it c1 hf
    clear c1
    refine lv_iconst (pc := 80) (v := (0 : Int32)) hx hb dX4_eatAt_80 (by decide) ?_
    exact J5 (0 : Int32) hf _ _ _ hW hS (lv_sub hl [1, 2, 3, 0] rfl)
  · have hf := um_ie c1 hf
    clear c1
    refine lv_iconst (pc := 76) (v := (1 : Int32)) hx hb dX4_eatAt_76 (by decide) ?_
    refine lv_goto (pc := 77) (tgt := 81) hx hb dX4_eatAt_77 (by decide) ?_
    exact J5 (1 : Int32) hf _ _ _ hW hS (lv_sub hl [1, 2, 3, 0] rfl)
theorem c_X4_eatAt {σ : um_S} {σ' : um_S} (h0 : Nat) (a1 : Int32) (hh0 : um_h h0) (hX : um_X sh) (hf : f_X4_eatAt h0 a1 σ = some σ') : um_M l yX4_eatAt cX4_eatAt 4 none (1) (30) Z sh α σ [.ref (α h0), .int a1] none σ' :=
  um_start (by decide) (Nat.le_of_ble_eq_true rfl) (fun p e s m below meth c ls Cx hW hS hl => b_X4_eatAt h0 a1 hh0 hX hf Cx hW hS hl)
noncomputable def f_X4_embark (h0 : Nat) (a1 : Int32) (a2 : Int32) (σ : um_S) : Option (um_S) :=
    (f_X4_become h0 a1 (1 : Int32) (0 : Int32) σ).bind fun σ2 =>
    ((f_X5_set (20 * h0 + 1) a1 (4 : Int32) (-1000000005 : Int32) σ2).bind fun σ4 =>
    ((f_X5_set (20 * h0 + 1) a1 (10 : Int32) (-1000000005 : Int32) σ4).bind fun σ6 =>
    ((f_X5_set (20 * h0 + 1) a1 (12 : Int32) a2 σ6).bind fun σ8 =>
    ((f_X5_set (20 * h0 + 1) a1 (13 : Int32) (364 : Int32) σ8).bind fun σ10 =>
    (some σ10)))))
set_option maxRecDepth 100000 in
set_option maxHeartbeats 4000000 in
theorem b_X4_embark {H : Heap} {locs : List Loc} {ls : Array Slot} {σ : um_S} {σ' : um_S} (h0 : Nat) (a1 : Int32) (a2 : Int32) (hh0 : um_h h0) (hX : um_X sh) (hf : f_X4_embark h0 a1 a2 σ = some σ') (Cx : um_C p s m meth c args cX4_embark 3 none RX4 Z) (hW : um_W Z sh α σ H) (hS : va_S (um_D sh α) s.heap H locs) (hl : lv_has ls 3 [(0, .ref (α h0)), (1, .int a1), (2, .int a2)]) : um_G p l e (2) (48) s m args below meth c Z sh α σ' none H locs (F0 m 0 ls []) := by
  have hx := Cx.1
  have hb := Cx.2.1
  have hown := Cx.2.2.2.2.1
  have hts := Cx.2.2.2.2.2.1
  rw [f_X4_embark] at hf
  refine lv_aload_n (pc := 0) hx hb dX4_embark_0 rfl (lv_at hl 0 rfl) ?_
  refine lv_iload_n (pc := 1) hx hb dX4_embark_1 rfl (lv_at hl 1 rfl) ?_
  refine lv_iconst (pc := 2) (v := (1 : Int32)) hx hb dX4_embark_2 (by decide) ?_
  refine lv_iconst (pc := 3) (v := (0 : Int32)) hx hb dX4_embark_3 (by decide) ?_
  obtain ⟨σ2, hc1, hf⟩ := um_bi hf
  refine um_cVv (pc := 4) (As := [.int a1, .int (1 : Int32), .int (0 : Int32)]) (rest := []) Cx (c_X4_become h0 a1 (1 : Int32) (0 : Int32) hh0 hX hc1) kV_X4_become (Or.inl qM_X4_74) hW hS (xs_shore hX hh0) rfl rfl hl rfl (Nat.le_of_ble_eq_true rfl) (Nat.le_of_ble_eq_true rfl) (Nat.le_of_ble_eq_true rfl) dX4_embark_4 (Nat.le_refl _) (Nat.le_refl _) ?_
  clear hW hS hc1
  intro H locs hW hS
  refine lv_aload_n (pc := 7) hx hb dX4_embark_7 rfl (lv_at hl 0 rfl) ?_
  refine gF_X4_20 (pc := 8) Cx hW (xs_shore hX hh0) rfl dX4_embark_8 ?_
  refine lv_iload_n (pc := 11) hx hb dX4_embark_11 rfl (lv_at hl 1 rfl) ?_
  refine lv_iconst (pc := 12) (v := (4 : Int32)) hx hb dX4_embark_12 (by decide) ?_
  refine lv_ldc (pc := 13) hx hb hown (hts _ qC_X4_78) dX4_embark_13 ?_
  obtain ⟨σ4, hc3, hf⟩ := um_bi hf
  refine um_cVv (pc := 15) (As := [.int a1, .int (4 : Int32), .int (-1000000005 : Int32)]) (rest := []) Cx (c_X5_set (20 * h0 + 1) a1 (4 : Int32) (-1000000005 : Int32) (xs_ht hh0 1 rfl) hX hc3) kV_X5_set (Or.inl qM_X4_79) hW hS (xs_tab hX (xs_ht hh0 1 rfl)) rfl rfl hl rfl (Nat.le_of_ble_eq_true rfl) (Nat.le_of_ble_eq_true rfl) (Nat.le_of_ble_eq_true rfl) dX4_embark_15 (Nat.le_refl _) (Nat.le_refl _) ?_
  clear hW hS hc3
  intro H locs hW hS
  refine lv_aload_n (pc := 18) hx hb dX4_embark_18 rfl (lv_at hl 0 rfl) ?_
  refine gF_X4_20 (pc := 19) Cx hW (xs_shore hX hh0) rfl dX4_embark_19 ?_
  refine lv_iload_n (pc := 22) hx hb dX4_embark_22 rfl (lv_at hl 1 rfl) ?_
  refine lv_bipush (pc := 23) (v := (10 : Int32)) hx hb dX4_embark_23 (by decide) ?_
  refine lv_ldc (pc := 25) hx hb hown (hts _ qC_X4_78) dX4_embark_25 ?_
  obtain ⟨σ6, hc5, hf⟩ := um_bi hf
  refine um_cVv (pc := 27) (As := [.int a1, .int (10 : Int32), .int (-1000000005 : Int32)]) (rest := []) Cx (c_X5_set (20 * h0 + 1) a1 (10 : Int32) (-1000000005 : Int32) (xs_ht hh0 1 rfl) hX hc5) kV_X5_set (Or.inl qM_X4_79) hW hS (xs_tab hX (xs_ht hh0 1 rfl)) rfl rfl hl rfl (Nat.le_of_ble_eq_true rfl) (Nat.le_of_ble_eq_true rfl) (Nat.le_of_ble_eq_true rfl) dX4_embark_27 (Nat.le_refl _) (Nat.le_refl _) ?_
  clear hW hS hc5
  intro H locs hW hS
  refine lv_aload_n (pc := 30) hx hb dX4_embark_30 rfl (lv_at hl 0 rfl) ?_
  refine gF_X4_20 (pc := 31) Cx hW (xs_shore hX hh0) rfl dX4_embark_31 ?_
  refine lv_iload_n (pc := 34) hx hb dX4_embark_34 rfl (lv_at hl 1 rfl) ?_
  refine lv_bipush (pc := 35) (v := (12 : Int32)) hx hb dX4_embark_35 (by decide) ?_
  refine lv_iload_n (pc := 37) hx hb dX4_embark_37 rfl (lv_at hl 2 rfl) ?_
  obtain ⟨σ8, hc7, hf⟩ := um_bi hf
  refine um_cVv (pc := 38) (As := [.int a1, .int (12 : Int32), .int a2]) (rest := []) Cx (c_X5_set (20 * h0 + 1) a1 (12 : Int32) a2 (xs_ht hh0 1 rfl) hX hc7) kV_X5_set (Or.inl qM_X4_79) hW hS (xs_tab hX (xs_ht hh0 1 rfl)) rfl rfl hl rfl (Nat.le_of_ble_eq_true rfl) (Nat.le_of_ble_eq_true rfl) (Nat.le_of_ble_eq_true rfl) dX4_embark_38 (Nat.le_refl _) (Nat.le_refl _) ?_
  clear hW hS hc7
  intro H locs hW hS
  refine lv_aload_n (pc := 41) hx hb dX4_embark_41 rfl (lv_at hl 0 rfl) ?_
  refine gF_X4_20 (pc := 42) Cx hW (xs_shore hX hh0) rfl dX4_embark_42 ?_
  refine lv_iload_n (pc := 45) hx hb dX4_embark_45 rfl (lv_at hl 1 rfl) ?_
  refine lv_bipush (pc := 46) (v := (13 : Int32)) hx hb dX4_embark_46 (by decide) ?_
  refine lv_sipush (pc := 48) (v := (364 : Int32)) hx hb dX4_embark_48 (by decide) ?_
  obtain ⟨σ10, hc9, hf⟩ := um_bi hf
  refine um_cVv (pc := 51) (As := [.int a1, .int (13 : Int32), .int (364 : Int32)]) (rest := []) Cx (c_X5_set (20 * h0 + 1) a1 (13 : Int32) (364 : Int32) (xs_ht hh0 1 rfl) hX hc9) kV_X5_set (Or.inl qM_X4_79) hW hS (xs_tab hX (xs_ht hh0 1 rfl)) rfl rfl hl rfl (Nat.le_of_ble_eq_true rfl) (Nat.le_of_ble_eq_true rfl) (Nat.le_of_ble_eq_true rfl) dX4_embark_51 (Nat.le_refl _) (Nat.le_refl _) ?_
  clear hW hS hc9
  intro H locs hW hS
  exact um_vret (pc := 54) Cx hW hS hf dX4_embark_54
theorem c_X4_embark {σ : um_S} {σ' : um_S} (h0 : Nat) (a1 : Int32) (a2 : Int32) (hh0 : um_h h0) (hX : um_X sh) (hf : f_X4_embark h0 a1 a2 σ = some σ') : um_M l yX4_embark cX4_embark 3 none (2) (48) Z sh α σ [.ref (α h0), .int a1, .int a2] none σ' :=
  um_start (by decide) (Nat.le_of_ble_eq_true rfl) (fun p e s m below meth c ls Cx hW hS hl => b_X4_embark h0 a1 a2 hh0 hX hf Cx hW hS hl)
noncomputable def f_X4_hasLanded (h0 : Nat) (a1 : Int32) (σ : um_S) : Option (Bool) :=
    (f_X5_get (20 * h0 + 1) a1 (10 : Int32) σ).bind fun x2 =>
    (if x2 = (-1000000005 : Int32) then
    (some false)
    else
    (some true))
set_option maxRecDepth 100000 in
set_option maxHeartbeats 4000000 in
theorem b_X4_hasLanded {H : Heap} {locs : List Loc} {ls : Array Slot} {σ : um_S} {r : Bool} (h0 : Nat) (a1 : Int32) (hh0 : um_h h0) (hX : um_X sh) (hf : f_X4_hasLanded h0 a1 σ = some r) (Cx : um_C p s m meth c args cX4_hasLanded 2 (some FieldType.boolean) RX4 Z) (hW : um_W Z sh α σ H) (hS : va_S (um_D sh α) s.heap H locs) (hl : lv_has ls 2 [(0, .ref (α h0)), (1, .int a1)]) : um_G p l e (1) (24) s m args below meth c Z sh α σ (some (.int (um_b r))) H locs (F0 m 0 ls []) := by
  have hx := Cx.1
  have hb := Cx.2.1
  have hown := Cx.2.2.2.2.1
  have hts := Cx.2.2.2.2.2.1
  rw [f_X4_hasLanded] at hf
  refine lv_aload_n (pc := 0) hx hb dX4_hasLanded_0 rfl (lv_at hl 0 rfl) ?_
  refine gF_X4_20 (pc := 1) Cx hW (xs_shore hX hh0) rfl dX4_hasLanded_1 ?_
  refine lv_iload_n (pc := 4) hx hb dX4_hasLanded_4 rfl (lv_at hl 1 rfl) ?_
  refine lv_bipush (pc := 5) (v := (10 : Int32)) hx hb dX4_hasLanded_5 (by decide) ?_
  obtain ⟨x2, hc1, hf⟩ := um_bi hf
  refine um_cVi (pc := 7) (As := [.int a1, .int (10 : Int32)]) (rest := []) Cx (c_X5_get (20 * h0 + 1) a1 (10 : Int32) (xs_ht hh0 1 rfl) hX hc1) kV_X5_get (Or.inl qM_X4_82) hW hS (xs_tab hX (xs_ht hh0 1 rfl)) rfl rfl hl rfl (Nat.le_of_ble_eq_true rfl) (Nat.le_of_ble_eq_true rfl) (Nat.le_of_ble_eq_true rfl) dX4_hasLanded_7 (Nat.le_refl _) (Nat.le_refl _) ?_
  clear hW hS hc1
  intro H locs hW hS
  refine lv_ldc (pc := 10) hx hb hown (hts _ qC_X4_78) dX4_hasLanded_10 ?_
  refine lv_icmp_eq (pc := 12) (tgt := 19) hx hb dX4_hasLanded_12 (by decide) (fun c1 => ?_) (fun c1 => ?_)
  · have hf := um_it c1 hf
    clear c1
    refine lv_iconst (pc := 19) (v := (0 : Int32)) hx hb dX4_hasLanded_19 (by decide) ?_
    exact um_zretR (pc := 20) Cx hW hS hf rfl dX4_hasLanded_20
  · have hf := um_ie c1 hf
    clear c1
    refine lv_iconst (pc := 15) (v := (1 : Int32)) hx hb dX4_hasLanded_15 (by decide) ?_
    refine lv_goto (pc := 16) (tgt := 20) hx hb dX4_hasLanded_16 (by decide) ?_
    exact um_zretR (pc := 20) Cx hW hS hf rfl dX4_hasLanded_20
theorem c_X4_hasLanded {σ : um_S} {r : Bool} (h0 : Nat) (a1 : Int32) (hh0 : um_h h0) (hX : um_X sh) (hf : f_X4_hasLanded h0 a1 σ = some r) : um_M l yX4_hasLanded cX4_hasLanded 2 (some FieldType.boolean) (1) (24) Z sh α σ [.ref (α h0), .int a1] (some (.int (um_b r))) σ :=
  um_start (by decide) (Nat.le_of_ble_eq_true rfl) (fun p e s m below meth c ls Cx hW hS hl => b_X4_hasLanded h0 a1 hh0 hX hf Cx hW hS hl)
noncomputable def f_X4_inBanks_l4 (h0 : Nat) (σ : um_S) : Nat → Int32 → Int32 → Option (Int32)
  | 0, _, _ => none
  | n + 1, v1, v2 =>
    if (σ.1 (20 * h0 + 1) 2) ≤ v2 then
    (some v1)
    else
    ((f_X5_get (20 * h0 + 1) v2 (9 : Int32) σ).bind fun x2 =>
    (um_let (v1 + x2) fun x3 =>
    (f_X4_inBanks_l4 h0 σ n x3 (v2 + (1 : Int32)))))
noncomputable def f_X4_inBanks (h0 : Nat) (σ : um_S) : Option (Int32) :=
    (f_X4_inBanks_l4 h0 σ um_N (0 : Int32) (0 : Int32)).bind fun x1 =>
    (some x1)
set_option maxRecDepth 100000 in
set_option maxHeartbeats 4000000 in
theorem t_X4_inBanks_l4 {Q : State → Prop} {o1 : Int32} {σ : um_S} (h0 : Nat) (hh0 : um_h h0) (hX : um_X sh) (Cx : um_C p s m meth c args cX4_inBanks 3 (some FieldType.int) RX4 Z) (hE : ∀ (H : Heap) (locs : List Loc) (ls : Array Slot), um_W Z sh α σ H → va_S (um_D sh α) s.heap H locs → lv_has ls 3 [(1, .int o1)] → W p l e { frames := 1, cells := 0, slots := 0, locals := 24 } s m args below meth c H locs 0 0 Q (F0 m 34 ls [])) : ∀ (n : Nat) (v1 : Int32) (v2 : Int32) (H : Heap) (locs : List Loc) (ls : Array Slot), f_X4_inBanks_l4 h0 σ n v1 v2 = some o1 → um_W Z sh α σ H → va_S (um_D sh α) s.heap H locs → lv_has ls 3 [(0, .ref (α h0)), (1, .int v1), (2, .int v2)] → W p l e { frames := 1, cells := 0, slots := 0, locals := 24 } s m args below meth c H locs 0 0 Q (F0 m 4 ls []) := by
  have hx := Cx.1
  have hb := Cx.2.1
  have hown := Cx.2.2.2.2.1
  have hts := Cx.2.2.2.2.2.1
  intro n
  induction n with
  | zero =>
    intro v1 v2 H locs ls hf hW hS hl
    cases hf
  | succ n ih =>
    intro v1 v2 H locs ls hf hW hS hl
    rw [f_X4_inBanks_l4] at hf
    refine lv_iload_n (pc := 4) hx hb dX4_inBanks_4 rfl (lv_at hl 2 rfl) ?_
    refine lv_aload_n (pc := 5) hx hb dX4_inBanks_5 rfl (lv_at hl 0 rfl) ?_
    refine gF_X4_20 (pc := 6) Cx hW (xs_shore hX hh0) rfl dX4_inBanks_6 ?_
    refine gF_X4_100 (pc := 9) Cx hW (xs_tab hX (xs_ht hh0 1 rfl)) rfl dX4_inBanks_9 ?_
    refine lv_icmp_ge (pc := 12) (tgt := 34) hx hb dX4_inBanks_12 (by decide) (fun c1 => ?_) (fun c1 => ?_)
    · have hf := um_it c1 hf
      clear c1
      cases hf
      exact hE _ _ _ hW hS (lv_sub hl [1] rfl)
    · have hf := um_ie c1 hf
      clear c1
      refine lv_iload_n (pc := 15) hx hb dX4_inBanks_15 rfl (lv_at hl 1 rfl) ?_
      refine lv_aload_n (pc := 16) hx hb dX4_inBanks_16 rfl (lv_at hl 0 rfl) ?_
      refine gF_X4_20 (pc := 17) Cx hW (xs_shore hX hh0) rfl dX4_inBanks_17 ?_
      refine lv_iload_n (pc := 20) hx hb dX4_inBanks_20 rfl (lv_at hl 2 rfl) ?_
      refine lv_bipush (pc := 21) (v := (9 : Int32)) hx hb dX4_inBanks_21 (by decide) ?_
      obtain ⟨x2, hc1, hf⟩ := um_bi hf
      refine um_cVi (pc := 23) (As := [.int v2, .int (9 : Int32)]) (rest := [.int v1]) Cx (c_X5_get (20 * h0 + 1) v2 (9 : Int32) (xs_ht hh0 1 rfl) hX hc1) kV_X5_get (Or.inl qM_X4_82) hW hS (xs_tab hX (xs_ht hh0 1 rfl)) rfl rfl hl rfl (Nat.le_of_ble_eq_true rfl) (Nat.le_of_ble_eq_true rfl) (Nat.le_of_ble_eq_true rfl) dX4_inBanks_23 (Nat.le_refl _) (Nat.le_refl _) ?_
      clear hW hS hc1
      intro H locs hW hS
      refine lv_iadd (pc := 26) hx hb dX4_inBanks_26 ?_
      obtain ⟨x3, e4, hf⟩ := um_le hf
      refine um_top e4 ?_
      clear e4
      refine lv_istore_n (pc := 27) (lv' := [(1, .int x3), (0, .ref (α h0)), (2, .int v2)]) hx hb dX4_inBanks_27 rfl hl (by decide) rfl ?_
      clear hl
      intro ls hl
      refine lv_iinc (pc := 28) (v := v2 + (1 : Int32)) (lv' := [(2, .int (v2 + (1 : Int32))), (1, .int x3), (0, .ref (α h0))]) hx hb dX4_inBanks_28 hl (k := 2) rfl rfl (by decide) rfl ?_
      clear hl
      intro ls hl
      refine lv_goto (pc := 31) (tgt := 4) hx hb dX4_inBanks_31 (by decide) ?_
      exact ih _ _ _ _ _ hf hW hS (lv_sub hl [2, 1, 0] rfl)
set_option maxRecDepth 100000 in
set_option maxHeartbeats 4000000 in
theorem b_X4_inBanks {H : Heap} {locs : List Loc} {ls : Array Slot} {σ : um_S} {r : Int32} (h0 : Nat) (hh0 : um_h h0) (hX : um_X sh) (hf : f_X4_inBanks h0 σ = some r) (Cx : um_C p s m meth c args cX4_inBanks 3 (some FieldType.int) RX4 Z) (hW : um_W Z sh α σ H) (hS : va_S (um_D sh α) s.heap H locs) (hl : lv_has ls 3 [(0, .ref (α h0))]) : um_G p l e (1) (24) s m args below meth c Z sh α σ (some (.int r)) H locs (F0 m 0 ls []) := by
  have hx := Cx.1
  have hb := Cx.2.1
  have hown := Cx.2.2.2.2.1
  have hts := Cx.2.2.2.2.2.1
  rw [f_X4_inBanks] at hf
  refine lv_iconst (pc := 0) (v := (0 : Int32)) hx hb dX4_inBanks_0 (by decide) ?_
  refine lv_istore_n (pc := 1) (lv' := [(1, .int (0 : Int32)), (0, .ref (α h0))]) hx hb dX4_inBanks_1 rfl hl (by decide) rfl ?_
  clear hl
  intro ls hl
  refine lv_iconst (pc := 2) (v := (0 : Int32)) hx hb dX4_inBanks_2 (by decide) ?_
  refine lv_istore_n (pc := 3) (lv' := [(2, .int (0 : Int32)), (1, .int (0 : Int32)), (0, .ref (α h0))]) hx hb dX4_inBanks_3 rfl hl (by decide) rfl ?_
  clear hl
  intro ls hl
  obtain ⟨x1, hc2, hf⟩ := um_bi hf
  refine t_X4_inBanks_l4 h0 hh0 hX Cx ?_ um_N _ _ _ _ _ hc2 hW hS (lv_sub hl [2, 1, 0] rfl)
  clear hW hS hl hc2
  intro H locs ls hW hS hl
  refine lv_iload_n (pc := 34) hx hb dX4_inBanks_34 rfl (lv_at hl 0 rfl) ?_
  exact um_iretR (pc := 35) Cx hW hS hf dX4_inBanks_35
theorem c_X4_inBanks {σ : um_S} {r : Int32} (h0 : Nat) (hh0 : um_h h0) (hX : um_X sh) (hf : f_X4_inBanks h0 σ = some r) : um_M l yX4_inBanks cX4_inBanks 3 (some FieldType.int) (1) (24) Z sh α σ [.ref (α h0)] (some (.int r)) σ :=
  um_start (by decide) (Nat.le_of_ble_eq_true rfl) (fun p e s m below meth c ls Cx hW hS hl => b_X4_inBanks h0 hh0 hX hf Cx hW hS hl)
noncomputable def f_X4_marksOf_l4 (h0 : Nat) (v1 : Int32) (σ : um_S) : Nat → Int32 → Int32 → Option (Int32)
  | 0, _, _ => none
  | n + 1, v2, v3 =>
    if (σ.1 (20 * h0 + 3) 2) ≤ v3 then
    (some v2)
    else
    ((f_X5_get (20 * h0 + 3) v3 (0 : Int32) σ).bind fun x2 =>
    (if x2 = v1 then
    ((f_X5_get (20 * h0 + 3) v3 (3 : Int32) σ).bind fun x4 =>
    (if x4 = 0 then
    (f_X4_marksOf_l4 h0 v1 σ n (v2 + (1 : Int32)) (v3 + (1 : Int32)))
    else
    (f_X4_marksOf_l4 h0 v1 σ n v2 (v3 + (1 : Int32)))))
    else
    (f_X4_marksOf_l4 h0 v1 σ n v2 (v3 + (1 : Int32)))))
noncomputable def f_X4_marksOf (h0 : Nat) (a1 : Int32) (σ : um_S) : Option (Int32) :=
    (f_X4_marksOf_l4 h0 a1 σ um_N (0 : Int32) (0 : Int32)).bind fun x1 =>
    (some x1)
set_option maxRecDepth 100000 in
set_option maxHeartbeats 4000000 in
theorem t_X4_marksOf_l4 {Q : State → Prop} {o2 : Int32} {σ : um_S} (h0 : Nat) (v1 : Int32) (hh0 : um_h h0) (hX : um_X sh) (Cx : um_C p s m meth c args cX4_marksOf 4 (some FieldType.int) RX4 Z) (hE : ∀ (H : Heap) (locs : List Loc) (ls : Array Slot), um_W Z sh α σ H → va_S (um_D sh α) s.heap H locs → lv_has ls 4 [(2, .int o2)] → W p l e { frames := 1, cells := 0, slots := 0, locals := 24 } s m args below meth c H locs 0 0 Q (F0 m 49 ls [])) : ∀ (n : Nat) (v2 : Int32) (v3 : Int32) (H : Heap) (locs : List Loc) (ls : Array Slot), f_X4_marksOf_l4 h0 v1 σ n v2 v3 = some o2 → um_W Z sh α σ H → va_S (um_D sh α) s.heap H locs → lv_has ls 4 [(0, .ref (α h0)), (1, .int v1), (2, .int v2), (3, .int v3)] → W p l e { frames := 1, cells := 0, slots := 0, locals := 24 } s m args below meth c H locs 0 0 Q (F0 m 4 ls []) := by
  have hx := Cx.1
  have hb := Cx.2.1
  have hown := Cx.2.2.2.2.1
  have hts := Cx.2.2.2.2.2.1
  intro n
  induction n with
  | zero =>
    intro v2 v3 H locs ls hf hW hS hl
    cases hf
  | succ n ih =>
    intro v2 v3 H locs ls hf hW hS hl
    rw [f_X4_marksOf_l4] at hf
    refine lv_iload_n (pc := 4) hx hb dX4_marksOf_4 rfl (lv_at hl 3 rfl) ?_
    refine lv_aload_n (pc := 5) hx hb dX4_marksOf_5 rfl (lv_at hl 0 rfl) ?_
    refine gF_X4_26 (pc := 6) Cx hW (xs_shore hX hh0) rfl dX4_marksOf_6 ?_
    refine gF_X4_100 (pc := 9) Cx hW (xs_tab hX (xs_ht hh0 3 rfl)) rfl dX4_marksOf_9 ?_
    refine lv_icmp_ge (pc := 12) (tgt := 49) hx hb dX4_marksOf_12 (by decide) (fun c1 => ?_) (fun c1 => ?_)
    · have hf := um_it c1 hf
      clear c1
      cases hf
      exact hE _ _ _ hW hS (lv_sub hl [2] rfl)
    · have hf := um_ie c1 hf
      clear c1
      refine lv_aload_n (pc := 15) hx hb dX4_marksOf_15 rfl (lv_at hl 0 rfl) ?_
      refine gF_X4_26 (pc := 16) Cx hW (xs_shore hX hh0) rfl dX4_marksOf_16 ?_
      refine lv_iload_n (pc := 19) hx hb dX4_marksOf_19 rfl (lv_at hl 3 rfl) ?_
      refine lv_iconst (pc := 20) (v := (0 : Int32)) hx hb dX4_marksOf_20 (by decide) ?_
      obtain ⟨x2, hc1, hf⟩ := um_bi hf
      refine um_cVi (pc := 21) (As := [.int v3, .int (0 : Int32)]) (rest := []) Cx (c_X5_get (20 * h0 + 3) v3 (0 : Int32) (xs_ht hh0 3 rfl) hX hc1) kV_X5_get (Or.inl qM_X4_82) hW hS (xs_tab hX (xs_ht hh0 3 rfl)) rfl rfl hl rfl (Nat.le_of_ble_eq_true rfl) (Nat.le_of_ble_eq_true rfl) (Nat.le_of_ble_eq_true rfl) dX4_marksOf_21 (Nat.le_refl _) (Nat.le_refl _) ?_
      clear hW hS hc1
      intro H locs hW hS
      refine lv_iload_n (pc := 24) hx hb dX4_marksOf_24 rfl (lv_at hl 1 rfl) ?_
      refine lv_icmp_ne (pc := 25) (tgt := 43) hx hb dX4_marksOf_25 (by decide) (fun c1 => ?_) (fun c1 => ?_)
      · have hf := um_ie c1 hf
        clear c1
        refine lv_iinc (pc := 43) (v := v3 + (1 : Int32)) (lv' := [(3, .int (v3 + (1 : Int32))), (0, .ref (α h0)), (1, .int v1), (2, .int v2)]) hx hb dX4_marksOf_43 hl (k := 3) rfl rfl (by decide) rfl ?_
        clear hl
        intro ls hl
        refine lv_goto (pc := 46) (tgt := 4) hx hb dX4_marksOf_46 (by decide) ?_
        exact ih _ _ _ _ _ hf hW hS (lv_sub hl [1, 2, 3, 0] rfl)
      · have hf := um_it c1 hf
        clear c1
        refine lv_aload_n (pc := 28) hx hb dX4_marksOf_28 rfl (lv_at hl 0 rfl) ?_
        refine gF_X4_26 (pc := 29) Cx hW (xs_shore hX hh0) rfl dX4_marksOf_29 ?_
        refine lv_iload_n (pc := 32) hx hb dX4_marksOf_32 rfl (lv_at hl 3 rfl) ?_
        refine lv_iconst (pc := 33) (v := (3 : Int32)) hx hb dX4_marksOf_33 (by decide) ?_
        obtain ⟨x4, hc3, hf⟩ := um_bi hf
        refine um_cVi (pc := 34) (As := [.int v3, .int (3 : Int32)]) (rest := []) Cx (c_X5_get (20 * h0 + 3) v3 (3 : Int32) (xs_ht hh0 3 rfl) hX hc3) kV_X5_get (Or.inl qM_X4_82) hW hS (xs_tab hX (xs_ht hh0 3 rfl)) rfl rfl hl rfl (Nat.le_of_ble_eq_true rfl) (Nat.le_of_ble_eq_true rfl) (Nat.le_of_ble_eq_true rfl) dX4_marksOf_34 (Nat.le_refl _) (Nat.le_refl _) ?_
        clear hW hS hc3
        intro H locs hW hS
        refine lv_if_ne (pc := 37) (tgt := 43) hx hb dX4_marksOf_37 (by decide) (fun c1 => ?_) (fun c1 => ?_)
        · have hf := um_ie c1 hf
          clear c1
          refine lv_iinc (pc := 43) (v := v3 + (1 : Int32)) (lv' := [(3, .int (v3 + (1 : Int32))), (0, .ref (α h0)), (1, .int v1), (2, .int v2)]) hx hb dX4_marksOf_43 hl (k := 3) rfl rfl (by decide) rfl ?_
          clear hl
          intro ls hl
          refine lv_goto (pc := 46) (tgt := 4) hx hb dX4_marksOf_46 (by decide) ?_
          exact ih _ _ _ _ _ hf hW hS (lv_sub hl [1, 2, 3, 0] rfl)
        · have hf := um_it c1 hf
          clear c1
          refine lv_iinc (pc := 40) (v := v2 + (1 : Int32)) (lv' := [(2, .int (v2 + (1 : Int32))), (0, .ref (α h0)), (1, .int v1), (3, .int v3)]) hx hb dX4_marksOf_40 hl (k := 2) rfl rfl (by decide) rfl ?_
          clear hl
          intro ls hl
          refine lv_iinc (pc := 43) (v := v3 + (1 : Int32)) (lv' := [(3, .int (v3 + (1 : Int32))), (2, .int (v2 + (1 : Int32))), (0, .ref (α h0)), (1, .int v1)]) hx hb dX4_marksOf_43 hl (k := 3) rfl rfl (by decide) rfl ?_
          clear hl
          intro ls hl
          refine lv_goto (pc := 46) (tgt := 4) hx hb dX4_marksOf_46 (by decide) ?_
          exact ih _ _ _ _ _ hf hW hS (lv_sub hl [2, 3, 1, 0] rfl)
set_option maxRecDepth 100000 in
set_option maxHeartbeats 4000000 in
theorem b_X4_marksOf {H : Heap} {locs : List Loc} {ls : Array Slot} {σ : um_S} {r : Int32} (h0 : Nat) (a1 : Int32) (hh0 : um_h h0) (hX : um_X sh) (hf : f_X4_marksOf h0 a1 σ = some r) (Cx : um_C p s m meth c args cX4_marksOf 4 (some FieldType.int) RX4 Z) (hW : um_W Z sh α σ H) (hS : va_S (um_D sh α) s.heap H locs) (hl : lv_has ls 4 [(0, .ref (α h0)), (1, .int a1)]) : um_G p l e (1) (24) s m args below meth c Z sh α σ (some (.int r)) H locs (F0 m 0 ls []) := by
  have hx := Cx.1
  have hb := Cx.2.1
  have hown := Cx.2.2.2.2.1
  have hts := Cx.2.2.2.2.2.1
  rw [f_X4_marksOf] at hf
  refine lv_iconst (pc := 0) (v := (0 : Int32)) hx hb dX4_marksOf_0 (by decide) ?_
  refine lv_istore_n (pc := 1) (lv' := [(2, .int (0 : Int32)), (0, .ref (α h0)), (1, .int a1)]) hx hb dX4_marksOf_1 rfl hl (by decide) rfl ?_
  clear hl
  intro ls hl
  refine lv_iconst (pc := 2) (v := (0 : Int32)) hx hb dX4_marksOf_2 (by decide) ?_
  refine lv_istore_n (pc := 3) (lv' := [(3, .int (0 : Int32)), (2, .int (0 : Int32)), (0, .ref (α h0)), (1, .int a1)]) hx hb dX4_marksOf_3 rfl hl (by decide) rfl ?_
  clear hl
  intro ls hl
  obtain ⟨x1, hc2, hf⟩ := um_bi hf
  refine t_X4_marksOf_l4 h0 a1 hh0 hX Cx ?_ um_N _ _ _ _ _ hc2 hW hS (lv_sub hl [2, 3, 1, 0] rfl)
  clear hW hS hl hc2
  intro H locs ls hW hS hl
  refine lv_iload_n (pc := 49) hx hb dX4_marksOf_49 rfl (lv_at hl 0 rfl) ?_
  exact um_iretR (pc := 50) Cx hW hS hf dX4_marksOf_50
theorem c_X4_marksOf {σ : um_S} {r : Int32} (h0 : Nat) (a1 : Int32) (hh0 : um_h h0) (hX : um_X sh) (hf : f_X4_marksOf h0 a1 σ = some r) : um_M l yX4_marksOf cX4_marksOf 4 (some FieldType.int) (1) (24) Z sh α σ [.ref (α h0), .int a1] (some (.int r)) σ :=
  um_start (by decide) (Nat.le_of_ble_eq_true rfl) (fun p e s m below meth c ls Cx hW hS hl => b_X4_marksOf h0 a1 hh0 hX hf Cx hW hS hl)
