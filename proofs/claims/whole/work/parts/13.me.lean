variable {p : Program} {l : Launch} {e : Env} {s : State} {m : MethodId} {args : Array Value} {below : List Frame} {meth : Method} {c : Code} {Z : um_Z} {α : Nat → Nat} {sh : Nat → Option um_Sh}
noncomputable def f_X9_eat_l12 (v1 : Int32) (σ : um_S) : Nat → Int32 → Int32 → Option (Int32)
  | 0, _, _ => none
  | n + 1, v2, v3 =>
    if (σ.1 1 2) ≤ v3 then
    (some v2)
    else
    ((f_X9_isDead v3 σ).bind fun x2 =>
    (um_let (fun (x4 : Int32) =>
    (if x4 = 0 then
    (um_let (v2 + (0 : Int32)) fun x5 =>
    (f_X9_eat_l12 v1 σ n x5 (v3 + (1 : Int32))))
    else
    ((f_X9_kindOf v3 σ).bind fun x8 =>
    (if x8 = (3 : Int32) then
    (um_let (v2 + (1 : Int32)) fun x11 =>
    (f_X9_eat_l12 v1 σ n x11 (v3 + (1 : Int32))))
    else
    (um_let (v2 + (2 : Int32)) fun x9 =>
    (f_X9_eat_l12 v1 σ n x9 (v3 + (1 : Int32)))))))) fun k3 =>
    (um_let (fun (_u : Unit) =>
    (k3 (0 : Int32))) fun k13 =>
    (if (um_b x2) = 0 then
    ((f_X9_manAt v3 σ).bind fun x15 =>
    (if um_ix (x15 + (4 : Int32)) 3790 then
    (if (σ.1 1 (x15 + (4 : Int32)).toNatClampNeg) = v1 then
    (k3 (1 : Int32))
    else
    (k13 ())) else none))
    else
    (k13 ())))))
noncomputable def f_X9_eat_l2  : Nat → Int32 → um_S → Option (um_S)
  | 0, _, _ => none
  | n + 1, v1, σ =>
    if (6 : Int32) ≤ v1 then
    (some σ)
    else
    ((f_X9_eat_l12 v1 σ um_N (0 : Int32) (0 : Int32)).bind fun x1 =>
    (if um_ix ((11 : Int32) + v1) 3790 then
    (um_let (fun (x5 : Int32) =>
    (if um_ix ((17 : Int32) + v1) 3790 then
    (um_let (um_wr σ 1 ((17 : Int32) + v1).toNatClampNeg x5) fun σ7 =>
    (if um_ix ((11 : Int32) + v1) 3790 then
    (if um_ix ((11 : Int32) + v1) 3790 then
    ((f_X9_least x1 (σ7.1 1 ((11 : Int32) + v1).toNatClampNeg) σ7).bind fun x12 =>
    (if um_ix ((11 : Int32) + v1) 3790 then
    (um_let (um_wr σ7 1 ((11 : Int32) + v1).toNatClampNeg ((σ7.1 1 ((11 : Int32) + v1).toNatClampNeg) - x12)) fun σ14 =>
    (f_X9_eat_l2 n (v1 + (1 : Int32)) σ14)) else none)) else none) else none)) else none)) fun k4 =>
    (if x1 ≤ (σ.1 1 ((11 : Int32) + v1).toNatClampNeg) then
    (k4 (0 : Int32))
    else
    (k4 (1 : Int32)))) else none))
noncomputable def f_X9_eat  (σ : um_S) : Option (um_S) :=
    (f_X9_eat_l2 um_N (0 : Int32) σ).bind fun σ1 =>
    (some σ1)
set_option maxRecDepth 100000 in
set_option maxHeartbeats 4000000 in
theorem t_X9_eat_l12 {Q : State → Prop} {o2 : Int32} {σ : um_S} (v1 : Int32)  (Cx : um_C p s m meth c args cX9_eat 5 none RX9 Z) (hE : ∀ (H : Heap) (locs : List Loc) (ls : Array Slot), um_W Z msh α σ H → va_S (um_D msh α) s.heap H locs → lv_has ls 5 [(0, .ref (α 0)), (1, .int v1), (2, .int o2)] → W p l e { frames := 2, cells := 0, slots := 0, locals := 42 } s m args below meth c H locs 0 0 Q (F0 m 85 ls [])) : ∀ (n : Nat) (v2 : Int32) (v3 : Int32) (H : Heap) (locs : List Loc) (ls : Array Slot), f_X9_eat_l12 v1 σ n v2 v3 = some o2 → um_W Z msh α σ H → va_S (um_D msh α) s.heap H locs → lv_has ls 5 [(0, .ref (α 0)), (1, .int v1), (2, .int v2), (3, .int v3)] → W p l e { frames := 2, cells := 0, slots := 0, locals := 42 } s m args below meth c H locs 0 0 Q (F0 m 12 ls []) := by
  have hx := Cx.1
  have hb := Cx.2.1
  have hown := Cx.2.2.2.2.1
  have hts := Cx.2.2.2.2.2.1
  intro n
  induction n with
  | zero =>
    intro v2 v3 H locs ls hf hW hS hl
    cases hf
  | succ n ih =>
    intro v2 v3 H locs ls hf hW hS hl
    rw [f_X9_eat_l12] at hf
    refine lv_iload_n (pc := 12) hx hb dX9_eat_12 rfl (lv_at hl 3 rfl) ?_
    refine lv_aload_n (pc := 13) hx hb dX9_eat_13 rfl (lv_at hl 0 rfl) ?_
    refine gF_X9_7 (pc := 14) Cx hW ms_0 rfl dX9_eat_14 ?_
    refine lv_iconst (pc := 17) (v := (2 : Int32)) hx hb dX9_eat_17 (by decide) ?_
    refine um_iaj (pc := 18) (n := 3790) 2 rfl Cx hW ms_1 rfl (um_ix_in (by decide)) dX9_eat_18 ?_
    refine lv_icmp_ge (pc := 19) (tgt := 85) hx hb dX9_eat_19 (by decide) (fun c1 => ?_) (fun c1 => ?_)
    · have hf := um_it c1 hf
      clear c1
      cases hf
      exact hE _ _ _ hW hS (lv_sub hl [0, 1, 2] rfl)
    · have hf := um_ie c1 hf
      clear c1
      refine lv_aload_n (pc := 22) hx hb dX9_eat_22 rfl (lv_at hl 0 rfl) ?_
      refine lv_iload_n (pc := 23) hx hb dX9_eat_23 rfl (lv_at hl 3 rfl) ?_
      obtain ⟨x2, hc1, hf⟩ := um_bi hf
      refine um_cVi (pc := 24) (As := [.int v3]) (rest := []) Cx (c_X9_isDead v3 hc1) kV_X9_isDead (Or.inl qM_X9_70) hW hS ms_0 rfl rfl hl rfl (Nat.le_of_ble_eq_true rfl) (Nat.le_of_ble_eq_true rfl) (Nat.le_of_ble_eq_true rfl) dX9_eat_24 (Nat.le_refl _) (Nat.le_refl _) ?_
      clear hW hS hc1
      intro H locs hW hS
      obtain ⟨k3, hk3, hf⟩ := um_j1 hf
      have J3 : ∀ (x4 : Int32), k3 x4 = some o2 → ∀ (H : Heap) (locs : List Loc) (ls : Array Slot), um_W Z msh α σ H → va_S (um_D msh α) s.heap H locs → lv_has ls 5 [(0, .ref (α 0)), (1, .int v1), (2, .int v2), (3, .int v3)] → W p l e { frames := 2, cells := 0, slots := 0, locals := 42 } s m args below meth c H locs 0 0 Q (F0 m 51 ls [.int x4]) := by
        intro x4 hf H locs ls hW hS hl
        rw [hk3] at hf
        refine lv_istore (pc := 51) (lv' := [(4, .int x4), (0, .ref (α 0)), (1, .int v1), (2, .int v2), (3, .int v3)]) hx hb dX9_eat_51 hl (by decide) rfl ?_
        clear hl
        intro ls hl
        refine lv_iload_n (pc := 53) hx hb dX9_eat_53 rfl (lv_at hl 3 rfl) ?_
        refine lv_iload (pc := 54) hx hb dX9_eat_54 (lv_at hl 0 rfl) ?_
        refine lv_if_eq (pc := 56) (tgt := 76) hx hb dX9_eat_56 (by decide) (fun c1 => ?_) (fun c1 => ?_)
        · have hf := um_it c1 hf
          clear c1
          refine lv_iconst (pc := 76) (v := (0 : Int32)) hx hb dX9_eat_76 (by decide) ?_
          refine lv_iadd (pc := 77) hx hb dX9_eat_77 ?_
          obtain ⟨x5, e6, hf⟩ := um_le hf
          refine um_top e6 ?_
          clear e6
          refine lv_istore_n (pc := 78) (lv' := [(2, .int x5), (4, .int x4), (0, .ref (α 0)), (1, .int v1), (3, .int v3)]) hx hb dX9_eat_78 rfl hl (by decide) rfl ?_
          clear hl
          intro ls hl
          refine lv_iinc (pc := 79) (v := v3 + (1 : Int32)) (lv' := [(3, .int (v3 + (1 : Int32))), (2, .int x5), (4, .int x4), (0, .ref (α 0)), (1, .int v1)]) hx hb dX9_eat_79 hl (k := 4) rfl rfl (by decide) rfl ?_
          clear hl
          intro ls hl
          refine lv_goto (pc := 82) (tgt := 12) hx hb dX9_eat_82 (by decide) ?_
          exact ih _ _ _ _ _ hf hW hS (lv_sub hl [3, 4, 1, 0] rfl)
        · have hf := um_ie c1 hf
          clear c1
          refine lv_aload_n (pc := 59) hx hb dX9_eat_59 rfl (lv_at hl 1 rfl) ?_
          refine lv_iload_n (pc := 60) hx hb dX9_eat_60 rfl (lv_at hl 4 rfl) ?_
          obtain ⟨x8, hc7, hf⟩ := um_bi hf
          refine um_cVi (pc := 61) (As := [.int v3]) (rest := [.int v2]) Cx (c_X9_kindOf v3 hc7) kV_X9_kindOf (Or.inl qM_X9_77) hW hS ms_0 rfl rfl hl rfl (Nat.le_of_ble_eq_true rfl) (Nat.le_of_ble_eq_true rfl) (Nat.le_of_ble_eq_true rfl) dX9_eat_61 (Nat.le_refl _) (Nat.le_refl _) ?_
          clear hW hS hc7
          intro H locs hW hS
          refine lv_iconst (pc := 64) (v := (3 : Int32)) hx hb dX9_eat_64 (by decide) ?_
          refine lv_icmp_ne (pc := 65) (tgt := 72) hx hb dX9_eat_65 (by decide) (fun c1 => ?_) (fun c1 => ?_)
          · have hf := um_ie c1 hf
            clear c1
            refine lv_iconst (pc := 72) (v := (2 : Int32)) hx hb dX9_eat_72 (by decide) ?_
            refine lv_goto (pc := 73) (tgt := 77) hx hb dX9_eat_73 (by decide) ?_
            refine lv_iadd (pc := 77) hx hb dX9_eat_77 ?_
            obtain ⟨x9, e10, hf⟩ := um_le hf
            refine um_top e10 ?_
            clear e10
            refine lv_istore_n (pc := 78) (lv' := [(2, .int x9), (4, .int x4), (0, .ref (α 0)), (1, .int v1), (3, .int v3)]) hx hb dX9_eat_78 rfl hl (by decide) rfl ?_
            clear hl
            intro ls hl
            refine lv_iinc (pc := 79) (v := v3 + (1 : Int32)) (lv' := [(3, .int (v3 + (1 : Int32))), (2, .int x9), (4, .int x4), (0, .ref (α 0)), (1, .int v1)]) hx hb dX9_eat_79 hl (k := 4) rfl rfl (by decide) rfl ?_
            clear hl
            intro ls hl
            refine lv_goto (pc := 82) (tgt := 12) hx hb dX9_eat_82 (by decide) ?_
            exact ih _ _ _ _ _ hf hW hS (lv_sub hl [3, 4, 1, 0] rfl)
          · have hf := um_it c1 hf
            clear c1
            refine lv_iconst (pc := 68) (v := (1 : Int32)) hx hb dX9_eat_68 (by decide) ?_
            refine lv_goto (pc := 69) (tgt := 77) hx hb dX9_eat_69 (by decide) ?_
            refine lv_iadd (pc := 77) hx hb dX9_eat_77 ?_
            obtain ⟨x11, e12, hf⟩ := um_le hf
            refine um_top e12 ?_
            clear e12
            refine lv_istore_n (pc := 78) (lv' := [(2, .int x11), (4, .int x4), (0, .ref (α 0)), (1, .int v1), (3, .int v3)]) hx hb dX9_eat_78 rfl hl (by decide) rfl ?_
            clear hl
            intro ls hl
            refine lv_iinc (pc := 79) (v := v3 + (1 : Int32)) (lv' := [(3, .int (v3 + (1 : Int32))), (2, .int x11), (4, .int x4), (0, .ref (α 0)), (1, .int v1)]) hx hb dX9_eat_79 hl (k := 4) rfl rfl (by decide) rfl ?_
            clear hl
            intro ls hl
            refine lv_goto (pc := 82) (tgt := 12) hx hb dX9_eat_82 (by decide) ?_
            exact ih _ _ _ _ _ hf hW hS (lv_sub hl [3, 4, 1, 0] rfl)
      obtain ⟨k13, hk13, hf⟩ := um_j1 hf
      have J13 : ∀ (_u : Unit), k13 _u = some o2 → ∀ (H : Heap) (locs : List Loc) (ls : Array Slot), um_W Z msh α σ H → va_S (um_D msh α) s.heap H locs → lv_has ls 5 [(0, .ref (α 0)), (1, .int v1), (2, .int v2), (3, .int v3)] → W p l e { frames := 2, cells := 0, slots := 0, locals := 42 } s m args below meth c H locs 0 0 Q (F0 m 50 ls []) := by
        intro _u hf H locs ls hW hS hl
        rw [hk13] at hf
        refine lv_iconst (pc := 50) (v := (0 : Int32)) hx hb dX9_eat_50 (by decide) ?_
        exact J3 (0 : Int32) hf _ _ _ hW hS hl
      refine lv_if_ne (pc := 27) (tgt := 50) hx hb dX9_eat_27 (by decide) (fun c1 => ?_) (fun c1 => ?_)
      · have hf := um_ie c1 hf
        clear c1
        exact J13 () hf _ _ _ hW hS hl
      · have hf := um_it c1 hf
        clear c1
        refine lv_aload_n (pc := 30) hx hb dX9_eat_30 rfl (lv_at hl 0 rfl) ?_
        refine gF_X9_7 (pc := 31) Cx hW ms_0 rfl dX9_eat_31 ?_
        refine lv_aload_n (pc := 34) hx hb dX9_eat_34 rfl (lv_at hl 0 rfl) ?_
        refine lv_iload_n (pc := 35) hx hb dX9_eat_35 rfl (lv_at hl 3 rfl) ?_
        obtain ⟨x15, hc14, hf⟩ := um_bi hf
        refine um_cVi (pc := 36) (As := [.int v3]) (rest := [.ref (α 1)]) Cx (c_X9_manAt v3 hc14) kV_X9_manAt (Or.inl qM_X9_66) hW hS ms_0 rfl rfl hl rfl (Nat.le_of_ble_eq_true rfl) (Nat.le_of_ble_eq_true rfl) (Nat.le_of_ble_eq_true rfl) dX9_eat_36 (Nat.le_refl _) (Nat.le_refl _) ?_
        clear hW hS hc14
        intro H locs hW hS
        refine lv_iconst (pc := 39) (v := (4 : Int32)) hx hb dX9_eat_39 (by decide) ?_
        refine lv_iadd (pc := 40) hx hb dX9_eat_40 ?_
        obtain ⟨g16, hf⟩ := um_gu hf
        refine um_iald (pc := 41) Cx hW ms_1 rfl (um_ix_in g16) dX9_eat_41 ?_
        refine lv_iload_n (pc := 42) hx hb dX9_eat_42 rfl (lv_at hl 1 rfl) ?_
        refine lv_icmp_ne (pc := 43) (tgt := 50) hx hb dX9_eat_43 (by decide) (fun c1 => ?_) (fun c1 => ?_)
        · have hf := um_ie c1 hf
          clear c1
          exact J13 () hf _ _ _ hW hS hl
        · have hf := um_it c1 hf
          clear c1
          refine lv_iconst (pc := 46) (v := (1 : Int32)) hx hb dX9_eat_46 (by decide) ?_
          refine lv_goto (pc := 47) (tgt := 51) hx hb dX9_eat_47 (by decide) ?_
          exact J3 (1 : Int32) hf _ _ _ hW hS hl
set_option maxRecDepth 100000 in
set_option maxHeartbeats 4000000 in
theorem t_X9_eat_l2 {Q : State → Prop} {σo : um_S}   (Cx : um_C p s m meth c args cX9_eat 5 none RX9 Z) (hE : ∀ (H : Heap) (locs : List Loc) (ls : Array Slot), um_W Z msh α σo H → va_S (um_D msh α) s.heap H locs → lv_has ls 5 [] → W p l e { frames := 2, cells := 0, slots := 0, locals := 42 } s m args below meth c H locs 0 0 Q (F0 m 143 ls [])) : ∀ (n : Nat) (v1 : Int32) (σ : um_S) (H : Heap) (locs : List Loc) (ls : Array Slot), f_X9_eat_l2 n v1 σ = some σo → um_W Z msh α σ H → va_S (um_D msh α) s.heap H locs → lv_has ls 5 [(0, .ref (α 0)), (1, .int v1)] → W p l e { frames := 2, cells := 0, slots := 0, locals := 42 } s m args below meth c H locs 0 0 Q (F0 m 2 ls []) := by
  have hx := Cx.1
  have hb := Cx.2.1
  have hown := Cx.2.2.2.2.1
  have hts := Cx.2.2.2.2.2.1
  intro n
  induction n with
  | zero =>
    intro v1 σ H locs ls hf hW hS hl
    cases hf
  | succ n ih =>
    intro v1 σ H locs ls hf hW hS hl
    rw [f_X9_eat_l2] at hf
    refine lv_iload_n (pc := 2) hx hb dX9_eat_2 rfl (lv_at hl 1 rfl) ?_
    refine lv_bipush (pc := 3) (v := (6 : Int32)) hx hb dX9_eat_3 (by decide) ?_
    refine lv_icmp_ge (pc := 5) (tgt := 143) hx hb dX9_eat_5 (by decide) (fun c1 => ?_) (fun c1 => ?_)
    · have hf := um_it c1 hf
      clear c1
      cases hf
      exact hE _ _ _ hW hS (lv_sub hl [] rfl)
    · have hf := um_ie c1 hf
      clear c1
      refine lv_iconst (pc := 8) (v := (0 : Int32)) hx hb dX9_eat_8 (by decide) ?_
      refine lv_istore_n (pc := 9) (lv' := [(2, .int (0 : Int32)), (0, .ref (α 0)), (1, .int v1)]) hx hb dX9_eat_9 rfl hl (by decide) rfl ?_
      clear hl
      intro ls hl
      refine lv_iconst (pc := 10) (v := (0 : Int32)) hx hb dX9_eat_10 (by decide) ?_
      refine lv_istore_n (pc := 11) (lv' := [(3, .int (0 : Int32)), (2, .int (0 : Int32)), (0, .ref (α 0)), (1, .int v1)]) hx hb dX9_eat_11 rfl hl (by decide) rfl ?_
      clear hl
      intro ls hl
      obtain ⟨x1, hc2, hf⟩ := um_bi hf
      refine t_X9_eat_l12 v1 Cx ?_ um_N _ _ _ _ _ hc2 hW hS (lv_sub hl [2, 3, 1, 0] rfl)
      clear hW hS hl hc2
      intro H locs ls hW hS hl
      refine lv_aload_n (pc := 85) hx hb dX9_eat_85 rfl (lv_at hl 0 rfl) ?_
      refine gF_X9_7 (pc := 86) Cx hW ms_0 rfl dX9_eat_86 ?_
      refine lv_bipush (pc := 89) (v := (17 : Int32)) hx hb dX9_eat_89 (by decide) ?_
      refine lv_iload_n (pc := 91) hx hb dX9_eat_91 rfl (lv_at hl 1 rfl) ?_
      refine lv_iadd (pc := 92) hx hb dX9_eat_92 ?_
      refine lv_aload_n (pc := 93) hx hb dX9_eat_93 rfl (lv_at hl 0 rfl) ?_
      refine gF_X9_7 (pc := 94) Cx hW ms_0 rfl dX9_eat_94 ?_
      refine lv_bipush (pc := 97) (v := (11 : Int32)) hx hb dX9_eat_97 (by decide) ?_
      refine lv_iload_n (pc := 99) hx hb dX9_eat_99 rfl (lv_at hl 1 rfl) ?_
      refine lv_iadd (pc := 100) hx hb dX9_eat_100 ?_
      obtain ⟨g3, hf⟩ := um_gu hf
      refine um_iald (pc := 101) Cx hW ms_1 rfl (um_ix_in g3) dX9_eat_101 ?_
      refine lv_iload_n (pc := 102) hx hb dX9_eat_102 rfl (lv_at hl 2 rfl) ?_
      obtain ⟨k4, hk4, hf⟩ := um_j1 hf
      have J4 : ∀ (x5 : Int32), k4 x5 = some σo → ∀ (H : Heap) (locs : List Loc) (ls : Array Slot), um_W Z msh α σ H → va_S (um_D msh α) s.heap H locs → lv_has ls 5 [(0, .ref (α 0)), (1, .int v1), (2, .int x1)] → W p l e { frames := 2, cells := 0, slots := 0, locals := 42 } s m args below meth c H locs 0 0 Q (F0 m 111 ls [.int x5, .int ((17 : Int32) + v1), .ref (α 1)]) := by
        intro x5 hf H locs ls hW hS hl
        rw [hk4] at hf
        obtain ⟨g6, hf⟩ := um_gu hf
        refine um_iast (pc := 111) Cx hW hS ms_1 rfl (um_ix_in g6) dX9_eat_111 ?_
        clear hW hS
        intro H locs hW hS
        obtain ⟨σ7, e8, hf⟩ := um_le hf
        rw [← e8] at hW
        clear e8
        refine lv_aload_n (pc := 112) hx hb dX9_eat_112 rfl (lv_at hl 0 rfl) ?_
        refine gF_X9_7 (pc := 113) Cx hW ms_0 rfl dX9_eat_113 ?_
        refine lv_bipush (pc := 116) (v := (11 : Int32)) hx hb dX9_eat_116 (by decide) ?_
        refine lv_iload_n (pc := 118) hx hb dX9_eat_118 rfl (lv_at hl 1 rfl) ?_
        refine lv_iadd (pc := 119) hx hb dX9_eat_119 ?_
        refine lv_dup2_11 (pc := 120) hx hb dX9_eat_120 rfl rfl ?_
        obtain ⟨g9, hf⟩ := um_gu hf
        refine um_iald (pc := 121) Cx hW ms_1 rfl (um_ix_in g9) dX9_eat_121 ?_
        refine lv_iload_n (pc := 122) hx hb dX9_eat_122 rfl (lv_at hl 2 rfl) ?_
        refine lv_aload_n (pc := 123) hx hb dX9_eat_123 rfl (lv_at hl 0 rfl) ?_
        refine gF_X9_7 (pc := 124) Cx hW ms_0 rfl dX9_eat_124 ?_
        refine lv_bipush (pc := 127) (v := (11 : Int32)) hx hb dX9_eat_127 (by decide) ?_
        refine lv_iload_n (pc := 129) hx hb dX9_eat_129 rfl (lv_at hl 1 rfl) ?_
        refine lv_iadd (pc := 130) hx hb dX9_eat_130 ?_
        obtain ⟨g10, hf⟩ := um_gu hf
        refine um_iald (pc := 131) Cx hW ms_1 rfl (um_ix_in g10) dX9_eat_131 ?_
        obtain ⟨x12, hc11, hf⟩ := um_bi hf
        refine um_cSi (pc := 132) (As := [.int x1, .int (σ7.1 1 ((11 : Int32) + v1).toNatClampNeg)]) (rest := [.int (σ7.1 1 ((11 : Int32) + v1).toNatClampNeg), .int ((11 : Int32) + v1), .ref (α 1)]) Cx (c_X9_least x1 (σ7.1 1 ((11 : Int32) + v1).toNatClampNeg) hc11) kS_X9_least (Or.inl qM_X9_286) hW hS rfl hl rfl (Nat.le_of_ble_eq_true rfl) (Nat.le_of_ble_eq_true rfl) (Nat.le_of_ble_eq_true rfl) dX9_eat_132 (Nat.le_refl _) (Nat.le_refl _) ?_
        clear hW hS hc11
        intro H locs hW hS
        refine lv_isub (pc := 135) hx hb dX9_eat_135 ?_
        obtain ⟨g13, hf⟩ := um_gu hf
        refine um_iast (pc := 136) Cx hW hS ms_1 rfl (um_ix_in g13) dX9_eat_136 ?_
        clear hW hS
        intro H locs hW hS
        obtain ⟨σ14, e15, hf⟩ := um_le hf
        rw [← e15] at hW
        clear e15
        refine lv_iinc (pc := 137) (v := v1 + (1 : Int32)) (lv' := [(1, .int (v1 + (1 : Int32))), (0, .ref (α 0)), (2, .int x1)]) hx hb dX9_eat_137 hl (k := 1) rfl rfl (by decide) rfl ?_
        clear hl
        intro ls hl
        refine lv_goto (pc := 140) (tgt := 2) hx hb dX9_eat_140 (by decide) ?_
        exact ih _ _ _ _ _ hf hW hS (lv_sub hl [1, 0] rfl)
      refine lv_icmp_ge (pc := 103) (tgt := 110) hx hb dX9_eat_103 (by decide) (fun c1 => ?_) (fun c1 => ?_)
      · have hf := um_it c1 hf
        clear c1
        refine lv_iconst (pc := 110) (v := (0 : Int32)) hx hb dX9_eat_110 (by decide) ?_
        exact J4 (0 : Int32) hf _ _ _ hW hS hl
      · have hf := um_ie c1 hf
        clear c1
        refine lv_iconst (pc := 106) (v := (1 : Int32)) hx hb dX9_eat_106 (by decide) ?_
        refine lv_goto (pc := 107) (tgt := 111) hx hb dX9_eat_107 (by decide) ?_
        exact J4 (1 : Int32) hf _ _ _ hW hS hl
set_option maxRecDepth 100000 in
set_option maxHeartbeats 4000000 in
theorem b_X9_eat {H : Heap} {locs : List Loc} {ls : Array Slot} {σ : um_S} {σ' : um_S}   (hf : f_X9_eat σ = some σ') (Cx : um_C p s m meth c args cX9_eat 5 none RX9 Z) (hW : um_W Z msh α σ H) (hS : va_S (um_D msh α) s.heap H locs) (hl : lv_has ls 5 [(0, .ref (α 0))]) : um_G p l e (2) (42) s m args below meth c Z msh α σ' none H locs (F0 m 0 ls []) := by
  have hx := Cx.1
  have hb := Cx.2.1
  have hown := Cx.2.2.2.2.1
  have hts := Cx.2.2.2.2.2.1
  rw [f_X9_eat] at hf
  refine lv_iconst (pc := 0) (v := (0 : Int32)) hx hb dX9_eat_0 (by decide) ?_
  refine lv_istore_n (pc := 1) (lv' := [(1, .int (0 : Int32)), (0, .ref (α 0))]) hx hb dX9_eat_1 rfl hl (by decide) rfl ?_
  clear hl
  intro ls hl
  obtain ⟨σ1, hc2, hf⟩ := um_bi hf
  refine t_X9_eat_l2  Cx ?_ um_N _ _ _ _ _ hc2 hW hS (lv_sub hl [1, 0] rfl)
  clear hW hS hl hc2
  intro H locs ls hW hS hl
  exact um_vret (pc := 143) Cx hW hS hf dX9_eat_143
theorem c_X9_eat {σ : um_S} {σ' : um_S}   (hf : f_X9_eat σ = some σ') : um_M l yX9_eat cX9_eat 5 none (2) (42) Z msh α σ [.ref (α 0)] none σ' :=
  um_start (by decide) (Nat.le_of_ble_eq_true rfl) (fun p e s m below meth c ls Cx hW hS hl => b_X9_eat hf Cx hW hS hl)
noncomputable def f_X9_isHeld (a1 : Int32) (σ : um_S) : Option (Bool) :=
    (f_X9_kindOf a1 σ).bind fun x2 =>
    ((f_X9_isIn (x2.toInt64) (1 : Int64) (4 : Int64) σ).bind fun x4 =>
    (some x4))
set_option maxRecDepth 100000 in
set_option maxHeartbeats 4000000 in
theorem b_X9_isHeld {H : Heap} {locs : List Loc} {ls : Array Slot} {σ : um_S} {r : Bool} (a1 : Int32)  (hf : f_X9_isHeld a1 σ = some r) (Cx : um_C p s m meth c args cX9_isHeld 2 (some FieldType.boolean) RX9 Z) (hW : um_W Z msh α σ H) (hS : va_S (um_D msh α) s.heap H locs) (hl : lv_has ls 2 [(0, .ref (α 0)), (1, .int a1)]) : um_G p l e (2) (42) s m args below meth c Z msh α σ (some (.int (um_b r))) H locs (F0 m 0 ls []) := by
  have hx := Cx.1
  have hb := Cx.2.1
  have hown := Cx.2.2.2.2.1
  have hts := Cx.2.2.2.2.2.1
  rw [f_X9_isHeld] at hf
  refine lv_aload_n (pc := 0) hx hb dX9_isHeld_0 rfl (lv_at hl 0 rfl) ?_
  refine lv_iload_n (pc := 1) hx hb dX9_isHeld_1 rfl (lv_at hl 1 rfl) ?_
  obtain ⟨x2, hc1, hf⟩ := um_bi hf
  refine um_cVi (pc := 2) (As := [.int a1]) (rest := []) Cx (c_X9_kindOf a1 hc1) kV_X9_kindOf (Or.inl qM_X9_77) hW hS ms_0 rfl rfl hl rfl (Nat.le_of_ble_eq_true rfl) (Nat.le_of_ble_eq_true rfl) (Nat.le_of_ble_eq_true rfl) dX9_isHeld_2 (Nat.le_refl _) (Nat.le_refl _) ?_
  clear hW hS hc1
  intro H locs hW hS
  refine lv_i2l (pc := 5) hx hb dX9_isHeld_5 rfl ?_
  refine lv_lconst (pc := 6) (v := (1 : Int64)) hx hb dX9_isHeld_6 (by decide) ?_
  refine lv_ldc2 (pc := 7) hx hb hown (hts _ qL_X9_80) dX9_isHeld_7 ?_
  obtain ⟨x4, hc3, hf⟩ := um_bi hf
  refine um_cSi (pc := 10) (As := [.long (x2.toInt64), .long (1 : Int64), .long (4 : Int64)]) (rest := []) Cx (c_X9_isIn (x2.toInt64) (1 : Int64) (4 : Int64) hc3) kS_X9_isIn (Or.inl qM_X9_60) hW hS rfl hl rfl (Nat.le_of_ble_eq_true rfl) (Nat.le_of_ble_eq_true rfl) (Nat.le_of_ble_eq_true rfl) dX9_isHeld_10 (Nat.le_refl _) (Nat.le_refl _) ?_
  clear hW hS hc3
  intro H locs hW hS
  exact um_zretR (pc := 13) Cx hW hS hf rfl dX9_isHeld_13
theorem c_X9_isHeld {σ : um_S} {r : Bool} (a1 : Int32)  (hf : f_X9_isHeld a1 σ = some r) : um_M l yX9_isHeld cX9_isHeld 2 (some FieldType.boolean) (2) (42) Z msh α σ [.ref (α 0), .int a1] (some (.int (um_b r))) σ :=
  um_start (by decide) (Nat.le_of_ble_eq_true rfl) (fun p e s m below meth c ls Cx hW hS hl => b_X9_isHeld a1 hf Cx hW hS hl)
noncomputable def f_X9_isThere (a1 : Int32) (σ : um_S) : Option (Bool) :=
    (f_X9_isDead a1 σ).bind fun x2 =>
    (if (um_b x2) = 0 then
    ((f_X9_manAt a1 σ).bind fun x4 =>
    (if um_ix (x4 + (4 : Int32)) 3790 then
    (if (σ.1 1 (x4 + (4 : Int32)).toNatClampNeg) < 0 then
    (some false)
    else
    ((f_X9_isHeld a1 σ).bind fun x7 =>
    (if (um_b x7) = 0 then
    (some false)
    else
    (some true)))) else none))
    else
    (some false))
set_option maxRecDepth 100000 in
set_option maxHeartbeats 4000000 in
theorem b_X9_isThere {H : Heap} {locs : List Loc} {ls : Array Slot} {σ : um_S} {r : Bool} (a1 : Int32)  (hf : f_X9_isThere a1 σ = some r) (Cx : um_C p s m meth c args cX9_isThere 2 (some FieldType.boolean) RX9 Z) (hW : um_W Z msh α σ H) (hS : va_S (um_D msh α) s.heap H locs) (hl : lv_has ls 2 [(0, .ref (α 0)), (1, .int a1)]) : um_G p l e (3) (63) s m args below meth c Z msh α σ (some (.int (um_b r))) H locs (F0 m 0 ls []) := by
  have hx := Cx.1
  have hb := Cx.2.1
  have hown := Cx.2.2.2.2.1
  have hts := Cx.2.2.2.2.2.1
  rw [f_X9_isThere] at hf
  refine lv_aload_n (pc := 0) hx hb dX9_isThere_0 rfl (lv_at hl 0 rfl) ?_
  refine lv_iload_n (pc := 1) hx hb dX9_isThere_1 rfl (lv_at hl 1 rfl) ?_
  obtain ⟨x2, hc1, hf⟩ := um_bi hf
  refine um_cVi (pc := 2) (As := [.int a1]) (rest := []) Cx (c_X9_isDead a1 hc1) kV_X9_isDead (Or.inl qM_X9_70) hW hS ms_0 rfl rfl hl rfl (Nat.le_of_ble_eq_true rfl) (Nat.le_of_ble_eq_true rfl) (Nat.le_of_ble_eq_true rfl) dX9_isThere_2 (Nat.le_refl _) (Nat.le_refl _) ?_
  clear hW hS hc1
  intro H locs hW hS
  refine lv_if_ne (pc := 5) (tgt := 35) hx hb dX9_isThere_5 (by decide) (fun c1 => ?_) (fun c1 => ?_)
  · have hf := um_ie c1 hf
    clear c1
    refine lv_iconst (pc := 35) (v := (0 : Int32)) hx hb dX9_isThere_35 (by decide) ?_
    exact um_zretR (pc := 36) Cx hW hS hf rfl dX9_isThere_36
  · have hf := um_it c1 hf
    clear c1
    refine lv_aload_n (pc := 8) hx hb dX9_isThere_8 rfl (lv_at hl 0 rfl) ?_
    refine gF_X9_7 (pc := 9) Cx hW ms_0 rfl dX9_isThere_9 ?_
    refine lv_aload_n (pc := 12) hx hb dX9_isThere_12 rfl (lv_at hl 0 rfl) ?_
    refine lv_iload_n (pc := 13) hx hb dX9_isThere_13 rfl (lv_at hl 1 rfl) ?_
    obtain ⟨x4, hc3, hf⟩ := um_bi hf
    refine um_cVi (pc := 14) (As := [.int a1]) (rest := [.ref (α 1)]) Cx (c_X9_manAt a1 hc3) kV_X9_manAt (Or.inl qM_X9_66) hW hS ms_0 rfl rfl hl rfl (Nat.le_of_ble_eq_true rfl) (Nat.le_of_ble_eq_true rfl) (Nat.le_of_ble_eq_true rfl) dX9_isThere_14 (Nat.le_refl _) (Nat.le_refl _) ?_
    clear hW hS hc3
    intro H locs hW hS
    refine lv_iconst (pc := 17) (v := (4 : Int32)) hx hb dX9_isThere_17 (by decide) ?_
    refine lv_iadd (pc := 18) hx hb dX9_isThere_18 ?_
    obtain ⟨g5, hf⟩ := um_gu hf
    refine um_iald (pc := 19) Cx hW ms_1 rfl (um_ix_in g5) dX9_isThere_19 ?_
    refine lv_if_lt (pc := 20) (tgt := 35) hx hb dX9_isThere_20 (by decide) (fun c1 => ?_) (fun c1 => ?_)
    · have hf := um_it c1 hf
      clear c1
      refine lv_iconst (pc := 35) (v := (0 : Int32)) hx hb dX9_isThere_35 (by decide) ?_
      exact um_zretR (pc := 36) Cx hW hS hf rfl dX9_isThere_36
    · have hf := um_ie c1 hf
      clear c1
      refine lv_aload_n (pc := 23) hx hb dX9_isThere_23 rfl (lv_at hl 0 rfl) ?_
      refine lv_iload_n (pc := 24) hx hb dX9_isThere_24 rfl (lv_at hl 1 rfl) ?_
      obtain ⟨x7, hc6, hf⟩ := um_bi hf
      refine um_cVi (pc := 25) (As := [.int a1]) (rest := []) Cx (c_X9_isHeld a1 hc6) kV_X9_isHeld (Or.inl qM_X9_280) hW hS ms_0 rfl rfl hl rfl (Nat.le_of_ble_eq_true rfl) (Nat.le_of_ble_eq_true rfl) (Nat.le_of_ble_eq_true rfl) dX9_isThere_25 (Nat.le_refl _) (Nat.le_refl _) ?_
      clear hW hS hc6
      intro H locs hW hS
      refine lv_if_eq (pc := 28) (tgt := 35) hx hb dX9_isThere_28 (by decide) (fun c1 => ?_) (fun c1 => ?_)
      · have hf := um_it c1 hf
        clear c1
        refine lv_iconst (pc := 35) (v := (0 : Int32)) hx hb dX9_isThere_35 (by decide) ?_
        exact um_zretR (pc := 36) Cx hW hS hf rfl dX9_isThere_36
      · have hf := um_ie c1 hf
        clear c1
        refine lv_iconst (pc := 31) (v := (1 : Int32)) hx hb dX9_isThere_31 (by decide) ?_
        refine lv_goto (pc := 32) (tgt := 36) hx hb dX9_isThere_32 (by decide) ?_
        exact um_zretR (pc := 36) Cx hW hS hf rfl dX9_isThere_36
theorem c_X9_isThere {σ : um_S} {r : Bool} (a1 : Int32)  (hf : f_X9_isThere a1 σ = some r) : um_M l yX9_isThere cX9_isThere 2 (some FieldType.boolean) (3) (63) Z msh α σ [.ref (α 0), .int a1] (some (.int (um_b r))) σ :=
  um_start (by decide) (Nat.le_of_ble_eq_true rfl) (fun p e s m below meth c ls Cx hW hS hl => b_X9_isThere a1 hf Cx hW hS hl)
noncomputable def f_X9_lands_l39 (v1 : Int32) : Nat → Int32 → um_S → Option (um_S)
  | 0, _, _ => none
  | n + 1, v2, σ =>
    if (σ.1 1 2) ≤ v2 then
    (some σ)
    else
    ((f_X9_manAt v2 σ).bind fun x2 =>
    (if um_ix (x2 + (13 : Int32)) 3790 then
    (if (σ.1 1 (x2 + (13 : Int32)).toNatClampNeg) = v1 then
    ((f_X9_isDead v2 σ).bind fun x5 =>
    (if (um_b x5) = 0 then
    ((f_X9_hasLanded v2 σ).bind fun x7 =>
    (if (um_b x7) = 0 then
    (if um_ix ((30 : Int32) + ((2 : Int32) * v1)) 3790 then
    (if um_ix (x2 + (4 : Int32)) 3790 then
    (um_let (um_wr σ 1 (x2 + (4 : Int32)).toNatClampNeg (σ.1 1 ((30 : Int32) + ((2 : Int32) * v1)).toNatClampNeg)) fun σ10 =>
    (if um_ix (x2 + (10 : Int32)) 3790 then
    (um_let (um_wr σ10 1 (x2 + (10 : Int32)).toNatClampNeg (σ10.1 1 0)) fun σ13 =>
    ((f_X9_becomesOf v2 (1 : Int32) (0 : Int32) σ13).bind fun σ16 =>
    (f_X9_lands_l39 v1 n (v2 + (1 : Int32)) σ16))) else none)) else none) else none)
    else
    (f_X9_lands_l39 v1 n (v2 + (1 : Int32)) σ)))
    else
    (f_X9_lands_l39 v1 n (v2 + (1 : Int32)) σ)))
    else
    (f_X9_lands_l39 v1 n (v2 + (1 : Int32)) σ)) else none))
noncomputable def f_X9_lands_l2  : Nat → Int32 → um_S → Option (um_S)
  | 0, _, _ => none
  | n + 1, v1, σ =>
    if (σ.1 1 1) ≤ v1 then
    (some σ)
    else
    (if um_ix (((30 : Int32) + ((2 : Int32) * v1)) + (1 : Int32)) 3790 then
    (if (σ.1 1 (((30 : Int32) + ((2 : Int32) * v1)) + (1 : Int32)).toNatClampNeg) = (σ.1 1 0) then
    ((f_X9_lands_l39 v1 um_N (0 : Int32) σ).bind fun σ2 =>
    (f_X9_lands_l2 n (v1 + (1 : Int32)) σ2))
    else
    (f_X9_lands_l2 n (v1 + (1 : Int32)) σ)) else none)
noncomputable def f_X9_lands  (σ : um_S) : Option (um_S) :=
    (f_X9_lands_l2 um_N (0 : Int32) σ).bind fun σ1 =>
    (some σ1)
set_option maxRecDepth 100000 in
set_option maxHeartbeats 4000000 in
theorem t_X9_lands_l39 {Q : State → Prop} {σo : um_S} (v1 : Int32)  (Cx : um_C p s m meth c args cX9_lands 4 none RX9 Z) (hE : ∀ (H : Heap) (locs : List Loc) (ls : Array Slot), um_W Z msh α σo H → va_S (um_D msh α) s.heap H locs → lv_has ls 4 [(0, .ref (α 0)), (1, .int v1)] → W p l e { frames := 2, cells := 0, slots := 0, locals := 45 } s m args below meth c H locs 0 0 Q (F0 m 131 ls [])) : ∀ (n : Nat) (v2 : Int32) (σ : um_S) (H : Heap) (locs : List Loc) (ls : Array Slot), f_X9_lands_l39 v1 n v2 σ = some σo → um_W Z msh α σ H → va_S (um_D msh α) s.heap H locs → lv_has ls 4 [(0, .ref (α 0)), (1, .int v1), (2, .int v2)] → W p l e { frames := 2, cells := 0, slots := 0, locals := 45 } s m args below meth c H locs 0 0 Q (F0 m 39 ls []) := by
  have hx := Cx.1
  have hb := Cx.2.1
  have hown := Cx.2.2.2.2.1
  have hts := Cx.2.2.2.2.2.1
  intro n
  induction n with
  | zero =>
    intro v2 σ H locs ls hf hW hS hl
    cases hf
  | succ n ih =>
    intro v2 σ H locs ls hf hW hS hl
    rw [f_X9_lands_l39] at hf
    refine lv_iload_n (pc := 39) hx hb dX9_lands_39 rfl (lv_at hl 2 rfl) ?_
    refine lv_aload_n (pc := 40) hx hb dX9_lands_40 rfl (lv_at hl 0 rfl) ?_
    refine gF_X9_7 (pc := 41) Cx hW ms_0 rfl dX9_lands_41 ?_
    refine lv_iconst (pc := 44) (v := (2 : Int32)) hx hb dX9_lands_44 (by decide) ?_
    refine um_iaj (pc := 45) (n := 3790) 2 rfl Cx hW ms_1 rfl (um_ix_in (by decide)) dX9_lands_45 ?_
    refine lv_icmp_ge (pc := 46) (tgt := 131) hx hb dX9_lands_46 (by decide) (fun c1 => ?_) (fun c1 => ?_)
    · have hf := um_it c1 hf
      clear c1
      cases hf
      exact hE _ _ _ hW hS (lv_sub hl [0, 1] rfl)
    · have hf := um_ie c1 hf
      clear c1
      refine lv_aload_n (pc := 49) hx hb dX9_lands_49 rfl (lv_at hl 0 rfl) ?_
      refine lv_iload_n (pc := 50) hx hb dX9_lands_50 rfl (lv_at hl 2 rfl) ?_
      obtain ⟨x2, hc1, hf⟩ := um_bi hf
      refine um_cVi (pc := 51) (As := [.int v2]) (rest := []) Cx (c_X9_manAt v2 hc1) kV_X9_manAt (Or.inl qM_X9_66) hW hS ms_0 rfl rfl hl rfl (Nat.le_of_ble_eq_true rfl) (Nat.le_of_ble_eq_true rfl) (Nat.le_of_ble_eq_true rfl) dX9_lands_51 (Nat.le_refl _) (Nat.le_refl _) ?_
      clear hW hS hc1
      intro H locs hW hS
      refine lv_istore_n (pc := 54) (lv' := [(3, .int x2), (0, .ref (α 0)), (1, .int v1), (2, .int v2)]) hx hb dX9_lands_54 rfl hl (by decide) rfl ?_
      clear hl
      intro ls hl
      refine lv_aload_n (pc := 55) hx hb dX9_lands_55 rfl (lv_at hl 1 rfl) ?_
      refine gF_X9_7 (pc := 56) Cx hW ms_0 rfl dX9_lands_56 ?_
      refine lv_iload_n (pc := 59) hx hb dX9_lands_59 rfl (lv_at hl 0 rfl) ?_
      refine lv_bipush (pc := 60) (v := (13 : Int32)) hx hb dX9_lands_60 (by decide) ?_
      refine lv_iadd (pc := 62) hx hb dX9_lands_62 ?_
      obtain ⟨g3, hf⟩ := um_gu hf
      refine um_iald (pc := 63) Cx hW ms_1 rfl (um_ix_in g3) dX9_lands_63 ?_
      refine lv_iload_n (pc := 64) hx hb dX9_lands_64 rfl (lv_at hl 2 rfl) ?_
      refine lv_icmp_ne (pc := 65) (tgt := 125) hx hb dX9_lands_65 (by decide) (fun c1 => ?_) (fun c1 => ?_)
      · have hf := um_ie c1 hf
        clear c1
        refine lv_iinc (pc := 125) (v := v2 + (1 : Int32)) (lv' := [(2, .int (v2 + (1 : Int32))), (3, .int x2), (0, .ref (α 0)), (1, .int v1)]) hx hb dX9_lands_125 hl (k := 3) rfl rfl (by decide) rfl ?_
        clear hl
        intro ls hl
        refine lv_goto (pc := 128) (tgt := 39) hx hb dX9_lands_128 (by decide) ?_
        exact ih _ _ _ _ _ hf hW hS (lv_sub hl [2, 3, 0] rfl)
      · have hf := um_it c1 hf
        clear c1
        refine lv_aload_n (pc := 68) hx hb dX9_lands_68 rfl (lv_at hl 1 rfl) ?_
        refine lv_iload_n (pc := 69) hx hb dX9_lands_69 rfl (lv_at hl 3 rfl) ?_
        obtain ⟨x5, hc4, hf⟩ := um_bi hf
        refine um_cVi (pc := 70) (As := [.int v2]) (rest := []) Cx (c_X9_isDead v2 hc4) kV_X9_isDead (Or.inl qM_X9_70) hW hS ms_0 rfl rfl hl rfl (Nat.le_of_ble_eq_true rfl) (Nat.le_of_ble_eq_true rfl) (Nat.le_of_ble_eq_true rfl) dX9_lands_70 (Nat.le_refl _) (Nat.le_refl _) ?_
        clear hW hS hc4
        intro H locs hW hS
        refine lv_if_ne (pc := 73) (tgt := 125) hx hb dX9_lands_73 (by decide) (fun c1 => ?_) (fun c1 => ?_)
        · have hf := um_ie c1 hf
          clear c1
          refine lv_iinc (pc := 125) (v := v2 + (1 : Int32)) (lv' := [(2, .int (v2 + (1 : Int32))), (3, .int x2), (0, .ref (α 0)), (1, .int v1)]) hx hb dX9_lands_125 hl (k := 3) rfl rfl (by decide) rfl ?_
          clear hl
          intro ls hl
          refine lv_goto (pc := 128) (tgt := 39) hx hb dX9_lands_128 (by decide) ?_
          exact ih _ _ _ _ _ hf hW hS (lv_sub hl [2, 3, 0] rfl)
        · have hf := um_it c1 hf
          clear c1
          refine lv_aload_n (pc := 76) hx hb dX9_lands_76 rfl (lv_at hl 1 rfl) ?_
          refine lv_iload_n (pc := 77) hx hb dX9_lands_77 rfl (lv_at hl 3 rfl) ?_
          obtain ⟨x7, hc6, hf⟩ := um_bi hf
          refine um_cVi (pc := 78) (As := [.int v2]) (rest := []) Cx (c_X9_hasLanded v2 hc6) kV_X9_hasLanded (Or.inl qM_X9_74) hW hS ms_0 rfl rfl hl rfl (Nat.le_of_ble_eq_true rfl) (Nat.le_of_ble_eq_true rfl) (Nat.le_of_ble_eq_true rfl) dX9_lands_78 (Nat.le_refl _) (Nat.le_refl _) ?_
          clear hW hS hc6
          intro H locs hW hS
          refine lv_if_ne (pc := 81) (tgt := 125) hx hb dX9_lands_81 (by decide) (fun c1 => ?_) (fun c1 => ?_)
          · have hf := um_ie c1 hf
            clear c1
            refine lv_iinc (pc := 125) (v := v2 + (1 : Int32)) (lv' := [(2, .int (v2 + (1 : Int32))), (3, .int x2), (0, .ref (α 0)), (1, .int v1)]) hx hb dX9_lands_125 hl (k := 3) rfl rfl (by decide) rfl ?_
            clear hl
            intro ls hl
            refine lv_goto (pc := 128) (tgt := 39) hx hb dX9_lands_128 (by decide) ?_
            exact ih _ _ _ _ _ hf hW hS (lv_sub hl [2, 3, 0] rfl)
          · have hf := um_it c1 hf
            clear c1
            refine lv_aload_n (pc := 84) hx hb dX9_lands_84 rfl (lv_at hl 1 rfl) ?_
            refine gF_X9_7 (pc := 85) Cx hW ms_0 rfl dX9_lands_85 ?_
            refine lv_iload_n (pc := 88) hx hb dX9_lands_88 rfl (lv_at hl 0 rfl) ?_
            refine lv_iconst (pc := 89) (v := (4 : Int32)) hx hb dX9_lands_89 (by decide) ?_
            refine lv_iadd (pc := 90) hx hb dX9_lands_90 ?_
            refine lv_aload_n (pc := 91) hx hb dX9_lands_91 rfl (lv_at hl 1 rfl) ?_
            refine gF_X9_7 (pc := 92) Cx hW ms_0 rfl dX9_lands_92 ?_
            refine lv_bipush (pc := 95) (v := (30 : Int32)) hx hb dX9_lands_95 (by decide) ?_
            refine lv_iconst (pc := 97) (v := (2 : Int32)) hx hb dX9_lands_97 (by decide) ?_
            refine lv_iload_n (pc := 98) hx hb dX9_lands_98 rfl (lv_at hl 2 rfl) ?_
            refine lv_imul (pc := 99) hx hb dX9_lands_99 ?_
            refine lv_iadd (pc := 100) hx hb dX9_lands_100 ?_
            obtain ⟨g8, hf⟩ := um_gu hf
            refine um_iald (pc := 101) Cx hW ms_1 rfl (um_ix_in g8) dX9_lands_101 ?_
            obtain ⟨g9, hf⟩ := um_gu hf
            refine um_iast (pc := 102) Cx hW hS ms_1 rfl (um_ix_in g9) dX9_lands_102 ?_
            clear hW hS
            intro H locs hW hS
            obtain ⟨σ10, e11, hf⟩ := um_le hf
            rw [← e11] at hW
            clear e11
            refine lv_aload_n (pc := 103) hx hb dX9_lands_103 rfl (lv_at hl 1 rfl) ?_
            refine gF_X9_7 (pc := 104) Cx hW ms_0 rfl dX9_lands_104 ?_
            refine lv_iload_n (pc := 107) hx hb dX9_lands_107 rfl (lv_at hl 0 rfl) ?_
            refine lv_bipush (pc := 108) (v := (10 : Int32)) hx hb dX9_lands_108 (by decide) ?_
            refine lv_iadd (pc := 110) hx hb dX9_lands_110 ?_
            refine lv_aload_n (pc := 111) hx hb dX9_lands_111 rfl (lv_at hl 1 rfl) ?_
            refine gF_X9_7 (pc := 112) Cx hW ms_0 rfl dX9_lands_112 ?_
            refine lv_iconst (pc := 115) (v := (0 : Int32)) hx hb dX9_lands_115 (by decide) ?_
            refine um_iaj (pc := 116) (n := 3790) 0 rfl Cx hW ms_1 rfl (um_ix_in (by decide)) dX9_lands_116 ?_
            obtain ⟨g12, hf⟩ := um_gu hf
            refine um_iast (pc := 117) Cx hW hS ms_1 rfl (um_ix_in g12) dX9_lands_117 ?_
            clear hW hS
            intro H locs hW hS
            obtain ⟨σ13, e14, hf⟩ := um_le hf
            rw [← e14] at hW
            clear e14
            refine lv_aload_n (pc := 118) hx hb dX9_lands_118 rfl (lv_at hl 1 rfl) ?_
            refine lv_iload_n (pc := 119) hx hb dX9_lands_119 rfl (lv_at hl 3 rfl) ?_
            refine lv_iconst (pc := 120) (v := (1 : Int32)) hx hb dX9_lands_120 (by decide) ?_
            refine lv_iconst (pc := 121) (v := (0 : Int32)) hx hb dX9_lands_121 (by decide) ?_
            obtain ⟨σ16, hc15, hf⟩ := um_bi hf
            refine um_cVv (pc := 122) (As := [.int v2, .int (1 : Int32), .int (0 : Int32)]) (rest := []) Cx (c_X9_becomesOf v2 (1 : Int32) (0 : Int32) hc15) kV_X9_becomesOf (Or.inl qM_X9_97) hW hS ms_0 rfl rfl hl rfl (Nat.le_of_ble_eq_true rfl) (Nat.le_of_ble_eq_true rfl) (Nat.le_of_ble_eq_true rfl) dX9_lands_122 (Nat.le_refl _) (Nat.le_refl _) ?_
            clear hW hS hc15
            intro H locs hW hS
            refine lv_iinc (pc := 125) (v := v2 + (1 : Int32)) (lv' := [(2, .int (v2 + (1 : Int32))), (3, .int x2), (0, .ref (α 0)), (1, .int v1)]) hx hb dX9_lands_125 hl (k := 3) rfl rfl (by decide) rfl ?_
            clear hl
            intro ls hl
            refine lv_goto (pc := 128) (tgt := 39) hx hb dX9_lands_128 (by decide) ?_
            exact ih _ _ _ _ _ hf hW hS (lv_sub hl [2, 3, 0] rfl)
set_option maxRecDepth 100000 in
set_option maxHeartbeats 4000000 in
theorem t_X9_lands_l2 {Q : State → Prop} {σo : um_S}   (Cx : um_C p s m meth c args cX9_lands 4 none RX9 Z) (hE : ∀ (H : Heap) (locs : List Loc) (ls : Array Slot), um_W Z msh α σo H → va_S (um_D msh α) s.heap H locs → lv_has ls 4 [] → W p l e { frames := 2, cells := 0, slots := 0, locals := 45 } s m args below meth c H locs 0 0 Q (F0 m 137 ls [])) : ∀ (n : Nat) (v1 : Int32) (σ : um_S) (H : Heap) (locs : List Loc) (ls : Array Slot), f_X9_lands_l2 n v1 σ = some σo → um_W Z msh α σ H → va_S (um_D msh α) s.heap H locs → lv_has ls 4 [(0, .ref (α 0)), (1, .int v1)] → W p l e { frames := 2, cells := 0, slots := 0, locals := 45 } s m args below meth c H locs 0 0 Q (F0 m 2 ls []) := by
  have hx := Cx.1
  have hb := Cx.2.1
  have hown := Cx.2.2.2.2.1
  have hts := Cx.2.2.2.2.2.1
  intro n
  induction n with
  | zero =>
    intro v1 σ H locs ls hf hW hS hl
    cases hf
  | succ n ih =>
    intro v1 σ H locs ls hf hW hS hl
    rw [f_X9_lands_l2] at hf
    refine lv_iload_n (pc := 2) hx hb dX9_lands_2 rfl (lv_at hl 1 rfl) ?_
    refine lv_aload_n (pc := 3) hx hb dX9_lands_3 rfl (lv_at hl 0 rfl) ?_
    refine gF_X9_7 (pc := 4) Cx hW ms_0 rfl dX9_lands_4 ?_
    refine lv_iconst (pc := 7) (v := (1 : Int32)) hx hb dX9_lands_7 (by decide) ?_
    refine um_iaj (pc := 8) (n := 3790) 1 rfl Cx hW ms_1 rfl (um_ix_in (by decide)) dX9_lands_8 ?_
    refine lv_icmp_ge (pc := 9) (tgt := 137) hx hb dX9_lands_9 (by decide) (fun c1 => ?_) (fun c1 => ?_)
    · have hf := um_it c1 hf
      clear c1
      cases hf
      exact hE _ _ _ hW hS (lv_sub hl [] rfl)
    · have hf := um_ie c1 hf
      clear c1
      refine lv_aload_n (pc := 12) hx hb dX9_lands_12 rfl (lv_at hl 0 rfl) ?_
      refine gF_X9_7 (pc := 13) Cx hW ms_0 rfl dX9_lands_13 ?_
      refine lv_bipush (pc := 16) (v := (30 : Int32)) hx hb dX9_lands_16 (by decide) ?_
      refine lv_iconst (pc := 18) (v := (2 : Int32)) hx hb dX9_lands_18 (by decide) ?_
      refine lv_iload_n (pc := 19) hx hb dX9_lands_19 rfl (lv_at hl 1 rfl) ?_
      refine lv_imul (pc := 20) hx hb dX9_lands_20 ?_
      refine lv_iadd (pc := 21) hx hb dX9_lands_21 ?_
      refine lv_iconst (pc := 22) (v := (1 : Int32)) hx hb dX9_lands_22 (by decide) ?_
      refine lv_iadd (pc := 23) hx hb dX9_lands_23 ?_
      obtain ⟨g1, hf⟩ := um_gu hf
      refine um_iald (pc := 24) Cx hW ms_1 rfl (um_ix_in g1) dX9_lands_24 ?_
      refine lv_aload_n (pc := 25) hx hb dX9_lands_25 rfl (lv_at hl 0 rfl) ?_
      refine gF_X9_7 (pc := 26) Cx hW ms_0 rfl dX9_lands_26 ?_
      refine lv_iconst (pc := 29) (v := (0 : Int32)) hx hb dX9_lands_29 (by decide) ?_
      refine um_iaj (pc := 30) (n := 3790) 0 rfl Cx hW ms_1 rfl (um_ix_in (by decide)) dX9_lands_30 ?_
      refine lv_icmp_eq (pc := 31) (tgt := 37) hx hb dX9_lands_31 (by decide) (fun c1 => ?_) (fun c1 => ?_)
      · have hf := um_it c1 hf
        clear c1
        refine lv_iconst (pc := 37) (v := (0 : Int32)) hx hb dX9_lands_37 (by decide) ?_
        refine lv_istore_n (pc := 38) (lv' := [(2, .int (0 : Int32)), (0, .ref (α 0)), (1, .int v1)]) hx hb dX9_lands_38 rfl hl (by decide) rfl ?_
        clear hl
        intro ls hl
        obtain ⟨σ2, hc3, hf⟩ := um_bi hf
        refine t_X9_lands_l39 v1 Cx ?_ um_N _ _ _ _ _ hc3 hW hS (lv_sub hl [1, 2, 0] rfl)
        clear hW hS hl hc3
        intro H locs ls hW hS hl
        refine lv_iinc (pc := 131) (v := v1 + (1 : Int32)) (lv' := [(1, .int (v1 + (1 : Int32))), (0, .ref (α 0))]) hx hb dX9_lands_131 hl (k := 1) rfl rfl (by decide) rfl ?_
        clear hl
        intro ls hl
        refine lv_goto (pc := 134) (tgt := 2) hx hb dX9_lands_134 (by decide) ?_
        exact ih _ _ _ _ _ hf hW hS (lv_sub hl [1, 0] rfl)
      · have hf := um_ie c1 hf
        clear c1
        refine lv_goto (pc := 34) (tgt := 131) hx hb dX9_lands_34 (by decide) ?_
        refine lv_iinc (pc := 131) (v := v1 + (1 : Int32)) (lv' := [(1, .int (v1 + (1 : Int32))), (0, .ref (α 0))]) hx hb dX9_lands_131 hl (k := 1) rfl rfl (by decide) rfl ?_
        clear hl
        intro ls hl
        refine lv_goto (pc := 134) (tgt := 2) hx hb dX9_lands_134 (by decide) ?_
        exact ih _ _ _ _ _ hf hW hS (lv_sub hl [1, 0] rfl)
set_option maxRecDepth 100000 in
set_option maxHeartbeats 4000000 in
theorem b_X9_lands {H : Heap} {locs : List Loc} {ls : Array Slot} {σ : um_S} {σ' : um_S}   (hf : f_X9_lands σ = some σ') (Cx : um_C p s m meth c args cX9_lands 4 none RX9 Z) (hW : um_W Z msh α σ H) (hS : va_S (um_D msh α) s.heap H locs) (hl : lv_has ls 4 [(0, .ref (α 0))]) : um_G p l e (2) (45) s m args below meth c Z msh α σ' none H locs (F0 m 0 ls []) := by
  have hx := Cx.1
  have hb := Cx.2.1
  have hown := Cx.2.2.2.2.1
  have hts := Cx.2.2.2.2.2.1
  rw [f_X9_lands] at hf
  refine lv_iconst (pc := 0) (v := (0 : Int32)) hx hb dX9_lands_0 (by decide) ?_
  refine lv_istore_n (pc := 1) (lv' := [(1, .int (0 : Int32)), (0, .ref (α 0))]) hx hb dX9_lands_1 rfl hl (by decide) rfl ?_
  clear hl
  intro ls hl
  obtain ⟨σ1, hc2, hf⟩ := um_bi hf
  refine t_X9_lands_l2  Cx ?_ um_N _ _ _ _ _ hc2 hW hS (lv_sub hl [1, 0] rfl)
  clear hW hS hl hc2
  intro H locs ls hW hS hl
  exact um_vret (pc := 137) Cx hW hS hf dX9_lands_137
theorem c_X9_lands {σ : um_S} {σ' : um_S}   (hf : f_X9_lands σ = some σ') : um_M l yX9_lands cX9_lands 4 none (2) (45) Z msh α σ [.ref (α 0)] none σ' :=
  um_start (by decide) (Nat.le_of_ble_eq_true rfl) (fun p e s m below meth c ls Cx hW hS hl => b_X9_lands hf Cx hW hS hl)
noncomputable def f_X9_draw  (σ : um_S) : Option (Int32 × um_S) :=
    um_let (um_wr σ 1 9 ((((25173 : Int32) * (σ.1 1 9)) + (13849 : Int32)) - (((25173 : Int32) * (σ.1 1 9)) + (13849 : Int32)) / (65536 : Int32) * (65536 : Int32))) fun σ1 =>
    (some (σ1.1 1 9, σ1))
set_option maxRecDepth 100000 in
set_option maxHeartbeats 4000000 in
theorem b_X9_draw {H : Heap} {locs : List Loc} {ls : Array Slot} {σ : um_S} {σ' : um_S} {r : Int32}   (hf : f_X9_draw σ = some (r, σ')) (Cx : um_C p s m meth c args cX9_draw 1 (some FieldType.int) RX9 Z) (hW : um_W Z msh α σ H) (hS : va_S (um_D msh α) s.heap H locs) (hl : lv_has ls 1 [(0, .ref (α 0))]) : um_G p l e (0) (0) s m args below meth c Z msh α σ' (some (.int r)) H locs (F0 m 0 ls []) := by
  have hx := Cx.1
  have hb := Cx.2.1
  have hown := Cx.2.2.2.2.1
  have hts := Cx.2.2.2.2.2.1
  rw [f_X9_draw] at hf
  refine lv_aload_n (pc := 0) hx hb dX9_draw_0 rfl (lv_at hl 0 rfl) ?_
  refine gF_X9_7 (pc := 1) Cx hW ms_0 rfl dX9_draw_1 ?_
  refine lv_bipush (pc := 4) (v := (9 : Int32)) hx hb dX9_draw_4 (by decide) ?_
  refine lv_sipush (pc := 6) (v := (25173 : Int32)) hx hb dX9_draw_6 (by decide) ?_
  refine lv_aload_n (pc := 9) hx hb dX9_draw_9 rfl (lv_at hl 0 rfl) ?_
  refine gF_X9_7 (pc := 10) Cx hW ms_0 rfl dX9_draw_10 ?_
  refine lv_bipush (pc := 13) (v := (9 : Int32)) hx hb dX9_draw_13 (by decide) ?_
  refine um_iaj (pc := 15) (n := 3790) 9 rfl Cx hW ms_1 rfl (um_ix_in (by decide)) dX9_draw_15 ?_
  refine lv_imul (pc := 16) hx hb dX9_draw_16 ?_
  refine lv_sipush (pc := 17) (v := (13849 : Int32)) hx hb dX9_draw_17 (by decide) ?_
  refine lv_iadd (pc := 20) hx hb dX9_draw_20 ?_
  refine lv_ldcw (pc := 21) hx hb hown (hts _ qC_X9_285) dX9_draw_21 ?_
  refine lv_irem (pc := 24) hx hb dX9_draw_24 (by decide) ?_
  refine um_isj (pc := 25) (n := 3790) 9 rfl Cx hW hS ms_1 rfl (um_ix_in (by decide)) dX9_draw_25 ?_
  clear hW hS
  intro H locs hW hS
  obtain ⟨σ1, e2, hf⟩ := um_le hf
  rw [← e2] at hW
  clear e2
  refine lv_aload_n (pc := 26) hx hb dX9_draw_26 rfl (lv_at hl 0 rfl) ?_
  refine gF_X9_7 (pc := 27) Cx hW ms_0 rfl dX9_draw_27 ?_
  refine lv_bipush (pc := 30) (v := (9 : Int32)) hx hb dX9_draw_30 (by decide) ?_
  refine um_iaj (pc := 32) (n := 3790) 9 rfl Cx hW ms_1 rfl (um_ix_in (by decide)) dX9_draw_32 ?_
  exact um_iret (pc := 33) Cx hW hS hf dX9_draw_33
theorem c_X9_draw {σ : um_S} {σ' : um_S} {r : Int32}   (hf : f_X9_draw σ = some (r, σ')) : um_M l yX9_draw cX9_draw 1 (some FieldType.int) (0) (0) Z msh α σ [.ref (α 0)] (some (.int r)) σ' :=
  um_start (by decide) (Nat.le_of_ble_eq_true rfl) (fun p e s m below meth c ls Cx hW hS hl => b_X9_draw hf Cx hW hS hl)
noncomputable def f_X9_offend (a1 : Int32) (σ : um_S) : Option (um_S) :=
    (f_X9_manAt a1 σ).bind fun x2 =>
    (um_b2 (f_X9_draw σ) fun x5 σ4 =>
    ((f_X9_kindOf a1 σ4).bind fun x7 =>
    ((f_X9_marksOf a1 σ4).bind fun x9 =>
    (if um_ix (x2 + (4 : Int32)) 3790 then
    (um_b2 (f_X9_ruleOf (3 : Int32) x7 x9 (σ4.1 1 (x2 + (4 : Int32)).toNatClampNeg) σ4) fun x13 σ12 =>
    (if (x5 - x5 / (100 : Int32) * (100 : Int32)) < x13 then
    (um_let ((x5 / (100 : Int32)) - (x5 / (100 : Int32)) / (4 : Int32) * (4 : Int32)) fun x14 =>
    ((f_X9_marksOf a1 σ12).bind fun x17 =>
    (um_b2 (f_X9_ruleOf (2 : Int32) x14 (x17 + (1 : Int32)) (0 : Int32) σ12) fun x20 σ19 =>
    ((f_X9_marks a1 x14 σ19).bind fun σ22 =>
    (if x20 ≤ 0 then
    (some σ22)
    else
    ((f_X9_becomesOf a1 (3 : Int32) ((σ22.1 1 0) + x20) σ22).bind fun σ24 =>
    (some σ24)))))))
    else
    (some σ12))) else none))))
set_option maxRecDepth 100000 in
set_option maxHeartbeats 4000000 in
theorem b_X9_offend {H : Heap} {locs : List Loc} {ls : Array Slot} {σ : um_S} {σ' : um_S} (a1 : Int32)  (hf : f_X9_offend a1 σ = some σ') (Cx : um_C p s m meth c args cX9_offend 6 none RX9 Z) (hW : um_W Z msh α σ H) (hS : va_S (um_D msh α) s.heap H locs) (hl : lv_has ls 6 [(0, .ref (α 0)), (1, .int a1)]) : um_G p l e (3) (72) s m args below meth c Z msh α σ' none H locs (F0 m 0 ls []) := by
  have hx := Cx.1
  have hb := Cx.2.1
  have hown := Cx.2.2.2.2.1
  have hts := Cx.2.2.2.2.2.1
  rw [f_X9_offend] at hf
  refine lv_aload_n (pc := 0) hx hb dX9_offend_0 rfl (lv_at hl 0 rfl) ?_
  refine lv_iload_n (pc := 1) hx hb dX9_offend_1 rfl (lv_at hl 1 rfl) ?_
  obtain ⟨x2, hc1, hf⟩ := um_bi hf
  refine um_cVi (pc := 2) (As := [.int a1]) (rest := []) Cx (c_X9_manAt a1 hc1) kV_X9_manAt (Or.inl qM_X9_66) hW hS ms_0 rfl rfl hl rfl (Nat.le_of_ble_eq_true rfl) (Nat.le_of_ble_eq_true rfl) (Nat.le_of_ble_eq_true rfl) dX9_offend_2 (Nat.le_refl _) (Nat.le_refl _) ?_
  clear hW hS hc1
  intro H locs hW hS
  refine lv_istore_n (pc := 5) (lv' := [(2, .int x2), (0, .ref (α 0)), (1, .int a1)]) hx hb dX9_offend_5 rfl hl (by decide) rfl ?_
  clear hl
  intro ls hl
  refine lv_aload_n (pc := 6) hx hb dX9_offend_6 rfl (lv_at hl 1 rfl) ?_
  obtain ⟨x5, σ4, hc3, hf⟩ := um_bi2 hf
  refine um_cVi (pc := 7) (As := []) (rest := []) Cx (c_X9_draw hc3) kV_X9_draw (Or.inl qM_X9_289) hW hS ms_0 rfl rfl hl rfl (Nat.le_of_ble_eq_true rfl) (Nat.le_of_ble_eq_true rfl) (Nat.le_of_ble_eq_true rfl) dX9_offend_7 (Nat.le_refl _) (Nat.le_refl _) ?_
  clear hW hS hc3
  intro H locs hW hS
  refine lv_istore_n (pc := 10) (lv' := [(3, .int x5), (2, .int x2), (0, .ref (α 0)), (1, .int a1)]) hx hb dX9_offend_10 rfl hl (by decide) rfl ?_
  clear hl
  intro ls hl
  refine lv_iload_n (pc := 11) hx hb dX9_offend_11 rfl (lv_at hl 0 rfl) ?_
  refine lv_bipush (pc := 12) (v := (100 : Int32)) hx hb dX9_offend_12 (by decide) ?_
  refine lv_irem (pc := 14) hx hb dX9_offend_14 (by decide) ?_
  refine lv_aload_n (pc := 15) hx hb dX9_offend_15 rfl (lv_at hl 2 rfl) ?_
  refine lv_iconst (pc := 16) (v := (3 : Int32)) hx hb dX9_offend_16 (by decide) ?_
  refine lv_aload_n (pc := 17) hx hb dX9_offend_17 rfl (lv_at hl 2 rfl) ?_
  refine lv_iload_n (pc := 18) hx hb dX9_offend_18 rfl (lv_at hl 3 rfl) ?_
  obtain ⟨x7, hc6, hf⟩ := um_bi hf
  refine um_cVi (pc := 19) (As := [.int a1]) (rest := [.int (3 : Int32), .ref (α 0), .int (x5 - x5 / (100 : Int32) * (100 : Int32))]) Cx (c_X9_kindOf a1 hc6) kV_X9_kindOf (Or.inl qM_X9_77) hW hS ms_0 rfl rfl hl rfl (Nat.le_of_ble_eq_true rfl) (Nat.le_of_ble_eq_true rfl) (Nat.le_of_ble_eq_true rfl) dX9_offend_19 (Nat.le_refl _) (Nat.le_refl _) ?_
  clear hW hS hc6
  intro H locs hW hS
  refine lv_aload_n (pc := 22) hx hb dX9_offend_22 rfl (lv_at hl 2 rfl) ?_
  refine lv_iload_n (pc := 23) hx hb dX9_offend_23 rfl (lv_at hl 3 rfl) ?_
  obtain ⟨x9, hc8, hf⟩ := um_bi hf
  refine um_cVi (pc := 24) (As := [.int a1]) (rest := [.int x7, .int (3 : Int32), .ref (α 0), .int (x5 - x5 / (100 : Int32) * (100 : Int32))]) Cx (c_X9_marksOf a1 hc8) kV_X9_marksOf (Or.inl qM_X9_116) hW hS ms_0 rfl rfl hl rfl (Nat.le_of_ble_eq_true rfl) (Nat.le_of_ble_eq_true rfl) (Nat.le_of_ble_eq_true rfl) dX9_offend_24 (Nat.le_refl _) (Nat.le_refl _) ?_
  clear hW hS hc8
  intro H locs hW hS
  refine lv_aload_n (pc := 27) hx hb dX9_offend_27 rfl (lv_at hl 2 rfl) ?_
  refine gF_X9_7 (pc := 28) Cx hW ms_0 rfl dX9_offend_28 ?_
  refine lv_iload_n (pc := 31) hx hb dX9_offend_31 rfl (lv_at hl 1 rfl) ?_
  refine lv_iconst (pc := 32) (v := (4 : Int32)) hx hb dX9_offend_32 (by decide) ?_
  refine lv_iadd (pc := 33) hx hb dX9_offend_33 ?_
  obtain ⟨g10, hf⟩ := um_gu hf
  refine um_iald (pc := 34) Cx hW ms_1 rfl (um_ix_in g10) dX9_offend_34 ?_
  obtain ⟨x13, σ12, hc11, hf⟩ := um_bi2 hf
  refine um_cVi (pc := 35) (As := [.int (3 : Int32), .int x7, .int x9, .int (σ4.1 1 (x2 + (4 : Int32)).toNatClampNeg)]) (rest := [.int (x5 - x5 / (100 : Int32) * (100 : Int32))]) Cx (c_X9_ruleOf (3 : Int32) x7 x9 (σ4.1 1 (x2 + (4 : Int32)).toNatClampNeg) hc11) kV_X9_ruleOf (Or.inl qM_X9_256) hW hS ms_0 rfl rfl hl rfl (Nat.le_of_ble_eq_true rfl) (Nat.le_of_ble_eq_true rfl) (Nat.le_of_ble_eq_true rfl) dX9_offend_35 (Nat.le_refl _) (Nat.le_refl _) ?_
  clear hW hS hc11
  intro H locs hW hS
  refine lv_icmp_lt (pc := 38) (tgt := 42) hx hb dX9_offend_38 (by decide) (fun c1 => ?_) (fun c1 => ?_)
  · have hf := um_it c1 hf
    clear c1
    refine lv_iload_n (pc := 42) hx hb dX9_offend_42 rfl (lv_at hl 0 rfl) ?_
    refine lv_bipush (pc := 43) (v := (100 : Int32)) hx hb dX9_offend_43 (by decide) ?_
    refine lv_idiv (pc := 45) hx hb dX9_offend_45 (by decide) ?_
    refine lv_iconst (pc := 46) (v := (4 : Int32)) hx hb dX9_offend_46 (by decide) ?_
    refine lv_irem (pc := 47) hx hb dX9_offend_47 (by decide) ?_
    obtain ⟨x14, e15, hf⟩ := um_le hf
    refine um_top e15 ?_
    clear e15
    refine lv_istore (pc := 48) (lv' := [(4, .int x14), (3, .int x5), (2, .int x2), (0, .ref (α 0)), (1, .int a1)]) hx hb dX9_offend_48 hl (by decide) rfl ?_
    clear hl
    intro ls hl
    refine lv_aload_n (pc := 50) hx hb dX9_offend_50 rfl (lv_at hl 3 rfl) ?_
    refine lv_iconst (pc := 51) (v := (2 : Int32)) hx hb dX9_offend_51 (by decide) ?_
    refine lv_iload (pc := 52) hx hb dX9_offend_52 (lv_at hl 0 rfl) ?_
    refine lv_aload_n (pc := 54) hx hb dX9_offend_54 rfl (lv_at hl 3 rfl) ?_
    refine lv_iload_n (pc := 55) hx hb dX9_offend_55 rfl (lv_at hl 4 rfl) ?_
    obtain ⟨x17, hc16, hf⟩ := um_bi hf
    refine um_cVi (pc := 56) (As := [.int a1]) (rest := [.int x14, .int (2 : Int32), .ref (α 0)]) Cx (c_X9_marksOf a1 hc16) kV_X9_marksOf (Or.inl qM_X9_116) hW hS ms_0 rfl rfl hl rfl (Nat.le_of_ble_eq_true rfl) (Nat.le_of_ble_eq_true rfl) (Nat.le_of_ble_eq_true rfl) dX9_offend_56 (Nat.le_refl _) (Nat.le_refl _) ?_
    clear hW hS hc16
    intro H locs hW hS
    refine lv_iconst (pc := 59) (v := (1 : Int32)) hx hb dX9_offend_59 (by decide) ?_
    refine lv_iadd (pc := 60) hx hb dX9_offend_60 ?_
    refine lv_iconst (pc := 61) (v := (0 : Int32)) hx hb dX9_offend_61 (by decide) ?_
    obtain ⟨x20, σ19, hc18, hf⟩ := um_bi2 hf
    refine um_cVi (pc := 62) (As := [.int (2 : Int32), .int x14, .int (x17 + (1 : Int32)), .int (0 : Int32)]) (rest := []) Cx (c_X9_ruleOf (2 : Int32) x14 (x17 + (1 : Int32)) (0 : Int32) hc18) kV_X9_ruleOf (Or.inl qM_X9_256) hW hS ms_0 rfl rfl hl rfl (Nat.le_of_ble_eq_true rfl) (Nat.le_of_ble_eq_true rfl) (Nat.le_of_ble_eq_true rfl) dX9_offend_62 (Nat.le_refl _) (Nat.le_refl _) ?_
    clear hW hS hc18
    intro H locs hW hS
    refine lv_istore (pc := 65) (lv' := [(5, .int x20), (4, .int x14), (3, .int x5), (2, .int x2), (0, .ref (α 0)), (1, .int a1)]) hx hb dX9_offend_65 hl (by decide) rfl ?_
    clear hl
    intro ls hl
    refine lv_aload_n (pc := 67) hx hb dX9_offend_67 rfl (lv_at hl 4 rfl) ?_
    refine lv_iload_n (pc := 68) hx hb dX9_offend_68 rfl (lv_at hl 5 rfl) ?_
    refine lv_iload (pc := 69) hx hb dX9_offend_69 (lv_at hl 1 rfl) ?_
    obtain ⟨σ22, hc21, hf⟩ := um_bi hf
    refine um_cVv (pc := 71) (As := [.int a1, .int x14]) (rest := []) Cx (c_X9_marks a1 x14 hc21) kV_X9_marks (Or.inl qM_X9_265) hW hS ms_0 rfl rfl hl rfl (Nat.le_of_ble_eq_true rfl) (Nat.le_of_ble_eq_true rfl) (Nat.le_of_ble_eq_true rfl) dX9_offend_71 (Nat.le_refl _) (Nat.le_refl _) ?_
    clear hW hS hc21
    intro H locs hW hS
    refine lv_iload (pc := 74) hx hb dX9_offend_74 (lv_at hl 0 rfl) ?_
    refine lv_if_le (pc := 76) (tgt := 94) hx hb dX9_offend_76 (by decide) (fun c1 => ?_) (fun c1 => ?_)
    · have hf := um_it c1 hf
      clear c1
      exact um_vret (pc := 94) Cx hW hS hf dX9_offend_94
    · have hf := um_ie c1 hf
      clear c1
      refine lv_aload_n (pc := 79) hx hb dX9_offend_79 rfl (lv_at hl 4 rfl) ?_
      refine lv_iload_n (pc := 80) hx hb dX9_offend_80 rfl (lv_at hl 5 rfl) ?_
      refine lv_iconst (pc := 81) (v := (3 : Int32)) hx hb dX9_offend_81 (by decide) ?_
      refine lv_aload_n (pc := 82) hx hb dX9_offend_82 rfl (lv_at hl 4 rfl) ?_
      refine gF_X9_7 (pc := 83) Cx hW ms_0 rfl dX9_offend_83 ?_
      refine lv_iconst (pc := 86) (v := (0 : Int32)) hx hb dX9_offend_86 (by decide) ?_
      refine um_iaj (pc := 87) (n := 3790) 0 rfl Cx hW ms_1 rfl (um_ix_in (by decide)) dX9_offend_87 ?_
      refine lv_iload (pc := 88) hx hb dX9_offend_88 (lv_at hl 0 rfl) ?_
      refine lv_iadd (pc := 90) hx hb dX9_offend_90 ?_
      obtain ⟨σ24, hc23, hf⟩ := um_bi hf
      refine um_cVv (pc := 91) (As := [.int a1, .int (3 : Int32), .int ((σ22.1 1 0) + x20)]) (rest := []) Cx (c_X9_becomesOf a1 (3 : Int32) ((σ22.1 1 0) + x20) hc23) kV_X9_becomesOf (Or.inl qM_X9_97) hW hS ms_0 rfl rfl hl rfl (Nat.le_of_ble_eq_true rfl) (Nat.le_of_ble_eq_true rfl) (Nat.le_of_ble_eq_true rfl) dX9_offend_91 (Nat.le_refl _) (Nat.le_refl _) ?_
      clear hW hS hc23
      intro H locs hW hS
      exact um_vret (pc := 94) Cx hW hS hf dX9_offend_94
  · have hf := um_ie c1 hf
    clear c1
    exact um_vret (pc := 41) Cx hW hS hf dX9_offend_41
theorem c_X9_offend {σ : um_S} {σ' : um_S} (a1 : Int32)  (hf : f_X9_offend a1 σ = some σ') : um_M l yX9_offend cX9_offend 6 none (3) (72) Z msh α σ [.ref (α 0), .int a1] none σ' :=
  um_start (by decide) (Nat.le_of_ble_eq_true rfl) (fun p e s m below meth c ls Cx hW hS hl => b_X9_offend a1 hf Cx hW hS hl)
noncomputable def f_X9_oneWeek_l10  : Nat → Int32 → um_S → Option (um_S)
  | 0, _, _ => none
  | n + 1, v1, σ =>
    if (σ.1 1 2) ≤ v1 then
    (some σ)
    else
    ((f_X9_isThere v1 σ).bind fun x2 =>
    (if (um_b x2) = 0 then
    (f_X9_oneWeek_l10 n (v1 + (1 : Int32)) σ)
    else
    ((f_X9_offend v1 σ).bind fun σ4 =>
    (f_X9_oneWeek_l10 n (v1 + (1 : Int32)) σ4))))
noncomputable def f_X9_oneWeek_l41  : Nat → Int32 → um_S → Option (um_S)
  | 0, _, _ => none
  | n + 1, v1, σ =>
    if (σ.1 1 2) ≤ v1 then
    (some σ)
    else
    ((f_X9_isThere v1 σ).bind fun x2 =>
    (if (um_b x2) = 0 then
    (f_X9_oneWeek_l41 n (v1 + (1 : Int32)) σ)
    else
    ((f_X9_earn v1 σ).bind fun σ4 =>
    (f_X9_oneWeek_l41 n (v1 + (1 : Int32)) σ4))))
noncomputable def f_X9_oneWeek_l72  : Nat → Int32 → um_S → Option (um_S)
  | 0, _, _ => none
  | n + 1, v1, σ =>
    if (σ.1 1 2) ≤ v1 then
    (some σ)
    else
    ((f_X9_manAt v1 σ).bind fun x2 =>
    ((f_X9_isThere v1 σ).bind fun x4 =>
    (um_let (fun (σ6 : um_S) =>
    ((f_X9_isThere v1 σ6).bind fun x8 =>
    (if (um_b x8) = 0 then
    (f_X9_oneWeek_l72 n (v1 + (1 : Int32)) σ6)
    else
    (if um_ix (x2 + (10 : Int32)) 3790 then
    (if um_ix (x2 + (12 : Int32)) 3790 then
    (if (((σ6.1 1 0) + (1 : Int32)) - (σ6.1 1 (x2 + (10 : Int32)).toNatClampNeg)) < (σ6.1 1 (x2 + (12 : Int32)).toNatClampNeg) then
    (f_X9_oneWeek_l72 n (v1 + (1 : Int32)) σ6)
    else
    ((f_X9_becomesOf v1 (6 : Int32) (0 : Int32) σ6).bind fun σ12 =>
    (f_X9_oneWeek_l72 n (v1 + (1 : Int32)) σ12))) else none) else none)))) fun k5 =>
    (if (um_b x4) = 0 then
    (k5 σ)
    else
    ((f_X9_kindOf v1 σ).bind fun x14 =>
    (if x14 = (3 : Int32) then
    (if um_ix (x2 + (6 : Int32)) 3790 then
    (if (σ.1 1 (x2 + (6 : Int32)).toNatClampNeg) = ((σ.1 1 0) + (1 : Int32)) then
    ((f_X9_becomesOf v1 (1 : Int32) (0 : Int32) σ).bind fun σ17 =>
    (k5 σ17))
    else
    (k5 σ)) else none)
    else
    (k5 σ)))))))
noncomputable def f_X9_oneWeek_l186  : Nat → Int32 → um_S → Option (um_S)
  | 0, _, _ => none
  | n + 1, v1, σ =>
    if (σ.1 1 8) ≤ v1 then
    (some σ)
    else
    (um_let ((570 : Int32) + ((5 : Int32) * v1)) fun x1 =>
    (if um_ix (x1 + (2 : Int32)) 3790 then
    (if (σ.1 1 (x1 + (2 : Int32)).toNatClampNeg) = (σ.1 1 0) then
    (if um_ix (x1 + (3 : Int32)) 3790 then
    (um_let (um_wr σ 1 (x1 + (3 : Int32)).toNatClampNeg (1 : Int32)) fun σ5 =>
    (if um_ix x1 3790 then
    ((f_X9_isDead (σ5.1 1 x1.toNatClampNeg) σ5).bind fun x9 =>
    (if (um_b x9) = 0 then
    (if um_ix (x1 + (4 : Int32)) 3790 then
    (um_let (um_wr σ5 1 (x1 + (4 : Int32)).toNatClampNeg (0 : Int32)) fun σ11 =>
    (f_X9_oneWeek_l186 n (v1 + (1 : Int32)) σ11)) else none)
    else
    (if um_ix (x1 + (4 : Int32)) 3790 then
    (um_let (um_wr σ5 1 (x1 + (4 : Int32)).toNatClampNeg (1 : Int32)) fun σ14 =>
    (f_X9_oneWeek_l186 n (v1 + (1 : Int32)) σ14)) else none))) else none)) else none)
    else
    (f_X9_oneWeek_l186 n (v1 + (1 : Int32)) σ)) else none))
noncomputable def f_X9_oneWeek  (σ : um_S) : Option (um_S) :=
    (f_X9_lands σ).bind fun σ2 =>
    ((f_X9_eat σ2).bind fun σ4 =>
    ((f_X9_oneWeek_l10 um_N (0 : Int32) σ4).bind fun σ5 =>
    ((f_X9_oneWeek_l41 um_N (0 : Int32) σ5).bind fun σ7 =>
    ((f_X9_oneWeek_l72 um_N (0 : Int32) σ7).bind fun σ9 =>
    ((f_X9_oneWeek_l186 um_N (0 : Int32) σ9).bind fun σ11 =>
    (um_let (um_wr σ11 1 0 ((σ11.1 1 0) + (1 : Int32))) fun σ13 =>
    (some σ13)))))))
set_option maxRecDepth 100000 in
set_option maxHeartbeats 4000000 in
theorem t_X9_oneWeek_l10 {Q : State → Prop} {σo : um_S}   (Cx : um_C p s m meth c args cX9_oneWeek 3 none RX9 Z) (hE : ∀ (H : Heap) (locs : List Loc) (ls : Array Slot), um_W Z msh α σo H → va_S (um_D msh α) s.heap H locs → lv_has ls 3 [(0, .ref (α 0))] → W p l e { frames := 4, cells := 0, slots := 0, locals := 97 } s m args below meth c H locs 0 0 Q (F0 m 39 ls [])) : ∀ (n : Nat) (v1 : Int32) (σ : um_S) (H : Heap) (locs : List Loc) (ls : Array Slot), f_X9_oneWeek_l10 n v1 σ = some σo → um_W Z msh α σ H → va_S (um_D msh α) s.heap H locs → lv_has ls 3 [(0, .ref (α 0)), (1, .int v1)] → W p l e { frames := 4, cells := 0, slots := 0, locals := 97 } s m args below meth c H locs 0 0 Q (F0 m 10 ls []) := by
  have hx := Cx.1
  have hb := Cx.2.1
  have hown := Cx.2.2.2.2.1
  have hts := Cx.2.2.2.2.2.1
  intro n
  induction n with
  | zero =>
    intro v1 σ H locs ls hf hW hS hl
    cases hf
  | succ n ih =>
    intro v1 σ H locs ls hf hW hS hl
    rw [f_X9_oneWeek_l10] at hf
    refine lv_iload_n (pc := 10) hx hb dX9_oneWeek_10 rfl (lv_at hl 1 rfl) ?_
    refine lv_aload_n (pc := 11) hx hb dX9_oneWeek_11 rfl (lv_at hl 0 rfl) ?_
    refine gF_X9_7 (pc := 12) Cx hW ms_0 rfl dX9_oneWeek_12 ?_
    refine lv_iconst (pc := 15) (v := (2 : Int32)) hx hb dX9_oneWeek_15 (by decide) ?_
    refine um_iaj (pc := 16) (n := 3790) 2 rfl Cx hW ms_1 rfl (um_ix_in (by decide)) dX9_oneWeek_16 ?_
    refine lv_icmp_ge (pc := 17) (tgt := 39) hx hb dX9_oneWeek_17 (by decide) (fun c1 => ?_) (fun c1 => ?_)
    · have hf := um_it c1 hf
      clear c1
      cases hf
      exact hE _ _ _ hW hS (lv_sub hl [0] rfl)
    · have hf := um_ie c1 hf
      clear c1
      refine lv_aload_n (pc := 20) hx hb dX9_oneWeek_20 rfl (lv_at hl 0 rfl) ?_
      refine lv_iload_n (pc := 21) hx hb dX9_oneWeek_21 rfl (lv_at hl 1 rfl) ?_
      obtain ⟨x2, hc1, hf⟩ := um_bi hf
      refine um_cVi (pc := 22) (As := [.int v1]) (rest := []) Cx (c_X9_isThere v1 hc1) kV_X9_isThere (Or.inl qM_X9_298) hW hS ms_0 rfl rfl hl rfl (Nat.le_of_ble_eq_true rfl) (Nat.le_of_ble_eq_true rfl) (Nat.le_of_ble_eq_true rfl) dX9_oneWeek_22 (Nat.le_refl _) (Nat.le_refl _) ?_
      clear hW hS hc1
      intro H locs hW hS
      refine lv_if_eq (pc := 25) (tgt := 33) hx hb dX9_oneWeek_25 (by decide) (fun c1 => ?_) (fun c1 => ?_)
      · have hf := um_it c1 hf
        clear c1
        refine lv_iinc (pc := 33) (v := v1 + (1 : Int32)) (lv' := [(1, .int (v1 + (1 : Int32))), (0, .ref (α 0))]) hx hb dX9_oneWeek_33 hl (k := 1) rfl rfl (by decide) rfl ?_
        clear hl
        intro ls hl
        refine lv_goto (pc := 36) (tgt := 10) hx hb dX9_oneWeek_36 (by decide) ?_
        exact ih _ _ _ _ _ hf hW hS (lv_sub hl [1, 0] rfl)
      · have hf := um_ie c1 hf
        clear c1
        refine lv_aload_n (pc := 28) hx hb dX9_oneWeek_28 rfl (lv_at hl 0 rfl) ?_
        refine lv_iload_n (pc := 29) hx hb dX9_oneWeek_29 rfl (lv_at hl 1 rfl) ?_
        obtain ⟨σ4, hc3, hf⟩ := um_bi hf
        refine um_cVv (pc := 30) (As := [.int v1]) (rest := []) Cx (c_X9_offend v1 hc3) kV_X9_offend (Or.inl qM_X9_301) hW hS ms_0 rfl rfl hl rfl (Nat.le_of_ble_eq_true rfl) (Nat.le_of_ble_eq_true rfl) (Nat.le_of_ble_eq_true rfl) dX9_oneWeek_30 (Nat.le_refl _) (Nat.le_refl _) ?_
        clear hW hS hc3
        intro H locs hW hS
        refine lv_iinc (pc := 33) (v := v1 + (1 : Int32)) (lv' := [(1, .int (v1 + (1 : Int32))), (0, .ref (α 0))]) hx hb dX9_oneWeek_33 hl (k := 1) rfl rfl (by decide) rfl ?_
        clear hl
        intro ls hl
        refine lv_goto (pc := 36) (tgt := 10) hx hb dX9_oneWeek_36 (by decide) ?_
        exact ih _ _ _ _ _ hf hW hS (lv_sub hl [1, 0] rfl)
set_option maxRecDepth 100000 in
set_option maxHeartbeats 4000000 in
theorem t_X9_oneWeek_l41 {Q : State → Prop} {σo : um_S}   (Cx : um_C p s m meth c args cX9_oneWeek 3 none RX9 Z) (hE : ∀ (H : Heap) (locs : List Loc) (ls : Array Slot), um_W Z msh α σo H → va_S (um_D msh α) s.heap H locs → lv_has ls 3 [(0, .ref (α 0))] → W p l e { frames := 4, cells := 0, slots := 0, locals := 97 } s m args below meth c H locs 0 0 Q (F0 m 70 ls [])) : ∀ (n : Nat) (v1 : Int32) (σ : um_S) (H : Heap) (locs : List Loc) (ls : Array Slot), f_X9_oneWeek_l41 n v1 σ = some σo → um_W Z msh α σ H → va_S (um_D msh α) s.heap H locs → lv_has ls 3 [(0, .ref (α 0)), (1, .int v1)] → W p l e { frames := 4, cells := 0, slots := 0, locals := 97 } s m args below meth c H locs 0 0 Q (F0 m 41 ls []) := by
  have hx := Cx.1
  have hb := Cx.2.1
  have hown := Cx.2.2.2.2.1
  have hts := Cx.2.2.2.2.2.1
  intro n
  induction n with
  | zero =>
    intro v1 σ H locs ls hf hW hS hl
    cases hf
  | succ n ih =>
    intro v1 σ H locs ls hf hW hS hl
    rw [f_X9_oneWeek_l41] at hf
    refine lv_iload_n (pc := 41) hx hb dX9_oneWeek_41 rfl (lv_at hl 1 rfl) ?_
    refine lv_aload_n (pc := 42) hx hb dX9_oneWeek_42 rfl (lv_at hl 0 rfl) ?_
    refine gF_X9_7 (pc := 43) Cx hW ms_0 rfl dX9_oneWeek_43 ?_
    refine lv_iconst (pc := 46) (v := (2 : Int32)) hx hb dX9_oneWeek_46 (by decide) ?_
    refine um_iaj (pc := 47) (n := 3790) 2 rfl Cx hW ms_1 rfl (um_ix_in (by decide)) dX9_oneWeek_47 ?_
    refine lv_icmp_ge (pc := 48) (tgt := 70) hx hb dX9_oneWeek_48 (by decide) (fun c1 => ?_) (fun c1 => ?_)
    · have hf := um_it c1 hf
      clear c1
      cases hf
      exact hE _ _ _ hW hS (lv_sub hl [0] rfl)
    · have hf := um_ie c1 hf
      clear c1
      refine lv_aload_n (pc := 51) hx hb dX9_oneWeek_51 rfl (lv_at hl 0 rfl) ?_
      refine lv_iload_n (pc := 52) hx hb dX9_oneWeek_52 rfl (lv_at hl 1 rfl) ?_
      obtain ⟨x2, hc1, hf⟩ := um_bi hf
      refine um_cVi (pc := 53) (As := [.int v1]) (rest := []) Cx (c_X9_isThere v1 hc1) kV_X9_isThere (Or.inl qM_X9_298) hW hS ms_0 rfl rfl hl rfl (Nat.le_of_ble_eq_true rfl) (Nat.le_of_ble_eq_true rfl) (Nat.le_of_ble_eq_true rfl) dX9_oneWeek_53 (Nat.le_refl _) (Nat.le_refl _) ?_
      clear hW hS hc1
      intro H locs hW hS
      refine lv_if_eq (pc := 56) (tgt := 64) hx hb dX9_oneWeek_56 (by decide) (fun c1 => ?_) (fun c1 => ?_)
      · have hf := um_it c1 hf
        clear c1
        refine lv_iinc (pc := 64) (v := v1 + (1 : Int32)) (lv' := [(1, .int (v1 + (1 : Int32))), (0, .ref (α 0))]) hx hb dX9_oneWeek_64 hl (k := 1) rfl rfl (by decide) rfl ?_
        clear hl
        intro ls hl
        refine lv_goto (pc := 67) (tgt := 41) hx hb dX9_oneWeek_67 (by decide) ?_
        exact ih _ _ _ _ _ hf hW hS (lv_sub hl [1, 0] rfl)
      · have hf := um_ie c1 hf
        clear c1
        refine lv_aload_n (pc := 59) hx hb dX9_oneWeek_59 rfl (lv_at hl 0 rfl) ?_
        refine lv_iload_n (pc := 60) hx hb dX9_oneWeek_60 rfl (lv_at hl 1 rfl) ?_
        obtain ⟨σ4, hc3, hf⟩ := um_bi hf
        refine um_cVv (pc := 61) (As := [.int v1]) (rest := []) Cx (c_X9_earn v1 hc3) kV_X9_earn (Or.inl qM_X9_305) hW hS ms_0 rfl rfl hl rfl (Nat.le_of_ble_eq_true rfl) (Nat.le_of_ble_eq_true rfl) (Nat.le_of_ble_eq_true rfl) dX9_oneWeek_61 (Nat.le_refl _) (Nat.le_refl _) ?_
        clear hW hS hc3
        intro H locs hW hS
        refine lv_iinc (pc := 64) (v := v1 + (1 : Int32)) (lv' := [(1, .int (v1 + (1 : Int32))), (0, .ref (α 0))]) hx hb dX9_oneWeek_64 hl (k := 1) rfl rfl (by decide) rfl ?_
        clear hl
        intro ls hl
        refine lv_goto (pc := 67) (tgt := 41) hx hb dX9_oneWeek_67 (by decide) ?_
        exact ih _ _ _ _ _ hf hW hS (lv_sub hl [1, 0] rfl)
set_option maxRecDepth 100000 in
set_option maxHeartbeats 4000000 in
theorem t_X9_oneWeek_l72 {Q : State → Prop} {σo : um_S}   (Cx : um_C p s m meth c args cX9_oneWeek 3 none RX9 Z) (hE : ∀ (H : Heap) (locs : List Loc) (ls : Array Slot), um_W Z msh α σo H → va_S (um_D msh α) s.heap H locs → lv_has ls 3 [(0, .ref (α 0))] → W p l e { frames := 4, cells := 0, slots := 0, locals := 97 } s m args below meth c H locs 0 0 Q (F0 m 184 ls [])) : ∀ (n : Nat) (v1 : Int32) (σ : um_S) (H : Heap) (locs : List Loc) (ls : Array Slot), f_X9_oneWeek_l72 n v1 σ = some σo → um_W Z msh α σ H → va_S (um_D msh α) s.heap H locs → lv_has ls 3 [(0, .ref (α 0)), (1, .int v1)] → W p l e { frames := 4, cells := 0, slots := 0, locals := 97 } s m args below meth c H locs 0 0 Q (F0 m 72 ls []) := by
  have hx := Cx.1
  have hb := Cx.2.1
  have hown := Cx.2.2.2.2.1
  have hts := Cx.2.2.2.2.2.1
  intro n
  induction n with
  | zero =>
    intro v1 σ H locs ls hf hW hS hl
    cases hf
  | succ n ih =>
    intro v1 σ H locs ls hf hW hS hl
    rw [f_X9_oneWeek_l72] at hf
    refine lv_iload_n (pc := 72) hx hb dX9_oneWeek_72 rfl (lv_at hl 1 rfl) ?_
    refine lv_aload_n (pc := 73) hx hb dX9_oneWeek_73 rfl (lv_at hl 0 rfl) ?_
    refine gF_X9_7 (pc := 74) Cx hW ms_0 rfl dX9_oneWeek_74 ?_
    refine lv_iconst (pc := 77) (v := (2 : Int32)) hx hb dX9_oneWeek_77 (by decide) ?_
    refine um_iaj (pc := 78) (n := 3790) 2 rfl Cx hW ms_1 rfl (um_ix_in (by decide)) dX9_oneWeek_78 ?_
    refine lv_icmp_ge (pc := 79) (tgt := 184) hx hb dX9_oneWeek_79 (by decide) (fun c1 => ?_) (fun c1 => ?_)
    · have hf := um_it c1 hf
      clear c1
      cases hf
      exact hE _ _ _ hW hS (lv_sub hl [0] rfl)
    · have hf := um_ie c1 hf
      clear c1
      refine lv_aload_n (pc := 82) hx hb dX9_oneWeek_82 rfl (lv_at hl 0 rfl) ?_
      refine lv_iload_n (pc := 83) hx hb dX9_oneWeek_83 rfl (lv_at hl 1 rfl) ?_
      obtain ⟨x2, hc1, hf⟩ := um_bi hf
      refine um_cVi (pc := 84) (As := [.int v1]) (rest := []) Cx (c_X9_manAt v1 hc1) kV_X9_manAt (Or.inl qM_X9_66) hW hS ms_0 rfl rfl hl rfl (Nat.le_of_ble_eq_true rfl) (Nat.le_of_ble_eq_true rfl) (Nat.le_of_ble_eq_true rfl) dX9_oneWeek_84 (Nat.le_refl _) (Nat.le_refl _) ?_
      clear hW hS hc1
      intro H locs hW hS
      refine lv_istore_n (pc := 87) (lv' := [(2, .int x2), (0, .ref (α 0)), (1, .int v1)]) hx hb dX9_oneWeek_87 rfl hl (by decide) rfl ?_
      clear hl
      intro ls hl
      refine lv_aload_n (pc := 88) hx hb dX9_oneWeek_88 rfl (lv_at hl 1 rfl) ?_
      refine lv_iload_n (pc := 89) hx hb dX9_oneWeek_89 rfl (lv_at hl 2 rfl) ?_
      obtain ⟨x4, hc3, hf⟩ := um_bi hf
      refine um_cVi (pc := 90) (As := [.int v1]) (rest := []) Cx (c_X9_isThere v1 hc3) kV_X9_isThere (Or.inl qM_X9_298) hW hS ms_0 rfl rfl hl rfl (Nat.le_of_ble_eq_true rfl) (Nat.le_of_ble_eq_true rfl) (Nat.le_of_ble_eq_true rfl) dX9_oneWeek_90 (Nat.le_refl _) (Nat.le_refl _) ?_
      clear hW hS hc3
      intro H locs hW hS
      obtain ⟨k5, hk5, hf⟩ := um_j1 hf
      have J5 : ∀ (σ6 : um_S), k5 σ6 = some σo → ∀ (H : Heap) (locs : List Loc) (ls : Array Slot), um_W Z msh α σ6 H → va_S (um_D msh α) s.heap H locs → lv_has ls 3 [(0, .ref (α 0)), (1, .int v1), (2, .int x2)] → W p l e { frames := 4, cells := 0, slots := 0, locals := 97 } s m args below meth c H locs 0 0 Q (F0 m 132 ls []) := by
        intro σ6 hf H locs ls hW hS hl
        rw [hk5] at hf
        refine lv_aload_n (pc := 132) hx hb dX9_oneWeek_132 rfl (lv_at hl 0 rfl) ?_
        refine lv_iload_n (pc := 133) hx hb dX9_oneWeek_133 rfl (lv_at hl 1 rfl) ?_
        obtain ⟨x8, hc7, hf⟩ := um_bi hf
        refine um_cVi (pc := 134) (As := [.int v1]) (rest := []) Cx (c_X9_isThere v1 hc7) kV_X9_isThere (Or.inl qM_X9_298) hW hS ms_0 rfl rfl hl rfl (Nat.le_of_ble_eq_true rfl) (Nat.le_of_ble_eq_true rfl) (Nat.le_of_ble_eq_true rfl) dX9_oneWeek_134 (Nat.le_refl _) (Nat.le_refl _) ?_
        clear hW hS hc7
        intro H locs hW hS
        refine lv_if_eq (pc := 137) (tgt := 178) hx hb dX9_oneWeek_137 (by decide) (fun c1 => ?_) (fun c1 => ?_)
        · have hf := um_it c1 hf
          clear c1
          refine lv_iinc (pc := 178) (v := v1 + (1 : Int32)) (lv' := [(1, .int (v1 + (1 : Int32))), (0, .ref (α 0)), (2, .int x2)]) hx hb dX9_oneWeek_178 hl (k := 1) rfl rfl (by decide) rfl ?_
          clear hl
          intro ls hl
          refine lv_goto (pc := 181) (tgt := 72) hx hb dX9_oneWeek_181 (by decide) ?_
          exact ih _ _ _ _ _ hf hW hS (lv_sub hl [1, 0] rfl)
        · have hf := um_ie c1 hf
          clear c1
          refine lv_aload_n (pc := 140) hx hb dX9_oneWeek_140 rfl (lv_at hl 0 rfl) ?_
          refine gF_X9_7 (pc := 141) Cx hW ms_0 rfl dX9_oneWeek_141 ?_
          refine lv_iconst (pc := 144) (v := (0 : Int32)) hx hb dX9_oneWeek_144 (by decide) ?_
          refine um_iaj (pc := 145) (n := 3790) 0 rfl Cx hW ms_1 rfl (um_ix_in (by decide)) dX9_oneWeek_145 ?_
          refine lv_iconst (pc := 146) (v := (1 : Int32)) hx hb dX9_oneWeek_146 (by decide) ?_
          refine lv_iadd (pc := 147) hx hb dX9_oneWeek_147 ?_
          refine lv_aload_n (pc := 148) hx hb dX9_oneWeek_148 rfl (lv_at hl 0 rfl) ?_
          refine gF_X9_7 (pc := 149) Cx hW ms_0 rfl dX9_oneWeek_149 ?_
          refine lv_iload_n (pc := 152) hx hb dX9_oneWeek_152 rfl (lv_at hl 2 rfl) ?_
          refine lv_bipush (pc := 153) (v := (10 : Int32)) hx hb dX9_oneWeek_153 (by decide) ?_
          refine lv_iadd (pc := 155) hx hb dX9_oneWeek_155 ?_
          obtain ⟨g9, hf⟩ := um_gu hf
          refine um_iald (pc := 156) Cx hW ms_1 rfl (um_ix_in g9) dX9_oneWeek_156 ?_
          refine lv_isub (pc := 157) hx hb dX9_oneWeek_157 ?_
          refine lv_aload_n (pc := 158) hx hb dX9_oneWeek_158 rfl (lv_at hl 0 rfl) ?_
          refine gF_X9_7 (pc := 159) Cx hW ms_0 rfl dX9_oneWeek_159 ?_
          refine lv_iload_n (pc := 162) hx hb dX9_oneWeek_162 rfl (lv_at hl 2 rfl) ?_
          refine lv_bipush (pc := 163) (v := (12 : Int32)) hx hb dX9_oneWeek_163 (by decide) ?_
          refine lv_iadd (pc := 165) hx hb dX9_oneWeek_165 ?_
          obtain ⟨g10, hf⟩ := um_gu hf
          refine um_iald (pc := 166) Cx hW ms_1 rfl (um_ix_in g10) dX9_oneWeek_166 ?_
          refine lv_icmp_lt (pc := 167) (tgt := 178) hx hb dX9_oneWeek_167 (by decide) (fun c1 => ?_) (fun c1 => ?_)
          · have hf := um_it c1 hf
            clear c1
            refine lv_iinc (pc := 178) (v := v1 + (1 : Int32)) (lv' := [(1, .int (v1 + (1 : Int32))), (0, .ref (α 0)), (2, .int x2)]) hx hb dX9_oneWeek_178 hl (k := 1) rfl rfl (by decide) rfl ?_
            clear hl
            intro ls hl
            refine lv_goto (pc := 181) (tgt := 72) hx hb dX9_oneWeek_181 (by decide) ?_
            exact ih _ _ _ _ _ hf hW hS (lv_sub hl [1, 0] rfl)
          · have hf := um_ie c1 hf
            clear c1
            refine lv_aload_n (pc := 170) hx hb dX9_oneWeek_170 rfl (lv_at hl 0 rfl) ?_
            refine lv_iload_n (pc := 171) hx hb dX9_oneWeek_171 rfl (lv_at hl 1 rfl) ?_
            refine lv_bipush (pc := 172) (v := (6 : Int32)) hx hb dX9_oneWeek_172 (by decide) ?_
            refine lv_iconst (pc := 174) (v := (0 : Int32)) hx hb dX9_oneWeek_174 (by decide) ?_
            obtain ⟨σ12, hc11, hf⟩ := um_bi hf
            refine um_cVv (pc := 175) (As := [.int v1, .int (6 : Int32), .int (0 : Int32)]) (rest := []) Cx (c_X9_becomesOf v1 (6 : Int32) (0 : Int32) hc11) kV_X9_becomesOf (Or.inl qM_X9_97) hW hS ms_0 rfl rfl hl rfl (Nat.le_of_ble_eq_true rfl) (Nat.le_of_ble_eq_true rfl) (Nat.le_of_ble_eq_true rfl) dX9_oneWeek_175 (Nat.le_refl _) (Nat.le_refl _) ?_
            clear hW hS hc11
            intro H locs hW hS
            refine lv_iinc (pc := 178) (v := v1 + (1 : Int32)) (lv' := [(1, .int (v1 + (1 : Int32))), (0, .ref (α 0)), (2, .int x2)]) hx hb dX9_oneWeek_178 hl (k := 1) rfl rfl (by decide) rfl ?_
            clear hl
            intro ls hl
            refine lv_goto (pc := 181) (tgt := 72) hx hb dX9_oneWeek_181 (by decide) ?_
            exact ih _ _ _ _ _ hf hW hS (lv_sub hl [1, 0] rfl)
      refine lv_if_eq (pc := 93) (tgt := 132) hx hb dX9_oneWeek_93 (by decide) (fun c1 => ?_) (fun c1 => ?_)
      · have hf := um_it c1 hf
        clear c1
        exact J5 σ hf _ _ _ hW hS (lv_sub hl [1, 2, 0] rfl)
      · have hf := um_ie c1 hf
        clear c1
        refine lv_aload_n (pc := 96) hx hb dX9_oneWeek_96 rfl (lv_at hl 1 rfl) ?_
        refine lv_iload_n (pc := 97) hx hb dX9_oneWeek_97 rfl (lv_at hl 2 rfl) ?_
        obtain ⟨x14, hc13, hf⟩ := um_bi hf
        refine um_cVi (pc := 98) (As := [.int v1]) (rest := []) Cx (c_X9_kindOf v1 hc13) kV_X9_kindOf (Or.inl qM_X9_77) hW hS ms_0 rfl rfl hl rfl (Nat.le_of_ble_eq_true rfl) (Nat.le_of_ble_eq_true rfl) (Nat.le_of_ble_eq_true rfl) dX9_oneWeek_98 (Nat.le_refl _) (Nat.le_refl _) ?_
        clear hW hS hc13
        intro H locs hW hS
        refine lv_iconst (pc := 101) (v := (3 : Int32)) hx hb dX9_oneWeek_101 (by decide) ?_
        refine lv_icmp_ne (pc := 102) (tgt := 132) hx hb dX9_oneWeek_102 (by decide) (fun c1 => ?_) (fun c1 => ?_)
        · have hf := um_ie c1 hf
          clear c1
          exact J5 σ hf _ _ _ hW hS (lv_sub hl [1, 2, 0] rfl)
        · have hf := um_it c1 hf
          clear c1
          refine lv_aload_n (pc := 105) hx hb dX9_oneWeek_105 rfl (lv_at hl 1 rfl) ?_
          refine gF_X9_7 (pc := 106) Cx hW ms_0 rfl dX9_oneWeek_106 ?_
          refine lv_iload_n (pc := 109) hx hb dX9_oneWeek_109 rfl (lv_at hl 0 rfl) ?_
          refine lv_bipush (pc := 110) (v := (6 : Int32)) hx hb dX9_oneWeek_110 (by decide) ?_
          refine lv_iadd (pc := 112) hx hb dX9_oneWeek_112 ?_
          obtain ⟨g15, hf⟩ := um_gu hf
          refine um_iald (pc := 113) Cx hW ms_1 rfl (um_ix_in g15) dX9_oneWeek_113 ?_
          refine lv_aload_n (pc := 114) hx hb dX9_oneWeek_114 rfl (lv_at hl 1 rfl) ?_
          refine gF_X9_7 (pc := 115) Cx hW ms_0 rfl dX9_oneWeek_115 ?_
          refine lv_iconst (pc := 118) (v := (0 : Int32)) hx hb dX9_oneWeek_118 (by decide) ?_
          refine um_iaj (pc := 119) (n := 3790) 0 rfl Cx hW ms_1 rfl (um_ix_in (by decide)) dX9_oneWeek_119 ?_
          refine lv_iconst (pc := 120) (v := (1 : Int32)) hx hb dX9_oneWeek_120 (by decide) ?_
          refine lv_iadd (pc := 121) hx hb dX9_oneWeek_121 ?_
          refine lv_icmp_ne (pc := 122) (tgt := 132) hx hb dX9_oneWeek_122 (by decide) (fun c1 => ?_) (fun c1 => ?_)
          · have hf := um_ie c1 hf
            clear c1
            exact J5 σ hf _ _ _ hW hS (lv_sub hl [1, 2, 0] rfl)
          · have hf := um_it c1 hf
            clear c1
            refine lv_aload_n (pc := 125) hx hb dX9_oneWeek_125 rfl (lv_at hl 1 rfl) ?_
            refine lv_iload_n (pc := 126) hx hb dX9_oneWeek_126 rfl (lv_at hl 2 rfl) ?_
            refine lv_iconst (pc := 127) (v := (1 : Int32)) hx hb dX9_oneWeek_127 (by decide) ?_
            refine lv_iconst (pc := 128) (v := (0 : Int32)) hx hb dX9_oneWeek_128 (by decide) ?_
            obtain ⟨σ17, hc16, hf⟩ := um_bi hf
            refine um_cVv (pc := 129) (As := [.int v1, .int (1 : Int32), .int (0 : Int32)]) (rest := []) Cx (c_X9_becomesOf v1 (1 : Int32) (0 : Int32) hc16) kV_X9_becomesOf (Or.inl qM_X9_97) hW hS ms_0 rfl rfl hl rfl (Nat.le_of_ble_eq_true rfl) (Nat.le_of_ble_eq_true rfl) (Nat.le_of_ble_eq_true rfl) dX9_oneWeek_129 (Nat.le_refl _) (Nat.le_refl _) ?_
            clear hW hS hc16
            intro H locs hW hS
            exact J5 σ17 hf _ _ _ hW hS (lv_sub hl [1, 2, 0] rfl)
set_option maxRecDepth 100000 in
set_option maxHeartbeats 4000000 in
theorem t_X9_oneWeek_l186 {Q : State → Prop} {σo : um_S}   (Cx : um_C p s m meth c args cX9_oneWeek 3 none RX9 Z) (hE : ∀ (H : Heap) (locs : List Loc) (ls : Array Slot), um_W Z msh α σo H → va_S (um_D msh α) s.heap H locs → lv_has ls 3 [(0, .ref (α 0))] → W p l e { frames := 4, cells := 0, slots := 0, locals := 97 } s m args below meth c H locs 0 0 Q (F0 m 263 ls [])) : ∀ (n : Nat) (v1 : Int32) (σ : um_S) (H : Heap) (locs : List Loc) (ls : Array Slot), f_X9_oneWeek_l186 n v1 σ = some σo → um_W Z msh α σ H → va_S (um_D msh α) s.heap H locs → lv_has ls 3 [(0, .ref (α 0)), (1, .int v1)] → W p l e { frames := 4, cells := 0, slots := 0, locals := 97 } s m args below meth c H locs 0 0 Q (F0 m 186 ls []) := by
  have hx := Cx.1
  have hb := Cx.2.1
  have hown := Cx.2.2.2.2.1
  have hts := Cx.2.2.2.2.2.1
  intro n
  induction n with
  | zero =>
    intro v1 σ H locs ls hf hW hS hl
    cases hf
  | succ n ih =>
    intro v1 σ H locs ls hf hW hS hl
    rw [f_X9_oneWeek_l186] at hf
    refine lv_iload_n (pc := 186) hx hb dX9_oneWeek_186 rfl (lv_at hl 1 rfl) ?_
    refine lv_aload_n (pc := 187) hx hb dX9_oneWeek_187 rfl (lv_at hl 0 rfl) ?_
    refine gF_X9_7 (pc := 188) Cx hW ms_0 rfl dX9_oneWeek_188 ?_
    refine lv_bipush (pc := 191) (v := (8 : Int32)) hx hb dX9_oneWeek_191 (by decide) ?_
    refine um_iaj (pc := 193) (n := 3790) 8 rfl Cx hW ms_1 rfl (um_ix_in (by decide)) dX9_oneWeek_193 ?_
    refine lv_icmp_ge (pc := 194) (tgt := 263) hx hb dX9_oneWeek_194 (by decide) (fun c1 => ?_) (fun c1 => ?_)
    · have hf := um_it c1 hf
      clear c1
      cases hf
      exact hE _ _ _ hW hS (lv_sub hl [0] rfl)
    · have hf := um_ie c1 hf
      clear c1
      refine lv_sipush (pc := 197) (v := (570 : Int32)) hx hb dX9_oneWeek_197 (by decide) ?_
      refine lv_iconst (pc := 200) (v := (5 : Int32)) hx hb dX9_oneWeek_200 (by decide) ?_
      refine lv_iload_n (pc := 201) hx hb dX9_oneWeek_201 rfl (lv_at hl 1 rfl) ?_
      refine lv_imul (pc := 202) hx hb dX9_oneWeek_202 ?_
      refine lv_iadd (pc := 203) hx hb dX9_oneWeek_203 ?_
      obtain ⟨x1, e2, hf⟩ := um_le hf
      refine um_top e2 ?_
      clear e2
      refine lv_istore_n (pc := 204) (lv' := [(2, .int x1), (0, .ref (α 0)), (1, .int v1)]) hx hb dX9_oneWeek_204 rfl hl (by decide) rfl ?_
      clear hl
      intro ls hl
      refine lv_aload_n (pc := 205) hx hb dX9_oneWeek_205 rfl (lv_at hl 1 rfl) ?_
      refine gF_X9_7 (pc := 206) Cx hW ms_0 rfl dX9_oneWeek_206 ?_
      refine lv_iload_n (pc := 209) hx hb dX9_oneWeek_209 rfl (lv_at hl 0 rfl) ?_
      refine lv_iconst (pc := 210) (v := (2 : Int32)) hx hb dX9_oneWeek_210 (by decide) ?_
      refine lv_iadd (pc := 211) hx hb dX9_oneWeek_211 ?_
      obtain ⟨g3, hf⟩ := um_gu hf
      refine um_iald (pc := 212) Cx hW ms_1 rfl (um_ix_in g3) dX9_oneWeek_212 ?_
      refine lv_aload_n (pc := 213) hx hb dX9_oneWeek_213 rfl (lv_at hl 1 rfl) ?_
      refine gF_X9_7 (pc := 214) Cx hW ms_0 rfl dX9_oneWeek_214 ?_
      refine lv_iconst (pc := 217) (v := (0 : Int32)) hx hb dX9_oneWeek_217 (by decide) ?_
      refine um_iaj (pc := 218) (n := 3790) 0 rfl Cx hW ms_1 rfl (um_ix_in (by decide)) dX9_oneWeek_218 ?_
      refine lv_icmp_ne (pc := 219) (tgt := 257) hx hb dX9_oneWeek_219 (by decide) (fun c1 => ?_) (fun c1 => ?_)
      · have hf := um_ie c1 hf
        clear c1
        refine lv_iinc (pc := 257) (v := v1 + (1 : Int32)) (lv' := [(1, .int (v1 + (1 : Int32))), (2, .int x1), (0, .ref (α 0))]) hx hb dX9_oneWeek_257 hl (k := 2) rfl rfl (by decide) rfl ?_
        clear hl
        intro ls hl
        refine lv_goto (pc := 260) (tgt := 186) hx hb dX9_oneWeek_260 (by decide) ?_
        exact ih _ _ _ _ _ hf hW hS (lv_sub hl [2, 0] rfl)
      · have hf := um_it c1 hf
        clear c1
        refine lv_aload_n (pc := 222) hx hb dX9_oneWeek_222 rfl (lv_at hl 1 rfl) ?_
        refine gF_X9_7 (pc := 223) Cx hW ms_0 rfl dX9_oneWeek_223 ?_
        refine lv_iload_n (pc := 226) hx hb dX9_oneWeek_226 rfl (lv_at hl 0 rfl) ?_
        refine lv_iconst (pc := 227) (v := (3 : Int32)) hx hb dX9_oneWeek_227 (by decide) ?_
        refine lv_iadd (pc := 228) hx hb dX9_oneWeek_228 ?_
        refine lv_iconst (pc := 229) (v := (1 : Int32)) hx hb dX9_oneWeek_229 (by decide) ?_
        obtain ⟨g4, hf⟩ := um_gu hf
        refine um_iast (pc := 230) Cx hW hS ms_1 rfl (um_ix_in g4) dX9_oneWeek_230 ?_
        clear hW hS
        intro H locs hW hS
        obtain ⟨σ5, e6, hf⟩ := um_le hf
        rw [← e6] at hW
        clear e6
        refine lv_aload_n (pc := 231) hx hb dX9_oneWeek_231 rfl (lv_at hl 1 rfl) ?_
        refine gF_X9_7 (pc := 232) Cx hW ms_0 rfl dX9_oneWeek_232 ?_
        refine lv_iload_n (pc := 235) hx hb dX9_oneWeek_235 rfl (lv_at hl 0 rfl) ?_
        refine lv_iconst (pc := 236) (v := (4 : Int32)) hx hb dX9_oneWeek_236 (by decide) ?_
        refine lv_iadd (pc := 237) hx hb dX9_oneWeek_237 ?_
        refine lv_aload_n (pc := 238) hx hb dX9_oneWeek_238 rfl (lv_at hl 1 rfl) ?_
        refine lv_aload_n (pc := 239) hx hb dX9_oneWeek_239 rfl (lv_at hl 1 rfl) ?_
        refine gF_X9_7 (pc := 240) Cx hW ms_0 rfl dX9_oneWeek_240 ?_
        refine lv_iload_n (pc := 243) hx hb dX9_oneWeek_243 rfl (lv_at hl 0 rfl) ?_
        obtain ⟨g7, hf⟩ := um_gu hf
        refine um_iald (pc := 244) Cx hW ms_1 rfl (um_ix_in g7) dX9_oneWeek_244 ?_
        obtain ⟨x9, hc8, hf⟩ := um_bi hf
        refine um_cVi (pc := 245) (As := [.int (σ5.1 1 x1.toNatClampNeg)]) (rest := [.int (x1 + (4 : Int32)), .ref (α 1)]) Cx (c_X9_isDead (σ5.1 1 x1.toNatClampNeg) hc8) kV_X9_isDead (Or.inl qM_X9_70) hW hS ms_0 rfl rfl hl rfl (Nat.le_of_ble_eq_true rfl) (Nat.le_of_ble_eq_true rfl) (Nat.le_of_ble_eq_true rfl) dX9_oneWeek_245 (Nat.le_refl _) (Nat.le_refl _) ?_
        clear hW hS hc8
        intro H locs hW hS
        refine lv_if_eq (pc := 248) (tgt := 255) hx hb dX9_oneWeek_248 (by decide) (fun c1 => ?_) (fun c1 => ?_)
        · have hf := um_it c1 hf
          clear c1
          refine lv_iconst (pc := 255) (v := (0 : Int32)) hx hb dX9_oneWeek_255 (by decide) ?_
          obtain ⟨g10, hf⟩ := um_gu hf
          refine um_iast (pc := 256) Cx hW hS ms_1 rfl (um_ix_in g10) dX9_oneWeek_256 ?_
          clear hW hS
          intro H locs hW hS
          obtain ⟨σ11, e12, hf⟩ := um_le hf
          rw [← e12] at hW
          clear e12
          refine lv_iinc (pc := 257) (v := v1 + (1 : Int32)) (lv' := [(1, .int (v1 + (1 : Int32))), (2, .int x1), (0, .ref (α 0))]) hx hb dX9_oneWeek_257 hl (k := 2) rfl rfl (by decide) rfl ?_
          clear hl
          intro ls hl
          refine lv_goto (pc := 260) (tgt := 186) hx hb dX9_oneWeek_260 (by decide) ?_
          exact ih _ _ _ _ _ hf hW hS (lv_sub hl [2, 0] rfl)
        · have hf := um_ie c1 hf
          clear c1
          refine lv_iconst (pc := 251) (v := (1 : Int32)) hx hb dX9_oneWeek_251 (by decide) ?_
          refine lv_goto (pc := 252) (tgt := 256) hx hb dX9_oneWeek_252 (by decide) ?_
          obtain ⟨g13, hf⟩ := um_gu hf
          refine um_iast (pc := 256) Cx hW hS ms_1 rfl (um_ix_in g13) dX9_oneWeek_256 ?_
          clear hW hS
          intro H locs hW hS
          obtain ⟨σ14, e15, hf⟩ := um_le hf
          rw [← e15] at hW
          clear e15
          refine lv_iinc (pc := 257) (v := v1 + (1 : Int32)) (lv' := [(1, .int (v1 + (1 : Int32))), (2, .int x1), (0, .ref (α 0))]) hx hb dX9_oneWeek_257 hl (k := 2) rfl rfl (by decide) rfl ?_
          clear hl
          intro ls hl
          refine lv_goto (pc := 260) (tgt := 186) hx hb dX9_oneWeek_260 (by decide) ?_
          exact ih _ _ _ _ _ hf hW hS (lv_sub hl [2, 0] rfl)
set_option maxRecDepth 100000 in
set_option maxHeartbeats 4000000 in
theorem b_X9_oneWeek {H : Heap} {locs : List Loc} {ls : Array Slot} {σ : um_S} {σ' : um_S}   (hf : f_X9_oneWeek σ = some σ') (Cx : um_C p s m meth c args cX9_oneWeek 3 none RX9 Z) (hW : um_W Z msh α σ H) (hS : va_S (um_D msh α) s.heap H locs) (hl : lv_has ls 3 [(0, .ref (α 0))]) : um_G p l e (4) (97) s m args below meth c Z msh α σ' none H locs (F0 m 0 ls []) := by
  have hx := Cx.1
  have hb := Cx.2.1
  have hown := Cx.2.2.2.2.1
  have hts := Cx.2.2.2.2.2.1
  rw [f_X9_oneWeek] at hf
  refine lv_aload_n (pc := 0) hx hb dX9_oneWeek_0 rfl (lv_at hl 0 rfl) ?_
  obtain ⟨σ2, hc1, hf⟩ := um_bi hf
  refine um_cVv (pc := 1) (As := []) (rest := []) Cx (c_X9_lands hc1) kV_X9_lands (Or.inl qM_X9_292) hW hS ms_0 rfl rfl hl rfl (Nat.le_of_ble_eq_true rfl) (Nat.le_of_ble_eq_true rfl) (Nat.le_of_ble_eq_true rfl) dX9_oneWeek_1 (Nat.le_refl _) (Nat.le_refl _) ?_
  clear hW hS hc1
  intro H locs hW hS
  refine lv_aload_n (pc := 4) hx hb dX9_oneWeek_4 rfl (lv_at hl 0 rfl) ?_
  obtain ⟨σ4, hc3, hf⟩ := um_bi hf
  refine um_cVv (pc := 5) (As := []) (rest := []) Cx (c_X9_eat hc3) kV_X9_eat (Or.inl qM_X9_295) hW hS ms_0 rfl rfl hl rfl (Nat.le_of_ble_eq_true rfl) (Nat.le_of_ble_eq_true rfl) (Nat.le_of_ble_eq_true rfl) dX9_oneWeek_5 (Nat.le_refl _) (Nat.le_refl _) ?_
  clear hW hS hc3
  intro H locs hW hS
  refine lv_iconst (pc := 8) (v := (0 : Int32)) hx hb dX9_oneWeek_8 (by decide) ?_
  refine lv_istore_n (pc := 9) (lv' := [(1, .int (0 : Int32)), (0, .ref (α 0))]) hx hb dX9_oneWeek_9 rfl hl (by decide) rfl ?_
  clear hl
  intro ls hl
  obtain ⟨σ5, hc6, hf⟩ := um_bi hf
  refine t_X9_oneWeek_l10  Cx ?_ um_N _ _ _ _ _ hc6 hW hS (lv_sub hl [1, 0] rfl)
  clear hW hS hl hc6
  intro H locs ls hW hS hl
  refine lv_iconst (pc := 39) (v := (0 : Int32)) hx hb dX9_oneWeek_39 (by decide) ?_
  refine lv_istore_n (pc := 40) (lv' := [(1, .int (0 : Int32)), (0, .ref (α 0))]) hx hb dX9_oneWeek_40 rfl hl (by decide) rfl ?_
  clear hl
  intro ls hl
  obtain ⟨σ7, hc8, hf⟩ := um_bi hf
  refine t_X9_oneWeek_l41  Cx ?_ um_N _ _ _ _ _ hc8 hW hS (lv_sub hl [1, 0] rfl)
  clear hW hS hl hc8
  intro H locs ls hW hS hl
  refine lv_iconst (pc := 70) (v := (0 : Int32)) hx hb dX9_oneWeek_70 (by decide) ?_
  refine lv_istore_n (pc := 71) (lv' := [(1, .int (0 : Int32)), (0, .ref (α 0))]) hx hb dX9_oneWeek_71 rfl hl (by decide) rfl ?_
  clear hl
  intro ls hl
  obtain ⟨σ9, hc10, hf⟩ := um_bi hf
  refine t_X9_oneWeek_l72  Cx ?_ um_N _ _ _ _ _ hc10 hW hS (lv_sub hl [1, 0] rfl)
  clear hW hS hl hc10
  intro H locs ls hW hS hl
  refine lv_iconst (pc := 184) (v := (0 : Int32)) hx hb dX9_oneWeek_184 (by decide) ?_
  refine lv_istore_n (pc := 185) (lv' := [(1, .int (0 : Int32)), (0, .ref (α 0))]) hx hb dX9_oneWeek_185 rfl hl (by decide) rfl ?_
  clear hl
  intro ls hl
  obtain ⟨σ11, hc12, hf⟩ := um_bi hf
  refine t_X9_oneWeek_l186  Cx ?_ um_N _ _ _ _ _ hc12 hW hS (lv_sub hl [1, 0] rfl)
  clear hW hS hl hc12
  intro H locs ls hW hS hl
  refine lv_aload_n (pc := 263) hx hb dX9_oneWeek_263 rfl (lv_at hl 0 rfl) ?_
  refine gF_X9_7 (pc := 264) Cx hW ms_0 rfl dX9_oneWeek_264 ?_
  refine lv_iconst (pc := 267) (v := (0 : Int32)) hx hb dX9_oneWeek_267 (by decide) ?_
  refine lv_dup2_11 (pc := 268) hx hb dX9_oneWeek_268 rfl rfl ?_
  refine um_iaj (pc := 269) (n := 3790) 0 rfl Cx hW ms_1 rfl (um_ix_in (by decide)) dX9_oneWeek_269 ?_
  refine lv_iconst (pc := 270) (v := (1 : Int32)) hx hb dX9_oneWeek_270 (by decide) ?_
  refine lv_iadd (pc := 271) hx hb dX9_oneWeek_271 ?_
  refine um_isj (pc := 272) (n := 3790) 0 rfl Cx hW hS ms_1 rfl (um_ix_in (by decide)) dX9_oneWeek_272 ?_
  clear hW hS
  intro H locs hW hS
  obtain ⟨σ13, e14, hf⟩ := um_le hf
  rw [← e14] at hW
  clear e14
  exact um_vret (pc := 273) Cx hW hS hf dX9_oneWeek_273
theorem c_X9_oneWeek {σ : um_S} {σ' : um_S}   (hf : f_X9_oneWeek σ = some σ') : um_M l yX9_oneWeek cX9_oneWeek 3 none (4) (97) Z msh α σ [.ref (α 0)] none σ' :=
  um_start (by decide) (Nat.le_of_ble_eq_true rfl) (fun p e s m below meth c ls Cx hW hS hl => b_X9_oneWeek hf Cx hW hS hl)
noncomputable def f_X9_check_l93 (v1 : Int32) (v2 : Int32) (v3 : Int32) : Nat → Int32 → um_S → Option (um_S)
  | 0, _, _ => none
  | n + 1, v4, σ =>
    if (σ.1 1 4) ≤ v4 then
    (some σ)
    else
    (if um_ix ((2 : Int32) * v3) 60 then
    ((f_X9_markAt v4 σ).bind fun x3 =>
    (if um_ix (x3 + (3 : Int32)) 3790 then
    (if (σ.1 1 (x3 + (3 : Int32)).toNatClampNeg) = 0 then
    (if um_ix ((2 : Int32) * v3) 60 then
    (um_let (um_wr σ 16 ((2 : Int32) * v3).toNatClampNeg ((σ.1 16 ((2 : Int32) * v3).toNatClampNeg) + (1 : Int32))) fun σ9 =>
    (f_X9_check_l93 v1 v2 v3 n (v4 + (1 : Int32)) σ9)) else none)
    else
    (if um_ix ((2 : Int32) * v3) 60 then
    (um_let (um_wr σ 16 ((2 : Int32) * v3).toNatClampNeg ((σ.1 16 ((2 : Int32) * v3).toNatClampNeg) + (0 : Int32))) fun σ6 =>
    (f_X9_check_l93 v1 v2 v3 n (v4 + (1 : Int32)) σ6)) else none)) else none)) else none)
noncomputable def f_X9_check_l145 (v1 : Int32) (v2 : Int32) (v3 : Int32) : Nat → Int32 → um_S → Option (um_S)
  | 0, _, _ => none
  | n + 1, v4, σ =>
    if (σ.1 1 2) ≤ v4 then
    (some σ)
    else
    (if um_ix (((2 : Int32) * v3) + (1 : Int32)) 60 then
    ((f_X9_manAt v4 σ).bind fun x3 =>
    (if um_ix (x3 + (9 : Int32)) 3790 then
    (if um_ix (((2 : Int32) * v3) + (1 : Int32)) 60 then
    (um_let (um_wr σ 16 (((2 : Int32) * v3) + (1 : Int32)).toNatClampNeg ((σ.1 16 (((2 : Int32) * v3) + (1 : Int32)).toNatClampNeg) + (σ.1 1 (x3 + (9 : Int32)).toNatClampNeg))) fun σ6 =>
    (f_X9_check_l145 v1 v2 v3 n (v4 + (1 : Int32)) σ6)) else none) else none)) else none)
noncomputable def f_X9_check_l61 (v1 : Int32) (v2 : Int32) : Nat → Int32 → um_S → Option (um_S)
  | 0, _, _ => none
  | n + 1, v3, σ =>
    if v1 ≤ v3 then
    (some σ)
    else
    ((f_X9_oneWeek σ).bind fun σ2 =>
    (if um_ix ((2 : Int32) * v3) 60 then
    (um_let (um_wr σ2 16 ((2 : Int32) * v3).toNatClampNeg (0 : Int32)) fun σ4 =>
    (if um_ix (((2 : Int32) * v3) + (1 : Int32)) 60 then
    (um_let (um_wr σ4 16 (((2 : Int32) * v3) + (1 : Int32)).toNatClampNeg (0 : Int32)) fun σ7 =>
    ((f_X9_check_l93 v1 v2 v3 um_N (0 : Int32) σ7).bind fun σ9 =>
    ((f_X9_check_l145 v1 v2 v3 um_N (0 : Int32) σ9).bind fun σ11 =>
    (f_X9_check_l61 v1 v2 n (v3 + (1 : Int32)) σ11)))) else none)) else none))
noncomputable def f_X9_check_l209 (v1 : Int32) (v2 : Int32) (σ : um_S) : Nat → Int32 → Option (Int32)
  | 0, _ => none
  | n + 1, v3 =>
    if v2 ≤ v3 then
    (some v3)
    else
    (if ((2 : Int32) * v1) ≤ v3 then
    (some v3)
    else
    (if um_ix v3 60 then
    (if um_ix v3 60 then
    (if (σ.1 15 v3.toNatClampNeg) = (σ.1 16 v3.toNatClampNeg) then
    (f_X9_check_l209 v1 v2 σ n (v3 + (1 : Int32)))
    else
    (some v3)) else none) else none))
noncomputable def f_X9_check (a1 : Int32) (σ : um_S) : Option (Int32 × um_S) :=
    um_let (σ.1 0 27) fun x1 =>
    (um_let (um_wr σ 0 27 (0 : Int32)) fun σ3 =>
    ((f_X9_isIn (a1.toInt64) (1 : Int64) (30 : Int64) σ3).bind fun x6 =>
    (if (um_b x6) = 0 then
    (some ((-1000000001 : Int32), σ3))
    else
    (if (σ3.1 0 3) = 0 then
    (some ((-1000000002 : Int32), σ3))
    else
    ((f_X9_setAside 1 3 σ3).bind fun σ8 =>
    ((f_X9_setAside 2 1 σ8).bind fun σ10 =>
    ((f_X9_check_l61 a1 x1 um_N (0 : Int32) σ10).bind fun σ11 =>
    ((f_X9_setAside 3 1 σ11).bind fun σ14 =>
    ((f_X9_check_l209 a1 x1 σ14 um_N (0 : Int32)).bind fun x15 =>
    (if x15 = x1 then
    (if x15 = ((2 : Int32) * a1) then
    (some ((0 : Int32), σ14))
    else
    (some ((1 : Int32) + x15, σ14)))
    else
    (some ((1 : Int32) + x15, σ14))))))))))))
set_option maxRecDepth 100000 in
set_option maxHeartbeats 4000000 in
theorem t_X9_check_l93 {Q : State → Prop} {σo : um_S} (v1 : Int32) (v2 : Int32) (v3 : Int32)  (Cx : um_C p s m meth c args cX9_check 5 (some FieldType.int) RX9 Z) (hE : ∀ (H : Heap) (locs : List Loc) (ls : Array Slot), um_W Z msh α σo H → va_S (um_D msh α) s.heap H locs → lv_has ls 5 [(0, .ref (α 0)), (1, .int v1), (2, .int v2), (3, .int v3)] → W p l e { frames := 5, cells := 0, slots := 0, locals := 119 } s m args below meth c H locs 0 0 Q (F0 m 142 ls [])) : ∀ (n : Nat) (v4 : Int32) (σ : um_S) (H : Heap) (locs : List Loc) (ls : Array Slot), f_X9_check_l93 v1 v2 v3 n v4 σ = some σo → um_W Z msh α σ H → va_S (um_D msh α) s.heap H locs → lv_has ls 5 [(0, .ref (α 0)), (1, .int v1), (2, .int v2), (3, .int v3), (4, .int v4)] → W p l e { frames := 5, cells := 0, slots := 0, locals := 119 } s m args below meth c H locs 0 0 Q (F0 m 93 ls []) := by
  have hx := Cx.1
  have hb := Cx.2.1
  have hown := Cx.2.2.2.2.1
  have hts := Cx.2.2.2.2.2.1
  intro n
  induction n with
  | zero =>
    intro v4 σ H locs ls hf hW hS hl
    cases hf
  | succ n ih =>
    intro v4 σ H locs ls hf hW hS hl
    rw [f_X9_check_l93] at hf
    refine lv_iload (pc := 93) hx hb dX9_check_93 (lv_at hl 4 rfl) ?_
    refine lv_aload_n (pc := 95) hx hb dX9_check_95 rfl (lv_at hl 0 rfl) ?_
    refine gF_X9_7 (pc := 96) Cx hW ms_0 rfl dX9_check_96 ?_
    refine lv_iconst (pc := 99) (v := (4 : Int32)) hx hb dX9_check_99 (by decide) ?_
    refine um_iaj (pc := 100) (n := 3790) 4 rfl Cx hW ms_1 rfl (um_ix_in (by decide)) dX9_check_100 ?_
    refine lv_icmp_ge (pc := 101) (tgt := 142) hx hb dX9_check_101 (by decide) (fun c1 => ?_) (fun c1 => ?_)
    · have hf := um_it c1 hf
      clear c1
      cases hf
      exact hE _ _ _ hW hS (lv_sub hl [0, 1, 2, 3] rfl)
    · have hf := um_ie c1 hf
      clear c1
      refine lv_aload_n (pc := 104) hx hb dX9_check_104 rfl (lv_at hl 0 rfl) ?_
      refine gF_X9_56 (pc := 105) Cx hW ms_0 rfl dX9_check_105 ?_
      refine lv_iconst (pc := 108) (v := (2 : Int32)) hx hb dX9_check_108 (by decide) ?_
      refine lv_iload_n (pc := 109) hx hb dX9_check_109 rfl (lv_at hl 3 rfl) ?_
      refine lv_imul (pc := 110) hx hb dX9_check_110 ?_
      refine lv_dup2_11 (pc := 111) hx hb dX9_check_111 rfl rfl ?_
      obtain ⟨g1, hf⟩ := um_gu hf
      refine um_iald (pc := 112) Cx hW ms_16 rfl (um_ix_in g1) dX9_check_112 ?_
      refine lv_aload_n (pc := 113) hx hb dX9_check_113 rfl (lv_at hl 0 rfl) ?_
      refine gF_X9_7 (pc := 114) Cx hW ms_0 rfl dX9_check_114 ?_
      refine lv_aload_n (pc := 117) hx hb dX9_check_117 rfl (lv_at hl 0 rfl) ?_
      refine lv_iload (pc := 118) hx hb dX9_check_118 (lv_at hl 4 rfl) ?_
      obtain ⟨x3, hc2, hf⟩ := um_bi hf
      refine um_cVi (pc := 120) (As := [.int v4]) (rest := [.ref (α 1), .int (σ.1 16 ((2 : Int32) * v3).toNatClampNeg), .int ((2 : Int32) * v3), .ref (α 16)]) Cx (c_X9_markAt v4 hc2) kV_X9_markAt (Or.inl qM_X9_111) hW hS ms_0 rfl rfl hl rfl (Nat.le_of_ble_eq_true rfl) (Nat.le_of_ble_eq_true rfl) (Nat.le_of_ble_eq_true rfl) dX9_check_120 (Nat.le_refl _) (Nat.le_refl _) ?_
      clear hW hS hc2
      intro H locs hW hS
      refine lv_iconst (pc := 123) (v := (3 : Int32)) hx hb dX9_check_123 (by decide) ?_
      refine lv_iadd (pc := 124) hx hb dX9_check_124 ?_
      obtain ⟨g4, hf⟩ := um_gu hf
      refine um_iald (pc := 125) Cx hW ms_1 rfl (um_ix_in g4) dX9_check_125 ?_
      refine lv_if_ne (pc := 126) (tgt := 133) hx hb dX9_check_126 (by decide) (fun c1 => ?_) (fun c1 => ?_)
      · have hf := um_ie c1 hf
        clear c1
        refine lv_iconst (pc := 133) (v := (0 : Int32)) hx hb dX9_check_133 (by decide) ?_
        refine lv_iadd (pc := 134) hx hb dX9_check_134 ?_
        obtain ⟨g5, hf⟩ := um_gu hf
        refine um_iast (pc := 135) Cx hW hS ms_16 rfl (um_ix_in g5) dX9_check_135 ?_
        clear hW hS
        intro H locs hW hS
        obtain ⟨σ6, e7, hf⟩ := um_le hf
        rw [← e7] at hW
        clear e7
        refine lv_iinc (pc := 136) (v := v4 + (1 : Int32)) (lv' := [(4, .int (v4 + (1 : Int32))), (0, .ref (α 0)), (1, .int v1), (2, .int v2), (3, .int v3)]) hx hb dX9_check_136 hl (k := 4) rfl rfl (by decide) rfl ?_
        clear hl
        intro ls hl
        refine lv_goto (pc := 139) (tgt := 93) hx hb dX9_check_139 (by decide) ?_
        exact ih _ _ _ _ _ hf hW hS (lv_sub hl [1, 2, 3, 4, 0] rfl)
      · have hf := um_it c1 hf
        clear c1
        refine lv_iconst (pc := 129) (v := (1 : Int32)) hx hb dX9_check_129 (by decide) ?_
        refine lv_goto (pc := 130) (tgt := 134) hx hb dX9_check_130 (by decide) ?_
        refine lv_iadd (pc := 134) hx hb dX9_check_134 ?_
        obtain ⟨g8, hf⟩ := um_gu hf
        refine um_iast (pc := 135) Cx hW hS ms_16 rfl (um_ix_in g8) dX9_check_135 ?_
        clear hW hS
        intro H locs hW hS
        obtain ⟨σ9, e10, hf⟩ := um_le hf
        rw [← e10] at hW
        clear e10
        refine lv_iinc (pc := 136) (v := v4 + (1 : Int32)) (lv' := [(4, .int (v4 + (1 : Int32))), (0, .ref (α 0)), (1, .int v1), (2, .int v2), (3, .int v3)]) hx hb dX9_check_136 hl (k := 4) rfl rfl (by decide) rfl ?_
        clear hl
        intro ls hl
        refine lv_goto (pc := 139) (tgt := 93) hx hb dX9_check_139 (by decide) ?_
        exact ih _ _ _ _ _ hf hW hS (lv_sub hl [1, 2, 3, 4, 0] rfl)
set_option maxRecDepth 100000 in
set_option maxHeartbeats 4000000 in
theorem t_X9_check_l145 {Q : State → Prop} {σo : um_S} (v1 : Int32) (v2 : Int32) (v3 : Int32)  (Cx : um_C p s m meth c args cX9_check 5 (some FieldType.int) RX9 Z) (hE : ∀ (H : Heap) (locs : List Loc) (ls : Array Slot), um_W Z msh α σo H → va_S (um_D msh α) s.heap H locs → lv_has ls 5 [(0, .ref (α 0)), (1, .int v1), (2, .int v2), (3, .int v3)] → W p l e { frames := 5, cells := 0, slots := 0, locals := 119 } s m args below meth c H locs 0 0 Q (F0 m 189 ls [])) : ∀ (n : Nat) (v4 : Int32) (σ : um_S) (H : Heap) (locs : List Loc) (ls : Array Slot), f_X9_check_l145 v1 v2 v3 n v4 σ = some σo → um_W Z msh α σ H → va_S (um_D msh α) s.heap H locs → lv_has ls 5 [(0, .ref (α 0)), (1, .int v1), (2, .int v2), (3, .int v3), (4, .int v4)] → W p l e { frames := 5, cells := 0, slots := 0, locals := 119 } s m args below meth c H locs 0 0 Q (F0 m 145 ls []) := by
  have hx := Cx.1
  have hb := Cx.2.1
  have hown := Cx.2.2.2.2.1
  have hts := Cx.2.2.2.2.2.1
  intro n
  induction n with
  | zero =>
    intro v4 σ H locs ls hf hW hS hl
    cases hf
  | succ n ih =>
    intro v4 σ H locs ls hf hW hS hl
    rw [f_X9_check_l145] at hf
    refine lv_iload (pc := 145) hx hb dX9_check_145 (lv_at hl 4 rfl) ?_
    refine lv_aload_n (pc := 147) hx hb dX9_check_147 rfl (lv_at hl 0 rfl) ?_
    refine gF_X9_7 (pc := 148) Cx hW ms_0 rfl dX9_check_148 ?_
    refine lv_iconst (pc := 151) (v := (2 : Int32)) hx hb dX9_check_151 (by decide) ?_
    refine um_iaj (pc := 152) (n := 3790) 2 rfl Cx hW ms_1 rfl (um_ix_in (by decide)) dX9_check_152 ?_
    refine lv_icmp_ge (pc := 153) (tgt := 189) hx hb dX9_check_153 (by decide) (fun c1 => ?_) (fun c1 => ?_)
    · have hf := um_it c1 hf
      clear c1
      cases hf
      exact hE _ _ _ hW hS (lv_sub hl [0, 1, 2, 3] rfl)
    · have hf := um_ie c1 hf
      clear c1
      refine lv_aload_n (pc := 156) hx hb dX9_check_156 rfl (lv_at hl 0 rfl) ?_
      refine gF_X9_56 (pc := 157) Cx hW ms_0 rfl dX9_check_157 ?_
      refine lv_iconst (pc := 160) (v := (2 : Int32)) hx hb dX9_check_160 (by decide) ?_
      refine lv_iload_n (pc := 161) hx hb dX9_check_161 rfl (lv_at hl 3 rfl) ?_
      refine lv_imul (pc := 162) hx hb dX9_check_162 ?_
      refine lv_iconst (pc := 163) (v := (1 : Int32)) hx hb dX9_check_163 (by decide) ?_
      refine lv_iadd (pc := 164) hx hb dX9_check_164 ?_
      refine lv_dup2_11 (pc := 165) hx hb dX9_check_165 rfl rfl ?_
      obtain ⟨g1, hf⟩ := um_gu hf
      refine um_iald (pc := 166) Cx hW ms_16 rfl (um_ix_in g1) dX9_check_166 ?_
      refine lv_aload_n (pc := 167) hx hb dX9_check_167 rfl (lv_at hl 0 rfl) ?_
      refine gF_X9_7 (pc := 168) Cx hW ms_0 rfl dX9_check_168 ?_
      refine lv_aload_n (pc := 171) hx hb dX9_check_171 rfl (lv_at hl 0 rfl) ?_
      refine lv_iload (pc := 172) hx hb dX9_check_172 (lv_at hl 4 rfl) ?_
      obtain ⟨x3, hc2, hf⟩ := um_bi hf
      refine um_cVi (pc := 174) (As := [.int v4]) (rest := [.ref (α 1), .int (σ.1 16 (((2 : Int32) * v3) + (1 : Int32)).toNatClampNeg), .int (((2 : Int32) * v3) + (1 : Int32)), .ref (α 16)]) Cx (c_X9_manAt v4 hc2) kV_X9_manAt (Or.inl qM_X9_66) hW hS ms_0 rfl rfl hl rfl (Nat.le_of_ble_eq_true rfl) (Nat.le_of_ble_eq_true rfl) (Nat.le_of_ble_eq_true rfl) dX9_check_174 (Nat.le_refl _) (Nat.le_refl _) ?_
      clear hW hS hc2
      intro H locs hW hS
      refine lv_bipush (pc := 177) (v := (9 : Int32)) hx hb dX9_check_177 (by decide) ?_
      refine lv_iadd (pc := 179) hx hb dX9_check_179 ?_
      obtain ⟨g4, hf⟩ := um_gu hf
      refine um_iald (pc := 180) Cx hW ms_1 rfl (um_ix_in g4) dX9_check_180 ?_
      refine lv_iadd (pc := 181) hx hb dX9_check_181 ?_
      obtain ⟨g5, hf⟩ := um_gu hf
      refine um_iast (pc := 182) Cx hW hS ms_16 rfl (um_ix_in g5) dX9_check_182 ?_
      clear hW hS
      intro H locs hW hS
      obtain ⟨σ6, e7, hf⟩ := um_le hf
      rw [← e7] at hW
      clear e7
      refine lv_iinc (pc := 183) (v := v4 + (1 : Int32)) (lv' := [(4, .int (v4 + (1 : Int32))), (0, .ref (α 0)), (1, .int v1), (2, .int v2), (3, .int v3)]) hx hb dX9_check_183 hl (k := 4) rfl rfl (by decide) rfl ?_
      clear hl
      intro ls hl
      refine lv_goto (pc := 186) (tgt := 145) hx hb dX9_check_186 (by decide) ?_
      exact ih _ _ _ _ _ hf hW hS (lv_sub hl [1, 2, 3, 4, 0] rfl)
set_option maxRecDepth 100000 in
set_option maxHeartbeats 4000000 in
theorem t_X9_check_l61 {Q : State → Prop} {σo : um_S} (v1 : Int32) (v2 : Int32)  (Cx : um_C p s m meth c args cX9_check 5 (some FieldType.int) RX9 Z) (hE : ∀ (H : Heap) (locs : List Loc) (ls : Array Slot), um_W Z msh α σo H → va_S (um_D msh α) s.heap H locs → lv_has ls 5 [(0, .ref (α 0)), (1, .int v1), (2, .int v2)] → W p l e { frames := 5, cells := 0, slots := 0, locals := 119 } s m args below meth c H locs 0 0 Q (F0 m 195 ls [])) : ∀ (n : Nat) (v3 : Int32) (σ : um_S) (H : Heap) (locs : List Loc) (ls : Array Slot), f_X9_check_l61 v1 v2 n v3 σ = some σo → um_W Z msh α σ H → va_S (um_D msh α) s.heap H locs → lv_has ls 5 [(0, .ref (α 0)), (1, .int v1), (2, .int v2), (3, .int v3)] → W p l e { frames := 5, cells := 0, slots := 0, locals := 119 } s m args below meth c H locs 0 0 Q (F0 m 61 ls []) := by
  have hx := Cx.1
  have hb := Cx.2.1
  have hown := Cx.2.2.2.2.1
  have hts := Cx.2.2.2.2.2.1
  intro n
  induction n with
  | zero =>
    intro v3 σ H locs ls hf hW hS hl
    cases hf
  | succ n ih =>
    intro v3 σ H locs ls hf hW hS hl
    rw [f_X9_check_l61] at hf
    refine lv_iload_n (pc := 61) hx hb dX9_check_61 rfl (lv_at hl 3 rfl) ?_
    refine lv_iload_n (pc := 62) hx hb dX9_check_62 rfl (lv_at hl 1 rfl) ?_
    refine lv_icmp_ge (pc := 63) (tgt := 195) hx hb dX9_check_63 (by decide) (fun c1 => ?_) (fun c1 => ?_)
    · have hf := um_it c1 hf
      clear c1
      cases hf
      exact hE _ _ _ hW hS (lv_sub hl [0, 1, 2] rfl)
    · have hf := um_ie c1 hf
      clear c1
      refine lv_aload_n (pc := 66) hx hb dX9_check_66 rfl (lv_at hl 0 rfl) ?_
      obtain ⟨σ2, hc1, hf⟩ := um_bi hf
      refine um_cVv (pc := 67) (As := []) (rest := []) Cx (c_X9_oneWeek hc1) kV_X9_oneWeek (Or.inl qM_X9_310) hW hS ms_0 rfl rfl hl rfl (Nat.le_of_ble_eq_true rfl) (Nat.le_of_ble_eq_true rfl) (Nat.le_of_ble_eq_true rfl) dX9_check_67 (Nat.le_refl _) (Nat.le_refl _) ?_
      clear hW hS hc1
      intro H locs hW hS
      refine lv_aload_n (pc := 70) hx hb dX9_check_70 rfl (lv_at hl 0 rfl) ?_
      refine gF_X9_56 (pc := 71) Cx hW ms_0 rfl dX9_check_71 ?_
      refine lv_iconst (pc := 74) (v := (2 : Int32)) hx hb dX9_check_74 (by decide) ?_
      refine lv_iload_n (pc := 75) hx hb dX9_check_75 rfl (lv_at hl 3 rfl) ?_
      refine lv_imul (pc := 76) hx hb dX9_check_76 ?_
      refine lv_iconst (pc := 77) (v := (0 : Int32)) hx hb dX9_check_77 (by decide) ?_
      obtain ⟨g3, hf⟩ := um_gu hf
      refine um_iast (pc := 78) Cx hW hS ms_16 rfl (um_ix_in g3) dX9_check_78 ?_
      clear hW hS
      intro H locs hW hS
      obtain ⟨σ4, e5, hf⟩ := um_le hf
      rw [← e5] at hW
      clear e5
      refine lv_aload_n (pc := 79) hx hb dX9_check_79 rfl (lv_at hl 0 rfl) ?_
      refine gF_X9_56 (pc := 80) Cx hW ms_0 rfl dX9_check_80 ?_
      refine lv_iconst (pc := 83) (v := (2 : Int32)) hx hb dX9_check_83 (by decide) ?_
      refine lv_iload_n (pc := 84) hx hb dX9_check_84 rfl (lv_at hl 3 rfl) ?_
      refine lv_imul (pc := 85) hx hb dX9_check_85 ?_
      refine lv_iconst (pc := 86) (v := (1 : Int32)) hx hb dX9_check_86 (by decide) ?_
      refine lv_iadd (pc := 87) hx hb dX9_check_87 ?_
      refine lv_iconst (pc := 88) (v := (0 : Int32)) hx hb dX9_check_88 (by decide) ?_
      obtain ⟨g6, hf⟩ := um_gu hf
      refine um_iast (pc := 89) Cx hW hS ms_16 rfl (um_ix_in g6) dX9_check_89 ?_
      clear hW hS
      intro H locs hW hS
      obtain ⟨σ7, e8, hf⟩ := um_le hf
      rw [← e8] at hW
      clear e8
      refine lv_iconst (pc := 90) (v := (0 : Int32)) hx hb dX9_check_90 (by decide) ?_
      refine lv_istore (pc := 91) (lv' := [(4, .int (0 : Int32)), (0, .ref (α 0)), (1, .int v1), (2, .int v2), (3, .int v3)]) hx hb dX9_check_91 hl (by decide) rfl ?_
      clear hl
      intro ls hl
      obtain ⟨σ9, hc10, hf⟩ := um_bi hf
      refine t_X9_check_l93 v1 v2 v3 Cx ?_ um_N _ _ _ _ _ hc10 hW hS (lv_sub hl [1, 2, 3, 4, 0] rfl)
      clear hW hS hl hc10
      intro H locs ls hW hS hl
      refine lv_iconst (pc := 142) (v := (0 : Int32)) hx hb dX9_check_142 (by decide) ?_
      refine lv_istore (pc := 143) (lv' := [(4, .int (0 : Int32)), (0, .ref (α 0)), (1, .int v1), (2, .int v2), (3, .int v3)]) hx hb dX9_check_143 hl (by decide) rfl ?_
      clear hl
      intro ls hl
      obtain ⟨σ11, hc12, hf⟩ := um_bi hf
      refine t_X9_check_l145 v1 v2 v3 Cx ?_ um_N _ _ _ _ _ hc12 hW hS (lv_sub hl [1, 2, 3, 4, 0] rfl)
      clear hW hS hl hc12
      intro H locs ls hW hS hl
      refine lv_iinc (pc := 189) (v := v3 + (1 : Int32)) (lv' := [(3, .int (v3 + (1 : Int32))), (0, .ref (α 0)), (1, .int v1), (2, .int v2)]) hx hb dX9_check_189 hl (k := 3) rfl rfl (by decide) rfl ?_
      clear hl
      intro ls hl
      refine lv_goto (pc := 192) (tgt := 61) hx hb dX9_check_192 (by decide) ?_
      exact ih _ _ _ _ _ hf hW hS (lv_sub hl [1, 2, 3, 0] rfl)
set_option maxRecDepth 100000 in
set_option maxHeartbeats 4000000 in
theorem t_X9_check_l209 {Q : State → Prop} {o3 : Int32} {σ : um_S} (v1 : Int32) (v2 : Int32)  (Cx : um_C p s m meth c args cX9_check 5 (some FieldType.int) RX9 Z) (hE : ∀ (H : Heap) (locs : List Loc) (ls : Array Slot), um_W Z msh α σ H → va_S (um_D msh α) s.heap H locs → lv_has ls 5 [(1, .int v1), (2, .int v2), (3, .int o3)] → W p l e { frames := 5, cells := 0, slots := 0, locals := 119 } s m args below meth c H locs 0 0 Q (F0 m 242 ls [])) : ∀ (n : Nat) (v3 : Int32) (H : Heap) (locs : List Loc) (ls : Array Slot), f_X9_check_l209 v1 v2 σ n v3 = some o3 → um_W Z msh α σ H → va_S (um_D msh α) s.heap H locs → lv_has ls 5 [(0, .ref (α 0)), (1, .int v1), (2, .int v2), (3, .int v3)] → W p l e { frames := 5, cells := 0, slots := 0, locals := 119 } s m args below meth c H locs 0 0 Q (F0 m 209 ls []) := by
  have hx := Cx.1
  have hb := Cx.2.1
  have hown := Cx.2.2.2.2.1
  have hts := Cx.2.2.2.2.2.1
  intro n
  induction n with
  | zero =>
    intro v3 H locs ls hf hW hS hl
    cases hf
  | succ n ih =>
    intro v3 H locs ls hf hW hS hl
    rw [f_X9_check_l209] at hf
    refine lv_iload_n (pc := 209) hx hb dX9_check_209 rfl (lv_at hl 3 rfl) ?_
    refine lv_iload_n (pc := 210) hx hb dX9_check_210 rfl (lv_at hl 2 rfl) ?_
    refine lv_icmp_ge (pc := 211) (tgt := 242) hx hb dX9_check_211 (by decide) (fun c1 => ?_) (fun c1 => ?_)
    · have hf := um_it c1 hf
      clear c1
      cases hf
      exact hE _ _ _ hW hS (lv_sub hl [1, 2, 3] rfl)
    · have hf := um_ie c1 hf
      clear c1
      refine lv_iload_n (pc := 214) hx hb dX9_check_214 rfl (lv_at hl 3 rfl) ?_
      refine lv_iconst (pc := 215) (v := (2 : Int32)) hx hb dX9_check_215 (by decide) ?_
      refine lv_iload_n (pc := 216) hx hb dX9_check_216 rfl (lv_at hl 1 rfl) ?_
      refine lv_imul (pc := 217) hx hb dX9_check_217 ?_
      refine lv_icmp_ge (pc := 218) (tgt := 242) hx hb dX9_check_218 (by decide) (fun c1 => ?_) (fun c1 => ?_)
      · have hf := um_it c1 hf
        clear c1
        cases hf
        exact hE _ _ _ hW hS (lv_sub hl [1, 2, 3] rfl)
      · have hf := um_ie c1 hf
        clear c1
        refine lv_aload_n (pc := 221) hx hb dX9_check_221 rfl (lv_at hl 0 rfl) ?_
        refine gF_X9_53 (pc := 222) Cx hW ms_0 rfl dX9_check_222 ?_
        refine lv_iload_n (pc := 225) hx hb dX9_check_225 rfl (lv_at hl 3 rfl) ?_
        obtain ⟨g1, hf⟩ := um_gu hf
        refine um_iald (pc := 226) Cx hW ms_15 rfl (um_ix_in g1) dX9_check_226 ?_
        refine lv_aload_n (pc := 227) hx hb dX9_check_227 rfl (lv_at hl 0 rfl) ?_
        refine gF_X9_56 (pc := 228) Cx hW ms_0 rfl dX9_check_228 ?_
        refine lv_iload_n (pc := 231) hx hb dX9_check_231 rfl (lv_at hl 3 rfl) ?_
        obtain ⟨g2, hf⟩ := um_gu hf
        refine um_iald (pc := 232) Cx hW ms_16 rfl (um_ix_in g2) dX9_check_232 ?_
        refine lv_icmp_ne (pc := 233) (tgt := 242) hx hb dX9_check_233 (by decide) (fun c1 => ?_) (fun c1 => ?_)
        · have hf := um_ie c1 hf
          clear c1
          cases hf
          exact hE _ _ _ hW hS (lv_sub hl [1, 2, 3] rfl)
        · have hf := um_it c1 hf
          clear c1
          refine lv_iinc (pc := 236) (v := v3 + (1 : Int32)) (lv' := [(3, .int (v3 + (1 : Int32))), (0, .ref (α 0)), (1, .int v1), (2, .int v2)]) hx hb dX9_check_236 hl (k := 3) rfl rfl (by decide) rfl ?_
          clear hl
          intro ls hl
          refine lv_goto (pc := 239) (tgt := 209) hx hb dX9_check_239 (by decide) ?_
          exact ih _ _ _ _ hf hW hS (lv_sub hl [1, 2, 3, 0] rfl)
set_option maxRecDepth 100000 in
set_option maxHeartbeats 4000000 in
theorem b_X9_check {H : Heap} {locs : List Loc} {ls : Array Slot} {σ : um_S} {σ' : um_S} {r : Int32} (a1 : Int32)  (hf : f_X9_check a1 σ = some (r, σ')) (Cx : um_C p s m meth c args cX9_check 5 (some FieldType.int) RX9 Z) (hW : um_W Z msh α σ H) (hS : va_S (um_D msh α) s.heap H locs) (hl : lv_has ls 5 [(0, .ref (α 0)), (1, .int a1)]) : um_G p l e (5) (119) s m args below meth c Z msh α σ' (some (.int r)) H locs (F0 m 0 ls []) := by
  have hx := Cx.1
  have hb := Cx.2.1
  have hown := Cx.2.2.2.2.1
  have hts := Cx.2.2.2.2.2.1
  rw [f_X9_check] at hf
  refine lv_aload_n (pc := 0) hx hb dX9_check_0 rfl (lv_at hl 0 rfl) ?_
  refine gF_X9_388 (pc := 1) Cx hW ms_0 rfl dX9_check_1 ?_
  obtain ⟨x1, e2, hf⟩ := um_le hf
  refine um_top e2 ?_
  clear e2
  refine lv_istore_n (pc := 4) (lv' := [(2, .int x1), (0, .ref (α 0)), (1, .int a1)]) hx hb dX9_check_4 rfl hl (by decide) rfl ?_
  clear hl
  intro ls hl
  refine lv_aload_n (pc := 5) hx hb dX9_check_5 rfl (lv_at hl 1 rfl) ?_
  refine lv_iconst (pc := 6) (v := (0 : Int32)) hx hb dX9_check_6 (by decide) ?_
  refine gP_X9_388 (pc := 7) Cx hW hS ms_0 rfl dX9_check_7 ?_
  clear hW hS
  intro H locs hW hS
  obtain ⟨σ3, e4, hf⟩ := um_le hf
  rw [← e4] at hW
  clear e4
  refine lv_iload_n (pc := 10) hx hb dX9_check_10 rfl (lv_at hl 2 rfl) ?_
  refine lv_i2l (pc := 11) hx hb dX9_check_11 rfl ?_
  refine lv_lconst (pc := 12) (v := (1 : Int64)) hx hb dX9_check_12 (by decide) ?_
  refine lv_ldc2 (pc := 13) hx hb hown (hts _ qL_X9_391) dX9_check_13 ?_
  obtain ⟨x6, hc5, hf⟩ := um_bi hf
  refine um_cSi (pc := 16) (As := [.long (a1.toInt64), .long (1 : Int64), .long (30 : Int64)]) (rest := []) Cx (c_X9_isIn (a1.toInt64) (1 : Int64) (30 : Int64) hc5) kS_X9_isIn (Or.inl qM_X9_60) hW hS rfl hl rfl (Nat.le_of_ble_eq_true rfl) (Nat.le_of_ble_eq_true rfl) (Nat.le_of_ble_eq_true rfl) dX9_check_16 (Nat.le_refl _) (Nat.le_refl _) ?_
  clear hW hS hc5
  intro H locs hW hS
  refine lv_if_ne (pc := 19) (tgt := 25) hx hb dX9_check_19 (by decide) (fun c1 => ?_) (fun c1 => ?_)
  · have hf := um_ie c1 hf
    clear c1
    refine lv_aload_n (pc := 25) hx hb dX9_check_25 rfl (lv_at hl 1 rfl) ?_
    refine gF_X9_393 (pc := 26) Cx hW ms_0 rfl dX9_check_26 ?_
    refine lv_if_ne (pc := 29) (tgt := 35) hx hb dX9_check_29 (by decide) (fun c1 => ?_) (fun c1 => ?_)
    · have hf := um_ie c1 hf
      clear c1
      refine lv_aload_n (pc := 35) hx hb dX9_check_35 rfl (lv_at hl 1 rfl) ?_
      refine lv_aload_n (pc := 36) hx hb dX9_check_36 rfl (lv_at hl 1 rfl) ?_
      refine gF_X9_7 (pc := 37) Cx hW ms_0 rfl dX9_check_37 ?_
      refine lv_aload_n (pc := 40) hx hb dX9_check_40 rfl (lv_at hl 1 rfl) ?_
      refine gF_X9_16 (pc := 41) Cx hW ms_0 rfl dX9_check_41 ?_
      obtain ⟨σ8, hc7, hf⟩ := um_bi hf
      refine um_cVv (pc := 44) (As := [.ref (α 1), .ref (α 3)]) (rest := []) Cx (c_X9_setAside 1 3 ms_1 ms_3 hc7) kV_X9_setAside (Or.inl qM_X9_397) hW hS ms_0 rfl rfl hl rfl (Nat.le_of_ble_eq_true rfl) (Nat.le_of_ble_eq_true rfl) (Nat.le_of_ble_eq_true rfl) dX9_check_44 (Nat.le_refl _) (Nat.le_refl _) ?_
      clear hW hS hc7
      intro H locs hW hS
      refine lv_aload_n (pc := 47) hx hb dX9_check_47 rfl (lv_at hl 1 rfl) ?_
      refine lv_aload_n (pc := 48) hx hb dX9_check_48 rfl (lv_at hl 1 rfl) ?_
      refine gF_X9_13 (pc := 49) Cx hW ms_0 rfl dX9_check_49 ?_
      refine lv_aload_n (pc := 52) hx hb dX9_check_52 rfl (lv_at hl 1 rfl) ?_
      refine gF_X9_7 (pc := 53) Cx hW ms_0 rfl dX9_check_53 ?_
      obtain ⟨σ10, hc9, hf⟩ := um_bi hf
      refine um_cVv (pc := 56) (As := [.ref (α 2), .ref (α 1)]) (rest := []) Cx (c_X9_setAside 2 1 ms_2 ms_1 hc9) kV_X9_setAside (Or.inl qM_X9_397) hW hS ms_0 rfl rfl hl rfl (Nat.le_of_ble_eq_true rfl) (Nat.le_of_ble_eq_true rfl) (Nat.le_of_ble_eq_true rfl) dX9_check_56 (Nat.le_refl _) (Nat.le_refl _) ?_
      clear hW hS hc9
      intro H locs hW hS
      refine lv_iconst (pc := 59) (v := (0 : Int32)) hx hb dX9_check_59 (by decide) ?_
      refine lv_istore_n (pc := 60) (lv' := [(3, .int (0 : Int32)), (2, .int x1), (0, .ref (α 0)), (1, .int a1)]) hx hb dX9_check_60 rfl hl (by decide) rfl ?_
      clear hl
      intro ls hl
      obtain ⟨σ11, hc12, hf⟩ := um_bi hf
      refine t_X9_check_l61 a1 x1 Cx ?_ um_N _ _ _ _ _ hc12 hW hS (lv_sub hl [2, 3, 1, 0] rfl)
      clear hW hS hl hc12
      intro H locs ls hW hS hl
      refine lv_aload_n (pc := 195) hx hb dX9_check_195 rfl (lv_at hl 0 rfl) ?_
      refine lv_aload_n (pc := 196) hx hb dX9_check_196 rfl (lv_at hl 0 rfl) ?_
      refine gF_X9_16 (pc := 197) Cx hW ms_0 rfl dX9_check_197 ?_
      refine lv_aload_n (pc := 200) hx hb dX9_check_200 rfl (lv_at hl 0 rfl) ?_
      refine gF_X9_7 (pc := 201) Cx hW ms_0 rfl dX9_check_201 ?_
      obtain ⟨σ14, hc13, hf⟩ := um_bi hf
      refine um_cVv (pc := 204) (As := [.ref (α 3), .ref (α 1)]) (rest := []) Cx (c_X9_setAside 3 1 ms_3 ms_1 hc13) kV_X9_setAside (Or.inl qM_X9_397) hW hS ms_0 rfl rfl hl rfl (Nat.le_of_ble_eq_true rfl) (Nat.le_of_ble_eq_true rfl) (Nat.le_of_ble_eq_true rfl) dX9_check_204 (Nat.le_refl _) (Nat.le_refl _) ?_
      clear hW hS hc13
      intro H locs hW hS
      refine lv_iconst (pc := 207) (v := (0 : Int32)) hx hb dX9_check_207 (by decide) ?_
      refine lv_istore_n (pc := 208) (lv' := [(3, .int (0 : Int32)), (0, .ref (α 0)), (1, .int a1), (2, .int x1)]) hx hb dX9_check_208 rfl hl (by decide) rfl ?_
      clear hl
      intro ls hl
      obtain ⟨x15, hc16, hf⟩ := um_bi hf
      refine t_X9_check_l209 a1 x1 Cx ?_ um_N _ _ _ _ hc16 hW hS (lv_sub hl [1, 2, 3, 0] rfl)
      clear hW hS hl hc16
      intro H locs ls hW hS hl
      refine lv_iload_n (pc := 242) hx hb dX9_check_242 rfl (lv_at hl 2 rfl) ?_
      refine lv_iload_n (pc := 243) hx hb dX9_check_243 rfl (lv_at hl 1 rfl) ?_
      refine lv_icmp_ne (pc := 244) (tgt := 258) hx hb dX9_check_244 (by decide) (fun c1 => ?_) (fun c1 => ?_)
      · have hf := um_ie c1 hf
        clear c1
        refine lv_iconst (pc := 258) (v := (1 : Int32)) hx hb dX9_check_258 (by decide) ?_
        refine lv_iload_n (pc := 259) hx hb dX9_check_259 rfl (lv_at hl 2 rfl) ?_
        refine lv_iadd (pc := 260) hx hb dX9_check_260 ?_
        exact um_iret (pc := 261) Cx hW hS hf dX9_check_261
      · have hf := um_it c1 hf
        clear c1
        refine lv_iload_n (pc := 247) hx hb dX9_check_247 rfl (lv_at hl 2 rfl) ?_
        refine lv_iconst (pc := 248) (v := (2 : Int32)) hx hb dX9_check_248 (by decide) ?_
        refine lv_iload_n (pc := 249) hx hb dX9_check_249 rfl (lv_at hl 0 rfl) ?_
        refine lv_imul (pc := 250) hx hb dX9_check_250 ?_
        refine lv_icmp_ne (pc := 251) (tgt := 258) hx hb dX9_check_251 (by decide) (fun c1 => ?_) (fun c1 => ?_)
        · have hf := um_ie c1 hf
          clear c1
          refine lv_iconst (pc := 258) (v := (1 : Int32)) hx hb dX9_check_258 (by decide) ?_
          refine lv_iload_n (pc := 259) hx hb dX9_check_259 rfl (lv_at hl 2 rfl) ?_
          refine lv_iadd (pc := 260) hx hb dX9_check_260 ?_
          exact um_iret (pc := 261) Cx hW hS hf dX9_check_261
        · have hf := um_it c1 hf
          clear c1
          refine lv_iconst (pc := 254) (v := (0 : Int32)) hx hb dX9_check_254 (by decide) ?_
          refine lv_goto (pc := 255) (tgt := 261) hx hb dX9_check_255 (by decide) ?_
          exact um_iret (pc := 261) Cx hW hS hf dX9_check_261
    · have hf := um_it c1 hf
      clear c1
      refine lv_ldc (pc := 32) hx hb hown (hts _ qC_X9_106) dX9_check_32 ?_
      exact um_iret (pc := 34) Cx hW hS hf dX9_check_34
  · have hf := um_it c1 hf
    clear c1
    refine lv_ldc (pc := 22) hx hb hown (hts _ qC_X9_87) dX9_check_22 ?_
    exact um_iret (pc := 24) Cx hW hS hf dX9_check_24
theorem c_X9_check {σ : um_S} {σ' : um_S} {r : Int32} (a1 : Int32)  (hf : f_X9_check a1 σ = some (r, σ')) : um_M l yX9_check cX9_check 5 (some FieldType.int) (5) (119) Z msh α σ [.ref (α 0), .int a1] (some (.int r)) σ' :=
  um_start (by decide) (Nat.le_of_ble_eq_true rfl) (fun p e s m below meth c ls Cx hW hS hl => b_X9_check a1 hf Cx hW hS hl)
