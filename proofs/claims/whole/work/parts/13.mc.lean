variable {p : Program} {l : Launch} {e : Env} {s : State} {m : MethodId} {args : Array Value} {below : List Frame} {meth : Method} {c : Code} {Z : um_Z} {α : Nat → Nat} {sh : Nat → Option um_Sh}
noncomputable def f_X9_comes_l77 (P : Int32 → um_S → Option (Bool × um_S)) (v1 : Int32) (v2 : Int32) : Nat → Int32 → um_S → Option ((Bool × um_S) ⊕ (um_S))
  | 0, _, _ => none
  | n + 1, v3, σ =>
    if (σ.1 1 2) ≤ v3 then
    (some (.inr σ))
    else
    (if um_ix v3 14 then
    (if (σ.1 11 v3.toNatClampNeg) = v2 then
    (if um_ix v3 14 then
    (if (σ.1 12 v3.toNatClampNeg) = 0 then
    (if um_ix v3 14 then
    (um_let (um_wr σ 11 v3.toNatClampNeg (-1 : Int32)) fun σ4 =>
    (um_b2 (P v3 σ4) fun x8 σ7 =>
    (if (um_b x8) = 0 then
    (if um_ix v3 14 then
    (um_let (um_wr σ7 11 v3.toNatClampNeg v2) fun σ10 =>
    (f_X9_comes_l77 P v1 v2 n (v3 + (1 : Int32)) σ10)) else none)
    else
    (if um_ix v1 14 then
    (um_let (um_wr σ7 11 v1.toNatClampNeg v2) fun σ13 =>
    (some (.inl (true, σ13)))) else none)))) else none)
    else
    (f_X9_comes_l77 P v1 v2 n (v3 + (1 : Int32)) σ)) else none)
    else
    (f_X9_comes_l77 P v1 v2 n (v3 + (1 : Int32)) σ)) else none)
noncomputable def f_X9_comes_l2 (P : Int32 → um_S → Option (Bool × um_S)) (v1 : Int32) : Nat → Int32 → um_S → Option ((Bool × um_S) ⊕ (um_S))
  | 0, _, _ => none
  | n + 1, v2, σ =>
    if (σ.1 1 3) ≤ v2 then
    (some (.inr σ))
    else
    (if um_ix v2 6 then
    (if (σ.1 13 v2.toNatClampNeg) = 0 then
    ((f_X9_canGo v1 v2 σ).bind fun x3 =>
    (if (um_b x3) = 0 then
    (f_X9_comes_l2 P v1 n (v2 + (1 : Int32)) σ)
    else
    (if um_ix v2 6 then
    (um_let (um_wr σ 13 v2.toNatClampNeg ((1 : Int32) &&& 1)) fun σ5 =>
    ((f_X9_goingTo v2 σ5).bind fun x8 =>
    ((f_X9_masterAt v2 σ5).bind fun x10 =>
    (if um_ix (x10 + (2 : Int32)) 3790 then
    ((f_X9_assignedTo v2 σ5).bind fun x13 =>
    (if ((σ5.1 1 (x10 + (2 : Int32)).toNatClampNeg) - x13) ≤ x8 then
    (um_t1 (f_X9_comes_l77 P v1 v2 um_N (0 : Int32) σ5) fun σ14 =>
    (f_X9_comes_l2 P v1 n (v2 + (1 : Int32)) σ14))
    else
    (if um_ix v1 14 then
    (um_let (um_wr σ5 11 v1.toNatClampNeg v2) fun σ21 =>
    (some (.inl (true, σ21)))) else none))) else none)))) else none)))
    else
    (f_X9_comes_l2 P v1 n (v2 + (1 : Int32)) σ)) else none)
noncomputable def fk_X9_comes (P : Int32 → um_S → Option (Bool × um_S)) (a1 : Int32) (σ : um_S) : Option (Bool × um_S) :=
    um_s1 (f_X9_comes_l2 P a1 um_N (0 : Int32) σ) fun σ1 =>
    (some (false, σ1))
set_option maxRecDepth 100000 in
set_option maxHeartbeats 4000000 in
theorem t_X9_comes_l77 {σ' : um_S} {r : Bool} {out : (Bool × um_S) ⊕ (um_S)}  {P : Int32 → um_S → Option (Bool × um_S)} {FP LP : Nat} (hP : ∀ (a1 : Int32) (σ : um_S) (r : Bool) (σ' : um_S), P a1 σ = some (r, σ') → um_M l yX9_comes cX9_comes 4 (some FieldType.boolean) FP LP Z msh α σ [.ref (α 0), .int a1] (some (.int (um_b r))) σ')  (v1 : Int32) (v2 : Int32)  (Cx : um_C p s m meth c args cX9_comes 4 (some FieldType.boolean) RX9 Z) (hR : ∀ a, out = .inl a → some a = some (r, σ')) (hE : ∀ (σo : um_S), out = .inr σo → ∀ (H : Heap) (locs : List Loc) (ls : Array Slot), um_W Z msh α σo H → va_S (um_D msh α) s.heap H locs → lv_has ls 4 [(0, .ref (α 0)), (1, .int v1), (2, .int v2)] → um_G p l e (FP + 4) (LP + 85) s m args below meth c Z msh α σ' (some (.int (um_b r))) H locs (F0 m 143 ls [])) : ∀ (n : Nat) (v3 : Int32) (σ : um_S) (H : Heap) (locs : List Loc) (ls : Array Slot), f_X9_comes_l77 P v1 v2 n v3 σ = some out → um_W Z msh α σ H → va_S (um_D msh α) s.heap H locs → lv_has ls 4 [(0, .ref (α 0)), (1, .int v1), (2, .int v2), (3, .int v3)] → um_G p l e (FP + 4) (LP + 85) s m args below meth c Z msh α σ' (some (.int (um_b r))) H locs (F0 m 77 ls []) := by
  have hx := Cx.1
  have hb := Cx.2.1
  have hown := Cx.2.2.2.2.1
  have hts := Cx.2.2.2.2.2.1
  intro n
  induction n with
  | zero =>
    intro v3 σ H locs ls hf hW hS hl
    cases hf
  | succ n ih =>
    intro v3 σ H locs ls hf hW hS hl
    rw [f_X9_comes_l77] at hf
    refine lv_iload_n (pc := 77) hx hb dX9_comes_77 rfl (lv_at hl 3 rfl) ?_
    refine lv_aload_n (pc := 78) hx hb dX9_comes_78 rfl (lv_at hl 0 rfl) ?_
    refine gF_X9_7 (pc := 79) Cx hW ms_0 rfl dX9_comes_79 ?_
    refine lv_iconst (pc := 82) (v := (2 : Int32)) hx hb dX9_comes_82 (by decide) ?_
    refine um_iaj (pc := 83) (n := 3790) 2 rfl Cx hW ms_1 rfl (um_ix_in (by decide)) dX9_comes_83 ?_
    refine lv_icmp_ge (pc := 84) (tgt := 143) hx hb dX9_comes_84 (by decide) (fun c1 => ?_) (fun c1 => ?_)
    · have hf := um_it c1 hf
      clear c1
      exact hE _ (Option.some.inj hf).symm _ _ _ hW hS (lv_sub hl [0, 1, 2] rfl)
    · have hf := um_ie c1 hf
      clear c1
      refine lv_aload_n (pc := 87) hx hb dX9_comes_87 rfl (lv_at hl 0 rfl) ?_
      refine gF_X9_40 (pc := 88) Cx hW ms_0 rfl dX9_comes_88 ?_
      refine lv_iload_n (pc := 91) hx hb dX9_comes_91 rfl (lv_at hl 3 rfl) ?_
      obtain ⟨g1, hf⟩ := um_gu hf
      refine um_iald (pc := 92) Cx hW ms_11 rfl (um_ix_in g1) dX9_comes_92 ?_
      refine lv_iload_n (pc := 93) hx hb dX9_comes_93 rfl (lv_at hl 2 rfl) ?_
      refine lv_icmp_ne (pc := 94) (tgt := 137) hx hb dX9_comes_94 (by decide) (fun c1 => ?_) (fun c1 => ?_)
      · have hf := um_ie c1 hf
        clear c1
        refine lv_iinc (pc := 137) (v := v3 + (1 : Int32)) (lv' := [(3, .int (v3 + (1 : Int32))), (0, .ref (α 0)), (1, .int v1), (2, .int v2)]) hx hb dX9_comes_137 hl (k := 3) rfl rfl (by decide) rfl ?_
        clear hl
        intro ls hl
        refine lv_goto (pc := 140) (tgt := 77) hx hb dX9_comes_140 (by decide) ?_
        exact ih _ _ _ _ _ hf hW hS (lv_sub hl [1, 2, 3, 0] rfl)
      · have hf := um_it c1 hf
        clear c1
        refine lv_aload_n (pc := 97) hx hb dX9_comes_97 rfl (lv_at hl 0 rfl) ?_
        refine gF_X9_43 (pc := 98) Cx hW ms_0 rfl dX9_comes_98 ?_
        refine lv_iload_n (pc := 101) hx hb dX9_comes_101 rfl (lv_at hl 3 rfl) ?_
        obtain ⟨g2, hf⟩ := um_gu hf
        refine um_zald (pc := 102) Cx hW ms_12 rfl (um_ix_in g2) dX9_comes_102 ?_
        refine lv_if_ne (pc := 103) (tgt := 137) hx hb dX9_comes_103 (by decide) (fun c1 => ?_) (fun c1 => ?_)
        · have hf := um_ie c1 hf
          clear c1
          refine lv_iinc (pc := 137) (v := v3 + (1 : Int32)) (lv' := [(3, .int (v3 + (1 : Int32))), (0, .ref (α 0)), (1, .int v1), (2, .int v2)]) hx hb dX9_comes_137 hl (k := 3) rfl rfl (by decide) rfl ?_
          clear hl
          intro ls hl
          refine lv_goto (pc := 140) (tgt := 77) hx hb dX9_comes_140 (by decide) ?_
          exact ih _ _ _ _ _ hf hW hS (lv_sub hl [1, 2, 3, 0] rfl)
        · have hf := um_it c1 hf
          clear c1
          refine lv_aload_n (pc := 106) hx hb dX9_comes_106 rfl (lv_at hl 0 rfl) ?_
          refine gF_X9_40 (pc := 107) Cx hW ms_0 rfl dX9_comes_107 ?_
          refine lv_iload_n (pc := 110) hx hb dX9_comes_110 rfl (lv_at hl 3 rfl) ?_
          refine lv_iconst (pc := 111) (v := (-1 : Int32)) hx hb dX9_comes_111 (by decide) ?_
          obtain ⟨g3, hf⟩ := um_gu hf
          refine um_iast (pc := 112) Cx hW hS ms_11 rfl (um_ix_in g3) dX9_comes_112 ?_
          clear hW hS
          intro H locs hW hS
          obtain ⟨σ4, e5, hf⟩ := um_le hf
          rw [← e5] at hW
          clear e5
          refine lv_aload_n (pc := 113) hx hb dX9_comes_113 rfl (lv_at hl 0 rfl) ?_
          refine lv_iload_n (pc := 114) hx hb dX9_comes_114 rfl (lv_at hl 3 rfl) ?_
          obtain ⟨x8, σ7, hc6, hf⟩ := um_bi2 hf
          refine um_cVi (pc := 115) (As := [.int v3]) (rest := []) Cx (hP v3 _ _ _ hc6) kV_X9_comes (Or.inl qM_X9_344) hW hS ms_0 rfl rfl hl rfl (Nat.le_of_ble_eq_true rfl) (by dsimp only; omega) (by dsimp only; omega) dX9_comes_115 (Nat.le_refl _) (Nat.le_refl _) ?_
          clear hW hS hc6
          intro H locs hW hS
          refine lv_if_eq (pc := 118) (tgt := 130) hx hb dX9_comes_118 (by decide) (fun c1 => ?_) (fun c1 => ?_)
          · have hf := um_it c1 hf
            clear c1
            refine lv_aload_n (pc := 130) hx hb dX9_comes_130 rfl (lv_at hl 0 rfl) ?_
            refine gF_X9_40 (pc := 131) Cx hW ms_0 rfl dX9_comes_131 ?_
            refine lv_iload_n (pc := 134) hx hb dX9_comes_134 rfl (lv_at hl 3 rfl) ?_
            refine lv_iload_n (pc := 135) hx hb dX9_comes_135 rfl (lv_at hl 2 rfl) ?_
            obtain ⟨g9, hf⟩ := um_gu hf
            refine um_iast (pc := 136) Cx hW hS ms_11 rfl (um_ix_in g9) dX9_comes_136 ?_
            clear hW hS
            intro H locs hW hS
            obtain ⟨σ10, e11, hf⟩ := um_le hf
            rw [← e11] at hW
            clear e11
            refine lv_iinc (pc := 137) (v := v3 + (1 : Int32)) (lv' := [(3, .int (v3 + (1 : Int32))), (0, .ref (α 0)), (1, .int v1), (2, .int v2)]) hx hb dX9_comes_137 hl (k := 3) rfl rfl (by decide) rfl ?_
            clear hl
            intro ls hl
            refine lv_goto (pc := 140) (tgt := 77) hx hb dX9_comes_140 (by decide) ?_
            exact ih _ _ _ _ _ hf hW hS (lv_sub hl [1, 2, 3, 0] rfl)
          · have hf := um_ie c1 hf
            clear c1
            refine lv_aload_n (pc := 121) hx hb dX9_comes_121 rfl (lv_at hl 0 rfl) ?_
            refine gF_X9_40 (pc := 122) Cx hW ms_0 rfl dX9_comes_122 ?_
            refine lv_iload_n (pc := 125) hx hb dX9_comes_125 rfl (lv_at hl 1 rfl) ?_
            refine lv_iload_n (pc := 126) hx hb dX9_comes_126 rfl (lv_at hl 2 rfl) ?_
            obtain ⟨g12, hf⟩ := um_gu hf
            refine um_iast (pc := 127) Cx hW hS ms_11 rfl (um_ix_in g12) dX9_comes_127 ?_
            clear hW hS
            intro H locs hW hS
            obtain ⟨σ13, e14, hf⟩ := um_le hf
            rw [← e14] at hW
            clear e14
            refine lv_iconst (pc := 128) (v := (1 : Int32)) hx hb dX9_comes_128 (by decide) ?_
            exact um_zret (pc := 129) Cx hW hS (hR _ (Option.some.inj hf).symm) rfl dX9_comes_129
set_option maxRecDepth 100000 in
set_option maxHeartbeats 4000000 in
theorem t_X9_comes_l2 {σ' : um_S} {r : Bool} {out : (Bool × um_S) ⊕ (um_S)}  {P : Int32 → um_S → Option (Bool × um_S)} {FP LP : Nat} (hP : ∀ (a1 : Int32) (σ : um_S) (r : Bool) (σ' : um_S), P a1 σ = some (r, σ') → um_M l yX9_comes cX9_comes 4 (some FieldType.boolean) FP LP Z msh α σ [.ref (α 0), .int a1] (some (.int (um_b r))) σ')  (v1 : Int32)  (Cx : um_C p s m meth c args cX9_comes 4 (some FieldType.boolean) RX9 Z) (hR : ∀ a, out = .inl a → some a = some (r, σ')) (hE : ∀ (σo : um_S), out = .inr σo → ∀ (H : Heap) (locs : List Loc) (ls : Array Slot), um_W Z msh α σo H → va_S (um_D msh α) s.heap H locs → lv_has ls 4 [] → um_G p l e (FP + 4) (LP + 85) s m args below meth c Z msh α σ' (some (.int (um_b r))) H locs (F0 m 149 ls [])) : ∀ (n : Nat) (v2 : Int32) (σ : um_S) (H : Heap) (locs : List Loc) (ls : Array Slot), f_X9_comes_l2 P v1 n v2 σ = some out → um_W Z msh α σ H → va_S (um_D msh α) s.heap H locs → lv_has ls 4 [(0, .ref (α 0)), (1, .int v1), (2, .int v2)] → um_G p l e (FP + 4) (LP + 85) s m args below meth c Z msh α σ' (some (.int (um_b r))) H locs (F0 m 2 ls []) := by
  have hx := Cx.1
  have hb := Cx.2.1
  have hown := Cx.2.2.2.2.1
  have hts := Cx.2.2.2.2.2.1
  intro n
  induction n with
  | zero =>
    intro v2 σ H locs ls hf hW hS hl
    cases hf
  | succ n ih =>
    intro v2 σ H locs ls hf hW hS hl
    rw [f_X9_comes_l2] at hf
    refine lv_iload_n (pc := 2) hx hb dX9_comes_2 rfl (lv_at hl 2 rfl) ?_
    refine lv_aload_n (pc := 3) hx hb dX9_comes_3 rfl (lv_at hl 0 rfl) ?_
    refine gF_X9_7 (pc := 4) Cx hW ms_0 rfl dX9_comes_4 ?_
    refine lv_iconst (pc := 7) (v := (3 : Int32)) hx hb dX9_comes_7 (by decide) ?_
    refine um_iaj (pc := 8) (n := 3790) 3 rfl Cx hW ms_1 rfl (um_ix_in (by decide)) dX9_comes_8 ?_
    refine lv_icmp_ge (pc := 9) (tgt := 149) hx hb dX9_comes_9 (by decide) (fun c1 => ?_) (fun c1 => ?_)
    · have hf := um_it c1 hf
      clear c1
      exact hE _ (Option.some.inj hf).symm _ _ _ hW hS (lv_sub hl [] rfl)
    · have hf := um_ie c1 hf
      clear c1
      refine lv_aload_n (pc := 12) hx hb dX9_comes_12 rfl (lv_at hl 0 rfl) ?_
      refine gF_X9_47 (pc := 13) Cx hW ms_0 rfl dX9_comes_13 ?_
      refine lv_iload_n (pc := 16) hx hb dX9_comes_16 rfl (lv_at hl 2 rfl) ?_
      obtain ⟨g1, hf⟩ := um_gu hf
      refine um_zald (pc := 17) Cx hW ms_13 rfl (um_ix_in g1) dX9_comes_17 ?_
      refine lv_if_ne (pc := 18) (tgt := 143) hx hb dX9_comes_18 (by decide) (fun c1 => ?_) (fun c1 => ?_)
      · have hf := um_ie c1 hf
        clear c1
        refine lv_iinc (pc := 143) (v := v2 + (1 : Int32)) (lv' := [(2, .int (v2 + (1 : Int32))), (0, .ref (α 0)), (1, .int v1)]) hx hb dX9_comes_143 hl (k := 2) rfl rfl (by decide) rfl ?_
        clear hl
        intro ls hl
        refine lv_goto (pc := 146) (tgt := 2) hx hb dX9_comes_146 (by decide) ?_
        exact ih _ _ _ _ _ hf hW hS (lv_sub hl [1, 2, 0] rfl)
      · have hf := um_it c1 hf
        clear c1
        refine lv_aload_n (pc := 21) hx hb dX9_comes_21 rfl (lv_at hl 0 rfl) ?_
        refine lv_iload_n (pc := 22) hx hb dX9_comes_22 rfl (lv_at hl 1 rfl) ?_
        refine lv_iload_n (pc := 23) hx hb dX9_comes_23 rfl (lv_at hl 2 rfl) ?_
        obtain ⟨x3, hc2, hf⟩ := um_bi hf
        refine um_cVi (pc := 24) (As := [.int v1, .int v2]) (rest := []) Cx (c_X9_canGo v1 v2 hc2) kV_X9_canGo (Or.inl qM_X9_338) hW hS ms_0 rfl rfl hl rfl (Nat.le_of_ble_eq_true rfl) (by dsimp only; omega) (by dsimp only; omega) dX9_comes_24 (Nat.le_refl _) (Nat.le_refl _) ?_
        clear hW hS hc2
        intro H locs hW hS
        refine lv_if_ne (pc := 27) (tgt := 33) hx hb dX9_comes_27 (by decide) (fun c1 => ?_) (fun c1 => ?_)
        · have hf := um_ie c1 hf
          clear c1
          refine lv_aload_n (pc := 33) hx hb dX9_comes_33 rfl (lv_at hl 0 rfl) ?_
          refine gF_X9_47 (pc := 34) Cx hW ms_0 rfl dX9_comes_34 ?_
          refine lv_iload_n (pc := 37) hx hb dX9_comes_37 rfl (lv_at hl 2 rfl) ?_
          refine lv_iconst (pc := 38) (v := (1 : Int32)) hx hb dX9_comes_38 (by decide) ?_
          obtain ⟨g4, hf⟩ := um_gu hf
          refine um_zast (pc := 39) Cx hW hS ms_13 rfl (um_ix_in g4) dX9_comes_39 ?_
          clear hW hS
          intro H locs hW hS
          obtain ⟨σ5, e6, hf⟩ := um_le hf
          rw [← e6] at hW
          clear e6
          refine lv_aload_n (pc := 40) hx hb dX9_comes_40 rfl (lv_at hl 0 rfl) ?_
          refine lv_iload_n (pc := 41) hx hb dX9_comes_41 rfl (lv_at hl 2 rfl) ?_
          obtain ⟨x8, hc7, hf⟩ := um_bi hf
          refine um_cVi (pc := 42) (As := [.int v2]) (rest := []) Cx (c_X9_goingTo v2 hc7) kV_X9_goingTo (Or.inl qM_X9_341) hW hS ms_0 rfl rfl hl rfl (Nat.le_of_ble_eq_true rfl) (by dsimp only; omega) (by dsimp only; omega) dX9_comes_42 (Nat.le_refl _) (Nat.le_refl _) ?_
          clear hW hS hc7
          intro H locs hW hS
          refine lv_aload_n (pc := 45) hx hb dX9_comes_45 rfl (lv_at hl 0 rfl) ?_
          refine gF_X9_7 (pc := 46) Cx hW ms_0 rfl dX9_comes_46 ?_
          refine lv_aload_n (pc := 49) hx hb dX9_comes_49 rfl (lv_at hl 0 rfl) ?_
          refine lv_iload_n (pc := 50) hx hb dX9_comes_50 rfl (lv_at hl 2 rfl) ?_
          obtain ⟨x10, hc9, hf⟩ := um_bi hf
          refine um_cVi (pc := 51) (As := [.int v2]) (rest := [.ref (α 1), .int x8]) Cx (c_X9_masterAt v2 hc9) kV_X9_masterAt (Or.inl qM_X9_129) hW hS ms_0 rfl rfl hl rfl (Nat.le_of_ble_eq_true rfl) (by dsimp only; omega) (by dsimp only; omega) dX9_comes_51 (Nat.le_refl _) (Nat.le_refl _) ?_
          clear hW hS hc9
          intro H locs hW hS
          refine lv_iconst (pc := 54) (v := (2 : Int32)) hx hb dX9_comes_54 (by decide) ?_
          refine lv_iadd (pc := 55) hx hb dX9_comes_55 ?_
          obtain ⟨g11, hf⟩ := um_gu hf
          refine um_iald (pc := 56) Cx hW ms_1 rfl (um_ix_in g11) dX9_comes_56 ?_
          refine lv_aload_n (pc := 57) hx hb dX9_comes_57 rfl (lv_at hl 0 rfl) ?_
          refine lv_iload_n (pc := 58) hx hb dX9_comes_58 rfl (lv_at hl 2 rfl) ?_
          obtain ⟨x13, hc12, hf⟩ := um_bi hf
          refine um_cVi (pc := 59) (As := [.int v2]) (rest := [.int (σ5.1 1 (x10 + (2 : Int32)).toNatClampNeg), .int x8]) Cx (c_X9_assignedTo v2 hc12) kV_X9_assignedTo (Or.inl qM_X9_135) hW hS ms_0 rfl rfl hl rfl (Nat.le_of_ble_eq_true rfl) (by dsimp only; omega) (by dsimp only; omega) dX9_comes_59 (Nat.le_refl _) (Nat.le_refl _) ?_
          clear hW hS hc12
          intro H locs hW hS
          refine lv_isub (pc := 62) hx hb dX9_comes_62 ?_
          refine lv_icmp_ge (pc := 63) (tgt := 75) hx hb dX9_comes_63 (by decide) (fun c1 => ?_) (fun c1 => ?_)
          · have hf := um_it c1 hf
            clear c1
            refine lv_iconst (pc := 75) (v := (0 : Int32)) hx hb dX9_comes_75 (by decide) ?_
            refine lv_istore_n (pc := 76) (lv' := [(3, .int (0 : Int32)), (0, .ref (α 0)), (1, .int v1), (2, .int v2)]) hx hb dX9_comes_76 rfl hl (by decide) rfl ?_
            clear hl
            intro ls hl
            obtain ⟨q16, hc15, hr17, hg18⟩ := um_ti1 hf
            refine t_X9_comes_l77 hP v1 v2 Cx (fun a h => hR a (hr17 a h)) ?_ um_N _ _ _ _ _ hc15 hW hS (lv_sub hl [1, 2, 3, 0] rfl)
            clear hW hS hl hc15
            intro σ14 hq19 H locs ls hW hS hl
            have hf := hg18 _ hq19
            refine lv_iinc (pc := 143) (v := v2 + (1 : Int32)) (lv' := [(2, .int (v2 + (1 : Int32))), (0, .ref (α 0)), (1, .int v1)]) hx hb dX9_comes_143 hl (k := 2) rfl rfl (by decide) rfl ?_
            clear hl
            intro ls hl
            refine lv_goto (pc := 146) (tgt := 2) hx hb dX9_comes_146 (by decide) ?_
            exact ih _ _ _ _ _ hf hW hS (lv_sub hl [1, 2, 0] rfl)
          · have hf := um_ie c1 hf
            clear c1
            refine lv_aload_n (pc := 66) hx hb dX9_comes_66 rfl (lv_at hl 0 rfl) ?_
            refine gF_X9_40 (pc := 67) Cx hW ms_0 rfl dX9_comes_67 ?_
            refine lv_iload_n (pc := 70) hx hb dX9_comes_70 rfl (lv_at hl 1 rfl) ?_
            refine lv_iload_n (pc := 71) hx hb dX9_comes_71 rfl (lv_at hl 2 rfl) ?_
            obtain ⟨g20, hf⟩ := um_gu hf
            refine um_iast (pc := 72) Cx hW hS ms_11 rfl (um_ix_in g20) dX9_comes_72 ?_
            clear hW hS
            intro H locs hW hS
            obtain ⟨σ21, e22, hf⟩ := um_le hf
            rw [← e22] at hW
            clear e22
            refine lv_iconst (pc := 73) (v := (1 : Int32)) hx hb dX9_comes_73 (by decide) ?_
            exact um_zret (pc := 74) Cx hW hS (hR _ (Option.some.inj hf).symm) rfl dX9_comes_74
        · have hf := um_it c1 hf
          clear c1
          refine lv_goto (pc := 30) (tgt := 143) hx hb dX9_comes_30 (by decide) ?_
          refine lv_iinc (pc := 143) (v := v2 + (1 : Int32)) (lv' := [(2, .int (v2 + (1 : Int32))), (0, .ref (α 0)), (1, .int v1)]) hx hb dX9_comes_143 hl (k := 2) rfl rfl (by decide) rfl ?_
          clear hl
          intro ls hl
          refine lv_goto (pc := 146) (tgt := 2) hx hb dX9_comes_146 (by decide) ?_
          exact ih _ _ _ _ _ hf hW hS (lv_sub hl [1, 2, 0] rfl)
set_option maxRecDepth 100000 in
set_option maxHeartbeats 4000000 in
theorem b_X9_comes {H : Heap} {locs : List Loc} {ls : Array Slot} {σ : um_S} {σ' : um_S} {r : Bool} {P : Int32 → um_S → Option (Bool × um_S)} {FP LP : Nat} (hP : ∀ (a1 : Int32) (σ : um_S) (r : Bool) (σ' : um_S), P a1 σ = some (r, σ') → um_M l yX9_comes cX9_comes 4 (some FieldType.boolean) FP LP Z msh α σ [.ref (α 0), .int a1] (some (.int (um_b r))) σ') (a1 : Int32)  (hf : fk_X9_comes P a1 σ = some (r, σ')) (Cx : um_C p s m meth c args cX9_comes 4 (some FieldType.boolean) RX9 Z) (hW : um_W Z msh α σ H) (hS : va_S (um_D msh α) s.heap H locs) (hl : lv_has ls 4 [(0, .ref (α 0)), (1, .int a1)]) : um_G p l e (FP + 4) (LP + 85) s m args below meth c Z msh α σ' (some (.int (um_b r))) H locs (F0 m 0 ls []) := by
  have hx := Cx.1
  have hb := Cx.2.1
  have hown := Cx.2.2.2.2.1
  have hts := Cx.2.2.2.2.2.1
  rw [fk_X9_comes] at hf
  refine lv_iconst (pc := 0) (v := (0 : Int32)) hx hb dX9_comes_0 (by decide) ?_
  refine lv_istore_n (pc := 1) (lv' := [(2, .int (0 : Int32)), (0, .ref (α 0)), (1, .int a1)]) hx hb dX9_comes_1 rfl hl (by decide) rfl ?_
  clear hl
  intro ls hl
  obtain ⟨q3, hc2, hr4, hg5⟩ := um_si1 hf
  refine t_X9_comes_l2 hP a1 Cx hr4 ?_ um_N _ _ _ _ _ hc2 hW hS (lv_sub hl [1, 2, 0] rfl)
  clear hW hS hl hc2
  intro σ1 hq6 H locs ls hW hS hl
  have hf := hg5 _ hq6
  refine lv_iconst (pc := 149) (v := (0 : Int32)) hx hb dX9_comes_149 (by decide) ?_
  exact um_zret (pc := 150) Cx hW hS hf rfl dX9_comes_150
theorem c_X9_comes {σ : um_S} {σ' : um_S} {r : Bool} {P : Int32 → um_S → Option (Bool × um_S)} {FP LP : Nat} (hP : ∀ (a1 : Int32) (σ : um_S) (r : Bool) (σ' : um_S), P a1 σ = some (r, σ') → um_M l yX9_comes cX9_comes 4 (some FieldType.boolean) FP LP Z msh α σ [.ref (α 0), .int a1] (some (.int (um_b r))) σ') (a1 : Int32)  (hf : fk_X9_comes P a1 σ = some (r, σ')) : um_M l yX9_comes cX9_comes 4 (some FieldType.boolean) (FP + 4) (LP + 85) Z msh α σ [.ref (α 0), .int a1] (some (.int (um_b r))) σ' :=
  um_start (by decide) (Nat.le_of_ble_eq_true rfl) (fun p e s m below meth c ls Cx hW hS hl => b_X9_comes hP a1 hf Cx hW hS hl)
noncomputable def f_X9_comes : Nat → Int32 → um_S → Option (Bool × um_S)
  | 0, _, _ => none
  | d + 1, a, σ => fk_X9_comes (f_X9_comes d) a σ
theorem cd_X9_comes : ∀ (d : Nat) (a1 : Int32) (σ : um_S) (r : Bool) (σ' : um_S), f_X9_comes d a1 σ = some (r, σ') → um_M l yX9_comes cX9_comes 4 (some FieldType.boolean) (4 * d) (85 * d) Z msh α σ [.ref (α 0), .int a1] (some (.int (um_b r))) σ'
  | 0, a1, σ, r, σ', h => by cases h
  | d + 1, a1, σ, r, σ', h => by
    have h1 := c_X9_comes (fun a σ r σ' h => cd_X9_comes d a σ r σ' h) a1 h
    exact h1
noncomputable def f_X9_fill_l4 (v1 : Int32) : Nat → Int32 → um_S → Option (um_S)
  | 0, _, _ => none
  | n + 1, v2, σ =>
    if (σ.1 1 2) ≤ v2 then
    (some σ)
    else
    (if um_ix v2 14 then
    (if (σ.1 12 v2.toNatClampNeg) = 0 then
    (if um_ix v2 14 then
    (um_let (um_wr σ 11 v2.toNatClampNeg (-1 : Int32)) fun σ3 =>
    (f_X9_fill_l4 v1 n (v2 + (1 : Int32)) σ3)) else none)
    else
    (if um_ix v2 14 then
    (if um_ix v2 14 then
    (um_let (um_wr σ 11 v2.toNatClampNeg (σ.1 11 v2.toNatClampNeg)) fun σ7 =>
    (f_X9_fill_l4 v1 n (v2 + (1 : Int32)) σ7)) else none) else none)) else none)
noncomputable def f_X9_fill_l68 (v1 : Int32) (v2 : Int32) : Nat → Int32 → um_S → Option (um_S)
  | 0, _, _ => none
  | n + 1, v3, σ =>
    if (6 : Int32) ≤ v3 then
    (some σ)
    else
    (if um_ix v3 6 then
    (um_let (um_wr σ 13 v3.toNatClampNeg ((0 : Int32) &&& 1)) fun σ2 =>
    (f_X9_fill_l68 v1 v2 n (v3 + (1 : Int32)) σ2)) else none)
noncomputable def f_X9_fill_l47 (v1 : Int32) : Nat → Int32 → um_S → Option (um_S)
  | 0, _, _ => none
  | n + 1, v2, σ =>
    if (σ.1 1 2) ≤ v2 then
    (some σ)
    else
    (if um_ix v2 14 then
    (if (σ.1 12 v2.toNatClampNeg) = 0 then
    ((f_X9_fill_l68 v1 v2 um_N (0 : Int32) σ).bind fun σ2 =>
    (um_b2 (f_X9_comes 8 v2 σ2) fun x6 σ5 =>
    (um_let (um_b x6) fun x7 =>
    (f_X9_fill_l47 v1 n (v2 + (1 : Int32)) σ5))))
    else
    (f_X9_fill_l47 v1 n (v2 + (1 : Int32)) σ)) else none)
noncomputable def f_X9_fill_l101 (σ : um_S) : Nat → Int32 → Int32 → Option (Int32)
  | 0, _, _ => none
  | n + 1, v1, v2 =>
    if (σ.1 1 2) ≤ v2 then
    (some v1)
    else
    (if um_ix v2 14 then
    (if (σ.1 11 v2.toNatClampNeg) < 0 then
    (um_let (v1 + (0 : Int32)) fun x2 =>
    (f_X9_fill_l101 σ n x2 (v2 + (1 : Int32))))
    else
    (um_let (v1 + (1 : Int32)) fun x4 =>
    (f_X9_fill_l101 σ n x4 (v2 + (1 : Int32))))) else none)
noncomputable def f_X9_fill  (σ : um_S) : Option (Int32 × um_S) :=
    (f_X9_fill_l4 (0 : Int32) um_N (0 : Int32) σ).bind fun σ1 =>
    ((f_X9_fill_l47 (0 : Int32) um_N (0 : Int32) σ1).bind fun σ3 =>
    ((f_X9_fill_l101 σ3 um_N (0 : Int32) (0 : Int32)).bind fun x5 =>
    (some (x5, σ3))))
set_option maxRecDepth 100000 in
set_option maxHeartbeats 4000000 in
theorem t_X9_fill_l4 {Q : State → Prop} {σo : um_S} (v1 : Int32)  (Cx : um_C p s m meth c args cX9_fill 4 (some FieldType.int) RX9 Z) (hE : ∀ (H : Heap) (locs : List Loc) (ls : Array Slot), um_W Z msh α σo H → va_S (um_D msh α) s.heap H locs → lv_has ls 4 [(0, .ref (α 0)), (1, .int v1)] → W p l e { frames := 33, cells := 0, slots := 0, locals := 703 } s m args below meth c H locs 0 0 Q (F0 m 45 ls [])) : ∀ (n : Nat) (v2 : Int32) (σ : um_S) (H : Heap) (locs : List Loc) (ls : Array Slot), f_X9_fill_l4 v1 n v2 σ = some σo → um_W Z msh α σ H → va_S (um_D msh α) s.heap H locs → lv_has ls 4 [(0, .ref (α 0)), (1, .int v1), (2, .int v2)] → W p l e { frames := 33, cells := 0, slots := 0, locals := 703 } s m args below meth c H locs 0 0 Q (F0 m 4 ls []) := by
  have hx := Cx.1
  have hb := Cx.2.1
  have hown := Cx.2.2.2.2.1
  have hts := Cx.2.2.2.2.2.1
  intro n
  induction n with
  | zero =>
    intro v2 σ H locs ls hf hW hS hl
    cases hf
  | succ n ih =>
    intro v2 σ H locs ls hf hW hS hl
    rw [f_X9_fill_l4] at hf
    refine lv_iload_n (pc := 4) hx hb dX9_fill_4 rfl (lv_at hl 2 rfl) ?_
    refine lv_aload_n (pc := 5) hx hb dX9_fill_5 rfl (lv_at hl 0 rfl) ?_
    refine gF_X9_7 (pc := 6) Cx hW ms_0 rfl dX9_fill_6 ?_
    refine lv_iconst (pc := 9) (v := (2 : Int32)) hx hb dX9_fill_9 (by decide) ?_
    refine um_iaj (pc := 10) (n := 3790) 2 rfl Cx hW ms_1 rfl (um_ix_in (by decide)) dX9_fill_10 ?_
    refine lv_icmp_ge (pc := 11) (tgt := 45) hx hb dX9_fill_11 (by decide) (fun c1 => ?_) (fun c1 => ?_)
    · have hf := um_it c1 hf
      clear c1
      cases hf
      exact hE _ _ _ hW hS (lv_sub hl [0, 1] rfl)
    · have hf := um_ie c1 hf
      clear c1
      refine lv_aload_n (pc := 14) hx hb dX9_fill_14 rfl (lv_at hl 0 rfl) ?_
      refine gF_X9_40 (pc := 15) Cx hW ms_0 rfl dX9_fill_15 ?_
      refine lv_iload_n (pc := 18) hx hb dX9_fill_18 rfl (lv_at hl 2 rfl) ?_
      refine lv_aload_n (pc := 19) hx hb dX9_fill_19 rfl (lv_at hl 0 rfl) ?_
      refine gF_X9_43 (pc := 20) Cx hW ms_0 rfl dX9_fill_20 ?_
      refine lv_iload_n (pc := 23) hx hb dX9_fill_23 rfl (lv_at hl 2 rfl) ?_
      obtain ⟨g1, hf⟩ := um_gu hf
      refine um_zald (pc := 24) Cx hW ms_12 rfl (um_ix_in g1) dX9_fill_24 ?_
      refine lv_if_eq (pc := 25) (tgt := 37) hx hb dX9_fill_25 (by decide) (fun c1 => ?_) (fun c1 => ?_)
      · have hf := um_it c1 hf
        clear c1
        refine lv_iconst (pc := 37) (v := (-1 : Int32)) hx hb dX9_fill_37 (by decide) ?_
        obtain ⟨g2, hf⟩ := um_gu hf
        refine um_iast (pc := 38) Cx hW hS ms_11 rfl (um_ix_in g2) dX9_fill_38 ?_
        clear hW hS
        intro H locs hW hS
        obtain ⟨σ3, e4, hf⟩ := um_le hf
        rw [← e4] at hW
        clear e4
        refine lv_iinc (pc := 39) (v := v2 + (1 : Int32)) (lv' := [(2, .int (v2 + (1 : Int32))), (0, .ref (α 0)), (1, .int v1)]) hx hb dX9_fill_39 hl (k := 2) rfl rfl (by decide) rfl ?_
        clear hl
        intro ls hl
        refine lv_goto (pc := 42) (tgt := 4) hx hb dX9_fill_42 (by decide) ?_
        exact ih _ _ _ _ _ hf hW hS (lv_sub hl [1, 2, 0] rfl)
      · have hf := um_ie c1 hf
        clear c1
        refine lv_aload_n (pc := 28) hx hb dX9_fill_28 rfl (lv_at hl 0 rfl) ?_
        refine gF_X9_40 (pc := 29) Cx hW ms_0 rfl dX9_fill_29 ?_
        refine lv_iload_n (pc := 32) hx hb dX9_fill_32 rfl (lv_at hl 2 rfl) ?_
        obtain ⟨g5, hf⟩ := um_gu hf
        refine um_iald (pc := 33) Cx hW ms_11 rfl (um_ix_in g5) dX9_fill_33 ?_
        refine lv_goto (pc := 34) (tgt := 38) hx hb dX9_fill_34 (by decide) ?_
        obtain ⟨g6, hf⟩ := um_gu hf
        refine um_iast (pc := 38) Cx hW hS ms_11 rfl (um_ix_in g6) dX9_fill_38 ?_
        clear hW hS
        intro H locs hW hS
        obtain ⟨σ7, e8, hf⟩ := um_le hf
        rw [← e8] at hW
        clear e8
        refine lv_iinc (pc := 39) (v := v2 + (1 : Int32)) (lv' := [(2, .int (v2 + (1 : Int32))), (0, .ref (α 0)), (1, .int v1)]) hx hb dX9_fill_39 hl (k := 2) rfl rfl (by decide) rfl ?_
        clear hl
        intro ls hl
        refine lv_goto (pc := 42) (tgt := 4) hx hb dX9_fill_42 (by decide) ?_
        exact ih _ _ _ _ _ hf hW hS (lv_sub hl [1, 2, 0] rfl)
set_option maxRecDepth 100000 in
set_option maxHeartbeats 4000000 in
theorem t_X9_fill_l68 {Q : State → Prop} {σo : um_S} (v1 : Int32) (v2 : Int32)  (Cx : um_C p s m meth c args cX9_fill 4 (some FieldType.int) RX9 Z) (hE : ∀ (H : Heap) (locs : List Loc) (ls : Array Slot), um_W Z msh α σo H → va_S (um_D msh α) s.heap H locs → lv_has ls 4 [(0, .ref (α 0)), (1, .int v1), (2, .int v2)] → W p l e { frames := 33, cells := 0, slots := 0, locals := 703 } s m args below meth c H locs 0 0 Q (F0 m 87 ls [])) : ∀ (n : Nat) (v3 : Int32) (σ : um_S) (H : Heap) (locs : List Loc) (ls : Array Slot), f_X9_fill_l68 v1 v2 n v3 σ = some σo → um_W Z msh α σ H → va_S (um_D msh α) s.heap H locs → lv_has ls 4 [(0, .ref (α 0)), (1, .int v1), (2, .int v2), (3, .int v3)] → W p l e { frames := 33, cells := 0, slots := 0, locals := 703 } s m args below meth c H locs 0 0 Q (F0 m 68 ls []) := by
  have hx := Cx.1
  have hb := Cx.2.1
  have hown := Cx.2.2.2.2.1
  have hts := Cx.2.2.2.2.2.1
  intro n
  induction n with
  | zero =>
    intro v3 σ H locs ls hf hW hS hl
    cases hf
  | succ n ih =>
    intro v3 σ H locs ls hf hW hS hl
    rw [f_X9_fill_l68] at hf
    refine lv_iload_n (pc := 68) hx hb dX9_fill_68 rfl (lv_at hl 3 rfl) ?_
    refine lv_bipush (pc := 69) (v := (6 : Int32)) hx hb dX9_fill_69 (by decide) ?_
    refine lv_icmp_ge (pc := 71) (tgt := 87) hx hb dX9_fill_71 (by decide) (fun c1 => ?_) (fun c1 => ?_)
    · have hf := um_it c1 hf
      clear c1
      cases hf
      exact hE _ _ _ hW hS (lv_sub hl [0, 1, 2] rfl)
    · have hf := um_ie c1 hf
      clear c1
      refine lv_aload_n (pc := 74) hx hb dX9_fill_74 rfl (lv_at hl 0 rfl) ?_
      refine gF_X9_47 (pc := 75) Cx hW ms_0 rfl dX9_fill_75 ?_
      refine lv_iload_n (pc := 78) hx hb dX9_fill_78 rfl (lv_at hl 3 rfl) ?_
      refine lv_iconst (pc := 79) (v := (0 : Int32)) hx hb dX9_fill_79 (by decide) ?_
      obtain ⟨g1, hf⟩ := um_gu hf
      refine um_zast (pc := 80) Cx hW hS ms_13 rfl (um_ix_in g1) dX9_fill_80 ?_
      clear hW hS
      intro H locs hW hS
      obtain ⟨σ2, e3, hf⟩ := um_le hf
      rw [← e3] at hW
      clear e3
      refine lv_iinc (pc := 81) (v := v3 + (1 : Int32)) (lv' := [(3, .int (v3 + (1 : Int32))), (0, .ref (α 0)), (1, .int v1), (2, .int v2)]) hx hb dX9_fill_81 hl (k := 3) rfl rfl (by decide) rfl ?_
      clear hl
      intro ls hl
      refine lv_goto (pc := 84) (tgt := 68) hx hb dX9_fill_84 (by decide) ?_
      exact ih _ _ _ _ _ hf hW hS (lv_sub hl [1, 2, 3, 0] rfl)
set_option maxRecDepth 100000 in
set_option maxHeartbeats 4000000 in
theorem t_X9_fill_l47 {Q : State → Prop} {σo : um_S} (v1 : Int32)  (Cx : um_C p s m meth c args cX9_fill 4 (some FieldType.int) RX9 Z) (hE : ∀ (H : Heap) (locs : List Loc) (ls : Array Slot), um_W Z msh α σo H → va_S (um_D msh α) s.heap H locs → lv_has ls 4 [(0, .ref (α 0)), (1, .int v1)] → W p l e { frames := 33, cells := 0, slots := 0, locals := 703 } s m args below meth c H locs 0 0 Q (F0 m 99 ls [])) : ∀ (n : Nat) (v2 : Int32) (σ : um_S) (H : Heap) (locs : List Loc) (ls : Array Slot), f_X9_fill_l47 v1 n v2 σ = some σo → um_W Z msh α σ H → va_S (um_D msh α) s.heap H locs → lv_has ls 4 [(0, .ref (α 0)), (1, .int v1), (2, .int v2)] → W p l e { frames := 33, cells := 0, slots := 0, locals := 703 } s m args below meth c H locs 0 0 Q (F0 m 47 ls []) := by
  have hx := Cx.1
  have hb := Cx.2.1
  have hown := Cx.2.2.2.2.1
  have hts := Cx.2.2.2.2.2.1
  intro n
  induction n with
  | zero =>
    intro v2 σ H locs ls hf hW hS hl
    cases hf
  | succ n ih =>
    intro v2 σ H locs ls hf hW hS hl
    rw [f_X9_fill_l47] at hf
    refine lv_iload_n (pc := 47) hx hb dX9_fill_47 rfl (lv_at hl 2 rfl) ?_
    refine lv_aload_n (pc := 48) hx hb dX9_fill_48 rfl (lv_at hl 0 rfl) ?_
    refine gF_X9_7 (pc := 49) Cx hW ms_0 rfl dX9_fill_49 ?_
    refine lv_iconst (pc := 52) (v := (2 : Int32)) hx hb dX9_fill_52 (by decide) ?_
    refine um_iaj (pc := 53) (n := 3790) 2 rfl Cx hW ms_1 rfl (um_ix_in (by decide)) dX9_fill_53 ?_
    refine lv_icmp_ge (pc := 54) (tgt := 99) hx hb dX9_fill_54 (by decide) (fun c1 => ?_) (fun c1 => ?_)
    · have hf := um_it c1 hf
      clear c1
      cases hf
      exact hE _ _ _ hW hS (lv_sub hl [0, 1] rfl)
    · have hf := um_ie c1 hf
      clear c1
      refine lv_aload_n (pc := 57) hx hb dX9_fill_57 rfl (lv_at hl 0 rfl) ?_
      refine gF_X9_43 (pc := 58) Cx hW ms_0 rfl dX9_fill_58 ?_
      refine lv_iload_n (pc := 61) hx hb dX9_fill_61 rfl (lv_at hl 2 rfl) ?_
      obtain ⟨g1, hf⟩ := um_gu hf
      refine um_zald (pc := 62) Cx hW ms_12 rfl (um_ix_in g1) dX9_fill_62 ?_
      refine lv_if_ne (pc := 63) (tgt := 93) hx hb dX9_fill_63 (by decide) (fun c1 => ?_) (fun c1 => ?_)
      · have hf := um_ie c1 hf
        clear c1
        refine lv_iinc (pc := 93) (v := v2 + (1 : Int32)) (lv' := [(2, .int (v2 + (1 : Int32))), (0, .ref (α 0)), (1, .int v1)]) hx hb dX9_fill_93 hl (k := 2) rfl rfl (by decide) rfl ?_
        clear hl
        intro ls hl
        refine lv_goto (pc := 96) (tgt := 47) hx hb dX9_fill_96 (by decide) ?_
        exact ih _ _ _ _ _ hf hW hS (lv_sub hl [1, 2, 0] rfl)
      · have hf := um_it c1 hf
        clear c1
        refine lv_iconst (pc := 66) (v := (0 : Int32)) hx hb dX9_fill_66 (by decide) ?_
        refine lv_istore_n (pc := 67) (lv' := [(3, .int (0 : Int32)), (0, .ref (α 0)), (1, .int v1), (2, .int v2)]) hx hb dX9_fill_67 rfl hl (by decide) rfl ?_
        clear hl
        intro ls hl
        obtain ⟨σ2, hc3, hf⟩ := um_bi hf
        refine t_X9_fill_l68 v1 v2 Cx ?_ um_N _ _ _ _ _ hc3 hW hS (lv_sub hl [1, 2, 3, 0] rfl)
        clear hW hS hl hc3
        intro H locs ls hW hS hl
        refine lv_aload_n (pc := 87) hx hb dX9_fill_87 rfl (lv_at hl 0 rfl) ?_
        refine lv_iload_n (pc := 88) hx hb dX9_fill_88 rfl (lv_at hl 2 rfl) ?_
        obtain ⟨x6, σ5, hc4, hf⟩ := um_bi2 hf
        refine um_cVi (pc := 89) (As := [.int v2]) (rest := []) Cx ((fun a1 {σ} {r} {σ'} h => cd_X9_comes 8 a1 σ r σ' h) v2 hc4) kV_X9_comes (Or.inl qM_X9_344) hW hS ms_0 rfl rfl hl rfl (Nat.le_of_ble_eq_true rfl) (Nat.le_of_ble_eq_true rfl) (Nat.le_of_ble_eq_true rfl) dX9_fill_89 (Nat.le_refl _) (Nat.le_refl _) ?_
        clear hW hS hc4
        intro H locs hW hS
        obtain ⟨x7, e8, hf⟩ := um_le hf
        refine um_top e8 ?_
        clear e8
        refine lv_istore_n (pc := 92) (lv' := [(3, .int x7), (0, .ref (α 0)), (1, .int v1), (2, .int v2)]) hx hb dX9_fill_92 rfl hl (by decide) rfl ?_
        clear hl
        intro ls hl
        refine lv_iinc (pc := 93) (v := v2 + (1 : Int32)) (lv' := [(2, .int (v2 + (1 : Int32))), (3, .int x7), (0, .ref (α 0)), (1, .int v1)]) hx hb dX9_fill_93 hl (k := 3) rfl rfl (by decide) rfl ?_
        clear hl
        intro ls hl
        refine lv_goto (pc := 96) (tgt := 47) hx hb dX9_fill_96 (by decide) ?_
        exact ih _ _ _ _ _ hf hW hS (lv_sub hl [2, 3, 0] rfl)
set_option maxRecDepth 100000 in
set_option maxHeartbeats 4000000 in
theorem t_X9_fill_l101 {Q : State → Prop} {o1 : Int32} {σ : um_S}   (Cx : um_C p s m meth c args cX9_fill 4 (some FieldType.int) RX9 Z) (hE : ∀ (H : Heap) (locs : List Loc) (ls : Array Slot), um_W Z msh α σ H → va_S (um_D msh α) s.heap H locs → lv_has ls 4 [(1, .int o1)] → W p l e { frames := 33, cells := 0, slots := 0, locals := 703 } s m args below meth c H locs 0 0 Q (F0 m 134 ls [])) : ∀ (n : Nat) (v1 : Int32) (v2 : Int32) (H : Heap) (locs : List Loc) (ls : Array Slot), f_X9_fill_l101 σ n v1 v2 = some o1 → um_W Z msh α σ H → va_S (um_D msh α) s.heap H locs → lv_has ls 4 [(0, .ref (α 0)), (1, .int v1), (2, .int v2)] → W p l e { frames := 33, cells := 0, slots := 0, locals := 703 } s m args below meth c H locs 0 0 Q (F0 m 101 ls []) := by
  have hx := Cx.1
  have hb := Cx.2.1
  have hown := Cx.2.2.2.2.1
  have hts := Cx.2.2.2.2.2.1
  intro n
  induction n with
  | zero =>
    intro v1 v2 H locs ls hf hW hS hl
    cases hf
  | succ n ih =>
    intro v1 v2 H locs ls hf hW hS hl
    rw [f_X9_fill_l101] at hf
    refine lv_iload_n (pc := 101) hx hb dX9_fill_101 rfl (lv_at hl 2 rfl) ?_
    refine lv_aload_n (pc := 102) hx hb dX9_fill_102 rfl (lv_at hl 0 rfl) ?_
    refine gF_X9_7 (pc := 103) Cx hW ms_0 rfl dX9_fill_103 ?_
    refine lv_iconst (pc := 106) (v := (2 : Int32)) hx hb dX9_fill_106 (by decide) ?_
    refine um_iaj (pc := 107) (n := 3790) 2 rfl Cx hW ms_1 rfl (um_ix_in (by decide)) dX9_fill_107 ?_
    refine lv_icmp_ge (pc := 108) (tgt := 134) hx hb dX9_fill_108 (by decide) (fun c1 => ?_) (fun c1 => ?_)
    · have hf := um_it c1 hf
      clear c1
      cases hf
      exact hE _ _ _ hW hS (lv_sub hl [1] rfl)
    · have hf := um_ie c1 hf
      clear c1
      refine lv_iload_n (pc := 111) hx hb dX9_fill_111 rfl (lv_at hl 1 rfl) ?_
      refine lv_aload_n (pc := 112) hx hb dX9_fill_112 rfl (lv_at hl 0 rfl) ?_
      refine gF_X9_40 (pc := 113) Cx hW ms_0 rfl dX9_fill_113 ?_
      refine lv_iload_n (pc := 116) hx hb dX9_fill_116 rfl (lv_at hl 2 rfl) ?_
      obtain ⟨g1, hf⟩ := um_gu hf
      refine um_iald (pc := 117) Cx hW ms_11 rfl (um_ix_in g1) dX9_fill_117 ?_
      refine lv_if_lt (pc := 118) (tgt := 125) hx hb dX9_fill_118 (by decide) (fun c1 => ?_) (fun c1 => ?_)
      · have hf := um_it c1 hf
        clear c1
        refine lv_iconst (pc := 125) (v := (0 : Int32)) hx hb dX9_fill_125 (by decide) ?_
        refine lv_iadd (pc := 126) hx hb dX9_fill_126 ?_
        obtain ⟨x2, e3, hf⟩ := um_le hf
        refine um_top e3 ?_
        clear e3
        refine lv_istore_n (pc := 127) (lv' := [(1, .int x2), (0, .ref (α 0)), (2, .int v2)]) hx hb dX9_fill_127 rfl hl (by decide) rfl ?_
        clear hl
        intro ls hl
        refine lv_iinc (pc := 128) (v := v2 + (1 : Int32)) (lv' := [(2, .int (v2 + (1 : Int32))), (1, .int x2), (0, .ref (α 0))]) hx hb dX9_fill_128 hl (k := 2) rfl rfl (by decide) rfl ?_
        clear hl
        intro ls hl
        refine lv_goto (pc := 131) (tgt := 101) hx hb dX9_fill_131 (by decide) ?_
        exact ih _ _ _ _ _ hf hW hS (lv_sub hl [2, 1, 0] rfl)
      · have hf := um_ie c1 hf
        clear c1
        refine lv_iconst (pc := 121) (v := (1 : Int32)) hx hb dX9_fill_121 (by decide) ?_
        refine lv_goto (pc := 122) (tgt := 126) hx hb dX9_fill_122 (by decide) ?_
        refine lv_iadd (pc := 126) hx hb dX9_fill_126 ?_
        obtain ⟨x4, e5, hf⟩ := um_le hf
        refine um_top e5 ?_
        clear e5
        refine lv_istore_n (pc := 127) (lv' := [(1, .int x4), (0, .ref (α 0)), (2, .int v2)]) hx hb dX9_fill_127 rfl hl (by decide) rfl ?_
        clear hl
        intro ls hl
        refine lv_iinc (pc := 128) (v := v2 + (1 : Int32)) (lv' := [(2, .int (v2 + (1 : Int32))), (1, .int x4), (0, .ref (α 0))]) hx hb dX9_fill_128 hl (k := 2) rfl rfl (by decide) rfl ?_
        clear hl
        intro ls hl
        refine lv_goto (pc := 131) (tgt := 101) hx hb dX9_fill_131 (by decide) ?_
        exact ih _ _ _ _ _ hf hW hS (lv_sub hl [2, 1, 0] rfl)
set_option maxRecDepth 100000 in
set_option maxHeartbeats 4000000 in
theorem b_X9_fill {H : Heap} {locs : List Loc} {ls : Array Slot} {σ : um_S} {σ' : um_S} {r : Int32}   (hf : f_X9_fill σ = some (r, σ')) (Cx : um_C p s m meth c args cX9_fill 4 (some FieldType.int) RX9 Z) (hW : um_W Z msh α σ H) (hS : va_S (um_D msh α) s.heap H locs) (hl : lv_has ls 4 [(0, .ref (α 0))]) : um_G p l e (33) (703) s m args below meth c Z msh α σ' (some (.int r)) H locs (F0 m 0 ls []) := by
  have hx := Cx.1
  have hb := Cx.2.1
  have hown := Cx.2.2.2.2.1
  have hts := Cx.2.2.2.2.2.1
  rw [f_X9_fill] at hf
  refine lv_iconst (pc := 0) (v := (0 : Int32)) hx hb dX9_fill_0 (by decide) ?_
  refine lv_istore_n (pc := 1) (lv' := [(1, .int (0 : Int32)), (0, .ref (α 0))]) hx hb dX9_fill_1 rfl hl (by decide) rfl ?_
  clear hl
  intro ls hl
  refine lv_iconst (pc := 2) (v := (0 : Int32)) hx hb dX9_fill_2 (by decide) ?_
  refine lv_istore_n (pc := 3) (lv' := [(2, .int (0 : Int32)), (1, .int (0 : Int32)), (0, .ref (α 0))]) hx hb dX9_fill_3 rfl hl (by decide) rfl ?_
  clear hl
  intro ls hl
  obtain ⟨σ1, hc2, hf⟩ := um_bi hf
  refine t_X9_fill_l4 (0 : Int32) Cx ?_ um_N _ _ _ _ _ hc2 hW hS (lv_sub hl [2, 1, 0] rfl)
  clear hW hS hl hc2
  intro H locs ls hW hS hl
  refine lv_iconst (pc := 45) (v := (0 : Int32)) hx hb dX9_fill_45 (by decide) ?_
  refine lv_istore_n (pc := 46) (lv' := [(2, .int (0 : Int32)), (0, .ref (α 0)), (1, .int (0 : Int32))]) hx hb dX9_fill_46 rfl hl (by decide) rfl ?_
  clear hl
  intro ls hl
  obtain ⟨σ3, hc4, hf⟩ := um_bi hf
  refine t_X9_fill_l47 (0 : Int32) Cx ?_ um_N _ _ _ _ _ hc4 hW hS (lv_sub hl [1, 2, 0] rfl)
  clear hW hS hl hc4
  intro H locs ls hW hS hl
  refine lv_iconst (pc := 99) (v := (0 : Int32)) hx hb dX9_fill_99 (by decide) ?_
  refine lv_istore_n (pc := 100) (lv' := [(2, .int (0 : Int32)), (0, .ref (α 0)), (1, .int (0 : Int32))]) hx hb dX9_fill_100 rfl hl (by decide) rfl ?_
  clear hl
  intro ls hl
  obtain ⟨x5, hc6, hf⟩ := um_bi hf
  refine t_X9_fill_l101  Cx ?_ um_N _ _ _ _ _ hc6 hW hS (lv_sub hl [1, 2, 0] rfl)
  clear hW hS hl hc6
  intro H locs ls hW hS hl
  refine lv_iload_n (pc := 134) hx hb dX9_fill_134 rfl (lv_at hl 0 rfl) ?_
  exact um_iret (pc := 135) Cx hW hS hf dX9_fill_135
theorem c_X9_fill {σ : um_S} {σ' : um_S} {r : Int32}   (hf : f_X9_fill σ = some (r, σ')) : um_M l yX9_fill cX9_fill 4 (some FieldType.int) (33) (703) Z msh α σ [.ref (α 0)] (some (.int r)) σ' :=
  um_start (by decide) (Nat.le_of_ble_eq_true rfl) (fun p e s m below meth c ls Cx hW hS hl => b_X9_fill hf Cx hW hS hl)
noncomputable def f_X9_mostGo_l2  : Nat → Int32 → um_S → Option (um_S)
  | 0, _, _ => none
  | n + 1, v1, σ =>
    if (14 : Int32) ≤ v1 then
    (some σ)
    else
    (if um_ix v1 14 then
    (um_let (um_wr σ 12 v1.toNatClampNeg ((0 : Int32) &&& 1)) fun σ2 =>
    (f_X9_mostGo_l2 n (v1 + (1 : Int32)) σ2)) else none)
noncomputable def f_X9_mostGo  (σ : um_S) : Option (Int32 × um_S) :=
    (f_X9_mostGo_l2 um_N (0 : Int32) σ).bind fun σ1 =>
    (um_b2 (f_X9_fill σ1) fun x5 σ4 =>
    (some (x5, σ4)))
set_option maxRecDepth 100000 in
set_option maxHeartbeats 4000000 in
theorem t_X9_mostGo_l2 {Q : State → Prop} {σo : um_S}   (Cx : um_C p s m meth c args cX9_mostGo 2 (some FieldType.int) RX9 Z) (hE : ∀ (H : Heap) (locs : List Loc) (ls : Array Slot), um_W Z msh α σo H → va_S (um_D msh α) s.heap H locs → lv_has ls 2 [(0, .ref (α 0))] → W p l e { frames := 34, cells := 0, slots := 0, locals := 726 } s m args below meth c H locs 0 0 Q (F0 m 21 ls [])) : ∀ (n : Nat) (v1 : Int32) (σ : um_S) (H : Heap) (locs : List Loc) (ls : Array Slot), f_X9_mostGo_l2 n v1 σ = some σo → um_W Z msh α σ H → va_S (um_D msh α) s.heap H locs → lv_has ls 2 [(0, .ref (α 0)), (1, .int v1)] → W p l e { frames := 34, cells := 0, slots := 0, locals := 726 } s m args below meth c H locs 0 0 Q (F0 m 2 ls []) := by
  have hx := Cx.1
  have hb := Cx.2.1
  have hown := Cx.2.2.2.2.1
  have hts := Cx.2.2.2.2.2.1
  intro n
  induction n with
  | zero =>
    intro v1 σ H locs ls hf hW hS hl
    cases hf
  | succ n ih =>
    intro v1 σ H locs ls hf hW hS hl
    rw [f_X9_mostGo_l2] at hf
    refine lv_iload_n (pc := 2) hx hb dX9_mostGo_2 rfl (lv_at hl 1 rfl) ?_
    refine lv_bipush (pc := 3) (v := (14 : Int32)) hx hb dX9_mostGo_3 (by decide) ?_
    refine lv_icmp_ge (pc := 5) (tgt := 21) hx hb dX9_mostGo_5 (by decide) (fun c1 => ?_) (fun c1 => ?_)
    · have hf := um_it c1 hf
      clear c1
      cases hf
      exact hE _ _ _ hW hS (lv_sub hl [0] rfl)
    · have hf := um_ie c1 hf
      clear c1
      refine lv_aload_n (pc := 8) hx hb dX9_mostGo_8 rfl (lv_at hl 0 rfl) ?_
      refine gF_X9_43 (pc := 9) Cx hW ms_0 rfl dX9_mostGo_9 ?_
      refine lv_iload_n (pc := 12) hx hb dX9_mostGo_12 rfl (lv_at hl 1 rfl) ?_
      refine lv_iconst (pc := 13) (v := (0 : Int32)) hx hb dX9_mostGo_13 (by decide) ?_
      obtain ⟨g1, hf⟩ := um_gu hf
      refine um_zast (pc := 14) Cx hW hS ms_12 rfl (um_ix_in g1) dX9_mostGo_14 ?_
      clear hW hS
      intro H locs hW hS
      obtain ⟨σ2, e3, hf⟩ := um_le hf
      rw [← e3] at hW
      clear e3
      refine lv_iinc (pc := 15) (v := v1 + (1 : Int32)) (lv' := [(1, .int (v1 + (1 : Int32))), (0, .ref (α 0))]) hx hb dX9_mostGo_15 hl (k := 1) rfl rfl (by decide) rfl ?_
      clear hl
      intro ls hl
      refine lv_goto (pc := 18) (tgt := 2) hx hb dX9_mostGo_18 (by decide) ?_
      exact ih _ _ _ _ _ hf hW hS (lv_sub hl [1, 0] rfl)
set_option maxRecDepth 100000 in
set_option maxHeartbeats 4000000 in
theorem b_X9_mostGo {H : Heap} {locs : List Loc} {ls : Array Slot} {σ : um_S} {σ' : um_S} {r : Int32}   (hf : f_X9_mostGo σ = some (r, σ')) (Cx : um_C p s m meth c args cX9_mostGo 2 (some FieldType.int) RX9 Z) (hW : um_W Z msh α σ H) (hS : va_S (um_D msh α) s.heap H locs) (hl : lv_has ls 2 [(0, .ref (α 0))]) : um_G p l e (34) (726) s m args below meth c Z msh α σ' (some (.int r)) H locs (F0 m 0 ls []) := by
  have hx := Cx.1
  have hb := Cx.2.1
  have hown := Cx.2.2.2.2.1
  have hts := Cx.2.2.2.2.2.1
  rw [f_X9_mostGo] at hf
  refine lv_iconst (pc := 0) (v := (0 : Int32)) hx hb dX9_mostGo_0 (by decide) ?_
  refine lv_istore_n (pc := 1) (lv' := [(1, .int (0 : Int32)), (0, .ref (α 0))]) hx hb dX9_mostGo_1 rfl hl (by decide) rfl ?_
  clear hl
  intro ls hl
  obtain ⟨σ1, hc2, hf⟩ := um_bi hf
  refine t_X9_mostGo_l2  Cx ?_ um_N _ _ _ _ _ hc2 hW hS (lv_sub hl [1, 0] rfl)
  clear hW hS hl hc2
  intro H locs ls hW hS hl
  refine lv_aload_n (pc := 21) hx hb dX9_mostGo_21 rfl (lv_at hl 0 rfl) ?_
  obtain ⟨x5, σ4, hc3, hf⟩ := um_bi2 hf
  refine um_cVi (pc := 22) (As := []) (rest := []) Cx (c_X9_fill hc3) kV_X9_fill (Or.inl qM_X9_347) hW hS ms_0 rfl rfl hl rfl (Nat.le_of_ble_eq_true rfl) (Nat.le_of_ble_eq_true rfl) (Nat.le_of_ble_eq_true rfl) dX9_mostGo_22 (Nat.le_refl _) (Nat.le_refl _) ?_
  clear hW hS hc3
  intro H locs hW hS
  exact um_iret (pc := 25) Cx hW hS hf dX9_mostGo_25
theorem c_X9_mostGo {σ : um_S} {σ' : um_S} {r : Int32}   (hf : f_X9_mostGo σ = some (r, σ')) : um_M l yX9_mostGo cX9_mostGo 2 (some FieldType.int) (34) (726) Z msh α σ [.ref (α 0)] (some (.int r)) σ' :=
  um_start (by decide) (Nat.le_of_ble_eq_true rfl) (fun p e s m below meth c ls Cx hW hS hl => b_X9_mostGo hf Cx hW hS hl)
noncomputable def f_X9_settledTo_l4 (v1 : Int32) (σ : um_S) : Nat → Int32 → Int32 → Option (Int32)
  | 0, _, _ => none
  | n + 1, v2, v3 =>
    if (σ.1 1 2) ≤ v3 then
    (some v2)
    else
    (if um_ix v3 14 then
    (if (σ.1 12 v3.toNatClampNeg) = 0 then
    (um_let (v2 + (0 : Int32)) fun x2 =>
    (f_X9_settledTo_l4 v1 σ n x2 (v3 + (1 : Int32))))
    else
    (if um_ix v3 14 then
    (if (σ.1 11 v3.toNatClampNeg) = v1 then
    (um_let (v2 + (1 : Int32)) fun x7 =>
    (f_X9_settledTo_l4 v1 σ n x7 (v3 + (1 : Int32))))
    else
    (um_let (v2 + (0 : Int32)) fun x5 =>
    (f_X9_settledTo_l4 v1 σ n x5 (v3 + (1 : Int32))))) else none)) else none)
noncomputable def f_X9_settledTo (a1 : Int32) (σ : um_S) : Option (Int32) :=
    (f_X9_settledTo_l4 a1 σ um_N (0 : Int32) (0 : Int32)).bind fun x1 =>
    (some x1)
set_option maxRecDepth 100000 in
set_option maxHeartbeats 4000000 in
theorem t_X9_settledTo_l4 {Q : State → Prop} {o2 : Int32} {σ : um_S} (v1 : Int32)  (Cx : um_C p s m meth c args cX9_settledTo 4 (some FieldType.int) RX9 Z) (hE : ∀ (H : Heap) (locs : List Loc) (ls : Array Slot), um_W Z msh α σ H → va_S (um_D msh α) s.heap H locs → lv_has ls 4 [(2, .int o2)] → W p l e { frames := 0, cells := 0, slots := 0, locals := 0 } s m args below meth c H locs 0 0 Q (F0 m 47 ls [])) : ∀ (n : Nat) (v2 : Int32) (v3 : Int32) (H : Heap) (locs : List Loc) (ls : Array Slot), f_X9_settledTo_l4 v1 σ n v2 v3 = some o2 → um_W Z msh α σ H → va_S (um_D msh α) s.heap H locs → lv_has ls 4 [(0, .ref (α 0)), (1, .int v1), (2, .int v2), (3, .int v3)] → W p l e { frames := 0, cells := 0, slots := 0, locals := 0 } s m args below meth c H locs 0 0 Q (F0 m 4 ls []) := by
  have hx := Cx.1
  have hb := Cx.2.1
  have hown := Cx.2.2.2.2.1
  have hts := Cx.2.2.2.2.2.1
  intro n
  induction n with
  | zero =>
    intro v2 v3 H locs ls hf hW hS hl
    cases hf
  | succ n ih =>
    intro v2 v3 H locs ls hf hW hS hl
    rw [f_X9_settledTo_l4] at hf
    refine lv_iload_n (pc := 4) hx hb dX9_settledTo_4 rfl (lv_at hl 3 rfl) ?_
    refine lv_aload_n (pc := 5) hx hb dX9_settledTo_5 rfl (lv_at hl 0 rfl) ?_
    refine gF_X9_7 (pc := 6) Cx hW ms_0 rfl dX9_settledTo_6 ?_
    refine lv_iconst (pc := 9) (v := (2 : Int32)) hx hb dX9_settledTo_9 (by decide) ?_
    refine um_iaj (pc := 10) (n := 3790) 2 rfl Cx hW ms_1 rfl (um_ix_in (by decide)) dX9_settledTo_10 ?_
    refine lv_icmp_ge (pc := 11) (tgt := 47) hx hb dX9_settledTo_11 (by decide) (fun c1 => ?_) (fun c1 => ?_)
    · have hf := um_it c1 hf
      clear c1
      cases hf
      exact hE _ _ _ hW hS (lv_sub hl [2] rfl)
    · have hf := um_ie c1 hf
      clear c1
      refine lv_iload_n (pc := 14) hx hb dX9_settledTo_14 rfl (lv_at hl 2 rfl) ?_
      refine lv_aload_n (pc := 15) hx hb dX9_settledTo_15 rfl (lv_at hl 0 rfl) ?_
      refine gF_X9_43 (pc := 16) Cx hW ms_0 rfl dX9_settledTo_16 ?_
      refine lv_iload_n (pc := 19) hx hb dX9_settledTo_19 rfl (lv_at hl 3 rfl) ?_
      obtain ⟨g1, hf⟩ := um_gu hf
      refine um_zald (pc := 20) Cx hW ms_12 rfl (um_ix_in g1) dX9_settledTo_20 ?_
      refine lv_if_eq (pc := 21) (tgt := 38) hx hb dX9_settledTo_21 (by decide) (fun c1 => ?_) (fun c1 => ?_)
      · have hf := um_it c1 hf
        clear c1
        refine lv_iconst (pc := 38) (v := (0 : Int32)) hx hb dX9_settledTo_38 (by decide) ?_
        refine lv_iadd (pc := 39) hx hb dX9_settledTo_39 ?_
        obtain ⟨x2, e3, hf⟩ := um_le hf
        refine um_top e3 ?_
        clear e3
        refine lv_istore_n (pc := 40) (lv' := [(2, .int x2), (0, .ref (α 0)), (1, .int v1), (3, .int v3)]) hx hb dX9_settledTo_40 rfl hl (by decide) rfl ?_
        clear hl
        intro ls hl
        refine lv_iinc (pc := 41) (v := v3 + (1 : Int32)) (lv' := [(3, .int (v3 + (1 : Int32))), (2, .int x2), (0, .ref (α 0)), (1, .int v1)]) hx hb dX9_settledTo_41 hl (k := 3) rfl rfl (by decide) rfl ?_
        clear hl
        intro ls hl
        refine lv_goto (pc := 44) (tgt := 4) hx hb dX9_settledTo_44 (by decide) ?_
        exact ih _ _ _ _ _ hf hW hS (lv_sub hl [2, 3, 1, 0] rfl)
      · have hf := um_ie c1 hf
        clear c1
        refine lv_aload_n (pc := 24) hx hb dX9_settledTo_24 rfl (lv_at hl 0 rfl) ?_
        refine gF_X9_40 (pc := 25) Cx hW ms_0 rfl dX9_settledTo_25 ?_
        refine lv_iload_n (pc := 28) hx hb dX9_settledTo_28 rfl (lv_at hl 3 rfl) ?_
        obtain ⟨g4, hf⟩ := um_gu hf
        refine um_iald (pc := 29) Cx hW ms_11 rfl (um_ix_in g4) dX9_settledTo_29 ?_
        refine lv_iload_n (pc := 30) hx hb dX9_settledTo_30 rfl (lv_at hl 1 rfl) ?_
        refine lv_icmp_ne (pc := 31) (tgt := 38) hx hb dX9_settledTo_31 (by decide) (fun c1 => ?_) (fun c1 => ?_)
        · have hf := um_ie c1 hf
          clear c1
          refine lv_iconst (pc := 38) (v := (0 : Int32)) hx hb dX9_settledTo_38 (by decide) ?_
          refine lv_iadd (pc := 39) hx hb dX9_settledTo_39 ?_
          obtain ⟨x5, e6, hf⟩ := um_le hf
          refine um_top e6 ?_
          clear e6
          refine lv_istore_n (pc := 40) (lv' := [(2, .int x5), (0, .ref (α 0)), (1, .int v1), (3, .int v3)]) hx hb dX9_settledTo_40 rfl hl (by decide) rfl ?_
          clear hl
          intro ls hl
          refine lv_iinc (pc := 41) (v := v3 + (1 : Int32)) (lv' := [(3, .int (v3 + (1 : Int32))), (2, .int x5), (0, .ref (α 0)), (1, .int v1)]) hx hb dX9_settledTo_41 hl (k := 3) rfl rfl (by decide) rfl ?_
          clear hl
          intro ls hl
          refine lv_goto (pc := 44) (tgt := 4) hx hb dX9_settledTo_44 (by decide) ?_
          exact ih _ _ _ _ _ hf hW hS (lv_sub hl [2, 3, 1, 0] rfl)
        · have hf := um_it c1 hf
          clear c1
          refine lv_iconst (pc := 34) (v := (1 : Int32)) hx hb dX9_settledTo_34 (by decide) ?_
          refine lv_goto (pc := 35) (tgt := 39) hx hb dX9_settledTo_35 (by decide) ?_
          refine lv_iadd (pc := 39) hx hb dX9_settledTo_39 ?_
          obtain ⟨x7, e8, hf⟩ := um_le hf
          refine um_top e8 ?_
          clear e8
          refine lv_istore_n (pc := 40) (lv' := [(2, .int x7), (0, .ref (α 0)), (1, .int v1), (3, .int v3)]) hx hb dX9_settledTo_40 rfl hl (by decide) rfl ?_
          clear hl
          intro ls hl
          refine lv_iinc (pc := 41) (v := v3 + (1 : Int32)) (lv' := [(3, .int (v3 + (1 : Int32))), (2, .int x7), (0, .ref (α 0)), (1, .int v1)]) hx hb dX9_settledTo_41 hl (k := 3) rfl rfl (by decide) rfl ?_
          clear hl
          intro ls hl
          refine lv_goto (pc := 44) (tgt := 4) hx hb dX9_settledTo_44 (by decide) ?_
          exact ih _ _ _ _ _ hf hW hS (lv_sub hl [2, 3, 1, 0] rfl)
set_option maxRecDepth 100000 in
set_option maxHeartbeats 4000000 in
theorem b_X9_settledTo {H : Heap} {locs : List Loc} {ls : Array Slot} {σ : um_S} {r : Int32} (a1 : Int32)  (hf : f_X9_settledTo a1 σ = some r) (Cx : um_C p s m meth c args cX9_settledTo 4 (some FieldType.int) RX9 Z) (hW : um_W Z msh α σ H) (hS : va_S (um_D msh α) s.heap H locs) (hl : lv_has ls 4 [(0, .ref (α 0)), (1, .int a1)]) : um_G p l e (0) (0) s m args below meth c Z msh α σ (some (.int r)) H locs (F0 m 0 ls []) := by
  have hx := Cx.1
  have hb := Cx.2.1
  have hown := Cx.2.2.2.2.1
  have hts := Cx.2.2.2.2.2.1
  rw [f_X9_settledTo] at hf
  refine lv_iconst (pc := 0) (v := (0 : Int32)) hx hb dX9_settledTo_0 (by decide) ?_
  refine lv_istore_n (pc := 1) (lv' := [(2, .int (0 : Int32)), (0, .ref (α 0)), (1, .int a1)]) hx hb dX9_settledTo_1 rfl hl (by decide) rfl ?_
  clear hl
  intro ls hl
  refine lv_iconst (pc := 2) (v := (0 : Int32)) hx hb dX9_settledTo_2 (by decide) ?_
  refine lv_istore_n (pc := 3) (lv' := [(3, .int (0 : Int32)), (2, .int (0 : Int32)), (0, .ref (α 0)), (1, .int a1)]) hx hb dX9_settledTo_3 rfl hl (by decide) rfl ?_
  clear hl
  intro ls hl
  obtain ⟨x1, hc2, hf⟩ := um_bi hf
  refine t_X9_settledTo_l4 a1 Cx ?_ um_N _ _ _ _ _ hc2 hW hS (lv_sub hl [2, 3, 1, 0] rfl)
  clear hW hS hl hc2
  intro H locs ls hW hS hl
  refine lv_iload_n (pc := 47) hx hb dX9_settledTo_47 rfl (lv_at hl 0 rfl) ?_
  exact um_iretR (pc := 48) Cx hW hS hf dX9_settledTo_48
theorem c_X9_settledTo {σ : um_S} {r : Int32} (a1 : Int32)  (hf : f_X9_settledTo a1 σ = some r) : um_M l yX9_settledTo cX9_settledTo 4 (some FieldType.int) (0) (0) Z msh α σ [.ref (α 0), .int a1] (some (.int r)) σ :=
  um_start (by decide) (Nat.le_of_ble_eq_true rfl) (fun p e s m below meth c ls Cx hW hS hl => b_X9_settledTo a1 hf Cx hW hS hl)
noncomputable def f_X9_assignAll_l22 (v1 : Int32) (v2 : Int32) : Nat → Int32 → Int32 → um_S → Option (um_S)
  | 0, _, _, _ => none
  | n + 1, v3, v4, σ =>
    if (σ.1 1 3) < v4 then
    (some σ)
    else
    (if v3 = 0 then
    (um_let (fun (x2 : Int32) =>
    (if um_ix v2 14 then
    (um_let (um_wr σ 11 v2.toNatClampNeg (-1 : Int32)) fun σ4 =>
    (if um_ix v2 14 then
    (um_let (um_wr σ4 12 v2.toNatClampNeg ((0 : Int32) &&& 1)) fun σ7 =>
    (um_let (fun (_u : Unit) =>
    (um_let (fun (x11 : Int32) =>
    (if um_ix v2 14 then
    (um_let (um_wr σ7 11 v2.toNatClampNeg x11) fun σ13 =>
    (if um_ix v2 14 then
    (um_let (um_wr σ13 12 v2.toNatClampNeg ((1 : Int32) &&& 1)) fun σ16 =>
    (if x2 = 0 then
    (um_b2 (f_X9_fill σ16) fun x20 σ19 =>
    (if x20 = v1 then
    (f_X9_assignAll_l22 v1 v2 n (1 : Int32) (v4 + (1 : Int32)) σ19)
    else
    (f_X9_assignAll_l22 v1 v2 n (0 : Int32) (v4 + (1 : Int32)) σ19)))
    else
    (f_X9_assignAll_l22 v1 v2 n (1 : Int32) (v4 + (1 : Int32)) σ16))) else none)) else none)) fun k10 =>
    (if x2 = 0 then
    (k10 v4)
    else
    (k10 (-1 : Int32))))) fun k9 =>
    (if x2 = 0 then
    ((f_X9_canGo v2 v4 σ7).bind fun x22 =>
    (if (um_b x22) = 0 then
    (f_X9_assignAll_l22 v1 v2 n v3 (v4 + (1 : Int32)) σ7)
    else
    ((f_X9_settledTo v4 σ7).bind fun x24 =>
    ((f_X9_masterAt v4 σ7).bind fun x26 =>
    (if um_ix (x26 + (2 : Int32)) 3790 then
    ((f_X9_assignedTo v4 σ7).bind fun x29 =>
    (if ((σ7.1 1 (x26 + (2 : Int32)).toNatClampNeg) - x29) ≤ x24 then
    (f_X9_assignAll_l22 v1 v2 n v3 (v4 + (1 : Int32)) σ7)
    else
    (k9 ()))) else none)))))
    else
    (k9 ())))) else none)) else none)) fun k1 =>
    (if v4 = (σ.1 1 3) then
    (k1 (1 : Int32))
    else
    (k1 (0 : Int32))))
    else
    (some σ))
noncomputable def f_X9_assignAll_l7 (v1 : Int32) : Nat → Int32 → um_S → Option (um_S)
  | 0, _, _ => none
  | n + 1, v2, σ =>
    if (σ.1 1 2) ≤ v2 then
    (some σ)
    else
    ((f_X9_assignAll_l22 v1 v2 um_N (0 : Int32) (0 : Int32) σ).bind fun σ1 =>
    (f_X9_assignAll_l7 v1 n (v2 + (1 : Int32)) σ1))
noncomputable def f_X9_assignAll  (σ : um_S) : Option (um_S) :=
    um_b2 (f_X9_mostGo σ) fun x3 σ2 =>
    ((f_X9_assignAll_l7 x3 um_N (0 : Int32) σ2).bind fun σ4 =>
    (some σ4))
set_option maxRecDepth 100000 in
set_option maxHeartbeats 4000000 in
theorem t_X9_assignAll_l22 {Q : State → Prop} {σo : um_S} (v1 : Int32) (v2 : Int32)  (Cx : um_C p s m meth c args cX9_assignAll 6 none RX9 Z) (hE : ∀ (H : Heap) (locs : List Loc) (ls : Array Slot), um_W Z msh α σo H → va_S (um_D msh α) s.heap H locs → lv_has ls 6 [(0, .ref (α 0)), (1, .int v1), (2, .int v2)] → W p l e { frames := 35, cells := 0, slots := 0, locals := 747 } s m args below meth c H locs 0 0 Q (F0 m 162 ls [])) : ∀ (n : Nat) (v3 : Int32) (v4 : Int32) (σ : um_S) (H : Heap) (locs : List Loc) (ls : Array Slot), f_X9_assignAll_l22 v1 v2 n v3 v4 σ = some σo → um_W Z msh α σ H → va_S (um_D msh α) s.heap H locs → lv_has ls 6 [(0, .ref (α 0)), (1, .int v1), (2, .int v2), (3, .int v3), (4, .int v4)] → W p l e { frames := 35, cells := 0, slots := 0, locals := 747 } s m args below meth c H locs 0 0 Q (F0 m 22 ls []) := by
  have hx := Cx.1
  have hb := Cx.2.1
  have hown := Cx.2.2.2.2.1
  have hts := Cx.2.2.2.2.2.1
  intro n
  induction n with
  | zero =>
    intro v3 v4 σ H locs ls hf hW hS hl
    cases hf
  | succ n ih =>
    intro v3 v4 σ H locs ls hf hW hS hl
    rw [f_X9_assignAll_l22] at hf
    refine lv_iload (pc := 22) hx hb dX9_assignAll_22 (lv_at hl 4 rfl) ?_
    refine lv_aload_n (pc := 24) hx hb dX9_assignAll_24 rfl (lv_at hl 0 rfl) ?_
    refine gF_X9_7 (pc := 25) Cx hW ms_0 rfl dX9_assignAll_25 ?_
    refine lv_iconst (pc := 28) (v := (3 : Int32)) hx hb dX9_assignAll_28 (by decide) ?_
    refine um_iaj (pc := 29) (n := 3790) 3 rfl Cx hW ms_1 rfl (um_ix_in (by decide)) dX9_assignAll_29 ?_
    refine lv_icmp_gt (pc := 30) (tgt := 162) hx hb dX9_assignAll_30 (by decide) (fun c1 => ?_) (fun c1 => ?_)
    · have hf := um_it c1 hf
      clear c1
      cases hf
      exact hE _ _ _ hW hS (lv_sub hl [0, 1, 2] rfl)
    · have hf := um_ie c1 hf
      clear c1
      refine lv_iload_n (pc := 33) hx hb dX9_assignAll_33 rfl (lv_at hl 3 rfl) ?_
      refine lv_if_ne (pc := 34) (tgt := 162) hx hb dX9_assignAll_34 (by decide) (fun c1 => ?_) (fun c1 => ?_)
      · have hf := um_ie c1 hf
        clear c1
        cases hf
        exact hE _ _ _ hW hS (lv_sub hl [0, 1, 2] rfl)
      · have hf := um_it c1 hf
        clear c1
        refine lv_iload (pc := 37) hx hb dX9_assignAll_37 (lv_at hl 4 rfl) ?_
        refine lv_aload_n (pc := 39) hx hb dX9_assignAll_39 rfl (lv_at hl 0 rfl) ?_
        refine gF_X9_7 (pc := 40) Cx hW ms_0 rfl dX9_assignAll_40 ?_
        refine lv_iconst (pc := 43) (v := (3 : Int32)) hx hb dX9_assignAll_43 (by decide) ?_
        refine um_iaj (pc := 44) (n := 3790) 3 rfl Cx hW ms_1 rfl (um_ix_in (by decide)) dX9_assignAll_44 ?_
        obtain ⟨k1, hk1, hf⟩ := um_j1 hf
        have J1 : ∀ (x2 : Int32), k1 x2 = some σo → ∀ (H : Heap) (locs : List Loc) (ls : Array Slot), um_W Z msh α σ H → va_S (um_D msh α) s.heap H locs → lv_has ls 6 [(0, .ref (α 0)), (1, .int v1), (2, .int v2), (3, .int v3), (4, .int v4)] → W p l e { frames := 35, cells := 0, slots := 0, locals := 747 } s m args below meth c H locs 0 0 Q (F0 m 53 ls [.int x2]) := by
          intro x2 hf H locs ls hW hS hl
          rw [hk1] at hf
          refine lv_istore (pc := 53) (lv' := [(5, .int x2), (0, .ref (α 0)), (1, .int v1), (2, .int v2), (3, .int v3), (4, .int v4)]) hx hb dX9_assignAll_53 hl (by decide) rfl ?_
          clear hl
          intro ls hl
          refine lv_aload_n (pc := 55) hx hb dX9_assignAll_55 rfl (lv_at hl 1 rfl) ?_
          refine gF_X9_40 (pc := 56) Cx hW ms_0 rfl dX9_assignAll_56 ?_
          refine lv_iload_n (pc := 59) hx hb dX9_assignAll_59 rfl (lv_at hl 3 rfl) ?_
          refine lv_iconst (pc := 60) (v := (-1 : Int32)) hx hb dX9_assignAll_60 (by decide) ?_
          obtain ⟨g3, hf⟩ := um_gu hf
          refine um_iast (pc := 61) Cx hW hS ms_11 rfl (um_ix_in g3) dX9_assignAll_61 ?_
          clear hW hS
          intro H locs hW hS
          obtain ⟨σ4, e5, hf⟩ := um_le hf
          rw [← e5] at hW
          clear e5
          refine lv_aload_n (pc := 62) hx hb dX9_assignAll_62 rfl (lv_at hl 1 rfl) ?_
          refine gF_X9_43 (pc := 63) Cx hW ms_0 rfl dX9_assignAll_63 ?_
          refine lv_iload_n (pc := 66) hx hb dX9_assignAll_66 rfl (lv_at hl 3 rfl) ?_
          refine lv_iconst (pc := 67) (v := (0 : Int32)) hx hb dX9_assignAll_67 (by decide) ?_
          obtain ⟨g6, hf⟩ := um_gu hf
          refine um_zast (pc := 68) Cx hW hS ms_12 rfl (um_ix_in g6) dX9_assignAll_68 ?_
          clear hW hS
          intro H locs hW hS
          obtain ⟨σ7, e8, hf⟩ := um_le hf
          rw [← e8] at hW
          clear e8
          refine lv_iload (pc := 69) hx hb dX9_assignAll_69 (lv_at hl 0 rfl) ?_
          obtain ⟨k9, hk9, hf⟩ := um_j1 hf
          have J9 : ∀ (_u : Unit), k9 _u = some σo → ∀ (H : Heap) (locs : List Loc) (ls : Array Slot), um_W Z msh α σ7 H → va_S (um_D msh α) s.heap H locs → lv_has ls 6 [(0, .ref (α 0)), (1, .int v1), (2, .int v2), (4, .int v4), (5, .int x2)] → W p l e { frames := 35, cells := 0, slots := 0, locals := 747 } s m args below meth c H locs 0 0 Q (F0 m 113 ls []) := by
            intro _u hf H locs ls hW hS hl
            rw [hk9] at hf
            refine lv_aload_n (pc := 113) hx hb dX9_assignAll_113 rfl (lv_at hl 0 rfl) ?_
            refine gF_X9_40 (pc := 114) Cx hW ms_0 rfl dX9_assignAll_114 ?_
            refine lv_iload_n (pc := 117) hx hb dX9_assignAll_117 rfl (lv_at hl 2 rfl) ?_
            refine lv_iload (pc := 118) hx hb dX9_assignAll_118 (lv_at hl 4 rfl) ?_
            obtain ⟨k10, hk10, hf⟩ := um_j1 hf
            have J10 : ∀ (x11 : Int32), k10 x11 = some σo → ∀ (H : Heap) (locs : List Loc) (ls : Array Slot), um_W Z msh α σ7 H → va_S (um_D msh α) s.heap H locs → lv_has ls 6 [(0, .ref (α 0)), (1, .int v1), (2, .int v2), (4, .int v4), (5, .int x2)] → W p l e { frames := 35, cells := 0, slots := 0, locals := 747 } s m args below meth c H locs 0 0 Q (F0 m 129 ls [.int x11, .int v2, .ref (α 11)]) := by
              intro x11 hf H locs ls hW hS hl
              rw [hk10] at hf
              obtain ⟨g12, hf⟩ := um_gu hf
              refine um_iast (pc := 129) Cx hW hS ms_11 rfl (um_ix_in g12) dX9_assignAll_129 ?_
              clear hW hS
              intro H locs hW hS
              obtain ⟨σ13, e14, hf⟩ := um_le hf
              rw [← e14] at hW
              clear e14
              refine lv_aload_n (pc := 130) hx hb dX9_assignAll_130 rfl (lv_at hl 0 rfl) ?_
              refine gF_X9_43 (pc := 131) Cx hW ms_0 rfl dX9_assignAll_131 ?_
              refine lv_iload_n (pc := 134) hx hb dX9_assignAll_134 rfl (lv_at hl 2 rfl) ?_
              refine lv_iconst (pc := 135) (v := (1 : Int32)) hx hb dX9_assignAll_135 (by decide) ?_
              obtain ⟨g15, hf⟩ := um_gu hf
              refine um_zast (pc := 136) Cx hW hS ms_12 rfl (um_ix_in g15) dX9_assignAll_136 ?_
              clear hW hS
              intro H locs hW hS
              obtain ⟨σ16, e17, hf⟩ := um_le hf
              rw [← e17] at hW
              clear e17
              refine lv_iload (pc := 137) hx hb dX9_assignAll_137 (lv_at hl 4 rfl) ?_
              refine lv_if_ne (pc := 139) (tgt := 150) hx hb dX9_assignAll_139 (by decide) (fun c1 => ?_) (fun c1 => ?_)
              · have hf := um_ie c1 hf
                clear c1
                refine lv_iconst (pc := 150) (v := (1 : Int32)) hx hb dX9_assignAll_150 (by decide) ?_
                refine lv_goto (pc := 151) (tgt := 155) hx hb dX9_assignAll_151 (by decide) ?_
                refine lv_istore_n (pc := 155) (lv' := [(3, .int (1 : Int32)), (0, .ref (α 0)), (1, .int v1), (2, .int v2), (4, .int v4), (5, .int x2)]) hx hb dX9_assignAll_155 rfl hl (by decide) rfl ?_
                clear hl
                intro ls hl
                refine lv_iinc (pc := 156) (v := v4 + (1 : Int32)) (lv' := [(4, .int (v4 + (1 : Int32))), (3, .int (1 : Int32)), (0, .ref (α 0)), (1, .int v1), (2, .int v2), (5, .int x2)]) hx hb dX9_assignAll_156 hl (k := 4) rfl rfl (by decide) rfl ?_
                clear hl
                intro ls hl
                refine lv_goto (pc := 159) (tgt := 22) hx hb dX9_assignAll_159 (by decide) ?_
                exact ih _ _ _ _ _ _ hf hW hS (lv_sub hl [2, 3, 4, 1, 0] rfl)
              · have hf := um_it c1 hf
                clear c1
                refine lv_aload_n (pc := 142) hx hb dX9_assignAll_142 rfl (lv_at hl 0 rfl) ?_
                obtain ⟨x20, σ19, hc18, hf⟩ := um_bi2 hf
                refine um_cVi (pc := 143) (As := []) (rest := []) Cx (c_X9_fill hc18) kV_X9_fill (Or.inl qM_X9_347) hW hS ms_0 rfl rfl hl rfl (Nat.le_of_ble_eq_true rfl) (Nat.le_of_ble_eq_true rfl) (Nat.le_of_ble_eq_true rfl) dX9_assignAll_143 (Nat.le_refl _) (Nat.le_refl _) ?_
                clear hW hS hc18
                intro H locs hW hS
                refine lv_iload_n (pc := 146) hx hb dX9_assignAll_146 rfl (lv_at hl 1 rfl) ?_
                refine lv_icmp_ne (pc := 147) (tgt := 154) hx hb dX9_assignAll_147 (by decide) (fun c1 => ?_) (fun c1 => ?_)
                · have hf := um_ie c1 hf
                  clear c1
                  refine lv_iconst (pc := 154) (v := (0 : Int32)) hx hb dX9_assignAll_154 (by decide) ?_
                  refine lv_istore_n (pc := 155) (lv' := [(3, .int (0 : Int32)), (0, .ref (α 0)), (1, .int v1), (2, .int v2), (4, .int v4), (5, .int x2)]) hx hb dX9_assignAll_155 rfl hl (by decide) rfl ?_
                  clear hl
                  intro ls hl
                  refine lv_iinc (pc := 156) (v := v4 + (1 : Int32)) (lv' := [(4, .int (v4 + (1 : Int32))), (3, .int (0 : Int32)), (0, .ref (α 0)), (1, .int v1), (2, .int v2), (5, .int x2)]) hx hb dX9_assignAll_156 hl (k := 4) rfl rfl (by decide) rfl ?_
                  clear hl
                  intro ls hl
                  refine lv_goto (pc := 159) (tgt := 22) hx hb dX9_assignAll_159 (by decide) ?_
                  exact ih _ _ _ _ _ _ hf hW hS (lv_sub hl [2, 3, 4, 1, 0] rfl)
                · have hf := um_it c1 hf
                  clear c1
                  refine lv_iconst (pc := 150) (v := (1 : Int32)) hx hb dX9_assignAll_150 (by decide) ?_
                  refine lv_goto (pc := 151) (tgt := 155) hx hb dX9_assignAll_151 (by decide) ?_
                  refine lv_istore_n (pc := 155) (lv' := [(3, .int (1 : Int32)), (0, .ref (α 0)), (1, .int v1), (2, .int v2), (4, .int v4), (5, .int x2)]) hx hb dX9_assignAll_155 rfl hl (by decide) rfl ?_
                  clear hl
                  intro ls hl
                  refine lv_iinc (pc := 156) (v := v4 + (1 : Int32)) (lv' := [(4, .int (v4 + (1 : Int32))), (3, .int (1 : Int32)), (0, .ref (α 0)), (1, .int v1), (2, .int v2), (5, .int x2)]) hx hb dX9_assignAll_156 hl (k := 4) rfl rfl (by decide) rfl ?_
                  clear hl
                  intro ls hl
                  refine lv_goto (pc := 159) (tgt := 22) hx hb dX9_assignAll_159 (by decide) ?_
                  exact ih _ _ _ _ _ _ hf hW hS (lv_sub hl [2, 3, 4, 1, 0] rfl)
            refine lv_if_eq (pc := 120) (tgt := 127) hx hb dX9_assignAll_120 (by decide) (fun c1 => ?_) (fun c1 => ?_)
            · have hf := um_it c1 hf
              clear c1
              refine lv_iload (pc := 127) hx hb dX9_assignAll_127 (lv_at hl 3 rfl) ?_
              exact J10 v4 hf _ _ _ hW hS hl
            · have hf := um_ie c1 hf
              clear c1
              refine lv_iconst (pc := 123) (v := (-1 : Int32)) hx hb dX9_assignAll_123 (by decide) ?_
              refine lv_goto (pc := 124) (tgt := 129) hx hb dX9_assignAll_124 (by decide) ?_
              exact J10 (-1 : Int32) hf _ _ _ hW hS hl
          refine lv_if_ne (pc := 71) (tgt := 113) hx hb dX9_assignAll_71 (by decide) (fun c1 => ?_) (fun c1 => ?_)
          · have hf := um_ie c1 hf
            clear c1
            exact J9 () hf _ _ _ hW hS (lv_sub hl [1, 2, 3, 5, 0] rfl)
          · have hf := um_it c1 hf
            clear c1
            refine lv_aload_n (pc := 74) hx hb dX9_assignAll_74 rfl (lv_at hl 1 rfl) ?_
            refine lv_iload_n (pc := 75) hx hb dX9_assignAll_75 rfl (lv_at hl 3 rfl) ?_
            refine lv_iload (pc := 76) hx hb dX9_assignAll_76 (lv_at hl 5 rfl) ?_
            obtain ⟨x22, hc21, hf⟩ := um_bi hf
            refine um_cVi (pc := 78) (As := [.int v2, .int v4]) (rest := []) Cx (c_X9_canGo v2 v4 hc21) kV_X9_canGo (Or.inl qM_X9_338) hW hS ms_0 rfl rfl hl rfl (Nat.le_of_ble_eq_true rfl) (Nat.le_of_ble_eq_true rfl) (Nat.le_of_ble_eq_true rfl) dX9_assignAll_78 (Nat.le_refl _) (Nat.le_refl _) ?_
            clear hW hS hc21
            intro H locs hW hS
            refine lv_if_eq (pc := 81) (tgt := 156) hx hb dX9_assignAll_81 (by decide) (fun c1 => ?_) (fun c1 => ?_)
            · have hf := um_it c1 hf
              clear c1
              refine lv_iinc (pc := 156) (v := v4 + (1 : Int32)) (lv' := [(4, .int (v4 + (1 : Int32))), (5, .int x2), (0, .ref (α 0)), (1, .int v1), (2, .int v2), (3, .int v3)]) hx hb dX9_assignAll_156 hl (k := 5) rfl rfl (by decide) rfl ?_
              clear hl
              intro ls hl
              refine lv_goto (pc := 159) (tgt := 22) hx hb dX9_assignAll_159 (by decide) ?_
              exact ih _ _ _ _ _ _ hf hW hS (lv_sub hl [2, 3, 4, 5, 0] rfl)
            · have hf := um_ie c1 hf
              clear c1
              refine lv_aload_n (pc := 84) hx hb dX9_assignAll_84 rfl (lv_at hl 1 rfl) ?_
              refine lv_iload (pc := 85) hx hb dX9_assignAll_85 (lv_at hl 5 rfl) ?_
              obtain ⟨x24, hc23, hf⟩ := um_bi hf
              refine um_cVi (pc := 87) (As := [.int v4]) (rest := []) Cx (c_X9_settledTo v4 hc23) kV_X9_settledTo (Or.inl qM_X9_353) hW hS ms_0 rfl rfl hl rfl (Nat.le_of_ble_eq_true rfl) (Nat.le_of_ble_eq_true rfl) (Nat.le_of_ble_eq_true rfl) dX9_assignAll_87 (Nat.le_refl _) (Nat.le_refl _) ?_
              clear hW hS hc23
              intro H locs hW hS
              refine lv_aload_n (pc := 90) hx hb dX9_assignAll_90 rfl (lv_at hl 1 rfl) ?_
              refine gF_X9_7 (pc := 91) Cx hW ms_0 rfl dX9_assignAll_91 ?_
              refine lv_aload_n (pc := 94) hx hb dX9_assignAll_94 rfl (lv_at hl 1 rfl) ?_
              refine lv_iload (pc := 95) hx hb dX9_assignAll_95 (lv_at hl 5 rfl) ?_
              obtain ⟨x26, hc25, hf⟩ := um_bi hf
              refine um_cVi (pc := 97) (As := [.int v4]) (rest := [.ref (α 1), .int x24]) Cx (c_X9_masterAt v4 hc25) kV_X9_masterAt (Or.inl qM_X9_129) hW hS ms_0 rfl rfl hl rfl (Nat.le_of_ble_eq_true rfl) (Nat.le_of_ble_eq_true rfl) (Nat.le_of_ble_eq_true rfl) dX9_assignAll_97 (Nat.le_refl _) (Nat.le_refl _) ?_
              clear hW hS hc25
              intro H locs hW hS
              refine lv_iconst (pc := 100) (v := (2 : Int32)) hx hb dX9_assignAll_100 (by decide) ?_
              refine lv_iadd (pc := 101) hx hb dX9_assignAll_101 ?_
              obtain ⟨g27, hf⟩ := um_gu hf
              refine um_iald (pc := 102) Cx hW ms_1 rfl (um_ix_in g27) dX9_assignAll_102 ?_
              refine lv_aload_n (pc := 103) hx hb dX9_assignAll_103 rfl (lv_at hl 1 rfl) ?_
              refine lv_iload (pc := 104) hx hb dX9_assignAll_104 (lv_at hl 5 rfl) ?_
              obtain ⟨x29, hc28, hf⟩ := um_bi hf
              refine um_cVi (pc := 106) (As := [.int v4]) (rest := [.int (σ7.1 1 (x26 + (2 : Int32)).toNatClampNeg), .int x24]) Cx (c_X9_assignedTo v4 hc28) kV_X9_assignedTo (Or.inl qM_X9_135) hW hS ms_0 rfl rfl hl rfl (Nat.le_of_ble_eq_true rfl) (Nat.le_of_ble_eq_true rfl) (Nat.le_of_ble_eq_true rfl) dX9_assignAll_106 (Nat.le_refl _) (Nat.le_refl _) ?_
              clear hW hS hc28
              intro H locs hW hS
              refine lv_isub (pc := 109) hx hb dX9_assignAll_109 ?_
              refine lv_icmp_ge (pc := 110) (tgt := 156) hx hb dX9_assignAll_110 (by decide) (fun c1 => ?_) (fun c1 => ?_)
              · have hf := um_it c1 hf
                clear c1
                refine lv_iinc (pc := 156) (v := v4 + (1 : Int32)) (lv' := [(4, .int (v4 + (1 : Int32))), (5, .int x2), (0, .ref (α 0)), (1, .int v1), (2, .int v2), (3, .int v3)]) hx hb dX9_assignAll_156 hl (k := 5) rfl rfl (by decide) rfl ?_
                clear hl
                intro ls hl
                refine lv_goto (pc := 159) (tgt := 22) hx hb dX9_assignAll_159 (by decide) ?_
                exact ih _ _ _ _ _ _ hf hW hS (lv_sub hl [2, 3, 4, 5, 0] rfl)
              · have hf := um_ie c1 hf
                clear c1
                exact J9 () hf _ _ _ hW hS (lv_sub hl [1, 2, 3, 5, 0] rfl)
        refine lv_icmp_ne (pc := 45) (tgt := 52) hx hb dX9_assignAll_45 (by decide) (fun c1 => ?_) (fun c1 => ?_)
        · have hf := um_ie c1 hf
          clear c1
          refine lv_iconst (pc := 52) (v := (0 : Int32)) hx hb dX9_assignAll_52 (by decide) ?_
          exact J1 (0 : Int32) hf _ _ _ hW hS hl
        · have hf := um_it c1 hf
          clear c1
          refine lv_iconst (pc := 48) (v := (1 : Int32)) hx hb dX9_assignAll_48 (by decide) ?_
          refine lv_goto (pc := 49) (tgt := 53) hx hb dX9_assignAll_49 (by decide) ?_
          exact J1 (1 : Int32) hf _ _ _ hW hS hl
set_option maxRecDepth 100000 in
set_option maxHeartbeats 4000000 in
theorem t_X9_assignAll_l7 {Q : State → Prop} {σo : um_S} (v1 : Int32)  (Cx : um_C p s m meth c args cX9_assignAll 6 none RX9 Z) (hE : ∀ (H : Heap) (locs : List Loc) (ls : Array Slot), um_W Z msh α σo H → va_S (um_D msh α) s.heap H locs → lv_has ls 6 [] → W p l e { frames := 35, cells := 0, slots := 0, locals := 747 } s m args below meth c H locs 0 0 Q (F0 m 168 ls [])) : ∀ (n : Nat) (v2 : Int32) (σ : um_S) (H : Heap) (locs : List Loc) (ls : Array Slot), f_X9_assignAll_l7 v1 n v2 σ = some σo → um_W Z msh α σ H → va_S (um_D msh α) s.heap H locs → lv_has ls 6 [(0, .ref (α 0)), (1, .int v1), (2, .int v2)] → W p l e { frames := 35, cells := 0, slots := 0, locals := 747 } s m args below meth c H locs 0 0 Q (F0 m 7 ls []) := by
  have hx := Cx.1
  have hb := Cx.2.1
  have hown := Cx.2.2.2.2.1
  have hts := Cx.2.2.2.2.2.1
  intro n
  induction n with
  | zero =>
    intro v2 σ H locs ls hf hW hS hl
    cases hf
  | succ n ih =>
    intro v2 σ H locs ls hf hW hS hl
    rw [f_X9_assignAll_l7] at hf
    refine lv_iload_n (pc := 7) hx hb dX9_assignAll_7 rfl (lv_at hl 2 rfl) ?_
    refine lv_aload_n (pc := 8) hx hb dX9_assignAll_8 rfl (lv_at hl 0 rfl) ?_
    refine gF_X9_7 (pc := 9) Cx hW ms_0 rfl dX9_assignAll_9 ?_
    refine lv_iconst (pc := 12) (v := (2 : Int32)) hx hb dX9_assignAll_12 (by decide) ?_
    refine um_iaj (pc := 13) (n := 3790) 2 rfl Cx hW ms_1 rfl (um_ix_in (by decide)) dX9_assignAll_13 ?_
    refine lv_icmp_ge (pc := 14) (tgt := 168) hx hb dX9_assignAll_14 (by decide) (fun c1 => ?_) (fun c1 => ?_)
    · have hf := um_it c1 hf
      clear c1
      cases hf
      exact hE _ _ _ hW hS (lv_sub hl [] rfl)
    · have hf := um_ie c1 hf
      clear c1
      refine lv_iconst (pc := 17) (v := (0 : Int32)) hx hb dX9_assignAll_17 (by decide) ?_
      refine lv_istore_n (pc := 18) (lv' := [(3, .int (0 : Int32)), (0, .ref (α 0)), (1, .int v1), (2, .int v2)]) hx hb dX9_assignAll_18 rfl hl (by decide) rfl ?_
      clear hl
      intro ls hl
      refine lv_iconst (pc := 19) (v := (0 : Int32)) hx hb dX9_assignAll_19 (by decide) ?_
      refine lv_istore (pc := 20) (lv' := [(4, .int (0 : Int32)), (3, .int (0 : Int32)), (0, .ref (α 0)), (1, .int v1), (2, .int v2)]) hx hb dX9_assignAll_20 hl (by decide) rfl ?_
      clear hl
      intro ls hl
      obtain ⟨σ1, hc2, hf⟩ := um_bi hf
      refine t_X9_assignAll_l22 v1 v2 Cx ?_ um_N _ _ _ _ _ _ hc2 hW hS (lv_sub hl [2, 3, 4, 1, 0] rfl)
      clear hW hS hl hc2
      intro H locs ls hW hS hl
      refine lv_iinc (pc := 162) (v := v2 + (1 : Int32)) (lv' := [(2, .int (v2 + (1 : Int32))), (0, .ref (α 0)), (1, .int v1)]) hx hb dX9_assignAll_162 hl (k := 2) rfl rfl (by decide) rfl ?_
      clear hl
      intro ls hl
      refine lv_goto (pc := 165) (tgt := 7) hx hb dX9_assignAll_165 (by decide) ?_
      exact ih _ _ _ _ _ hf hW hS (lv_sub hl [1, 2, 0] rfl)
set_option maxRecDepth 100000 in
set_option maxHeartbeats 4000000 in
theorem b_X9_assignAll {H : Heap} {locs : List Loc} {ls : Array Slot} {σ : um_S} {σ' : um_S}   (hf : f_X9_assignAll σ = some σ') (Cx : um_C p s m meth c args cX9_assignAll 6 none RX9 Z) (hW : um_W Z msh α σ H) (hS : va_S (um_D msh α) s.heap H locs) (hl : lv_has ls 6 [(0, .ref (α 0))]) : um_G p l e (35) (747) s m args below meth c Z msh α σ' none H locs (F0 m 0 ls []) := by
  have hx := Cx.1
  have hb := Cx.2.1
  have hown := Cx.2.2.2.2.1
  have hts := Cx.2.2.2.2.2.1
  rw [f_X9_assignAll] at hf
  refine lv_aload_n (pc := 0) hx hb dX9_assignAll_0 rfl (lv_at hl 0 rfl) ?_
  obtain ⟨x3, σ2, hc1, hf⟩ := um_bi2 hf
  refine um_cVi (pc := 1) (As := []) (rest := []) Cx (c_X9_mostGo hc1) kV_X9_mostGo (Or.inl qM_X9_350) hW hS ms_0 rfl rfl hl rfl (Nat.le_of_ble_eq_true rfl) (Nat.le_of_ble_eq_true rfl) (Nat.le_of_ble_eq_true rfl) dX9_assignAll_1 (Nat.le_refl _) (Nat.le_refl _) ?_
  clear hW hS hc1
  intro H locs hW hS
  refine lv_istore_n (pc := 4) (lv' := [(1, .int x3), (0, .ref (α 0))]) hx hb dX9_assignAll_4 rfl hl (by decide) rfl ?_
  clear hl
  intro ls hl
  refine lv_iconst (pc := 5) (v := (0 : Int32)) hx hb dX9_assignAll_5 (by decide) ?_
  refine lv_istore_n (pc := 6) (lv' := [(2, .int (0 : Int32)), (1, .int x3), (0, .ref (α 0))]) hx hb dX9_assignAll_6 rfl hl (by decide) rfl ?_
  clear hl
  intro ls hl
  obtain ⟨σ4, hc5, hf⟩ := um_bi hf
  refine t_X9_assignAll_l7 x3 Cx ?_ um_N _ _ _ _ _ hc5 hW hS (lv_sub hl [2, 1, 0] rfl)
  clear hW hS hl hc5
  intro H locs ls hW hS hl
  exact um_vret (pc := 168) Cx hW hS hf dX9_assignAll_168
theorem c_X9_assignAll {σ : um_S} {σ' : um_S}   (hf : f_X9_assignAll σ = some σ') : um_M l yX9_assignAll cX9_assignAll 6 none (35) (747) Z msh α σ [.ref (α 0)] none σ' :=
  um_start (by decide) (Nat.le_of_ble_eq_true rfl) (fun p e s m below meth c ls Cx hW hS hl => b_X9_assignAll hf Cx hW hS hl)
noncomputable def f_X9_back (a1 : Int32) (σ : um_S) : Option (Int32 × um_S) :=
    (f_X9_isMan a1 σ).bind fun x2 =>
    (if (um_b x2) = 0 then
    (some ((-1000000001 : Int32), σ))
    else
    ((f_X9_kindOf a1 σ).bind fun x4 =>
    (if x4 = (2 : Int32) then
    ((f_X9_isDead a1 σ).bind fun x6 =>
    (if (um_b x6) = 0 then
    ((f_X9_manAt a1 σ).bind fun x8 =>
    (if um_ix (x8 + (6 : Int32)) 3790 then
    (um_let (σ.1 1 (x8 + (6 : Int32)).toNatClampNeg) fun x10 =>
    ((f_X9_becomesOf a1 (1 : Int32) (0 : Int32) σ).bind fun σ13 =>
    (some (x10, σ13)))) else none))
    else
    (some ((-1000000002 : Int32), σ))))
    else
    (some ((-1000000012 : Int32), σ)))))
set_option maxRecDepth 100000 in
set_option maxHeartbeats 4000000 in
theorem b_X9_back {H : Heap} {locs : List Loc} {ls : Array Slot} {σ : um_S} {σ' : um_S} {r : Int32} (a1 : Int32)  (hf : f_X9_back a1 σ = some (r, σ')) (Cx : um_C p s m meth c args cX9_back 3 (some FieldType.int) RX9 Z) (hW : um_W Z msh α σ H) (hS : va_S (um_D msh α) s.heap H locs) (hl : lv_has ls 3 [(0, .ref (α 0)), (1, .int a1)]) : um_G p l e (2) (46) s m args below meth c Z msh α σ' (some (.int r)) H locs (F0 m 0 ls []) := by
  have hx := Cx.1
  have hb := Cx.2.1
  have hown := Cx.2.2.2.2.1
  have hts := Cx.2.2.2.2.2.1
  rw [f_X9_back] at hf
  refine lv_aload_n (pc := 0) hx hb dX9_back_0 rfl (lv_at hl 0 rfl) ?_
  refine lv_iload_n (pc := 1) hx hb dX9_back_1 rfl (lv_at hl 1 rfl) ?_
  obtain ⟨x2, hc1, hf⟩ := um_bi hf
  refine um_cVi (pc := 2) (As := [.int a1]) (rest := []) Cx (c_X9_isMan a1 hc1) kV_X9_isMan (Or.inl qM_X9_101) hW hS ms_0 rfl rfl hl rfl (Nat.le_of_ble_eq_true rfl) (Nat.le_of_ble_eq_true rfl) (Nat.le_of_ble_eq_true rfl) dX9_back_2 (Nat.le_refl _) (Nat.le_refl _) ?_
  clear hW hS hc1
  intro H locs hW hS
  refine lv_if_ne (pc := 5) (tgt := 11) hx hb dX9_back_5 (by decide) (fun c1 => ?_) (fun c1 => ?_)
  · have hf := um_ie c1 hf
    clear c1
    refine lv_aload_n (pc := 11) hx hb dX9_back_11 rfl (lv_at hl 0 rfl) ?_
    refine lv_iload_n (pc := 12) hx hb dX9_back_12 rfl (lv_at hl 1 rfl) ?_
    obtain ⟨x4, hc3, hf⟩ := um_bi hf
    refine um_cVi (pc := 13) (As := [.int a1]) (rest := []) Cx (c_X9_kindOf a1 hc3) kV_X9_kindOf (Or.inl qM_X9_77) hW hS ms_0 rfl rfl hl rfl (Nat.le_of_ble_eq_true rfl) (Nat.le_of_ble_eq_true rfl) (Nat.le_of_ble_eq_true rfl) dX9_back_13 (Nat.le_refl _) (Nat.le_refl _) ?_
    clear hW hS hc3
    intro H locs hW hS
    refine lv_iconst (pc := 16) (v := (2 : Int32)) hx hb dX9_back_16 (by decide) ?_
    refine lv_icmp_eq (pc := 17) (tgt := 23) hx hb dX9_back_17 (by decide) (fun c1 => ?_) (fun c1 => ?_)
    · have hf := um_it c1 hf
      clear c1
      refine lv_aload_n (pc := 23) hx hb dX9_back_23 rfl (lv_at hl 0 rfl) ?_
      refine lv_iload_n (pc := 24) hx hb dX9_back_24 rfl (lv_at hl 1 rfl) ?_
      obtain ⟨x6, hc5, hf⟩ := um_bi hf
      refine um_cVi (pc := 25) (As := [.int a1]) (rest := []) Cx (c_X9_isDead a1 hc5) kV_X9_isDead (Or.inl qM_X9_70) hW hS ms_0 rfl rfl hl rfl (Nat.le_of_ble_eq_true rfl) (Nat.le_of_ble_eq_true rfl) (Nat.le_of_ble_eq_true rfl) dX9_back_25 (Nat.le_refl _) (Nat.le_refl _) ?_
      clear hW hS hc5
      intro H locs hW hS
      refine lv_if_eq (pc := 28) (tgt := 34) hx hb dX9_back_28 (by decide) (fun c1 => ?_) (fun c1 => ?_)
      · have hf := um_it c1 hf
        clear c1
        refine lv_aload_n (pc := 34) hx hb dX9_back_34 rfl (lv_at hl 0 rfl) ?_
        refine gF_X9_7 (pc := 35) Cx hW ms_0 rfl dX9_back_35 ?_
        refine lv_aload_n (pc := 38) hx hb dX9_back_38 rfl (lv_at hl 0 rfl) ?_
        refine lv_iload_n (pc := 39) hx hb dX9_back_39 rfl (lv_at hl 1 rfl) ?_
        obtain ⟨x8, hc7, hf⟩ := um_bi hf
        refine um_cVi (pc := 40) (As := [.int a1]) (rest := [.ref (α 1)]) Cx (c_X9_manAt a1 hc7) kV_X9_manAt (Or.inl qM_X9_66) hW hS ms_0 rfl rfl hl rfl (Nat.le_of_ble_eq_true rfl) (Nat.le_of_ble_eq_true rfl) (Nat.le_of_ble_eq_true rfl) dX9_back_40 (Nat.le_refl _) (Nat.le_refl _) ?_
        clear hW hS hc7
        intro H locs hW hS
        refine lv_bipush (pc := 43) (v := (6 : Int32)) hx hb dX9_back_43 (by decide) ?_
        refine lv_iadd (pc := 45) hx hb dX9_back_45 ?_
        obtain ⟨g9, hf⟩ := um_gu hf
        refine um_iald (pc := 46) Cx hW ms_1 rfl (um_ix_in g9) dX9_back_46 ?_
        obtain ⟨x10, e11, hf⟩ := um_le hf
        refine um_top e11 ?_
        clear e11
        refine lv_istore_n (pc := 47) (lv' := [(2, .int x10), (0, .ref (α 0)), (1, .int a1)]) hx hb dX9_back_47 rfl hl (by decide) rfl ?_
        clear hl
        intro ls hl
        refine lv_aload_n (pc := 48) hx hb dX9_back_48 rfl (lv_at hl 1 rfl) ?_
        refine lv_iload_n (pc := 49) hx hb dX9_back_49 rfl (lv_at hl 2 rfl) ?_
        refine lv_iconst (pc := 50) (v := (1 : Int32)) hx hb dX9_back_50 (by decide) ?_
        refine lv_iconst (pc := 51) (v := (0 : Int32)) hx hb dX9_back_51 (by decide) ?_
        obtain ⟨σ13, hc12, hf⟩ := um_bi hf
        refine um_cVv (pc := 52) (As := [.int a1, .int (1 : Int32), .int (0 : Int32)]) (rest := []) Cx (c_X9_becomesOf a1 (1 : Int32) (0 : Int32) hc12) kV_X9_becomesOf (Or.inl qM_X9_97) hW hS ms_0 rfl rfl hl rfl (Nat.le_of_ble_eq_true rfl) (Nat.le_of_ble_eq_true rfl) (Nat.le_of_ble_eq_true rfl) dX9_back_52 (Nat.le_refl _) (Nat.le_refl _) ?_
        clear hW hS hc12
        intro H locs hW hS
        refine lv_iload_n (pc := 55) hx hb dX9_back_55 rfl (lv_at hl 0 rfl) ?_
        exact um_iret (pc := 56) Cx hW hS hf dX9_back_56
      · have hf := um_ie c1 hf
        clear c1
        refine lv_ldc (pc := 31) hx hb hown (hts _ qC_X9_106) dX9_back_31 ?_
        exact um_iret (pc := 33) Cx hW hS hf dX9_back_33
    · have hf := um_ie c1 hf
      clear c1
      refine lv_ldc (pc := 20) hx hb hown (hts _ qC_X9_122) dX9_back_20 ?_
      exact um_iret (pc := 22) Cx hW hS hf dX9_back_22
  · have hf := um_it c1 hf
    clear c1
    refine lv_ldc (pc := 8) hx hb hown (hts _ qC_X9_87) dX9_back_8 ?_
    exact um_iret (pc := 10) Cx hW hS hf dX9_back_10
theorem c_X9_back {σ : um_S} {σ' : um_S} {r : Int32} (a1 : Int32)  (hf : f_X9_back a1 σ = some (r, σ')) : um_M l yX9_back cX9_back 3 (some FieldType.int) (2) (46) Z msh α σ [.ref (α 0), .int a1] (some (.int r)) σ' :=
  um_start (by decide) (Nat.le_of_ble_eq_true rfl) (fun p e s m below meth c ls Cx hW hS hl => b_X9_back a1 hf Cx hW hS hl)
noncomputable def f_X9_becomes (a1 : Int32) (a2 : Int32) (σ : um_S) : Option (Int32 × um_S) :=
    if um_ix a1 3790 then
    (um_let (σ.1 1 a1.toNatClampNeg) fun x2 =>
    (if um_ix a1 3790 then
    (um_let (um_wr σ 1 a1.toNatClampNeg a2) fun σ5 =>
    (some (x2, σ5))) else none)) else none
set_option maxRecDepth 100000 in
set_option maxHeartbeats 4000000 in
theorem b_X9_becomes {H : Heap} {locs : List Loc} {ls : Array Slot} {σ : um_S} {σ' : um_S} {r : Int32} (a1 : Int32) (a2 : Int32)  (hf : f_X9_becomes a1 a2 σ = some (r, σ')) (Cx : um_C p s m meth c args cX9_becomes 4 (some FieldType.int) RX9 Z) (hW : um_W Z msh α σ H) (hS : va_S (um_D msh α) s.heap H locs) (hl : lv_has ls 4 [(0, .ref (α 0)), (1, .int a1), (2, .int a2)]) : um_G p l e (0) (0) s m args below meth c Z msh α σ' (some (.int r)) H locs (F0 m 0 ls []) := by
  have hx := Cx.1
  have hb := Cx.2.1
  have hown := Cx.2.2.2.2.1
  have hts := Cx.2.2.2.2.2.1
  rw [f_X9_becomes] at hf
  refine lv_aload_n (pc := 0) hx hb dX9_becomes_0 rfl (lv_at hl 0 rfl) ?_
  refine gF_X9_7 (pc := 1) Cx hW ms_0 rfl dX9_becomes_1 ?_
  refine lv_iload_n (pc := 4) hx hb dX9_becomes_4 rfl (lv_at hl 1 rfl) ?_
  obtain ⟨g1, hf⟩ := um_gu hf
  refine um_iald (pc := 5) Cx hW ms_1 rfl (um_ix_in g1) dX9_becomes_5 ?_
  obtain ⟨x2, e3, hf⟩ := um_le hf
  refine um_top e3 ?_
  clear e3
  refine lv_istore_n (pc := 6) (lv' := [(3, .int x2), (0, .ref (α 0)), (1, .int a1), (2, .int a2)]) hx hb dX9_becomes_6 rfl hl (by decide) rfl ?_
  clear hl
  intro ls hl
  refine lv_aload_n (pc := 7) hx hb dX9_becomes_7 rfl (lv_at hl 1 rfl) ?_
  refine gF_X9_7 (pc := 8) Cx hW ms_0 rfl dX9_becomes_8 ?_
  refine lv_iload_n (pc := 11) hx hb dX9_becomes_11 rfl (lv_at hl 2 rfl) ?_
  refine lv_iload_n (pc := 12) hx hb dX9_becomes_12 rfl (lv_at hl 3 rfl) ?_
  obtain ⟨g4, hf⟩ := um_gu hf
  refine um_iast (pc := 13) Cx hW hS ms_1 rfl (um_ix_in g4) dX9_becomes_13 ?_
  clear hW hS
  intro H locs hW hS
  obtain ⟨σ5, e6, hf⟩ := um_le hf
  rw [← e6] at hW
  clear e6
  refine lv_iload_n (pc := 14) hx hb dX9_becomes_14 rfl (lv_at hl 0 rfl) ?_
  exact um_iret (pc := 15) Cx hW hS hf dX9_becomes_15
theorem c_X9_becomes {σ : um_S} {σ' : um_S} {r : Int32} (a1 : Int32) (a2 : Int32)  (hf : f_X9_becomes a1 a2 σ = some (r, σ')) : um_M l yX9_becomes cX9_becomes 4 (some FieldType.int) (0) (0) Z msh α σ [.ref (α 0), .int a1, .int a2] (some (.int r)) σ' :=
  um_start (by decide) (Nat.le_of_ble_eq_true rfl) (fun p e s m below meth c ls Cx hW hS hl => b_X9_becomes a1 a2 hf Cx hW hS hl)
noncomputable def f_X9_ones_l4 (v0 : Int32) (σ : um_S) : Nat → Int32 → Int32 → Option (Int32)
  | 0, _, _ => none
  | n + 1, v1, v2 =>
    if (14 : Int32) ≤ v2 then
    (some v1)
    else
    (um_let (v1 + ((v0 >>> (v2 &&& 31)) &&& (1 : Int32))) fun x1 =>
    (f_X9_ones_l4 v0 σ n x1 (v2 + (1 : Int32))))
noncomputable def f_X9_ones (a0 : Int32) (σ : um_S) : Option (Int32) :=
    (f_X9_ones_l4 a0 σ um_N (0 : Int32) (0 : Int32)).bind fun x1 =>
    (some x1)
set_option maxRecDepth 100000 in
set_option maxHeartbeats 4000000 in
theorem t_X9_ones_l4 {Q : State → Prop} {o1 : Int32} {σ : um_S} (v0 : Int32)  (Cx : um_C p s m meth c args cX9_ones 3 (some FieldType.int) RX9 Z) (hE : ∀ (H : Heap) (locs : List Loc) (ls : Array Slot), um_W Z msh α σ H → va_S (um_D msh α) s.heap H locs → lv_has ls 3 [(1, .int o1)] → W p l e { frames := 0, cells := 0, slots := 0, locals := 0 } s m args below meth c H locs 0 0 Q (F0 m 24 ls [])) : ∀ (n : Nat) (v1 : Int32) (v2 : Int32) (H : Heap) (locs : List Loc) (ls : Array Slot), f_X9_ones_l4 v0 σ n v1 v2 = some o1 → um_W Z msh α σ H → va_S (um_D msh α) s.heap H locs → lv_has ls 3 [(0, .int v0), (1, .int v1), (2, .int v2)] → W p l e { frames := 0, cells := 0, slots := 0, locals := 0 } s m args below meth c H locs 0 0 Q (F0 m 4 ls []) := by
  have hx := Cx.1
  have hb := Cx.2.1
  have hown := Cx.2.2.2.2.1
  have hts := Cx.2.2.2.2.2.1
  intro n
  induction n with
  | zero =>
    intro v1 v2 H locs ls hf hW hS hl
    cases hf
  | succ n ih =>
    intro v1 v2 H locs ls hf hW hS hl
    rw [f_X9_ones_l4] at hf
    refine lv_iload_n (pc := 4) hx hb dX9_ones_4 rfl (lv_at hl 2 rfl) ?_
    refine lv_bipush (pc := 5) (v := (14 : Int32)) hx hb dX9_ones_5 (by decide) ?_
    refine lv_icmp_ge (pc := 7) (tgt := 24) hx hb dX9_ones_7 (by decide) (fun c1 => ?_) (fun c1 => ?_)
    · have hf := um_it c1 hf
      clear c1
      cases hf
      exact hE _ _ _ hW hS (lv_sub hl [1] rfl)
    · have hf := um_ie c1 hf
      clear c1
      refine lv_iload_n (pc := 10) hx hb dX9_ones_10 rfl (lv_at hl 1 rfl) ?_
      refine lv_iload_n (pc := 11) hx hb dX9_ones_11 rfl (lv_at hl 0 rfl) ?_
      refine lv_iload_n (pc := 12) hx hb dX9_ones_12 rfl (lv_at hl 2 rfl) ?_
      refine lv_ishr (pc := 13) hx hb dX9_ones_13 ?_
      refine lv_iconst (pc := 14) (v := (1 : Int32)) hx hb dX9_ones_14 (by decide) ?_
      refine lv_iand (pc := 15) hx hb dX9_ones_15 ?_
      refine lv_iadd (pc := 16) hx hb dX9_ones_16 ?_
      obtain ⟨x1, e2, hf⟩ := um_le hf
      refine um_top e2 ?_
      clear e2
      refine lv_istore_n (pc := 17) (lv' := [(1, .int x1), (0, .int v0), (2, .int v2)]) hx hb dX9_ones_17 rfl hl (by decide) rfl ?_
      clear hl
      intro ls hl
      refine lv_iinc (pc := 18) (v := v2 + (1 : Int32)) (lv' := [(2, .int (v2 + (1 : Int32))), (1, .int x1), (0, .int v0)]) hx hb dX9_ones_18 hl (k := 2) rfl rfl (by decide) rfl ?_
      clear hl
      intro ls hl
      refine lv_goto (pc := 21) (tgt := 4) hx hb dX9_ones_21 (by decide) ?_
      exact ih _ _ _ _ _ hf hW hS (lv_sub hl [2, 1, 0] rfl)
set_option maxRecDepth 100000 in
set_option maxHeartbeats 4000000 in
theorem b_X9_ones {H : Heap} {locs : List Loc} {ls : Array Slot} {σ : um_S} {r : Int32} (a0 : Int32)  (hf : f_X9_ones a0 σ = some r) (Cx : um_C p s m meth c args cX9_ones 3 (some FieldType.int) RX9 Z) (hW : um_W Z msh α σ H) (hS : va_S (um_D msh α) s.heap H locs) (hl : lv_has ls 3 [(0, .int a0)]) : um_G p l e (0) (0) s m args below meth c Z msh α σ (some (.int r)) H locs (F0 m 0 ls []) := by
  have hx := Cx.1
  have hb := Cx.2.1
  have hown := Cx.2.2.2.2.1
  have hts := Cx.2.2.2.2.2.1
  rw [f_X9_ones] at hf
  refine lv_iconst (pc := 0) (v := (0 : Int32)) hx hb dX9_ones_0 (by decide) ?_
  refine lv_istore_n (pc := 1) (lv' := [(1, .int (0 : Int32)), (0, .int a0)]) hx hb dX9_ones_1 rfl hl (by decide) rfl ?_
  clear hl
  intro ls hl
  refine lv_iconst (pc := 2) (v := (0 : Int32)) hx hb dX9_ones_2 (by decide) ?_
  refine lv_istore_n (pc := 3) (lv' := [(2, .int (0 : Int32)), (1, .int (0 : Int32)), (0, .int a0)]) hx hb dX9_ones_3 rfl hl (by decide) rfl ?_
  clear hl
  intro ls hl
  obtain ⟨x1, hc2, hf⟩ := um_bi hf
  refine t_X9_ones_l4 a0 Cx ?_ um_N _ _ _ _ _ hc2 hW hS (lv_sub hl [2, 1, 0] rfl)
  clear hW hS hl hc2
  intro H locs ls hW hS hl
  refine lv_iload_n (pc := 24) hx hb dX9_ones_24 rfl (lv_at hl 0 rfl) ?_
  exact um_iretR (pc := 25) Cx hW hS hf dX9_ones_25
theorem c_X9_ones {σ : um_S} {r : Int32} (a0 : Int32)  (hf : f_X9_ones a0 σ = some r) : um_M l yX9_ones cX9_ones 3 (some FieldType.int) (0) (0) Z msh α σ [.int a0] (some (.int r)) σ :=
  um_start (by decide) (Nat.le_of_ble_eq_true rfl) (fun p e s m below meth c ls Cx hW hS hl => b_X9_ones a0 hf Cx hW hS hl)
noncomputable def f_X9_orNone (a0 : Int32) (σ : um_S) : Option (Int32) :=
    if 0 ≤ a0 then
    (some a0)
    else
    (some (-1000000005 : Int32))
set_option maxRecDepth 100000 in
set_option maxHeartbeats 4000000 in
theorem b_X9_orNone {H : Heap} {locs : List Loc} {ls : Array Slot} {σ : um_S} {r : Int32} (a0 : Int32)  (hf : f_X9_orNone a0 σ = some r) (Cx : um_C p s m meth c args cX9_orNone 1 (some FieldType.int) RX9 Z) (hW : um_W Z msh α σ H) (hS : va_S (um_D msh α) s.heap H locs) (hl : lv_has ls 1 [(0, .int a0)]) : um_G p l e (0) (0) s m args below meth c Z msh α σ (some (.int r)) H locs (F0 m 0 ls []) := by
  have hx := Cx.1
  have hb := Cx.2.1
  have hown := Cx.2.2.2.2.1
  have hts := Cx.2.2.2.2.2.1
  rw [f_X9_orNone] at hf
  refine lv_iload_n (pc := 0) hx hb dX9_orNone_0 rfl (lv_at hl 0 rfl) ?_
  refine lv_if_ge (pc := 1) (tgt := 9) hx hb dX9_orNone_1 (by decide) (fun c1 => ?_) (fun c1 => ?_)
  · have hf := um_it c1 hf
    clear c1
    refine lv_iload_n (pc := 9) hx hb dX9_orNone_9 rfl (lv_at hl 0 rfl) ?_
    exact um_iretR (pc := 10) Cx hW hS hf dX9_orNone_10
  · have hf := um_ie c1 hf
    clear c1
    refine lv_ldc (pc := 4) hx hb hown (hts _ qC_X9_59) dX9_orNone_4 ?_
    refine lv_goto (pc := 6) (tgt := 10) hx hb dX9_orNone_6 (by decide) ?_
    exact um_iretR (pc := 10) Cx hW hS hf dX9_orNone_10
theorem c_X9_orNone {σ : um_S} {r : Int32} (a0 : Int32)  (hf : f_X9_orNone a0 σ = some r) : um_M l yX9_orNone cX9_orNone 1 (some FieldType.int) (0) (0) Z msh α σ [.int a0] (some (.int r)) σ :=
  um_start (by decide) (Nat.le_of_ble_eq_true rfl) (fun p e s m below meth c ls Cx hW hS hl => b_X9_orNone a0 hf Cx hW hS hl)
noncomputable def f_X9_votesFor_l4 (v1 : Int32) (σ : um_S) : Nat → Int32 → Int32 → Option (Int32)
  | 0, _, _ => none
  | n + 1, v2, v3 =>
    if (7 : Int32) ≤ v3 then
    (some v2)
    else
    (um_let ((710 : Int32) + ((3 : Int32) * v3)) fun x1 =>
    (if um_ix (x1 + (1 : Int32)) 3790 then
    (if ((σ.1 1 (x1 + (1 : Int32)).toNatClampNeg) &&& (v1 ^^^ (-1 : Int32))) = 0 then
    (if um_ix (x1 + (2 : Int32)) 3790 then
    (if ((σ.1 1 (x1 + (2 : Int32)).toNatClampNeg) &&& v1) = 0 then
    (if um_ix x1 3790 then
    (um_let (v2 + (σ.1 1 x1.toNatClampNeg)) fun x10 =>
    (f_X9_votesFor_l4 v1 σ n x10 (v3 + (1 : Int32)))) else none)
    else
    (um_let (v2 + (0 : Int32)) fun x7 =>
    (f_X9_votesFor_l4 v1 σ n x7 (v3 + (1 : Int32))))) else none)
    else
    (um_let (v2 + (0 : Int32)) fun x4 =>
    (f_X9_votesFor_l4 v1 σ n x4 (v3 + (1 : Int32))))) else none))
noncomputable def f_X9_votesFor (a1 : Int32) (σ : um_S) : Option (Int32) :=
    (f_X9_votesFor_l4 a1 σ um_N (0 : Int32) (0 : Int32)).bind fun x1 =>
    (some x1)
set_option maxRecDepth 100000 in
set_option maxHeartbeats 4000000 in
theorem t_X9_votesFor_l4 {Q : State → Prop} {o2 : Int32} {σ : um_S} (v1 : Int32)  (Cx : um_C p s m meth c args cX9_votesFor 5 (some FieldType.int) RX9 Z) (hE : ∀ (H : Heap) (locs : List Loc) (ls : Array Slot), um_W Z msh α σ H → va_S (um_D msh α) s.heap H locs → lv_has ls 5 [(2, .int o2)] → W p l e { frames := 0, cells := 0, slots := 0, locals := 0 } s m args below meth c H locs 0 0 Q (F0 m 69 ls [])) : ∀ (n : Nat) (v2 : Int32) (v3 : Int32) (H : Heap) (locs : List Loc) (ls : Array Slot), f_X9_votesFor_l4 v1 σ n v2 v3 = some o2 → um_W Z msh α σ H → va_S (um_D msh α) s.heap H locs → lv_has ls 5 [(0, .ref (α 0)), (1, .int v1), (2, .int v2), (3, .int v3)] → W p l e { frames := 0, cells := 0, slots := 0, locals := 0 } s m args below meth c H locs 0 0 Q (F0 m 4 ls []) := by
  have hx := Cx.1
  have hb := Cx.2.1
  have hown := Cx.2.2.2.2.1
  have hts := Cx.2.2.2.2.2.1
  intro n
  induction n with
  | zero =>
    intro v2 v3 H locs ls hf hW hS hl
    cases hf
  | succ n ih =>
    intro v2 v3 H locs ls hf hW hS hl
    rw [f_X9_votesFor_l4] at hf
    refine lv_iload_n (pc := 4) hx hb dX9_votesFor_4 rfl (lv_at hl 3 rfl) ?_
    refine lv_bipush (pc := 5) (v := (7 : Int32)) hx hb dX9_votesFor_5 (by decide) ?_
    refine lv_icmp_ge (pc := 7) (tgt := 69) hx hb dX9_votesFor_7 (by decide) (fun c1 => ?_) (fun c1 => ?_)
    · have hf := um_it c1 hf
      clear c1
      cases hf
      exact hE _ _ _ hW hS (lv_sub hl [2] rfl)
    · have hf := um_ie c1 hf
      clear c1
      refine lv_sipush (pc := 10) (v := (710 : Int32)) hx hb dX9_votesFor_10 (by decide) ?_
      refine lv_iconst (pc := 13) (v := (3 : Int32)) hx hb dX9_votesFor_13 (by decide) ?_
      refine lv_iload_n (pc := 14) hx hb dX9_votesFor_14 rfl (lv_at hl 3 rfl) ?_
      refine lv_imul (pc := 15) hx hb dX9_votesFor_15 ?_
      refine lv_iadd (pc := 16) hx hb dX9_votesFor_16 ?_
      obtain ⟨x1, e2, hf⟩ := um_le hf
      refine um_top e2 ?_
      clear e2
      refine lv_istore (pc := 17) (lv' := [(4, .int x1), (0, .ref (α 0)), (1, .int v1), (2, .int v2), (3, .int v3)]) hx hb dX9_votesFor_17 hl (by decide) rfl ?_
      clear hl
      intro ls hl
      refine lv_iload_n (pc := 19) hx hb dX9_votesFor_19 rfl (lv_at hl 3 rfl) ?_
      refine lv_aload_n (pc := 20) hx hb dX9_votesFor_20 rfl (lv_at hl 1 rfl) ?_
      refine gF_X9_7 (pc := 21) Cx hW ms_0 rfl dX9_votesFor_21 ?_
      refine lv_iload (pc := 24) hx hb dX9_votesFor_24 (lv_at hl 0 rfl) ?_
      refine lv_iconst (pc := 26) (v := (1 : Int32)) hx hb dX9_votesFor_26 (by decide) ?_
      refine lv_iadd (pc := 27) hx hb dX9_votesFor_27 ?_
      obtain ⟨g3, hf⟩ := um_gu hf
      refine um_iald (pc := 28) Cx hW ms_1 rfl (um_ix_in g3) dX9_votesFor_28 ?_
      refine lv_iload_n (pc := 29) hx hb dX9_votesFor_29 rfl (lv_at hl 2 rfl) ?_
      refine lv_iconst (pc := 30) (v := (-1 : Int32)) hx hb dX9_votesFor_30 (by decide) ?_
      refine lv_ixor (pc := 31) hx hb dX9_votesFor_31 ?_
      refine lv_iand (pc := 32) hx hb dX9_votesFor_32 ?_
      refine lv_if_ne (pc := 33) (tgt := 60) hx hb dX9_votesFor_33 (by decide) (fun c1 => ?_) (fun c1 => ?_)
      · have hf := um_ie c1 hf
        clear c1
        refine lv_iconst (pc := 60) (v := (0 : Int32)) hx hb dX9_votesFor_60 (by decide) ?_
        refine lv_iadd (pc := 61) hx hb dX9_votesFor_61 ?_
        obtain ⟨x4, e5, hf⟩ := um_le hf
        refine um_top e5 ?_
        clear e5
        refine lv_istore_n (pc := 62) (lv' := [(2, .int x4), (4, .int x1), (0, .ref (α 0)), (1, .int v1), (3, .int v3)]) hx hb dX9_votesFor_62 rfl hl (by decide) rfl ?_
        clear hl
        intro ls hl
        refine lv_iinc (pc := 63) (v := v3 + (1 : Int32)) (lv' := [(3, .int (v3 + (1 : Int32))), (2, .int x4), (4, .int x1), (0, .ref (α 0)), (1, .int v1)]) hx hb dX9_votesFor_63 hl (k := 4) rfl rfl (by decide) rfl ?_
        clear hl
        intro ls hl
        refine lv_goto (pc := 66) (tgt := 4) hx hb dX9_votesFor_66 (by decide) ?_
        exact ih _ _ _ _ _ hf hW hS (lv_sub hl [3, 4, 1, 0] rfl)
      · have hf := um_it c1 hf
        clear c1
        refine lv_aload_n (pc := 36) hx hb dX9_votesFor_36 rfl (lv_at hl 1 rfl) ?_
        refine gF_X9_7 (pc := 37) Cx hW ms_0 rfl dX9_votesFor_37 ?_
        refine lv_iload (pc := 40) hx hb dX9_votesFor_40 (lv_at hl 0 rfl) ?_
        refine lv_iconst (pc := 42) (v := (2 : Int32)) hx hb dX9_votesFor_42 (by decide) ?_
        refine lv_iadd (pc := 43) hx hb dX9_votesFor_43 ?_
        obtain ⟨g6, hf⟩ := um_gu hf
        refine um_iald (pc := 44) Cx hW ms_1 rfl (um_ix_in g6) dX9_votesFor_44 ?_
        refine lv_iload_n (pc := 45) hx hb dX9_votesFor_45 rfl (lv_at hl 2 rfl) ?_
        refine lv_iand (pc := 46) hx hb dX9_votesFor_46 ?_
        refine lv_if_ne (pc := 47) (tgt := 60) hx hb dX9_votesFor_47 (by decide) (fun c1 => ?_) (fun c1 => ?_)
        · have hf := um_ie c1 hf
          clear c1
          refine lv_iconst (pc := 60) (v := (0 : Int32)) hx hb dX9_votesFor_60 (by decide) ?_
          refine lv_iadd (pc := 61) hx hb dX9_votesFor_61 ?_
          obtain ⟨x7, e8, hf⟩ := um_le hf
          refine um_top e8 ?_
          clear e8
          refine lv_istore_n (pc := 62) (lv' := [(2, .int x7), (4, .int x1), (0, .ref (α 0)), (1, .int v1), (3, .int v3)]) hx hb dX9_votesFor_62 rfl hl (by decide) rfl ?_
          clear hl
          intro ls hl
          refine lv_iinc (pc := 63) (v := v3 + (1 : Int32)) (lv' := [(3, .int (v3 + (1 : Int32))), (2, .int x7), (4, .int x1), (0, .ref (α 0)), (1, .int v1)]) hx hb dX9_votesFor_63 hl (k := 4) rfl rfl (by decide) rfl ?_
          clear hl
          intro ls hl
          refine lv_goto (pc := 66) (tgt := 4) hx hb dX9_votesFor_66 (by decide) ?_
          exact ih _ _ _ _ _ hf hW hS (lv_sub hl [3, 4, 1, 0] rfl)
        · have hf := um_it c1 hf
          clear c1
          refine lv_aload_n (pc := 50) hx hb dX9_votesFor_50 rfl (lv_at hl 1 rfl) ?_
          refine gF_X9_7 (pc := 51) Cx hW ms_0 rfl dX9_votesFor_51 ?_
          refine lv_iload (pc := 54) hx hb dX9_votesFor_54 (lv_at hl 0 rfl) ?_
          obtain ⟨g9, hf⟩ := um_gu hf
          refine um_iald (pc := 56) Cx hW ms_1 rfl (um_ix_in g9) dX9_votesFor_56 ?_
          refine lv_goto (pc := 57) (tgt := 61) hx hb dX9_votesFor_57 (by decide) ?_
          refine lv_iadd (pc := 61) hx hb dX9_votesFor_61 ?_
          obtain ⟨x10, e11, hf⟩ := um_le hf
          refine um_top e11 ?_
          clear e11
          refine lv_istore_n (pc := 62) (lv' := [(2, .int x10), (4, .int x1), (0, .ref (α 0)), (1, .int v1), (3, .int v3)]) hx hb dX9_votesFor_62 rfl hl (by decide) rfl ?_
          clear hl
          intro ls hl
          refine lv_iinc (pc := 63) (v := v3 + (1 : Int32)) (lv' := [(3, .int (v3 + (1 : Int32))), (2, .int x10), (4, .int x1), (0, .ref (α 0)), (1, .int v1)]) hx hb dX9_votesFor_63 hl (k := 4) rfl rfl (by decide) rfl ?_
          clear hl
          intro ls hl
          refine lv_goto (pc := 66) (tgt := 4) hx hb dX9_votesFor_66 (by decide) ?_
          exact ih _ _ _ _ _ hf hW hS (lv_sub hl [3, 4, 1, 0] rfl)
set_option maxRecDepth 100000 in
set_option maxHeartbeats 4000000 in
theorem b_X9_votesFor {H : Heap} {locs : List Loc} {ls : Array Slot} {σ : um_S} {r : Int32} (a1 : Int32)  (hf : f_X9_votesFor a1 σ = some r) (Cx : um_C p s m meth c args cX9_votesFor 5 (some FieldType.int) RX9 Z) (hW : um_W Z msh α σ H) (hS : va_S (um_D msh α) s.heap H locs) (hl : lv_has ls 5 [(0, .ref (α 0)), (1, .int a1)]) : um_G p l e (0) (0) s m args below meth c Z msh α σ (some (.int r)) H locs (F0 m 0 ls []) := by
  have hx := Cx.1
  have hb := Cx.2.1
  have hown := Cx.2.2.2.2.1
  have hts := Cx.2.2.2.2.2.1
  rw [f_X9_votesFor] at hf
  refine lv_iconst (pc := 0) (v := (0 : Int32)) hx hb dX9_votesFor_0 (by decide) ?_
  refine lv_istore_n (pc := 1) (lv' := [(2, .int (0 : Int32)), (0, .ref (α 0)), (1, .int a1)]) hx hb dX9_votesFor_1 rfl hl (by decide) rfl ?_
  clear hl
  intro ls hl
  refine lv_iconst (pc := 2) (v := (0 : Int32)) hx hb dX9_votesFor_2 (by decide) ?_
  refine lv_istore_n (pc := 3) (lv' := [(3, .int (0 : Int32)), (2, .int (0 : Int32)), (0, .ref (α 0)), (1, .int a1)]) hx hb dX9_votesFor_3 rfl hl (by decide) rfl ?_
  clear hl
  intro ls hl
  obtain ⟨x1, hc2, hf⟩ := um_bi hf
  refine t_X9_votesFor_l4 a1 Cx ?_ um_N _ _ _ _ _ hc2 hW hS (lv_sub hl [2, 3, 1, 0] rfl)
  clear hW hS hl hc2
  intro H locs ls hW hS hl
  refine lv_iload_n (pc := 69) hx hb dX9_votesFor_69 rfl (lv_at hl 0 rfl) ?_
  exact um_iretR (pc := 70) Cx hW hS hf dX9_votesFor_70
theorem c_X9_votesFor {σ : um_S} {r : Int32} (a1 : Int32)  (hf : f_X9_votesFor a1 σ = some r) : um_M l yX9_votesFor cX9_votesFor 5 (some FieldType.int) (0) (0) Z msh α σ [.ref (α 0), .int a1] (some (.int r)) σ :=
  um_start (by decide) (Nat.le_of_ble_eq_true rfl) (fun p e s m below meth c ls Cx hW hS hl => b_X9_votesFor a1 hf Cx hW hS hl)
noncomputable def f_X9_carries_l19 (v1 : Int32) (σ : um_S) : Nat → Int32 → Int32 → Option (Int32)
  | 0, _, _ => none
  | n + 1, v2, v3 =>
    if (256 : Int32) ≤ v3 then
    (some v2)
    else
    ((f_X9_votesFor v3 σ).bind fun x2 =>
    (if x2 < v1 then
    (f_X9_carries_l19 v1 σ n v2 (v3 + (1 : Int32)))
    else
    (if v2 < 0 then
    (f_X9_carries_l19 v1 σ n v3 (v3 + (1 : Int32)))
    else
    ((f_X9_ones v3 σ).bind fun x4 =>
    ((f_X9_ones v2 σ).bind fun x6 =>
    (if x6 ≤ x4 then
    (f_X9_carries_l19 v1 σ n v2 (v3 + (1 : Int32)))
    else
    (f_X9_carries_l19 v1 σ n v3 (v3 + (1 : Int32)))))))))
noncomputable def f_X9_carries (a1 : Int32) (σ : um_S) : Option (Int32) :=
    (f_X9_isIn (a1.toInt64) (1 : Int64) (999 : Int64) σ).bind fun x2 =>
    (if (um_b x2) = 0 then
    (some (-1000000001 : Int32))
    else
    ((f_X9_carries_l19 a1 σ um_N (-1 : Int32) (0 : Int32)).bind fun x3 =>
    ((f_X9_orNone x3 σ).bind fun x6 =>
    (some x6))))
set_option maxRecDepth 100000 in
set_option maxHeartbeats 4000000 in
theorem t_X9_carries_l19 {Q : State → Prop} {o2 : Int32} {σ : um_S} (v1 : Int32)  (Cx : um_C p s m meth c args cX9_carries 4 (some FieldType.int) RX9 Z) (hE : ∀ (H : Heap) (locs : List Loc) (ls : Array Slot), um_W Z msh α σ H → va_S (um_D msh α) s.heap H locs → lv_has ls 4 [(2, .int o2)] → W p l e { frames := 1, cells := 0, slots := 0, locals := 25 } s m args below meth c H locs 0 0 Q (F0 m 62 ls [])) : ∀ (n : Nat) (v2 : Int32) (v3 : Int32) (H : Heap) (locs : List Loc) (ls : Array Slot), f_X9_carries_l19 v1 σ n v2 v3 = some o2 → um_W Z msh α σ H → va_S (um_D msh α) s.heap H locs → lv_has ls 4 [(0, .ref (α 0)), (1, .int v1), (2, .int v2), (3, .int v3)] → W p l e { frames := 1, cells := 0, slots := 0, locals := 25 } s m args below meth c H locs 0 0 Q (F0 m 19 ls []) := by
  have hx := Cx.1
  have hb := Cx.2.1
  have hown := Cx.2.2.2.2.1
  have hts := Cx.2.2.2.2.2.1
  intro n
  induction n with
  | zero =>
    intro v2 v3 H locs ls hf hW hS hl
    cases hf
  | succ n ih =>
    intro v2 v3 H locs ls hf hW hS hl
    rw [f_X9_carries_l19] at hf
    refine lv_iload_n (pc := 19) hx hb dX9_carries_19 rfl (lv_at hl 3 rfl) ?_
    refine lv_sipush (pc := 20) (v := (256 : Int32)) hx hb dX9_carries_20 (by decide) ?_
    refine lv_icmp_ge (pc := 23) (tgt := 62) hx hb dX9_carries_23 (by decide) (fun c1 => ?_) (fun c1 => ?_)
    · have hf := um_it c1 hf
      clear c1
      cases hf
      exact hE _ _ _ hW hS (lv_sub hl [2] rfl)
    · have hf := um_ie c1 hf
      clear c1
      refine lv_aload_n (pc := 26) hx hb dX9_carries_26 rfl (lv_at hl 0 rfl) ?_
      refine lv_iload_n (pc := 27) hx hb dX9_carries_27 rfl (lv_at hl 3 rfl) ?_
      obtain ⟨x2, hc1, hf⟩ := um_bi hf
      refine um_cVi (pc := 28) (As := [.int v3]) (rest := []) Cx (c_X9_votesFor v3 hc1) kV_X9_votesFor (Or.inl qM_X9_365) hW hS ms_0 rfl rfl hl rfl (Nat.le_of_ble_eq_true rfl) (Nat.le_of_ble_eq_true rfl) (Nat.le_of_ble_eq_true rfl) dX9_carries_28 (Nat.le_refl _) (Nat.le_refl _) ?_
      clear hW hS hc1
      intro H locs hW hS
      refine lv_iload_n (pc := 31) hx hb dX9_carries_31 rfl (lv_at hl 1 rfl) ?_
      refine lv_icmp_lt (pc := 32) (tgt := 54) hx hb dX9_carries_32 (by decide) (fun c1 => ?_) (fun c1 => ?_)
      · have hf := um_it c1 hf
        clear c1
        refine lv_iload_n (pc := 54) hx hb dX9_carries_54 rfl (lv_at hl 2 rfl) ?_
        refine lv_istore_n (pc := 55) (lv' := [(2, .int v2), (0, .ref (α 0)), (1, .int v1), (3, .int v3)]) hx hb dX9_carries_55 rfl hl (by decide) rfl ?_
        clear hl
        intro ls hl
        refine lv_iinc (pc := 56) (v := v3 + (1 : Int32)) (lv' := [(3, .int (v3 + (1 : Int32))), (2, .int v2), (0, .ref (α 0)), (1, .int v1)]) hx hb dX9_carries_56 hl (k := 3) rfl rfl (by decide) rfl ?_
        clear hl
        intro ls hl
        refine lv_goto (pc := 59) (tgt := 19) hx hb dX9_carries_59 (by decide) ?_
        exact ih _ _ _ _ _ hf hW hS (lv_sub hl [2, 3, 1, 0] rfl)
      · have hf := um_ie c1 hf
        clear c1
        refine lv_iload_n (pc := 35) hx hb dX9_carries_35 rfl (lv_at hl 2 rfl) ?_
        refine lv_if_lt (pc := 36) (tgt := 50) hx hb dX9_carries_36 (by decide) (fun c1 => ?_) (fun c1 => ?_)
        · have hf := um_it c1 hf
          clear c1
          refine lv_iload_n (pc := 50) hx hb dX9_carries_50 rfl (lv_at hl 3 rfl) ?_
          refine lv_goto (pc := 51) (tgt := 55) hx hb dX9_carries_51 (by decide) ?_
          refine lv_istore_n (pc := 55) (lv' := [(2, .int v3), (0, .ref (α 0)), (1, .int v1), (3, .int v3)]) hx hb dX9_carries_55 rfl hl (by decide) rfl ?_
          clear hl
          intro ls hl
          refine lv_iinc (pc := 56) (v := v3 + (1 : Int32)) (lv' := [(3, .int (v3 + (1 : Int32))), (2, .int v3), (0, .ref (α 0)), (1, .int v1)]) hx hb dX9_carries_56 hl (k := 3) rfl rfl (by decide) rfl ?_
          clear hl
          intro ls hl
          refine lv_goto (pc := 59) (tgt := 19) hx hb dX9_carries_59 (by decide) ?_
          exact ih _ _ _ _ _ hf hW hS (lv_sub hl [2, 3, 1, 0] rfl)
        · have hf := um_ie c1 hf
          clear c1
          refine lv_iload_n (pc := 39) hx hb dX9_carries_39 rfl (lv_at hl 3 rfl) ?_
          obtain ⟨x4, hc3, hf⟩ := um_bi hf
          refine um_cSi (pc := 40) (As := [.int v3]) (rest := []) Cx (c_X9_ones v3 hc3) kS_X9_ones (Or.inl qM_X9_323) hW hS rfl hl rfl (Nat.le_of_ble_eq_true rfl) (Nat.le_of_ble_eq_true rfl) (Nat.le_of_ble_eq_true rfl) dX9_carries_40 (Nat.le_refl _) (Nat.le_refl _) ?_
          clear hW hS hc3
          intro H locs hW hS
          refine lv_iload_n (pc := 43) hx hb dX9_carries_43 rfl (lv_at hl 2 rfl) ?_
          obtain ⟨x6, hc5, hf⟩ := um_bi hf
          refine um_cSi (pc := 44) (As := [.int v2]) (rest := [.int x4]) Cx (c_X9_ones v2 hc5) kS_X9_ones (Or.inl qM_X9_323) hW hS rfl hl rfl (Nat.le_of_ble_eq_true rfl) (Nat.le_of_ble_eq_true rfl) (Nat.le_of_ble_eq_true rfl) dX9_carries_44 (Nat.le_refl _) (Nat.le_refl _) ?_
          clear hW hS hc5
          intro H locs hW hS
          refine lv_icmp_ge (pc := 47) (tgt := 54) hx hb dX9_carries_47 (by decide) (fun c1 => ?_) (fun c1 => ?_)
          · have hf := um_it c1 hf
            clear c1
            refine lv_iload_n (pc := 54) hx hb dX9_carries_54 rfl (lv_at hl 2 rfl) ?_
            refine lv_istore_n (pc := 55) (lv' := [(2, .int v2), (0, .ref (α 0)), (1, .int v1), (3, .int v3)]) hx hb dX9_carries_55 rfl hl (by decide) rfl ?_
            clear hl
            intro ls hl
            refine lv_iinc (pc := 56) (v := v3 + (1 : Int32)) (lv' := [(3, .int (v3 + (1 : Int32))), (2, .int v2), (0, .ref (α 0)), (1, .int v1)]) hx hb dX9_carries_56 hl (k := 3) rfl rfl (by decide) rfl ?_
            clear hl
            intro ls hl
            refine lv_goto (pc := 59) (tgt := 19) hx hb dX9_carries_59 (by decide) ?_
            exact ih _ _ _ _ _ hf hW hS (lv_sub hl [2, 3, 1, 0] rfl)
          · have hf := um_ie c1 hf
            clear c1
            refine lv_iload_n (pc := 50) hx hb dX9_carries_50 rfl (lv_at hl 3 rfl) ?_
            refine lv_goto (pc := 51) (tgt := 55) hx hb dX9_carries_51 (by decide) ?_
            refine lv_istore_n (pc := 55) (lv' := [(2, .int v3), (0, .ref (α 0)), (1, .int v1), (3, .int v3)]) hx hb dX9_carries_55 rfl hl (by decide) rfl ?_
            clear hl
            intro ls hl
            refine lv_iinc (pc := 56) (v := v3 + (1 : Int32)) (lv' := [(3, .int (v3 + (1 : Int32))), (2, .int v3), (0, .ref (α 0)), (1, .int v1)]) hx hb dX9_carries_56 hl (k := 3) rfl rfl (by decide) rfl ?_
            clear hl
            intro ls hl
            refine lv_goto (pc := 59) (tgt := 19) hx hb dX9_carries_59 (by decide) ?_
            exact ih _ _ _ _ _ hf hW hS (lv_sub hl [2, 3, 1, 0] rfl)
set_option maxRecDepth 100000 in
set_option maxHeartbeats 4000000 in
theorem b_X9_carries {H : Heap} {locs : List Loc} {ls : Array Slot} {σ : um_S} {r : Int32} (a1 : Int32)  (hf : f_X9_carries a1 σ = some r) (Cx : um_C p s m meth c args cX9_carries 4 (some FieldType.int) RX9 Z) (hW : um_W Z msh α σ H) (hS : va_S (um_D msh α) s.heap H locs) (hl : lv_has ls 4 [(0, .ref (α 0)), (1, .int a1)]) : um_G p l e (1) (25) s m args below meth c Z msh α σ (some (.int r)) H locs (F0 m 0 ls []) := by
  have hx := Cx.1
  have hb := Cx.2.1
  have hown := Cx.2.2.2.2.1
  have hts := Cx.2.2.2.2.2.1
  rw [f_X9_carries] at hf
  refine lv_iload_n (pc := 0) hx hb dX9_carries_0 rfl (lv_at hl 1 rfl) ?_
  refine lv_i2l (pc := 1) hx hb dX9_carries_1 rfl ?_
  refine lv_lconst (pc := 2) (v := (1 : Int64)) hx hb dX9_carries_2 (by decide) ?_
  refine lv_ldc2 (pc := 3) hx hb hown (hts _ qL_X9_104) dX9_carries_3 ?_
  obtain ⟨x2, hc1, hf⟩ := um_bi hf
  refine um_cSi (pc := 6) (As := [.long (a1.toInt64), .long (1 : Int64), .long (999 : Int64)]) (rest := []) Cx (c_X9_isIn (a1.toInt64) (1 : Int64) (999 : Int64) hc1) kS_X9_isIn (Or.inl qM_X9_60) hW hS rfl hl rfl (Nat.le_of_ble_eq_true rfl) (Nat.le_of_ble_eq_true rfl) (Nat.le_of_ble_eq_true rfl) dX9_carries_6 (Nat.le_refl _) (Nat.le_refl _) ?_
  clear hW hS hc1
  intro H locs hW hS
  refine lv_if_ne (pc := 9) (tgt := 15) hx hb dX9_carries_9 (by decide) (fun c1 => ?_) (fun c1 => ?_)
  · have hf := um_ie c1 hf
    clear c1
    refine lv_iconst (pc := 15) (v := (-1 : Int32)) hx hb dX9_carries_15 (by decide) ?_
    refine lv_istore_n (pc := 16) (lv' := [(2, .int (-1 : Int32)), (0, .ref (α 0)), (1, .int a1)]) hx hb dX9_carries_16 rfl hl (by decide) rfl ?_
    clear hl
    intro ls hl
    refine lv_iconst (pc := 17) (v := (0 : Int32)) hx hb dX9_carries_17 (by decide) ?_
    refine lv_istore_n (pc := 18) (lv' := [(3, .int (0 : Int32)), (2, .int (-1 : Int32)), (0, .ref (α 0)), (1, .int a1)]) hx hb dX9_carries_18 rfl hl (by decide) rfl ?_
    clear hl
    intro ls hl
    obtain ⟨x3, hc4, hf⟩ := um_bi hf
    refine t_X9_carries_l19 a1 Cx ?_ um_N _ _ _ _ _ hc4 hW hS (lv_sub hl [2, 3, 1, 0] rfl)
    clear hW hS hl hc4
    intro H locs ls hW hS hl
    refine lv_iload_n (pc := 62) hx hb dX9_carries_62 rfl (lv_at hl 0 rfl) ?_
    obtain ⟨x6, hc5, hf⟩ := um_bi hf
    refine um_cSi (pc := 63) (As := [.int x3]) (rest := []) Cx (c_X9_orNone x3 hc5) kS_X9_orNone (Or.inl qM_X9_119) hW hS rfl hl rfl (Nat.le_of_ble_eq_true rfl) (Nat.le_of_ble_eq_true rfl) (Nat.le_of_ble_eq_true rfl) dX9_carries_63 (Nat.le_refl _) (Nat.le_refl _) ?_
    clear hW hS hc5
    intro H locs hW hS
    exact um_iretR (pc := 66) Cx hW hS hf dX9_carries_66
  · have hf := um_it c1 hf
    clear c1
    refine lv_ldc (pc := 12) hx hb hown (hts _ qC_X9_87) dX9_carries_12 ?_
    exact um_iretR (pc := 14) Cx hW hS hf dX9_carries_14
theorem c_X9_carries {σ : um_S} {r : Int32} (a1 : Int32)  (hf : f_X9_carries a1 σ = some r) : um_M l yX9_carries cX9_carries 4 (some FieldType.int) (1) (25) Z msh α σ [.ref (α 0), .int a1] (some (.int r)) σ :=
  um_start (by decide) (Nat.le_of_ble_eq_true rfl) (fun p e s m below meth c ls Cx hW hS hl => b_X9_carries a1 hf Cx hW hS hl)
noncomputable def f_X9_markAt (a1 : Int32) (σ : um_S) : Option (Int32) :=
    some ((280 : Int32) + ((4 : Int32) * a1))
set_option maxRecDepth 100000 in
set_option maxHeartbeats 4000000 in
theorem b_X9_markAt {H : Heap} {locs : List Loc} {ls : Array Slot} {σ : um_S} {r : Int32} (a1 : Int32)  (hf : f_X9_markAt a1 σ = some r) (Cx : um_C p s m meth c args cX9_markAt 2 (some FieldType.int) RX9 Z) (hW : um_W Z msh α σ H) (hS : va_S (um_D msh α) s.heap H locs) (hl : lv_has ls 2 [(0, .ref (α 0)), (1, .int a1)]) : um_G p l e (0) (0) s m args below meth c Z msh α σ (some (.int r)) H locs (F0 m 0 ls []) := by
  have hx := Cx.1
  have hb := Cx.2.1
  have hown := Cx.2.2.2.2.1
  have hts := Cx.2.2.2.2.2.1
  rw [f_X9_markAt] at hf
  refine lv_sipush (pc := 0) (v := (280 : Int32)) hx hb dX9_markAt_0 (by decide) ?_
  refine lv_iconst (pc := 3) (v := (4 : Int32)) hx hb dX9_markAt_3 (by decide) ?_
  refine lv_iload_n (pc := 4) hx hb dX9_markAt_4 rfl (lv_at hl 1 rfl) ?_
  refine lv_imul (pc := 5) hx hb dX9_markAt_5 ?_
  refine lv_iadd (pc := 6) hx hb dX9_markAt_6 ?_
  exact um_iretR (pc := 7) Cx hW hS hf dX9_markAt_7
theorem c_X9_markAt {σ : um_S} {r : Int32} (a1 : Int32)  (hf : f_X9_markAt a1 σ = some r) : um_M l yX9_markAt cX9_markAt 2 (some FieldType.int) (0) (0) Z msh α σ [.ref (α 0), .int a1] (some (.int r)) σ :=
  um_start (by decide) (Nat.le_of_ble_eq_true rfl) (fun p e s m below meth c ls Cx hW hS hl => b_X9_markAt a1 hf Cx hW hS hl)
