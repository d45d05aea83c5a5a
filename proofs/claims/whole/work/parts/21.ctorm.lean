/-! the reference's constructor -/
def um_m0 : um_S := um_wr (um_wr (um_wr (um_wr um_z0 4 0 (-1)) 4 1 (-1)) 4 2 (-1)) 4 3 (-1)
theorem ms_lt {k : Nat} {u : um_Sh} (h : msh k = some u) : k < 17 := by
  by_cases hk : k < 17
  · exact hk
  · exfalso
    obtain ⟨j, rfl⟩ : ∃ j, k = j + 17 := ⟨k - 17, by omega⟩
    cases h
theorem ms_F {acc : Nat → Option um_Sh} (h : (List.range 17).all (fun i => decide (acc i = msh i)) = true) : ∀ i u, msh i = some u → acc i = some u := fun i u hi => by
  rw [of_decide_eq_true (List.all_eq_true.mp h i (List.mem_range.mpr (ms_lt hi)))]
  exact hi
def clM : Bool := (List.range 17).all (fun k => match msh k with
  | some (.inr (_, fl)) => fl.all (fun f => match f with
    | some (.inl q) => (msh q).isSome
    | _ => true)
  | _ => true)
theorem ms_cl : um_cl msh := fun k ci fl hk q hq => by
  have h : clM = true := by decide
  have h1 := List.all_eq_true.mp h k (List.mem_range.mpr (ms_lt hk))
  rw [hk] at h1
  have h2 := List.all_eq_true.mp h1 _ hq
  exact Option.isSome_iff_exists.mp h2
section WST
variable {p : Program} {l : Launch} {e : Env} {R : Room} {s : State} {m : MethodId} {args : Array Value} {below : List Frame} {meth : Method} {c : Code} {H : Heap} {locs : List Loc} {cells slots : Nat} {Q : State → Prop}
variable {cc : ByteArray} {nL pc : Nat} {ret : Option FieldType} {own : String} {Z : um_Z} {ls : Array Slot} {rest : List Value}
theorem um_wst {q n j : Nat} {σ : um_S} {sh : Nat → Option um_Sh} {α : Nat → Nat} {A : Nat → Prop} {i x : Int32} (Cx : um_C p s m meth c args cc nL ret own Z) (hW : um_W Z sh α σ H) (hS : va_S A s.heap H locs) (hA : ∀ q, um_D sh α q → A q) (hs : sh q = some (.inl (0, some n))) (hin : vp_in i n) (hj : i.toNatClampNeg = j) (hdg : decode cc pc = .ok (.iastore, 1))
    (kk : ∀ (H1 : Heap) (locs1 : List Loc), um_W Z sh α (um_wr σ q j x) H1 → va_S A s.heap H1 locs1 → W p l e R s m args below meth c H1 locs1 cells slots Q (F0 m (pc + 1) ls rest)) : W p l e R s m args below meth c H locs cells slots Q (F0 m pc ls (.int x :: .int i :: .ref (α q) :: rest)) := by
  subst hj
  refine W.iast Cx.1 Cx.2.1 (um_cell hW hs (by decide) rfl) (um_ta Cx.2.2.2.2.2.2.2.1 0 rfl) (fun q => by cases q) (by rw [arrV_size]; exact hin) rfl rfl hdg fun H1 e z oq => ?_
  exact kk H1 _ (um_stn hW hs (by decide) rfl e oq) (hS.put z oq (hA _ ⟨q, _, hs, rfl⟩))
end WST
section CTM
variable {l : Launch} {Z : um_Z} {h0 sz : Nat}
set_option maxRecDepth 100000 in
set_option maxHeartbeats 4000000 in
theorem c_X9_init : um_K l yX9_init cX9_init 2 1 30 16 11982 Z h0 8 [.null, .null, .null, .int 0, .null, .null, .null, .null, .int 0, .int 0, .int 0, .int 0, .int 0, .int 0, .int 0, .int 0, .int 0, .int 0, .int 0, .null, .null, .null, .null, .null, .null, .null, .null, .int 0, .null] [] sz (um_KB Z msh 0 h0 sz um_m0) := by
  refine um_kstart (by decide) rfl (Nat.le_of_ble_eq_true rfl) ?_
  intro p e s m below meth c ls Cx hin hsz hb0 hbs hat hl
  have hx := Cx.1
  have hb := Cx.2.1
  have hl : lv_has ls 2 [(0, .ref h0)] := hl
  have hlt : h0 < sz := hsz ▸ hat.lt
  have hB : um_B Z h0 8 0 [some (.inl 1), some (.inl 2), some (.inl 3), none, some (.inl 4), some (.inl 5), some (.inl 6), some (.inl 7), none, none, none, none, none, none, none, none, none, none, none, some (.inl 8), some (.inl 9), some (.inl 10), some (.inl 11), some (.inl 12), some (.inl 13), some (.inl 14), some (.inl 15), none, some (.inl 16)] 0 um_z0 sz (fun _ => none) (fun _ => 0) s.heap := um_B.nil hat rfl hlt (fun _ _ => rfl)
  have hz : sz ≤ s.heap.size := Nat.le_of_eq hsz.symm
  clear hat
  obtain ⟨H0, hHe⟩ : ∃ H, H = s.heap := ⟨_, rfl⟩
  have hS : va_S (um_KD h0 sz) s.heap H0 [] := by rw [hHe]; exact va_S.rf
  rw [← hHe] at hB hz ⊢
  generalize ([] : List Loc) = locs at hS ⊢
  generalize (fun _ => 0 : Nat → Nat) = α at hB
  refine lv_aload_n (pc := 0) hx hb dX9_init_0 rfl (lv_at hl 0 rfl) ?_
  refine um_kobj (pc := 1) Cx hl qM_X9_1 (Nat.le_of_ble_eq_true rfl) (Nat.le_of_ble_eq_true rfl) dX9_init_1 ?_
  refine lv_aload_n (pc := 4) hx hb dX9_init_4 rfl (lv_at hl 0 rfl) ?_
  refine lv_sipush (pc := 5) (v := (3790 : Int32)) hx hb dX9_init_5 (by decide) ?_
  refine um_vnewi (pc := 8) (N := 3790) Cx (by decide) (by decide) (by decide) (Nat.le_of_ble_eq_true rfl) (Nat.le_of_ble_eq_true rfl) dX9_init_8 (fun Ha1 hc z o => ?_)
  have hB := hB.arr (q := 1) (t := 0) (N := 3790) rfl hbs hz (by decide) rfl hc o
  have hS := hS.push (by omega) o
  have hz : sz ≤ Ha1.size := by omega
  have ea : um_ax α 1 H0.size 1 = H0.size := um_ax_eq _ _ _
  generalize um_ax α 1 H0.size = α at hB ea
  clear hc o
  refine um_vput (pc := 10) (v := .ref H0.size) Cx hB.1 iX9 tyX9 tyX9_ok nmX9 rfl 0 (by decide) qF_X9_7 rfl rfl hin rfl (tyX9_ok 0 (by decide)) rfl rfl (by rw [um_bf_len]; exact Nat.le_of_ble_eq_true rfl) dX9_init_10 (fun Ha2 i he z2 o2 => ?_)
  have hB := hB.put (f := some (.inl 1)) rfl (fun q h => by cases h; exact ⟨_, rfl⟩) (by simp only [um_fv, ea]; exact he) o2
  have hS := hS.put (k := i) z2 o2 (Or.inl rfl)
  have hz : sz ≤ Ha2.size := by omega
  clear he o2 ea
  refine lv_aload_n (pc := 13) hx hb dX9_init_13 rfl (lv_at hl 0 rfl) ?_
  refine lv_sipush (pc := 14) (v := (3790 : Int32)) hx hb dX9_init_14 (by decide) ?_
  refine um_vnewi (pc := 17) (N := 3790) Cx (by decide) (by decide) (by decide) (Nat.le_of_ble_eq_true rfl) (Nat.le_of_ble_eq_true rfl) dX9_init_17 (fun Ha3 hc z o => ?_)
  have hB := hB.arr (q := 2) (t := 0) (N := 3790) rfl hbs hz (by decide) rfl hc o
  have hS := hS.push (by omega) o
  have hz : sz ≤ Ha3.size := by omega
  have ea : um_ax α 2 Ha2.size 2 = Ha2.size := um_ax_eq _ _ _
  generalize um_ax α 2 Ha2.size = α at hB ea
  clear hc o
  refine um_vput (pc := 19) (v := .ref Ha2.size) Cx hB.1 iX9 tyX9 tyX9_ok nmX9 rfl 1 (by decide) qF_X9_13 rfl rfl hin rfl (tyX9_ok 1 (by decide)) rfl rfl (by rw [um_bf_len]; exact Nat.le_of_ble_eq_true rfl) dX9_init_19 (fun Ha4 i he z2 o2 => ?_)
  have hB := hB.put (f := some (.inl 2)) rfl (fun q h => by cases h; exact ⟨_, rfl⟩) (by simp only [um_fv, ea]; exact he) o2
  have hS := hS.put (k := i) z2 o2 (Or.inl rfl)
  have hz : sz ≤ Ha4.size := by omega
  clear he o2 ea
  refine lv_aload_n (pc := 22) hx hb dX9_init_22 rfl (lv_at hl 0 rfl) ?_
  refine lv_sipush (pc := 23) (v := (3790 : Int32)) hx hb dX9_init_23 (by decide) ?_
  refine um_vnewi (pc := 26) (N := 3790) Cx (by decide) (by decide) (by decide) (Nat.le_of_ble_eq_true rfl) (Nat.le_of_ble_eq_true rfl) dX9_init_26 (fun Ha5 hc z o => ?_)
  have hB := hB.arr (q := 3) (t := 0) (N := 3790) rfl hbs hz (by decide) rfl hc o
  have hS := hS.push (by omega) o
  have hz : sz ≤ Ha5.size := by omega
  have ea : um_ax α 3 Ha4.size 3 = Ha4.size := um_ax_eq _ _ _
  generalize um_ax α 3 Ha4.size = α at hB ea
  clear hc o
  refine um_vput (pc := 28) (v := .ref Ha4.size) Cx hB.1 iX9 tyX9 tyX9_ok nmX9 rfl 2 (by decide) qF_X9_16 rfl rfl hin rfl (tyX9_ok 2 (by decide)) rfl rfl (by rw [um_bf_len]; exact Nat.le_of_ble_eq_true rfl) dX9_init_28 (fun Ha6 i he z2 o2 => ?_)
  have hB := hB.put (f := some (.inl 3)) rfl (fun q h => by cases h; exact ⟨_, rfl⟩) (by simp only [um_fv, ea]; exact he) o2
  have hS := hS.put (k := i) z2 o2 (Or.inl rfl)
  have hz : sz ≤ Ha6.size := by omega
  clear he o2 ea
  refine lv_aload_n (pc := 31) hx hb dX9_init_31 rfl (lv_at hl 0 rfl) ?_
  refine lv_iconst (pc := 32) (v := (4 : Int32)) hx hb dX9_init_32 (by decide) ?_
  refine um_vnewi (pc := 33) (N := 4) Cx (by decide) (by decide) (by decide) (Nat.le_of_ble_eq_true rfl) (Nat.le_of_ble_eq_true rfl) dX9_init_33 (fun Ha7 hc z o => ?_)
  have hB := hB.arr (q := 4) (t := 0) (N := 4) rfl hbs hz (by decide) rfl hc o
  have hS := hS.push (by omega) o
  have hz : sz ≤ Ha7.size := by omega
  have ea : um_ax α 4 Ha6.size 4 = Ha6.size := um_ax_eq _ _ _
  generalize um_ax α 4 Ha6.size = α at hB ea
  clear hc o
  have hB := hB.skip rfl rfl
  refine um_vput (pc := 35) (v := .ref Ha6.size) Cx hB.1 iX9 tyX9 tyX9_ok nmX9 rfl 4 (by decide) qF_X9_19 rfl rfl hin rfl (tyX9_ok 4 (by decide)) rfl rfl (by rw [um_bf_len]; exact Nat.le_of_ble_eq_true rfl) dX9_init_35 (fun Ha8 i he z2 o2 => ?_)
  have hB := hB.put (f := some (.inl 4)) rfl (fun q h => by cases h; exact ⟨_, rfl⟩) (by simp only [um_fv, ea]; exact he) o2
  have hS := hS.put (k := i) z2 o2 (Or.inl rfl)
  have hz : sz ≤ Ha8.size := by omega
  clear he o2 ea
  refine lv_aload_n (pc := 38) hx hb dX9_init_38 rfl (lv_at hl 0 rfl) ?_
  refine lv_iconst (pc := 39) (v := (4 : Int32)) hx hb dX9_init_39 (by decide) ?_
  refine um_vnewi (pc := 40) (N := 4) Cx (by decide) (by decide) (by decide) (Nat.le_of_ble_eq_true rfl) (Nat.le_of_ble_eq_true rfl) dX9_init_40 (fun Ha9 hc z o => ?_)
  have hB := hB.arr (q := 5) (t := 0) (N := 4) rfl hbs hz (by decide) rfl hc o
  have hS := hS.push (by omega) o
  have hz : sz ≤ Ha9.size := by omega
  have ea : um_ax α 5 Ha8.size 5 = Ha8.size := um_ax_eq _ _ _
  generalize um_ax α 5 Ha8.size = α at hB ea
  clear hc o
  refine um_vput (pc := 42) (v := .ref Ha8.size) Cx hB.1 iX9 tyX9 tyX9_ok nmX9 rfl 5 (by decide) qF_X9_22 rfl rfl hin rfl (tyX9_ok 5 (by decide)) rfl rfl (by rw [um_bf_len]; exact Nat.le_of_ble_eq_true rfl) dX9_init_42 (fun Ha10 i he z2 o2 => ?_)
  have hB := hB.put (f := some (.inl 5)) rfl (fun q h => by cases h; exact ⟨_, rfl⟩) (by simp only [um_fv, ea]; exact he) o2
  have hS := hS.put (k := i) z2 o2 (Or.inl rfl)
  have hz : sz ≤ Ha10.size := by omega
  clear he o2 ea
  refine lv_aload_n (pc := 45) hx hb dX9_init_45 rfl (lv_at hl 0 rfl) ?_
  refine lv_bipush (pc := 46) (v := (96 : Int32)) hx hb dX9_init_46 (by decide) ?_
  refine um_vnewi (pc := 48) (N := 96) Cx (by decide) (by decide) (by decide) (Nat.le_of_ble_eq_true rfl) (Nat.le_of_ble_eq_true rfl) dX9_init_48 (fun Ha11 hc z o => ?_)
  have hB := hB.arr (q := 6) (t := 0) (N := 96) rfl hbs hz (by decide) rfl hc o
  have hS := hS.push (by omega) o
  have hz : sz ≤ Ha11.size := by omega
  have ea : um_ax α 6 Ha10.size 6 = Ha10.size := um_ax_eq _ _ _
  generalize um_ax α 6 Ha10.size = α at hB ea
  clear hc o
  refine um_vput (pc := 50) (v := .ref Ha10.size) Cx hB.1 iX9 tyX9 tyX9_ok nmX9 rfl 6 (by decide) qF_X9_25 rfl rfl hin rfl (tyX9_ok 6 (by decide)) rfl rfl (by rw [um_bf_len]; exact Nat.le_of_ble_eq_true rfl) dX9_init_50 (fun Ha12 i he z2 o2 => ?_)
  have hB := hB.put (f := some (.inl 6)) rfl (fun q h => by cases h; exact ⟨_, rfl⟩) (by simp only [um_fv, ea]; exact he) o2
  have hS := hS.put (k := i) z2 o2 (Or.inl rfl)
  have hz : sz ≤ Ha12.size := by omega
  clear he o2 ea
  refine lv_aload_n (pc := 53) hx hb dX9_init_53 rfl (lv_at hl 0 rfl) ?_
  refine lv_bipush (pc := 54) (v := (96 : Int32)) hx hb dX9_init_54 (by decide) ?_
  refine um_vnewi (pc := 56) (N := 96) Cx (by decide) (by decide) (by decide) (Nat.le_of_ble_eq_true rfl) (Nat.le_of_ble_eq_true rfl) dX9_init_56 (fun Ha13 hc z o => ?_)
  have hB := hB.arr (q := 7) (t := 0) (N := 96) rfl hbs hz (by decide) rfl hc o
  have hS := hS.push (by omega) o
  have hz : sz ≤ Ha13.size := by omega
  have ea : um_ax α 7 Ha12.size 7 = Ha12.size := um_ax_eq _ _ _
  generalize um_ax α 7 Ha12.size = α at hB ea
  clear hc o
  refine um_vput (pc := 58) (v := .ref Ha12.size) Cx hB.1 iX9 tyX9 tyX9_ok nmX9 rfl 7 (by decide) qF_X9_28 rfl rfl hin rfl (tyX9_ok 7 (by decide)) rfl rfl (by rw [um_bf_len]; exact Nat.le_of_ble_eq_true rfl) dX9_init_58 (fun Ha14 i he z2 o2 => ?_)
  have hB := hB.put (f := some (.inl 7)) rfl (fun q h => by cases h; exact ⟨_, rfl⟩) (by simp only [um_fv, ea]; exact he) o2
  have hS := hS.put (k := i) z2 o2 (Or.inl rfl)
  have hz : sz ≤ Ha14.size := by omega
  clear he o2 ea
  refine lv_aload_n (pc := 61) hx hb dX9_init_61 rfl (lv_at hl 0 rfl) ?_
  refine lv_sipush (pc := 62) (v := (128 : Int32)) hx hb dX9_init_62 (by decide) ?_
  refine um_vnewi (pc := 65) (N := 128) Cx (by decide) (by decide) (by decide) (Nat.le_of_ble_eq_true rfl) (Nat.le_of_ble_eq_true rfl) dX9_init_65 (fun Ha15 hc z o => ?_)
  have hB := hB.arr (q := 8) (t := 0) (N := 128) rfl hbs hz (by decide) rfl hc o
  have hS := hS.push (by omega) o
  have hz : sz ≤ Ha15.size := by omega
  have ea : um_ax α 8 Ha14.size 8 = Ha14.size := um_ax_eq _ _ _
  generalize um_ax α 8 Ha14.size = α at hB ea
  clear hc o
  have hB := hB.skip rfl rfl
  have hB := hB.skip rfl rfl
  have hB := hB.skip rfl rfl
  have hB := hB.skip rfl rfl
  have hB := hB.skip rfl rfl
  have hB := hB.skip rfl rfl
  have hB := hB.skip rfl rfl
  have hB := hB.skip rfl rfl
  have hB := hB.skip rfl rfl
  have hB := hB.skip rfl rfl
  have hB := hB.skip rfl rfl
  refine um_vput (pc := 67) (v := .ref Ha14.size) Cx hB.1 iX9 tyX9 tyX9_ok nmX9 rfl 19 (by decide) qF_X9_31 rfl rfl hin rfl (tyX9_ok 19 (by decide)) rfl rfl (by rw [um_bf_len]; exact Nat.le_of_ble_eq_true rfl) dX9_init_67 (fun Ha16 i he z2 o2 => ?_)
  have hB := hB.put (f := some (.inl 8)) rfl (fun q h => by cases h; exact ⟨_, rfl⟩) (by simp only [um_fv, ea]; exact he) o2
  have hS := hS.put (k := i) z2 o2 (Or.inl rfl)
  have hz : sz ≤ Ha16.size := by omega
  clear he o2 ea
  refine lv_aload_n (pc := 70) hx hb dX9_init_70 rfl (lv_at hl 0 rfl) ?_
  refine lv_bipush (pc := 71) (v := (100 : Int32)) hx hb dX9_init_71 (by decide) ?_
  refine um_vnewi (pc := 73) (N := 100) Cx (by decide) (by decide) (by decide) (Nat.le_of_ble_eq_true rfl) (Nat.le_of_ble_eq_true rfl) dX9_init_73 (fun Ha17 hc z o => ?_)
  have hB := hB.arr (q := 9) (t := 0) (N := 100) rfl hbs hz (by decide) rfl hc o
  have hS := hS.push (by omega) o
  have hz : sz ≤ Ha17.size := by omega
  have ea : um_ax α 9 Ha16.size 9 = Ha16.size := um_ax_eq _ _ _
  generalize um_ax α 9 Ha16.size = α at hB ea
  clear hc o
  refine um_vput (pc := 75) (v := .ref Ha16.size) Cx hB.1 iX9 tyX9 tyX9_ok nmX9 rfl 20 (by decide) qF_X9_34 rfl rfl hin rfl (tyX9_ok 20 (by decide)) rfl rfl (by rw [um_bf_len]; exact Nat.le_of_ble_eq_true rfl) dX9_init_75 (fun Ha18 i he z2 o2 => ?_)
  have hB := hB.put (f := some (.inl 9)) rfl (fun q h => by cases h; exact ⟨_, rfl⟩) (by simp only [um_fv, ea]; exact he) o2
  have hS := hS.put (k := i) z2 o2 (Or.inl rfl)
  have hz : sz ≤ Ha18.size := by omega
  clear he o2 ea
  refine lv_aload_n (pc := 78) hx hb dX9_init_78 rfl (lv_at hl 0 rfl) ?_
  refine lv_bipush (pc := 79) (v := (6 : Int32)) hx hb dX9_init_79 (by decide) ?_
  refine um_vnewi (pc := 81) (N := 6) Cx (by decide) (by decide) (by decide) (Nat.le_of_ble_eq_true rfl) (Nat.le_of_ble_eq_true rfl) dX9_init_81 (fun Ha19 hc z o => ?_)
  have hB := hB.arr (q := 10) (t := 0) (N := 6) rfl hbs hz (by decide) rfl hc o
  have hS := hS.push (by omega) o
  have hz : sz ≤ Ha19.size := by omega
  have ea : um_ax α 10 Ha18.size 10 = Ha18.size := um_ax_eq _ _ _
  generalize um_ax α 10 Ha18.size = α at hB ea
  clear hc o
  refine um_vput (pc := 83) (v := .ref Ha18.size) Cx hB.1 iX9 tyX9 tyX9_ok nmX9 rfl 21 (by decide) qF_X9_37 rfl rfl hin rfl (tyX9_ok 21 (by decide)) rfl rfl (by rw [um_bf_len]; exact Nat.le_of_ble_eq_true rfl) dX9_init_83 (fun Ha20 i he z2 o2 => ?_)
  have hB := hB.put (f := some (.inl 10)) rfl (fun q h => by cases h; exact ⟨_, rfl⟩) (by simp only [um_fv, ea]; exact he) o2
  have hS := hS.put (k := i) z2 o2 (Or.inl rfl)
  have hz : sz ≤ Ha20.size := by omega
  clear he o2 ea
  refine lv_aload_n (pc := 86) hx hb dX9_init_86 rfl (lv_at hl 0 rfl) ?_
  refine lv_bipush (pc := 87) (v := (14 : Int32)) hx hb dX9_init_87 (by decide) ?_
  refine um_vnewi (pc := 89) (N := 14) Cx (by decide) (by decide) (by decide) (Nat.le_of_ble_eq_true rfl) (Nat.le_of_ble_eq_true rfl) dX9_init_89 (fun Ha21 hc z o => ?_)
  have hB := hB.arr (q := 11) (t := 0) (N := 14) rfl hbs hz (by decide) rfl hc o
  have hS := hS.push (by omega) o
  have hz : sz ≤ Ha21.size := by omega
  have ea : um_ax α 11 Ha20.size 11 = Ha20.size := um_ax_eq _ _ _
  generalize um_ax α 11 Ha20.size = α at hB ea
  clear hc o
  refine um_vput (pc := 91) (v := .ref Ha20.size) Cx hB.1 iX9 tyX9 tyX9_ok nmX9 rfl 22 (by decide) qF_X9_40 rfl rfl hin rfl (tyX9_ok 22 (by decide)) rfl rfl (by rw [um_bf_len]; exact Nat.le_of_ble_eq_true rfl) dX9_init_91 (fun Ha22 i he z2 o2 => ?_)
  have hB := hB.put (f := some (.inl 11)) rfl (fun q h => by cases h; exact ⟨_, rfl⟩) (by simp only [um_fv, ea]; exact he) o2
  have hS := hS.put (k := i) z2 o2 (Or.inl rfl)
  have hz : sz ≤ Ha22.size := by omega
  clear he o2 ea
  refine lv_aload_n (pc := 94) hx hb dX9_init_94 rfl (lv_at hl 0 rfl) ?_
  refine lv_bipush (pc := 95) (v := (14 : Int32)) hx hb dX9_init_95 (by decide) ?_
  refine um_vnewz (pc := 97) (N := 14) Cx (by decide) (by decide) (by decide) (Nat.le_of_ble_eq_true rfl) (Nat.le_of_ble_eq_true rfl) dX9_init_97 (fun Ha23 hc z o => ?_)
  have hB := hB.arr (q := 12) (t := 2) (N := 14) rfl hbs hz (by decide) rfl hc o
  have hS := hS.push (by omega) o
  have hz : sz ≤ Ha23.size := by omega
  have ea : um_ax α 12 Ha22.size 12 = Ha22.size := um_ax_eq _ _ _
  generalize um_ax α 12 Ha22.size = α at hB ea
  clear hc o
  refine um_vput (pc := 99) (v := .ref Ha22.size) Cx hB.1 iX9 tyX9 tyX9_ok nmX9 rfl 23 (by decide) qF_X9_43 rfl rfl hin rfl (tyX9_ok 23 (by decide)) rfl rfl (by rw [um_bf_len]; exact Nat.le_of_ble_eq_true rfl) dX9_init_99 (fun Ha24 i he z2 o2 => ?_)
  have hB := hB.put (f := some (.inl 12)) rfl (fun q h => by cases h; exact ⟨_, rfl⟩) (by simp only [um_fv, ea]; exact he) o2
  have hS := hS.put (k := i) z2 o2 (Or.inl rfl)
  have hz : sz ≤ Ha24.size := by omega
  clear he o2 ea
  refine lv_aload_n (pc := 102) hx hb dX9_init_102 rfl (lv_at hl 0 rfl) ?_
  refine lv_bipush (pc := 103) (v := (6 : Int32)) hx hb dX9_init_103 (by decide) ?_
  refine um_vnewz (pc := 105) (N := 6) Cx (by decide) (by decide) (by decide) (Nat.le_of_ble_eq_true rfl) (Nat.le_of_ble_eq_true rfl) dX9_init_105 (fun Ha25 hc z o => ?_)
  have hB := hB.arr (q := 13) (t := 2) (N := 6) rfl hbs hz (by decide) rfl hc o
  have hS := hS.push (by omega) o
  have hz : sz ≤ Ha25.size := by omega
  have ea : um_ax α 13 Ha24.size 13 = Ha24.size := um_ax_eq _ _ _
  generalize um_ax α 13 Ha24.size = α at hB ea
  clear hc o
  refine um_vput (pc := 107) (v := .ref Ha24.size) Cx hB.1 iX9 tyX9 tyX9_ok nmX9 rfl 24 (by decide) qF_X9_47 rfl rfl hin rfl (tyX9_ok 24 (by decide)) rfl rfl (by rw [um_bf_len]; exact Nat.le_of_ble_eq_true rfl) dX9_init_107 (fun Ha26 i he z2 o2 => ?_)
  have hB := hB.put (f := some (.inl 13)) rfl (fun q h => by cases h; exact ⟨_, rfl⟩) (by simp only [um_fv, ea]; exact he) o2
  have hS := hS.put (k := i) z2 o2 (Or.inl rfl)
  have hz : sz ≤ Ha26.size := by omega
  clear he o2 ea
  refine lv_aload_n (pc := 110) hx hb dX9_init_110 rfl (lv_at hl 0 rfl) ?_
  refine lv_bipush (pc := 111) (v := (24 : Int32)) hx hb dX9_init_111 (by decide) ?_
  refine um_vnewi (pc := 113) (N := 24) Cx (by decide) (by decide) (by decide) (Nat.le_of_ble_eq_true rfl) (Nat.le_of_ble_eq_true rfl) dX9_init_113 (fun Ha27 hc z o => ?_)
  have hB := hB.arr (q := 14) (t := 0) (N := 24) rfl hbs hz (by decide) rfl hc o
  have hS := hS.push (by omega) o
  have hz : sz ≤ Ha27.size := by omega
  have ea : um_ax α 14 Ha26.size 14 = Ha26.size := um_ax_eq _ _ _
  generalize um_ax α 14 Ha26.size = α at hB ea
  clear hc o
  refine um_vput (pc := 115) (v := .ref Ha26.size) Cx hB.1 iX9 tyX9 tyX9_ok nmX9 rfl 25 (by decide) qF_X9_50 rfl rfl hin rfl (tyX9_ok 25 (by decide)) rfl rfl (by rw [um_bf_len]; exact Nat.le_of_ble_eq_true rfl) dX9_init_115 (fun Ha28 i he z2 o2 => ?_)
  have hB := hB.put (f := some (.inl 14)) rfl (fun q h => by cases h; exact ⟨_, rfl⟩) (by simp only [um_fv, ea]; exact he) o2
  have hS := hS.put (k := i) z2 o2 (Or.inl rfl)
  have hz : sz ≤ Ha28.size := by omega
  clear he o2 ea
  refine lv_aload_n (pc := 118) hx hb dX9_init_118 rfl (lv_at hl 0 rfl) ?_
  refine lv_bipush (pc := 119) (v := (60 : Int32)) hx hb dX9_init_119 (by decide) ?_
  refine um_vnewi (pc := 121) (N := 60) Cx (by decide) (by decide) (by decide) (Nat.le_of_ble_eq_true rfl) (Nat.le_of_ble_eq_true rfl) dX9_init_121 (fun Ha29 hc z o => ?_)
  have hB := hB.arr (q := 15) (t := 0) (N := 60) rfl hbs hz (by decide) rfl hc o
  have hS := hS.push (by omega) o
  have hz : sz ≤ Ha29.size := by omega
  have ea : um_ax α 15 Ha28.size 15 = Ha28.size := um_ax_eq _ _ _
  generalize um_ax α 15 Ha28.size = α at hB ea
  clear hc o
  refine um_vput (pc := 123) (v := .ref Ha28.size) Cx hB.1 iX9 tyX9 tyX9_ok nmX9 rfl 26 (by decide) qF_X9_53 rfl rfl hin rfl (tyX9_ok 26 (by decide)) rfl rfl (by rw [um_bf_len]; exact Nat.le_of_ble_eq_true rfl) dX9_init_123 (fun Ha30 i he z2 o2 => ?_)
  have hB := hB.put (f := some (.inl 15)) rfl (fun q h => by cases h; exact ⟨_, rfl⟩) (by simp only [um_fv, ea]; exact he) o2
  have hS := hS.put (k := i) z2 o2 (Or.inl rfl)
  have hz : sz ≤ Ha30.size := by omega
  clear he o2 ea
  refine lv_aload_n (pc := 126) hx hb dX9_init_126 rfl (lv_at hl 0 rfl) ?_
  refine lv_bipush (pc := 127) (v := (60 : Int32)) hx hb dX9_init_127 (by decide) ?_
  refine um_vnewi (pc := 129) (N := 60) Cx (by decide) (by decide) (by decide) (Nat.le_of_ble_eq_true rfl) (Nat.le_of_ble_eq_true rfl) dX9_init_129 (fun Ha31 hc z o => ?_)
  have hB := hB.arr (q := 16) (t := 0) (N := 60) rfl hbs hz (by decide) rfl hc o
  have hS := hS.push (by omega) o
  have hz : sz ≤ Ha31.size := by omega
  have ea : um_ax α 16 Ha30.size 16 = Ha30.size := um_ax_eq _ _ _
  generalize um_ax α 16 Ha30.size = α at hB ea
  clear hc o
  have hB := hB.skip rfl rfl
  refine um_vput (pc := 131) (v := .ref Ha30.size) Cx hB.1 iX9 tyX9 tyX9_ok nmX9 rfl 28 (by decide) qF_X9_56 rfl rfl hin rfl (tyX9_ok 28 (by decide)) rfl rfl (by rw [um_bf_len]; exact Nat.le_of_ble_eq_true rfl) dX9_init_131 (fun Ha32 i he z2 o2 => ?_)
  have hB := hB.put (f := some (.inl 16)) rfl (fun q h => by cases h; exact ⟨_, rfl⟩) (by simp only [um_fv, ea]; exact he) o2
  have hS := hS.put (k := i) z2 o2 (Or.inl rfl)
  have hz : sz ≤ Ha32.size := by omega
  clear he o2 ea
  obtain ⟨α1, e1, hW, hg⟩ : um_KB Z msh 0 h0 sz um_z0 Ha32 := hB.out (Nat.le_refl _) rfl hb0 (fun _ _ => rfl) (ms_F (by decide)) ms_cl
  have hDA : ∀ q, um_D msh α1 q → um_KD h0 sz q := fun q hq => by obtain ⟨k, u, hk, rfl⟩ := hq; exact (Decidable.em (k = 0)).elim (fun h => Or.inl (by rw [h]; exact e1)) (fun h => Or.inr (hg k u hk h))
  rw [← e1] at hl
  refine lv_iconst (pc := 134) (v := (0 : Int32)) hx hb dX9_init_134 (by decide) ?_
  refine lv_istore_n (pc := 135) (lv' := [(1, .int (0 : Int32)), (0, .ref (α1 0))]) hx hb dX9_init_135 rfl hl (by decide) rfl ?_
  clear hl
  intro ls hl
  refine lv_iload_n (pc := 136) hx hb dX9_init_136 rfl (lv_at hl 0 rfl) ?_
  refine lv_iconst (pc := 137) (v := (4 : Int32)) hx hb dX9_init_137 (by decide) ?_
  refine lv_icmp_ge (pc := 138) (tgt := 154) hx hb dX9_init_138 (by decide) (fun c1 => absurd c1 (by decide)) (fun _ => ?_)
  refine lv_aload_n (pc := 141) hx hb dX9_init_141 rfl (lv_at hl 1 rfl) ?_
  refine gF_X9_19 (pc := 142) Cx hW ms_0 rfl dX9_init_142 ?_
  refine lv_iload_n (pc := 145) hx hb dX9_init_145 rfl (lv_at hl 0 rfl) ?_
  refine lv_iconst (pc := 146) (v := (-1 : Int32)) hx hb dX9_init_146 (by decide) ?_
  refine um_wst (pc := 147) (j := 0) (n := 4) Cx hW hS hDA ms_4 (um_ix_in (by decide)) rfl dX9_init_147 (fun Hb0 locs hW hS => ?_)
  refine lv_iinc (pc := 148) (v := (1 : Int32)) (lv' := [(1, .int (1 : Int32)), (0, .ref (α1 0))]) hx hb dX9_init_148 hl (k := 0) rfl (by decide) (by decide) rfl ?_
  clear hl
  intro ls hl
  refine lv_goto (pc := 151) (tgt := 136) hx hb dX9_init_151 (by decide) ?_
  refine lv_iload_n (pc := 136) hx hb dX9_init_136 rfl (lv_at hl 0 rfl) ?_
  refine lv_iconst (pc := 137) (v := (4 : Int32)) hx hb dX9_init_137 (by decide) ?_
  refine lv_icmp_ge (pc := 138) (tgt := 154) hx hb dX9_init_138 (by decide) (fun c1 => absurd c1 (by decide)) (fun _ => ?_)
  refine lv_aload_n (pc := 141) hx hb dX9_init_141 rfl (lv_at hl 1 rfl) ?_
  refine gF_X9_19 (pc := 142) Cx hW ms_0 rfl dX9_init_142 ?_
  refine lv_iload_n (pc := 145) hx hb dX9_init_145 rfl (lv_at hl 0 rfl) ?_
  refine lv_iconst (pc := 146) (v := (-1 : Int32)) hx hb dX9_init_146 (by decide) ?_
  refine um_wst (pc := 147) (j := 1) (n := 4) Cx hW hS hDA ms_4 (um_ix_in (by decide)) rfl dX9_init_147 (fun Hb1 locs hW hS => ?_)
  refine lv_iinc (pc := 148) (v := (2 : Int32)) (lv' := [(1, .int (2 : Int32)), (0, .ref (α1 0))]) hx hb dX9_init_148 hl (k := 0) rfl (by decide) (by decide) rfl ?_
  clear hl
  intro ls hl
  refine lv_goto (pc := 151) (tgt := 136) hx hb dX9_init_151 (by decide) ?_
  refine lv_iload_n (pc := 136) hx hb dX9_init_136 rfl (lv_at hl 0 rfl) ?_
  refine lv_iconst (pc := 137) (v := (4 : Int32)) hx hb dX9_init_137 (by decide) ?_
  refine lv_icmp_ge (pc := 138) (tgt := 154) hx hb dX9_init_138 (by decide) (fun c1 => absurd c1 (by decide)) (fun _ => ?_)
  refine lv_aload_n (pc := 141) hx hb dX9_init_141 rfl (lv_at hl 1 rfl) ?_
  refine gF_X9_19 (pc := 142) Cx hW ms_0 rfl dX9_init_142 ?_
  refine lv_iload_n (pc := 145) hx hb dX9_init_145 rfl (lv_at hl 0 rfl) ?_
  refine lv_iconst (pc := 146) (v := (-1 : Int32)) hx hb dX9_init_146 (by decide) ?_
  refine um_wst (pc := 147) (j := 2) (n := 4) Cx hW hS hDA ms_4 (um_ix_in (by decide)) rfl dX9_init_147 (fun Hb2 locs hW hS => ?_)
  refine lv_iinc (pc := 148) (v := (3 : Int32)) (lv' := [(1, .int (3 : Int32)), (0, .ref (α1 0))]) hx hb dX9_init_148 hl (k := 0) rfl (by decide) (by decide) rfl ?_
  clear hl
  intro ls hl
  refine lv_goto (pc := 151) (tgt := 136) hx hb dX9_init_151 (by decide) ?_
  refine lv_iload_n (pc := 136) hx hb dX9_init_136 rfl (lv_at hl 0 rfl) ?_
  refine lv_iconst (pc := 137) (v := (4 : Int32)) hx hb dX9_init_137 (by decide) ?_
  refine lv_icmp_ge (pc := 138) (tgt := 154) hx hb dX9_init_138 (by decide) (fun c1 => absurd c1 (by decide)) (fun _ => ?_)
  refine lv_aload_n (pc := 141) hx hb dX9_init_141 rfl (lv_at hl 1 rfl) ?_
  refine gF_X9_19 (pc := 142) Cx hW ms_0 rfl dX9_init_142 ?_
  refine lv_iload_n (pc := 145) hx hb dX9_init_145 rfl (lv_at hl 0 rfl) ?_
  refine lv_iconst (pc := 146) (v := (-1 : Int32)) hx hb dX9_init_146 (by decide) ?_
  refine um_wst (pc := 147) (j := 3) (n := 4) Cx hW hS hDA ms_4 (um_ix_in (by decide)) rfl dX9_init_147 (fun Hb3 locs hW hS => ?_)
  refine lv_iinc (pc := 148) (v := (4 : Int32)) (lv' := [(1, .int (4 : Int32)), (0, .ref (α1 0))]) hx hb dX9_init_148 hl (k := 0) rfl (by decide) (by decide) rfl ?_
  clear hl
  intro ls hl
  refine lv_goto (pc := 151) (tgt := 136) hx hb dX9_init_151 (by decide) ?_
  refine lv_iload_n (pc := 136) hx hb dX9_init_136 rfl (lv_at hl 0 rfl) ?_
  refine lv_iconst (pc := 137) (v := (4 : Int32)) hx hb dX9_init_137 (by decide) ?_
  refine lv_icmp_ge (pc := 138) (tgt := 154) hx hb dX9_init_138 (by decide) (fun _ => ?_) (fun c1 => absurd (by decide) c1)
  refine W.widen (k := 16) (n := 11982) (Nat.le_of_ble_eq_true rfl) (Nat.le_of_ble_eq_true rfl) ?_
  exact um_kret (pc := 154) Cx ⟨α1, e1, hW, hg⟩ hS dX9_init_154
end CTM
