/-! TEXTS ARE MADE: copyOf, Text's constructor, asText, text -/
def um_zl (σ : um_S) (k n : Nat) : um_S := (fun a b => if a = k then 0 else σ.1 a b, σ.2.1, fun a => if a = k then n else σ.2.2 a)
theorem um_zl_ne {σ : um_S} {k n j : Nat} (h : j ≠ k) : (um_zl σ k n).1 j = σ.1 j := by
  funext b
  simp [um_zl, h]
theorem um_zl_eq {σ : um_S} {k n : Nat} : (um_zl σ k n).1 k = fun _ => 0 := by
  funext b
  simp [um_zl]
theorem um_zl_ln {σ : um_S} {k n j : Nat} (h : j ≠ k) : (um_zl σ k n).2.2 j = σ.2.2 j := by simp [um_zl, h]
theorem um_zl_le {σ : um_S} {k n : Nat} : (um_zl σ k n).2.2 k = n := by simp [um_zl]
/-- an array of zeros comes into the world -/
theorem um_W.addz {Z : um_Z} {sh : Nat → Option um_Sh} {α : Nat → Nat} {σ : um_S} {H : Heap} {k a N : Nat} (h : um_W Z sh α σ H) (hcl : um_cl sh) (hk : sh k = none) (hb : Z.2.2.1 ≤ a) (hn : ∀ i u, sh i = some u → α i ≠ a) (hc : H[a]? = some (vp_cell (Z.2.1 0) (N, .inl (fun _ => 0)))) : um_W Z (um_sx sh k (.inl (0, none))) (um_ax α k a) (um_zl σ k N) H := by
  have ne : ∀ {i u}, sh i = some u → i ≠ k := fun {i u} hi e => by rw [e, hk] at hi; cases hi
  refine h.add hcl hk hb hn (fun j u hj => um_zl_ne (ne hj)) rfl (fun j u hj => um_zl_ln (ne hj)) ?_
  have e : um_E Z.2.1 (um_ax α k a) (um_zl σ k N) k (.inl (0, none)) = .inl (Z.2.1 0, N, .inl (fun _ => 0)) := by
    simp only [um_E, um_len, um_row, um_zl_eq, um_zl_le]
    rfl
  rw [e]
  exact hc
theorem um_Xs {sh : Nat → Option um_Sh} {k : Nat} {t : um_Sh} (hX : um_X sh) (hk : sh k = none) : um_X (um_sx sh k t) := fun i u hi => by
  have h1 := hX i u hi
  rw [um_sx_ne (fun e => by rw [e, hk] at h1; cases h1)]
  exact h1
def um_PostY (Z : um_Z) (sh : Nat → Option um_Sh) (α : Nat → Nat) (k : Nat) (σ : um_S) (sz : Nat) : Array Value → State → Outcome → State → Prop := fun _ st oc t => ∃ a, sz ≤ a ∧ oc = .returned (some (.ref a)) ∧ um_W Z (um_sx sh k (.inl (0, none))) (um_ax α k a) σ t.heap ∧ va_F (um_DA sh α sz) st t
section CPO
variable {l : Launch} {Z : um_Z} {sh : Nat → Option um_Sh} {α : Nat → Nat} {σ : um_S} {sz N : Nat}
set_option maxRecDepth 100000 in
set_option maxHeartbeats 4000000 in
theorem c_J7_copyOf (k : Nat) (n : Int32) (hX : um_X sh) (hcl : um_cl sh) (hk : sh k = none) (h0 : ¬ n < 0) (hN : n.toNatClampNeg = N) (h96 : N < 96) : Met l yJ7_copyOf_59c91 (Cond.code yJ7_copyOf_59c91 cJ7_copyOf_59c91 3 (some (FieldType.array FieldType.int)) :: WG) { frames := 1, cells := 1, slots := 96, locals := 48 } (um_PreA Z sh α σ [.ref (α 9), .int n] sz) (um_PostY Z sh α k (um_cp (um_zl σ k N) k 9 N) sz) 1 96 (um_DA sh α sz) := by
  refine um_startA (by decide) (Nat.le_of_ble_eq_true rfl) ?_
  intro p e s m below meth c ls Cx hsz hbs hW hl
  have hx := Cx.1
  have hb := Cx.2.1
  have hown := Cx.2.2.2.2.1
  have hts := Cx.2.2.2.2.2.1
  have hl : lv_has ls 3 [(0, .ref (α 9)), (1, .int n)] := hl
  have ne : ∀ {i u}, sh i = some u → i ≠ k := fun {i u} hi e => by rw [e, hk] at hi; cases hi
  have h9 : sh 9 = some (.inl (0, some 96)) := hX 9 _ rfl
  have hnz : n.toInt = (N : Int) := by
    have hz0 : (0 : Int) ≤ n.toInt := by
      have := Int32.not_lt.mp h0
      simpa using Int32.le_iff_toInt_le.mp this
    have : n.toInt.toNat = N := hN
    omega
  have hlt : n < nI 96 := by
    rw [Int32.lt_iff_toInt_lt, hnz]
    have : (nI 96).toInt = 96 := by decide
    omega
  refine lv_iload_n (pc := 0) hx hb dJ7_copyOf_59c91_0 rfl (lv_at hl 1 rfl) ?_
  refine lv_aload_n (pc := 1) hx hb dJ7_copyOf_59c91_1 rfl (lv_at hl 0 rfl) ?_
  refine um_alen (pc := 2) (n := 96) Cx hW h9 rfl (by decide) dJ7_copyOf_59c91_2 ?_
  refine lv_icmp_ne (pc := 3) (tgt := 14) hx hb dJ7_copyOf_59c91_3 (by decide) (fun c1 => ?_) (fun c1 => ?_)
  case refine_2 =>
    exfalso
    rw [c1] at hlt
    exact absurd hlt (by decide)
  refine lv_iload_n (pc := 14) hx hb dJ7_copyOf_59c91_14 rfl (lv_at hl 1 rfl) ?_
  refine um_vnewi (pc := 15) (N := N) Cx h0 hN (by omega) (Nat.le_of_ble_eq_true rfl) (by dsimp only; omega) dJ7_copyOf_59c91_15 (fun H1 hc z o => ?_)
  have hW1 := (hW.kept (fun i u hi => o _ (hW.lt hi))).addz (k := k) hcl hk (by omega) (fun i u hi e => by have := hW.lt hi; omega) hc
  have hS : va_S (um_D (um_sx sh k (.inl (0, none))) (um_ax α k s.heap.size)) s.heap H1 [] := va_S.rf.push (by omega) o
  refine lv_astore_n (pc := 17) (lv' := [(2, .ref s.heap.size), (0, .ref (α 9)), (1, .int n)]) hx hb dJ7_copyOf_59c91_17 rfl hl (by decide) rfl ?_
  clear hl
  intro ls hl
  have e1 : um_ax α k s.heap.size 9 = α 9 := um_ax_ne (ne h9)
  have e2 : um_ax α k s.heap.size k = s.heap.size := um_ax_eq _ _ _
  have hl : lv_has ls 3 [(2, .ref (um_ax α k s.heap.size k)), (0, .ref (um_ax α k s.heap.size 9)), (1, .int n)] := by rw [e1, e2]; exact hl
  have h9' : um_sx sh k (.inl (0, none)) 9 = some (.inl (0, some 96)) := by rw [um_sx_ne (ne h9)]; exact h9
  refine lv_aload_n (pc := 18) hx hb dJ7_copyOf_59c91_18 rfl (lv_at hl 1 rfl) ?_
  refine lv_iconst (pc := 19) (v := (0 : Int32)) hx hb dJ7_copyOf_59c91_19 (by decide) ?_
  refine lv_aload_n (pc := 20) hx hb dJ7_copyOf_59c91_20 rfl (lv_at hl 0 rfl) ?_
  refine lv_iconst (pc := 21) (v := (0 : Int32)) hx hb dJ7_copyOf_59c91_21 (by decide) ?_
  refine lv_aload_n (pc := 22) hx hb dJ7_copyOf_59c91_22 rfl (lv_at hl 1 rfl) ?_
  refine um_alen (pc := 23) (n := 96) Cx hW1 h9' rfl (by decide) dJ7_copyOf_59c91_23 ?_
  refine lv_iload_n (pc := 24) hx hb dJ7_copyOf_59c91_24 rfl (lv_at hl 2 rfl) ?_
  refine va_mmin (pc := 25) hx hb (Cx.2.2.2.1.trans hl.1.symm) hown (hts _ qM_J7_304) (hts _ qT_J9_min_7cf53) (hts _ qN_J9) (hts _ qK_J9_min_7cf53) (Nat.le_of_ble_eq_true rfl) (Nat.le_of_ble_eq_true rfl) (Nat.le_of_ble_eq_true rfl) (by dsimp only; omega) dJ7_copyOf_59c91_25 ?_
  rw [if_pos hlt]
  refine um_copy (pc := 28) (n2 := 96) (n := N) (rest := []) Cx hl qM_J7_150 hW1 hS h9' rfl (um_sx_eq _ _ _) um_zl_le h0 (by omega) (by omega) (Nat.le_of_ble_eq_true rfl) (Nat.le_of_ble_eq_true rfl) dJ7_copyOf_59c91_28 ?_
  intro H locs hW2 hS2
  rw [hN] at hW2
  have hS3 : va_S (um_DA sh α sz) s.heap H locs := hS2.weak (fun q hq => by
    obtain ⟨i, u, hi, rfl⟩ := hq
    by_cases h2 : i = k
    · rw [h2, e2, hsz]
      exact Or.inr (Nat.le_refl _)
    · rw [um_sx_ne h2] at hi
      rw [um_ax_ne h2]
      exact Or.inl ⟨i, u, hi, rfl⟩)
  refine lv_aload_n (pc := 31) hx hb dJ7_copyOf_59c91_31 rfl (lv_at hl 0 rfl) ?_
  refine W.widen (k := 1) (n := 96) (by omega) (by omega) ?_
  exact W.aret Cx.1 Cx.2.1 Cx.2.2.1 (Or.inr ⟨_, rfl⟩) (Or.inr ⟨_, rfl⟩) (fun t ht hw => ⟨s.heap.size, Nat.le_of_eq hsz.symm, by rw [e2], by rw [ht]; exact hW2, hS3.F ht⟩) hS3.2.2 dJ7_copyOf_59c91_32 Cx.2.2.2.2.2.2.1
end CPO
theorem kS_J7_copyOf : um_kS yJ7_copyOf_59c91 cJ7_copyOf_59c91 3 (some (FieldType.array FieldType.int)) 2 := ⟨qT_J7_copyOf_59c91, qN_J7, qK_J7_copyOf_59c91, by decide +kernel⟩
section X7I
variable {l : Launch} {Z : um_Z} {h0 sz a1 N : Nat}
/-- what Text's constructor leaves -/
def um_X7B (Z : um_Z) (h0 a1 sz N : Nat) (key week parts : Int32) : Heap → Prop := fun H => ∃ a2, sz ≤ a2 ∧ va_at Z.1 vwCl (h0, .inr (6, [.int key, .int week, .int parts, .ref a1, .ref a2])) H ∧ H[a2]? = some (vp_cell (Z.2.1 0) (N, .inl (fun _ => 0)))
set_option maxRecDepth 100000 in
set_option maxHeartbeats 4000000 in
theorem c_X7_init (key week parts : Int32) (hN : (if (1 : Int32) < parts then parts else 1).toNatClampNeg = N) (hn : ¬ (if (1 : Int32) < parts then parts else 1) < 0) (h96 : N ≤ 96) : um_K l yX7_init cX7_init 5 1 30 1 96 Z h0 6 [.int 0, .int 0, .int 0, .null, .null] [.int key, .int week, .int parts, .ref a1] sz (um_X7B Z h0 a1 sz N key week parts) := by
  refine um_kstart (by decide) rfl (Nat.le_of_ble_eq_true rfl) ?_
  intro p e s m below meth c ls Cx hin hsz hb0 hbs hat hl
  have hx := Cx.1
  have hb := Cx.2.1
  have hown := Cx.2.2.2.2.1
  have hts := Cx.2.2.2.2.2.1
  have hl : lv_has ls 5 [(0, .ref h0), (1, .int key), (2, .int week), (3, .int parts), (4, .ref a1)] := hl
  have hlt : h0 < sz := hsz ▸ hat.lt
  obtain ⟨H, hHe⟩ : ∃ H, H = s.heap := ⟨_, rfl⟩
  have hS : va_S (um_KD h0 sz) s.heap H [] := by rw [hHe]; exact va_S.rf
  have hz : sz = H.size := by rw [hHe]; exact hsz.symm
  rw [← hHe] at hat ⊢
  generalize ([] : List Loc) = locs at hS ⊢
  refine lv_aload_n (pc := 0) hx hb dX7_init_0 rfl (lv_at hl 0 rfl) ?_
  refine um_kobj (pc := 1) Cx hl qM_X7_1 (Nat.le_of_ble_eq_true rfl) (Nat.le_of_ble_eq_true rfl) dX7_init_1 ?_
  refine lv_aload_n (pc := 4) hx hb dX7_init_4 rfl (lv_at hl 0 rfl) ?_
  refine lv_iload_n (pc := 5) hx hb dX7_init_5 rfl (lv_at hl 1 rfl) ?_
  refine um_vput (pc := 6) Cx hat iX7 tyX7 tyX7_ok nmX7 rfl 0 (by decide) qF_X7_7 rfl rfl hin rfl (tyX7_ok 0 (by decide)) rfl rfl (Nat.le_of_ble_eq_true rfl) dX7_init_6 (fun H1 i he z o => ?_)
  have hS := hS.put (k := i) z o (Or.inl rfl)
  have hz : sz = H1.size := hz.trans z.symm
  clear hat z o
  have hat : va_at Z.1 vwCl (h0, .inr (6, [.int key, .int 0, .int 0, .null, .null])) H1 := he
  clear he
  generalize H1 = H, locs ++ [⟨h0, i⟩] = locs at hat hz hS ⊢
  refine lv_aload_n (pc := 9) hx hb dX7_init_9 rfl (lv_at hl 0 rfl) ?_
  refine lv_iload_n (pc := 10) hx hb dX7_init_10 rfl (lv_at hl 2 rfl) ?_
  refine um_vput (pc := 11) Cx hat iX7 tyX7 tyX7_ok nmX7 rfl 1 (by decide) qF_X7_13 rfl rfl hin rfl (tyX7_ok 1 (by decide)) rfl rfl (Nat.le_of_ble_eq_true rfl) dX7_init_11 (fun H1 i he z o => ?_)
  have hS := hS.put (k := i) z o (Or.inl rfl)
  have hz : sz = H1.size := hz.trans z.symm
  clear hat z o
  have hat : va_at Z.1 vwCl (h0, .inr (6, [.int key, .int week, .int 0, .null, .null])) H1 := he
  clear he
  generalize H1 = H, locs ++ [⟨h0, i⟩] = locs at hat hz hS ⊢
  refine lv_aload_n (pc := 14) hx hb dX7_init_14 rfl (lv_at hl 0 rfl) ?_
  refine lv_iload_n (pc := 15) hx hb dX7_init_15 rfl (lv_at hl 3 rfl) ?_
  refine um_vput (pc := 16) Cx hat iX7 tyX7 tyX7_ok nmX7 rfl 2 (by decide) qF_X7_16 rfl rfl hin rfl (tyX7_ok 2 (by decide)) rfl rfl (Nat.le_of_ble_eq_true rfl) dX7_init_16 (fun H1 i he z o => ?_)
  have hS := hS.put (k := i) z o (Or.inl rfl)
  have hz : sz = H1.size := hz.trans z.symm
  clear hat z o
  have hat : va_at Z.1 vwCl (h0, .inr (6, [.int key, .int week, .int parts, .null, .null])) H1 := he
  clear he
  generalize H1 = H, locs ++ [⟨h0, i⟩] = locs at hat hz hS ⊢
  refine lv_aload_n (pc := 19) hx hb dX7_init_19 rfl (lv_at hl 0 rfl) ?_
  refine lv_aload (pc := 20) hx hb dX7_init_20 (lv_at hl 4 rfl) ?_
  refine um_vput (pc := 22) (v := .ref a1) Cx hat iX7 tyX7 tyX7_ok nmX7 rfl 3 (by decide) qF_X7_19 rfl rfl hin rfl (tyX7_ok 3 (by decide)) rfl rfl (Nat.le_of_ble_eq_true rfl) dX7_init_22 (fun H1 i he z o => ?_)
  have hS := hS.put (k := i) z o (Or.inl rfl)
  have hz : sz = H1.size := hz.trans z.symm
  clear hat z o
  have hat : va_at Z.1 vwCl (h0, .inr (6, [.int key, .int week, .int parts, .ref a1, .null])) H1 := he
  clear he
  generalize H1 = H, locs ++ [⟨h0, i⟩] = locs at hat hz hS ⊢
  refine lv_aload_n (pc := 25) hx hb dX7_init_25 rfl (lv_at hl 0 rfl) ?_
  refine lv_iconst (pc := 26) (v := (1 : Int32)) hx hb dX7_init_26 (by decide) ?_
  refine lv_iload_n (pc := 27) hx hb dX7_init_27 rfl (lv_at hl 3 rfl) ?_
  refine va_mmax (pc := 28) (rest := [.ref h0]) hx hb (Cx.2.2.2.1.trans hl.1.symm) hown (hts _ qM_X7_23) (hts _ qT_J9_max_7cf53) (hts _ qN_J9) (hts _ qK_J9_max_7cf53) (Nat.le_of_ble_eq_true rfl) (Nat.le_of_ble_eq_true rfl) (Nat.zero_le _) (Nat.zero_le _) dX7_init_28 ?_
  refine um_vnewi (pc := 31) (N := N) Cx hn hN (by omega) (Nat.le_of_ble_eq_true rfl) (by dsimp only; omega) dX7_init_31 (fun H1 hc z o => ?_)
  have hS := hS.push (by omega) o
  have hat := hat.kept (o _ hat.lt)
  refine um_vput (pc := 33) (v := .ref H.size) Cx hat iX7 tyX7 tyX7_ok nmX7 rfl 4 (by decide) qF_X7_29 rfl rfl hin rfl (tyX7_ok 4 (by decide)) rfl rfl (Nat.le_of_ble_eq_true rfl) dX7_init_33 (fun H2 i he z o => ?_)
  have hS := hS.put (k := i) z o (Or.inl rfl)
  refine W.widen (k := 1) (n := 96) (by omega) (by omega) ?_
  exact um_kret (pc := 36) Cx ⟨H.size, Nat.le_of_eq hz, he, by rw [o _ (by omega)]; exact hc⟩ (by exact hS) dX7_init_36
end X7I
theorem kI_X7 : um_kI yX7_init cX7_init 5 4 := ⟨qI_X7_init, qN_X7, qK_X7_init, rfl, by decide +kernel⟩
