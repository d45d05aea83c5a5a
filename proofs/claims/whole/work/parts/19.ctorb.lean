/-! constructors, more: arrays and objects come into the world beside; the first store -/
def um_z0 : um_S := (fun _ _ => 0, fun _ _ => none, fun _ => 0)
def um_x0 : um_S := um_wr (um_wr (um_wr (um_wr um_z0 13 0 (-1)) 13 1 (-1)) 13 2 (-1)) 13 3 (-1)
theorem um_x0_row {k : Nat} (h : k ≠ 13) : um_x0.1 k = fun _ => 0 := by
  funext b
  simp [um_x0, um_wr, um_z0, h]
theorem um_x0_ref (a b : Nat) : um_x0.2.1 a b = none := rfl
theorem um_We {Z : um_Z} {α : Nat → Nat} {σ : um_S} {H : Heap} (hr : ∀ a b, σ.2.1 a b = none) : um_W Z (fun _ => none) α σ H := ⟨fun _ _ h => (by cases h), fun _ _ _ _ h => (by cases h), fun _ _ h => (by cases h), fun a b q h => by rw [hr] at h; cases h⟩
theorem um_cle : um_cl (fun _ => none) := fun _ _ _ h => by cases h
section UMC2
variable {Z : um_Z} {h0 ci k n sz : Nat} {fl : List um_F} {σ : um_S} {sh sh2 : Nat → Option um_Sh} {α : Nat → Nat} {H H1 : Heap}
theorem um_B.nil {fs : List Value} (hat : va_at Z.1 vwCl (h0, .inr (ci, fs)) H) (hfs : fs = um_bf (fun _ => 0) σ k fl 0) (hlt : h0 < sz) (hr : ∀ a b, σ.2.1 a b = none) : um_B Z h0 ci k fl 0 σ sz (fun _ => none) (fun _ => 0) H :=
  ⟨by rw [← hfs]; exact hat, um_We hr, fun _ _ h => (by cases h), hlt, um_cle, fun i _ h => absurd h (Nat.not_lt_zero i)⟩
/-- nothing of it changes when cells are made -/
theorem um_B.same (h : um_B Z h0 ci k fl n σ sz sh α H) (o : ∀ x, x < H.size → H1[x]? = H[x]?) : um_B Z h0 ci k fl n σ sz sh α H1 :=
  h.grow (o _ h.1.lt) (h.2.1.kept (fun i u hi => o _ (h.2.1.lt hi))) (fun _ _ hi => ⟨hi, rfl⟩) h.2.2.1 h.2.2.2.2.1
theorem um_cl.arr {q : Nat} {t : Nat × Option Nat} (h : um_cl sh) (hq : sh q = none) : um_cl (um_sx sh q (.inl t)) := fun i c' fl' hi x hx => by
  by_cases hiq : i = q
  · rw [hiq, um_sx_eq] at hi
    cases hi
  · rw [um_sx_ne hiq] at hi
    obtain ⟨u, hu⟩ := h i c' fl' hi x hx
    exact ⟨u, by rw [um_sx_ne (fun e => by rw [e, hq] at hu; cases hu)]; exact hu⟩
theorem um_B.cell {q : Nat} {t : Nat × Option Nat} (h : um_B Z h0 ci k fl n σ sz sh α H) (hq : sh q = none) (hb : Z.2.2.1 ≤ sz) (hsz : sz ≤ H.size) (hc : va_at Z.1 vwCl (H.size, um_E Z.2.1 (um_ax α q H.size) σ q (.inl t)) H1) (o : ∀ x, x < H.size → H1[x]? = H[x]?) : um_B Z h0 ci k fl n σ sz (um_sx sh q (.inl t)) (um_ax α q H.size) H1 := by
  have ne : ∀ {i u}, sh i = some u → i ≠ q := fun {i u} hi e => by rw [e, hq] at hi; cases hi
  have hW : um_W Z sh α σ H1 := h.2.1.kept (fun i u hi => o _ (h.2.1.lt hi))
  refine h.grow (o _ h.1.lt) (hW.add h.2.2.2.2.1 hq (Nat.le_trans hb hsz) (fun i u hi e => by have := h.2.1.lt hi; omega) (fun _ _ _ => rfl) rfl (fun _ _ _ => rfl) hc) (fun i u hi => ⟨by rw [um_sx_ne (ne hi)]; exact hi, um_ax_ne (ne hi)⟩) (fun i u hi => ?_) (h.2.2.2.2.1.arr hq)
  by_cases hiq : i = q
  · rw [hiq, um_ax_eq]
    exact hsz
  · rw [um_sx_ne hiq] at hi
    rw [um_ax_ne hiq]
    exact h.2.2.1 i u hi
theorem um_B.arr {q t N : Nat} (h : um_B Z h0 ci k fl n σ sz sh α H) (hq : sh q = none) (hb : Z.2.2.1 ≤ sz) (hsz : sz ≤ H.size) (ht : t ≠ 3) (hr : σ.1 q = fun _ => 0) (hc : H1[H.size]? = some (vp_cell (Z.2.1 t) (N, .inl (fun _ => 0)))) (o : ∀ x, x < H.size → H1[x]? = H[x]?) : um_B Z h0 ci k fl n σ sz (um_sx sh q (.inl (t, some N))) (um_ax α q H.size) H1 :=
  h.cell hq hb hsz (by simp only [um_E, um_len, um_row, if_neg ht, hr]; exact hc) o
/-- an object that a constructor has made comes into the world beside -/
theorem um_B.sub {k2 a sz2 : Nat} (h : um_B Z h0 ci k fl n σ sz sh α H) (hK : um_KB Z sh2 k2 a sz2 σ H1) (c2 : um_cl sh2) (ha : sz ≤ a) (hs2 : a < sz2) (hlt : ∀ i u, sh i = some u → α i < a) (hh : h0 < a) (o : ∀ x, x < sz2 → x ≠ a → H1[x]? = H[x]?) (hk2 : sh k2 = none) (h2 : ∃ u, sh2 k2 = some u) (hd : ∀ i t u, sh i = some t → sh2 i = some u → False) (hr : ∀ x y, σ.2.1 x y = none) : ∃ α' : Nat → Nat, α' k2 = a ∧ um_B Z h0 ci k fl n σ sz (um_sj sh sh2) α' H1 := by
  obtain ⟨α2, e2, hW2, hg2⟩ := hK
  have hW : um_W Z sh α σ H1 := h.2.1.kept (fun i u hi => o _ (by have := hlt i u hi; omega) (by have := hlt i u hi; omega))
  have g2 : ∀ j u, sh2 j = some u → a ≤ α2 j := fun j u hj => by
    by_cases hjk : j = k2
    · rw [hjk, e2]
      exact Nat.le_refl _
    · have := hg2 j u hj hjk
      omega
  obtain ⟨hJ, hcJ⟩ := hW.join hW2 h.2.2.2.2.1 c2 hd (fun i j t u hi hj e => by have h1 := hlt i t hi; have h2 := g2 j u hj; omega) hr
  refine ⟨um_aj sh α α2, by rw [um_aj_r hk2]; exact e2, h.grow (o _ (by omega) (by omega)) hJ (fun i u hi => ⟨um_sj_l hi, um_aj_l hi⟩) (fun i u hi => ?_) hcJ⟩
  cases hs : sh i with
  | some t =>
    rw [um_aj_l hs]
    exact h.2.2.1 i t hs
  | none =>
    rw [um_sj_r hs] at hi
    rw [um_aj_r hs]
    have := g2 i u hi
    omega
theorem um_B.lt (h : um_B Z h0 ci k fl n σ sz sh α H) : ∀ i u, sh i = some u → α i < H.size := fun i u hi => h.2.1.lt hi
/-- the end: the world with the object itself -/
theorem um_B.out {shF : Nat → Option um_Sh} (h : um_B Z h0 ci k fl n σ sz sh α H) (hn : fl.length ≤ n) (hk : sh k = none) (hb : Z.2.2.1 ≤ h0) (hr : ∀ x y, σ.2.1 x y = none) (hF : ∀ i u, shF i = some u → um_sx sh k (.inr (ci, fl)) i = some u) (hcF : um_cl shF) : um_KB Z shF k h0 sz σ H := by
  obtain ⟨hW, -⟩ := h.fin hn hk hb
  refine ⟨um_ax α k h0, um_ax_eq _ _ _, hW.mono hF hcF (fun _ _ _ => rfl) (fun _ _ _ => rfl) (fun _ _ _ => rfl) (fun _ _ _ => rfl) (fun a b q hq => by rw [hr] at hq; cases hq), fun i u hi hik => ?_⟩
  have h1 := hF i u hi
  rw [um_sx_ne hik] at h1
  rw [um_ax_ne hik]
  exact h.2.2.1 i u h1
theorem um_B.wr {q i : Nat} {x : Int32} (h : um_B Z h0 ci k fl n σ sz sh α H) (hqk : k ≠ q) (hW : um_W Z sh α (um_wr σ q i x) H1) (hh : H1[h0]? = H[h0]?) : um_B Z h0 ci k fl n (um_wr σ q i x) sz sh α H1 := by
  refine ⟨?_, hW, h.2.2.1, h.2.2.2.1, h.2.2.2.2.1, h.2.2.2.2.2⟩
  have e : um_bf α (um_wr σ q i x) k fl n = um_bf α σ k fl n := by
    apply List.ext_getElem?
    intro j
    rw [um_bf_get, um_bf_get]
    cases fl[j]? with
    | none => rfl
    | some g =>
      simp only [Option.map_some]
      by_cases h1 : j < n
      · rw [if_pos h1, if_pos h1]
        cases g with
        | none => simp only [um_fv]; rw [um_wr_ne hqk]
        | some y => cases y <;> rfl
      · rw [if_neg h1, if_neg h1]
  rw [e]
  exact h.1.kept hh
end UMC2
/-- the shape of a Table -/
def shT (t : Nat) : Nat → Option um_Sh := um_sx (um_sx (fun _ => none) (t + 100) (.inl (0, some (xl t)))) t (.inr (4, [some (.inr (xw t)), some (.inl (t + 100)), none]))
theorem shT_cl (t : Nat) : um_cl (shT t) := fun i ci fl hi q hq => by
  unfold shT at hi ⊢
  by_cases hit : i = t
  · rw [hit, um_sx_eq] at hi
    cases hi
    simp only [List.mem_cons, Option.some.injEq, Sum.inl.injEq, reduceCtorEq, List.not_mem_nil, or_false, false_or] at hq
    subst hq
    exact ⟨_, by rw [um_sx_ne (by omega), um_sx_eq]⟩
  · rw [um_sx_ne hit] at hi
    by_cases hi2 : i = t + 100
    · rw [hi2, um_sx_eq] at hi
      cases hi
    · rw [um_sx_ne hi2] at hi
      cases hi
section CT
variable {l : Launch} {Z : um_Z} {h0 sz : Nat}
theorem kI_X5 : um_kI yX5_init cX5_init 3 2 := ⟨qI_X5_init, qN_X5, qK_X5_init, rfl, by decide +kernel⟩
set_option maxRecDepth 100000 in
set_option maxHeartbeats 4000000 in
theorem c_X5_init (t : Nat) (w n : Int32) (h13 : t + 100 ≠ 13 ∧ t ≠ 13) (hw : xw t = if (1 : Int32) < w then w else 1) (hN : (xw t * (if (0 : Int32) < n then n else 0)).toNatClampNeg = xl t) (hn : ¬ xw t * (if (0 : Int32) < n then n else 0) < 0) (hby : xl t * 4 ≤ 536870912) : um_K l yX5_init cX5_init 3 1 30 1 (xl t) Z h0 4 [.int 0, .null, .int 0] [.int w, .int n] sz (um_KB Z (shT t) t h0 sz um_x0) := by
  refine um_kstart (by decide) rfl (Nat.le_of_ble_eq_true rfl) ?_
  intro p e s m below meth c ls Cx hin hsz hb0 hbs hat hl
  have hx := Cx.1
  have hb := Cx.2.1
  have hown := Cx.2.2.2.2.1
  have hts := Cx.2.2.2.2.2.1
  have hl : lv_has ls 3 [(0, .ref h0), (1, .int w), (2, .int n)] := hl
  have hlt : h0 < sz := hsz ▸ hat.lt
  have hB : um_B Z h0 4 t [some (.inr (xw t)), some (.inl (t + 100)), none] 0 um_x0 sz (fun _ => none) (fun _ => 0) s.heap := um_B.nil hat rfl hlt um_x0_ref
  have hz : sz ≤ s.heap.size := Nat.le_of_eq hsz.symm
  clear hat
  obtain ⟨H, hHe⟩ : ∃ H, H = s.heap := ⟨_, rfl⟩
  have hS : va_S (um_KD h0 sz) s.heap H [] := by rw [hHe]; exact va_S.rf
  rw [← hHe] at hB hz ⊢
  generalize ([] : List Loc) = locs at hS ⊢
  refine lv_aload_n (pc := 0) hx hb dX5_init_0 rfl (lv_at hl 0 rfl) ?_
  refine um_kobj (pc := 1) Cx hl qM_X5_3 (Nat.le_of_ble_eq_true rfl) (Nat.le_of_ble_eq_true rfl) dX5_init_1 ?_
  refine lv_aload_n (pc := 4) hx hb dX5_init_4 rfl (lv_at hl 0 rfl) ?_
  refine lv_iconst (pc := 5) (v := (1 : Int32)) hx hb dX5_init_5 (by decide) ?_
  refine lv_iload_n (pc := 6) hx hb dX5_init_6 rfl (lv_at hl 1 rfl) ?_
  refine va_mmax (pc := 7) (rest := [.ref h0]) hx hb (Cx.2.2.2.1.trans hl.1.symm) hown (hts _ qM_X5_9) (hts _ qT_J9_max_7cf53) (hts _ qN_J9) (hts _ qK_J9_max_7cf53) (Nat.le_of_ble_eq_true rfl) (Nat.le_of_ble_eq_true rfl) (Nat.zero_le _) (Nat.zero_le _) dX5_init_7 ?_
  refine um_top hw ?_
  refine um_vput (pc := 10) Cx hB.1 iX5 tyX5 tyX5_ok nmX5 rfl 0 (by decide) qF_X5_15 rfl rfl hin rfl (tyX5_ok 0 (by decide)) rfl rfl (by rw [um_bf_len]; exact Nat.le_of_ble_eq_true rfl) dX5_init_10 (fun H1 i he z o => ?_)
  have hB := hB.put (f := some (.inr (xw t))) rfl (fun q h => by cases h) he o
  have hS := hS.put (k := i) z o (Or.inl rfl)
  have hz : sz ≤ H1.size := z ▸ hz
  generalize H1 = H, locs ++ [⟨h0, i⟩] = locs at hB hz hS ⊢
  refine lv_aload_n (pc := 13) hx hb dX5_init_13 rfl (lv_at hl 0 rfl) ?_
  refine lv_iconst (pc := 14) (v := (1 : Int32)) hx hb dX5_init_14 (by decide) ?_
  refine lv_iload_n (pc := 15) hx hb dX5_init_15 rfl (lv_at hl 1 rfl) ?_
  refine va_mmax (pc := 16) (rest := [.ref h0]) hx hb (Cx.2.2.2.1.trans hl.1.symm) hown (hts _ qM_X5_9) (hts _ qT_J9_max_7cf53) (hts _ qN_J9) (hts _ qK_J9_max_7cf53) (Nat.le_of_ble_eq_true rfl) (Nat.le_of_ble_eq_true rfl) (Nat.zero_le _) (Nat.zero_le _) dX5_init_16 ?_
  refine um_top hw ?_
  refine lv_iconst (pc := 19) (v := (0 : Int32)) hx hb dX5_init_19 (by decide) ?_
  refine lv_iload_n (pc := 20) hx hb dX5_init_20 rfl (lv_at hl 2 rfl) ?_
  refine va_mmax (pc := 21) (rest := [.int (xw t), .ref h0]) hx hb (Cx.2.2.2.1.trans hl.1.symm) hown (hts _ qM_X5_9) (hts _ qT_J9_max_7cf53) (hts _ qN_J9) (hts _ qK_J9_max_7cf53) (Nat.le_of_ble_eq_true rfl) (Nat.le_of_ble_eq_true rfl) (Nat.zero_le _) (Nat.zero_le _) dX5_init_21 ?_
  refine lv_imul (pc := 24) hx hb dX5_init_24 ?_
  refine um_vnewi (pc := 25) (N := xl t) Cx hn hN hby (Nat.le_of_ble_eq_true rfl) (by dsimp only; omega) dX5_init_25 (fun H1 hc z o => ?_)
  have hB := hB.arr (q := t + 100) (t := 0) (N := xl t) rfl hbs hz (by decide) (um_x0_row h13.1) hc o
  have hS := hS.push (by omega) o
  have hz' : sz ≤ H1.size := by omega
  refine um_vput (pc := 27) (v := .ref H.size) Cx hB.1 iX5 tyX5 tyX5_ok nmX5 rfl 1 (by decide) qF_X5_21 rfl rfl hin rfl (tyX5_ok 1 (by decide)) rfl rfl (by rw [um_bf_len]; exact Nat.le_of_ble_eq_true rfl) dX5_init_27 (fun H2 i he z o => ?_)
  have hB := hB.put (f := some (.inl (t + 100))) rfl (fun q h => by cases h; exact ⟨_, um_sx_eq _ _ _⟩) (by simp only [um_fv, um_ax_eq]; exact he) o
  have hS := hS.put (k := i) z o (Or.inl rfl)
  have hB := hB.skip rfl (by rw [um_x0_row h13.2])
  refine W.widen (k := 1) (n := xl t) (by omega) (by omega) ?_
  exact um_kret (pc := 30) Cx (hB.out (Nat.le_refl _) (by rw [um_sx_ne (by omega)]) hb0 um_x0_ref (fun i u hi => hi) (shT_cl t)) (by exact hS) dX5_init_30
end CT
