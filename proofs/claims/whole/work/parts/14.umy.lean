/-! rows for the class's side: static array, String constants, references to Texts, copying -/
theorem qNat_copy : Cond.native arraycopyName ∈ WG := um_q 703 (by decide +kernel) (by decide +kernel)
theorem qT_copy : Cond.static arraycopyName ∈ WG := um_q 702 (by decide +kernel) (by decide +kernel)
/-- n places of the row k2 come to the row k -/
def um_cp (σ : um_S) (k k2 n : Nat) : um_S := (fun a b => if a = k then (if b < n then σ.1 k2 b else σ.1 a b) else σ.1 a b, σ.2)
theorem um_cp_ne {σ : um_S} {k k2 n j : Nat} (h : j ≠ k) : (um_cp σ k k2 n).1 j = σ.1 j := by
  funext b
  simp [um_cp, h]
section UMY
variable {p : Program} {l : Launch} {e : Env} {R : Room} {s : State} {m : MethodId} {args : Array Value} {below : List Frame} {meth : Method} {c : Code} {H : Heap} {locs : List Loc} {cells slots : Nat} {Q : State → Prop}
variable {cc : ByteArray} {nL pc : Nat} {ret : Option FieldType} {own : String} {Z : um_Z} {sh : Nat → Option um_Sh} {α : Nat → Nat} {σ σ' : um_S} {ls : Array Slot} {rest st : List Value} {lv : List (Nat × Value)}
theorem um_st (Cx : um_C p s m meth c args cc nL ret own Z) : um_St Z s := Cx.2.2.2.2.2.2.2.2
theorem um_ks (Cx : um_C p s m meth c args cc nL ret own Z) (hW : um_W Z sh α σ H) : vk_S 9 um_kLen um_kByt Z.2.2.2.2.1 Z.2.2.2.2.2 (um_D sh α) s s.heap := (um_st Cx).2.2.2.1.narrow hW.old
/-- KIND_ABOVE -/
theorem um_gka {index : Nat} (Cx : um_C p s m meth c args cc nL ret own Z) (hW : um_W Z sh α σ H) (hS : va_S (um_D sh α) s.heap H locs) (hlink : (Cond.fieldLink own index "TicketShore" "KIND_ABOVE" "[I").before args s = true) (hdg : decode cc pc = .ok (.getstatic index, 3))
    (kk : W p l e R s m args below meth c H locs cells slots Q (F0 m (pc + 3) ls (.ref Z.2.2.2.1 :: rest))) : W p l e R s m args below meth c H locs cells slots Q (F0 m pc ls rest) :=
  va_gets Cx.1 Cx.2.1 ((um_st Cx).1.narrow hW.old) hS Cx.2.2.2.2.1 hlink (fun _ h => h) hdg kk
theorem um_kalen (Cx : um_C p s m meth c args cc nL ret own Z) (hW : um_W Z sh α σ H) (hS : va_S (um_D sh α) s.heap H locs) (hdg : decode cc pc = .ok (.arraylength, 1))
    (kk : W p l e R s m args below meth c H locs cells slots Q (F0 m (pc + 1) ls (.int (8 : Int32) :: rest))) : W p l e R s m args below meth c H locs cells slots Q (F0 m pc ls (.ref Z.2.2.2.1 :: rest)) :=
  va_tlen Cx.1 Cx.2.1 ((um_st Cx).2.1.narrow hW.old) hS (v := (8 : Int32)) rfl hdg kk
theorem um_kald {i : Int32} (Cx : um_C p s m meth c args cc nL ret own Z) (hW : um_W Z sh α σ H) (hS : va_S (um_D sh α) s.heap H locs) (hin : um_ix i 8 = true) (hdg : decode cc pc = .ok (.iaload, 1))
    (kk : W p l e R s m args below meth c H locs cells slots Q (F0 m (pc + 1) ls (.int (um_ka.getD i.toNatClampNeg 0) :: rest))) : W p l e R s m args below meth c H locs cells slots Q (F0 m pc ls (.int i :: .ref Z.2.2.2.1 :: rest)) :=
  va_ti Cx.1 Cx.2.1 ((um_st Cx).2.1.narrow hW.old) hS (um_ix_in hin) (v := .int (um_ka.getD i.toNatClampNeg 0)) rfl hdg kk
/-- String constants -/
theorem um_gcs {index : Nat} (Cx : um_C p s m meth c args cc nL ret own Z) (hW : um_W Z sh α σ H) (hS : va_S (um_D sh α) s.heap H locs) (hlink : (Cond.fieldLink own index "java/lang/String" "COMPACT_STRINGS" "Z").before args s = true) (hdg : decode cc pc = .ok (.getstatic index, 3))
    (kk : W p l e R s m args below meth c H locs cells slots Q (F0 m (pc + 3) ls (.int (1 : Int32) :: rest))) : W p l e R s m args below meth c H locs cells slots Q (F0 m pc ls rest) :=
  va_gets Cx.1 Cx.2.1 ((um_st Cx).2.2.1.narrow hW.old) hS Cx.2.2.2.2.1 hlink (fun _ h => h) hdg kk
theorem um_sval {index i : Nat} (hi : i < 9) (Cx : um_C p s m meth c args cc nL ret own Z) (hW : um_W Z sh α σ H) (hS : va_S (um_D sh α) s.heap H locs) (hlink : (Cond.fieldLink own index "java/lang/String" "value" "[B").before args s = true) (hdg : decode cc pc = .ok (.getfield index, 3))
    (kk : W p l e R s m args below meth c H locs cells slots Q (F0 m (pc + 3) ls (.ref (Z.2.2.2.2.2 i) :: rest))) : W p l e R s m args below meth c H locs cells slots Q (F0 m pc ls (.ref (Z.2.2.2.2.1 i) :: rest)) :=
  vk_getf Cx.1 Cx.2.1 ((um_ks Cx hW).1 i hi).2.2.1 hS Cx.2.2.2.2.1 hlink (fun _ h => h) hdg kk
theorem um_scod {index i : Nat} (hi : i < 9) (Cx : um_C p s m meth c args cc nL ret own Z) (hW : um_W Z sh α σ H) (hS : va_S (um_D sh α) s.heap H locs) (hlink : (Cond.fieldLink own index "java/lang/String" "coder" "B").before args s = true) (hdg : decode cc pc = .ok (.getfield index, 3))
    (kk : W p l e R s m args below meth c H locs cells slots Q (F0 m (pc + 3) ls (.int (0 : Int32) :: rest))) : W p l e R s m args below meth c H locs cells slots Q (F0 m pc ls (.ref (Z.2.2.2.2.1 i) :: rest)) :=
  vk_getf Cx.1 Cx.2.1 ((um_ks Cx hW).1 i hi).2.1 hS Cx.2.2.2.2.1 hlink (fun _ h => h) hdg kk
theorem um_slen {i : Nat} (hi : i < 9) (Cx : um_C p s m meth c args cc nL ret own Z) (hW : um_W Z sh α σ H) (hS : va_S (um_D sh α) s.heap H locs) (hdg : decode cc pc = .ok (.arraylength, 1))
    (kk : W p l e R s m args below meth c H locs cells slots Q (F0 m (pc + 1) ls (.int (nI (um_kLen.getD i 0)) :: rest))) : W p l e R s m args below meth c H locs cells slots Q (F0 m pc ls (.ref (Z.2.2.2.2.2 i) :: rest)) :=
  va_tlen Cx.1 Cx.2.1 ((um_ks Cx hW).1 i hi).2.2.2 hS (v := nI (um_kLen.getD i 0)) rfl hdg kk
theorem um_sbal {i : Nat} {k : Int32} (hi : i < 9) (Cx : um_C p s m meth c args cc nL ret own Z) (hW : um_W Z sh α σ H) (hS : va_S (um_D sh α) s.heap H locs) (hin : um_ix k (um_kLen.getD i 0) = true) (hdg : decode cc pc = .ok (.baload, 1))
    (kk : W p l e R s m args below meth c H locs cells slots Q (F0 m (pc + 1) ls (.int ((um_kByt.getD i []).getD k.toNatClampNeg 0) :: rest))) : W p l e R s m args below meth c H locs cells slots Q (F0 m pc ls (.int k :: .ref (Z.2.2.2.2.2 i) :: rest)) :=
  va_tb Cx.1 Cx.2.1 ((um_ks Cx hW).1 i hi).2.2.2 hS (um_ix_in hin) (v := .int ((um_kByt.getD i []).getD k.toNatClampNeg 0)) rfl hdg kk
theorem um_gsf {index : Nat} (Cx : um_C p s m meth c args cc nL ret own Z) (hW : um_W Z sh α σ H) (hS : va_S (um_D sh α) s.heap H locs) (hlink : (Cond.fieldLink own index "jdk/internal/util/Preconditions" "SIOOBE_FORMATTER" "Ljava/util/function/BiFunction;").before args s = true) (hdg : decode cc pc = .ok (.getstatic index, 3))
    (kk : ∀ v : Value, (v = .null ∨ ∃ a, v = .ref a) → W p l e R s m args below meth c H locs cells slots Q (F0 m (pc + 3) ls (v :: rest))) : W p l e R s m args below meth c H locs cells slots Q (F0 m pc ls rest) := by
  obtain ⟨v, hv, hn⟩ := (um_st Cx).2.2.2.2.2
  exact va_gets Cx.1 Cx.2.1 (hv.narrow hW.old) hS Cx.2.2.2.2.1 hlink (fun _ h => h) hdg (kk v hn)
theorem um_sret {i r : Nat} {rt : FieldType} (Cx : um_C p s m meth c args cc nL (some rt) own Z) (hrt : (∃ n, rt = .object n) ∨ ∃ t, rt = .array t) (hW : um_W Z sh α σ H) (hS : va_S (um_D sh α) s.heap H locs) (hf : some i = some r) (hdg : decode cc pc = .ok (.areturn, 1)) :
    W p l e R s m args below meth c H locs 0 0 (MQ below (um_Post Z sh α σ (some (.ref (Z.2.2.2.2.1 r)))) args s 0 0 (um_D sh α)) (F0 m pc ls [.ref (Z.2.2.2.2.1 i)]) := by
  cases hf
  exact W.aret Cx.1 Cx.2.1 Cx.2.2.1 hrt (Or.inr ⟨_, rfl⟩) (fun t ht hw => ⟨rfl, by rw [ht]; exact hW, hS.F ht⟩) hS.2.2 hdg Cx.2.2.2.2.2.2.1
theorem um_vretR {u : Unit} (Cx : um_C p s m meth c args cc nL none own Z) (hW : um_W Z sh α σ H) (hS : va_S (um_D sh α) s.heap H locs) (hf : some () = some u) (hdg : decode cc pc = .ok (.return_, 1)) :
    W p l e R s m args below meth c H locs 0 0 (MQ below (um_Post Z sh α σ none) args s 0 0 (um_D sh α)) (F0 m pc ls []) := um_vret Cx hW hS rfl hdg
theorem um_cretR {v r : Int32} {ty : FieldType} (Cx : um_C p s m meth c args cc nL (some ty) own Z) (hn : narrow ty (.int v) = .int v) (hW : um_W Z sh α σ H) (hS : va_S (um_D sh α) s.heap H locs) (hf : some v = some r) (hdg : decode cc pc = .ok (.ireturn, 1)) :
    W p l e R s m args below meth c H locs 0 0 (MQ below (um_Post Z sh α σ (some (.int r))) args s 0 0 (um_D sh α)) (F0 m pc ls [.int v]) := by
  cases hf
  exact W.zret Cx.1 Cx.2.1 Cx.2.2.1 hn (fun t ht hw => ⟨rfl, by rw [ht]; exact hW, hS.F ht⟩) hS.2.2 hdg Cx.2.2.2.2.2.2.1
section STRC
variable {y : MethodName} {bytes : ByteArray} {maxL n index F L : Nat} {ret' : Option FieldType} {As : List Value}
theorem um_cTi {i : Nat} {r : Int32} (Cx : um_C p s m meth c args cc nL ret own Z) (hM : um_M l y bytes maxL ret' F L Z sh α σ (.ref (Z.2.2.2.2.1 i) :: As) (some (.int r)) σ') (hk : um_kV y "java/lang/String" bytes maxL ret' n) (hl : Cond.methodLink own index y ∈ WG)
    (hW : um_W Z sh α σ H) (hS : va_S (um_D sh α) s.heap H locs) (hi : i < 9) (hn : As.length = n) (hl0 : lv_has ls nL lv) (hst : st = As.reverse ++ .ref (Z.2.2.2.2.1 i) :: rest) (hrm : (rest.map fun v => v.category).sum ≤ 8) (hR1 : F + 1 ≤ R.frames) (hR2 : 8 + (maxL + 11) + L ≤ R.locals) (hdg : decode cc pc = .ok (.invokevirtual index, 3)) (hcs : cells ≤ R.cells) (hss : slots ≤ R.slots)
    (kk : ∀ (H1 : Heap) (locs1 : List Loc), um_W Z sh α σ' H1 → va_S (um_D sh α) s.heap H1 locs1 → W p l e R s m args below meth c H1 locs1 cells slots Q (F0 m (pc + 3) ls (.int r :: rest))) : W p l e R s m args below meth c H locs cells slots Q (F0 m pc ls st) := by
  obtain ⟨k1, k2, k3, k4, hcl, hd⟩ := hk
  obtain ⟨hx, hb, hr, hml, hown, hts, hlk, hE, hSt⟩ := id Cx
  have hp : PreV s H "java/lang/String" (Z.2.2.2.2.1 i) (um_Pre Z sh α σ (.ref (Z.2.2.2.2.1 i) :: As)) As := ⟨um_blind, vk_recv (um_ks Cx hW) hi hS, um_pre Cx hW hS⟩
  exact um_go (va_runV (As := As) (rest := rest) (Ts := WG) (own := own) ⟨hx, hb, hml, hown, hts⟩ hM ⟨callB_of n hts (um_goodIn k4) rfl rfl rfl (by rw [hcl]; exact hts _ k3) (hts _ hl) hd ⟨hR1, hR2⟩, hts _ k1, hts _ k2⟩ hp rfl hn hl0.1 hst (lv_room hrm) hdg ⟨hcs, hss⟩) hS kk
theorem um_cSr {v : Value} (Cx : um_C p s m meth c args cc nL ret own Z) (hM : um_M l y bytes maxL ret' F L Z sh α σ As (some v) σ') (hk : um_kS y bytes maxL ret' n) (hl : Cond.methodLink own index y ∈ WG ∨ ∃ host, Cond.methodLinkNest own index y host ∈ um_nest)
    (hW : um_W Z sh α σ H) (hS : va_S (um_D sh α) s.heap H locs) (hn : As.length = n) (hl0 : lv_has ls nL lv) (hst : st = As.reverse ++ rest) (hrm : (rest.map fun v => v.category).sum ≤ 8) (hR1 : F + 1 ≤ R.frames) (hR2 : 8 + (maxL + 11) + L ≤ R.locals) (hdg : decode cc pc = .ok (.invokestatic index, 3)) (hcs : cells ≤ R.cells) (hss : slots ≤ R.slots)
    (kk : ∀ (H1 : Heap) (locs1 : List Loc), um_W Z sh α σ' H1 → va_S (um_D sh α) s.heap H1 locs1 → W p l e R s m args below meth c H1 locs1 cells slots Q (F0 m (pc + 3) ls (v :: rest))) : W p l e R s m args below meth c H locs cells slots Q (F0 m pc ls st) :=
  um_callS Cx hM hk hl hW hS hn hl0 hst hrm ⟨hR1, hR2⟩ hdg ⟨hcs, hss⟩ kk
end STRC
/-- a local that may be null -/
theorem um_astore_n {k : Fin 4} {i : Nat} {o : Option Nat} {lv' : List (Nat × Value)} (hx : p.tables.exec = Jvm.exec) (hb : c.code = cc) (hdg : decode cc pc = .ok (.astore_n k, 1)) (hi : (k : Nat) = i) (h : lv_has ls nL lv) (hn : i < nL) (hl : (i, va_rf o) :: lv.filter (fun q => !(q.1 == i) && !(q.1 + 1 == i && q.2.category == 2)) = lv')
    (kk : ∀ ls' : Array Slot, lv_has ls' nL lv' → W p l e R s m args below meth c H locs cells slots Q (F0 m (pc + 1) ls' rest)) : W p l e R s m args below meth c H locs cells slots Q (F0 m pc ls (va_rf o :: rest)) := by
  cases o with
  | none => exact lv_astore_nN hx hb hdg hi h hn hl kk
  | some a => exact lv_astore_n hx hb hdg hi h hn hl kk
theorem um_astore {i : Nat} {o : Option Nat} {lv' : List (Nat × Value)} (hx : p.tables.exec = Jvm.exec) (hb : c.code = cc) (hdg : decode cc pc = .ok (.astore i, 2)) (h : lv_has ls nL lv) (hn : i < nL) (hl : (i, va_rf o) :: lv.filter (fun q => !(q.1 == i) && !(q.1 + 1 == i && q.2.category == 2)) = lv')
    (kk : ∀ ls' : Array Slot, lv_has ls' nL lv' → W p l e R s m args below meth c H locs cells slots Q (F0 m (pc + 2) ls' rest)) : W p l e R s m args below meth c H locs cells slots Q (F0 m pc ls (va_rf o :: rest)) := by
  cases o with
  | none => exact lv_astoreN hx hb hdg h hn hl kk
  | some a => exact lv_astore hx hb hdg h hn hl kk
/-- a Text, or null, comes into a row -/
theorem um_wtW {k n i : Nat} {N : Option Nat} {o : Option Nat} {H1 : Heap} (hW : um_W Z sh α σ H) (hs : sh k = some (.inl (3, N))) (hn : um_len σ k N = n) (ho : ∀ q, o = some q → um_txt sh q) (e : H1[α k]? = some ((arrV (Z.2.1 3) n (fun j => va_rf ((σ.2.1 k j).map α))).setSlot i (va_rf (o.map α)))) (oq : ∀ q : Nat, q ≠ α k → H1[q]? = H[q]?) : um_W Z sh α (um_wt σ k i o) H1 := by
  refine hW.set hs oq ?_ (fun j u hjk => um_E_congr rfl (um_wt_ne hjk) rfl) ?_
  · have hl : um_len (um_wt σ k i o) k N = n := by
      cases N <;> exact hn
    simp only [va_at, um_E, um_row, if_pos, hl]
    rw [vp_cell_q, e, arrV_store]
    congr 2
    funext q
    by_cases hq : q = i
    · subst hq
      simp [updV, um_wt]
    · simp [updV, um_wt, hq]
  · intro a b q hq
    by_cases h1 : a = k
    · by_cases h2 : b = i
      · simp [um_wt, h1, h2] at hq
        exact ho q hq
      · simp [um_wt, h1, h2] at hq
        exact hW.2.2.2 k b q hq
    · simp [um_wt, h1] at hq
      exact hW.2.2.2 a b q hq
theorem um_aast {k n q : Nat} {N : Option Nat} {i : Int32} {H0 : Heap} (Cx : um_C p s m meth c args cc nL ret own Z) (hW : um_W Z sh α σ H) (hS : va_S (um_D sh α) H0 H locs) (hs : sh k = some (.inl (3, N))) (hn : um_len σ k N = n) (hin : vp_in i n) (hq : um_txt sh q) (hdg : decode cc pc = .ok (.aastore, 1))
    (kk : ∀ (H1 : Heap) (locs1 : List Loc), um_W Z sh α (um_wt σ k i.toNatClampNeg (some q)) H1 → va_S (um_D sh α) H0 H1 locs1 → W p l e R s m args below meth c H1 locs1 cells slots Q (F0 m (pc + 1) ls rest)) : W p l e R s m args below meth c H locs cells slots Q (F0 m pc ls (.ref (α q) :: .int i :: .ref (α k) :: rest)) := by
  have hE := Cx.2.2.2.2.2.2.2.1
  have hlt : i.toNatClampNeg < n := Nat.not_le.mp fun q => hin (Or.inr q)
  have h0 : ¬ i < 0 := fun q => hin (Or.inl q)
  obtain ⟨r', hr', cellV, g1, g2, g3, -⟩ := hW.1 q _ hq.1
  have hcls := (hE.1.1 6 _ rfl).2
  obtain ⟨kA, comp, k1, k2, k3, -⟩ := (hE.1.2 3 _ rfl).2
  have hcomp : comp = Z.1.1 6 := Option.some.inj (k3.symm.trans hcls.1)
  subst hcomp
  obtain ⟨kC, hkC, -⟩ := hcls.2
  refine W.aast Cx.1 Cx.2.1 (um_cell3 hW hs hn) (fun q h => by cases h) (fun h => by cases h) k1 k2 rfl hkC ⟨h0, by rw [arrV_size]; exact hlt⟩ g1 (fun q h => by rw [g3] at h; cases h) (by rw [g2]; exact hkC) (by rw [g2]; exact va_assign hcls) rfl rfl hdg fun H1 e z oq => ?_
  exact kk H1 _ (um_wtW hW hs hn (fun q' h => by cases h; exact hq) e oq) (hS.put z oq ⟨k, _, hs, rfl⟩)
theorem um_aasto {k n : Nat} {N o : Option Nat} {i : Int32} {H0 : Heap} (Cx : um_C p s m meth c args cc nL ret own Z) (hW : um_W Z sh α σ H) (hS : va_S (um_D sh α) H0 H locs) (hs : sh k = some (.inl (3, N))) (hn : um_len σ k N = n) (hin : vp_in i n) (ho : ∀ q, o = some q → um_txt sh q) (hdg : decode cc pc = .ok (.aastore, 1))
    (kk : ∀ (H1 : Heap) (locs1 : List Loc), um_W Z sh α (um_wt σ k i.toNatClampNeg o) H1 → va_S (um_D sh α) H0 H1 locs1 → W p l e R s m args below meth c H1 locs1 cells slots Q (F0 m (pc + 1) ls rest)) : W p l e R s m args below meth c H locs cells slots Q (F0 m pc ls (va_rf (o.map α) :: .int i :: .ref (α k) :: rest)) := by
  cases o with
  | some q => exact um_aast Cx hW hS hs hn hin (ho q rfl) hdg kk
  | none =>
    refine va_WaastN (C := RX7) Cx.1 Cx.2.1 (um_cell3 hW hs hn) (um_ta Cx.2.2.2.2.2.2.2.1 3 rfl) (fun h => by cases h) (by rw [arrV_size]; exact hin) rfl rfl hdg fun H1 e z oq => ?_
    exact kk H1 _ (um_wtW hW hs hn ho e oq) (hS.put z oq ⟨k, _, hs, rfl⟩)
/-- System.arraycopy of the first places of another row of ints -/
theorem um_copy {k k2 n n2 index : Nat} {N N2 : Option Nat} {x : Int32} {H0 : Heap} (Cx : um_C p s m meth c args cc nL ret own Z) (hl0 : lv_has ls nL lv) (hlink : Cond.methodLink own index arraycopyName ∈ WG) (hW : um_W Z sh α σ H) (hS : va_S (um_D sh α) H0 H locs) (hs2 : sh k2 = some (.inl (0, N2))) (hn2 : um_len σ k2 N2 = n2) (hs : sh k = some (.inl (0, N))) (hn : um_len σ k N = n)
    (hx0 : ¬ x < 0) (hx1 : x.toNatClampNeg ≤ n2) (hx2 : x.toNatClampNeg ≤ n) (hframes : 1 ≤ R.frames) (hlocals : (rest.map fun v => v.category).sum + (nativeFrameWords "java/lang/System" "arraycopy" 5 + 11) ≤ R.locals) (hdg : decode cc pc = .ok (.invokestatic index, 3))
    (kk : ∀ (H1 : Heap) (locs1 : List Loc), um_W Z sh α (um_cp σ k k2 x.toNatClampNeg) H1 → va_S (um_D sh α) H0 H1 locs1 → W p l e R s m args below meth c H1 locs1 cells slots Q (F0 m (pc + 3) ls rest)) : W p l e R s m args below meth c H locs cells slots Q (F0 m pc ls (.int x :: .int 0 :: .ref (α k) :: .int 0 :: .ref (α k2) :: rest)) := by
  obtain ⟨hx, hb, hr, hml, hown, hts, hlk, hE, hSt⟩ := id Cx
  have h00 : ¬ (0 : Int32) < 0 := by decide
  have c00 : (0 : Int32).toNatClampNeg = 0 := rfl
  have nn : ∀ z : Int32, ¬ z < 0 → z.toInt = (z.toNatClampNeg : Int) := by
    intro z hz
    have hz0 : (0 : Int) ≤ z.toInt := by
      have := Int32.not_lt.mp hz
      simpa using Int32.le_iff_toInt_le.mp this
    show z.toInt = ((z.toInt.toNat : Nat) : Int)
    omega
  intro T hT X
  have hc0 := um_cell hW hs2 (by decide) hn2
  have hc1 := um_cell hW hs (by decide) hn
  obtain ⟨-, k0, hk0, cm0, hkk0⟩ := (hE.1.2 0 _ rfl).1 n2 (fun j => .int (σ.1 k2 j))
  obtain ⟨-, k1, hk1, cm1, hkk1⟩ := (hE.1.2 0 _ rfl).1 n (fun j => .int (σ.1 k j))
  obtain ⟨vm', X', step⟩ := X.arraycopy hx hown (hts _ hlink) (hts _ qNat_copy) (hts _ qT_copy) (hts _ qN_J10) (src := α k2) (dst := α k) (cs := arrV (Z.2.1 0) n2 (fun j => .int (σ.1 k2 j))) (cd := arrV (Z.2.1 0) n (fun j => .int (σ.1 k j))) (srcPos := 0) (destPos := 0) (n := x) (by rw [hT]; exact hc0) (by rw [hT]; exact hc1)
    (fun _ h => by cases h) (fun _ h => by cases h) (fun h => by cases h) (fun h => by cases h) hk0 hk1 hkk0 hkk1 (by simp [refKind]) h00 h00 hx0
    (by rw [nn 0 h00, nn x hx0, arrV_size, c00]; omega)
    (by rw [nn 0 h00, nn x hx0, arrV_size, c00]; omega)
    (fun vm₁ _ i hi => by
      have e : (arrV (Z.2.1 0) n2 (fun j => .int (σ.1 k2 j))).slots.getD ((0 : Int32).toNatClampNeg + i) .null = .int (σ.1 k2 i) := by
        rw [c00, Nat.zero_add, Array.getD_eq_getD_getElem?, arrV_read _ _ (by omega)]
        rfl
      refine ⟨?_, ?_⟩
      · rw [e]
        rfl
      · rw [e]
        exact trivial)
    (g := F0 m pc ls (.int x :: .int 0 :: .ref (α k) :: .int 0 :: .ref (α k2) :: rest)) rfl (by rw [hml]; exact hl0.1) (rest := rest) rfl (by rw [hb]; exact hdg) hframes (by show 2 * 0 + _ + _ ≤ _; omega)
  have e1 : copied (arrV (Z.2.1 0) n2 (fun j => .int (σ.1 k2 j))) (arrV (Z.2.1 0) n (fun j => .int (σ.1 k j))) 0 0 x = vp_cell (Z.2.1 0) (n, .inl (va_cpy (σ.1 k2) (σ.1 k) (0 : Int32).toNatClampNeg (0 : Int32).toNatClampNeg x.toNatClampNeg)) := va_copied (fun z => .int z) (Z.2.1 0) (Z.2.1 0) (σ.1 k2) (σ.1 k) (by rw [c00]; omega)
  rw [e1] at X' step
  have hl : α k < H.size := (Array.getElem?_eq_some_iff.mp hc1).1
  obtain ⟨v, hv⟩ : ∃ v, v = vp_cell (Z.2.1 0) (n, .inl (va_cpy (σ.1 k2) (σ.1 k) (0 : Int32).toNatClampNeg (0 : Int32).toNatClampNeg x.toNatClampNeg)) := ⟨_, rfl⟩
  rw [← hv] at X' step
  have hheap : ((T.setVm vm').setCell (α k) v).heap = H.setIfInBounds (α k) v := by rw [← hT]; rfl
  have oq : ∀ q : Nat, q ≠ α k → (H.setIfInBounds (α k) v)[q]? = H[q]? := fun q hq => by simp [Array.getElem?_setIfInBounds, Ne.symm hq]
  have hself : (H.setIfInBounds (α k) v)[α k]? = some v := by simp [Array.getElem?_setIfInBounds, hl]
  have hW1 : um_W Z sh α (um_cp σ k k2 x.toNatClampNeg) (H.setIfInBounds (α k) v) := by
    refine hW.set hs oq ?_ (fun j u hjk => um_E_congr (um_cp_ne hjk) rfl rfl) hW.2.2.2
    have hl' : um_len (um_cp σ k k2 x.toNatClampNeg) k N = n := by
      cases N <;> exact hn
    simp only [va_at, um_E, um_row, if_neg (show ¬ (0 : Nat) = 3 by decide), hl']
    rw [hself, hv, vp_cell_i, vp_cell_i]
    congr 2
    funext j
    simp only [um_cp, if_true, va_cpy, c00, Nat.zero_add, Nat.zero_le, true_and, Nat.sub_zero]
  obtain ⟨t, a1, b1⟩ := kk _ _ hW1 ⟨by simp; exact hS.1, fun q g1 g2 => by
      rw [oq q (fun e => g2 ⟨k, _, hs, e⟩)]
      exact hS.2.1 q g1 g2, fun q hq => by
      rcases List.mem_append.mp hq with h | h
      · exact hS.2.2 q h
      · obtain ⟨z, -, hz⟩ := List.mem_map.mp h
        rw [← hz]
        exact ⟨k, _, hs, rfl⟩⟩ _ hheap X'
  exact ⟨t, step t a1, b1⟩
end UMY
