/-! THE LAW'S LOOP, AND ITS START, out of a simulation (written by wip/whole/law.py) -/
def lw_P (b : Addr) (xs : List Int32) (args : Array Value) (s : State) : Prop := args = #[.ref b] ∧ s.IntsAt b xs ∧ xs.length ≤ 384 ∧ (Jvm.Cond.and given_1 narrow_1).before args s = true
def lw_Q (_ : Array Value) (s : State) (o : Outcome) (t : State) : Prop := o = .returned (some (.int 1)) ∧ Framed s o t [] 600000 7302250
def lw_Z (below : List Frame) (a : Array Value) (s : State) : State → Prop := fun t => ∃ o, t.status = .running ∧ Ended t below o ∧ lw_Q a s o t
/-- the law's own end -/
theorem lw_ret {p : Program} {l : Launch} {e : Env} {s : State} {m : MethodId} {below : List Frame} {meth : Method} {c : Code} {b : Nat} (hx : p.tables.exec = Jvm.exec) (hb : c.code = code) (hr : meth.sig.returnType = ret) (hlocks : meth.locks = false) {pc : Nat} {H : Heap} {ls : Array Slot} (hdg : decode code pc = .ok (.ireturn, 1)) : W p l e room_1 s m #[Value.ref b] below meth c H [] 600000 7302250 (lw_Z below #[Value.ref b] s) (F0 m pc ls [.int 1]) := by
  intro T hT X
  obtain ⟨fs, hret, hrun, hended, hW, hframe⟩ := X.leave (v := some (.int 1)) (hlocks := hlocks) (fun h => by rw [hr] at h; cases h)
  have hmeth' : T.vm.method? m = some meth := X.method'
  refine ⟨T.setFrames fs, ?_, .returned (some (.int 1)), hrun, hended, rfl, ⟨_, rfl⟩, hW, hframe⟩
  jvm_step X.here [X.here.top, hx, hb, hdg, hmeth', hr, ret, narrow_b1]
  (try refine ⟨rfl, ?_⟩); (try refine ⟨rfl, ?_⟩)
  first | (intro acts; rw [hret _ acts rfl rfl rfl]) | rw [hret _ _ rfl rfl rfl]
  exact Steps.refl _
theorem lw_sub6 {L : Nat} (hL : L ≤ 384) : (Int32.ofNat L - 6).toInt = (L : Int) - 6 := by
  have h1 : (Int32.ofNat L).toInt = (L : Int) := nI_toInt (n := L) (by omega)
  have h6 : (6 : Int32).toInt = 6 := by decide
  rw [Int32.toInt_sub, h1, h6]
  rw [Int.bmod_def]
  split <;> omega
theorem lw_addk {L it : Nat} {j : Nat} (hL : L ≤ 384) (h : 6 * it + 6 ≤ L) (hj : j ≤ 5) : nI (6 * it) + nI j = nI (6 * it + j) := by
  unfold nI
  rw [← Int32.ofNat_add]
theorem lw_in {L k : Nat} (hL : L ≤ 384) (h : k < L) : vp_in (nI k) L := by
  intro z
  rcases z with z | z
  · exact nI_pos (by omega) z
  · rw [nI_clamp (by omega)] at z
    omega
section LWL
variable {p : Program} {l : Launch} {e : Env} {s : State} {m : MethodId} {below : List Frame} {meth : Method} {c : Code} {Z : um_Z} {R : Nat → um_S → um_S → Prop} {b L : Nat} {xs : Nat → Int32}
/-- the loop's head -/
theorem lw_step {H : Heap} {locs : List Loc} {cells slots it : Nat} {ls : Array Slot} {a1 a2 : Value} (hF : lw_F p s m meth c #[Value.ref b] Z b L xs (fun q => s.heap.size ≤ q)) (hL : L ≤ 384) (hit : it ≤ 65) (hS : va_S (fun q => s.heap.size ≤ q) s.heap H locs) (hl : lv_has ls 4 [(0, .ref b), (1, a1), (2, a2), (3, .int (nI (6 * it)))]) (hcs : cells ≤ 600000) (hss : slots ≤ 7302250) (kk : 6 * it + 6 ≤ L → W p l e room_1 s m #[Value.ref b] below meth c H locs cells slots (lw_Z below #[Value.ref b] s) (F0 m 27 ls [])) : W p l e room_1 s m #[Value.ref b] below meth c H locs cells slots (lw_Z below #[Value.ref b] s) (F0 m 18 ls []) := by
  obtain ⟨Cx, hX, hbl, hbA, hAo, hAn⟩ := hF
  have hx := Cx.1
  have hb := Cx.2.1
  refine lv_iload_n (pc := 18) hx hb dL_law_18 rfl (lv_at hl 3 rfl) ?_
  refine lv_aload_n (pc := 19) hx hb dL_law_19 rfl (lv_at hl 0 rfl) ?_
  refine va_slen (pc := 20) hx hb hX hbl hbA hS dL_law_20 ?_
  refine lv_bipush (pc := 21) (v := (6 : Int32)) hx hb dL_law_21 (by decide) ?_
  refine lv_isub (pc := 23) hx hb dL_law_23 ?_
  have e1 := lw_sub6 hL
  have e2 : (nI (6 * it)).toInt = ((6 * it : Nat) : Int) := nI_toInt (by omega)
  refine lv_icmp_gt (pc := 24) (tgt := 2022) hx hb dL_law_24 (by decide) (fun c1 => ?_) (fun c1 => kk ?_)
  · refine lv_iconst (pc := 2022) (v := (1 : Int32)) hx hb dL_law_2022 (by decide) ?_
    refine va_forget hS.2.2 ?_
    refine W.widen (k := 600000) (n := 7302250) hcs hss ?_
    exact lw_ret (pc := 2023) hx hb Cx.2.2.1 Cx.2.2.2.2.2.2.1 dL_law_2023
  · rw [Int32.lt_iff_toInt_lt, e1, e2] at c1
    omega
set_option maxHeartbeats 4000000 in
theorem lw_loop (hF : lw_F p s m meth c #[Value.ref b] Z b L xs (fun q => s.heap.size ≤ q)) (hSim : um_Sim R) (hL : L ≤ 384) : ∀ (k it n : Nat) (αx αm : Nat → Nat) (σx σm : um_S) (H : Heap) (locs : List Loc) (cells slots : Nat) (ls : Array Slot), it + k = 65 → cells + 3 * k ≤ 600000 → slots + 197 * k ≤ 7302250 → R n σx σm → lw_I Z n αx αm σx σm H → va_S (fun q => s.heap.size ≤ q) s.heap H locs → lv_has ls 4 [(0, .ref b), (1, .ref (αx 0)), (2, .ref (αm 0)), (3, .int (nI (6 * it)))] → W p l e room_1 s m #[Value.ref b] below meth c H locs cells slots (lw_Z below #[Value.ref b] s) (F0 m 18 ls []) := by
  intro k
  induction k with
  | zero =>
    intro it n αx αm σx σm H locs cells slots ls hit hcs hss hR hI hS hl
    exact lw_step hF hL (by omega) hS hl (by omega) (by omega) (fun h => by omega)
  | succ k ih =>
    intro it n αx αm σx σm H locs cells slots ls hit hcs hss hR hI hS hl
    refine lw_step hF hL (by omega) hS hl (by omega) (by omega) (fun h => ?_)
    have hi : lw_ix (nI (6 * it)) L := ⟨by rw [show (1 : Int32) = nI 1 from rfl, lw_addk hL h (by omega)]; exact lw_in hL (by omega), by rw [show (2 : Int32) = nI 2 from rfl, lw_addk hL h (by omega)]; exact lw_in hL (by omega), by rw [show (3 : Int32) = nI 3 from rfl, lw_addk hL h (by omega)]; exact lw_in hL (by omega), by rw [show (4 : Int32) = nI 4 from rfl, lw_addk hL h (by omega)]; exact lw_in hL (by omega), by rw [show (5 : Int32) = nI 5 from rfl, lw_addk hL h (by omega)]; exact lw_in hL (by omega)⟩
    have hx := hF.1.1
    have hb := hF.1.2.1
    have hC : lw_K p l e s m #[Value.ref b] below meth c (lw_Z below #[Value.ref b] s) Z R αx αm (fun q => s.heap.size ≤ q) ls cells slots := by
      intro n' αx' σx' σm' H' locs' hR' hI' e0 hS'
      refine lv_iinc (pc := 2016) (v := nI (6 * it) + (6 : Int32)) (lv' := [(3, .int (nI (6 * it) + (6 : Int32))), (0, .ref b), (1, .ref (αx 0)), (2, .ref (αm 0))]) hx hb dL_law_2016 hl (k := 3) rfl rfl (by decide) rfl ?_
      intro ls hl
      refine lv_goto (pc := 2019) (tgt := 18) hx hb dL_law_2019 (by decide) ?_
      have e6 : nI (6 * it) + (6 : Int32) = nI (6 * (it + 1)) := by
        rw [show (6 : Int32) = nI 6 from rfl]
        unfold nI
        rw [← Int32.ofNat_add]
        congr 1
      refine ih (it + 1) n' αx' αm σx' σm' H' locs' (cells + 3) (slots + 197) ls (by omega) (by omega) (by omega) hR' hI' hS' ?_
      rw [e0, ← e6]
      exact lv_sub hl [1, 2, 3, 0] rfl
    refine lv_aload_n (pc := 27) hx hb dL_law_27 rfl (lv_at hl 0 rfl) ?_
    refine lv_iload_n (pc := 28) hx hb dL_law_28 rfl (lv_at hl 3 rfl) ?_
    refine va_sld (pc := 29) hx hb hF.2.1 hF.2.2.1 hF.2.2.2.1 hS (lw_in hL (by omega)) dL_law_29 ?_
    refine lv_bipush (pc := 30) (v := (63 : Int32)) hx hb dL_law_30 (by decide) ?_
    refine lv_iand (pc := 32) hx hb dL_law_32 ?_
    obtain ⟨x, hxe⟩ : ∃ x : Int32, xs (nI (6 * it)).toNatClampNeg &&& 63 = x := ⟨_, rfl⟩
    rw [hxe]
    by_cases ho : x.toInt < 0 ∨ 53 < x.toInt
    · refine lv_tableOut (pc := 33) (tgt := 2016) hx hb dL_law_33 ho (by decide) ?_
      refine W.widen (k := cells + 3) (n := slots + 197) (by omega) (by omega) ?_
      exact hC n αx σx σm H locs hR hI rfl hS
    · have h1 : ¬ x.toInt < 0 := fun z => ho (Or.inl z)
      have h2 : ¬ 53 < x.toInt := fun z => ho (Or.inr z)
      have hx0 : x.toInt = 0 ∨ x.toInt = 1 ∨ x.toInt = 2 ∨ x.toInt = 3 ∨ x.toInt = 4 ∨ x.toInt = 5 ∨ x.toInt = 6 ∨ x.toInt = 7 ∨ x.toInt = 8 ∨ x.toInt = 9 ∨ x.toInt = 10 ∨ x.toInt = 11 ∨ x.toInt = 12 ∨ x.toInt = 13 ∨ x.toInt = 14 ∨ x.toInt = 15 ∨ x.toInt = 16 ∨ x.toInt = 17 ∨ x.toInt = 18 ∨ x.toInt = 19 ∨ x.toInt = 20 ∨ x.toInt = 21 ∨ x.toInt = 22 ∨ x.toInt = 23 ∨ x.toInt = 24 ∨ x.toInt = 25 ∨ x.toInt = 26 ∨ x.toInt = 27 ∨ x.toInt = 28 ∨ x.toInt = 29 ∨ x.toInt = 30 ∨ x.toInt = 31 ∨ x.toInt = 32 ∨ x.toInt = 33 ∨ x.toInt = 34 ∨ x.toInt = 35 ∨ x.toInt = 36 ∨ x.toInt = 37 ∨ x.toInt = 38 ∨ x.toInt = 39 ∨ x.toInt = 40 ∨ x.toInt = 41 ∨ x.toInt = 42 ∨ x.toInt = 43 ∨ x.toInt = 44 ∨ x.toInt = 45 ∨ x.toInt = 46 ∨ x.toInt = 47 ∨ x.toInt = 48 ∨ x.toInt = 49 ∨ x.toInt = 50 ∨ x.toInt = 51 ∨ x.toInt = 52 ∨ x.toInt = 53 := by omega
      have c3 : cells + 3 ≤ 600000 := by omega
      have c4 : slots + 197 ≤ 7302250 := by omega
      rcases hx0 with hk | hk | hk | hk | hk | hk | hk | hk | hk | hk | hk | hk | hk | hk | hk | hk | hk | hk | hk | hk | hk | hk | hk | hk | hk | hk | hk | hk | hk | hk | hk | hk | hk | hk | hk | hk | hk | hk | hk | hk | hk | hk | hk | hk | hk | hk | hk | hk | hk | hk | hk | hk | hk | hk
      · exact lv_tableIn (pc := 33) (tgt := 264) (off := 231) hx hb dL_law_33 h1 h2 (by rw [hk]; rfl) (by decide) (lw_c0 hF hSim.1 hi hR hI hS hl c3 c4 hC)
      · exact lv_tableIn (pc := 33) (tgt := 297) (off := 264) hx hb dL_law_33 h1 h2 (by rw [hk]; rfl) (by decide) (lw_c1 hF hSim.2.1 hi hR hI hS hl c3 c4 hC)
      · exact lv_tableIn (pc := 33) (tgt := 360) (off := 327) hx hb dL_law_33 h1 h2 (by rw [hk]; rfl) (by decide) (lw_c2 hF hSim.2.2.1 hi hR hI hS hl c3 c4 hC)
      · exact lv_tableIn (pc := 33) (tgt := 393) (off := 360) hx hb dL_law_33 h1 h2 (by rw [hk]; rfl) (by decide) (lw_c3 hF hSim.2.2.2.1 hi hR hI hS hl c3 c4 hC)
      · exact lv_tableIn (pc := 33) (tgt := 426) (off := 393) hx hb dL_law_33 h1 h2 (by rw [hk]; rfl) (by decide) (lw_c4 hF hSim.2.2.2.2.1 hi hR hI hS hl c3 c4 hC)
      · exact lv_tableIn (pc := 33) (tgt := 459) (off := 426) hx hb dL_law_33 h1 h2 (by rw [hk]; rfl) (by decide) (lw_c5 hF hSim.2.2.2.2.2.1 hi hR hI hS hl c3 c4 hC)
      · exact lv_tableIn (pc := 33) (tgt := 482) (off := 449) hx hb dL_law_33 h1 h2 (by rw [hk]; rfl) (by decide) (lw_c6 hF hSim.2.2.2.2.2.2.1 hi hR hI hS hl c3 c4 hC)
      · exact lv_tableIn (pc := 33) (tgt := 535) (off := 502) hx hb dL_law_33 h1 h2 (by rw [hk]; rfl) (by decide) (lw_c7 hF hSim.2.2.2.2.2.2.2.1 hi hR hI hS hl c3 c4 hC)
      · exact lv_tableIn (pc := 33) (tgt := 568) (off := 535) hx hb dL_law_33 h1 h2 (by rw [hk]; rfl) (by decide) (lw_c8 hF hSim.2.2.2.2.2.2.2.2.1 hi hR hI hS hl c3 c4 hC)
      · exact lv_tableIn (pc := 33) (tgt := 601) (off := 568) hx hb dL_law_33 h1 h2 (by rw [hk]; rfl) (by decide) (lw_c9 hF hSim.2.2.2.2.2.2.2.2.2.1 hi hR hI hS hl c3 c4 hC)
      · exact lv_tableIn (pc := 33) (tgt := 624) (off := 591) hx hb dL_law_33 h1 h2 (by rw [hk]; rfl) (by decide) (lw_c10 hF hSim.2.2.2.2.2.2.2.2.2.2.1 hi hR hI hS hl c3 c4 hC)
      · exact lv_tableIn (pc := 33) (tgt := 667) (off := 634) hx hb dL_law_33 h1 h2 (by rw [hk]; rfl) (by decide) (lw_c11 hF hSim.2.2.2.2.2.2.2.2.2.2.2.1 hi hR hI hS hl c3 c4 hC)
      · exact lv_tableIn (pc := 33) (tgt := 690) (off := 657) hx hb dL_law_33 h1 h2 (by rw [hk]; rfl) (by decide) (lw_c12 hF hSim.2.2.2.2.2.2.2.2.2.2.2.2.1 hi hR hI hS hl c3 c4 hC)
      · exact lv_tableIn (pc := 33) (tgt := 713) (off := 680) hx hb dL_law_33 h1 h2 (by rw [hk]; rfl) (by decide) (lw_c13 hF hSim.2.2.2.2.2.2.2.2.2.2.2.2.2.1 hi hR hI hS hl c3 c4 hC)
      · exact lv_tableIn (pc := 33) (tgt := 746) (off := 713) hx hb dL_law_33 h1 h2 (by rw [hk]; rfl) (by decide) (lw_c14 hF hSim.2.2.2.2.2.2.2.2.2.2.2.2.2.2.1 hi hR hI hS hl c3 c4 hC)
      · exact lv_tableIn (pc := 33) (tgt := 769) (off := 736) hx hb dL_law_33 h1 h2 (by rw [hk]; rfl) (by decide) (lw_c15 hF hSim.2.2.2.2.2.2.2.2.2.2.2.2.2.2.2.1 hi hR hI hS hl c3 c4 hC)
      · exact lv_tableIn (pc := 33) (tgt := 822) (off := 789) hx hb dL_law_33 h1 h2 (by rw [hk]; rfl) (by decide) (lw_c16 hF hSim.2.2.2.2.2.2.2.2.2.2.2.2.2.2.2.2.1 hi hR hI hS hl c3 c4 hC)
      · exact lv_tableIn (pc := 33) (tgt := 855) (off := 822) hx hb dL_law_33 h1 h2 (by rw [hk]; rfl) (by decide) (lw_c17 hF hSim.2.2.2.2.2.2.2.2.2.2.2.2.2.2.2.2.2.1 hi hR hI hS hl c3 c4 hC)
      · exact lv_tableIn (pc := 33) (tgt := 888) (off := 855) hx hb dL_law_33 h1 h2 (by rw [hk]; rfl) (by decide) (lw_c18 hF hSim.2.2.2.2.2.2.2.2.2.2.2.2.2.2.2.2.2.2.1 hi hR hI hS hl c3 c4 hC)
      · exact lv_tableIn (pc := 33) (tgt := 921) (off := 888) hx hb dL_law_33 h1 h2 (by rw [hk]; rfl) (by decide) (lw_c19 hF hSim.2.2.2.2.2.2.2.2.2.2.2.2.2.2.2.2.2.2.2.1 hi hR hI hS hl c3 c4 hC)
      · exact lv_tableIn (pc := 33) (tgt := 944) (off := 911) hx hb dL_law_33 h1 h2 (by rw [hk]; rfl) (by decide) (lw_c20 hF hSim.2.2.2.2.2.2.2.2.2.2.2.2.2.2.2.2.2.2.2.2.1 hi hR hI hS hl c3 c4 hC)
      · exact lv_tableIn (pc := 33) (tgt := 967) (off := 934) hx hb dL_law_33 h1 h2 (by rw [hk]; rfl) (by decide) (lw_c21 hF hSim.2.2.2.2.2.2.2.2.2.2.2.2.2.2.2.2.2.2.2.2.2.1 hi hR hI hS hl c3 c4 hC)
      · exact lv_tableIn (pc := 33) (tgt := 1000) (off := 967) hx hb dL_law_33 h1 h2 (by rw [hk]; rfl) (by decide) (lw_c22 hF hSim.2.2.2.2.2.2.2.2.2.2.2.2.2.2.2.2.2.2.2.2.2.2.1 hi hR hI hS hl c3 c4 hC)
      · exact lv_tableIn (pc := 33) (tgt := 1023) (off := 990) hx hb dL_law_33 h1 h2 (by rw [hk]; rfl) (by decide) (lw_c23 hF hSim.2.2.2.2.2.2.2.2.2.2.2.2.2.2.2.2.2.2.2.2.2.2.2.1 hi hR hI hS hl c3 c4 hC)
      · exact lv_tableIn (pc := 33) (tgt := 1046) (off := 1013) hx hb dL_law_33 h1 h2 (by rw [hk]; rfl) (by decide) (lw_c24 hF hSim.2.2.2.2.2.2.2.2.2.2.2.2.2.2.2.2.2.2.2.2.2.2.2.2.1 hi hR hI hS hl c3 c4 hC)
      · exact lv_tableIn (pc := 33) (tgt := 1079) (off := 1046) hx hb dL_law_33 h1 h2 (by rw [hk]; rfl) (by decide) (lw_c25 hF hSim.2.2.2.2.2.2.2.2.2.2.2.2.2.2.2.2.2.2.2.2.2.2.2.2.2.1 hi hR hI hS hl c3 c4 hC)
      · exact lv_tableIn (pc := 33) (tgt := 1102) (off := 1069) hx hb dL_law_33 h1 h2 (by rw [hk]; rfl) (by decide) (lw_c26 hF hSim.2.2.2.2.2.2.2.2.2.2.2.2.2.2.2.2.2.2.2.2.2.2.2.2.2.2.1 hi hR hI hS hl c3 c4 hC)
      · exact lv_tableIn (pc := 33) (tgt := 1125) (off := 1092) hx hb dL_law_33 h1 h2 (by rw [hk]; rfl) (by decide) (lw_c27 hF hSim.2.2.2.2.2.2.2.2.2.2.2.2.2.2.2.2.2.2.2.2.2.2.2.2.2.2.2.1 hi hR hI hS hl c3 c4 hC)
      · exact lv_tableIn (pc := 33) (tgt := 1148) (off := 1115) hx hb dL_law_33 h1 h2 (by rw [hk]; rfl) (by decide) (lw_c28 hF hSim.2.2.2.2.2.2.2.2.2.2.2.2.2.2.2.2.2.2.2.2.2.2.2.2.2.2.2.2.1 hi hR hI hS hl c3 c4 hC)
      · exact lv_tableIn (pc := 33) (tgt := 1171) (off := 1138) hx hb dL_law_33 h1 h2 (by rw [hk]; rfl) (by decide) (lw_c29 hF hSim.2.2.2.2.2.2.2.2.2.2.2.2.2.2.2.2.2.2.2.2.2.2.2.2.2.2.2.2.2.1 hi hR hI hS hl c3 c4 hC)
      · exact lv_tableIn (pc := 33) (tgt := 1214) (off := 1181) hx hb dL_law_33 h1 h2 (by rw [hk]; rfl) (by decide) (lw_c30 hF hSim.2.2.2.2.2.2.2.2.2.2.2.2.2.2.2.2.2.2.2.2.2.2.2.2.2.2.2.2.2.2.1 hi hR hI hS hl c3 c4 hC)
      · exact lv_tableIn (pc := 33) (tgt := 1247) (off := 1214) hx hb dL_law_33 h1 h2 (by rw [hk]; rfl) (by decide) (lw_c31 hF hSim.2.2.2.2.2.2.2.2.2.2.2.2.2.2.2.2.2.2.2.2.2.2.2.2.2.2.2.2.2.2.2.1 hi hR hI hS hl c3 c4 hC)
      · exact lv_tableIn (pc := 33) (tgt := 1300) (off := 1267) hx hb dL_law_33 h1 h2 (by rw [hk]; rfl) (by decide) (lw_c32 hF hSim.2.2.2.2.2.2.2.2.2.2.2.2.2.2.2.2.2.2.2.2.2.2.2.2.2.2.2.2.2.2.2.2.1 hi hR hI hS hl c3 c4 hC)
      · exact lv_tableIn (pc := 33) (tgt := 1333) (off := 1300) hx hb dL_law_33 h1 h2 (by rw [hk]; rfl) (by decide) (lw_c33 hF hSim.2.2.2.2.2.2.2.2.2.2.2.2.2.2.2.2.2.2.2.2.2.2.2.2.2.2.2.2.2.2.2.2.2.1 hi hR hI hS hl c3 c4 hC)
      · exact lv_tableIn (pc := 33) (tgt := 1366) (off := 1333) hx hb dL_law_33 h1 h2 (by rw [hk]; rfl) (by decide) (lw_c34 hF hSim.2.2.2.2.2.2.2.2.2.2.2.2.2.2.2.2.2.2.2.2.2.2.2.2.2.2.2.2.2.2.2.2.2.2.1 hi hR hI hS hl c3 c4 hC)
      · exact lv_tableIn (pc := 33) (tgt := 1389) (off := 1356) hx hb dL_law_33 h1 h2 (by rw [hk]; rfl) (by decide) (lw_c35 hF hSim.2.2.2.2.2.2.2.2.2.2.2.2.2.2.2.2.2.2.2.2.2.2.2.2.2.2.2.2.2.2.2.2.2.2.2.1 hi hR hI hS hl c3 c4 hC)
      · exact lv_tableIn (pc := 33) (tgt := 1402) (off := 1369) hx hb dL_law_33 h1 h2 (by rw [hk]; rfl) (by decide) (lw_c36 hF hSim.2.2.2.2.2.2.2.2.2.2.2.2.2.2.2.2.2.2.2.2.2.2.2.2.2.2.2.2.2.2.2.2.2.2.2.2.1 hi hR hI hS hl c3 c4 hC)
      · exact lv_tableIn (pc := 33) (tgt := 1445) (off := 1412) hx hb dL_law_33 h1 h2 (by rw [hk]; rfl) (by decide) (lw_c37 hF hSim.2.2.2.2.2.2.2.2.2.2.2.2.2.2.2.2.2.2.2.2.2.2.2.2.2.2.2.2.2.2.2.2.2.2.2.2.2.1 hi hR hI hS hl c3 c4 hC)
      · exact lv_tableIn (pc := 33) (tgt := 1478) (off := 1445) hx hb dL_law_33 h1 h2 (by rw [hk]; rfl) (by decide) (lw_c38 hF hSim.2.2.2.2.2.2.2.2.2.2.2.2.2.2.2.2.2.2.2.2.2.2.2.2.2.2.2.2.2.2.2.2.2.2.2.2.2.2.1 hi hR hI hS hl c3 c4 hC)
      · exact lv_tableIn (pc := 33) (tgt := 1501) (off := 1468) hx hb dL_law_33 h1 h2 (by rw [hk]; rfl) (by decide) (lw_c39 hF hSim.2.2.2.2.2.2.2.2.2.2.2.2.2.2.2.2.2.2.2.2.2.2.2.2.2.2.2.2.2.2.2.2.2.2.2.2.2.2.2.1 hi hR hI hS hl c3 c4 hC)
      · exact lv_tableIn (pc := 33) (tgt := 1544) (off := 1511) hx hb dL_law_33 h1 h2 (by rw [hk]; rfl) (by decide) (lw_c40 hF hSim.2.2.2.2.2.2.2.2.2.2.2.2.2.2.2.2.2.2.2.2.2.2.2.2.2.2.2.2.2.2.2.2.2.2.2.2.2.2.2.2.1 hi hR hI hS hl c3 c4 hC)
      · exact lv_tableIn (pc := 33) (tgt := 1577) (off := 1544) hx hb dL_law_33 h1 h2 (by rw [hk]; rfl) (by decide) (lw_c41 hF hSim.2.2.2.2.2.2.2.2.2.2.2.2.2.2.2.2.2.2.2.2.2.2.2.2.2.2.2.2.2.2.2.2.2.2.2.2.2.2.2.2.2.1 hi hR hI hS hl c3 c4 hC)
      · exact lv_tableIn (pc := 33) (tgt := 1620) (off := 1587) hx hb dL_law_33 h1 h2 (by rw [hk]; rfl) (by decide) (lw_c42 hF hSim.2.2.2.2.2.2.2.2.2.2.2.2.2.2.2.2.2.2.2.2.2.2.2.2.2.2.2.2.2.2.2.2.2.2.2.2.2.2.2.2.2.2.1 hi hR hI hS hl c3 c4 hC)
      · exact lv_tableIn (pc := 33) (tgt := 1643) (off := 1610) hx hb dL_law_33 h1 h2 (by rw [hk]; rfl) (by decide) (lw_c43 hF hSim.2.2.2.2.2.2.2.2.2.2.2.2.2.2.2.2.2.2.2.2.2.2.2.2.2.2.2.2.2.2.2.2.2.2.2.2.2.2.2.2.2.2.2.1 hi hR hI hS hl c3 c4 hC)
      · exact lv_tableIn (pc := 33) (tgt := 1696) (off := 1663) hx hb dL_law_33 h1 h2 (by rw [hk]; rfl) (by decide) (lw_c44 hF hSim.2.2.2.2.2.2.2.2.2.2.2.2.2.2.2.2.2.2.2.2.2.2.2.2.2.2.2.2.2.2.2.2.2.2.2.2.2.2.2.2.2.2.2.2.1 hi hR hI hS hl c3 c4 hC)
      · exact lv_tableIn (pc := 33) (tgt := 1739) (off := 1706) hx hb dL_law_33 h1 h2 (by rw [hk]; rfl) (by decide) (lw_c45 hF hSim.2.2.2.2.2.2.2.2.2.2.2.2.2.2.2.2.2.2.2.2.2.2.2.2.2.2.2.2.2.2.2.2.2.2.2.2.2.2.2.2.2.2.2.2.2.1 hi hR hI hS hl c3 c4 hC)
      · exact lv_tableIn (pc := 33) (tgt := 1782) (off := 1749) hx hb dL_law_33 h1 h2 (by rw [hk]; rfl) (by decide) (lw_c46 hF hSim.2.2.2.2.2.2.2.2.2.2.2.2.2.2.2.2.2.2.2.2.2.2.2.2.2.2.2.2.2.2.2.2.2.2.2.2.2.2.2.2.2.2.2.2.2.2.1 hi hR hI hS hl c3 c4 hC)
      · exact lv_tableIn (pc := 33) (tgt := 1825) (off := 1792) hx hb dL_law_33 h1 h2 (by rw [hk]; rfl) (by decide) (lw_c47 hF hSim.2.2.2.2.2.2.2.2.2.2.2.2.2.2.2.2.2.2.2.2.2.2.2.2.2.2.2.2.2.2.2.2.2.2.2.2.2.2.2.2.2.2.2.2.2.2.2.1 hi hR hI hS hl c3 c4 hC)
      · exact lv_tableIn (pc := 33) (tgt := 1858) (off := 1825) hx hb dL_law_33 h1 h2 (by rw [hk]; rfl) (by decide) (lw_c48 hF hSim.2.2.2.2.2.2.2.2.2.2.2.2.2.2.2.2.2.2.2.2.2.2.2.2.2.2.2.2.2.2.2.2.2.2.2.2.2.2.2.2.2.2.2.2.2.2.2.2.1 hi hR hI hS hl c3 c4 hC)
      · exact lv_tableIn (pc := 33) (tgt := 1921) (off := 1888) hx hb dL_law_33 h1 h2 (by rw [hk]; rfl) (by decide) (lw_c49 hF hSim.2.2.2.2.2.2.2.2.2.2.2.2.2.2.2.2.2.2.2.2.2.2.2.2.2.2.2.2.2.2.2.2.2.2.2.2.2.2.2.2.2.2.2.2.2.2.2.2.2.1 hi hR hI hS hl c3 c4 hC)
      · exact lv_tableIn (pc := 33) (tgt := 1944) (off := 1911) hx hb dL_law_33 h1 h2 (by rw [hk]; rfl) (by decide) (lw_c50 hF hSim.2.2.2.2.2.2.2.2.2.2.2.2.2.2.2.2.2.2.2.2.2.2.2.2.2.2.2.2.2.2.2.2.2.2.2.2.2.2.2.2.2.2.2.2.2.2.2.2.2.2.1 hi hR hI hS hl c3 c4 hC)
      · exact lv_tableIn (pc := 33) (tgt := 1967) (off := 1934) hx hb dL_law_33 h1 h2 (by rw [hk]; rfl) (by decide) (lw_c51 hF hSim.2.2.2.2.2.2.2.2.2.2.2.2.2.2.2.2.2.2.2.2.2.2.2.2.2.2.2.2.2.2.2.2.2.2.2.2.2.2.2.2.2.2.2.2.2.2.2.2.2.2.2.1 hi hR hI hS hl c3 c4 hC)
      · exact lv_tableIn (pc := 33) (tgt := 1980) (off := 1947) hx hb dL_law_33 h1 h2 (by rw [hk]; rfl) (by decide) (lw_c52 hF hSim.2.2.2.2.2.2.2.2.2.2.2.2.2.2.2.2.2.2.2.2.2.2.2.2.2.2.2.2.2.2.2.2.2.2.2.2.2.2.2.2.2.2.2.2.2.2.2.2.2.2.2.2.1 hi hR hI hS hl c3 c4 hC)
      · exact lv_tableIn (pc := 33) (tgt := 1993) (off := 1960) hx hb dL_law_33 h1 h2 (by rw [hk]; rfl) (by decide) (lw_c53 hF hSim.2.2.2.2.2.2.2.2.2.2.2.2.2.2.2.2.2.2.2.2.2.2.2.2.2.2.2.2.2.2.2.2.2.2.2.2.2.2.2.2.2.2.2.2.2.2.2.2.2.2.2.2.2 hi hR hI hS hl c3 c4 hC)
end LWL
theorem xsh_P {k : Nat} {t : um_Sh} (h : xsh k = some t) : shP [0, 1, 2, 3, 4, 5, 6, 7, 8, 9, 10, 11, 12, 13, 14, 15, 16, 20, 21, 22, 23, 24, 25, 26, 27, 28, 29, 30, 31, 40, 41, 42, 43, 44, 45, 46, 47, 48, 49, 50, 51, 60, 61, 62, 63, 64, 65, 66, 67, 68, 69, 70, 71, 114, 115, 120, 121, 122, 123, 124, 125, 126, 127, 128, 129, 130, 131, 140, 141, 142, 143, 144, 145, 146, 147, 148, 149, 150, 151, 160, 161, 162, 163, 164, 165, 166, 167, 168, 169, 170, 171] k = some t := by
  refine shP_of ?_ h
  have h1 : xIds.all (fun k => decide (k ∈ ([0, 1, 2, 3, 4, 5, 6, 7, 8, 9, 10, 11, 12, 13, 14, 15, 16, 20, 21, 22, 23, 24, 25, 26, 27, 28, 29, 30, 31, 40, 41, 42, 43, 44, 45, 46, 47, 48, 49, 50, 51, 60, 61, 62, 63, 64, 65, 66, 67, 68, 69, 70, 71, 114, 115, 120, 121, 122, 123, 124, 125, 126, 127, 128, 129, 130, 131, 140, 141, 142, 143, 144, 145, 146, 147, 148, 149, 150, 151, 160, 161, 162, 163, 164, 165, 166, 167, 168, 169, 170, 171] : List Nat))) = true := by decide +kernel
  exact of_decide_eq_true (List.all_eq_true.mp h1 k (xsh_ids h))
set_option maxRecDepth 100000 in
set_option maxHeartbeats 4000000 in
theorem whole_of {R : Nat → um_S → um_S → Prop} (hSim : um_Sim R) (hR0 : R 0 um_x0 um_m0) {p : Program} {e : Env} {s : State} {m : MethodId} {below : List Frame} {meth : Method} {c : Code} (l : Launch) {b L : Nat} {xs : Nat → Int32} (hL : L ≤ 384) (C0 : lw_At p s m meth c b L xs) : W p l e room_1 s m #[Value.ref b] below meth c s.heap [] 0 0 (lw_Z below #[Value.ref b] s) (entryFrame m ([Value.ref b] : List Value).toArray 4) := by
  obtain ⟨Z, hZ, hE, hSt⟩ := um_env C0
  obtain ⟨hx, hb, hr, hml, hown, hts, hX, hbl, hlk, hgv⟩ := C0
  have Cx : um_C p s m meth c #[Value.ref b] code 4 ret RL Z := ⟨hx, hb, hr, hml, hown, fun w hw => hts w (List.mem_filter.mp hw).1, hlk, hE, hSt⟩
  suffices key : ∀ ls : Array Slot, lv_has ls 4 [(0, .ref b)] → W p l e room_1 s m #[Value.ref b] below meth c s.heap [] 0 0 (lw_Z below #[Value.ref b] s) (F0 m 0 ls []) by
    rw [lg_entry_eq]
    exact key _ (lv_entry [Value.ref b] (n := 4) (Nat.le_of_ble_eq_true rfl))
  intro ls hl
  obtain ⟨A, hA⟩ : ∃ A : Nat → Prop, A = fun q => s.heap.size ≤ q := ⟨_, rfl⟩
  have hAo : ∀ q, A q → um_old Z q := fun q h => by rw [hA] at h; show Z.2.2.1 ≤ q; rw [hZ]; exact h
  have hAn : ∀ q, um_old Z q → A q := fun q h => by rw [hA]; show s.heap.size ≤ q; rw [← hZ]; exact h
  have hbA : ¬ A b := fun h => by
    have h : s.heap.size ≤ b := by rw [hA] at h; exact h
    omega
  have hS : va_S A s.heap s.heap [] := va_S.rf
  refine um_vnew (pc := 0) (ci := 7) (fs := [.null, .null, .null, .int 0, .null, .null, .null, .null, .int 0]) Cx iX8 tyX8 tyX8_ok qCL_L_7 qB_X8 qN_X8 rfl (fun j hj => by rcases (show j = 0 ∨ j = 1 ∨ j = 2 ∨ j = 3 ∨ j = 4 ∨ j = 5 ∨ j = 6 ∨ j = 7 ∨ j = 8 by omega) with rfl | rfl | rfl | rfl | rfl | rfl | rfl | rfl | rfl <;> rfl) (Nat.le_of_ble_eq_true rfl) (Nat.le_of_ble_eq_true rfl) dL_law_0 (fun H1 hat z1 o1 => ?_)
  have hS1 : va_S A s.heap H1 [] := hS.push (by omega) o1
  refine lv_dup (pc := 3) hx hb dL_law_3 rfl ?_
  refine um_kcall (pc := 4) (As := []) (rest := [.ref s.heap.size]) (q := s.heap.size) (mc := 90) (ms := 2910) Cx c_X8_init_0 kI_X8 (Or.inl qM_L_9) hat rfl (by omega) (by omega) hS1 hAo (fun x h => by rw [hA]; rcases h with h | h <;> (show s.heap.size ≤ x) <;> omega) rfl hl rfl (Nat.le_of_ble_eq_true rfl) (Nat.le_of_ble_eq_true rfl) (Nat.le_of_ble_eq_true rfl) dL_law_4 (Nat.le_of_ble_eq_true rfl) (Nat.le_of_ble_eq_true rfl) (fun H2 locs2 hB2 z2 o2 hS2 => ?_)
  obtain ⟨αx, e0, hWx, -⟩ := hB2
  have hWx : um_W Z xsh αx um_x0 H2 := hWx.mono (fun k t h => xsh_P h) xsh_cl (fun _ _ _ => rfl) (fun _ _ _ => rfl) (fun _ _ _ => rfl) (fun _ _ _ => rfl) (fun a b q hq => by cases hq)
  refine lv_astore_n (pc := 7) (lv' := [(1, .ref s.heap.size), (0, .ref b)]) hx hb dL_law_7 rfl hl (by decide) rfl ?_
  clear hl
  intro ls hl
  refine um_vnew (pc := 8) (ci := 8) (fs := [.null, .null, .null, .int 0, .null, .null, .null, .null, .int 0, .int 0, .int 0, .int 0, .int 0, .int 0, .int 0, .int 0, .int 0, .int 0, .int 0, .null, .null, .null, .null, .null, .null, .null, .null, .int 0, .null]) Cx iX9 tyX9 tyX9_ok qCL_L_10 qB_X9 qN_X9 rfl (fun j hj => by rcases (show j = 0 ∨ j = 1 ∨ j = 2 ∨ j = 3 ∨ j = 4 ∨ j = 5 ∨ j = 6 ∨ j = 7 ∨ j = 8 ∨ j = 9 ∨ j = 10 ∨ j = 11 ∨ j = 12 ∨ j = 13 ∨ j = 14 ∨ j = 15 ∨ j = 16 ∨ j = 17 ∨ j = 18 ∨ j = 19 ∨ j = 20 ∨ j = 21 ∨ j = 22 ∨ j = 23 ∨ j = 24 ∨ j = 25 ∨ j = 26 ∨ j = 27 ∨ j = 28 by omega) with rfl | rfl | rfl | rfl | rfl | rfl | rfl | rfl | rfl | rfl | rfl | rfl | rfl | rfl | rfl | rfl | rfl | rfl | rfl | rfl | rfl | rfl | rfl | rfl | rfl | rfl | rfl | rfl | rfl <;> rfl) (Nat.le_of_ble_eq_true rfl) (Nat.le_of_ble_eq_true rfl) dL_law_8 (fun H3 hat3 z3 o3 => ?_)
  have hS3 : va_S A s.heap H3 locs2 := hS2.push (by omega) o3
  have hz2 : s.heap.size ≤ H2.size := hS2.1
  refine lv_dup (pc := 11) hx hb dL_law_11 rfl ?_
  refine um_kcall (pc := 12) (As := []) (rest := [.ref H2.size]) (q := H2.size) (mc := 16) (ms := 11982) Cx c_X9_init kI_X9 (Or.inl qM_L_12) hat3 rfl (by omega) (by omega) hS3 hAo (fun x h => by rw [hA]; rcases h with h | h <;> (show s.heap.size ≤ x) <;> omega) rfl hl rfl (Nat.le_of_ble_eq_true rfl) (Nat.le_of_ble_eq_true rfl) (Nat.le_of_ble_eq_true rfl) dL_law_12 (Nat.le_of_ble_eq_true rfl) (Nat.le_of_ble_eq_true rfl) (fun H4 locs4 hB4 z4 o4 hS4 => ?_)
  obtain ⟨αm, e1, hWm, hgm⟩ := hB4
  have hWx' := hWx
  have hWx : um_W Z xsh αx um_x0 H4 := (hWx.kept (fun i u hi => o3 _ (hWx.lt hi))).kept (fun i u hi => o4 _ (by have := hWx.lt hi; omega) (by have := hWx.lt hi; omega))
  have hlt : ∀ i u, xsh i = some u → αx i < H2.size := fun i u hi => hWx'.lt hi
  have hI : lw_I Z 0 αx αm um_x0 um_m0 H4 := ⟨hWx, hWm, fun i j u v hi hj e => by
    have h1 := hlt i u hi
    by_cases hj0 : j = 0
    · rw [hj0, e1] at e
      omega
    · have h2 := hgm j v hj hj0
      omega⟩
  refine lv_astore_n (pc := 15) (lv' := [(2, .ref H2.size), (1, .ref s.heap.size), (0, .ref b)]) hx hb dL_law_15 rfl hl (by decide) rfl ?_
  clear hl
  intro ls hl
  refine lv_iconst (pc := 16) (v := (0 : Int32)) hx hb dL_law_16 (by decide) ?_
  refine lv_istore_n (pc := 17) (lv' := [(3, .int (0 : Int32)), (2, .ref H2.size), (1, .ref s.heap.size), (0, .ref b)]) hx hb dL_law_17 rfl hl (by decide) rfl ?_
  clear hl
  intro ls hl
  subst hA
  refine lw_loop (Z := Z) (R := R) (xs := xs) ⟨Cx, hX, hbl, hbA, hAo, hAn⟩ hSim hL 65 0 0 αx αm um_x0 um_m0 H4 locs4 _ _ ls rfl (by decide) (by decide) hR0 hI hS4 ?_
  rw [e0, e1]
  exact lv_sub hl [3, 2, 1, 0] rfl

