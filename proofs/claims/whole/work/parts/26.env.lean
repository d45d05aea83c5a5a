/-! THE LAW: its entry; what the start gives -/
def R_law : String := "TicketShoreLaw"
def lw_At (p : Program) (s : State) (m : MethodId) (meth : Method) (c : Code) (b L : Nat) (xs : Nat → Int32) : Prop :=
  p.tables.exec = Jvm.exec ∧ c.code = code ∧ meth.sig.returnType = ret ∧ c.maxLocals = 4 ∧ s.vm.findClass R_law = some m.cls ∧ (∀ w ∈ lw_tbl, w.before #[Value.ref b] s = true) ∧ va_X b L xs s s.heap ∧ b < s.heap.size ∧ meth.locks = false ∧ (Jvm.Cond.and given_1 narrow_1).before #[Value.ref b] s = true
def lw_fl : List Cond := flatC (Jvm.Cond.and given_1 narrow_1)
def um_kT (i : Nat) : Term := .string RX6 (um_kIdx.getD i 0)
def um_KA : Term := .static "TicketShore" "KIND_ABOVE" "[I"
theorem um_kel : (List.range 9).all (fun i => (List.range (um_kLen.getD i 0)).all (fun j => decide (Cond.eq (.elem (.field (um_kT i) "java/lang/String" "value" "[B") (.int (Int32.ofNat j))) (.int ((um_kByt.getD i []).getD j 0)) ∈ lw_fl))) = true := by decide +kernel
theorem um_kne : (List.range 9).all (fun i => (List.range 9).all (fun j => decide (i = j) || decide (Cond.not (Cond.eq (um_kT i) (um_kT j)) ∈ lw_fl) || decide (Cond.not (Cond.eq (um_kT j) (um_kT i)) ∈ lw_fl))) = true := by decide +kernel
theorem um_kex : (List.range 9).all (fun i => decide (Cond.exactly (um_kT i) "java/lang/String" ∈ lw_fl) && decide (Cond.eq (.field (um_kT i) "java/lang/String" "coder" "B") (.int 0) ∈ lw_fl) && decide (Cond.arrayOf (.field (um_kT i) "java/lang/String" "value" "[B") .byte ∈ lw_fl) && decide (Cond.eq (.length (.field (um_kT i) "java/lang/String" "value" "[B")) (.int (Int32.ofNat (um_kLen.getD i 0))) ∈ lw_fl) && decide (um_kLen.getD i 0 < 2 ^ 31)) = true := by decide +kernel
theorem um_kae : (List.range 8).all (fun j => decide (Cond.eq (.elem um_KA (.int (Int32.ofNat j))) (.int (um_ka.getD j 0)) ∈ lw_fl)) = true := by decide +kernel
theorem um_ksr : (List.range 9).all (fun i => decide (lw_tbl[[511, 512, 513, 514, 515, 604, 605, 606, 607].getD i 0]? = some (Cond.stringRef RX6 (um_kIdx.getD i 0) (um_kTx.getD i "")))) = true := by decide +kernel
theorem um_env {p : Program} {s : State} {m : MethodId} {meth : Method} {c : Code} {b L : Nat} {xs : Nat → Int32} (C0 : lw_At p s m meth c b L xs) : ∃ Z : um_Z, Z.2.2.1 = s.heap.size ∧ um_En Z s ∧ um_St Z s := by
  obtain ⟨hx, hb, hr, hml, hown, hts, hX, hbl, hlk, hgv⟩ := C0
  have hs : ∀ c ∈ lw_fl, c.before #[Value.ref b] s = true := flat_of_before _ hgv
  have hWG : ∀ w ∈ WG, w.before #[Value.ref b] s = true := fun w hw => hts w (List.mem_filter.mp hw).1
  have hA : ∀ a : Nat, a < s.heap.size → ¬ (fun q => s.heap.size ≤ q) a := fun a h1 h2 => by simp only at h2; omega
  -- classes
  have hcl : ∀ i : Nat, ∃ q : ClassId × (Nat → Nat), ∀ r, vwCl[i]? = some r → u_Kn s r.1 r.2.1 r.2.2 q.1 q.2 := by
    intro i
    have go : ∀ {C : String} {T : u_T} {N n : Nat}, (∀ w ∈ u_ws C T N, w ∈ WG) → Cond.instantiable C n ∈ WG → vwCl[i]? = some (C, T, N) → ∃ q : ClassId × (Nat → Nat), ∀ r, vwCl[i]? = some r → u_Kn s r.1 r.2.1 r.2.2 q.1 q.2 := fun {C T N n} h1 h2 h3 => by
      obtain ⟨cC, iS, hK⟩ := u_known (n := n) hWG h1 (hWG _ h2)
      exact ⟨(cC, iS), fun r hr => by rw [h3] at hr; cases hr; exact hK⟩
    by_cases hi : i < 9
    · rcases (show i = 0 ∨ i = 1 ∨ i = 2 ∨ i = 3 ∨ i = 4 ∨ i = 5 ∨ i = 6 ∨ i = 7 ∨ i = 8 by omega) with rfl | rfl | rfl | rfl | rfl | rfl | rfl | rfl | rfl
      · exact go iX0 qB_X0 rfl
      · exact go iX1 qB_X1 rfl
      · exact go iX2 qB_X2 rfl
      · exact go iX4 qB_X4 rfl
      · exact go iX5 qB_X5 rfl
      · exact go iX6 qB_X6 rfl
      · exact go iX7 qB_X7 rfl
      · exact go iX8 qB_X8 rfl
      · exact go iX9 qB_X9 rfl
    · exact ⟨(0, fun _ => 0), fun r hr => absurd (List.getElem?_eq_some_iff.mp hr).1 hi⟩
  obtain ⟨D, hD⟩ := Classical.axiomOfChoice hcl
  -- arrays
  have arr : ∀ {t : FieldType}, Cond.arrayClass t ∈ WG → (∀ cA, s.vm.findClass ("[" ++ t.toString) = some cA → va_RA s cA t) → ∃ cA, ArrOfT s cA t ∧ va_RA s cA t := fun {t} h1 h2 => by
    obtain ⟨cA, k, comp, g1, g2, g3⟩ := Cond.arrayClass_spec (hWG _ h1)
    exact ⟨cA, fun N z => ⟨(fun k h => by cases h), k, g2, comp, g3⟩, h2 cA g1⟩
  obtain ⟨c0, r0⟩ := arr qA_int (fun _ h => h)
  obtain ⟨c1, r1⟩ := arr qA_byte (fun _ h => h)
  obtain ⟨c2, r2⟩ := arr qA_boolean (fun _ h => h)
  have hover : (Cond.arrayOver (.object RX7)).before #[Value.ref b] s = true := hts _ (um_t 163 (by decide +kernel))
  obtain ⟨comp, c3, k3, g1, -, g2, g3, g4⟩ := Cond.arrayOver_spec hover
  have r3 : ArrOfT s c3 (.object RX7) ∧ va_RA s c3 (.object RX7) := ⟨fun N z => ⟨(fun k h => by cases h), k3, g2, comp, g3⟩, k3, comp, g2, g3, g1, g4⟩
  -- the start
  have hka := List.all_eq_true.mp um_kae
  obtain ⟨t, ht, hT⟩ := va_Tof (tm := um_KA) (ty := .int) (N := 8) (f := fun j => .int (um_ka.getD j 0)) (A := fun q => s.heap.size ≤ q) (by decide) (hs (.arrayOf um_KA .int) (by decide +kernel)) (va_eqt (hs (.eq (.length um_KA) (.int (Int32.ofNat 8))) (by decide +kernel))) (fun j hj => va_eqt (hs _ (of_decide_eq_true (hka j (List.mem_range.mpr hj))))) hA
  have hZ1 : va_Z "TicketShore" "KIND_ABOVE" "[I" (.ref t) (fun q => s.heap.size ≤ q) s s.heap := va_Zof (hts _ (um_t 431 (by decide +kernel))) (hWG _ qN_X8) ht hA
  have hZ2 : va_Z "java/lang/String" "COMPACT_STRINGS" "Z" (.int 1) (fun q => s.heap.size ≤ q) s s.heap := va_Zof (hts _ (um_t 529 (by decide +kernel))) (hWG _ qN_J0) (va_eqt (hs (.eq (.static "java/lang/String" "COMPACT_STRINGS" "Z") (.int 1)) (by decide +kernel))) hA
  obtain ⟨v, hv, hvr⟩ := Cond.isRef_spec (hs (.isRef (.static "jdk/internal/util/Preconditions" "SIOOBE_FORMATTER" "Ljava/util/function/BiFunction;")) (by decide +kernel))
  have hZ3 : va_Z "jdk/internal/util/Preconditions" "SIOOBE_FORMATTER" "Ljava/util/function/BiFunction;" v (fun q => s.heap.size ≤ q) s s.heap := va_Zof (hts _ (um_t 545 (by decide +kernel))) (hWG _ qN_J3) hv hA
  have kx : ∀ i : Nat, i < 9 → (((Cond.exactly (um_kT i) "java/lang/String" ∈ lw_fl ∧ Cond.eq (.field (um_kT i) "java/lang/String" "coder" "B") (.int 0) ∈ lw_fl) ∧ Cond.arrayOf (.field (um_kT i) "java/lang/String" "value" "[B") .byte ∈ lw_fl) ∧ Cond.eq (.length (.field (um_kT i) "java/lang/String" "value" "[B")) (.int (Int32.ofNat (um_kLen.getD i 0))) ∈ lw_fl) ∧ um_kLen.getD i 0 < 2 ^ 31 := fun i hi => by
    have h := List.all_eq_true.mp um_kex i (List.mem_range.mpr hi)
    simp only [Bool.and_eq_true, decide_eq_true_eq] at h
    exact h
  obtain ⟨adK, adV, hSt, had⟩ := vk_Sof (args := #[Value.ref b]) (s := s) (N := 9) (tm := um_kT) (len := um_kLen) (byt := um_kByt) (A := fun q => s.heap.size ≤ q) (fun i hi => (kx i hi).2) (fun i hi => hs _ (kx i hi).1.1.1.1) (fun i hi => hs _ (kx i hi).1.1.1.2) (fun i hi => hs _ (kx i hi).1.1.2) (fun i hi => hs _ (kx i hi).1.2)
    (fun i hi j hj => hs _ (of_decide_eq_true (List.all_eq_true.mp (List.all_eq_true.mp um_kel i (List.mem_range.mpr hi)) j (List.mem_range.mpr hj))))
    (fun i j hi hj hij => by
      have h := List.all_eq_true.mp (List.all_eq_true.mp um_kne i (List.mem_range.mpr hi)) j (List.mem_range.mpr hj)
      simp only [Bool.or_eq_true, decide_eq_true_eq] at h
      rcases h with (h | h) | h
      · exact absurd h hij
      · exact Or.inl (hs _ h)
      · exact Or.inr (hs _ h)) hA
  refine ⟨((fun i => (D i).1, fun i => (D i).2), fun i => if i = 0 then c0 else if i = 1 then c1 else if i = 2 then c2 else c3, s.heap.size, t, adK, adV), rfl, ⟨⟨fun i q hq => hD i q hq, fun k q hk => ?_⟩, fun w hw => va_Nw.of (um_nest_on w hw) (hts w (um_nest_in w hw)), va_AO.of hover⟩, hZ1, hT, hZ2, hSt, fun i hi => vk_R.of (hts _ (um_t _ (of_decide_eq_true (List.all_eq_true.mp um_ksr i (List.mem_range.mpr hi))))) (had i hi), v, hZ3, ?_⟩
  · have hl : k < 4 := (List.getElem?_eq_some_iff.mp hk).1
    rcases (show k = 0 ∨ k = 1 ∨ k = 2 ∨ k = 3 by omega) with rfl | rfl | rfl | rfl <;> cases hk
    · exact r0
    · exact r1
    · exact r2
    · exact r3
  · cases v with
    | null => exact Or.inl rfl
    | ref a => exact Or.inr ⟨a, rfl⟩
    | _ => cases hvr
