/-! LEVEL 2: who goes to whom: the model's search, whole -/
section CON
variable {M0 M M' : um_S} {N Q f v q d u : Nat} {op : Nat → Nat → Bool} {C G G' G2 : Nat → Nat} {met met0 met' met2 : Nat → Bool} {s : Nat → Int32}
theorem lc_2 (hk : kx s N Q op C) (hcs : cs s N Q f op C d) (e1 : M0.1 1 = s) (hks : ks M0 N f) (hv : va N Q f op C G) (hfv : f ≤ v) (hvN : v < N) (h0 : G v = 0) : ∀ (i j fu : Nat) (M : um_S) (met : Nat → Bool), j + i = Q → i < fu → kf M0 M → kg M N G → km M met → (∀ p, met0 p = true → met p = true) → cl N Q f op C G met0 met → (∀ p, p < j → op v p = true → met p = true) → cnp (fun q => !met q) Q < d + 1 →
    ∃ (out : (Bool × um_S) ⊕ um_S), f_X9_comes_l2 (f_X9_comes d) (nI v) fu (nI j) M = some out ∧
      ((∃ M' met', out = .inr M' ∧ kf M0 M' ∧ kg M' N G ∧ km M' met' ∧ fa N Q f v op C G met0 met') ∨
       (∃ M' G' met', out = .inl (true, M') ∧ kf M0 M' ∧ kg M' N G' ∧ km M' met' ∧ su N Q f v op C G G' met0)) := by
  have hN := hk.1
  have hQ := hk.2.1
  have k3 := hk.2.2.2.1
  have kc := hk.2.2.2.2.1
  have ka := hk.2.2.2.2.2
  intro i
  induction i with
  | zero =>
    intro j fu M met hj hfu h1 h2 h3 h4 h5 h6 h7
    obtain ⟨fu, rfl⟩ : ∃ g, fu = g + 1 := ⟨fu - 1, by omega⟩
    have eM : M.1 1 3 = nI Q := by rw [h1 1 3 (by omega) (by omega), e1, k3]
    refine ⟨.inr M, ?_, Or.inl ⟨M, met, rfl, h1, h2, h3, h4, fun p hp ho => h6 p (by omega) ho, h5⟩⟩
    rw [f_X9_comes_l2, eM, if_pos (nI_le (by omega) (by omega))]
  | succ i ih =>
    intro j fu M met hj hfu h1 h2 h3 h4 h5 h6 h7
    obtain ⟨fu, rfl⟩ : ∃ g, fu = g + 1 := ⟨fu - 1, by omega⟩
    have eM : M.1 1 3 = nI Q := by rw [h1 1 3 (by omega) (by omega), e1, k3]
    have eR : M.1 1 = s := by rw [← e1]; exact funext fun x => h1 1 x (by omega) (by omega)
    have hjQ : j < Q := by omega
    have hix : um_ix (nI j) 6 = true := um_ix_nI (by omega) (by omega)
    have nx := ih (j + 1) fu M met (by omega) (by omega) h1 h2 h3 h4 h5
    have eT := h3 j (by omega)
    rw [f_X9_comes_l2, eM, if_neg (nI_ge (by omega) (by omega)), if_pos hix, nI_clamp (n := j) (by omega), nI_1]
    cases hmj : met j with
    | true =>
      rw [eT.trans (if_pos hmj), if_neg (by decide)]
      refine nx (fun p hp ho => ?_) h7
      by_cases e : p = j
      · rw [e]; exact hmj
      · exact h6 p (by omega) ho
    | false =>
      rw [eT.trans (if_neg (by rw [hmj]; decide)), if_pos rfl, kc M v j eR hvN hjQ, Option.bind_some]
      cases ho : op v j with
      | false =>
        rw [show um_b false = 0 from rfl, if_pos rfl]
        refine nx (fun p hp hop => ?_) h7
        by_cases e : p = j
        · rw [e, ho] at hop; cases hop
        · exact h6 p (by omega) hop
      | true =>
        rw [if_neg (by decide), if_pos hix]
        unfold um_let
        try dsimp only
        have hm1 := km_wr (q := j) h3
        have hf1 : kf M0 (um_wr M 13 j ((1 : Int32) &&& 1)) := kf_wr h1 (Or.inr rfl)
        have hg1 : kg (um_wr M 13 j ((1 : Int32) &&& 1)) N G := kg_13 h2
        have eR1 : (um_wr M 13 j ((1 : Int32) &&& 1)).1 1 = s := by rw [← e1]; exact funext fun x => hf1 1 x (by omega) (by omega)
        obtain ⟨r, r1, r2⟩ := ka _ j eR1 hjQ
        have hcle : cg G N j ≤ 14 := Nat.le_trans (cnp_le _ N) hN
        rw [m_goingTo hk eR1 hv.1 hg1 (by omega), Option.bind_some, m_masterAt, Option.bind_some]
        simp (disch := omega) only [la_2, um_ix_3, cl_3, if_true]
        rw [r1, Option.bind_some, eR1]
        have hmn : met0 j = false := by
          cases hz : met0 j with
          | false => rfl
          | true => rw [h4 j hz] at hmj; cases hmj
        have hc1 : cnp (fun q => !(if q = j then true else met q)) Q < d := by
          have := cnp_strict (p := fun q => !(if q = j then true else met q)) (q := fun q => !met q) (u := j) Q (fun x hx hp => by
            by_cases e : x = j
            · simp [e] at hp
            · simpa [e] using hp) hjQ (by simp) (by simp [hmj])
          omega
        by_cases hfull : C j ≤ cg G N j
        · rw [if_pos ((r2 _ hcle).mpr hfull)]
          obtain ⟨out, o1, o2⟩ := lc_77 hk hcs e1 hks hv hfv hvN hjQ h0 ho hmn N 0 um_N (um_wr M 13 j ((1 : Int32) &&& 1)) (fun x => if x = j then true else met x) (by omega) (by unfold um_N; omega) hf1 hg1 hm1 (fun p hp => by
            by_cases e : p = j
            · simp [e]
            · simp [e, h4 p hp]) (by simp) hc1
          rw [show f_X9_comes_l77 (f_X9_comes d) (nI v) (nI j) um_N (0 : Int32) (um_wr M 13 j ((1 : Int32) &&& 1)) = some out from o1]
          rcases o2 with ⟨M', met', p1, p2, p3, p4, p5, p6, p7⟩ | ⟨M', G', met', p1, p2, p3, p4, p5⟩
          · subst p1
            change ∃ out, f_X9_comes_l2 (f_X9_comes d) (nI v) fu (nI (j + 1)) M' = some out ∧ _
            have hsub : ∀ p, met p = true → met' p = true := fun p hp => p5 p (by
              by_cases e : p = j
              · simp [e]
              · simp [e, hp])
            have hj' : met' j = true := p5 j (by simp)
            have hcl : cl N Q f op C G met met' := by
              intro p hp hp1 hp0
              by_cases e : p = j
              · subst e
                exact ⟨hfull, fun u hu huN hGu => p7 u (Nat.zero_le _) hu huN hGu⟩
              · exact p6 p hp hp1 (by simp [e, hp0])
            refine ih (j + 1) fu M' met' (by omega) (by omega) p2 p3 p4 (fun p hp => hsub p (h4 p hp)) (cl_trans hsub h5 hcl) (fun p hp hop => ?_) (Nat.lt_of_le_of_lt (cnp_mono Q (fun p _ hp => ?_)) h7)
            · by_cases e : p = j
              · rw [e]; exact hj'
              · exact hsub p (h6 p (by omega) hop)
            · cases hmp : met p with
              | false => rfl
              | true => rw [hsub p hmp] at hp; cases hp
          · subst p1
            exact ⟨_, rfl, Or.inr ⟨M', G', met', rfl, p2, p3, p4, p5⟩⟩
        · rw [if_neg (fun z => hfull ((r2 _ hcle).mp z)), if_pos (um_ix_nI (n := v) (by omega) (by omega))]
          exact ⟨_, rfl, Or.inr ⟨_, gq G v j, _, rfl, kf_wr hf1 (Or.inl rfl), kg_wr (a := j + 1) hg1 (nI_am j).symm, km_11 hm1, su_room hv hfv hvN hjQ h0 ho hfull hmn⟩⟩
theorem cs_all (hk : kx s N Q op C) : ∀ d, cs s N Q f op C d := by
  intro d
  induction d with
  | zero => intro M0 M G met v _ _ _ _ _ _ _ _ _ h; omega
  | succ d ih =>
    intro M0 M G met v e1 hks h1 h2 h3 hv hfv hvN h0 hc
    obtain ⟨out, o1, o2⟩ := lc_2 (met0 := met) hk ih e1 hks hv hfv hvN h0 Q 0 um_N M met (by omega) (by have := hk.2.1; unfold um_N; omega) h1 h2 h3 (fun _ z => z) (fun q _ z1 z2 => (by rw [z1] at z2; cases z2)) (fun p hp => absurd hp (by omega)) hc
    have o3 : f_X9_comes_l2 (f_X9_comes d) (nI v) um_N (0 : Int32) M = some out := o1
    rcases o2 with ⟨M', met', p1, p2, p3, p4, p5⟩ | ⟨M', G', met', p1, p2, p3, p4, p5⟩
    · subst p1
      refine ⟨false, M', G, met', ?_, p2, p3, p4, fun _ => ⟨rfl, p5⟩, fun z => (by cases z)⟩
      rw [f_X9_comes]
      unfold fk_X9_comes um_s1
      rw [o3, Option.bind_some]
    · subst p1
      refine ⟨true, M', G', met', ?_, p2, p3, p4, fun z => (by cases z), fun _ => p5⟩
      rw [f_X9_comes]
      unfold fk_X9_comes um_s1
      rw [o3, Option.bind_some]
end CON
