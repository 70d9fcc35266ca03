/-! The rule read: things, and the call (class) -/
section RD
variable {d n T dep : Nat} {f : Nat → Nat} {σ : hq_St}
theorem mns_spec : ∀ m p, (∀ i, i < mns f T m p → isA f T (p + i) 45 = true) ∧ (mns f T m p < m → isA f T (p + mns f T m p) 45 = false) ∧ mns f T m p ≤ m
  | 0, p => ⟨fun i hi => by simp [mns] at hi, fun h => by simp [mns] at h, Nat.le_refl _⟩
  | m + 1, p => by
    obtain ⟨h1, h2, h3⟩ := mns_spec m (p + 1)
    unfold mns
    cases q : isA f T p 45 with
    | false =>
      rw [if_neg (by decide)]
      exact ⟨fun i hi => by omega, fun _ => q, by omega⟩
    | true =>
      rw [if_pos rfl]
      refine ⟨fun i hi => ?_, fun hl => ?_, by omega⟩
      · cases i with
        | zero => exact q
        | succ i =>
          have := h1 i (by omega)
          rwa [show p + 1 + i = p + (i + 1) by omega] at this
      · have := h2 (by omega)
        rwa [show p + 1 + mns f T m (p + 1) = p + (mns f T m (p + 1) + 1) by omega] at this
theorem s_readNumber {q : Nat} {G : List Nat} (hT : T ≤ 40) (hz : cZ n f T q σ) (hD : cD G σ) (hl : (cS G).length ≤ q) : ∃ τ, hq_c 55 (d + 3) [.ref 24, .ref 1] σ (some (.int (bI (dgA f T q 0 9)))) τ ∧ cZ n f T (if dgA f T q 0 9 then q + nmL f T q else q) τ ∧ (dgA f T q 0 9 = true → cD (G ++ [nmV f q (nmL f T q)]) τ) ∧ Fr [(1, 3), (24, 5), (26, 0)] σ τ := by
  obtain ⟨σ1, g1, g2, g3⟩ := s_digit (d := d) hz (lo := 0) (hi := 9) (by decide) (by decide)
  cases hq : dgA f T q 0 9 with
  | false =>
    rw [hq] at g1 g2
    exact ⟨σ1, p_X5_readNumber_0_1 g1 rfl, g2, (fun z => by cases z), g3.up (by decide)⟩
  | true =>
    rw [hq] at g1 g2
    rw [if_pos rfl] at g1
    rw [if_pos rfl]
    obtain ⟨n1, n2, n3, n4, n5, n6⟩ := nm_ok hq
    have hD1 := cD.dep.fr g3 (by decide) hD
    have dv : ∀ i, i < nmL f T q → f (q + i) - 48 ≤ 9 := fun i hi => by have := (dg_lt (n4 i hi)).2.2; omega
    obtain ⟨σ2, w, z2, f2⟩ := hq_w.for (x := 55) (d := d + 3) (i := 12) (fun j => [some (.ref 24), some (.ref 1), some (.int (nI (nmV f q (j + 1)))), some (.int (nI (j + 1))), none]) (fun j ρ => cZ n f T (q + (j + 1)) ρ ∧ Fr [(1, 3)] σ1 ρ) (nmL f T q - 1) (fun j hj ρ ⟨hz1, fr⟩ => by
      obtain ⟨ρ2, k1, k2, k3⟩ := s_digit (d := d) hz1 (lo := 0) (hi := 9) (by decide) (by decide)
      rw [n4 (j + 1) (by omega)] at k1 k2
      rw [if_pos rfl] at k1
      refine ⟨ρ2, fun v τ k => p_X5_readNumber_12_2 (nlt (by omega) (by decide)) k1 ?_ ?_, k2, fr.tr k3⟩
      · have := dv (j + 1) (by omega)
        rw [fa_eq, nI_toInt (by omega)]
        have : (-1 : Int32).toInt = -1 := rfl
        omega
      · rw [nmul, nplus, nplus]; exact k) (σ := σ1) ⟨g2, Fr.rf σ1⟩
    have e1 : nmL f T q - 1 + 1 = nmL f T q := by omega
    rw [e1] at w z2
    have e0 : nmV f q (0 + 1) = f q - 48 := by show 0 * 10 + (f (q + 0) - 48) = _; rw [Nat.add_zero]; omega
    rw [e0] at w
    have hD2 := cD.dep.fr f2 (by decide) hD1
    have nq : ¬ nI (f q - 48) = (-1 : Int32) := by
      have := dv 0 (by omega)
      rw [Nat.add_zero] at this
      rw [fa_eq, nI_toInt (by omega)]
      have : (-1 : Int32).toInt = -1 := rfl
      omega
    have hcmp : nI (nmV f q (nmL f T q)) = nI (cmp (nmV f q (nmL f T q))) := by unfold cmp; rw [if_pos n6]
    by_cases q3 : nmL f T q < 3
    · obtain ⟨σ3, k1, k2, k3⟩ := s_digit (d := d) z2 (lo := 0) (hi := 9) (by decide) (by decide)
      rw [n5 q3] at k1 k2
      obtain ⟨σ4, w1, w2, w3⟩ := s_write (d := d + 1) (cD.dep.fr k3 (by decide) hD2) (t := nmV f q (nmL f T q)) (by omega) (by omega) hcmp
      exact ⟨σ4, p_X5_readNumber_0_2 g1 nq (w _ _ (p_X5_readNumber_12_1 (nlt q3 (by decide)) k1 rfl w1)), cZ.dep.fr w3 (by decide) k2, fun _ => w2, (g3.up (by decide)).tr ((f2.up (by decide)).tr ((k3.up (by decide)).tr (w3.up (by decide))))⟩
    · obtain ⟨σ4, w1, w2, w3⟩ := s_write (d := d + 1) hD2 (t := nmV f q (nmL f T q)) (by omega) (by omega) hcmp
      exact ⟨σ4, p_X5_readNumber_0_2 g1 nq (w _ _ (p_X5_readNumber_12_3 (nI_nlt (by omega) (by omega)) w1)), cZ.dep.fr w3 (by decide) z2, fun _ => w2, (g3.up (by decide)).tr ((f2.up (by decide)).tr (w3.up (by decide)))⟩
theorem pkA_letter {q : Nat} (hz : cZ n f T q σ) : (pkA f T q = nI 100 ∨ pkA f T q = nI 105 ∨ pkA f T q = nI 110 ∨ pkA f T q = nI 111 ∨ pkA f T q = nI 114 ∨ pkA f T q = nI 115 ∨ pkA f T q = nI 116 ∨ pkA f T q = nI 119 ∨ pkA f T q = nI 120) ↔ decide (ixA f T q 12 ≠ 0) = true := by
  rw [decide_eq_true_eq]
  unfold pkA ixA
  by_cases hq : q < T
  · rw [if_pos hq, if_pos hq]
    have hc := (hz.ch hq).1
    have key : ∀ c, c < 256 → ((nI c = nI 100 ∨ nI c = nI 105 ∨ nI c = nI 110 ∨ nI c = nI 111 ∨ nI c = nI 114 ∨ nI c = nI 115 ∨ nI c = nI 116 ∨ nI c = nI 119 ∨ nI c = nI 120) ↔ ixS 12 c ≠ 0) := by decide +kernel
    exact key _ hc
  · rw [if_neg hq, if_neg hq]
    exact ⟨fun z => absurd z (by decide), fun z => absurd rfl z⟩
theorem lss_odd {k : Nat} (h : k % 2 = 1) : lss k = List.replicate (k / 2) 3001 ++ [3000] := by unfold lss; rw [if_pos h]
theorem lss_even {k : Nat} (h : k % 2 ≠ 1) : lss k = List.replicate (k / 2) 3001 := by unfold lss; rw [if_neg h, List.append_nil]
theorem cD_rep {G : List Nat} (h : cD G σ) (a : Nat) : cD (G ++ List.replicate a 3001) σ := by
  unfold cD at h ⊢
  rw [cS_app, cS_rep, List.append_nil]; exact h
theorem s_readThing (hT : T ≤ 40) {ex : Option (Nat → RR)} (hdep : dep ≤ 4) (he : ∀ e, ex = some e → okT T e ∧ dep < 4 ∧ CR 51 (d + 3) n f T (dep + 1) e) (hn : ex = none → ¬ dep < 4) : CR 54 (d + 4) n f T dep (thA f T ex) := by
  intro p G σ hz hD hl
  have hp := hz.2.2.1
  obtain ⟨m1, m2, m3⟩ := mns_spec (f := f) (T := T) 40 p
  have mT := mns_le (f := f) (T := T) 40 p hp
  unfold thA
  generalize mns f T 40 p = k at m1 m2 m3 mT
  obtain ⟨σ1, w, z1, f1⟩ := hq_w.for (x := 54) (d := d + 4) (i := 4) (fun j => [some (.ref 24), some (.ref 1), some (.int (nI dep)), some (.int (nI (j % 2))), some (.int (nI j)), none]) (fun j ρ => cZ n f T (p + j) ρ ∧ Fr [(1, 3)] σ ρ) k (fun j hj ρ ⟨hz1, fr⟩ => by
    obtain ⟨ρ2, k1, k2, k3⟩ := s_eat (d := d + 1) hz1 (w := 45) (by decide)
    rw [m1 j hj] at k1 k2
    by_cases q : j % 2 = 0
    · refine ⟨ρ2, fun v τ kk => p_X5_readThing_4_22 (nlt (by omega) (by decide)) k1 (by decide) (by rw [q]; rfl) ?_, k2, fr.tr k3⟩
      rw [nplus]
      rw [show (j + 1) % 2 = 1 by omega] at kk
      exact kk
    · refine ⟨ρ2, fun v τ kk => p_X5_readThing_4_23 (nlt (by omega) (by decide)) k1 (by decide) (nI_ne0 (by omega) (by omega)) ?_, k2, fr.tr k3⟩
      rw [nplus]
      rw [show (j + 1) % 2 = 0 by omega] at kk
      exact kk) (σ := σ) ⟨hz, Fr.rf σ⟩
  have hD1 := cD.dep.fr f1 (by decide) hD
  have f1' : Fr [(1, 3), (24, 5), (26, 0)] σ σ1 := f1.up (by decide)
  by_cases k40 : k < 40
  · have c1 : nI k < nI 40 := nlt k40 (by decide)
    obtain ⟨σ2, k1, k2, k3⟩ := s_eat (d := d + 1) z1 (w := 45) (by decide)
    rw [m2 k40] at k1 k2
    have hD2 := cD.dep.fr k3 (by decide) hD1
    have f2 : Fr [(1, 3), (24, 5), (26, 0)] σ σ2 := f1'.tr (k3.up (by decide))
    have z2 : cZ n f T (p + k) σ2 := k2
    generalize eq : p + k = q at z1 z2 mT
    have g2 := s_peek (d := d + 2) z2
    have g3 := s_isLetter (d := d + 2) (σ := σ2) (decide (ixA f T q 12 ≠ 0)) (pkA_letter z2)
    have hlq : (cS G).length ≤ q := by omega
    by_cases q1 : ixA f T q 12 ≠ 0
    · have et : tco f T ex q = (true, q + 1, [1000 + (ixA f T q 12 - 1)]) := by unfold tco; rw [if_pos q1]
      rw [show decide (ixA f T q 12 ≠ 0) = true by simp [q1]] at g3
      have pT := ixA_pos q1
      have hc := (z2.ch pT).1
      obtain ⟨-, -, -, i1, i2, -⟩ := ixS_3 (f q) hc
      have ei : ixA f T q 12 = ixS 12 (f q) := by unfold ixA; rw [if_pos pT]
      have ec : f q = ltr (ixA f T q 12 - 1) := by rw [ei]; exact i2 (by rw [← ei]; exact q1)
      have pe : pkA f T q = nI (f q) := by unfold pkA; rw [if_pos pT]
      rw [pe] at g2 g3
      obtain ⟨σ3, e1, e2, e3⟩ := s_eat (d := d + 1) z2 (w := f q) hc
      have is1 : isA f T q (f q) = true := by unfold isA; simp [pT]
      rw [is1] at e1 e2
      have hcm : nI 1000 + nI (f q) = nI (cmp (1000 + (ixA f T q 12 - 1))) := by
        rw [nplus]
        unfold cmp
        rw [if_neg (by omega), if_pos (by omega), Nat.add_sub_cancel_left, ← ec]
      have hD3 := cD.dep.fr e3 (by decide) hD2
      obtain ⟨σ4, w1, w2, w3⟩ := s_write (d := d + 2) hD3 (t := 1000 + (ixA f T q 12 - 1)) (by omega) (by omega) hcm
      have f4 : Fr [(1, 3), (24, 5), (26, 0)] σ σ4 := f2.tr ((e3.up (by decide)).tr (w3.up (by decide)))
      rw [et, if_pos rfl]
      dsimp only
      by_cases odd : k % 2 = 1
      · obtain ⟨σ5, x1, x2, x3⟩ := s_write (d := d + 2) (cD_rep w2 (k / 2)) (t := 3000) (by rw [cS_app, cS_rep, List.append_nil, cS_app, List.length_append]; show _ + (cS [_]).length < 40; rw [cS_cons, if_neg (by omega)]; show _ + 1 < 40; omega) (by decide) (v := nI 3000) (by decide)
        refine ⟨σ5, p_X5_readThing_0_1 (w _ _ (p_X5_readThing_4_21 c1 k1 rfl g2 g3 (by decide) e1 w1 (by decide) (by rw [odd]; decide) x1 (bI01 _))), cZ.dep.fr x3 (by decide) (cZ.dep.fr w3 (by decide) e2), fun _ => ?_, f4.tr (x3.up (by decide))⟩
        rw [lss_odd odd]
        rw [List.append_assoc, List.append_assoc] at x2
        exact x2
      · refine ⟨σ4, p_X5_readThing_0_1 (w _ _ (p_X5_readThing_4_20 c1 k1 rfl g2 g3 (by decide) e1 w1 (by decide) (by rw [show k % 2 = 0 by omega]; rfl) (bI01 _))), cZ.dep.fr w3 (by decide) e2, fun _ => ?_, f4⟩
        rw [lss_even odd, ← List.append_assoc]
        exact cD_rep w2 _
    · rw [show decide (ixA f T q 12 ≠ 0) = false by simp at q1; simp [q1]] at g3
      cases q3 : isA f T q 40 with
      | false =>
        have n40 : ¬ pkA f T q = nI 40 := fun z => by rw [(pkA_eq z2 (by decide)).mp z] at q3; cases q3
        obtain ⟨σ3, r1, r2, r3, r4⟩ := s_readNumber (d := d) hT z2 hD2 hlq
        cases q2 : dgA f T q 0 9 with
        | false =>
          rw [q2] at r1 r2
          have et : tco f T ex q = (false, q, []) := by unfold tco; rw [if_neg q1, q2, if_neg (by decide), q3, if_neg (by decide)]
          rw [et]; dsimp only; rw [if_neg (by decide)]
          exact ⟨σ3, p_X5_readThing_0_1 (w _ _ (p_X5_readThing_4_16 c1 k1 rfl g2 g3 rfl n40 r1 rfl (bI01 _))), r2, (fun z => by cases z), f2.tr r4⟩
        | true =>
          rw [q2] at r1 r2
          rw [if_pos rfl] at r2
          have et : tco f T ex q = (true, q + nmL f T q, [nmV f q (nmL f T q)]) := by unfold tco; rw [if_neg q1, q2, if_pos rfl]
          rw [et, if_pos rfl]
          dsimp only
          have r3 := r3 q2
          obtain ⟨n1, n2, n3, n4, n5, n6⟩ := nm_ok q2
          by_cases odd : k % 2 = 1
          · obtain ⟨σ5, x1, x2, x3⟩ := s_write (d := d + 2) (cD_rep r3 (k / 2)) (t := 3000) (by rw [cS_app, cS_rep, List.append_nil, cS_app, List.length_append]; show _ + (cS [_]).length < 40; rw [cS_cons, if_neg (by omega)]; show _ + 1 < 40; omega) (by decide) (v := nI 3000) (by decide)
            refine ⟨σ5, p_X5_readThing_0_1 (w _ _ (p_X5_readThing_4_18 c1 k1 rfl g2 g3 rfl n40 r1 (by decide) (by rw [odd]; decide) x1 (bI01 _))), cZ.dep.fr x3 (by decide) r2, fun _ => ?_, (f2.tr r4).tr (x3.up (by decide))⟩
            rw [lss_odd odd]
            rw [List.append_assoc, List.append_assoc] at x2
            exact x2
          · refine ⟨σ3, p_X5_readThing_0_1 (w _ _ (p_X5_readThing_4_17 c1 k1 rfl g2 g3 rfl n40 r1 (by decide) (by rw [show k % 2 = 0 by omega]; rfl) (bI01 _))), r2, fun _ => ?_, f2.tr r4⟩
            rw [lss_even odd, ← List.append_assoc]
            exact cD_rep r3 _
      | true =>
        have e40 : pkA f T q = nI 40 := (pkA_eq z2 (by decide)).mpr q3
        obtain ⟨pT, h40⟩ := is_lt q3
        have q2 : dgA f T q 0 9 = false := by
          cases z : dgA f T q 0 9 with
          | false => rfl
          | true => have := (dg_lt z).2.1; omega
        cases ex with
        | none =>
          have et : tco f T none q = (false, q, []) := by
            unfold tco
            rw [if_neg q1, q2, if_neg (by decide), q3]
            rfl
          rw [et]
          dsimp only
          rw [if_neg (by decide)]
          exact ⟨σ2, p_X5_readThing_0_1 (w _ _ (p_X5_readThing_4_13 c1 k1 rfl g2 g3 rfl e40 (nI_nlt (by have := hn rfl; omega) (by omega)) rfl)), z2, (fun z => by cases z), f2⟩
        | some e =>
          obtain ⟨oe, d4, I⟩ := he e rfl
          obtain ⟨σ3, e1, e2, e3⟩ := s_eat (d := d + 1) z2 (w := 40) (by decide)
          rw [q3] at e1 e2
          have e2 : cZ n f T (q + 1) σ3 := e2
          have c5 : nI dep < nI 4 := nlt d4 (by decide)
          obtain ⟨σ4, i1, i2, i3, i4⟩ := I (q + 1) G σ3 e2 (cD.dep.fr e3 (by decide) hD2) (by omega)
          rw [← nplus] at i1
          obtain ⟨a1, a2, a3⟩ := oe (q + 1) (by omega)
          have f4 : Fr [(1, 3), (24, 5), (26, 0)] σ σ4 := f2.tr ((e3.up (by decide)).tr i4)
          have et : tco f T (some e) q = if (e (q + 1)).1 then (if isA f T (e (q + 1)).2.1 41 then (true, (e (q + 1)).2.1 + 1, (e (q + 1)).2.2) else (false, (e (q + 1)).2.1, [])) else (false, (e (q + 1)).2.1, []) := by
            unfold tco
            rw [if_neg q1, q2, if_neg (by decide), q3]
            rfl
          cases h1 : (e (q + 1)).1 with
          | false =>
            rw [h1] at i1
            rw [h1, if_neg (by decide)] at et
            rw [et]; dsimp only; rw [if_neg (by decide)]
            exact ⟨σ4, p_X5_readThing_0_1 (w _ _ (p_X5_readThing_4_4 c1 k1 rfl g2 g3 rfl e40 c5 e1 (by decide) i1 rfl rfl)), i2, (fun z => by cases z), f4⟩
          | true =>
            rw [h1] at i1
            obtain ⟨b1, b2, b3, b4⟩ := a3 h1
            have i3 := i3 h1
            obtain ⟨σ5, y1, y2, y3⟩ := s_eat (d := d + 1) i2 (w := 41) (by decide)
            have hD5 := cD.dep.fr y3 (by decide) i3
            have f5 := f4.tr (y3.up (G := [(1, 3), (24, 5), (26, 0)]) (by decide))
            rw [h1, if_pos rfl] at et
            cases h2 : isA f T (e (q + 1)).2.1 41 with
            | false =>
              rw [h2] at y1 y2
              rw [h2, if_neg (by decide)] at et
              rw [et]; dsimp only; rw [if_neg (by decide)]
              exact ⟨σ5, p_X5_readThing_0_1 (w _ _ (p_X5_readThing_4_7 c1 k1 rfl g2 g3 rfl e40 c5 e1 (by decide) i1 (by decide) y1 rfl rfl)), y2, (fun z => by cases z), f5⟩
            | true =>
              rw [h2] at y1 y2
              have h2T := (is_lt h2).1
              rw [h2, if_pos rfl] at et
              rw [et, if_pos rfl]
              dsimp only
              by_cases odd : k % 2 = 1
              · obtain ⟨σ6, x1, x2, x3⟩ := s_write (d := d + 2) (cD_rep hD5 (k / 2)) (t := 3000) (by rw [cS_app, cS_rep, List.append_nil, cS_app, List.length_append]; omega) (by decide) (v := nI 3000) (by decide)
                refine ⟨σ6, p_X5_readThing_0_1 (w _ _ (p_X5_readThing_4_12 c1 k1 rfl g2 g3 rfl e40 c5 e1 (by decide) i1 (by decide) y1 (by decide) (by decide) (by rw [odd]; decide) x1)), cZ.dep.fr x3 (by decide) y2, fun _ => ?_, f5.tr (x3.up (by decide))⟩
                rw [lss_odd odd]
                rw [List.append_assoc, List.append_assoc] at x2
                exact x2
              · refine ⟨σ5, p_X5_readThing_0_1 (w _ _ (p_X5_readThing_4_11 c1 k1 rfl g2 g3 rfl e40 c5 e1 (by decide) i1 (by decide) y1 (by decide) (by decide) (by rw [show k % 2 = 0 by omega]; rfl))), y2, fun _ => ?_, f5⟩
                rw [lss_even odd, ← List.append_assoc]
                exact cD_rep hD5 _
  · have ek : k = 40 := by omega
    have ep : p + k = T := by omega
    subst ek
    rw [ep] at z1
    rw [ep]
    have g2 := s_peek (d := d + 2) z1
    have pe : pkA f T T = -1 := by unfold pkA; rw [if_neg (by omega)]
    have i12 : ixA f T T 12 = 0 := by unfold ixA; rw [if_neg (by omega)]
    have g3 := s_isLetter (d := d + 2) (σ := σ1) (decide (ixA f T T 12 ≠ 0)) (pkA_letter z1)
    rw [pe] at g2 g3
    rw [i12] at g3
    obtain ⟨σ3, r1, r2, r3, r4⟩ := s_readNumber (d := d) hT z1 hD1 (by omega)
    have q2 : dgA f T T 0 9 = false := by unfold dgA; simp
    have q3 : isA f T T 40 = false := by unfold isA; simp
    rw [q2] at r1 r2
    have et : tco f T ex T = (false, T, []) := by unfold tco; rw [i12, if_neg (by simp), q2, if_neg (by decide), q3, if_neg (by decide)]
    rw [et]; dsimp only; rw [if_neg (by decide)]
    exact ⟨σ3, p_X5_readThing_0_1 (w _ _ (p_X5_readThing_4_39 (by decide) g2 g3 rfl (by decide) r1 rfl (bI01 _))), r2, (fun z => by cases z), f1'.tr r4⟩
/-- all of them, m levels of brackets being left -/
theorem s_exO (hT : T ≤ 40) (hf : ∀ p, p < T → f p < 256) : ∀ m, m ≤ 4 → CR 51 (4 * m + d + 7) n f T (4 - m) (xpA f T (exO f T m))
  | 0, _ => by
    have ok := fun e h => exO_ok (f := f) hf 0 e h
    obtain ⟨o1, o2, -⟩ := xpA_ok ok hf
    have h1 := s_readThing (d := d) (n := n) (f := f) (dep := 4) hT (ex := exO f T 0) (by decide) (fun e h => by cases h) (fun _ => by decide)
    have h2 := s_readProduct (d := d + 3) hT (thA_ok ok hf) h1
    have h3 := s_readSum (d := d + 4) hT o1 h2
    have h4 := s_readExpression (d := d + 5) hT o2 h3
    rw [show 4 * 0 + d + 7 = d + 5 + 2 by omega]
    exact h4
  | m + 1, hm => by
    have ih := s_exO hT hf m (by omega)
    have ok := fun e h => exO_ok (f := f) hf (m + 1) e h
    obtain ⟨o1, o2, -⟩ := xpA_ok ok hf
    have h1 := s_readThing (d := 4 * m + d + 4) (n := n) (f := f) (dep := 4 - (m + 1)) hT (ex := exO f T (m + 1)) (by omega) (fun e h => by
      have ho := ok e h
      cases h
      refine ⟨ho, by omega, ?_⟩
      rw [show 4 - (m + 1) + 1 = 4 - m by omega]
      exact ih) (fun h => by cases h)
    have h2 := s_readProduct (d := 4 * m + d + 7) hT (thA_ok ok hf) h1
    have h3 := s_readSum (d := 4 * m + d + 8) hT o1 h2
    have h4 := s_readExpression (d := 4 * m + d + 9) hT o2 h3
    rw [show 4 * (m + 1) + d + 7 = 4 * m + d + 9 + 2 by omega]
    exact h4
end RD
