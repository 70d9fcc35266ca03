/-! The rule read: things, and the calls -/
section RN
variable {d n T dep D0 : Nat} {f : Nat → Nat} {σ : hq_St}
theorem ix_dg {q : Nat} (hz : mZ n f T q σ) (h : dgA f T q 0 9 = true) : ixA f T q 12 = 0 := by
  obtain ⟨h1, h2, h3⟩ := dg_lt h
  have key : ∀ c, c < 58 → ixS 12 c = 0 := by decide +kernel
  unfold ixA
  rw [if_pos h1]
  exact key _ (by omega)
theorem m_thing0 (hT : T ≤ 40) {ex : Option (Nat → RR)} (hdep : dep ≤ 4) (he : ∀ e, ex = some e → okT T e ∧ dep < 4 ∧ MR 200 [.ref 52, .int (nI 0)] D0 n f T (dep + 1) e) (hn : ex = none → dep = 4) {D : Nat} (hD : D0 + 14 ≤ D) {q : Nat} {C : List Nat} (hz : mZ n f T q σ) (hC : mDl C σ) (hl : C.length ≤ q) (hd : σ.1 52 18 = nI dep) (h45 : isA f T q 45 = false) : ∃ τ C', hq_c 199 (D + 1) [.ref 52] σ (some (.int (bI (tco f T ex q).1))) τ ∧ mZ n f T (tco f T ex q).2.1 τ ∧ mDl C' τ ∧ C'.length + q ≤ C.length + (tco f T ex q).2.1 ∧ ((tco f T ex q).1 = true → C' = C ++ mS (tco f T ex q).2.2 ∧ τ.1 52 18 = nI dep) ∧ Fr [(52, 17), (52, 19), (52, 28), (67, 0)] σ τ := by
  obtain ⟨d, rfl⟩ : ∃ d, D = d + 12 := ⟨D - 12, by omega⟩
  obtain ⟨σ1, g1, g2, g3⟩ := m_takes (d := d + 10) hz (w := 45) (by decide)
  rw [h45] at g1 g2
  have z1 : mZ n f T q σ1 := g2
  have hC1 := mDl.dep.fr g3 (by decide) hC
  have hd1 : σ1.1 52 18 = nI dep := (g3.i rfl).trans hd
  have k2 := m_isDigit (d := d + 10) z1
  have F1 : Fr [(52, 17), (52, 19), (52, 28), (67, 0)] σ σ1 := g3.up (by decide)
  have qT := hz.2.2.1
  cases q2 : dgA f T q 0 9 with
  | true =>
    rw [q2] at k2
    have et : tco f T ex q = (true, q + nmL f T q, [nmV f q (nmL f T q)]) := by
      unfold tco
      rw [if_neg (by rw [ix_dg hz q2]; simp), q2, if_pos rfl]
    rw [et]
    dsimp only
    obtain ⟨n1, n2, n3, n4, n5, n6⟩ := nm_ok q2
    obtain ⟨σ2, w, z2, f2⟩ := hq_w.for (x := 199) (d := d + 13) (i := 19) (fun j => [some (.ref 52), some (.int (nI (nmV f q j))), some (.int (nI j))]) (fun j ρ => mZ n f T (q + j) ρ ∧ Fr [(52, 17)] σ1 ρ) (nmL f T q) (fun j hj ρ ⟨hz1, fr⟩ => by
      have dj := dg_lt (n4 j hj)
      have g := m_isDigit (d := d + 10) hz1
      rw [n4 j hj] at g
      have e1 : ρ.1 52 16 = nI (q + j) := hz1.2.2.2.1
      have eq80 := hz1.1.1
      have eT := hz1.2.1
      refine ⟨hq_sI ρ 52 16 (nI (q + j + 1)), fun v τ k => p_X10_readsThing_19_2 (nlt (by omega) (by decide)) g (by decide) (by rw [e1]; exact vin (by omega) (by decide)) ?_, hz1.step dj.1, fr.sI rfl⟩
      rw [e1, clamp (by omega), (hz1.ch dj.1).2, nmul, nplus, nplus, nplus, pk_sub (by omega)]
      have ev : 10 * nmV f q j + f (q + j) - 48 = nmV f q (j + 1) := by show _ = nmV f q j * 10 + (f (q + j) - 48); omega
      rw [ev]
      exact k) (σ := σ1) ⟨z1, Fr.rf σ1⟩
    have hC2 := mDl.dep.fr f2 (by decide) hC1
    obtain ⟨σ3, w1, w2, w3⟩ := m_codes (d := d + 11) hC2 (by omega) (t := nmV f q (nmL f T q)) rfl
    have fin : hq_c 199 (d + 13) [.ref 52] σ (some (.int (bI true))) σ3 := by
      refine p_X10_readsThing_0_7 g1 rfl k2 (by decide) (w _ _ ?_)
      by_cases q3 : nmL f T q < 3
      · have g := m_isDigit (d := d + 10) z2
        rw [n5 q3] at g
        exact p_X10_readsThing_19_1 (nlt q3 (by decide)) g rfl w1
      · exact p_X10_readsThing_19_3 (nI_nlt (by omega) (by omega)) w1
    refine ⟨σ3, _, fin, mZ.dep.fr w3 (by decide) z2, w2, ?_, fun _ => ⟨?_, ?_⟩, F1.tr ((f2.up (by decide)).tr (w3.up (by decide)))⟩
    · rw [List.length_append]
      show _ + 1 + _ ≤ _
      omega
    · rw [mS_one (by omega)]
    · exact (w3.i rfl).trans ((f2.i rfl).trans hd1)
  | false =>
    rw [q2] at k2
    obtain ⟨σ2, t1, t2, t3⟩ := m_takesOf (d := d + 11) z1 (j := 12) (by decide) (by decide) (by omega)
    obtain ⟨il, ip⟩ := ixA_le z1 (j := 12) (by decide) (by decide)
    have hC2 := mDl.dep.fr t3 (by decide) hC1
    have hd2 : σ2.1 52 18 = nI dep := (t3.i rfl).trans hd1
    have F2 := F1.tr (t3.up (G := [(52, 17), (52, 19), (52, 28), (67, 0)]) (by decide))
    by_cases q1 : ixA f T q 12 ≠ 0
    · have pT := ip q1
      have et : tco f T ex q = (true, q + 1, [1000 + (ixA f T q 12 - 1)]) := by unfold tco; rw [if_pos q1]
      rw [et]
      dsimp only
      rw [show decide (ixA f T q 12 ≠ 0) = true by simp [q1]] at t2
      have t2 : mZ n f T (q + 1) σ2 := t2
      obtain ⟨σ3, w1, w2, w3⟩ := m_codes (d := d + 11) hC2 (by omega) (t := 1000 + (ixA f T q 12 - 1)) (v := nI 1000 + (nI (ixA f T q 12) - nI 1)) (by rw [pk_sub (by omega), nplus])
      refine ⟨σ3, _, p_X10_readsThing_0_6 g1 rfl k2 rfl t1 (by rw [pk_sub (by omega), ltz, nI_toInt (by omega)]; omega) w1, mZ.dep.fr w3 (by decide) t2, w2, ?_, fun _ => ⟨?_, (w3.i rfl).trans hd2⟩, F2.tr (w3.up (by decide))⟩
      · rw [List.length_append]
        show _ + 1 + _ ≤ _
        omega
      · rw [mS_one (by omega)]
    · have q1' : ixA f T q 12 = 0 := by simpa using q1
      rw [q1'] at t1 t2
      have t2 : mZ n f T q σ2 := t2
      have c3 : nI 0 - nI 1 < 0 := by decide
      cases ex with
      | none =>
        have hd4 := hn rfl
        have et : tco f T none q = (false, q, []) := by
          unfold tco
          rw [if_neg q1, q2, if_neg (by decide)]
          split <;> rfl
        rw [et]
        dsimp only
        exact ⟨σ2, C, p_X10_readsThing_0_1 g1 rfl k2 rfl t1 c3 (by rw [hd2, hd4]), t2, hC2, Nat.le_refl _, (fun z => by cases z), F2⟩
      | some e =>
        obtain ⟨oe, d4, I⟩ := he e rfl
        have c4 : ¬ σ2.1 52 18 = nI 4 := by rw [hd2, nI_eq (by omega) (by omega)]; omega
        obtain ⟨σ3, y1, y2, y3⟩ := m_takes (d := d + 10) t2 (w := 40) (by decide)
        have hC3 := mDl.dep.fr y3 (by decide) hC2
        have hd3 : σ3.1 52 18 = nI dep := (y3.i rfl).trans hd2
        have F3 := F2.tr (y3.up (G := [(52, 17), (52, 19), (52, 28), (67, 0)]) (by decide))
        have et : tco f T (some e) q = if isA f T q 40 then (if (e (q + 1)).1 then (if isA f T (e (q + 1)).2.1 41 then (true, (e (q + 1)).2.1 + 1, (e (q + 1)).2.2) else (false, (e (q + 1)).2.1, [])) else (false, (e (q + 1)).2.1, [])) else (false, q, []) := by
          unfold tco
          rw [if_neg q1, q2, if_neg (by decide)]
        cases q3 : isA f T q 40 with
        | false =>
          rw [q3, if_neg (by decide)] at et
          rw [q3] at y1 y2
          rw [et]
          dsimp only
          exact ⟨σ3, C, p_X10_readsThing_0_2 g1 rfl k2 rfl t1 c3 c4 y1 rfl, y2, hC3, Nat.le_refl _, (fun z => by cases z), F3⟩
        | true =>
          rw [q3, if_pos rfl] at et
          rw [q3] at y1 y2
          have y2 : mZ n f T (q + 1) σ3 := y2
          have pT := (is_lt q3).1
          have fn : Fr [(52, 19)] σ3 (hq_sI σ3 52 18 (σ3.1 52 18 + nI 1)) := (Fr.rf σ3).sI rfl
          have en : (hq_sI σ3 52 18 (σ3.1 52 18 + nI 1)).1 52 18 = nI (dep + 1) := by rw [sI_eq, hd3, nplus]
          obtain ⟨σ4, C4, i1, i2, i3, i4, i5, i6⟩ := I (d + 12) (by omega) (q + 1) C _ (mZ.dep.fr fn (by decide) y2) (mDl.dep.fr fn (by decide) hC3) (by omega) en
          obtain ⟨a1, a2, a3⟩ := oe (q + 1) (by omega)
          have F4 := F3.tr ((fn.up (G := [(52, 17), (52, 19), (52, 28), (67, 0)]) (by decide)).tr i6)
          cases h1 : (e (q + 1)).1 with
          | false =>
            rw [h1] at i1
            rw [h1, if_neg (by decide)] at et
            rw [et]
            dsimp only
            exact ⟨σ4, C4, p_X10_readsThing_0_3 g1 rfl k2 rfl t1 c3 c4 y1 (by decide) i1 rfl, i2, i3, by omega, (fun z => by cases z), F4⟩
          | true =>
            rw [h1] at i1
            rw [h1, if_pos rfl] at et
            obtain ⟨c1, c2⟩ := i5 h1
            obtain ⟨b1, b2, b3, b4⟩ := a3 h1
            obtain ⟨σ5, x1, x2, x3⟩ := m_takes (d := d + 10) i2 (w := 41) (by decide)
            have hC5 := mDl.dep.fr x3 (by decide) i3
            have F5 := F4.tr (x3.up (G := [(52, 17), (52, 19), (52, 28), (67, 0)]) (by decide))
            cases h2 : isA f T (e (q + 1)).2.1 41 with
            | false =>
              rw [h2] at x1 x2
              rw [h2, if_neg (by decide)] at et
              rw [et]
              dsimp only
              exact ⟨σ5, C4, p_X10_readsThing_0_4 g1 rfl k2 rfl t1 c3 c4 y1 (by decide) i1 (by decide) x1 rfl, x2, hC5, by omega, (fun z => by cases z), F5⟩
            | true =>
              rw [h2] at x1 x2
              rw [h2, if_pos rfl] at et
              rw [et]
              dsimp only
              have fn5 : Fr [(52, 19)] σ5 (hq_sI σ5 52 18 (σ5.1 52 18 - nI 1)) := (Fr.rf σ5).sI rfl
              refine ⟨_, C4, p_X10_readsThing_0_5 g1 rfl k2 rfl t1 c3 c4 y1 (by decide) i1 (by decide) x1 (by decide), mZ.dep.fr fn5 (by decide) x2, mDl.dep.fr fn5 (by decide) hC5, by omega, fun _ => ⟨c1, ?_⟩, F5.tr (fn5.up (by decide))⟩
              rw [sI_eq, x3.i rfl, c2, nI_dec1]
theorem m_thingK (hT : T ≤ 40) {ex : Option (Nat → RR)} (hdep : dep ≤ 4) (he : ∀ e, ex = some e → okT T e ∧ dep < 4 ∧ MR 200 [.ref 52, .int (nI 0)] D0 n f T (dep + 1) e) (hn : ex = none → dep = 4) (okx : okT T (tco f T ex)) : ∀ k D, D0 + 15 + k ≤ D → ∀ q C σ, mZ n f T q σ → mDl C σ → C.length ≤ q → σ.1 52 18 = nI dep → (∀ i, i < k → isA f T (q + i) 45 = true) → isA f T (q + k) 45 = false → ∃ τ C', hq_c 199 D [.ref 52] σ (some (.int (bI (tco f T ex (q + k)).1))) τ ∧ mZ n f T (tco f T ex (q + k)).2.1 τ ∧ mDl C' τ ∧ C'.length + q ≤ C.length + (tco f T ex (q + k)).2.1 ∧ ((tco f T ex (q + k)).1 = true → C' = C ++ mS (tco f T ex (q + k)).2.2 ++ List.replicate k 3000 ∧ τ.1 52 18 = nI dep) ∧ Fr [(52, 17), (52, 19), (52, 28), (67, 0)] σ τ
  | 0, D, hD, q, C, σ, hz, hC, hl, hd, h1, h2 => by
    obtain ⟨D, rfl⟩ : ∃ E, D = E + 1 := ⟨D - 1, by omega⟩
    obtain ⟨τ, C', a1, a2, a3, a4, a5, a6⟩ := m_thing0 hT hdep he hn (D := D) (by omega) hz hC hl hd h2
    refine ⟨τ, C', a1, a2, a3, a4, fun z => ?_, a6⟩
    obtain ⟨y1, y2⟩ := a5 z
    refine ⟨?_, y2⟩
    show C' = C ++ mS (tco f T ex q).2.2 ++ []
    rw [List.append_nil]; exact y1
  | k + 1, D, hD, q, C, σ, hz, hC, hl, hd, h1, h2 => by
    obtain ⟨d, rfl⟩ : ∃ E, D = E + 3 := ⟨D - 3, by omega⟩
    have h0 := h1 0 (by omega)
    rw [Nat.add_zero] at h0
    have qT := (is_lt h0).1
    obtain ⟨σ1, g1, g2, g3⟩ := m_takes (d := d) hz (w := 45) (by decide)
    rw [h0] at g1 g2
    have z1 : mZ n f T (q + 1) σ1 := g2
    have e1 : q + 1 + k = q + (k + 1) := by omega
    have hT2 : q + (k + 1) ≤ T := by
      have := (is_lt (h1 k (by omega))).1
      omega
    obtain ⟨σ2, C2, a1, a2, a3, a4, a5, a6⟩ := m_thingK hT hdep he hn okx k (d + 2) (by omega) (q + 1) C σ1 z1 (mDl.dep.fr g3 (by decide) hC) (by omega) ((g3.i rfl).trans hd) (fun i hi => by
      have := h1 (i + 1) (by omega)
      rwa [show q + (i + 1) = q + 1 + i by omega] at this) (by rw [e1]; exact h2)
    rw [e1] at a1 a2 a4 a5
    have lt := a2.2.2.1
    obtain ⟨σ3, w1, w2, w3⟩ := m_codes (d := d + 1) a3 (by omega) (t := 3000) rfl
    refine ⟨σ3, _, p_X10_readsThing_0_8 g1 (by decide) a1 w1 (bI01 _), mZ.dep.fr w3 (by decide) a2, w2, ?_, fun z => ?_, (g3.up (by decide)).tr (a6.tr (w3.up (by decide)))⟩
    · rw [List.length_append]
      show _ + 1 + _ ≤ _
      omega
    · obtain ⟨y1, y2⟩ := a5 z
      refine ⟨?_, (w3.i rfl).trans y2⟩
      rw [y1, List.append_assoc]
      congr 1
      exact (List.replicate_succ' (n := k) (a := 3000)).symm
theorem m_thing (hT : T ≤ 40) (hf : ∀ p, p < T → f p < 256) {ex : Option (Nat → RR)} (hdep : dep ≤ 4) (he : ∀ e, ex = some e → okT T e ∧ dep < 4 ∧ MR 200 [.ref 52, .int (nI 0)] D0 n f T (dep + 1) e) (hn : ex = none → dep = 4) : MR 200 [.ref 52, .int (nI 3)] (D0 + 56) n f T dep (thA f T ex) := by
  intro D hD p C σ hz hC hl hd
  obtain ⟨D, rfl⟩ : ∃ E, D = E + 1 := ⟨D - 1, by omega⟩
  have hp := hz.2.2.1
  obtain ⟨m1, m2, m3⟩ := mns_spec (f := f) (T := T) 40 p
  have mT := mns_le (f := f) (T := T) 40 p hp
  have okx : okT T (tco f T ex) := tco_ok (fun e h => (he e h).1) hf
  have h45 : isA f T (p + mns f T 40 p) 45 = false := by
    by_cases k40 : mns f T 40 p < 40
    · exact m2 k40
    · unfold isA
      have : ¬ (p + mns f T 40 p < T) := by omega
      simp [this]
  obtain ⟨τ, C', a1, a2, a3, a4, a5, a6⟩ := m_thingK hT hdep he hn okx (mns f T 40 p) D (by omega) p C σ hz hC hl hd m1 h45
  unfold thA
  cases h1 : (tco f T ex (p + mns f T 40 p)).1 with
  | false =>
    rw [h1] at a1
    rw [if_neg (by decide)]
    exact ⟨τ, C', p_X10_readsRank_0_1 rfl a1 (bI01 _), a2, a3, a4, (fun z => by cases z), a6⟩
  | true =>
    rw [h1] at a1
    rw [if_pos rfl]
    obtain ⟨y1, y2⟩ := a5 h1
    refine ⟨τ, C', p_X10_readsRank_0_1 rfl a1 (bI01 _), a2, a3, a4, fun _ => ⟨?_, y2⟩, a6⟩
    dsimp only
    rw [y1, mS_app, mS_lss, List.append_assoc]
def dpE : Nat → Nat
  | 0 => 110
  | m + 1 => dpE m + 110
theorem MR.up {x : Nat} {as : List Value} {D1 : Nat} {th : Nat → RR} (h : MR x as D0 n f T dep th) (hl : D0 ≤ D1) : MR x as D1 n f T dep th := fun D hD => h D (by omega)
theorem m_exO (hT : T ≤ 40) (hf : ∀ p, p < T → f p < 256) : ∀ m, m ≤ 4 → MR 200 [.ref 52, .int (nI 0)] (dpE m) n f T (4 - m) (xpA f T (exO f T m))
  | 0, _ => by
    have ok := fun e h => exO_ok (f := f) hf 0 e h
    obtain ⟨o1, o2, -⟩ := xpA_ok ok hf
    have h1 := m_thing (n := n) (f := f) (dep := 4) (D0 := 0) hT hf (ex := exO f T 0) (by decide) (fun e h => by cases h) (fun _ => rfl)
    have h4 := m_rank0 hT o2 (m_rank1 hT o1 (m_rank2 hT (thA_ok ok hf) h1))
    exact h4.up (by show _ ≤ 110; omega)
  | m + 1, hm => by
    have ih := m_exO hT hf m (by omega)
    have ok := fun e h => exO_ok (f := f) hf (m + 1) e h
    obtain ⟨o1, o2, -⟩ := xpA_ok ok hf
    have h1 := m_thing (n := n) (f := f) (dep := 4 - (m + 1)) (D0 := dpE m) hT hf (ex := exO f T (m + 1)) (by omega) (fun e h => by
      have ho := ok e h
      cases h
      refine ⟨ho, by omega, ?_⟩
      rw [show 4 - (m + 1) + 1 = 4 - m by omega]
      exact ih) (fun h => by cases h)
    have h4 := m_rank0 hT o2 (m_rank1 hT o1 (m_rank2 hT (thA_ok ok hf) h1))
    exact h4.up (by show _ ≤ dpE m + 110; omega)
end RN
