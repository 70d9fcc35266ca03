/-! Class and reference side by side: the other calls -/
section R2
variable {A : TA} {t y : Int32} {P : List Snap} {K : Shf} {C : Nat} {G H : List Nat} {n : Nat} {f : Nat → Nat} {L : List Int64} {σ : hq_St}
theorem nb1 {x : Int32} {a b : Nat} (ha : a < 2 ^ 31) (hb : b < 2 ^ 31) (h : inb x a b = false) : x < nI a ∨ (¬ x < nI a ∧ nI b < x) := by
  unfold inb at h
  rw [decide_eq_false_iff_not] at h
  by_cases q : x < nI a
  · exact Or.inl q
  · refine Or.inr ⟨q, ?_⟩
    rw [lt_nI ha] at q
    rw [nI_ltx hb]
    omega
theorem z0' {x : Int32} : x < nI 0 ↔ x < 0 := Iff.rfl
theorem e_rent (x : Int32) : SAME 132 241 [.int x] := fun σ ⟨A, t, y, P, K, C, G, H, n, f, L, ⟨cb, cr, ci⟩, ⟨mb, mr⟩, i1, i2, i3⟩ => by
  cases c : inb x 0 99 with
  | true =>
    obtain ⟨k, _, hk, rfl⟩ := inb_of c
    obtain ⟨σ1, g1, r1, f1⟩ := s_rent (d := 0) cb.1.1 hk
    have mb1 := mBase.dep.fr f1 (by decide) mb
    obtain ⟨σ2, g2, r2, f2⟩ := m_rent (d := 0) mb1.1.1 hk
    exact ⟨_, _, σ2, dp g1 (by decide), dp g2 (by decide), INV.q cb mb i1 i2 i3 f1 (by decide) (by decide) r1 (mI.dep.fr f1 (by decide) ci) f2 (by decide) (by decide) r2⟩
  | false =>
    have g := m_inb (d := 0) (σ := hq_sI σ 52 0 (nI 0)) x (a := 0) (b := 99) (by decide) (by decide)
    rw [c] at g
    have f2 : Fr [(52, 1)] σ (hq_sI σ 52 0 (nI 0)) := frth
    refine ⟨_, σ, _, dp (d := 1) ?_ (by decide), dp (d := 2) (p_X10_rent_0_1 g rfl) (by decide), INV.q cb mb i1 i2 i3 (Fr.rf (G := []) σ) (by decide) (by decide) cr ci f2 (by decide) (by decide) (mR.dep.fr f2 (by decide) mr)⟩
    rcases nb1 (by decide) (by decide) c with q | ⟨q, q2⟩
    · exact p_X9_rent_0_1 q
    · exact p_X9_rent_0_2 q q2
theorem e_risk (x : Int32) : SAME 143 260 [.int x] := fun σ ⟨A, t, y, P, K, C, G, H, n, f, L, ⟨cb, cr, ci⟩, ⟨mb, mr⟩, i1, i2, i3⟩ => by
  cases c : inb x 1 19 with
  | true =>
    obtain ⟨k, h1, hk, rfl⟩ := inb_of c
    obtain ⟨σ1, g1, r1, f1⟩ := s_risk (d := 0) cb.1.1 h1 hk
    have mb1 := mBase.dep.fr f1 (by decide) mb
    obtain ⟨σ2, g2, r2, f2⟩ := m_risk (d := 0) mb1.1.1 h1 hk
    exact ⟨_, _, σ2, dp g1 (by decide), dp g2 (by decide), INV.q cb mb i1 i2 i3 f1 (by decide) (by decide) r1 (mI.dep.fr f1 (by decide) ci) f2 (by decide) (by decide) r2⟩
  | false =>
    have g := m_inb (d := 0) (σ := hq_sI σ 52 0 (nI 0)) x (a := 1) (b := 19) (by decide) (by decide)
    rw [c] at g
    have f2 : Fr [(52, 1)] σ (hq_sI σ 52 0 (nI 0)) := frth
    refine ⟨_, σ, _, dp (d := 1) ?_ (by decide), dp (d := 2) (p_X10_risk_0_1 g rfl) (by decide), INV.q cb mb i1 i2 i3 (Fr.rf (G := []) σ) (by decide) (by decide) cr ci f2 (by decide) (by decide) (mR.dep.fr f2 (by decide) mr)⟩
    rcases nb1 (by decide) (by decide) c with q | ⟨q, q2⟩
    · exact p_X9_risk_0_1 q
    · exact p_X9_risk_0_2 q q2
/-- the general end of a pair of calls -/
theorem INV.mk (c : cBase A t y P K G H n f σ) (r : cR L σ) (k : mI σ) (m : mBase A t y P K C G H n f σ) (s : mR L σ) (i1 : rst0 A P) (i2 : KI A C K) (i3 : C ≤ A 0 0 + A 1 0) : INV σ := ⟨A, t, y, P, K, C, G, H, n, f, L, ⟨c, r, k⟩, ⟨m, s⟩, i1, i2, i3⟩
theorem e_count (x : Int32) : SAME 155 277 [.int x] := fun σ ⟨A, t, y, P, K, C, G, H, n, f, L, ⟨cb, cr, ci⟩, ⟨mb, mr⟩, i1, i2, i3⟩ => by
  have f2 : Fr [(52, 1)] σ (hq_sI σ 52 0 (nI 0)) := frth
  have mb2 := mBase.dep.fr f2 (by decide) mb
  have mr2 := mR.dep.fr f2 (by decide) mr
  have inv : INV (hq_sI σ 52 0 (nI 0)) := INV.q cb mb i1 i2 i3 (Fr.rf (G := []) σ) (by decide) (by decide) cr ci f2 (by decide) (by decide) mr2
  have fin : ∀ v, hq_c 155 5 [.ref 0, .int x] σ (some v) σ → hq_c 277 5 [.ref 52, .int x] σ (some v) (hq_sI σ 52 0 (nI 0)) → ∃ v σ1 σ2, hq_c 155 1000 [.ref 0, .int x] σ (some v) σ1 ∧ hq_c 277 1000 [.ref 52, .int x] σ1 (some v) σ2 ∧ INV σ2 := fun v g1 g2 => ⟨v, σ, _, dp g1 (by decide), dp g2 (by decide), inv⟩
  have R := cb.1.1
  have M := mb2.1.1
  by_cases q0 : x = nI 0
  · refine fin _ (p_X9_count_0_1 q0) ?_
    have P := p_X10_count_0_1 (d := 4) (σ := σ) q0
    rw [M.2.1] at P; rw [R.2.1]; exact P
  · by_cases q1 : x = nI 1
    · refine fin _ (p_X9_count_0_2 q0 q1) ?_
      have P := p_X10_count_0_2 (d := 4) (σ := σ) q0 q1
      rw [M.2.2.1] at P; rw [R.2.2.1]; exact P
    · by_cases q2 : x = nI 2
      · refine fin _ (p_X9_count_0_3 q0 q1 q2) ?_
        have P := p_X10_count_0_3 (d := 4) (σ := σ) q0 q1 q2 (vin (by decide) (by decide))
        rw [show (nI 49).toNatClampNeg = 49 from rfl, mb2.1.2.2] at P; rw [cb.1.2.2]; exact P
      · by_cases q3 : x = nI 3
        · refine fin _ (p_X9_count_0_4 q0 q1 q2 q3) ?_
          have P := p_X10_count_0_4 (d := 4) (σ := σ) q0 q1 q2 q3 (vin (by decide) (by decide))
          rw [show (nI 48).toNatClampNeg = 48 from rfl, mb2.1.2.1] at P; rw [cb.1.2.1]; exact P
        · by_cases q4 : x = nI 4
          · have g2 := m_onn (d := 3) (p := 0) M (by decide)
            exact fin _ (p_X9_count_0_5 q0 q1 q2 q3 q4 (s_inForge (d := 3) R)) (p_X10_count_0_5 q0 q1 q2 q3 q4 g2)
          · by_cases q5 : x = nI 5
            · exact fin _ (p_X9_count_0_6 q0 q1 q2 q3 q4 q5 (s_secN (d := 3) R)) (p_X10_count_0_6 q0 q1 q2 q3 q4 q5 (m_secN (d := 2) M (by decide)))
            · by_cases q6 : x = nI 6
              · refine fin _ (p_X9_count_0_7 q0 q1 q2 q3 q4 q5 q6) ?_
                have P := p_X10_count_0_7 (d := 4) (σ := σ) q0 q1 q2 q3 q4 q5 q6
                obtain ⟨_, p, hG⟩ := cb.2.2.1
                rw [mb2.2.2.1.2.2.1] at P; rw [hG.2.2.2.2.1]; exact P
              · by_cases q7 : x = nI 7
                · refine fin _ (p_X9_count_0_8 q0 q1 q2 q3 q4 q5 q6 q7) ?_
                  have P := p_X10_count_0_8 (d := 4) (σ := σ) q0 q1 q2 q3 q4 q5 q6 q7
                  rw [mb2.2.2.2.2.1.2.1] at P; rw [cb.2.2.2.1.2.1]; exact P
                · by_cases q8 : x = nI 8
                  · refine fin _ (p_X9_count_0_9 q0 q1 q2 q3 q4 q5 q6 q7 q8) ?_
                    have P := p_X10_count_0_9 (d := 4) (σ := σ) q0 q1 q2 q3 q4 q5 q6 q7 q8
                    rw [mr2.2.1] at P; rw [cr.2.1]; exact P
                  · by_cases q9 : x = nI 9
                    · refine fin _ (p_X9_count_0_10 q0 q1 q2 q3 q4 q5 q6 q7 q8 q9) ?_
                      have P := p_X10_count_0_10 (d := 4) (σ := σ) q0 q1 q2 q3 q4 q5 q6 q7 q8 q9
                      rw [mb2.2.1.2.1] at P; rw [cb.2.1.2.1]; exact P
                    · exact fin _ (p_X9_count_0_11 q0 q1 q2 q3 q4 q5 q6 q7 q8 q9) (p_X10_count_0_11 q0 q1 q2 q3 q4 q5 q6 q7 q8 q9)
theorem e_heard (x : Int32) : SAME 145 262 [.int x] := fun σ ⟨A, t, y, P, K, C, G, H, n, f, L, ⟨cb, cr, ci⟩, ⟨mb, mr⟩, i1, i2, i3⟩ => by
  obtain ⟨σ1, g1, r1, f1⟩ := s_heard (d := 0) cb.2.2.2.1 x
  have mb1 := mBase.dep.fr f1 (by decide) mb
  have mr1 := mR.dep.fr f1 (by decide) mr
  obtain ⟨σ2, g2, r2, f2⟩ := m_heard (d := 0) mb1.2.2.2.2.1 x
  exact ⟨_, _, σ2, dp g1 (by decide), dp g2 (by decide), INV.mk (H := hearL H x) ⟨cT.dep.fr f2 (by decide) (cT.dep.fr f1 (by decide) cb.1), cX.dep.fr f2 (by decide) (cX.dep.fr f1 (by decide) cb.2.1), cP.dep.fr f2 (by decide) (cP.dep.fr f1 (by decide) cb.2.2.1), cE.dep.fr f2 (by decide) r1, cU.dep.fr f2 (by decide) (cU.dep.fr f1 (by decide) cb.2.2.2.2)⟩ (cR.dep.fr f2 (by decide) (cR.dep.fr f1 (by decide) cr)) (mI.dep.fr f2 (by decide) (mI.dep.fr f1 (by decide) ci)) ⟨mT.dep.fr f2 (by decide) mb1.1, mX.dep.fr f2 (by decide) mb1.2.1, mP.dep.fr f2 (by decide) mb1.2.2.1, mK.dep.fr f2 (by decide) mb1.2.2.2.1, r2, mU.dep.fr f2 (by decide) mb1.2.2.2.2.2⟩ (mR.dep.fr f2 (by decide) mr1) i1 i2 i3⟩
end R2
