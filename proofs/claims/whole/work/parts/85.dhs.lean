/-! door, hinge, row side by side -/
theorem hq_sw_none : ∀ (ks : List Int) (ts : List Nat) (d : Nat) (x : Int32), (∀ k ∈ ks, ¬ x = Int32.ofInt k) → hq_sw ks ts d x = d
  | [], _, _, _, _ => by unfold hq_sw; rfl
  | _ :: _, [], _, _, _ => by unfold hq_sw; rfl
  | k :: ks, t :: ts, d, x, h => by
    unfold hq_sw
    rw [decide_eq_false (h k List.mem_cons_self)]
    exact hq_sw_none ks ts d x (fun u hu => h u (List.mem_cons_of_mem _ hu))
theorem inb6 {q : Int32} (h : inb q 0 6 = false) : ∀ k ∈ hq_keys 7 0, ¬ q = Int32.ofInt k := by
  intro k hk e
  subst e
  revert h
  revert k
  decide
theorem dp' {x d d2 : Nat} {as : List Value} {σ : hq_St} {v : Option Value} {τ : hq_St} (h : hq_c x d as σ v τ) (hd : d ≤ d2) : hq_c x d2 as σ v τ := hq_run.deep hd h
theorem m_inrow {d : Nat} {σ : hq_St} (x : Int32) (n : Nat) (hn : n < 2 ^ 31) : hq_c 167 (d + 1) [.long x.toInt64, .long (lN 0), .long (nI n - nI 1).toInt64] σ (some (.int (bI (inr x n)))) σ := by
  have g := m_in (d := d) (σ := σ) x.toInt64 (lN 0) (nI n - nI 1).toInt64
  rw [inL_int hn] at g
  exact g
section DS
variable {d : Nat} {σ : hq_St} {A : TA} {p q : Int32}
theorem t_door1 (R : Rc A σ) (h : inr p (A 0 0) = false) : lwTh 114 [.ref 0, .int p, .int q] σ := by
  have g := dp' (d2 := 989) (s_isDoor (d := 3) R p) (by decide)
  rw [h] at g
  exact hq_go.run (T := tb_X9_door) (by decide) 3 (i' := 3) (L' := [some (.ref 0), some (.int p), some (.int q)]) (st' := [.int p, .ref 5]) (σ' := σ) (ps := []) rfl trivial (hq_go.call rfl rfl g (hq_go.run (by decide) 1 (i' := 5) (L' := [some (.ref 0), some (.int p), some (.int q)]) (st' := []) (σ' := σ) (ps := []) rfl trivial (hq_go.done ⟨⟨_, rfl, rfl⟩, rfl, rfl⟩)))
theorem t_door2 (R : Rc A σ) (h : inr p (A 0 0) = true) (h2 : inb q 0 6 = false) : lwTh 114 [.ref 0, .int p, .int q] σ := by
  have g := dp' (d2 := 989) (s_isDoor (d := 3) R p) (by decide)
  rw [h] at g
  refine hq_go.run (T := tb_X9_door) (by decide) 3 (i' := 3) (L' := [some (.ref 0), some (.int p), some (.int q)]) (st' := [.int p, .ref 5]) (σ' := σ) (ps := []) rfl trivial (hq_go.call rfl rfl g (hq_go.run (by decide) 3 (i' := hq_sw (hq_keys 7 0) _ 59 q) (L' := [some (.ref 0), some (.int p), some (.int q)]) (st' := []) (σ' := σ) (ps := []) rfl trivial ?_))
  rw [hq_sw_none _ _ _ _ (inb6 h2)]
  exact hq_go.done ⟨⟨_, rfl, rfl⟩, rfl, rfl⟩
theorem t_hinge1 (R : Rc A σ) (h : inr p (A 1 0) = false) : lwTh 115 [.ref 0, .int p, .int q] σ := by
  have g := dp' (d2 := 989) (s_isHinge (d := 3) R p) (by decide)
  rw [h] at g
  exact hq_go.run (T := tb_X9_hinge) (by decide) 3 (i' := 3) (L' := [some (.ref 0), some (.int p), some (.int q)]) (st' := [.int p, .ref 5]) (σ' := σ) (ps := []) rfl trivial (hq_go.call rfl rfl g (hq_go.run (by decide) 1 (i' := 5) (L' := [some (.ref 0), some (.int p), some (.int q)]) (st' := []) (σ' := σ) (ps := []) rfl trivial (hq_go.done ⟨⟨_, rfl, rfl⟩, rfl, rfl⟩)))
theorem t_hinge2 (R : Rc A σ) (h : inr p (A 1 0) = true) (h2 : inb q 0 6 = false) : lwTh 115 [.ref 0, .int p, .int q] σ := by
  have g := dp' (d2 := 989) (s_isHinge (d := 3) R p) (by decide)
  rw [h] at g
  refine hq_go.run (T := tb_X9_hinge) (by decide) 3 (i' := 3) (L' := [some (.ref 0), some (.int p), some (.int q)]) (st' := [.int p, .ref 5]) (σ' := σ) (ps := []) rfl trivial (hq_go.call rfl rfl g (hq_go.run (by decide) 3 (i' := hq_sw (hq_keys 7 0) _ 53 q) (L' := [some (.ref 0), some (.int p), some (.int q)]) (st' := []) (σ' := σ) (ps := []) rfl trivial ?_))
  rw [hq_sw_none _ _ _ _ (inb6 h2)]
  exact hq_go.done ⟨⟨_, rfl, rfl⟩, rfl, rfl⟩
theorem t_row (h : p < 0 ∨ (¬ p < 0 ∧ ¬ p < σ.1 3 1)) : lwTh 156 [.ref 0, .int p] σ := by
  refine hq_go.run (T := tb_X9_row) (by decide) 2 (i' := cond (decide (p < 0)) 7 2) (L' := [some (.ref 0), some (.int p)]) (st' := []) (σ' := σ) (ps := []) rfl trivial ?_
  rcases h with h | ⟨h1, h2⟩
  · rw [decide_eq_true h]
    exact hq_go.done ⟨⟨_, rfl, rfl⟩, rfl, rfl⟩
  · rw [decide_eq_false h1]
    refine hq_go.run (T := tb_X9_row) (by decide) 5 (i' := cond (decide (p < σ.1 3 1)) 12 7) (L' := [some (.ref 0), some (.int p)]) (st' := []) (σ' := σ) (ps := []) rfl trivial ?_
    rw [decide_eq_false h2]
    exact hq_go.done ⟨⟨_, rfl, rfl⟩, rfl, rfl⟩
/-- what is behind it stays -/
theorem INV.fr {F : List (Nat × Nat)} {σ τ : hq_St} (h : INV σ) (f : Fr F σ τ) (d1 : djF fCa F = true) (d2 : djF fMa F = true) : INV τ := by
  obtain ⟨A, t, y, P, K, C, G, H, n, f', L, c, m, i⟩ := h
  exact ⟨A, t, y, P, K, C, G, H, n, f', L, cAll.dep.fr f d1 c, mAll.dep.fr f d2 m, i⟩
theorem e_door (p q : Int32) : SAMED 114 207 p q := fun σ I => by
  obtain ⟨A, t, y, P, K, C, G, H, n, f, L, ⟨cb, cr, ci⟩, ⟨mb, mr⟩, i1, i2, i3⟩ := id I
  have R := cb.1.1
  have M := mb.1.1
  have f0 : Fr [(52, 1)] σ (hq_sI σ 52 0 (nI 0)) := frth
  have R0 : Rm 61 A (hq_sI σ 52 0 (nI 0)) := Rm.depn.fr f0 (by decide) M
  have g := m_isDoorn (d := 10) R0 p
  have gi := m_inb (d := 11) (σ := hq_sI σ 52 0 (nI 0)) q (a := 0) (b := 6) (by decide) (by decide)
  have fr : Fr [(52, 1)] σ (hq_sI (hq_sI σ 52 0 (nI 0)) 52 0 (nI 1)) := f0.sI rfl
  cases c1 : inr p (A 0 0) with
  | false =>
    rw [c1] at g
    exact Or.inr ⟨_, _, t_door1 R c1, dp (p_X10_door_0_1 g rfl (p_X10_refuse_0_1 (d := 11))) (by decide), sI_eq, I.fr fr (by decide) (by decide)⟩
  | true =>
    rw [c1] at g
    cases c2 : inb q 0 6 with
    | false =>
      rw [c2] at gi
      exact Or.inr ⟨_, _, t_door2 R c1 c2, dp (p_X10_door_0_2 g (by decide) gi rfl (p_X10_refuse_0_1 (d := 11))) (by decide), sI_eq, I.fr fr (by decide) (by decide)⟩
    | true =>
      obtain ⟨k, hk, rfl⟩ := inr_of c1
      obtain ⟨w, _, hw, rfl⟩ := inb_of c2
      obtain ⟨σ1, a1, a2⟩ := s_door (d := 3) R cb.1.2.2 cb.2.2.2.2 hk hw
      have f1 : Fr [(27, 0), (85, 0)] σ (hq_sJ σ1 85 0 (dvA A y G k w).toInt64) := (a2.up (by decide)).sJ rfl
      have mb1 := mBase.dep.fr f1 (by decide) mb
      obtain ⟨σ2, b1, b2, b3⟩ := m_door (d := 3) mb1.1.1 mb1.1.2.2 mb1.2.2.2.2.2 hk hw
      exact Or.inl ⟨_, σ1, σ2, dp' a1 (by decide), dp b1 (by decide), b2, (b3.l rfl).trans sJ_eq, (I.fr f1 (by decide) (by decide)).fr b3 (by decide) (by decide)⟩
theorem e_hinge (p q : Int32) : SAMED 115 208 p q := fun σ I => by
  obtain ⟨A, t, y, P, K, C, G, H, n, f, L, ⟨cb, cr, ci⟩, ⟨mb, mr⟩, i1, i2, i3⟩ := id I
  have R := cb.1.1
  have M := mb.1.1
  have f0 : Fr [(52, 1)] σ (hq_sI σ 52 0 (nI 0)) := frth
  have R0 : Rm 61 A (hq_sI σ 52 0 (nI 0)) := Rm.depn.fr f0 (by decide) M
  have g := m_isHingen (d := 10) R0 p
  have gi := m_inb (d := 11) (σ := hq_sI σ 52 0 (nI 0)) q (a := 0) (b := 6) (by decide) (by decide)
  have fr : Fr [(52, 1)] σ (hq_sI (hq_sI σ 52 0 (nI 0)) 52 0 (nI 1)) := f0.sI rfl
  cases c1 : inr p (A 1 0) with
  | false =>
    rw [c1] at g
    exact Or.inr ⟨_, _, t_hinge1 R c1, dp (p_X10_hinge_0_1 g rfl (p_X10_refuse_0_1 (d := 11))) (by decide), sI_eq, I.fr fr (by decide) (by decide)⟩
  | true =>
    rw [c1] at g
    cases c2 : inb q 0 6 with
    | false =>
      rw [c2] at gi
      exact Or.inr ⟨_, _, t_hinge2 R c1 c2, dp (p_X10_hinge_0_2 g (by decide) gi rfl (p_X10_refuse_0_1 (d := 11))) (by decide), sI_eq, I.fr fr (by decide) (by decide)⟩
    | true =>
      obtain ⟨k, hk, rfl⟩ := inr_of c1
      obtain ⟨w, _, hw, rfl⟩ := inb_of c2
      have a1 := s_hinge (d := 3) R hk hw
      have f1 : Fr [(85, 0)] σ (hq_sJ σ 85 0 (hvA A k w).toInt64) := (Fr.rf σ).sJ rfl
      have mb1 := mBase.dep.fr f1 (by decide) mb
      have b1 := m_hinge (d := 3) mb1.1.1 hk hw
      have b3 : Fr [(52, 1)] (hq_sJ σ 85 0 (hvA A k w).toInt64) (hq_sI (hq_sJ σ 85 0 (hvA A k w).toInt64) 52 0 (nI 0)) := frth
      exact Or.inl ⟨_, σ, _, dp' a1 (by decide), dp b1 (by decide), sI_eq, (b3.l rfl).trans sJ_eq, (I.fr f1 (by decide) (by decide)).fr b3 (by decide) (by decide)⟩
theorem e_row (p : Int32) : SAMER p := fun σ I => by
  obtain ⟨A, t, y, P, K, C, G, H, n, f, L, ⟨cb, cr, ci⟩, ⟨mb, mr⟩, i1, i2, i3⟩ := id I
  obtain ⟨l1, l2, l3⟩ := cr
  cases c : inr p L.length with
  | false =>
    have f0 : Fr [(52, 1)] σ (hq_sI σ 52 0 (nI 0)) := frth
    have mr0 := mR.dep.fr f0 (by decide) mr
    have gi := m_inrow (d := 11) (σ := hq_sI σ 52 0 (nI 0)) p L.length (by omega)
    rw [c, ← mr0.2.1] at gi
    have fr : Fr [(52, 1)] σ (hq_sI (hq_sI σ 52 0 (nI 0)) 52 0 (nI 1)) := f0.sI rfl
    refine Or.inr ⟨_, _, t_row ?_, dp (p_X10_row_0_1 gi rfl) (by decide), sI_eq, I.fr fr (by decide) (by decide)⟩
    unfold inr at c
    rw [decide_eq_false_iff_not] at c
    rw [l2, ltz]
    by_cases q : p.toInt < 0
    · exact Or.inl q
    · refine Or.inr ⟨q, ?_⟩
      rw [lt_nI (by omega)]
      omega
  | true =>
    obtain ⟨k, hk, rfl⟩ := inr_of c
    have ce : (nI k).toNatClampNeg = k := clamp (by omega)
    have q1 : ¬ nI k < 0 := by rw [ltz, nI_toInt (by omega)]; omega
    have q2 : nI k < σ.1 3 1 := by rw [l2, lt_nI (by omega), nI_toInt (by omega)]; omega
    have P1 := p_X9_row_0_2 (d := 3) q1 q2 (vin (by omega) (by decide))
    rw [ce] at P1
    obtain ⟨v, hv⟩ : ∃ v, L[k]? = some v := ⟨_, List.getElem?_eq_getElem hk⟩
    rw [l3 k v hv] at P1
    have f1 : Fr [(85, 0)] σ (hq_sJ σ 85 0 v) := (Fr.rf σ).sJ rfl
    have b3 : Fr [(52, 1)] (hq_sJ σ 85 0 v) (hq_sI (hq_sJ σ 85 0 v) 52 0 (nI 0)) := frth
    have mr1 := mR.dep.fr b3 (by decide) (mR.dep.fr f1 (by decide) mr)
    have gi := m_inrow (d := 11) (σ := hq_sI (hq_sJ σ 85 0 v) 52 0 (nI 0)) (nI k) L.length (by omega)
    rw [c, ← mr1.2.1] at gi
    have P2 := p_X10_row_0_2 gi (by decide) (vin (by omega) (by decide))
    rw [ce, mr1.2.2 k v hv] at P2
    exact Or.inl ⟨v, σ, _, dp' P1 (by decide), dp P2 (by decide), sI_eq, (b3.l rfl).trans sJ_eq, (I.fr f1 (by decide) (by decide)).fr b3 (by decide) (by decide)⟩
end DS
