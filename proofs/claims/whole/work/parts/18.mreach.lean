/-! The reference: where a thief gets to, what is kept. -/
section SM
variable {d : Nat} {σ : hq_St} {A : TA} {s : Nat}
theorem m_reachedn (R : Rm 61 A σ) (hs31 : s < 2 ^ 31) {r : Nat} (hr : r < 8) : hq_c 195 (d + 2) [.ref 52, .int (nI r), .int (nI s)] σ (some (.int (nI (reachA A s r)))) σ := by
  obtain ⟨W, hN, -, hD, -⟩ := R
  have b1 := W.1
  have hb0 : (2 : Nat) ^ r < 256 := Nat.pow_lt_pow_right (by decide) hr (n := 8)
  obtain ⟨k, hk7, hfix, hne⟩ := itr_fix (s := s) W hb0 (by rw [pop_two r hr]; exact Nat.le_refl _)
  have hres : reachA A s r = itr A s k (2 ^ r) := itr_stay hfix (by omega)
  have inner : ∀ {v : Option Value} {τ : hq_St} (b : Nat), b < 256 → hq_m 195 (d + 2) v τ 13 [some (.ref 52), none, some (.int (nI s)), some (.int (nI (swp A s (A 0 0) b))), some (.int (nI b)), some (.int (nI (A 0 0)))] [] σ → hq_m 195 (d + 2) v τ 13 [some (.ref 52), none, some (.int (nI s)), some (.int (nI b)), some (.int (nI b)), some (.int (nI 0))] [] σ := by
    intro v τ b hb hend
    refine hq_m.for (fun e => [some (.ref 52), none, some (.int (nI s)), some (.int (nI (swp A s e b))), some (.int (nI b)), some (.int (nI e))]) (fun _ => σ) (A 0 0) ?_ hend 0 (Nat.zero_le _)
    intro e he ih
    have c1 : nI e < σ.1 52 3 := by rw [hN]; exact nlt he (by omega)
    have ce : (nI e).toNatClampNeg = e := clamp (by omega)
    have o : vp_in (nI e) 8 := vin (by omega) (by decide)
    have hx := swp_lt (s := s) W hb (m := e) (by omega)
    obtain ⟨w1, w2, w3, w4, w5, w6, w7⟩ := W.2.2.1 e he
    have hd := hD e he
    have e1 : swp A s (e + 1) b = stp A s e (swp A s e b) := rfl
    rw [e1] at ih
    have g1 := m_hasN (d := d) (σ := σ) (n := s) (k := e) hs31 (by omega)
    have g2 : hq_c 168 (d + 1) [.int (nI (swp A s e b)), .int (σ.1 54 (nI e).toNatClampNeg)] σ (some (.int (bI ((swp A s e b).testBit (A 2 e))))) σ := by rw [ce, hd.1]; exact m_hasN (by omega) (by omega)
    have g3 : hq_c 168 (d + 1) [.int (nI (swp A s e b)), .int (σ.1 55 (nI e).toNatClampNeg)] σ (some (.int (bI ((swp A s e b).testBit (A 3 e))))) σ := by rw [ce, hd.2.1]; exact m_hasN (by omega) (by omega)
    have hor : nI (swp A s e b) ||| ((nI 1 <<< (σ.1 54 (nI e).toNatClampNeg &&& 31)) ||| (nI 1 <<< (σ.1 55 (nI e).toNatClampNeg &&& 31))) = nI (swp A s e b ||| endsA A e) := by
      rw [ce, hd.1, hd.2.1, hn_shl _ (by omega), hn_shl _ (by omega), orr, orr]; rfl
    cases hs : s.testBit e with
    | true =>
      rw [hs] at g1
      rw [stp_shut hs] at ih
      refine p_X10_reached_13_4 c1 g1 (by decide) ?_
      rw [nplus]
      exact ih
    | false =>
      rw [hs] at g1
      cases h2 : (swp A s e b).testBit (A 2 e) with
      | true =>
        rw [h2] at g2
        rw [stp_yes hs (by rw [h2]; rfl)] at ih
        refine p_X10_reached_13_3 c1 g1 (by decide) o g2 (by decide) o o ?_
        rw [hor, nplus]
        exact ih
      | false =>
        rw [h2] at g2
        cases h3 : (swp A s e b).testBit (A 3 e) with
        | true =>
          rw [h3] at g3
          rw [stp_yes hs (by rw [h2, h3]; rfl)] at ih
          refine p_X10_reached_13_2 c1 g1 (by decide) o g2 (by decide) o g3 (by decide) o o ?_
          rw [hor, nplus]
          exact ih
        | false =>
          rw [h3] at g3
          rw [stp_no hs (by rw [h2, h3]; rfl)] at ih
          refine p_X10_reached_13_1 c1 g1 (by decide) o g2 (by decide) o g3 (by decide) ?_
          rw [nplus]
          exact ih
  have prev : ∀ j, nI (itr A s j (2 ^ r)) = nI (itr A s (j + 1) (2 ^ r)) ↔ itr A s (j + 1) (2 ^ r) = itr A s j (2 ^ r) := by
    intro j
    have h1 := itr_lt (s := s) W hb0 (n := j)
    have h2 := itr_lt (s := s) W hb0 (n := j + 1)
    rw [nI_eq (by omega) (by omega)]
    exact eq_comm
  refine p_X10_reached_0_1 ?_
  rw [hn_shl r (by omega), hres]
  -- the first round, then those that change something, then the one that does not
  have rest : ∀ j, j ≤ k → hq_m 195 (d + 2) (some (.int (nI (itr A s k (2 ^ r))))) σ 6 [some (.ref 52), none, some (.int (nI s)), some (.int (nI (itr A s (j + 1) (2 ^ r)))), some (.int (nI (itr A s j (2 ^ r)))), none] [] σ := by
    refine hq_m.for (fun j => [some (.ref 52), none, some (.int (nI s)), some (.int (nI (itr A s (j + 1) (2 ^ r)))), some (.int (nI (itr A s j (2 ^ r)))), none]) (fun _ => σ) k ?_ ?_
    · intro j hj ih
      refine p_X10_reached_6_2 (fun q => hne j hj ((prev j).mp q.symm)) (inner _ (itr_lt W hb0) ?_)
      exact p_X10_reached_13_5 (by rw [hN]; exact nI_nlt (Nat.le_refl _) (by omega)) ih
    · have := p_X10_reached_6_1 (d := d + 1) (σ := σ) (l2 := nI s) (l3 := nI (itr A s (k + 1) (2 ^ r))) (l4 := nI (itr A s k (2 ^ r))) ((prev k).mpr hfix).symm
      rw [hfix] at this ⊢
      exact this
  have hp0 : 0 < (2 : Nat) ^ r := Nat.two_pow_pos r
  refine p_X10_reached_6_2 (fun q => nI_ne0 hp0 (by omega) q) (inner _ hb0 ?_)
  exact p_X10_reached_13_5 (by rw [hN]; exact nI_nlt (Nat.le_refl _) (by omega)) (rest 0 (Nat.zero_le _))
theorem m_secretsOfn (R : Rm 61 A σ) {x : Int32} {p : Nat → Bool} (hx : ∀ r, r < 8 → (((x >>> (nI r &&& 31)) &&& nI 1) = nI 1 ↔ p r = true)) : hq_c 196 (d + 2) [.ref 52, .int x] σ (some (.int (nI (ssec A p 7)))) σ := by
  obtain ⟨W, -, -, -, -, -, hS⟩ := R
  refine p_X10_secretsOf_0_1 ?_
  refine hq_m.for (fun j => [some (.ref 52), some (.int x), some (.int (nI (ssec A p j))), some (.int (nI (j + 1)))]) (fun _ => σ) 7 ?_ ?_ 0 (Nat.zero_le _)
  · intro j hj ih
    have c1 : nI (j + 1) < nI 8 := nlt (by omega) (by decide)
    have cj : (nI (j + 1)).toNatClampNeg = j + 1 := clamp (by omega)
    have h1 := m_has (d := d) (σ := σ) (hx (j + 1) (by omega))
    cases hp : p (j + 1) with
    | false =>
      rw [hp] at h1
      have e : ssec A p (j + 1) = ssec A p j + 0 := by simp [ssec, hp]
      rw [e] at ih
      refine p_X10_secretsOf_4_1 c1 h1 (by decide) ?_
      rw [nplus, nplus]
      exact ih
    | true =>
      rw [hp] at h1
      have e : ssec A p (j + 1) = ssec A p j + A 12 (j + 1) := by simp [ssec, hp]
      rw [e] at ih
      refine p_X10_secretsOf_4_2 c1 h1 (by decide) (vin (by omega) (by decide)) ?_
      rw [cj, hS (j + 1) (by omega) (by omega), nplus, nplus]
      exact ih
  · exact p_X10_secretsOf_4_3 (nI_nlt (by decide) (by decide))
theorem m_reachedt (R : Rm 65 A σ) (hs31 : s < 2 ^ 31) {r : Nat} (hr : r < 8) : hq_c 195 (d + 2) [.ref 52, .int (nI r), .int (nI s)] σ (some (.int (nI (reachA A s r)))) σ := by
  obtain ⟨W, hN, -, hD, -⟩ := R
  have b1 := W.1
  have hb0 : (2 : Nat) ^ r < 256 := Nat.pow_lt_pow_right (by decide) hr (n := 8)
  obtain ⟨k, hk7, hfix, hne⟩ := itr_fix (s := s) W hb0 (by rw [pop_two r hr]; exact Nat.le_refl _)
  have hres : reachA A s r = itr A s k (2 ^ r) := itr_stay hfix (by omega)
  have inner : ∀ {v : Option Value} {τ : hq_St} (b : Nat), b < 256 → hq_m 195 (d + 2) v τ 13 [some (.ref 52), none, some (.int (nI s)), some (.int (nI (swp A s (A 0 0) b))), some (.int (nI b)), some (.int (nI (A 0 0)))] [] σ → hq_m 195 (d + 2) v τ 13 [some (.ref 52), none, some (.int (nI s)), some (.int (nI b)), some (.int (nI b)), some (.int (nI 0))] [] σ := by
    intro v τ b hb hend
    refine hq_m.for (fun e => [some (.ref 52), none, some (.int (nI s)), some (.int (nI (swp A s e b))), some (.int (nI b)), some (.int (nI e))]) (fun _ => σ) (A 0 0) ?_ hend 0 (Nat.zero_le _)
    intro e he ih
    have c1 : nI e < σ.1 52 3 := by rw [hN]; exact nlt he (by omega)
    have ce : (nI e).toNatClampNeg = e := clamp (by omega)
    have o : vp_in (nI e) 8 := vin (by omega) (by decide)
    have hx := swp_lt (s := s) W hb (m := e) (by omega)
    obtain ⟨w1, w2, w3, w4, w5, w6, w7⟩ := W.2.2.1 e he
    have hd := hD e he
    have e1 : swp A s (e + 1) b = stp A s e (swp A s e b) := rfl
    rw [e1] at ih
    have g1 := m_hasN (d := d) (σ := σ) (n := s) (k := e) hs31 (by omega)
    have g2 : hq_c 168 (d + 1) [.int (nI (swp A s e b)), .int (σ.1 54 (nI e).toNatClampNeg)] σ (some (.int (bI ((swp A s e b).testBit (A 2 e))))) σ := by rw [ce, hd.1]; exact m_hasN (by omega) (by omega)
    have g3 : hq_c 168 (d + 1) [.int (nI (swp A s e b)), .int (σ.1 55 (nI e).toNatClampNeg)] σ (some (.int (bI ((swp A s e b).testBit (A 3 e))))) σ := by rw [ce, hd.2.1]; exact m_hasN (by omega) (by omega)
    have hor : nI (swp A s e b) ||| ((nI 1 <<< (σ.1 54 (nI e).toNatClampNeg &&& 31)) ||| (nI 1 <<< (σ.1 55 (nI e).toNatClampNeg &&& 31))) = nI (swp A s e b ||| endsA A e) := by
      rw [ce, hd.1, hd.2.1, hn_shl _ (by omega), hn_shl _ (by omega), orr, orr]; rfl
    cases hs : s.testBit e with
    | true =>
      rw [hs] at g1
      rw [stp_shut hs] at ih
      refine p_X10_reached_13_4 c1 g1 (by decide) ?_
      rw [nplus]
      exact ih
    | false =>
      rw [hs] at g1
      cases h2 : (swp A s e b).testBit (A 2 e) with
      | true =>
        rw [h2] at g2
        rw [stp_yes hs (by rw [h2]; rfl)] at ih
        refine p_X10_reached_13_3 c1 g1 (by decide) o g2 (by decide) o o ?_
        rw [hor, nplus]
        exact ih
      | false =>
        rw [h2] at g2
        cases h3 : (swp A s e b).testBit (A 3 e) with
        | true =>
          rw [h3] at g3
          rw [stp_yes hs (by rw [h2, h3]; rfl)] at ih
          refine p_X10_reached_13_2 c1 g1 (by decide) o g2 (by decide) o g3 (by decide) o o ?_
          rw [hor, nplus]
          exact ih
        | false =>
          rw [h3] at g3
          rw [stp_no hs (by rw [h2, h3]; rfl)] at ih
          refine p_X10_reached_13_1 c1 g1 (by decide) o g2 (by decide) o g3 (by decide) ?_
          rw [nplus]
          exact ih
  have prev : ∀ j, nI (itr A s j (2 ^ r)) = nI (itr A s (j + 1) (2 ^ r)) ↔ itr A s (j + 1) (2 ^ r) = itr A s j (2 ^ r) := by
    intro j
    have h1 := itr_lt (s := s) W hb0 (n := j)
    have h2 := itr_lt (s := s) W hb0 (n := j + 1)
    rw [nI_eq (by omega) (by omega)]
    exact eq_comm
  refine p_X10_reached_0_1 ?_
  rw [hn_shl r (by omega), hres]
  -- the first round, then those that change something, then the one that does not
  have rest : ∀ j, j ≤ k → hq_m 195 (d + 2) (some (.int (nI (itr A s k (2 ^ r))))) σ 6 [some (.ref 52), none, some (.int (nI s)), some (.int (nI (itr A s (j + 1) (2 ^ r)))), some (.int (nI (itr A s j (2 ^ r)))), none] [] σ := by
    refine hq_m.for (fun j => [some (.ref 52), none, some (.int (nI s)), some (.int (nI (itr A s (j + 1) (2 ^ r)))), some (.int (nI (itr A s j (2 ^ r)))), none]) (fun _ => σ) k ?_ ?_
    · intro j hj ih
      refine p_X10_reached_6_2 (fun q => hne j hj ((prev j).mp q.symm)) (inner _ (itr_lt W hb0) ?_)
      exact p_X10_reached_13_5 (by rw [hN]; exact nI_nlt (Nat.le_refl _) (by omega)) ih
    · have := p_X10_reached_6_1 (d := d + 1) (σ := σ) (l2 := nI s) (l3 := nI (itr A s (k + 1) (2 ^ r))) (l4 := nI (itr A s k (2 ^ r))) ((prev k).mpr hfix).symm
      rw [hfix] at this ⊢
      exact this
  have hp0 : 0 < (2 : Nat) ^ r := Nat.two_pow_pos r
  refine p_X10_reached_6_2 (fun q => nI_ne0 hp0 (by omega) q) (inner _ hb0 ?_)
  exact p_X10_reached_13_5 (by rw [hN]; exact nI_nlt (Nat.le_refl _) (by omega)) (rest 0 (Nat.zero_le _))
theorem m_secretsOft (R : Rm 65 A σ) {x : Int32} {p : Nat → Bool} (hx : ∀ r, r < 8 → (((x >>> (nI r &&& 31)) &&& nI 1) = nI 1 ↔ p r = true)) : hq_c 196 (d + 2) [.ref 52, .int x] σ (some (.int (nI (ssec A p 7)))) σ := by
  obtain ⟨W, -, -, -, -, -, hS⟩ := R
  refine p_X10_secretsOf_0_1 ?_
  refine hq_m.for (fun j => [some (.ref 52), some (.int x), some (.int (nI (ssec A p j))), some (.int (nI (j + 1)))]) (fun _ => σ) 7 ?_ ?_ 0 (Nat.zero_le _)
  · intro j hj ih
    have c1 : nI (j + 1) < nI 8 := nlt (by omega) (by decide)
    have cj : (nI (j + 1)).toNatClampNeg = j + 1 := clamp (by omega)
    have h1 := m_has (d := d) (σ := σ) (hx (j + 1) (by omega))
    cases hp : p (j + 1) with
    | false =>
      rw [hp] at h1
      have e : ssec A p (j + 1) = ssec A p j + 0 := by simp [ssec, hp]
      rw [e] at ih
      refine p_X10_secretsOf_4_1 c1 h1 (by decide) ?_
      rw [nplus, nplus]
      exact ih
    | true =>
      rw [hp] at h1
      have e : ssec A p (j + 1) = ssec A p j + A 12 (j + 1) := by simp [ssec, hp]
      rw [e] at ih
      refine p_X10_secretsOf_4_2 c1 h1 (by decide) (vin (by omega) (by decide)) ?_
      rw [cj, hS (j + 1) (by omega) (by omega), nplus, nplus]
      exact ih
  · exact p_X10_secretsOf_4_3 (nI_nlt (by decide) (by decide))
theorem has_not {n r : Nat} (hr : r < 31) : (((nI n ^^^ (-1 : Int32)) >>> (nI r &&& 31)) &&& nI 1) = nI 1 ↔ n.testBit r = false := by
  have hsm : ((nI r &&& 31).toBitVec.smod 32).toNat = r := by
    have : ∀ k, k < 31 → ((nI k &&& 31).toBitVec.smod 32).toNat = k := by decide +kernel
    exact this r hr
  have e : ((nI n ^^^ (-1 : Int32)) >>> (nI r &&& 31)) &&& nI 1 = nI (if n.testBit r then 0 else 1) := by
    apply Int32.toBitVec_inj.1
    apply BitVec.eq_of_getLsbD_eq
    intro i hi
    have hm : ∀ j, j < 32 → (-1 : Int32).toBitVec.getLsbD j = true := by
      have : ∀ j : Fin 32, (-1 : Int32).toBitVec.getLsbD j.val = true := by decide +kernel
      exact fun j hj => this ⟨j, hj⟩
    show (((BitVec.ofNat 32 n ^^^ (-1 : Int32).toBitVec).sshiftRight ((nI r &&& 31).toBitVec.smod 32).toNat) &&& BitVec.ofNat 32 1).getLsbD i = (BitVec.ofNat 32 (if n.testBit r then 0 else 1)).getLsbD i
    rw [hsm, BitVec.getLsbD_and]
    by_cases h0 : i = 0
    · subst h0
      rw [BitVec.getLsbD_sshiftRight]
      have h1 : r + 0 < 32 := by omega
      simp only [h1, if_true, BitVec.getLsbD_xor, hm _ h1]
      simp only [BitVec.getLsbD_ofNat, Nat.add_zero]
      have : r < 32 := by omega
      cases hb : n.testBit r <;> simp [this]
    · have e1 : (BitVec.ofNat 32 1).getLsbD i = false := by
        simp only [BitVec.getLsbD_ofNat]
        rw [Nat.testBit_lt_two_pow (show 1 < 2 ^ i from Nat.one_lt_two_pow h0)]
        simp
      rw [e1, Bool.and_false]
      split
      · simp
      · exact e1.symm
  rw [e]
  cases n.testBit r <;> decide
theorem m_keptByn (R : Rm 61 A σ) (hs31 : s < 2 ^ 31) : hq_c 197 (d + 3) [.ref 52, .int (nI s)] σ (some (.int (nI (keptA A s)))) σ := by
  refine p_X10_keptBy_0_1 (m_reachedn R hs31 (by decide)) (m_secretsOfn R (fun r hr => ?_))
  rw [has_not (by omega)]
  cases (reachA A s 0).testBit r <;> simp
theorem m_keptByt (R : Rm 65 A σ) (hs31 : s < 2 ^ 31) : hq_c 197 (d + 3) [.ref 52, .int (nI s)] σ (some (.int (nI (keptA A s)))) σ := by
  refine p_X10_keptBy_0_1 (m_reachedt R hs31 (by decide)) (m_secretsOft R (fun r hr => ?_))
  rw [has_not (by omega)]
  cases (reachA A s 0).testBit r <;> simp
end SM
