/-! More of what is only asked: forge, loose hinges, worth, rent. -/
def allb (p : Nat → Bool) : Nat → Bool
  | 0 => true
  | m + 1 => allb p m && p m
theorem allb_true {p : Nat → Bool} : ∀ {m : Nat}, allb p m = true ↔ ∀ j, j < m → p j = true
  | 0 => ⟨fun _ j h => absurd h (Nat.not_lt_zero j), fun _ => rfl⟩
  | m + 1 => by
    unfold allb
    rw [Bool.and_eq_true, allb_true]
    constructor
    · intro h j hj
      by_cases e : j = m
      · subst e; exact h.2
      · exact h.1 j (by omega)
    · intro h
      exact ⟨fun j hj => h j (by omega), h m (Nat.lt_succ_self m)⟩
theorem allb_false {p : Nat → Bool} {m : Nat} (h : allb p m = false) : ∃ j, j < m ∧ p j = false ∧ ∀ i, i < j → p i = true := by
  obtain ⟨k, hk, hl⟩ := pk_least (fun k => p k = false ∧ k < m) (by
    apply Classical.byContradiction
    intro hx
    have : allb p m = true := allb_true.mpr fun j hj => by
      cases e : p j with
      | true => rfl
      | false => exact absurd ⟨j, e, hj⟩ hx
    rw [this] at h; cases h)
  refine ⟨k, hk.2, hk.1, fun i hi => ?_⟩
  cases e : p i with
  | true => rfl
  | false => exact absurd ⟨e, by omega⟩ (hl i hi)
theorem m1_eq : (-1 : Int32) = nI 0 - nI 1 := by decide
theorem place_m1 {p : Nat} (hp : p < 2 ^ 30) : nI p - nI 1 = (-1 : Int32) ↔ p = 0 := by rw [m1_eq]; exact place_eq hp (by decide)
theorem place_lt0 {p : Nat} (hp : p < 2 ^ 30) : nI p - nI 1 < 0 ↔ p = 0 := by
  rw [fa_lt, pk_sub_toInt hp (by decide)]
  have : (0 : Int32).toInt = 0 := rfl
  rw [this]
  omega
section SO
variable {d : Nat} {σ : hq_St} {A : TA}
theorem s_inForge (R : Rc A σ) : hq_c 98 (d + 1) [.ref 5] σ (some (.int (nI (onA A 0)))) σ := by
  obtain ⟨W, -, hN, hD, hH, -⟩ := R
  have b1 := W.1
  have b2 := W.2.1
  refine p_X8_inForge_0_1 ?_
  refine hq_m.for (fun j => [some (.ref 5), some (.int (nI (sbits (fun h => A 11 h == 0) j))), some (.int (nI j))]) (fun _ => σ) (A 1 0) ?_ ?_ 0 (Nat.zero_le _)
  · intro j hj ih
    have c1 : nI j < σ.1 5 14 := by rw [hN]; exact nlt hj (by omega)
    have cj : (nI j).toNatClampNeg = j := clamp (by omega)
    obtain ⟨w1, w2, w3, w4, w5, w6, w7, w8⟩ := W.2.2.2.1 j hj
    have hq : σ.1 17 (nI j).toNatClampNeg = (-1 : Int32) ↔ A 11 j = 0 := by rw [cj, (hH j hj).2.2.2.2.2]; exact place_m1 (by omega)
    by_cases q : A 11 j = 0
    · refine p_X8_inForge_4_1 c1 (vin (by omega) (by decide)) (hq.mpr q) ?_
      rw [sbits_1 (by simp [q])] at ih
      rw [hn_shl j (by omega), orr, nplus]
      exact ih
    · refine p_X8_inForge_4_2 c1 (vin (by omega) (by decide)) (fun z => q (hq.mp z)) ?_
      rw [sbits_0 (by simp [q])] at ih
      rw [orr, nplus, Nat.or_zero]
      exact ih
  · exact p_X8_inForge_4_3 (by rw [hN]; exact nI_nlt (Nat.le_refl _) (by omega))
def canA (A : TA) (n e : Nat) : Bool := allb (fun h => !n.testBit h || (A 11 h == 0 && fitsA A h e)) (A 1 0)
theorem s_canHang (R : Rc A σ) {n e : Nat} (he : e < A 0 0) : hq_c 99 (d + 2) [.ref 5, .int (nI n), .int (nI e)] σ (some (.int (bI (canA A n e)))) σ := by
  have R0 := R
  obtain ⟨W, -, hN, hD, hH, -⟩ := R
  have b1 := W.1
  have b2 := W.2.1
  have cl : ∀ j, j < A 1 0 → (nI j < σ.1 5 14 ∧ (nI j).toNatClampNeg = j ∧ vp_in (nI j) 12 ∧ (σ.1 17 (nI j).toNatClampNeg = (-1 : Int32) ↔ A 11 j = 0)) := by
    intro j hj
    obtain ⟨w1, w2, w3, w4, w5, w6, w7, w8⟩ := W.2.2.2.1 j hj
    have cj : (nI j).toNatClampNeg = j := clamp (by omega)
    exact ⟨by rw [hN]; exact nlt hj (by omega), cj, vin (by omega) (by decide), by rw [cj, (hH j hj).2.2.2.2.2]; exact place_m1 (by omega)⟩
  have step : ∀ {v : Option Value} {τ : hq_St} (j : Nat), j < A 1 0 → (!n.testBit j || (A 11 j == 0 && fitsA A j e)) = true → hq_m 99 (d + 2) v τ 2 [some (.ref 5), some (.int (nI n)), some (.int (nI e)), some (.int (nI (j + 1)))] [] σ → hq_m 99 (d + 2) v τ 2 [some (.ref 5), some (.int (nI n)), some (.int (nI e)), some (.int (nI j))] [] σ := by
    intro v τ j hj hp ih
    obtain ⟨c1, cj, o, hq⟩ := cl j hj
    cases hb : n.testBit j with
    | false =>
      refine p_X8_canHang_2_1 c1 (hn_bit0 (by omega) hb) ?_
      rw [nplus]; exact ih
    | true =>
      rw [hb] at hp
      simp at hp
      have h1 := s_fits (d := d) R0 hj he
      rw [hp.2] at h1
      refine p_X8_canHang_2_3 c1 (hn_bit1 (by omega) hb) o (hq.mpr hp.1) h1 (by decide) ?_
      rw [nplus]; exact ih
  refine p_X8_canHang_0_1 ?_
  unfold canA
  cases ha : allb (fun h => !n.testBit h || (A 11 h == 0 && fitsA A h e)) (A 1 0) with
  | true =>
    have hp := allb_true.mp ha
    refine hq_m.for (fun j => [some (.ref 5), some (.int (nI n)), some (.int (nI e)), some (.int (nI j))]) (fun _ => σ) (A 1 0) (fun j hj ih => step j hj (hp j hj) ih) ?_ 0 (Nat.zero_le _)
    exact p_X8_canHang_2_5 (by rw [hN]; exact nI_nlt (Nat.le_refl _) (by omega))
  | false =>
    obtain ⟨k, hk, hf, hl⟩ := allb_false ha
    refine hq_m.for (fun j => [some (.ref 5), some (.int (nI n)), some (.int (nI e)), some (.int (nI j))]) (fun _ => σ) k (fun j hj ih => step j (by omega) (hl j hj) ih) ?_ 0 (Nat.zero_le _)
    obtain ⟨c1, cj, o, hq⟩ := cl k hk
    cases hb : n.testBit k with
    | false => rw [hb] at hf; cases hf
    | true =>
      rw [hb] at hf
      simp at hf
      by_cases q : A 11 k = 0
      · have h1 := s_fits (d := d) R0 hk he
        rw [hf q] at h1
        exact p_X8_canHang_2_2 c1 (hn_bit1 (by omega) hb) o (hq.mpr q) h1 (by decide)
      · exact p_X8_canHang_2_4 c1 (hn_bit1 (by omega) hb) o (fun z => q (hq.mp z))
/-- hinges on doors that aren't shut -/
def lse (A : TA) : Nat → Nat
  | 0 => 0
  | m + 1 => lse A m ||| (if shutF A (h0 A) m (onA A (m + 1)) then 0 else onA A (m + 1))
def looseA (A : TA) : Nat := lse A (A 0 0)
theorem lse_lt (W : Wf A) : ∀ m, lse A m < 4096
  | 0 => (by decide : (0 : Nat) < 4096)
  | m + 1 => by
    unfold lse
    refine Nat.or_lt_two_pow (n := 12) (lse_lt W m) ?_
    split
    · decide
    · exact onA_lt A _ W.2.1
theorem lse_test {h : Nat} : ∀ m, (lse A m).testBit h = true ↔ ∃ e, e < m ∧ shutF A (h0 A) e (onA A (e + 1)) = false ∧ h < A 1 0 ∧ A 11 h = e + 1
  | 0 => ⟨fun q => by simp [lse] at q, fun ⟨e, he, _⟩ => absurd he (Nat.not_lt_zero e)⟩
  | m + 1 => by
    unfold lse
    rw [Nat.testBit_or, Bool.or_eq_true, lse_test m]
    constructor
    · rintro (⟨e, h1, h2⟩ | h1)
      · exact ⟨e, by omega, h2⟩
      · cases hs : shutF A (h0 A) m (onA A (m + 1)) with
        | true => rw [hs] at h1; simp at h1
        | false =>
          rw [hs] at h1
          simp [onA, sbits_test] at h1
          exact ⟨m, Nat.lt_succ_self m, hs, h1.1, h1.2⟩
    · rintro ⟨e, h1, h2, h3, h4⟩
      by_cases q : e = m
      · subst q
        refine Or.inr ?_
        rw [h2]
        simp [onA, sbits_test, h3, h4]
      · exact Or.inl ⟨e, by omega, h2, h3, h4⟩
theorem s_looseHinges (R : Rc A σ) : hq_c 97 (d + 4) [.ref 5] σ (some (.int (nI (looseA A)))) σ := by
  have R0 := R
  obtain ⟨W, hN, -, hD, hH, -⟩ := R
  have b1 := W.1
  refine p_X8_looseHinges_0_1 ?_
  refine hq_m.for (fun j => [some (.ref 5), some (.int (nI (lse A j))), some (.int (nI j))]) (fun _ => σ) (A 0 0) ?_ ?_ 0 (Nat.zero_le _)
  · intro j hj ih
    have c1 : nI j < σ.1 5 13 := by rw [hN]; exact nlt hj (by omega)
    have cj : (nI j).toNatClampNeg = j := clamp (by omega)
    have o : vp_in (nI j) 8 := vin (by omega) (by decide)
    have h1 := s_shutBy (d := d) R0 hj (onA_lt A (j + 1) W.2.1)
    have e1 : lse A (j + 1) = lse A j ||| (if shutF A (h0 A) j (onA A (j + 1)) then 0 else onA A (j + 1)) := rfl
    rw [e1] at ih
    have hg : σ.1 11 (nI j).toNatClampNeg = nI (onA A (j + 1)) := by rw [cj]; exact (hD j hj).2.2.2.2.2
    cases hq : shutF A (h0 A) j (onA A (j + 1)) with
    | false =>
      rw [hq] at h1 ih
      refine p_X8_looseHinges_4_1 c1 o (by rw [hg]; exact h1) (by decide) o ?_
      rw [hg, orr, nplus]
      exact ih
    | true =>
      rw [hq] at h1 ih
      refine p_X8_looseHinges_4_2 c1 o (by rw [hg]; exact h1) (by decide) ?_
      rw [orr, nplus]
      exact ih
  · exact p_X8_looseHinges_4_3 (by rw [hN]; exact nI_nlt (Nat.le_refl _) (by omega))
def worthA (A : TA) (h e : Nat) : Nat := if fitsA A h e && decide (pop (onA A (e + 1)) < 2) then A 5 e - sset (onA A (e + 1)) (h0 A) (A 1 0) else 0
theorem s_worth (R : Rc A σ) {h e : Nat} (hh : h < A 1 0) (he : e < A 0 0) : hq_c 107 (d + 3) [.ref 5, .int (nI h), .int (nI e)] σ (some (.int (nI (worthA A h e)))) σ := by
  have R0 := R
  obtain ⟨W, hN, -, hD, hH, -⟩ := R
  have b1 := W.1
  have h1 := s_fits (d := d + 1) R0 hh he
  have h2 := s_hasRoom (d := d) R0 he
  obtain ⟨w1, w2, w3, w4, w5, w6, w7⟩ := W.2.2.1 e he
  unfold worthA
  cases q1 : fitsA A h e with
  | false =>
    rw [q1] at h1
    exact p_X8_worth_0_1 h1 (by decide)
  | true =>
    rw [q1] at h1
    by_cases q2 : pop (onA A (e + 1)) < 2
    · rw [decide_eq_true q2] at h2
      have ce : (nI e).toNatClampNeg = e := clamp (by omega)
      have o : vp_in (nI e) 8 := vin (by omega) (by decide)
      have h3 := s_holdsAfter (d := d) R0 (n := onA A (e + 1)) (k := 0) (by decide) true
      rw [sset_congr (g := h0 A) (fun h hh => hK0 W hh true)] at h3
      have hs := sum_lt W (h0_le W) (onA A (e + 1))
      have := p_X8_worth_0_3 (d := d + 2) (σ := σ) (l1 := nI h) (l2 := nI e) h1 (by decide) h2 (by decide) o o (by rw [ce, (hD e he).2.2.2.2.2]; exact h3)
      rw [ce, (hD e he).2.2.2.2.1, max_val (by omega) (by omega)] at this
      rw [if_pos (by simp [q2])]
      exact this
    · rw [decide_eq_false q2] at h2
      rw [if_neg (by simp [q2])]
      exact p_X8_worth_0_2 h1 (by decide) h2 (by decide)
/-- where a door leads to from a room: 0 nowhere, r + 1 the room r -/
def othA (A : TA) (e r : Nat) : Nat := if A 2 e = r then A 3 e + 1 else if A 3 e = r then A 2 e + 1 else 0
theorem s_beyond (R : Rc A σ) {e r : Nat} (he : e < A 0 0) (hr : r < 8) : hq_c 70 (d + 1) [.ref 5, .int (nI e), .int (nI r)] σ (some (.int (nI (othA A e r) - nI 1))) σ := by
  obtain ⟨W, -, -, hD, hH, -⟩ := R
  have b1 := W.1
  obtain ⟨w1, w2, w3, w4, w5, w6, w7⟩ := W.2.2.1 e he
  have ce : (nI e).toNatClampNeg = e := clamp (by omega)
  have o : vp_in (nI e) 8 := vin (by omega) (by decide)
  have hd := hD e he
  have pk : ∀ x, nI (x + 1) - nI 1 = nI x := fun x => nI_pred x
  unfold othA
  by_cases q1 : A 2 e = r
  · rw [if_pos q1, pk]
    have := p_X7_beyond_0_1 (d := d) (σ := σ) (l1 := nI e) (l2 := nI r) o (by rw [ce, hd.1, q1]) o
    rw [ce, hd.2.1] at this
    exact this
  · have n1 : ¬ σ.1 6 (nI e).toNatClampNeg = nI r := by rw [ce, hd.1, nI_eq (by omega) (by omega)]; exact q1
    rw [if_neg q1]
    by_cases q2 : A 3 e = r
    · rw [if_pos q2, pk]
      have := p_X7_beyond_0_2 (d := d) (σ := σ) (l1 := nI e) (l2 := nI r) o n1 o (by rw [ce, hd.2.1, q2]) o
      rw [ce, hd.1] at this
      exact this
    · rw [if_neg q2, ← m1_eq]
      exact p_X7_beyond_0_3 o n1 o (by rw [ce, hd.2.1, nI_eq (by omega) (by omega)]; exact q2)
theorem m_otherRoom (R : Rm 61 A σ) {e r : Nat} (he : e < A 0 0) (hr : r < 8) : hq_c 237 (d + 1) [.ref 52, .int (nI e), .int (nI r)] σ (some (.int (nI (othA A e r) - nI 1))) σ := by
  obtain ⟨W, -, -, hD, -⟩ := R
  have b1 := W.1
  obtain ⟨w1, w2, w3, w4, w5, w6, w7⟩ := W.2.2.1 e he
  have ce : (nI e).toNatClampNeg = e := clamp (by omega)
  have o : vp_in (nI e) 8 := vin (by omega) (by decide)
  have hd := hD e he
  have pk : ∀ x, nI (x + 1) - nI 1 = nI x := fun x => nI_pred x
  unfold othA
  by_cases q1 : A 2 e = r
  · rw [if_pos q1, pk]
    have := p_X10_otherRoom_0_1 (d := d) (σ := σ) (l1 := nI e) (l2 := nI r) o (by rw [ce, hd.1, q1]) o
    rw [ce, hd.2.1] at this
    exact this
  · have n1 : ¬ σ.1 54 (nI e).toNatClampNeg = nI r := by rw [ce, hd.1, nI_eq (by omega) (by omega)]; exact q1
    rw [if_neg q1]
    by_cases q2 : A 3 e = r
    · rw [if_pos q2, pk]
      have := p_X10_otherRoom_0_2 (d := d) (σ := σ) (l1 := nI e) (l2 := nI r) o n1 o (by rw [ce, hd.2.1, q2]) o
      rw [ce, hd.1] at this
      exact this
    · rw [if_neg q2, ← m1_eq]
      exact p_X10_otherRoom_0_3 o n1 o (by rw [ce, hd.2.1, nI_eq (by omega) (by omega)]; exact q2)
theorem m_stateOf (R : Rm 61 A σ) {e : Nat} (he : e < A 0 0) : hq_c 206 (d + 5) [.ref 52, .int (nI e)] σ (some (.int (nI (stateA A e)))) σ := by
  have h1 := m_isShutn (d := d) R he
  have h2 := m_onDn (d := d + 3) R he
  have on4 := onA_lt A (e + 1) R.1.2.1
  unfold stateA
  cases hq : shutF A (h0 A) e (onA A (e + 1)) with
  | true =>
    rw [hq] at h1
    exact p_X10_stateOf_0_3 h1 (by decide)
  | false =>
    rw [hq] at h1
    by_cases q : onA A (e + 1) = 0
    · rw [if_neg (by decide), if_pos q]
      rw [q] at h2
      exact p_X10_stateOf_0_1 h1 (by decide) h2 rfl (m_flag false)
    · rw [if_neg (by decide), if_neg q]
      exact p_X10_stateOf_0_2 h1 (by decide) h2 (nI_ne0 (by omega) (by omega)) (m_flag true)
theorem m_rentOf (R : Rm 61 A σ) {n : Nat} (hn : n < 4096) : hq_c 240 (d + 2) [.ref 52, .int (nI n)] σ (some (.int (nI (sset n (A 8) (A 1 0))))) σ := by
  obtain ⟨W, -, hN, hD, hH, -⟩ := R
  have b2 := W.2.1
  refine p_X10_rentOf_0_1 ?_
  refine hq_m.for (fun j => [some (.ref 52), some (.int (nI n)), some (.int (nI (sset n (A 8) j))), some (.int (nI j))]) (fun _ => σ) (A 1 0) ?_ ?_ 0 (Nat.zero_le _)
  · intro j hj ih
    have c1 : nI j < σ.1 52 4 := by rw [hN]; exact nlt hj (by omega)
    have h1 := m_hasN (d := d) (σ := σ) (n := n) (k := j) (by omega) (by omega)
    cases hb : n.testBit j with
    | false =>
      rw [hb] at h1
      refine p_X10_rentOf_4_1 c1 h1 (by decide) ?_
      rw [sset_0 hb] at ih
      rw [nplus, nplus]
      exact ih
    | true =>
      rw [hb] at h1
      refine p_X10_rentOf_4_2 c1 h1 (by decide) (vin (by omega) (by decide)) ?_
      rw [sset_1 hb] at ih
      rw [clamp (by omega), (hH j hj).2, nplus, nplus]
      exact ih
  · exact p_X10_rentOf_4_3 (by rw [hN]; exact nI_nlt (Nat.le_refl _) (by omega))
/-- all of a set fit a door -/
def fitA (A : TA) (n e : Nat) : Nat → Bool := allb (fun h => !n.testBit h || fitsA A h e)
theorem m_allFit (R : Rm 61 A σ) {n e : Nat} (hn : n < 4096) (he : e < A 0 0) : hq_c 246 (d + 2) [.ref 52, .int (nI n), .int (nI e)] σ (some (.int (bI (fitA A n e (A 1 0))))) σ := by
  have R0 := R
  obtain ⟨W, -, hN, hD, hH, -⟩ := R
  have b2 := W.2.1
  refine p_X10_allFit_0_1 ?_
  refine hq_m.for (fun j => [some (.ref 52), some (.int (nI n)), some (.int (nI e)), some (.int (bI (fitA A n e j))), some (.int (nI j))]) (fun _ => σ) (A 1 0) ?_ ?_ 0 (Nat.zero_le _)
  · intro j hj ih
    have c1 : nI j < σ.1 52 4 := by rw [hN]; exact nlt hj (by omega)
    have h1 := m_hasN (d := d) (σ := σ) (n := n) (k := j) (by omega) (by omega)
    have h2 := m_fits (d := d) R0 hj he
    have e1 : fitA A n e (j + 1) = (fitA A n e j && (!n.testBit j || fitsA A j e)) := rfl
    rw [e1] at ih
    cases hf : fitA A n e j with
    | false =>
      rw [hf] at ih
      refine p_X10_allFit_4_1 c1 (by decide) ?_
      rw [nplus]
      exact ih
    | true =>
      rw [hf] at ih
      cases hb : n.testBit j with
      | false =>
        rw [hb] at h1 ih
        refine p_X10_allFit_4_2 c1 (by decide) h1 (by decide) ?_
        rw [nplus]
        exact ih
      | true =>
        rw [hb] at h1 ih
        cases hg : fitsA A j e with
        | false =>
          rw [hg] at h2 ih
          refine p_X10_allFit_4_3 c1 (by decide) h1 (by decide) h2 (by decide) ?_
          rw [nplus]
          exact ih
        | true =>
          rw [hg] at h2 ih
          refine p_X10_allFit_4_4 c1 (by decide) h1 (by decide) h2 (by decide) ?_
          rw [nplus]
          exact ih
  · exact p_X10_allFit_4_5 (by rw [hN]; exact nI_nlt (Nat.le_refl _) (by omega)) (bI01 _)
/-- hinges that can fall in a gale of g -/
def fallA (A : TA) (g : Nat) : Nat → Nat := sbits (fun h => decide (A 11 h ≠ 0) && !(shut0 A).testBit (A 11 h - 1) && decide (h0 A h + 1 < g))
theorem shut0_lt (W : Wf A) : shut0 A < 256 := Nat.lt_of_lt_of_le (sbits_lt _ _) (Nat.pow_le_pow_right (by decide) W.1 : 2 ^ A 0 0 ≤ 2 ^ 8)
theorem m_canFall (R : Rm 61 A σ) {g : Nat} (hg : 1 ≤ g) (hg2 : g ≤ 19) : hq_c 259 (d + 6) [.ref 52, .int (nI g)] σ (some (.int (nI (fallA A g (A 1 0))))) σ := by
  have R0 := R
  obtain ⟨W, -, hN, hD, hH, hR, -⟩ := R
  have b1 := W.1
  have b2 := W.2.1
  have s8 := shut0_lt W
  refine p_X10_canFall_0_1 (m_shutOfn R0) ?_
  refine hq_m.for (fun j => [some (.ref 52), some (.int (nI g)), some (.int (nI (shut0 A))), some (.int (nI (fallA A g j))), some (.int (nI j)), none]) (fun _ => σ) (A 1 0) ?_ ?_ 0 (Nat.zero_le _)
  · intro j hj ih
    have c1 : nI j < σ.1 52 4 := by rw [hN]; exact nlt hj (by omega)
    have cj : (nI j).toNatClampNeg = j := clamp (by omega)
    have o : vp_in (nI j) 50 := vin (by omega) (by decide)
    obtain ⟨w1, w2, w3, w4, w5, w6, w7, w8⟩ := W.2.2.2.1 j hj
    have hp : σ.1 61 (nI j).toNatClampNeg = nI (A 11 j) - nI 1 := by rw [cj]; exact (hR j hj).1
    have hb := h0_le W j hj
    by_cases q0 : A 11 j = 0
    · refine p_X10_canFall_9_1 c1 o (by rw [hp]; exact (place_lt0 (by omega)).mpr q0) rfl ?_
      have e1 : fallA A g (j + 1) = fallA A g j := sbits_0 (by simp [q0])
      rw [e1] at ih
      rw [orr, nplus, Nat.or_zero]
      exact ih
    · have n0 : ¬ σ.1 61 (nI j).toNatClampNeg < 0 := by rw [hp]; exact fun z => q0 ((place_lt0 (by omega)).mp z)
      have hp2 : nI (A 11 j) - nI 1 = nI (A 11 j - 1) := pk_sub (by omega)
      have hmx : (if nI 0 < σ.1 61 (nI j).toNatClampNeg then σ.1 61 (nI j).toNatClampNeg else nI 0) = nI (A 11 j - 1) := by
        rw [hp, hp2]
        have := max_val (k := A 11 j - 1) (o := 0) (by omega) (by decide)
        rw [show nI (A 11 j - 1) - nI 0 = nI (A 11 j - 1) from pk_sub (Nat.zero_le _)] at this
        rw [this, Nat.sub_zero]
      have h1 := m_hasN (d := d + 4) (σ := σ) (n := shut0 A) (k := A 11 j - 1) (by omega) (by omega)
      have h2 := m_holdOfn (d := d + 4) R0 hj
      have hg1 : nI g - nI 1 = nI (g - 1) := pk_sub (by omega)
      cases hs : (shut0 A).testBit (A 11 j - 1) with
      | true =>
        rw [hs] at h1
        refine p_X10_canFall_9_7 c1 o n0 o (by rw [hmx]; exact h1) (by decide) rfl ?_
        have e1 : fallA A g (j + 1) = fallA A g j := sbits_0 (by simp [hs])
        rw [e1] at ih
        rw [orr, nplus, Nat.or_zero]
        exact ih
      | false =>
        rw [hs] at h1
        by_cases q2 : h0 A j + 1 < g
        · refine p_X10_canFall_9_5 c1 o n0 o (by rw [hmx]; exact h1) (by decide) (by decide) h2 (by rw [hg1]; exact nlt (by omega) (by omega)) ?_
          have e1 : fallA A g (j + 1) = fallA A g j ||| 2 ^ j := sbits_1 (by simp [hs, q0, q2])
          rw [e1] at ih
          rw [hn_shl j (by omega), orr, nplus]
          exact ih
        · refine p_X10_canFall_9_6 c1 o n0 o (by rw [hmx]; exact h1) (by decide) (by decide) h2 (by rw [hg1]; exact nI_nlt (by omega) (by omega)) ?_
          have e1 : fallA A g (j + 1) = fallA A g j := sbits_0 (by simp [q2])
          rw [e1] at ih
          rw [orr, nplus, Nat.or_zero]
          exact ih
  · exact p_X10_canFall_9_10 (by rw [hN]; exact nI_nlt (Nat.le_refl _) (by omega))
end SO
