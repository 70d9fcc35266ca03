/-! bid, rings -/
def lob : Nat → Nat → Nat
  | 0, _ => 0
  | m + 1, n => if n % 2 = 1 then 0 else 1 + lob m (n / 2)
/-- the least of a set -/
def ntz (n : Nat) : Nat := lob 12 n
theorem lob_ok : ∀ (m : Nat) {n : Nat}, n ≠ 0 → n < 2 ^ m → lob m n < m ∧ n.testBit (lob m n) = true ∧ ∀ j, j < lob m n → n.testBit j = false
  | 0, n, h0, h => by omega
  | m + 1, n, h0, h => by
    unfold lob
    by_cases q : n % 2 = 1
    · rw [if_pos q]
      refine ⟨by omega, ?_, fun j hj => by omega⟩
      rw [Nat.testBit_zero]; simp [q]
    · rw [if_neg q]
      have hp : (2 : Nat) ^ (m + 1) = 2 * 2 ^ m := by rw [Nat.pow_succ]; omega
      obtain ⟨a, b, c⟩ := lob_ok m (n := n / 2) (by omega) (by omega)
      refine ⟨by omega, ?_, fun j hj => ?_⟩
      · rw [Nat.add_comm, Nat.testBit_succ]; exact b
      · cases j with
        | zero => rw [Nat.testBit_zero]; simp [q]
        | succ j => rw [Nat.testBit_succ]; exact c j (by omega)
theorem ntz_ok {n : Nat} (h0 : n ≠ 0) (h : n < 4096) : ntz n < 12 ∧ n.testBit (ntz n) = true ∧ ∀ j, j < ntz n → n.testBit j = false := lob_ok 12 h0 h
theorem ntz_eq {n k : Nat} (h : n < 4096) (hk : n.testBit k = true) (hl : ∀ j, j < k → n.testBit j = false) : ntz n = k := by
  have h0 : n ≠ 0 := fun z => by rw [z] at hk; simp at hk
  obtain ⟨a, b, c⟩ := ntz_ok h0 h
  rcases Nat.lt_trichotomy (ntz n) k with q | q | q
  · rw [hl _ q] at b; cases b
  · exact q
  · rw [c _ q] at hk; cases hk
theorem ntz_or {n x : Nat} (h0 : n ≠ 0) (h : n < 4096) (hx : x < 12) : ntz (n ||| 2 ^ x) = min (ntz n) x := by
  obtain ⟨a, b, c⟩ := ntz_ok h0 h
  have hlt : n ||| 2 ^ x < 4096 := Nat.or_lt_two_pow (n := 12) h (Nat.pow_lt_pow_right (by decide) hx)
  refine ntz_eq hlt ?_ (fun j hj => ?_)
  · rw [Nat.testBit_or, Nat.testBit_two_pow]
    by_cases q : ntz n ≤ x
    · rw [Nat.min_eq_left q, b]; rfl
    · rw [Nat.min_eq_right (by omega)]; simp
  · rw [Nat.testBit_or, Nat.testBit_two_pow, c j (by omega)]
    simp; omega
theorem ntz_two {x : Nat} (hx : x < 12) : ntz (2 ^ x) = x := ntz_eq (Nat.pow_lt_pow_right (by decide) hx : 2 ^ x < 2 ^ 12) (by simp) (fun j hj => by rw [Nat.testBit_two_pow]; simp; omega)
theorem tz_ok : ∀ a, a < 64 → ∀ b, b < 64 → 64 * a + b ≠ 0 → (nI (64 * a + b) ^^^ (-1 : Int32)) &&& (nI (64 * a + b) - nI 1) = nI (2 ^ ntz (64 * a + b) - 1) := by decide +kernel
theorem tz_E {n : Nat} (h0 : n ≠ 0) (h : n < 4096) : (nI n ^^^ (-1 : Int32)) &&& (nI n - nI 1) = nI (2 ^ ntz n - 1) := by
  have := tz_ok (n / 64) (by omega) (n % 64) (by omega)
  rw [show 64 * (n / 64) + n % 64 = n by omega] at this
  exact this h0
section TZ
variable {d : Nat} {σ : hq_St} {A : TA}
set_option maxRecDepth 4000 in
theorem s_ntz {n : Nat} (h0 : n ≠ 0) (h : n < 4096) : hq_c 279 (d + 1) [.int (nI n)] σ (some (.int (nI (ntz n)))) σ := by
  have hE := tz_E h0 h
  have hk := (ntz_ok h0 h).1
  generalize ntz n = k at *
  have cases : k = 0 ∨ k = 1 ∨ k = 2 ∨ k = 3 ∨ k = 4 ∨ k = 5 ∨ k = 6 ∨ k = 7 ∨ k = 8 ∨ k = 9 ∨ k = 10 ∨ k = 11 := by omega
  rcases cases with rfl | rfl | rfl | rfl | rfl | rfl | rfl | rfl | rfl | rfl | rfl | rfl
  · have t := p_J6_numberOfTrailingZeros_0f7a4_0_17 (d := d) (σ := σ) (l0 := nI n) (by rw [hE]; decide)
    rw [hE] at t; exact t
  · have t := p_J6_numberOfTrailingZeros_0f7a4_0_16 (d := d) (σ := σ) (l0 := nI n) (by rw [hE]; decide) (by rw [hE]; decide) (by rw [hE]; decide) (by rw [hE]; decide) (by rw [hE]; decide)
    rw [hE] at t; exact t
  · have t := p_J6_numberOfTrailingZeros_0f7a4_0_16 (d := d) (σ := σ) (l0 := nI n) (by rw [hE]; decide) (by rw [hE]; decide) (by rw [hE]; decide) (by rw [hE]; decide) (by rw [hE]; decide)
    rw [hE] at t; exact t
  · have t := p_J6_numberOfTrailingZeros_0f7a4_0_15 (d := d) (σ := σ) (l0 := nI n) (by rw [hE]; decide) (by rw [hE]; decide) (by rw [hE]; decide) (by rw [hE]; decide) (by rw [hE]; decide)
    rw [hE] at t; exact t
  · have t := p_J6_numberOfTrailingZeros_0f7a4_0_15 (d := d) (σ := σ) (l0 := nI n) (by rw [hE]; decide) (by rw [hE]; decide) (by rw [hE]; decide) (by rw [hE]; decide) (by rw [hE]; decide)
    rw [hE] at t; exact t
  · have t := p_J6_numberOfTrailingZeros_0f7a4_0_14 (d := d) (σ := σ) (l0 := nI n) (by rw [hE]; decide) (by rw [hE]; decide) (by rw [hE]; decide) (by rw [hE]; decide) (by rw [hE]; decide)
    rw [hE] at t; exact t
  · have t := p_J6_numberOfTrailingZeros_0f7a4_0_14 (d := d) (σ := σ) (l0 := nI n) (by rw [hE]; decide) (by rw [hE]; decide) (by rw [hE]; decide) (by rw [hE]; decide) (by rw [hE]; decide)
    rw [hE] at t; exact t
  · have t := p_J6_numberOfTrailingZeros_0f7a4_0_13 (d := d) (σ := σ) (l0 := nI n) (by rw [hE]; decide) (by rw [hE]; decide) (by rw [hE]; decide) (by rw [hE]; decide) (by rw [hE]; decide)
    rw [hE] at t; exact t
  · have t := p_J6_numberOfTrailingZeros_0f7a4_0_13 (d := d) (σ := σ) (l0 := nI n) (by rw [hE]; decide) (by rw [hE]; decide) (by rw [hE]; decide) (by rw [hE]; decide) (by rw [hE]; decide)
    rw [hE] at t; exact t
  · have t := p_J6_numberOfTrailingZeros_0f7a4_0_12 (d := d) (σ := σ) (l0 := nI n) (by rw [hE]; decide) (by rw [hE]; decide) (by rw [hE]; decide) (by rw [hE]; decide) (by rw [hE]; decide)
    rw [hE] at t; exact t
  · have t := p_J6_numberOfTrailingZeros_0f7a4_0_12 (d := d) (σ := σ) (l0 := nI n) (by rw [hE]; decide) (by rw [hE]; decide) (by rw [hE]; decide) (by rw [hE]; decide) (by rw [hE]; decide)
    rw [hE] at t; exact t
  · have t := p_J6_numberOfTrailingZeros_0f7a4_0_11 (d := d) (σ := σ) (l0 := nI n) (by rw [hE]; decide) (by rw [hE]; decide) (by rw [hE]; decide) (by rw [hE]; decide) (by rw [hE]; decide)
    rw [hE] at t; exact t
/-- the door that a hinge would rather be on: 0 none, e + 1 the door e -/
def wsh (A : TA) (h : Nat) : Nat → Nat
  | 0 => 0
  | e + 1 => if e + 1 ≠ A 11 h ∧ fitsA A h e = true ∧ (wsh A h e = 0 ∨ A 5 (wsh A h e - 1) < A 5 e) then e + 1 else wsh A h e
theorem wsh_le (A : TA) (h : Nat) : ∀ m, wsh A h m ≤ m
  | 0 => Nat.le_refl _
  | m + 1 => by
    have := wsh_le A h m
    unfold wsh
    split <;> omega
/-- the hinge whose place a hinge would rather have: 0 none -/
def rNx (A : TA) (h : Nat) : Nat := if wsh A h (A 0 0) = 0 ∨ onA A (wsh A h (A 0 0)) = 0 then 0 else ntz (onA A (wsh A h (A 0 0))) + 1
theorem rNx_le (W : Wf A) (h : Nat) : rNx A h ≤ A 1 0 ∧ (rNx A h ≠ 0 → A 11 (rNx A h - 1) ≠ 0) := by
  unfold rNx
  split
  · exact ⟨Nat.zero_le _, fun z => absurd rfl z⟩
  · rename_i q
    have h1 : wsh A h (A 0 0) ≠ 0 := fun z => q (Or.inl z)
    have h2 : onA A (wsh A h (A 0 0)) ≠ 0 := fun z => q (Or.inr z)
    obtain ⟨a, b, c⟩ := ntz_ok h2 (onA_lt A _ W.2.1)
    rw [onA_test] at b
    simp at b
    exact ⟨by omega, fun _ => by rw [Nat.add_sub_cancel, b.2]; exact h1⟩
theorem pl_eq {e p : Nat} (he : e < 2 ^ 29) (hp : p < 2 ^ 29) : nI e = nI p - nI 1 ↔ e + 1 = p := by
  have e1 : nI e = nI (e + 1) - nI 1 := (nI_pred e).symm
  rw [e1]
  exact place_eq (by omega) (by omega)
theorem pl_z {p : Nat} (hp : p < 2 ^ 29) (h : p ≠ 0) : ¬ nI p - nI 1 = -1 ∧ ¬ nI p - nI 1 < 0 ∧ nI p - nI 1 = nI (p - 1) := ⟨fun z => h ((place_m1 (by omega)).mp z), fun z => h ((place_lt0 (by omega)).mp z), pk_sub (by omega)⟩
theorem s_nextInRing (R : Rc A σ) {h : Nat} (hh : h < A 1 0) : hq_c 108 (d + 2) [.ref 5, .int (nI h)] σ (some (.int (if A 11 h = 0 then -1 else nI (rNx A h) - nI 1))) σ := by
  have W := R.1
  have b1 := W.1
  have b2 := W.2.1
  have ch : (nI h).toNatClampNeg = h := clamp (by omega)
  have o : vp_in (nI h) 12 := vin (by omega) (by decide)
  have w7 := (W.2.2.2.1 h hh).2.2.2.2.2.2.1
  have hp : σ.1 17 (nI h).toNatClampNeg = nI (A 11 h) - nI 1 := by rw [ch]; exact (R.2.2.2.2.1 h hh).2.2.2.2.2
  have lp : ∀ v τ, hq_m 108 (d + 2) v τ 4 [some (.ref 5), some (.int (nI h)), some (.int (nI (wsh A h (A 0 0)) - nI 1)), some (.int (nI (A 0 0)))] [] σ → hq_m 108 (d + 2) v τ 4 [some (.ref 5), some (.int (nI h)), some (.int (-1)), some (.int (nI 0))] [] σ := by
    intro v τ k
    refine hq_m.for (fun e => [some (.ref 5), some (.int (nI h)), some (.int (nI (wsh A h e) - nI 1)), some (.int (nI e))]) (fun _ => σ) (A 0 0) ?_ k 0 (Nat.zero_le _)
    intro e he ih
    have c1 : nI e < σ.1 5 13 := by rw [R.2.1]; exact nlt he (by omega)
    have g := s_fits (d := d) R hh he
    have wl := wsh_le A h e
    have oe : vp_in (nI e) 8 := vin (by omega) (by decide)
    have ce : (nI e).toNatClampNeg = e := clamp (by omega)
    have w5 := (W.2.2.1 e he).2.2.2.2
    have es : wsh A h (e + 1) = if e + 1 ≠ A 11 h ∧ fitsA A h e = true ∧ (wsh A h e = 0 ∨ A 5 (wsh A h e - 1) < A 5 e) then e + 1 else wsh A h e := rfl
    rw [es] at ih
    by_cases q0 : e + 1 = A 11 h
    · rw [if_neg (fun z => z.1 q0)] at ih
      refine p_X8_nextInRing_4_1 c1 o (by rw [hp, pl_eq (by omega) (by omega)]; exact q0) ?_
      rw [nplus]; exact ih
    · have n0 : ¬ nI e = σ.1 17 (nI h).toNatClampNeg := by rw [hp, pl_eq (by omega) (by omega)]; exact q0
      cases q1 : fitsA A h e with
      | false =>
        rw [q1] at g
        rw [if_neg (fun z => by rw [q1] at z; cases z.2.1)] at ih
        refine p_X8_nextInRing_4_2 c1 o n0 g rfl ?_
        rw [nplus]; exact ih
      | true =>
        rw [q1] at g
        by_cases q2 : wsh A h e = 0
        · rw [if_pos ⟨q0, q1, Or.inl q2⟩] at ih
          have ee : nI (e + 1) - nI 1 = nI e := nI_pred e
          rw [ee] at ih
          refine p_X8_nextInRing_4_3 c1 o n0 g (by decide) (by rw [q2]; decide) ?_
          rw [nplus]; exact ih
        · obtain ⟨z1, z2, z3⟩ := pl_z (p := wsh A h e) (by omega) q2
          have cw : (nI (wsh A h e - 1)).toNatClampNeg = wsh A h e - 1 := clamp (by omega)
          have ow : vp_in (nI (wsh A h e) - nI 1) 8 := by rw [z3]; exact vin (by omega) (by decide)
          have ww := (W.2.2.1 (wsh A h e - 1) (by omega)).2.2.2.2
          by_cases q3 : A 5 (wsh A h e - 1) < A 5 e
          · rw [if_pos ⟨q0, q1, Or.inr q3⟩] at ih
            have ee : nI (e + 1) - nI 1 = nI e := nI_pred e
            rw [ee] at ih
            refine p_X8_nextInRing_4_4 c1 o n0 g (by decide) z1 ow oe ?_ ?_
            · rw [z3, cw, ce, (R.2.2.2.1 _ (by omega)).2.2.2.2.1, (R.2.2.2.1 e he).2.2.2.2.1]; exact nlt q3 (by omega)
            · rw [nplus]; exact ih
          · rw [if_neg (fun z => by omega)] at ih
            refine p_X8_nextInRing_4_5 c1 o n0 g (by decide) z1 ow oe ?_ ?_
            · rw [z3, cw, ce, (R.2.2.2.1 _ (by omega)).2.2.2.2.1, (R.2.2.2.1 e he).2.2.2.2.1]; exact nI_nlt (by omega) (by omega)
            · rw [nplus]; exact ih
  have c1 : ¬ nI (A 0 0) < σ.1 5 13 := by rw [R.2.1]; exact nI_nlt (Nat.le_refl _) (by omega)
  refine p_X8_nextInRing_0_1 (lp _ _ ?_)
  by_cases q0 : A 11 h = 0
  · rw [if_pos q0]
    exact p_X8_nextInRing_4_6 c1 o (by rw [hp, q0]; decide)
  · rw [if_neg q0]
    have np : ¬ σ.1 17 (nI h).toNatClampNeg = -1 := by rw [hp]; exact (pl_z (by omega) q0).1
    have wl := wsh_le A h (A 0 0)
    by_cases q1 : wsh A h (A 0 0) = 0
    · have e0 : rNx A h = 0 := by unfold rNx; rw [if_pos (Or.inl q1)]
      rw [e0]
      exact p_X8_nextInRing_4_7 c1 o np (by rw [q1]; decide)
    · obtain ⟨z1, z2, z3⟩ := pl_z (p := wsh A h (A 0 0)) (by omega) q1
      refine p_X8_nextInRing_4_8 c1 o np z1 ?_
      -- the first hinge there
      have step : ∀ {v : Option Value} {τ : hq_St} (j : Nat), j < A 1 0 → A 11 j ≠ wsh A h (A 0 0) → hq_m 108 (d + 2) v τ 48 [some (.ref 5), none, some (.int (nI (wsh A h (A 0 0)) - nI 1)), some (.int (nI (j + 1)))] [] σ → hq_m 108 (d + 2) v τ 48 [some (.ref 5), none, some (.int (nI (wsh A h (A 0 0)) - nI 1)), some (.int (nI j))] [] σ := by
        intro v τ j hj hne k
        have wj := (W.2.2.2.1 j hj).2.2.2.2.2.2.1
        refine p_X8_nextInRing_48_2 (by rw [R.2.2.1]; exact nlt hj (by omega)) (vin (by omega) (by decide)) ?_ (by rw [nplus]; exact k)
        rw [clamp (by omega), (R.2.2.2.2.1 j hj).2.2.2.2.2, place_eq (by omega) (by omega)]; exact hne
      by_cases q2 : onA A (wsh A h (A 0 0)) = 0
      · have e0 : rNx A h = 0 := by unfold rNx; rw [if_pos (Or.inr q2)]
        rw [e0]
        refine hq_m.for (fun j => [some (.ref 5), none, some (.int (nI (wsh A h (A 0 0)) - nI 1)), some (.int (nI j))]) (fun _ => σ) (A 1 0) (fun j hj k => step j hj (fun z => ?_) k) ?_ 0 (Nat.zero_le _)
        · have : (onA A (wsh A h (A 0 0))).testBit j = true := by rw [onA_test]; simp [hj, z]
          rw [q2] at this; simp at this
        · exact p_X8_nextInRing_48_3 (by rw [R.2.2.1]; exact nI_nlt (Nat.le_refl _) (by omega))
      · have e0 : rNx A h = ntz (onA A (wsh A h (A 0 0))) + 1 := by unfold rNx; rw [if_neg (fun z => by omega)]
        obtain ⟨a, b, c⟩ := ntz_ok q2 (onA_lt A _ b2)
        rw [onA_test] at b
        simp at b
        have en : nI (ntz (onA A (wsh A h (A 0 0))) + 1) - nI 1 = nI (ntz (onA A (wsh A h (A 0 0)))) := nI_pred _
        rw [e0, en]
        refine hq_m.for (fun j => [some (.ref 5), none, some (.int (nI (wsh A h (A 0 0)) - nI 1)), some (.int (nI j))]) (fun _ => σ) (ntz (onA A (wsh A h (A 0 0)))) (fun j hj k => step j (by omega) (fun z => ?_) k) ?_ 0 (Nat.zero_le _)
        · have := c j hj
          rw [onA_test] at this
          have hj' : j < A 1 0 := by omega
          simp [z, hj'] at this
        · refine p_X8_nextInRing_48_1 (by rw [R.2.2.1]; exact nlt b.1 (by omega)) (vin (by omega) (by decide)) ?_
          rw [clamp (by omega), (R.2.2.2.2.1 _ b.1).2.2.2.2.2, b.2]
theorem m_nextOf (R : Rm 61 A σ) {h : Nat} (hh : h < A 1 0) : hq_c 273 (d + 2) [.ref 52, .int (nI h)] σ (some (.int (nI (rNx A h) - nI 1))) σ := by
  have W := R.1
  have b1 := W.1
  have b2 := W.2.1
  have ch : (nI h).toNatClampNeg = h := clamp (by omega)
  have o : vp_in (nI h) 50 := vin (by omega) (by decide)
  have w7 := (W.2.2.2.1 h hh).2.2.2.2.2.2.1
  have hp : σ.1 61 (nI h).toNatClampNeg = nI (A 11 h) - nI 1 := by rw [ch]; exact (R.2.2.2.2.2.1 h hh).1
  have lp : ∀ v τ, hq_m 273 (d + 2) v τ 4 [some (.ref 52), some (.int (nI h)), some (.int (nI (wsh A h (A 0 0)) - nI 1)), some (.int (nI (A 0 0)))] [] σ → hq_m 273 (d + 2) v τ 4 [some (.ref 52), some (.int (nI h)), some (.int (-1)), some (.int (nI 0))] [] σ := by
    intro v τ k
    refine hq_m.for (fun e => [some (.ref 52), some (.int (nI h)), some (.int (nI (wsh A h e) - nI 1)), some (.int (nI e))]) (fun _ => σ) (A 0 0) ?_ k 0 (Nat.zero_le _)
    intro e he ih
    have c1 : nI e < σ.1 52 3 := by rw [R.2.1]; exact nlt he (by omega)
    have g := m_fits (d := d) R hh he
    have wl := wsh_le A h e
    have oe : vp_in (nI e) 8 := vin (by omega) (by decide)
    have ce : (nI e).toNatClampNeg = e := clamp (by omega)
    have w5 := (W.2.2.1 e he).2.2.2.2
    have es : wsh A h (e + 1) = if e + 1 ≠ A 11 h ∧ fitsA A h e = true ∧ (wsh A h e = 0 ∨ A 5 (wsh A h e - 1) < A 5 e) then e + 1 else wsh A h e := rfl
    rw [es] at ih
    by_cases q0 : e + 1 = A 11 h
    · rw [if_neg (fun z => z.1 q0)] at ih
      refine p_X10_nextOf_4_1 c1 o (by rw [hp, pl_eq (by omega) (by omega)]; exact q0) ?_
      rw [nplus]; exact ih
    · have n0 : ¬ nI e = σ.1 61 (nI h).toNatClampNeg := by rw [hp, pl_eq (by omega) (by omega)]; exact q0
      cases q1 : fitsA A h e with
      | false =>
        rw [q1] at g
        rw [if_neg (fun z => by rw [q1] at z; cases z.2.1)] at ih
        refine p_X10_nextOf_4_2 c1 o n0 g rfl ?_
        rw [nplus]; exact ih
      | true =>
        rw [q1] at g
        by_cases q2 : wsh A h e = 0
        · rw [if_pos ⟨q0, q1, Or.inl q2⟩] at ih
          have ee : nI (e + 1) - nI 1 = nI e := nI_pred e
          rw [ee] at ih
          refine p_X10_nextOf_4_3 c1 o n0 g (by decide) (by rw [q2]; decide) ?_
          rw [nplus]; exact ih
        · obtain ⟨z1, z2, z3⟩ := pl_z (p := wsh A h e) (by omega) q2
          have cw : (nI (wsh A h e - 1)).toNatClampNeg = wsh A h e - 1 := clamp (by omega)
          have ow : vp_in (nI (wsh A h e) - nI 1) 8 := by rw [z3]; exact vin (by omega) (by decide)
          have ww := (W.2.2.1 (wsh A h e - 1) (by omega)).2.2.2.2
          by_cases q3 : A 5 (wsh A h e - 1) < A 5 e
          · rw [if_pos ⟨q0, q1, Or.inr q3⟩] at ih
            have ee : nI (e + 1) - nI 1 = nI e := nI_pred e
            rw [ee] at ih
            refine p_X10_nextOf_4_4 c1 o n0 g (by decide) z2 ow oe ?_ ?_
            · rw [z3, cw, ce, (R.2.2.2.1 _ (by omega)).2.2.2, (R.2.2.2.1 e he).2.2.2]; exact nlt q3 (by omega)
            · rw [nplus]; exact ih
          · rw [if_neg (fun z => by omega)] at ih
            refine p_X10_nextOf_4_5 c1 o n0 g (by decide) z2 ow oe ?_ ?_
            · rw [z3, cw, ce, (R.2.2.2.1 _ (by omega)).2.2.2, (R.2.2.2.1 e he).2.2.2]; exact nI_nlt (by omega) (by omega)
            · rw [nplus]; exact ih
  have c1 : ¬ nI (A 0 0) < σ.1 52 3 := by rw [R.2.1]; exact nI_nlt (Nat.le_refl _) (by omega)
  refine p_X10_nextOf_0_1 (lp _ _ ?_)
  have wl := wsh_le A h (A 0 0)
  by_cases q1 : wsh A h (A 0 0) = 0
  · have e0 : rNx A h = 0 := by unfold rNx; rw [if_pos (Or.inl q1)]
    rw [e0]
    exact p_X10_nextOf_4_6 c1 (by rw [q1]; decide) rfl
  · obtain ⟨z1, z2, z3⟩ := pl_z (p := wsh A h (A 0 0)) (by omega) q1
    have g := m_onn (d := d) R (p := wsh A h (A 0 0)) (by omega)
    have on4 := onA_lt A (wsh A h (A 0 0)) b2
    by_cases q2 : onA A (wsh A h (A 0 0)) = 0
    · have e0 : rNx A h = 0 := by unfold rNx; rw [if_pos (Or.inr q2)]
      rw [e0]
      rw [q2] at g
      exact p_X10_nextOf_4_8 c1 z2 g rfl
    · have e0 : rNx A h = ntz (onA A (wsh A h (A 0 0))) + 1 := by unfold rNx; rw [if_neg (fun z => by omega)]
      have en : nI (ntz (onA A (wsh A h (A 0 0))) + 1) - nI 1 = nI (ntz (onA A (wsh A h (A 0 0)))) := nI_pred _
      rw [e0, en]
      exact p_X10_nextOf_4_9 c1 z2 g (nI_ne0 (by omega) (by omega)) (s_ntz (d := d) q2 on4)
/-- the least of a hinge's ring: 0 none -/
def lorF (A : TA) (h : Nat) : Nat → Nat → Nat → Nat
  | 0, _, _ => 0
  | n + 1, l, o => if rNx A o = h + 1 then l + 1 else if rNx A o = 0 then 0 else lorF A h n (min l (rNx A o - 1)) (rNx A o - 1)
def lor (A : TA) (h : Nat) : Nat := if A 11 h = 0 then 0 else lorF A h 12 h h
theorem s_leastOfRing (R : Rc A σ) {h : Nat} (hh : h < A 1 0) : hq_c 109 (d + 3) [.ref 5, .int (nI h)] σ (some (.int (nI (lor A h) - nI 1))) σ := by
  have W := R.1
  have b2 := W.2.1
  refine p_X8_leastOfRing_0_1 ?_
  have m1 : (-1 : Int32) = nI 0 - nI 1 := by decide
  by_cases q0 : A 11 h = 0
  · have e0 : lor A h = 0 := by unfold lor; rw [if_pos q0]
    rw [e0, ← m1]
    have g := s_nextInRing (d := d) R hh
    rw [if_pos q0] at g
    refine p_X8_leastOfRing_6_2 (by decide) g ?_ rfl
    intro z
    have : (-1 : Int32).toInt = (nI h).toInt := by rw [← z]
    rw [nI_toInt (by omega)] at this
    have e : (-1 : Int32).toInt = -1 := by decide
    omega
  · have e0 : lor A h = lorF A h 12 h h := by unfold lor; rw [if_neg q0]
    rw [e0]
    have lp : ∀ n k l o, n + k = 12 → l < A 1 0 → o < A 1 0 → A 11 o ≠ 0 → hq_m 109 (d + 3) (some (.int (nI (lorF A h n l o) - nI 1))) σ 6 [some (.ref 5), some (.int (nI h)), some (.int (nI l)), some (.int (nI o)), some (.int (nI k))] [] σ := by
      intro n
      induction n with
      | zero =>
        intro k l o hk _ _ _
        exact p_X8_leastOfRing_6_4 (nI_nlt (by omega) (by omega))
      | succ n ih =>
        intro k l o hk hl ho hpo
        have c1 : nI k < nI 12 := nlt (by omega) (by decide)
        have g := s_nextInRing (d := d) R ho
        rw [if_neg hpo] at g
        obtain ⟨r1, r2⟩ := rNx_le W o
        unfold lorF
        by_cases q1 : rNx A o = h + 1
        · rw [if_pos q1]
          have ee : nI (l + 1) - nI 1 = nI l := nI_pred l
          have e2 : nI (h + 1) - nI 1 = nI h := nI_pred h
          rw [ee]
          exact p_X8_leastOfRing_6_1 c1 g (by rw [q1, e2])
        · rw [if_neg q1]
          have n1 : ¬ nI (rNx A o) - nI 1 = nI h := fun z => q1 ((pl_eq (by omega) (by omega)).mp z.symm).symm
          by_cases q2 : rNx A o = 0
          · rw [if_pos q2, ← m1]
            exact p_X8_leastOfRing_6_2 c1 g n1 (by rw [q2]; decide)
          · rw [if_neg q2]
            obtain ⟨z1, z2, z3⟩ := pl_z (p := rNx A o) (by omega) q2
            refine p_X8_leastOfRing_6_3 c1 g n1 z1 ?_
            rw [z3, min_val (by omega) (by omega), nplus]
            exact ih (k + 1) _ _ (by omega) (by omega) (by omega) (r2 q2)
    exact lp 12 0 h h rfl hh hh q0
def rgM (A : TA) (m : Nat) : Nat := sbits (fun h => decide (lor A h ≠ 0)) m
def rgN (A : TA) (m : Nat) : Nat := psum (fun h => decide (lor A h = h + 1)) (fun _ => 1) m
def rgL (A : TA) : List Int64 := [(nI (rgM A (A 1 0))).toInt64, (nI (rgN A (A 1 0))).toInt64]
theorem lorF_le (W : Wf A) {h : Nat} : ∀ n l o, l < A 1 0 → lorF A h n l o ≤ A 1 0
  | 0, _, _, _ => Nat.zero_le _
  | n + 1, l, o, hl => by
    unfold lorF
    split
    · omega
    · split
      · exact Nat.zero_le _
      · exact lorF_le W n _ _ (by omega)
theorem lor_le (W : Wf A) {h : Nat} (hh : h < A 1 0) : lor A h ≤ A 1 0 := by
  unfold lor; split; exact Nat.zero_le _; exact lorF_le W _ _ _ hh
theorem rgM_lt (b2 : A 1 0 ≤ 12) : rgM A (A 1 0) < 4096 := Nat.lt_of_lt_of_le (sbits_lt _ _) (Nat.pow_le_pow_right (by decide) b2 : 2 ^ A 1 0 ≤ 2 ^ 12)
theorem s_rings (R : Rc A σ) : ∃ τ, hq_c 152 (d + 4) [.ref 0] σ (some (.int (nI (pop (rgM A (A 1 0)))))) τ ∧ cR (rgL A) τ ∧ Fr [(3, 2), (4, 0)] σ τ := by
  have W := R.1
  have b2 := W.2.1
  have lp : ∀ v τ, hq_m 152 (d + 4) v τ 6 [some (.ref 0), some (.int (nI (rgM A (A 1 0)))), some (.int (nI (rgN A (A 1 0)))), some (.int (nI (A 1 0))), none] [] σ → hq_m 152 (d + 4) v τ 6 [some (.ref 0), some (.int (nI 0)), some (.int (nI 0)), some (.int (nI 0)), none] [] σ := by
    intro v τ k
    refine hq_m.for (fun h => [some (.ref 0), some (.int (nI (rgM A h))), some (.int (nI (rgN A h))), some (.int (nI h)), none]) (fun _ => σ) (A 1 0) ?_ k 0 (Nat.zero_le _)
    intro h hh ih
    have c1 : nI h < σ.1 5 14 := by rw [R.2.2.1]; exact nlt hh (by omega)
    have g := s_leastOfRing (d := d) R hh
    have ll := lor_le W hh
    by_cases q0 : lor A h = 0
    · have e1 : rgM A (h + 1) = rgM A h := sbits_0 (by simp [q0])
      have e2 : rgN A (h + 1) = rgN A h := by simp [rgN, psum, q0]
      rw [e1, e2] at ih
      refine p_X9_rings_6_1 c1 g (by rw [q0]; decide) ?_
      rw [nplus]; exact ih
    · obtain ⟨z1, z2, z3⟩ := pl_z (p := lor A h) (by omega) q0
      have e1 : rgM A (h + 1) = rgM A h ||| 2 ^ h := sbits_1 (by simp [q0])
      by_cases q1 : lor A h = h + 1
      · have e2 : rgN A (h + 1) = rgN A h + 1 := by simp [rgN, psum, q1]
        rw [e1, e2] at ih
        refine p_X9_rings_6_2 c1 g z1 ((pl_eq (by omega) (by omega)).mpr q1.symm).symm ?_
        rw [hn_shl h (by omega), orr, nplus, nplus]; exact ih
      · have e2 : rgN A (h + 1) = rgN A h := by simp [rgN, psum, q1]
        rw [e1, e2] at ih
        refine p_X9_rings_6_3 c1 g z1 (fun z => q1 ((pl_eq (by omega) (by omega)).mp z.symm).symm) ?_
        rw [hn_shl h (by omega), orr, nplus, nplus, Nat.add_zero]; exact ih
  obtain ⟨σ1, a1, a2, a3⟩ := s_clear (d := d + 2) (σ := σ)
  obtain ⟨σ2, b1', b2', b3⟩ := s_add (d := d + 2) a2 (by decide) (nI (rgM A (A 1 0))).toInt64
  obtain ⟨σ3, c1', c2', c3⟩ := s_add (d := d + 2) b2' (by simp) (nI (rgN A (A 1 0))).toInt64
  exact ⟨σ3, p_X9_rings_0_1 (lp _ _ (p_X9_rings_6_4 (by rw [R.2.2.1]; exact nI_nlt (Nat.le_refl _) (by omega)) a1 b1' c1' (s_bitCount (d := d + 2) (rgM_lt b2)))), c2', (a3.tr b3).tr c3⟩
/-- the reference keeps the whole ring -/
def rgF (A : TA) (h : Nat) : Nat → Nat → Nat → Nat
  | 0, _, _ => 0
  | n + 1, s, o => if rNx A o = h + 1 then s ||| 2 ^ o else if rNx A o = 0 then 0 else rgF A h n (s ||| 2 ^ o) (rNx A o - 1)
theorem or_ne {s o : Nat} : s ||| 2 ^ o ≠ 0 := fun z => by
  have : (s ||| 2 ^ o).testBit o = true := by rw [Nat.testBit_or, Nat.testBit_two_pow_self]; simp
  rw [z] at this; simp at this
theorem rgF_lor (W : Wf A) {h : Nat} : ∀ n s l o, o < A 1 0 → s < 4096 → ntz (s ||| 2 ^ o) = l → rgF A h n s o < 4096 ∧ (rgF A h n s o = 0 → lorF A h n l o = 0) ∧ (rgF A h n s o ≠ 0 → lorF A h n l o = ntz (rgF A h n s o) + 1)
  | 0, s, l, o, _, _, _ => ⟨by show (0 : Nat) < 4096; omega, fun _ => rfl, fun z => absurd rfl z⟩
  | n + 1, s, l, o, ho, hs, hl => by
    have b2 := W.2.1
    have hlt : s ||| 2 ^ o < 4096 := Nat.or_lt_two_pow (n := 12) hs (Nat.pow_lt_pow_right (by decide) (by omega))
    obtain ⟨r1, r2⟩ := rNx_le W o
    unfold rgF lorF
    by_cases q1 : rNx A o = h + 1
    · rw [if_pos q1, if_pos q1]
      exact ⟨hlt, fun z => absurd z or_ne, fun _ => by rw [hl]⟩
    · rw [if_neg q1, if_neg q1]
      by_cases q2 : rNx A o = 0
      · rw [if_pos q2, if_pos q2]
        exact ⟨by omega, fun _ => rfl, fun z => absurd rfl z⟩
      · rw [if_neg q2, if_neg q2]
        refine rgF_lor W n _ _ _ (by omega) hlt ?_
        rw [ntz_or or_ne hlt (by omega), hl]
theorem m_rings (R : Rm 61 A σ) : ∃ τ, hq_c 274 (d + 4) [.ref 52] σ (some (.int (nI (pop (rgM A (A 1 0)))))) τ ∧ mR (rgL A) τ ∧ Fr [(52, 1), (52, 2), (53, 0)] σ τ := by
  have W := R.1
  have b1 := W.1
  have b2 := W.2.1
  have f0 : Fr [(52, 1)] σ (hq_sI σ 52 0 (nI 0)) := frth
  have R0 : Rm 61 A (hq_sI σ 52 0 (nI 0)) := Rm.depn.fr f0 (by decide) R
  have lp : ∀ v τ, hq_m 274 (d + 4) v τ 9 [some (.ref 52), some (.int (nI (rgM A (A 1 0)))), some (.int (nI (rgN A (A 1 0)))), some (.int (nI (A 1 0))), none, none, none, none] [] (hq_sI σ 52 0 (nI 0)) → hq_m 274 (d + 4) v τ 9 [some (.ref 52), some (.int (nI 0)), some (.int (nI 0)), some (.int (nI 0)), none, none, none, none] [] (hq_sI σ 52 0 (nI 0)) := by
    intro v τ k
    refine hq_m.for (fun h => [some (.ref 52), some (.int (nI (rgM A h))), some (.int (nI (rgN A h))), some (.int (nI h)), none, none, none, none]) (fun _ => hq_sI σ 52 0 (nI 0)) (A 1 0) ?_ k 0 (Nat.zero_le _)
    intro h hh ih
    have c1 : nI h < (hq_sI σ 52 0 (nI 0)).1 52 4 := by rw [R0.2.2.1]; exact nlt hh (by omega)
    have ch : (nI h).toNatClampNeg = h := clamp (by omega)
    have o : vp_in (nI h) 50 := vin (by omega) (by decide)
    have w7 := (W.2.2.2.1 h hh).2.2.2.2.2.2.1
    have hp : (hq_sI σ 52 0 (nI 0)).1 61 (nI h).toNatClampNeg = nI (A 11 h) - nI 1 := by rw [ch]; exact (R0.2.2.2.2.2.1 h hh).1
    by_cases q0 : A 11 h = 0
    · have hl : lor A h = 0 := by unfold lor; rw [if_pos q0]
      have e1 : rgM A (h + 1) = rgM A h := sbits_0 (by simp [hl])
      have e2 : rgN A (h + 1) = rgN A h := by simp [rgN, psum, hl]
      rw [e1, e2] at ih
      have np : (hq_sI σ 52 0 (nI 0)).1 61 (nI h).toNatClampNeg < 0 := by rw [hp]; exact (place_lt0 (by omega)).mpr q0
      refine p_X10_rings_9_1 c1 o np (p_X10_rings_28_1 (by decide) rfl o np ?_)
      rw [nplus]; exact ih
    · have np : ¬ (hq_sI σ 52 0 (nI 0)).1 61 (nI h).toNatClampNeg < 0 := by rw [hp]; exact (pl_z (by omega) q0).2.1
      have hl : lor A h = lorF A h 12 h h := by unfold lor; rw [if_neg q0]
      obtain ⟨y1, y2, y3⟩ := rgF_lor W (h := h) 12 0 h h hh (by decide) (by rw [Nat.zero_or]; exact ntz_two (by omega))
      -- what is done when it ends
      have good : ∀ kk s, kk ≤ 12 → s = rgF A h 12 0 h → s ≠ 0 → hq_m 274 (d + 4) v τ 28 [some (.ref 52), some (.int (nI (rgM A h))), some (.int (nI (rgN A h))), some (.int (nI h)), some (.int (nI h)), some (.int (nI s)), some (.int (nI 0)), some (.int (nI kk))] [] (hq_sI σ 52 0 (nI 0)) := by
        intro kk s hk hs hne
        have s12 : s < 4096 := by rw [hs]; exact y1
        have g := s_ntz (d := d + 2) (σ := hq_sI σ 52 0 (nI 0)) hne s12
        have nl := (ntz_ok hne s12).1
        have hl2 : lor A h = ntz s + 1 := by rw [hl, y3 (by rw [← hs]; exact hne), ← hs]
        have e1 : rgM A (h + 1) = rgM A h ||| 2 ^ h := sbits_1 (by simp [hl2])
        by_cases q1 : ntz s = h
        · have e2 : rgN A (h + 1) = rgN A h + 1 := by simp [rgN, psum, hl2, q1]
          rw [e1, e2] at ih
          by_cases qk : kk < 12
          · refine p_X10_rings_28_2 (nlt qk (by decide)) rfl o np rfl g (by rw [q1]) (m_flag true) ?_
            rw [hn_shl h (by omega), orr, show bI true = nI 1 from rfl, nplus, nplus]; exact ih
          · refine p_X10_rings_28_9 (nI_nlt (by omega) (by omega)) o np rfl g (by rw [q1]) (m_flag true) ?_
            rw [hn_shl h (by omega), orr, show bI true = nI 1 from rfl, nplus, nplus]; exact ih
        · have e2 : rgN A (h + 1) = rgN A h := by simp [rgN, psum, hl2, q1]
          rw [e1, e2] at ih
          have nq : ¬ nI (ntz s) = nI h := by rw [nI_eq (by omega) (by omega)]; exact q1
          by_cases qk : kk < 12
          · refine p_X10_rings_28_3 (nlt qk (by decide)) rfl o np rfl g nq (m_flag false) ?_
            rw [hn_shl h (by omega), orr, show bI false = nI 0 from rfl, nplus, nplus, Nat.add_zero]; exact ih
          · refine p_X10_rings_28_10 (nI_nlt (by omega) (by omega)) o np rfl g nq (m_flag false) ?_
            rw [hn_shl h (by omega), orr, show bI false = nI 0 from rfl, nplus, nplus, Nat.add_zero]; exact ih
      have bad : rgF A h 12 0 h = 0 → hq_m 274 (d + 4) v τ 9 [some (.ref 52), some (.int (nI (rgM A h))), some (.int (nI (rgN A h))), some (.int (nI h + nI 1)), none, none, none, none] [] (hq_sI σ 52 0 (nI 0)) := by
        intro hz
        have hl2 : lor A h = 0 := by rw [hl, y2 hz]
        have e1 : rgM A (h + 1) = rgM A h := sbits_0 (by simp [hl2])
        have e2 : rgN A (h + 1) = rgN A h := by simp [rgN, psum, hl2]
        rw [e1, e2] at ih
        rw [nplus]; exact ih
      have inner : ∀ n kk s o', n + kk = 12 → o' < A 1 0 → s < 4096 → (n < 12 → o' ≠ h) → rgF A h n s o' = rgF A h 12 0 h → hq_m 274 (d + 4) v τ 28 [some (.ref 52), some (.int (nI (rgM A h))), some (.int (nI (rgN A h))), some (.int (nI h)), some (.int (nI o')), some (.int (nI s)), some (.int (nI 1)), some (.int (nI kk))] [] (hq_sI σ 52 0 (nI 0)) := by
        intro n
        induction n with
        | zero =>
          intro kk s o' hk ho hs hne hf
          have nh := hne (by decide)
          refine p_X10_rings_28_11 (nI_nlt (by omega) (by omega)) o np (by rw [nI_eq (by omega) (by omega)]; exact nh) (bad hf.symm)
        | succ n ihn =>
          intro kk s o' hk ho hs hne hf
          have ck : nI kk < nI 12 := nlt (by omega) (by decide)
          have g := m_nextOf (d := d + 1) R0 ho
          obtain ⟨r1, r2⟩ := rNx_le W o'
          have hlt : s ||| 2 ^ o' < 4096 := Nat.or_lt_two_pow (n := 12) hs (Nat.pow_lt_pow_right (by decide) (by omega))
          unfold rgF at hf
          by_cases q1 : rNx A o' = h + 1
          · rw [if_pos q1] at hf
            have e2 : nI (h + 1) - nI 1 = nI h := nI_pred h
            rw [q1, e2] at g
            refine p_X10_rings_28_6 ck (by decide) g (by rw [ltz, nI_toInt (by omega)]; omega) rfl ?_
            rw [hn_shl o' (by omega), orr, nplus]
            exact good (kk + 1) _ (by omega) hf or_ne
          · rw [if_neg q1] at hf
            have n1 : ¬ nI (rNx A o') - nI 1 = nI h := fun z => q1 ((pl_eq (by omega) (by omega)).mp z.symm).symm
            by_cases q2 : rNx A o' = 0
            · rw [if_pos q2] at hf
              rw [q2] at g n1
              refine p_X10_rings_28_5 ck (by decide) g (by decide) ?_
              rw [hn_shl o' (by omega), orr, nplus]
              by_cases qk : kk + 1 < 12
              · exact p_X10_rings_28_4 (nlt qk (by decide)) rfl o np n1 (bad hf.symm)
              · exact p_X10_rings_28_11 (nI_nlt (by omega) (by omega)) o np n1 (bad hf.symm)
            · rw [if_neg q2] at hf
              obtain ⟨z1, z2, z3⟩ := pl_z (p := rNx A o') (by omega) q2
              refine p_X10_rings_28_7 ck (by decide) g z2 n1 ?_
              rw [hn_shl o' (by omega), orr, nplus, z3]
              exact ihn (kk + 1) _ _ (by omega) (by omega) hlt (fun _ z => q1 (by omega)) hf
      exact p_X10_rings_9_2 c1 o np (inner 12 0 0 h rfl hh (by decide) (fun z => by omega) rfl)
  have f1 : Fr [(52, 2), (53, 0)] (hq_sI σ 52 0 (nI 0)) (hq_sI (hq_sI σ 52 0 (nI 0)) 52 1 (nI 0)) := (Fr.rf _).sI rfl
  obtain ⟨σ3, d1, d2, d3⟩ := m_enters (d := d + 2) (mR.nil (σ := hq_sI σ 52 0 (nI 0))) (by decide) (nI (rgM A (A 1 0))).toInt64
  obtain ⟨σ4, e1, e2, e3⟩ := m_enters (d := d + 2) d2 (by simp) (nI (rgN A (A 1 0))).toInt64
  exact ⟨σ4, p_X10_rings_0_1 (lp _ _ (p_X10_rings_9_3 (by rw [R0.2.2.1]; exact nI_nlt (Nat.le_refl _) (by omega)) d1 e1 (s_bitCount (d := d + 2) (rgM_lt b2)))), e2, (f0.up (by decide)).tr ((f1.up (by decide)).tr ((d3.up (by decide)).tr (e3.up (by decide))))⟩
end TZ
