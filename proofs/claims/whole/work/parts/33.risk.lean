/-! risk -/
theorem half_mod {a b : Nat} (hr : 0 < a % b) (hb : 0 < b) : 2 * (b % (a % b)) < b := by
  have h1 : a % b < b := Nat.mod_lt _ hb
  have h2 : b % (a % b) < a % b := Nat.mod_lt _ hr
  have h3 : b % (a % b) + (a % b) * (b / (a % b)) = b := Nat.mod_add_div _ _
  have h4 : 1 ≤ b / (a % b) := (Nat.one_le_div_iff hr).mpr (by omega)
  have h5 : (a % b) * 1 ≤ (a % b) * (b / (a % b)) := Nat.mul_le_mul_left _ h4
  omega
section RK
variable {d : Nat} {σ : hq_St} {A : TA}
theorem gcd_stp (a b : Nat) : Nat.gcd b a = Nat.gcd (a % b) b := Nat.gcd_rec b a
theorem l0 {b : Nat} (hb : b < 2 ^ 62) : lg_cmp (lN b) (lN 0) = 0 ↔ b = 0 := by rw [lg_cmp_eq, pk_lEQ (by omega) (by decide)]
theorem ln0 {b : Nat} (hb : b < 2 ^ 62) (h : b ≠ 0) : ¬ lN b = 0 := fun z => h ((pk_lEQ (by omega) (by decide)).mp (z : lN b = lN 0))
theorem s_cdLoop : ∀ (k : Nat) {s a b : Nat}, b < 2 ^ k → k ≤ 62 → a < 2 ^ 62 → s + 2 * k < 200 → hq_m 162 (d + 1) (some (.long (lN (max 1 (Nat.gcd b a))))) σ 6 [none, none, none, none, some (.long (lN a)), none, some (.long (lN b)), none, some (.int (nI s)), none, none] [] σ := by
  have fin : ∀ {s a : Nat}, s < 200 → a < 2 ^ 62 → hq_m 162 (d + 1) (some (.long (lN (max 1 (Nat.gcd 0 a))))) σ 6 [none, none, none, none, some (.long (lN a)), none, some (.long (lN 0)), none, some (.int (nI s)), none, none] [] σ := by
    intro s a hs ha
    rw [Nat.gcd_zero_left]
    have := p_X9_commonDivisor_6_1 (d := d) (σ := σ) (l4 := lN a) (l6 := lN 0) (l8 := nI s) (nlt hs (by decide)) (by decide)
    have e : (if lN a < lN 1 then lN 1 else lN a) = lN (max 1 a) := by
      by_cases h : a < 1
      · rw [if_pos ((pk_lLT (by omega) (by decide)).mpr h), Nat.max_eq_left (by omega)]
      · rw [if_neg (fun z => h ((pk_lLT (by omega) (by decide)).mp z)), Nat.max_eq_right (by omega)]
    rw [e] at this
    exact this
  intro k
  induction k with
  | zero =>
    intro s a b hb _ ha hs
    have : b = 0 := by omega
    subst this
    exact fin (by omega) ha
  | succ k ih =>
    intro s a b hb hk ha hs
    have hp : (2 : Nat) ^ (k + 1) = 2 * 2 ^ k := by rw [Nat.pow_succ]; omega
    have hp2 : (2 : Nat) ^ (k + 1) ≤ 2 ^ 62 := Nat.pow_le_pow_right (by decide) hk
    by_cases q : b = 0
    · subst q; exact fin (by omega) ha
    · have hr : a % b < b := Nat.mod_lt _ (by omega)
      refine p_X9_commonDivisor_6_2 (nlt (by omega) (by decide)) (fun z => q ((l0 (by omega)).mp z)) (ln0 (by omega) q) ?_
      rw [pk_lRem (by omega) (by omega) (by omega), nplus, gcd_stp]
      by_cases q2 : a % b = 0
      · rw [q2]; exact fin (by omega) (by omega)
      · refine p_X9_commonDivisor_6_2 (nlt (by omega) (by decide)) (fun z => q2 ((l0 (by omega)).mp z)) (ln0 (by omega) q2) ?_
        have hh := half_mod (a := a) (b := b) (by omega) (by omega)
        rw [pk_lRem (by omega) (by omega) (by omega), nplus, gcd_stp]
        exact ih (by omega) (by omega) (by omega) (by omega)
theorem s_commonDivisor {a b : Nat} (ha : a < 2 ^ 62) (hb : b < 2 ^ 62) : hq_c 162 (d + 1) [.long (lN a), .long (lN b)] σ (some (.long (lN (max 1 (Nat.gcd b a))))) σ := p_X9_commonDivisor_0_1 (s_cdLoop 62 hb (Nat.le_refl _) ha (by decide))
theorem m_common : ∀ (k : Nat) {a b D : Nat}, b < 2 ^ k → k ≤ 62 → a < 2 ^ 62 → 2 * k + 1 ≤ D → hq_c 170 D [.long (lN a), .long (lN b)] σ (some (.long (lN (Nat.gcd b a)))) σ := by
  have fin : ∀ {a D : Nat}, 1 ≤ D → hq_c 170 D [.long (lN a), .long (lN 0)] σ (some (.long (lN (Nat.gcd 0 a)))) σ := by
    intro a D hD
    obtain ⟨D', rfl⟩ : ∃ D', D = D' + 1 := ⟨D - 1, by omega⟩
    rw [Nat.gcd_zero_left]
    exact p_X10_common_0_1 (by decide)
  intro k
  induction k with
  | zero =>
    intro a b D hb _ ha hD
    have : b = 0 := by omega
    subst this
    exact fin (by omega)
  | succ k ih =>
    intro a b D hb hk ha hD
    have hp : (2 : Nat) ^ (k + 1) = 2 * 2 ^ k := by rw [Nat.pow_succ]; omega
    have hp2 : (2 : Nat) ^ (k + 1) ≤ 2 ^ 62 := Nat.pow_le_pow_right (by decide) hk
    by_cases q : b = 0
    · subst q; exact fin (by omega)
    · obtain ⟨D', rfl⟩ : ∃ D', D = D' + 1 + 1 := ⟨D - 2, by omega⟩
      have hr : a % b < b := Nat.mod_lt _ (by omega)
      refine p_X10_common_0_2 (fun z => q ((l0 (by omega)).mp z)) (ln0 (by omega) q) ?_
      rw [pk_lRem (by omega) (by omega) (by omega), gcd_stp]
      by_cases q2 : a % b = 0
      · rw [q2]; exact fin (by omega)
      · refine p_X10_common_0_2 (fun z => q2 ((l0 (by omega)).mp z)) (ln0 (by omega) q2) ?_
        have hh := half_mod (a := a) (b := b) (by omega) (by omega)
        rw [pk_lRem (by omega) (by omega) (by omega), gcd_stp]
        exact ih (by omega) (by omega) (by omega) (by omega)
def rkP (A : TA) (g h : Nat) : Bool := decide (A 11 h ≠ 0) && !(shut0 A).testBit (A 11 h - 1) && decide (h0 A h + 1 < g)
def rkU (A : TA) (g : Nat) : Nat → Nat
  | 0 => 1
  | h + 1 => if rkP A g h then rkU A g h * (h0 A h + 1) else rkU A g h
def rkD (A : TA) (g : Nat) : Nat → Nat
  | 0 => 1
  | h + 1 => if rkP A g h then rkD A g h * g else rkD A g h
theorem rkU_le (W : Wf A) (g : Nat) : ∀ m, m ≤ A 1 0 → 1 ≤ rkU A g m ∧ rkU A g m ≤ 19 ^ m
  | 0, _ => ⟨Nat.le_refl _, Nat.le_refl _⟩
  | m + 1, hm => by
    have ih := rkU_le W g m (by omega)
    have hl := h0_le W m (by omega)
    unfold rkU
    rw [Nat.pow_succ]
    split
    · exact ⟨Nat.mul_pos ih.1 (by omega), Nat.mul_le_mul ih.2 (by omega)⟩
    · exact ⟨ih.1, Nat.le_trans ih.2 (Nat.le_mul_of_pos_right _ (by decide))⟩
theorem rkD_le {g : Nat} (hg1 : 1 ≤ g) (hg2 : g ≤ 19) : ∀ m, 1 ≤ rkD A g m ∧ rkD A g m ≤ 19 ^ m
  | 0 => ⟨Nat.le_refl _, Nat.le_refl _⟩
  | m + 1 => by
    have ih := rkD_le hg1 hg2 m
    unfold rkD
    rw [Nat.pow_succ]
    split
    · exact ⟨Nat.mul_pos ih.1 (by omega), Nat.mul_le_mul ih.2 (by omega)⟩
    · exact ⟨ih.1, Nat.le_trans ih.2 (Nat.le_mul_of_pos_right _ (by decide))⟩
theorem p19 {m : Nat} (h : m ≤ 12) : 19 ^ m ≤ 2213314919066161 := (Nat.pow_le_pow_right (by decide) h : 19 ^ m ≤ 19 ^ 12)
def rkL (A : TA) (g : Nat) : List Int64 := [lN (rkU A g (A 1 0) / Nat.gcd (rkD A g (A 1 0)) (rkU A g (A 1 0))), lN (rkD A g (A 1 0) / Nat.gcd (rkD A g (A 1 0)) (rkU A g (A 1 0)))]
theorem s_risk (R : Rc A σ) {g : Nat} (hg1 : 1 ≤ g) (hg2 : g ≤ 19) : ∃ τ, hq_c 143 (d + 5) [.ref 0, .int (nI g)] σ (some (.int (nI (fallA A g (A 1 0))))) τ ∧ cR (rkL A g) τ ∧ Fr [(3, 2), (4, 0)] σ τ := by
  have W := R.1
  have b2 := W.2.1
  have lp : ∀ v τ, hq_m 143 (d + 5) v τ 20 [some (.ref 0), some (.int (nI g)), some (.int (nI (looseA A))), some (.int (nI (fallA A g (A 1 0)))), some (.long (lN (rkU A g (A 1 0)))), none, some (.long (lN (rkD A g (A 1 0)))), none, some (.int (nI (A 1 0))), none] [] σ → hq_m 143 (d + 5) v τ 20 [some (.ref 0), some (.int (nI g)), some (.int (nI (looseA A))), some (.int (nI 0)), some (.long (lN 1)), none, some (.long (lN 1)), none, some (.int (nI 0)), none] [] σ := by
    intro v τ k
    refine hq_m.for (fun j => [some (.ref 0), some (.int (nI g)), some (.int (nI (looseA A))), some (.int (nI (fallA A g j))), some (.long (lN (rkU A g j))), none, some (.long (lN (rkD A g j))), none, some (.int (nI j)), none]) (fun _ => σ) (A 1 0) ?_ k 0 (Nat.zero_le _)
    intro j hj ih
    have c1 : nI j < σ.1 5 14 := by rw [R.2.2.1]; exact nlt hj (by omega)
    have hl := h0_le W j hj
    have lt := loose_test W hj
    have gh : hq_c 86 (d + 4) [.ref 5, .int (nI j)] σ (some (.int (nI (h0 A j)))) σ := s_hold (d := d + 2) R hj
    cases hb : (looseA A).testBit j with
    | false =>
      rw [hb] at lt
      have hp : rkP A g j = false := by unfold rkP; rw [← lt]; rfl
      have e1 : fallA A g (j + 1) = fallA A g j := sbits_0 (p := fun h => rkP A g h) hp
      have e2 : rkU A g (j + 1) = rkU A g j := by simp [rkU, hp]
      have e3 : rkD A g (j + 1) = rkD A g j := by simp [rkD, hp]
      rw [e1, e2, e3] at ih
      refine p_X9_risk_20_1 c1 (hn_bit0 (by omega) hb) ?_
      rw [nplus]; exact ih
    | true =>
      rw [hb] at lt
      by_cases q : h0 A j + 1 < g
      · have hp : rkP A g j = true := by unfold rkP; rw [← lt]; simp [q]
        have e1 : fallA A g (j + 1) = fallA A g j ||| 2 ^ j := sbits_1 (p := fun h => rkP A g h) hp
        have e2 : rkU A g (j + 1) = rkU A g j * (h0 A j + 1) := by simp [rkU, hp]
        have e3 : rkD A g (j + 1) = rkD A g j * g := by simp [rkD, hp]
        rw [e1, e2, e3] at ih
        refine p_X9_risk_20_2 c1 (hn_bit1 (by omega) hb) gh (by rw [nplus]; exact nlt q (by omega)) gh ?_
        rw [nplus, nI_l (by omega), lN_mul, nI_l (by omega), lN_mul, hn_shl j (by omega), orr, nplus]
        exact ih
      · have hp : rkP A g j = false := by unfold rkP; simp [q]
        have e1 : fallA A g (j + 1) = fallA A g j := sbits_0 (p := fun h => rkP A g h) hp
        have e2 : rkU A g (j + 1) = rkU A g j := by simp [rkU, hp]
        have e3 : rkD A g (j + 1) = rkD A g j := by simp [rkD, hp]
        rw [e1, e2, e3] at ih
        refine p_X9_risk_20_3 c1 (hn_bit1 (by omega) hb) gh (by rw [nplus]; exact nI_nlt (by omega) (by omega)) ?_
        rw [nplus]; exact ih
  have u1 := rkU_le W g (A 1 0) (Nat.le_refl _)
  have d1 := rkD_le (A := A) hg1 hg2 (A 1 0)
  have p1 := p19 b2
  have gp : 0 < Nat.gcd (rkD A g (A 1 0)) (rkU A g (A 1 0)) := Nat.gcd_pos_of_pos_left _ d1.1
  have gl : Nat.gcd (rkD A g (A 1 0)) (rkU A g (A 1 0)) ≤ rkD A g (A 1 0) := Nat.gcd_le_left _ d1.1
  have gc := s_commonDivisor (d := d + 3) (σ := σ) (a := rkU A g (A 1 0)) (b := rkD A g (A 1 0)) (by omega) (by omega)
  rw [Nat.max_eq_right gp] at gc
  have n0 : ¬ lN (Nat.gcd (rkD A g (A 1 0)) (rkU A g (A 1 0))) = 0 := ln0 (by omega) (by omega)
  obtain ⟨σ1, a1, a2, a3⟩ := s_clear (d := d + 3) (σ := σ)
  obtain ⟨σ2, b1', b2', b3⟩ := s_add (d := d + 3) a2 (by decide) (lN (rkU A g (A 1 0) / Nat.gcd (rkD A g (A 1 0)) (rkU A g (A 1 0))))
  obtain ⟨σ3, c1', c2', c3⟩ := s_add (d := d + 3) b2' (by simp) (lN (rkD A g (A 1 0) / Nat.gcd (rkD A g (A 1 0)) (rkU A g (A 1 0))))
  refine ⟨σ3, p_X9_risk_0_3 (nI_nlt hg1 (by omega)) (nI_nlt hg2 (by omega)) (s_looseHinges (d := d) R) (lp _ _ ?_), c2', (a3.tr b3).tr c3⟩
  refine p_X9_risk_20_4 (ρ3 := σ2) (by rw [R.2.2.1]; exact nI_nlt (Nat.le_refl _) (by omega)) gc a1 n0 ?_ n0 ?_
  · rw [pk_lDiv (by omega) gp (by omega)]; exact b1'
  · rw [pk_lDiv (by omega) gp (by omega)]; exact c1'
theorem red_step {U D a b : Nat} (hU : 0 < U) (hD : 0 < D) : (U / Nat.gcd D U * a) / Nat.gcd (D / Nat.gcd D U * b) (U / Nat.gcd D U * a) = U * a / Nat.gcd (D * b) (U * a) ∧ (D / Nat.gcd D U * b) / Nat.gcd (D / Nat.gcd D U * b) (U / Nat.gcd D U * a) = D * b / Nat.gcd (D * b) (U * a) := by
  have gp : 0 < Nat.gcd D U := Nat.gcd_pos_of_pos_left _ hD
  have eU : Nat.gcd D U * (U / Nat.gcd D U) = U := Nat.mul_div_cancel' (Nat.gcd_dvd_right D U)
  have eD : Nat.gcd D U * (D / Nat.gcd D U) = D := Nat.mul_div_cancel' (Nat.gcd_dvd_left D U)
  generalize Nat.gcd D U = c at *
  generalize U / c = u at *
  generalize D / c = e at *
  subst eU eD
  rw [Nat.mul_assoc, Nat.mul_assoc, Nat.gcd_mul_left, Nat.mul_div_mul_left _ _ gp, Nat.mul_div_mul_left _ _ gp]
  exact ⟨rfl, rfl⟩
theorem m_risk (R : Rm 61 A σ) {g : Nat} (hg1 : 1 ≤ g) (hg2 : g ≤ 19) : ∃ τ, hq_c 260 (d + 130) [.ref 52, .int (nI g)] σ (some (.int (nI (fallA A g (A 1 0))))) τ ∧ mR (rkL A g) τ ∧ Fr [(52, 1), (52, 2), (53, 0)] σ τ := by
  have W := R.1
  have b2 := W.2.1
  have f0 : Fr [(52, 1)] σ (hq_sI σ 52 0 (nI 0)) := frth
  have R0 : Rm 61 A (hq_sI σ 52 0 (nI 0)) := Rm.depn.fr f0 (by decide) R
  have gi := m_inb (d := d + 128) (σ := hq_sI σ 52 0 (nI 0)) (nI g) (a := 1) (b := 19) (by decide) (by decide)
  have hi : inb (nI g) 1 19 = true := by unfold inb; rw [nI_toInt (by omega)]; simp; omega
  rw [hi] at gi
  have hfl := fallA_lt (A := A) b2 g
  have p1 := p19 b2
  have lp : ∀ v τ, hq_m 260 (d + 130) v τ 21 [some (.ref 52), some (.int (nI g)), some (.int (nI (fallA A g (A 1 0)))), some (.long (lN (rkU A g (A 1 0) / Nat.gcd (rkD A g (A 1 0)) (rkU A g (A 1 0))))), none, some (.long (lN (rkD A g (A 1 0) / Nat.gcd (rkD A g (A 1 0)) (rkU A g (A 1 0))))), none, some (.int (nI (A 1 0))), none, none] [] (hq_sI σ 52 0 (nI 0)) → hq_m 260 (d + 130) v τ 21 [some (.ref 52), some (.int (nI g)), some (.int (nI (fallA A g (A 1 0)))), some (.long (lN 1)), none, some (.long (lN 1)), none, some (.int (nI 0)), none, none] [] (hq_sI σ 52 0 (nI 0)) := by
    intro v τ k
    have e00 : rkU A g 0 / Nat.gcd (rkD A g 0) (rkU A g 0) = 1 := by simp [rkU, rkD]
    have e01 : rkD A g 0 / Nat.gcd (rkD A g 0) (rkU A g 0) = 1 := by simp [rkU, rkD]
    suffices hz : hq_m 260 (d + 130) v τ 21 [some (.ref 52), some (.int (nI g)), some (.int (nI (fallA A g (A 1 0)))), some (.long (lN (rkU A g 0 / Nat.gcd (rkD A g 0) (rkU A g 0)))), none, some (.long (lN (rkD A g 0 / Nat.gcd (rkD A g 0) (rkU A g 0)))), none, some (.int (nI 0)), none, none] [] (hq_sI σ 52 0 (nI 0)) by
      rw [e00, e01] at hz
      exact hz
    refine hq_m.for (fun j => [some (.ref 52), some (.int (nI g)), some (.int (nI (fallA A g (A 1 0)))), some (.long (lN (rkU A g j / Nat.gcd (rkD A g j) (rkU A g j)))), none, some (.long (lN (rkD A g j / Nat.gcd (rkD A g j) (rkU A g j)))), none, some (.int (nI j)), none, none]) (fun _ => hq_sI σ 52 0 (nI 0)) (A 1 0) ?_ k 0 (Nat.zero_le _)
    intro j hj ih
    have c1 : nI j < (hq_sI σ 52 0 (nI 0)).1 52 4 := by rw [R0.2.2.1]; exact nlt hj (by omega)
    have hl := h0_le W j hj
    have gb := m_hasN (d := d + 128) (σ := hq_sI σ 52 0 (nI 0)) (n := fallA A g (A 1 0)) (k := j) (by omega) (by omega)
    have hbp : (fallA A g (A 1 0)).testBit j = rkP A g j := by
      have : (fallA A g (A 1 0)).testBit j = (decide (j < A 1 0) && rkP A g j) := sbits_test _ _ _
      rw [this, decide_eq_true hj]; rfl
    rw [hbp] at gb
    cases hp : rkP A g j with
    | false =>
      rw [hp] at gb
      have e2 : rkU A g (j + 1) = rkU A g j := by simp [rkU, hp]
      have e3 : rkD A g (j + 1) = rkD A g j := by simp [rkD, hp]
      rw [e2, e3] at ih
      refine p_X10_risk_21_1 c1 gb rfl ?_
      rw [nplus]; exact ih
    | true =>
      rw [hp] at gb
      have e2 : rkU A g (j + 1) = rkU A g j * (h0 A j + 1) := by simp [rkU, hp]
      have e3 : rkD A g (j + 1) = rkD A g j * g := by simp [rkD, hp]
      have u1 := rkU_le W g j (by omega)
      have d1 := rkD_le (A := A) hg1 hg2 j
      have u2 := rkU_le W g (j + 1) (by omega)
      have d2 := rkD_le (A := A) hg1 hg2 (j + 1)
      have p2 := p19 (m := j + 1) (by omega)
      rw [e2] at u2
      rw [e3] at d2
      rw [e2, e3] at ih
      obtain ⟨r1, r2⟩ := red_step (U := rkU A g j) (D := rkD A g j) (a := h0 A j + 1) (b := g) u1.1 d1.1
      rw [← r1, ← r2] at ih
      have gp0 : 0 < Nat.gcd (rkD A g j) (rkU A g j) := Nat.gcd_pos_of_pos_left _ d1.1
      have ul : rkU A g j / Nat.gcd (rkD A g j) (rkU A g j) ≤ rkU A g j := Nat.div_le_self _ _
      have dl : rkD A g j / Nat.gcd (rkD A g j) (rkU A g j) ≤ rkD A g j := Nat.div_le_self _ _
      have dp : 0 < rkD A g j / Nat.gcd (rkD A g j) (rkU A g j) := Nat.div_pos (Nat.gcd_le_left _ d1.1) gp0
      generalize hu : rkU A g j / Nat.gcd (rkD A g j) (rkU A g j) = u at *
      generalize hd : rkD A g j / Nat.gcd (rkD A g j) (rkU A g j) = e at *
      have ul2 : u * (h0 A j + 1) ≤ rkU A g j * (h0 A j + 1) := Nat.mul_le_mul_right _ ul
      have dl2 : e * g ≤ rkD A g j * g := Nat.mul_le_mul_right _ dl
      have dp2 : 0 < e * g := Nat.mul_pos dp (by omega)
      have gp : 0 < Nat.gcd (e * g) (u * (h0 A j + 1)) := Nat.gcd_pos_of_pos_left _ dp2
      have gl : Nat.gcd (e * g) (u * (h0 A j + 1)) ≤ e * g := Nat.gcd_le_left _ dp2
      have n0 : ¬ lN (Nat.gcd (e * g) (u * (h0 A j + 1))) = 0 := ln0 (by omega) (by omega)
      have gc := m_common (σ := hq_sI σ 52 0 (nI 0)) 62 (a := u * (h0 A j + 1)) (b := e * g) (D := d + 129) (by omega) (Nat.le_refl _) (by omega) (by omega)
      have em1 : lN u * (nI (h0 A j) + nI 1).toInt64 = lN (u * (h0 A j + 1)) := by rw [nplus, nI_l (by omega), lN_mul]
      have em2 : lN e * (nI g).toInt64 = lN (e * g) := by rw [nI_l (by omega), lN_mul]
      refine p_X10_risk_21_2 c1 gb (by decide) (m_holdOfn (d := d + 128) R0 hj) (by rw [em1, em2]; exact gc) n0 n0 ?_
      rw [em1, em2, pk_lDiv (by omega) gp (by omega), pk_lDiv (by omega) gp (by omega), nplus]
      exact ih
  have f1 : Fr [(52, 2), (53, 0)] (hq_sI σ 52 0 (nI 0)) (hq_sI (hq_sI σ 52 0 (nI 0)) 52 1 (nI 0)) := (Fr.rf _).sI rfl
  obtain ⟨σ3, d1, d2, d3⟩ := m_enters (d := d + 128) (mR.nil (σ := hq_sI σ 52 0 (nI 0))) (by decide) (lN (rkU A g (A 1 0) / Nat.gcd (rkD A g (A 1 0)) (rkU A g (A 1 0))))
  obtain ⟨σ4, e1, e2, e3⟩ := m_enters (d := d + 128) d2 (by simp) (lN (rkD A g (A 1 0) / Nat.gcd (rkD A g (A 1 0)) (rkU A g (A 1 0))))
  exact ⟨σ4, p_X10_risk_0_2 gi (by decide) (m_canFall (d := d + 123) R0 hg1 hg2) (lp _ _ (p_X10_risk_21_3 (by rw [R0.2.2.1]; exact nI_nlt (Nat.le_refl _) (by omega)) d1 e1)), e2, (f0.up (by decide)).tr ((f1.up (by decide)).tr ((d3.up (by decide)).tr (e3.up (by decide))))⟩
end RK
