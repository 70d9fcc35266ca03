/-! behind -/
def bhT (A : TA) (y : Int32) (G : List Nat) (e c n : Nat) (S : Nat × Nat) : Nat × Nat := if canA A n e = true ∧ crk A y G e n = c then (S.1 + 1, if S.2 = 0 then n else S.2) else S
def bhS (A : TA) (y : Int32) (G : List Nat) (e c : Nat) : Nat → Nat × Nat
  | 0 => (0, 0)
  | n + 1 => if 1 ≤ n ∧ pop n ≤ 2 then bhT A y G e c n (bhS A y G e c n) else bhS A y G e c n
def frs (l : Nat) : Int32 := if l = 0 then -1 else nI l
theorem frs_eq {l : Nat} (h : l < 4096) : frs l = -1 ↔ l = 0 := by
  unfold frs
  by_cases q : l = 0
  · rw [if_pos q]; simp [q]
  · rw [if_neg q]
    constructor
    · intro z
      rw [fa_eq, nI_toInt (by omega)] at z
      have : (-1 : Int32).toInt = -1 := rfl
      omega
    · intro z; exact absurd z q
theorem frs_lt {l : Nat} (h : l < 4096) : frs l < 0 ↔ l = 0 := by
  unfold frs
  by_cases q : l = 0
  · rw [if_pos q]; simp [q]
  · rw [if_neg q, ltz, nI_toInt (by omega)]
    omega
theorem bhT_2 {A : TA} {y : Int32} {G : List Nat} {e c n : Nat} {S : Nat × Nat} {b : Nat} (h : S.1 ≤ b ∧ S.2 ≤ b) (hn : n ≤ b) : (bhT A y G e c n S).1 ≤ b + 1 ∧ (bhT A y G e c n S).2 ≤ b := by
  unfold bhT
  split
  · dsimp only
    refine ⟨by omega, ?_⟩
    split <;> omega
  · omega
theorem bhS_le {A : TA} {y : Int32} {G : List Nat} {e c : Nat} : ∀ n, (bhS A y G e c n).1 ≤ n ∧ (bhS A y G e c n).2 ≤ n
  | 0 => ⟨Nat.le_refl _, Nat.le_refl _⟩
  | n + 1 => by
    have ih := bhS_le (A := A) (y := y) (G := G) (e := e) (c := c) n
    have := bhT_2 (A := A) (y := y) (G := G) (e := e) (c := c) ih (Nat.le_refl n)
    unfold bhS
    split <;> omega
theorem bhS_gap {A : TA} {y : Int32} {G : List Nat} {e c a : Nat} : ∀ k, (∀ n, a ≤ n → n < a + k → ¬ (1 ≤ n ∧ pop n ≤ 2)) → bhS A y G e c (a + k) = bhS A y G e c a
  | 0, _ => rfl
  | k + 1, h => by
    have e1 : bhS A y G e c (a + (k + 1)) = if 1 ≤ a + k ∧ pop (a + k) ≤ 2 then bhT A y G e c (a + k) (bhS A y G e c (a + k)) else bhS A y G e c (a + k) := rfl
    rw [e1, if_neg (h (a + k) (by omega) (by omega))]
    exact bhS_gap k (fun n h1 h2 => h n h1 (by omega))
def loB : Nat → Nat
  | 0 => 0
  | i + 1 => 2 ^ i
theorem pop_big0 : ∀ i, i < 12 → ∀ a, a < 64 → ∀ b, b < 64 → 2 ^ i < 64 * a + b → 64 * a + b < 2 ^ (i + 1) → 2 ≤ pop (64 * a + b) := by decide +kernel
theorem pop_big (i : Nat) (hi : i < 12) (m : Nat) (hm : m < 4096) (h1 : 2 ^ i < m) (h2 : m < 2 ^ (i + 1)) : 2 ≤ pop m := by
  have e : 64 * (m / 64) + m % 64 = m := by omega
  have := pop_big0 i hi (m / 64) (by omega) (m % 64) (by omega)
  rw [e] at this
  exact this h1 h2
theorem pop_lo : ∀ j, j < 12 → ∀ i, i < 13 → i ≤ j → pop (2 ^ j + loB i) ≤ 2 ∧ 2 ^ j + loB i < 4096 ∧ 2 ^ j ||| loB i = 2 ^ j + loB i := by decide +kernel
theorem loB_lt : ∀ j, j < 12 → ∀ i, i < 13 → i ≤ j → loB i < loB (i + 1) ∧ loB (i + 1) ≤ 2 ^ j := by decide +kernel
theorem pow_split {j : Nat} (hj : j < 12) {m : Nat} (hm : m < 2 ^ j) : pop (2 ^ j + m) = pop m + 1 := by
  have h1 := Nat.two_pow_add_eq_or_of_lt hm 1
  rw [Nat.mul_one] at h1
  rw [h1, Nat.or_comm]
  exact pop_or hj (Nat.testBit_lt_two_pow hm)
theorem bh_step {A : TA} {y : Int32} {G : List Nat} {e c j i : Nat} (hj : j < 12) (hi : i ≤ j) : bhS A y G e c (2 ^ j + loB (i + 1)) = bhT A y G e c (2 ^ j + loB i) (bhS A y G e c (2 ^ j + loB i)) := by
  obtain ⟨l1, l2⟩ := loB_lt j hj i (by omega) hi
  obtain ⟨p1, p2, p3⟩ := pop_lo j hj i (by omega) hi
  have h2 : 0 < 2 ^ j := Nat.two_pow_pos j
  have h12 : 2 ^ j ≤ 2 ^ 11 := Nat.pow_le_pow_right (by decide) (by omega)
  have e1 : bhS A y G e c (2 ^ j + loB i + 1) = bhT A y G e c (2 ^ j + loB i) (bhS A y G e c (2 ^ j + loB i)) := by
    show (if _ then _ else _) = _
    rw [if_pos ⟨by omega, p1⟩]
  rw [← e1]
  have := bhS_gap (A := A) (y := y) (G := G) (e := e) (c := c) (a := 2 ^ j + loB i + 1) (loB (i + 1) - loB i - 1) (fun n n1 n2 z => by
    cases i with
    | zero =>
      have a1 : loB (0 + 1) = 1 := rfl
      have a2 : loB 0 = 0 := rfl
      rw [a1, a2] at n2
      rw [a2] at n1
      omega
    | succ i =>
      have a1 : loB (i + 1) = 2 ^ i := rfl
      have a2 : loB (i + 1 + 1) = 2 ^ (i + 1) := rfl
      have hb := pop_big i (by omega) (n - 2 ^ j) (by omega) (by omega) (by omega)
      have := pow_split hj (m := n - 2 ^ j) (by omega)
      rw [Nat.add_sub_cancel' (by omega)] at this
      omega)
  rw [show 2 ^ j + loB i + 1 + (loB (i + 1) - loB i - 1) = 2 ^ j + loB (i + 1) by omega] at this
  exact this
def behR (A : TA) (y : Int32) (G : List Nat) (x c : Int32) : Int32 := if inr x (A 0 0) then (if inb c 0 198 then (if onA A (x.toNatClampNeg + 1) = 0 then nI (bhS A y G x.toNatClampNeg c.toNatClampNeg (2 ^ A 1 0)).1 else -2) else -1) else -1
def behL (A : TA) (y : Int32) (G : List Nat) (x c : Int32) (L : List Int64) : List Int64 := if inr x (A 0 0) = true ∧ inb c 0 198 = true ∧ onA A (x.toNatClampNeg + 1) = 0 then [(frs (bhS A y G x.toNatClampNeg c.toNatClampNeg (2 ^ A 1 0)).2).toInt64] else L
section BH
variable {d : Nat} {σ : hq_St} {A : TA}
theorem s_behind (R : Rc A σ) {y : Int32} (hy : σ.1 5 16 = y) {G : List Nat} (hG : cU G σ) {L : List Int64} (hL : cR L σ) (x c : Int32) : ∃ τ, hq_c 150 (d + 5) [.ref 0, .int x, .int c] σ (some (.int (behR A y G x c))) τ ∧ cR (behL A y G x c L) τ ∧ Fr [(3, 2), (4, 0), (27, 0)] σ τ := by
  have W := R.1
  have b1 := W.1
  have b2 := W.2.1
  have g1 := s_isDoor (d := d + 3) R x
  have g2 := s_isCreak (d := d + 3) (σ := σ) c
  unfold behR behL
  cases hx : inr x (A 0 0) with
  | false =>
    rw [hx] at g1
    refine ⟨σ, p_X9_behind_0_1 g1 rfl, ?_, Fr.rf σ⟩
    rw [if_neg (fun z => by cases z.1)]; exact hL
  | true =>
    rw [hx] at g1
    cases hc : inb c 0 198 with
    | false =>
      rw [hc] at g2
      refine ⟨σ, p_X9_behind_0_2 g1 (by decide) g2 rfl, ?_, Fr.rf σ⟩
      rw [if_neg (fun z => by cases z.2.1)]; exact hL
    | true =>
      rw [hc] at g2
      obtain ⟨e, he, rfl⟩ := inr_of hx
      obtain ⟨c, -, hc2, rfl⟩ := inb_of hc
      have ce : (nI e).toNatClampNeg = e := clamp (by omega)
      have cc : (nI c).toNatClampNeg = c := clamp (by omega)
      have o : vp_in (nI e) 8 := vin (by omega) (by decide)
      have h11 := (R.2.2.2.1 e he).2.2.2.2.2
      have ol := onA_lt A (e + 1) b2
      rw [ce, cc, if_pos rfl, if_pos rfl]
      by_cases q : onA A (e + 1) = 0
      · rw [if_pos q, if_pos ⟨rfl, rfl, q⟩]
        have h12 : 2 ^ A 1 0 ≤ 2 ^ 12 := Nat.pow_le_pow_right (by decide) b2
        obtain ⟨σ1, w, fr⟩ := hq_w.for (x := 150) (d := d + 5) (i := 24) (fun j => [some (.ref 0), some (.int (nI e)), some (.int (nI c)), some (.int (nI (bhS A y G e c (2 ^ j)).1)), some (.int (frs (bhS A y G e c (2 ^ j)).2)), some (.int (nI j)), none, none]) (fun _ ρ => Fr [(27, 0)] σ ρ) (A 1 0) (fun j hj ρ fr0 => by
          obtain ⟨ρ', w2, fr2⟩ := hq_w.for (x := 150) (d := d + 5) (i := 31) (fun i => [some (.ref 0), some (.int (nI e)), some (.int (nI c)), some (.int (nI (bhS A y G e c (2 ^ j + loB i)).1)), some (.int (frs (bhS A y G e c (2 ^ j + loB i)).2)), some (.int (nI j)), some (.int (nI i - nI 1)), none]) (fun _ ρ => Fr [(27, 0)] σ ρ) (j + 1) (fun i hi ρ fr => by
            have R1 := Rc.dep.fr fr (by decide) R
            have hG1 := cU.dep.fr fr (by decide) hG
            have hy1 : ρ.1 5 16 = y := (fr.i rfl).trans hy
            obtain ⟨p1, p2, p3⟩ := pop_lo j (by omega) i (by omega) (by omega)
            have sl := bhS_le (A := A) (y := y) (G := G) (e := e) (c := c) (2 ^ j + loB i)
            have g3 := s_canHang (d := d + 2) R1 (n := 2 ^ j + loB i) he
            obtain ⟨ρ2, g4, f4⟩ := s_creakOf (d := d) R1 hy1 hG1 (n := 2 ^ j + loB i) he p2
            have kl := crk_le (A := A) W (y := y) (G := G) (e := e) (n := 2 ^ j + loB i)
            have pl : nI i - nI 1 + nI 1 = nI (i + 1) - nI 1 := by rw [nI_dec1, Int32.sub_add_cancel]
            have c1 : nI i - nI 1 < nI j := by
              cases i with
              | zero =>
                show (-1 : Int32) < nI j
                rw [lt_nI (by omega)]
                show (-1 : Int) < _
                omega
              | succ i => rw [nI_dec1]; exact nlt (by omega) (by omega)
            have st := bh_step (A := A) (y := y) (G := G) (e := e) (c := c) (j := j) (i := i) (by omega) (by omega)
            have es : (if i = 0 then (nI 1 <<< (nI j &&& 31)) ||| nI 0 else (nI 1 <<< (nI j &&& 31)) ||| (nI 1 <<< ((nI i - nI 1) &&& 31))) = nI (2 ^ j + loB i) := by
              rw [hn_shl j (by omega)]
              cases i with
              | zero => rw [if_pos rfl, orr, ← p3]; rfl
              | succ i => rw [if_neg (by omega), nI_dec1, hn_shl i (by omega), orr, ← p3]; rfl
            unfold bhT at st
            cases qc : canA A (2 ^ j + loB i) e with
            | false =>
              rw [qc] at g3
              rw [if_neg (fun z => by rw [qc] at z; cases z.1)] at st
              refine ⟨ρ, fun v τ k => ?_, fr⟩
              rw [st] at k
              by_cases i0 : i = 0
              · rw [if_pos i0] at es
                refine p_X9_behind_31_1 c1 (by rw [i0]; decide) (by rw [es]; exact g3) rfl ?_
                rw [pl]; exact k
              · rw [if_neg i0] at es
                refine p_X9_behind_31_5 c1 (by rw [pk_sub (by omega), ltz, nI_toInt (by omega)]; omega) (by rw [es]; exact g3) rfl ?_
                rw [pl]; exact k
            | true =>
              rw [qc] at g3
              by_cases qk : crk A y G e (2 ^ j + loB i) = c
              · rw [if_pos ⟨qc, qk⟩] at st
                refine ⟨ρ2, fun v τ k => ?_, fr.tr f4⟩
                rw [st] at k
                dsimp only at k
                by_cases qs : (bhS A y G e c (2 ^ j + loB i)).2 = 0
                · rw [if_pos qs] at k
                  rw [show frs (2 ^ j + loB i) = nI (2 ^ j + loB i) from by unfold frs; rw [if_neg (by have := Nat.two_pow_pos j; omega)]] at k
                  by_cases i0 : i = 0
                  · rw [if_pos i0] at es
                    refine p_X9_behind_31_2 (ρ1 := ρ) (ρ2 := ρ2) (r1 := bI true) (r2 := nI (crk A y G e (2 ^ j + loB i))) c1 (by rw [i0]; decide) (by rw [es]; exact g3) (by decide) (by rw [es]; exact g4) (by rw [qk]) ((frs_eq (by omega)).mpr qs) ?_
                    rw [pl, es, nplus]; exact k
                  · rw [if_neg i0] at es
                    refine p_X9_behind_31_6 (ρ1 := ρ) (ρ2 := ρ2) (r1 := bI true) (r2 := nI (crk A y G e (2 ^ j + loB i))) c1 (by rw [pk_sub (by omega), ltz, nI_toInt (by omega)]; omega) (by rw [es]; exact g3) (by decide) (by rw [es]; exact g4) (by rw [qk]) ((frs_eq (by omega)).mpr qs) ?_
                    rw [pl, es, nplus]; exact k
                · rw [if_neg qs] at k
                  by_cases i0 : i = 0
                  · rw [if_pos i0] at es
                    refine p_X9_behind_31_3 (ρ1 := ρ) (ρ2 := ρ2) (r1 := bI true) (r2 := nI (crk A y G e (2 ^ j + loB i))) c1 (by rw [i0]; decide) (by rw [es]; exact g3) (by decide) (by rw [es]; exact g4) (by rw [qk]) (fun z => qs ((frs_eq (by omega)).mp z)) ?_
                    rw [pl, nplus]; exact k
                  · rw [if_neg i0] at es
                    refine p_X9_behind_31_7 (ρ1 := ρ) (ρ2 := ρ2) (r1 := bI true) (r2 := nI (crk A y G e (2 ^ j + loB i))) c1 (by rw [pk_sub (by omega), ltz, nI_toInt (by omega)]; omega) (by rw [es]; exact g3) (by decide) (by rw [es]; exact g4) (by rw [qk]) (fun z => qs ((frs_eq (by omega)).mp z)) ?_
                    rw [pl, nplus]; exact k
              · rw [if_neg (fun z => qk z.2)] at st
                refine ⟨ρ2, fun v τ k => ?_, fr.tr f4⟩
                rw [st] at k
                have nk : ¬ nI (crk A y G e (2 ^ j + loB i)) = nI c := by rw [nI_eq (by omega) (by omega)]; exact qk
                by_cases i0 : i = 0
                · rw [if_pos i0] at es
                  refine p_X9_behind_31_4 (ρ1 := ρ) (ρ2 := ρ2) (r1 := bI true) (r2 := nI (crk A y G e (2 ^ j + loB i))) c1 (by rw [i0]; decide) (by rw [es]; exact g3) (by decide) (by rw [es]; exact g4) nk ?_
                  rw [pl]; exact k
                · rw [if_neg i0] at es
                  refine p_X9_behind_31_8 (ρ1 := ρ) (ρ2 := ρ2) (r1 := bI true) (r2 := nI (crk A y G e (2 ^ j + loB i))) c1 (by rw [pk_sub (by omega), ltz, nI_toInt (by omega)]; omega) (by rw [es]; exact g3) (by decide) (by rw [es]; exact g4) nk ?_
                  rw [pl]; exact k) (σ := ρ) fr0
          have R1 := Rc.dep.fr fr0 (by decide) R
          have c1 : nI j < ρ.1 5 14 := by rw [R1.2.2.1]; exact nlt hj (by omega)
          refine ⟨ρ', fun v τ k => p_X9_behind_24_1 c1 (w2 _ _ (p_X9_behind_31_9 ?_ ?_)), fr2⟩
          · rw [nI_dec1]; exact nI_nlt (Nat.le_refl _) (by omega)
          · rw [nplus]
            have e2 : 2 ^ j + loB (j + 1) = 2 ^ (j + 1) := by
              show 2 ^ j + 2 ^ j = _
              rw [Nat.pow_succ]; omega
            rw [e2]
            exact k) (σ := σ) (Fr.rf σ)
        have e0 : bhS A y G e c (2 ^ 0) = (0, 0) := rfl
        rw [e0] at w
        have R1 := Rc.dep.fr fr (by decide) R
        obtain ⟨σ2, a1, a2, a3⟩ := s_clear (d := d + 3) (σ := σ1)
        obtain ⟨σ3, d1, d2, d3⟩ := s_add (d := d + 3) a2 (by decide) (frs (bhS A y G e c (2 ^ A 1 0)).2).toInt64
        refine ⟨σ3, p_X9_behind_0_3 g1 (by decide) g2 (by decide) o (by rw [ce, h11, q]; rfl) (w _ _ (p_X9_behind_24_2 ?_ a1 d1)), d2, ?_⟩
        · rw [R1.2.2.1]; exact nI_nlt (Nat.le_refl _) (by omega)
        · exact (fr.up (by decide)).tr ((a3.tr d3).up (by decide))
      · rw [if_neg q, if_neg (fun z => q z.2.2)]
        exact ⟨σ, p_X9_behind_0_4 g1 (by decide) g2 (by decide) o (by rw [ce, h11]; exact nI_ne0 (by omega) (by omega)), hL, Fr.rf σ⟩
theorem can_split (W : Wf A) {n e : Nat} (hn : n < 2 ^ A 1 0) : (canA A n e = true ↔ ndiff n (onA A 0) = 0 ∧ fitA A n e (A 1 0) = true) := by
  unfold canA fitA
  rw [allb_true, allb_true]
  constructor
  · intro h
    refine ⟨?_, fun j hj => ?_⟩
    · apply Nat.eq_of_testBit_eq
      intro i
      rw [ndiff_test, Nat.zero_testBit, onA_test]
      by_cases hi : i < A 1 0
      · have := h i hi
        cases hb : n.testBit i with
        | false => rfl
        | true => rw [hb] at this; simp at this; simp [hi, this.1]
      · have : n.testBit i = false := Nat.testBit_lt_two_pow (Nat.lt_of_lt_of_le hn (Nat.pow_le_pow_right (by decide) (by omega)))
        rw [this]; rfl
    · have := h j hj
      cases hb : n.testBit j with
      | false => rfl
      | true => rw [hb] at this; simp at this; simp [this.2]
  · intro ⟨h1, h2⟩ j hj
    have := h2 j hj
    cases hb : n.testBit j with
    | false => rfl
    | true =>
      rw [hb] at this
      have h3 : (ndiff n (onA A 0)).testBit j = false := by rw [h1]; exact Nat.zero_testBit _
      rw [ndiff_test, onA_test, hb] at h3
      simp [hj] at h3
      simp at this
      simp [this, h3]
theorem m_behind (R : Rm 61 A σ) {y : Int32} (hy : σ.1 61 49 = y) {G : List Nat} (hG : mU G σ) {L : List Int64} (hL : mR L σ) (x c : Int32) : ∃ τ, hq_c 271 (d + 7) [.ref 52, .int x, .int c] σ (some (.int (behR A y G x c))) τ ∧ mR (behL A y G x c L) τ ∧ Fr [(52, 1), (52, 2), (53, 0), (68, 0)] σ τ := by
  have W := R.1
  have b1 := W.1
  have b2 := W.2.1
  have f0 : Fr [(52, 1)] σ (hq_sI σ 52 0 (nI 0)) := frth
  have R0 : Rm 61 A (hq_sI σ 52 0 (nI 0)) := Rm.depn.fr f0 (by decide) R
  have hL0 : mR L (hq_sI σ 52 0 (nI 0)) := mR.dep.fr f0 (by decide) hL
  have hG0 : mU G (hq_sI σ 52 0 (nI 0)) := mU.dep.fr f0 (by decide) hG
  have hy0 : (hq_sI σ 52 0 (nI 0)).1 61 49 = y := (f0.i rfl).trans hy
  have g1 := m_isDoorn (d := d + 4) R0 x
  have g2 := m_inb (d := d + 5) (σ := hq_sI σ 52 0 (nI 0)) c (a := 0) (b := 198) (by decide) (by decide)
  have ff := f0.up (G := [(52, 1), (52, 2), (53, 0), (68, 0)]) (by decide)
  revert ff g1 g2 hL0 R0 hG0 hy0
  generalize e0 : hq_sI σ 52 0 (nI 0) = ρ
  intro R0 hL0 hG0 hy0 g1 g2 ff
  unfold behR behL
  cases hx : inr x (A 0 0) with
  | false =>
    rw [hx] at g1
    refine ⟨ρ, p_X10_behind_0_1 (r1 := bI false) (by rw [e0]; exact g1) rfl, ?_, ff⟩
    rw [if_neg (fun z => by cases z.1)]; exact hL0
  | true =>
    rw [hx] at g1
    cases hc : inb c 0 198 with
    | false =>
      rw [hc] at g2
      refine ⟨ρ, p_X10_behind_0_2 (r1 := bI true) (ρ1 := ρ) (by rw [e0]; exact g1) (by decide) g2 rfl, ?_, ff⟩
      rw [if_neg (fun z => by cases z.2.1)]; exact hL0
    | true =>
      rw [hc] at g2
      obtain ⟨e, he, rfl⟩ := inr_of hx
      obtain ⟨c, -, hc2, rfl⟩ := inb_of hc
      have ce : (nI e).toNatClampNeg = e := clamp (by omega)
      have cc : (nI c).toNatClampNeg = c := clamp (by omega)
      have ol := onA_lt A (e + 1) b2
      have g3 := m_onDn (d := d + 5) R0 he
      rw [ce, cc, if_pos rfl, if_pos rfl]
      by_cases q : onA A (e + 1) = 0
      · rw [if_pos q, if_pos ⟨rfl, rfl, q⟩]
        rw [q] at g3
        have h12 : 2 ^ A 1 0 ≤ 2 ^ 12 := Nat.pow_le_pow_right (by decide) b2
        have h0 : 0 < 2 ^ A 1 0 := Nat.two_pow_pos _
        have sh : ∀ τ : hq_St, Rm 61 A τ → nI 1 <<< (τ.1 52 4 &&& 31) = nI (2 ^ A 1 0) := fun τ T => by rw [T.2.2.1, hn_shl _ (by omega)]
        obtain ⟨σ1, w, fr⟩ := hq_w.for (x := 271) (d := d + 7) (i := 29) (fun j => [some (.ref 52), some (.int (nI e)), some (.int (nI c)), some (.int (nI (bhS A y G e c (j + 1)).1)), some (.int (frs (bhS A y G e c (j + 1)).2)), some (.int (nI (j + 1)))]) (fun _ τ => Fr [(68, 0)] ρ τ) (2 ^ A 1 0 - 1) (fun j hj τ fr => by
          have R1 := Rm.depn.fr fr (by decide) R0
          have hG1 := mU.dep.fr fr (by decide) hG0
          have hy1 : τ.1 61 49 = y := (fr.i rfl).trans hy0
          have c1 : nI (j + 1) < nI 1 <<< (τ.1 52 4 &&& 31) := by rw [sh τ R1]; exact nlt (by omega) (by omega)
          have g4 := s_bitCount (d := d + 5) (σ := τ) (n := j + 1) (by omega)
          have pl := pop_le (j + 1)
          have sl := bhS_le (A := A) (y := y) (G := G) (e := e) (c := c) (j + 1)
          have st : bhS A y G e c (j + 1 + 1) = if 1 ≤ j + 1 ∧ pop (j + 1) ≤ 2 then bhT A y G e c (j + 1) (bhS A y G e c (j + 1)) else bhS A y G e c (j + 1) := rfl
          by_cases q1 : pop (j + 1) ≤ 2
          · rw [if_pos ⟨by omega, q1⟩] at st
            unfold bhT at st
            have n1 : ¬ nI 2 < nI (pop (j + 1)) := nI_nlt (by omega) (by omega)
            have g5 := m_onn (d := d + 5) R1 (p := 0) (by decide)
            rw [show nI 0 - nI 1 = (-1 : Int32) by decide] at g5
            have cs := can_split (A := A) (e := e) W (n := j + 1) (by omega)
            have nd : nI (j + 1) &&& (nI (onA A 0) ^^^ (-1 : Int32)) = nI (ndiff (j + 1) (onA A 0)) := and_not _ _
            have ndl : ndiff (j + 1) (onA A 0) < 2 ^ 12 := Nat.lt_pow_two_of_testBit _ (fun i hi => by
              rw [ndiff_test, Nat.testBit_lt_two_pow (x := j + 1) (Nat.lt_of_lt_of_le (by omega : j + 1 < 2 ^ 12) (Nat.pow_le_pow_right (by decide) hi))]; rfl)
            by_cases q2 : ndiff (j + 1) (onA A 0) = 0
            · have n2 : (nI (j + 1) &&& (nI (onA A 0) ^^^ (-1 : Int32))) = 0 := by rw [nd, q2]; rfl
              have g6 := m_allFit (d := d + 4) R1 (n := j + 1) (by omega) he
              cases q3 : fitA A (j + 1) e (A 1 0) with
              | false =>
                rw [q3] at g6
                rw [if_neg (fun z => by rw [(cs.mp z.1).2] at q3; cases q3)] at st
                refine ⟨τ, fun v μ k => p_X10_behind_29_2 c1 g4 n1 g5 n2 g6 rfl ?_, fr⟩
                rw [st] at k
                rw [nplus]; exact k
              | true =>
                rw [q3] at g6
                have qc : canA A (j + 1) e = true := cs.mpr ⟨q2, q3⟩
                obtain ⟨τ2, g7, f7⟩ := m_creakOf (d := d) R1 hy1 hG1 (n := j + 1) he (by omega)
                have kl := crk_le (A := A) W (y := y) (G := G) (e := e) (n := j + 1)
                by_cases qk : crk A y G e (j + 1) = c
                · rw [if_pos ⟨qc, qk⟩] at st
                  by_cases qs : (bhS A y G e c (j + 1)).2 = 0
                  · refine ⟨τ2, fun v μ k => p_X10_behind_29_3 c1 g4 n1 g5 n2 g6 (by decide) g7 (by rw [qk]) ((frs_lt (by omega)).mpr qs) ?_, fr.tr f7⟩
                    rw [st] at k
                    dsimp only at k
                    rw [if_pos qs, show frs (j + 1) = nI (j + 1) from by unfold frs; rw [if_neg (by omega)]] at k
                    rw [nplus, nplus]; exact k
                  · refine ⟨τ2, fun v μ k => p_X10_behind_29_4 c1 g4 n1 g5 n2 g6 (by decide) g7 (by rw [qk]) (fun z => qs ((frs_lt (by omega)).mp z)) ?_, fr.tr f7⟩
                    rw [st] at k
                    dsimp only at k
                    rw [if_neg qs] at k
                    rw [nplus, nplus]; exact k
                · rw [if_neg (fun z => qk z.2)] at st
                  refine ⟨τ2, fun v μ k => p_X10_behind_29_5 c1 g4 n1 g5 n2 g6 (by decide) g7 (by rw [nI_eq (by omega) (by omega)]; exact qk) ?_, fr.tr f7⟩
                  rw [st] at k
                  rw [nplus]; exact k
            · rw [if_neg (fun z => q2 (cs.mp z.1).1)] at st
              refine ⟨τ, fun v μ k => p_X10_behind_29_6 c1 g4 n1 g5 (by rw [nd]; exact nI_ne0 (by omega) (by omega)) ?_, fr⟩
              rw [st] at k
              rw [nplus]; exact k
          · rw [if_neg (fun z => q1 z.2)] at st
            refine ⟨τ, fun v μ k => p_X10_behind_29_1 c1 g4 (nlt (by omega) (by omega)) ?_, fr⟩
            rw [st] at k
            rw [nplus]; exact k) (σ := ρ) (Fr.rf ρ)
        have e1 : bhS A y G e c (0 + 1) = (0, 0) := rfl
        rw [e1] at w
        rw [Nat.sub_add_cancel (by omega)] at w
        have R1 := Rm.depn.fr fr (by decide) R0
        have f3 : Fr [(52, 2), (53, 0)] σ1 (hq_sI σ1 52 1 (nI 0)) := (Fr.rf _).sI rfl
        obtain ⟨σ2, d1, d2, d3⟩ := m_enters (d := d + 5) (mR.nil (σ := σ1)) (by decide) (frs (bhS A y G e c (2 ^ A 1 0)).2).toInt64
        refine ⟨σ2, p_X10_behind_0_3 (r1 := bI true) (ρ1 := ρ) (by rw [e0]; exact g1) (by decide) g2 (by decide) g3 rfl (w _ _ (p_X10_behind_29_7 ?_ d1)), d2, ff.tr ((fr.up (by decide)).tr ((f3.tr d3).up (by decide)))⟩
        rw [sh σ1 R1]; exact nI_nlt (Nat.le_refl _) (by omega)
      · rw [if_neg q, if_neg (fun z => q z.2.2)]
        exact ⟨ρ, p_X10_behind_0_4 (r1 := bI true) (ρ1 := ρ) (by rw [e0]; exact g1) (by decide) g2 (by decide) g3 (nI_ne0 (by omega) (by omega)), hL0, ff⟩
end BH
