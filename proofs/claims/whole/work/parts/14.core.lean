/-! The town as numbers: A 0 0 doors, A 1 0 hinges; of a door: 2, 3 rooms, 4 hand, 5 weight; of a hinge: 6 hand, 7 strength, 8 rent, 9 rust, 10 oil, 11 place (0 the forge, d + 1 the door d); 12 secrets of a room. -/
abbrev TA : Type := Nat → Nat → Nat
def bI (b : Bool) : Int32 := if b then nI 1 else nI 0
def onA (A : TA) (p : Nat) : Nat := sbits (fun h => A 11 h == p) (A 1 0)
def fitsA (A : TA) (h d : Nat) : Bool := A 6 h == 2 || A 6 h == A 4 d
def wfD (A : TA) (d : Nat) : Prop := A 2 d < 8 ∧ A 3 d < 8 ∧ A 2 d ≠ A 3 d ∧ A 4 d < 2 ∧ 1 ≤ A 5 d ∧ A 5 d ≤ 9 ∧ pop (onA A (d + 1)) ≤ 2
def wfH (A : TA) (h : Nat) : Prop := A 6 h ≤ 2 ∧ 1 ≤ A 7 h ∧ A 7 h ≤ 9 ∧ A 8 h ≤ 9 ∧ A 9 h ≤ 9 ∧ A 10 h ≤ 9 ∧ A 11 h ≤ A 0 0 ∧ ∀ d, A 11 h = d + 1 → fitsA A h d = true
def Wf (A : TA) : Prop := A 0 0 ≤ 8 ∧ A 1 0 ≤ 12 ∧ (∀ d, d < A 0 0 → wfD A d) ∧ (∀ h, h < A 1 0 → wfH A h) ∧ ∀ r, A 12 r ≤ 9
def cDoor (A : TA) (σ : hq_St) (d : Nat) : Prop := σ.1 6 d = nI (A 2 d) ∧ σ.1 7 d = nI (A 3 d) ∧ σ.1 8 d = nI (2 ^ A 2 d ||| 2 ^ A 3 d) ∧ σ.1 9 d = nI (A 4 d) ∧ σ.1 10 d = nI (A 5 d) ∧ σ.1 11 d = nI (onA A (d + 1))
def cHinge (A : TA) (σ : hq_St) (h : Nat) : Prop := σ.1 12 h = nI (A 6 h) ∧ σ.1 13 h = nI (A 7 h) ∧ σ.1 14 h = nI (A 8 h) ∧ σ.1 15 h = nI (A 9 h) ∧ σ.1 16 h = nI (A 10 h) ∧ σ.1 17 h = nI (A 11 h) - nI 1
def Rc (A : TA) (σ : hq_St) : Prop := Wf A ∧ σ.1 5 13 = nI (A 0 0) ∧ σ.1 5 14 = nI (A 1 0) ∧ (∀ d, d < A 0 0 → cDoor A σ d) ∧ (∀ h, h < A 1 0 → cHinge A σ h) ∧ ∀ r, 1 ≤ r → r < 8 → σ.1 18 r = nI (A 12 r)
def mDoor (A : TA) (σ : hq_St) (d : Nat) : Prop := σ.1 54 d = nI (A 2 d) ∧ σ.1 55 d = nI (A 3 d) ∧ σ.1 56 d = nI (A 4 d) ∧ σ.1 57 d = nI (A 5 d)
def mHinge (A : TA) (σ : hq_St) (h : Nat) : Prop := σ.1 58 h = nI (A 7 h) ∧ σ.1 59 h = nI (A 8 h)
def mRow (A : TA) (f : Nat → Int32) (h : Nat) : Prop := f h = nI (A 11 h) - nI 1 ∧ f (12 + h) = nI (A 6 h) ∧ f (24 + h) = nI (A 9 h) ∧ f (36 + h) = nI (A 10 h)
/-- the reference's town, the row that holds what can change being the cell c -/
def Rm (c : Nat) (A : TA) (σ : hq_St) : Prop := Wf A ∧ σ.1 52 3 = nI (A 0 0) ∧ σ.1 52 4 = nI (A 1 0) ∧ (∀ d, d < A 0 0 → mDoor A σ d) ∧ (∀ h, h < A 1 0 → mHinge A σ h) ∧ (∀ h, h < A 1 0 → mRow A (σ.1 c) h) ∧ ∀ r, 1 ≤ r → r < 8 → σ.1 60 r = nI (A 12 r)
theorem onA_lt (A : TA) (p : Nat) (h : A 1 0 ≤ 12) : onA A p < 4096 := Nat.lt_of_lt_of_le (sbits_lt _ _) (Nat.pow_le_pow_right (by decide) h : 2 ^ A 1 0 ≤ 2 ^ 12)
def inr (x : Int32) (n : Nat) : Bool := decide (0 ≤ x.toInt ∧ x.toInt < n)
theorem inr_nI {k n : Nat} (hk : k < 2 ^ 31) : inr (nI k) n = decide (k < n) := by
  unfold inr
  rw [nI_toInt hk]
  simp
theorem inr_of {x : Int32} {n : Nat} (h : inr x n = true) : ∃ k, k < n ∧ x = nI k := by
  unfold inr at h
  rw [decide_eq_true_eq] at h
  refine ⟨x.toInt.toNat, by omega, ?_⟩
  rw [fa_eq, nI_toInt (by have := Int32.toInt_lt x; omega)]
  omega
theorem clamp {j : Nat} (h : j < 4096) : (nI j).toNatClampNeg = j := nI_clamp (by omega)
theorem nplus (a b : Nat) : nI a + nI b = nI (a + b) := nI_add a b
section SP
variable {d : Nat} {σ : hq_St} {A : TA}
theorem s_bitCount {n : Nat} (h : n < 4096) : hq_c 280 (d + 1) [.int (nI n)] σ (some (.int (nI (pop n)))) σ := by
  have := p_J6_bitCount_0f7a4_0_1 (d := d) (σ := σ) (l0 := nI n)
  rw [← swar_pop h]
  exact this
-- the class
theorem s_isDoor (R : Rc A σ) (x : Int32) : hq_c 82 (d + 1) [.ref 5, .int x] σ (some (.int (bI (inr x (A 0 0))))) σ := by
  have hd := R.2.1
  have h8 := R.1.1
  unfold bI inr
  by_cases c1 : x < 0
  · have : ¬ (0 ≤ x.toInt ∧ x.toInt < (A 0 0 : Nat)) := by rw [fa_lt] at c1; simp at c1; omega
    rw [if_neg (by simpa using this)]
    exact p_X8_isDoor_0_1 c1
  · by_cases c2 : x < σ.1 5 13
    · have : 0 ≤ x.toInt ∧ x.toInt < (A 0 0 : Nat) := by
        rw [fa_lt] at c1; rw [hd, fa_lt, nI_toInt (by omega)] at c2; simp at c1; omega
      rw [if_pos (by simpa using this)]
      exact p_X8_isDoor_0_2 c1 c2
    · have : ¬ (0 ≤ x.toInt ∧ x.toInt < (A 0 0 : Nat)) := by
        have c3 := c2
        rw [hd, fa_lt, nI_toInt (by omega)] at c3; omega
      rw [if_neg (by simpa using this)]
      exact p_X8_isDoor_0_3 c1 c2
theorem s_isHinge (R : Rc A σ) (x : Int32) : hq_c 83 (d + 1) [.ref 5, .int x] σ (some (.int (bI (inr x (A 1 0))))) σ := by
  have hd := R.2.2.1
  have h8 := R.1.2.1
  unfold bI inr
  by_cases c1 : x < 0
  · have : ¬ (0 ≤ x.toInt ∧ x.toInt < (A 1 0 : Nat)) := by rw [fa_lt] at c1; simp at c1; omega
    rw [if_neg (by simpa using this)]
    exact p_X8_isHinge_0_1 c1
  · by_cases c2 : x < σ.1 5 14
    · have : 0 ≤ x.toInt ∧ x.toInt < (A 1 0 : Nat) := by
        rw [fa_lt] at c1; rw [hd, fa_lt, nI_toInt (by omega)] at c2; simp at c1; omega
      rw [if_pos (by simpa using this)]
      exact p_X8_isHinge_0_2 c1 c2
    · have : ¬ (0 ≤ x.toInt ∧ x.toInt < (A 1 0 : Nat)) := by
        have c3 := c2
        rw [hd, fa_lt, nI_toInt (by omega)] at c3; omega
      rw [if_neg (by simpa using this)]
      exact p_X8_isHinge_0_3 c1 c2
theorem s_fits (R : Rc A σ) {h e : Nat} (hh : h < A 1 0) (he : e < A 0 0) : hq_c 84 (d + 1) [.ref 5, .int (nI h), .int (nI e)] σ (some (.int (bI (fitsA A h e)))) σ := by
  obtain ⟨W, -, -, hD, hH, -⟩ := R
  have h1 := (hH h hh).1
  have h2 := (hD e he).2.2.2.1
  have w1 := (W.2.2.2.1 h hh).1
  have w2 := (W.2.2.1 e he).2.2.2.1
  have b1 := W.1
  have b2 := W.2.1
  have o1 : vp_in (nI h) 12 := vin (by omega) (by decide)
  have o2 : vp_in (nI e) 8 := vin (by omega) (by decide)
  have c1 : (nI h).toNatClampNeg = h := clamp (by omega)
  have c2 : (nI e).toNatClampNeg = e := clamp (by omega)
  unfold bI fitsA
  by_cases q1 : A 6 h = 2
  · rw [if_pos (by simp [q1])]
    exact p_X8_fits_0_1 o1 (by rw [c1, h1, q1])
  · have n1 : ¬ σ.1 12 (nI h).toNatClampNeg = nI 2 := by rw [c1, h1, nI_eq (by omega) (by omega)]; exact q1
    by_cases q2 : A 6 h = A 4 e
    · rw [if_pos (by simp [q2])]
      exact p_X8_fits_0_2 o1 n1 o2 o1 (by rw [c1, c2, h1, h2, q2])
    · rw [if_neg (by simp [q1, q2])]
      exact p_X8_fits_0_3 o1 n1 o2 o1 (by rw [c1, c2, h1, h2, nI_eq (by omega) (by omega)]; exact q2)
theorem bI_ne {b : Bool} : ¬ bI b = 0 ↔ b = true := by cases b <;> decide
theorem bI_eq {b : Bool} : bI b = 0 ↔ b = false := by cases b <;> decide
theorem pop_le (x : Nat) : pop x ≤ 12 := by
  have : ∀ m, sset x (fun _ => 1) m ≤ m := by
    intro m
    induction m with
    | zero => exact Nat.le_refl _
    | succ m ih => unfold sset; split <;> omega
  exact this 12
theorem s_hasRoom (R : Rc A σ) {e : Nat} (he : e < A 0 0) : hq_c 85 (d + 2) [.ref 5, .int (nI e)] σ (some (.int (bI (decide (pop (onA A (e + 1)) < 2))))) σ := by
  obtain ⟨W, -, -, hD, hH, -⟩ := R
  have b1 := W.1
  have o2 : vp_in (nI e) 8 := vin (by omega) (by decide)
  have c2 : (nI e).toNatClampNeg = e := clamp (by omega)
  have hp := pop_le (onA A (e + 1))
  have hb := s_bitCount (d := d) (σ := σ) (onA_lt A (e + 1) W.2.1)
  rw [← (hD e he).2.2.2.2.2, ← c2] at hb
  rw [c2] at hb
  unfold bI
  by_cases q : pop (onA A (e + 1)) < 2
  · rw [if_pos (by simpa using q)]
    exact p_X8_hasRoom_0_1 o2 (by rw [c2]; exact hb) (nlt q (by decide))
  · rw [if_neg (by simpa using q)]
    exact p_X8_hasRoom_0_2 o2 (by rw [c2]; exact hb) (nI_nlt (by omega) (by omega))
def holdN (s r : Nat) : Nat := s - r / 2
theorem hold_val {s r : Nat} (hs : s ≤ 9) (hr : r ≤ 9) : (if nI 0 < (nI s - (nI r / nI 2)) then (nI s - (nI r / nI 2)) else nI 0) = nI (holdN s r) := by
  rw [pk_div (by omega) (by decide) (by decide)]
  unfold holdN
  by_cases h : r / 2 ≤ s
  · rw [pk_sub h]
    by_cases h0 : 0 < s - r / 2
    · rw [if_pos (nlt h0 (by omega))]
    · rw [if_neg (nI_nlt (by omega) (by omega))]
      congr 1; omega
  · have : nI s - nI (r / 2) < 0 := pk_sneg (by omega) (by omega)
    rw [if_neg]
    · congr 1; omega
    · intro q
      rw [fa_lt] at this q
      have e : (nI 0).toInt = 0 := nI_toInt (by decide)
      have e2 : (0 : Int32).toInt = 0 := rfl
      omega
theorem s_holdWith (R : Rc A σ) {h r : Nat} (hh : h < A 1 0) (hr : r ≤ 9) : hq_c 87 (d + 1) [.ref 5, .int (nI h), .int (nI r)] σ (some (.int (nI (holdN (A 7 h) r)))) σ := by
  obtain ⟨W, -, -, hD, hH, -⟩ := R
  have b2 := W.2.1
  have o1 : vp_in (nI h) 12 := vin (by omega) (by decide)
  have c1 : (nI h).toNatClampNeg = h := clamp (by omega)
  have := p_X8_holdWith_0_1 (d := d) (σ := σ) (l1 := nI h) (l2 := nI r) (by decide) o1
  rw [c1, (hH h hh).2.1, hold_val (W.2.2.2.1 h hh).2.2.1 hr] at this
  exact this
theorem s_hold (R : Rc A σ) {h : Nat} (hh : h < A 1 0) : hq_c 86 (d + 2) [.ref 5, .int (nI h)] σ (some (.int (nI (holdN (A 7 h) (A 9 h))))) σ := by
  have b2 := R.1.2.1
  have o1 : vp_in (nI h) 12 := vin (by omega) (by decide)
  have c1 : (nI h).toNatClampNeg = h := clamp (by omega)
  refine p_X8_hold_0_1 o1 ?_
  rw [c1, (R.2.2.2.2.1 h hh).2.2.2.1]
  exact s_holdWith R hh (R.1.2.2.2.1 h hh).2.2.2.2.1
theorem s_feesOf (R : Rc A σ) {n : Nat} : hq_c 89 (d + 1) [.ref 5, .int (nI n)] σ (some (.int (nI (sset n (A 8) (A 1 0))))) σ := by
  obtain ⟨W, -, hN, hD, hH, -⟩ := R
  have b2 := W.2.1
  refine p_X8_feesOf_0_1 ?_
  refine hq_m.for (fun j => [some (.ref 5), some (.int (nI n)), some (.int (nI (sset n (A 8) j))), some (.int (nI j))]) (fun _ => σ) (A 1 0) ?_ ?_ 0 (Nat.zero_le _)
  · intro j hj ih
    have c1 : nI j < σ.1 5 14 := by rw [hN]; exact nlt hj (by omega)
    cases hb : n.testBit j with
    | false =>
      refine p_X8_feesOf_4_1 c1 (hn_bit0 (by omega) hb) ?_
      rw [nplus, nplus]
      have : sset n (A 8) (j + 1) = sset n (A 8) j + 0 := by simp [sset, hb]
      rw [this] at ih
      exact ih
    | true =>
      refine p_X8_feesOf_4_2 c1 (hn_bit1 (by omega) hb) (vin (by omega) (by decide)) ?_
      rw [clamp (by omega), (hH j hj).2.2.1, nplus, nplus]
      have : sset n (A 8) (j + 1) = sset n (A 8) j + A 8 j := by simp [sset, hb]
      rw [this] at ih
      exact ih
  · exact p_X8_feesOf_4_3 (by rw [hN]; exact nI_nlt (Nat.le_refl _) (by omega))
end SP
