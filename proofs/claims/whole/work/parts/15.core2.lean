/-! What is shut, reached, kept: the class and the reference give the same numbers. -/
theorem sset_congr {n : Nat} {f g : Nat → Nat} : ∀ {m : Nat}, (∀ h, h < m → f h = g h) → sset n f m = sset n g m
  | 0, _ => rfl
  | m + 1, h => by
    unfold sset
    rw [sset_congr (fun k hk => h k (Nat.lt_succ_of_lt hk)), h m (Nat.lt_succ_self m)]
theorem sset_le {n c : Nat} {f : Nat → Nat} : ∀ {m : Nat}, (∀ h, h < m → f h ≤ c) → sset n f m ≤ m * c
  | 0, _ => by simp [sset]
  | m + 1, h => by
    have ih := sset_le (n := n) (c := c) (f := f) (m := m) (fun k hk => h k (Nat.lt_succ_of_lt hk))
    have h1 := h m (Nat.lt_succ_self m)
    unfold sset
    rw [Nat.succ_mul]
    split <;> omega
theorem sbits_congr {p q : Nat → Bool} : ∀ {m : Nat}, (∀ h, h < m → p h = q h) → sbits p m = sbits q m
  | 0, _ => rfl
  | m + 1, h => by
    unfold sbits
    rw [sbits_congr (fun k hk => h k (Nat.lt_succ_of_lt hk)), h m (Nat.lt_succ_self m)]
theorem sset_1 {n : Nat} {f : Nat → Nat} {m : Nat} (h : n.testBit m = true) : sset n f (m + 1) = sset n f m + f m := by simp [sset, h]
theorem sset_0 {n : Nat} {f : Nat → Nat} {m : Nat} (h : n.testBit m = false) : sset n f (m + 1) = sset n f m := by simp [sset, h]
theorem sbits_1 {p : Nat → Bool} {m : Nat} (h : p m = true) : sbits p (m + 1) = sbits p m ||| 2 ^ m := by simp [sbits, h]
theorem sbits_0 {p : Nat → Bool} {m : Nat} (h : p m = false) : sbits p (m + 1) = sbits p m := by simp [sbits, h]
theorem orr (a b : Nat) : nI a ||| nI b = nI (a ||| b) := fa_or a b
theorem holdN_le {s r : Nat} (h : s ≤ 9) : holdN s r ≤ 9 := by unfold holdN; omega
def rustA (A : TA) (k : Nat) (ol : Bool) (h : Nat) : Nat := min 9 (A 9 h + (k - (if ol then A 10 h else 0)))
def hK (A : TA) (k : Nat) (ol : Bool) (h : Nat) : Nat := holdN (A 7 h) (rustA A k ol h)
def h0 (A : TA) (h : Nat) : Nat := holdN (A 7 h) (A 9 h)
theorem max_val {k o : Nat} (hk : k < 2 ^ 30) (ho : o < 2 ^ 30) : (if nI 0 < (nI k - nI o) then (nI k - nI o) else nI 0) = nI (k - o) := by
  by_cases h : o < k
  · rw [pk_sub (by omega), if_pos (nlt (by omega) (by omega))]
  · rw [if_neg]
    · congr 1; omega
    · intro q
      rw [fa_lt, pk_sub_toInt hk ho, nI_toInt (by decide)] at q
      omega
theorem min_val {a b : Nat} (ha : a < 2 ^ 31) (hb : b < 2 ^ 31) : (if nI b < nI a then nI b else nI a) = nI (min a b) := by
  by_cases h : b < a
  · rw [if_pos (nlt h ha), Nat.min_eq_right (by omega)]
  · rw [if_neg (nI_nlt (by omega) hb), Nat.min_eq_left (by omega)]
section SP
variable {d : Nat} {σ : hq_St} {A : TA}
theorem hK0 (R : Wf A) {h : Nat} (hh : h < A 1 0) (ol : Bool) : hK A 0 ol h = h0 A h := by
  have := (R.2.2.2.1 h hh).2.2.2.2.1
  unfold hK h0 rustA
  rw [Nat.zero_sub, Nat.add_zero, Nat.min_eq_right this]
theorem s_holdsAfter (R : Rc A σ) {n k : Nat} (hk : k ≤ 99) (ol : Bool) : hq_c 88 (d + 2) [.ref 5, .int (nI n), .int (nI k), .int (bI ol)] σ (some (.int (nI (sset n (hK A k ol) (A 1 0))))) σ := by
  have R0 := R
  obtain ⟨W, -, hN, hD, hH, -⟩ := R
  have b2 := W.2.1
  refine p_X8_holdsAfter_0_1 ?_
  refine hq_m.for (fun j => [some (.ref 5), some (.int (nI n)), some (.int (nI k)), some (.int (bI ol)), some (.int (nI (sset n (hK A k ol) j))), some (.int (nI j)), none]) (fun _ => σ) (A 1 0) ?_ ?_ 0 (Nat.zero_le _)
  · intro j hj ih
    have c1 : nI j < σ.1 5 14 := by rw [hN]; exact nlt hj (by omega)
    have cj : (nI j).toNatClampNeg = j := clamp (by omega)
    obtain ⟨w1, w2, w3, w4, w5, w6, w7, w8⟩ := W.2.2.2.1 j hj
    cases hb : n.testBit j with
    | false =>
      refine p_X8_holdsAfter_4_1 c1 (hn_bit0 (by omega) hb) ?_
      rw [nplus]
      rw [sset_0 hb] at ih
      exact ih
    | true =>
      rw [sset_1 hb] at ih
      have hr : rustA A k ol j ≤ 9 := by unfold rustA; omega
      have call := s_holdWith (d := d) R0 hj hr
      cases ol with
      | false =>
        refine p_X8_holdsAfter_4_2 (ρ1 := σ) (r1 := nI (hK A k false j)) c1 (hn_bit1 (by omega) hb) (by decide) (vin (by omega) (by decide)) ?_ ?_
        · rw [cj, (hH j hj).2.2.2.1, max_val (by omega) (by decide), nplus, min_val (by decide) (by omega)]
          exact call
        · rw [nplus, nplus]
          exact ih
      | true =>
        refine p_X8_holdsAfter_4_3 (ρ1 := σ) (r1 := nI (hK A k true j)) c1 (hn_bit1 (by omega) hb) (by decide) (vin (by omega) (by decide)) (vin (by omega) (by decide)) ?_ ?_
        · rw [cj, (hH j hj).2.2.2.1, (hH j hj).2.2.2.2.1, max_val (by omega) (by omega), nplus, min_val (by decide) (by omega)]
          exact call
        · rw [nplus, nplus]
          exact ih
  · exact p_X8_holdsAfter_4_4 (by rw [hN]; exact nI_nlt (Nat.le_refl _) (by omega))
def shutF (A : TA) (f : Nat → Nat) (e n : Nat) : Bool := decide (pop n = 2) && decide (A 5 e ≤ sset n f (A 1 0))
theorem sum_lt (W : Wf A) {f : Nat → Nat} (hf : ∀ h, h < A 1 0 → f h ≤ 9) (n : Nat) : sset n f (A 1 0) ≤ 108 := by
  have := sset_le (n := n) hf
  have b2 := W.2.1
  omega
theorem hK_le (W : Wf A) (k : Nat) (ol : Bool) : ∀ h, h < A 1 0 → hK A k ol h ≤ 9 := fun h hh => holdN_le (W.2.2.2.1 h hh).2.2.1
theorem h0_le (W : Wf A) : ∀ h, h < A 1 0 → h0 A h ≤ 9 := fun h hh => holdN_le (W.2.2.2.1 h hh).2.2.1
theorem s_shutBy (R : Rc A σ) {e n : Nat} (he : e < A 0 0) (hn : n < 4096) : hq_c 90 (d + 3) [.ref 5, .int (nI e), .int (nI n)] σ (some (.int (bI (shutF A (h0 A) e n)))) σ := by
  have R0 := R
  obtain ⟨W, -, hN, hD, hH, -⟩ := R
  have b1 := W.1
  have hb := s_bitCount (d := d + 1) (σ := σ) hn
  have hp := pop_le n
  have hw := (W.2.2.1 e he).2.2.2.2
  have ce : (nI e).toNatClampNeg = e := clamp (by omega)
  unfold bI shutF
  by_cases q : pop n = 2
  · have h2 := s_holdsAfter (d := d) R0 (n := n) (k := 0) (by decide) true
    rw [sset_congr (g := h0 A) (fun h hh => hK0 W hh true)] at h2
    have hs := sum_lt W (h0_le W) n
    by_cases q2 : A 5 e ≤ sset n (h0 A) (A 1 0)
    · rw [if_pos (by simp [q, q2])]
      refine p_X8_shutBy_0_2 hb (by rw [q]) h2 (vin (by omega) (by decide)) ?_
      rw [ce, (hD e he).2.2.2.2.1]
      exact nI_nlt q2 (by omega)
    · rw [if_neg (by simp [q, q2])]
      refine p_X8_shutBy_0_1 hb (by rw [q]) h2 (vin (by omega) (by decide)) ?_
      rw [ce, (hD e he).2.2.2.2.1]
      exact nlt (by omega) (by omega)
  · rw [if_neg (by simp [q])]
    exact p_X8_shutBy_0_3 hb (by rw [nI_eq (by omega) (by decide)]; exact q)
/-- 2 shut, 1 swings, 0 leans -/
def stateA (A : TA) (e : Nat) : Nat := if shutF A (h0 A) e (onA A (e + 1)) then 2 else if onA A (e + 1) = 0 then 0 else 1
theorem s_stateOf (R : Rc A σ) {e : Nat} (he : e < A 0 0) : hq_c 91 (d + 4) [.ref 5, .int (nI e)] σ (some (.int (nI (stateA A e)))) σ := by
  have R0 := R
  obtain ⟨W, -, hN, hD, hH, -⟩ := R
  have b1 := W.1
  have ce : (nI e).toNatClampNeg = e := clamp (by omega)
  have o : vp_in (nI e) 8 := vin (by omega) (by decide)
  have on4 := onA_lt A (e + 1) W.2.1
  have h1 := s_shutBy (d := d) R0 he on4
  have h1' : hq_c 90 (d + 3) [.ref 5, .int (nI e), .int (σ.1 11 (nI e).toNatClampNeg)] σ (some (.int (bI (shutF A (h0 A) e (onA A (e + 1)))))) σ := by rw [ce, (hD e he).2.2.2.2.2]; exact h1
  unfold stateA
  cases hq : shutF A (h0 A) e (onA A (e + 1)) with
  | true =>
    rw [hq] at h1'
    exact p_X8_stateOf_0_3 o h1' (by decide)
  | false =>
    rw [hq] at h1'
    by_cases q : onA A (e + 1) = 0
    · rw [if_neg (by decide), if_pos q]
      exact p_X8_stateOf_0_1 o h1' (by decide) o (by rw [ce, (hD e he).2.2.2.2.2, q]; rfl)
    · rw [if_neg (by decide), if_neg q]
      exact p_X8_stateOf_0_2 o h1' (by decide) o (by rw [ce, (hD e he).2.2.2.2.2]; exact nI_ne0 (by omega) (by omega))
/-- doors that are shut after k days -/
def shutK (A : TA) (k : Nat) : Nat := sbits (fun e => shutF A (hK A k true) e (onA A (e + 1))) (A 0 0)
def shut0 (A : TA) : Nat := sbits (fun e => shutF A (h0 A) e (onA A (e + 1))) (A 0 0)
theorem shutK0 (W : Wf A) : shutK A 0 = shut0 A := by
  unfold shutK shut0
  refine sbits_congr fun e _ => ?_
  unfold shutF
  rw [sset_congr (g := h0 A) (fun h hh => hK0 W hh true)]
theorem s_shutAfter (R : Rc A σ) {k : Nat} (hk : k ≤ 99) : hq_c 93 (d + 3) [.ref 5, .int (nI k)] σ (some (.int (nI (shutK A k)))) σ := by
  have R0 := R
  obtain ⟨W, hN, -, hD, hH, -⟩ := R
  have b1 := W.1
  refine p_X8_shutAfter_0_1 ?_
  refine hq_m.for (fun j => [some (.ref 5), some (.int (nI k)), some (.int (nI (sbits (fun e => shutF A (hK A k true) e (onA A (e + 1))) j))), some (.int (nI j))]) (fun _ => σ) (A 0 0) ?_ ?_ 0 (Nat.zero_le _)
  · intro j hj ih
    have c1 : nI j < σ.1 5 13 := by rw [hN]; exact nlt hj (by omega)
    have cj : (nI j).toNatClampNeg = j := clamp (by omega)
    have on4 := onA_lt A (j + 1) W.2.1
    have hw := (W.2.2.1 j hj).2.2.2.2
    have hp := pop_le (onA A (j + 1))
    have o : vp_in (nI j) 8 := vin (by omega) (by decide)
    have hb := s_bitCount (d := d + 1) (σ := σ) on4
    rw [← (hD j hj).2.2.2.2.2] at hb
    have h2 := s_holdsAfter (d := d) R0 (n := onA A (j + 1)) hk true
    rw [← (hD j hj).2.2.2.2.2] at h2
    have hs := sum_lt W (hK_le W k true) (onA A (j + 1))
    by_cases q : pop (onA A (j + 1)) = 2
    · by_cases q2 : A 5 j ≤ sset (onA A (j + 1)) (hK A k true) (A 1 0)
      · refine p_X8_shutAfter_4_2 c1 o (by rw [cj]; exact hb) (by rw [q]) o (by rw [cj]; exact h2) o ?_ ?_
        · rw [cj, (hD j hj).2.2.2.2.1]
          exact nI_nlt q2 (by omega)
        · rw [sbits_1 (by simp [shutF, q, q2])] at ih
          rw [hn_shl j (by omega), orr, nplus]
          exact ih
      · refine p_X8_shutAfter_4_1 c1 o (by rw [cj]; exact hb) (by rw [q]) o (by rw [cj]; exact h2) o ?_ ?_
        · rw [cj, (hD j hj).2.2.2.2.1]
          exact nlt (by omega) (by omega)
        · rw [sbits_0 (by simp [shutF, q, q2])] at ih
          rw [nplus]
          exact ih
    · refine p_X8_shutAfter_4_3 c1 o (by rw [cj]; exact hb) (by rw [nI_eq (by omega) (by decide)]; exact q) ?_
      rw [sbits_0 (by simp [shutF, q])] at ih
      rw [nplus]
      exact ih
  · exact p_X8_shutAfter_4_4 (by rw [hN]; exact nI_nlt (Nat.le_refl _) (by omega))
theorem s_shutNow (R : Rc A σ) : hq_c 92 (d + 4) [.ref 5] σ (some (.int (nI (shut0 A)))) σ := by
  have := s_shutAfter (d := d) R (k := 0) (by decide)
  rw [shutK0 R.1] at this
  exact p_X8_shutNow_0_1 this
end SP
