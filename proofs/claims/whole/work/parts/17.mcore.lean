/-! The reference's helpers: the same numbers. -/
theorem lgc_lt {a b : Int64} : lg_cmp a b < 0 ↔ a < b := lg_cmp_lt a b
theorem lgc_gt {a b : Int64} : 0 < lg_cmp a b ↔ b < a := lg_cmp_gt a b
section SM
variable {d : Nat} {σ : hq_St} {A : TA}
def inL (v lo hi : Int64) : Bool := decide (lo.toInt ≤ v.toInt ∧ v.toInt ≤ hi.toInt)
theorem m_in (v lo hi : Int64) : hq_c 167 (d + 1) [.long v, .long lo, .long hi] σ (some (.int (bI (inL v lo hi)))) σ := by
  unfold bI inL
  by_cases c1 : lg_cmp v lo < 0
  · have h := lgc_lt.mp c1
    rw [fa_lt64] at h
    rw [if_neg (by simp; omega)]
    exact p_X10_in_0_1 c1
  · have h := mt lgc_lt.mpr c1
    rw [fa_lt64] at h
    by_cases c2 : 0 < lg_cmp v hi
    · have h2 := lgc_gt.mp c2
      rw [fa_lt64] at h2
      rw [if_neg (by simp; omega)]
      exact p_X10_in_0_2 c1 c2
    · have h2 := mt lgc_gt.mpr c2
      rw [fa_lt64] at h2
      rw [if_pos (by simp; omega)]
      exact p_X10_in_0_3 c1 c2
theorem bI01 (b : Bool) : bI b = 0 ∨ bI b = 1 := by cases b <;> decide
theorem m_has {x : Int32} {k : Nat} {b : Bool} (h : ((x >>> (nI k &&& 31)) &&& nI 1) = nI 1 ↔ b = true) : hq_c 168 (d + 1) [.int x, .int (nI k)] σ (some (.int (bI b))) σ := by
  unfold bI
  by_cases c : ((x >>> (nI k &&& 31)) &&& nI 1) = nI 1
  · rw [if_pos (h.mp c)]
    exact p_X10_has_0_1 c
  · rw [if_neg (fun q => c (h.mpr q))]
    exact p_X10_has_0_2 c
theorem m_hasN {n k : Nat} (hn : n < 2 ^ 31) (hk : k < 31) : hq_c 168 (d + 1) [.int (nI n), .int (nI k)] σ (some (.int (bI (n.testBit k)))) σ := m_has (hn_has hn hk)
theorem m_flag (b : Bool) : hq_c 169 (d + 1) [.int (bI b)] σ (some (.int (bI b))) σ := by
  cases b
  · exact p_X10_flag_0_1 rfl
  · exact p_X10_flag_0_2 (by decide)
theorem inL_int {x : Int32} {n : Nat} (hn : n < 2 ^ 31) : inL x.toInt64 (lN 0) (nI n - nI 1).toInt64 = inr x n := by
  unfold inL inr
  have e1 : (nI n - nI 1).toInt64.toInt = (n : Int) - 1 := by
    rw [Int32.toInt_toInt64]
    by_cases h : n = 0
    · subst h; decide
    · rw [pk_sub (by omega), nI_toInt (by omega)]; omega
  rw [e1, Int32.toInt_toInt64, lN_toInt (by decide)]
  congr 1
  apply propext
  constructor <;> intro h <;> omega
theorem m_isDoorn (R : Rm 61 A σ) (x : Int32) : hq_c 172 (d + 2) [.ref 52, .int x] σ (some (.int (bI (inr x (A 0 0))))) σ := by
  have h := m_in (d := d) (σ := σ) x.toInt64 (lN 0) (σ.1 52 3 - nI 1).toInt64
  have b1 := R.1.1
  refine p_X10_isDoor_0_1 ?_ (bI01 _)
  rw [R.2.1] at h ⊢
  rw [inL_int (by omega)] at h
  exact h
theorem m_isHingen (R : Rm 61 A σ) (x : Int32) : hq_c 173 (d + 2) [.ref 52, .int x] σ (some (.int (bI (inr x (A 1 0))))) σ := by
  have h := m_in (d := d) (σ := σ) x.toInt64 (lN 0) (σ.1 52 4 - nI 1).toInt64
  have b1 := R.1.2.1
  refine p_X10_isHinge_0_1 ?_ (bI01 _)
  rw [R.2.2.1] at h ⊢
  rw [inL_int (by omega)] at h
  exact h
theorem m_isDoort (R : Rm 65 A σ) (x : Int32) : hq_c 172 (d + 2) [.ref 52, .int x] σ (some (.int (bI (inr x (A 0 0))))) σ := by
  have h := m_in (d := d) (σ := σ) x.toInt64 (lN 0) (σ.1 52 3 - nI 1).toInt64
  have b1 := R.1.1
  refine p_X10_isDoor_0_1 ?_ (bI01 _)
  rw [R.2.1] at h ⊢
  rw [inL_int (by omega)] at h
  exact h
theorem m_isHinget (R : Rm 65 A σ) (x : Int32) : hq_c 173 (d + 2) [.ref 52, .int x] σ (some (.int (bI (inr x (A 1 0))))) σ := by
  have h := m_in (d := d) (σ := σ) x.toInt64 (lN 0) (σ.1 52 4 - nI 1).toInt64
  have b1 := R.1.2.1
  refine p_X10_isHinge_0_1 ?_ (bI01 _)
  rw [R.2.2.1] at h ⊢
  rw [inL_int (by omega)] at h
  exact h
theorem m_fits (R : Rm 61 A σ) {h e : Nat} (hh : h < A 1 0) (he : e < A 0 0) : hq_c 188 (d + 1) [.ref 52, .int (nI h), .int (nI e)] σ (some (.int (bI (fitsA A h e)))) σ := by
  obtain ⟨W, -, -, hD, -, hH, -⟩ := R
  have h1 := (hH h hh).2.1
  have h2 := (hD e he).2.2.1
  have w1 := (W.2.2.2.1 h hh).1
  have w2 := (W.2.2.1 e he).2.2.2.1
  have b1 := W.1
  have b2 := W.2.1
  have o1 : vp_in (nI 12 + nI h) 50 := by rw [nplus]; exact vin (by omega) (by decide)
  have o2 : vp_in (nI e) 8 := vin (by omega) (by decide)
  have c1 : (nI 12 + nI h).toNatClampNeg = 12 + h := by rw [nplus]; exact clamp (by omega)
  have c2 : (nI e).toNatClampNeg = e := clamp (by omega)
  unfold bI fitsA
  by_cases q1 : A 6 h = 2
  · rw [if_pos (by simp [q1])]
    exact p_X10_fits_0_1 o1 (by rw [c1, h1, q1])
  · have n1 : ¬ σ.1 61 (nI 12 + nI h).toNatClampNeg = nI 2 := by rw [c1, h1, nI_eq (by omega) (by omega)]; exact q1
    by_cases q2 : A 6 h = A 4 e
    · rw [if_pos (by simp [q2])]
      exact p_X10_fits_0_2 o1 n1 o2 o1 (by rw [c1, c2, h1, h2, q2])
    · rw [if_neg (by simp [q1, q2])]
      exact p_X10_fits_0_3 o1 n1 o2 o1 (by rw [c1, c2, h1, h2, nI_eq (by omega) (by omega)]; exact q2)
theorem place_eq {p q : Nat} (hp : p < 2 ^ 30) (hq : q < 2 ^ 30) : nI p - nI 1 = nI q - nI 1 ↔ p = q := by
  constructor
  · intro h
    rw [fa_eq, pk_sub_toInt hp (by decide), pk_sub_toInt hq (by decide)] at h
    omega
  · intro h; rw [h]
theorem m_holdOfn (R : Rm 61 A σ) {h : Nat} (hh : h < A 1 0) : hq_c 189 (d + 1) [.ref 52, .ref 61, .int (nI h)] σ (some (.int (nI (h0 A h)))) σ := by
  obtain ⟨W, -, -, hD, hH, hR, -⟩ := R
  have b2 := W.2.1
  have c1 : (nI 24 + nI h).toNatClampNeg = 24 + h := by rw [nplus]; exact clamp (by omega)
  have c2 : (nI h).toNatClampNeg = h := clamp (by omega)
  have := p_X10_holdOfn_0_1 (d := d) (σ := σ) (l2 := nI h) (by decide) (by rw [nplus]; exact vin (by omega) (by decide)) (vin (by omega) (by decide))
  rw [c1, c2, (hH h hh).1, (hR h hh).2.2.1, hold_val (W.2.2.2.1 h hh).2.2.1 (W.2.2.2.1 h hh).2.2.2.2.1] at this
  exact this
theorem m_onn (R : Rm 61 A σ) {p : Nat} (hp : p ≤ 8) : hq_c 190 (d + 1) [.ref 52, .ref 61, .int (nI p - nI 1)] σ (some (.int (nI (onA A p)))) σ := by
  obtain ⟨W, -, hN, hD, hH, hR, -⟩ := R
  have b1 := W.1
  have b2 := W.2.1
  refine p_X10_onn_0_1 ?_
  refine hq_m.for (fun j => [some (.ref 52), some (.ref 61), some (.int (nI p - nI 1)), some (.int (nI (sbits (fun h => A 11 h == p) j))), some (.int (nI j))]) (fun _ => σ) (A 1 0) ?_ ?_ 0 (Nat.zero_le _)
  · intro j hj ih
    have c1 : nI j < σ.1 52 4 := by rw [hN]; exact nlt hj (by omega)
    have cj : (nI j).toNatClampNeg = j := clamp (by omega)
    have w := (W.2.2.2.1 j hj).2.2.2.2.2.2.1
    have hq : σ.1 61 (nI j).toNatClampNeg = nI p - nI 1 ↔ A 11 j = p := by rw [cj, (hR j hj).1]; exact place_eq (by omega) (by omega)
    by_cases q : A 11 j = p
    · refine p_X10_onn_4_1 c1 (vin (by omega) (by decide)) (hq.mpr q) ?_
      rw [sbits_1 (by simp [q])] at ih
      rw [hn_shl j (by omega), orr, nplus]
      exact ih
    · refine p_X10_onn_4_2 c1 (vin (by omega) (by decide)) (fun z => q (hq.mp z)) ?_
      rw [sbits_0 (by simp [q])] at ih
      rw [orr, nplus, Nat.or_zero]
      exact ih
  · exact p_X10_onn_4_3 (by rw [hN]; exact nI_nlt (Nat.le_refl _) (by omega))
theorem m_holdsOfn (R : Rm 61 A σ) {n : Nat} (hn : n < 4096) : hq_c 191 (d + 2) [.ref 52, .ref 61, .int (nI n)] σ (some (.int (nI (sset n (h0 A) (A 1 0))))) σ := by
  have R0 := R
  obtain ⟨W, -, hN, hD, hH, hR, -⟩ := R
  have b2 := W.2.1
  refine p_X10_holdsOfn_0_1 ?_
  refine hq_m.for (fun j => [some (.ref 52), some (.ref 61), some (.int (nI n)), some (.int (nI (sset n (h0 A) j))), some (.int (nI j))]) (fun _ => σ) (A 1 0) ?_ ?_ 0 (Nat.zero_le _)
  · intro j hj ih
    have c1 : nI j < σ.1 52 4 := by rw [hN]; exact nlt hj (by omega)
    have hh := m_hasN (d := d) (σ := σ) (n := n) (k := j) (by omega) (by omega)
    cases hb : n.testBit j with
    | false =>
      rw [hb] at hh
      refine p_X10_holdsOfn_4_1 c1 hh (by decide) ?_
      rw [sset_0 hb] at ih
      rw [nplus, nplus]
      exact ih
    | true =>
      rw [hb] at hh
      refine p_X10_holdsOfn_4_2 c1 hh (by decide) (m_holdOfn R0 hj) ?_
      rw [sset_1 hb] at ih
      rw [nplus, nplus]
      exact ih
  · exact p_X10_holdsOfn_4_3 (by rw [hN]; exact nI_nlt (Nat.le_refl _) (by omega))
theorem m_shutsn (R : Rm 61 A σ) {e n : Nat} (he : e < A 0 0) (hn : n < 4096) : hq_c 192 (d + 3) [.ref 52, .ref 61, .int (nI e), .int (nI n)] σ (some (.int (bI (shutF A (h0 A) e n)))) σ := by
  have R0 := R
  obtain ⟨W, -, hN, hD, hH, -⟩ := R
  have b1 := W.1
  have hb := s_bitCount (d := d + 1) (σ := σ) hn
  have hp := pop_le n
  have hw := (W.2.2.1 e he).2.2.2.2
  have ce : (nI e).toNatClampNeg = e := clamp (by omega)
  unfold bI shutF
  by_cases q : pop n = 2
  · have h2 := m_holdsOfn (d := d) R0 hn
    have hs := sum_lt W (h0_le W) n
    by_cases q2 : A 5 e ≤ sset n (h0 A) (A 1 0)
    · rw [if_pos (by simp [q, q2])]
      refine p_X10_shutsn_0_2 hb (by rw [q]) h2 (vin (by omega) (by decide)) ?_
      rw [ce, (hD e he).2.2.2]
      exact nI_nlt q2 (by omega)
    · rw [if_neg (by simp [q, q2])]
      refine p_X10_shutsn_0_1 hb (by rw [q]) h2 (vin (by omega) (by decide)) ?_
      rw [ce, (hD e he).2.2.2]
      exact nlt (by omega) (by omega)
  · rw [if_neg (by simp [q])]
    exact p_X10_shutsn_0_3 hb (by rw [nI_eq (by omega) (by decide)]; exact q)
theorem m_onDn (R : Rm 61 A σ) {e : Nat} (he : e < A 0 0) : hq_c 190 (d + 1) [.ref 52, .ref 61, .int (nI e)] σ (some (.int (nI (onA A (e + 1))))) σ := by
  have b1 := R.1.1
  have := m_onn (d := d) R (p := e + 1) (by omega)
  rwa [pk_sub (by omega), Nat.add_sub_cancel] at this
theorem m_isShutn (R : Rm 61 A σ) {e : Nat} (he : e < A 0 0) : hq_c 193 (d + 4) [.ref 52, .ref 61, .int (nI e)] σ (some (.int (bI (shutF A (h0 A) e (onA A (e + 1)))))) σ :=
  p_X10_isShutn_0_1 (m_onDn R he) (m_shutsn R he (onA_lt A _ R.1.2.1)) (bI01 _)
theorem m_shutOfn (R : Rm 61 A σ) : hq_c 194 (d + 5) [.ref 52, .ref 61] σ (some (.int (nI (shut0 A)))) σ := by
  have R0 := R
  obtain ⟨W, hN, -⟩ := R
  have b1 := W.1
  refine p_X10_shutOfn_0_1 ?_
  refine hq_m.for (fun j => [some (.ref 52), some (.ref 61), some (.int (nI (sbits (fun e => shutF A (h0 A) e (onA A (e + 1))) j))), some (.int (nI j))]) (fun _ => σ) (A 0 0) ?_ ?_ 0 (Nat.zero_le _)
  · intro j hj ih
    have c1 : nI j < σ.1 52 3 := by rw [hN]; exact nlt hj (by omega)
    have h1 := m_isShutn (d := d) R0 hj
    cases hq : shutF A (h0 A) j (onA A (j + 1)) with
    | false =>
      rw [hq] at h1
      refine p_X10_shutOfn_4_1 c1 h1 (by decide) ?_
      rw [sbits_0 (by simp [hq])] at ih
      rw [orr, nplus, Nat.or_zero]
      exact ih
    | true =>
      rw [hq] at h1
      refine p_X10_shutOfn_4_2 c1 h1 (by decide) ?_
      rw [sbits_1 (by simp [hq])] at ih
      rw [hn_shl j (by omega), orr, nplus]
      exact ih
  · exact p_X10_shutOfn_4_3 (by rw [hN]; exact nI_nlt (Nat.le_refl _) (by omega))
theorem m_holdOft (R : Rm 65 A σ) {h : Nat} (hh : h < A 1 0) : hq_c 189 (d + 1) [.ref 52, .ref 65, .int (nI h)] σ (some (.int (nI (h0 A h)))) σ := by
  obtain ⟨W, -, -, hD, hH, hR, -⟩ := R
  have b2 := W.2.1
  have c1 : (nI 24 + nI h).toNatClampNeg = 24 + h := by rw [nplus]; exact clamp (by omega)
  have c2 : (nI h).toNatClampNeg = h := clamp (by omega)
  have := p_X10_holdOft_0_1 (d := d) (σ := σ) (l2 := nI h) (by decide) (by rw [nplus]; exact vin (by omega) (by decide)) (vin (by omega) (by decide))
  rw [c1, c2, (hH h hh).1, (hR h hh).2.2.1, hold_val (W.2.2.2.1 h hh).2.2.1 (W.2.2.2.1 h hh).2.2.2.2.1] at this
  exact this
theorem m_ont (R : Rm 65 A σ) {p : Nat} (hp : p ≤ 8) : hq_c 190 (d + 1) [.ref 52, .ref 65, .int (nI p - nI 1)] σ (some (.int (nI (onA A p)))) σ := by
  obtain ⟨W, -, hN, hD, hH, hR, -⟩ := R
  have b1 := W.1
  have b2 := W.2.1
  refine p_X10_ont_0_1 ?_
  refine hq_m.for (fun j => [some (.ref 52), some (.ref 65), some (.int (nI p - nI 1)), some (.int (nI (sbits (fun h => A 11 h == p) j))), some (.int (nI j))]) (fun _ => σ) (A 1 0) ?_ ?_ 0 (Nat.zero_le _)
  · intro j hj ih
    have c1 : nI j < σ.1 52 4 := by rw [hN]; exact nlt hj (by omega)
    have cj : (nI j).toNatClampNeg = j := clamp (by omega)
    have w := (W.2.2.2.1 j hj).2.2.2.2.2.2.1
    have hq : σ.1 65 (nI j).toNatClampNeg = nI p - nI 1 ↔ A 11 j = p := by rw [cj, (hR j hj).1]; exact place_eq (by omega) (by omega)
    by_cases q : A 11 j = p
    · refine p_X10_ont_4_1 c1 (vin (by omega) (by decide)) (hq.mpr q) ?_
      rw [sbits_1 (by simp [q])] at ih
      rw [hn_shl j (by omega), orr, nplus]
      exact ih
    · refine p_X10_ont_4_2 c1 (vin (by omega) (by decide)) (fun z => q (hq.mp z)) ?_
      rw [sbits_0 (by simp [q])] at ih
      rw [orr, nplus, Nat.or_zero]
      exact ih
  · exact p_X10_ont_4_3 (by rw [hN]; exact nI_nlt (Nat.le_refl _) (by omega))
theorem m_holdsOft (R : Rm 65 A σ) {n : Nat} (hn : n < 4096) : hq_c 191 (d + 2) [.ref 52, .ref 65, .int (nI n)] σ (some (.int (nI (sset n (h0 A) (A 1 0))))) σ := by
  have R0 := R
  obtain ⟨W, -, hN, hD, hH, hR, -⟩ := R
  have b2 := W.2.1
  refine p_X10_holdsOft_0_1 ?_
  refine hq_m.for (fun j => [some (.ref 52), some (.ref 65), some (.int (nI n)), some (.int (nI (sset n (h0 A) j))), some (.int (nI j))]) (fun _ => σ) (A 1 0) ?_ ?_ 0 (Nat.zero_le _)
  · intro j hj ih
    have c1 : nI j < σ.1 52 4 := by rw [hN]; exact nlt hj (by omega)
    have hh := m_hasN (d := d) (σ := σ) (n := n) (k := j) (by omega) (by omega)
    cases hb : n.testBit j with
    | false =>
      rw [hb] at hh
      refine p_X10_holdsOft_4_1 c1 hh (by decide) ?_
      rw [sset_0 hb] at ih
      rw [nplus, nplus]
      exact ih
    | true =>
      rw [hb] at hh
      refine p_X10_holdsOft_4_2 c1 hh (by decide) (m_holdOft R0 hj) ?_
      rw [sset_1 hb] at ih
      rw [nplus, nplus]
      exact ih
  · exact p_X10_holdsOft_4_3 (by rw [hN]; exact nI_nlt (Nat.le_refl _) (by omega))
theorem m_shutst (R : Rm 65 A σ) {e n : Nat} (he : e < A 0 0) (hn : n < 4096) : hq_c 192 (d + 3) [.ref 52, .ref 65, .int (nI e), .int (nI n)] σ (some (.int (bI (shutF A (h0 A) e n)))) σ := by
  have R0 := R
  obtain ⟨W, -, hN, hD, hH, -⟩ := R
  have b1 := W.1
  have hb := s_bitCount (d := d + 1) (σ := σ) hn
  have hp := pop_le n
  have hw := (W.2.2.1 e he).2.2.2.2
  have ce : (nI e).toNatClampNeg = e := clamp (by omega)
  unfold bI shutF
  by_cases q : pop n = 2
  · have h2 := m_holdsOft (d := d) R0 hn
    have hs := sum_lt W (h0_le W) n
    by_cases q2 : A 5 e ≤ sset n (h0 A) (A 1 0)
    · rw [if_pos (by simp [q, q2])]
      refine p_X10_shutst_0_2 hb (by rw [q]) h2 (vin (by omega) (by decide)) ?_
      rw [ce, (hD e he).2.2.2]
      exact nI_nlt q2 (by omega)
    · rw [if_neg (by simp [q, q2])]
      refine p_X10_shutst_0_1 hb (by rw [q]) h2 (vin (by omega) (by decide)) ?_
      rw [ce, (hD e he).2.2.2]
      exact nlt (by omega) (by omega)
  · rw [if_neg (by simp [q])]
    exact p_X10_shutst_0_3 hb (by rw [nI_eq (by omega) (by decide)]; exact q)
theorem m_onDt (R : Rm 65 A σ) {e : Nat} (he : e < A 0 0) : hq_c 190 (d + 1) [.ref 52, .ref 65, .int (nI e)] σ (some (.int (nI (onA A (e + 1))))) σ := by
  have b1 := R.1.1
  have := m_ont (d := d) R (p := e + 1) (by omega)
  rwa [pk_sub (by omega), Nat.add_sub_cancel] at this
theorem m_isShutt (R : Rm 65 A σ) {e : Nat} (he : e < A 0 0) : hq_c 193 (d + 4) [.ref 52, .ref 65, .int (nI e)] σ (some (.int (bI (shutF A (h0 A) e (onA A (e + 1)))))) σ :=
  p_X10_isShutt_0_1 (m_onDt R he) (m_shutst R he (onA_lt A _ R.1.2.1)) (bI01 _)
theorem m_shutOft (R : Rm 65 A σ) : hq_c 194 (d + 5) [.ref 52, .ref 65] σ (some (.int (nI (shut0 A)))) σ := by
  have R0 := R
  obtain ⟨W, hN, -⟩ := R
  have b1 := W.1
  refine p_X10_shutOft_0_1 ?_
  refine hq_m.for (fun j => [some (.ref 52), some (.ref 65), some (.int (nI (sbits (fun e => shutF A (h0 A) e (onA A (e + 1))) j))), some (.int (nI j))]) (fun _ => σ) (A 0 0) ?_ ?_ 0 (Nat.zero_le _)
  · intro j hj ih
    have c1 : nI j < σ.1 52 3 := by rw [hN]; exact nlt hj (by omega)
    have h1 := m_isShutt (d := d) R0 hj
    cases hq : shutF A (h0 A) j (onA A (j + 1)) with
    | false =>
      rw [hq] at h1
      refine p_X10_shutOft_4_1 c1 h1 (by decide) ?_
      rw [sbits_0 (by simp [hq])] at ih
      rw [orr, nplus, Nat.or_zero]
      exact ih
    | true =>
      rw [hq] at h1
      refine p_X10_shutOft_4_2 c1 h1 (by decide) ?_
      rw [sbits_1 (by simp [hq])] at ih
      rw [hn_shl j (by omega), orr, nplus]
      exact ih
  · exact p_X10_shutOft_4_3 (by rw [hN]; exact nI_nlt (Nat.le_refl _) (by omega))
end SM
