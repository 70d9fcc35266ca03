/-! Numbers, sets as bits. (fa_ rows: out of the kit's NUMBERS.to-paste.) -/
theorem fa_lt (a b : Int32) : a < b ↔ a.toInt < b.toInt := Int32.lt_iff_toInt_lt
theorem fa_le (a b : Int32) : a ≤ b ↔ a.toInt ≤ b.toInt := Int32.le_iff_toInt_le
theorem fa_eq (a b : Int32) : a = b ↔ a.toInt = b.toInt := Int32.toInt_inj.symm
theorem fa_lt64 (a b : Int64) : a < b ↔ a.toInt < b.toInt := Int64.lt_iff_toInt_lt
theorem fa_le64 (a b : Int64) : a ≤ b ↔ a.toInt ≤ b.toInt := Int64.le_iff_toInt_le
theorem fa_eq64 (a b : Int64) : a = b ↔ a.toInt = b.toInt := Int64.toInt_inj.symm
theorem fa_and (a b : Nat) : nI a &&& nI b = nI (a &&& b) := by
  apply Int32.toBitVec_inj.1
  show BitVec.ofNat 32 a &&& BitVec.ofNat 32 b = BitVec.ofNat 32 (a &&& b)
  apply BitVec.eq_of_getLsbD_eq
  intro i hi
  simp [hi]
theorem fa_or (a b : Nat) : nI a ||| nI b = nI (a ||| b) := by
  apply Int32.toBitVec_inj.1
  show BitVec.ofNat 32 a ||| BitVec.ofNat 32 b = BitVec.ofNat 32 (a ||| b)
  apply BitVec.eq_of_getLsbD_eq
  intro i hi
  simp [hi]
theorem fa_bit {n j : Nat} (hj : j < 31) : nI n &&& nI (2 ^ j) = 0 ↔ n.testBit j = false := by
  have h2 : (2 : Nat) ^ j < 2 ^ 31 := Nat.pow_lt_pow_right (by decide) hj
  have hle : n &&& 2 ^ j ≤ 2 ^ j := Nat.and_le_right
  have e : n &&& 2 ^ j = 0 ↔ n.testBit j = false := by
    constructor
    · intro h
      have h1 : (n &&& 2 ^ j).testBit j = false := by rw [h]; simp
      rw [Nat.testBit_and] at h1
      first | simpa using h1 | simpa [Nat.testBit_two_pow_self] using h1 | simpa [Nat.testBit_two_pow] using h1
    · intro h
      apply Nat.eq_of_testBit_eq
      intro i
      rw [Nat.testBit_and]
      by_cases hi : j = i
      · subst hi; simp [h]
      · first | (simp [Nat.testBit_two_pow, hi]; done) | (simp [Nat.testBit_two_pow_of_ne hi]; done)
  rw [fa_and]
  constructor
  · intro h
    apply e.mp
    rcases Nat.eq_zero_or_pos (n &&& 2 ^ j) with z | z
    · exact z
    · exact absurd h (nI_ne0 z (Nat.lt_of_le_of_lt hle h2))
  · intro h
    rw [e.mpr h]; exact nI_0
theorem hn_shl : ∀ n, n < 31 → nI 1 <<< (nI n &&& 31) = nI (2 ^ n) := by decide +kernel
/-- one bit of a set -/
theorem hn_bit {n j : Nat} (hj : j < 31) : (nI n &&& (nI 1 <<< (nI j &&& 31))) = 0 ↔ n.testBit j = false := by rw [hn_shl j hj]; exact fa_bit hj
theorem hn_bit0 {n j : Nat} (hj : j < 31) (h : n.testBit j = false) : (nI n &&& (nI 1 <<< (nI j &&& 31))) = 0 := (hn_bit hj).mpr h
theorem hn_bit1 {n j : Nat} (hj : j < 31) (h : n.testBit j = true) : ¬ (nI n &&& (nI 1 <<< (nI j &&& 31))) = 0 := fun q => by rw [(hn_bit hj).mp q] at h; cases h
theorem hn_has {n j : Nat} (hn : n < 2 ^ 31) (hj : j < 31) : ((nI n >>> (nI j &&& 31)) &&& nI 1) = nI 1 ↔ n.testBit j = true := by
  have e : nI n >>> (nI j &&& 31) = nI (n / 2 ^ j) := pk_shrN hn _ j (by
    have : ∀ k, k < 31 → ((nI k &&& 31).toBitVec.smod 32).toNat = k := by decide +kernel
    exact this j hj)
  rw [e, fa_and, Nat.and_one_is_mod]
  have h2 : n / 2 ^ j % 2 < 2 := Nat.mod_lt _ (by decide)
  rw [nI_eq (by omega) (by omega)]
  rw [Nat.testBit_eq_decide_div_mod_eq]
  simp
def sset (n : Nat) (f : Nat → Nat) : Nat → Nat
  | 0 => 0
  | m + 1 => sset n f m + (if n.testBit m then f m else 0)
def sbits (p : Nat → Bool) : Nat → Nat
  | 0 => 0
  | m + 1 => sbits p m ||| (if p m then 2 ^ m else 0)
theorem sbits_lt (p : Nat → Bool) : ∀ m, sbits p m < 2 ^ m
  | 0 => Nat.one_pos
  | m + 1 => by
    have ih := sbits_lt p m
    unfold sbits
    apply Nat.or_lt_two_pow
    · exact Nat.lt_of_lt_of_le ih (Nat.pow_le_pow_right (by decide) (Nat.le_succ m))
    · split
      · exact Nat.pow_lt_pow_right (by decide) (Nat.lt_succ_self m)
      · exact Nat.two_pow_pos _
theorem sbits_test (p : Nat → Bool) (j : Nat) : ∀ m, (sbits p m).testBit j = (decide (j < m) && p j)
  | 0 => by simp [sbits]
  | m + 1 => by
    have ih := sbits_test p j m
    unfold sbits
    rw [Nat.testBit_or, ih]
    by_cases hj : j = m
    · subst hj
      cases hp : p j <;> simp [Nat.testBit_two_pow]
    · have e : (if p m = true then 2 ^ m else 0).testBit j = false := by
        split
        · rw [Nat.testBit_two_pow]; simp; omega
        · simp
      rw [e]
      by_cases h2 : j < m
      · simp [h2, Nat.lt_succ_of_lt h2]
      · have : ¬ j < m + 1 := by omega
        simp [h2, this]
def pop (x : Nat) : Nat := sset x (fun _ => 1) 12
theorem vin {j n : Nat} (h : j < n) (hn : n < 2 ^ 31) : vp_in (nI j) n := vp_in_nI h hn
theorem nlt {a b : Nat} (h : a < b) (hb : b < 2 ^ 31) : nI a < nI b := nI_lt h hb
def swar (l0 : Int32) : Int32 := ((((((((l0 - (((l0).toUInt32 >>> (((nI 1)).toUInt32 &&& Int32.toUInt32 31)).toInt32 &&& (nI 1431655765))) &&& (nI 858993459)) + ((((l0 - (((l0).toUInt32 >>> (((nI 1)).toUInt32 &&& Int32.toUInt32 31)).toInt32 &&& (nI 1431655765)))).toUInt32 >>> (((nI 2)).toUInt32 &&& Int32.toUInt32 31)).toInt32 &&& (nI 858993459))) + (((((l0 - (((l0).toUInt32 >>> (((nI 1)).toUInt32 &&& Int32.toUInt32 31)).toInt32 &&& (nI 1431655765))) &&& (nI 858993459)) + ((((l0 - (((l0).toUInt32 >>> (((nI 1)).toUInt32 &&& Int32.toUInt32 31)).toInt32 &&& (nI 1431655765)))).toUInt32 >>> (((nI 2)).toUInt32 &&& Int32.toUInt32 31)).toInt32 &&& (nI 858993459)))).toUInt32 >>> (((nI 4)).toUInt32 &&& Int32.toUInt32 31)).toInt32) &&& (nI 252645135)) + (((((((l0 - (((l0).toUInt32 >>> (((nI 1)).toUInt32 &&& Int32.toUInt32 31)).toInt32 &&& (nI 1431655765))) &&& (nI 858993459)) + ((((l0 - (((l0).toUInt32 >>> (((nI 1)).toUInt32 &&& Int32.toUInt32 31)).toInt32 &&& (nI 1431655765)))).toUInt32 >>> (((nI 2)).toUInt32 &&& Int32.toUInt32 31)).toInt32 &&& (nI 858993459))) + (((((l0 - (((l0).toUInt32 >>> (((nI 1)).toUInt32 &&& Int32.toUInt32 31)).toInt32 &&& (nI 1431655765))) &&& (nI 858993459)) + ((((l0 - (((l0).toUInt32 >>> (((nI 1)).toUInt32 &&& Int32.toUInt32 31)).toInt32 &&& (nI 1431655765)))).toUInt32 >>> (((nI 2)).toUInt32 &&& Int32.toUInt32 31)).toInt32 &&& (nI 858993459)))).toUInt32 >>> (((nI 4)).toUInt32 &&& Int32.toUInt32 31)).toInt32) &&& (nI 252645135))).toUInt32 >>> (((nI 8)).toUInt32 &&& Int32.toUInt32 31)).toInt32) + ((((((((l0 - (((l0).toUInt32 >>> (((nI 1)).toUInt32 &&& Int32.toUInt32 31)).toInt32 &&& (nI 1431655765))) &&& (nI 858993459)) + ((((l0 - (((l0).toUInt32 >>> (((nI 1)).toUInt32 &&& Int32.toUInt32 31)).toInt32 &&& (nI 1431655765)))).toUInt32 >>> (((nI 2)).toUInt32 &&& Int32.toUInt32 31)).toInt32 &&& (nI 858993459))) + (((((l0 - (((l0).toUInt32 >>> (((nI 1)).toUInt32 &&& Int32.toUInt32 31)).toInt32 &&& (nI 1431655765))) &&& (nI 858993459)) + ((((l0 - (((l0).toUInt32 >>> (((nI 1)).toUInt32 &&& Int32.toUInt32 31)).toInt32 &&& (nI 1431655765)))).toUInt32 >>> (((nI 2)).toUInt32 &&& Int32.toUInt32 31)).toInt32 &&& (nI 858993459)))).toUInt32 >>> (((nI 4)).toUInt32 &&& Int32.toUInt32 31)).toInt32) &&& (nI 252645135)) + (((((((l0 - (((l0).toUInt32 >>> (((nI 1)).toUInt32 &&& Int32.toUInt32 31)).toInt32 &&& (nI 1431655765))) &&& (nI 858993459)) + ((((l0 - (((l0).toUInt32 >>> (((nI 1)).toUInt32 &&& Int32.toUInt32 31)).toInt32 &&& (nI 1431655765)))).toUInt32 >>> (((nI 2)).toUInt32 &&& Int32.toUInt32 31)).toInt32 &&& (nI 858993459))) + (((((l0 - (((l0).toUInt32 >>> (((nI 1)).toUInt32 &&& Int32.toUInt32 31)).toInt32 &&& (nI 1431655765))) &&& (nI 858993459)) + ((((l0 - (((l0).toUInt32 >>> (((nI 1)).toUInt32 &&& Int32.toUInt32 31)).toInt32 &&& (nI 1431655765)))).toUInt32 >>> (((nI 2)).toUInt32 &&& Int32.toUInt32 31)).toInt32 &&& (nI 858993459)))).toUInt32 >>> (((nI 4)).toUInt32 &&& Int32.toUInt32 31)).toInt32) &&& (nI 252645135))).toUInt32 >>> (((nI 8)).toUInt32 &&& Int32.toUInt32 31)).toInt32)).toUInt32 >>> (((nI 16)).toUInt32 &&& Int32.toUInt32 31)).toInt32) &&& (nI 63))
theorem swar_ok : ∀ a, a < 64 → ∀ b, b < 64 → swar (nI (64 * a + b)) = nI (pop (64 * a + b)) := by decide +kernel
theorem swar_pop {n : Nat} (h : n < 4096) : swar (nI n) = nI (pop n) := by
  have := swar_ok (n / 64) (by omega) (n % 64) (by omega)
  rwa [show 64 * (n / 64) + n % 64 = n by omega] at this
