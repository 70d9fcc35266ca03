/-! Small calls: sign, end, secret, sheet, heard, forget. -/
theorem lt_nI {x : Int32} {k : Nat} (h : k < 2 ^ 31) : x < nI k ↔ x.toInt < k := by rw [fa_lt, nI_toInt h]
theorem nI_ltx {x : Int32} {k : Nat} (h : k < 2 ^ 31) : nI k < x ↔ (k : Int) < x.toInt := by rw [fa_lt, nI_toInt h]
theorem ltz {x : Int32} : x < 0 ↔ x.toInt < 0 := by rw [fa_lt]; exact Iff.rfl
theorem eq_nI {x : Int32} {k : Nat} (h : k < 2 ^ 31) : x = nI k ↔ x.toInt = k := by rw [fa_eq, nI_toInt h]
theorem eq_0 {x : Int32} : x = 0 ↔ x.toInt = 0 := by rw [fa_eq]; exact Iff.rfl
theorem nat_of {x : Int32} (h : 0 ≤ x.toInt) : x = nI x.toInt.toNat := by
  rw [fa_eq, nI_toInt (by have := Int32.toInt_lt x; omega)]; omega
def inb (x : Int32) (a b : Nat) : Bool := decide ((a : Int) ≤ x.toInt ∧ x.toInt ≤ b)
theorem inb_of {x : Int32} {a b : Nat} (h : inb x a b = true) : ∃ k, a ≤ k ∧ k ≤ b ∧ x = nI k := by
  unfold inb at h
  rw [decide_eq_true_eq] at h
  exact ⟨x.toInt.toNat, by omega, by omega, nat_of (by omega)⟩
theorem inL_b {x : Int32} {a b : Nat} (ha : a < 2 ^ 31) (hb : b < 2 ^ 31) : inL x.toInt64 (lN a) (lN b) = inb x a b := by
  unfold inL inb
  rw [Int32.toInt_toInt64, lN_toInt (by omega), lN_toInt (by omega)]
/-- the k-th byte of a number, the highest first -/
def byt (v : Int32) (k : Nat) : Nat := v.toBitVec.toNat / 2 ^ (24 - 8 * k) % 256
theorem byt_lt (v : Int32) (k : Nat) : byt v k < 256 := Nat.mod_lt _ (by decide)
theorem nI_bv (x : Int32) : x = nI x.toBitVec.toNat := by
  apply Int32.toBitVec_inj.1
  show x.toBitVec = BitVec.ofNat 32 x.toBitVec.toNat
  simp
theorem and255 (n : Nat) : n &&& 255 = n % 256 := Nat.and_two_pow_sub_one_eq_mod n 8
theorem byt_c {v : Int32} {k : Nat} (s : Int32) (hs : ((s.toUInt32 &&& Int32.toUInt32 31).toBitVec % 32).toNat = 24 - 8 * k) : ((v.toUInt32 >>> (s.toUInt32 &&& Int32.toUInt32 31)).toInt32 &&& nI 255) = nI (byt v k) := by
  have h := pk_ushr v s _ hs
  rw [nI_bv ((v.toUInt32 >>> (s.toUInt32 &&& Int32.toUInt32 31)).toInt32), h, fa_and, and255]
  rfl
theorem byt_m {v : Int32} {k : Nat} (hk : k < 4) : ((v >>> ((nI 24 - nI 8 * nI k) &&& 31)) &&& nI 255) = nI (byt v k) := by
  have e : (nI 24 - nI 8 * nI k) &&& 31 = nI (24 - 8 * k) := by
    have : ∀ k, k < 4 → (nI 24 - nI 8 * nI k) &&& 31 = nI (24 - 8 * k) := by decide +kernel
    exact this k hk
  rw [e]
  have sm : ∀ s, s < 25 → ((nI s).toBitVec.smod 32).toNat = s := by decide +kernel
  have hb : (v >>> nI (24 - 8 * k)).toBitVec = v.toBitVec.sshiftRight (24 - 8 * k) := by
    show v.toBitVec.sshiftRight' _ = _
    rw [BitVec.sshiftRight_eq', sm _ (by omega)]
  apply Int32.toBitVec_inj.1
  show (v >>> nI (24 - 8 * k)).toBitVec &&& BitVec.ofNat 32 255 = BitVec.ofNat 32 (byt v k)
  rw [hb]
  apply BitVec.eq_of_getLsbD_eq
  intro i hi
  rw [BitVec.getLsbD_and, BitVec.getLsbD_ofNat, BitVec.getLsbD_ofNat, BitVec.getLsbD_sshiftRight]
  unfold byt
  have e2 : (255 : Nat) = 2 ^ 8 - 1 := by decide
  have e3 : (256 : Nat) = 2 ^ 8 := by decide
  rw [e2, e3, Nat.testBit_two_pow_sub_one, Nat.testBit_mod_two_pow, Nat.testBit_div_two_pow]
  by_cases h8 : i < 8
  · have h32 : 24 - 8 * k + i < 32 := by omega
    have h33 : i + (24 - 8 * k) < 32 := by omega
    have h34 : ¬ 32 ≤ i := by omega
    simp [h8, hi, h33, h34, BitVec.getLsbD, Nat.add_comm]
  · simp [h8]
def upN (f : Nat → Nat) (k v : Nat) : Nat → Nat := fun j => if j = k then v else f j
def app4 (n : Nat) (f : Nat → Nat) (v : Int32) : Nat → Nat := upN (upN (upN (upN f n (byt v 0)) (n + 1) (byt v 1)) (n + 2) (byt v 2)) (n + 3) (byt v 3)
section SMALL
variable {d : Nat} {σ : hq_St} {A : TA}
theorem cX.push {n b : Nat} {f : Nat → Nat} (h : cX n f σ) (hn : n < 80) (hb : b < 256) {c : Nat} (hc : c = n) {w : Int32} (hw : w = nI (n + 1)) : cX (n + 1) (upN f n b) (hq_sI (hq_sI σ 2 c (nI b)) 1 1 w) := by
  subst hc hw
  refine ⟨by omega, sI_eq, fun j hj => ?_⟩
  unfold upN
  rw [sI_ne (by decide), sI_at, if_pos rfl]
  by_cases e : j = c
  · rw [if_pos e, if_pos e]; exact ⟨hb, rfl⟩
  · rw [if_neg e, if_neg e]; exact h.2.2 j (by omega)
theorem s_sign1 {n : Nat} {f : Nat → Nat} (h : cX n f σ) (hn : n < 80) {v s : Int32} (hs0 : ¬ s < 0) {k : Nat} (hs : ((s.toUInt32 &&& Int32.toUInt32 31).toBitVec % 32).toNat = 24 - 8 * k) : ∃ σ', (∀ w τ, hq_m 61 (d + 1) w τ 8 [some (.ref 1), some (.int v), some (.int (s + (-8)))] [] σ' → hq_m 61 (d + 1) w τ 8 [some (.ref 1), some (.int v), some (.int s)] [] σ) ∧ cX (n + 1) (upN f n (byt v k)) σ' ∧ Fr [(1, 2), (2, 0)] σ σ' := by
  have c : (σ.1 1 1).toNatClampNeg = n := by rw [h.2.1]; exact clamp (by omega)
  refine ⟨_, fun w τ q => p_X6_addFour_8_2 hs0 (by rw [h.2.1]; exact vin hn (by decide)) rfl q, ?_, ((Fr.rf σ).sI rfl).sI rfl⟩
  rw [byt_c s hs]
  exact h.push hn (byt_lt v k) c (by rw [sI_ne (by decide), h.2.1, nplus])
theorem s_sign {n : Nat} {f : Nat → Nat} (h : cX n f σ) (v : Int32) : ∃ τ, hq_c 110 (d + 2) [.ref 0, .int v] σ (some (.int (if n ≤ 76 then nI (n + 4) else -1))) τ ∧ cX (if n ≤ 76 then n + 4 else n) (if n ≤ 76 then app4 n f v else f) τ ∧ Fr [(1, 2), (2, 0)] σ τ := by
  have hn := h.1
  by_cases c : n ≤ 76
  · rw [if_pos c, if_pos c, if_pos c]
    obtain ⟨σ1, w1, x1, f1⟩ := s_sign1 (d := d) h (by omega) (v := v) (s := nI 24) (k := 0) (by decide) (by decide)
    obtain ⟨σ2, w2, x2, f2⟩ := s_sign1 (d := d) x1 (by omega) (v := v) (s := nI 24 + (-8)) (k := 1) (by decide) (by decide)
    obtain ⟨σ3, w3, x3, f3⟩ := s_sign1 (d := d) x2 (by omega) (v := v) (s := nI 24 + (-8) + (-8)) (k := 2) (by decide) (by decide)
    obtain ⟨σ4, w4, x4, f4⟩ := s_sign1 (d := d) x3 (by omega) (v := v) (s := nI 24 + (-8) + (-8) + (-8)) (k := 3) (by decide) (by decide)
    refine ⟨σ4, ?_, x4, ((f1.tr f2).tr f3).tr f4⟩
    rw [← x4.2.1]
    refine p_X9_sign_0_2 (r1 := nI 1) ?_ (by decide)
    refine p_X6_addFour_0_2 (by rw [h.2.1]; exact nI_nlt c (by decide)) (w1 _ _ (w2 _ _ (w3 _ _ (w4 _ _ ?_))))
    exact p_X6_addFour_8_1 (by decide)
  · rw [if_neg c, if_neg c, if_neg c]
    exact ⟨σ, p_X9_sign_0_1 (p_X6_addFour_0_1 (by rw [h.2.1]; exact nlt (by omega) (by omega))) rfl, h, Fr.rf σ⟩
theorem m_sign {n : Nat} {f : Nat → Nat} (h : mX n f σ) (v : Int32) : ∃ τ, hq_c 176 (d + 1) [.ref 52, .int v] σ (some (.int (if n ≤ 76 then nI (n + 4) else -1))) τ ∧ mX (if n ≤ 76 then n + 4 else n) (if n ≤ 76 then app4 n f v else f) τ ∧ Fr [(52, 1), (52, 16), (62, 0)] σ τ := by
  have hn := h.1
  have e0 : (hq_sI σ 52 0 (nI 0)).1 52 15 = nI n := by rw [sI_slot (by decide)]; exact h.2.1
  by_cases c : n ≤ 76
  · rw [if_pos c, if_pos c, if_pos c]
    have hf : Fr [(52, 1), (52, 16), (62, 0)] σ (hq_sI σ 52 0 (nI 0)) := (Fr.rf σ).sI rfl
    obtain ⟨σ4, w4, x1, x2, x3⟩ := hq_w.for (x := 176) (d := d + 1) (i := 11) (fun k => [some (.ref 52), some (.int v), some (.int (nI k))]) (fun k ρ => ρ.1 52 15 = nI n ∧ (∀ j, j < n + 4 → ρ.1 62 j = (if n ≤ j ∧ j < n + k then nI (byt v (j - n)) else σ.1 62 j)) ∧ Fr [(52, 1), (52, 16), (62, 0)] σ ρ) 4 (fun k hk ρ ⟨q1, q2, q3⟩ => by
      refine ⟨_, fun w τ q => p_X10_sign_11_1 (nlt hk (by decide)) (by rw [q1, nplus]; exact vin (by omega) (by decide)) (by rw [nplus]; exact q), ?_, ?_, q3.sI rfl⟩
      · rw [sI_ne (by decide)]; exact q1
      · intro j hj
        rw [q1, nplus, clamp (by omega), byt_m hk, sI_at, if_pos rfl]
        by_cases e : j = n + k
        · rw [if_pos e, if_pos (by omega), e, Nat.add_sub_cancel_left]
        · rw [if_neg e, q2 j hj]
          by_cases e2 : n ≤ j ∧ j < n + k
          · rw [if_pos e2, if_pos (by omega)]
          · rw [if_neg e2, if_neg (by omega)]) (σ := hq_sI σ 52 0 (nI 0)) ⟨e0, fun j hj => by rw [sI_ne (by decide), if_neg (by omega)], hf⟩
    refine ⟨hq_sI σ4 52 15 (nI (n + 4)), ?_, ⟨by omega, sI_eq, fun j hj => ?_⟩, x3.sI rfl⟩
    · refine p_X10_sign_0_2 (by rw [e0]; exact nI_nlt c (by decide)) (w4 _ _ ?_)
      have := p_X10_sign_11_2 (d := d) (σ := σ4) (l1 := v) (l2 := nI 4) (by decide)
      rw [x1, nplus, sI_eq] at this
      exact this
    · rw [sI_ne (by decide), x2 j hj]
      unfold app4 upN
      by_cases h3 : j = n + 3
      · subst h3
        rw [if_pos rfl, if_pos (by omega), show n + 3 - n = 3 by omega]; exact ⟨byt_lt _ _, rfl⟩
      · rw [if_neg h3]
        by_cases h2 : j = n + 2
        · subst h2
          rw [if_pos rfl, if_pos (by omega), show n + 2 - n = 2 by omega]; exact ⟨byt_lt _ _, rfl⟩
        · rw [if_neg h2]
          by_cases h1 : j = n + 1
          · subst h1
            rw [if_pos rfl, if_pos (by omega), show n + 1 - n = 1 by omega]; exact ⟨byt_lt _ _, rfl⟩
          · rw [if_neg h1]
            by_cases h0 : j = n
            · subst h0
              rw [if_pos rfl, if_pos (by omega), show j - j = 0 by omega]; exact ⟨byt_lt _ _, rfl⟩
            · rw [if_neg h0, if_neg (by omega)]; exact h.2.2 j (by omega)
  · rw [if_neg c, if_neg c, if_neg c]
    have hf : Fr [(52, 1), (52, 16), (62, 0)] σ (hq_sI σ 52 0 (nI 0)) := (Fr.rf σ).sI rfl
    exact ⟨_, p_X10_sign_0_1 (by rw [e0]; exact nlt (by omega) (by omega)), mX.dep.fr ((Fr.rf σ).sI (G := [(52, 1)]) rfl) (by decide) h, hf⟩
theorem cX.cut {n k : Nat} {f : Nat → Nat} (h : cX n f σ) (hk : k ≤ n) {w : Int32} (hw : w = nI k) : cX k f (hq_sI σ 1 1 w) := by
  subst hw
  have := h.1
  exact ⟨by omega, sI_eq, fun j hj => by rw [sI_ne (by decide)]; exact h.2.2 j (by omega)⟩
theorem mX.cut {n k : Nat} {f : Nat → Nat} (h : mX n f σ) (hk : k ≤ n) {w : Int32} (hw : w = nI k) : mX k f (hq_sI σ 52 15 w) := by
  subst hw
  have := h.1
  exact ⟨by omega, sI_eq, fun j hj => by rw [sI_ne (by decide)]; exact h.2.2 j (by omega)⟩
theorem s_end {n : Nat} {f : Nat → Nat} (h : cX n f σ) (x : Int32) : ∃ τ, hq_c 111 (d + 1) [.ref 0, .int x] σ (some (.int (bI (inb x 0 n)))) τ ∧ cX (if inb x 0 n then x.toInt.toNat else n) f τ ∧ Fr [(1, 2), (2, 0)] σ τ := by
  have hn := h.1
  cases c : inb x 0 n with
  | true =>
    obtain ⟨k, k1, k2, rfl⟩ := inb_of c
    have e : (nI k).toInt.toNat = k := by rw [nI_toInt (by omega)]; omega
    rw [if_pos rfl, e]
    refine ⟨_, p_X9_end_0_3 (by rw [ltz, nI_toInt (by omega)]; omega) (by rw [h.2.1]; exact nI_nlt k2 (by omega)), h.cut k2 rfl, (Fr.rf σ).sI rfl⟩
  | false =>
    rw [if_neg (by decide)]
    refine ⟨σ, ?_, h, Fr.rf σ⟩
    by_cases q : x < 0
    · exact p_X9_end_0_1 q
    · refine p_X9_end_0_2 q ?_
      rw [ltz] at q
      rw [h.2.1, nI_ltx (by omega)]
      unfold inb at c
      rw [decide_eq_false_iff_not] at c
      omega
theorem m_end {n : Nat} {f : Nat → Nat} (h : mX n f σ) (x : Int32) : ∃ τ, hq_c 177 (d + 2) [.ref 52, .int x] σ (some (.int (bI (inb x 0 n)))) τ ∧ mX (if inb x 0 n then x.toInt.toNat else n) f τ ∧ Fr [(52, 1), (52, 16), (62, 0)] σ τ := by
  have hn := h.1
  have e0 : (hq_sI σ 52 0 (nI 0)).1 52 15 = nI n := by rw [sI_slot (by decide)]; exact h.2.1
  have hf : Fr [(52, 1), (52, 16), (62, 0)] σ (hq_sI σ 52 0 (nI 0)) := (Fr.rf σ).sI rfl
  have h' : mX n f (hq_sI σ 52 0 (nI 0)) := mX.dep.fr ((Fr.rf σ).sI (G := [(52, 1)]) rfl) (by decide) h
  have g := m_in (d := d) (σ := hq_sI σ 52 0 (nI 0)) x.toInt64 (lN 0) ((hq_sI σ 52 0 (nI 0)).1 52 15).toInt64
  have e1 : inL x.toInt64 (lN 0) (nI n).toInt64 = inb x 0 n := by
    unfold inL inb
    rw [Int32.toInt_toInt64, lN_toInt (by omega), Int32.toInt_toInt64, nI_toInt (by omega)]
  rw [e0, e1] at g
  cases c : inb x 0 n with
  | true =>
    rw [c] at g
    obtain ⟨k, k1, k2, rfl⟩ := inb_of c
    have e : (nI k).toInt.toNat = k := by rw [nI_toInt (by omega)]; omega
    rw [if_pos rfl, e]
    exact ⟨_, p_X10_end_0_2 (by rw [e0]; exact g) (by decide), h'.cut k2 rfl, hf.sI rfl⟩
  | false =>
    rw [c] at g
    rw [if_neg (by decide)]
    exact ⟨_, p_X10_end_0_1 (by rw [e0]; exact g) rfl, h', hf⟩
theorem s_isInside (x : Int32) : hq_c 158 (d + 1) [.int x] σ (some (.int (bI (inb x 1 7)))) σ := by
  unfold bI inb
  by_cases c1 : x < nI 1
  · have c2 := c1
    rw [lt_nI (by decide)] at c2
    rw [if_neg (by simp; omega)]
    exact p_X9_isInside_0_1 c1
  · have c2 := c1
    rw [lt_nI (by decide)] at c2
    by_cases c3 : x < nI 8
    · have c4 := c3
      rw [lt_nI (by decide)] at c4
      rw [if_pos (by simp; omega)]
      exact p_X9_isInside_0_2 c1 c3
    · have c4 := c3
      rw [lt_nI (by decide)] at c4
      rw [if_neg (by simp; omega)]
      exact p_X9_isInside_0_3 c1 c3
theorem s_isRoom (x : Int32) : hq_c 157 (d + 1) [.int x] σ (some (.int (bI (inb x 0 7)))) σ := by
  unfold bI inb
  by_cases c1 : x < 0
  · have c2 := c1
    rw [ltz] at c2
    rw [if_neg (by simp; omega)]
    exact p_X9_isRoom_0_1 c1
  · have c2 := c1
    rw [ltz] at c2
    by_cases c3 : x < nI 8
    · have c4 := c3
      rw [lt_nI (by decide)] at c4
      rw [if_pos (by simp; omega)]
      exact p_X9_isRoom_0_2 c1 c3
    · have c4 := c3
      rw [lt_nI (by decide)] at c4
      rw [if_neg (by simp; omega)]
      exact p_X9_isRoom_0_3 c1 c3
theorem s_isAmount (x : Int32) : hq_c 159 (d + 1) [.int x] σ (some (.int (bI (inb x 0 63)))) σ := by
  unfold bI inb
  by_cases c1 : x < 0
  · have c2 := c1
    rw [ltz] at c2
    rw [if_neg (by simp; omega)]
    exact p_X9_isAmount_0_1 c1
  · have c2 := c1
    rw [ltz] at c2
    by_cases c3 : nI 63 < x
    · have c4 := c3
      rw [nI_ltx (by decide)] at c4
      rw [if_neg (by simp; omega)]
      exact p_X9_isAmount_0_2 c1 c3
    · have c4 := c3
      rw [nI_ltx (by decide)] at c4
      rw [if_pos (by simp; omega)]
      exact p_X9_isAmount_0_3 c1 c3
theorem s_isCreak (x : Int32) : hq_c 160 (d + 1) [.int x] σ (some (.int (bI (inb x 0 198)))) σ := by
  unfold bI inb
  by_cases c1 : x < 0
  · have c2 := c1
    rw [ltz] at c2
    rw [if_neg (by simp; omega)]
    exact p_X9_isCreak_0_1 c1
  · have c2 := c1
    rw [ltz] at c2
    by_cases c3 : nI 198 < x
    · have c4 := c3
      rw [nI_ltx (by decide)] at c4
      rw [if_neg (by simp; omega)]
      exact p_X9_isCreak_0_2 c1 c3
    · have c4 := c3
      rw [nI_ltx (by decide)] at c4
      rw [if_pos (by simp; omega)]
      exact p_X9_isCreak_0_3 c1 c3
theorem m_inb (x : Int32) {a b : Nat} (ha : a < 2 ^ 31) (hb : b < 2 ^ 31) : hq_c 167 (d + 1) [.long x.toInt64, .long (lN a), .long (lN b)] σ (some (.int (bI (inb x a b)))) σ := by
  have := m_in (d := d) (σ := σ) x.toInt64 (lN a) (lN b)
  rwa [inL_b ha hb] at this
theorem m_isInside (x : Int32) : hq_c 175 (d + 2) [.int x] σ (some (.int (bI (inb x 1 7)))) σ := p_X10_isInside_0_1 (m_inb x (by decide) (by decide)) (bI01 _)
theorem m_isRoom (x : Int32) : hq_c 174 (d + 2) [.int x] σ (some (.int (bI (inb x 0 7)))) σ := p_X10_isRoom_0_1 (m_inb x (by decide) (by decide)) (bI01 _)
/-- a town with other secrets -/
def secA (A : TA) (g : Nat → Nat) : TA := fun a b => if a = 12 then g b else A a b
theorem Wf.sec {g : Nat → Nat} (W : Wf A) (hg : ∀ r, g r ≤ 9) : Wf (secA A g) := ⟨W.1, W.2.1, W.2.2.1, W.2.2.2.1, hg⟩
theorem cT.sec {t y : Int32} {g : Nat → Nat} {τ : hq_St} (h : cT A t y σ) (hg : ∀ r, g r ≤ 9) (hs : ∀ r, 1 ≤ r → r < 8 → τ.1 18 r = nI (g r)) (f : Fr [(18, 0)] σ τ) : cT (secA A g) t y τ := by
  have h' := h
  obtain ⟨⟨W, h1, h2, h3, h4, h5⟩, h6, h7⟩ := h
  refine ⟨⟨W.sec hg, (f.i rfl).trans h1, (f.i rfl).trans h2, fun d hd => ?_, fun k hk => ?_, hs⟩, (f.i rfl).trans h6, (f.i rfl).trans h7⟩
  · obtain ⟨a1, a2, a3, a4, a5, a6⟩ := h3 d hd
    exact ⟨(f.i rfl).trans a1, (f.i rfl).trans a2, (f.i rfl).trans a3, (f.i rfl).trans a4, (f.i rfl).trans a5, (f.i rfl).trans a6⟩
  · obtain ⟨a1, a2, a3, a4, a5, a6⟩ := h4 k hk
    exact ⟨(f.i rfl).trans a1, (f.i rfl).trans a2, (f.i rfl).trans a3, (f.i rfl).trans a4, (f.i rfl).trans a5, (f.i rfl).trans a6⟩
theorem mT.sec {t y : Int32} {g : Nat → Nat} {τ : hq_St} (h : mT A t y σ) (hg : ∀ r, g r ≤ 9) (hs : ∀ r, 1 ≤ r → r < 8 → τ.1 60 r = nI (g r)) (f : Fr [(52, 1), (60, 0)] σ τ) : mT (secA A g) t y τ := by
  obtain ⟨⟨W, h1, h2, h3, h4, h5, h8⟩, h6, h7⟩ := h
  refine ⟨⟨W.sec hg, (f.i rfl).trans h1, (f.i rfl).trans h2, fun d hd => ?_, fun k hk => ?_, fun k hk => ?_, hs⟩, (f.i rfl).trans h6, (f.i rfl).trans h7⟩
  · obtain ⟨a1, a2, a3, a4⟩ := h3 d hd
    exact ⟨(f.i rfl).trans a1, (f.i rfl).trans a2, (f.i rfl).trans a3, (f.i rfl).trans a4⟩
  · obtain ⟨a1, a2⟩ := h4 k hk
    exact ⟨(f.i rfl).trans a1, (f.i rfl).trans a2⟩
  · obtain ⟨a1, a2, a3, a4⟩ := h5 k hk
    exact ⟨(f.i rfl).trans a1, (f.i rfl).trans a2, (f.i rfl).trans a3, (f.i rfl).trans a4⟩
theorem upN_le {g : Nat → Nat} (hg : ∀ r, g r ≤ 9) {k v : Nat} (hv : v ≤ 9) : ∀ r, upN g k v r ≤ 9 := fun r => by unfold upN; split; exact hv; exact hg r
/-- secret: the answer, the secrets afterwards -/
def secR (A : TA) (x v : Int32) : Int32 := if inb x 1 7 && inb v 0 9 then nI (A 12 x.toInt.toNat) else -1
def secG (A : TA) (x v : Int32) : Nat → Nat := if inb x 1 7 && inb v 0 9 then upN (A 12) x.toInt.toNat v.toInt.toNat else A 12
theorem secA_self : secA A (A 12) = A := by
  funext a b
  unfold secA
  split
  · rename_i h; rw [h]
  · rfl
theorem s_secret {t y : Int32} (h : cT A t y σ) (x v : Int32) : ∃ τ, hq_c 116 (d + 2) [.ref 0, .int x, .int v] σ (some (.int (secR A x v))) τ ∧ cT (secA A (secG A x v)) t y τ ∧ Fr [(18, 0)] σ τ := by
  have g := s_isInside (d := d) (σ := σ) x
  have hS := h.1.2.2.2.2.2
  have hA := h.1.1.2.2.2.2
  unfold secR secG
  cases c : inb x 1 7 with
  | false =>
    rw [c] at g
    rw [if_neg (by simp), if_neg (by simp), secA_self]
    exact ⟨σ, p_X9_secret_0_1 g rfl, h, Fr.rf σ⟩
  | true =>
    rw [c] at g
    obtain ⟨k, k1, k2, rfl⟩ := inb_of c
    have e : (nI k).toInt.toNat = k := by rw [nI_toInt (by omega)]; omega
    rw [e]
    cases c2 : inb v 0 9 with
    | false =>
      rw [if_neg (by simp), if_neg (by simp), secA_self]
      refine ⟨σ, ?_, h, Fr.rf σ⟩
      by_cases q : v < 0
      · exact p_X9_secret_0_2 g (by decide) q
      · refine p_X9_secret_0_3 g (by decide) q ?_
        rw [ltz] at q
        rw [nI_ltx (by decide)]
        unfold inb at c2
        rw [decide_eq_false_iff_not] at c2
        omega
    | true =>
      obtain ⟨m, m1, m2, rfl⟩ := inb_of c2
      have e2 : (nI m).toInt.toNat = m := by rw [nI_toInt (by omega)]; omega
      have ck : (nI k).toNatClampNeg = k := clamp (by omega)
      rw [if_pos (by simp), if_pos (by simp), e2, ← hS k k1 (by omega)]
      refine ⟨hq_sI σ 18 k (nI m), ?_, h.sec (upN_le hA (by omega)) (fun r r1 r2 => ?_) ((Fr.rf σ).sI rfl), (Fr.rf σ).sI rfl⟩
      · have := p_X9_secret_0_4 (d := d + 1) (σ := σ) (l1 := nI k) (l2 := nI m) g (by decide) (by rw [ltz, nI_toInt (by omega)]; omega) (nI_nlt m2 (by omega)) (vin (by omega) (by decide)) (vin (by omega) (by decide))
        rw [ck] at this
        exact this
      · rw [sI_at, if_pos rfl]
        unfold upN
        by_cases q : r = k
        · rw [if_pos q, if_pos q]
        · rw [if_neg q, if_neg q]; exact hS r r1 r2
theorem m_secret {t y : Int32} (h : mT A t y σ) (x v : Int32) : ∃ τ, hq_c 209 (d + 3) [.ref 52, .int x, .int v] σ (some (.int (secR A x v))) τ ∧ mT (secA A (secG A x v)) t y τ ∧ Fr [(52, 1), (60, 0)] σ τ := by
  have g := m_isInside (d := d) (σ := hq_sI σ 52 0 (nI 0)) x
  have g2 := m_inb (d := d + 1) (σ := hq_sI σ 52 0 (nI 0)) v (a := 0) (b := 9) (by decide) (by decide)
  have hS := h.1.2.2.2.2.2.2
  have hA := h.1.1.2.2.2.2
  have hf : Fr [(52, 1), (60, 0)] σ (hq_sI σ 52 0 (nI 0)) := (Fr.rf σ).sI rfl
  have h' : mT A t y (hq_sI σ 52 0 (nI 0)) := mT.dep.fr ((Fr.rf σ).sI (G := [(52, 1)]) rfl) (by decide) h
  unfold secR secG
  cases c : inb x 1 7 with
  | false =>
    rw [c] at g
    rw [if_neg (by simp), if_neg (by simp), secA_self]
    exact ⟨_, p_X10_secret_0_1 g rfl, h', hf⟩
  | true =>
    rw [c] at g
    obtain ⟨k, k1, k2, rfl⟩ := inb_of c
    have e : (nI k).toInt.toNat = k := by rw [nI_toInt (by omega)]; omega
    rw [e]
    cases c2 : inb v 0 9 with
    | false =>
      rw [c2] at g2
      rw [if_neg (by simp), if_neg (by simp), secA_self]
      exact ⟨_, p_X10_secret_0_2 g (by decide) g2 rfl, h', hf⟩
    | true =>
      rw [c2] at g2
      obtain ⟨m, m1, m2, rfl⟩ := inb_of c2
      have e2 : (nI m).toInt.toNat = m := by rw [nI_toInt (by omega)]; omega
      have ck : (nI k).toNatClampNeg = k := clamp (by omega)
      rw [if_pos (by simp), if_pos (by simp), e2, ← hS k k1 (by omega)]
      refine ⟨hq_sI (hq_sI σ 52 0 (nI 0)) 60 k (nI m), ?_, h.sec (upN_le hA (by omega)) (fun r r1 r2 => ?_) (hf.sI rfl), hf.sI rfl⟩
      · have := p_X10_secret_0_3 (d := d + 2) (σ := σ) (l1 := nI k) (l2 := nI m) g (by decide) g2 (by decide) (vin (by omega) (by decide)) (vin (by omega) (by decide))
        rw [ck] at this
        exact this
      · rw [sI_at, if_pos rfl]
        unfold upN
        by_cases q : r = k
        · rw [if_pos q, if_pos q]
        · rw [if_neg q, if_neg q]; exact hS r r1 r2
/-- heard -/
def hearR (H : List Nat) (x : Int32) : Int32 := if inb x 0 198 && decide (H.length < 12) then nI (H.length + 1) else -1
def hearL (H : List Nat) (x : Int32) : List Nat := if inb x 0 198 && decide (H.length < 12) then H ++ [x.toInt.toNat] else H
theorem s_heard {H : List Nat} (h : cE H σ) (x : Int32) : ∃ τ, hq_c 145 (d + 2) [.ref 0, .int x] σ (some (.int (hearR H x))) τ ∧ cE (hearL H x) τ ∧ Fr [(47, 5), (49, 0)] σ τ := by
  have g := s_isCreak (d := d) (σ := σ) x
  have hn := h.1
  unfold hearR hearL
  cases c : inb x 0 198 with
  | false =>
    rw [c] at g
    rw [if_neg (by simp), if_neg (by simp)]
    exact ⟨σ, p_X9_heard_0_1 g rfl, h, Fr.rf σ⟩
  | true =>
    rw [c] at g
    by_cases q : H.length < 12
    · obtain ⟨k, k1, k2, rfl⟩ := inb_of c
      have e : (nI k).toInt.toNat = k := by rw [nI_toInt (by omega)]; omega
      have cl : (σ.1 47 4).toNatClampNeg = H.length := by rw [h.2.1]; exact clamp (by omega)
      rw [if_pos (by simp [q]), if_pos (by simp [q]), e]
      have hh := p_X7_hear_0_1 (d := d) (σ := σ) (l1 := nI k) (by rw [h.2.1]; exact nlt q (by decide)) (by rw [h.2.1]; exact vin q (by decide))
      rw [cl, sI_ne (by decide), h.2.1, nplus] at hh
      refine ⟨hq_sI (hq_sI σ 49 H.length (nI k)) 47 4 (nI (H.length + 1)), ?_, ⟨?_, sI_eq.trans (by simp), fun j v hj => ?_⟩, ((Fr.rf σ).sI rfl).sI rfl⟩
      · have := p_X9_heard_0_3 (d := d + 1) (σ := σ) (l1 := nI k) g (by decide) hh (by decide)
        rw [sI_eq] at this
        exact this
      · simp; omega
      · rw [sI_ne (by decide), sI_at, if_pos rfl]
        rw [List.getElem?_append] at hj
        split at hj
        · rw [if_neg (by omega)]; exact h.2.2 j v hj
        · by_cases e : j = H.length
          · rw [if_pos e]
            subst e
            simp at hj
            subst hj
            exact ⟨k2, rfl⟩
          · rw [List.getElem?_eq_none (by simp; omega)] at hj; cases hj
    · rw [if_neg (by simp [q]), if_neg (by simp [q])]
      exact ⟨σ, p_X9_heard_0_2 g (by decide) (p_X7_hear_0_2 (by rw [h.2.1]; exact nI_nlt (by omega) (by omega))) rfl, h, Fr.rf σ⟩
theorem m_heard {H : List Nat} (h : mE H σ) (x : Int32) : ∃ τ, hq_c 262 (d + 2) [.ref 52, .int x] σ (some (.int (hearR H x))) τ ∧ mE (hearL H x) τ ∧ Fr [(52, 1), (52, 46), (80, 0)] σ τ := by
  have g := m_inb (d := d) (σ := hq_sI σ 52 0 (nI 0)) x (a := 0) (b := 198) (by decide) (by decide)
  have hn := h.1
  have hf : Fr [(52, 1), (52, 46), (80, 0)] σ (hq_sI σ 52 0 (nI 0)) := (Fr.rf σ).sI rfl
  have h' : mE H (hq_sI σ 52 0 (nI 0)) := mE.dep.fr ((Fr.rf σ).sI (G := [(52, 1)]) rfl) (by decide) h
  unfold hearR hearL
  cases c : inb x 0 198 with
  | false =>
    rw [c] at g
    rw [if_neg (by simp), if_neg (by simp)]
    exact ⟨_, p_X10_heard_0_1 g rfl, h', hf⟩
  | true =>
    rw [c] at g
    by_cases q : H.length < 12
    · obtain ⟨k, k1, k2, rfl⟩ := inb_of c
      have e : (nI k).toInt.toNat = k := by rw [nI_toInt (by omega)]; omega
      have cl : ((hq_sI σ 52 0 (nI 0)).1 52 45).toNatClampNeg = H.length := by rw [h'.2.1]; exact clamp (by omega)
      rw [if_pos (by simp [q]), if_pos (by simp [q]), e]
      have hh := p_X10_heard_0_3 (d := d + 1) (σ := σ) (l1 := nI k) g (by decide) (by rw [h'.2.1, nI_eq (by omega) (by omega)]; omega) (by rw [h'.2.1]; exact vin q (by decide))
      rw [sI_eq, cl, sI_ne (c := 80) (by decide), h'.2.1, nplus] at hh
      refine ⟨_, hh, ⟨?_, sI_eq.trans (by simp), fun j v hj => ?_⟩, (hf.sI rfl).sI rfl⟩
      · simp; omega
      · rw [sI_ne (by decide), sI_at, if_pos rfl]
        rw [List.getElem?_append] at hj
        split at hj
        · rw [if_neg (by omega)]; exact h'.2.2 j v hj
        · by_cases e : j = H.length
          · rw [if_pos e]
            subst e
            simp at hj
            subst hj
            exact ⟨k2, rfl⟩
          · rw [List.getElem?_eq_none (by simp; omega)] at hj; cases hj
    · rw [if_neg (by simp [q]), if_neg (by simp [q])]
      refine ⟨_, p_X10_heard_0_2 g (by decide) ?_, h', hf⟩
      rw [h'.2.1]
      congr 1; omega
theorem s_forget {H : List Nat} (h : cE H σ) : ∃ τ, hq_c 146 (d + 1) [.ref 0] σ (some (.int (nI H.length))) τ ∧ cE [] τ ∧ Fr [(47, 5), (49, 0)] σ τ := by
  refine ⟨_, by rw [← h.2.1]; exact p_X9_forget_0_1, ⟨by decide, sI_eq, fun j v hj => by simp at hj⟩, (Fr.rf σ).sI rfl⟩
theorem m_forget {H : List Nat} (h : mE H σ) : ∃ τ, hq_c 263 (d + 1) [.ref 52] σ (some (.int (nI H.length))) τ ∧ mE [] τ ∧ Fr [(52, 1), (52, 46), (80, 0)] σ τ := by
  have := p_X10_forget_0_1 (d := d) (σ := σ)
  rw [sI_slot (by decide), h.2.1] at this
  exact ⟨_, this, ⟨by decide, sI_eq, fun j v hj => by simp at hj⟩, ((Fr.rf σ).sI rfl).sI rfl⟩
end SMALL
