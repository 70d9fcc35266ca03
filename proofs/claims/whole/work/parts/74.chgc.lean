/-! change (class). (wb_ and pf_ rows: out of the kit's BITS.to-paste.) -/
theorem wb_tb (n : Nat) : (lN n).toBitVec = BitVec.ofNat 64 n := rfl
theorem wb_inj {a b : Int64} (h : a.toBitVec = b.toBitVec) : a = b := Int64.toBitVec_inj.mp h
theorem wb_c : ∀ k, k < 64 → ((nI k).toInt64 &&& 63) = lN k := by decide +kernel
theorem wb_sm : ∀ k, k < 64 → (BitVec.ofNat 64 k).smod 64 = BitVec.ofNat 64 k := by decide +kernel
theorem wb_lt2 {a b : Nat} (h : a < b) : 2 ^ a < 2 ^ b := Nat.pow_lt_pow_right (by decide) h
theorem wb_shl (n : Nat) {k : Nat} (hk : k < 64) : lN n <<< ((nI k).toInt64 &&& 63) = lN (n * 2 ^ k) := by
  rw [wb_c k hk]
  apply wb_inj
  rw [Int64.toBitVec_shiftLeft, wb_tb, wb_tb, wb_tb, wb_sm k hk]
  apply BitVec.eq_of_toNat_eq
  rw [BitVec.shiftLeft_eq', BitVec.toNat_shiftLeft, BitVec.toNat_ofNat, BitVec.toNat_ofNat, BitVec.toNat_ofNat, Nat.mod_eq_of_lt (show k < 2 ^ 64 by omega), Nat.shiftLeft_eq, Nat.mul_mod, Nat.mod_mod, ← Nat.mul_mod]
theorem wb_and {a b : Nat} (ha : a < 2 ^ 64) (hb : b < 2 ^ 64) : lN a &&& lN b = lN (a &&& b) := by
  apply wb_inj
  rw [Int64.toBitVec_and, wb_tb, wb_tb, wb_tb]
  apply BitVec.eq_of_toNat_eq
  rw [BitVec.toNat_and, BitVec.toNat_ofNat, BitVec.toNat_ofNat, BitVec.toNat_ofNat, Nat.mod_eq_of_lt ha, Nat.mod_eq_of_lt hb, Nat.mod_eq_of_lt (Nat.and_lt_two_pow _ hb)]
theorem wb_or {a b : Nat} (ha : a < 2 ^ 64) (hb : b < 2 ^ 64) : lN a ||| lN b = lN (a ||| b) := by
  apply wb_inj
  rw [Int64.toBitVec_or, wb_tb, wb_tb, wb_tb]
  apply BitVec.eq_of_toNat_eq
  rw [BitVec.toNat_or, BitVec.toNat_ofNat, BitVec.toNat_ofNat, BitVec.toNat_ofNat, Nat.mod_eq_of_lt ha, Nat.mod_eq_of_lt hb, Nat.mod_eq_of_lt (Nat.or_lt_two_pow ha hb)]
theorem wb_mask {n k : Nat} (hn : n < 2 ^ 64) (hk : k < 64) : lN n &&& lN (2 ^ k - 1) = lN (n % 2 ^ k) := by
  rw [wb_and hn (by have := wb_lt2 hk; omega), Nat.and_two_pow_sub_one_eq_mod]
theorem pf_shr {a d : Nat} {D : Int64} (hD : (D.toBitVec.smod 64).toNat = d) (h : a < 2 ^ 62) : lN a >>> D = lN (a / 2 ^ d) := by
  have hd : a / 2 ^ d ≤ a := Nat.div_le_self _ _
  apply Int64.toInt_inj.mp
  have e : (lN a >>> D).toInt = (lN a).toInt >>> d := by
    rw [← hD]
    exact BitVec.toInt_sshiftRight ..
  rw [e, Int.shiftRight_eq_div_pow, pk_lT (by omega), pk_lT (by omega)]
  rfl
theorem orS {a b k : Nat} (hb : b < 2 ^ k) : a * 2 ^ k ||| b = a * 2 ^ k + b := by
  have := Nat.shiftLeft_add_eq_or_of_lt (b := b) (i := k) hb a
  rw [Nat.shiftLeft_eq] at this
  exact this.symm
theorem p4096 (n : Nat) : 4096 ^ n = 2 ^ (12 * n) := by rw [Nat.pow_mul]
def agr (m : Nat) (c c' : Nat → Nat) (n : Nat) : Prop := ∀ f, f < n → m.testBit f = true → c' f = c f
theorem unM_agr {m : Nat} {c c' : Nat → Nat} : ∀ {n : Nat}, agr m c c' n → unM m c' n = unM m c n
  | 0, _ => rfl
  | n + 1, h => by
    unfold unM
    rw [unM_agr (fun f hf => h f (by omega))]
    cases q : m.testBit n with
    | true => rw [if_pos rfl, if_pos rfl, h n (by omega) q]
    | false => rfl
theorem mvX_agr {A : TA} {m : Nat} {c c' : Nat → Nat} : ∀ {n : Nat}, agr m c c' n → mvX A m c' n = mvX A m c n
  | 0, _ => rfl
  | n + 1, h => by
    unfold mvX
    rw [mvX_agr (fun f hf => h f (by omega))]
    cases q : m.testBit n with
    | true => rw [if_pos rfl, if_pos rfl, h n (by omega) q]
    | false => rfl
theorem wkC_agr {A : TA} {m : Nat} {c c' : Nat → Nat} (h : agr m c c' (A 0 0)) : wkC A m c' = wkC A m c := by
  unfold wkC
  rw [mvX_agr h, unM_agr h, hvX_congr (X := yX A m c') (Y := yX A m c) _ (fun f hf => ?_)]
  unfold yX
  rw [unM_agr h]
  cases q : m.testBit f with
  | true => rw [if_pos rfl, if_pos rfl, h f hf q]
  | false => rfl
theorem PDc_agr {A : TA} {m : Nat} {c c' : Nat → Nat} {n : Nat} (h : agr m c c' n) (P : PDc A m c n) : PDc A m c' n := fun f hf hb => by
  rw [h f hf hb, unM_agr (fun g hg => h g (by omega))]
  exact P f hf hb
def NK : Nat := 1152921504606846976
theorem hv4 {X : Nat → Nat} {n : Nat} (hn : n ≤ 4) (h : ∀ f, f < n → X f < 4096) : hvX X n < 281474976710656 := by
  have h1 := hvX_lt n h
  have h2 : 4096 ^ n ≤ 4096 ^ 4 := Nat.pow_le_pow_right (by decide) hn
  have h3 : (4096 : Nat) ^ 4 = 281474976710656 := by decide
  omega
section CC
variable {d : Nat} {A : TA} {F : Nat → Nat} {σ : hq_St}
theorem wkC_lt (W : Wf A) (hD : A 0 0 ≤ 4) {m : Nat} {c : Nat → Nat} (P : PDc A m c (A 0 0)) : wkC A m c < 9007199254740992 := by
  have p12 : (2 : Nat) ^ A 1 0 ≤ 2 ^ 12 := Nat.pow_le_pow_right (by decide) W.2.1
  have V := yX_V W P
  have h1 := hv4 hD (fun f hf => (by have := (V f hf).1; omega : yX A m c f < 4096))
  have h2 : 4096 ^ A 0 0 ≤ 4096 ^ 4 := Nat.pow_le_pow_right (by decide) hD
  have h3 : (4096 : Nat) ^ 4 = 281474976710656 := by decide
  have h4 := pop_le (mvX A m c (A 0 0) ||| dpX A m (unM m c (A 0 0)) (A 0 0))
  have h5 : pop (mvX A m c (A 0 0) ||| dpX A m (unM m c (A 0 0)) (A 0 0)) * 4096 ^ A 0 0 ≤ 12 * 281474976710656 := Nat.mul_le_mul h4 (by omega)
  unfold wkC
  omega
theorem s_weigh (W : Wf A) (hD : A 0 0 ≤ 4) (hp : HP A F σ) {m u K : Nat} {c : Nat → Nat} (hm : m < 2 ^ A 0 0) (hc : ∀ f, f < A 0 0 → m.testBit f = true → σ.1 43 f = nI (c f)) (P : PDc A m c (A 0 0)) (hu : u = unM m c (A 0 0)) (hK : σ.2 33 18 = lN K) (hKl : K ≤ NK) : ∃ τ, hq_c 30 (d + 2) [.ref 33, .int (nI m), .int (nI u)] σ none τ ∧ τ.2 33 18 = lN (min K (wkC A m c)) ∧ Fr [(33, 19)] σ τ := by
  subst hu
  have b2 := W.2.1
  have p12 : (2 : Nat) ^ A 1 0 ≤ 2 ^ 12 := Nat.pow_le_pow_right (by decide) b2
  have V := yX_V W P
  have y4 : ∀ f, f < A 0 0 → yX A m c f < 4096 := fun f hf => by have := (V f hf).1; omega
  have ul := un_lt P
  have md : mvX A m c (A 0 0) ||| dpX A m (unM m c (A 0 0)) (A 0 0) < 4096 := by
    have : mvX A m c (A 0 0) ||| dpX A m (unM m c (A 0 0)) (A 0 0) < 2 ^ 12 := lt_bits (fun i hi => by
      rw [Nat.testBit_or, Bool.or_eq_true] at hi
      rcases hi with h | h
      · obtain ⟨f, h1, h2, h3, _⟩ := (mvX_test _).mp h
        have := bit_lt (prs_mem.mp (P f h1 h2).1).1 h3
        omega
      · obtain ⟨f, h1, h2, h3, _⟩ := (dpX_test _).mp h
        have := (on_bit.mp h3).1
        omega)
    exact this
  have gb := s_bitCount (d := d) (σ := σ) md
  have pl := pop_le (mvX A m c (A 0 0) ||| dpX A m (unM m c (A 0 0)) (A 0 0))
  have kl := wkC_lt W hD P
  have hvl := hv4 hD y4
  have hvl2 := hvX_lt _ y4
  have key : ((nI (pop (mvX A m c (A 0 0) ||| dpX A m (unM m c (A 0 0)) (A 0 0)))).toInt64 <<< ((nI 12 * σ.1 33 13).toInt64 &&& 63)) ||| lN (hvX (yX A m c) (A 0 0)) = lN (wkC A m c) := by
    rw [hp.1, nmul, nI_l (by omega), wb_shl _ (by omega)]
    rw [p4096] at hvl2
    have h2 : 2 ^ (12 * A 0 0) ≤ 2 ^ 48 := Nat.pow_le_pow_right (by decide) (by omega)
    have h5 : pop (mvX A m c (A 0 0) ||| dpX A m (unM m c (A 0 0)) (A 0 0)) * 2 ^ (12 * A 0 0) ≤ 12 * 2 ^ 48 := Nat.mul_le_mul pl h2
    rw [wb_or (by omega) (by omega), orS hvl2]
    unfold wkC
    rw [p4096]
  have ent : hq_m 30 (d + 2) none (hq_sJ σ 33 18 (lN (min K (wkC A m c)))) 8 [some (.ref 33), some (.int (nI m)), some (.int (nI (unM m c (A 0 0)))), some (.int (nI (mvX A m c 0))), some (.int (nI (dpX A m (unM m c (A 0 0)) 0))), some (.long (lN (hvX (yX A m c) 0))), none, some (.int (nI 0)), none] [] σ := by
    refine hq_m.for (fun j => [some (.ref 33), some (.int (nI m)), some (.int (nI (unM m c (A 0 0)))), some (.int (nI (mvX A m c j))), some (.int (nI (dpX A m (unM m c (A 0 0)) j))), some (.long (lN (hvX (yX A m c) j))), none, some (.int (nI j)), none]) (fun _ => σ) (A 0 0) ?_ ?_ 0 (Nat.zero_le _)
    · intro j hj ih
      have c1 : nI j < σ.1 33 13 := by rw [hp.1]; exact nlt hj (by omega)
      have o : vp_in (nI j) 8 := vin (by omega) (by decide)
      have cj : (nI j).toNatClampNeg = j := clamp (by omega)
      have e46 : σ.1 46 (nI j).toNatClampNeg = nI (onA A (j + 1)) := by rw [cj]; exact (hp.2.2.2 j hj).2.1
      have hvj := hv4 (X := yX A m c) (n := j) (by omega) (fun f hf => y4 f (by omega))
      have yj := y4 j hj
      have yl : (nI (yX A m c j)).toInt64 = lN (yX A m c j) := nI_l (by omega)
      have e1 : hvX (yX A m c) (j + 1) = hvX (yX A m c) j * 4096 + yX A m c j := rfl
      have lor : (lN (hvX (yX A m c) j) <<< ((nI 12).toInt64 &&& 63)) ||| lN (yX A m c j) = lN (hvX (yX A m c) (j + 1)) := by
        rw [wb_shl _ (by decide), wb_or (by omega) (by omega), orS (by omega), e1]
      cases hb : m.testBit j with
      | false =>
        have a1 : mvX A m c (j + 1) = mvX A m c j := by
          show mvX A m c j ||| _ = _
          rw [hb, if_neg (by decide), Nat.or_zero]
        have a2 : dpX A m (unM m c (A 0 0)) (j + 1) = dpX A m (unM m c (A 0 0)) j := by
          show dpX A m _ j ||| _ = _
          rw [hb, if_neg (by decide), Nat.or_zero]
        have a3 : yX A m c j = ndiff (onA A (j + 1)) (unM m c (A 0 0)) := by unfold yX; rw [hb]; rfl
        rw [a1, a2] at ih
        refine p_X1_weigh_8_1 c1 o (hn_bit0 (by omega) hb) ?_
        rw [e46, and_not, ← a3, yl, lor, nplus]
        exact ih
      | true =>
        have a1 : mvX A m c (j + 1) = mvX A m c j ||| ndiff (c j) (onA A (j + 1)) := by
          show mvX A m c j ||| _ = _
          rw [hb, if_pos rfl]
        have a2 : dpX A m (unM m c (A 0 0)) (j + 1) = dpX A m (unM m c (A 0 0)) j ||| ndiff (onA A (j + 1)) (unM m c (A 0 0)) := by
          show dpX A m _ j ||| _ = _
          rw [hb, if_pos rfl]
        have a3 : yX A m c j = c j := by unfold yX; rw [hb]; rfl
        have e43 : σ.1 43 (nI j).toNatClampNeg = nI (c j) := by rw [cj]; exact hc j hj hb
        rw [a1, a2] at ih
        refine p_X1_weigh_8_2 c1 o (hn_bit1 (by omega) hb) o o o ?_
        rw [e43, e46, and_not, and_not, orr, orr, ← a3, yl, lor, a3, nplus]
        exact ih
    · refine p_X1_weigh_8_3 (by rw [hp.1]; exact nI_nlt (Nat.le_refl _) (by omega)) (by rw [orr]; exact gb) ?_
      have hK3 : K ≤ 1152921504606846976 := hKl
      rw [key, hK]
      by_cases z : wkC A m c < K
      · rw [if_pos ((pk_lLT (by omega) (by omega)).mpr z), Nat.min_eq_right (by omega)]
      · rw [if_neg (fun y => z ((pk_lLT (by omega) (by omega)).mp y)), Nat.min_eq_left (by omega)]
  exact ⟨_, p_X1_weigh_0_1 ent, sJ_eq, (Fr.rf σ).sJ rfl⟩
theorem s_tryPairs (W : Wf A) (hD : A 0 0 ≤ 4) {m : Nat} (hm : m < 2 ^ A 0 0) : ∀ k e c σ K, e + k = A 0 0 → PDc A m c e → (∀ f, f < e → m.testBit f = true → σ.1 43 f = nI (c f)) → HP A F σ → σ.2 33 18 = lN K → K ≤ NK → ∃ τ K', hq_c 29 (d + k + 3) [.ref 33, .int (nI m), .int (nI e), .int (nI (unM m c e))] σ none τ ∧ τ.2 33 18 = lN K' ∧ K' ≤ K ∧ (K' = K ∨ ∃ c', agr m c c' e ∧ PDc A m c' (A 0 0) ∧ wkC A m c' = K') ∧ (∀ c', agr m c c' e → PDc A m c' (A 0 0) → K' ≤ wkC A m c') ∧ (∀ f, f < e → τ.1 43 f = σ.1 43 f) ∧ Fr [(33, 19), (43, 0)] σ τ := by
  have b1 := W.1
  have b2 := W.2.1
  have p12 : (2 : Nat) ^ A 1 0 ≤ 2 ^ 12 := Nat.pow_le_pow_right (by decide) b2
  intro k
  induction k with
  | zero =>
    intro e c σ K he P hc hp hK hKl
    have : e = A 0 0 := by omega
    subst this
    obtain ⟨τ, g1, g2, g3⟩ := s_weigh (d := d) W hD hp hm hc P rfl hK hKl
    refine ⟨τ, min K (wkC A m c), p_X1_tryPairs_0_3 (by rw [hp.1]; exact nI_nlt (Nat.le_refl _) (by omega)) g1, g2, by omega, ?_, fun c' ha _ => by rw [wkC_agr ha]; omega, fun f _ => g3.i rfl, g3.up (by decide)⟩
    by_cases z : wkC A m c < K
    · right
      exact ⟨c, fun _ _ _ => rfl, P, by omega⟩
    · left; omega
  | succ k ih =>
    intro e c σ K he P hc hp hK hKl
    have eD : e < A 0 0 := by omega
    have c1 : nI e < σ.1 33 13 := by rw [hp.1]; exact nlt eD (by omega)
    cases hb : m.testBit e with
    | false =>
      have u1 : unM m c (e + 1) = unM m c e := by
        show unM m c e ||| _ = _
        rw [hb, if_neg (by decide), Nat.or_zero]
      have ag : ∀ c', agr m c c' e → agr m c c' (e + 1) := fun c' h f hf hbf => by
        by_cases z : f = e
        · subst z; rw [hb] at hbf; cases hbf
        · exact h f (by omega) hbf
      obtain ⟨τ, K', g1, g2, g3, g4, g5, g6, g7⟩ := ih (e + 1) c σ K (by omega) (fun f hf hbf => by
        by_cases z : f = e
        · subst z; rw [hb] at hbf; cases hbf
        · exact P f (by omega) hbf) (fun f hf hbf => by
        by_cases z : f = e
        · subst z; rw [hb] at hbf; cases hbf
        · exact hc f (by omega) hbf) hp hK hKl
      rw [u1] at g1
      refine ⟨τ, K', p_X1_tryPairs_0_1 c1 (hn_bit0 (by omega) hb) (by rw [nplus]; exact g1), g2, g3, ?_, fun c' h P' => g5 c' (ag c' h) P', fun f hf => g6 f (by omega), g7⟩
      rcases g4 with z | ⟨c', a1, a2⟩
      · exact Or.inl z
      · exact Or.inr ⟨c', fun f hf => a1 f (by omega), a2⟩
    | true =>
      have oe : vp_in (nI e) 8 := vin (by omega) (by decide)
      have ce : (nI e).toNatClampNeg = e := clamp (by omega)
      obtain ⟨q1, q2, q3⟩ := hp.2.2.2 e eD
      have n66 := prs_len (A := A) (e := e) b2
      have ul : unM m c e < 2 ^ A 1 0 := lt_bits (fun i hi => by
        obtain ⟨f, h1, h2, h3⟩ := (unM_test _).mp hi
        exact bit_lt (prs_mem.mp (P f h1 h2).1).1 h3)
      have loop : ∀ q k' ρ K1, k' + q = (prs A e).length → ρ.2 33 18 = lN K1 → K1 ≤ K → (K1 = K ∨ ∃ c', agr m c c' e ∧ PDc A m c' (A 0 0) ∧ wkC A m c' = K1) → (∀ c', agr m c c' e → PDc A m c' (A 0 0) → (∃ j, j < k' ∧ (prs A e)[j]? = some (c' e)) → K1 ≤ wkC A m c') → (∀ f, f < e → ρ.1 43 f = σ.1 43 f) → Fr [(33, 19), (43, 0)] σ ρ → ∃ τ K', hq_m 29 (d + (k + 1) + 3) none τ 29 [some (.ref 33), some (.int (nI m)), some (.int (nI e)), some (.int (nI (unM m c e))), some (.int (nI (66 * e))), some (.int (nI (66 * e + k')))] [] ρ ∧ τ.2 33 18 = lN K' ∧ K' ≤ K ∧ (K' = K ∨ ∃ c', agr m c c' e ∧ PDc A m c' (A 0 0) ∧ wkC A m c' = K') ∧ (∀ c', agr m c c' e → PDc A m c' (A 0 0) → K' ≤ wkC A m c') ∧ (∀ f, f < e → τ.1 43 f = σ.1 43 f) ∧ Fr [(33, 19), (43, 0)] σ τ := by
        intro q
        induction q with
        | zero =>
          intro k' ρ K1 hk h18 hle hw hall hcell fr
          have x40 : ρ.1 40 (nI e).toNatClampNeg = nI (prs A e).length := by rw [ce, fr.i rfl]; exact q1
          refine ⟨ρ, K1, p_X1_tryPairs_29_3 oe (by rw [x40, nplus]; exact nI_nlt (by omega) (by omega)), h18, hle, hw, fun c' ha P' => hall c' ha P' ?_, hcell, fr⟩
          obtain ⟨j, hj, hb'⟩ := List.getElem_of_mem (P' e eD hb).1
          exact ⟨j, by omega, by rw [List.getElem?_eq_getElem hj, hb']⟩
        | succ q ihq =>
          intro k' ρ K1 hk h18 hle hw hall hcell fr
          have x40 : ρ.1 40 (nI e).toNatClampNeg = nI (prs A e).length := by rw [ce, fr.i rfl]; exact q1
          have a1 : nI (66 * e + k') < nI (66 * e) + ρ.1 40 (nI e).toNatClampNeg := by rw [x40, nplus]; exact nlt (by omega) (by omega)
          have ok : vp_in (nI (66 * e + k')) 528 := vin (by omega) (by decide)
          have ck : (nI (66 * e + k')).toNatClampNeg = 66 * e + k' := clamp (by omega)
          obtain ⟨b, hbk⟩ : ∃ b, (prs A e)[k']? = some b := ⟨_, List.getElem?_eq_getElem (by omega)⟩
          obtain ⟨m1, m2⟩ := prs_mem.mp (mem_get hbk)
          have z34 : ρ.1 34 (nI (66 * e + k')).toNatClampNeg = nI b := by rw [ck, fr.i rfl]; exact (q3 k' b hbk).1
          have nx : nI (66 * e + k') + nI 1 = nI (66 * e + (k' + 1)) := nplus _ _
          have hbu : nI b &&& nI (unM m c e) = 0 ↔ b &&& unM m c e = 0 := by
            rw [fa_and]
            have lb : b &&& unM m c e ≤ unM m c e := Nat.and_le_right
            constructor
            · intro h
              apply Classical.byContradiction
              intro n
              exact nI_ne0 (by omega) (by omega) h
            · intro h; rw [h]; rfl
          by_cases d1 : b &&& unM m c e = 0
          · have ag0 : agr m c (upN c e b) e := fun f hf _ => by unfold upN; rw [if_neg (by omega)]
            have u1 : unM m (upN c e b) (e + 1) = unM m c e ||| b := by
              show unM m (upN c e b) e ||| _ = _
              rw [unM_agr ag0, hb, if_pos rfl]
              unfold upN
              rw [if_pos rfl]
            have P1 : PDc A m (upN c e b) (e + 1) := fun f hf hbf => by
              by_cases z : f = e
              · subst z
                rw [unM_agr ag0]
                have : upN c f b f = b := by unfold upN; rw [if_pos rfl]
                rw [this]
                exact ⟨mem_get hbk, d1⟩
              · exact PDc_agr ag0 P f (by omega) hbf
            have f1 : Fr [(33, 19), (43, 0)] ρ (hq_sI ρ 43 e (nI b)) := (Fr.rf ρ).sI rfl
            obtain ⟨ρ1, K2, g1, g2, g3, g4, g5, g6, g7⟩ := ih (e + 1) (upN c e b) (hq_sI ρ 43 e (nI b)) K1 (by omega) P1 (fun f hf hbf => by
              unfold upN
              by_cases z : f = e
              · subst z; rw [if_pos rfl, sI_eq]
              · rw [if_neg z, sI_slot z, hcell f (by omega)]; exact hc f (by omega) hbf) (HP.dep.fr f1 (by decide) (HP.dep.fr fr (by decide) hp)) h18 (by omega)
            rw [u1] at g1
            have toe : ∀ c', agr m (upN c e b) c' (e + 1) → agr m c c' e := fun c' h f hf hbf => (h f (by omega) hbf).trans (ag0 f hf hbf)
            obtain ⟨τ, K', w1, w2⟩ := ihq (k' + 1) ρ1 K2 (by omega) g2 (by omega) (by
              rcases g4 with z | ⟨c', x1, x2⟩
              · rw [z]; exact hw
              · exact Or.inr ⟨c', toe c' x1, x2⟩) (fun c' ha P' ⟨j, hj, hcj⟩ => by
              by_cases z : j = k'
              · subst z
                refine g5 c' (fun f hf hbf => ?_) P'
                unfold upN
                by_cases y : f = e
                · subst y
                  rw [if_pos rfl]
                  rw [hbk] at hcj
                  cases hcj; rfl
                · rw [if_neg y]; exact ha f (by omega) hbf
              · have := hall c' ha P' ⟨j, by omega, hcj⟩
                omega) (fun f hf => by rw [g6 f (by omega), sI_slot (by omega)]; exact hcell f hf) (fr.tr (f1.tr g7))
            refine ⟨τ, K', p_X1_tryPairs_29_1 oe a1 ok (by rw [z34]; exact hbu.mpr d1) ok oe ok ?_ (by rw [nx]; exact w1), w2⟩
            rw [ce, z34, sI_ne (by decide), z34, orr, nplus]
            exact g1
          · obtain ⟨τ, K', w1, w2⟩ := ihq (k' + 1) ρ K1 (by omega) h18 hle hw (fun c' ha P' ⟨j, hj, hcj⟩ => by
              by_cases z : j = k'
              · subst z
                rw [hbk] at hcj
                have e1 : c' e = b := by cases hcj; rfl
                have := (P' e eD hb).2
                rw [e1, unM_agr ha] at this
                exact absurd this d1
              · exact hall c' ha P' ⟨j, by omega, hcj⟩) hcell fr
            exact ⟨τ, K', p_X1_tryPairs_29_2 oe a1 ok (by rw [z34]; exact fun h => d1 (hbu.mp h)) (by rw [nx]; exact w1), w2⟩
      obtain ⟨τ, K', w1, w2⟩ := loop (prs A e).length 0 σ K (by omega) hK (Nat.le_refl _) (Or.inl rfl) (fun c' _ _ ⟨j, hj, _⟩ => by omega) (fun f _ => rfl) (Fr.rf σ)
      refine ⟨τ, K', p_X1_tryPairs_0_2 c1 (hn_bit1 (by omega) hb) ?_, w2⟩
      rw [nmul, Nat.mul_comm e 66]
      exact w1
theorem dec_id {n h x : Nat} (hx : x < 4096) : (n * 4096 + h * 4096 + x) % 4096 = x ∧ (n * 4096 + h * 4096 + x) / 4096 = n + h := by omega
/-- the row of a hanging -/
def xL (X : Nat → Nat) : Nat → List Nat
  | 0 => []
  | n + 1 => xL X n ++ [X n]
theorem xL_len (X : Nat → Nat) : ∀ n, (xL X n).length = n
  | 0 => rfl
  | n + 1 => by unfold xL; rw [List.length_append, xL_len X n]; rfl
theorem xL_get {X : Nat → Nat} : ∀ n {i y : Nat}, (xL X n)[i]? = some y → i < n ∧ y = X i
  | 0, i, y, h => by simp [xL] at h
  | n + 1, i, y, h => by
    unfold xL at h
    rcases snoc_get h with ⟨a, b⟩ | ⟨a, b⟩
    · have := xL_get n b; exact ⟨by omega, this.2⟩
    · rw [xL_len] at a; subst a; exact ⟨by omega, b⟩
theorem xL_congr {X Y : Nat → Nat} : ∀ n, (∀ f, f < n → X f = Y f) → xL X n = xL Y n
  | 0, _ => rfl
  | n + 1, h => by unfold xL; rw [xL_congr n (fun f hf => h f (by omega)), h n (by omega)]
theorem key_inj {X Y : Nat → Nat} : ∀ n {a b : Nat}, (∀ f, f < n → X f < 4096 ∧ Y f < 4096) → a * 4096 ^ n + hvX X n = b * 4096 ^ n + hvX Y n → a = b ∧ ∀ f, f < n → X f = Y f
  | 0, a, b, _, h => by
    simp [hvX] at h
    exact ⟨h, fun f hf => by omega⟩
  | n + 1, a, b, hl, h => by
    have e : ∀ (c : Nat) (Z : Nat → Nat), c * 4096 ^ (n + 1) + hvX Z (n + 1) = (c * 4096 ^ n + hvX Z n) * 4096 + Z n := fun c Z => by
      show c * 4096 ^ (n + 1) + (hvX Z n * 4096 + Z n) = _
      rw [Nat.pow_succ, ← Nat.mul_assoc, Nat.add_mul]; omega
    rw [e, e] at h
    obtain ⟨h1, h2⟩ := hl n (by omega)
    obtain ⟨k1, k2⟩ := key_inj n (fun f hf => hl f (by omega)) (show a * 4096 ^ n + hvX X n = b * 4096 ^ n + hvX Y n by omega)
    refine ⟨k1, fun f hf => ?_⟩
    by_cases z : f = n
    · subst z; omega
    · exact k2 f (by omega)
theorem X4 (W : Wf A) {v : Nat} {X : Nat → Nat} (g : gdX A v X) : ∀ f, f < A 0 0 → X f < 4096 := fun f hf => by
  have p12 : (2 : Nat) ^ A 1 0 ≤ 2 ^ 12 := Nat.pow_le_pow_right (by decide) W.2.1
  have := (g.1 f hf).1
  omega
noncomputable def kQ (A : TA) (v K : Nat) : List Nat := Classical.epsilon (fun Q => ∃ X, gdX A v X ∧ kyX A X = K ∧ Q = xL X (A 0 0))
theorem kQ_eq (W : Wf A) {v K : Nat} {X : Nat → Nat} (g : gdX A v X) (h : kyX A X = K) : xL X (A 0 0) = kQ A v K := by
  obtain ⟨Y, y1, y2, y3⟩ := Classical.epsilon_spec (p := fun Q => ∃ X, gdX A v X ∧ kyX A X = K ∧ Q = xL X (A 0 0)) ⟨xL X (A 0 0), X, g, h, rfl⟩
  show _ = Classical.epsilon _
  rw [y3]
  refine xL_congr _ (key_inj (A 0 0) (a := ncX A X) (b := ncX A Y) (fun f hf => ⟨X4 W g f hf, X4 W y1 f hf⟩) ?_).2
  have h : ncX A X * 4096 ^ A 0 0 + hvX X (A 0 0) = K := h
  have y2 : ncX A Y * 4096 ^ A 0 0 + hvX Y (A 0 0) = K := y2
  omega
theorem kN_eq (W : Wf A) {v K : Nat} {X : Nat → Nat} (g : gdX A v X) (h : kyX A X = K) : K / 4096 ^ A 0 0 = ncX A X := by
  rw [← h]
  unfold kyX
  have := hvX_lt _ (X4 W g)
  rw [Nat.mul_comm, Nat.mul_add_div (Nat.pow_pos (by decide)), Nat.div_eq_of_lt this]
  omega
theorem ncX_le (W : Wf A) (X : Nat → Nat) : ncX A X ≤ 12 := by
  have := psum_le (p := fun h => decide (thN X h (A 0 0) ≠ A 11 h)) (f := fun _ => 1) (c := 1) (m := A 1 0) (fun _ _ => Nat.le_refl _)
  have := W.2.1
  unfold ncX
  omega
theorem kyX_lt (W : Wf A) (hD : A 0 0 ≤ 4) {v : Nat} {X : Nat → Nat} (g : gdX A v X) : kyX A X < 9007199254740992 := by
  have h1 := hv4 hD (X4 W g)
  have h2 : 4096 ^ A 0 0 ≤ 4096 ^ 4 := Nat.pow_le_pow_right (by decide) hD
  have h3 : (4096 : Nat) ^ 4 = 281474976710656 := by decide
  have h4 := ncX_le W X
  have h5 : ncX A X * 4096 ^ A 0 0 ≤ 12 * 281474976710656 := Nat.mul_le_mul h4 (by omega)
  unfold kyX
  omega
theorem s_decode {X : Nat → Nat} {n : Nat} (hn : n ≤ 12) : ∀ j σ, j ≤ 4 → (∀ f, f < j → X f < 4096) → ∃ τ, hq_m 28 (d + 1) (some (.int (nI 1))) τ 38 [some (.ref 33), none, some (.long (lN (n * 4096 ^ j + hvX X j))), none, some (.int (nI j - nI 1))] [] σ ∧ τ.1 33 17 = nI n ∧ (∀ f, f < j → τ.1 43 f = nI (X f)) ∧ (∀ f, j ≤ f → τ.1 43 f = σ.1 43 f) ∧ Fr [(33, 18), (43, 0)] σ τ := by
  intro j
  induction j with
  | zero =>
    intro σ hj hX
    refine ⟨_, p_X1_findChange_38_1 (by decide), ?_, fun f hf => by omega, fun f _ => sI_ne (by decide), (Fr.rf σ).sI rfl⟩
    rw [sI_eq]
    show (lN (n * 1 + 0)).toInt32 = nI n
    rw [Nat.mul_one, Nat.add_zero, lN_i]
  | succ j ih =>
    intro σ hj hX
    have xj := hX j (by omega)
    have h1 := hv4 (X := X) (n := j + 1) hj hX
    have h2 : 4096 ^ (j + 1) ≤ 4096 ^ 4 := Nat.pow_le_pow_right (by decide) hj
    have h3 : (4096 : Nat) ^ 4 = 281474976710656 := by decide
    have h5 : n * 4096 ^ (j + 1) ≤ 12 * 281474976710656 := Nat.mul_le_mul hn (by omega)
    have ek : n * 4096 ^ (j + 1) + hvX X (j + 1) = (n * 4096 ^ j + hvX X j) * 4096 + X j := by
      show n * 4096 ^ (j + 1) + (hvX X j * 4096 + X j) = _
      rw [Nat.pow_succ, ← Nat.mul_assoc, Nat.add_mul]; omega
    have cj : (nI j).toNatClampNeg = j := clamp (by omega)
    obtain ⟨τ, w1, w2, w3, w4, w5⟩ := ih (hq_sI σ 43 j (nI (X j))) (by omega) (fun f hf => hX f (by omega))
    have dm : nI j + (-1) = nI j - nI 1 := by
      have : (-1 : Int32) = -(nI 1) := by decide
      rw [this, ← Int32.sub_eq_add_neg]
    refine ⟨τ, ?_, w2, fun f hf => ?_, fun f hf => ?_, (show Fr [(33, 18), (43, 0)] σ _ from (Fr.rf σ).sI rfl).tr w5⟩
    · rw [pr1]
      refine p_X1_findChange_38_2 (fun z => by rw [ltz, nI_toInt (by omega)] at z; omega) (vin (by omega) (by decide)) ?_
      have sh : lN (n * 4096 ^ (j + 1) + hvX X (j + 1)) >>> ((nI 12).toInt64 &&& 63) = lN (n * 4096 ^ j + hvX X j) := by
        rw [pf_shr (d := 12) (by decide) (by omega), ek]
        congr 1
        omega
      have ms : (lN (n * 4096 ^ (j + 1) + hvX X (j + 1)) &&& lN 4095).toInt32 = nI (X j) := by
        have := wb_mask (n := n * 4096 ^ (j + 1) + hvX X (j + 1)) (k := 12) (by omega) (by decide)
        rw [show (2 : Nat) ^ 12 - 1 = 4095 from rfl] at this
        rw [this, lN_i, ek]
        congr 1
        omega
      rw [sh, ms, cj, dm]
      exact w1
    · by_cases z : f = j
      · subst z; rw [w4 f (Nat.le_refl _), sI_eq]
      · exact w3 f (by omega)
    · rw [w4 f (by omega), sI_slot (by omega)]
end CC
