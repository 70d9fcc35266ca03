/-! all, most, best, cheap (class) -/
def fHng : List (Nat × Nat) := [(3, 2), (4, 0), (33, 0), (34, 0), (35, 0), (36, 0), (37, 0), (38, 0), (39, 0), (40, 0), (41, 0), (42, 0), (43, 0), (44, 0), (45, 0), (46, 0)]
section HJ1
variable {d : Nat} {A : TA} {F : Nat → Nat} {σ : hq_St}
theorem s_isNeeded (W : Wf A) (hK : kbOK A σ) {v m : Nat} (hv : v ≤ 63) (hm : m < 2 ^ A 0 0) : hq_c 27 (d + 1) [.ref 33, .int (nI m), .int (nI v)] σ (some (.int (bI (ndd A v m)))) σ := by
  have b1 := W.1
  have p8 : (2 : Nat) ^ A 0 0 ≤ 2 ^ 8 := Nat.pow_le_pow_right (by decide) b1
  have o : vp_in (nI m) 256 := vin (by omega) (by decide)
  have cm : (nI m).toNatClampNeg = m := clamp (by omega)
  have k1 := keptA_le W m
  have e44 : σ.1 44 (nI m).toNatClampNeg = nI (keptA A m) := by rw [cm]; exact hK.2 m hm
  unfold ndd
  by_cases q : v ≤ keptA A m
  · rw [decide_eq_true q, Bool.true_and]
    refine p_X1_isNeeded_0_2 o (by rw [e44]; exact nI_nlt q (by omega)) ?_
    have step : ∀ j, j < A 0 0 → (!m.testBit j || decide (keptA A (ndiff m (2 ^ j)) < v)) = true → ∀ {w : Option Value} {τ : hq_St}, hq_m 27 (d + 1) w τ 10 [some (.ref 33), some (.int (nI m)), some (.int (nI v)), some (.int (nI (j + 1)))] [] σ → hq_m 27 (d + 1) w τ 10 [some (.ref 33), some (.int (nI m)), some (.int (nI v)), some (.int (nI j))] [] σ := fun j hj h {w τ} ih => by
      have c1 : nI j < σ.1 33 13 := by rw [hK.1]; exact nlt hj (by omega)
      cases hb : m.testBit j with
      | false => exact p_X1_isNeeded_10_1 c1 (hn_bit0 (by omega) hb) (by rw [nplus]; exact ih)
      | true =>
        rw [hb] at h
        simp at h
        have lt := ndiff_bit_lt hb
        have ix : nI m &&& ((nI 1 <<< (nI j &&& 31)) ^^^ (-1 : Int32)) = nI (ndiff m (2 ^ j)) := by rw [hn_shl j (by omega), and_not]
        have cx : (nI (ndiff m (2 ^ j))).toNatClampNeg = ndiff m (2 ^ j) := clamp (by omega)
        exact p_X1_isNeeded_10_2 c1 (hn_bit1 (by omega) hb) (by rw [ix]; exact vin (by omega) (by decide)) (by rw [ix, cx, hK.2 _ (by omega)]; exact nlt h (by omega)) (by rw [nplus]; exact ih)
    cases ha : allb (fun e => !m.testBit e || decide (keptA A (ndiff m (2 ^ e)) < v)) (A 0 0) with
    | true =>
      have hpp := allb_true.mp ha
      refine hq_m.for (fun j => [some (.ref 33), some (.int (nI m)), some (.int (nI v)), some (.int (nI j))]) (fun _ => σ) (A 0 0) (fun j hj ih => step j hj (hpp j hj) ih) ?_ 0 (Nat.zero_le _)
      exact p_X1_isNeeded_10_4 (by rw [hK.1]; exact nI_nlt (Nat.le_refl _) (by omega))
    | false =>
      obtain ⟨k, hk, hf, hl⟩ := allb_false ha
      refine hq_m.for (fun j => [some (.ref 33), some (.int (nI m)), some (.int (nI v)), some (.int (nI j))]) (fun _ => σ) k (fun j hj ih => step j (by omega) (hl j hj) ih) ?_ 0 (Nat.zero_le _)
      simp at hf
      have c1 : nI k < σ.1 33 13 := by rw [hK.1]; exact nlt hk (by omega)
      have lt := ndiff_bit_lt hf.1
      have ix : nI m &&& ((nI 1 <<< (nI k &&& 31)) ^^^ (-1 : Int32)) = nI (ndiff m (2 ^ k)) := by rw [hn_shl k (by omega), and_not]
      have cx : (nI (ndiff m (2 ^ k))).toNatClampNeg = ndiff m (2 ^ k) := clamp (by omega)
      have kl := keptA_le W (ndiff m (2 ^ k))
      exact p_X1_isNeeded_10_3 c1 (hn_bit1 (by omega) hf.1) (by rw [ix]; exact vin (by omega) (by decide)) (by rw [ix, cx, hK.2 _ (by omega)]; exact nI_nlt hf.2 (by omega))
  · rw [decide_eq_false q, Bool.false_and]
    exact p_X1_isNeeded_0_1 o (by rw [e44]; exact nlt (by omega) (by omega))
def fCo : List (Nat × Nat) := [(33, 16), (33, 17), (41, 0), (42, 0)]
def cI (A : TA) (F : Nat → Nat) (v k : Nat) (o : Option Nat) (l : Nat) : Prop := match o with
  | none => l = 200 ∧ ∀ c l', c < k → ndd A v c = true → ¬ gdC A F v c l'
  | some b => b < k ∧ gdC A F v b l ∧ ∀ c l', c < k → ndd A v c = true → gdC A F v c l' → l < l' ∨ (l = l' ∧ b ≤ c)
theorem s_cheapest (W : Wf A) (hF : ∀ h, h < A 1 0 → F h ≤ 9) (hp : HP A F σ) (hI : mI σ) (hK : kbOK A σ) {v : Nat} (hv : v ≤ 63) : ∃ o τ, hq_c 26 (d + 13) [.ref 33, .int (nI v)] σ (some (.int (oN o))) τ ∧ chP A F v o ∧ mI τ ∧ Fr fCo σ τ := by
  have b1 := W.1
  have b2 := W.2.1
  have p8 : (2 : Nat) ^ A 0 0 ≤ 2 ^ 8 := Nat.pow_le_pow_right (by decide) b1
  have l108 : ∀ c l, gdC A F v c l → l ≤ 108 := fun c l h => (Hg_lo b2 hF h.2.2.1).2.1
  have fin : ∀ o l, (∀ c l', ndd A v c = true → gdC A F v c l' → match o with | none => False | some b => l < l' ∨ (l = l' ∧ b ≤ c)) → (∀ b, o = some b → gdC A F v b l) → chP A F v o := fun o l h g => by
    cases o with
    | none =>
      intro c l' hc
      obtain ⟨c0, l0, a1, a2, _⟩ := ndd_down c c l' (Nat.le_refl _) hc
      exact h c0 l0 a1 a2
    | some b =>
      refine ⟨l, g b rfl, fun c l' hc => ?_⟩
      obtain ⟨c0, l0, a1, a2, a3, a4⟩ := ndd_down c c l' (Nat.le_refl _) hc
      have := h c0 l0 a1 a2
      dsimp only at this
      omega
  have loop : ∀ q k o l ρ, k + q = 2 ^ A 0 0 → cI A F v k o l → mI ρ → Fr fCo σ ρ → ∃ o' τ, hq_m 26 (d + 13) (some (.int (oN o'))) τ 6 [some (.ref 33), some (.int (nI v)), some (.int (oN o)), some (.int (nI l)), some (.int (nI k)), none, none] [] ρ ∧ chP A F v o' ∧ mI τ ∧ Fr fCo σ τ := by
    intro q
    induction q with
    | zero =>
      intro k o l ρ hk hc hm fr
      have hp1 := HP.dep.fr fr (by decide) hp
      refine ⟨o, ρ, p_X1_cheapest_6_6 (by rw [shlD hp1.1 b1]; exact nI_nlt (by omega) (by omega)), fin o l (fun c l' hn hg => ?_) (fun b hb => ?_), hm, fr⟩
      · cases o with
        | none => exact hc.2 c l' (by have := hg.1; omega) hn hg
        | some b => exact hc.2.2 c l' (by have := hg.1; omega) hn hg
      · subst hb; exact hc.2.1
    | succ q ih =>
      intro k o l ρ hk hc hm fr
      have hp1 := HP.dep.fr fr (by decide) hp
      have hK1 := kbOK.dep.fr fr (by decide) hK
      have c1 : nI k < nI 1 <<< (ρ.1 33 13 &&& 31) := by rw [shlD hp1.1 b1]; exact nlt (by omega) (by omega)
      have gb := s_bitCount (d := d + 11) (σ := ρ) (n := k) (by omega)
      have pl := pop_le k
      have l200 : l ≤ 200 := by
        cases o with
        | none => exact Nat.le_of_eq hc.1
        | some b => have := l108 b l hc.2.1; omega
      by_cases z0 : l = 0
      · refine ⟨o, ρ, p_X1_cheapest_6_5 c1 (by rw [z0]; decide), fin o l (fun c l' hn hg => ?_) (fun b hb => ?_), hm, fr⟩
        · cases o with
          | none => have := hc.1; omega
          | some b =>
            dsimp only
            by_cases z : c < k
            · exact hc.2.2 c l' z hn hg
            · have := hc.1; omega
        · subst hb; exact hc.2.1
      · have c2 : (0 : Int32) < nI l := (z_lt (by omega)).mpr z0
        have ix : (if ρ.1 33 14 < nI 2 * nI (pop k) then ρ.1 33 14 else nI 2 * nI (pop k)) = nI (min (2 * pop k) (A 1 0)) := by
          rw [hp1.2.1, nmul]; exact min_val (by omega) (by omega)
        have cx : (nI (min (2 * pop k) (A 1 0))).toNatClampNeg = min (2 * pop k) (A 1 0) := clamp (by omega)
        have ox : vp_in (if ρ.1 33 14 < nI 2 * nI (pop k) then ρ.1 33 14 else nI 2 * nI (pop k)) 13 := by rw [ix]; exact vin (by omega) (by decide)
        have e39 : ρ.1 39 (if ρ.1 33 14 < nI 2 * nI (pop k) then ρ.1 33 14 else nI 2 * nI (pop k)).toNatClampNeg = nI (LF F (A 1 0) (min (2 * pop k) (A 1 0))) := by rw [ix, cx]; exact hp1.2.2.1 _ (by omega)
        have lo : ∀ l', gdC A F v k l' → LF F (A 1 0) (min (2 * pop k) (A 1 0)) ≤ l' := fun l' hg => by
          obtain ⟨a, _, b⟩ := Hg_lo b2 hF hg.2.2.1
          rw [ds_len hg.1 (by omega)] at a b
          rw [Nat.min_eq_left b]; exact a
        have l9 := LF_9 (F := F) (H := A 1 0) (m := min (2 * pop k) (A 1 0))
        have stay : (∀ l', ndd A v k = true → gdC A F v k l' → l ≤ l' ∧ o ≠ none) → cI A F v (k + 1) o l := fun h => by
          cases o with
          | none =>
            refine ⟨hc.1, fun c l' hlt hn hg => ?_⟩
            by_cases z : c = k
            · subst z; exact (h l' hn hg).2 rfl
            · exact hc.2 c l' (by omega) hn hg
          | some b =>
            refine ⟨by have := hc.1; omega, hc.2.1, fun c l' hlt hn hg => ?_⟩
            by_cases z : c = k
            · subst z
              have := (h l' hn hg).1
              have := hc.1
              omega
            · exact hc.2.2 c l' (by omega) hn hg
        by_cases z1 : LF F (A 1 0) (min (2 * pop k) (A 1 0)) < l
        · have c3 : ρ.1 39 (if ρ.1 33 14 < nI 2 * nI (pop k) then ρ.1 33 14 else nI 2 * nI (pop k)).toNatClampNeg < nI l := by rw [e39]; exact nlt z1 (by omega)
          have gn := s_isNeeded (d := d + 11) W hK1 (v := v) (m := k) hv (by omega)
          cases hn : ndd A v k with
          | false =>
            rw [hn] at gn
            obtain ⟨o', τ, w1, w2⟩ := ih (k + 1) o l ρ (by omega) (stay (fun l' h => by rw [hn] at h; cases h)) hm fr
            refine ⟨o', τ, p_X1_cheapest_6_1 c1 c2 gb ox c3 gn rfl ?_, w2⟩
            rw [nplus]; exact w1
          | true =>
            rw [hn] at gn
            obtain ⟨ρ2, x, x1, x2, x3, x4, x5⟩ := s_costOf (d := d) W hF (m := k) (by omega) hp1 hm
            obtain ⟨y1, y2⟩ := cost_fea W hF x2
            have kv : v ≤ keptA A k := by
              unfold ndd at hn
              rw [Bool.and_eq_true] at hn
              simpa using hn.1
            by_cases z2 : x < l
            · have nx : x ≠ 200 := by omega
              have gk : gdC A F v k x := ⟨by omega, kv, y2 nx⟩
              obtain ⟨o', τ, w1, w2⟩ := ih (k + 1) (some k) x ρ2 (by omega) ⟨by omega, gk, fun c l' hlt hn' hg => by
                by_cases z : c = k
                · subst z
                  have := isM_uq gk.2.2 hg.2.2
                  omega
                · left
                  cases o with
                  | none => exact absurd hg (hc.2 c l' (by omega) hn')
                  | some b => have := hc.2.2 c l' (by omega) hn' hg; omega⟩ x4 (fr.tr x5)
              refine ⟨o', τ, p_X1_cheapest_6_2 c1 c2 gb ox c3 gn (by decide) x1 (nlt z2 (by omega)) ?_, w2⟩
              rw [nplus]; exact w1
            · obtain ⟨o', τ, w1, w2⟩ := ih (k + 1) o l ρ2 (by omega) (stay (fun l' _ hg => by
                have yx : x ≠ 200 := fun z => (y1.mp z) ((fea_iff F).mpr ⟨l', hg.2.2.1⟩)
                have := isM_uq (y2 yx) hg.2.2
                refine ⟨by omega, fun z => ?_⟩
                rw [z] at hc
                have := hc.1
                omega)) x4 (fr.tr x5)
              refine ⟨o', τ, p_X1_cheapest_6_3 c1 c2 gb ox c3 gn (by decide) x1 (nI_nlt (by omega) (by omega)) ?_, w2⟩
              rw [nplus]; exact w1
        · obtain ⟨o', τ, w1, w2⟩ := ih (k + 1) o l ρ (by omega) (stay (fun l' _ hg => by
            have := lo l' hg
            refine ⟨by omega, fun z => ?_⟩
            rw [z] at hc
            have := hc.1
            omega)) hm fr
          refine ⟨o', τ, p_X1_cheapest_6_4 c1 c2 gb ox (by rw [e39]; exact nI_nlt (by omega) (by omega)) ?_, w2⟩
          rw [nplus]; exact w1
  obtain ⟨o, τ, w1, w2⟩ := loop (2 ^ A 0 0) 0 none 200 σ (by omega) ⟨rfl, fun c l' h => by omega⟩ hI (Fr.rf σ)
  exact ⟨o, τ, p_X1_cheapest_0_1 w1, w2⟩
theorem HP.look {τ : hq_St} (h : HP A F σ) (hK : kbOK A τ) (fr : Fr [(33, 14), (44, 0)] σ τ) : HP A F τ := by
  refine ⟨hK.1, (fr.i rfl).trans h.2.1, fun m hm => (fr.i rfl).trans (h.2.2.1 m hm), fun e he => ?_⟩
  exact HPq.dep.fr fr (by decide) (h.2.2.2 e he)
theorem s_all {L : List Int64} (R : Rc A σ) (hI : mI σ) (hL : cR L σ) (x : Int32) : ∃ τ, hq_c 136 (d + 14) [.ref 0, .int x] σ (some (.int (allR A x))) τ ∧ cR (allL A x L) τ ∧ mI τ ∧ Fr fHng σ τ := by
  have W := R.1
  have b1 := W.1
  have b2 := W.2.1
  have p8 : (2 : Nat) ^ A 0 0 ≤ 2 ^ 8 := Nat.pow_le_pow_right (by decide) b1
  have sh : nI 1 <<< (σ.1 5 13 &&& 31) = nI (2 ^ A 0 0) := by rw [R.2.1]; exact hn_shl _ (by omega)
  unfold allR allL
  cases c : inr x (2 ^ A 0 0) with
  | false =>
    rw [Bool.false_and]
    refine ⟨σ, ?_, hL, hI, Fr.rf σ⟩
    by_cases q : x < 0
    · exact p_X9_all_0_1 q
    · refine p_X9_all_0_4 q ?_
      rw [sh, lt_nI (by omega)]
      rw [ltz] at q
      unfold inr at c
      rw [decide_eq_false_iff_not] at c
      omega
  | true =>
    obtain ⟨m, hm, rfl⟩ := inr_of c
    rw [Bool.true_and, tn (by omega)]
    have n0 : ¬ nI m < 0 := fun z => by rw [ltz, nI_toInt (by omega)] at z; omega
    have c2 : nI m < nI 1 <<< (σ.1 5 13 &&& 31) := by rw [sh]; exact nlt hm (by omega)
    obtain ⟨ρ1, g1, hp, f1⟩ := s_prepare (d := d + 9) R false
    rw [feeF_f] at hp
    obtain ⟨ρ2, v, x1, x2, x3, x4, x5⟩ := s_costOf (d := d + 1) W (zF_le A) hm hp (mI.dep.fr f1 (by decide) hI)
    obtain ⟨y1, y2⟩ := cost_fea W (zF_le A) x2
    have F2 : Fr fHng σ ρ2 := (f1.up (by decide)).tr (x5.up (by decide))
    by_cases z : v = 200
    · rw [cb_f.mpr (y1.mp z)]
      exact ⟨ρ2, p_X9_all_0_2 n0 c2 g1 x1 (by rw [z]), cR.dep.fr x5 (by decide) (cR.dep.fr f1 (by decide) hL), x4, F2⟩
    · have yf : fea A m := Classical.byContradiction (fun n => z (y1.mpr n))
      rw [cb_t.mpr yf, if_pos rfl, if_pos rfl]
      obtain ⟨Q, ρ3, k1, k2, k3, k4, k5, k6⟩ := s_choose (d := d) W (zF_le A) hm (y2 z) (HP.dep.fr x5 (by decide) hp) x4
      obtain ⟨ρ4, u1, u2, u3⟩ := s_clear (d := d + 12) (σ := ρ3)
      have h13 : ρ4.1 33 13 = nI (A 0 0) := by rw [u3.i rfl, k6.i rfl, x5.i rfl]; exact hp.1
      obtain ⟨ρ5, t1, t2, t3⟩ := s_tell (d := d + 11) h13 b1 u2 (by decide) k3 (chC.dep.fr u3 (by decide) k4)
      have gb := s_bitCount (d := d + 12) (σ := ρ5) (n := m) (by omega)
      have F5 : Fr fHng σ ρ5 := F2.tr ((k6.up (by decide)).tr ((u3.up (by decide)).tr (t3.up (by decide))))
      have e14 : ρ5.1 5 14 = nI (A 1 0) := (F5.i rfl).trans R.2.2.1
      have P := p_X9_all_0_3 n0 c2 g1 x1 (by rw [nI_eq (by omega) (by decide)]; exact z) k1 u1 t1 gb
      rw [e14, nmul] at P
      rw [← chQ_eq (y2 z) k2]
      exact ⟨ρ5, P, t2, mI.dep.fr t3 (by decide) (mI.dep.fr u3 (by decide) k5), F5⟩
theorem s_most (R : Rc A σ) (hI : mI σ) : ∃ τ, hq_c 137 (d + 14) [.ref 0] σ (some (.int (nI (pop (mstB A))))) τ ∧ cR [(nI (mstB A)).toInt64] τ ∧ mI τ ∧ Fr fHng σ τ := by
  have W := R.1
  have b1 := W.1
  have p8 : (2 : Nat) ^ A 0 0 ≤ 2 ^ 8 := Nat.pow_le_pow_right (by decide) b1
  obtain ⟨ρ1, g1, hp, f1⟩ := s_prepare (d := d + 9) R false
  rw [feeF_f] at hp
  obtain ⟨ρ2, x1, x2, x3⟩ := s_largest (d := d) W hp (mI.dep.fr f1 (by decide) hI)
  obtain ⟨ρ3, u1, u2, u3⟩ := s_clear (d := d + 12) (σ := ρ2)
  obtain ⟨ρ4, v1, v2, v3⟩ := s_add (d := d + 12) u2 (by decide) (nI (mstB A)).toInt64
  have ml : mstB A < 256 := by
    have := moB_lt (A := A) (2 ^ A 0 0)
    unfold mstB
    omega
  have gb := s_bitCount (d := d + 12) (σ := ρ4) (n := mstB A) (by omega)
  exact ⟨ρ4, p_X9_most_0_1 g1 x1 u1 v1 gb, v2, mI.dep.fr v3 (by decide) (mI.dep.fr u3 (by decide) x2), (f1.up (by decide)).tr ((x3.up (by decide)).tr ((u3.up (by decide)).tr (v3.up (by decide))))⟩
theorem fea_M {m : Nat} (h : fea A m) : isM (Hg A zF (ds m (A 0 0)) 0) 0 := by
  obtain ⟨c, h⟩ := h
  have : c = 0 := Hg_zero h
  rw [this] at h
  exact ⟨h, fun _ _ => Nat.zero_le _⟩
theorem s_best (R : Rc A σ) (hI : mI σ) : ∃ τ, hq_c 138 (d + 14) [.ref 0] σ (some (.int (nI (keptA A (bst2 A))))) τ ∧ cR (bstL A) τ ∧ mI τ ∧ Fr fHng σ τ := by
  have W := R.1
  have b1 := W.1
  have p8 : (2 : Nat) ^ A 0 0 ≤ 2 ^ 8 := Nat.pow_le_pow_right (by decide) b1
  obtain ⟨bl, bf, _⟩ := bst2_ok A
  obtain ⟨ρ1, g1, hp, f1⟩ := s_prepare (d := d + 9) R false
  rw [feeF_f] at hp
  obtain ⟨ρ2, g2, hK, f2⟩ := s_lookRound (d := d + 10) (Rc.dep.fr f1 (by decide) R)
  have hp2 := hp.look hK f2
  obtain ⟨ρ3, x1, x2, x3⟩ := s_safest (d := d) W hp2 (mI.dep.fr f2 (by decide) (mI.dep.fr f1 (by decide) hI)) hK
  have hp3 := HP.dep.fr x3 (by decide) hp2
  obtain ⟨Q, ρ4, k1, k2, k3, k4, k5, k6⟩ := s_choose (d := d) W (zF_le A) bl (fea_M bf) hp3 x2
  obtain ⟨ρ5, u1, u2, u3⟩ := s_clear (d := d + 12) (σ := ρ4)
  obtain ⟨ρ6, v1, v2, v3⟩ := s_add (d := d + 12) u2 (by decide) (nI (bst2 A)).toInt64
  have h13 : ρ6.1 33 13 = nI (A 0 0) := by rw [v3.i rfl, u3.i rfl, k6.i rfl]; exact hp3.1
  obtain ⟨ρ7, t1, t2, t3⟩ := s_tell (d := d + 11) h13 b1 v2 (by simp) k3 (chC.dep.fr v3 (by decide) (chC.dep.fr u3 (by decide) k4))
  have F7 : Fr fHng σ ρ7 := (f1.up (by decide)).tr ((f2.up (by decide)).tr ((x3.up (by decide)).tr ((k6.up (by decide)).tr ((u3.up (by decide)).tr ((v3.up (by decide)).tr (t3.up (by decide)))))))
  have gs := s_secretsKept (d := d + 11) (s := bst2 A) (Rc.dep.fr F7 (by decide) R)
  refine ⟨ρ7, p_X9_best_0_1 g1 g2 x1 k1 u1 v1 t1 gs, ?_, mI.dep.fr t3 (by decide) (mI.dep.fr v3 (by decide) (mI.dep.fr u3 (by decide) k5)), F7⟩
  unfold bstL
  rw [← chQ_eq (fea_M bf) k2]
  exact t2
theorem s_cheap {L : List Int64} (R : Rc A σ) (hI : mI σ) (hL : cR L σ) (x : Int32) : ∃ τ, hq_c 139 (d + 14) [.ref 0, .int x] σ (some (.int (cheR A x))) τ ∧ cR (cheL A x L) τ ∧ mI τ ∧ Fr fHng σ τ := by
  have W := R.1
  have b1 := W.1
  have b2 := W.2.1
  have p8 : (2 : Nat) ^ A 0 0 ≤ 2 ^ 8 := Nat.pow_le_pow_right (by decide) b1
  have g0 := s_isAmount (d := d + 12) (σ := σ) x
  unfold cheR cheL
  cases c : inb x 0 63 with
  | false =>
    rw [c] at g0
    exact ⟨σ, p_X9_cheap_0_1 g0 rfl, hL, hI, Fr.rf σ⟩
  | true =>
    rw [c] at g0
    obtain ⟨v, _, hv, rfl⟩ := inb_of c
    rw [if_pos rfl, if_pos rfl, tn (by omega)]
    have hF := feeF_le W true
    rw [feeF_t] at hF
    obtain ⟨ρ1, g1, hp, f1⟩ := s_prepare (d := d + 9) R true
    rw [feeF_t] at hp
    obtain ⟨ρ2, g2, hK, f2⟩ := s_lookRound (d := d + 10) (Rc.dep.fr f1 (by decide) R)
    have hp2 := hp.look hK f2
    obtain ⟨o, ρ3, x1, x2, x3, x4⟩ := s_cheapest (d := d) W hF hp2 (mI.dep.fr f2 (by decide) (mI.dep.fr f1 (by decide) hI)) hK hv
    have F3 : Fr fHng σ ρ3 := (f1.up (by decide)).tr ((f2.up (by decide)).tr (x4.up (by decide)))
    rw [← chO_eq x2]
    cases o with
    | none =>
      exact ⟨ρ3, p_X9_cheap_0_2 g0 (by decide) g1 g2 x1 (by decide), cR.dep.fr x4 (by decide) (cR.dep.fr f2 (by decide) (cR.dep.fr f1 (by decide) hL)), x3, F3⟩
    | some b =>
      obtain ⟨l, gl, _⟩ := x2
      have bl := gl.1
      have hp3 := HP.dep.fr x4 (by decide) hp2
      have nb : ¬ oN (some b) < 0 := fun z => by
        have z : nI b < 0 := z
        rw [ltz, nI_toInt (by omega)] at z; omega
      obtain ⟨ρ4, w, y1, y2, y3, y4, y5⟩ := s_costOf (d := d + 1) W hF (m := b) bl hp3 x3
      obtain ⟨q1, q2⟩ := cost_fea W hF y2
      have w200 : w ≠ 200 := fun z => (q1.mp z) ((fea_iff (A 8)).mpr ⟨l, gl.2.2.1⟩)
      have hM := q2 w200
      have hp4 := HP.dep.fr y5 (by decide) hp3
      obtain ⟨Q, ρ5, k1, k2, k3, k4, k5, k6⟩ := s_choose (d := d) W hF bl hM hp4 y4
      obtain ⟨ρ6, u1, u2, u3⟩ := s_clear (d := d + 12) (σ := ρ5)
      obtain ⟨ρ7, v1, v2, v3⟩ := s_add (d := d + 12) u2 (by decide) (nI b).toInt64
      have h13 : ρ7.1 33 13 = nI (A 0 0) := by rw [v3.i rfl, u3.i rfl, k6.i rfl]; exact hp4.1
      obtain ⟨ρ8, t1, t2, t3⟩ := s_tell (d := d + 11) h13 b1 v2 (by simp) k3 (chC.dep.fr v3 (by decide) (chC.dep.fr u3 (by decide) k4))
      dsimp only
      rw [← chQ_eq hM k2, ← mcV_eq hM]
      exact ⟨ρ8, p_X9_cheap_0_3 g0 (by decide) g1 g2 x1 nb y1 k1 u1 v1 t1, t2, mI.dep.fr t3 (by decide) (mI.dep.fr v3 (by decide) (mI.dep.fr u3 (by decide) k5)), F3.tr ((y5.up (by decide)).tr ((k6.up (by decide)).tr ((u3.up (by decide)).tr ((v3.up (by decide)).tr (t3.up (by decide))))))⟩
end HJ1
