/-! hangings: the reference's pairs and least costs -/
def MP (A : TA) (σ : hq_St) : Prop := ∀ e, e < A 0 0 → σ.1 76 e = nI (prs A e).length ∧ ∀ k b, (prs A e)[k]? = some b → σ.1 75 (66 * e + k) = nI b
theorem MP.dep {A : TA} : Dep [(75, 0), (76, 0)] (MP A) := fun σ τ q h e he => ⟨((q 76 e rfl).1).trans (h e he).1, fun k b hk => ((q 75 _ rfl).1).trans ((h e he).2 k b hk)⟩
def FARn : Nat := 1000000000
def ML (A : TA) (m : Nat) (σ : hq_St) : Prop := ∀ e u, e < A 0 0 → u < 4096 → ∃ w, σ.1 77 (4096 * e + u) = nI w ∧ w ≤ 1000000001 ∧ (w ≠ 0 → LC FARn (Hg A (A 8) (dsF m e (A 0 0 - e)) u) (w - 1))
theorem ML.dep {A : TA} {m : Nat} : Dep [(77, 0)] (ML A m) := fun σ τ q h e u he hu => by
  obtain ⟨w, a, b⟩ := h e u he hu
  exact ⟨w, ((q 77 _ rfl).1).trans a, b⟩
theorem or12 {e u : Nat} (hu : u < 4096) : e * 4096 ||| u = 4096 * e + u := by
  have := Nat.shiftLeft_add_eq_or_of_lt (b := u) (i := 12) hu e
  rw [Nat.shiftLeft_eq] at this
  rw [Nat.mul_comm 4096 e]
  exact this.symm
theorem shl12 {s : Nat} (h : s < 4096) : nI s <<< (nI 12 &&& 31) = nI (s * 4096) := pk_shlN _ 12 (by decide) (by omega)
theorem prL_le {A : TA} {e : Nat} : ∀ {m k : Nat}, (prL A e m).length ≤ (prL A e (m + k)).length
  | m, 0 => Nat.le_refl _
  | m, k + 1 => by
    have := prL_le (A := A) (e := e) (m := m) (k := k)
    show _ ≤ (prL A e (m + k) ++ _).length
    rw [List.length_append]; omega
section HM1
variable {d : Nat} {A : TA} {σ : hq_St}
theorem m_laysPairs (R : Rm 61 A σ) : ∃ τ, hq_c 245 (d + 4) [.ref 52] σ none τ ∧ MP A τ ∧ Fr [(75, 0), (76, 0)] σ τ := by
  have W := R.1
  have b1 := W.1
  have b2 := W.2.1
  have p12 : (2 : Nat) ^ A 1 0 ≤ 2 ^ 12 := Nat.pow_le_pow_right (by decide) b2
  obtain ⟨τ, w, hv, fr⟩ := hq_w.for (x := 245) (d := d + 4) (i := 2) (fun e => [some (.ref 52), some (.int (nI e)), none]) (fun e ρ => (∀ f, f < e → ρ.1 76 f = nI (prs A f).length ∧ ∀ k b, (prs A f)[k]? = some b → ρ.1 75 (66 * f + k) = nI b) ∧ Fr [(75, 0), (76, 0)] σ ρ) (A 0 0) (fun e he ρ ⟨hv, fr⟩ => by
    have c1 : nI e < ρ.1 52 3 := by rw [fr.i rfl, R.2.1]; exact nlt he (by omega)
    have oe : vp_in (nI e) 8 := vin (by omega) (by decide)
    have ce : (nI e).toNatClampNeg = e := clamp (by omega)
    have f0 : Fr [(75, 0), (76, 0)] σ (hq_sI ρ 76 e (nI 0)) := fr.sI rfl
    obtain ⟨ρ', w', hq', ho', fr'⟩ := hq_w.for (x := 245) (d := d + 4) (i := 13) (fun n => [some (.ref 52), some (.int (nI e)), some (.int (nI n))]) (fun n ρ' => (ρ'.1 76 e = nI (prL A e n).length ∧ ∀ k b, (prL A e n)[k]? = some b → ρ'.1 75 (66 * e + k) = nI b) ∧ (∀ f, f < e → ρ'.1 76 f = nI (prs A f).length ∧ ∀ k b, (prs A f)[k]? = some b → ρ'.1 75 (66 * f + k) = nI b) ∧ Fr [(75, 0), (76, 0)] σ ρ') (2 ^ A 1 0) (fun n hn ρ1 ⟨hq1, ho1, fr1⟩ => by
      have R1 := Rm.depn.fr fr1 (by decide) R
      have c2 : nI n < nI 1 <<< (ρ1.1 52 4 &&& 31) := by rw [fr1.i rfl, R.2.2.1, hn_shl _ (by omega)]; exact nlt hn (by omega)
      have gb := s_bitCount (d := d + 2) (σ := ρ1) (n := n) (by omega)
      have gs := m_shutsn (d := d) R1 he (n := n) (by omega)
      have gf := m_allFit (d := d + 1) R1 (n := n) (by omega) he
      have pl := pop_le n
      have st : prL A e (n + 1) = prL A e n ++ (if okP A e n then [n] else []) := rfl
      have skip : okP A e n = false → prL A e (n + 1) = prL A e n := fun z => by rw [st, z]; simp
      by_cases q : pop n = 2
      · cases h1 : shutF A (h0 A) e n with
        | false =>
          rw [h1] at gs
          rw [skip (by unfold okP; rw [h1]; rfl)]
          refine ⟨ρ1, fun v τ k => p_X10_laysPairs_13_1 c2 gb (by rw [q]) gs rfl ?_, hq1, ho1, fr1⟩
          rw [nplus]; exact k
        | true =>
          rw [h1] at gs
          cases h2 : fitA A n e (A 1 0) with
          | false =>
            rw [h2] at gf
            rw [skip (by unfold okP; rw [h1, h2]; rfl)]
            refine ⟨ρ1, fun v τ k => p_X10_laysPairs_13_2 c2 gb (by rw [q]) gs (by decide) gf rfl ?_, hq1, ho1, fr1⟩
            rw [nplus]; exact k
          | true =>
            rw [h2] at gf
            have st : prL A e (n + 1) = prL A e n ++ [n] := by rw [st]; unfold okP; rw [h1, h2]; rfl
            have len : (prL A e n).length < 66 := by
              have l1 := prL_le (A := A) (e := e) (m := n + 1) (k := 2 ^ A 1 0 - (n + 1))
              rw [show n + 1 + (2 ^ A 1 0 - (n + 1)) = 2 ^ A 1 0 by omega, st, List.length_append] at l1
              have l2 := prs_len (A := A) (e := e) b2
              unfold prs at l2
              simp at l1
              omega
            have ix : nI 66 * nI e + ρ1.1 76 (nI e).toNatClampNeg = nI (66 * e + (prL A e n).length) := by rw [ce, hq1.1, nmul, nplus]
            have cx : (nI (66 * e + (prL A e n).length)).toNatClampNeg = 66 * e + (prL A e n).length := clamp (by omega)
            rw [st]
            refine ⟨hq_sI (hq_sI ρ1 75 (66 * e + (prL A e n).length) (nI n)) 76 e (nI ((prL A e n).length + 1)), fun v τ k => p_X10_laysPairs_13_3 c2 gb (by rw [q]) gs (by decide) gf (by decide) oe oe (by rw [ix]; exact vin (by omega) (by decide)) oe (by rw [ix, cx, ce, sI_ne (by decide), hq1.1, nplus]) (by rw [nplus]; exact k), ⟨by rw [sI_eq, List.length_append]; rfl, fun k b hk => ?_⟩, fun f hf => ⟨?_, fun k b hk => ?_⟩, (fr1.sI rfl).sI rfl⟩
            · rw [sI_ne (by decide)]
              rcases snoc_get hk with ⟨z1, z2⟩ | ⟨z1, z2⟩
              · rw [sI_slot (by omega)]; exact hq1.2 k b z2
              · rw [z1, sI_eq, z2]
            · rw [sI_slot (by omega), sI_ne (by decide)]; exact (ho1 f hf).1
            · have kl := (List.getElem?_eq_some_iff.mp hk).1
              have kl2 := prs_len (A := A) (e := f) b2
              rw [sI_ne (by decide), sI_slot (by omega)]; exact (ho1 f hf).2 k b hk
      · rw [skip (by
          cases z : okP A e n with
          | false => rfl
          | true => exact absurd (okP_2 z) q)]
        refine ⟨ρ1, fun v τ k => p_X10_laysPairs_13_4 c2 gb (by rw [nI_eq (by omega) (by decide)]; exact q) ?_, hq1, ho1, fr1⟩
        rw [nplus]; exact k) (σ := hq_sI ρ 76 e (nI 0)) ⟨⟨by rw [sI_eq]; rfl, fun k b hk => by simp [prL] at hk⟩, fun f hf => ⟨by rw [sI_slot (by omega)]; exact (hv f hf).1, fun k b hk => by rw [sI_ne (by decide)]; exact (hv f hf).2 k b hk⟩, f0⟩
    refine ⟨ρ', fun v τ k => p_X10_laysPairs_2_1 c1 oe ?_, fun f hf => ?_, fr'⟩
    · rw [ce]
      refine w' v τ (p_X10_laysPairs_13_5 (by rw [fr'.i rfl, R.2.2.1, hn_shl _ (by omega)]; exact nI_nlt (Nat.le_refl _) (by omega)) ?_)
      rw [nplus]; exact k
    · by_cases z : f = e
      · rw [z]; exact hq'
      · exact ho' f (by omega)) (σ := σ) ⟨fun f hf => by omega, Fr.rf σ⟩
  exact ⟨τ, p_X10_laysPairs_0_1 (w _ _ (p_X10_laysPairs_2_2 (by rw [fr.i rfl, R.2.1]; exact nI_nlt (Nat.le_refl _) (by omega)))), hv, fr⟩
theorem shr_z {m e : Nat} (hm : m < 256) (he : e ≤ 8) : nI m >>> (nI e &&& 31) = nI (m / 2 ^ e) := pk_shrN (by omega) _ e (by
  have : ∀ k, k < 9 → ((nI k &&& 31).toBitVec.smod 32).toNat = k := by decide +kernel
  exact this e (by omega))
theorem W8 (W : Wf A) : ∀ h, h < A 1 0 → A 8 h ≤ 9 := fun h hh => (W.2.2.2.1 h hh).2.2.2.1
theorem m_leastFrom {m : Nat} (hm : m < 2 ^ A 0 0) : ∀ k e u σ, e + k = A 0 0 → u < 2 ^ A 1 0 → Rm 61 A σ → MP A σ → ML A m σ → ∃ τ v, hq_c 247 (d + k + 3) [.ref 52, .int (nI e), .int (nI m), .int (nI u)] σ (some (.int (nI v))) τ ∧ LC FARn (Hg A (A 8) (dsF m e k) u) v ∧ v ≤ FARn ∧ ML A m τ ∧ Fr [(77, 0)] σ τ := by
  intro k
  induction k with
  | zero =>
    intro e u σ he hu R P M
    have b1 := R.1.1
    have p8 : (2 : Nat) ^ A 0 0 ≤ 2 ^ 8 := Nat.pow_le_pow_right (by decide) b1
    refine ⟨σ, 0, p_X10_leastFrom_0_1 ?_, Or.inl ⟨rfl, fun c _ => Nat.zero_le _⟩, Nat.zero_le _, M, Fr.rf σ⟩
    rw [shr_z (by omega) (by omega), show e = A 0 0 by omega, Nat.div_eq_of_lt hm]; rfl
  | succ k ih =>
    intro e u σ he hu R P M
    have W := R.1
    have b1 := W.1
    have b2 := W.2.1
    have hF := W8 W
    have p8 : (2 : Nat) ^ A 0 0 ≤ 2 ^ 8 := Nat.pow_le_pow_right (by decide) b1
    have p12 : (2 : Nat) ^ A 1 0 ≤ 2 ^ 12 := Nat.pow_le_pow_right (by decide) b2
    by_cases z0 : m / 2 ^ e = 0
    · refine ⟨σ, 0, p_X10_leastFrom_0_1 (by rw [shr_z (by omega) (by omega), z0]; rfl), ?_, Nat.zero_le _, M, Fr.rf σ⟩
      have lt : m < 2 ^ e := by
        rcases Nat.div_eq_zero_iff.mp z0 with h | h
        · have := Nat.two_pow_pos e; omega
        · exact h
      rw [dsF_none (fun x h1 h2 => by
        cases hx : m.testBit x with
        | false => rfl
        | true => have := bit_lt lt hx; omega)]
      exact Or.inl ⟨rfl, fun c _ => Nat.zero_le _⟩
    · have ml : m / 2 ^ e ≤ m := Nat.div_le_self _ _
      have c1 : ¬ nI m >>> (nI e &&& 31) = 0 := by rw [shr_z (by omega) (by omega)]; exact nI_ne0 (Nat.pos_of_ne_zero z0) (Nat.lt_of_le_of_lt ml (by omega))
      have gh := m_hasN (d := d + k + 2) (σ := σ) (n := m) (k := e) (by omega) (by omega)
      have e1 : dsF m e (k + 1) = if m.testBit e then e :: dsF m (e + 1) k else dsF m (e + 1) k := rfl
      rw [e1]
      cases hb : m.testBit e with
      | false =>
        rw [hb] at gh
        rw [if_neg (by decide)]
        obtain ⟨τ, v, g1, g2⟩ := ih (e + 1) u σ (by omega) hu R P M
        exact ⟨τ, v, p_X10_leastFrom_0_2 c1 gh rfl (by rw [nplus]; exact g1), g2⟩
      | true =>
        rw [hb] at gh
        rw [if_pos rfl]
        have eD : e < A 0 0 := by omega
        have ix : (nI e <<< (nI 12 &&& 31)) ||| nI u = nI (4096 * e + u) := by rw [shl12 (by omega), orr, or12 (by omega)]
        have cx : (nI (4096 * e + u)).toNatClampNeg = 4096 * e + u := nI_clamp (by omega)
        have ox : vp_in ((nI e <<< (nI 12 &&& 31)) ||| nI u) 36864 := by rw [ix]; exact vin (by omega) (by decide)
        obtain ⟨w, w1, w2, w3⟩ := M e u eD (by omega)
        have e77 : σ.1 77 ((nI e <<< (nI 12 &&& 31)) ||| nI u).toNatClampNeg = nI w := by rw [ix, cx]; exact w1
        rw [show A 0 0 - e = k + 1 by omega, e1, hb, if_pos rfl] at w3
        by_cases hit : w = 0
        · have oe : vp_in (nI e) 8 := vin (by omega) (by decide)
          have ce : (nI e).toNatClampNeg = e := clamp (by omega)
          obtain ⟨q1, q2⟩ := P e eD
          have n66 := prs_len (A := A) (e := e) b2
          have loop : ∀ q k' x ρ, k' + q = (prs A e).length → x ≤ FARn → (x = FARn ∨ Hg A (A 8) (e :: dsF m (e + 1) k) u x) → (∀ j b, j < k' → (prs A e)[j]? = some b → b &&& u = 0 → ∀ c', Hg A (A 8) (dsF m (e + 1) k) (u ||| b) c' → x ≤ sset b (A 8) (A 1 0) + c') → ML A m ρ → Fr [(77, 0)] σ ρ → ∃ τ v, hq_m 247 (d + (k + 1) + 3) (some (.int (nI v))) τ 40 [some (.ref 52), some (.int (nI e)), some (.int (nI m)), some (.int (nI u)), some (.int (nI (4096 * e + u))), some (.int (nI x)), some (.int (nI k')), none] [] ρ ∧ LC FARn (Hg A (A 8) (e :: dsF m (e + 1) k) u) v ∧ v ≤ FARn ∧ ML A m τ ∧ Fr [(77, 0)] σ τ := by
            intro q
            induction q with
            | zero =>
              intro k' x ρ hk hx hxv hdone hM fr
              have c2 : ¬ nI k' < ρ.1 76 (nI e).toNatClampNeg := by rw [ce, fr.i rfl, q1]; exact nI_nlt (by omega) (by omega)
              have lc : LC FARn (Hg A (A 8) (e :: dsF m (e + 1) k) u) x := by
                have key : ∀ c, Hg A (A 8) (e :: dsF m (e + 1) k) u c → x ≤ c := fun c hc => by
                  obtain ⟨b, m1, m2, c', m4, m5⟩ := hc
                  obtain ⟨j, hj, hb'⟩ := List.getElem_of_mem m1
                  rw [m5]
                  exact hdone j b (by omega) (by rw [List.getElem?_eq_getElem hj, hb']) m2 c' m4
                rcases hxv with z | z
                · refine Or.inr ⟨fun c hc => ?_, z⟩
                  have h1 := key c hc
                  have h2 := (Hg_lo b2 hF hc).2.1
                  unfold FARn at z
                  omega
                · exact Or.inl ⟨z, key⟩
              have hx' : x ≤ 1000000000 := hx
              have mn : (if nI 1000000000 < nI x then nI 1000000000 else nI x) = nI x := by rw [if_neg (nI_nlt hx' (by omega))]
              have P := p_X10_leastFrom_40_3 (d := d + (k + 1) + 2) (σ := ρ) (l1 := nI e) (l2 := nI m) (l3 := nI u) (l4 := nI (4096 * e + u)) (l5 := nI x) (l6 := nI k') oe c2 (vin (by omega) (by decide))
              rw [mn, cx, nplus] at P
              refine ⟨_, x, P, lc, hx, fun f t hf ht => ?_, fr.sI rfl⟩
              by_cases zz : 4096 * f + t = 4096 * e + u
              · have : f = e := by omega
                subst this
                have : t = u := by omega
                subst this
                rw [sI_eq]
                refine ⟨x + 1, rfl, by omega, fun _ => ?_⟩
                rw [show A 0 0 - f = k + 1 by omega]
                show LC FARn (Hg A (A 8) (if m.testBit f then f :: dsF m (f + 1) k else dsF m (f + 1) k) t) _
                rw [hb, if_pos rfl]
                exact lc
              · rw [sI_slot zz]; exact hM f t hf ht
            | succ q ihq =>
              intro k' x ρ hk hx hxv hdone hM fr
              have c2 : nI k' < ρ.1 76 (nI e).toNatClampNeg := by rw [ce, fr.i rfl, q1]; exact nlt (by omega) (by omega)
              have jx : nI 66 * nI e + nI k' = nI (66 * e + k') := by rw [nmul, nplus]
              have cj : (nI (66 * e + k')).toNatClampNeg = 66 * e + k' := clamp (by omega)
              have oj : vp_in (nI 66 * nI e + nI k') 528 := by rw [jx]; exact vin (by omega) (by decide)
              obtain ⟨b, hbk⟩ : ∃ b, (prs A e)[k']? = some b := ⟨_, List.getElem?_eq_getElem (by omega)⟩
              obtain ⟨m1, m2⟩ := prs_mem.mp (mem_get hbk)
              have z75 : ρ.1 75 (nI 66 * nI e + nI k').toNatClampNeg = nI b := by rw [jx, cj, fr.i rfl]; exact q2 k' b hbk
              have pl : sset b (A 8) (A 1 0) ≤ 108 := by have := sset_le (n := b) hF; omega
              have hx' : x ≤ 1000000000 := hx
              have hbu : nI b &&& nI u = 0 ↔ b &&& u = 0 := by
                rw [fa_and]
                have lb : b &&& u ≤ u := Nat.and_le_right
                constructor
                · intro h
                  apply Classical.byContradiction
                  intro n
                  exact nI_ne0 (by omega) (by omega) h
                · intro h; rw [h]; rfl
              have more : ∀ x', x' ≤ x → (b &&& u = 0 → ∀ c', Hg A (A 8) (dsF m (e + 1) k) (u ||| b) c' → x' ≤ sset b (A 8) (A 1 0) + c') → ∀ j b', j < k' + 1 → (prs A e)[j]? = some b' → b' &&& u = 0 → ∀ c', Hg A (A 8) (dsF m (e + 1) k) (u ||| b') c' → x' ≤ sset b' (A 8) (A 1 0) + c' := fun x' hx' hnew j b' hj hb' d1 c' d3 => by
                by_cases zz : j = k'
                · subst zz
                  rw [hbk] at hb'
                  cases hb'
                  exact hnew d1 c' d3
                · have := hdone j b' (by omega) hb' d1 c' d3
                  omega
              by_cases d1 : b &&& u = 0
              · have gr := m_rentOf (d := d + k + 1) (Rm.depn.fr fr (by decide) R) (n := b) (by omega)
                obtain ⟨ρ1, v1, g1, g2, g3, g4, g5⟩ := ih (e + 1) (u ||| b) ρ (by omega) (Nat.or_lt_two_pow hu m1) (Rm.depn.fr fr (by decide) R) (MP.dep.fr fr (by decide) P) hM
                have g3' : v1 ≤ 1000000000 := g3
                have nw : (if nI (sset b (A 8) (A 1 0)) + nI v1 < nI x then nI (sset b (A 8) (A 1 0)) + nI v1 else nI x) = nI (min x (sset b (A 8) (A 1 0) + v1)) := by rw [nplus]; exact min_val (by omega) (by omega)
                obtain ⟨τ, v, k1, k2⟩ := ihq (k' + 1) (min x (sset b (A 8) (A 1 0) + v1)) ρ1 (by omega) (by omega) (by
                  by_cases zz : sset b (A 8) (A 1 0) + v1 < x
                  · right
                    rw [Nat.min_eq_right (by omega)]
                    rcases g2 with ⟨a, _⟩ | ⟨_, a⟩
                    · exact ⟨b, mem_get hbk, d1, v1, a, rfl⟩
                    · unfold FARn at a; omega
                  · rw [Nat.min_eq_left (by omega)]; exact hxv) (more _ (by omega) (fun _ c' hc' => by
                    rcases g2 with ⟨_, a⟩ | ⟨a, _⟩
                    · have := a c' hc'; omega
                    · exact absurd hc' (a c'))) g4 (fr.tr g5)
                refine ⟨τ, v, p_X10_leastFrom_40_1 oe c2 oj (by rw [z75]; exact hbu.mpr d1) (by rw [z75]; exact gr) (by rw [z75, orr, nplus]; exact g1) ?_, k2⟩
                rw [nw, nplus]; exact k1
              · obtain ⟨τ, v, k1, k2⟩ := ihq (k' + 1) x ρ (by omega) hx hxv (more x (Nat.le_refl _) (fun h => absurd h d1)) hM fr
                refine ⟨τ, v, p_X10_leastFrom_40_2 oe c2 oj (by rw [z75]; exact fun h => d1 (hbu.mp h)) ?_, k2⟩
                rw [nplus]; exact k1
          obtain ⟨τ, v, k1, k2⟩ := loop (prs A e).length 0 FARn σ (by omega) (Nat.le_refl _) (Or.inl rfl) (fun j b hj => by omega) M (Fr.rf σ)
          refine ⟨τ, v, p_X10_leastFrom_0_4 c1 gh (by decide) ox (by rw [e77, hit]; decide) ?_, k2⟩
          rw [ix]; exact k1
        · have lc := w3 hit
          have Q := p_X10_leastFrom_0_3 c1 gh (by decide) ox (by rw [e77]; exact (z_lt (by omega)).mpr hit) ox
          rw [e77, pk_sub (by omega)] at Q
          refine ⟨σ, w - 1, Q, lc, ?_, M, Fr.rf σ⟩
          exact LC_le lc (fun c hc => by have := (Hg_lo b2 hF hc).2.1; unfold FARn; omega) (Nat.le_refl _)
theorem m_lf {m e u : Nat} (hm : m < 2 ^ A 0 0) (he : e ≤ A 0 0) (hu : u < 2 ^ A 1 0) (R : Rm 61 A σ) (P : MP A σ) (M : ML A m σ) : ∃ τ v, hq_c 247 (d + 11) [.ref 52, .int (nI e), .int (nI m), .int (nI u)] σ (some (.int (nI v))) τ ∧ LC FARn (Hg A (A 8) (dsF m e (A 0 0 - e)) u) v ∧ v ≤ FARn ∧ ML A m τ ∧ Fr [(77, 0)] σ τ := by
  have b1 := R.1.1
  obtain ⟨τ, v, g⟩ := m_leastFrom (d := d + 8 - (A 0 0 - e)) hm (A 0 0 - e) e u σ (by omega) hu R P M
  rw [show d + 8 - (A 0 0 - e) + (A 0 0 - e) + 3 = d + 11 by omega] at g
  exact ⟨τ, v, g⟩
theorem m_leastFor {m : Nat} (hm : m < 2 ^ A 0 0) (R : Rm 61 A σ) (P : MP A σ) : ∃ τ v, hq_c 248 (d + 12) [.ref 52, .int (nI m)] σ (some (.int (nI v))) τ ∧ LC FARn (Hg A (A 8) (ds m (A 0 0)) 0) v ∧ v ≤ FARn ∧ ML A m τ ∧ Fr [(77, 0)] σ τ := by
  have b1 := R.1.1
  obtain ⟨σ1, w, hv, fr⟩ := hq_w.for (x := 248) (d := d + 12) (i := 2) (fun j => [some (.ref 52), some (.int (nI m)), some (.int (nI j))]) (fun j ρ => (∀ i, i < j → ρ.1 77 i = nI 0) ∧ Fr [(77, 0)] σ ρ) ((A 0 0 + 1) * 4096) (fun j hj ρ ⟨hv, fr⟩ => by
    have o : vp_in (nI j) 36864 := vin (by omega) (by decide)
    have cj : (nI j).toNatClampNeg = j := nI_clamp (by omega)
    refine ⟨hq_sI ρ 77 j (nI 0), fun v τ k => p_X10_leastFor_2_1 (by rw [fr.i rfl, R.2.1, nplus, shl12 (by omega)]; exact nlt hj (by omega)) o ?_, fun i hi => ?_, fr.sI rfl⟩
    · rw [cj, nplus]; exact k
    · by_cases z : i = j
      · rw [z, sI_eq]
      · rw [sI_slot z]; exact hv i (by omega)) (σ := σ) ⟨fun i hi => by omega, Fr.rf σ⟩
  have M1 : ML A m σ1 := fun e u he hu => ⟨0, hv _ (by omega), by decide, fun z => absurd rfl z⟩
  obtain ⟨τ, v, g1, g2, g3, g4, g5⟩ := m_lf (d := d) (e := 0) (u := 0) hm (Nat.zero_le _) (Nat.two_pow_pos _) (Rm.depn.fr fr (by decide) R) (MP.dep.fr fr (by decide) P) M1
  exact ⟨τ, v, p_X10_leastFor_0_1 (w _ _ (p_X10_leastFor_2_2 (by rw [fr.i rfl, R.2.1, nplus, shl12 (by omega)]; exact nI_nlt (Nat.le_refl _) (by omega)) g1)), g2, g3, g4, fr.tr g5⟩
theorem costM (W : Wf A) {es : List Nat} {u v : Nat} (h : LC FARn (Hg A (A 8) es u) v) : (v = FARn ∧ ∀ c, ¬ Hg A (A 8) es u c) ∨ (v ≤ 108 ∧ isM (Hg A (A 8) es u) v) := by
  rcases LC_M h (fun c hc => by have := (Hg_lo W.2.1 (W8 W) hc).2.1; unfold FARn; omega) with ⟨a, b⟩ | ⟨a, b⟩
  · exact Or.inl ⟨a, b⟩
  · exact Or.inr ⟨(Hg_lo W.2.1 (W8 W) b.1).2.1, b⟩
theorem m_canShut {m : Nat} (hm : m < 2 ^ A 0 0) (R : Rm 61 A σ) (P : MP A σ) : ∃ τ, hq_c 250 (d + 13) [.ref 52, .int (nI m)] σ (some (.int (bI (cb (fea A m))))) τ ∧ (fea A m → ML A m τ) ∧ Fr [(77, 0)] σ τ := by
  have W := R.1
  have b1 := W.1
  have b2 := W.2.1
  have p8 : (2 : Nat) ^ A 0 0 ≤ 2 ^ 8 := Nat.pow_le_pow_right (by decide) b1
  have gb := s_bitCount (d := d + 11) (σ := σ) (n := m) (by omega)
  have pl := pop_le m
  by_cases q : A 1 0 < 2 * pop m
  · have nf : ¬ fea A m := fun f => by have := fea_2 W hm f; omega
    rw [cb_f.mpr nf]
    exact ⟨σ, p_X10_canShut_0_1 gb (by rw [R.2.2.1, nmul]; exact nlt q (by omega)), fun f => absurd f nf, Fr.rf σ⟩
  · obtain ⟨τ, v, g1, g2, g3, g4, g5⟩ := m_leastFor (d := d) hm R P
    have c1 : ¬ σ.1 52 4 < nI 2 * nI (pop m) := by rw [R.2.2.1, nmul]; exact nI_nlt (by omega) (by omega)
    rcases costM W g2 with ⟨a, b⟩ | ⟨a, b⟩
    · have nf : ¬ fea A m := fun f => by obtain ⟨c, hc⟩ := (fea_iff (A 8)).mp f; exact b c hc
      rw [cb_f.mpr nf]
      exact ⟨τ, p_X10_canShut_0_3 gb c1 g1 (by rw [a]; decide), fun f => absurd f nf, g5⟩
    · have yf : fea A m := (fea_iff (A 8)).mpr ⟨v, b.1⟩
      rw [cb_t.mpr yf]
      exact ⟨τ, p_X10_canShut_0_2 gb c1 g1 (nlt (by omega) (by decide)), fun _ => g4, g5⟩
end HM1
