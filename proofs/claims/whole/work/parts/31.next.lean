/-! next, spare -/
theorem ssec_congr {A B : TA} (p : Nat → Bool) (h : ∀ r, B 12 r = A 12 r) : ∀ j, ssec B p j = ssec A p j
  | 0 => rfl
  | j + 1 => by unfold ssec; rw [ssec_congr p h j, h]
theorem kept_congr {A B : TA} (h0 : B 0 0 = A 0 0) (h2 : ∀ e, B 2 e = A 2 e) (h3 : ∀ e, B 3 e = A 3 e) (h12 : ∀ r, B 12 r = A 12 r) (s : Nat) : keptA B s = keptA A s := by
  unfold keptA
  rw [reach_congr h0 h2 h3, ssec_congr _ h12]
theorem kept_11 {A : TA} {h v : Nat} (s : Nat) : keptA (setA A 11 h v) s = keptA A s := kept_congr (A := A) (B := setA A 11 h v) rfl (fun _ => rfl) (fun _ => rfl) (fun _ => rfl) s
theorem shut0_put {A : TA} {h e : Nat} (hh : h < A 1 0) (he : e < A 0 0) (h0' : A 11 h = 0) (hr : pop (onA A (e + 1)) < 2) : shut0 (setA A 11 h (e + 1)) = if shutF A (h0 A) e (onA A (e + 1) ||| 2 ^ h) then shut0 A ||| 2 ^ e else shut0 A := by
  apply Nat.eq_of_testBit_eq
  intro i
  have l : (shut0 (setA A 11 h (e + 1))).testBit i = (decide (i < A 0 0) && shutF A (h0 A) i (onA (setA A 11 h (e + 1)) (i + 1))) := sbits_test _ _ _
  have r : (shut0 A).testBit i = (decide (i < A 0 0) && shutF A (h0 A) i (onA A (i + 1))) := sbits_test _ _ _
  rw [l]
  by_cases q : i = e
  · subst q
    rw [onA_put hh]
    cases hs : shutF A (h0 A) i (onA A (i + 1) ||| 2 ^ h) with
    | true => rw [if_pos rfl, Nat.testBit_or, Nat.testBit_two_pow_self]; simp [he]
    | false =>
      rw [if_neg (by decide), r]
      have : shutF A (h0 A) i (onA A (i + 1)) = false := by unfold shutF; rw [decide_eq_false (by omega)]; rfl
      rw [this]
  · rw [onA_ne h0' q]
    split
    · rw [Nat.testBit_or, Nat.testBit_two_pow, r]
      have q' : ¬ e = i := fun z => q z.symm
      simp [q']
    · rw [r]
theorem shut0_take {A : TA} (W : Wf A) {h e : Nat} (hh : h < A 1 0) (he : A 11 h = e + 1) : shut0 (setA A 11 h 0) = ndiff (shut0 A) (2 ^ e) := by
  have b2 := W.2.1
  have w7 := (W.2.2.2.1 h hh).2.2.2.2.2.2.1
  apply Nat.eq_of_testBit_eq
  intro i
  have l : (shut0 (setA A 11 h 0)).testBit i = (decide (i < A 0 0) && shutF A (h0 A) i (onA (setA A 11 h 0) (i + 1))) := sbits_test _ _ _
  have r : (shut0 A).testBit i = (decide (i < A 0 0) && shutF A (h0 A) i (onA A (i + 1))) := sbits_test _ _ _
  rw [ndiff_test, l, r, Nat.testBit_two_pow]
  by_cases q : i = e
  · subst q
    have hpop : pop (onA (setA A 11 h 0) (i + 1)) + 1 = pop (onA A (i + 1)) := by
      rw [onA_del he (by omega)]
      have hor : ndiff (onA A (i + 1)) (2 ^ h) ||| 2 ^ h = onA A (i + 1) := by
        apply Nat.eq_of_testBit_eq
        intro j
        rw [Nat.testBit_or, ndiff_test, Nat.testBit_two_pow]
        by_cases z : h = j
        · subst z
          have : (onA A (i + 1)).testBit h = true := by rw [onA_test]; simp [hh, he]
          rw [this]; simp
        · simp [z]
      have := pop_or (n := ndiff (onA A (i + 1)) (2 ^ h)) (h := h) (by omega) (by rw [ndiff_test, Nat.testBit_two_pow_self]; simp)
      rw [hor] at this
      omega
    have w := (W.2.2.1 i (by omega)).2.2.2.2.2.2
    have : shutF A (h0 A) i (onA (setA A 11 h 0) (i + 1)) = false := by unfold shutF; rw [decide_eq_false (by omega)]; rfl
    rw [this]; simp
  · rw [onA_set0 (by omega) (by omega)]
    have q' : ¬ e = i := fun z => q z.symm
    simp [q']
def nxtC (A : TA) (h e : Nat) : Bool := (A 11 h == 0) && fitsA A h e && decide (pop (onA A (e + 1)) < 2)
def nxtV (A : TA) (h e : Nat) : Nat := keptA A (shut0 (setA A 11 h (e + 1)))
def stepN (o : Option (Nat × Nat × Nat)) (h e v : Nat) : Option (Nat × Nat × Nat) := match o with
  | none => some (h, e, v)
  | some b => if b.2.2 < v then some (h, e, v) else some b
def nxtD (A : TA) (h : Nat) (o : Option (Nat × Nat × Nat)) : Nat → Option (Nat × Nat × Nat)
  | 0 => o
  | e + 1 => if nxtC A h e then stepN (nxtD A h o e) h e (nxtV A h e) else nxtD A h o e
def nxtH (A : TA) : Nat → Option (Nat × Nat × Nat)
  | 0 => none
  | h + 1 => nxtD A h (nxtH A h) (A 0 0)
def o1 (m : Int32) : Option (Nat × Nat × Nat) → Int32
  | none => m
  | some b => nI b.1
def o2 (m : Int32) : Option (Nat × Nat × Nat) → Int32
  | none => m
  | some b => nI b.2.1
def o3 (m : Int32) : Option (Nat × Nat × Nat) → Int32
  | none => m
  | some b => nI b.2.2
def okN (o : Option (Nat × Nat × Nat)) : Prop := ∀ b, o = some b → b.1 < 12 ∧ b.2.1 < 8 ∧ b.2.2 ≤ 63
theorem okN.step {o : Option (Nat × Nat × Nat)} (h : okN o) {a e v : Nat} (h1 : a < 12) (h2 : e < 8) (h3 : v ≤ 63) : okN (stepN o a e v) := by
  intro b hb
  unfold stepN at hb
  split at hb
  · cases hb; exact ⟨h1, h2, h3⟩
  · rename_i c
    split at hb
    · cases hb; exact ⟨h1, h2, h3⟩
    · cases hb; exact h _ rfl
theorem nxtD_skip {A : TA} {h : Nat} (q : A 11 h ≠ 0) (o : Option (Nat × Nat × Nat)) : ∀ m, nxtD A h o m = o
  | 0 => rfl
  | m + 1 => by
    unfold nxtD
    rw [if_neg (by simp [nxtC, q]), nxtD_skip q o m]
def nxtR (A : TA) : Int32 := o1 (-2) (nxtH A (A 1 0))
def nxtL (A : TA) (L : List Int64) : List Int64 := match nxtH A (A 1 0) with
  | none => L
  | some b => [(nI b.2.1).toInt64, (nI b.2.2).toInt64]
section NX
variable {d : Nat} {σ : hq_St} {A : TA}
theorem okD (W : Wf A) {h : Nat} (hh : h < A 1 0) {o : Option (Nat × Nat × Nat)} (ho : okN o) : ∀ m, m ≤ A 0 0 → okN (nxtD A h o m)
  | 0, _ => ho
  | m + 1, hm => by
    have b1 := W.1
    have b2 := W.2.1
    unfold nxtD
    split
    · exact (okD W hh ho m (by omega)).step (by omega) (by omega) (keptA_le W _)
    · exact okD W hh ho m (by omega)
theorem okH (W : Wf A) : ∀ m, m ≤ A 1 0 → okN (nxtH A m)
  | 0, _ => fun b hb => by cases hb
  | m + 1, hm => okD W (by omega) (okH W m (by omega)) _ (Nat.le_refl _)
theorem o1_lt {o : Option (Nat × Nat × Nat)} (ho : okN o) : o1 (-2) o < 0 ↔ o = none := by
  cases o with
  | none => simp [o1]
  | some b =>
    have := ho b rfl
    simp [o1]
    rw [← Int32.not_lt, ltz, nI_toInt (by omega)]; omega
theorem s_next {L : List Int64} (R : Rc A σ) (hL : cR L σ) : ∃ τ, hq_c 141 (d + 5) [.ref 0] σ (some (.int (nxtR A))) τ ∧ cR (nxtL A L) τ ∧ Fr [(3, 2), (4, 0)] σ τ := by
  have W := R.1
  have b1 := W.1
  have b2 := W.2.1
  have s8 := shut0_lt W
  have inner : ∀ h o, h < A 1 0 → okN o → ∀ v τ, hq_m 141 (d + 5) v τ 19 [some (.ref 0), some (.int (nI (shut0 A))), some (.int (o1 (-2) (nxtD A h o (A 0 0)))), some (.int (o2 (-1) (nxtD A h o (A 0 0)))), some (.int (o3 (-1) (nxtD A h o (A 0 0)))), some (.int (nI h)), some (.int (nI (A 0 0))), none, none] [] σ → hq_m 141 (d + 5) v τ 19 [some (.ref 0), some (.int (nI (shut0 A))), some (.int (o1 (-2) o)), some (.int (o2 (-1) o)), some (.int (o3 (-1) o)), some (.int (nI h)), some (.int (nI 0)), none, none] [] σ := by
    intro h o hh ho v τ k
    refine hq_m.for (fun e => [some (.ref 0), some (.int (nI (shut0 A))), some (.int (o1 (-2) (nxtD A h o e))), some (.int (o2 (-1) (nxtD A h o e))), some (.int (o3 (-1) (nxtD A h o e))), some (.int (nI h)), some (.int (nI e)), none, none]) (fun _ => σ) (A 0 0) ?_ k 0 (Nat.zero_le _)
    intro e he ih
    have c1 : nI e < σ.1 5 13 := by rw [R.2.1]; exact nlt he (by omega)
    have ch : (nI h).toNatClampNeg = h := clamp (by omega)
    have ce : (nI e).toNatClampNeg = e := clamp (by omega)
    have o12 : vp_in (nI h) 12 := vin (by omega) (by decide)
    have oe : vp_in (nI e) 8 := vin (by omega) (by decide)
    have w := (W.2.2.2.1 h hh).2.2.2.2.2.2.1
    have hp : σ.1 17 (nI h).toNatClampNeg = -1 ↔ A 11 h = 0 := by rw [ch, (R.2.2.2.2.1 h hh).2.2.2.2.2]; exact place_m1 (by omega)
    have g1 := s_fits (d := d + 3) R hh he
    have g2 := s_hasRoom (d := d + 2) R he
    have oD := okD W hh ho e (by omega)
    by_cases q0 : A 11 h = 0
    · cases q1 : fitsA A h e with
      | false =>
        rw [q1] at g1
        have e1 : nxtD A h o (e + 1) = nxtD A h o e := by unfold nxtD; rw [if_neg (by simp [nxtC, q1])]; cases e <;> rfl
        rw [e1] at ih
        refine p_X9_next_19_1 c1 o12 (hp.mpr q0) g1 rfl ?_
        rw [nplus]; exact ih
      | true =>
        rw [q1] at g1
        by_cases q2 : pop (onA A (e + 1)) < 2
        · rw [decide_eq_true q2] at g2
          have e1 : nxtD A h o (e + 1) = stepN (nxtD A h o e) h e (nxtV A h e) := by
            conv => lhs; unfold nxtD
            rw [if_pos (by simp [nxtC, q0, q1, q2])]
          rw [e1] at ih
          have hv : nxtV A h e = keptA A (if shutF A (h0 A) e (onA A (e + 1) ||| 2 ^ h) then shut0 A ||| 2 ^ e else shut0 A) := by unfold nxtV; rw [shut0_put hh he q0 q2]
          have kl := keptA_le W (shut0 (setA A 11 h (e + 1)))
          have kl' : nxtV A h e ≤ 63 := kl
          have on4 : onA A (e + 1) ||| 2 ^ h < 4096 := Nat.or_lt_two_pow (n := 12) (onA_lt A _ b2) (Nat.pow_lt_pow_right (by decide) (by omega))
          have g3 := s_shutBy (d := d + 1) R he on4
          have e11 : σ.1 11 (nI e).toNatClampNeg ||| (nI 1 <<< (nI h &&& 31)) = nI (onA A (e + 1) ||| 2 ^ h) := by rw [ce, (R.2.2.2.1 e he).2.2.2.2.2, hn_shl h (by omega), orr]
          -- take the better
          have fin : ∀ (pa : o3 (-1) (nxtD A h o e) < nI (nxtV A h e) → hq_m 141 (d + 5) v τ 19 [some (.ref 0), some (.int (nI (shut0 A))), some (.int (nI h)), some (.int (nI e)), some (.int (nI (nxtV A h e))), some (.int (nI h)), some (.int (nI e + nI 1)), none, none] [] σ → hq_m 141 (d + 5) v τ 19 [some (.ref 0), some (.int (nI (shut0 A))), some (.int (o1 (-2) (nxtD A h o e))), some (.int (o2 (-1) (nxtD A h o e))), some (.int (o3 (-1) (nxtD A h o e))), some (.int (nI h)), some (.int (nI e)), none, none] [] σ) (pb : ¬ o3 (-1) (nxtD A h o e) < nI (nxtV A h e) → hq_m 141 (d + 5) v τ 19 [some (.ref 0), some (.int (nI (shut0 A))), some (.int (o1 (-2) (nxtD A h o e))), some (.int (o2 (-1) (nxtD A h o e))), some (.int (o3 (-1) (nxtD A h o e))), some (.int (nI h)), some (.int (nI e + nI 1)), none, none] [] σ → hq_m 141 (d + 5) v τ 19 [some (.ref 0), some (.int (nI (shut0 A))), some (.int (o1 (-2) (nxtD A h o e))), some (.int (o2 (-1) (nxtD A h o e))), some (.int (o3 (-1) (nxtD A h o e))), some (.int (nI h)), some (.int (nI e)), none, none] [] σ), hq_m 141 (d + 5) v τ 19 [some (.ref 0), some (.int (nI (shut0 A))), some (.int (o1 (-2) (nxtD A h o e))), some (.int (o2 (-1) (nxtD A h o e))), some (.int (o3 (-1) (nxtD A h o e))), some (.int (nI h)), some (.int (nI e)), none, none] [] σ := by
            intro pa pb
            rw [nplus] at pa pb
            cases ho2 : nxtD A h o e with
            | none =>
              rw [ho2] at pa ih
              refine pa ?_ ih
              show (-1 : Int32) < nI (nxtV A h e)
              rw [fa_lt, nI_toInt (by omega)]
              have : (-1 : Int32).toInt = -1 := by decide
              omega
            | some b =>
              have ob := oD b ho2
              rw [ho2] at pa pb ih
              rw [show stepN (some b) h e (nxtV A h e) = if b.2.2 < nxtV A h e then some (h, e, nxtV A h e) else some b from rfl] at ih
              by_cases q3 : b.2.2 < nxtV A h e
              · rw [if_pos q3] at ih
                exact pa (nlt q3 (by omega)) ih
              · rw [if_neg q3] at ih
                exact pb (nI_nlt (by omega) (by omega)) ih
          cases hs : shutF A (h0 A) e (onA A (e + 1) ||| 2 ^ h) with
          | false =>
            rw [hs] at g3
            rw [hs, if_neg (by decide)] at hv
            have g4 := s_secretsKept (d := d + 2) (s := shut0 A) R
            rw [← hv] at g4
            exact fin (fun z k => p_X9_next_19_3 c1 o12 (hp.mpr q0) g1 (by decide) g2 (by decide) oe (by rw [e11]; exact g3) rfl g4 z k) (fun z k => p_X9_next_19_4 c1 o12 (hp.mpr q0) g1 (by decide) g2 (by decide) oe (by rw [e11]; exact g3) rfl g4 z k)
          | true =>
            rw [hs] at g3
            rw [hs, if_pos rfl] at hv
            have g4 := s_secretsKept (d := d + 2) (s := shut0 A ||| 2 ^ e) R
            rw [← hv] at g4
            have es : nI (shut0 A) ||| (nI 1 <<< (nI e &&& 31)) = nI (shut0 A ||| 2 ^ e) := by rw [hn_shl e (by omega), orr]
            exact fin (fun z k => p_X9_next_19_5 c1 o12 (hp.mpr q0) g1 (by decide) g2 (by decide) oe (by rw [e11]; exact g3) (by decide) (by rw [es]; exact g4) z k) (fun z k => p_X9_next_19_6 c1 o12 (hp.mpr q0) g1 (by decide) g2 (by decide) oe (by rw [e11]; exact g3) (by decide) (by rw [es]; exact g4) z k)
        · rw [decide_eq_false q2] at g2
          have e1 : nxtD A h o (e + 1) = nxtD A h o e := by
            conv => lhs; unfold nxtD
            rw [if_neg (by simp [nxtC, q2])]
          rw [e1] at ih
          refine p_X9_next_19_2 c1 o12 (hp.mpr q0) g1 (by decide) g2 rfl ?_
          rw [nplus]; exact ih
    · have e1 : nxtD A h o (e + 1) = nxtD A h o e := by rw [nxtD_skip q0, nxtD_skip q0]
      rw [e1] at ih
      refine p_X9_next_19_7 c1 o12 (fun z => q0 (hp.mp z)) ?_
      rw [nplus]; exact ih
  have outer : ∀ v τ, hq_m 141 (d + 5) v τ 12 [some (.ref 0), some (.int (nI (shut0 A))), some (.int (o1 (-2) (nxtH A (A 1 0)))), some (.int (o2 (-1) (nxtH A (A 1 0)))), some (.int (o3 (-1) (nxtH A (A 1 0)))), some (.int (nI (A 1 0))), none, none, none] [] σ → hq_m 141 (d + 5) v τ 12 [some (.ref 0), some (.int (nI (shut0 A))), some (.int (-2)), some (.int (-1)), some (.int (-1)), some (.int (nI 0)), none, none, none] [] σ := by
    intro v τ k
    refine hq_m.for (fun h => [some (.ref 0), some (.int (nI (shut0 A))), some (.int (o1 (-2) (nxtH A h))), some (.int (o2 (-1) (nxtH A h))), some (.int (o3 (-1) (nxtH A h))), some (.int (nI h)), none, none, none]) (fun _ => σ) (A 1 0) ?_ k 0 (Nat.zero_le _)
    intro h hh ih
    refine p_X9_next_12_1 (by rw [R.2.2.1]; exact nlt hh (by omega)) (inner h (nxtH A h) hh (okH W h (by omega)) v τ ?_)
    refine p_X9_next_19_8 (by rw [R.2.1]; exact nI_nlt (Nat.le_refl _) (by omega)) ?_
    rw [nplus]; exact ih
  have c1 : ¬ nI (A 1 0) < σ.1 5 14 := by rw [R.2.2.1]; exact nI_nlt (Nat.le_refl _) (by omega)
  have hok := okH W (A 1 0) (Nat.le_refl _)
  unfold nxtR nxtL
  cases hn : nxtH A (A 1 0) with
  | none =>
    rw [hn] at outer
    exact ⟨σ, p_X9_next_0_1 (s_shutNow (d := d) R) (outer _ _ (p_X9_next_12_2 c1 (by decide))), hL, Fr.rf σ⟩
  | some b =>
    rw [hn] at outer
    have hb := hok b hn
    obtain ⟨σ1, a1, a2, a3⟩ := s_clear (d := d + 3) (σ := σ)
    obtain ⟨σ2, b1', b2', b3⟩ := s_add (d := d + 3) a2 (by decide) (nI b.2.1).toInt64
    obtain ⟨σ3, c1', c2, c3⟩ := s_add (d := d + 3) b2' (by simp) (nI b.2.2).toInt64
    refine ⟨σ3, p_X9_next_0_1 (s_shutNow (d := d) R) (outer _ _ (p_X9_next_12_3 c1 ?_ a1 b1' c1')), c2, (a3.tr b3).tr c3⟩
    show ¬ nI b.1 < 0
    rw [ltz, nI_toInt (by omega)]; omega
theorem setA_id {f k v : Nat} (h : A f k = v) : setA A f k v = A := by
  funext a b
  unfold setA
  split
  · rename_i z1
    split
    · rename_i z2; rw [z1, z2, h]
    · rfl
  · rfl
theorem m_next {t y : Int32} {L : List Int64} (hT : mT A t y σ) (hL : mR L σ) : ∃ τ, hq_c 257 (d + 6) [.ref 52] σ (some (.int (nxtR A))) τ ∧ mR (nxtL A L) τ ∧ Fr [(52, 1), (52, 2), (53, 0), (65, 0)] σ τ := by
  have f0 : Fr [(52, 1)] σ (hq_sI σ 52 0 (nI 0)) := frth
  have h0' : mT A t y (hq_sI σ 52 0 (nI 0)) := hT.th
  have W := hT.1.1
  have b1 := W.1
  have b2 := W.2.1
  obtain ⟨σ1, a1, a2, -, -, a5⟩ := m_puts (d := d + 4) h0'
  have hL1 : mR L σ1 := mR.dep.fr a5 (by decide) hL.th
  have R61 : Rm 61 A σ1 := Rm.depn.fr a5 (by decide) h0'.1
  obtain ⟨σ2, w, R2, f2⟩ := hq_w.for (x := 257) (d := d + 6) (i := 16) (fun h => [some (.ref 52), some (.int (o1 (-2) (nxtH A h))), some (.int (o2 (nI 0) (nxtH A h))), some (.int (o3 (nI 0) (nxtH A h))), some (.int (nI h)), none, none]) (fun _ ρ => Rm 65 A ρ ∧ Fr [(65, 0)] σ1 ρ) (A 1 0) (fun h hh ρ ⟨R, f⟩ => by
    have N : Rm 61 A ρ := Rm.depn.fr f (by decide) R61
    have ch : (nI h).toNatClampNeg = h := clamp (by omega)
    have o50 : vp_in (nI h) 50 := vin (by omega) (by decide)
    have wp := (W.2.2.2.1 h hh).2.2.2.2.2.2.1
    have c0 : nI h < ρ.1 52 4 := by rw [R.2.2.1]; exact nlt hh (by omega)
    have hp : ∀ ρ, Rm 61 A ρ → (ρ.1 61 (nI h).toNatClampNeg < 0 ↔ A 11 h = 0) := fun ρ N => by rw [ch, (N.2.2.2.2.2.1 h hh).1]; exact place_lt0 (by omega)
    have oH := okH W h (by omega)
    by_cases q0 : A 11 h = 0
    · obtain ⟨ρ', w', R', f'⟩ := hq_w.for (x := 257) (d := d + 6) (i := 22) (fun e => [some (.ref 52), some (.int (o1 (-2) (nxtD A h (nxtH A h) e))), some (.int (o2 (nI 0) (nxtD A h (nxtH A h) e))), some (.int (o3 (nI 0) (nxtD A h (nxtH A h) e))), some (.int (nI h)), some (.int (nI e)), none]) (fun _ ρ' => Rm 65 A ρ' ∧ Fr [(65, 0)] ρ ρ') (A 0 0) (fun e he ρ1 ⟨R1, f1⟩ => by
        have N1 : Rm 61 A ρ1 := Rm.depn.fr f1 (by decide) N
        have c1 : nI e < ρ1.1 52 3 := by rw [R1.2.1]; exact nlt he (by omega)
        have oD := okD W hh oH e (by omega)
        have g1 := m_fits (d := d + 4) N1 hh he
        have g2 := m_onDn (d := d + 4) N1 he
        have g3 := s_bitCount (d := d + 4) (σ := ρ1) (onA_lt A (e + 1) b2)
        have pl := pop_le (onA A (e + 1))
        cases q1 : fitsA A h e with
        | false =>
          rw [q1] at g1
          have e1 : nxtD A h (nxtH A h) (e + 1) = nxtD A h (nxtH A h) e := by
            conv => lhs; unfold nxtD
            rw [if_neg (by simp [nxtC, q1])]
          rw [e1]
          exact ⟨ρ1, fun v τ k => p_X10_next_22_1 c1 o50 ((hp ρ1 N1).mpr q0) g1 rfl (by rw [nplus]; exact k), R1, f1⟩
        | true =>
          rw [q1] at g1
          by_cases q2 : pop (onA A (e + 1)) < 2
          · have e1 : nxtD A h (nxtH A h) (e + 1) = stepN (nxtD A h (nxtH A h) e) h e (nxtV A h e) := by
              conv => lhs; unfold nxtD
              rw [if_pos (by simp [nxtC, q0, q1, q2])]
            rw [e1]
            have W2 := W.put hh he q0 q1 q2
            have R2 := R1.set11t hh W2
            have ee : nI (e + 1) - nI 1 = nI e := nI_pred e
            rw [ee] at R2
            have s8 := shut0_lt W2
            have g4 := m_shutOft (d := d) R2
            have g5 := m_keptByt (d := d + 2) (s := shut0 (setA A 11 h (e + 1))) R2 (by omega)
            rw [kept_11] at g5
            have kl : nxtV A h e ≤ 63 := keptA_le W _
            have R3 := R2.set11t (h := h) (v := 0) hh (by rw [setA_over, setA_id q0]; exact W)
            rw [setA_over, setA_id q0] at R3
            have e0 : nI 0 - nI 1 = (-1 : Int32) := by decide
            rw [e0] at R3
            have fin : Fr [(65, 0)] ρ (hq_sI (hq_sI ρ1 65 h (nI e)) 65 h (-1)) := (f1.sI rfl).sI rfl
            have c4 : nI (pop (onA A (e + 1))) < nI 2 := nlt q2 (by decide)
            refine ⟨hq_sI (hq_sI ρ1 65 h (nI e)) 65 h (-1), fun v τ k => ?_, R3, fin⟩
            cases ho2 : nxtD A h (nxtH A h) e with
            | none =>
              rw [ho2] at k
              refine p_X10_next_22_2 (r5 := nI (nxtV A h e)) c1 o50 ((hp ρ1 N1).mpr q0) g1 (by decide) g2 g3 c4 o50 (by rw [ch]; exact g4) g5 o50 (by decide) ?_
              rw [ch, nplus]; exact k
            | some b =>
              have ob := oD b ho2
              have n0 : ¬ o1 (-2) (some b) < 0 := by show ¬ nI b.1 < 0; rw [ltz, nI_toInt (by omega)]; omega
              rw [ho2] at k
              rw [show stepN (some b) h e (nxtV A h e) = if b.2.2 < nxtV A h e then some (h, e, nxtV A h e) else some b from rfl] at k
              by_cases q3 : b.2.2 < nxtV A h e
              · rw [if_pos q3] at k
                refine p_X10_next_22_3 (r5 := nI (nxtV A h e)) c1 o50 ((hp ρ1 N1).mpr q0) g1 (by decide) g2 g3 c4 o50 (by rw [ch]; exact g4) g5 o50 n0 (nlt q3 (by omega)) ?_
                rw [ch, nplus]; exact k
              · rw [if_neg q3] at k
                refine p_X10_next_22_4 (r5 := nI (nxtV A h e)) c1 o50 ((hp ρ1 N1).mpr q0) g1 (by decide) g2 g3 c4 o50 (by rw [ch]; exact g4) g5 o50 n0 (nI_nlt (by omega) (by omega)) ?_
                rw [ch, nplus]; exact k
          · have e1 : nxtD A h (nxtH A h) (e + 1) = nxtD A h (nxtH A h) e := by
              conv => lhs; unfold nxtD
              rw [if_neg (by simp [nxtC, q2])]
            rw [e1]
            exact ⟨ρ1, fun v τ k => p_X10_next_22_5 c1 o50 ((hp ρ1 N1).mpr q0) g1 (by decide) g2 g3 (nI_nlt (by omega) (by omega)) (by rw [nplus]; exact k), R1, f1⟩) (σ := ρ) ⟨R, Fr.rf ρ⟩
      refine ⟨ρ', fun v τ k => p_X10_next_16_1 c0 (w' v τ (p_X10_next_22_7 (by rw [R'.2.1]; exact nI_nlt (Nat.le_refl _) (by omega)) (by rw [nplus]; exact k))), R', f.tr f'⟩
    · have e1 : nxtH A (h + 1) = nxtH A h := by show nxtD A h (nxtH A h) (A 0 0) = _; exact nxtD_skip q0 _ _
      rw [e1]
      refine ⟨ρ, fun v τ k => p_X10_next_16_1 c0 ?_, R, f⟩
      by_cases q1 : 0 < A 0 0
      · exact p_X10_next_22_6 (by rw [R.2.1]; exact nlt q1 (by omega)) o50 (fun z => q0 ((hp ρ N).mp z)) (by rw [nplus]; exact k)
      · exact p_X10_next_22_7 (by rw [R.2.1]; exact nI_nlt (by omega) (by decide)) (by rw [nplus]; exact k)) (σ := σ1) ⟨a2, Fr.rf σ1⟩
  have c1 : ¬ nI (A 1 0) < σ2.1 52 4 := by rw [R2.2.2.1]; exact nI_nlt (Nat.le_refl _) (by omega)
  have hok := okH W (A 1 0) (Nat.le_refl _)
  have ff : Fr [(52, 1), (52, 2), (53, 0), (65, 0)] σ σ2 := ((f0.up (by decide)).tr (a5.up (by decide))).tr (f2.up (by decide))
  unfold nxtR nxtL
  cases hn : nxtH A (A 1 0) with
  | none =>
    rw [hn] at w
    exact ⟨σ2, p_X10_next_0_1 a1 (w _ _ (p_X10_next_16_2 c1 (by decide))), mR.dep.fr f2 (by decide) hL1, ff⟩
  | some b =>
    rw [hn] at w
    have hb := hok b hn
    have f3 : Fr [(52, 2), (53, 0)] σ2 (hq_sI σ2 52 1 (nI 0)) := (Fr.rf _).sI rfl
    obtain ⟨σ3, d1, d2, d3⟩ := m_enters (d := d + 4) (mR.nil (σ := σ2)) (by decide) (nI b.2.1).toInt64
    obtain ⟨σ4, e1, e2, e3⟩ := m_enters (d := d + 4) d2 (by simp) (nI b.2.2).toInt64
    refine ⟨σ4, p_X10_next_0_1 a1 (w _ _ (p_X10_next_16_3 c1 ?_ d1 e1)), e2, ff.tr ((f3.up (by decide)).tr ((d3.up (by decide)).tr (e3.up (by decide))))⟩
    show ¬ nI b.1 < 0
    rw [ltz, nI_toInt (by omega)]; omega
end NX
