/-! hangings: which set of doors (class) -/
def hpB (A : TA) (σ : hq_St) (j : Nat) : Prop := ∃ h : Bool, σ.1 45 j = bI h ∧ (h = true → ¬ fea A j)
def fSr : List (Nat × Nat) := [(33, 16), (33, 17), (41, 0), (42, 0), (45, 0)]
section HI1
variable {d : Nat} {A : TA} {F : Nat → Nat} {σ : hq_St}
theorem shlD (h : σ.1 33 13 = nI (A 0 0)) (b1 : A 0 0 ≤ 8) : nI 1 <<< (σ.1 33 13 &&& 31) = nI (2 ^ A 0 0) := by rw [h]; exact hn_shl _ (by omega)
theorem s_hasHopeless (W : Wf A) (h13 : σ.1 33 13 = nI (A 0 0)) {m : Nat} (hm : m < 2 ^ A 0 0) (hh : ∀ e, e < A 0 0 → m.testBit e = true → hpB A σ (ndiff m (2 ^ e))) : ∃ h : Bool, hq_c 24 (d + 1) [.ref 33, .int (nI m)] σ (some (.int (bI h))) σ ∧ (h = true → ¬ fea A m) := by
  have b1 := W.1
  have p8 : (2 : Nat) ^ A 0 0 ≤ 2 ^ 8 := Nat.pow_le_pow_right (by decide) b1
  have loop : ∀ q e, e + q = A 0 0 → ∃ h : Bool, hq_m 24 (d + 1) (some (.int (bI h))) σ 2 [some (.ref 33), some (.int (nI m)), some (.int (nI e))] [] σ ∧ (h = true → ¬ fea A m) := by
    intro q
    induction q with
    | zero =>
      intro e he
      exact ⟨false, p_X1_hasHopelessPart_2_4 (by rw [h13]; exact nI_nlt (by omega) (by omega)), fun z => by cases z⟩
    | succ q ih =>
      intro e he
      have c1 : nI e < σ.1 33 13 := by rw [h13]; exact nlt (by omega) (by omega)
      obtain ⟨h, w1, w2⟩ := ih (e + 1) (by omega)
      cases hb : m.testBit e with
      | false => exact ⟨h, p_X1_hasHopelessPart_2_1 c1 (hn_bit0 (by omega) hb) (by rw [nplus]; exact w1), w2⟩
      | true =>
        have lt := ndiff_bit_lt hb
        have ix : nI m &&& ((nI 1 <<< (nI e &&& 31)) ^^^ (-1 : Int32)) = nI (ndiff m (2 ^ e)) := by rw [hn_shl e (by omega), and_not]
        have cx : (nI (ndiff m (2 ^ e))).toNatClampNeg = ndiff m (2 ^ e) := clamp (by omega)
        obtain ⟨g, g1, g2⟩ := hh e (by omega) hb
        have o1 : vp_in (nI m &&& ((nI 1 <<< (nI e &&& 31)) ^^^ (-1 : Int32))) 256 := by rw [ix]; exact vin (by omega) (by decide)
        cases g with
        | false => exact ⟨h, p_X1_hasHopelessPart_2_2 c1 (hn_bit1 (by omega) hb) o1 (by rw [ix, cx, g1]; rfl) (by rw [nplus]; exact w1), w2⟩
        | true => exact ⟨true, p_X1_hasHopelessPart_2_3 c1 (hn_bit1 (by omega) hb) o1 (by rw [ix, cx, g1]; decide), fun _ f => g2 rfl (fea_sub hb (by omega) f)⟩
  obtain ⟨h, w1, w2⟩ := loop (A 0 0) 0 (by omega)
  exact ⟨h, p_X1_hasHopelessPart_0_1 w1, w2⟩
theorem cost_fea (W : Wf A) (hF : ∀ h, h < A 1 0 → F h ≤ 9) {m v : Nat} (h : LC 200 (Hg A F (ds m (A 0 0)) 0) v) : (v = 200 ↔ ¬ fea A m) ∧ (v ≠ 200 → isM (Hg A F (ds m (A 0 0)) 0) v) := by
  rcases LC_M h (fun c hc => by have := (Hg_lo W.2.1 hF hc).2.1; omega) with ⟨a, b⟩ | ⟨a, b⟩
  · exact ⟨⟨fun _ f => by obtain ⟨c, hc⟩ := (fea_iff F).mp f; exact b c hc, fun _ => a⟩, fun z => absurd a z⟩
  · exact ⟨⟨fun z => absurd z a, fun n => absurd ((fea_iff F).mpr ⟨v, b.1⟩) n⟩, fun _ => b⟩
theorem zF_le (A : TA) : ∀ h, h < A 1 0 → zF h ≤ 9 := fun _ _ => Nat.zero_le _
theorem feeF_f (A : TA) : feeF A false = zF := rfl
theorem feeF_t (A : TA) : feeF A true = A 8 := rfl
theorem s_largest (W : Wf A) (hp : HP A zF σ) (hI : mI σ) : ∃ τ, hq_c 23 (d + 13) [.ref 33] σ (some (.int (nI (mstB A)))) τ ∧ mI τ ∧ Fr fSr σ τ := by
  have b1 := W.1
  have p8 : (2 : Nat) ^ A 0 0 ≤ 2 ^ 8 := Nat.pow_le_pow_right (by decide) b1
  obtain ⟨τ, w, hv, hm, fr⟩ := hq_w.for (x := 23) (d := d + 13) (i := 4) (fun k => [some (.ref 33), some (.int (nI (moB A k))), some (.int (nI k))]) (fun k ρ => (∀ j, j < k → hpB A ρ j) ∧ mI ρ ∧ Fr fSr σ ρ) (2 ^ A 0 0) (fun k hk ρ ⟨hv, hm, fr⟩ => by
    have hp1 := HP.dep.fr fr (by decide) hp
    have c1 : nI k < nI 1 <<< (ρ.1 33 13 &&& 31) := by rw [shlD hp1.1 b1]; exact nlt hk (by omega)
    have o : vp_in (nI k) 256 := vin (by omega) (by decide)
    have ck : (nI k).toNatClampNeg = k := clamp (by omega)
    obtain ⟨h, g1, g2⟩ := s_hasHopeless (d := d + 11) W hp1.1 hk (fun e he hb => hv _ (ndiff_bit_lt hb))
    have f1 : Fr [(45, 0)] ρ (hq_sI ρ 45 k (bI h)) := (Fr.rf ρ).sI rfl
    have hm1 := mI.dep.fr f1 (by decide) hm
    have hp2 := HP.dep.fr f1 (by decide) hp1
    have fr1 := fr.tr (f1.up (G := fSr) (by decide))
    have hv1 : ∀ (g : Bool) ρ', (∀ j, j ≠ k → ρ'.1 45 j = ρ.1 45 j) → ρ'.1 45 k = bI g → (g = true → ¬ fea A k) → ∀ j, j < k + 1 → hpB A ρ' j := fun g ρ' e1 e2 e3 j hj => by
      by_cases z : j = k
      · subst z; exact ⟨g, e2, e3⟩
      · obtain ⟨h', a, b⟩ := hv j (by omega)
        exact ⟨h', (e1 j z).trans a, b⟩
    have ml := moB_lt (A := A) k
    have gb := s_bitCount (d := d + 11) (σ := hq_sI ρ 45 k (bI h)) (n := k) (by omega)
    have gb2 := s_bitCount (d := d + 11) (σ := hq_sI ρ 45 k (bI h)) (n := moB A k) (by omega)
    have pl1 := pop_le k
    have pl2 := pop_le (moB A k)
    cases h with
    | true =>
      have e1 : moB A (k + 1) = moB A k := by
        rw [moB_s]
        rw [if_neg (by rw [Bool.and_eq_true]; exact fun z => g2 rfl (cb_t.mp z.2))]
      rw [e1]
      refine ⟨hq_sI ρ 45 k (bI true), fun v τ kk => p_X1_largest_4_6 c1 g1 o o (bI01 _) (by rw [ck, sI_eq]; decide) ?_, hv1 true _ (fun j hj => sI_slot hj) sI_eq g2, hm1, fr1⟩
      rw [ck, nplus]; exact kk
    | false =>
      have c2 : (hq_sI ρ 45 (nI k).toNatClampNeg (bI false)).1 45 (nI k).toNatClampNeg = 0 := by rw [ck, sI_eq]; rfl
      by_cases z : pop (moB A k) < pop k
      · obtain ⟨ρ2, v, x1, x2, x3, x4, x5⟩ := s_costOf (d := d) W (zF_le A) hk hp2 hm1
        obtain ⟨y1, y2⟩ := cost_fea W (zF_le A) x2
        by_cases z2 : v = 200
        · have nf := y1.mp z2
          have e1 : moB A (k + 1) = moB A k := by
            rw [moB_s]
            rw [if_neg (by rw [Bool.and_eq_true]; exact fun z => nf (cb_t.mp z.2))]
          rw [e1]
          have f3 : Fr [(45, 0)] ρ2 (hq_sI ρ2 45 k (nI 1)) := (Fr.rf ρ2).sI rfl
          refine ⟨hq_sI ρ2 45 k (nI 1), fun v τ kk => p_X1_largest_4_2 c1 g1 o o (bI01 _) c2 (by rw [ck]; exact gb) gb2 (nlt z (by omega)) x1 (by rw [z2]) o o (by decide) (by rw [ck, sI_eq]; decide) ?_, hv1 true _ (fun j hj => by rw [sI_slot hj, x5.i rfl, sI_slot hj]) sI_eq (fun _ => nf), mI.dep.fr f3 (by decide) x4, fr1.tr ((x5.up (by decide)).tr (f3.up (by decide)))⟩
          rw [ck, nplus]; exact kk
        · have yf : fea A k := Classical.byContradiction (fun n => z2 (y1.mpr n))
          have e1 : moB A (k + 1) = k := by
            rw [moB_s]
            rw [if_pos (by rw [Bool.and_eq_true]; exact ⟨by simpa using z, cb_t.mpr yf⟩)]
          rw [e1]
          have f3 : Fr [(45, 0)] ρ2 (hq_sI ρ2 45 k (nI 0)) := (Fr.rf ρ2).sI rfl
          refine ⟨hq_sI ρ2 45 k (nI 0), fun v τ kk => p_X1_largest_4_3 c1 g1 o o (bI01 _) c2 (by rw [ck]; exact gb) gb2 (nlt z (by omega)) x1 (by rw [nI_eq (by omega) (by decide)]; exact z2) o o (by decide) (by rw [ck, sI_eq]; rfl) ?_, hv1 false _ (fun j hj => by rw [sI_slot hj, x5.i rfl, sI_slot hj]) sI_eq (fun z => by cases z), mI.dep.fr f3 (by decide) x4, fr1.tr ((x5.up (by decide)).tr (f3.up (by decide)))⟩
          rw [ck, nplus]; exact kk
      · have e1 : moB A (k + 1) = moB A k := by
          rw [moB_s]
          rw [if_neg (by rw [Bool.and_eq_true]; exact fun y => z (by simpa using y.1))]
        rw [e1]
        refine ⟨hq_sI ρ 45 k (bI false), fun v τ kk => p_X1_largest_4_5 c1 g1 o o (bI01 _) c2 (by rw [ck]; exact gb) gb2 (nI_nlt (by omega) (by omega)) ?_, hv1 false _ (fun j hj => sI_slot hj) sI_eq (fun z => by cases z), hm1, fr1⟩
        rw [nplus]; exact kk) (σ := σ) ⟨fun j hj => by omega, hI, Fr.rf σ⟩
  have hp1 := HP.dep.fr fr (by decide) hp
  refine ⟨τ, p_X1_largest_0_1 (w _ _ (p_X1_largest_4_7 ?_)), hm, fr⟩
  rw [shlD hp1.1 b1]
  exact nI_nlt (Nat.le_refl _) (by omega)
/-- the state of the search for the safest: all sets of fewer doors, and those of as many below k, are through -/
def sfI (A : TA) (n k f : Nat) (σ : hq_St) : Prop := f < 2 ^ A 0 0 ∧ fea A f ∧ (pop f < n ∨ (pop f = n ∧ (f < k ∨ f = 0))) ∧ (∀ c, c < 2 ^ A 0 0 → (pop c < n ∨ (pop c = n ∧ c < k)) → hpB A σ c ∧ (fea A c → btr A f c))
theorem s_safest (W : Wf A) (hp : HP A zF σ) (hI : mI σ) (hK : kbOK A σ) : ∃ τ, hq_c 25 (d + 13) [.ref 33] σ (some (.int (nI (bst2 A)))) τ ∧ mI τ ∧ Fr fSr σ τ := by
  have b1 := W.1
  have p8 : (2 : Nat) ^ A 0 0 ≤ 2 ^ 8 := Nat.pow_le_pow_right (by decide) b1
  have popD : ∀ c, c < 2 ^ A 0 0 → pop c ≤ A 0 0 := fun c hc => by
    rw [← pop_H hc (by omega)]
    have := sset_le (n := c) (c := 1) (f := fun _ => 1) (m := A 0 0) (fun _ _ => Nat.le_refl _)
    omega
  have inner : ∀ n q k f ρ, k + q = 2 ^ A 0 0 → n ≤ A 0 0 → sfI A n k f ρ → mI ρ → Fr fSr σ ρ → ∃ f' ρ', (∀ v τ, hq_m 25 (d + 13) v τ 10 [some (.ref 33), some (.int (nI f')), some (.int (nI n)), some (.int (nI (2 ^ A 0 0)))] [] ρ' → hq_m 25 (d + 13) v τ 10 [some (.ref 33), some (.int (nI f)), some (.int (nI n)), some (.int (nI k))] [] ρ) ∧ sfI A n (2 ^ A 0 0) f' ρ' ∧ mI ρ' ∧ Fr fSr σ ρ' := by
    intro n q
    induction q with
    | zero =>
      intro k f ρ hk hn hs hm fr
      have : k = 2 ^ A 0 0 := by omega
      subst this
      exact ⟨f, ρ, fun v τ q => q, hs, hm, fr⟩
    | succ q ih =>
      intro k f ρ hk hn hs hm fr
      obtain ⟨s1, s2, s3, s4⟩ := hs
      have hp1 := HP.dep.fr fr (by decide) hp
      have hK1 := kbOK.dep.fr fr (by decide) hK
      have c1 : nI k < nI 1 <<< (ρ.1 33 13 &&& 31) := by rw [shlD hp1.1 b1]; exact nlt (by omega) (by omega)
      have o : vp_in (nI k) 256 := vin (by omega) (by decide)
      have ck : (nI k).toNatClampNeg = k := clamp (by omega)
      have of : vp_in (nI f) 256 := vin (by omega) (by decide)
      have cf : (nI f).toNatClampNeg = f := clamp (by omega)
      have gb := s_bitCount (d := d + 11) (σ := ρ) (n := k) (by omega)
      have pl := pop_le k
      have kk1 := keptA_le W k
      have kk2 := keptA_le W f
      by_cases zn : pop k = n
      · obtain ⟨h, g1, g2⟩ := s_hasHopeless (d := d + 11) (σ := ρ) W hp1.1 (m := k) (by omega) (fun e he hb => by
          have lt := ndiff_bit_lt hb
          have lp : pop (ndiff k (2 ^ e)) < pop k := sub_ne (by omega) (by omega) (fun j hj => by rw [ndiff_test] at hj; simp at hj; exact hj.1) (by omega)
          exact (s4 (ndiff k (2 ^ e)) (by omega) (Or.inl (by omega))).1)
        have f1 : Fr [(45, 0)] ρ (hq_sI ρ 45 k (bI h)) := (Fr.rf ρ).sI rfl
        have hm1 := mI.dep.fr f1 (by decide) hm
        have hp2 := HP.dep.fr f1 (by decide) hp1
        have hK2 := kbOK.dep.fr f1 (by decide) hK1
        have fr1 := fr.tr (f1.up (G := fSr) (by decide))
        have e44k : (hq_sI ρ 45 (nI k).toNatClampNeg (bI h)).1 44 (nI k).toNatClampNeg = nI (keptA A k) := by rw [ck]; exact hK2.2 k (by omega)
        have e44f : (hq_sI ρ 45 (nI k).toNatClampNeg (bI h)).1 44 (nI f).toNatClampNeg = nI (keptA A f) := by rw [ck, cf]; exact hK2.2 f (by omega)
        -- what stands behind the step
        have nxt : ∀ (g : Bool) f' ρ', (∀ j, j ≠ k → ρ'.1 45 j = ρ.1 45 j) → ρ'.1 45 k = bI g → (g = true → ¬ fea A k) → (f' = f ∧ (fea A k → keptA A k ≤ keptA A f) ∨ f' = k ∧ fea A k ∧ keptA A f < keptA A k) → sfI A n (k + 1) f' ρ' := fun g f' ρ' e1 e2 e3 e4 => by
          have hop : ∀ c, c < 2 ^ A 0 0 → (pop c < n ∨ (pop c = n ∧ c < k + 1)) → hpB A ρ' c := fun c hc hd => by
            by_cases z : c = k
            · subst z; exact ⟨g, e2, e3⟩
            · obtain ⟨h', a, b⟩ := (s4 c hc (by omega)).1
              exact ⟨h', (e1 c z).trans a, b⟩
          rcases e4 with ⟨rfl, e5⟩ | ⟨rfl, e5, e6⟩
          · refine ⟨s1, s2, by omega, fun c hc hd => ⟨hop c hc hd, fun fc => ?_⟩⟩
            by_cases z : c = k
            · subst z
              have := e5 fc
              unfold btr
              omega
            · exact (s4 c hc (by omega)).2 fc
          · refine ⟨by omega, e5, by omega, fun c hc hd => ⟨hop c hc hd, fun fc => ?_⟩⟩
            unfold btr
            by_cases z : c = f'
            · subst z; omega
            · have := (s4 c hc (by omega)).2 fc
              unfold btr at this
              omega
        cases h with
        | true =>
          obtain ⟨f', ρ', w1, w2⟩ := ih (k + 1) f (hq_sI ρ 45 k (bI true)) (by omega) hn (nxt true f _ (fun j hj => sI_slot hj) sI_eq g2 (Or.inl ⟨rfl, fun x => absurd x (g2 rfl)⟩)) hm1 fr1
          refine ⟨f', ρ', fun v τ q => p_X1_safest_10_6 c1 gb (by rw [zn]) g1 o o (bI01 _) (by rw [ck, sI_eq]; decide) ?_, w2⟩
          rw [ck, nplus]; exact w1 v τ q
        | false =>
          have c3 : (hq_sI ρ 45 (nI k).toNatClampNeg (bI false)).1 45 (nI k).toNatClampNeg = 0 := by rw [ck, sI_eq]; rfl
          by_cases z : keptA A f < keptA A k
          · obtain ⟨ρ2, v, x1, x2, x3, x4, x5⟩ := s_costOf (d := d) W (zF_le A) (m := k) (by omega) hp2 hm1
            obtain ⟨y1, y2⟩ := cost_fea W (zF_le A) x2
            by_cases z2 : v = 200
            · have nf := y1.mp z2
              have f3 : Fr [(45, 0)] ρ2 (hq_sI ρ2 45 k (nI 1)) := (Fr.rf ρ2).sI rfl
              obtain ⟨f', ρ', w1, w2⟩ := ih (k + 1) f (hq_sI ρ2 45 k (nI 1)) (by omega) hn (nxt true f _ (fun j hj => by rw [sI_slot hj, x5.i rfl, sI_slot hj]) sI_eq (fun _ => nf) (Or.inl ⟨rfl, fun x => absurd x nf⟩)) (mI.dep.fr f3 (by decide) x4) (fr1.tr ((x5.up (by decide)).tr (f3.up (by decide))))
              refine ⟨f', ρ', fun v τ q => p_X1_safest_10_2 c1 gb (by rw [zn]) g1 o o (bI01 _) c3 of o (by rw [e44k, e44f]; exact nlt z (by omega)) (by rw [ck]; exact x1) (by rw [z2]) o o (by decide) (by rw [ck, sI_eq]; decide) ?_, w2⟩
              rw [ck, nplus]; exact w1 v τ q
            · have yf : fea A k := Classical.byContradiction (fun n => z2 (y1.mpr n))
              have f3 : Fr [(45, 0)] ρ2 (hq_sI ρ2 45 k (nI 0)) := (Fr.rf ρ2).sI rfl
              obtain ⟨f', ρ', w1, w2⟩ := ih (k + 1) k (hq_sI ρ2 45 k (nI 0)) (by omega) hn (nxt false k _ (fun j hj => by rw [sI_slot hj, x5.i rfl, sI_slot hj]) sI_eq (fun z => by cases z) (Or.inr ⟨rfl, yf, z⟩)) (mI.dep.fr f3 (by decide) x4) (fr1.tr ((x5.up (by decide)).tr (f3.up (by decide))))
              refine ⟨f', ρ', fun v τ q => p_X1_safest_10_3 c1 gb (by rw [zn]) g1 o o (bI01 _) c3 of o (by rw [e44k, e44f]; exact nlt z (by omega)) (by rw [ck]; exact x1) (by rw [nI_eq (by omega) (by decide)]; exact z2) o o (by decide) (by rw [ck, sI_eq]; rfl) ?_, w2⟩
              rw [ck, nplus]; exact w1 v τ q
          · obtain ⟨f', ρ', w1, w2⟩ := ih (k + 1) f (hq_sI ρ 45 k (bI false)) (by omega) hn (nxt false f _ (fun j hj => sI_slot hj) sI_eq (fun z => by cases z) (Or.inl ⟨rfl, fun _ => by omega⟩)) hm1 fr1
            refine ⟨f', ρ', fun v τ q => p_X1_safest_10_5 c1 gb (by rw [zn]) g1 o o (bI01 _) c3 of o (by rw [e44k, e44f]; exact nI_nlt (by omega) (by omega)) ?_, w2⟩
            rw [ck, nplus]; exact w1 v τ q
      · obtain ⟨f', ρ', w1, w2⟩ := ih (k + 1) f ρ (by omega) hn ⟨s1, s2, by omega, fun c hc hd => s4 c hc (by
          by_cases z : c = k
          · subst z; omega
          · omega)⟩ hm fr
        refine ⟨f', ρ', fun v τ q => p_X1_safest_10_7 c1 gb (by rw [nI_eq (by omega) (by omega)]; exact zn) ?_, w2⟩
        rw [nplus]; exact w1 v τ q
  have outer : ∀ q n f ρ, n + q = A 0 0 + 1 → sfI A n 0 f ρ → mI ρ → Fr fSr σ ρ → ∃ f' ρ', hq_m 25 (d + 13) (some (.int (nI f'))) ρ' 4 [some (.ref 33), some (.int (nI f)), some (.int (nI n)), none] [] ρ ∧ isB A f' ∧ mI ρ' ∧ Fr fSr σ ρ' := by
    intro q
    induction q with
    | zero =>
      intro n f ρ hn hs hm fr
      have hp1 := HP.dep.fr fr (by decide) hp
      refine ⟨f, ρ, p_X1_safest_4_1 (by rw [hp1.1]; exact nlt (by omega) (by omega)), ⟨hs.1, hs.2.1, fun c hc fc => ?_⟩, hm, fr⟩
      have := popD c hc
      exact (hs.2.2.2 c hc (Or.inl (by omega))).2 fc
    | succ q ih =>
      intro n f ρ hn hs hm fr
      have hp1 := HP.dep.fr fr (by decide) hp
      obtain ⟨f1, ρ1, w1, t1, t2, t3⟩ := inner n (2 ^ A 0 0) 0 f ρ (by omega) (by omega) hs hm fr
      have hp2 := HP.dep.fr t3 (by decide) hp
      have t1' := t1
      obtain ⟨s1, s2, s3, s4⟩ := t1
      obtain ⟨f2, ρ2, w2, w3⟩ := ih (n + 1) f1 ρ1 (by omega) ⟨s1, s2, by omega, fun c hc hd => s4 c hc (by omega)⟩ t2 t3
      refine ⟨f2, ρ2, p_X1_safest_4_2 (by rw [hp1.1]; exact nI_nlt (by omega) (by omega)) (w1 _ _ (p_X1_safest_10_8 ?_ ?_)), w3⟩
      · rw [shlD hp2.1 b1]; exact nI_nlt (Nat.le_refl _) (by omega)
      · rw [nplus]; exact w2
  obtain ⟨f, ρ, w1, w2, w3⟩ := outer (A 0 0 + 1) 0 0 σ (by omega) ⟨Nat.two_pow_pos _, fea_0 A, Or.inr ⟨rfl, Or.inr rfl⟩, fun c hc hd => by omega⟩ hI (Fr.rf σ)
  rw [← isB_uq w2 (bst2_ok A)]
  exact ⟨ρ, p_X1_safest_0_1 w1, w3⟩
end HI1
