/-! quiet, the methods -/
def lsn (A : TA) (y : Int32) (G : List Nat) (e : Nat) : Int32 := if opA A e then nI (ckA A y G e) else -1
def cL (A : TA) (y : Int32) (G : List Nat) (σ : hq_St) : Prop := ∀ e, e < A 0 0 → σ.1 48 e = lsn A y G e
theorem cL.dep {A : TA} {y : Int32} {G : List Nat} : Dep [(48, 0)] (cL A y G) := fun σ τ q h e he => ((q 48 e rfl).1).trans (h e he)
def cV (V : Nat → Nat) (σ : hq_St) : Prop := ∀ r, r < 8 → σ.1 51 r = nI (V r)
theorem cV.dep {V : Nat → Nat} : Dep [(51, 0)] (cV V) := fun σ τ q h r hr => ((q 51 r rfl).1).trans (h r hr)
def mV (V : Nat → Nat) (σ : hq_St) : Prop := ∀ r, r < 8 → σ.1 73 r = (if V r < 1048576 then nI (V r / 16) else nI 1000000000) ∧ σ.1 74 r = (if V r < 1048576 then nI (V r % 16) else nI 1000000000)
theorem mV.dep {V : Nat → Nat} : Dep [(73, 0), (74, 0)] (mV V) := fun σ τ q h r hr => ⟨((q 73 r rfl).1).trans (h r hr).1, ((q 74 r rfl).1).trans (h r hr).2⟩
theorem nmul (a b : Nat) : nI a * nI b = nI (a * b) := by
  apply Int32.toBitVec_inj.1
  show BitVec.ofNat 32 a * BitVec.ofNat 32 b = BitVec.ofNat 32 (a * b)
  exact (BitVec.ofNat_mul ..).symm
theorem ndiv {a b : Nat} (ha : a < 2 ^ 31) (hb : b < 2 ^ 31) : nI a / nI b = nI (a / b) := by
  rw [fa_eq, Int32.toInt_div, nI_toInt ha, nI_toInt hb, nI_toInt (Nat.lt_of_le_of_lt (Nat.div_le_self _ _) ha)]
  have : ((a : Int).tdiv b) = ((a / b : Nat) : Int) := by rw [Int.tdiv_eq_ediv_of_nonneg (by omega)]; rfl
  rw [this]
  have h1 := Nat.div_le_self a b
  generalize a / b = q at h1 ⊢
  apply Int.bmod_eq_of_le <;> omega
section QM
variable {d : Nat} {σ : hq_St} {A : TA} {y : Int32} {G : List Nat} {r0 : Nat}
theorem ck_le (W : Wf A) (e : Nat) : ckA A y G e ≤ 1188 := crk_le W
theorem ln_val (W : Wf A) {e : Nat} (ho : opA A e = true) {v : Int32} (h : v = lsn A y G e) : v * nI 16 + nI 1 = nI (lnA A y G e) := by
  rw [h]; unfold lsn lnA
  rw [if_pos ho, nmul, nplus]
theorem s_listen (R : Rc A σ) (hy : σ.1 5 16 = y) (hG : cU G σ) : ∃ τ, hq_c 69 (d + 5) [.ref 47, .ref 5, .ref 24] σ none τ ∧ cL A y G τ ∧ Fr [(27, 0), (48, 0)] σ τ := by
  have W := R.1
  have b1 := W.1
  have b2 := W.2.1
  obtain ⟨τ, w, f, hl⟩ := hq_w.for (x := 69) (d := d + 5) (i := 2) (fun j => [some (.ref 47), some (.ref 5), some (.ref 24), some (.int (nI j)), none]) (fun j ρ => Fr [(27, 0), (48, 0)] σ ρ ∧ ∀ e, e < j → ρ.1 48 e = lsn A y G e) (A 0 0) (fun j hj ρ ⟨fr, hl⟩ => by
    have R1 := Rc.dep.fr fr (by decide) R
    have hG1 := cU.dep.fr fr (by decide) hG
    have hy1 : ρ.1 5 16 = y := (fr.i rfl).trans hy
    have c1 : nI j < ρ.1 5 13 := by rw [R1.2.1]; exact nlt hj (by omega)
    have oj : vp_in (nI j) 8 := vin (by omega) (by decide)
    have cj : (nI j).toNatClampNeg = j := clamp (by omega)
    have h11 := (R1.2.2.2.1 j hj).2.2.2.2.2
    have ol := onA_lt A (j + 1) b2
    have g1 := s_shutBy (d := d + 1) R1 hj ol
    cases q : shutF A (h0 A) j (onA A (j + 1)) with
    | true =>
      rw [q] at g1
      have lv : lsn A y G j = -1 := by unfold lsn opA; rw [q]; rfl
      refine ⟨hq_sI ρ 48 j (-1), fun v τ k => p_X7_listen_2_2 c1 oj (by rw [cj, h11]; exact g1) (by decide) oj ?_, fr.sI rfl, fun e he => ?_⟩
      · rw [cj, nplus]; exact k
      · by_cases z : e = j
        · subst z; rw [sI_eq, lv]
        · rw [sI_slot z]; exact hl e (by omega)
    | false =>
      rw [q] at g1
      obtain ⟨ρ2, g2, f2⟩ := s_creakOf (d := d) R1 hy1 hG1 hj ol
      have lv : lsn A y G j = nI (crk A y G j (onA A (j + 1))) := by unfold lsn opA; rw [q]; rfl
      refine ⟨hq_sI ρ2 48 j (nI (crk A y G j (onA A (j + 1)))), fun v τ k => p_X7_listen_2_1 (ρ1 := ρ) (r1 := bI false) c1 oj (by rw [cj, h11]; exact g1) rfl (by rw [cj, h11]; exact g2) oj ?_, (fr.tr (f2.up (by decide))).sI rfl, fun e he => ?_⟩
      · rw [cj, nplus]; exact k
      · by_cases z : e = j
        · subst z; rw [sI_eq, lv]
        · rw [sI_slot z, f2.i rfl]; exact hl e (by omega)) (σ := σ) ⟨Fr.rf σ, fun e he => by omega⟩
  refine ⟨τ, p_X7_listen_0_1 (w _ _ (p_X7_listen_2_3 ?_)), hl, f⟩
  rw [(Rc.dep.fr f (by decide) R).2.1]; exact nI_nlt (Nat.le_refl _) (by omega)
theorem lsn_open (W : Wf A) {e : Nat} : lsn A y G e = -1 ↔ opA A e = false := by
  have := ck_le (y := y) (G := G) W e
  unfold lsn
  cases q : opA A e with
  | false => simp
  | true =>
    simp
    rw [fa_eq, nI_toInt (by omega)]
    have : (-1 : Int32).toInt = -1 := rfl
    omega
theorem min_if {a b : Nat} (ha : a < 2 ^ 31) (hb : b < 2 ^ 31) : (if nI b < nI a then nI b else nI a) = nI (min a b) := min_val ha hb
theorem s_measureTo (R : Rc A σ) (hl : cL A y G σ) (hr : r0 < 8) : ∃ τ, hq_c 73 (d + 2) [.ref 47, .ref 5, .int (nI r0)] σ none τ ∧ cV (vq A y G r0) τ ∧ Fr [(51, 0)] σ τ := by
  have W := R.1
  have b1 := W.1
  obtain ⟨σ1, w1, f1, v1⟩ := hq_w.for (x := 73) (d := d + 2) (i := 2) (fun j => [some (.ref 47), some (.ref 5), some (.int (nI r0)), some (.int (nI j)), none, none, none]) (fun j ρ => Fr [(51, 0)] σ ρ ∧ ∀ r, r < j → ρ.1 51 r = nI (vi r0 r)) 8 (fun j hj ρ ⟨fr, hv⟩ => by
    have oj : vp_in (nI j) 8 := vin (by omega) (by decide)
    have cj : (nI j).toNatClampNeg = j := clamp (by omega)
    refine ⟨hq_sI ρ 51 j (nI (vi r0 j)), fun v τ k => ?_, fr.sI rfl, fun r hr2 => ?_⟩
    · by_cases q : j = r0
      · refine p_X7_measureTo_2_1 (nlt hj (by decide)) (by rw [q]) oj ?_
        have : vi r0 j = 0 := by unfold vi; rw [if_pos q]
        rw [this] at k
        rw [cj, nplus]; exact k
      · refine p_X7_measureTo_2_2 (nlt hj (by decide)) (by rw [nI_eq (by omega) (by omega)]; exact q) oj ?_
        have : vi r0 j = 1048576 := by unfold vi; rw [if_neg q]
        rw [this] at k
        rw [cj, nplus]; exact k
    · by_cases z : r = j
      · subst z; rw [sI_eq]
      · rw [sI_slot z]; exact hv r (by omega)) (σ := σ) ⟨Fr.rf σ, fun e he => by omega⟩
  obtain ⟨σ2, w2, f2, v2⟩ := hq_w.for (x := 73) (d := d + 2) (i := 19) (fun k => [some (.ref 47), some (.ref 5), none, some (.int (nI k)), none, none, none]) (fun k ρ => Fr [(51, 0)] σ ρ ∧ cV (vt A y G r0 k) ρ) 8 (fun k hk ρ ⟨fr, hv⟩ => by
    obtain ⟨ρ2, w3, f3, v3⟩ := hq_w.for (x := 73) (d := d + 2) (i := 24) (fun j => [some (.ref 47), some (.ref 5), none, some (.int (nI k)), some (.int (nI j)), none, none]) (fun j ρ => Fr [(51, 0)] σ ρ ∧ cV (trn A y G (vt A y G r0 k) j) ρ) (A 0 0) (fun j hj ρ ⟨fr, hv⟩ => by
      have R1 := Rc.dep.fr fr (by decide) R
      have hl1 := cL.dep.fr fr (by decide) hl
      have c1 : nI j < ρ.1 5 13 := by rw [R1.2.1]; exact nlt hj (by omega)
      have oj : vp_in (nI j) 8 := vin (by omega) (by decide)
      have cj : (nI j).toNatClampNeg = j := clamp (by omega)
      have hlj := hl1 j hj
      obtain ⟨a1, a2, -⟩ := R1.2.2.2.1 j hj
      obtain ⟨u1, u2, u3, -⟩ := W.2.2.1 j hj
      have tt : trn A y G (vt A y G r0 k) (j + 1) = if opA A j then rlx (rlx (trn A y G (vt A y G r0 k) j) (A 2 j) (A 3 j) (lnA A y G j)) (A 3 j) (A 2 j) (lnA A y G j) else trn A y G (vt A y G r0 k) j := rfl
      have iv := Iv_trn (y := y) (G := G) W (Iv_vt (y := y) (G := G) W hr k) j (by omega)
      generalize trn A y G (vt A y G r0 k) j = V at hv tt iv
      cases q : opA A j with
      | false =>
        rw [if_neg (by simp [q])] at tt
        refine ⟨ρ, fun v τ kk => p_X7_measureTo_24_1 c1 oj (by rw [cj, hlj]; exact (lsn_open W).mpr q) ?_, fr, by rw [tt]; exact hv⟩
        rw [nplus]; exact kk
      | true =>
        rw [if_pos q] at tt
        have ca : (nI (A 2 j)).toNatClampNeg = A 2 j := clamp (by omega)
        have cb : (nI (A 3 j)).toNatClampNeg = A 3 j := clamp (by omega)
        have ea : (ρ.1 6 (nI j).toNatClampNeg).toNatClampNeg = A 2 j := by rw [cj, a1, ca]
        have eb : (ρ.1 7 (nI j).toNatClampNeg).toNatClampNeg = A 3 j := by rw [cj, a2, cb]
        have oa : vp_in (ρ.1 6 (nI j).toNatClampNeg) 8 := by rw [cj, a1]; exact vin u1 (by decide)
        have ob : vp_in (ρ.1 7 (nI j).toNatClampNeg) 8 := by rw [cj, a2]; exact vin u2 (by decide)
        have ckl := ck_le (y := y) (G := G) W j
        have lnl : lnA A y G j ≤ 20000 := by unfold lnA; omega
        have ia := iv.2.1 (A 2 j)
        have ib := iv.2.1 (A 3 j)
        have g1 : hq_c 71 (d + 1) [.ref 47, .int (nI j)] ρ (some (.int (nI (lnA A y G j)))) ρ := by
          have H := p_X7_lengthOf_0_1 (d := d) (σ := ρ) (l1 := nI j) oj
          rw [cj, ln_val W q hlj] at H
          exact H
        have va : nI (V (A 3 j)) + nI (lnA A y G j) = nI (V (A 3 j) + lnA A y G j) := nplus _ _
        have x1 : (if (ρ.1 51 (ρ.1 7 (nI j).toNatClampNeg).toNatClampNeg + nI (lnA A y G j)) < ρ.1 51 (ρ.1 6 (nI j).toNatClampNeg).toNatClampNeg then (ρ.1 51 (ρ.1 7 (nI j).toNatClampNeg).toNatClampNeg + nI (lnA A y G j)) else ρ.1 51 (ρ.1 6 (nI j).toNatClampNeg).toNatClampNeg) = nI (rlx V (A 2 j) (A 3 j) (lnA A y G j) (A 2 j)) := by
          rw [ea, eb, hv _ u1, hv _ u2, va, min_if (by omega) (by omega)]
          unfold rlx; rw [if_pos rfl]
        have r2 : ∀ r, r < 8 → (hq_sI ρ 51 (A 2 j) (nI (rlx V (A 2 j) (A 3 j) (lnA A y G j) (A 2 j)))).1 51 r = nI (rlx V (A 2 j) (A 3 j) (lnA A y G j) r) := fun r hr2 => by
          by_cases z : r = A 2 j
          · rw [z, sI_eq]
          · rw [sI_slot z, hv r hr2]; unfold rlx; rw [if_neg z]
        have iv2 := Iv_rlx W iv hj q (oth_a A) u1 u3
        generalize rlx V (A 2 j) (A 3 j) (lnA A y G j) = V2 at x1 r2 tt iv2
        have fr2 : Fr [(51, 0)] σ (hq_sI ρ 51 (A 2 j) (nI (V2 (A 2 j)))) := fr.sI rfl
        have hl2 := cL.dep.fr fr2 (by decide) hl
        generalize e2 : hq_sI ρ 51 (A 2 j) (nI (V2 (A 2 j))) = ρ2 at r2 fr2 hl2
        have ia2 := iv2.2.1 (A 2 j)
        have ib2 := iv2.2.1 (A 3 j)
        have g2 : hq_c 71 (d + 1) [.ref 47, .int (nI j)] ρ2 (some (.int (nI (lnA A y G j)))) ρ2 := by
          have H := p_X7_lengthOf_0_1 (d := d) (σ := ρ2) (l1 := nI j) oj
          rw [cj, ln_val W q (hl2 j hj)] at H
          exact H
        refine ⟨hq_sI ρ2 51 (A 3 j) (nI (rlx V2 (A 3 j) (A 2 j) (lnA A y G j) (A 3 j))), fun v τ kk => p_X7_measureTo_24_2 (r1 := nI (lnA A y G j)) (ρ1 := ρ) (r2 := nI (lnA A y G j)) (ρ2 := ρ2) c1 oj (by rw [cj, hlj, lsn_open W]; simp [q]) ob oa oj oj g1 oa ob oa rfl (by rw [x1, ea, e2]; exact g2) ob rfl ?_, fr2.sI rfl, ?_⟩
        · rw [x1, ea, eb, e2, r2 _ u1, r2 _ u2, nplus, nplus, min_if (by omega) (by omega)]
          have : rlx V2 (A 3 j) (A 2 j) (lnA A y G j) (A 3 j) = min (V2 (A 3 j)) (V2 (A 2 j) + lnA A y G j) := by unfold rlx; rw [if_pos rfl]
          rw [← this]
          exact kk
        · rw [tt]
          intro r hr2
          by_cases z : r = A 3 j
          · rw [z, sI_eq]
          · rw [sI_slot z, r2 r hr2]; unfold rlx; rw [if_neg z]) (σ := ρ) ⟨fr, hv⟩
    have R2 := Rc.dep.fr f3 (by decide) R
    refine ⟨ρ2, fun v τ kk => p_X7_measureTo_19_1 (nlt hk (by decide)) (w3 _ _ (p_X7_measureTo_24_3 ?_ ?_)), f3, v3⟩
    · rw [R2.2.1]; exact nI_nlt (Nat.le_refl _) (by omega)
    · rw [nplus]; exact kk) (σ := σ1) ⟨f1, fun r hr2 => v1 r hr2⟩
  exact ⟨σ2, p_X7_measureTo_0_1 (w1 _ _ (p_X7_measureTo_2_3 (by decide) (w2 _ _ (p_X7_measureTo_19_2 (by decide))))), v2, f2⟩
theorem shut_op (W : Wf A) {e : Nat} (he : e < A 0 0) : (shut0 A).testBit e = !opA A e := by
  unfold shut0 opA
  rw [sbits_test]
  simp [he]
theorem s_doorOnTheWay (R : Rc A σ) (hl : cL A y G σ) (hv : cV (vq A y G r0) σ) (hr0 : r0 < 8) {r : Nat} (hr : r < 8) (hf : vq A y G r0 r < 1048576) (hne : r ≠ r0) : hq_c 74 (d + 2) [.ref 47, .ref 5, .int (nI r)] σ (some (.int (nI (qD A y G r0 r)))) σ := by
  have W := R.1
  have b1 := W.1
  obtain ⟨q1, q2, o, q3, q4, q5, q6⟩ := qD_ok (y := y) (G := G) W hr0 hf hne
  have lt := (fsN_le (qp A y G r0 r) (A 0 0)).2
  have iv := Iv_vt (A := A) (y := y) (G := G) W hr0 8
  have cr : (nI r).toNatClampNeg = r := clamp (by omega)
  have or_ : vp_in (nI r) 8 := vin hr (by decide)
  have len : ∀ e, e < A 0 0 → opA A e = true → hq_c 71 (d + 1) [.ref 47, .int (nI e)] σ (some (.int (nI (lnA A y G e)))) σ := fun e he ho => by
    have H := p_X7_lengthOf_0_1 (d := d) (σ := σ) (l1 := nI e) (vin (by omega) (by decide))
    rw [clamp (by omega), ln_val W ho (hl e he)] at H
    exact H
  have lnl : ∀ e, lnA A y G e ≤ 20000 := fun e => by
    have := ck_le (y := y) (G := G) W e
    unfold lnA; omega
  refine p_X7_doorOnTheWay_0_1 ?_
  refine hq_m.for (fun j => [some (.ref 47), some (.ref 5), some (.int (nI r)), some (.int (nI j)), none]) (fun _ => σ) (qD A y G r0 r) ?_ ?_ 0 (Nat.zero_le _)
  · intro j hj ih
    have hjD : j < A 0 0 := by omega
    have c1 : nI j < σ.1 5 13 := by rw [R.2.1]; exact nlt hjD (by omega)
    have oj : vp_in (nI j) 8 := vin (by omega) (by decide)
    have cj : (nI j).toNatClampNeg = j := clamp (by omega)
    have pj := lt j hj
    have g1 := s_beyond (d := d) R hjD hr
    obtain ⟨u1, u2, u3, -⟩ := W.2.2.1 j hjD
    have ol : othA A j r ≤ 8 := by unfold othA; split <;> (try split) <;> omega
    by_cases z1 : othA A j r = 0
    · refine p_X7_doorOnTheWay_2_1 c1 g1 ((place_m1 (by omega)).mpr z1) ?_
      rw [nplus]; exact ih
    · have n1 : ¬ nI (othA A j r) - nI 1 = (-1 : Int32) := fun z => z1 ((place_m1 (by omega)).mp z)
      cases z2 : opA A j with
      | false =>
        refine p_X7_doorOnTheWay_2_2 c1 g1 n1 oj (by rw [cj, hl j hjD]; exact (lsn_open W).mpr z2) ?_
        rw [nplus]; exact ih
      | true =>
        have es : nI (othA A j r) - nI 1 = nI (othA A j r - 1) := pk_sub (by omega)
        have co : (nI (othA A j r - 1)).toNatClampNeg = othA A j r - 1 := clamp (by omega)
        have z3 : vq A y G r0 (othA A j r - 1) + lnA A y G j ≠ vq A y G r0 r := fun z => by
          unfold qp at pj
          rw [z2] at pj
          simp [z1, z] at pj
        have i1 : vq A y G r0 (othA A j r - 1) ≤ 1048576 := iv.2.1 _
        have := lnl j
        refine p_X7_doorOnTheWay_2_4 c1 g1 n1 oj (by rw [cj, hl j hjD, lsn_open W]; simp [z2]) (by rw [es]; exact vin (by omega) (by decide)) (len j hjD z2) or_ ?_ ?_
        · rw [es, co, cr, hv _ (by omega), hv _ hr, nplus, nI_eq (by omega) (by omega)]
          exact z3
        · rw [nplus]; exact ih
  · have g1 := s_beyond (d := d) R q1 hr
    have cj : (nI (qD A y G r0 r)).toNatClampNeg = qD A y G r0 r := clamp (by omega)
    have oj : vp_in (nI (qD A y G r0 r)) 8 := vin (by omega) (by decide)
    have c1 : nI (qD A y G r0 r) < σ.1 5 13 := by rw [R.2.1]; exact nlt q1 (by omega)
    have es : nI (othA A (qD A y G r0 r) r) - nI 1 = nI o := by rw [q3, nI_dec1]
    have co : (nI o).toNatClampNeg = o := clamp (by omega)
    rw [es] at g1
    refine p_X7_doorOnTheWay_2_3 c1 g1 ?_ oj (by rw [cj, hl _ q1, lsn_open W]; simp [q2]) (vin q4 (by decide)) (len _ q1 q2) or_ ?_
    · rw [fa_eq, nI_toInt (by omega)]
      have : (-1 : Int32).toInt = -1 := rfl
      omega
    · rw [co, cr, hv _ q4, hv _ hr, nplus, q5]
theorem qW_0 (W : Wf A) (hr0 : r0 < 8) {r : Nat} (hf : vq A y G r0 r < 1048576) (h : vq A y G r0 r % 16 = 0) : r = r0 := by
  by_cases q : r = r0
  · exact q
  · obtain ⟨-, -, o, -, -, -, q6⟩ := qD_ok (y := y) (G := G) W hr0 hf q
    omega
theorem s_walk (hr0 : r0 < 8) (hf0 : vq A y G r0 0 < 1048576) : ∀ (n r s : Nat) (L : List Int64) (σ : hq_St), r < 8 → vq A y G r0 r < 1048576 → vq A y G r0 r % 16 ≤ n → s + n ≤ 8 → L.length + n ≤ 16 → Rc A σ → cL A y G σ → cV (vq A y G r0) σ → cR L σ → ∃ τ, hq_m 72 (d + 3) (some (.int (nI (vq A y G r0 0 / 16)))) τ 18 [some (.ref 47), some (.ref 5), some (.int (nI r0)), some (.ref 3), some (.int (nI r)), some (.int (nI s)), none] [] σ ∧ cR (L ++ qW A y G r0 n r) τ ∧ Fr [(3, 2), (4, 0)] σ τ := by
  have fin : ∀ (s : Nat) (σ : hq_St), s ≤ 8 → cV (vq A y G r0) σ → hq_m 72 (d + 3) (some (.int (nI (vq A y G r0 0 / 16)))) σ 18 [some (.ref 47), some (.ref 5), some (.int (nI r0)), some (.ref 3), some (.int (nI r0)), some (.int (nI s)), none] [] σ := fun s σ hs hv => by
    have e : σ.1 51 (nI 0).toNatClampNeg / nI 16 = nI (vq A y G r0 0 / 16) := by
      rw [show (nI 0).toNatClampNeg = 0 from rfl, hv 0 (by decide), ndiv (by omega) (by decide)]
    rw [← e]
    by_cases q : s < 8
    · exact p_X7_quietWay_18_1 (nlt q (by decide)) rfl (by decide) (vin (by decide) (by decide))
    · exact p_X7_quietWay_18_4 (nI_nlt (by omega) (by omega)) (by decide) (vin (by decide) (by decide))
  intro n
  induction n with
  | zero =>
    intro r s L σ hr hf hm hs hLn R hl hv hL
    have e := qW_0 R.1 hr0 hf (by omega)
    subst e
    refine ⟨σ, fin s σ (by omega) hv, ?_, Fr.rf σ⟩
    show cR (L ++ []) σ
    rw [List.append_nil]; exact hL
  | succ n ih =>
    intro r s L σ hr hf hm hs hLn R hl hv hL
    by_cases q : r = r0
    · subst q
      refine ⟨σ, fin s σ (by omega) hv, ?_, Fr.rf σ⟩
      have : qW A y G r (n + 1) r = [] := by unfold qW; rw [if_pos rfl]
      rw [this, List.append_nil]; exact hL
    · have W := R.1
      obtain ⟨q1, q2, o, q3, q4, q5, q6⟩ := qD_ok (y := y) (G := G) W hr0 hf q
      have g1 := s_doorOnTheWay (d := d) R hl hv hr0 hr hf q
      obtain ⟨σ1, d1, d2, d3⟩ := s_add (d := d + 1) hL (by omega) (nI (qD A y G r0 r)).toInt64
      have R1 := Rc.dep.fr d3 (by decide) R
      have g2 := s_beyond (d := d + 1) R1 q1 hr
      rw [q3, nI_dec1] at g2
      obtain ⟨τ, i1, i2, i3⟩ := ih o (s + 1) (L ++ [(nI (qD A y G r0 r)).toInt64]) σ1 q4 (by omega) (by omega) (by omega) (by simp; omega) R1 (cL.dep.fr d3 (by decide) hl) (cV.dep.fr d3 (by decide) hv) d2
      have b1 := W.1
      refine ⟨τ, p_X7_quietWay_18_3 (nlt (by omega) (by decide)) (by rw [nI_eq (by omega) (by omega)]; exact q) g1 ?_ d1 g2 ?_, ?_, d3.tr i3⟩
      · rw [fa_eq, nI_toInt (by omega)]
        have : (-1 : Int32).toInt = -1 := rfl
        omega
      · rw [nplus]; exact i1
      · have : qW A y G r0 (n + 1) r = (nI (qD A y G r0 r)).toInt64 :: qW A y G r0 n o := by
          show (if r = r0 then _ else _) = _
          rw [if_neg q, q3, Nat.add_sub_cancel]
        rw [this]
        rw [List.append_assoc] at i2
        exact i2
def quR (A : TA) (y : Int32) (G : List Nat) (x : Int32) : Int32 := if inb x 0 7 then (if vq A y G x.toNatClampNeg 0 < 1048576 then nI (vq A y G x.toNatClampNeg 0 / 16) else -2) else -1
def quL (A : TA) (y : Int32) (G : List Nat) (x : Int32) (L : List Int64) : List Int64 := if inb x 0 7 = true ∧ vq A y G x.toNatClampNeg 0 < 1048576 then qW A y G x.toNatClampNeg 7 0 else L
theorem s_quiet (R : Rc A σ) (hy : σ.1 5 16 = y) (hG : cU G σ) {L : List Int64} (hL : cR L σ) (x : Int32) : ∃ τ, hq_c 130 (d + 6) [.ref 0, .int x] σ (some (.int (quR A y G x))) τ ∧ cR (quL A y G x L) τ ∧ Fr [(3, 2), (4, 0), (27, 0), (48, 0), (51, 0)] σ τ := by
  have W := R.1
  have g1 := s_isRoom (d := d + 4) (σ := σ) x
  unfold quR quL
  cases hx : inb x 0 7 with
  | false =>
    rw [hx] at g1
    refine ⟨σ, p_X9_quiet_0_1 g1 rfl, ?_, Fr.rf σ⟩
    rw [if_neg (fun z => by cases z.1)]; exact hL
  | true =>
    rw [hx] at g1
    obtain ⟨r0, -, hr, rfl⟩ := inb_of hx
    have cr : (nI r0).toNatClampNeg = r0 := clamp (by omega)
    rw [cr, if_pos rfl]
    obtain ⟨σ1, l1, l2, l3⟩ := s_listen (d := d) R hy hG
    have R1 := Rc.dep.fr l3 (by decide) R
    obtain ⟨σ2, m1, m2, m3⟩ := s_measureTo (d := d + 2) (r0 := r0) R1 l2 (by omega)
    have fr2 : Fr [(3, 2), (4, 0), (27, 0), (48, 0), (51, 0)] σ σ2 := (l3.up (by decide)).tr (m3.up (by decide))
    have iv := Iv_vt (A := A) (y := y) (G := G) W (r0 := r0) (by omega) 8
    have i0 : vq A y G r0 0 ≤ 1048576 := iv.2.1 0
    have e0 : σ2.1 51 (nI 0).toNatClampNeg = nI (vq A y G r0 0) := m2 0 (by decide)
    by_cases q : vq A y G r0 0 < 1048576
    · rw [if_pos q, if_pos ⟨rfl, q⟩]
      obtain ⟨σ3, c1, c2, c3⟩ := s_clear (d := d + 3) (σ := σ2)
      have m7 : vq A y G r0 0 % 16 ≤ 7 := iv.m7 q
      obtain ⟨σ4, w1, w2, w3⟩ := s_walk (d := d + 2) (by omega) q 7 0 0 [] σ3 (by decide) q m7 (by decide) (by decide) (Rc.dep.fr c3 (by decide) (Rc.dep.fr m3 (by decide) R1)) (cL.dep.fr c3 (by decide) (cL.dep.fr m3 (by decide) l2)) (cV.dep.fr c3 (by decide) m2) c2
      exact ⟨σ4, p_X9_quiet_0_2 g1 (by decide) l1 (p_X7_quietWay_0_1 m1 (vin (by decide) (by decide)) (by rw [e0]; exact nlt q (by decide)) c1 w1), w2, fr2.tr ((c3.tr w3).up (by decide))⟩
    · rw [if_neg q, if_neg (fun z => q z.2)]
      exact ⟨σ2, p_X9_quiet_0_2 g1 (by decide) l1 (p_X7_quietWay_0_2 m1 (vin (by decide) (by decide)) (by rw [e0]; exact nI_nlt (by omega) (by omega))), cR.dep.fr m3 (by decide) (cR.dep.fr l3 (by decide) hL), fr2⟩
end QM
