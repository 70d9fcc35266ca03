/-! quiet, the reference -/
section QR
variable {d : Nat} {σ : hq_St} {A : TA} {y : Int32} {G : List Nat} {r0 : Nat}
theorem mV.set {V : Nat → Nat} {a b c : Nat} (hv : mV V σ) (hlt : V b + (c * 16 + 1) < V a) (ha2 : V a ≤ 1048576) (b7 : V b % 16 ≤ 7) : mV (rlx V a b (c * 16 + 1)) (hq_sI (hq_sI σ 73 a (nI (V b / 16 + c))) 74 a (nI (V b % 16 + 1))) := by
  intro r hr
  by_cases z : r = a
  · subst z
    have e : rlx V r b (c * 16 + 1) r = V b + (c * 16 + 1) := by unfold rlx; rw [if_pos rfl]; omega
    rw [e, if_pos (by omega), if_pos (by omega)]
    refine ⟨?_, ?_⟩
    · rw [sI_ne (by decide), sI_eq]; exact congrArg nI (by omega)
    · rw [sI_eq]; exact congrArg nI (by omega)
  · have e : rlx V a b (c * 16 + 1) r = V r := by unfold rlx; rw [if_neg z]
    rw [e]
    refine ⟨?_, ?_⟩
    · rw [sI_ne (by decide), sI_slot z]; exact (hv r hr).1
    · rw [sI_slot z, sI_ne (by decide)]; exact (hv r hr).2
theorem rlx_no {V : Nat → Nat} {a b w : Nat} (h : ¬ V b + w < V a) : rlx V a b w = V := by
  funext r
  unfold rlx
  split
  · rename_i z; subst z; omega
  · rfl
theorem m_lets {V : Nat → Nat} (iv : Iv A y G r0 V) (hv : mV V σ) {a b c : Nat} (ha : a < 8) (hb : b < 8) (hc : c ≤ 1188) : ∃ τ, hq_c 236 (d + 1) [.ref 52, .int (nI a), .int (nI b), .int (nI c)] σ none τ ∧ mV (rlx V a b (c * 16 + 1)) τ ∧ Fr [(73, 0), (74, 0)] σ τ := by
  have ca : (nI a).toNatClampNeg = a := clamp (by omega)
  have cb : (nI b).toNatClampNeg = b := clamp (by omega)
  have oa : vp_in (nI a) 8 := vin ha (by decide)
  have ob : vp_in (nI b) 8 := vin hb (by decide)
  obtain ⟨v1, v2⟩ := hv a ha
  obtain ⟨u1, u2⟩ := hv b hb
  have ia := iv.2.1 a
  have ib := iv.2.1 b
  by_cases q : V b < 1048576
  · rw [if_pos q] at u1 u2
    have b7 := iv.m7 q
    have c1 : σ.1 73 (nI b).toNatClampNeg < nI 1000000000 := by rw [cb, u1]; exact nlt (by omega) (by decide)
    have s1 : σ.1 73 (nI b).toNatClampNeg + nI c = nI (V b / 16 + c) := by rw [cb, u1, nplus]
    have s2 : σ.1 74 (nI b).toNatClampNeg + nI 1 = nI (V b % 16 + 1) := by rw [cb, u2, nplus]
    have fr : Fr [(73, 0), (74, 0)] σ (hq_sI (hq_sI σ 73 a (nI (V b / 16 + c))) 74 a (nI (V b % 16 + 1))) := ((Fr.rf σ).sI rfl).sI rfl
    by_cases z : V b + (c * 16 + 1) < V a
    · have st := hv.set z ia b7
      by_cases qa : V a < 1048576
      · rw [if_pos qa] at v1 v2
        have a7 := iv.m7 qa
        by_cases z1 : V b / 16 + c < V a / 16
        · have H := p_X10_lets_0_1 (d := d) (σ := σ) (l1 := nI a) (l2 := nI b) (l3 := nI c) ob ob ob c1 oa (by rw [s1, ca, v1]; exact nlt z1 (by omega)) oa oa
          rw [s1, s2, ca] at H
          exact ⟨_, H, st, fr⟩
        · have H := p_X10_lets_0_2 (d := d) (σ := σ) (l1 := nI a) (l2 := nI b) (l3 := nI c) ob ob ob c1 oa (by rw [s1, ca, v1]; exact nI_nlt (by omega) (by omega)) oa (by rw [s1, ca, v1]; exact congrArg nI (by omega)) oa (by rw [s2, ca, v2]; exact nlt (by omega) (by omega)) oa oa
          rw [s1, s2, ca] at H
          exact ⟨_, H, st, fr⟩
      · rw [if_neg qa] at v1 v2
        have H := p_X10_lets_0_1 (d := d) (σ := σ) (l1 := nI a) (l2 := nI b) (l3 := nI c) ob ob ob c1 oa (by rw [s1, ca, v1]; exact nlt (by omega) (by decide)) oa oa
        rw [s1, s2, ca] at H
        exact ⟨_, H, st, fr⟩
    · rw [rlx_no z]
      have qa : V a < 1048576 ∨ V a = 1048576 := by omega
      rcases qa with qa | qa
      · rw [if_pos qa] at v1 v2
        have a7 := iv.m7 qa
        by_cases z1 : V b / 16 + c = V a / 16
        · exact ⟨σ, p_X10_lets_0_3 ob ob ob c1 oa (by rw [s1, ca, v1]; exact nI_nlt (by omega) (by omega)) oa (by rw [s1, ca, v1, z1]) oa (by rw [s2, ca, v2]; exact nI_nlt (by omega) (by omega)), hv, Fr.rf σ⟩
        · exact ⟨σ, p_X10_lets_0_4 ob ob ob c1 oa (by rw [s1, ca, v1]; exact nI_nlt (by omega) (by omega)) oa (by rw [s1, ca, v1, nI_eq (by omega) (by omega)]; exact z1), hv, Fr.rf σ⟩
      · exfalso
        have := (iv.2.2 b q).2.2.2
        omega
  · rw [if_neg q] at u1
    have z : ¬ V b + (c * 16 + 1) < V a := by omega
    rw [rlx_no z]
    exact ⟨σ, p_X10_lets_0_5 ob ob ob (by rw [cb, u1]; decide), hv, Fr.rf σ⟩
theorem m_measures (R : Rm 61 A σ) (hy : σ.1 61 49 = y) (hG : mU G σ) (hr : r0 < 8) : ∃ τ, hq_c 235 (d + 7) [.ref 52, .int (nI r0), .int (nI (shut0 A))] σ none τ ∧ mV (vq A y G r0) τ ∧ Fr [(68, 0), (73, 0), (74, 0)] σ τ := by
  have W := R.1
  have b1 := W.1
  have b2 := W.2.1
  obtain ⟨σ1, w1, f1, v1⟩ := hq_w.for (x := 235) (d := d + 7) (i := 2) (fun j => [some (.ref 52), some (.int (nI r0)), some (.int (nI (shut0 A))), some (.int (nI j)), none, none]) (fun j ρ => Fr [(68, 0), (73, 0), (74, 0)] σ ρ ∧ ∀ r, r < j → ρ.1 73 r = (if vi r0 r < 1048576 then nI (vi r0 r / 16) else nI 1000000000) ∧ ρ.1 74 r = (if vi r0 r < 1048576 then nI (vi r0 r % 16) else nI 1000000000)) 8 (fun j hj ρ ⟨fr, hv⟩ => by
    have oj : vp_in (nI j) 8 := vin (by omega) (by decide)
    have cj : (nI j).toNatClampNeg = j := clamp (by omega)
    by_cases q : j = r0
    · refine ⟨hq_sI (hq_sI ρ 73 j (nI 0)) 74 j (nI 0), fun v τ k => p_X10_measures_2_1 (nlt hj (by decide)) (by rw [q]) oj (by rw [q]) oj ?_, (fr.sI rfl).sI rfl, fun r hr2 => ?_⟩
      · rw [cj, nplus]; exact k
      · by_cases z : r = j
        · subst z
          have : vi r0 r = 0 := by unfold vi; rw [if_pos q]
          rw [this]
          exact ⟨by rw [sI_ne (by decide), sI_eq]; rfl, by rw [sI_eq]; rfl⟩
        · rw [sI_ne (by decide), sI_slot z, sI_slot z, sI_ne (by decide)]
          exact hv r (by omega)
    · have nq : ¬ nI j = nI r0 := by rw [nI_eq (by omega) (by omega)]; exact q
      refine ⟨hq_sI (hq_sI ρ 73 j (nI 1000000000)) 74 j (nI 1000000000), fun v τ k => p_X10_measures_2_4 (nlt hj (by decide)) nq oj nq oj ?_, (fr.sI rfl).sI rfl, fun r hr2 => ?_⟩
      · rw [cj, nplus]; exact k
      · by_cases z : r = j
        · subst z
          have : vi r0 r = 1048576 := by unfold vi; rw [if_neg q]
          rw [this]
          exact ⟨by rw [sI_ne (by decide), sI_eq]; rfl, by rw [sI_eq]; rfl⟩
        · rw [sI_ne (by decide), sI_slot z, sI_slot z, sI_ne (by decide)]
          exact hv r (by omega)) (σ := σ) ⟨Fr.rf σ, fun e he => by omega⟩
  obtain ⟨σ2, w2, f2, v2⟩ := hq_w.for (x := 235) (d := d + 7) (i := 29) (fun k => [some (.ref 52), none, some (.int (nI (shut0 A))), some (.int (nI k)), none, none]) (fun k ρ => Fr [(68, 0), (73, 0), (74, 0)] σ ρ ∧ mV (vt A y G r0 k) ρ) 8 (fun k hk ρ ⟨fr, hv⟩ => by
    obtain ⟨ρ2, w3, f3, v3⟩ := hq_w.for (x := 235) (d := d + 7) (i := 34) (fun j => [some (.ref 52), none, some (.int (nI (shut0 A))), some (.int (nI k)), some (.int (nI j)), none]) (fun j ρ => Fr [(68, 0), (73, 0), (74, 0)] σ ρ ∧ mV (trn A y G (vt A y G r0 k) j) ρ) (A 0 0) (fun j hj ρ ⟨fr, hv⟩ => by
      have R1 := Rm.depn.fr fr (by decide) R
      have hG1 := mU.dep.fr fr (by decide) hG
      have hy1 : ρ.1 61 49 = y := (fr.i rfl).trans hy
      have c1 : nI j < ρ.1 52 3 := by rw [R1.2.1]; exact nlt hj (by omega)
      have oj : vp_in (nI j) 8 := vin (by omega) (by decide)
      have cj : (nI j).toNatClampNeg = j := clamp (by omega)
      obtain ⟨u1, u2, u3, -⟩ := W.2.2.1 j hj
      have sl : shut0 A < 2 ^ 31 := by
        have := shut0_lt W
        omega
      have g1 := m_has (d := d + 5) (σ := ρ) (x := nI (shut0 A)) (k := j) (hn_has (n := shut0 A) sl (by omega))
      rw [shut_op W hj] at g1
      have tt : trn A y G (vt A y G r0 k) (j + 1) = if opA A j then rlx (rlx (trn A y G (vt A y G r0 k) j) (A 2 j) (A 3 j) (lnA A y G j)) (A 3 j) (A 2 j) (lnA A y G j) else trn A y G (vt A y G r0 k) j := rfl
      have iv := Iv_trn (y := y) (G := G) W (Iv_vt (y := y) (G := G) W hr k) j (by omega)
      generalize trn A y G (vt A y G r0 k) j = V at hv tt iv
      cases q : opA A j with
      | false =>
        rw [q] at g1
        rw [if_neg (by simp [q])] at tt
        refine ⟨ρ, fun v τ kk => p_X10_measures_34_2 c1 g1 (by decide) ?_, fr, by rw [tt]; exact hv⟩
        rw [nplus]; exact kk
      | true =>
        rw [q] at g1
        rw [if_pos q] at tt
        have ol := onA_lt A (j + 1) b2
        have g2 := m_onDn (d := d + 5) R1 hj
        obtain ⟨ρ3, g3, f3⟩ := m_creakOf (d := d) R1 hy1 hG1 hj ol
        have kl := ck_le (y := y) (G := G) W j
        have hv3 := mV.dep.fr f3 (by decide) hv
        have R3 := Rm.depn.fr f3 (by decide) R1
        obtain ⟨a1, a2, -⟩ := R3.2.2.2.1 j hj
        obtain ⟨ρ4, g4, v4, f4⟩ := m_lets (d := d + 5) (c := ckA A y G j) iv hv3 u1 u2 kl
        have iv2 := Iv_rlx W iv hj q (oth_a A) u1 u3
        obtain ⟨ρ5, g5, v5, f5⟩ := m_lets (d := d + 5) (c := ckA A y G j) iv2 v4 u2 u1 kl
        have R4 := Rm.depn.fr f4 (by decide) R3
        obtain ⟨e1, e2, -⟩ := R4.2.2.2.1 j hj
        refine ⟨ρ5, fun v τ kk => p_X10_measures_34_1 (r1 := bI false) (ρ1 := ρ) (ρ3 := ρ3) (ρ4 := ρ4) c1 g1 rfl g2 g3 oj oj (by rw [cj, a1, a2]; exact g4) oj oj (by rw [cj, e1, e2]; exact g5) ?_, fr.tr ((f3.up (by decide)).tr ((f4.up (by decide)).tr (f5.up (by decide)))), by rw [tt]; exact v5⟩
        rw [nplus]; exact kk) (σ := ρ) ⟨fr, hv⟩
    have R2 := Rm.depn.fr f3 (by decide) R
    refine ⟨ρ2, fun v τ kk => p_X10_measures_29_1 (nlt hk (by decide)) (w3 _ _ (p_X10_measures_34_3 ?_ ?_)), f3, v3⟩
    · rw [R2.2.1]; exact nI_nlt (Nat.le_refl _) (by omega)
    · rw [nplus]; exact kk) (σ := σ1) ⟨f1, fun r hr2 => v1 r hr2⟩
  exact ⟨σ2, p_X10_measures_0_1 (w1 _ _ (p_X10_measures_2_5 (by decide) (w2 _ _ (p_X10_measures_29_2 (by decide))))), v2, f2⟩
theorem m_walk (hr0 : r0 < 8) : ∀ (n r : Nat) (L : List Int64) (σ : hq_St), r < 8 → vq A y G r0 r < 1048576 → vq A y G r0 r % 16 ≤ n → L.length + n ≤ 16 → Rm 61 A σ → σ.1 61 49 = y → mU G σ → mV (vq A y G r0) σ → mR L σ → vq A y G r0 0 < 1048576 → ∃ τ, hq_m 238 (d + 8) (some (.int (nI (vq A y G r0 0 / 16)))) τ 30 [some (.ref 52), some (.int (nI r0)), some (.int (nI (shut0 A))), some (.int (nI r)), none, none, none] [] σ ∧ mR (L ++ qW A y G r0 n r) τ ∧ Fr [(52, 2), (53, 0), (68, 0)] σ τ := by
  have fin : ∀ (σ : hq_St), mV (vq A y G r0) σ → vq A y G r0 0 < 1048576 → hq_m 238 (d + 8) (some (.int (nI (vq A y G r0 0 / 16)))) σ 30 [some (.ref 52), some (.int (nI r0)), some (.int (nI (shut0 A))), some (.int (nI r0)), none, none, none] [] σ := fun σ hv h0 => by
    have H := p_X10_quiet_30_1 (d := d + 7) (σ := σ) (l1 := nI r0) (l2 := nI (shut0 A)) (l3 := nI r0) rfl (vin (by decide) (by decide))
    have e := (hv 0 (by decide)).1
    rw [if_pos h0] at e
    rw [show (nI 0).toNatClampNeg = 0 from rfl, e] at H
    exact H
  intro n
  induction n with
  | zero =>
    intro r L σ hr hf hm hLn R hy hG hv hL h0
    have e := qW_0 R.1 hr0 hf (by omega)
    subst e
    refine ⟨σ, fin σ hv h0, ?_, Fr.rf σ⟩
    show mR (L ++ []) σ
    rw [List.append_nil]; exact hL
  | succ n ih =>
    intro r L σ hr hf hm hLn R hy hG hv hL h0
    by_cases q : r = r0
    · subst q
      refine ⟨σ, fin σ hv h0, ?_, Fr.rf σ⟩
      have : qW A y G r (n + 1) r = [] := by unfold qW; rw [if_pos rfl]
      rw [this, List.append_nil]; exact hL
    · have W := R.1
      have b1 := W.1
      have b2 := W.2.1
      obtain ⟨q1, q2, o, q3, q4, q5, q6⟩ := qD_ok (y := y) (G := G) W hr0 hf q
      have lt := (fsN_le (qp A y G r0 r) (A 0 0)).2
      have iv := Iv_vt (A := A) (y := y) (G := G) W hr0 8
      have cr : (nI r).toNatClampNeg = r := clamp (by omega)
      have or_ : vp_in (nI r) 8 := vin hr (by decide)
      have sl : shut0 A < 2 ^ 31 := by
        have := shut0_lt W
        omega
      -- what is seen of one door
      have see : ∀ j, j < A 0 0 → ∀ ρ, Fr [(68, 0)] σ ρ → ∃ ρ', hq_c 205 (d + 7) [.ref 52, .ref 61, .int (nI j), .int (nI (onA A (j + 1)))] ρ (some (.int (nI (ckA A y G j)))) ρ' ∧ Fr [(68, 0)] ρ ρ' := fun j hj ρ fr => m_creakOf (d := d + 1) (Rm.depn.fr fr (by decide) R) ((fr.i rfl).trans hy) (mU.dep.fr fr (by decide) hG) hj (onA_lt A (j + 1) b2)
      obtain ⟨σ1, w1, f1⟩ := hq_w.for (x := 238) (d := d + 8) (i := 37) (fun j => [some (.ref 52), some (.int (nI r0)), some (.int (nI (shut0 A))), some (.int (nI r)), some (.int (nI j)), some (.int (nI 0)), none]) (fun j ρ => Fr [(68, 0)] σ ρ) (qD A y G r0 r) (fun j hj ρ fr => by
        have hjD : j < A 0 0 := by omega
        have R1 := Rm.depn.fr fr (by decide) R
        have hv1 := mV.dep.fr fr (by decide) hv
        have g1 := m_otherRoom (d := d + 6) R1 hjD hr
        have fl := m_flag (d := d + 6) (σ := ρ) true
        have pj := lt j hj
        obtain ⟨u1, u2, u3, -⟩ := W.2.2.1 j hjD
        have ol : othA A j r ≤ 8 := by unfold othA; split <;> (try split) <;> omega
        by_cases z1 : othA A j r = 0
        · rw [z1] at g1
          refine ⟨ρ, fun v τ k => p_X10_quiet_37_1 rfl g1 (by decide) rfl fl ?_, fr⟩
          show hq_m _ _ _ _ _ [_, _, _, _, some (.int (nI j + nI 1)), _, _] _ _
          rw [nplus]; exact k
        · have es : nI (othA A j r) - nI 1 = nI (othA A j r - 1) := pk_sub (by omega)
          rw [es] at g1
          have n1 : ¬ nI (othA A j r - 1) < 0 := by rw [ltz, nI_toInt (by omega)]; omega
          have co : (nI (othA A j r - 1)).toNatClampNeg = othA A j r - 1 := clamp (by omega)
          have oo : vp_in (nI (othA A j r - 1)) 8 := vin (by omega) (by decide)
          have g2 := m_has (d := d + 6) (σ := ρ) (x := nI (shut0 A)) (k := j) (hn_has (n := shut0 A) sl (by omega))
          rw [shut_op W hjD] at g2
          cases z2 : opA A j with
          | false =>
            rw [z2] at g2
            refine ⟨ρ, fun v τ k => p_X10_quiet_37_9 rfl g1 n1 g2 (by decide) rfl fl ?_, fr⟩
            show hq_m _ _ _ _ _ [_, _, _, _, some (.int (nI j + nI 1)), _, _] _ _
            rw [nplus]; exact k
          | true =>
            rw [z2] at g2
            have z3 : vq A y G r0 (othA A j r - 1) + lnA A y G j ≠ vq A y G r0 r := fun z => by
              unfold qp at pj
              rw [z2] at pj
              simp [z1, z] at pj
            obtain ⟨ρ', g4, f4⟩ := see j hjD ρ fr
            have g3 := m_onDn (d := d + 6) R1 hjD
            have fl' := m_flag (d := d + 6) (σ := ρ') true
            have hv4 := mV.dep.fr f4 (by decide) hv1
            have kl := ck_le (y := y) (G := G) W j
            have ln1 : lnA A y G j = ckA A y G j * 16 + 1 := rfl
            have r7 : vq A y G r0 r % 16 ≤ 7 := iv.m7 hf
            have er1 := (hv4 r hr).1
            have er2 := (hv4 r hr).2
            rw [if_pos hf] at er1 er2
            have eo1 := (hv1 (othA A j r - 1) (by omega)).1
            have eo2 := (hv4 (othA A j r - 1) (by omega)).2
            by_cases q9 : vq A y G r0 (othA A j r - 1) < 1048576
            · rw [if_pos q9] at eo1 eo2
              have o7 : vq A y G r0 (othA A j r - 1) % 16 ≤ 7 := iv.m7 q9
              by_cases z4 : vq A y G r0 (othA A j r - 1) / 16 + ckA A y G j = vq A y G r0 r / 16
              · refine ⟨ρ', fun v τ k => p_X10_quiet_37_5 (r2 := bI false) (ρ2 := ρ) rfl g1 n1 g2 rfl oo g3 g4 or_ ?_ or_ oo ?_ rfl fl' ?_, fr.tr f4⟩
                · rw [co, cr, eo1, er1, nplus, z4]
                · rw [co, cr, eo2, er2, nplus, nI_eq (by omega) (by omega)]; omega
                · show hq_m _ _ _ _ _ [_, _, _, _, some (.int (nI j + nI 1)), _, _] _ _
                  rw [nplus]; exact k
              · refine ⟨ρ', fun v τ k => p_X10_quiet_37_7 (r2 := bI false) (ρ2 := ρ) rfl g1 n1 g2 rfl oo g3 g4 or_ ?_ rfl fl' ?_, fr.tr f4⟩
                · rw [co, cr, eo1, er1, nplus, nI_eq (by omega) (by omega)]; exact z4
                · show hq_m _ _ _ _ _ [_, _, _, _, some (.int (nI j + nI 1)), _, _] _ _
                  rw [nplus]; exact k
            · rw [if_neg q9] at eo1
              refine ⟨ρ', fun v τ k => p_X10_quiet_37_7 (r2 := bI false) (ρ2 := ρ) rfl g1 n1 g2 rfl oo g3 g4 or_ ?_ rfl fl' ?_, fr.tr f4⟩
              · rw [co, cr, eo1, er1, nplus, nI_eq (by omega) (by omega)]; omega
              · show hq_m _ _ _ _ _ [_, _, _, _, some (.int (nI j + nI 1)), _, _] _ _
                rw [nplus]; exact k) (σ := σ) (Fr.rf σ)
      have R1 := Rm.depn.fr f1 (by decide) R
      have hv1 := mV.dep.fr f1 (by decide) hv
      have g1 := m_otherRoom (d := d + 6) R1 q1 hr
      rw [q3, nI_dec1] at g1
      have g2 := m_has (d := d + 6) (σ := σ1) (x := nI (shut0 A)) (k := qD A y G r0 r) (hn_has (n := shut0 A) sl (by omega))
      rw [shut_op W q1, q2] at g2
      obtain ⟨σ2, g4, f4⟩ := see _ q1 σ1 f1
      have g3 := m_onDn (d := d + 6) R1 q1
      have fl' := m_flag (d := d + 6) (σ := σ2) false
      have hv2 := mV.dep.fr f4 (by decide) hv1
      have R2 := Rm.depn.fr f4 (by decide) R1
      have f12 := f1.tr f4
      have ln1 : lnA A y G (qD A y G r0 r) = ckA A y G (qD A y G r0 r) * 16 + 1 := rfl
      have r7 : vq A y G r0 r % 16 ≤ 7 := iv.m7 hf
      have ho : vq A y G r0 o < 1048576 := by omega
      have o7 : vq A y G r0 o % 16 ≤ 7 := iv.m7 ho
      have er1 := (hv2 r hr).1
      have er2 := (hv2 r hr).2
      rw [if_pos hf] at er1 er2
      have eo1 := (hv1 o q4).1
      have eo2 := (hv2 o q4).2
      rw [if_pos ho] at eo1 eo2
      have co : (nI o).toNatClampNeg = o := clamp (by omega)
      obtain ⟨σ3, d1, d2, d3⟩ := m_enters (d := d + 6) (mR.dep.fr f12 (by decide) hL) (by omega) (nI (qD A y G r0 r)).toInt64
      have R3 := Rm.depn.fr d3 (by decide) R2
      have g5 := m_otherRoom (d := d + 6) R3 q1 hr
      rw [q3, nI_dec1] at g5
      have f13 : Fr [(52, 2), (53, 0), (68, 0)] σ σ3 := (f12.up (by decide)).tr (d3.up (by decide))
      obtain ⟨τ, i1, i2, i3⟩ := ih o (L ++ [(nI (qD A y G r0 r)).toInt64]) σ3 q4 ho (by omega) (by simp; omega) R3 ((f13.i rfl).trans hy) (mU.dep.fr f13 (by decide) hG) (mV.dep.fr f13 (by decide) hv) d2 h0
      refine ⟨τ, p_X10_quiet_30_2 (by rw [nI_eq (by omega) (by omega)]; exact q) (w1 _ _ (p_X10_quiet_37_4 (r2 := bI false) (ρ2 := σ1) rfl g1 ?_ g2 rfl (vin q4 (by decide)) g3 g4 or_ ?_ or_ (vin q4 (by decide)) ?_ (by decide) fl' ?_)), ?_, f13.tr i3⟩
      · rw [ltz, nI_toInt (by omega)]; omega
      · rw [co, cr, eo1, er1, nplus]; exact congrArg nI (by omega)
      · rw [co, cr, eo2, er2, nplus]; exact congrArg nI (by omega)
      · show hq_m _ _ _ _ _ [_, _, _, _, some (.int (nI (qD A y G r0 r) + nI 0)), _, _] _ _
        rw [nplus]
        exact p_X10_quiet_37_11 (by decide) d1 g5 i1
      · have : qW A y G r0 (n + 1) r = (nI (qD A y G r0 r)).toInt64 :: qW A y G r0 n o := by
          show (if r = r0 then _ else _) = _
          rw [if_neg q, q3, Nat.add_sub_cancel]
        rw [this]
        rw [List.append_assoc] at i2
        exact i2
theorem m_quiet (R : Rm 61 A σ) (hy : σ.1 61 49 = y) (hG : mU G σ) {L : List Int64} (hL : mR L σ) (x : Int32) : ∃ τ, hq_c 238 (d + 8) [.ref 52, .int x] σ (some (.int (quR A y G x))) τ ∧ mR (quL A y G x L) τ ∧ Fr [(52, 1), (52, 2), (53, 0), (68, 0), (73, 0), (74, 0)] σ τ := by
  have W := R.1
  have f0 : Fr [(52, 1)] σ (hq_sI σ 52 0 (nI 0)) := frth
  have R0 : Rm 61 A (hq_sI σ 52 0 (nI 0)) := Rm.depn.fr f0 (by decide) R
  have g1 := m_isRoom (d := d + 5) (σ := hq_sI σ 52 0 (nI 0)) x
  unfold quR quL
  cases hx : inb x 0 7 with
  | false =>
    rw [hx] at g1
    refine ⟨_, p_X10_quiet_0_1 g1 rfl, ?_, f0.up (by decide)⟩
    rw [if_neg (fun z => by cases z.1)]; exact mR.dep.fr f0 (by decide) hL
  | true =>
    rw [hx] at g1
    obtain ⟨r0, -, hr, rfl⟩ := inb_of hx
    have cr : (nI r0).toNatClampNeg = r0 := clamp (by omega)
    rw [cr, if_pos rfl]
    have g2 := m_shutOfn (d := d + 2) R0
    obtain ⟨σ2, m1, m2, m3⟩ := m_measures (d := d) (r0 := r0) R0 ((f0.i rfl).trans hy) (mU.dep.fr f0 (by decide) hG) (by omega)
    have fr2 : Fr [(52, 1), (52, 2), (53, 0), (68, 0), (73, 0), (74, 0)] σ σ2 := (f0.up (by decide)).tr (m3.up (by decide))
    have R2 := Rm.depn.fr m3 (by decide) R0
    have iv := Iv_vt (A := A) (y := y) (G := G) W (r0 := r0) (by omega) 8
    have i0 : vq A y G r0 0 ≤ 1048576 := iv.2.1 0
    have e0 := (m2 0 (by decide)).1
    by_cases q : vq A y G r0 0 < 1048576
    · rw [if_pos q, if_pos ⟨rfl, q⟩]
      rw [if_pos q] at e0
      have f3 : Fr [(52, 2), (53, 0)] σ2 (hq_sI σ2 52 1 (nI 0)) := (Fr.rf _).sI rfl
      have m7 : vq A y G r0 0 % 16 ≤ 7 := iv.m7 q
      have f23 := fr2.tr (f3.up (G := [(52, 1), (52, 2), (53, 0), (68, 0), (73, 0), (74, 0)]) (by decide))
      obtain ⟨σ4, w1, w2, w3⟩ := m_walk (d := d) (by omega) 7 0 [] (hq_sI σ2 52 1 (nI 0)) (by decide) q m7 (by decide) (Rm.depn.fr f3 (by decide) R2) ((f23.i rfl).trans hy) (mU.dep.fr f23 (by decide) hG) (mV.dep.fr f3 (by decide) m2) mR.nil q
      exact ⟨σ4, p_X10_quiet_0_2 g1 (by decide) g2 m1 (vin (by decide) (by decide)) (by rw [show (nI 0).toNatClampNeg = 0 from rfl, e0]; exact nlt (by omega) (by decide)) w1, w2, f23.tr (w3.up (by decide))⟩
    · rw [if_neg q, if_neg (fun z => q z.2)]
      rw [if_neg q] at e0
      exact ⟨σ2, p_X10_quiet_0_3 g1 (by decide) g2 m1 (vin (by decide) (by decide)) (by rw [show (nI 0).toNatClampNeg = 0 from rfl, e0]; decide), mR.dep.fr m3 (by decide) (mR.dep.fr f0 (by decide) hL), fr2⟩
end QR
