/-! all, most, best, cheap (reference) -/
section HN1
variable {d : Nat} {A : TA} {σ : hq_St}
theorem zL0 : (nI 0).toInt64 = lN 0 := by decide
/-- the first pair of a door that leads on is told -/
theorem m_tellDoor {m e k u l : Nat} {ch : Bool} {L : List Int64} (hm : m < 2 ^ A 0 0) (hk : e + (k + 1) = A 0 0) (hu : u < 2 ^ A 1 0) (hl : isM (Hg A (feeF A ch) (e :: dsF m (e + 1) k) u) l) (its : Nat) (hi : ch = true → its = l) (R : Rm 61 A σ) (P : MP A σ) (M : ML A m σ) (hL : mR L σ) (hLl : L.length < 16) : ∃ b ρ', fsB A (feeF A ch) (dsF m (e + 1) k) e u l b ∧ (∀ v τ, hq_m 249 (d + 12) v τ 4 [some (.ref 52), some (.int (nI m)), some (.int (bI ch)), some (.int (nI (u ||| b))), some (.int (nI (e + 1))), none, none, none, none, none] [] ρ' → hq_m 249 (d + 12) v τ 26 [some (.ref 52), some (.int (nI m)), some (.int (bI ch)), some (.int (nI u)), some (.int (nI e)), some (.int (nI its)), some (.int (nI 1)), some (.int (nI 0)), none, none] [] σ) ∧ mR (L ++ [(nI b).toInt64]) ρ' ∧ ML A m ρ' ∧ Fr [(52, 2), (53, 0), (77, 0)] σ ρ' := by
  have W := R.1
  have b1 := W.1
  have b2 := W.2.1
  have hF := feeF_le W ch
  have p8 : (2 : Nat) ^ A 0 0 ≤ 2 ^ 8 := Nat.pow_le_pow_right (by decide) b1
  have p12 : (2 : Nat) ^ A 1 0 ≤ 2 ^ 12 := Nat.pow_le_pow_right (by decide) b2
  have eD : e < A 0 0 := by omega
  have oe : vp_in (nI e) 8 := vin (by omega) (by decide)
  have ce : (nI e).toNatClampNeg = e := clamp (by omega)
  obtain ⟨q1, q2⟩ := P e eD
  have n66 := prs_len (A := A) (e := e) b2
  have l108 := (Hg_lo b2 hF hl.1).2.1
  have loop : ∀ q k' ρ, k' + q = (prs A e).length → (∀ j b, j < k' → (prs A e)[j]? = some b → ¬ okC2 A (feeF A ch) (dsF m (e + 1) k) u l b) → ML A m ρ → Fr [(77, 0)] σ ρ → ∃ b ρ', fsB A (feeF A ch) (dsF m (e + 1) k) e u l b ∧ (∀ v τ, hq_m 249 (d + 12) v τ 4 [some (.ref 52), some (.int (nI m)), some (.int (bI ch)), some (.int (nI (u ||| b))), some (.int (nI (e + 1))), none, none, none, none, none] [] ρ' → hq_m 249 (d + 12) v τ 26 [some (.ref 52), some (.int (nI m)), some (.int (bI ch)), some (.int (nI u)), some (.int (nI e)), some (.int (nI its)), some (.int (nI 1)), some (.int (nI k')), none, none] [] ρ) ∧ mR (L ++ [(nI b).toInt64]) ρ' ∧ ML A m ρ' ∧ Fr [(52, 2), (53, 0), (77, 0)] σ ρ' := by
    intro q
    induction q with
    | zero =>
      intro k' ρ hk' hdone _ _
      exfalso
      obtain ⟨b, m1, m2, c', m3, m4⟩ := hl.1
      obtain ⟨j, hj, hb'⟩ := List.getElem_of_mem m1
      exact hdone j b (by omega) (by rw [List.getElem?_eq_getElem hj, hb']) ⟨m2, c', m3, m4⟩
    | succ q ihq =>
      intro k' ρ hk' hdone hM fr
      have c1 : nI k' < ρ.1 76 (nI e).toNatClampNeg := by rw [ce, fr.i rfl, q1]; exact nlt (by omega) (by omega)
      have jx : nI 66 * nI e + nI k' = nI (66 * e + k') := by rw [nmul, nplus]
      have cj : (nI (66 * e + k')).toNatClampNeg = 66 * e + k' := clamp (by omega)
      have oj : vp_in (nI 66 * nI e + nI k') 528 := by rw [jx]; exact vin (by omega) (by decide)
      obtain ⟨b, hbk⟩ : ∃ b, (prs A e)[k']? = some b := ⟨_, List.getElem?_eq_getElem (by omega)⟩
      obtain ⟨m1, m2⟩ := prs_mem.mp (mem_get hbk)
      have z75 : ρ.1 75 (nI 66 * nI e + nI k').toNatClampNeg = nI b := by rw [jx, cj, fr.i rfl]; exact q2 k' b hbk
      have hbu : nI b &&& nI u = 0 ↔ b &&& u = 0 := by
        rw [fa_and]
        have lb : b &&& u ≤ u := Nat.and_le_right
        constructor
        · intro h
          apply Classical.byContradiction
          intro n
          exact nI_ne0 (by omega) (by omega) h
        · intro h; rw [h]; rfl
      have more : ¬ okC2 A (feeF A ch) (dsF m (e + 1) k) u l b → ∀ j b', j < k' + 1 → (prs A e)[j]? = some b' → ¬ okC2 A (feeF A ch) (dsF m (e + 1) k) u l b' := fun hn j b' hj hb' => by
        by_cases zz : j = k'
        · subst zz
          rw [hbk] at hb'
          cases hb'
          exact hn
        · exact hdone j b' (by omega) hb'
      have fst : okC2 A (feeF A ch) (dsF m (e + 1) k) u l b → fsB A (feeF A ch) (dsF m (e + 1) k) e u l b := fun ok => ⟨mem_get hbk, ok, fun b2 hb2 lt => by
        obtain ⟨k2, hk2, hb2'⟩ := List.getElem_of_mem hb2
        have gk2 : (prs A e)[k2]? = some b2 := by rw [List.getElem?_eq_getElem hk2, hb2']
        refine hdone k2 b2 ?_ gk2
        rcases Nat.lt_trichotomy k2 k' with y | y | y
        · exact y
        · subst y
          rw [hbk] at gk2
          cases gk2
          omega
        · have := prL_sort _ y hbk gk2
          omega⟩
      by_cases d1 : b &&& u = 0
      · have c3 : ρ.1 75 (nI 66 * nI e + nI k').toNatClampNeg &&& nI u = 0 := by rw [z75]; exact hbu.mpr d1
        have Rρ := Rm.depn.fr fr (by decide) R
        obtain ⟨ρ1, v1, g1, g2, g3, g4, g5⟩ := m_lf (d := d) (m := m) (e := e + 1) (u := u ||| b) hm (by omega) (Nat.or_lt_two_pow hu m1) Rρ (MP.dep.fr fr (by decide) P) hM
        rw [show A 0 0 - (e + 1) = k by omega] at g2
        have g3' : v1 ≤ 1000000000 := g3
        have fr1 := fr.tr g5
        -- behind the found pair
        have found : ∀ ρ2, hq_c 171 (d + 11) [.ref 52, .long (nI b).toInt64] ρ1 none ρ2 → mR (L ++ [(nI b).toInt64]) ρ2 → Fr [(52, 2), (53, 0)] ρ1 ρ2 → (∀ v τ, hq_m 249 (d + 12) v τ 26 [some (.ref 52), some (.int (nI m)), some (.int (bI ch)), some (.int (nI (u ||| b))), some (.int (nI e)), some (.int (nI its)), some (.int (nI 0)), some (.int (nI (k' + 1))), none, none] [] ρ2 → hq_m 249 (d + 12) v τ 26 [some (.ref 52), some (.int (nI m)), some (.int (bI ch)), some (.int (nI u)), some (.int (nI e)), some (.int (nI its)), some (.int (nI 1)), some (.int (nI k')), none, none] [] ρ) → okC2 A (feeF A ch) (dsF m (e + 1) k) u l b → ∃ b ρ', fsB A (feeF A ch) (dsF m (e + 1) k) e u l b ∧ (∀ v τ, hq_m 249 (d + 12) v τ 4 [some (.ref 52), some (.int (nI m)), some (.int (bI ch)), some (.int (nI (u ||| b))), some (.int (nI (e + 1))), none, none, none, none, none] [] ρ' → hq_m 249 (d + 12) v τ 26 [some (.ref 52), some (.int (nI m)), some (.int (bI ch)), some (.int (nI u)), some (.int (nI e)), some (.int (nI its)), some (.int (nI 1)), some (.int (nI k')), none, none] [] ρ) ∧ mR (L ++ [(nI b).toInt64]) ρ' ∧ ML A m ρ' ∧ Fr [(52, 2), (53, 0), (77, 0)] σ ρ' := fun ρ2 _ r2 f2 w ok => by
          have x76 : ρ2.1 76 (nI e).toNatClampNeg = nI (prs A e).length := by rw [ce, f2.i rfl, fr1.i rfl]; exact q1
          refine ⟨b, ρ2, fst ok, fun v τ kk => w v τ ?_, r2, ML.dep.fr f2 (by decide) g4, (fr1.up (by decide)).tr (f2.up (by decide))⟩
          by_cases zz : k' + 1 < (prs A e).length
          · exact p_X10_tellsHanging_26_1 oe (by rw [x76]; exact nlt zz (by omega)) rfl (by rw [nplus]; exact kk)
          · exact p_X10_tellsHanging_26_12 oe (by rw [x76]; exact nI_nlt (by omega) (by omega)) (by rw [nplus]; exact kk)
        obtain ⟨ρ2, e1, e2, e3⟩ := m_enters (d := d + 10) (mR.dep.fr fr1 (by decide) hL) hLl (nI b).toInt64
        have a1 : nI e + nI 1 = nI (e + 1) := nplus _ _
        have call : hq_c 247 (d + 11) [.ref 52, .int (nI e + nI 1), .int (nI m), .int (nI u ||| ρ.1 75 (nI 66 * nI e + nI k').toNatClampNeg)] ρ (some (.int (nI v1))) ρ1 := by rw [z75, orr, a1]; exact g1
        have ent : hq_c 171 (d + 11) [.ref 52, .long (ρ.1 75 (nI 66 * nI e + nI k').toNatClampNeg).toInt64] ρ1 none ρ2 := by rw [z75]; exact e1
        cases ch with
        | false =>
          rcases costM W g2 with ⟨a, nb⟩ | ⟨a, yb⟩
          · obtain ⟨b', ρ', w1, w2, w3⟩ := ihq (k' + 1) ρ1 (by omega) (more (fun ⟨_, c', hc, _⟩ => by
              obtain ⟨c2, hc2⟩ := Hg_any (G := A 8) hc
              exact nb c2 hc2)) g4 fr1
            exact ⟨b', ρ', w1, fun v τ kk => p_X10_tellsHanging_26_3 oe c1 (by decide) oj c3 call rfl (by rw [a]; decide) (by rw [nplus]; exact w2 v τ kk), w3⟩
          · refine found ρ2 e1 e2 e3 (fun v τ kk => p_X10_tellsHanging_26_2 oe c1 (by decide) oj c3 call rfl (nlt (by omega) (by decide)) ent ?_) ⟨d1, ?_⟩
            · rw [z75, orr, nplus]; exact kk
            · obtain ⟨c', hc'⟩ := Hg_any (G := zF) yb.1
              have z1 : l = 0 := Hg_zero hl.1
              have z2 : c' = 0 := Hg_zero hc'
              refine ⟨c', hc', ?_⟩
              show l = sset b (fun _ => 0) (A 1 0) + c'
              rw [sset_zero, z1, z2]
        | true =>
          have hF8 := W8 W
          have pl : sset b (A 8) (A 1 0) ≤ 108 := by have := sset_le (n := b) hF8; omega
          have il := hi rfl
          rcases costM W g2 with ⟨a, nb⟩ | ⟨a, yb⟩
          · obtain ⟨b', ρ', w1, w2, w3⟩ := ihq (k' + 1) ρ1 (by omega) (more (fun ⟨_, c', hc, _⟩ => nb c' hc)) g4 fr1
            exact ⟨b', ρ', w1, fun v τ kk => p_X10_tellsHanging_26_6 oe c1 (by decide) oj c3 call (by decide) (by rw [a]; decide) (by rw [nplus]; exact w2 v τ kk), w3⟩
          · have gr := m_rentOf (d := d + 9) (Rm.depn.fr fr1 (by decide) R) (n := b) (by omega)
            have gr' : hq_c 240 (d + 11) [.ref 52, .int (ρ.1 75 (nI 66 * nI e + nI k').toNatClampNeg)] ρ1 (some (.int (nI (sset b (A 8) (A 1 0))))) ρ1 := by rw [z75]; exact gr
            by_cases z : sset b (A 8) (A 1 0) + v1 = l
            · refine found ρ2 e1 e2 e3 (fun v τ kk => p_X10_tellsHanging_26_4 oe c1 (by decide) oj c3 call (by decide) (nlt (by omega) (by decide)) gr' (by rw [nplus, z, il]) ent ?_) ⟨d1, v1, yb.1, z.symm⟩
              rw [z75, orr, nplus]; exact kk
            · obtain ⟨b', ρ', w1, w2, w3⟩ := ihq (k' + 1) ρ1 (by omega) (more (fun ⟨_, c', hc, hcl⟩ => by
                have h1 := yb.2 c' hc
                have h2 := hl.2 (sset b (A 8) (A 1 0) + v1) ⟨b, mem_get hbk, d1, v1, yb.1, rfl⟩
                have hcl : l = sset b (A 8) (A 1 0) + c' := hcl
                omega)) g4 fr1
              exact ⟨b', ρ', w1, fun v τ kk => p_X10_tellsHanging_26_5 oe c1 (by decide) oj c3 call (by decide) (nlt (by omega) (by decide)) gr' (by rw [nplus, il, nI_eq (by omega) (by omega)]; exact z) (by rw [nplus]; exact w2 v τ kk), w3⟩
      · have c3 : ¬ ρ.1 75 (nI 66 * nI e + nI k').toNatClampNeg &&& nI u = 0 := by rw [z75]; exact fun h => d1 (hbu.mp h)
        obtain ⟨b', ρ', w1, w2, w3⟩ := ihq (k' + 1) ρ (by omega) (more (fun h => d1 h.1)) hM fr
        refine ⟨b', ρ', w1, fun v τ kk => ?_, w3⟩
        cases ch with
        | false => exact p_X10_tellsHanging_26_8 oe c1 (by decide) oj c3 rfl (by decide) (by rw [nplus]; exact w2 v τ kk)
        | true => exact p_X10_tellsHanging_26_11 oe c1 (by decide) oj c3 (by decide) (by decide) (by rw [nplus]; exact w2 v τ kk)
  exact loop (prs A e).length 0 σ (by omega) (fun j b hj => by omega) M (Fr.rf σ)
theorem m_tellsL {m : Nat} {ch : Bool} (hm : m < 2 ^ A 0 0) : ∀ k e u l L σ, e + k = A 0 0 → u < 2 ^ A 1 0 → isM (Hg A (feeF A ch) (dsF m e k) u) l → Rm 61 A σ → MP A σ → ML A m σ → mR L σ → L.length + k ≤ 16 → ∃ Q τ, hq_m 249 (d + 12) none τ 4 [some (.ref 52), some (.int (nI m)), some (.int (bI ch)), some (.int (nI u)), some (.int (nI e)), none, none, none, none, none] [] σ ∧ CH A (feeF A ch) m k e u l Q ∧ mR (L ++ qL Q) τ ∧ Fr [(52, 2), (53, 0), (77, 0)] σ τ := by
  intro k
  induction k with
  | zero =>
    intro e u l L σ he hu hl R P M hL hLl
    have b1 := R.1.1
    refine ⟨[], σ, p_X10_tellsHanging_4_3 (by rw [R.2.1]; exact nI_nlt (by omega) (by omega)), rfl, ?_, Fr.rf σ⟩
    show mR (L ++ []) σ
    rw [List.append_nil]; exact hL
  | succ k ih =>
    intro e u l L σ he hu hl R P M hL hLl
    have W := R.1
    have b1 := W.1
    have p8 : (2 : Nat) ^ A 0 0 ≤ 2 ^ 8 := Nat.pow_le_pow_right (by decide) b1
    have c1 : nI e < σ.1 52 3 := by rw [R.2.1]; exact nlt (by omega) (by omega)
    have gh := m_hasN (d := d + 10) (σ := σ) (n := m) (k := e) (by omega) (by omega)
    have e1 : dsF m e (k + 1) = if m.testBit e then e :: dsF m (e + 1) k else dsF m (e + 1) k := rfl
    unfold CH
    cases hb : m.testBit e with
    | false =>
      rw [hb] at gh
      rw [e1, hb, if_neg (by decide)] at hl
      obtain ⟨ρ, a1, a2, a3⟩ := m_enters (d := d + 10) hL (by omega) (lN 0)
      obtain ⟨Q, τ, w1, w2, w3, w4⟩ := ih (e + 1) u l (L ++ [lN 0]) ρ (by omega) hu hl (Rm.depn.fr a3 (by decide) R) (MP.dep.fr a3 (by decide) P) (ML.dep.fr a3 (by decide) M) a2 (by simp; omega)
      refine ⟨0 :: Q, τ, p_X10_tellsHanging_4_1 c1 gh rfl a1 (by rw [nplus]; exact w1), by rw [if_neg (by decide)]; exact ⟨Q, rfl, w2⟩, ?_, (a3.up (by decide)).tr w4⟩
      have : L ++ qL (0 :: Q) = L ++ [lN 0] ++ qL Q := by
        show L ++ ((nI 0).toInt64 :: qL Q) = _
        rw [zL0, List.append_assoc]; rfl
      rw [this]; exact w3
    | true =>
      rw [hb] at gh
      rw [e1, hb, if_pos rfl] at hl
      obtain ⟨ρ, v0, g1, g2, g3, g4, g5⟩ := m_lf (d := d) (m := m) (e := e) (u := u) hm (by omega) hu R P M
      rw [show A 0 0 - e = k + 1 by omega, e1, hb, if_pos rfl] at g2
      obtain ⟨b, ρ', t1, t2, t3, t4, t5⟩ := m_tellDoor (d := d) (m := m) (ch := ch) (its := v0) hm he hu hl (fun hc => by
        rcases costM W g2 with ⟨_, nb⟩ | ⟨_, yb⟩
        · subst hc
          exact absurd hl.1 (nb l)
        · subst hc
          exact isM_uq yb hl) (Rm.depn.fr g5 (by decide) R) (MP.dep.fr g5 (by decide) P) g4 (mR.dep.fr g5 (by decide) hL) (by omega)
      obtain ⟨l', hl', hle⟩ := t1.2.1.2
      obtain ⟨m1, m2⟩ := prs_mem.mp t1.1
      have F2 := g5.up (G := [(52, 2), (53, 0), (77, 0)]) (by decide)
      obtain ⟨Q, τ, w1, w2, w3, w4⟩ := ih (e + 1) (u ||| b) l' (L ++ [(nI b).toInt64]) ρ' (by omega) (Nat.or_lt_two_pow hu m1) (isM_Hg hl t1.1 t1.2.1.1 hle hl') (Rm.depn.fr (F2.tr t5) (by decide) R) (MP.dep.fr (F2.tr t5) (by decide) P) t4 t3 (by simp; omega)
      refine ⟨b :: Q, τ, p_X10_tellsHanging_4_2 c1 gh (by decide) g1 (t2 _ _ w1), by rw [if_pos rfl]; exact ⟨b, Q, rfl, t1, l', hle, w2⟩, ?_, (F2.tr t5).tr w4⟩
      have : L ++ qL (b :: Q) = L ++ [(nI b).toInt64] ++ qL Q := by
        show L ++ ((nI b).toInt64 :: qL Q) = _
        rw [List.append_assoc]; rfl
      rw [this]; exact w3
theorem m_tells {m l : Nat} {ch : Bool} {L : List Int64} (hm : m < 2 ^ A 0 0) (hl : isM (Hg A (feeF A ch) (ds m (A 0 0)) 0) l) (R : Rm 61 A σ) (P : MP A σ) (M : ML A m σ) (hL : mR L σ) (hLl : L.length ≤ 8) : ∃ τ, hq_c 249 (d + 12) [.ref 52, .int (nI m), .int (bI ch)] σ none τ ∧ mR (L ++ qL (chQ A (feeF A ch) m)) τ ∧ Fr [(52, 2), (53, 0), (77, 0)] σ τ := by
  have b1 := R.1.1
  obtain ⟨Q, τ, w1, w2, w3, w4⟩ := m_tellsL (d := d) (ch := ch) hm (A 0 0) 0 0 l L σ (by omega) (Nat.two_pow_pos _) hl R P M hL (by omega)
  rw [chQ_eq hl w2] at w3
  exact ⟨τ, p_X10_tellsHanging_0_1 w1, w3, w4⟩
def fMh : List (Nat × Nat) := [(52, 1), (52, 2), (53, 0), (75, 0), (76, 0), (77, 0)]
theorem Rm.th (R : Rm 61 A σ) {v : Int32} : Rm 61 A (hq_sI σ 52 0 v) := Rm.depn.fr frth (by decide) R
theorem m_all {L : List Int64} (R : Rm 61 A σ) (hL : mR L σ) (x : Int32) : ∃ τ, hq_c 251 (d + 14) [.ref 52, .int x] σ (some (.int (allR A x))) τ ∧ mR (allL A x L) τ ∧ Fr fMh σ τ := by
  have W := R.1
  have b1 := W.1
  have b2 := W.2.1
  have p8 : (2 : Nat) ^ A 0 0 ≤ 2 ^ 8 := Nat.pow_le_pow_right (by decide) b1
  have p0 : 1 ≤ (2 : Nat) ^ A 0 0 := Nat.two_pow_pos _
  have f0 : Fr fMh σ (hq_sI σ 52 0 (nI 0)) := (Fr.rf σ).sI rfl
  have R0 : Rm 61 A (hq_sI σ 52 0 (nI 0)) := R.th
  have L0 : mR L (hq_sI σ 52 0 (nI 0)) := hL.th
  have e3 : (nI 1 <<< ((hq_sI σ 52 0 (nI 0)).1 52 3 &&& 31)) - nI 1 = nI (2 ^ A 0 0 - 1) := by rw [R0.2.1, hn_shl _ (by omega), pk_sub p0]
  have g0 := m_inn (d := d + 12) (σ := hq_sI σ 52 0 (nI 0)) x (b := 2 ^ A 0 0 - 1) (by omega)
  have ei : inb x 0 (2 ^ A 0 0 - 1) = inr x (2 ^ A 0 0) := by
    unfold inb inr
    congr 1
    apply propext
    omega
  rw [ei, ← e3] at g0
  unfold allR allL
  cases c : inr x (2 ^ A 0 0) with
  | false =>
    rw [c] at g0
    exact ⟨_, p_X10_all_0_1 g0 rfl, L0, f0⟩
  | true =>
    rw [c] at g0
    obtain ⟨m, hm, rfl⟩ := inr_of c
    rw [Bool.true_and, tn (by omega)]
    obtain ⟨ρ1, g1, P1, f1⟩ := m_laysPairs (d := d + 9) R0
    have R1 := Rm.depn.fr f1 (by decide) R0
    obtain ⟨ρ2, g2, M2, f2⟩ := m_canShut (d := d) hm R1 P1
    have F2 : Fr fMh σ ρ2 := f0.tr ((f1.up (by decide)).tr (f2.up (by decide)))
    by_cases z : fea A m
    · rw [cb_t.mpr z] at g2 ⊢
      rw [if_pos rfl, if_pos rfl]
      have f3 : Fr [(52, 2), (53, 0)] ρ2 (hq_sI ρ2 52 1 (nI 0)) := (Fr.rf ρ2).sI rfl
      obtain ⟨ρ4, t1, t2, t3⟩ := m_tells (d := d + 1) (ch := false) (l := 0) hm (fea_M z) (Rm.depn.fr f3 (by decide) (Rm.depn.fr f2 (by decide) R1)) (MP.dep.fr f3 (by decide) (MP.dep.fr f2 (by decide) P1)) (ML.dep.fr f3 (by decide) (M2 z)) (mR.nil (σ := ρ2)) (by decide)
      have gb := s_bitCount (d := d + 12) (σ := ρ4) (n := m) (by omega)
      have F4 := F2.tr ((f3.up (G := fMh) (by decide)).tr (t3.up (by decide)))
      have P := p_X10_all_0_3 g0 (by decide) g1 g2 (by decide) t1 gb
      rw [F4.i rfl, R.2.2.1, nmul] at P
      exact ⟨ρ4, P, t2, F4⟩
    · rw [cb_f.mpr z] at g2 ⊢
      exact ⟨ρ2, p_X10_all_0_2 g0 (by decide) g1 g2 rfl, mR.dep.fr f2 (by decide) (mR.dep.fr f1 (by decide) L0), F2⟩
theorem m_most (R : Rm 61 A σ) : ∃ τ, hq_c 252 (d + 14) [.ref 52] σ (some (.int (nI (pop (mstB A))))) τ ∧ mR [(nI (mstB A)).toInt64] τ ∧ Fr fMh σ τ := by
  have W := R.1
  have b1 := W.1
  have p8 : (2 : Nat) ^ A 0 0 ≤ 2 ^ 8 := Nat.pow_le_pow_right (by decide) b1
  have p0 : 1 ≤ (2 : Nat) ^ A 0 0 := Nat.two_pow_pos _
  have f0 : Fr fMh σ (hq_sI σ 52 0 (nI 0)) := (Fr.rf σ).sI rfl
  have R0 : Rm 61 A (hq_sI σ 52 0 (nI 0)) := R.th
  obtain ⟨ρ1, g1, P1, f1⟩ := m_laysPairs (d := d + 9) R0
  have R1 := Rm.depn.fr f1 (by decide) R0
  have m1 : moB A 1 = 0 := by
    rw [moB_s, if_neg]; rfl
    intro z
    rw [Bool.and_eq_true] at z
    have : moB A 0 = 0 := rfl
    rw [this] at z
    simpa using z.1
  obtain ⟨ρ2, w, fr⟩ := hq_w.for (x := 252) (d := d + 14) (i := 9) (fun j => [some (.ref 52), some (.int (nI (moB A (j + 1)))), some (.int (nI (j + 1)))]) (fun _ ρ => Fr [(77, 0)] ρ1 ρ) (2 ^ A 0 0 - 1) (fun j hj ρ fr => by
    have Rρ := Rm.depn.fr fr (by decide) R1
    have c1 : nI (j + 1) < nI 1 <<< (ρ.1 52 3 &&& 31) := by rw [Rρ.2.1, hn_shl _ (by omega)]; exact nlt (by omega) (by omega)
    have ml := moB_lt (A := A) (j + 1)
    have gb := s_bitCount (d := d + 12) (σ := ρ) (n := j + 1) (by omega)
    have gb2 := s_bitCount (d := d + 12) (σ := ρ) (n := moB A (j + 1)) (by omega)
    have pl1 := pop_le (j + 1)
    have pl2 := pop_le (moB A (j + 1))
    rw [moB_s (k := j + 1)]
    by_cases z : pop (moB A (j + 1)) < pop (j + 1)
    · obtain ⟨ρ', g2, _, f2⟩ := m_canShut (d := d) (m := j + 1) (by omega) Rρ (MP.dep.fr fr (by decide) P1)
      rw [decide_eq_true z, Bool.true_and]
      cases hf : cb (fea A (j + 1)) with
      | false =>
        rw [hf] at g2
        exact ⟨ρ', fun v τ k => p_X10_most_9_1 c1 gb gb2 (nlt z (by omega)) g2 rfl (by rw [nplus]; exact k), fr.tr f2⟩
      | true =>
        rw [hf] at g2
        exact ⟨ρ', fun v τ k => p_X10_most_9_2 c1 gb gb2 (nlt z (by omega)) g2 (by decide) (by rw [nplus]; exact k), fr.tr f2⟩
    · rw [decide_eq_false z, Bool.false_and]
      exact ⟨ρ, fun v τ k => p_X10_most_9_3 c1 gb gb2 (nI_nlt (by omega) (by omega)) (by rw [nplus]; exact k), fr⟩) (σ := ρ1) (Fr.rf ρ1)
  rw [show 2 ^ A 0 0 - 1 + 1 = 2 ^ A 0 0 by omega] at w
  have R2 := Rm.depn.fr fr (by decide) R1
  have f3 : Fr [(52, 2), (53, 0)] ρ2 (hq_sI ρ2 52 1 (nI 0)) := (Fr.rf ρ2).sI rfl
  obtain ⟨ρ4, a1, a2, a3⟩ := m_enters (d := d + 12) (mR.nil (σ := ρ2)) (by decide) (nI (mstB A)).toInt64
  have ml : mstB A < 256 := by
    have := moB_lt (A := A) (2 ^ A 0 0)
    unfold mstB
    omega
  have gb := s_bitCount (d := d + 12) (σ := ρ4) (n := mstB A) (by omega)
  have w := w _ _ (p_X10_most_9_4 (by rw [R2.2.1, hn_shl _ (by omega)]; exact nI_nlt (Nat.le_refl _) (by omega)) a1 gb)
  rw [show (0 : Nat) + 1 = 1 from rfl, m1] at w
  exact ⟨ρ4, p_X10_most_0_1 g1 w, a2, f0.tr ((f1.up (by decide)).tr ((fr.up (by decide)).tr ((f3.up (by decide)).tr (a3.up (by decide)))))⟩
theorem m_best (R : Rm 61 A σ) : ∃ τ, hq_c 253 (d + 14) [.ref 52] σ (some (.int (nI (keptA A (bst2 A))))) τ ∧ mR (bstL A) τ ∧ Fr fMh σ τ := by
  have W := R.1
  have b1 := W.1
  have p8 : (2 : Nat) ^ A 0 0 ≤ 2 ^ 8 := Nat.pow_le_pow_right (by decide) b1
  have p0 : 1 ≤ (2 : Nat) ^ A 0 0 := Nat.two_pow_pos _
  have f0 : Fr fMh σ (hq_sI σ 52 0 (nI 0)) := (Fr.rf σ).sI rfl
  have R0 : Rm 61 A (hq_sI σ 52 0 (nI 0)) := R.th
  obtain ⟨ρ1, g1, P1, f1⟩ := m_laysPairs (d := d + 9) R0
  have R1 := Rm.depn.fr f1 (by decide) R0
  have bs_s : ∀ k, bsB A (k + 1) = if (decide (keptA A (bsB A k) < keptA A k) || (decide (keptA A k = keptA A (bsB A k)) && decide (pop k < pop (bsB A k)))) && cb (fea A k) then k else bsB A k := fun k => rfl
  have m1 : bsB A 1 = 0 := by
    rw [bs_s, if_neg]; rfl
    intro z
    rw [Bool.and_eq_true] at z
    have : bsB A 0 = 0 := rfl
    rw [this] at z
    simpa using z.1
  obtain ⟨ρ2, w, fr⟩ := hq_w.for (x := 253) (d := d + 14) (i := 9) (fun j => [some (.ref 52), some (.int (nI (bsB A (j + 1)))), some (.int (nI (j + 1))), none, none, none]) (fun _ ρ => Fr [(77, 0)] ρ1 ρ) (2 ^ A 0 0 - 1) (fun j hj ρ fr => by
    have Rρ := Rm.depn.fr fr (by decide) R1
    have c1 : nI (j + 1) < nI 1 <<< (ρ.1 52 3 &&& 31) := by rw [Rρ.2.1, hn_shl _ (by omega)]; exact nlt (by omega) (by omega)
    have ml := (bsB_ok (A := A) (j + 1)).1
    have gk := m_keptByn (d := d + 10) (s := j + 1) Rρ (by omega)
    have gk2 := m_keptByn (d := d + 10) (s := bsB A (j + 1)) Rρ (by omega)
    have gb := s_bitCount (d := d + 12) (σ := ρ) (n := j + 1) (by omega)
    have gb2 := s_bitCount (d := d + 12) (σ := ρ) (n := bsB A (j + 1)) (by omega)
    have pl1 := pop_le (j + 1)
    have pl2 := pop_le (bsB A (j + 1))
    have kl1 := keptA_le W (j + 1)
    have kl2 := keptA_le W (bsB A (j + 1))
    obtain ⟨ρ', g2, _, f2⟩ := m_canShut (d := d) (m := j + 1) (by omega) Rρ (MP.dep.fr fr (by decide) P1)
    rw [bs_s (j + 1)]
    by_cases z : keptA A (bsB A (j + 1)) < keptA A (j + 1)
    · rw [decide_eq_true z, Bool.true_or, Bool.true_and]
      cases hf : cb (fea A (j + 1)) with
      | false =>
        rw [hf] at g2
        exact ⟨ρ', fun v τ k => p_X10_best_9_2 c1 gk gk2 (nlt z (by omega)) (by decide) g2 rfl (by rw [nplus]; exact k), fr.tr f2⟩
      | true =>
        rw [hf] at g2
        exact ⟨ρ', fun v τ k => p_X10_best_9_3 c1 gk gk2 (nlt z (by omega)) (by decide) g2 (by decide) (by rw [nplus]; exact k), fr.tr f2⟩
    · rw [decide_eq_false z, Bool.false_or]
      have cz : ¬ nI (keptA A (bsB A (j + 1))) < nI (keptA A (j + 1)) := nI_nlt (by omega) (by omega)
      by_cases z2 : keptA A (j + 1) = keptA A (bsB A (j + 1))
      · rw [decide_eq_true z2, Bool.true_and]
        have cz2 : nI (keptA A (j + 1)) = nI (keptA A (bsB A (j + 1))) := by rw [z2]
        by_cases z3 : pop (j + 1) < pop (bsB A (j + 1))
        · rw [decide_eq_true z3, Bool.true_and]
          cases hf : cb (fea A (j + 1)) with
          | false =>
            rw [hf] at g2
            exact ⟨ρ', fun v τ k => p_X10_best_9_5 c1 gk gk2 cz cz2 gb gb2 (nlt z3 (by omega)) (by decide) g2 rfl (by rw [nplus]; exact k), fr.tr f2⟩
          | true =>
            rw [hf] at g2
            exact ⟨ρ', fun v τ k => p_X10_best_9_6 c1 gk gk2 cz cz2 gb gb2 (nlt z3 (by omega)) (by decide) g2 (by decide) (by rw [nplus]; exact k), fr.tr f2⟩
        · rw [decide_eq_false z3, Bool.false_and]
          exact ⟨ρ, fun v τ k => p_X10_best_9_7 c1 gk gk2 cz cz2 gb gb2 (nI_nlt (by omega) (by omega)) rfl (by rw [nplus]; exact k), fr⟩
      · rw [decide_eq_false z2, Bool.false_and, Bool.false_and]
        exact ⟨ρ, fun v τ k => p_X10_best_9_10 c1 gk gk2 cz (by rw [nI_eq (by omega) (by omega)]; exact z2) rfl (by rw [nplus]; exact k), fr⟩) (σ := ρ1) (Fr.rf ρ1)
  rw [show 2 ^ A 0 0 - 1 + 1 = 2 ^ A 0 0 by omega] at w
  have R2 := Rm.depn.fr fr (by decide) R1
  obtain ⟨bl, bf, _⟩ := bst2_ok A
  obtain ⟨ρ3, v, g3, g4, g5, g6, g7⟩ := m_leastFor (d := d + 1) (m := bst2 A) bl R2 (MP.dep.fr fr (by decide) P1)
  have R3 := Rm.depn.fr g7 (by decide) R2
  have f4 : Fr [(52, 2), (53, 0)] ρ3 (hq_sI ρ3 52 1 (nI 0)) := (Fr.rf ρ3).sI rfl
  obtain ⟨ρ5, a1, a2, a3⟩ := m_enters (d := d + 12) (mR.nil (σ := ρ3)) (by decide) (nI (bst2 A)).toInt64
  have F5 : Fr [(52, 2), (53, 0)] ρ3 ρ5 := f4.tr a3
  obtain ⟨ρ6, t1, t2, t3⟩ := m_tells (d := d + 1) (ch := false) (l := 0) bl (fea_M bf) (Rm.depn.fr F5 (by decide) R3) (MP.dep.fr F5 (by decide) (MP.dep.fr g7 (by decide) (MP.dep.fr fr (by decide) P1))) (ML.dep.fr F5 (by decide) g6) a2 (by simp)
  have gs := m_keptByn (d := d + 10) (s := bst2 A) (Rm.depn.fr t3 (by decide) (Rm.depn.fr F5 (by decide) R3)) (by omega)
  have w := w _ _ (p_X10_best_9_13 (by rw [R2.2.1, hn_shl _ (by omega)]; exact nI_nlt (Nat.le_refl _) (by omega)) g3 a1 t1 gs)
  rw [show (0 : Nat) + 1 = 1 from rfl, m1] at w
  exact ⟨ρ6, p_X10_best_0_1 g1 w, t2, f0.tr ((f1.up (by decide)).tr ((fr.up (by decide)).tr ((g7.up (by decide)).tr ((F5.up (by decide)).tr (t3.up (by decide))))))⟩
def cM (A : TA) (v k : Nat) (o : Option Nat) (l : Nat) : Prop := match o with
  | none => l = FARn ∧ ∀ c l', c < k → ¬ gdC A (A 8) v c l'
  | some b => b < k ∧ gdC A (A 8) v b l ∧ ∀ c l', c < k → gdC A (A 8) v c l' → l < l' ∨ (l = l' ∧ b ≤ c)
theorem m_cheap {L : List Int64} (R : Rm 61 A σ) (hL : mR L σ) (x : Int32) : ∃ τ, hq_c 254 (d + 14) [.ref 52, .int x] σ (some (.int (cheR A x))) τ ∧ mR (cheL A x L) τ ∧ Fr fMh σ τ := by
  have W := R.1
  have b1 := W.1
  have b2 := W.2.1
  have p8 : (2 : Nat) ^ A 0 0 ≤ 2 ^ 8 := Nat.pow_le_pow_right (by decide) b1
  have f0 : Fr fMh σ (hq_sI σ 52 0 (nI 0)) := (Fr.rf σ).sI rfl
  have R0 : Rm 61 A (hq_sI σ 52 0 (nI 0)) := R.th
  have L0 : mR L (hq_sI σ 52 0 (nI 0)) := hL.th
  have g0 := m_inb (d := d + 12) (σ := hq_sI σ 52 0 (nI 0)) x (a := 0) (b := 63) (by decide) (by decide)
  unfold cheR cheL
  cases c : inb x 0 63 with
  | false =>
    rw [c] at g0
    exact ⟨_, p_X10_cheap_0_1 g0 rfl, L0, f0⟩
  | true =>
    rw [c] at g0
    obtain ⟨v, _, hv, rfl⟩ := inb_of c
    rw [if_pos rfl, if_pos rfl, tn (by omega)]
    obtain ⟨ρ1, g1, P1, f1⟩ := m_laysPairs (d := d + 9) R0
    have R1 := Rm.depn.fr f1 (by decide) R0
    have l108 : ∀ c l, gdC A (A 8) v c l → l ≤ 108 := fun c l h => (Hg_lo b2 (W8 W) h.2.2.1).2.1
    have loop : ∀ q k o l ρ, k + q = 2 ^ A 0 0 → cM A v k o l → Fr [(77, 0)] ρ1 ρ → ∃ o' l' ρ', (∀ w τ, hq_m 254 (d + 14) w τ 19 [some (.ref 52), some (.int (nI v)), some (.int (oN o')), some (.int (nI l')), some (.int (nI (2 ^ A 0 0))), none] [] ρ' → hq_m 254 (d + 14) w τ 19 [some (.ref 52), some (.int (nI v)), some (.int (oN o)), some (.int (nI l)), some (.int (nI k)), none] [] ρ) ∧ cM A v (2 ^ A 0 0) o' l' ∧ Fr [(77, 0)] ρ1 ρ' := by
      intro q
      induction q with
      | zero =>
        intro k o l ρ hk hc fr
        have : k = 2 ^ A 0 0 := by omega
        subst this
        exact ⟨o, l, ρ, fun _ _ k => k, hc, fr⟩
      | succ q ih =>
        intro k o l ρ hk hc fr
        have Rρ := Rm.depn.fr fr (by decide) R1
        have c1 : nI k < nI 1 <<< (ρ.1 52 3 &&& 31) := by rw [Rρ.2.1, hn_shl _ (by omega)]; exact nlt (by omega) (by omega)
        have gk := m_keptByn (d := d + 10) (s := k) Rρ (by omega)
        have gb := s_bitCount (d := d + 12) (σ := ρ) (n := k) (by omega)
        have pl := pop_le k
        have kl := keptA_le W k
        have stay : (∀ l', gdC A (A 8) v k l' → l ≤ l' ∧ o ≠ none) → cM A v (k + 1) o l := fun h => by
          cases o with
          | none =>
            refine ⟨hc.1, fun c l' hlt hg => ?_⟩
            by_cases z : c = k
            · subst z; exact (h l' hg).2 rfl
            · exact hc.2 c l' (by omega) hg
          | some b =>
            refine ⟨by have := hc.1; omega, hc.2.1, fun c l' hlt hg => ?_⟩
            by_cases z : c = k
            · subst z
              have := (h l' hg).1
              have := hc.1
              omega
            · exact hc.2.2 c l' (by omega) hg
        have lF : l ≤ 1000000000 := by
          cases o with
          | none => exact Nat.le_of_eq hc.1
          | some b => have := l108 b l hc.2.1; omega
        by_cases z1 : keptA A k < v
        · obtain ⟨o', l', ρ', w1, w2⟩ := ih (k + 1) o l ρ (by omega) (stay (fun l' hg => by have := hg.2.1; omega)) fr
          exact ⟨o', l', ρ', fun w τ kk => p_X10_cheap_19_1 c1 gk (nlt z1 (by omega)) (by rw [nplus]; exact w1 w τ kk), w2⟩
        · have c2 : ¬ nI (keptA A k) < nI v := nI_nlt (by omega) (by omega)
          by_cases z2 : A 1 0 < 2 * pop k
          · obtain ⟨o', l', ρ', w1, w2⟩ := ih (k + 1) o l ρ (by omega) (stay (fun l' hg => by
              have := fea_2 W hg.1 ((fea_iff (A 8)).mpr ⟨l', hg.2.2.1⟩)
              omega)) fr
            exact ⟨o', l', ρ', fun w τ kk => p_X10_cheap_19_2 c1 gk c2 gb (by rw [Rρ.2.2.1, nmul]; exact nlt z2 (by omega)) (by rw [nplus]; exact w1 w τ kk), w2⟩
          · have c3 : ¬ ρ.1 52 4 < nI 2 * nI (pop k) := by rw [Rρ.2.2.1, nmul]; exact nI_nlt (by omega) (by omega)
            obtain ⟨ρ2, y, y1, y2, y3, y4, y5⟩ := m_leastFor (d := d + 1) (m := k) (by omega) Rρ (MP.dep.fr fr (by decide) P1)
            have y3' : y ≤ 1000000000 := y3
            have mn : (if nI y < nI l then nI y else nI l) = nI (min l y) := min_val (by omega) (by omega)
            by_cases z3 : y < l
            · have hM : isM (Hg A (A 8) (ds k (A 0 0)) 0) y := by
                rcases costM W y2 with ⟨a, _⟩ | ⟨_, a⟩
                · unfold FARn at a; omega
                · exact a
              have gkk : gdC A (A 8) v k y := ⟨by omega, by omega, hM⟩
              obtain ⟨o', l', ρ', w1, w2⟩ := ih (k + 1) (some k) y ρ2 (by omega) ⟨by omega, gkk, fun c l' hlt hg => by
                by_cases z : c = k
                · subst z
                  have := isM_uq hM hg.2.2
                  omega
                · left
                  cases o with
                  | none => exact absurd hg (hc.2 c l' (by omega))
                  | some b => have := hc.2.2 c l' (by omega) hg; omega⟩ (fr.tr y5)
              refine ⟨o', l', ρ', fun w τ kk => p_X10_cheap_19_3 c1 gk c2 gb c3 y1 (nlt z3 (by omega)) ?_, w2⟩
              rw [mn, Nat.min_eq_right (by omega), nplus]; exact w1 w τ kk
            · obtain ⟨o', l', ρ', w1, w2⟩ := ih (k + 1) o l ρ2 (by omega) (stay (fun l' hg => by
                rcases costM W y2 with ⟨_, a⟩ | ⟨a1, a⟩
                · exact absurd hg.2.2.1 (a l')
                · have := isM_uq a hg.2.2
                  refine ⟨by omega, fun z => ?_⟩
                  rw [z] at hc
                  have := hc.1
                  unfold FARn at this
                  omega)) (fr.tr y5)
              refine ⟨o', l', ρ', fun w τ kk => p_X10_cheap_19_4 c1 gk c2 gb c3 y1 (nI_nlt (by omega) (by omega)) ?_, w2⟩
              rw [mn, Nat.min_eq_left (by omega), nplus]; exact w1 w τ kk
    obtain ⟨o, l, ρ2, w, hc, fr⟩ := loop (2 ^ A 0 0) 0 none FARn ρ1 (by omega) ⟨rfl, fun c l' h => by omega⟩ (Fr.rf ρ1)
    have hP : chP A (A 8) v o := by
      cases o with
      | none => exact fun c l' hg => hc.2 c l' hg.1 hg
      | some b => exact ⟨l, hc.2.1, fun c l' hg => hc.2.2 c l' hg.1 hg⟩
    rw [← chO_eq hP]
    have R2 := Rm.depn.fr fr (by decide) R1
    have F2 : Fr fMh σ ρ2 := f0.tr ((f1.up (by decide)).tr (fr.up (by decide)))
    have cE : ¬ nI (2 ^ A 0 0) < nI 1 <<< (ρ2.1 52 3 &&& 31) := by rw [R2.2.1, hn_shl _ (by omega)]; exact nI_nlt (Nat.le_refl _) (by omega)
    cases o with
    | none => exact ⟨ρ2, p_X10_cheap_0_2 g0 (by decide) g1 (w _ _ (p_X10_cheap_19_5 cE (by decide))), mR.dep.fr fr (by decide) (mR.dep.fr f1 (by decide) L0), F2⟩
    | some b =>
      obtain ⟨bl, hg, _⟩ := hc
      have nb : ¬ oN (some b) < 0 := fun z => by
        have z : nI b < 0 := z
        rw [ltz, nI_toInt (by omega)] at z; omega
      obtain ⟨ρ3, y, y1, y2, y3, y4, y5⟩ := m_leastFor (d := d + 1) (m := b) bl R2 (MP.dep.fr fr (by decide) P1)
      have R3 := Rm.depn.fr y5 (by decide) R2
      have f4 : Fr [(52, 2), (53, 0)] ρ3 (hq_sI ρ3 52 1 (nI 0)) := (Fr.rf ρ3).sI rfl
      obtain ⟨ρ5, a1, a2, a3⟩ := m_enters (d := d + 12) (mR.nil (σ := ρ3)) (by decide) (nI b).toInt64
      have F5 : Fr [(52, 2), (53, 0)] ρ3 ρ5 := f4.tr a3
      obtain ⟨ρ6, t1, t2, t3⟩ := m_tells (d := d + 1) (ch := true) (l := l) bl hg.2.2 (Rm.depn.fr F5 (by decide) R3) (MP.dep.fr F5 (by decide) (MP.dep.fr y5 (by decide) (MP.dep.fr fr (by decide) P1))) (ML.dep.fr F5 (by decide) y4) a2 (by simp)
      dsimp only
      rw [← mcV_eq hg.2.2]
      exact ⟨ρ6, p_X10_cheap_0_2 g0 (by decide) g1 (w _ _ (p_X10_cheap_19_6 cE nb y1 a1 t1)), t2, F2.tr ((y5.up (by decide)).tr ((F5.up (by decide)).tr (t3.up (by decide))))⟩
end HN1
