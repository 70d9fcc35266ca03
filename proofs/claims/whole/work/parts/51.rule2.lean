/-! rule -/
def rlO (n : Nat) (f : Nat → Nat) : RR := if n = 0 then (true, 0, []) else xpA f (min n 40) (exO f (min n 40) 4) 0
def rlK (n : Nat) (f : Nat → Nat) : Bool := (rlO n f).1 && decide ((rlO n f).2.1 = n)
def ruR (n : Nat) (f : Nat → Nat) : Int32 := if rlK n f then 0 else (-1 : Int32) - nI (rlO n f).2.1
def ruG (n : Nat) (f : Nat → Nat) (G : List Nat) : List Nat := if rlK n f then (rlO n f).2.2 else G
section RU2
variable {d n : Nat} {f : Nat → Nat} {σ : hq_St} {G : List Nat}
theorem psh_ok {K : List Nat} (h : psh K) : okG 0 K := by
  have := h 0 [] rfl
  rwa [List.append_nil] at this
theorem rl_ok {T : Nat} (hT : T ≤ 40) {r : RR} (h : psh r.2.2 ∧ 0 + 1 ≤ r.2.1 ∧ 0 + (cS r.2.2).length ≤ r.2.1 ∧ 0 + (mS r.2.2).length ≤ r.2.1) (h2 : r.2.1 ≤ T) : okU r.2.2 := ⟨Or.inr (psh_ok h.1), by omega, by omega⟩
theorem cU_nil_ok : okU [] := ⟨Or.inl rfl, by decide, by decide⟩
/-- the draft taken -/
theorem s_adopt (hD : cD G σ) (ok : okU G) : ∃ τ, hq_prim 49 [.ref 24] σ none τ ∧ cU G τ ∧ Fr [(24, 4), (25, 0)] σ τ := by
  obtain ⟨o1, o2, o3⟩ := ok
  refine ⟨_, Or.inr ⟨rfl, rfl, rfl, (cS G).length, o2, hD.1, rfl⟩, ⟨⟨o1, o2, o3⟩, ?_, fun j t hj => ?_⟩, fun c j e => ⟨?_, rfl⟩⟩
  · show (if (24 : Nat) = 25 then va_cpy (σ.1 26) (σ.1 25) 0 0 (cS G).length else if (24 : Nat) = 24 then upd (σ.1 24) 3 (nI (cS G).length) else σ.1 24) 3 = _
    rw [if_neg (by decide), if_pos rfl]
    unfold upd
    rw [if_pos rfl]
  · show (if (25 : Nat) = 25 then va_cpy (σ.1 26) (σ.1 25) 0 0 (cS G).length else if (25 : Nat) = 24 then upd (σ.1 24) 3 (nI (cS G).length) else σ.1 25) j = _
    rw [if_pos rfl, pk_cpy_in (Nat.zero_le _) (by have := (List.getElem?_eq_some_iff.mp hj).1; omega), Nat.zero_add, Nat.sub_zero]
    exact hD.2 j t hj
  · show (if c = 25 then va_cpy (σ.1 26) (σ.1 25) 0 0 (cS G).length else if c = 24 then upd (σ.1 24) 3 (nI (cS G).length) else σ.1 c) j = σ.1 c j
    by_cases q : c = 25
    · subst q; simp [inF] at e
    · rw [if_neg q]
      by_cases q2 : c = 24
      · subst q2
        rw [if_pos rfl]
        unfold upd
        by_cases q3 : j = 3
        · subst q3; simp [inF] at e
        · rw [if_neg q3]
      · rw [if_neg q2]
theorem s_rule (h : cX n f σ) (hG : cU G σ) : ∃ τ, hq_c 113 (d + 25) [.ref 0] σ (some (.int (ruR n f))) τ ∧ cU (ruG n f G) τ ∧ cX 0 f τ ∧ Fr [(1, 2), (1, 3), (1, 4), (24, 4), (24, 5), (25, 0), (26, 0)] σ τ := by
  have h80 := h.1
  obtain ⟨σ1, g1, g2, g3⟩ := s_open (d := d + 23) h (k := 40) (by decide)
  have e21 := @p_X5_readDraft_0_1 (d + 23) σ1
  have e22 := @p_X5_readDraft_0_2 (d + 23) σ1
  have e23 := @p_X5_readDraft_0_3 (d + 23) σ1
  have e24 := @p_X5_readDraft_0_4 (d + 23) σ1
  have f2 : Fr [(24, 5), (26, 0)] σ1 (hq_sI σ1 24 4 (nI 0)) := (Fr.rf _).sI rfl
  have D2 : cD [] (hq_sI σ1 24 4 (nI 0)) := ⟨by rw [sI_eq]; rfl, fun j t hj => by simp [cS] at hj⟩
  have z2 := cZ.dep.fr f2 (by decide) g2
  have F2 : Fr [(1, 2), (1, 3), (1, 4), (24, 4), (24, 5), (25, 0), (26, 0)] σ (hq_sI σ1 24 4 (nI 0)) := (g3.up (by decide)).tr (f2.up (by decide))
  generalize hq_sI σ1 24 4 (nI 0) = σ2 at e21 e22 e23 e24 f2 D2 z2 F2
  have fin : ∀ ρ, Fr [(1, 2), (1, 3), (1, 4), (24, 4), (24, 5), (25, 0), (26, 0)] σ ρ → cX 0 f (hq_sI ρ 1 1 (nI 0)) ∧ Fr [(1, 2), (1, 3), (1, 4), (24, 4), (24, 5), (25, 0), (26, 0)] σ (hq_sI ρ 1 1 (nI 0)) := fun ρ fr => ⟨⟨by omega, by rw [sI_eq], fun j hj => by omega⟩, fr.sI rfl⟩
  have ul : ∀ {K : List Nat} {ρ : hq_St}, cU K ρ → cU K (hq_sI ρ 1 1 (nI 0)) := fun {K ρ} hK => cU.dep.fr (G := [(1, 2)]) ((Fr.rf ρ).sI rfl) (by decide) hK
  unfold ruR ruG rlK rlO
  by_cases q : n = 0
  · obtain ⟨σ3, a1, a2, a3⟩ := s_adopt D2 cU_nil_ok
    have F3 := F2.tr (a3.up (G := [(1, 2), (1, 3), (1, 4), (24, 4), (24, 5), (25, 0), (26, 0)]) (by decide))
    have eb : (((true, 0, []) : RR).1 && decide (((true, 0, []) : RR).2.1 = n)) = true := by rw [q]; rfl
    rw [if_pos q, eb, if_pos rfl, if_pos rfl]
    refine ⟨_, p_X9_rule_0_4 g1 (e21 (by rw [z2.1.2.1, q]; rfl)) (by decide) (by decide) a1 (by omega), ?_, (fin _ F3).1, (fin _ F3).2⟩
    exact ul a2
  · rw [if_neg q]
    have c1 : ¬ σ2.1 1 1 = 0 := by rw [z2.1.2.1]; exact nI_ne0 (by omega) (by omega)
    have hf : ∀ p, p < min n 40 → f p < 256 := fun p hp => (h.2.2 p (by omega)).1
    obtain ⟨σ3, i1, i2, i3, i4⟩ := s_exO (d := d) (n := n) (f := f) (T := min n 40) (by omega) hf 4 (Nat.le_refl _) 0 [] σ2 z2 D2 (by decide)
    obtain ⟨o1, o2, o3⟩ := (xpA_ok (exO_ok hf 4) hf).2.2 0 (by omega)
    have F3 : Fr [(1, 2), (1, 3), (1, 4), (24, 4), (24, 5), (25, 0), (26, 0)] σ σ3 := F2.tr (i4.up (by decide))
    generalize xpA f (min n 40) (exO f (min n 40) 4) 0 = r at i1 i2 i3 o1 o2 o3
    have hG3 := cU.dep.fr i4 (by decide) (cU.dep.fr f2 (by decide) (cU.dep.fr g3 (by decide) hG))
    rw [show 4 * 4 + d + 7 = d + 23 by omega] at i1
    cases h1 : r.1 with
    | false =>
      rw [h1] at i1
      rw [Bool.false_and, if_neg (by decide), if_neg (by decide)]
      have P := p_X9_rule_0_1 g1 (e22 c1 i1 rfl) rfl rfl
      rw [i2.2.2.2.1] at P
      exact ⟨_, P, ul hG3, (fin _ F3).1, (fin _ F3).2⟩
    | true =>
      rw [h1] at i1
      rw [Bool.true_and]
      have w := s_isWhole (d := d + 22) i2
      by_cases q2 : r.2.1 = n
      · rw [show decide (r.2.1 = n) = true by simp [q2]] at w ⊢
        rw [if_pos rfl, if_pos rfl]
        have D3 := i3 h1
        rw [List.nil_append] at D3
        obtain ⟨σ4, a1, a2, a3⟩ := s_adopt D3 (rl_ok (T := min n 40) (by omega) (o3 h1) o2)
        have F4 := F3.tr (a3.up (G := [(1, 2), (1, 3), (1, 4), (24, 4), (24, 5), (25, 0), (26, 0)]) (by decide))
        exact ⟨_, p_X9_rule_0_4 g1 (e24 c1 i1 (by decide) w (by decide)) (by decide) (by decide) a1 (by omega), ul a2, (fin _ F4).1, (fin _ F4).2⟩
      · rw [show decide (r.2.1 = n) = false by simp [q2]] at w ⊢
        rw [if_neg (by decide), if_neg (by decide)]
        have P := p_X9_rule_0_1 g1 (e23 c1 i1 (by decide) w rfl) rfl rfl
        rw [i2.2.2.2.1] at P
        exact ⟨_, P, ul hG3, (fin _ F3).1, (fin _ F3).2⟩
theorem flt_neg {K p : Nat} {g : Bool} (hp : p ≤ 80) : fltA n K g p < 0 ↔ ¬ (g = true ∧ p = n ∧ n ≤ K) := by
  unfold fltA
  by_cases q : g = true ∧ p = n ∧ n ≤ K
  · rw [if_pos q]
    exact ⟨fun z => absurd z (by decide), fun z => absurd q z⟩
  · rw [if_neg q]
    refine ⟨fun _ => q, fun _ => ?_⟩
    have : ∀ p, p < 81 → (-1 : Int32) - nI p < 0 := by decide +kernel
    exact this p (by omega)
/-- the codes taken -/
theorem m_ruleC {C : List Nat} (hC : mDl C σ) (hl : C.length ≤ 40) (ok : okU G) (hm : C = mS G) : ∃ τ, hq_m 201 (d + 1) (some (.int (nI 0))) τ 36 [some (.ref 52), none, none, none, some (.int (nI 0))] [] (hq_sI σ 52 26 (σ.1 52 27)) ∧ mU G τ ∧ Fr [(52, 27), (66, 0)] σ τ := by
  have f0 : Fr [(52, 27), (66, 0)] σ (hq_sI σ 52 26 (σ.1 52 27)) := (Fr.rf σ).sI rfl
  have e0 : (hq_sI σ 52 26 (σ.1 52 27)).1 52 26 = nI C.length := by rw [sI_eq, hC.1]
  obtain ⟨τ, w, fr, hv⟩ := hq_w.for (x := 201) (d := d + 1) (i := 36) (fun j => [some (.ref 52), none, none, none, some (.int (nI j))]) (fun j ρ => Fr [(66, 0)] (hq_sI σ 52 26 (σ.1 52 27)) ρ ∧ ∀ i t, i < j → C[i]? = some t → ρ.1 66 i = nI t) C.length (fun j hj ρ ⟨fr, hv⟩ => by
    have hC1 := mDl.dep.fr fr (by decide) (mDl.dep.fr (G := [(52, 27)]) (show Fr [(52, 27)] σ (hq_sI σ 52 26 (σ.1 52 27)) from (Fr.rf σ).sI rfl) (by decide) hC)
    have oj : vp_in (nI j) 80 := vin (by omega) (by decide)
    have cj : (nI j).toNatClampNeg = j := clamp (by omega)
    obtain ⟨t, ht⟩ : ∃ t, C[j]? = some t := ⟨_, List.getElem?_eq_getElem hj⟩
    refine ⟨hq_sI ρ 66 j (nI t), fun v τ k => p_X10_rule_36_1 (by rw [hC1.1]; exact nlt hj (by omega)) oj oj ?_, fr.sI rfl, fun i u hi hu => ?_⟩
    · rw [cj, hC1.2 j t ht, nplus]; exact k
    · by_cases z : i = j
      · subst z
        rw [sI_eq]
        rw [ht] at hu
        cases hu; rfl
      · rw [sI_slot z]; exact hv i u (by omega) hu) (σ := hq_sI σ 52 26 (σ.1 52 27)) ⟨Fr.rf _, fun i t hi _ => by omega⟩
  have hC1 := mDl.dep.fr fr (by decide) (mDl.dep.fr (G := [(52, 27)]) (show Fr [(52, 27)] σ (hq_sI σ 52 26 (σ.1 52 27)) from (Fr.rf σ).sI rfl) (by decide) hC)
  refine ⟨τ, w _ _ (p_X10_rule_36_2 (by rw [hC1.1]; exact nI_nlt (Nat.le_refl _) (by omega))), ⟨ok, ?_, fun j t hj => ?_⟩, f0.tr (fr.up (by decide))⟩
  · rw [fr.i rfl, e0, hm]
  · rw [← hm] at hj
    exact hv j t (List.getElem?_eq_some_iff.mp hj).1 hj
theorem m_rule (h : mX n f σ) (hG : mU G σ) : ∃ τ, hq_c 201 (d + 600) [.ref 52] σ (some (.int (ruR n f))) τ ∧ mU (ruG n f G) τ ∧ mX 0 f τ ∧ Fr [(52, 1), (52, 16), (52, 17), (52, 18), (52, 19), (52, 27), (52, 28), (66, 0), (67, 0)] σ τ := by
  have h80 := h.1
  have f0 : Fr [(52, 1)] σ (hq_sI σ 52 0 (nI 0)) := frth
  obtain ⟨σ1, g1, g2, g3, g4, g5⟩ := m_begins (d := d + 598) (mX.dep.fr f0 (by decide) h) (k := 40) (by decide)
  have f2 : Fr [(52, 28), (67, 0)] σ1 (hq_sI σ1 52 27 (nI 0)) := (Fr.rf _).sI rfl
  have D2 : mDl [] (hq_sI σ1 52 27 (nI 0)) := ⟨by rw [sI_eq]; rfl, fun j t hj => by simp at hj⟩
  have z2 := mZ.dep.fr f2 (by decide) g2
  have X2 := mX.dep.fr f2 (by decide) g3
  have n2 : (hq_sI σ1 52 27 (nI 0)).1 52 18 = nI 0 := (f2.i rfl).trans g4
  have F2 : Fr [(52, 1), (52, 16), (52, 17), (52, 18), (52, 19), (52, 27), (52, 28), (66, 0), (67, 0)] σ (hq_sI σ1 52 27 (nI 0)) := (f0.up (by decide)).tr ((g5.up (by decide)).tr (f2.up (by decide)))
  have hG2 : mU G (hq_sI σ1 52 27 (nI 0)) := mU.dep.fr f2 (by decide) (mU.dep.fr g5 (by decide) (mU.dep.fr f0 (by decide) hG))
  generalize e2 : hq_sI σ1 52 27 (nI 0) = σ2 at f2 D2 z2 X2 n2 F2 hG2
  unfold ruR ruG rlK rlO
  by_cases q : n = 0
  · have eb : (((true, 0, []) : RR).1 && decide (((true, 0, []) : RR).2.1 = n)) = true := by rw [q]; rfl
    rw [if_pos q, eb, if_pos rfl, if_pos rfl]
    have k := m_faultOf (d := d + 598) (K := 40) z2 (by decide) true
    have e : fltA n 40 true 0 = nI 0 := by unfold fltA; rw [if_pos ⟨rfl, q.symm, by omega⟩]; rfl
    rw [e] at k
    obtain ⟨τ, w1, w2, w3⟩ := m_ruleC (d := d + 599) D2 (by decide) cU_nil_ok rfl
    refine ⟨τ, p_X10_rule_0_2 (r2 := nI 0) (ρ2 := σ2) g1 (by rw [q]; rfl) (by rw [e2]; exact k) (by decide) w1, ?_, mX.dep.fr w3 (by decide) X2, F2.tr (w3.up (by decide))⟩
    exact w2
  · rw [if_neg q]
    have c1 : ¬ nI n = 0 := nI_ne0 (by omega) (by omega)
    have hf : ∀ p, p < min n 40 → f p < 256 := fun p hp => (h.2.2 p (by omega)).1
    obtain ⟨σ3, C3, i1, i2, i3, i4, i5, i6⟩ := m_exO (n := n) (f := f) (T := min n 40) (by omega) hf 4 (Nat.le_refl _) (d + 599) (by show dpE 4 ≤ _; have : dpE 4 = 550 := rfl; omega) 0 [] σ2 z2 D2 (by decide) n2
    obtain ⟨o1, o2, o3⟩ := (xpA_ok (exO_ok hf 4) hf).2.2 0 (by omega)
    have F3 : Fr [(52, 1), (52, 16), (52, 17), (52, 18), (52, 19), (52, 27), (52, 28), (66, 0), (67, 0)] σ σ3 := F2.tr (i6.up (by decide))
    generalize xpA f (min n 40) (exO f (min n 40) 4) 0 = r at i1 i2 i4 i5 o1 o2 o3
    have hG3 := mU.dep.fr i6 (by decide) hG2
    have X3 := mX.dep.fr i6 (by decide) X2
    have k := m_faultOf (d := d + 598) (K := 40) i2 (by decide) r.1
    have fn := flt_neg (n := n) (K := 40) (p := r.2.1) (g := r.1) (by omega)
    cases h1 : r.1 with
    | false =>
      rw [h1] at i1 k fn
      rw [Bool.false_and, if_neg (by decide), if_neg (by decide)]
      have P := p_X10_rule_0_3 (r2 := bI false) (ρ2 := σ3) g1 c1 (by rw [e2]; exact i1) rfl k (fn.mpr (fun z => by cases z.1))
      have e : fltA n 40 false r.2.1 = (-1 : Int32) - nI r.2.1 := by unfold fltA; rw [if_neg (fun z => by cases z.1)]
      rw [e] at P
      exact ⟨_, P, hG3, X3, F3⟩
    | true =>
      rw [h1] at i1 k fn
      rw [Bool.true_and]
      by_cases q2 : r.2.1 = n
      · rw [show decide (r.2.1 = n) = true by simp [q2]]
        rw [if_pos rfl, if_pos rfl]
        obtain ⟨c3, -⟩ := i5 h1
        obtain ⟨p1, p2, p3, p4⟩ := o3 h1
        rw [List.nil_append] at c3
        obtain ⟨τ, w1, w2, w3⟩ := m_ruleC (d := d + 599) (G := r.2.2) i3 (by rw [c3]; omega) (rl_ok (T := min n 40) (by omega) (o3 h1) o2) c3
        exact ⟨τ, p_X10_rule_0_6 (r2 := bI true) (ρ2 := σ3) g1 c1 (by rw [e2]; exact i1) (by decide) k (fun z => fn.mp z ⟨rfl, q2, by omega⟩) w1, w2, mX.dep.fr w3 (by decide) X3, F3.tr (w3.up (by decide))⟩
      · rw [show decide (r.2.1 = n) = false by simp [q2]]
        rw [if_neg (by decide), if_neg (by decide)]
        have P := p_X10_rule_0_5 (r2 := bI true) (ρ2 := σ3) g1 c1 (by rw [e2]; exact i1) (by decide) k (fn.mpr (fun z => q2 z.2.1))
        have e : fltA n 40 true r.2.1 = (-1 : Int32) - nI r.2.1 := by unfold fltA; rw [if_neg (fun z => q2 z.2.1)]
        rw [e] at P
        exact ⟨_, P, hG3, X3, F3⟩
end RU2
