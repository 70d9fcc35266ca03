/-! ways, been, sure: the reference's calls -/
section W4
variable {d : Nat} {σ : hq_St} {A : TA} {y : Int32} {G H : List Nat}
theorem mW.at0 (h : mW A y G H 0 0 σ) : σ.1 81 (nI 0).toNatClampNeg = nI (min 1000000 (wy A y G H 0 H.length 0)) := h 0 0 (Nat.le_refl _) (Nat.zero_le _) (by decide)
theorem m_roomsBehind (Q : mQ A y G H σ) (hW : mW A y G H 0 0 σ) {k : Nat} (hk : k ≤ H.length) : ∃ τ, hq_c 266 (d + 9) [.ref 52, .int (nI k)] σ (some (.int (nI (rbh A y G H k)))) τ ∧ Fr [(68, 0)] σ τ := by
  have W := Q.1.1
  have b1 := W.1
  have hH := Q.2.2.2.1
  have g0 := m_shutOfn (d := d + 3) Q.1
  have a0 := hW.at0
  obtain ⟨τ, w, f⟩ := hq_w.for (x := 266) (d := d + 9) (i := 16) (fun j => [some (.ref 52), some (.int (nI k)), some (.int (nI (shut0 A))), some (.int (nI (rbh A y G H j))), some (.int (nI j)), none, none]) (fun _ ρ => Fr [(68, 0)] σ ρ) k (fun j hj ρ fr => by
    have Q1 := Q.fr fr (by decide)
    obtain ⟨ρ2, w2, f2⟩ := hq_w.for (x := 266) (d := d + 9) (i := 23) (fun m => [some (.ref 52), some (.int (nI k)), some (.int (nI (shut0 A))), some (.int (nI (rbh A y G H j))), some (.int (nI j)), some (.int (nI (orm (rth A y G H j (rbh A y G H j)) m))), some (.int (nI m))]) (fun _ μ => Fr [(68, 0)] σ μ) (A 0 0) (fun m hm μ fm => by
      have Q2 := Q.fr fm (by decide)
      obtain ⟨μ2, h1, h2⟩ := m_goesThrough (d := d) Q2 (k := j) (mW.dep.fr fm (by decide) hW) hm (by omega) (rbh_lt (y := y) (G := G) (H := H) W j)
      refine ⟨μ2, fun v τ k => p_X10_roomsBehind_23_1 (by rw [Q2.1.2.1]; exact nlt hm (by omega)) h1 ?_, fm.tr h2⟩
      rw [orr, nplus]; exact k) (σ := ρ) fr
    have Q3 := Q.fr f2 (by decide)
    refine ⟨ρ2, fun v τ kk => p_X10_roomsBehind_16_1 (nlt hj (by omega)) (w2 _ _ (p_X10_roomsBehind_23_2 ?_ ?_)), f2⟩
    · rw [Q3.1.2.1]; exact nI_nlt (Nat.le_refl _) (by omega)
    · rw [nplus]; exact kk) (σ := σ) (Fr.rf σ)
  have fin := w _ _ (p_X10_roomsBehind_16_2 (d := d + 8) (σ := τ) (l1 := nI k) (l2 := nI (shut0 A)) (l3 := nI (rbh A y G H k)) (l4 := nI k) (nI_nlt (Nat.le_refl _) (by omega)))
  by_cases q : 0 < wy A y G H 0 H.length 0
  · have e : rbh A y G H 0 = 1 := by unfold rbh; rw [if_pos q]
    rw [e] at fin
    exact ⟨τ, p_X10_roomsBehind_0_1 g0 (vin (by decide) (by decide)) (by rw [a0]; exact capp.mpr q) fin, f⟩
  · have e : rbh A y G H 0 = 0 := by unfold rbh; rw [if_neg q]
    rw [e] at fin
    exact ⟨τ, p_X10_roomsBehind_0_2 g0 (vin (by decide) (by decide)) (by rw [a0]; exact fun z => q (capp.mp z)) fin, f⟩
theorem rth_one (W : Wf A) {k r e : Nat} (he : e < A 0 0) (hr : r < 8) : rth A y G H k (2 ^ r) e = 0 ↔ wt A y G H 0 k r e = 0 := by
  obtain ⟨u1, u2, u3, -⟩ := W.2.2.1 e he
  have p2 : ∀ a, 2 ^ a ≠ 0 := fun a => by have := Nat.two_pow_pos a; omega
  unfold rth wt
  cases hitA A y G H e k with
  | false => simp
  | true =>
    rw [if_pos rfl, Nat.testBit_two_pow, Nat.testBit_two_pow]
    by_cases q1 : A 2 e = r
    · have o1 : othA A e r = A 3 e + 1 := by rw [← q1]; exact oth_a A
      have n3 : ¬ r = A 3 e := fun z => u3 (by omega)
      rw [o1]
      simp [q1, n3]
    · by_cases q2 : A 3 e = r
      · have o1 : othA A e r = A 2 e + 1 := by rw [← q2]; exact oth_b u3
        have n3 : ¬ r = A 2 e := fun z => q1 z.symm
        rw [o1]
        simp [q2, n3]
      · have o1 : othA A e r = 0 := by unfold othA; rw [if_neg q1, if_neg q2]
        rw [o1]
        have n1 : ¬ r = A 2 e := fun z => q1 z.symm
        have n2 : ¬ r = A 3 e := fun z => q2 z.symm
        simp [n1, n2]
theorem m_lw (hH : H.length ≤ 12) (h0 : 0 < wy A y G H 0 H.length 0) : ∀ (n r : Nat) (L : List Int64) (σ : hq_St), n ≤ H.length → r < 8 → 0 < wy A y G H 0 n r → L.length + n ≤ 16 → mQ A y G H σ → mW A y G H 0 0 σ → mR L σ → ∃ τ, hq_m 268 (d + 10) (some (.int (wysR A y G H))) τ 25 [some (.ref 52), some (.int (nI (shut0 A))), some (.int (nI r)), some (.int (nI (H.length - n))), none] [] σ ∧ mR (L ++ lwL A y G H n r) τ ∧ Fr [(52, 2), (53, 0), (68, 0)] σ τ := by
  intro n
  induction n with
  | zero =>
    intro r L σ hn hr hp hLn Q hW hL
    have P := p_X10_ways_25_3 (d := d + 9) (σ := σ) (l1 := nI (shut0 A)) (l2 := nI r) (l3 := nI (H.length - 0)) (by rw [Q.2.2.2.2.1]; exact nI_nlt (by omega) (by omega)) (vin (by decide) (by decide))
    rw [hW.at0] at P
    refine ⟨σ, P, ?_, Fr.rf σ⟩
    show mR (L ++ []) σ
    rw [List.append_nil]; exact hL
  | succ n ih =>
    intro r L σ hn hr hp hLn Q hW hL
    have W := Q.1.1
    have b1 := W.1
    obtain ⟨g1, g2, g3, o, g4, g5, g6⟩ := lw_ok W hn hp
    have hk : H.length - (n + 1) < H.length := by omega
    have ek : H.length - (n + 1) + 1 = H.length - n := by omega
    have eL : lwL A y G H (n + 1) r = (nI (lwF A y G H (H.length - (n + 1)) r)).toInt64 :: lwL A y G H n o := by
      show _ :: lwL A y G H n (othA A (lwF A y G H (H.length - (n + 1)) r) r - 1) = _
      rw [g4, Nat.add_sub_cancel]
    rw [eL]
    generalize lwF A y G H (H.length - (n + 1)) r = f at g1 g2 g3 g4
    generalize H.length - (n + 1) = k at hk ek g2 g3
    have pr := pow8 hr
    obtain ⟨σ1, w1, f1⟩ := hq_w.for (x := 268) (d := d + 10) (i := 36) (fun j => [some (.ref 52), some (.int (nI (shut0 A))), some (.int (nI r)), some (.int (nI k)), some (.int (nI j))]) (fun _ ρ => Fr [(68, 0)] σ ρ) f (fun j hj ρ fr => by
      obtain ⟨ρ2, h1, h2⟩ := m_goesThrough (d := d + 1) (Q.fr fr (by decide)) (mW.dep.fr fr (by decide) hW) (e := j) (by omega) hk pr
      rw [(rth_one W (by omega) hr).mpr (g3 j hj)] at h1
      refine ⟨ρ2, fun v τ kk => p_X10_ways_36_1 (r1 := nI 0) (ρ1 := ρ2) (by rw [hn_shl r (by omega)]; exact h1) rfl ?_, fr.tr h2⟩
      rw [nplus]; exact kk) (σ := σ) (Fr.rf σ)
    obtain ⟨σ2, h1, h2⟩ := m_goesThrough (d := d + 1) (Q.fr f1 (by decide)) (mW.dep.fr f1 (by decide) hW) g1 hk pr
    have rl := rth_lt (A := A) (y := y) (G := G) (H := H) (k := k) (b := 2 ^ r) W g1
    have rn : rth A y G H k (2 ^ r) f ≠ 0 := fun z => by have := (rth_one W g1 hr).mp z; omega
    have f12 := f1.tr h2
    obtain ⟨σ3, d1, d2, d3⟩ := m_enters (d := d + 8) (mR.dep.fr f12 (by decide) hL) (by omega) (nI f).toInt64
    have f13 : Fr [(52, 2), (53, 0), (68, 0)] σ σ3 := (f12.up (by decide)).tr (d3.up (by decide))
    have Q3 := Q.fr f13 (by decide)
    have g7 := m_otherRoom (d := d + 8) Q3.1 g1 hr
    rw [g4, nI_dec1] at g7
    obtain ⟨τ, i1, i2, i3⟩ := ih o (L ++ [(nI f).toInt64]) σ3 (by omega) g5 g6 (by simp; omega) Q3 (mW.dep.fr f13 (by decide) hW) d2
    rw [← ek] at i1
    refine ⟨τ, p_X10_ways_25_1 (by rw [Q.2.2.2.2.1]; exact nlt hk (by omega)) (vin (by decide) (by decide)) (by rw [hW.at0]; exact capp.mpr h0) (w1 _ _ (p_X10_ways_36_2 (r1 := nI (rth A y G H k (2 ^ r) f)) (ρ1 := σ2) (by rw [hn_shl r (by omega)]; exact h1) (nI_ne0 (by omega) (by omega)) d1 g7 ?_)), ?_, f13.tr i3⟩
    · rw [nplus]; exact i1
    · rw [List.append_assoc] at i2
      exact i2
theorem m_ways (Q : mQ A y G H σ) : ∃ τ, hq_c 268 (d + 10) [.ref 52] σ (some (.int (wysR A y G H))) τ ∧ mR (wysL A y G H) τ ∧ Fr [(52, 1), (52, 2), (53, 0), (68, 0), (81, 0)] σ τ := by
  have W := Q.1.1
  have hH := Q.2.2.2.1
  have f0 : Fr [(52, 1)] σ (hq_sI σ 52 0 (nI 0)) := frth
  have Q0 := Q.fr f0 (by decide)
  have g0 := m_shutOfn (d := d + 4) Q0.1
  obtain ⟨σ2, c1, c2, c3⟩ := m_laysWays (d := d + 1) (av := 0) (x := -1) Q0 (m1_av W.1)
  have f3 : Fr [(52, 2), (53, 0)] σ2 (hq_sI σ2 52 1 (nI 0)) := (Fr.rf _).sI rfl
  have f03 : Fr [(52, 1), (52, 2), (53, 0), (68, 0), (81, 0)] σ (hq_sI σ2 52 1 (nI 0)) := (f0.up (by decide)).tr ((c3.up (by decide)).tr (f3.up (by decide)))
  have Q3 := Q.fr f03 (by decide)
  have W3 := mW.dep.fr f3 (by decide) c2
  obtain ⟨σ3, g1, g2⟩ := m_roomsBehind (d := d) Q3 W3 (k := H.length) (Nat.le_refl _)
  obtain ⟨σ4, a1, a2, a3⟩ := m_enters (d := d + 8) (mR.dep.fr g2 (by decide) mR.nil) (by decide) (nI (rbh A y G H H.length)).toInt64
  have f34 : Fr [(52, 2), (53, 0), (68, 0)] (hq_sI σ2 52 1 (nI 0)) σ4 := (g2.up (by decide)).tr (a3.up (by decide))
  have Q4 := Q3.fr f34 (by decide)
  have W4 := mW.dep.fr f34 (by decide) W3
  have ff := f03.tr (f34.up (G := [(52, 1), (52, 2), (53, 0), (68, 0), (81, 0)]) (by decide))
  unfold wysL
  by_cases q : 0 < wy A y G H 0 H.length 0
  · rw [if_pos q]
    obtain ⟨τ, i1, i2, i3⟩ := m_lw (d := d) hH q H.length 0 [(nI (rbh A y G H H.length)).toInt64] σ4 (Nat.le_refl _) (by decide) q (by simp; omega) Q4 W4 a2
    rw [Nat.sub_self] at i1
    exact ⟨τ, p_X10_ways_0_1 g0 c1 (by rw [Q3.2.2.2.2.1]; exact g1) a1 i1, i2, ff.tr (i3.up (by decide))⟩
  · rw [if_neg q, List.append_nil]
    have at0 := W4.at0
    have fin : hq_m 268 (d + 10) (some (.int (wysR A y G H))) σ4 25 [some (.ref 52), some (.int (nI (shut0 A))), some (.int (nI 0)), some (.int (nI 0)), none] [] σ4 := by
      unfold wysR
      rw [← at0]
      by_cases z : 0 < H.length
      · exact p_X10_ways_25_2 (by rw [Q4.2.2.2.2.1]; exact nlt z (by omega)) (vin (by decide) (by decide)) (by rw [at0]; exact fun y => q (capp.mp y)) (vin (by decide) (by decide))
      · exact p_X10_ways_25_3 (by rw [Q4.2.2.2.2.1]; exact nI_nlt (by omega) (by omega)) (vin (by decide) (by decide))
    exact ⟨σ4, p_X10_ways_0_1 g0 c1 (by rw [Q3.2.2.2.2.1]; exact g1) a1 fin, a2, ff⟩
theorem m_inn (x : Int32) {b : Nat} (hb : b < 2 ^ 31) : hq_c 167 (d + 1) [.long x.toInt64, .long (lN 0), .long (nI b).toInt64] σ (some (.int (bI (inb x 0 b)))) σ := by
  have e : (nI b).toInt64 = lN b := by
    rw [fa_eq64, Int32.toInt_toInt64, nI_toInt hb, lN_toInt hb]
  rw [e]
  exact m_inb x (by decide) hb
theorem m_been (Q : mQ A y G H σ) (x : Int32) : ∃ τ, hq_c 269 (d + 10) [.ref 52, .int x] σ (some (.int (benR A y G H x))) τ ∧ Fr [(52, 1), (68, 0), (81, 0)] σ τ := by
  have W := Q.1.1
  have hH := Q.2.2.2.1
  have f0 : Fr [(52, 1)] σ (hq_sI σ 52 0 (nI 0)) := frth
  have Q0 := Q.fr f0 (by decide)
  have g := m_inn (d := d + 8) (σ := hq_sI σ 52 0 (nI 0)) x (b := H.length) (by omega)
  unfold benR
  cases hx : inb x 0 H.length with
  | false =>
    rw [hx] at g
    exact ⟨_, p_X10_been_0_1 (r1 := bI false) (by rw [Q0.2.2.2.2.1]; exact g) rfl, f0.up (by decide)⟩
  | true =>
    rw [hx] at g
    obtain ⟨k, -, hk, rfl⟩ := inb_of hx
    rw [if_pos rfl, clamp (by omega)]
    obtain ⟨σ2, c1, c2, c3⟩ := m_laysWays (d := d + 1) (av := 0) (x := -1) Q0 (m1_av W.1)
    obtain ⟨σ3, g1, g2⟩ := m_roomsBehind (d := d) (Q0.fr c3 (by decide)) c2 hk
    exact ⟨σ3, p_X10_been_0_2 (r1 := bI true) (ρ1 := hq_sI σ 52 0 (nI 0)) (by rw [Q0.2.2.2.2.1]; exact g) (by decide) c1 g1, (f0.up (by decide)).tr ((c3.up (by decide)).tr (g2.up (by decide)))⟩
theorem cap0 {v : Nat} : nI (min 1000000 v) = 0 ↔ v = 0 := by
  show _ = nI 0 ↔ _
  rw [nI_eq (by omega) (by decide)]
  omega
theorem m_sure (Q : mQ A y G H σ) {L : List Int64} (hL : mR L σ) : ∃ τ, hq_c 270 (d + 10) [.ref 52] σ (some (.int (surR A y G H))) τ ∧ mR (surL A y G H L) τ ∧ Fr [(52, 1), (52, 2), (53, 0), (68, 0), (81, 0)] σ τ := by
  have W := Q.1.1
  have b1 := W.1
  have hH := Q.2.2.2.1
  have f0 : Fr [(52, 1)] σ (hq_sI σ 52 0 (nI 0)) := frth
  have Q0 := Q.fr f0 (by decide)
  obtain ⟨σ2, c1, c2, c3⟩ := m_laysWays (d := d + 1) (av := 0) (x := -1) Q0 (m1_av W.1)
  have f02 : Fr [(52, 1), (52, 2), (53, 0), (68, 0), (81, 0)] σ σ2 := (f0.up (by decide)).tr (c3.up (by decide))
  have Q2 := Q.fr f02 (by decide)
  unfold surR surL
  by_cases q : wy A y G H 0 H.length 0 = 0
  · rw [if_pos q, if_pos q]
    exact ⟨σ2, p_X10_sure_0_1 c1 (vin (by decide) (by decide)) (by rw [c2.at0]; exact cap0.mpr q), mR.dep.fr c3 (by decide) (mR.dep.fr f0 (by decide) hL), f02⟩
  · rw [if_neg q, if_neg q]
    have g0 := m_shutOfn (d := d + 4) Q2.1
    obtain ⟨σ3, w3, f3⟩ := hq_w.for (x := 270) (d := d + 10) (i := 22) (fun k => [some (.ref 52), some (.int (nI (shut0 A))), some (.int (nI (smW A y G H k))), some (.int (nI k)), none, none]) (fun _ ρ => Fr [(68, 0)] σ2 ρ) H.length (fun k hk ρ fr => by
      have Q3 := Q2.fr fr (by decide)
      obtain ⟨ρ2, g1, g2⟩ := m_roomsBehind (d := d) Q3 (mW.dep.fr fr (by decide) c2) (k := k) (by omega)
      obtain ⟨ρ3, w4, f4⟩ := hq_w.for (x := 270) (d := d + 10) (i := 32) (fun m => [some (.ref 52), some (.int (nI (shut0 A))), some (.int (nI (smW A y G H k ||| smK A y G H k m))), some (.int (nI k)), some (.int (nI (rbh A y G H k))), some (.int (nI m))]) (fun _ ρ => Fr [(68, 0)] σ2 ρ) (A 0 0) (fun m hm μ fm => by
        have Q4 := Q2.fr fm (by decide)
        have lt : nI m < μ.1 52 3 := by rw [Q4.1.2.1]; exact nlt hm (by omega)
        obtain ⟨μ2, h1, h2⟩ := m_goesThrough (d := d + 1) Q4 (mW.dep.fr fm (by decide) c2) hm hk (rbh_lt (y := y) (G := G) (H := H) W k)
        have rl := rth_lt (A := A) (y := y) (G := G) (H := H) (k := k) (b := rbh A y G H k) W hm
        by_cases z : rth A y G H k (rbh A y G H k) m = 0
        · rw [z] at h1
          have e : smK A y G H k (m + 1) = smK A y G H k m := sbits_0 (by simpa using z)
          refine ⟨μ2, fun v τ kk => p_X10_sure_32_1 lt h1 rfl ?_, fm.tr h2⟩
          rw [e] at kk
          rw [orr, Nat.or_zero, nplus]; exact kk
        · have e : smK A y G H k (m + 1) = smK A y G H k m ||| 2 ^ m := sbits_1 (by simpa using z)
          refine ⟨μ2, fun v τ kk => p_X10_sure_32_2 lt h1 (nI_ne0 (by omega) (by omega)) ?_, fm.tr h2⟩
          rw [e, ← Nat.or_assoc] at kk
          rw [hn_shl m (by omega), orr, nplus]; exact kk) (σ := ρ2) (fr.tr g2)
      rw [show smK A y G H k 0 = 0 from rfl, Nat.or_zero] at w4
      have Q5 := Q2.fr f4 (by decide)
      refine ⟨ρ3, fun v τ kk => p_X10_sure_22_1 (by rw [Q3.2.2.2.2.1]; exact nlt hk (by omega)) g1 (w4 _ _ (p_X10_sure_32_3 ?_ ?_)), f4⟩
      · rw [Q5.1.2.1]; exact nI_nlt (Nat.le_refl _) (by omega)
      · rw [nplus]; exact kk) (σ := σ2) (Fr.rf σ2)
    have Q3 := Q2.fr f3 (by decide)
    obtain ⟨σ4, w5, f5⟩ := hq_w.for (x := 270) (d := d + 10) (i := 59) (fun j => [some (.ref 52), none, some (.int (nI (smW A y G H H.length))), some (.int (nI (alW A y G H j))), some (.int (nI j)), none]) (fun _ ρ => Fr [(68, 0), (81, 0)] σ2 ρ) (A 0 0) (fun j hj ρ fr => by
      have Q4 := Q2.fr fr (by decide)
      have lt : nI j < ρ.1 52 3 := by rw [Q4.1.2.1]; exact nlt hj (by omega)
      obtain ⟨ρ2, h1, h2, h3⟩ := m_laysWays (d := d + 1) (av := j + 1) (x := nI j) Q4 (fun e he => by rw [nI_eq (by omega) (by omega)]; omega)
      have a0 : ρ2.1 81 (nI 0).toNatClampNeg = nI (min 1000000 (wy A y G H (j + 1) H.length 0)) := h2 0 0 (Nat.le_refl _) (Nat.zero_le _) (by decide)
      by_cases z : wy A y G H (j + 1) H.length 0 = 0
      · have e : alW A y G H (j + 1) = alW A y G H j ||| 2 ^ j := sbits_1 (by simpa using z)
        refine ⟨ρ2, fun v τ kk => p_X10_sure_59_1 lt h1 (vin (by decide) (by decide)) (by rw [a0]; exact cap0.mpr z) ?_, fr.tr h3⟩
        rw [e] at kk
        rw [hn_shl j (by omega), orr, nplus]; exact kk
      · have e : alW A y G H (j + 1) = alW A y G H j := sbits_0 (by simpa using z)
        refine ⟨ρ2, fun v τ kk => p_X10_sure_59_2 lt h1 (vin (by decide) (by decide)) (by rw [a0]; exact fun y => z (cap0.mp y)) ?_, fr.tr h3⟩
        rw [e] at kk
        rw [orr, Nat.or_zero, nplus]; exact kk) (σ := σ3) (f3.up (by decide))
    have Q4 := Q2.fr f5 (by decide)
    have f6 : Fr [(52, 2), (53, 0)] σ4 (hq_sI σ4 52 1 (nI 0)) := (Fr.rf _).sI rfl
    obtain ⟨σ5, d1, d2, d3⟩ := m_enters (d := d + 8) (mR.nil (σ := σ4)) (by decide) (nI (smW A y G H H.length)).toInt64
    refine ⟨σ5, p_X10_sure_0_2 c1 (vin (by decide) (by decide)) (by rw [c2.at0]; exact fun y => q (cap0.mp y)) g0 (w3 _ _ (p_X10_sure_22_2 ?_ (w5 _ _ (p_X10_sure_59_3 ?_ d1)))), d2, f02.tr ((f5.up (by decide)).tr ((f6.tr d3).up (by decide)))⟩
    · rw [Q3.2.2.2.2.1]; exact nI_nlt (Nat.le_refl _) (by omega)
    · rw [Q4.1.2.1]; exact nI_nlt (Nat.le_refl _) (by omega)
end W4
