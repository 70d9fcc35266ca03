/-! change (class), public -/
theorem lc0 {a b : Nat} (ha : a < 2 ^ 63) (hb : b < 2 ^ 63) : lg_cmp (lN a) (lN b) = 0 ↔ a = b := (lg_cmp_eq (lN a) (lN b)).trans (pk_lEQ ha hb)
noncomputable def chgR (A : TA) (x : Int32) : Int32 := if inb x 0 63 then (if 8 < A 1 0 ∨ 4 < A 0 0 then -3 else match kO A x.toInt.toNat with
  | none => -2
  | some K => nI (K / 4096 ^ A 0 0)) else -1
noncomputable def chgL (A : TA) (x : Int32) (L : List Int64) : List Int64 := if inb x 0 63 then (if 8 < A 1 0 ∨ 4 < A 0 0 then L else match kO A x.toInt.toNat with
  | none => L
  | some K => qL (kQ A x.toInt.toNat K)) else L
section CD
variable {d : Nat} {A : TA} {F : Nat → Nat} {σ : hq_St}
theorem s_findChange (W : Wf A) (hD : A 0 0 ≤ 4) (hp : HP A F σ) (hK : kbOK A σ) {v : Nat} (hv : v ≤ 63) : ∃ o τ, hq_c 28 (d + 8) [.ref 33, .int (nI v)] σ (some (.int (bI o.isSome))) τ ∧ kP A v o ∧ (∀ K, o = some K → τ.1 33 17 = nI (K / 4096 ^ A 0 0) ∧ chC (kQ A v K) τ ∧ (kQ A v K).length = A 0 0) ∧ Fr [(33, 18), (33, 19), (43, 0)] σ τ := by
  have b1 := W.1
  have p8 : (2 : Nat) ^ A 0 0 ≤ 2 ^ 8 := Nat.pow_le_pow_right (by decide) b1
  have nk : NK = 1152921504606846976 := rfl
  have f0 : Fr [(33, 19), (43, 0)] σ (hq_sJ σ 33 18 (lN 1152921504606846976)) := (Fr.rf σ).sJ rfl
  obtain ⟨σ1, w1, ⟨K, k1, k2, k3, k4⟩, f1⟩ := hq_w.for (x := 28) (d := d + 8) (i := 5) (fun k => [some (.ref 33), some (.int (nI v)), some (.int (nI k)), none, none]) (fun k ρ => (∃ K, ρ.2 33 18 = lN K ∧ K ≤ NK ∧ (K = NK ∨ ∃ m c, m < k ∧ ndd A v m = true ∧ PDc A m c (A 0 0) ∧ wkC A m c = K) ∧ (∀ m c, m < k → ndd A v m = true → PDc A m c (A 0 0) → K ≤ wkC A m c)) ∧ Fr [(33, 19), (43, 0)] σ ρ) (2 ^ A 0 0) (fun k hk ρ ⟨⟨K, k1, k2, k3, k4⟩, fr⟩ => by
    have hp1 := HP.dep.fr fr (by decide) hp
    have hK1 := kbOK.dep.fr fr (by decide) hK
    have c1 : nI k < nI 1 <<< (ρ.1 33 13 &&& 31) := by rw [shlD hp1.1 b1]; exact nlt hk (by omega)
    have gn := s_isNeeded (d := d + 6) W hK1 (v := v) (m := k) hv hk
    cases hn : ndd A v k with
    | false =>
      rw [hn] at gn
      refine ⟨ρ, fun v τ kk => p_X1_findChange_5_1 c1 gn rfl (by rw [nplus]; exact kk), ⟨K, k1, k2, ?_, fun m c hm hnm P => ?_⟩, fr⟩
      · rcases k3 with z | ⟨m, c, a1, a2⟩
        · exact Or.inl z
        · exact Or.inr ⟨m, c, by omega, a2⟩
      · by_cases z : m = k
        · subst z; rw [hn] at hnm; cases hnm
        · exact k4 m c (by omega) hnm P
    | true =>
      rw [hn] at gn
      obtain ⟨ρ1, K', g1, g2, g3, g4, g5, g6, g7⟩ := s_tryPairs (d := d + 4 - A 0 0) W hD hk (A 0 0) 0 (fun _ => 0) ρ K (by omega) (fun f hf => by omega) (fun f hf => by omega) hp1 k1 k2
      rw [show d + 4 - A 0 0 + A 0 0 + 3 = d + 7 by omega] at g1
      refine ⟨ρ1, fun v τ kk => p_X1_findChange_5_2 c1 gn (by decide) g1 (by rw [nplus]; exact kk), ⟨K', g2, by omega, ?_, fun m c hm hnm P => ?_⟩, fr.tr g7⟩
      · rcases g4 with z | ⟨c', _, a2, a3⟩
        · rw [z]
          rcases k3 with y | ⟨m, c, a1, a2⟩
          · exact Or.inl y
          · exact Or.inr ⟨m, c, by omega, a2⟩
        · exact Or.inr ⟨k, c', by omega, hn, a2, a3⟩
      · by_cases z : m = k
        · subst z; exact g5 c (fun f hf => by omega) P
        · have := k4 m c (by omega) hnm P
          omega) (σ := hq_sJ σ 33 18 (lN 1152921504606846976)) ⟨⟨NK, sJ_eq, Nat.le_refl _, Or.inl rfl, fun m c hm => by omega⟩, f0⟩
  have hp1 := HP.dep.fr f1 (by decide) hp
  have cE : ¬ nI (2 ^ A 0 0) < nI 1 <<< (σ1.1 33 13 &&& 31) := by rw [shlD hp1.1 b1]; exact nI_nlt (Nat.le_refl _) (by omega)
  by_cases z : K = NK
  · have hP : kP A v none := kP_cand W (fun K h => by cases h) (fun m c hm hn P => by
      have h1 := k4 m c hm hn P
      have h2 := wkC_lt W hD P
      omega)
    refine ⟨none, σ1, p_X1_findChange_0_1 (w1 _ _ (p_X1_findChange_5_3 cE ?_)), hP, fun K h => (by cases h), f1.up (by decide)⟩
    rw [k1, lc0 (by omega) (by decide)]; exact z
  · obtain ⟨m, c, a1, a2, a3, a4⟩ : ∃ m c, m < 2 ^ A 0 0 ∧ ndd A v m = true ∧ PDc A m c (A 0 0) ∧ wkC A m c = K := by
      rcases k3 with y | y
      · exact absurd y z
      · exact y
    have hP : kP A v (some K) := kP_cand W (fun K' h => by cases h; exact ⟨m, c, a1, a2, a3, a4⟩) (fun m c hm hn P => ⟨K, rfl, k4 m c hm hn P⟩)
    have gX := yX_good W a1 a2 a3
    have eX : kyX A (yX A m c) = K := by rw [yX_key W a1 a3]; exact a4
    have x4 := X4 W gX
    obtain ⟨τ, t1, t2, t3, t4, t5⟩ := s_decode (d := d + 7) (X := yX A m c) (n := ncX A (yX A m c)) (ncX_le W _) (A 0 0) σ1 hD x4
    have eK : ncX A (yX A m c) * 4096 ^ A 0 0 + hvX (yX A m c) (A 0 0) = K := eX
    rw [eK] at t1
    refine ⟨some K, τ, p_X1_findChange_0_1 (w1 _ _ (p_X1_findChange_5_4 cE ?_ ?_)), hP, fun K' h => ?_, (f1.up (by decide)).tr (t5.up (by decide))⟩
    · rw [k1, lc0 (by omega) (by decide)]; exact z
    · rw [k1, hp1.1]; exact t1
    · have e : K = K' := by cases h; rfl
      subst e
      rw [kN_eq W gX eX, ← kQ_eq W gX eX]
      refine ⟨t2, fun i y hi => ?_, xL_len _ _⟩
      obtain ⟨i1, i2⟩ := xL_get _ hi
      rw [i2]
      exact ⟨x4 i i1, t3 i i1⟩
theorem s_change {L : List Int64} (R : Rc A σ) (hI : mI σ) (hL : cR L σ) (x : Int32) : ∃ τ, hq_c 140 (d + 14) [.ref 0, .int x] σ (some (.int (chgR A x))) τ ∧ cR (chgL A x L) τ ∧ mI τ ∧ Fr fHng σ τ := by
  have W := R.1
  have b1 := W.1
  have b2 := W.2.1
  have g0 := s_isAmount (d := d + 12) (σ := σ) x
  unfold chgR chgL
  cases c : inb x 0 63 with
  | false =>
    rw [c] at g0
    exact ⟨σ, p_X9_change_0_1 g0 rfl, hL, hI, Fr.rf σ⟩
  | true =>
    rw [c] at g0
    obtain ⟨v, _, hv, rfl⟩ := inb_of c
    rw [if_pos rfl, if_pos rfl, tn (by omega)]
    by_cases z1 : 8 < A 1 0
    · rw [if_pos (Or.inl z1), if_pos (Or.inl z1)]
      exact ⟨σ, p_X9_change_0_2 g0 (by decide) (by rw [R.2.2.1]; exact nlt z1 (by omega)), hL, hI, Fr.rf σ⟩
    · have c2 : ¬ nI 8 < σ.1 5 14 := by rw [R.2.2.1]; exact nI_nlt (by omega) (by omega)
      by_cases z2 : 4 < A 0 0
      · rw [if_pos (Or.inr z2), if_pos (Or.inr z2)]
        exact ⟨σ, p_X9_change_0_3 g0 (by decide) c2 (by rw [R.2.1]; exact nlt z2 (by omega)), hL, hI, Fr.rf σ⟩
      · have c3 : ¬ nI 4 < σ.1 5 13 := by rw [R.2.1]; exact nI_nlt (by omega) (by omega)
        rw [if_neg (by omega), if_neg (by omega)]
        obtain ⟨ρ1, g1, hp, f1⟩ := s_prepare (d := d + 9) R false
        obtain ⟨ρ2, g2, hK, f2⟩ := s_lookRound (d := d + 10) (Rc.dep.fr f1 (by decide) R)
        have hp2 := hp.look hK f2
        obtain ⟨o, ρ3, x1, x2, x3, x4⟩ := s_findChange (d := d + 5) W (by omega) hp2 hK hv
        have F3 : Fr fHng σ ρ3 := (f1.up (by decide)).tr ((f2.up (by decide)).tr (x4.up (by decide)))
        have I3 := mI.dep.fr x4 (by decide) (mI.dep.fr f2 (by decide) (mI.dep.fr f1 (by decide) hI))
        rw [← kO_eq x2]
        cases o with
        | none => exact ⟨ρ3, p_X9_change_0_4 g0 (by decide) c2 c3 g1 g2 x1 rfl, cR.dep.fr x4 (by decide) (cR.dep.fr f2 (by decide) (cR.dep.fr f1 (by decide) hL)), I3, F3⟩
        | some K =>
          obtain ⟨y1, y2, y3⟩ := x3 K rfl
          obtain ⟨ρ4, u1, u2, u3⟩ := s_clear (d := d + 12) (σ := ρ3)
          have h13 : ρ4.1 33 13 = nI (A 0 0) := by rw [u3.i rfl, x4.i rfl]; exact hp2.1
          obtain ⟨ρ5, t1, t2, t3⟩ := s_tell (d := d + 11) h13 b1 u2 (by decide) y3 (chC.dep.fr u3 (by decide) y2)
          have Q := p_X9_change_0_5 g0 (by decide) c2 c3 g1 g2 x1 (show ¬ bI true = 0 by decide) u1 t1
          rw [t3.i rfl, u3.i rfl, y1] at Q
          exact ⟨ρ5, Q, t2, mI.dep.fr t3 (by decide) (mI.dep.fr u3 (by decide) I3), F3.tr ((u3.up (by decide)).tr (t3.up (by decide)))⟩
end CD
