/-! change (reference) -/
/-- the best so far: fewest changes, its hanging -/
def bO (A : TA) (o : Option Nat) (σ : hq_St) : Prop := match o with
  | none => σ.1 52 44 = -1
  | some K => ∃ X n, K = n * 4096 ^ A 0 0 + hvX X (A 0 0) ∧ n ≤ 12 ∧ (∀ f, f < A 0 0 → X f < 4096) ∧ σ.1 52 44 = nI n ∧ ∀ f, f < A 0 0 → σ.1 79 f = nI (X f)
theorem bO.dep {A : TA} {o : Option Nat} : Dep [(52, 45), (79, 0)] (bO A o) := fun σ τ q h => by
  cases o with
  | none => exact ((q 52 44 rfl).1).trans h
  | some K =>
    obtain ⟨X, n, h1, h2, h3, h4, h5⟩ := h
    exact ⟨X, n, h1, h2, h3, ((q 52 44 rfl).1).trans h4, fun f hf => ((q 79 f rfl).1).trans (h5 f hf)⟩
def oLe (o : Option Nat) (K : Nat) : Prop := ∃ K', o = some K' ∧ K' ≤ K
theorem VX_congr {A : TA} {X Y : Nat → Nat} : ∀ {n : Nat}, (∀ f, f < n → Y f = X f) → VX A X n → VX A Y n := fun {n} e V f hf => by
  have un : ∀ k, k ≤ n → unX Y k = unX X k := by
    intro k
    induction k with
    | zero => intro _; rfl
    | succ k ih => intro hk; unfold unX; rw [ih (by omega), e k (by omega)]
  rw [e f hf, un f (by omega)]
  exact V f hf
theorem unX_congr {X Y : Nat → Nat} : ∀ n, (∀ f, f < n → Y f = X f) → unX Y n = unX X n
  | 0, _ => rfl
  | n + 1, h => by unfold unX; rw [unX_congr n (fun f hf => h f (by omega)), h n (by omega)]
theorem shX_congr {A : TA} {X Y : Nat → Nat} {n : Nat} (h : ∀ f, f < n → Y f = X f) : shX A Y n = shX A X n := sbits_congr (fun f hf => by rw [h f hf])
theorem up_lo {X : Nat → Nat} {e b : Nat} : ∀ f, f < e → upN X e b f = X f := fun f hf => by unfold upN; rw [if_neg (by omega)]
theorem up_at {X : Nat → Nat} {e b : Nat} : upN X e b e = b := by unfold upN; rw [if_pos rfl]
theorem hv_ext {X Y : Nat → Nat} {D e : Nat} (x4 : ∀ f, f < D → Y f < 4096) (y1 : ∀ f, f < e → Y f = X f) : ∀ j, e + j ≤ D → hvX Y (e + j) < (hvX X e + 1) * 4096 ^ j
  | 0, _ => by
    rw [Nat.add_zero, hvX_congr _ y1, Nat.pow_zero, Nat.mul_one]
    exact Nat.lt_succ_self _
  | j + 1, hj => by
    have i1 := hv_ext x4 y1 j (by omega)
    have xj := x4 (e + j) (by omega)
    have e1 : hvX Y (e + (j + 1)) = hvX Y (e + j) * 4096 + Y (e + j) := rfl
    have e2 : (hvX X e + 1) * 4096 ^ (j + 1) = (hvX X e + 1) * 4096 ^ j * 4096 := by rw [Nat.pow_succ, Nat.mul_assoc]
    rw [e1, e2]
    generalize (hvX X e + 1) * 4096 ^ j = B at i1
    omega
section CM
variable {d : Nat} {A : TA} {σ : hq_St}
/-- a whole hanging is weighed -/
theorem m_leaf (R : Rm 61 A σ) {v : Nat} (hv : v ≤ 63) {X : Nat → Nat} (V : VX A X (A 0 0)) (hX : ∀ f, f < A 0 0 → σ.1 78 f = nI (X f)) {o : Option Nat} (hb : bO A o σ) (ord : ∀ K, o = some K → K % 4096 ^ A 0 0 < hvX X (A 0 0)) (u : Int32) : ∃ o' τ, hq_c 255 (d + 4) [.ref 52, .int (nI (A 0 0)), .int u, .int (nI (shX A X (A 0 0))), .int (nI v)] σ none τ ∧ bO A o' τ ∧ (o' = o ∨ (gdX A v X ∧ o' = some (kyX A X))) ∧ (∀ K, o = some K → oLe o' K) ∧ (gdX A v X → oLe o' (kyX A X)) ∧ Fr [(52, 45), (79, 0)] σ τ := by
  have W := R.1
  have b1 := W.1
  have b2 := W.2.1
  have p8 : (2 : Nat) ^ A 0 0 ≤ 2 ^ 8 := Nat.pow_le_pow_right (by decide) b1
  have p12 : (2 : Nat) ^ A 1 0 ≤ 2 ^ 12 := Nat.pow_le_pow_right (by decide) b2
  have sl : shX A X (A 0 0) < 2 ^ A 0 0 := sbits_lt _ _
  have gk := m_keptByn (d := d) (s := shX A X (A 0 0)) R (by omega)
  have kl := keptA_le W (shX A X (A 0 0))
  have c1 : nI (A 0 0) = σ.1 52 3 := R.2.1.symm
  by_cases z : keptA A (shX A X (A 0 0)) < v
  · exact ⟨o, σ, p_X10_changesFrom_0_1 c1 gk (nlt z (by omega)), hb, Or.inl rfl, fun K h => ⟨K, h, Nat.le_refl _⟩, fun g => by have := g.2; omega, Fr.rf σ⟩
  · have gX : gdX A v X := ⟨V, by omega⟩
    have x4 := X4 W gX
    have c2 : ¬ nI (keptA A (shX A X (A 0 0))) < nI v := nI_nlt (by omega) (by omega)
    -- changes counted
    have cnt : ∀ {w : Option Value} {τ : hq_St}, hq_m 255 (d + 4) w τ 14 [some (.ref 52), none, none, none, none, some (.int (nI (ncX A X))), some (.int (nI (A 1 0))), none, none] [] σ → hq_m 255 (d + 4) w τ 14 [some (.ref 52), none, none, none, none, some (.int (nI 0)), some (.int (nI 0)), none, none] [] σ := fun {w τ} fin => by
      refine hq_m.for (fun h => [some (.ref 52), none, none, none, none, some (.int (nI (psum (fun h => decide (thN X h (A 0 0) ≠ A 11 h)) (fun _ => 1) h))), some (.int (nI h)), none, none]) (fun _ => σ) (A 1 0) ?_ fin 0 (Nat.zero_le _)
      intro h hh ih
      have w7 := (W.2.2.2.1 h hh).2.2.2.2.2.2.1
      have tl := thN_le (X := X) (h := h) (A 0 0)
      have ch : (nI h).toNatClampNeg = h := clamp (by omega)
      have e61 : σ.1 61 (nI h).toNatClampNeg = nI (A 11 h) - nI 1 := by rw [ch]; exact (R.2.2.2.2.2.1 h hh).1
      refine p_X10_changesFrom_14_1 (by rw [R.2.2.1]; exact nlt hh (by omega)) ?_
      have inner : hq_m 255 (d + 4) w τ 22 [some (.ref 52), none, none, none, none, some (.int (nI (psum (fun h => decide (thN X h (A 0 0) ≠ A 11 h)) (fun _ => 1) h))), some (.int (nI h)), some (.int (nI (thN X h (A 0 0)) - nI 1)), some (.int (nI (A 0 0)))] [] σ → hq_m 255 (d + 4) w τ 22 [some (.ref 52), none, none, none, none, some (.int (nI (psum (fun h => decide (thN X h (A 0 0) ≠ A 11 h)) (fun _ => 1) h))), some (.int (nI h)), some (.int (nI (thN X h 0) - nI 1)), some (.int (nI 0))] [] σ := fun fin2 => by
        refine hq_m.for (fun f => [some (.ref 52), none, none, none, none, some (.int (nI (psum (fun h => decide (thN X h (A 0 0) ≠ A 11 h)) (fun _ => 1) h))), some (.int (nI h)), some (.int (nI (thN X h f) - nI 1)), some (.int (nI f))]) (fun _ => σ) (A 0 0) ?_ fin2 0 (Nat.zero_le _)
        intro f hf ih2
        have cf : (nI f).toNatClampNeg = f := clamp (by omega)
        have xf := x4 f hf
        have gh := m_hasN (d := d + 2) (σ := σ) (n := X f) (k := h) (by omega) (by omega)
        have e78 : σ.1 78 (nI f).toNatClampNeg = nI (X f) := by rw [cf]; exact hX f hf
        have cc : nI f < σ.1 52 3 := by rw [R.2.1]; exact nlt hf (by omega)
        have oo : vp_in (nI f) 8 := vin (by omega) (by decide)
        have et : thN X h (f + 1) = if (X f).testBit h then f + 1 else thN X h f := rfl
        rw [et] at ih2
        cases hbit : (X f).testBit h with
        | false =>
          rw [hbit] at gh ih2
          refine p_X10_changesFrom_22_1 cc oo (by rw [e78]; exact gh) rfl ?_
          rw [nplus]; exact ih2
        | true =>
          rw [hbit, if_pos rfl, pr1] at ih2
          rw [hbit] at gh
          refine p_X10_changesFrom_22_2 cc oo (by rw [e78]; exact gh) (by decide) ?_
          rw [nplus]; exact ih2
      have e0 : nI (thN X h 0) - nI 1 = (-1 : Int32) := by
        show nI 0 - nI 1 = _
        decide
      rw [e0] at inner
      refine inner ?_
      have cE : ¬ nI (A 0 0) < σ.1 52 3 := by rw [R.2.1]; exact nI_nlt (Nat.le_refl _) (by omega)
      have oh : vp_in (nI h) 50 := vin (by omega) (by decide)
      have ps : psum (fun h => decide (thN X h (A 0 0) ≠ A 11 h)) (fun _ => 1) (h + 1) = psum (fun h => decide (thN X h (A 0 0) ≠ A 11 h)) (fun _ => 1) h + (if decide (thN X h (A 0 0) ≠ A 11 h) then 1 else 0) := rfl
      rw [ps] at ih
      by_cases q : thN X h (A 0 0) = A 11 h
      · refine p_X10_changesFrom_22_3 cE oh (by rw [e61, q]) (m_flag (d := d + 2) (σ := σ) false) ?_
        rw [show decide (thN X h (A 0 0) ≠ A 11 h) = false by simp [q]] at ih
        show hq_m 255 (d + 4) w τ 14 [some (.ref 52), none, none, none, none, some (.int (nI _ + nI 0)), some (.int (nI h + nI 1)), none, none] [] σ
        rw [nplus, nplus]; exact ih
      · refine p_X10_changesFrom_22_4 cE oh (by
          rw [e61]
          intro y
          apply q
          have y2 : nI (thN X h (A 0 0)) = nI (A 11 h) := by
            have := congrArg (fun t => t + nI 1) y
            simpa using this
          exact (nI_eq (by omega) (by omega)).mp y2) (m_flag (d := d + 2) (σ := σ) true) ?_
        rw [show decide (thN X h (A 0 0) ≠ A 11 h) = true by simp [q]] at ih
        show hq_m 255 (d + 4) w τ 14 [some (.ref 52), none, none, none, none, some (.int (nI _ + nI 1)), some (.int (nI h + nI 1)), none, none] [] σ
        rw [nplus, nplus]; exact ih
    have n12 := ncX_le W X
    have cH : ¬ nI (A 1 0) < σ.1 52 4 := by rw [R.2.2.1]; exact nI_nlt (Nat.le_refl _) (by omega)
    have hl := hvX_lt _ x4
    -- the new best
    have fS : Fr [(52, 45), (79, 0)] σ (hq_sI σ 52 44 (nI (ncX A X))) := (Fr.rf σ).sI rfl
    obtain ⟨τ, w, tv, ft⟩ := hq_w.for (x := 255) (d := d + 4) (i := 66) (fun f => [some (.ref 52), none, none, none, none, none, some (.int (nI f)), none, none]) (fun f ρ => (∀ g, g < f → ρ.1 79 g = nI (X g)) ∧ Fr [(79, 0)] (hq_sI σ 52 44 (nI (ncX A X))) ρ) (A 0 0) (fun f hf ρ ⟨tv, ft⟩ => by
      have cf : (nI f).toNatClampNeg = f := clamp (by omega)
      have oo : vp_in (nI f) 8 := vin (by omega) (by decide)
      refine ⟨hq_sI ρ 79 f (nI (X f)), fun v τ k => p_X10_changesFrom_66_1 (by rw [ft.i rfl, fS.i rfl, R.2.1]; exact nlt hf (by omega)) oo oo ?_, fun g hg => ?_, ft.sI rfl⟩
      · rw [cf, ft.i rfl, fS.i rfl, hX f hf, nplus]; exact k
      · by_cases y : g = f
        · rw [y, sI_eq]
        · rw [sI_slot y]; exact tv g (by omega)) (σ := hq_sI σ 52 44 (nI (ncX A X))) ⟨fun g hg => by omega, Fr.rf _⟩
    have bN : bO A (some (kyX A X)) τ := ⟨X, ncX A X, rfl, n12, x4, by rw [ft.i rfl, sI_eq], tv⟩
    have F : Fr [(52, 45), (79, 0)] σ τ := fS.tr (ft.up (by decide))
    have w := w none τ (p_X10_changesFrom_66_2 (by rw [ft.i rfl, fS.i rfl, R.2.1]; exact nI_nlt (Nat.le_refl _) (by omega)))
    cases o with
    | none =>
      exact ⟨some (kyX A X), τ, p_X10_changesFrom_0_2 c1 gk c2 (cnt (p_X10_changesFrom_14_2 cH (by rw [show σ.1 52 44 = -1 from hb]; decide) w)), bN, Or.inr ⟨gX, rfl⟩, (fun K h => by cases h), fun _ => ⟨_, rfl, Nat.le_refl _⟩, F⟩
    | some K =>
      obtain ⟨Y, n, y1, y2, y3, y4, y5⟩ := hb
      have o1 := ord K rfl
      have yl := hvX_lt _ y3
      have e1 : K % 4096 ^ A 0 0 = hvX Y (A 0 0) := by rw [y1, Nat.add_comm, Nat.add_mul_mod_self_right, Nat.mod_eq_of_lt yl]
      rw [e1] at o1
      have nn : ¬ σ.1 52 44 < 0 := by rw [y4]; exact fun z => by rw [ltz, nI_toInt (by omega)] at z; omega
      by_cases q : ncX A X < n
      · have le : kyX A X ≤ K := by
          rw [y1]
          unfold kyX
          have : (ncX A X + 1) * 4096 ^ A 0 0 ≤ n * 4096 ^ A 0 0 := Nat.mul_le_mul_right _ (by omega)
          rw [Nat.succ_mul] at this
          omega
        exact ⟨some (kyX A X), τ, p_X10_changesFrom_0_2 c1 gk c2 (cnt (p_X10_changesFrom_14_3 cH nn (by rw [y4]; exact nlt q (by omega)) w)), bN, Or.inr ⟨gX, rfl⟩, (fun K' h => by cases h; exact ⟨_, rfl, le⟩), fun _ => ⟨_, rfl, Nat.le_refl _⟩, F⟩
      · refine ⟨some K, σ, p_X10_changesFrom_0_2 c1 gk c2 (cnt (p_X10_changesFrom_14_4 cH nn (by rw [y4]; exact nI_nlt (by omega) (by omega)))), ⟨Y, n, y1, y2, y3, y4, y5⟩, Or.inl rfl, fun K' h => ⟨K, rfl, by cases h; exact Nat.le_refl _⟩, fun _ => ⟨K, rfl, ?_⟩, Fr.rf σ⟩
        rw [y1]
        unfold kyX
        have : n * 4096 ^ A 0 0 ≤ ncX A X * 4096 ^ A 0 0 := Nat.mul_le_mul_right _ (by omega)
        omega
theorem m_changesFrom {v : Nat} (hv : v ≤ 63) : ∀ k e X σ o, e + k = A 0 0 → VX A X e → (∀ f, f < e → σ.1 78 f = nI (X f)) → Rm 61 A σ → bO A o σ → (∀ K, o = some K → K % 4096 ^ A 0 0 < hvX X e * 4096 ^ k) → ∃ o' τ, hq_c 255 (d + k + 4) [.ref 52, .int (nI e), .int (nI (unX X e)), .int (nI (shX A X e)), .int (nI v)] σ none τ ∧ bO A o' τ ∧ (o' = o ∨ ∃ Y, (∀ f, f < e → Y f = X f) ∧ gdX A v Y ∧ o' = some (kyX A Y)) ∧ (∀ K, o = some K → oLe o' K) ∧ (∀ Y, (∀ f, f < e → Y f = X f) → gdX A v Y → oLe o' (kyX A Y)) ∧ (∀ f, f < e → τ.1 78 f = σ.1 78 f) ∧ Fr [(52, 45), (78, 0), (79, 0)] σ τ := by
  intro k
  induction k with
  | zero =>
    intro e X σ o he V hX R hb ord
    have : e = A 0 0 := by omega
    subst this
    obtain ⟨o', τ, g1, g2, g3, g4, g5, g6⟩ := m_leaf (d := d) R hv V hX hb (fun K h => by have := ord K h; rwa [Nat.pow_zero, Nat.mul_one] at this) (nI (unX X (A 0 0)))
    refine ⟨o', τ, g1, g2, ?_, g4, fun Y hY gY => ?_, fun f _ => g6.i rfl, g6.up (by decide)⟩
    · rcases g3 with z | ⟨a, b⟩
      · exact Or.inl z
      · exact Or.inr ⟨X, fun _ _ => rfl, a, b⟩
    · have e1 : kyX A Y = kyX A X := kyX_congr hY
      rw [e1]
      refine g5 ⟨V, ?_⟩
      rw [← shX_congr hY]; exact gY.2
  | succ k ih =>
    intro e X σ o he V hX R hb ord
    have W := R.1
    have b1 := W.1
    have b2 := W.2.1
    have p12 : (2 : Nat) ^ A 1 0 ≤ 2 ^ 12 := Nat.pow_le_pow_right (by decide) b2
    have eD : e < A 0 0 := by omega
    have c1 : ¬ nI e = σ.1 52 3 := by rw [R.2.1, nI_eq (by omega) (by omega)]; omega
    have oe : vp_in (nI e) 8 := vin (by omega) (by decide)
    have ce : (nI e).toNatClampNeg = e := clamp (by omega)
    have ul : unX X e < 2 ^ A 1 0 := lt_bits (fun i hi => by
      obtain ⟨f, h1, h2⟩ := (unX_test _).mp hi
      exact bit_lt (V f h1).1 h2)
    have pk : 4096 ^ (k + 1) = 4096 ^ k * 4096 := Nat.pow_succ 4096 k
    have loop : ∀ q n ρ o1, n + q = 2 ^ A 1 0 → bO A o1 ρ → (o1 = o ∨ ∃ Y, (∀ f, f < e → Y f = X f) ∧ gdX A v Y ∧ o1 = some (kyX A Y)) → (∀ K, o = some K → oLe o1 K) → (∀ Y, (∀ f, f < e → Y f = X f) → gdX A v Y → Y e < n → oLe o1 (kyX A Y)) → (∀ K, o1 = some K → K % 4096 ^ A 0 0 < (hvX X e * 4096 + n) * 4096 ^ k) → (∀ f, f < e → ρ.1 78 f = σ.1 78 f) → Fr [(52, 45), (78, 0), (79, 0)] σ ρ → ∃ o' τ, hq_m 255 (d + (k + 1) + 4) none τ 83 [some (.ref 52), some (.int (nI e)), some (.int (nI (unX X e))), some (.int (nI (shX A X e))), some (.int (nI v)), some (.int (nI n)), none, none, none] [] ρ ∧ bO A o' τ ∧ (o' = o ∨ ∃ Y, (∀ f, f < e → Y f = X f) ∧ gdX A v Y ∧ o' = some (kyX A Y)) ∧ (∀ K, o = some K → oLe o' K) ∧ (∀ Y, (∀ f, f < e → Y f = X f) → gdX A v Y → oLe o' (kyX A Y)) ∧ (∀ f, f < e → τ.1 78 f = σ.1 78 f) ∧ Fr [(52, 45), (78, 0), (79, 0)] σ τ := by
      intro q
      induction q with
      | zero =>
        intro n ρ o1 hn hbo hw hle hall hord hcell fr
        refine ⟨o1, ρ, p_X10_changesFrom_83_6 (by rw [fr.i rfl, R.2.2.1, hn_shl _ (by omega)]; exact nI_nlt (by omega) (by omega)), hbo, hw, hle, fun Y hY gY => hall Y hY gY ?_, hcell, fr⟩
        have := (gY.1 e eD).1
        omega
      | succ q ihq =>
        intro n ρ o1 hn hbo hw hle hall hord hcell fr
        have Rρ := Rm.depn.fr fr (by decide) R
        have c2 : nI n < nI 1 <<< (ρ.1 52 4 &&& 31) := by rw [Rρ.2.2.1, hn_shl _ (by omega)]; exact nlt (by omega) (by omega)
        have gb := s_bitCount (d := d + k + 3) (σ := ρ) (n := n) (by omega)
        have pl := pop_le n
        have skip : (¬ ∃ Y, (∀ f, f < e → Y f = X f) ∧ gdX A v Y ∧ Y e = n) → ∃ o' τ, hq_m 255 (d + (k + 1) + 4) none τ 83 [some (.ref 52), some (.int (nI e)), some (.int (nI (unX X e))), some (.int (nI (shX A X e))), some (.int (nI v)), some (.int (nI (n + 1))), none, none, none] [] ρ ∧ bO A o' τ ∧ (o' = o ∨ ∃ Y, (∀ f, f < e → Y f = X f) ∧ gdX A v Y ∧ o' = some (kyX A Y)) ∧ (∀ K, o = some K → oLe o' K) ∧ (∀ Y, (∀ f, f < e → Y f = X f) → gdX A v Y → oLe o' (kyX A Y)) ∧ (∀ f, f < e → τ.1 78 f = σ.1 78 f) ∧ Fr [(52, 45), (78, 0), (79, 0)] σ τ := fun hno => ihq (n + 1) ρ o1 (by omega) hbo hw hle (fun Y hY gY hlt => by
            by_cases z : Y e = n
            · exact absurd ⟨Y, hY, gY, z⟩ hno
            · exact hall Y hY gY (by omega)) (fun K h => by
            have := hord K h
            have : (hvX X e * 4096 + n) * 4096 ^ k ≤ (hvX X e * 4096 + (n + 1)) * 4096 ^ k := Nat.mul_le_mul_right _ (by omega)
            omega) hcell fr
        by_cases z1 : 2 < pop n
        · obtain ⟨o', τ, w1, w2⟩ := skip (fun ⟨Y, _, gY, ye⟩ => by have := (gY.1 e eD).2.1; rw [ye] at this; omega)
          exact ⟨o', τ, p_X10_changesFrom_83_1 c2 gb (nlt z1 (by omega)) (by rw [nplus]; exact w1), w2⟩
        · have c3 : ¬ nI 2 < nI (pop n) := nI_nlt (by omega) (by omega)
          have hnu : nI n &&& nI (unX X e) = 0 ↔ n &&& unX X e = 0 := by
            rw [fa_and]
            have lb : n &&& unX X e ≤ unX X e := Nat.and_le_right
            constructor
            · intro h
              apply Classical.byContradiction
              intro y
              exact nI_ne0 (by omega) (by omega) h
            · intro h; rw [h]; rfl
          by_cases z2 : n &&& unX X e = 0
          · have gf := m_allFit (d := d + k + 2) Rρ (n := n) (e := e) (by omega) eD
            cases z3 : fitA A n e (A 1 0) with
            | false =>
              rw [z3] at gf
              obtain ⟨o', τ, w1, w2⟩ := skip (fun ⟨Y, _, gY, ye⟩ => by have := (gY.1 e eD).2.2.1; rw [ye, z3] at this; cases this)
              exact ⟨o', τ, p_X10_changesFrom_83_2 c2 gb c3 (hnu.mpr z2) gf rfl (by rw [nplus]; exact w1), w2⟩
            | true =>
              rw [z3] at gf
              have f1 : Fr [(52, 45), (78, 0), (79, 0)] ρ (hq_sI ρ 78 e (nI n)) := (Fr.rf ρ).sI rfl
              have f1' : Fr [(78, 0)] ρ (hq_sI ρ 78 e (nI n)) := (Fr.rf ρ).sI rfl
              have V1 : VX A (upN X e n) (e + 1) := fun f hf => by
                by_cases y : f = e
                · subst y
                  rw [up_at, unX_congr _ up_lo]
                  exact ⟨by omega, by omega, z3, z2⟩
                · exact VX_congr (up_lo (X := X) (e := e) (b := n)) V f (by omega)
              have u1 : unX (upN X e n) (e + 1) = unX X e ||| n := by
                show unX (upN X e n) e ||| upN X e n e = _
                rw [up_at, unX_congr _ up_lo]
              have h1 : hvX (upN X e n) (e + 1) = hvX X e * 4096 + n := by
                show hvX (upN X e n) e * 4096 + upN X e n e = _
                rw [up_at, hvX_congr _ up_lo]
              have R1 := Rm.depn.fr f1 (by decide) Rρ
              obtain ⟨o2, ρ2, g1, g2, g3, g4, g5, g6, g7⟩ := ih (e + 1) (upN X e n) (hq_sI ρ 78 e (nI n)) o1 (by omega) V1 (fun f hf => by
                unfold upN
                by_cases y : f = e
                · subst y; rw [if_pos rfl, sI_eq]
                · rw [if_neg y, sI_slot y, hcell f (by omega)]; exact hX f (by omega)) R1 (bO.dep.fr f1' (by decide) hbo) (by rw [h1]; exact hord)
              have lo2 : ∀ Y : Nat → Nat, (∀ f, f < e + 1 → Y f = upN X e n f) → (∀ f, f < e → Y f = X f) ∧ Y e = n := fun Y hY => ⟨fun f hf => (hY f (by omega)).trans (up_lo f hf), (hY e (by omega)).trans up_at⟩
              have rec1 : ∀ o', o' = o1 ∨ (∃ Y, (∀ f, f < e + 1 → Y f = upN X e n f) ∧ gdX A v Y ∧ o' = some (kyX A Y)) → ∀ K, o' = some K → K % 4096 ^ A 0 0 < (hvX X e * 4096 + (n + 1)) * 4096 ^ k := fun o' ho K hK => by
                have st : (hvX X e * 4096 + (n + 1)) * 4096 ^ k = (hvX X e * 4096 + n) * 4096 ^ k + 4096 ^ k := by rw [← Nat.add_assoc, Nat.add_mul _ 1, Nat.one_mul]
                rcases ho with y | ⟨Y, y1, y2, y3⟩
                · rw [y] at hK
                  have := hord K hK
                  omega
                · rw [hK] at y3
                  cases y3
                  have x4 := X4 W y2
                  have hl := hvX_lt _ x4
                  have em : kyX A Y % 4096 ^ A 0 0 = hvX Y (A 0 0) := by
                    unfold kyX
                    rw [Nat.add_comm, Nat.add_mul_mod_self_right, Nat.mod_eq_of_lt hl]
                  rw [em]
                  have ext : ∀ j, e + 1 + j ≤ A 0 0 → hvX Y (e + 1 + j) < (hvX (upN X e n) (e + 1) + 1) * 4096 ^ j := hv_ext x4 y1
                  have := ext k (by omega)
                  rw [show e + 1 + k = A 0 0 by omega, h1] at this
                  rw [← Nat.add_assoc]
                  exact this
              have trans : ∀ K, oLe o1 K → oLe o2 K := fun K ⟨K1, a, b⟩ => by
                obtain ⟨K2, c, dd⟩ := g4 K1 a
                exact ⟨K2, c, by omega⟩
              obtain ⟨o', τ, w1, w2⟩ := ihq (n + 1) ρ2 o2 (by omega) g2 (by
                rcases g3 with y | ⟨Y, y1, y2⟩
                · rw [y]; exact hw
                · exact Or.inr ⟨Y, (lo2 Y y1).1, y2⟩) (fun K h => trans K (hle K h)) (fun Y hY gY hlt => by
                by_cases y : Y e = n
                · refine g5 Y (fun f hf => ?_) gY
                  by_cases yy : f = e
                  · subst yy; rw [up_at]; exact y
                  · rw [up_lo f (by omega)]; exact hY f (by omega)
                · exact trans _ (hall Y hY gY (by omega))) (rec1 o2 g3) (fun f hf => by rw [g6 f (by omega), sI_slot (by omega)]; exact hcell f hf) (fr.tr (f1.tr g7))
              have gs := m_shutsn (d := d + k + 1) R1 eD (n := n) (by omega)
              rw [u1] at g1
              have s1 : shX A (upN X e n) (e + 1) = shX A X e ||| (if shutF A (h0 A) e n then 2 ^ e else 0) := by
                show sbits (fun f => shutF A (h0 A) f (upN X e n f)) e ||| (if shutF A (h0 A) e (upN X e n e) then 2 ^ e else 0) = _
                rw [up_at]
                have : sbits (fun f => shutF A (h0 A) f (upN X e n f)) e = shX A X e := shX_congr up_lo
                rw [this]
              rw [s1] at g1
              cases z4 : shutF A (h0 A) e n with
              | false =>
                rw [z4] at gs g1
                rw [if_neg (by decide), Nat.or_zero] at g1
                exact ⟨o', τ, p_X10_changesFrom_83_3 c2 gb c3 (hnu.mpr z2) gf (by decide) oe (by rw [ce]; exact gs) rfl (by rw [orr, nplus]; exact g1) (by rw [nplus]; exact w1), w2⟩
              | true =>
                rw [z4] at gs g1
                rw [if_pos rfl] at g1
                exact ⟨o', τ, p_X10_changesFrom_83_4 c2 gb c3 (hnu.mpr z2) gf (by decide) oe (by rw [ce]; exact gs) (by decide) (by rw [orr, nplus, hn_shl e (by omega), orr]; exact g1) (by rw [nplus]; exact w1), w2⟩
          · obtain ⟨o', τ, w1, w2⟩ := skip (fun ⟨Y, hY, gY, ye⟩ => by have := (gY.1 e eD).2.2.2; rw [ye, unX_congr _ hY] at this; exact z2 this)
            exact ⟨o', τ, p_X10_changesFrom_83_5 c2 gb c3 (fun h => z2 (hnu.mp h)) (by rw [nplus]; exact w1), w2⟩
    obtain ⟨o', τ, w1, w2⟩ := loop (2 ^ A 1 0) 0 σ o (by omega) hb (Or.inl rfl) (fun K h => ⟨K, h, Nat.le_refl _⟩) (fun Y _ _ h => by omega) (fun K h => by
      have := ord K h
      rw [pk, Nat.mul_comm (4096 ^ k) 4096, ← Nat.mul_assoc] at this
      rw [Nat.add_zero]; exact this) (fun f _ => rfl) (Fr.rf σ)
    exact ⟨o', τ, p_X10_changesFrom_0_3 c1 w1, w2⟩
def fMc : List (Nat × Nat) := [(52, 1), (52, 2), (52, 45), (53, 0), (78, 0), (79, 0)]
theorem m_change {L : List Int64} (R : Rm 61 A σ) (hL : mR L σ) (x : Int32) : ∃ τ, hq_c 256 (d + 14) [.ref 52, .int x] σ (some (.int (chgR A x))) τ ∧ mR (chgL A x L) τ ∧ Fr fMc σ τ := by
  have W := R.1
  have b1 := W.1
  have b2 := W.2.1
  have f0 : Fr fMc σ (hq_sI σ 52 0 (nI 0)) := (Fr.rf σ).sI rfl
  have R0 : Rm 61 A (hq_sI σ 52 0 (nI 0)) := R.th
  have L0 : mR L (hq_sI σ 52 0 (nI 0)) := hL.th
  have g0 := m_inb (d := d + 12) (σ := hq_sI σ 52 0 (nI 0)) x (a := 0) (b := 63) (by decide) (by decide)
  unfold chgR chgL
  cases c : inb x 0 63 with
  | false =>
    rw [c] at g0
    exact ⟨_, p_X10_change_0_1 g0 rfl, L0, f0⟩
  | true =>
    rw [c] at g0
    obtain ⟨v, _, hv, rfl⟩ := inb_of c
    rw [if_pos rfl, if_pos rfl, tn (by omega)]
    by_cases z1 : 8 < A 1 0
    · rw [if_pos (Or.inl z1), if_pos (Or.inl z1)]
      exact ⟨_, p_X10_change_0_2 g0 (by decide) (by rw [R0.2.2.1]; exact nlt z1 (by omega)), L0, f0⟩
    · have c2 : ¬ nI 8 < (hq_sI σ 52 0 (nI 0)).1 52 4 := by rw [R0.2.2.1]; exact nI_nlt (by omega) (by omega)
      by_cases z2 : 4 < A 0 0
      · rw [if_pos (Or.inr z2), if_pos (Or.inr z2)]
        exact ⟨_, p_X10_change_0_3 g0 (by decide) c2 (by rw [R0.2.1]; exact nlt z2 (by omega)), L0, f0⟩
      · have c3 : ¬ nI 4 < (hq_sI σ 52 0 (nI 0)).1 52 3 := by rw [R0.2.1]; exact nI_nlt (by omega) (by omega)
        rw [if_neg (by omega), if_neg (by omega)]
        have f1 : Fr [(52, 45)] (hq_sI σ 52 0 (nI 0)) (hq_sI (hq_sI σ 52 0 (nI 0)) 52 44 (-1)) := (Fr.rf _).sI rfl
        obtain ⟨o, ρ, x1, x2, x3, x4, x5, x6, x7⟩ := m_changesFrom (d := d + 9 - A 0 0) (v := v) hv (A 0 0) 0 (fun _ => 0) (hq_sI (hq_sI σ 52 0 (nI 0)) 52 44 (-1)) none (by omega) (fun f hf => by omega) (fun f hf => by omega) (Rm.depn.fr f1 (by decide) R0) sI_eq (fun K h => by cases h)
        rw [show d + 9 - A 0 0 + A 0 0 + 4 = d + 13 by omega] at x1
        have F2 : Fr fMc σ ρ := f0.tr ((f1.up (by decide)).tr (x7.up (by decide)))
        have L2 : mR L ρ := mR.dep.fr x7 (by decide) (mR.dep.fr f1 (by decide) L0)
        have hP : kP A v o := by
          cases o with
          | none =>
            intro Y gY
            obtain ⟨K, k, _⟩ := x5 Y (fun f hf => by omega) gY
            cases k
          | some K =>
            rcases x3 with z | ⟨Y, _, gY, yk⟩
            · cases z
            · refine ⟨⟨Y, gY, by cases yk; rfl⟩, fun Z gZ => ?_⟩
              obtain ⟨K', k, k2⟩ := x5 Z (fun f hf => by omega) gZ
              cases k
              exact k2
        rw [← kO_eq hP]
        cases o with
        | none =>
          have x2 : ρ.1 52 44 = -1 := x2
          exact ⟨ρ, p_X10_change_0_4 g0 (by decide) c2 c3 x1 (by rw [x2]; decide), L2, F2⟩
        | some K =>
          obtain ⟨⟨Z, gZ, eZ⟩, _⟩ := hP
          obtain ⟨Y, n, y1, y2, y3, y4, y5⟩ := x2
          have inj := key_inj (A 0 0) (X := Z) (Y := Y) (a := ncX A Z) (b := n) (fun f hf => ⟨X4 W gZ f hf, y3 f hf⟩) (by
            have eZ : ncX A Z * 4096 ^ A 0 0 + hvX Z (A 0 0) = K := eZ
            omega)
          have nn : ¬ ρ.1 52 44 < 0 := by rw [y4]; exact fun z => by rw [ltz, nI_toInt (by omega)] at z; omega
          have R2 := Rm.depn.fr x7 (by decide) (Rm.depn.fr f1 (by decide) R0)
          have f3 : Fr [(52, 2), (53, 0)] ρ (hq_sI ρ 52 1 (nI 0)) := (Fr.rf ρ).sI rfl
          obtain ⟨τ, w, tv, ft⟩ := hq_w.for (x := 256) (d := d + 14) (i := 40) (fun j => [some (.ref 52), none, some (.int (nI j))]) (fun j ρ' => mR (qL (xL Z j)) ρ' ∧ Fr [(52, 2), (53, 0)] ρ ρ') (A 0 0) (fun j hj ρ' ⟨tv, ft⟩ => by
            have cj : (nI j).toNatClampNeg = j := clamp (by omega)
            have len : (qL (xL Z j)).length < 16 := by unfold qL; rw [List.length_map, xL_len]; omega
            obtain ⟨ρ3, a1, a2, a3⟩ := m_enters (d := d + 12) tv len (nI (Z j)).toInt64
            refine ⟨ρ3, fun v τ k => p_X10_change_40_1 (by rw [ft.i rfl, R2.2.1]; exact nlt hj (by omega)) (vin (by omega) (by decide)) (by rw [cj, ft.i rfl, y5 j hj, ← inj.2 j hj]; exact a1) (by rw [nplus]; exact k), ?_, ft.tr a3⟩
            have : qL (xL Z (j + 1)) = qL (xL Z j) ++ [(nI (Z j)).toInt64] := by
              show List.map _ (xL Z j ++ [Z j]) = _
              rw [List.map_append]; rfl
            rw [this]; exact a2) (σ := hq_sI ρ 52 1 (nI 0)) ⟨mR.nil, f3⟩
          have Q := w _ _ (p_X10_change_40_2 (d := d + 13) (σ := τ) (by rw [ft.i rfl, R2.2.1]; exact nI_nlt (Nat.le_refl _) (by omega)))
          rw [ft.i rfl, y4, ← inj.1] at Q
          dsimp only
          rw [kN_eq W gZ eZ, ← kQ_eq W gZ eZ]
          exact ⟨τ, p_X10_change_0_5 g0 (by decide) c2 c3 x1 nn Q, tv, F2.tr (ft.up (by decide))⟩
end CM
