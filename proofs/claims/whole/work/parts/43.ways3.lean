/-! ways, been, sure: the reference -/
section W3
variable {d : Nat} {σ : hq_St} {A : TA} {y : Int32} {G H : List Nat} {av : Nat}
def mW (A : TA) (y : Int32) (G : List Nat) (H : List Nat) (av k0 : Nat) (σ : hq_St) : Prop := ∀ k r, k0 ≤ k → k ≤ H.length → r < 8 → σ.1 81 (8 * k + r) = nI (min 1000000 (wy A y G H av (H.length - k) r))
theorem mW.dep {k0 : Nat} : Dep [(81, 0)] (mW A y G H av k0) := fun σ τ q h k r h1 h2 h3 => ((q 81 _ rfl).1).trans (h k r h1 h2 h3)
/-- what the reference looks at: its town, day, rule, heard -/
def mQ (A : TA) (y : Int32) (G H : List Nat) (σ : hq_St) : Prop := Rm 61 A σ ∧ σ.1 61 49 = y ∧ mU G σ ∧ mE H σ
theorem mQ.fr {F : List (Nat × Nat)} {σ τ : hq_St} (h : mQ A y G H σ) (f : Fr F σ τ) (e : djF [(52, 4), (52, 5), (54, 0), (55, 0), (56, 0), (57, 0), (58, 0), (59, 0), (60, 0), (61, 0), (52, 27), (66, 0), (52, 46), (80, 0)] F = true) : mQ A y G H τ := by
  have sub : ∀ K, subF K [(52, 4), (52, 5), (54, 0), (55, 0), (56, 0), (57, 0), (58, 0), (59, 0), (60, 0), (61, 0), (52, 27), (66, 0), (52, 46), (80, 0)] = true → ∀ (P : hq_St → Prop), Dep K P → P σ → P τ := fun K s P D p => D σ τ (fun c j q => f c j (djF_out e (subF_in s q))) p
  exact ⟨sub _ (by decide) _ Rm.depn h.1, (f.i (djF_out e (by simp [inF]))).trans h.2.1, sub _ (by decide) _ mU.dep h.2.2.1, sub _ (by decide) _ mE.dep h.2.2.2⟩
theorem mE.get {k : Nat} (h : mE H σ) (hk : k < H.length) : ∃ v, H[k]? = some v ∧ v ≤ 198 ∧ σ.1 80 k = nI v := by
  have e := List.getElem?_eq_getElem hk
  exact ⟨_, e, h.2.2 k _ e⟩
theorem m_isHeard (Q : mQ A y G H σ) {e k : Nat} (he : e < A 0 0) (hk : k < H.length) : ∃ τ, hq_c 264 (d + 7) [.ref 52, .int (nI e), .int (nI k), .int (nI (shut0 A))] σ (some (.int (bI (hitA A y G H e k)))) τ ∧ Fr [(68, 0)] σ τ := by
  obtain ⟨R, hy, hG, hE⟩ := Q
  have W := R.1
  have b1 := W.1
  have b2 := W.2.1
  have hH := hE.1
  have sl : shut0 A < 2 ^ 31 := by
    have := shut0_lt W
    omega
  have g1 := m_has (d := d + 5) (σ := σ) (x := nI (shut0 A)) (k := e) (hn_has (n := shut0 A) sl (by omega))
  rw [shut_op W he] at g1
  obtain ⟨v, v1, v2, v3⟩ := hE.get hk
  have ck : (nI k).toNatClampNeg = k := clamp (by omega)
  unfold hitA
  rw [v1]
  cases q : opA A e with
  | false =>
    rw [q] at g1
    exact ⟨σ, p_X10_isHeard_0_3 g1 (by decide), Fr.rf σ⟩
  | true =>
    rw [q] at g1
    have g2 := m_onDn (d := d + 5) R he
    obtain ⟨ρ, g3, f3⟩ := m_creakOf (d := d) R hy hG he (onA_lt A (e + 1) b2)
    have kl : crk A y G e (onA A (e + 1)) ≤ 1188 := crk_le W
    have e80 : ρ.1 80 (nI k).toNatClampNeg = nI v := by rw [ck, f3.i rfl, v3]
    by_cases z : v = ckA A y G e
    · rw [show decide (some v = some (ckA A y G e)) = true by simp [z]]
      refine ⟨ρ, p_X10_isHeard_0_1 (r1 := bI false) (ρ1 := σ) g1 rfl g2 g3 (vin (by omega) (by decide)) ?_, f3⟩
      rw [e80, z]; rfl
    · rw [show decide (some v = some (ckA A y G e)) = false by simp [z]]
      refine ⟨ρ, p_X10_isHeard_0_2 (r1 := bI false) (ρ1 := σ) g1 rfl g2 g3 (vin (by omega) (by decide)) ?_, f3⟩
      rw [e80, nI_eq (by omega) (by omega)]
      exact fun y => z y.symm
theorem cap_val {v : Nat} (h : v < 2 ^ 31) : (if nI v < nI 1000000 then nI v else nI 1000000) = nI (min 1000000 v) := by
  by_cases q : v < 1000000
  · rw [if_pos (nlt q (by decide)), Nat.min_eq_right (by omega)]
  · rw [if_neg (nI_nlt (by omega) (by omega)), Nat.min_eq_left (by omega)]
theorem wsm_capl {f : Nat → Nat} : ∀ m, wsm (fun e => min 1000000 (f e)) m ≤ m * 1000000
  | 0 => Nat.zero_le _
  | m + 1 => by
    have := wsm_capl (f := f) m
    unfold wsm
    rw [Nat.succ_mul]; omega
theorem m_laysWays (Q : mQ A y G H σ) {x : Int32} (hx : ∀ e, e < A 0 0 → (nI e = x ↔ e + 1 = av)) : ∃ τ, hq_c 265 (d + 8) [.ref 52, .int x] σ none τ ∧ mW A y G H av 0 τ ∧ Fr [(68, 0), (81, 0)] σ τ := by
  have W := Q.1.1
  have b1 := W.1
  have hH := Q.2.2.2.1
  have g0 := m_shutOfn (d := d + 2) Q.1
  obtain ⟨σ1, w1, f1, v1⟩ := hq_w.for (x := 265) (d := d + 8) (i := 7) (fun j => [some (.ref 52), some (.int x), some (.int (nI (shut0 A))), some (.int (nI j)), none, none, none, none]) (fun j ρ => Fr [(68, 0), (81, 0)] σ ρ ∧ ∀ r, r < j → ρ.1 81 (8 * H.length + r) = nI 1) 8 (fun j hj ρ ⟨fr, hv⟩ => by
    have e1 : nI 8 * ρ.1 52 45 + nI j = nI (8 * H.length + j) := by rw [(mE.dep.fr fr (by decide) Q.2.2.2).2.1, nmul, nplus]
    refine ⟨hq_sI ρ 81 (8 * H.length + j) (nI 1), fun v τ k => p_X10_laysWays_7_1 (nlt hj (by decide)) (by rw [e1]; exact vin (by omega) (by decide)) ?_, fr.sI rfl, fun r hr => ?_⟩
    · rw [e1, clamp (by omega), nplus]; exact k
    · by_cases z : r = j
      · subst z; rw [sI_eq]
      · rw [sI_slot (by omega)]; exact hv r (by omega)) (σ := σ) ⟨Fr.rf σ, fun r hr => by omega⟩
  obtain ⟨σ2, w2, f2, v2⟩ := hq_w.for (x := 265) (d := d + 8) (i := 27) (fun j => [some (.ref 52), some (.int x), some (.int (nI (shut0 A))), some (.int (nI (H.length - j) - nI 1)), none, none, none, none]) (fun j ρ => Fr [(68, 0), (81, 0)] σ ρ ∧ mW A y G H av (H.length - j) ρ) H.length (fun j hj ρ ⟨fr, hW⟩ => by
    have ek : nI (H.length - j) - nI 1 = nI (H.length - (j + 1)) := by
      rw [pk_sub (by omega)]; exact congrArg nI (by omega)
    have kk : H.length - (j + 1) < H.length := by omega
    have k1 : H.length - (j + 1) + 1 = H.length - j := by omega
    rw [ek]
    generalize H.length - (j + 1) = k at kk k1
    rw [← k1] at hW
    obtain ⟨ρ2, w3, f3, W3, v3⟩ := hq_w.for (x := 265) (d := d + 8) (i := 31) (fun r => [some (.ref 52), some (.int x), some (.int (nI (shut0 A))), some (.int (nI k)), some (.int (nI r)), none, none, none]) (fun r ρ => Fr [(68, 0), (81, 0)] σ ρ ∧ mW A y G H av (k + 1) ρ ∧ ∀ q, q < r → ρ.1 81 (8 * k + q) = nI (min 1000000 (wy A y G H av (H.length - k) q))) 8 (fun r hr ρ ⟨fr, hW, hv⟩ => by
      have ei : nI 8 * nI k + nI r = nI (8 * k + r) := by rw [nmul, nplus]
      obtain ⟨ρ3, w4, f4⟩ := hq_w.for (x := 265) (d := d + 8) (i := 38) (fun m => [some (.ref 52), some (.int x), some (.int (nI (shut0 A))), some (.int (nI k)), some (.int (nI r)), some (.int (nI (wsm (fun e => min 1000000 (if e + 1 = av then 0 else wt A y G H av k r e)) m))), some (.int (nI m)), none]) (fun _ μ => Fr [(68, 0)] ρ μ) (A 0 0) (fun m hm μ fm => by
        have Q1 := (Q.fr fr (by decide)).fr fm (by decide)
        have R1 := Q1.1
        have hW1 := mW.dep.fr fm (by decide) hW
        have c1 : nI m < μ.1 52 3 := by rw [R1.2.1]; exact nlt hm (by omega)
        have es : wsm (fun e => min 1000000 (if e + 1 = av then 0 else wt A y G H av k r e)) (m + 1) = wsm (fun e => min 1000000 (if e + 1 = av then 0 else wt A y G H av k r e)) m + min 1000000 (if m + 1 = av then 0 else wt A y G H av k r m) := rfl
        have g1 := m_otherRoom (d := d + 6) R1 hm hr
        have ol := oth_lt W (r := r) hm
        unfold wt at es
        by_cases z1 : othA A m r = 0
        · have e0 : (if m + 1 = av then 0 else if hitA A y G H m k = true ∧ othA A m r ≠ 0 then wy A y G H av (H.length - (k + 1)) (othA A m r - 1) else 0) = 0 := by
            split
            · rfl
            · rw [if_neg (fun z => z.2 z1)]
          rw [e0] at es
          rw [z1] at g1
          refine ⟨μ, fun v τ kk2 => p_X10_laysWays_38_1 c1 g1 (by decide) ?_, fm⟩
          rw [show wsm (fun e => min 1000000 (if e + 1 = av then 0 else wt A y G H av k r e)) (m + 1) = _ from es] at kk2
          rw [nplus, nplus]; exact kk2
        · rw [pk_sub (by omega)] at g1
          have n1 : ¬ nI (othA A m r - 1) < 0 := by rw [ltz, nI_toInt (by omega)]; omega
          by_cases q : m + 1 = av
          · rw [if_pos q] at es
            refine ⟨μ, fun v τ kk2 => p_X10_laysWays_38_2 c1 g1 n1 ((hx m hm).mpr q) ?_, fm⟩
            rw [show wsm (fun e => min 1000000 (if e + 1 = av then 0 else wt A y G H av k r e)) (m + 1) = _ from es] at kk2
            rw [nplus, nplus]; exact kk2
          · rw [if_neg q] at es
            have nq : ¬ nI m = x := fun z => q ((hx m hm).mp z)
            obtain ⟨μ2, h1, h2⟩ := m_isHeard (d := d) Q1 hm kk
            cases z2 : hitA A y G H m k with
            | false =>
              rw [z2] at h1 es
              rw [if_neg (fun z => by cases z.1)] at es
              refine ⟨μ2, fun v τ kk2 => p_X10_laysWays_38_3 c1 g1 n1 nq h1 rfl ?_, fm.tr h2⟩
              rw [show wsm (fun e => min 1000000 (if e + 1 = av then 0 else wt A y G H av k r e)) (m + 1) = _ from es] at kk2
              rw [nplus, nplus]; exact kk2
            | true =>
              rw [z2] at h1 es
              rw [if_pos ⟨rfl, z1⟩] at es
              have ej : nI 8 * (nI k + nI 1) + nI (othA A m r - 1) = nI (8 * (k + 1) + (othA A m r - 1)) := by rw [nplus, nmul, nplus]
              have e81 : μ2.1 81 (8 * (k + 1) + (othA A m r - 1)) = nI (min 1000000 (wy A y G H av (H.length - (k + 1)) (othA A m r - 1))) := (h2.i rfl).trans (hW1 (k + 1) _ (Nat.le_refl _) (by omega) (by omega))
              refine ⟨μ2, fun v τ kk2 => p_X10_laysWays_38_4 c1 g1 n1 nq h1 (by decide) (by rw [ej]; exact vin (by omega) (by decide)) ?_, fm.tr h2⟩
              rw [show wsm (fun e => min 1000000 (if e + 1 = av then 0 else wt A y G H av k r e)) (m + 1) = _ from es] at kk2
              rw [ej, clamp (by omega), e81, nplus, nplus]; exact kk2) (σ := ρ) (Fr.rf ρ)
      have Q3 := (Q.fr fr (by decide)).fr f4 (by decide)
      have cl := wsm_capl (f := fun e => if e + 1 = av then 0 else wt A y G H av k r e) (A 0 0)
      refine ⟨hq_sI ρ3 81 (8 * k + r) (nI (min 1000000 (wy A y G H av (H.length - k) r))), fun v τ kk2 => p_X10_laysWays_31_1 (nlt hr (by decide)) (w4 _ _ (p_X10_laysWays_38_5 ?_ ?_ ?_)), (fr.tr (f4.up (by decide))).sI rfl, fun a b h1 h2 h3 => ?_, fun q hq => ?_⟩
      · rw [Q3.1.2.1]; exact nI_nlt (Nat.le_refl _) (by omega)
      · rw [ei]; exact vin (by omega) (by decide)
      · rw [ei, clamp (by omega), nplus, cap_val (by omega), wsm_cap, ← wy_at kk]; exact kk2
      · rw [sI_slot (by omega), f4.i rfl]; exact hW a b h1 h2 h3
      · by_cases z : q = r
        · subst z; rw [sI_eq]
        · rw [sI_slot (by omega), f4.i rfl]; exact hv q (by omega)) (σ := ρ) ⟨fr, hW, fun q hq => by omega⟩
    refine ⟨ρ2, fun v τ kk2 => p_X10_laysWays_27_2 ?_ (w3 _ _ (p_X10_laysWays_31_2 (by decide) ?_)), f3, fun a b h1 h2 h3 => ?_⟩
    · rw [ltz, nI_toInt (by omega)]; omega
    · rw [show nI k + (-1) = nI k - nI 1 from by rw [Int32.sub_eq_add_neg]; rfl]; exact kk2
    · by_cases z : a = k
      · subst z; exact v3 b h3
      · exact W3 a b (by omega) h2 h3) (σ := σ1) ⟨f1, fun k r h1 h2 h3 => by
        have : k = H.length := by omega
        subst this
        rw [Nat.sub_self]
        exact v1 r h3⟩
  rw [Nat.sub_zero, Nat.sub_self] at w2
  rw [Nat.sub_self] at v2
  have e0 := (mE.dep.fr f1 (by decide) Q.2.2.2).2.1
  refine ⟨σ2, p_X10_laysWays_0_1 g0 (w1 _ _ (p_X10_laysWays_7_2 (by decide) ?_)), v2, f2⟩
  rw [e0]
  exact w2 _ _ (p_X10_laysWays_27_1 (by decide))
theorem capp {v : Nat} : (0 : Int32) < nI (min 1000000 v) ↔ 0 < v := by
  show nI 0 < _ ↔ _
  by_cases q : 0 < v
  · exact ⟨fun _ => q, fun _ => nlt (by omega) (by omega)⟩
  · have : v = 0 := by omega
    subst this
    simp
theorem m_goesThrough (Q : mQ A y G H σ) (hW : mW A y G H 0 0 σ) {e k b : Nat} (he : e < A 0 0) (hk : k < H.length) (hb : b < 256) : ∃ τ, hq_c 267 (d + 8) [.ref 52, .int (nI e), .int (nI k), .int (nI b), .int (nI (shut0 A))] σ (some (.int (nI (rth A y G H k b e)))) τ ∧ Fr [(68, 0)] σ τ := by
  have W := Q.1.1
  have b1 := W.1
  have hH := Q.2.2.2.1
  obtain ⟨u1, u2, u3, -⟩ := W.2.2.1 e he
  obtain ⟨ρ, g1, f1⟩ := m_isHeard (d := d) Q he hk
  have Q1 := Q.fr f1 (by decide)
  have hW1 := mW.dep.fr f1 (by decide) hW
  obtain ⟨a1, a2, -⟩ := Q1.1.2.2.2.1 e he
  have ce : (nI e).toNatClampNeg = e := clamp (by omega)
  have oe : vp_in (nI e) 8 := vin (by omega) (by decide)
  have h2 := m_has (d := d + 6) (σ := ρ) (x := nI b) (k := A 2 e) (hn_has (n := b) (by omega) (by omega))
  have h3 := m_has (d := d + 6) (σ := ρ) (x := nI b) (k := A 3 e) (hn_has (n := b) (by omega) (by omega))
  have ea : ρ.1 54 (nI e).toNatClampNeg = nI (A 2 e) := by rw [ce, a1]
  have eb : ρ.1 55 (nI e).toNatClampNeg = nI (A 3 e) := by rw [ce, a2]
  have ia : nI 8 * (nI k + nI 1) + nI (A 2 e) = nI (8 * (k + 1) + A 2 e) := by rw [nplus, nmul, nplus]
  have ib : nI 8 * (nI k + nI 1) + nI (A 3 e) = nI (8 * (k + 1) + A 3 e) := by rw [nplus, nmul, nplus]
  have va : ρ.1 81 (8 * (k + 1) + A 2 e) = nI (min 1000000 (wy A y G H 0 (H.length - (k + 1)) (A 2 e))) := hW1 (k + 1) _ (Nat.zero_le _) (by omega) u1
  have vb : ρ.1 81 (8 * (k + 1) + A 3 e) = nI (min 1000000 (wy A y G H 0 (H.length - (k + 1)) (A 3 e))) := hW1 (k + 1) _ (Nat.zero_le _) (by omega) u2
  have oa : vp_in (nI 8 * (nI k + nI 1) + ρ.1 54 (nI e).toNatClampNeg) 104 := by rw [ea, ia]; exact vin (by omega) (by decide)
  have ob : vp_in (nI 8 * (nI k + nI 1) + ρ.1 55 (nI e).toNatClampNeg) 104 := by rw [eb, ib]; exact vin (by omega) (by decide)
  have ra : ρ.1 81 (nI 8 * (nI k + nI 1) + ρ.1 54 (nI e).toNatClampNeg).toNatClampNeg = nI (min 1000000 (wy A y G H 0 (H.length - (k + 1)) (A 2 e))) := by rw [ea, ia, clamp (by omega), va]
  have rb : ρ.1 81 (nI 8 * (nI k + nI 1) + ρ.1 55 (nI e).toNatClampNeg).toNatClampNeg = nI (min 1000000 (wy A y G H 0 (H.length - (k + 1)) (A 3 e))) := by rw [eb, ib, clamp (by omega), vb]
  have sa : nI 1 <<< (ρ.1 54 (nI e).toNatClampNeg &&& 31) = nI (2 ^ A 2 e) := by rw [ea, hn_shl _ (by omega)]
  have sb : nI 1 <<< (ρ.1 55 (nI e).toNatClampNeg &&& 31) = nI (2 ^ A 3 e) := by rw [eb, hn_shl _ (by omega)]
  rw [← ea] at h2
  rw [← eb] at h3
  unfold rth
  cases hh : hitA A y G H e k with
  | false =>
    rw [hh] at g1
    exact ⟨ρ, p_X10_goesThrough_0_1 g1 rfl, f1⟩
  | true =>
    rw [hh] at g1
    rw [if_pos rfl]
    have G1 : ¬ bI true = 0 := by decide
    cases ta : b.testBit (A 2 e) with
    | false =>
      rw [ta] at h2
      rw [if_neg (fun z => by cases z.1), Nat.zero_or]
      cases tb : b.testBit (A 3 e) with
      | false =>
        rw [tb] at h3
        rw [if_neg (fun z => by cases z.1)]
        exact ⟨ρ, p_X10_goesThrough_0_2 g1 G1 oe h2 rfl oe h3 rfl, f1⟩
      | true =>
        rw [tb] at h3
        by_cases z : 0 < wy A y G H 0 (H.length - (k + 1)) (A 2 e)
        · rw [if_pos ⟨rfl, z⟩]
          have P := p_X10_goesThrough_0_3 g1 G1 oe h2 rfl oe h3 G1 oa oe (by rw [ra]; exact capp.mpr z) oe
          rw [sa, orr, orr] at P
          simp only [Nat.or_self, Nat.zero_or] at P
          exact ⟨ρ, P, f1⟩
        · rw [if_neg (fun y => z y.2)]
          exact ⟨ρ, p_X10_goesThrough_0_4 g1 G1 oe h2 rfl oe h3 G1 oa oe (by rw [ra]; exact fun y => z (capp.mp y)), f1⟩
    | true =>
      rw [ta] at h2
      by_cases za : 0 < wy A y G H 0 (H.length - (k + 1)) (A 3 e)
      · rw [if_pos ⟨rfl, za⟩]
        cases tb : b.testBit (A 3 e) with
        | false =>
          rw [tb] at h3
          rw [if_neg (fun z => by cases z.1), Nat.or_zero]
          have P := p_X10_goesThrough_0_5 g1 G1 oe h2 G1 ob oe (by rw [rb]; exact capp.mpr za) oe oe h3 rfl
          rw [sb, orr, orr] at P
          simp only [Nat.or_zero, Nat.zero_or] at P
          exact ⟨ρ, P, f1⟩
        | true =>
          rw [tb] at h3
          by_cases z : 0 < wy A y G H 0 (H.length - (k + 1)) (A 2 e)
          · rw [if_pos ⟨rfl, z⟩]
            have P := p_X10_goesThrough_0_6 g1 G1 oe h2 G1 ob oe (by rw [rb]; exact capp.mpr za) oe oe h3 G1 oa oe (by rw [ra]; exact capp.mpr z) oe
            rw [sa, sb, orr, orr] at P
            simp only [Nat.zero_or] at P
            exact ⟨ρ, P, f1⟩
          · rw [if_neg (fun y => z y.2), Nat.or_zero]
            have P := p_X10_goesThrough_0_7 g1 G1 oe h2 G1 ob oe (by rw [rb]; exact capp.mpr za) oe oe h3 G1 oa oe (by rw [ra]; exact fun y => z (capp.mp y))
            rw [sb, orr, orr] at P
            simp only [Nat.or_zero, Nat.zero_or] at P
            exact ⟨ρ, P, f1⟩
      · rw [if_neg (fun y => za y.2), Nat.zero_or]
        cases tb : b.testBit (A 3 e) with
        | false =>
          rw [tb] at h3
          rw [if_neg (fun z => by cases z.1)]
          exact ⟨ρ, p_X10_goesThrough_0_8 g1 G1 oe h2 G1 ob oe (by rw [rb]; exact fun y => za (capp.mp y)) oe h3 rfl, f1⟩
        | true =>
          rw [tb] at h3
          by_cases z : 0 < wy A y G H 0 (H.length - (k + 1)) (A 2 e)
          · rw [if_pos ⟨rfl, z⟩]
            have P := p_X10_goesThrough_0_9 g1 G1 oe h2 G1 ob oe (by rw [rb]; exact fun y => za (capp.mp y)) oe h3 G1 oa oe (by rw [ra]; exact capp.mpr z) oe
            rw [sa, orr, orr] at P
            simp only [Nat.or_self, Nat.zero_or] at P
            exact ⟨ρ, P, f1⟩
          · rw [if_neg (fun y => z y.2)]
            exact ⟨ρ, p_X10_goesThrough_0_10 g1 G1 oe h2 G1 ob oe (by rw [rb]; exact fun y => za (capp.mp y)) oe h3 G1 oa oe (by rw [ra]; exact fun y => z (capp.mp y)), f1⟩
end W3
