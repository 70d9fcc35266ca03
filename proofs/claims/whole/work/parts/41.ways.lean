/-! ways, been, sure: H what was heard. -/
def wsm (f : Nat → Nat) : Nat → Nat
  | 0 => 0
  | m + 1 => wsm f m + f m
def hitA (A : TA) (y : Int32) (G : List Nat) (H : List Nat) (e k : Nat) : Bool := opA A e && decide (H[k]? = some (ckA A y G e))
/-- ways on from a room, n creaks being left, without a door (0: with all) -/
def wy (A : TA) (y : Int32) (G : List Nat) (H : List Nat) (av : Nat) : Nat → Nat → Nat
  | 0, _ => 1
  | n + 1, r => wsm (fun e => if e + 1 ≠ av ∧ hitA A y G H e (H.length - (n + 1)) = true ∧ othA A e r ≠ 0 then wy A y G H av n (othA A e r - 1) else 0) (A 0 0)
theorem wsm_le {f : Nat → Nat} {c : Nat} : ∀ {m : Nat}, (∀ e, e < m → f e ≤ c) → wsm f m ≤ m * c
  | 0, _ => Nat.zero_le _
  | m + 1, h => by
    have ih := wsm_le (f := f) (c := c) (m := m) (fun e he => h e (by omega))
    have := h m (by omega)
    unfold wsm
    rw [Nat.succ_mul]; omega
theorem wsm_congr {f g : Nat → Nat} : ∀ {m : Nat}, (∀ e, e < m → f e = g e) → wsm f m = wsm g m
  | 0, _ => rfl
  | m + 1, h => by
    unfold wsm
    rw [wsm_congr (m := m) (fun e he => h e (by omega)), h m (by omega)]
theorem wsm_cap {f : Nat → Nat} {M : Nat} : ∀ m, min M (wsm (fun e => min M (f e)) m) = min M (wsm f m)
  | 0 => rfl
  | m + 1 => by
    have ih := wsm_cap (f := f) (M := M) m
    unfold wsm
    omega
theorem wsm_pos {f : Nat → Nat} : ∀ {m : Nat}, 0 < wsm f m → ∃ e, e < m ∧ 0 < f e
  | 0, h => by simp [wsm] at h
  | m + 1, h => by
    unfold wsm at h
    by_cases q : 0 < f m
    · exact ⟨m, by omega, q⟩
    · obtain ⟨e, h1, h2⟩ := wsm_pos (f := f) (m := m) (by omega)
      exact ⟨e, by omega, h2⟩
section WY
variable {A : TA} {y : Int32} {G H : List Nat} {av : Nat}
theorem wy_le (W : Wf A) : ∀ n r, wy A y G H av n r ≤ 8 ^ n
  | 0, _ => Nat.le_refl _
  | n + 1, r => by
    have := wsm_le (f := fun e => if e + 1 ≠ av ∧ hitA A y G H e (H.length - (n + 1)) = true ∧ othA A e r ≠ 0 then wy A y G H av n (othA A e r - 1) else 0) (c := 8 ^ n) (m := A 0 0) (fun e he => by
      split
      · exact wy_le W n _
      · exact Nat.zero_le _)
    refine Nat.le_trans this ?_
    rw [Nat.pow_succ, Nat.mul_comm (8 ^ n)]
    exact Nat.mul_le_mul_right _ W.1
theorem wy_lt (W : Wf A) {n : Nat} (hn : n ≤ 12) (r : Nat) : wy A y G H av n r < 2 ^ 40 := by
  have h1 := wy_le (y := y) (G := G) (H := H) (av := av) W n r
  have h2 : 8 ^ n ≤ 8 ^ 12 := Nat.pow_le_pow_right (by decide) hn
  have h3 : (8 : Nat) ^ 12 < 2 ^ 40 := by decide
  omega
theorem wsm_lt {f : Nat → Nat} (hf : ∀ e, f e < 2 ^ 40) {m : Nat} (hm : m ≤ 8) : wsm f m < 2 ^ 44 := by
  have := wsm_le (f := f) (c := 2 ^ 40) (m := m) (fun e _ => Nat.le_of_lt (hf e))
  have : m * 2 ^ 40 ≤ 8 * 2 ^ 40 := Nat.mul_le_mul_right _ hm
  have : (8 : Nat) * 2 ^ 40 < 2 ^ 44 := by decide
  omega
end WY
/-- ways on through a door at creak k -/
def wt (A : TA) (y : Int32) (G : List Nat) (H : List Nat) (av k r e : Nat) : Nat := if hitA A y G H e k = true ∧ othA A e r ≠ 0 then wy A y G H av (H.length - (k + 1)) (othA A e r - 1) else 0
def rth (A : TA) (y : Int32) (G : List Nat) (H : List Nat) (k b e : Nat) : Nat := if hitA A y G H e k then (if b.testBit (A 2 e) = true ∧ 0 < wy A y G H 0 (H.length - (k + 1)) (A 3 e) then 2 ^ A 3 e else 0) ||| (if b.testBit (A 3 e) = true ∧ 0 < wy A y G H 0 (H.length - (k + 1)) (A 2 e) then 2 ^ A 2 e else 0) else 0
def orm (f : Nat → Nat) : Nat → Nat
  | 0 => 0
  | m + 1 => orm f m ||| f m
def rbh (A : TA) (y : Int32) (G : List Nat) (H : List Nat) : Nat → Nat
  | 0 => if 0 < wy A y G H 0 H.length 0 then 1 else 0
  | k + 1 => orm (rth A y G H k (rbh A y G H k)) (A 0 0)
theorem orm_lt {f : Nat → Nat} : ∀ {m : Nat}, (∀ e, e < m → f e < 256) → orm f m < 256
  | 0, _ => by show 0 < 256; decide
  | m + 1, h => Nat.or_lt_two_pow (n := 8) (orm_lt (fun e he => h e (by omega))) (h m (by omega))
section WM
variable {d : Nat} {σ : hq_St} {A : TA} {y : Int32} {G H : List Nat} {av : Nat}
theorem pow8 {a : Nat} (h : a < 8) : 2 ^ a < 256 := (pop_1 a h).2
theorem rth_lt (W : Wf A) {k b e : Nat} (he : e < A 0 0) : rth A y G H k b e < 256 := by
  obtain ⟨u1, u2, -⟩ := W.2.2.1 e he
  have p1 := pow8 u1
  have p2 := pow8 u2
  unfold rth
  split
  · apply Nat.or_lt_two_pow (n := 8)
    · split
      · exact p2
      · decide
    · split
      · exact p1
      · decide
  · decide
theorem rbh_lt (W : Wf A) : ∀ k, rbh A y G H k < 256
  | 0 => by unfold rbh; split <;> decide
  | k + 1 => orm_lt (fun e he => rth_lt W he)
/-- the class's ways, from creak k0 on -/
def cW (A : TA) (y : Int32) (G : List Nat) (H : List Nat) (av k0 : Nat) (σ : hq_St) : Prop := ∀ k r, k0 ≤ k → k ≤ H.length → r < 8 → σ.2 50 (8 * k + r) = lN (wy A y G H av (H.length - k) r)
theorem cW.dep {k0 : Nat} : Dep [(50, 0)] (cW A y G H av k0) := fun σ τ q h k r h1 h2 h3 => ((q 50 _ rfl).2).trans (h k r h1 h2 h3)
theorem cE.get {k : Nat} (h : cE H σ) (hk : k < H.length) : ∃ v, H[k]? = some v ∧ v ≤ 198 ∧ σ.1 49 k = nI v := by
  have e := List.getElem?_eq_getElem hk
  exact ⟨_, e, h.2.2 k _ e⟩
theorem lsn_hit (W : Wf A) {e k v : Nat} (hv : H[k]? = some v) (hl : v ≤ 198) : lsn A y G e = nI v ↔ hitA A y G H e k = true := by
  have kl := ck_le (y := y) (G := G) W e
  unfold lsn hitA
  rw [hv]
  cases q : opA A e with
  | false =>
    simp
    intro z
    rw [fa_eq, nI_toInt (by omega)] at z
    have : (-1 : Int32).toInt = -1 := rfl
    omega
  | true =>
    simp
    rw [nI_eq (by omega) (by omega)]
    exact eq_comm
theorem oth_lt (W : Wf A) {e r : Nat} (he : e < A 0 0) : othA A e r ≤ 8 := by
  obtain ⟨u1, u2, -⟩ := W.2.2.1 e he
  unfold othA
  split <;> (try split) <;> omega
theorem s_waysThrough (R : Rc A σ) (hl : cL A y G σ) (hE : cE H σ) {k r e : Nat} (hk : k < H.length) (hW : cW A y G H av (k + 1) σ) (hr : r < 8) (he : e < A 0 0) : hq_c 76 (d + 2) [.ref 47, .ref 5, .int (nI k), .int (nI r), .int (nI e)] σ (some (.long (lN (wt A y G H av k r e)))) σ := by
  have W := R.1
  have b1 := W.1
  have hH := hE.1
  have g1 := s_beyond (d := d) R he hr
  have ol := oth_lt W (r := r) he
  have ck : (nI k).toNatClampNeg = k := clamp (by omega)
  have ce : (nI e).toNatClampNeg = e := clamp (by omega)
  have ok1 : vp_in (nI k) 12 := vin (by omega) (by decide)
  have oe : vp_in (nI e) 8 := vin (by omega) (by decide)
  obtain ⟨v, v1, v2, v3⟩ := hE.get hk
  unfold wt
  by_cases z1 : othA A e r = 0
  · rw [if_neg (fun z => z.2 z1)]
    exact p_X7_waysThrough_0_1 g1 ((place_m1 (by omega)).mpr z1)
  · have n1 : ¬ nI (othA A e r) - nI 1 = (-1 : Int32) := fun z => z1 ((place_m1 (by omega)).mp z)
    cases z2 : hitA A y G H e k with
    | false =>
      rw [if_neg (fun z => by cases z.1)]
      refine p_X7_waysThrough_0_3 g1 n1 ok1 oe ?_
      rw [ck, ce, hl e he, v3, lsn_hit W v1 v2, z2]
      decide
    | true =>
      rw [if_pos ⟨rfl, z1⟩]
      have es : (nI k + nI 1) * nI 8 + (nI (othA A e r) - nI 1) = nI (8 * (k + 1) + (othA A e r - 1)) := by
        rw [nplus, nmul, pk_sub (by omega), nplus]; exact congrArg nI (by omega)
      have H1 := p_X7_waysThrough_0_2 (d := d + 1) (σ := σ) (l2 := nI k) (l3 := nI r) (l4 := nI e) g1 n1 ok1 oe (by rw [ck, ce, hl e he, v3, lsn_hit W v1 v2, z2]) (by rw [es]; exact vin (by omega) (by decide))
      rw [es, clamp (by omega), hW (k + 1) (othA A e r - 1) (Nat.le_refl _) (by omega) (by omega)] at H1
      exact H1
theorem lNadd (a b : Nat) : lN a + lN b = lN (a + b) := (Int64.ofNat_add a b).symm
theorem wy_succ (n r : Nat) : wy A y G H av (n + 1) r = wsm (fun e => if e + 1 ≠ av ∧ hitA A y G H e (H.length - (n + 1)) = true ∧ othA A e r ≠ 0 then wy A y G H av n (othA A e r - 1) else 0) (A 0 0) := rfl
theorem wy_at {k r : Nat} (hk : k < H.length) : wy A y G H av (H.length - k) r = wsm (fun e => if e + 1 = av then 0 else wt A y G H av k r e) (A 0 0) := by
  have e : H.length - k = (H.length - (k + 1)) + 1 := by omega
  rw [e, wy_succ]
  apply wsm_congr
  intro e _
  have e2 : H.length - (H.length - (k + 1) + 1) = k := by omega
  rw [e2]
  unfold wt
  by_cases q : e + 1 = av
  · rw [if_neg (fun z => z.1 q), if_pos q]
  · rw [if_neg q]
    by_cases q2 : hitA A y G H e k = true ∧ othA A e r ≠ 0
    · rw [if_pos ⟨q, q2⟩, if_pos q2]
    · rw [if_neg (fun z => q2 z.2), if_neg q2]
theorem wt_lt (W : Wf A) (hH : H.length ≤ 12) {k r e : Nat} : wt A y G H av k r e < 2 ^ 40 := by
  unfold wt
  split
  · exact wy_lt W (by omega) _
  · decide
theorem sJ_slot {σ : hq_St} {c j b : Nat} {v : Int64} (h : b ≠ j) : (hq_sJ σ c j v).2 c b = σ.2 c b := by rw [sJ_at, if_pos rfl, if_neg h]
theorem s_countWays (R : Rc A σ) (hl : cL A y G σ) (hE : cE H σ) {x : Int32} (hx : ∀ e, e < A 0 0 → (nI e = x ↔ e + 1 = av)) : ∃ τ, hq_c 75 (d + 3) [.ref 47, .ref 5, .int x] σ (some (.long (lN (wy A y G H av H.length 0)))) τ ∧ cW A y G H av 0 τ ∧ Fr [(50, 0)] σ τ := by
  have W := R.1
  have b1 := W.1
  have hH := hE.1
  obtain ⟨σ1, w1, f1, v1⟩ := hq_w.for (x := 75) (d := d + 3) (i := 2) (fun j => [some (.ref 47), some (.ref 5), some (.int x), some (.int (nI j)), none, none, none, none]) (fun j ρ => Fr [(50, 0)] σ ρ ∧ ∀ r, r < j → ρ.2 50 (8 * H.length + r) = lN 1) 8 (fun j hj ρ ⟨fr, hv⟩ => by
    have e1 : ρ.1 47 4 * nI 8 + nI j = nI (8 * H.length + j) := by rw [(cE.dep.fr fr (by decide) hE).2.1, nmul, nplus]; exact congrArg nI (by omega)
    refine ⟨hq_sJ ρ 50 (8 * H.length + j) (lN 1), fun v τ k => p_X7_countWays_2_1 (nlt hj (by decide)) (by rw [e1]; exact vin (by omega) (by decide)) ?_, fr.sJ rfl, fun r hr => ?_⟩
    · rw [e1, clamp (by omega), nplus]; exact k
    · by_cases z : r = j
      · subst z; rw [sJ_eq]
      · rw [sJ_slot (by omega)]; exact hv r (by omega)) (σ := σ) ⟨Fr.rf σ, fun r hr => by omega⟩
  -- from the end on
  obtain ⟨σ2, w2, f2, v2⟩ := hq_w.for (x := 75) (d := d + 3) (i := 22) (fun j => [some (.ref 47), some (.ref 5), some (.int x), some (.int (nI (H.length - j) - nI 1)), none, none, none, none]) (fun j ρ => Fr [(50, 0)] σ ρ ∧ cW A y G H av (H.length - j) ρ) H.length (fun j hj ρ ⟨fr, hW⟩ => by
    have ek : nI (H.length - j) - nI 1 = nI (H.length - (j + 1)) := by
      rw [pk_sub (by omega)]; exact congrArg nI (by omega)
    have kk : H.length - (j + 1) < H.length := by omega
    have k1 : H.length - (j + 1) + 1 = H.length - j := by omega
    rw [ek]
    generalize H.length - (j + 1) = k at kk k1
    rw [← k1] at hW
    obtain ⟨ρ2, w3, f3, W3, v3⟩ := hq_w.for (x := 75) (d := d + 3) (i := 26) (fun r => [some (.ref 47), some (.ref 5), some (.int x), some (.int (nI k)), some (.int (nI r)), none, none, none]) (fun r ρ => Fr [(50, 0)] σ ρ ∧ cW A y G H av (k + 1) ρ ∧ ∀ q, q < r → ρ.2 50 (8 * k + q) = lN (wy A y G H av (H.length - k) q)) 8 (fun r hr ρ ⟨fr, hW, hv⟩ => by
      have R1 := Rc.dep.fr fr (by decide) R
      have hl1 := cL.dep.fr fr (by decide) hl
      have hE1 := cE.dep.fr fr (by decide) hE
      have ei : nI k * nI 8 + nI r = nI (8 * k + r) := by rw [nmul, nplus]; exact congrArg nI (by omega)
      have lp : ∀ v τ, hq_m 75 (d + 3) v τ 33 [some (.ref 47), some (.ref 5), some (.int x), some (.int (nI k)), some (.int (nI r)), some (.long (lN (wsm (fun e => if e + 1 = av then 0 else wt A y G H av k r e) (A 0 0)))), none, some (.int (nI (A 0 0)))] [] ρ → hq_m 75 (d + 3) v τ 33 [some (.ref 47), some (.ref 5), some (.int x), some (.int (nI k)), some (.int (nI r)), some (.long (lN 0)), none, some (.int (nI 0))] [] ρ := fun v τ kk2 => hq_m.for (fun m => [some (.ref 47), some (.ref 5), some (.int x), some (.int (nI k)), some (.int (nI r)), some (.long (lN (wsm (fun e => if e + 1 = av then 0 else wt A y G H av k r e) m))), none, some (.int (nI m))]) (fun _ => ρ) (A 0 0) (fun m hm ih => by
        have c1 : nI m < ρ.1 5 13 := by rw [R1.2.1]; exact nlt hm (by omega)
        have es : wsm (fun e => if e + 1 = av then 0 else wt A y G H av k r e) (m + 1) = wsm (fun e => if e + 1 = av then 0 else wt A y G H av k r e) m + (if m + 1 = av then 0 else wt A y G H av k r m) := rfl
        rw [es] at ih
        by_cases q : m + 1 = av
        · rw [if_pos q] at ih
          refine p_X7_countWays_33_1 c1 ((hx m hm).mpr q) ?_
          rw [nplus, lNadd]; exact ih
        · rw [if_neg q] at ih
          refine p_X7_countWays_33_2 c1 (fun z => q ((hx m hm).mp z)) (s_waysThrough (d := d) R1 hl1 hE1 kk hW hr hm) ?_
          rw [nplus, lNadd]; exact ih) kk2 0 (Nat.zero_le _)
      refine ⟨hq_sJ ρ 50 (8 * k + r) (lN (wy A y G H av (H.length - k) r)), fun v τ kk2 => p_X7_countWays_26_1 (nlt hr (by decide)) (lp _ _ (p_X7_countWays_33_3 ?_ ?_ ?_)), fr.sJ rfl, fun a b h1 h2 h3 => ?_, fun q hq => ?_⟩
      · rw [R1.2.1]; exact nI_nlt (Nat.le_refl _) (by omega)
      · rw [ei]; exact vin (by omega) (by decide)
      · rw [ei, clamp (by omega), nplus, ← wy_at kk]; exact kk2
      · rw [sJ_slot (by omega)]; exact hW a b h1 h2 h3
      · by_cases z : q = r
        · subst z; rw [sJ_eq]
        · rw [sJ_slot (by omega)]; exact hv q (by omega)) (σ := ρ) ⟨fr, hW, fun q hq => by omega⟩
    refine ⟨ρ2, fun v τ kk2 => p_X7_countWays_22_2 ?_ (w3 _ _ (p_X7_countWays_26_2 (by decide) ?_)), f3, fun a b h1 h2 h3 => ?_⟩
    · rw [ltz, nI_toInt (by omega)]; omega
    · rw [show nI k + (-1) = nI k - nI 1 from by rw [Int32.sub_eq_add_neg]; rfl]; exact kk2
    · by_cases z : a = k
      · subst z; exact v3 b h3
      · exact W3 a b (by omega) h2 h3) (σ := σ1) ⟨f1, fun k r h1 h2 h3 => by
        have : k = H.length := by omega
        subst this
        rw [Nat.sub_self]
        exact v1 r h3⟩
  rw [Nat.sub_zero, Nat.sub_self] at w2
  rw [Nat.sub_self] at v2
  have e0 := (cE.dep.fr f1 (by decide) hE).2.1
  have ans : σ2.2 50 (nI 0).toNatClampNeg = lN (wy A y G H av H.length 0) := v2 0 0 (Nat.le_refl _) (Nat.zero_le _) (by decide)
  refine ⟨σ2, p_X7_countWays_0_1 (w1 _ _ (p_X7_countWays_2_2 (by decide) ?_)), v2, f2⟩
  rw [e0]
  refine w2 _ _ ?_
  rw [← ans]
  exact p_X7_countWays_22_1 (by decide) (vin (by decide) (by decide))
end WM
