/-! hangings: cost of a set, the least hanging (class) -/
noncomputable def cb (P : Prop) : Bool := @decide P (Classical.propDecidable P)
theorem cb_t {P : Prop} : cb P = true ↔ P := by unfold cb; exact @decide_eq_true_iff P (Classical.propDecidable P)
theorem cb_f {P : Prop} : cb P = false ↔ ¬ P := by unfold cb; exact @decide_eq_false_iff_not P (Classical.propDecidable P)
def isM (P : Nat → Prop) (l : Nat) : Prop := P l ∧ ∀ c, P c → l ≤ c
def okC2 (A : TA) (F : Nat → Nat) (es : List Nat) (u l b : Nat) : Prop := b &&& u = 0 ∧ ∃ c', Hg A F es (u ||| b) c' ∧ l = sset b F (A 1 0) + c'
/-- the first pair of a door that leads on -/
def fsB (A : TA) (F : Nat → Nat) (es : List Nat) (e u l b : Nat) : Prop := b ∈ prs A e ∧ okC2 A F es u l b ∧ ∀ b2, b2 ∈ prs A e → b2 < b → ¬ okC2 A F es u l b2
def CH (A : TA) (F : Nat → Nat) (m : Nat) : Nat → Nat → Nat → Nat → List Nat → Prop
  | 0, _, _, _, Q => Q = []
  | k + 1, e, u, l, Q => if m.testBit e then ∃ b Q', Q = b :: Q' ∧ fsB A F (dsF m (e + 1) k) e u l b ∧ ∃ l', l = sset b F (A 1 0) + l' ∧ CH A F m k (e + 1) (u ||| b) l' Q' else ∃ Q', Q = 0 :: Q' ∧ CH A F m k (e + 1) u l Q'
theorem fsB_uq {A : TA} {F : Nat → Nat} {es : List Nat} {e u l b c : Nat} (h : fsB A F es e u l b) (k : fsB A F es e u l c) : b = c := by
  rcases Nat.lt_trichotomy b c with z | z | z
  · exact absurd h.2.1 (k.2.2 b h.1 z)
  · exact z
  · exact absurd k.2.1 (h.2.2 c k.1 z)
theorem CH_uq {A : TA} {F : Nat → Nat} {m : Nat} : ∀ {k e u l : Nat} {Q Q' : List Nat}, CH A F m k e u l Q → CH A F m k e u l Q' → Q = Q'
  | 0, _, _, _, _, _, h, h' => by
    have h : _ = [] := h
    have h' : _ = [] := h'
    rw [h, h']
  | k + 1, e, u, l, Q, Q', h, h' => by
    unfold CH at h h'
    cases q : m.testBit e with
    | true =>
      rw [q, if_pos rfl] at h h'
      obtain ⟨b, Q1, a1, a2, l1, a3, a4⟩ := h
      obtain ⟨c, Q2, b1, b2, l2, b3, b4⟩ := h'
      have e1 := fsB_uq a2 b2
      subst e1
      have e2 : l1 = l2 := by omega
      subst e2
      rw [a1, b1, CH_uq a4 b4]
    | false =>
      rw [q, if_neg (by decide)] at h h'
      obtain ⟨Q1, a1, a2⟩ := h
      obtain ⟨Q2, b1, b2⟩ := h'
      rw [a1, b1, CH_uq a2 b2]
theorem isM_Hg {A : TA} {F : Nat → Nat} {es : List Nat} {e u l b l' : Nat} (h : isM (Hg A F (e :: es) u) l) (hb : b ∈ prs A e) (hu : b &&& u = 0) (e1 : l = sset b F (A 1 0) + l') (h1 : Hg A F es (u ||| b) l') : isM (Hg A F es (u ||| b)) l' := ⟨h1, fun c hc => by
  have := h.2 (sset b F (A 1 0) + c) ⟨b, hb, hu, c, hc, rfl⟩
  omega⟩
theorem dsF_app {m : Nat} : ∀ {a k e : Nat}, dsF m e (a + k) = dsF m e a ++ dsF m (e + a) k
  | 0, k, e => by rw [Nat.zero_add]; rfl
  | a + 1, k, e => by
    rw [show a + 1 + k = (a + k) + 1 by omega]
    show (if m.testBit e then e :: dsF m (e + 1) (a + k) else dsF m (e + 1) (a + k)) = (if m.testBit e then e :: dsF m (e + 1) a else dsF m (e + 1) a) ++ dsF m (e + (a + 1)) k
    rw [dsF_app, show e + 1 + a = e + (a + 1) by omega]
    cases m.testBit e with
    | true => rfl
    | false => rfl
theorem above_E : ∀ m, m < 256 → ∀ e, e < 8 → (nI m &&& ((-2 : Int32) <<< (nI e &&& 31))) = nI (m / 2 ^ (e + 1) * 2 ^ (e + 1)) := by decide +kernel
theorem above_T : ∀ m, m < 256 → ∀ e, e < 8 → ∀ f, f < 8 → (m / 2 ^ (e + 1) * 2 ^ (e + 1)).testBit f = (decide (e < f) && m.testBit f) := by decide +kernel
theorem above_ds {m D e k : Nat} (hm : m < 256) (hD : D ≤ 8) (hk : e + 1 + k = D) : ds (m / 2 ^ (e + 1) * 2 ^ (e + 1)) D = dsF m (e + 1) k := by
  have a := dsF_app (m := m / 2 ^ (e + 1) * 2 ^ (e + 1)) (a := e + 1) (k := k) (e := 0)
  rw [hk, Nat.zero_add] at a
  unfold ds
  rw [a, dsF_none (fun x _ h2 => by rw [above_T m hm e (by omega) x (by omega)]; simp; omega), List.nil_append]
  exact dsF_congr (fun x h1 h2 => by rw [above_T m hm e (by omega) x (by omega)]; simp; omega)
def qL (Q : List Nat) : List Int64 := Q.map (fun b => (nI b).toInt64)
section HG1
variable {d : Nat} {A : TA} {F : Nat → Nat} {σ : hq_St}
theorem LC_perm {I : Nat} {es es' : List Nat} {u v : Nat} (h : es.Perm es') (k : LC I (Hg A F es u) v) : LC I (Hg A F es' u) v := LC_iff (fun _ => ⟨Hg_perm h, Hg_perm h.symm⟩) k
theorem s_cost0 (W : Wf A) (hF : ∀ h, h < A 1 0 → F h ≤ 9) {L : List Nat} (hL : ∀ y, y ∈ L → y < A 0 0) {u : Nat} (hu : u < 2 ^ A 1 0) (hp : HP A F σ) (hT : TS L σ) (hS : SI A F L (pop u) σ) : ∃ τ v, hq_c 19 (d + 11) [.ref 33, .int (nI 0), .int (nI u)] σ (some (.int (nI v))) τ ∧ LC 200 (Hg A F L u) v ∧ v ≤ 200 ∧ SI A F L (pop u) τ ∧ Fr [(42, 0)] σ τ := by
  have l8 := hT.2.1
  obtain ⟨τ, v, g⟩ := s_costFrom (d := d + 10 - L.length) W hF hL (bs := pop u) L.length 0 u σ (by omega) hu (by omega) hp hT hS
  rw [show d + 10 - L.length + L.length + 1 = d + 11 by omega] at g
  exact ⟨τ, v, g⟩
theorem s_costOf (W : Wf A) (hF : ∀ h, h < A 1 0 → F h ≤ 9) {m : Nat} (hm : m < 2 ^ A 0 0) (hp : HP A F σ) (hI : mI σ) : ∃ τ v, hq_c 16 (d + 12) [.ref 33, .int (nI m)] σ (some (.int (nI v))) τ ∧ LC 200 (Hg A F (ds m (A 0 0)) 0) v ∧ v ≤ 200 ∧ mI τ ∧ Fr [(33, 16), (33, 17), (41, 0), (42, 0)] σ τ := by
  have b1 := W.1
  have b2 := W.2.1
  have p8 : (2 : Nat) ^ A 0 0 ≤ 2 ^ 8 := Nat.pow_le_pow_right (by decide) b1
  have g0 := s_bitCount (d := d + 10) (σ := σ) (n := m) (by omega)
  have dl := ds_len hm (by omega)
  have pl := pop_le m
  by_cases q : A 1 0 < 2 * pop m
  · refine ⟨σ, 200, p_X1_costOf_0_1 g0 (by rw [hp.2.1, nmul]; exact nlt q (by omega)), Or.inr ⟨fun c hc => ?_, rfl⟩, Nat.le_refl _, hI, Fr.rf σ⟩
    have := (Hg_lo b2 hF hc).2.2
    omega
  · obtain ⟨L, ρ, g1, t1, t2, t3, t4⟩ := s_startSearch (d := d + 9) (x := nI m) (m := m) b1 b2 hp hI (fun e he => hn_bit (by omega))
    obtain ⟨τ, v, k1, k2, k3, k4, k5⟩ := s_cost0 (d := d) W hF (L := L) (fun y hy => by have := dsF_mem.mp (t2.mem_iff.mp hy); omega) (u := 0) (Nat.two_pow_pos _) (HP.dep.fr t4 (by decide) hp) t1 (t3 _)
    exact ⟨τ, v, p_X1_costOf_0_2 g0 (by rw [hp.2.1, nmul]; exact nI_nlt (by omega) (by omega)) g1 k1, LC_perm t2 k2, k3, k4.mI, t4.tr (k5.up (by decide))⟩
theorem s_leastPair (W : Wf A) (hF : ∀ h, h < A 1 0 → F h ≤ 9) {L es : List Nat} (hL : ∀ y, y ∈ L → y < A 0 0) (hP : L.Perm es) {e u l : Nat} (he : e < A 0 0) (hu : u < 2 ^ A 1 0) (hl : isM (Hg A F (e :: es) u) l) (hp : HP A F σ) (hT : TS L σ) (hS : SI A F L (pop u + 2) σ) : ∃ τ k b, hq_c 21 (d + 12) [.ref 33, .int (nI e), .int (nI u), .int (nI l)] σ (some (.int (nI (66 * e + k)))) τ ∧ (prs A e)[k]? = some b ∧ fsB A F es e u l b ∧ mI τ ∧ Fr [(42, 0)] σ τ := by
  have b1 := W.1
  have b2 := W.2.1
  have p12 : (2 : Nat) ^ A 1 0 ≤ 2 ^ 12 := Nat.pow_le_pow_right (by decide) b2
  have n66 := prs_len (A := A) (e := e) b2
  have l108 := (Hg_lo b2 hF hl.1).2.1
  have oe : vp_in (nI e) 8 := vin (by omega) (by decide)
  have ce : (nI e).toNatClampNeg = e := clamp (by omega)
  obtain ⟨q1, q2, q3⟩ := hp.2.2.2 e he
  have loop : ∀ q k ρ, k + q = (prs A e).length → (∀ k' b, k' < k → (prs A e)[k']? = some b → ¬ okC2 A F es u l b) → SI A F L (pop u + 2) ρ → Fr [(42, 0)] σ ρ → ∃ τ k b, hq_m 21 (d + 12) (some (.int (nI (66 * e + k)))) τ 6 [some (.ref 33), some (.int (nI e)), some (.int (nI u)), some (.int (nI l)), some (.int (nI (66 * e))), some (.int (nI (66 * e + ((prs A e).length - q))))] [] ρ ∧ (prs A e)[k]? = some b ∧ fsB A F es e u l b ∧ mI τ ∧ Fr [(42, 0)] σ τ := by
    intro q
    induction q with
    | zero =>
      intro k ρ hk hdone _ _
      exfalso
      obtain ⟨b, m1, m2, c', m3, m4⟩ := hl.1
      obtain ⟨k', hk', hb'⟩ := List.getElem_of_mem m1
      exact hdone k' b (by omega) (by rw [List.getElem?_eq_getElem hk', hb']) ⟨m2, c', m3, m4⟩
    | succ q ihq =>
      intro k ρ hk hdone hS' fr
      rw [show (prs A e).length - (q + 1) = k by omega]
      have x40 : ρ.1 40 (nI e).toNatClampNeg = nI (prs A e).length := by rw [ce, fr.i rfl]; exact q1
      have c1 : nI (66 * e + k) < nI (66 * e) + ρ.1 40 (nI e).toNatClampNeg := by rw [x40, nplus]; exact nlt (by omega) (by omega)
      have ok : vp_in (nI (66 * e + k)) 528 := vin (by omega) (by decide)
      have ck : (nI (66 * e + k)).toNatClampNeg = 66 * e + k := clamp (by omega)
      obtain ⟨b, hb⟩ : ∃ b, (prs A e)[k]? = some b := ⟨_, List.getElem?_eq_getElem (by omega)⟩
      obtain ⟨m1, m2⟩ := prs_mem.mp (mem_get hb)
      obtain ⟨y1, y2, tw, y3, y4⟩ := q3 k b hb
      have z34 : ρ.1 34 (nI (66 * e + k)).toNatClampNeg = nI b := by rw [ck, fr.i rfl]; exact y1
      have z35 : ρ.1 35 (nI (66 * e + k)).toNatClampNeg = nI (sset b F (A 1 0)) := by rw [ck, fr.i rfl]; exact y2
      have pl : sset b F (A 1 0) ≤ 108 := by have := sset_le (n := b) hF; omega
      have nx : nI (66 * e + k) + nI 1 = nI (66 * e + ((prs A e).length - q)) := by rw [nplus]; congr 1; omega
      have more : ¬ okC2 A F es u l b → ∀ k' b', k' < k + 1 → (prs A e)[k']? = some b' → ¬ okC2 A F es u l b' := fun hn k' b' hk' hb' => by
        by_cases zz : k' = k
        · subst zz
          rw [hb] at hb'
          cases hb'
          exact hn
        · exact hdone k' b' (by omega) hb'
      have hbu : nI b &&& nI u = 0 ↔ b &&& u = 0 := by
        rw [fa_and]
        have lb : b &&& u ≤ u := Nat.and_le_right
        constructor
        · intro h
          apply Classical.byContradiction
          intro n
          exact nI_ne0 (by omega) (by omega) h
        · intro h; rw [h]; rfl
      by_cases d1 : b &&& u = 0
      · have c2 : (ρ.1 34 (nI (66 * e + k)).toNatClampNeg &&& nI u) = 0 := by rw [z34]; exact hbu.mpr d1
        have pub : pop (u ||| b) = pop u + 2 := by
          have := sset_dj (f := fun _ => 1) (dj_sym d1) 12
          have p2 := okP_2 m2
          unfold pop at p2 ⊢
          omega
        rw [← pub] at hS'
        obtain ⟨ρ1, v1, g1, g2, g3, g4, g5⟩ := s_cost0 (d := d) W hF hL (u := u ||| b) (Nat.or_lt_two_pow hu m1) (HP.dep.fr fr (by decide) hp) (TS.dep.fr fr (by decide) hT) hS'
        rw [pub] at g4
        have g2 := LC_perm hP g2
        by_cases z : sset b F (A 1 0) + v1 = l
        · refine ⟨ρ1, k, b, p_X1_leastPair_6_1 oe c1 ok c2 ok ok (by rw [z34, orr]; exact g1) (by rw [z35, nplus, z]), hb, ⟨mem_get hb, ⟨d1, v1, ?_, z.symm⟩, fun b2 hb2 lt => ?_⟩, g4.mI, fr.tr g5⟩
          · rcases g2 with ⟨a, _⟩ | ⟨_, a⟩
            · exact a
            · omega
          · obtain ⟨k2, hk2, hb2'⟩ := List.getElem_of_mem hb2
            have gk2 : (prs A e)[k2]? = some b2 := by rw [List.getElem?_eq_getElem hk2, hb2']
            refine hdone k2 b2 ?_ gk2
            rcases Nat.lt_trichotomy k2 k with y | y | y
            · exact y
            · subst y
              rw [hb] at gk2
              cases gk2
              omega
            · have := prL_sort _ y hb gk2
              omega
        · obtain ⟨τ, k', b', w1, w2⟩ := ihq (k + 1) ρ1 (by omega) (more (fun ⟨_, c', hc, hcl⟩ => by
            rcases g2 with ⟨a, a'⟩ | ⟨a, _⟩
            · have h1 := a' c' hc
              have h2 := hl.2 (sset b F (A 1 0) + v1) ⟨b, mem_get hb, d1, v1, a, rfl⟩
              omega
            · exact a c' hc)) g4 (fr.tr g5)
          refine ⟨τ, k', b', p_X1_leastPair_6_2 oe c1 ok c2 ok ok (by rw [z34, orr]; exact g1) (by rw [z35, nplus, nI_eq (by omega) (by omega)]; exact z) ?_, w2⟩
          rw [nx]; exact w1
      · obtain ⟨τ, k', b', w1, w2⟩ := ihq (k + 1) ρ (by omega) (more (fun h => d1 h.1)) hS' fr
        refine ⟨τ, k', b', p_X1_leastPair_6_3 oe c1 ok (by rw [z34]; exact fun h => d1 (hbu.mp h)) ?_, w2⟩
        rw [nx]; exact w1
  obtain ⟨τ, k, b, w1, w2⟩ := loop (prs A e).length 0 σ (by omega) (fun k' b hk' => by omega) hS (Fr.rf σ)
  refine ⟨τ, k, b, p_X1_leastPair_0_1 ?_, w2⟩
  rw [Nat.sub_self] at w1
  have w1 : hq_m 21 (d + 12) (some (.int (nI (66 * e + k)))) τ 6 [some (.ref 33), some (.int (nI e)), some (.int (nI u)), some (.int (nI l)), some (.int (nI (66 * e))), some (.int (nI (66 * e)))] [] σ := w1
  rw [nmul, Nat.mul_comm e 66]
  exact w1
theorem s_chooseL (W : Wf A) (hF : ∀ h, h < A 1 0 → F h ≤ 9) {m : Nat} (hm : m < 2 ^ A 0 0) : ∀ k e u l σ, e + k = A 0 0 → u < 2 ^ A 1 0 → isM (Hg A F (dsF m e k) u) l → HP A F σ → mI σ → ∃ Q τ, hq_m 20 (d + 13) none τ 6 [some (.ref 33), some (.int (nI m)), none, some (.int (nI u)), some (.int (nI l)), some (.int (nI e)), none] [] σ ∧ CH A F m k e u l Q ∧ Q.length = k ∧ (∀ i y, Q[i]? = some y → y < 4096 ∧ τ.1 43 (e + i) = nI y) ∧ (∀ i, i < e → τ.1 43 i = σ.1 43 i) ∧ mI τ ∧ Fr [(33, 16), (33, 17), (41, 0), (42, 0), (43, 0)] σ τ := by
  have b1 := W.1
  have b2 := W.2.1
  have p8 : (2 : Nat) ^ A 0 0 ≤ 2 ^ 8 := Nat.pow_le_pow_right (by decide) b1
  have p12 : (2 : Nat) ^ A 1 0 ≤ 2 ^ 12 := Nat.pow_le_pow_right (by decide) b2
  intro k
  induction k with
  | zero =>
    intro e u l σ he hu hl hp hI
    exact ⟨[], σ, p_X1_choose_6_6 (by rw [hp.1]; exact nI_nlt (by omega) (by omega)), rfl, rfl, fun i y h => by simp at h, fun i _ => rfl, hI, Fr.rf σ⟩
  | succ k ih =>
    intro e u l σ he hu hl hp hI
    have c1 : nI e < σ.1 33 13 := by rw [hp.1]; exact nlt (by omega) (by omega)
    have oe : vp_in (nI e) 8 := vin (by omega) (by decide)
    have ce : (nI e).toNatClampNeg = e := clamp (by omega)
    have f0 : Fr [(43, 0)] σ (hq_sI σ 43 (nI e).toNatClampNeg (nI 0)) := (Fr.rf σ).sI rfl
    have hp0 := HP.dep.fr f0 (by decide) hp
    have hI0 := mI.dep.fr f0 (by decide) hI
    unfold CH
    cases hb : m.testBit e with
    | false =>
      have e1 : dsF m e (k + 1) = dsF m (e + 1) k := by
        show (if m.testBit e then _ else _) = _
        rw [hb]; rfl
      rw [e1] at hl
      obtain ⟨Q, τ, w1, w2, w3, w4, w5, w6, w7⟩ := ih (e + 1) u l _ (by omega) hu hl hp0 hI0
      refine ⟨0 :: Q, τ, p_X1_choose_6_1 c1 oe (hn_bit0 (by omega) hb) (by rw [nplus]; exact w1), by rw [if_neg (by decide)]; exact ⟨Q, rfl, w2⟩, by rw [List.length_cons, w3], fun i y hi => ?_, fun i hi => ?_, w6, (f0.up (by decide)).tr w7⟩
      · cases i with
        | zero =>
          simp at hi
          rw [← hi, Nat.add_zero, w5 e (by omega), ce, sI_eq]
          exact ⟨by decide, rfl⟩
        | succ i =>
          rw [List.getElem?_cons_succ] at hi
          have := w4 i y hi
          rw [show e + 1 + i = e + (i + 1) by omega] at this
          exact this
      · rw [w5 i (by omega), ce, sI_slot (by omega)]
    | true =>
      have e1 : dsF m e (k + 1) = e :: dsF m (e + 1) k := by
        show (if m.testBit e then _ else _) = _
        rw [hb]; rfl
      rw [e1] at hl
      have ads := above_ds (m := m) (D := A 0 0) (e := e) (k := k) (by omega) b1 (by omega)
      obtain ⟨L, ρ1, g1, t1, t2, t3, t4⟩ := s_startSearch (d := d + 10) (x := nI m &&& ((-2 : Int32) <<< (nI e &&& 31))) (m := m / 2 ^ (e + 1) * 2 ^ (e + 1)) b1 b2 hp0 hI0 (fun f hf => by rw [above_E m (by omega) e (by omega)]; exact hn_bit (by omega))
      rw [ads] at t2
      have hL : ∀ y, y ∈ L → y < A 0 0 := fun y hy => by have := dsF_mem.mp (t2.mem_iff.mp hy); omega
      have hp1 := HP.dep.fr t4 (by decide) hp0
      obtain ⟨ρ2, j, b, g2, y1, y2, y3, y4⟩ := s_leastPair (d := d) W hF hL t2 (e := e) (by omega) hu hl hp1 t1 (t3 _)
      have hp2 := HP.dep.fr y4 (by decide) hp1
      obtain ⟨l', hl', hle⟩ := y2.2.1.2
      obtain ⟨m1, m2⟩ := prs_mem.mp y2.1
      have jl := (List.getElem?_eq_some_iff.mp y1).1
      have n66 := prs_len (A := A) (e := e) b2
      have cj : (nI (66 * e + j)).toNatClampNeg = 66 * e + j := clamp (by omega)
      have oj : vp_in (nI (66 * e + j)) 528 := vin (by omega) (by decide)
      obtain ⟨z34, z35, _⟩ := (hp2.2.2.2 e (by omega)).2.2 j b y1
      have f3 : Fr [(43, 0)] ρ2 (hq_sI ρ2 43 e (nI b)) := (Fr.rf ρ2).sI rfl
      obtain ⟨Q, τ, w1, w2, w3, w4, w5, w6, w7⟩ := ih (e + 1) (u ||| b) l' (hq_sI ρ2 43 e (nI b)) (by omega) (Nat.or_lt_two_pow hu m1) (isM_Hg hl y2.1 y2.2.1.1 hle hl') (HP.dep.fr f3 (by decide) hp2) (mI.dep.fr f3 (by decide) y3)
      have nn : ¬ nI (66 * e + j) < 0 := fun z => by rw [ltz, nI_toInt (by omega)] at z; omega
      have FF : Fr [(33, 16), (33, 17), (41, 0), (42, 0), (43, 0)] σ ρ2 := (f0.up (by decide)).tr ((t4.up (by decide)).tr (y4.up (by decide)))
      refine ⟨b :: Q, τ, p_X1_choose_6_5 c1 oe (hn_bit1 (by omega) hb) g1 g2 nn oj oe nn oj oe ?_, by rw [if_pos rfl]; exact ⟨b, Q, rfl, y2, l', hle, w2⟩, by rw [List.length_cons, w3], fun i y hi => ?_, fun i hi => ?_, w6, (FF.tr (f3.up (by decide))).tr w7⟩
      · rw [ce, cj, z34, sI_eq, orr, nplus, sI_ne (by decide), z35, hle, show nI (sset b F (A 1 0) + l') - nI (sset b F (A 1 0)) = nI l' by rw [pk_sub (by omega)]; congr 1; omega]
        exact w1
      · cases i with
        | zero =>
          simp at hi
          rw [← hi, Nat.add_zero, w5 e (by omega), sI_eq]
          exact ⟨by omega, rfl⟩
        | succ i =>
          rw [List.getElem?_cons_succ] at hi
          have := w4 i y hi
          rw [show e + 1 + i = e + (i + 1) by omega] at this
          exact this
      · rw [w5 i (by omega), sI_slot (by omega), y4.i rfl, t4.i rfl, ce, sI_slot (by omega)]
def chC (Q : List Nat) (σ : hq_St) : Prop := ∀ i y, Q[i]? = some y → y < 4096 ∧ σ.1 43 i = nI y
theorem chC.dep {Q : List Nat} : Dep [(43, 0)] (chC Q) := fun σ τ q h i y hi => ⟨(h i y hi).1, ((q 43 i rfl).1).trans (h i y hi).2⟩
theorem s_choose (W : Wf A) (hF : ∀ h, h < A 1 0 → F h ≤ 9) {m l : Nat} (hm : m < 2 ^ A 0 0) (hl : isM (Hg A F (ds m (A 0 0)) 0) l) (hp : HP A F σ) (hI : mI σ) : ∃ Q τ, hq_c 20 (d + 13) [.ref 33, .int (nI m), .int (nI l)] σ none τ ∧ CH A F m (A 0 0) 0 0 l Q ∧ Q.length = A 0 0 ∧ chC Q τ ∧ mI τ ∧ Fr [(33, 16), (33, 17), (41, 0), (42, 0), (43, 0)] σ τ := by
  obtain ⟨Q, τ, w1, w2, w3, w4, w5, w6, w7⟩ := s_chooseL (d := d) W hF hm (A 0 0) 0 0 l σ (by omega) (Nat.two_pow_pos _) hl hp hI
  exact ⟨Q, τ, p_X1_choose_0_1 w1, w2, w3, fun i y hi => by have := w4 i y hi; rw [Nat.zero_add] at this; exact this, w6, w7⟩
theorem s_tell {L : List Int64} {Q : List Nat} {D : Nat} (h13 : σ.1 33 13 = nI D) (hD : D ≤ 8) (hR : cR L σ) (hL : L.length ≤ 8) (hQ : Q.length = D) (hc : chC Q σ) : ∃ τ, hq_c 22 (d + 2) [.ref 33, .ref 3] σ none τ ∧ cR (L ++ qL Q) τ ∧ Fr [(3, 2), (4, 0)] σ τ := by
  obtain ⟨τ, w, hv, fr⟩ := hq_w.for (x := 22) (d := d + 2) (i := 2) (fun j => [some (.ref 33), some (.ref 3), some (.int (nI j))]) (fun j ρ => cR (L ++ qL (Q.take j)) ρ ∧ Fr [(3, 2), (4, 0)] σ ρ) D (fun j hj ρ ⟨hv, fr⟩ => by
    have cj : (nI j).toNatClampNeg = j := clamp (by omega)
    obtain ⟨y, hy⟩ : ∃ y, Q[j]? = some y := ⟨_, List.getElem?_eq_getElem (by omega)⟩
    obtain ⟨_, e2⟩ := hc j y hy
    have len : (L ++ qL (Q.take j)).length < 16 := by simp [qL]; omega
    obtain ⟨ρ', a1, a2, a3⟩ := s_add (d := d) hv len (nI y).toInt64
    refine ⟨ρ', fun v τ k => p_X1_tell_2_1 (by rw [fr.i rfl, h13]; exact nlt hj (by omega)) (vin (by omega) (by decide)) (by rw [cj, fr.i rfl, e2]; exact a1) (by rw [nplus]; exact k), ?_, fr.tr a3⟩
    rw [take_snoc hy]
    unfold qL at a2 ⊢
    rw [List.map_append, ← List.append_assoc]
    exact a2) (σ := σ) ⟨by simp [qL]; exact hR, Fr.rf σ⟩
  refine ⟨τ, p_X1_tell_0_1 (w _ _ (p_X1_tell_2_2 (by rw [fr.i rfl, h13]; exact nI_nlt (Nat.le_refl _) (by omega)))), ?_, fr⟩
  rw [← hQ, List.take_length] at hv
  exact hv
end HG1
