/-! hangings: a search (class) -/
def TS (L : List Nat) (σ : hq_St) : Prop := σ.1 33 15 = nI L.length ∧ L.length ≤ 8 ∧ ∀ k e, L[k]? = some e → σ.1 41 k = nI e
theorem TS.dep {L : List Nat} : Dep [(33, 16), (41, 0)] (TS L) := fun σ τ q h => ⟨((q 33 15 rfl).1).trans h.1, h.2.1, fun k e hk => ((q 41 k rfl).1).trans (h.2.2 k e hk)⟩
/-- what is kept of searches: all of it older than the stamp says -/
def mI (σ : hq_St) : Prop := ∃ s, s < 4194304 ∧ σ.1 33 16 = nI s ∧ ∀ u, u < 4096 → ∃ w, σ.1 42 u = nI w ∧ w < 1073741824 ∧ w / 256 ≤ s
theorem mI.dep : Dep [(33, 17), (42, 0)] mI := fun σ τ q ⟨s, h1, h2, h3⟩ => ⟨s, h1, ((q 33 16 rfl).1).trans h2, fun u hu => by
  obtain ⟨w, a, b⟩ := h3 u hu
  exact ⟨w, ((q 42 u rfl).1).trans a, b⟩⟩
def SI (A : TA) (F : Nat → Nat) (L : List Nat) (bs : Nat) (σ : hq_St) : Prop := ∃ s, s < 4194304 ∧ σ.1 33 16 = nI s ∧ ∀ u, u < 4096 → ∃ w, σ.1 42 u = nI w ∧ w < 1073741824 ∧ w / 256 ≤ s ∧ (w / 256 = s → ∀ t, t < L.length → pop u = bs + 2 * t → LC 200 (Hg A F (L.drop t) u) (w % 256))
theorem SI.mI {A : TA} {F : Nat → Nat} {L : List Nat} {bs : Nat} {σ : hq_St} (h : SI A F L bs σ) : mI σ := by
  obtain ⟨s, h1, h2, h3⟩ := h
  refine ⟨s, h1, h2, fun u hu => ?_⟩
  obtain ⟨w, a, b, c, _⟩ := h3 u hu
  exact ⟨w, a, b, c⟩
theorem SI.dep {A : TA} {F : Nat → Nat} {L : List Nat} {bs : Nat} : Dep [(33, 17), (42, 0)] (SI A F L bs) := fun σ τ q ⟨s, h1, h2, h3⟩ => ⟨s, h1, ((q 33 16 rfl).1).trans h2, fun u hu => by
  obtain ⟨w, a, b⟩ := h3 u hu
  exact ⟨w, ((q 42 u rfl).1).trans a, b⟩⟩
theorem ds_snoc {m : Nat} : ∀ {k e : Nat}, dsF m e (k + 1) = dsF m e k ++ (if m.testBit (e + k) then [e + k] else [])
  | 0, e => by
    show (if m.testBit e then e :: [] else []) = [] ++ _
    rw [List.nil_append]; rfl
  | k + 1, e => by
    have ih := ds_snoc (m := m) (k := k) (e := e + 1)
    show (if m.testBit e then e :: dsF m (e + 1) (k + 1) else dsF m (e + 1) (k + 1)) = (if m.testBit e then e :: dsF m (e + 1) k else dsF m (e + 1) k) ++ _
    rw [ih, show e + 1 + k = e + (k + 1) by omega]
    cases m.testBit e with
    | true => rfl
    | false => rfl
theorem LF_9 {F : Nat → Nat} {H m : Nat} : LF F H m ≤ 9 * m := by
  have : ∀ k, lfS F H m k ≤ k * m := by
    intro k
    induction k with
    | zero => exact Nat.zero_le _
    | succ k ih => unfold lfS; rw [Nat.succ_mul]; omega
  exact this 9
section HE1
variable {d : Nat} {σ : hq_St} {A : TA} {F : Nat → Nat}
theorem s_forget4096 : ∃ τ, hq_c 18 (d + 1) [.ref 33] σ none τ ∧ τ.1 33 16 = nI 1 ∧ (∀ u, u < 4096 → τ.1 42 u = nI 0) ∧ Fr [(33, 17), (42, 0)] σ τ := by
  obtain ⟨τ, w, hv, fr⟩ := hq_w.for (x := 18) (d := d + 1) (i := 2) (fun j => [some (.ref 33), some (.int (nI j))]) (fun j ρ => (∀ u, u < j → ρ.1 42 u = nI 0) ∧ Fr [(33, 17), (42, 0)] σ ρ) 4096 (fun j hj ρ ⟨hv, fr⟩ => by
    have o : vp_in (nI j) 4096 := vin hj (by decide)
    have cj : (nI j).toNatClampNeg = j := clamp hj
    refine ⟨hq_sI ρ 42 j (nI 0), fun v τ k => p_X1_forgetSearches_2_1 (nlt hj (by decide)) o ?_, fun u hu => ?_, fr.sI rfl⟩
    · rw [cj, nplus]; exact k
    · by_cases q : u = j
      · rw [q, sI_eq]
      · rw [sI_slot q]; exact hv u (by omega)) (σ := σ) ⟨fun u hu => by omega, Fr.rf σ⟩
  exact ⟨_, p_X1_forgetSearches_0_1 (w _ _ (p_X1_forgetSearches_2_2 (nI_nlt (Nat.le_refl _) (by decide)))), sI_eq, fun u hu => by rw [sI_ne (by decide)]; exact hv u hu, fr.sI rfl⟩
/-- one door more among the turns -/
theorem s_insert {e : Nat} {x : Int32} (he : e < A 0 0) (b1 : A 0 0 ≤ 8) (hp : HP A F σ) {L : List Nat} (hT : TS L σ) (hl : L.length < 8) (hL : ∀ y, y ∈ L → y < A 0 0) (h66 : ∀ y, (prs A y).length ≤ 66) : ∃ L' σ', (∀ v τ, hq_m 17 (d + 1) v τ 5 [some (.ref 33), some (.int x), some (.int (nI (e + 1))), none] [] σ' → hq_m 17 (d + 1) v τ 18 [some (.ref 33), some (.int x), some (.int (nI e)), some (.int (nI L.length))] [] σ) ∧ TS L' σ' ∧ L'.Perm (e :: L) ∧ Fr [(33, 16), (41, 0)] σ σ' := by
  have oe : vp_in (nI e) 8 := vin (by omega) (by decide)
  have ce : (nI e).toNatClampNeg = e := clamp (by omega)
  have fin : ∀ q, q ≤ L.length → ∀ ρ, Fr [(41, 0)] σ ρ → (∀ k y, k < q → L[k]? = some y → ρ.1 41 k = nI y) → (∀ k y, q ≤ k → L[k]? = some y → ρ.1 41 (k + 1) = nI y) → ρ.1 33 15 = nI L.length ∧ TS (L.take q ++ e :: L.drop q) (hq_sI (hq_sI ρ 41 q (nI e)) 33 15 (nI (L.length + 1))) ∧ (L.take q ++ e :: L.drop q).Perm (e :: L) ∧ Fr [(33, 16), (41, 0)] σ (hq_sI (hq_sI ρ 41 q (nI e)) 33 15 (nI (L.length + 1))) := fun q hq ρ fr h1 h2 => by
    have ll : (L.take q ++ e :: L.drop q).length = L.length + 1 := by simp; omega
    refine ⟨(fr.i rfl).trans hT.1, ⟨by rw [sI_eq, ll], by omega, fun k y hk => ?_⟩, ?_, ((fr.up (by decide)).sI rfl).sI rfl⟩
    · rw [sI_ne (by decide)]
      rw [List.getElem?_append] at hk
      have tl : (L.take q).length = q := by simp; omega
      rw [tl] at hk
      by_cases z : k < q
      · rw [if_pos z, List.getElem?_take, if_pos z] at hk
        rw [sI_slot (by omega)]
        exact h1 k y z hk
      · rw [if_neg z] at hk
        by_cases z2 : k = q
        · subst z2
          rw [Nat.sub_self] at hk
          simp at hk
          rw [sI_eq, hk]
        · rw [show k - q = (k - q - 1) + 1 by omega, List.getElem?_cons_succ, List.getElem?_drop] at hk
          rw [sI_slot z2]
          have := h2 (q + (k - q - 1)) y (by omega) hk
          rw [show q + (k - q - 1) + 1 = k by omega] at this
          exact this
    · have := (List.perm_middle (a := e) (l₁ := L.take q) (l₂ := L.drop q))
      rw [List.take_append_drop] at this
      exact this
  -- holes move down
  have go : ∀ q, q ≤ L.length → ∀ ρ, Fr [(41, 0)] σ ρ → (∀ k y, k < q → L[k]? = some y → ρ.1 41 k = nI y) → (∀ k y, q ≤ k → L[k]? = some y → ρ.1 41 (k + 1) = nI y) → ∃ L' σ', (∀ v τ, hq_m 17 (d + 1) v τ 5 [some (.ref 33), some (.int x), some (.int (nI (e + 1))), none] [] σ' → hq_m 17 (d + 1) v τ 18 [some (.ref 33), some (.int x), some (.int (nI e)), some (.int (nI q))] [] ρ) ∧ TS L' σ' ∧ L'.Perm (e :: L) ∧ Fr [(33, 16), (41, 0)] σ σ' := by
    intro q
    induction q with
    | zero =>
      intro hq ρ fr h1 h2
      obtain ⟨a1, a2, a3, a4⟩ := fin 0 hq ρ fr h1 h2
      refine ⟨_, _, fun v τ k => p_X1_startSearch_18_3 (by decide) (vin (by decide) (by decide)) ?_, a2, a3, a4⟩
      rw [nplus, show (nI 0).toNatClampNeg = 0 from rfl, sI_ne (by decide), a1, nplus]
      exact k
    | succ q ih =>
      intro hq ρ fr h1 h2
      have c1 : (0 : Int32) < nI (q + 1) := nlt (a := 0) (by omega) (by omega)
      have pq : nI (q + 1) - nI 1 = nI q := pr1 q
      have cq : (nI q).toNatClampNeg = q := clamp (by omega)
      have cq1 : (nI (q + 1)).toNatClampNeg = q + 1 := clamp (by omega)
      obtain ⟨y, hy⟩ : ∃ y, L[q]? = some y := ⟨_, List.getElem?_eq_getElem (by omega)⟩
      have yD := hL y (mem_get hy)
      have v41 : ρ.1 41 (nI (q + 1) - nI 1).toNatClampNeg = nI y := by rw [pq, cq]; exact h1 q y (by omega) hy
      have cy : (nI y).toNatClampNeg = y := clamp (by omega)
      have o3 : vp_in (nI (q + 1) - nI 1) 8 := by rw [pq]; exact vin (by omega) (by decide)
      have o2 : vp_in (ρ.1 41 (nI (q + 1) - nI 1).toNatClampNeg) 8 := by rw [v41]; exact vin (by omega) (by decide)
      have o4 : vp_in (nI (q + 1)) 8 := vin (by omega) (by decide)
      have x1 : ρ.1 40 (nI e).toNatClampNeg = nI (prs A e).length := by rw [ce, fr.i rfl]; exact (hp.2.2.2 e he).1
      have x2 : ρ.1 40 (ρ.1 41 (nI (q + 1) - nI 1).toNatClampNeg).toNatClampNeg = nI (prs A y).length := by rw [v41, cy, fr.i rfl]; exact (hp.2.2.2 y yD).1
      have l1 := h66 e
      have l2 := h66 y
      by_cases z : (prs A e).length < (prs A y).length
      · have fr' : Fr [(41, 0)] σ (hq_sI ρ 41 (q + 1) (nI y)) := fr.sI rfl
        obtain ⟨L', σ', w, a2, a3, a4⟩ := ih (by omega) (hq_sI ρ 41 (q + 1) (nI y)) fr' (fun k t hk ht => by rw [sI_slot (by omega)]; exact h1 k t (by omega) ht) (fun k t hk ht => by
          by_cases zz : k = q
          · subst zz
            rw [hy] at ht
            cases ht
            rw [sI_eq]
          · rw [sI_slot (by omega)]; exact h2 k t (by omega) ht)
        refine ⟨L', σ', fun v τ k => p_X1_startSearch_18_1 c1 oe o2 o3 (by rw [x1, x2]; exact nlt z (by omega)) o4 o3 ?_, a2, a3, a4⟩
        rw [v41, cq1, nI_dec]
        exact w v τ k
      · obtain ⟨a1, a2, a3, a4⟩ := fin (q + 1) hq ρ fr h1 h2
        refine ⟨_, _, fun v τ k => p_X1_startSearch_18_2 c1 oe o2 o3 (by rw [x1, x2]; exact nI_nlt (by omega) (by omega)) o4 ?_, a2, a3, a4⟩
        rw [cq1, nplus, sI_ne (by decide), a1, nplus]
        exact k
  exact go L.length (Nat.le_refl _) σ (Fr.rf σ) (fun k y _ hk => hT.2.2 k y hk) (fun k y hk h => by
    have := (List.getElem?_eq_some_iff.mp h).1
    omega)
theorem s_startSearch {m : Nat} {x : Int32} (b1 : A 0 0 ≤ 8) (b2 : A 1 0 ≤ 12) (hp : HP A F σ) (hm : mI σ) (hx : ∀ e, e < A 0 0 → ((x &&& (nI 1 <<< (nI e &&& 31))) = 0 ↔ m.testBit e = false)) : ∃ L τ, hq_c 17 (d + 2) [.ref 33, .int x] σ none τ ∧ TS L τ ∧ L.Perm (ds m (A 0 0)) ∧ (∀ bs, SI A F L bs τ) ∧ Fr [(33, 16), (33, 17), (41, 0), (42, 0)] σ τ := by
  have f0 : Fr [(33, 16), (41, 0)] σ (hq_sI σ 33 15 (nI 0)) := (Fr.rf σ).sI rfl
  obtain ⟨σ1, w1, ⟨L, hT, hL⟩, f1⟩ := hq_w.for (x := 17) (d := d + 2) (i := 5) (fun e => [some (.ref 33), some (.int x), some (.int (nI e)), none]) (fun e ρ => (∃ L, TS L ρ ∧ L.Perm (dsF m 0 e)) ∧ Fr [(33, 16), (41, 0)] σ ρ) (A 0 0) (fun e he ρ ⟨⟨L, hT, hL⟩, fr⟩ => by
    have hp1 := HP.dep.fr fr (by decide) hp
    have c1 : nI e < ρ.1 33 13 := by rw [hp1.1]; exact nlt he (by omega)
    have sn := ds_snoc (m := m) (k := e) (e := 0)
    rw [Nat.zero_add] at sn
    have mem : ∀ y, y ∈ L → y < e := fun y hy => by
      have := dsF_mem.mp (hL.mem_iff.mp hy)
      omega
    have len : L.length ≤ e := by
      rw [hL.length_eq]
      have := dsF_len (m := m) (k := e) (e := 0)
      have h2 := sset_le (n := m) (c := 1) (f := fun _ => 1) (m := 0 + e) (fun _ _ => Nat.le_refl _)
      omega
    cases hb : m.testBit e with
    | false =>
      rw [hb, if_neg (by decide), List.append_nil] at sn
      refine ⟨ρ, fun v τ k => p_X1_startSearch_5_1 c1 ((hx e he).mpr hb) ?_, ⟨L, hT, by rw [sn]; exact hL⟩, fr⟩
      rw [nplus]; exact k
    | true =>
      rw [hb, if_pos rfl] at sn
      obtain ⟨L', σ', w, a1, a2, a3⟩ := s_insert (d := d + 1) (x := x) he b1 hp1 hT (by omega) (fun y hy => by have := mem y hy; omega) (fun y => prs_len b2)
      refine ⟨σ', fun v τ k => p_X1_startSearch_5_2 c1 (fun z => by rw [(hx e he).mp z] at hb; cases hb) ?_, ⟨L', a1, ?_⟩, fr.tr a3⟩
      · rw [hT.1]; exact w v τ k
      · rw [sn]
        exact (a2.trans (List.Perm.cons e hL)).trans (List.perm_append_singleton e _).symm) (σ := hq_sI σ 33 15 (nI 0)) ⟨⟨[], ⟨by rw [sI_eq]; rfl, by decide, fun k e hk => by simp at hk⟩, List.Perm.refl _⟩, f0⟩
  have hp1 := HP.dep.fr f1 (by decide) hp
  obtain ⟨s, m1, m2, m3⟩ := mI.dep.fr f1 (by decide) hm
  have c1 : ¬ nI (A 0 0) < σ1.1 33 13 := by rw [hp1.1]; exact nI_nlt (Nat.le_refl _) (by omega)
  have st : (hq_sI σ1 33 16 (σ1.1 33 16 + nI 1)).1 33 16 = nI (s + 1) := by rw [sI_eq, m2, nplus]
  have f2 : Fr [(33, 17), (42, 0)] σ1 (hq_sI σ1 33 16 (σ1.1 33 16 + nI 1)) := (Fr.rf σ1).sI rfl
  by_cases q : s + 1 < 4194304
  · refine ⟨L, _, p_X1_startSearch_0_1 (w1 _ _ (p_X1_startSearch_5_3 c1 (by rw [st]; exact nlt q (by decide)))), TS.dep.fr f2 (by decide) hT, hL, fun bs => ⟨s + 1, q, st, fun u hu => ?_⟩, (f1.up (by decide)).tr (f2.up (by decide))⟩
    obtain ⟨w, a, b, c⟩ := m3 u hu
    exact ⟨w, by rw [sI_ne (by decide)]; exact a, b, by omega, fun z => by omega⟩
  · obtain ⟨τ, g1, g2, g3, g4⟩ := s_forget4096 (d := d) (σ := hq_sI σ1 33 16 (σ1.1 33 16 + nI 1))
    refine ⟨L, τ, p_X1_startSearch_0_1 (w1 _ _ (p_X1_startSearch_5_4 c1 (by rw [st]; exact nI_nlt (by omega) (by omega)) g1)), TS.dep.fr g4 (by decide) (TS.dep.fr f2 (by decide) hT), hL, fun bs => ⟨1, by decide, g2, fun u hu => ?_⟩, (f1.up (by decide)).tr ((f2.up (by decide)).tr (g4.up (by decide)))⟩
    exact ⟨0, g3 u hu, by decide, by decide, fun z => by cases z⟩
end HE1
