/-! ways, been, sure: the class -/
section W2
variable {d : Nat} {σ : hq_St} {A : TA} {y : Int32} {G H : List Nat}
theorem lpos {v : Nat} (h : v < 2 ^ 62) : 0 < lg_cmp (lN v) (lN 0) ↔ 0 < v := by rw [lg_cmp_gt, pk_lLT (by decide) (by omega)]
def rtp (A : TA) (y : Int32) (G : List Nat) (H : List Nat) (k b e m : Nat) : Nat := if hitA A y G H e k then (if A 2 e < m ∧ b.testBit (A 2 e) = true ∧ 0 < wy A y G H 0 (H.length - (k + 1)) (A 3 e) then 2 ^ A 3 e else 0) ||| (if A 3 e < m ∧ b.testBit (A 3 e) = true ∧ 0 < wy A y G H 0 (H.length - (k + 1)) (A 2 e) then 2 ^ A 2 e else 0) else 0
theorem rtp_step {k b e m : Nat} (hne : A 2 e ≠ A 3 e) : rtp A y G H k b e (m + 1) = rtp A y G H k b e m ||| (if b.testBit m = true ∧ 0 < wt A y G H 0 k m e then 2 ^ (othA A e m - 1) else 0) := by
  unfold rtp wt
  cases hh : hitA A y G H e k with
  | false => simp
  | true =>
    rw [if_pos rfl, if_pos rfl]
    by_cases q1 : A 2 e = m
    · have o1 : othA A e m = A 3 e + 1 := by rw [← q1]; exact oth_a A
      have h3 : (A 3 e < m + 1) ↔ (A 3 e < m) := by omega
      rw [o1, Nat.add_sub_cancel]
      have h1 : ¬ (A 2 e < m ∧ b.testBit (A 2 e) = true ∧ 0 < wy A y G H 0 (H.length - (k + 1)) (A 3 e)) := fun z => by omega
      rw [if_neg h1, Nat.zero_or, if_pos (⟨rfl, by omega⟩ : true = true ∧ A 3 e + 1 ≠ 0), Nat.or_comm]
      congr 1
      · simp only [h3]
      · have h4 : (A 2 e < m + 1 ∧ b.testBit (A 2 e) = true ∧ 0 < wy A y G H 0 (H.length - (k + 1)) (A 3 e)) ↔ (b.testBit m = true ∧ 0 < wy A y G H 0 (H.length - (k + 1)) (A 3 e)) := by
          rw [q1]; exact ⟨fun z => z.2, fun z => ⟨by omega, z⟩⟩
        simp only [h4]
    · have h1 : (A 2 e < m + 1) ↔ (A 2 e < m) := by omega
      by_cases q2 : A 3 e = m
      · have o1 : othA A e m = A 2 e + 1 := by rw [← q2]; exact oth_b hne
        rw [o1, Nat.add_sub_cancel]
        have h3 : ¬ (A 3 e < m ∧ b.testBit (A 3 e) = true ∧ 0 < wy A y G H 0 (H.length - (k + 1)) (A 2 e)) := fun z => by omega
        rw [if_neg h3, Nat.or_zero, if_pos (⟨rfl, by omega⟩ : true = true ∧ A 2 e + 1 ≠ 0)]
        congr 1
        · simp only [h1]
        · have h4 : (A 3 e < m + 1 ∧ b.testBit (A 3 e) = true ∧ 0 < wy A y G H 0 (H.length - (k + 1)) (A 2 e)) ↔ (b.testBit m = true ∧ 0 < wy A y G H 0 (H.length - (k + 1)) (A 2 e)) := by
            rw [q2]; exact ⟨fun z => z.2, fun z => ⟨by omega, z⟩⟩
          simp only [h4]
      · have h3 : (A 3 e < m + 1) ↔ (A 3 e < m) := by omega
        have o1 : othA A e m = 0 := by unfold othA; rw [if_neg q1, if_neg q2]
        rw [o1]
        have h5 : ¬ (b.testBit m = true ∧ 0 < if true = true ∧ (0 : Nat) ≠ 0 then wy A y G H 0 (H.length - (k + 1)) (0 - 1) else 0) := fun z => by simp at z
        rw [if_neg h5, Nat.or_zero]
        simp only [h1, h3]
theorem rtp_8 (W : Wf A) {k b e : Nat} (he : e < A 0 0) : rtp A y G H k b e 8 = rth A y G H k b e := by
  obtain ⟨u1, u2, -⟩ := W.2.2.1 e he
  unfold rtp rth
  simp only [u1, u2, true_and]
theorem s_roomsThrough (R : Rc A σ) (hl : cL A y G σ) (hE : cE H σ) (hW : cW A y G H 0 0 σ) {k b e : Nat} (hk : k < H.length) (he : e < A 0 0) : hq_c 78 (d + 3) [.ref 47, .ref 5, .int (nI k), .int (nI b), .int (nI e)] σ (some (.int (nI (rth A y G H k b e)))) σ := by
  have W := R.1
  have b1 := W.1
  have hH := hE.1
  obtain ⟨u1, u2, u3, -⟩ := W.2.2.1 e he
  have hW' : cW A y G H 0 (k + 1) σ := fun a b h1 h2 h3 => hW a b (Nat.zero_le _) h2 h3
  have r0 : rtp A y G H k b e 0 = 0 := by unfold rtp; simp
  refine p_X7_roomsThrough_0_1 ?_
  have := hq_m.for (x := 78) (d := d + 3) (v := some (.int (nI (rth A y G H k b e)))) (τ := σ) (i := 4) (st := []) (fun m => [some (.ref 47), some (.ref 5), some (.int (nI k)), some (.int (nI b)), some (.int (nI e)), some (.int (nI (rtp A y G H k b e m))), some (.int (nI m))]) (fun _ => σ) 8 (fun m hm ih => by
    rw [rtp_step u3] at ih
    have c1 : nI m < nI 8 := nlt hm (by decide)
    cases hb : b.testBit m with
    | false =>
      rw [hb, if_neg (fun z => by cases z.1), Nat.or_zero] at ih
      refine p_X7_roomsThrough_4_1 c1 (hn_bit0 (by omega) hb) ?_
      rw [nplus]; exact ih
    | true =>
      have g1 := s_waysThrough (d := d) R hl hE hk hW' hm he
      have wl := wt_lt (A := A) (y := y) (G := G) (H := H) (av := 0) (k := k) (r := m) (e := e) W hH
      by_cases q : 0 < wt A y G H 0 k m e
      · rw [if_pos ⟨hb, q⟩] at ih
        have on0 : othA A e m ≠ 0 := fun z => by unfold wt at q; rw [if_neg (fun y => y.2 z)] at q; omega
        have g2 := s_beyond (d := d + 1) R he hm
        rw [pk_sub (by omega)] at g2
        have ol := oth_lt W (r := m) he
        refine p_X7_roomsThrough_4_2 c1 (hn_bit1 (by omega) hb) g1 ((lpos (by omega)).mpr q) g2 ?_
        rw [nplus, hn_shl _ (by omega), orr]; exact ih
      · rw [if_neg (fun z => q z.2), Nat.or_zero] at ih
        refine p_X7_roomsThrough_4_3 c1 (hn_bit1 (by omega) hb) g1 (fun z => q ((lpos (by omega)).mp z)) ?_
        rw [nplus]; exact ih) (by rw [rtp_8 W he]; exact p_X7_roomsThrough_4_4 (by decide)) 0 (Nat.zero_le _)
  rw [r0] at this
  exact this
theorem cW.at0 (h : cW A y G H 0 0 σ) : σ.2 50 (nI 0).toNatClampNeg = lN (wy A y G H 0 H.length 0) := h 0 0 (Nat.le_refl _) (Nat.zero_le _) (by decide)
theorem s_roomsBehind (R : Rc A σ) (hl : cL A y G σ) (hE : cE H σ) (hW : cW A y G H 0 0 σ) {k : Nat} (hk : k ≤ H.length) : hq_c 77 (d + 4) [.ref 47, .ref 5, .int (nI k)] σ (some (.int (nI (rbh A y G H k)))) σ := by
  have W := R.1
  have b1 := W.1
  have hH := hE.1
  have wl := wy_lt (A := A) (y := y) (G := G) (H := H) (av := 0) W hH 0
  have a0 := hW.at0
  have lp : hq_m 77 (d + 4) (some (.int (nI (rbh A y G H k)))) σ 13 [some (.ref 47), some (.ref 5), some (.int (nI k)), some (.int (nI (rbh A y G H 0))), some (.int (nI 0)), none, none] [] σ := by
    refine hq_m.for (fun j => [some (.ref 47), some (.ref 5), some (.int (nI k)), some (.int (nI (rbh A y G H j))), some (.int (nI j)), none, none]) (fun _ => σ) k (fun j hj ih => ?_) (p_X7_roomsBehind_13_2 (nI_nlt (Nat.le_refl _) (by omega))) 0 (Nat.zero_le _)
    refine p_X7_roomsBehind_13_1 (nlt hj (by omega)) ?_
    refine hq_m.for (fun m => [some (.ref 47), some (.ref 5), some (.int (nI k)), some (.int (nI (rbh A y G H j))), some (.int (nI j)), some (.int (nI (orm (rth A y G H j (rbh A y G H j)) m))), some (.int (nI m))]) (fun _ => σ) (A 0 0) (fun m hm ih2 => ?_) ?_ 0 (Nat.zero_le _)
    · refine p_X7_roomsBehind_20_1 (by rw [R.2.1]; exact nlt hm (by omega)) (s_roomsThrough (d := d) R hl hE hW (by omega) hm) ?_
      rw [nplus, orr]; exact ih2
    · refine p_X7_roomsBehind_20_2 (by rw [R.2.1]; exact nI_nlt (Nat.le_refl _) (by omega)) ?_
      rw [nplus]; exact ih
  by_cases q : 0 < wy A y G H 0 H.length 0
  · have e : rbh A y G H 0 = 1 := by unfold rbh; rw [if_pos q]
    rw [e] at lp
    exact p_X7_roomsBehind_0_1 (vin (by decide) (by decide)) (by rw [a0]; exact (lpos (by omega)).mpr q) lp
  · have e : rbh A y G H 0 = 0 := by unfold rbh; rw [if_neg q]
    rw [e] at lp
    exact p_X7_roomsBehind_0_2 (vin (by decide) (by decide)) (by rw [a0]; exact fun z => q ((lpos (by omega)).mp z)) lp
def lwF (A : TA) (y : Int32) (G : List Nat) (H : List Nat) (k r : Nat) : Nat := fsN (fun e => decide (0 < wt A y G H 0 k r e)) (A 0 0)
def lwL (A : TA) (y : Int32) (G : List Nat) (H : List Nat) : Nat → Nat → List Int64
  | 0, _ => []
  | n + 1, r => (nI (lwF A y G H (H.length - (n + 1)) r)).toInt64 :: lwL A y G H n (othA A (lwF A y G H (H.length - (n + 1)) r) r - 1)
/-- where ways are left there is a door, and ways are left behind it -/
theorem lw_ok (W : Wf A) {n r : Nat} (hn : n + 1 ≤ H.length) (h : 0 < wy A y G H 0 (n + 1) r) : lwF A y G H (H.length - (n + 1)) r < A 0 0 ∧ 0 < wt A y G H 0 (H.length - (n + 1)) r (lwF A y G H (H.length - (n + 1)) r) ∧ (∀ i, i < lwF A y G H (H.length - (n + 1)) r → wt A y G H 0 (H.length - (n + 1)) r i = 0) ∧ ∃ o, othA A (lwF A y G H (H.length - (n + 1)) r) r = o + 1 ∧ o < 8 ∧ 0 < wy A y G H 0 n o := by
  have e1 := wy_at (A := A) (y := y) (G := G) (H := H) (av := 0) (k := H.length - (n + 1)) (r := r) (by omega)
  rw [show H.length - (H.length - (n + 1)) = n + 1 by omega] at e1
  rw [e1] at h
  obtain ⟨e, he, h2⟩ := wsm_pos h
  rw [if_neg (by omega)] at h2
  obtain ⟨f1, f2⟩ := fsN_ex (p := fun e => decide (0 < wt A y G H 0 (H.length - (n + 1)) r e)) he (by simpa using h2)
  have f3 := (fsN_le (fun e => decide (0 < wt A y G H 0 (H.length - (n + 1)) r e)) (A 0 0)).2
  have g1 : lwF A y G H (H.length - (n + 1)) r < A 0 0 := f1
  have g2 : 0 < wt A y G H 0 (H.length - (n + 1)) r (lwF A y G H (H.length - (n + 1)) r) := of_decide_eq_true f2
  refine ⟨g1, g2, fun i hi => by have := f3 i hi; simpa using this, ?_⟩
  have g3 := g2
  unfold wt at g3
  split at g3
  · rename_i z
    have ol := oth_lt W (r := r) g1
    refine ⟨othA A (lwF A y G H (H.length - (n + 1)) r) r - 1, by omega, by omega, ?_⟩
    rw [show H.length - (H.length - (n + 1) + 1) = n by omega] at g3
    exact g3
  · omega
theorem s_lw (hH : H.length ≤ 12) (h0 : 0 < wy A y G H 0 H.length 0) : ∀ (n r : Nat) (L : List Int64) (σ : hq_St), n ≤ H.length → r < 8 → 0 < wy A y G H 0 n r → L.length + n ≤ 16 → Rc A σ → cL A y G σ → cE H σ → cW A y G H 0 0 σ → cR L σ → ∃ τ, hq_m 79 (d + 3) none τ 4 [some (.ref 47), some (.ref 5), some (.ref 3), some (.int (nI r)), some (.int (nI (H.length - n))), none] [] σ ∧ cR (L ++ lwL A y G H n r) τ ∧ Fr [(3, 2), (4, 0)] σ τ := by
  intro n
  induction n with
  | zero =>
    intro r L σ hn hr hp hLn R hl hE hW hL
    refine ⟨σ, p_X7_leastWay_4_3 ?_, ?_, Fr.rf σ⟩
    · rw [hE.2.1]; exact nI_nlt (by omega) (by omega)
    · show cR (L ++ []) σ
      rw [List.append_nil]; exact hL
  | succ n ih =>
    intro r L σ hn hr hp hLn R hl hE hW hL
    have W := R.1
    have b1 := W.1
    have wl := wy_lt (A := A) (y := y) (G := G) (H := H) (av := 0) W hH 0
    obtain ⟨g1, g2, g3, o, g4, g5, g6⟩ := lw_ok W hn hp
    have hk : H.length - (n + 1) < H.length := by omega
    have ek : H.length - (n + 1) + 1 = H.length - n := by omega
    have eL : lwL A y G H (n + 1) r = (nI (lwF A y G H (H.length - (n + 1)) r)).toInt64 :: lwL A y G H n o := by
      show _ :: lwL A y G H n (othA A (lwF A y G H (H.length - (n + 1)) r) r - 1) = _
      rw [g4, Nat.add_sub_cancel]
    rw [eL]
    generalize lwF A y G H (H.length - (n + 1)) r = f at g1 g2 g3 g4
    generalize H.length - (n + 1) = k at hk ek g2 g3
    have hW' : cW A y G H 0 (k + 1) σ := fun a b h1 h2 h3 => hW a b (Nat.zero_le _) h2 h3
    have wtl : ∀ j, wt A y G H 0 k r j < 2 ^ 40 := fun j => wt_lt W hH
    obtain ⟨σ1, d1, d2, d3⟩ := s_add (d := d + 1) hL (by omega) (nI f).toInt64
    have R1 := Rc.dep.fr d3 (by decide) R
    have g7 := s_beyond (d := d + 1) R1 g1 hr
    rw [g4, nI_dec1] at g7
    obtain ⟨τ, i1, i2, i3⟩ := ih o (L ++ [(nI f).toInt64]) σ1 (by omega) g5 g6 (by simp; omega) R1 (cL.dep.fr d3 (by decide) hl) (cE.dep.fr d3 (by decide) hE) (cW.dep.fr d3 (by decide) hW) d2
    rw [← ek] at i1
    have eD : σ.1 5 13 - nI 1 = nI (A 0 0 - 1) := by rw [R.2.1, pk_sub (by omega)]
    refine ⟨τ, p_X7_leastWay_4_1 (by rw [hE.2.1]; exact nlt hk (by omega)) (vin (by decide) (by decide)) (by rw [hW.at0]; exact (lpos (by omega)).mpr h0) ?_, ?_, d3.tr i3⟩
    · refine hq_m.for (fun j => [some (.ref 47), some (.ref 5), some (.ref 3), some (.int (nI r)), some (.int (nI k)), some (.int (nI j))]) (fun _ => σ) f (fun j hj ih2 => ?_) ?_ 0 (Nat.zero_le _)
      · have z := g3 j hj
        refine p_X7_leastWay_17_1 (by rw [eD]; exact nlt (by omega) (by omega)) (s_waysThrough (d := d) R hl hE hk hW' hr (by omega)) ?_ ?_
        · have := wtl j
          rw [l0 (by omega)]; exact z
        · rw [nplus]; exact ih2
      · by_cases q : f < A 0 0 - 1
        · refine p_X7_leastWay_17_2 (by rw [eD]; exact nlt q (by omega)) (s_waysThrough (d := d) R hl hE hk hW' hr g1) ?_ d1 g7 ?_
          · have := wtl f
            rw [l0 (by omega)]; omega
          · rw [nplus]; exact i1
        · refine p_X7_leastWay_17_3 (by rw [eD]; exact nI_nlt (by omega) (by omega)) d1 g7 ?_
          rw [nplus]; exact i1
    · rw [List.append_assoc] at i2
      exact i2
theorem s_leastWay (R : Rc A σ) (hl : cL A y G σ) (hE : cE H σ) (hW : cW A y G H 0 0 σ) {L : List Int64} (hL : cR L σ) (hLn : L.length ≤ 1) : ∃ τ, hq_c 79 (d + 3) [.ref 47, .ref 5, .ref 3] σ none τ ∧ cR (L ++ (if 0 < wy A y G H 0 H.length 0 then lwL A y G H H.length 0 else [])) τ ∧ Fr [(3, 2), (4, 0)] σ τ := by
  have W := R.1
  have hH := hE.1
  have wl := wy_lt (A := A) (y := y) (G := G) (H := H) (av := 0) W hH 0
  by_cases q : 0 < wy A y G H 0 H.length 0
  · rw [if_pos q]
    obtain ⟨τ, i1, i2, i3⟩ := s_lw (d := d) hH q H.length 0 L σ (Nat.le_refl _) (by decide) q (by omega) R hl hE hW hL
    rw [Nat.sub_self] at i1
    exact ⟨τ, p_X7_leastWay_0_1 i1, i2, i3⟩
  · rw [if_neg q, List.append_nil]
    refine ⟨σ, p_X7_leastWay_0_1 ?_, hL, Fr.rf σ⟩
    by_cases z : 0 < H.length
    · exact p_X7_leastWay_4_2 (by rw [hE.2.1]; exact nlt z (by omega)) (vin (by decide) (by decide)) (by rw [hW.at0]; exact fun y => q ((lpos (by omega)).mp y))
    · exact p_X7_leastWay_4_3 (by rw [hE.2.1]; exact nI_nlt (by omega) (by omega))
def alW (A : TA) (y : Int32) (G : List Nat) (H : List Nat) : Nat → Nat := sbits (fun e => decide (wy A y G H (e + 1) H.length 0 = 0))
def smK (A : TA) (y : Int32) (G : List Nat) (H : List Nat) (k : Nat) : Nat → Nat := sbits (fun e => decide (rth A y G H k (rbh A y G H k) e ≠ 0))
def smW (A : TA) (y : Int32) (G : List Nat) (H : List Nat) : Nat → Nat
  | 0 => 0
  | k + 1 => smW A y G H k ||| smK A y G H k (A 0 0)
theorem s_doorsOfAllWays (R : Rc A σ) (hl : cL A y G σ) (hE : cE H σ) : ∃ τ, hq_c 80 (d + 4) [.ref 47, .ref 5] σ (some (.int (nI (alW A y G H (A 0 0))))) τ ∧ Fr [(50, 0)] σ τ := by
  have W := R.1
  have b1 := W.1
  have hH := hE.1
  obtain ⟨τ, w, f⟩ := hq_w.for (x := 80) (d := d + 4) (i := 4) (fun j => [some (.ref 47), some (.ref 5), some (.int (nI (alW A y G H j))), some (.int (nI j))]) (fun _ ρ => Fr [(50, 0)] σ ρ) (A 0 0) (fun j hj ρ fr => by
    have R1 := Rc.dep.fr fr (by decide) R
    have wl := wy_lt (A := A) (y := y) (G := G) (H := H) (av := j + 1) W hH 0
    obtain ⟨ρ2, c1, c2, c3⟩ := s_countWays (d := d) (H := H) (av := j + 1) (x := nI j) R1 (cL.dep.fr fr (by decide) hl) (cE.dep.fr fr (by decide) hE) (fun e he => by rw [nI_eq (by omega) (by omega)]; omega)
    have lt : nI j < ρ.1 5 13 := by rw [R1.2.1]; exact nlt hj (by omega)
    by_cases q : wy A y G H (j + 1) H.length 0 = 0
    · refine ⟨ρ2, fun v τ k => p_X7_doorsOfAllWays_4_1 lt c1 ((l0 (by omega)).mpr q) ?_, fr.tr c3⟩
      have e : alW A y G H (j + 1) = alW A y G H j ||| 2 ^ j := sbits_1 (by simpa using q)
      rw [e] at k
      rw [hn_shl j (by omega), orr, nplus]; exact k
    · refine ⟨ρ2, fun v τ k => p_X7_doorsOfAllWays_4_2 lt c1 (fun z => q ((l0 (by omega)).mp z)) ?_, fr.tr c3⟩
      have e : alW A y G H (j + 1) = alW A y G H j := sbits_0 (by simpa using q)
      rw [e] at k
      rw [orr, Nat.or_zero, nplus]; exact k) (σ := σ) (Fr.rf σ)
  refine ⟨τ, p_X7_doorsOfAllWays_0_1 (w _ _ (p_X7_doorsOfAllWays_4_3 ?_)), f⟩
  rw [(Rc.dep.fr f (by decide) R).2.1]; exact nI_nlt (Nat.le_refl _) (by omega)
theorem s_doorsOfSomeWay (R : Rc A σ) (hl : cL A y G σ) (hE : cE H σ) (hW : cW A y G H 0 0 σ) : hq_c 81 (d + 5) [.ref 47, .ref 5] σ (some (.int (nI (smW A y G H H.length)))) σ := by
  have W := R.1
  have b1 := W.1
  have hH := hE.1
  refine p_X7_doorsOfSomeWay_0_1 ?_
  refine hq_m.for (fun k => [some (.ref 47), some (.ref 5), some (.int (nI (smW A y G H k))), some (.int (nI k)), none, none]) (fun _ => σ) H.length (fun k hk ih => ?_) (p_X7_doorsOfSomeWay_4_2 (by rw [hE.2.1]; exact nI_nlt (Nat.le_refl _) (by omega))) 0 (Nat.zero_le _)
  refine p_X7_doorsOfSomeWay_4_1 (by rw [hE.2.1]; exact nlt hk (by omega)) (s_roomsBehind (d := d) R hl hE hW (by omega)) ?_
  have := hq_m.for (x := 81) (d := d + 5) (v := some (.int (nI (smW A y G H H.length)))) (τ := σ) (i := 15) (st := []) (fun m => [some (.ref 47), some (.ref 5), some (.int (nI (smW A y G H k ||| smK A y G H k m))), some (.int (nI k)), some (.int (nI (rbh A y G H k))), some (.int (nI m))]) (fun _ => σ) (A 0 0) (fun m hm ih2 => by
    have lt : nI m < σ.1 5 13 := by rw [R.2.1]; exact nlt hm (by omega)
    have g1 := s_roomsThrough (d := d + 1) (b := rbh A y G H k) R hl hE hW hk hm
    have rl := rth_lt (A := A) (y := y) (G := G) (H := H) (k := k) (b := rbh A y G H k) W hm
    by_cases q : rth A y G H k (rbh A y G H k) m = 0
    · have e : smK A y G H k (m + 1) = smK A y G H k m := sbits_0 (by simpa using q)
      rw [e] at ih2
      rw [q] at g1
      refine p_X7_doorsOfSomeWay_15_1 lt g1 rfl ?_
      rw [orr, Nat.or_zero, nplus]; exact ih2
    · have e : smK A y G H k (m + 1) = smK A y G H k m ||| 2 ^ m := sbits_1 (by simpa using q)
      rw [e, ← Nat.or_assoc] at ih2
      refine p_X7_doorsOfSomeWay_15_2 lt g1 (nI_ne0 (by omega) (by omega)) ?_
      rw [hn_shl m (by omega), orr, nplus]; exact ih2) (by
    refine p_X7_doorsOfSomeWay_15_3 (by rw [R.2.1]; exact nI_nlt (Nat.le_refl _) (by omega)) ?_
    rw [nplus]; exact ih) 0 (Nat.zero_le _)
  rw [show smK A y G H k 0 = 0 from rfl, Nat.or_zero] at this
  exact this
/-- answers and rows -/
def wysR (A : TA) (y : Int32) (G H : List Nat) : Int32 := nI (min 1000000 (wy A y G H 0 H.length 0))
def wysL (A : TA) (y : Int32) (G H : List Nat) : List Int64 := [(nI (rbh A y G H H.length)).toInt64] ++ (if 0 < wy A y G H 0 H.length 0 then lwL A y G H H.length 0 else [])
def benR (A : TA) (y : Int32) (G H : List Nat) (x : Int32) : Int32 := if inb x 0 H.length then nI (rbh A y G H x.toNatClampNeg) else -1
def surR (A : TA) (y : Int32) (G H : List Nat) : Int32 := if wy A y G H 0 H.length 0 = 0 then -2 else nI (alW A y G H (A 0 0))
def surL (A : TA) (y : Int32) (G H : List Nat) (L : List Int64) : List Int64 := if wy A y G H 0 H.length 0 = 0 then L else [(nI (smW A y G H H.length)).toInt64]
theorem m1_av (b1 : A 0 0 ≤ 8) : ∀ e, e < A 0 0 → (nI e = (-1 : Int32) ↔ e + 1 = 0) := fun e he => by
  rw [fa_eq, nI_toInt (by omega)]
  have : (-1 : Int32).toInt = -1 := rfl
  omega
theorem lN32 {v : Nat} (h : v ≤ 1000000) : (lN v).toInt32 = nI v := by
  rw [fa_eq, Int64.toInt_toInt32, pk_lT (by omega), nI_toInt (by omega)]
  exact Int.bmod_eq_of_le (by omega) (by omega)
theorem s_ways (R : Rc A σ) (hy : σ.1 5 16 = y) (hG : cU G σ) (hE : cE H σ) : ∃ τ, hq_c 147 (d + 6) [.ref 0] σ (some (.int (wysR A y G H))) τ ∧ cR (wysL A y G H) τ ∧ Fr [(3, 2), (4, 0), (27, 0), (48, 0), (50, 0)] σ τ := by
  have W := R.1
  have hH := hE.1
  have wl := wy_lt (A := A) (y := y) (G := G) (H := H) (av := 0) W hH 0
  obtain ⟨σ1, l1, l2, l3⟩ := s_listen (d := d) R hy hG
  have R1 := Rc.dep.fr l3 (by decide) R
  have E1 := cE.dep.fr l3 (by decide) hE
  obtain ⟨σ2, c1, c2, c3⟩ := s_countWays (d := d + 2) (H := H) (av := 0) (x := -1) R1 l2 E1 (m1_av W.1)
  obtain ⟨σ3, e1, e2, e3⟩ := s_clear (d := d + 4) (σ := σ2)
  have f13 := c3.up (G := [(3, 2), (4, 0), (50, 0)]) (by decide) |>.tr (e3.up (by decide))
  have R3 := Rc.dep.fr f13 (by decide) R1
  have E3 := cE.dep.fr f13 (by decide) E1
  have l3' := cL.dep.fr f13 (by decide) l2
  have W3 := cW.dep.fr e3 (by decide) c2
  have g4 := s_roomsBehind (d := d + 1) R3 l3' E3 W3 (k := H.length) (Nat.le_refl _)
  obtain ⟨σ5, a1, a2, a3⟩ := s_add (d := d + 4) e2 (by decide) (nI (rbh A y G H H.length)).toInt64
  obtain ⟨σ6, b1, b2, b3⟩ := s_leastWay (d := d + 2) (Rc.dep.fr a3 (by decide) R3) (cL.dep.fr a3 (by decide) l3') (cE.dep.fr a3 (by decide) E3) (cW.dep.fr a3 (by decide) W3) a2 (by simp)
  have P := p_X9_ways_0_1 (d := d + 5) l1 c1 e1 (by rw [E3.2.1]; exact g4) a1 b1
  have e : (if lN 1000000 < lN (wy A y G H 0 H.length 0) then lN 1000000 else lN (wy A y G H 0 H.length 0)) = lN (min 1000000 (wy A y G H 0 H.length 0)) := by
    by_cases q : 1000000 < wy A y G H 0 H.length 0
    · rw [if_pos ((pk_lLT (by decide) (by omega)).mpr q), Nat.min_eq_left (by omega)]
    · rw [if_neg (fun z => q ((pk_lLT (by decide) (by omega)).mp z)), Nat.min_eq_right (by omega)]
  rw [e, lN32 (by omega)] at P
  exact ⟨σ6, P, b2, (l3.up (by decide)).tr ((f13.up (by decide)).tr ((a3.tr b3).up (by decide)))⟩
theorem s_been (R : Rc A σ) (hy : σ.1 5 16 = y) (hG : cU G σ) (hE : cE H σ) (x : Int32) : ∃ τ, hq_c 148 (d + 6) [.ref 0, .int x] σ (some (.int (benR A y G H x))) τ ∧ Fr [(27, 0), (48, 0), (50, 0)] σ τ := by
  have W := R.1
  have hH := hE.1
  unfold benR
  cases hx : inb x 0 H.length with
  | false =>
    by_cases q : x < 0
    · exact ⟨σ, p_X9_been_0_1 q, Fr.rf σ⟩
    · refine ⟨σ, p_X9_been_0_2 q ?_, Fr.rf σ⟩
      rw [hE.2.1, nI_ltx (by omega)]
      rw [ltz] at q
      unfold inb at hx
      simp at hx
      have := hx (by omega)
      omega
  | true =>
    obtain ⟨k, -, hk, rfl⟩ := inb_of hx
    rw [if_pos rfl, clamp (by omega)]
    obtain ⟨σ1, l1, l2, l3⟩ := s_listen (d := d) R hy hG
    have R1 := Rc.dep.fr l3 (by decide) R
    have E1 := cE.dep.fr l3 (by decide) hE
    obtain ⟨σ2, c1, c2, c3⟩ := s_countWays (d := d + 2) (H := H) (av := 0) (x := -1) R1 l2 E1 (m1_av W.1)
    have g4 := s_roomsBehind (d := d + 1) (Rc.dep.fr c3 (by decide) R1) (cL.dep.fr c3 (by decide) l2) (cE.dep.fr c3 (by decide) E1) c2 (k := k) hk
    refine ⟨σ2, p_X9_been_0_3 ?_ ?_ l1 c1 g4, (l3.up (by decide)).tr (c3.up (by decide))⟩
    · rw [ltz, nI_toInt (by omega)]; omega
    · rw [hE.2.1]; exact nI_nlt (by omega) (by omega)
theorem s_sure (R : Rc A σ) (hy : σ.1 5 16 = y) (hG : cU G σ) (hE : cE H σ) {L : List Int64} (hL : cR L σ) : ∃ τ, hq_c 149 (d + 6) [.ref 0] σ (some (.int (surR A y G H))) τ ∧ cR (surL A y G H L) τ ∧ Fr [(3, 2), (4, 0), (27, 0), (48, 0), (50, 0)] σ τ := by
  have W := R.1
  have hH := hE.1
  have wl := wy_lt (A := A) (y := y) (G := G) (H := H) (av := 0) W hH 0
  obtain ⟨σ1, l1, l2, l3⟩ := s_listen (d := d) R hy hG
  have R1 := Rc.dep.fr l3 (by decide) R
  have E1 := cE.dep.fr l3 (by decide) hE
  obtain ⟨σ2, a1, a2⟩ := s_doorsOfAllWays (d := d + 1) R1 l2 E1
  have R2 := Rc.dep.fr a2 (by decide) R1
  have E2 := cE.dep.fr a2 (by decide) E1
  have l2' := cL.dep.fr a2 (by decide) l2
  obtain ⟨σ3, c1, c2, c3⟩ := s_countWays (d := d + 2) (H := H) (av := 0) (x := -1) R2 l2' E2 (m1_av W.1)
  have fr3 : Fr [(3, 2), (4, 0), (27, 0), (48, 0), (50, 0)] σ σ3 := (l3.up (by decide)).tr ((a2.tr c3).up (by decide))
  unfold surR surL
  by_cases q : wy A y G H 0 H.length 0 = 0
  · rw [if_pos q, if_pos q]
    exact ⟨σ3, p_X9_sure_0_1 l1 a1 c1 ((l0 (by omega)).mpr q), cR.dep.fr c3 (by decide) (cR.dep.fr a2 (by decide) (cR.dep.fr l3 (by decide) hL)), fr3⟩
  · rw [if_neg q, if_neg q]
    obtain ⟨σ4, e1, e2, e3⟩ := s_clear (d := d + 4) (σ := σ3)
    have f24 := (c3.up (G := [(3, 2), (4, 0), (50, 0)]) (by decide)).tr (e3.up (by decide))
    have g5 := s_doorsOfSomeWay (d := d) (Rc.dep.fr f24 (by decide) R2) (cL.dep.fr f24 (by decide) l2') (cE.dep.fr f24 (by decide) E2) (cW.dep.fr e3 (by decide) c2)
    obtain ⟨σ5, b1, b2, b3⟩ := s_add (d := d + 4) e2 (by decide) (nI (smW A y G H H.length)).toInt64
    exact ⟨σ5, p_X9_sure_0_2 l1 a1 c1 (fun z => q ((l0 (by omega)).mp z)) e1 g5 b1, b2, fr3.tr ((e3.tr b3).up (by decide))⟩
end W2
