/-! The law's loop -/
def LL5 (i : Nat) (u : Int32) : hq_L := [some (.ref 2000), some (.ref 0), some (.ref 52), some (.ref 85), some (.int (nI i)), some (.int u), none, none]
def LL6 (i : Nat) (u w : Int32) : hq_L := [some (.ref 2000), some (.ref 0), some (.ref 52), some (.ref 85), some (.int (nI i)), some (.int u), some (.int w), none]
def LL7 (i : Nat) (u : Int32) (w : Int64) : hq_L := [some (.ref 2000), some (.ref 0), some (.ref 52), some (.ref 85), some (.int (nI i)), some (.int u), some (.long w), none]
theorem lw_int {n : Nat} (h : n ≤ 2560) : (Int32.ofNat n - nI 5).toInt = (n : Int) - 5 := by
  rw [show Int32.ofNat n = nI n from rfl, Int32.toInt_sub, nI_toInt (by omega), nI_toInt (by decide)]
  rw [Int.bmod_def]; omega
theorem lw_lt {n i : Nat} (h : n ≤ 2560) (h2 : i ≤ n + 5) (q : n < i + 5) : (Int32.ofNat n - nI 5).toInt < (nI i).toInt := by
  rw [lw_int h, nI_toInt (by omega)]; omega
theorem lw_ge {n i : Nat} (h : n ≤ 2560) (q : i + 5 ≤ n) : ¬ (Int32.ofNat n - nI 5).toInt < (nI i).toInt := by
  rw [lw_int h, nI_toInt (by omega)]; omega
section LX
variable {xs : Nat → Int32} {n : Nat} {K K1 K2 : hq_F}
theorem LK.arg5 (h : LK xs n K K1) (hn : n ≤ 2560) {i k a : Nat} {L : hq_L} (hk : k < 5) (hi : i + 5 ≤ n) {st : List Value} {σ : hq_St} (s : hq_steps tb_law 4 a L st σ [] = some (a + 4, L, .int (nI i + nI k) :: .ref 2000 :: st, σ, [])) {e : hq_E} (he : tb_law[a + 4]? = some e) (hb : e.2.1 = .iaload) (g : K (a + 5) L (.int (xs (i + k)) :: st) σ) : K a L st σ := by
  refine h.go 4 s trivial (h.2.1 _ e _ _ _ _ he hb ?_ ?_)
  · rw [nI_add]; exact vin (by omega) (by omega)
  · rw [nI_add, clamp (by omega)]; exact g
theorem hq_sw_all {P : Nat → Prop} : ∀ (ks : List Int) (ts : List Nat) (d : Nat) (x : Int32), (∀ t ∈ ts, P t) → P d → P (hq_sw ks ts d x)
  | [], _, _, _, _, hd => by unfold hq_sw; exact hd
  | _ :: _, [], _, _, _, hd => by unfold hq_sw; exact hd
  | k :: ks, t :: ts, d, x, ht, hd => by
    unfold hq_sw
    have := hq_sw_all ks ts d x (fun u hu => ht u (List.mem_cons_of_mem _ hu)) hd
    cases decide (x = Int32.ofInt k)
    · exact this
    · exact ht t List.mem_cons_self
set_option maxRecDepth 100000 in
theorem LK.doorT (h : LK xs n K K1) (hn : n ≤ 2560) {i : Nat} (hi : i + 5 ≤ n) {u : Int32} {w : Int32} {ρ σ2 : hq_St} (g2 : hq_c 207 1000 [.ref 52, .int (xs (i + 1)), .int (xs (i + 2))] ρ (some (.int w)) σ2) (z1 : σ2.1 52 0 = u) (z2 : u = 0 → σ2.2 85 0 = w.toInt64) (k : K 817 (LL i) [] σ2) : K 86 (LL i) [.int u] ρ := by
  refine h.go 2 (i' := 88) (L' := LL5 i u) (st' := [.ref 52]) (σ' := ρ) (ps := []) rfl trivial ?_
  refine h.arg5 hn (k := 1) (by decide) hi (a := 88) rfl rfl rfl ?_
  refine h.arg5 hn (k := 2) (by decide) hi (a := 93) rfl rfl rfl ?_
  refine h.call (i := 98) rfl rfl g2 ?_
  refine h.go 2 (i' := 101) (L' := LL6 i u w) (st' := [.ref 52]) (σ' := σ2) (ps := []) rfl trivial ?_
  refine h.call (i := 101) rfl rfl (dp (d := 1) p_X10_thrown_0_1 (by decide)) ?_
  rw [z1]
  refine h.go 2 (i' := cond (decide (u = u)) 106 104) (L' := LL6 i u w) (st' := []) (σ' := σ2) (ps := []) rfl trivial ?_
  rw [decide_eq_true rfl]
  have fin : K 117 (LL6 i u w) [] σ2 := h.go 1 (i' := 817) (L' := LL6 i u w) (st' := []) (σ' := σ2) (ps := []) rfl trivial (h.2.2.2.2.1 _ _ _ _ _ (hq_leS (hq_leS (hq_leS (hq_leS (hq_leS (hq_leN (hq_leN (hq_leN hq_le0)))))))) k)
  refine h.go 2 (i := 106) (i' := cond (decide (u = 0)) 108 117) (L' := LL6 i u w) (st' := []) (σ' := σ2) (ps := []) rfl trivial ?_
  by_cases q : u = 0
  · rw [decide_eq_true q]
    refine h.go 6 (i := 108) (i' := 114) (L' := LL6 i u w) (st' := [.int (lg_cmp (σ2.2 85 0) (w.toInt64))]) (σ' := σ2) (ps := [vp_in (Int32.ofInt 0) 1]) rfl ⟨vin (by decide) (by decide), trivial⟩ ?_
    refine h.go 1 (i' := cond (decide (lg_cmp (σ2.2 85 0) (w.toInt64) = 0)) 117 115) (L' := LL6 i u w) (st' := []) (σ' := σ2) (ps := []) rfl trivial ?_
    rw [decide_eq_true ((lg_cmp_eq _ _).mpr (z2 q))]
    exact fin
  · rw [decide_eq_false q]
    exact fin
set_option maxRecDepth 100000 in
theorem LK.door (h : LK xs n K K1) (h1 : LK xs n K1 K2) (hn : n ≤ 2560) {i : Nat} (hi : i + 5 ≤ n) (S : ∀ p q, SAMED 114 207 p q) (k : ∀ σ, INV σ → K 817 (LL i) [] σ) (k1 : ∀ σ, INV σ → K1 817 (LL i) [] σ) : ∀ σ, INV σ → K 73 (LL i) [] σ := fun σ I => by
  refine h.go 1 (i' := 74) (L' := LL i) (st' := [.ref 0]) (σ' := σ) (ps := []) rfl trivial ?_
  refine h.arg5 hn (k := 1) (by decide) hi (a := 74) rfl rfl rfl ?_
  refine h.arg5 hn (k := 2) (by decide) hi (a := 79) rfl rfl rfl ?_
  refine h.go 1 (i' := 85) (L' := LL i) (st' := [.ref 85, .int (xs (i + 2)), .int (xs (i + 1)), .ref 0]) (σ' := σ) (ps := []) rfl trivial ?_
  rcases S (xs (i + 1)) (xs (i + 2)) σ I with ⟨v, σ1, σ2, g1, g2, z1, z2, J⟩ | ⟨w, σ2, g1, g2, z1, J⟩
  · exact h.2.2.2.2.2.1 85 _ _ _ _ _ _ _ _ rfl (Or.inl ⟨rfl, rfl⟩) g1 (h.doorT hn hi g2 z1 (fun _ => z2) (k _ J))
  · exact h.2.2.2.2.2.2.1 85 _ _ _ _ _ _ rfl (Or.inl ⟨rfl, rfl⟩) g1 (h1.doorT hn hi g2 z1 (fun z => absurd z (by decide)) (k1 _ J))
set_option maxRecDepth 100000 in
theorem LK.hingeT (h : LK xs n K K1) (hn : n ≤ 2560) {i : Nat} (hi : i + 5 ≤ n) {u : Int32} {w : Int32} {ρ σ2 : hq_St} (g2 : hq_c 208 1000 [.ref 52, .int (xs (i + 1)), .int (xs (i + 2))] ρ (some (.int w)) σ2) (z1 : σ2.1 52 0 = u) (z2 : u = 0 → σ2.2 85 0 = w.toInt64) (k : K 817 (LL i) [] σ2) : K 131 (LL i) [.int u] ρ := by
  refine h.go 2 (i' := 133) (L' := LL5 i u) (st' := [.ref 52]) (σ' := ρ) (ps := []) rfl trivial ?_
  refine h.arg5 hn (k := 1) (by decide) hi (a := 133) rfl rfl rfl ?_
  refine h.arg5 hn (k := 2) (by decide) hi (a := 138) rfl rfl rfl ?_
  refine h.call (i := 143) rfl rfl g2 ?_
  refine h.go 2 (i' := 146) (L' := LL6 i u w) (st' := [.ref 52]) (σ' := σ2) (ps := []) rfl trivial ?_
  refine h.call (i := 146) rfl rfl (dp (d := 1) p_X10_thrown_0_1 (by decide)) ?_
  rw [z1]
  refine h.go 2 (i' := cond (decide (u = u)) 151 149) (L' := LL6 i u w) (st' := []) (σ' := σ2) (ps := []) rfl trivial ?_
  rw [decide_eq_true rfl]
  have fin : K 162 (LL6 i u w) [] σ2 := h.go 1 (i' := 817) (L' := LL6 i u w) (st' := []) (σ' := σ2) (ps := []) rfl trivial (h.2.2.2.2.1 _ _ _ _ _ (hq_leS (hq_leS (hq_leS (hq_leS (hq_leS (hq_leN (hq_leN (hq_leN hq_le0)))))))) k)
  refine h.go 2 (i := 151) (i' := cond (decide (u = 0)) 153 162) (L' := LL6 i u w) (st' := []) (σ' := σ2) (ps := []) rfl trivial ?_
  by_cases q : u = 0
  · rw [decide_eq_true q]
    refine h.go 6 (i := 153) (i' := 159) (L' := LL6 i u w) (st' := [.int (lg_cmp (σ2.2 85 0) (w.toInt64))]) (σ' := σ2) (ps := [vp_in (Int32.ofInt 0) 1]) rfl ⟨vin (by decide) (by decide), trivial⟩ ?_
    refine h.go 1 (i' := cond (decide (lg_cmp (σ2.2 85 0) (w.toInt64) = 0)) 162 160) (L' := LL6 i u w) (st' := []) (σ' := σ2) (ps := []) rfl trivial ?_
    rw [decide_eq_true ((lg_cmp_eq _ _).mpr (z2 q))]
    exact fin
  · rw [decide_eq_false q]
    exact fin
set_option maxRecDepth 100000 in
theorem LK.hinge (h : LK xs n K K1) (h1 : LK xs n K1 K2) (hn : n ≤ 2560) {i : Nat} (hi : i + 5 ≤ n) (S : ∀ p q, SAMED 115 208 p q) (k : ∀ σ, INV σ → K 817 (LL i) [] σ) (k1 : ∀ σ, INV σ → K1 817 (LL i) [] σ) : ∀ σ, INV σ → K 118 (LL i) [] σ := fun σ I => by
  refine h.go 1 (i' := 119) (L' := LL i) (st' := [.ref 0]) (σ' := σ) (ps := []) rfl trivial ?_
  refine h.arg5 hn (k := 1) (by decide) hi (a := 119) rfl rfl rfl ?_
  refine h.arg5 hn (k := 2) (by decide) hi (a := 124) rfl rfl rfl ?_
  refine h.go 1 (i' := 130) (L' := LL i) (st' := [.ref 85, .int (xs (i + 2)), .int (xs (i + 1)), .ref 0]) (σ' := σ) (ps := []) rfl trivial ?_
  rcases S (xs (i + 1)) (xs (i + 2)) σ I with ⟨v, σ1, σ2, g1, g2, z1, z2, J⟩ | ⟨w, σ2, g1, g2, z1, J⟩
  · exact h.2.2.2.2.2.1 130 _ _ _ _ _ _ _ _ rfl (Or.inr ⟨rfl, rfl⟩) g1 (h.hingeT hn hi g2 z1 (fun _ => z2) (k _ J))
  · exact h.2.2.2.2.2.2.1 130 _ _ _ _ _ _ rfl (Or.inr ⟨rfl, rfl⟩) g1 (h1.hingeT hn hi g2 z1 (fun z => absurd z (by decide)) (k1 _ J))
set_option maxRecDepth 100000 in
theorem LK.rowT (h : LK xs n K K1) (hn : n ≤ 2560) {i : Nat} (hi : i + 5 ≤ n) {u : Int32} {w : Int64} {ρ σ2 : hq_St} (g2 : hq_c 278 1000 [.ref 52, .int (xs (i + 1))] ρ (some (.long w)) σ2) (z1 : σ2.1 52 0 = u) (z2 : u = 0 → σ2.2 85 0 = w) (k : K 817 (LL i) [] σ2) : K 791 (LL i) [.int u] ρ := by
  refine h.go 2 (i' := 793) (L' := LL5 i u) (st' := [.ref 52]) (σ' := ρ) (ps := []) rfl trivial ?_
  refine h.arg5 hn (k := 1) (by decide) hi (a := 793) rfl rfl rfl ?_
  refine h.call (i := 798) rfl rfl g2 ?_
  refine h.go 2 (i' := 801) (L' := LL7 i u w) (st' := [.ref 52]) (σ' := σ2) (ps := []) rfl trivial ?_
  refine h.call (i := 801) rfl rfl (dp (d := 1) p_X10_thrown_0_1 (by decide)) ?_
  rw [z1]
  refine h.go 2 (i' := cond (decide (u = u)) 806 804) (L' := LL7 i u w) (st' := []) (σ' := σ2) (ps := []) rfl trivial ?_
  rw [decide_eq_true rfl]
  have fin : K 816 (LL7 i u w) [] σ2 := h.go 1 (i' := 817) (L' := LL7 i u w) (st' := []) (σ' := σ2) (ps := []) rfl trivial (h.2.2.2.2.1 _ _ _ _ _ (hq_leS (hq_leS (hq_leS (hq_leS (hq_leS (hq_leN (hq_leN (hq_leN hq_le0)))))))) k)
  refine h.go 2 (i := 806) (i' := cond (decide (u = 0)) 808 816) (L' := LL7 i u w) (st' := []) (σ' := σ2) (ps := []) rfl trivial ?_
  by_cases q : u = 0
  · rw [decide_eq_true q]
    refine h.go 5 (i := 808) (i' := 813) (L' := LL7 i u w) (st' := [.int (lg_cmp (σ2.2 85 0) (w))]) (σ' := σ2) (ps := [vp_in (Int32.ofInt 0) 1]) rfl ⟨vin (by decide) (by decide), trivial⟩ ?_
    refine h.go 1 (i' := cond (decide (lg_cmp (σ2.2 85 0) (w) = 0)) 816 814) (L' := LL7 i u w) (st' := []) (σ' := σ2) (ps := []) rfl trivial ?_
    rw [decide_eq_true ((lg_cmp_eq _ _).mpr (z2 q))]
    exact fin
  · rw [decide_eq_false q]
    exact fin
set_option maxRecDepth 100000 in
theorem LK.row (h : LK xs n K K1) (h1 : LK xs n K1 K2) (hn : n ≤ 2560) {i : Nat} (hi : i + 5 ≤ n) (S : ∀ p, SAMER p) (k : ∀ σ, INV σ → K 817 (LL i) [] σ) (k1 : ∀ σ, INV σ → K1 817 (LL i) [] σ) : ∀ σ, INV σ → K 783 (LL i) [] σ := fun σ I => by
  refine h.go 1 (i' := 784) (L' := LL i) (st' := [.ref 0]) (σ' := σ) (ps := []) rfl trivial ?_
  refine h.arg5 hn (k := 1) (by decide) hi (a := 784) rfl rfl rfl ?_
  refine h.go 1 (i' := 790) (L' := LL i) (st' := [.ref 85, .int (xs (i + 1)), .ref 0]) (σ' := σ) (ps := []) rfl trivial ?_
  rcases S (xs (i + 1)) σ I with ⟨v, σ1, σ2, g1, g2, z1, z2, J⟩ | ⟨w, σ2, g1, g2, z1, J⟩
  · exact h.2.2.2.2.2.2.2.1 790 _ _ _ _ _ _ rfl rfl g1 (h.rowT hn hi g2 z1 (fun _ => z2) (k _ J))
  · exact h.2.2.2.2.2.2.2.2.1 790 _ _ _ _ rfl rfl g1 (h1.rowT hn hi g2 z1 (fun z => absurd z (by decide)) (k1 _ J))
set_option maxRecDepth 100000 in
theorem LK.case (h : LK xs n K K1) (h1 : LK xs n K1 K2) (hn : n ≤ 2560) {i : Nat} (hi : i + 5 ≤ n) (S4 : ∀ p q, SAMED 114 207 p q) (S5 : ∀ p q, SAMED 115 208 p q) (S46 : ∀ p, SAMER p) (k : ∀ σ, INV σ → K 817 (LL i) [] σ) (k1 : ∀ σ, INV σ → K1 817 (LL i) [] σ) {σ : hq_St} (I : INV σ) : ∀ t ∈ [25, 42, 59, 66, 73, 118, 163, 190, 237, 264, 281, 308, 325, 332, 349, 376, 383, 390, 397, 414, 421, 438, 455, 472, 489, 506, 523, 540, 547, 554, 571, 588, 595, 602, 619, 626, 643, 650, 657, 674, 681, 708, 725, 732, 749, 766, 783], K t (LL i) [] σ := by
  have g0 : K 25 (LL i) [] σ := h.c1 hn (a := 25) hi e_sign (Or.inl rfl) (fun _ => rfl) (fun _ _ => rfl) (fun _ => rfl) ⟨_, rfl, rfl⟩ (fun _ _ => rfl) ⟨_, rfl, rfl⟩ (fun _ => ⟨_, rfl, rfl, rfl⟩) (fun _ _ => ⟨_, rfl, rfl, rfl⟩) (fun _ _ => rfl) k σ I
  have g1 : K 42 (LL i) [] σ := h.c1 hn (a := 42) hi e_end (Or.inr rfl) (fun _ => rfl) (fun _ _ => rfl) (fun _ => rfl) ⟨_, rfl, rfl⟩ (fun _ _ => rfl) ⟨_, rfl, rfl⟩ (fun _ => ⟨_, rfl, rfl, rfl⟩) (fun _ _ => ⟨_, rfl, rfl, rfl⟩) (fun _ _ => rfl) k σ I
  have g2 : K 59 (LL i) [] σ := h.c0 hn (a := 59) hi e_house (Or.inl rfl) (fun _ => rfl) (fun _ _ => rfl) ⟨_, rfl, rfl, rfl⟩ (fun _ => ⟨_, rfl, rfl, rfl⟩) (fun _ _ => rfl) k σ I
  have g3 : K 66 (LL i) [] σ := h.c0 hn (a := 66) hi e_rule (Or.inl rfl) (fun _ => rfl) (fun _ _ => rfl) ⟨_, rfl, rfl, rfl⟩ (fun _ => ⟨_, rfl, rfl, rfl⟩) (fun _ _ => rfl) k σ I
  have g4 : K 73 (LL i) [] σ := h.door h1 hn hi S4 k k1 σ I
  have g5 : K 118 (LL i) [] σ := h.hinge h1 hn hi S5 k k1 σ I
  have g6 : K 163 (LL i) [] σ := h.c2 hn (a := 163) hi e_secret (Or.inl rfl) (fun _ => rfl) (fun _ _ => rfl) (fun _ => rfl) ⟨_, rfl, rfl⟩ (fun _ _ => rfl) ⟨_, rfl, rfl⟩ (fun _ _ => rfl) ⟨_, rfl, rfl⟩ (fun _ _ _ => rfl) ⟨_, rfl, rfl⟩ (fun _ _ => ⟨_, rfl, rfl, rfl⟩) (fun _ _ _ => ⟨_, rfl, rfl, rfl⟩) (fun _ _ => rfl) k σ I
  have g7 : K 190 (LL i) [] σ := h.c4 hn (a := 190) hi e_sheet (Or.inl rfl) (fun _ => rfl) (fun _ _ => rfl) (fun _ => rfl) ⟨_, rfl, rfl⟩ (fun _ _ => rfl) ⟨_, rfl, rfl⟩ (fun _ _ _ => rfl) ⟨_, rfl, rfl⟩ (fun _ _ _ _ => rfl) ⟨_, rfl, rfl⟩ (fun _ _ => rfl) ⟨_, rfl, rfl⟩ (fun _ _ _ => rfl) ⟨_, rfl, rfl⟩ (fun _ _ _ _ => rfl) ⟨_, rfl, rfl⟩ (fun _ _ _ _ _ => rfl) ⟨_, rfl, rfl⟩ (fun _ _ _ _ => ⟨_, rfl, rfl, rfl⟩) (fun _ _ _ _ _ => ⟨_, rfl, rfl, rfl⟩) (fun _ _ => rfl) k σ I
  have g8 : K 237 (LL i) [] σ := h.c2 hn (a := 237) hi e_hang (Or.inl rfl) (fun _ => rfl) (fun _ _ => rfl) (fun _ => rfl) ⟨_, rfl, rfl⟩ (fun _ _ => rfl) ⟨_, rfl, rfl⟩ (fun _ _ => rfl) ⟨_, rfl, rfl⟩ (fun _ _ _ => rfl) ⟨_, rfl, rfl⟩ (fun _ _ => ⟨_, rfl, rfl, rfl⟩) (fun _ _ _ => ⟨_, rfl, rfl, rfl⟩) (fun _ _ => rfl) k σ I
  have g9 : K 264 (LL i) [] σ := h.c1 hn (a := 264) hi e_take (Or.inl rfl) (fun _ => rfl) (fun _ _ => rfl) (fun _ => rfl) ⟨_, rfl, rfl⟩ (fun _ _ => rfl) ⟨_, rfl, rfl⟩ (fun _ => ⟨_, rfl, rfl, rfl⟩) (fun _ _ => ⟨_, rfl, rfl, rfl⟩) (fun _ _ => rfl) k σ I
  have g10 : K 281 (LL i) [] σ := h.c2 hn (a := 281) hi e_oil (Or.inl rfl) (fun _ => rfl) (fun _ _ => rfl) (fun _ => rfl) ⟨_, rfl, rfl⟩ (fun _ _ => rfl) ⟨_, rfl, rfl⟩ (fun _ _ => rfl) ⟨_, rfl, rfl⟩ (fun _ _ _ => rfl) ⟨_, rfl, rfl⟩ (fun _ _ => ⟨_, rfl, rfl, rfl⟩) (fun _ _ _ => ⟨_, rfl, rfl, rfl⟩) (fun _ _ => rfl) k σ I
  have g11 : K 308 (LL i) [] σ := h.c1 hn (a := 308) hi e_bend (Or.inr rfl) (fun _ => rfl) (fun _ _ => rfl) (fun _ => rfl) ⟨_, rfl, rfl⟩ (fun _ _ => rfl) ⟨_, rfl, rfl⟩ (fun _ => ⟨_, rfl, rfl, rfl⟩) (fun _ _ => ⟨_, rfl, rfl, rfl⟩) (fun _ _ => rfl) k σ I
  have g12 : K 325 (LL i) [] σ := h.c0 hn (a := 325) hi e_day (Or.inl rfl) (fun _ => rfl) (fun _ _ => rfl) ⟨_, rfl, rfl, rfl⟩ (fun _ => ⟨_, rfl, rfl, rfl⟩) (fun _ _ => rfl) k σ I
  have g13 : K 332 (LL i) [] σ := h.c1 hn (a := 332) hi e_days (Or.inl rfl) (fun _ => rfl) (fun _ _ => rfl) (fun _ => rfl) ⟨_, rfl, rfl⟩ (fun _ _ => rfl) ⟨_, rfl, rfl⟩ (fun _ => ⟨_, rfl, rfl, rfl⟩) (fun _ _ => ⟨_, rfl, rfl, rfl⟩) (fun _ _ => rfl) k σ I
  have g14 : K 349 (LL i) [] σ := h.c2 hn (a := 349) hi e_gale (Or.inl rfl) (fun _ => rfl) (fun _ _ => rfl) (fun _ => rfl) ⟨_, rfl, rfl⟩ (fun _ _ => rfl) ⟨_, rfl, rfl⟩ (fun _ _ => rfl) ⟨_, rfl, rfl⟩ (fun _ _ _ => rfl) ⟨_, rfl, rfl⟩ (fun _ _ => ⟨_, rfl, rfl, rfl⟩) (fun _ _ _ => ⟨_, rfl, rfl, rfl⟩) (fun _ _ => rfl) k σ I
  have g15 : K 376 (LL i) [] σ := h.c0 hn (a := 376) hi e_order (Or.inl rfl) (fun _ => rfl) (fun _ _ => rfl) ⟨_, rfl, rfl, rfl⟩ (fun _ => ⟨_, rfl, rfl, rfl⟩) (fun _ _ => rfl) k σ I
  have g16 : K 383 (LL i) [] σ := h.c0 hn (a := 383) hi e_undo (Or.inl rfl) (fun _ => rfl) (fun _ _ => rfl) ⟨_, rfl, rfl, rfl⟩ (fun _ => ⟨_, rfl, rfl, rfl⟩) (fun _ _ => rfl) k σ I
  have g17 : K 390 (LL i) [] σ := h.c0 hn (a := 390) hi e_shut (Or.inl rfl) (fun _ => rfl) (fun _ _ => rfl) ⟨_, rfl, rfl, rfl⟩ (fun _ => ⟨_, rfl, rfl, rfl⟩) (fun _ _ => rfl) k σ I
  have g18 : K 397 (LL i) [] σ := h.c1 hn (a := 397) hi e_thief (Or.inl rfl) (fun _ => rfl) (fun _ _ => rfl) (fun _ => rfl) ⟨_, rfl, rfl⟩ (fun _ _ => rfl) ⟨_, rfl, rfl⟩ (fun _ => ⟨_, rfl, rfl, rfl⟩) (fun _ _ => ⟨_, rfl, rfl, rfl⟩) (fun _ _ => rfl) k σ I
  have g19 : K 414 (LL i) [] σ := h.c0 hn (a := 414) hi e_kept (Or.inl rfl) (fun _ => rfl) (fun _ _ => rfl) ⟨_, rfl, rfl, rfl⟩ (fun _ => ⟨_, rfl, rfl, rfl⟩) (fun _ _ => rfl) k σ I
  have g20 : K 421 (LL i) [] σ := h.c1 hn (a := 421) hi e_quiet (Or.inl rfl) (fun _ => rfl) (fun _ _ => rfl) (fun _ => rfl) ⟨_, rfl, rfl⟩ (fun _ _ => rfl) ⟨_, rfl, rfl⟩ (fun _ => ⟨_, rfl, rfl, rfl⟩) (fun _ _ => ⟨_, rfl, rfl, rfl⟩) (fun _ _ => rfl) k σ I
  have g21 : K 438 (LL i) [] σ := h.c1 hn (a := 438) hi e_lasts (Or.inl rfl) (fun _ => rfl) (fun _ _ => rfl) (fun _ => rfl) ⟨_, rfl, rfl⟩ (fun _ _ => rfl) ⟨_, rfl, rfl⟩ (fun _ => ⟨_, rfl, rfl, rfl⟩) (fun _ _ => ⟨_, rfl, rfl, rfl⟩) (fun _ _ => rfl) k σ I
  have g22 : K 455 (LL i) [] σ := h.c1 hn (a := 455) hi e_rent (Or.inl rfl) (fun _ => rfl) (fun _ _ => rfl) (fun _ => rfl) ⟨_, rfl, rfl⟩ (fun _ _ => rfl) ⟨_, rfl, rfl⟩ (fun _ => ⟨_, rfl, rfl, rfl⟩) (fun _ _ => ⟨_, rfl, rfl, rfl⟩) (fun _ _ => rfl) k σ I
  have g23 : K 472 (LL i) [] σ := h.c1 hn (a := 472) hi e_rusts (Or.inl rfl) (fun _ => rfl) (fun _ _ => rfl) (fun _ => rfl) ⟨_, rfl, rfl⟩ (fun _ _ => rfl) ⟨_, rfl, rfl⟩ (fun _ => ⟨_, rfl, rfl, rfl⟩) (fun _ _ => ⟨_, rfl, rfl, rfl⟩) (fun _ _ => rfl) k σ I
  have g24 : K 489 (LL i) [] σ := h.c1 hn (a := 489) hi e_wall (Or.inl rfl) (fun _ => rfl) (fun _ _ => rfl) (fun _ => rfl) ⟨_, rfl, rfl⟩ (fun _ _ => rfl) ⟨_, rfl, rfl⟩ (fun _ => ⟨_, rfl, rfl, rfl⟩) (fun _ _ => ⟨_, rfl, rfl, rfl⟩) (fun _ _ => rfl) k σ I
  have g25 : K 506 (LL i) [] σ := h.c1 hn (a := 506) hi e_guard (Or.inl rfl) (fun _ => rfl) (fun _ _ => rfl) (fun _ => rfl) ⟨_, rfl, rfl⟩ (fun _ _ => rfl) ⟨_, rfl, rfl⟩ (fun _ => ⟨_, rfl, rfl, rfl⟩) (fun _ _ => ⟨_, rfl, rfl, rfl⟩) (fun _ _ => rfl) k σ I
  have g26 : K 523 (LL i) [] σ := h.c1 hn (a := 523) hi e_all (Or.inl rfl) (fun _ => rfl) (fun _ _ => rfl) (fun _ => rfl) ⟨_, rfl, rfl⟩ (fun _ _ => rfl) ⟨_, rfl, rfl⟩ (fun _ => ⟨_, rfl, rfl, rfl⟩) (fun _ _ => ⟨_, rfl, rfl, rfl⟩) (fun _ _ => rfl) k σ I
  have g27 : K 540 (LL i) [] σ := h.c0 hn (a := 540) hi e_most (Or.inl rfl) (fun _ => rfl) (fun _ _ => rfl) ⟨_, rfl, rfl, rfl⟩ (fun _ => ⟨_, rfl, rfl, rfl⟩) (fun _ _ => rfl) k σ I
  have g28 : K 547 (LL i) [] σ := h.c0 hn (a := 547) hi e_best (Or.inl rfl) (fun _ => rfl) (fun _ _ => rfl) ⟨_, rfl, rfl, rfl⟩ (fun _ => ⟨_, rfl, rfl, rfl⟩) (fun _ _ => rfl) k σ I
  have g29 : K 554 (LL i) [] σ := h.c1 hn (a := 554) hi e_cheap (Or.inl rfl) (fun _ => rfl) (fun _ _ => rfl) (fun _ => rfl) ⟨_, rfl, rfl⟩ (fun _ _ => rfl) ⟨_, rfl, rfl⟩ (fun _ => ⟨_, rfl, rfl, rfl⟩) (fun _ _ => ⟨_, rfl, rfl, rfl⟩) (fun _ _ => rfl) k σ I
  have g30 : K 571 (LL i) [] σ := h.c1 hn (a := 571) hi e_change (Or.inl rfl) (fun _ => rfl) (fun _ _ => rfl) (fun _ => rfl) ⟨_, rfl, rfl⟩ (fun _ _ => rfl) ⟨_, rfl, rfl⟩ (fun _ => ⟨_, rfl, rfl, rfl⟩) (fun _ _ => ⟨_, rfl, rfl, rfl⟩) (fun _ _ => rfl) k σ I
  have g31 : K 588 (LL i) [] σ := h.c0 hn (a := 588) hi e_next (Or.inl rfl) (fun _ => rfl) (fun _ _ => rfl) ⟨_, rfl, rfl, rfl⟩ (fun _ => ⟨_, rfl, rfl, rfl⟩) (fun _ _ => rfl) k σ I
  have g32 : K 595 (LL i) [] σ := h.c0 hn (a := 595) hi e_spare (Or.inl rfl) (fun _ => rfl) (fun _ _ => rfl) ⟨_, rfl, rfl, rfl⟩ (fun _ => ⟨_, rfl, rfl, rfl⟩) (fun _ _ => rfl) k σ I
  have g33 : K 602 (LL i) [] σ := h.c1 hn (a := 602) hi e_risk (Or.inl rfl) (fun _ => rfl) (fun _ _ => rfl) (fun _ => rfl) ⟨_, rfl, rfl⟩ (fun _ _ => rfl) ⟨_, rfl, rfl⟩ (fun _ => ⟨_, rfl, rfl, rfl⟩) (fun _ _ => ⟨_, rfl, rfl, rfl⟩) (fun _ _ => rfl) k σ I
  have g34 : K 619 (LL i) [] σ := h.c0 hn (a := 619) hi e_stands (Or.inl rfl) (fun _ => rfl) (fun _ _ => rfl) ⟨_, rfl, rfl, rfl⟩ (fun _ => ⟨_, rfl, rfl, rfl⟩) (fun _ _ => rfl) k σ I
  have g35 : K 626 (LL i) [] σ := h.c1 hn (a := 626) hi e_heard (Or.inl rfl) (fun _ => rfl) (fun _ _ => rfl) (fun _ => rfl) ⟨_, rfl, rfl⟩ (fun _ _ => rfl) ⟨_, rfl, rfl⟩ (fun _ => ⟨_, rfl, rfl, rfl⟩) (fun _ _ => ⟨_, rfl, rfl, rfl⟩) (fun _ _ => rfl) k σ I
  have g36 : K 643 (LL i) [] σ := h.c0 hn (a := 643) hi e_forget (Or.inl rfl) (fun _ => rfl) (fun _ _ => rfl) ⟨_, rfl, rfl, rfl⟩ (fun _ => ⟨_, rfl, rfl, rfl⟩) (fun _ _ => rfl) k σ I
  have g37 : K 650 (LL i) [] σ := h.c0 hn (a := 650) hi e_ways (Or.inl rfl) (fun _ => rfl) (fun _ _ => rfl) ⟨_, rfl, rfl, rfl⟩ (fun _ => ⟨_, rfl, rfl, rfl⟩) (fun _ _ => rfl) k σ I
  have g38 : K 657 (LL i) [] σ := h.c1 hn (a := 657) hi e_been (Or.inl rfl) (fun _ => rfl) (fun _ _ => rfl) (fun _ => rfl) ⟨_, rfl, rfl⟩ (fun _ _ => rfl) ⟨_, rfl, rfl⟩ (fun _ => ⟨_, rfl, rfl, rfl⟩) (fun _ _ => ⟨_, rfl, rfl, rfl⟩) (fun _ _ => rfl) k σ I
  have g39 : K 674 (LL i) [] σ := h.c0 hn (a := 674) hi e_sure (Or.inl rfl) (fun _ => rfl) (fun _ _ => rfl) ⟨_, rfl, rfl, rfl⟩ (fun _ => ⟨_, rfl, rfl, rfl⟩) (fun _ _ => rfl) k σ I
  have g40 : K 681 (LL i) [] σ := h.c2 hn (a := 681) hi e_behind (Or.inl rfl) (fun _ => rfl) (fun _ _ => rfl) (fun _ => rfl) ⟨_, rfl, rfl⟩ (fun _ _ => rfl) ⟨_, rfl, rfl⟩ (fun _ _ => rfl) ⟨_, rfl, rfl⟩ (fun _ _ _ => rfl) ⟨_, rfl, rfl⟩ (fun _ _ => ⟨_, rfl, rfl, rfl⟩) (fun _ _ _ => ⟨_, rfl, rfl, rfl⟩) (fun _ _ => rfl) k σ I
  have g41 : K 708 (LL i) [] σ := h.c1 hn (a := 708) hi e_bid (Or.inl rfl) (fun _ => rfl) (fun _ _ => rfl) (fun _ => rfl) ⟨_, rfl, rfl⟩ (fun _ _ => rfl) ⟨_, rfl, rfl⟩ (fun _ => ⟨_, rfl, rfl, rfl⟩) (fun _ _ => ⟨_, rfl, rfl, rfl⟩) (fun _ _ => rfl) k σ I
  have g42 : K 725 (LL i) [] σ := h.c0 hn (a := 725) hi e_rings (Or.inl rfl) (fun _ => rfl) (fun _ _ => rfl) ⟨_, rfl, rfl, rfl⟩ (fun _ => ⟨_, rfl, rfl, rfl⟩) (fun _ _ => rfl) k σ I
  have g43 : K 732 (LL i) [] σ := h.c1 hn (a := 732) hi e_keep (Or.inr rfl) (fun _ => rfl) (fun _ _ => rfl) (fun _ => rfl) ⟨_, rfl, rfl⟩ (fun _ _ => rfl) ⟨_, rfl, rfl⟩ (fun _ => ⟨_, rfl, rfl, rfl⟩) (fun _ _ => ⟨_, rfl, rfl, rfl⟩) (fun _ _ => rfl) k σ I
  have g44 : K 749 (LL i) [] σ := h.c1 hn (a := 749) hi e_again (Or.inr rfl) (fun _ => rfl) (fun _ _ => rfl) (fun _ => rfl) ⟨_, rfl, rfl⟩ (fun _ _ => rfl) ⟨_, rfl, rfl⟩ (fun _ => ⟨_, rfl, rfl, rfl⟩) (fun _ _ => ⟨_, rfl, rfl, rfl⟩) (fun _ _ => rfl) k σ I
  have g45 : K 766 (LL i) [] σ := h.c1 hn (a := 766) hi e_count (Or.inl rfl) (fun _ => rfl) (fun _ _ => rfl) (fun _ => rfl) ⟨_, rfl, rfl⟩ (fun _ _ => rfl) ⟨_, rfl, rfl⟩ (fun _ => ⟨_, rfl, rfl, rfl⟩) (fun _ _ => ⟨_, rfl, rfl, rfl⟩) (fun _ _ => rfl) k σ I
  have g46 : K 783 (LL i) [] σ := h.row h1 hn hi S46 k k1 σ I
  exact List.forall_mem_cons.mpr ⟨g0, List.forall_mem_cons.mpr ⟨g1, List.forall_mem_cons.mpr ⟨g2, List.forall_mem_cons.mpr ⟨g3, List.forall_mem_cons.mpr ⟨g4, List.forall_mem_cons.mpr ⟨g5, List.forall_mem_cons.mpr ⟨g6, List.forall_mem_cons.mpr ⟨g7, List.forall_mem_cons.mpr ⟨g8, List.forall_mem_cons.mpr ⟨g9, List.forall_mem_cons.mpr ⟨g10, List.forall_mem_cons.mpr ⟨g11, List.forall_mem_cons.mpr ⟨g12, List.forall_mem_cons.mpr ⟨g13, List.forall_mem_cons.mpr ⟨g14, List.forall_mem_cons.mpr ⟨g15, List.forall_mem_cons.mpr ⟨g16, List.forall_mem_cons.mpr ⟨g17, List.forall_mem_cons.mpr ⟨g18, List.forall_mem_cons.mpr ⟨g19, List.forall_mem_cons.mpr ⟨g20, List.forall_mem_cons.mpr ⟨g21, List.forall_mem_cons.mpr ⟨g22, List.forall_mem_cons.mpr ⟨g23, List.forall_mem_cons.mpr ⟨g24, List.forall_mem_cons.mpr ⟨g25, List.forall_mem_cons.mpr ⟨g26, List.forall_mem_cons.mpr ⟨g27, List.forall_mem_cons.mpr ⟨g28, List.forall_mem_cons.mpr ⟨g29, List.forall_mem_cons.mpr ⟨g30, List.forall_mem_cons.mpr ⟨g31, List.forall_mem_cons.mpr ⟨g32, List.forall_mem_cons.mpr ⟨g33, List.forall_mem_cons.mpr ⟨g34, List.forall_mem_cons.mpr ⟨g35, List.forall_mem_cons.mpr ⟨g36, List.forall_mem_cons.mpr ⟨g37, List.forall_mem_cons.mpr ⟨g38, List.forall_mem_cons.mpr ⟨g39, List.forall_mem_cons.mpr ⟨g40, List.forall_mem_cons.mpr ⟨g41, List.forall_mem_cons.mpr ⟨g42, List.forall_mem_cons.mpr ⟨g43, List.forall_mem_cons.mpr ⟨g44, List.forall_mem_cons.mpr ⟨g45, List.forall_mem_cons.mpr ⟨g46, fun _ q => absurd q List.not_mem_nil⟩⟩⟩⟩⟩⟩⟩⟩⟩⟩⟩⟩⟩⟩⟩⟩⟩⟩⟩⟩⟩⟩⟩⟩⟩⟩⟩⟩⟩⟩⟩⟩⟩⟩⟩⟩⟩⟩⟩⟩⟩⟩⟩⟩⟩⟩⟩
set_option maxRecDepth 100000 in
theorem LK.loop {K : Nat → hq_F} (hs : ∀ m, LK xs n (K (m + 1)) (K m)) (hn : n ≤ 2560) : ∀ (m i : Nat), n < i + 5 * m → i ≤ n + 5 → ∀ σ, INV σ → K (m + 1) 13 (LL i) [] σ := by
  intro m
  induction m with
  | zero =>
    intro i h1 h2 σ I
    have h := hs 0
    refine h.go 2 (i' := 15) (L' := LL i) (st' := [.ref 2000, .int (nI i)]) (σ' := σ) (ps := []) rfl trivial (h.2.2.1 15 _ _ _ _ rfl rfl ?_)
    refine h.go 3 (i' := cond (decide (Int32.ofNat n - nI 5 < nI i)) 819 19) (L' := LL i) (st' := []) (σ' := σ) (ps := []) rfl trivial ?_
    rw [decide_eq_true (by rw [Int32.lt_iff_toInt_lt]; exact lw_lt hn h2 (by omega))]
    exact h.go 1 (i' := 820) (L' := LL i) (st' := [.int 1]) (σ' := σ) (ps := []) rfl trivial (h.2.2.2.1 820 _ _ _ rfl rfl)
  | succ m ih =>
    intro i h1 h2 σ I
    have h := hs (m + 1)
    refine h.go 2 (i' := 15) (L' := LL i) (st' := [.ref 2000, .int (nI i)]) (σ' := σ) (ps := []) rfl trivial (h.2.2.1 15 _ _ _ _ rfl rfl ?_)
    refine h.go 3 (i' := cond (decide (Int32.ofNat n - nI 5 < nI i)) 819 19) (L' := LL i) (st' := []) (σ' := σ) (ps := []) rfl trivial ?_
    by_cases q : n < i + 5
    · rw [decide_eq_true (by rw [Int32.lt_iff_toInt_lt]; exact lw_lt hn h2 q)]
      exact h.go 1 (i' := 820) (L' := LL i) (st' := [.int 1]) (σ' := σ) (ps := []) rfl trivial (h.2.2.2.1 820 _ _ _ rfl rfl)
    · rw [decide_eq_false (by rw [Int32.lt_iff_toInt_lt]; exact lw_ge hn (by omega))]
      refine h.go 2 (i := 19) (i' := 21) (L' := LL i) (st' := [.int (nI i), .ref 2000]) (σ' := σ) (ps := []) rfl trivial (h.2.1 21 _ _ _ _ _ rfl rfl (vin (by omega) (by omega)) ?_)
      generalize xs (nI i).toNatClampNeg = v
      refine h.go 3 (i' := hq_sw (hq_keys 47 0) [25, 42, 59, 66, 73, 118, 163, 190, 237, 264, 281, 308, 325, 332, 349, 376, 383, 390, 397, 414, 421, 438, 455, 472, 489, 506, 523, 540, 547, 554, 571, 588, 595, 602, 619, 626, 643, 650, 657, 674, 681, 708, 725, 732, 749, 766, 783] 817 (v &&& nI 63)) (L' := LL i) (st' := []) (σ' := σ) (ps := []) rfl trivial ?_
      have fin : ∀ σ, INV σ → K (m + 1) 817 (LL i) [] σ := fun σ J => by
        refine (hs m).go 2 (i' := 13) (L' := LL (i + 5)) (st' := []) (σ' := σ) (ps := []) ?_ trivial (ih (i + 5) (by omega) (by omega) σ J)
        rw [show LL (i + 5) = [some (.ref 2000), some (.ref 0), some (.ref 52), some (.ref 85), some (.int (nI i + nI 5)), none, none, none] by rw [nI_add]; rfl]
        rfl
      have fin2 : ∀ σ, INV σ → K (m + 2) 817 (LL i) [] σ := fun σ J => h.2.2.2.2.2.2.2.2.2 _ _ _ _ (fin σ J)
      exact hq_sw_all _ _ _ _ (h.case (hs m) hn (by omega) e_door e_hinge e_row fin2 fin I) (fin2 σ I)
end LX
