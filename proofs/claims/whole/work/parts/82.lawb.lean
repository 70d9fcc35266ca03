/-! The law's body -/
theorem lw_tk_all : ∀ k, k < 17 → lw_tk k = true
  | 0, _ => lw_tk0
  | 1, _ => lw_tk1
  | 2, _ => lw_tk2
  | 3, _ => lw_tk3
  | 4, _ => lw_tk4
  | 5, _ => lw_tk5
  | 6, _ => lw_tk6
  | 7, _ => lw_tk7
  | 8, _ => lw_tk8
  | 9, _ => lw_tk9
  | 10, _ => lw_tk10
  | 11, _ => lw_tk11
  | 12, _ => lw_tk12
  | 13, _ => lw_tk13
  | 14, _ => lw_tk14
  | 15, _ => lw_tk15
  | 16, _ => lw_tk16
  | n + 17, h => absurd h (by omega)
theorem tb_law_len : tb_law.length = 821 := by decide +kernel
theorem lw_tok : hq_tok hq_pjL hq_sr tb_law code "HingesOnHireLaw" := fun i e he => by
  have hi : i < tb_law.length := (List.getElem?_eq_some_iff.mp he).1
  rw [tb_law_len] at hi
  have h := lw_tk_all (i / 50) (by omega)
  unfold lw_tk at h
  refine List.all_eq_true.mp h (e, i) (List.mem_of_getElem? (i := i - 50 * (i / 50)) ?_)
  rw [List.getElem?_take, if_pos (by omega), List.getElem?_drop, show 50 * (i / 50) + (i - 50 * (i / 50)) = i by omega, List.getElem?_zipIdx, he]
  simp
/-- the class throws, with nothing changed -/
def lwTh (x : Nat) (as : List Value) (σ : hq_St) : Prop := hq_go hq_pg hq_prim 990 (hq_pg x).1 (fun i _ st σ' => (∃ e, (hq_pg x).1[i]? = some e ∧ e.2.1 = .new 116) ∧ st = [] ∧ σ' = σ) 0 (hq_init as (hq_pg x).2.1) [] σ
def lwD (r x : Nat) : Prop := (r = 910 ∧ x = 114) ∨ (r = 911 ∧ x = 115)
def LK (xs : Nat → Int32) (n : Nat) (K K1 : hq_F) : Prop :=
  (∀ (F : hq_F) (i : Nat) (L : hq_L) (st : List Value) (σ : hq_St), hq_go hq_pg hq_prim 1001 tb_law F i L st σ → (∀ i' L' st' σ', F i' L' st' σ' → K i' L' st' σ') → K i L st σ) ∧
  (∀ (i : Nat) (e : hq_E) (L : hq_L) (j : Int32) (st : List Value) (σ : hq_St), tb_law[i]? = some e → e.2.1 = .iaload → vp_in j n → K (i + 1) L (.int (xs j.toNatClampNeg) :: st) σ → K i L (.int j :: .ref 2000 :: st) σ) ∧
  (∀ (i : Nat) (e : hq_E) (L : hq_L) (st : List Value) (σ : hq_St), tb_law[i]? = some e → e.2.1 = .arraylength → K (i + 1) L (.int (Int32.ofNat n) :: st) σ → K i L (.ref 2000 :: st) σ) ∧
  (∀ (i : Nat) (e : hq_E) (L : hq_L) (σ : hq_St), tb_law[i]? = some e → e.2.1 = .ireturn → K i L [.int 1] σ) ∧
  (∀ (i : Nat) (L M : hq_L) (st : List Value) (σ : hq_St), hq_le L M → K i L st σ → K i M st σ) ∧
  (∀ (i : Nat) (e : hq_E) (L : hq_L) (x : Nat) (p q v : Int32) (σ τ : hq_St), tb_law[i]? = some e → lwD e.2.2.1 x → hq_c x 990 [.ref 0, .int p, .int q] σ (some (.int v)) τ → K (i + 1) L [.int 0] (hq_sJ τ 85 0 v.toInt64) → K i L [.ref 85, .int q, .int p, .ref 0] σ) ∧
  (∀ (i : Nat) (e : hq_E) (L : hq_L) (x : Nat) (p q : Int32) (σ : hq_St), tb_law[i]? = some e → lwD e.2.2.1 x → lwTh x [.ref 0, .int p, .int q] σ → K1 (i + 1) L [.int 1] σ → K i L [.ref 85, .int q, .int p, .ref 0] σ) ∧
  (∀ (i : Nat) (e : hq_E) (L : hq_L) (p : Int32) (v : Int64) (σ τ : hq_St), tb_law[i]? = some e → e.2.2.1 = 912 → hq_c 156 990 [.ref 0, .int p] σ (some (.long v)) τ → K (i + 1) L [.int 0] (hq_sJ τ 85 0 v) → K i L [.ref 85, .int p, .ref 0] σ) ∧
  (∀ (i : Nat) (e : hq_E) (L : hq_L) (p : Int32) (σ : hq_St), tb_law[i]? = some e → e.2.2.1 = 912 → lwTh 156 [.ref 0, .int p] σ → K1 (i + 1) L [.int 1] σ → K i L [.ref 85, .int p, .ref 0] σ) ∧
  (∀ (i : Nat) (L : hq_L) (st : List Value) (σ : hq_St), K1 i L st σ → K i L st σ)
/-- the same call, where the class may throw -/
def SAMED (x y : Nat) (p q : Int32) : Prop := ∀ σ, INV σ → (∃ v σ1 σ2, hq_c x 990 [.ref 0, .int p, .int q] σ (some (.int v)) σ1 ∧ hq_c y 1000 [.ref 52, .int p, .int q] (hq_sJ σ1 85 0 v.toInt64) (some (.int v)) σ2 ∧ σ2.1 52 0 = 0 ∧ σ2.2 85 0 = v.toInt64 ∧ INV σ2) ∨ ∃ w σ2, lwTh x [.ref 0, .int p, .int q] σ ∧ hq_c y 1000 [.ref 52, .int p, .int q] σ (some (.int w)) σ2 ∧ σ2.1 52 0 = 1 ∧ INV σ2
def SAMER (p : Int32) : Prop := ∀ σ, INV σ → (∃ v σ1 σ2, hq_c 156 990 [.ref 0, .int p] σ (some (.long v)) σ1 ∧ hq_c 278 1000 [.ref 52, .int p] (hq_sJ σ1 85 0 v) (some (.long v)) σ2 ∧ σ2.1 52 0 = 0 ∧ σ2.2 85 0 = v ∧ INV σ2) ∨ ∃ w σ2, lwTh 156 [.ref 0, .int p] σ ∧ hq_c 278 1000 [.ref 52, .int p] σ (some (.long w)) σ2 ∧ σ2.1 52 0 = 1 ∧ INV σ2
theorem hq_ev_ex {pg : Nat → hq_MI} {pr : hq_PR} : ∀ (n : Nat) {d : Nat} {T : List hq_E} {F : hq_F} {i : Nat} {L : hq_L} {st : List Value} {σ : hq_St}, hq_ev pg pr n d T F i L st σ → ∃ i L st σ, F i L st σ
  | 0, _, _, _, _, _, _, _, h => ⟨_, _, _, _, h⟩
  | n + 1, _, _, _, _, _, _, _, h => by
    rcases h with h | ⟨_, r, _, _, h3⟩ | ⟨e, as, rest, v, τ, d', h1, h2, h3, h4, h5⟩
    · exact ⟨_, _, _, _, h⟩
    · exact hq_ev_ex n h3
    · exact hq_ev_ex n h5
theorem hq_c.int {x d : Nat} {as : List Value} {σ τ : hq_St} {v : Value} (h : hq_c x d as σ (some v) τ) (r : (hq_pg x).2.2.2.1 = 1 ∨ (hq_pg x).2.2.2.1 = 3) : ∃ w, v = .int w := by
  obtain ⟨n, h⟩ := h
  obtain ⟨i, L, st, σ', _, e, _, h⟩ := hq_ev_ex n h
  rcases h with ⟨a, _⟩ | ⟨_, _, x, _, h⟩ | ⟨a, _⟩ | ⟨_, _, x, _, h, _⟩
  · omega
  · exact ⟨x, Option.some.inj h⟩
  · omega
  · exact ⟨x, Option.some.inj h⟩
def LL (i : Nat) : hq_L := [some (.ref 2000), some (.ref 0), some (.ref 52), some (.ref 85), some (.int (nI i)), none, none, none]
section LW
variable {xs : Nat → Int32} {n : Nat} {K K1 K2 : hq_F}
theorem LK.go (h : LK xs n K K1) (k : Nat) {i i' : Nat} {L L' : hq_L} {st st' : List Value} {σ σ' : hq_St} {ps : List Prop} (h1 : hq_steps tb_law k i L st σ [] = some (i', L', st', σ', ps)) (h2 : hq_all ps) (h3 : K i' L' st' σ') : K i L st σ := h.1 (fun a b c d => a = i' ∧ b = L' ∧ c = st' ∧ d = σ') _ _ _ _ (hq_go.run (by decide) k h1 h2 (hq_go.done ⟨rfl, rfl, rfl, rfl⟩)) (by rintro _ _ _ _ ⟨rfl, rfl, rfl, rfl⟩; exact h3)
theorem LK.call (h : LK xs n K K1) {i : Nat} {L : hq_L} {st as rest : List Value} {σ τ : hq_St} {v : Option Value} {e : hq_E} (h1 : tb_law[i]? = some e) (h2 : hq_call hq_pg e.2.1 e.2.2.1 st = some (as, rest)) (h3 : hq_c e.2.2.1 1000 as σ v τ) (h4 : K (i + 1) L (v.toList ++ rest) τ) : K i L st σ := h.1 (fun a b c d => a = i + 1 ∧ b = L ∧ c = v.toList ++ rest ∧ d = τ) _ _ _ _ (hq_go.call h1 h2 h3 (hq_go.done ⟨rfl, rfl, rfl, rfl⟩)) (by rintro _ _ _ _ ⟨rfl, rfl, rfl, rfl⟩; exact h4)
theorem LK.arg (h : LK xs n K K1) (hn : n ≤ 2560) {i k a : Nat} (hk : k < 5) (hi : i + 5 ≤ n) {st : List Value} {σ : hq_St} (s : hq_steps tb_law 4 a (LL i) st σ [] = some (a + 4, LL i, .int (nI i + nI k) :: .ref 2000 :: st, σ, [])) {e : hq_E} (he : tb_law[a + 4]? = some e) (hb : e.2.1 = .iaload) (g : K (a + 5) (LL i) (.int (xs (i + k)) :: st) σ) : K a (LL i) st σ := by
  refine h.go 4 s trivial (h.2.1 _ e _ _ _ _ he hb ?_ ?_)
  · rw [nI_add]; exact vin (by omega) (by omega)
  · rw [nI_add, clamp (by omega)]; exact g
theorem LK.same (h : LK xs n K K1) {i a t : Nat} {w : Int32} {σ : hq_St} (s : hq_steps tb_law 1 a (LL i) [.int w, .int w] σ [] = some (cond (decide (w = w)) t (a + 1), LL i, [], σ, [])) (k : K t (LL i) [] σ) : K a (LL i) [.int w, .int w] σ := by
  refine h.go 1 s trivial ?_
  rw [decide_eq_true rfl]
  exact k
theorem LK.c0 (h : LK xs n K K1) (hn : n ≤ 2560) {x y a i : Nat} (hi : i + 5 ≤ n) (S : SAME x y []) (rx : (hq_pg x).2.2.2.1 = 1 ∨ (hq_pg x).2.2.2.1 = 3) (sx : ∀ σ, hq_steps tb_law 1 a (LL i) [] σ [] = some (a + 1, LL i, [.ref 0], σ, [])) (sy : ∀ σ w, hq_steps tb_law 1 (a + 2) (LL i) [.int w] σ [] = some (a + 3, LL i, [.ref 52, .int w], σ, [])) (cx : ∃ e, tb_law[a + 1]? = some e ∧ e.2.2.1 = x ∧ hq_call hq_pg e.2.1 e.2.2.1 [.ref 0] = some ([.ref 0], [])) (cy : ∀ w, ∃ e, tb_law[a + 3]? = some e ∧ e.2.2.1 = y ∧ hq_call hq_pg e.2.1 e.2.2.1 [.ref 52, .int w] = some ([.ref 52], [.int w])) (sz : ∀ σ w, hq_steps tb_law 1 (a + 4) (LL i) [.int w, .int w] σ [] = some (cond (decide (w = w)) 817 (a + 4 + 1), LL i, [], σ, [])) (k : ∀ σ, INV σ → K 817 (LL i) [] σ) : ∀ σ, INV σ → K a (LL i) [] σ := fun σ I => by
  obtain ⟨v, σ1, σ2, g1, g2, J⟩ := S σ I
  obtain ⟨w, rfl⟩ := hq_c.int g1 rx
  refine h.go 1 (sx _) trivial ?_
  obtain ⟨e, q1, rfl, q2⟩ := cx
  refine h.call q1 q2 g1 ?_
  refine h.go 1 (sy _ w) trivial ?_
  obtain ⟨e9, q1, rfl, q2⟩ := cy w
  exact h.call q1 q2 g2 (h.same (sz _ w) (k _ J))
theorem LK.c1 (h : LK xs n K K1) (hn : n ≤ 2560) {x y a i : Nat} (hi : i + 5 ≤ n) (S : ∀ v0 : Int32, SAME x y [.int v0]) (rx : (hq_pg x).2.2.2.1 = 1 ∨ (hq_pg x).2.2.2.1 = 3) (sx : ∀ σ, hq_steps tb_law 1 a (LL i) [] σ [] = some (a + 1, LL i, [.ref 0], σ, [])) (sy : ∀ σ w, hq_steps tb_law 1 (a + 7) (LL i) [.int w] σ [] = some (a + 8, LL i, [.ref 52, .int w], σ, [])) (ax0 : ∀ σ, hq_steps tb_law 4 (a + 1) (LL i) [.ref 0] σ [] = some (a + 1 + 4, LL i, .int (nI i + nI 1) :: .ref 2000 :: [.ref 0], σ, [])) (ex0 : ∃ e, tb_law[a + 1 + 4]? = some e ∧ e.2.1 = .iaload) (ay0 : ∀ σ w, hq_steps tb_law 4 (a + 8) (LL i) [.ref 52, .int w] σ [] = some (a + 8 + 4, LL i, .int (nI i + nI 1) :: .ref 2000 :: [.ref 52, .int w], σ, [])) (ey0 : ∃ e, tb_law[a + 8 + 4]? = some e ∧ e.2.1 = .iaload) (cx : ∀ v0, ∃ e, tb_law[a + 6]? = some e ∧ e.2.2.1 = x ∧ hq_call hq_pg e.2.1 e.2.2.1 [.int v0, .ref 0] = some ([.ref 0, .int v0], [])) (cy : ∀ v0 w, ∃ e, tb_law[a + 13]? = some e ∧ e.2.2.1 = y ∧ hq_call hq_pg e.2.1 e.2.2.1 [.int v0, .ref 52, .int w] = some ([.ref 52, .int v0], [.int w])) (sz : ∀ σ w, hq_steps tb_law 1 (a + 14) (LL i) [.int w, .int w] σ [] = some (cond (decide (w = w)) 817 (a + 14 + 1), LL i, [], σ, [])) (k : ∀ σ, INV σ → K 817 (LL i) [] σ) : ∀ σ, INV σ → K a (LL i) [] σ := fun σ I => by
  obtain ⟨v, σ1, σ2, g1, g2, J⟩ := S (xs (i + 1)) σ I
  obtain ⟨w, rfl⟩ := hq_c.int g1 rx
  refine h.go 1 (sx _) trivial ?_
  obtain ⟨e, q1, q2⟩ := ex0
  refine h.arg hn (k := 1) (by decide) hi (ax0 _) q1 q2 ?_
  clear q1 q2 e
  obtain ⟨e, q1, rfl, q2⟩ := cx (xs (i + 1))
  refine h.call q1 q2 g1 ?_
  refine h.go 1 (sy _ w) trivial ?_
  obtain ⟨e0, q1, q2⟩ := ey0
  refine h.arg hn (k := 1) (by decide) hi (ay0 _ w) q1 q2 ?_
  obtain ⟨e9, q1, rfl, q2⟩ := cy (xs (i + 1)) w
  exact h.call q1 q2 g2 (h.same (sz _ w) (k _ J))
theorem LK.c2 (h : LK xs n K K1) (hn : n ≤ 2560) {x y a i : Nat} (hi : i + 5 ≤ n) (S : ∀ v0 v1 : Int32, SAME x y [.int v0, .int v1]) (rx : (hq_pg x).2.2.2.1 = 1 ∨ (hq_pg x).2.2.2.1 = 3) (sx : ∀ σ, hq_steps tb_law 1 a (LL i) [] σ [] = some (a + 1, LL i, [.ref 0], σ, [])) (sy : ∀ σ w, hq_steps tb_law 1 (a + 12) (LL i) [.int w] σ [] = some (a + 13, LL i, [.ref 52, .int w], σ, [])) (ax0 : ∀ σ, hq_steps tb_law 4 (a + 1) (LL i) [.ref 0] σ [] = some (a + 1 + 4, LL i, .int (nI i + nI 1) :: .ref 2000 :: [.ref 0], σ, [])) (ex0 : ∃ e, tb_law[a + 1 + 4]? = some e ∧ e.2.1 = .iaload) (ax1 : ∀ σ v0, hq_steps tb_law 4 (a + 6) (LL i) [.int v0, .ref 0] σ [] = some (a + 6 + 4, LL i, .int (nI i + nI 2) :: .ref 2000 :: [.int v0, .ref 0], σ, [])) (ex1 : ∃ e, tb_law[a + 6 + 4]? = some e ∧ e.2.1 = .iaload) (ay0 : ∀ σ w, hq_steps tb_law 4 (a + 13) (LL i) [.ref 52, .int w] σ [] = some (a + 13 + 4, LL i, .int (nI i + nI 1) :: .ref 2000 :: [.ref 52, .int w], σ, [])) (ey0 : ∃ e, tb_law[a + 13 + 4]? = some e ∧ e.2.1 = .iaload) (ay1 : ∀ σ v0 w, hq_steps tb_law 4 (a + 18) (LL i) [.int v0, .ref 52, .int w] σ [] = some (a + 18 + 4, LL i, .int (nI i + nI 2) :: .ref 2000 :: [.int v0, .ref 52, .int w], σ, [])) (ey1 : ∃ e, tb_law[a + 18 + 4]? = some e ∧ e.2.1 = .iaload) (cx : ∀ v0 v1, ∃ e, tb_law[a + 11]? = some e ∧ e.2.2.1 = x ∧ hq_call hq_pg e.2.1 e.2.2.1 [.int v1, .int v0, .ref 0] = some ([.ref 0, .int v0, .int v1], [])) (cy : ∀ v0 v1 w, ∃ e, tb_law[a + 23]? = some e ∧ e.2.2.1 = y ∧ hq_call hq_pg e.2.1 e.2.2.1 [.int v1, .int v0, .ref 52, .int w] = some ([.ref 52, .int v0, .int v1], [.int w])) (sz : ∀ σ w, hq_steps tb_law 1 (a + 24) (LL i) [.int w, .int w] σ [] = some (cond (decide (w = w)) 817 (a + 24 + 1), LL i, [], σ, [])) (k : ∀ σ, INV σ → K 817 (LL i) [] σ) : ∀ σ, INV σ → K a (LL i) [] σ := fun σ I => by
  obtain ⟨v, σ1, σ2, g1, g2, J⟩ := S (xs (i + 1)) (xs (i + 2)) σ I
  obtain ⟨w, rfl⟩ := hq_c.int g1 rx
  refine h.go 1 (sx _) trivial ?_
  obtain ⟨e, q1, q2⟩ := ex0
  refine h.arg hn (k := 1) (by decide) hi (ax0 _) q1 q2 ?_
  clear q1 q2 e
  obtain ⟨e, q1, q2⟩ := ex1
  refine h.arg hn (k := 2) (by decide) hi (ax1 _ _) q1 q2 ?_
  clear q1 q2 e
  obtain ⟨e, q1, rfl, q2⟩ := cx (xs (i + 1)) (xs (i + 2))
  refine h.call q1 q2 g1 ?_
  refine h.go 1 (sy _ w) trivial ?_
  obtain ⟨e0, q1, q2⟩ := ey0
  refine h.arg hn (k := 1) (by decide) hi (ay0 _ w) q1 q2 ?_
  obtain ⟨e1, q1, q2⟩ := ey1
  refine h.arg hn (k := 2) (by decide) hi (ay1 _ _ w) q1 q2 ?_
  obtain ⟨e9, q1, rfl, q2⟩ := cy (xs (i + 1)) (xs (i + 2)) w
  exact h.call q1 q2 g2 (h.same (sz _ w) (k _ J))
theorem LK.c4 (h : LK xs n K K1) (hn : n ≤ 2560) {x y a i : Nat} (hi : i + 5 ≤ n) (S : ∀ v0 v1 v2 v3 : Int32, SAME x y [.int v0, .int v1, .int v2, .int v3]) (rx : (hq_pg x).2.2.2.1 = 1 ∨ (hq_pg x).2.2.2.1 = 3) (sx : ∀ σ, hq_steps tb_law 1 a (LL i) [] σ [] = some (a + 1, LL i, [.ref 0], σ, [])) (sy : ∀ σ w, hq_steps tb_law 1 (a + 22) (LL i) [.int w] σ [] = some (a + 23, LL i, [.ref 52, .int w], σ, [])) (ax0 : ∀ σ, hq_steps tb_law 4 (a + 1) (LL i) [.ref 0] σ [] = some (a + 1 + 4, LL i, .int (nI i + nI 1) :: .ref 2000 :: [.ref 0], σ, [])) (ex0 : ∃ e, tb_law[a + 1 + 4]? = some e ∧ e.2.1 = .iaload) (ax1 : ∀ σ v0, hq_steps tb_law 4 (a + 6) (LL i) [.int v0, .ref 0] σ [] = some (a + 6 + 4, LL i, .int (nI i + nI 2) :: .ref 2000 :: [.int v0, .ref 0], σ, [])) (ex1 : ∃ e, tb_law[a + 6 + 4]? = some e ∧ e.2.1 = .iaload) (ax2 : ∀ σ v0 v1, hq_steps tb_law 4 (a + 11) (LL i) [.int v1, .int v0, .ref 0] σ [] = some (a + 11 + 4, LL i, .int (nI i + nI 3) :: .ref 2000 :: [.int v1, .int v0, .ref 0], σ, [])) (ex2 : ∃ e, tb_law[a + 11 + 4]? = some e ∧ e.2.1 = .iaload) (ax3 : ∀ σ v0 v1 v2, hq_steps tb_law 4 (a + 16) (LL i) [.int v2, .int v1, .int v0, .ref 0] σ [] = some (a + 16 + 4, LL i, .int (nI i + nI 4) :: .ref 2000 :: [.int v2, .int v1, .int v0, .ref 0], σ, [])) (ex3 : ∃ e, tb_law[a + 16 + 4]? = some e ∧ e.2.1 = .iaload) (ay0 : ∀ σ w, hq_steps tb_law 4 (a + 23) (LL i) [.ref 52, .int w] σ [] = some (a + 23 + 4, LL i, .int (nI i + nI 1) :: .ref 2000 :: [.ref 52, .int w], σ, [])) (ey0 : ∃ e, tb_law[a + 23 + 4]? = some e ∧ e.2.1 = .iaload) (ay1 : ∀ σ v0 w, hq_steps tb_law 4 (a + 28) (LL i) [.int v0, .ref 52, .int w] σ [] = some (a + 28 + 4, LL i, .int (nI i + nI 2) :: .ref 2000 :: [.int v0, .ref 52, .int w], σ, [])) (ey1 : ∃ e, tb_law[a + 28 + 4]? = some e ∧ e.2.1 = .iaload) (ay2 : ∀ σ v0 v1 w, hq_steps tb_law 4 (a + 33) (LL i) [.int v1, .int v0, .ref 52, .int w] σ [] = some (a + 33 + 4, LL i, .int (nI i + nI 3) :: .ref 2000 :: [.int v1, .int v0, .ref 52, .int w], σ, [])) (ey2 : ∃ e, tb_law[a + 33 + 4]? = some e ∧ e.2.1 = .iaload) (ay3 : ∀ σ v0 v1 v2 w, hq_steps tb_law 4 (a + 38) (LL i) [.int v2, .int v1, .int v0, .ref 52, .int w] σ [] = some (a + 38 + 4, LL i, .int (nI i + nI 4) :: .ref 2000 :: [.int v2, .int v1, .int v0, .ref 52, .int w], σ, [])) (ey3 : ∃ e, tb_law[a + 38 + 4]? = some e ∧ e.2.1 = .iaload) (cx : ∀ v0 v1 v2 v3, ∃ e, tb_law[a + 21]? = some e ∧ e.2.2.1 = x ∧ hq_call hq_pg e.2.1 e.2.2.1 [.int v3, .int v2, .int v1, .int v0, .ref 0] = some ([.ref 0, .int v0, .int v1, .int v2, .int v3], [])) (cy : ∀ v0 v1 v2 v3 w, ∃ e, tb_law[a + 43]? = some e ∧ e.2.2.1 = y ∧ hq_call hq_pg e.2.1 e.2.2.1 [.int v3, .int v2, .int v1, .int v0, .ref 52, .int w] = some ([.ref 52, .int v0, .int v1, .int v2, .int v3], [.int w])) (sz : ∀ σ w, hq_steps tb_law 1 (a + 44) (LL i) [.int w, .int w] σ [] = some (cond (decide (w = w)) 817 (a + 44 + 1), LL i, [], σ, [])) (k : ∀ σ, INV σ → K 817 (LL i) [] σ) : ∀ σ, INV σ → K a (LL i) [] σ := fun σ I => by
  obtain ⟨v, σ1, σ2, g1, g2, J⟩ := S (xs (i + 1)) (xs (i + 2)) (xs (i + 3)) (xs (i + 4)) σ I
  obtain ⟨w, rfl⟩ := hq_c.int g1 rx
  refine h.go 1 (sx _) trivial ?_
  obtain ⟨e, q1, q2⟩ := ex0
  refine h.arg hn (k := 1) (by decide) hi (ax0 _) q1 q2 ?_
  clear q1 q2 e
  obtain ⟨e, q1, q2⟩ := ex1
  refine h.arg hn (k := 2) (by decide) hi (ax1 _ _) q1 q2 ?_
  clear q1 q2 e
  obtain ⟨e, q1, q2⟩ := ex2
  refine h.arg hn (k := 3) (by decide) hi (ax2 _ _ _) q1 q2 ?_
  clear q1 q2 e
  obtain ⟨e, q1, q2⟩ := ex3
  refine h.arg hn (k := 4) (by decide) hi (ax3 _ _ _ _) q1 q2 ?_
  clear q1 q2 e
  obtain ⟨e, q1, rfl, q2⟩ := cx (xs (i + 1)) (xs (i + 2)) (xs (i + 3)) (xs (i + 4))
  refine h.call q1 q2 g1 ?_
  refine h.go 1 (sy _ w) trivial ?_
  obtain ⟨e0, q1, q2⟩ := ey0
  refine h.arg hn (k := 1) (by decide) hi (ay0 _ w) q1 q2 ?_
  obtain ⟨e1, q1, q2⟩ := ey1
  refine h.arg hn (k := 2) (by decide) hi (ay1 _ _ w) q1 q2 ?_
  obtain ⟨e2, q1, q2⟩ := ey2
  refine h.arg hn (k := 3) (by decide) hi (ay2 _ _ _ w) q1 q2 ?_
  obtain ⟨e3, q1, q2⟩ := ey3
  refine h.arg hn (k := 4) (by decide) hi (ay3 _ _ _ _ w) q1 q2 ?_
  obtain ⟨e9, q1, rfl, q2⟩ := cy (xs (i + 1)) (xs (i + 2)) (xs (i + 3)) (xs (i + 4)) w
  exact h.call q1 q2 g2 (h.same (sz _ w) (k _ J))
end LW
