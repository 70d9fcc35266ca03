/-! hangings: the least cost (class) -/
theorem shl8 {s : Nat} (h : s < 4194304) : nI s <<< (nI 8 &&& 31) = nI (s * 256) := pk_shlN _ 8 (by decide) (by omega)
theorem or8 {s x : Nat} (hx : x < 256) : s * 256 ||| x = s * 256 + x := by
  have := Nat.shiftLeft_add_eq_or_of_lt (b := x) (i := 8) hx s
  rw [Nat.shiftLeft_eq] at this
  exact this.symm
theorem LC_le {I : Nat} {P : Nat → Prop} {v b : Nat} (h : LC I P v) (hP : ∀ c, P c → c ≤ b) (hI : I ≤ b) : v ≤ b := by
  rcases h with ⟨h1, _⟩ | ⟨_, h2⟩
  · exact hP v h1
  · omega
section HF1
variable {d : Nat} {A : TA} {F : Nat → Nat}
theorem SI.put {L : List Nat} {bs t u x : Nat} {σ : hq_St} (h : SI A F L bs σ) (hu : u < 4096) (hp : pop u = bs + 2 * t) (hx : x ≤ 200) (hc : LC 200 (Hg A F (L.drop t) u) x) : SI A F L bs (hq_sI σ 42 u ((σ.1 33 16 <<< (nI 8 &&& 31)) ||| nI x)) := by
  obtain ⟨s, h1, h2, h3⟩ := h
  refine ⟨s, h1, by rw [sI_ne (by decide)]; exact h2, fun v hv => ?_⟩
  by_cases q : v = u
  · subst q
    rw [sI_eq, h2, shl8 h1, orr, or8 (by omega)]
    refine ⟨s * 256 + x, rfl, by omega, by omega, fun _ t' _ hp' => ?_⟩
    have : t' = t := by omega
    subst this
    rw [show (s * 256 + x) % 256 = x by omega]
    exact hc
  · rw [sI_slot q]
    exact h3 v hv
theorem drop_cons {L : List Nat} {t : Nat} (h : t < L.length) : ∃ e, L[t]? = some e ∧ L.drop t = e :: L.drop (t + 1) := ⟨L[t], List.getElem?_eq_getElem h, List.drop_eq_getElem_cons h⟩
theorem s_costFrom (W : Wf A) (hF : ∀ h, h < A 1 0 → F h ≤ 9) {L : List Nat} (hL : ∀ y, y ∈ L → y < A 0 0) {bs : Nat} : ∀ r t u σ, t + r = L.length → u < 2 ^ A 1 0 → pop u = bs + 2 * t → HP A F σ → TS L σ → SI A F L bs σ → ∃ τ v, hq_c 19 (d + r + 1) [.ref 33, .int (nI t), .int (nI u)] σ (some (.int (nI v))) τ ∧ LC 200 (Hg A F (L.drop t) u) v ∧ v ≤ 200 ∧ SI A F L bs τ ∧ Fr [(42, 0)] σ τ := by
  have b1 := W.1
  have b2 := W.2.1
  have p12 : (2 : Nat) ^ A 1 0 ≤ 2 ^ 12 := Nat.pow_le_pow_right (by decide) b2
  intro r
  induction r with
  | zero =>
    intro t u σ ht hu hp P T S
    have e : L.drop t = [] := List.drop_eq_nil_of_le (by omega)
    have l8 := T.2.1
    refine ⟨σ, 0, p_X1_costFrom_0_3 (by rw [T.1]; exact nI_nlt (by omega) (by omega)), ?_, by decide, S, Fr.rf σ⟩
    rw [e]
    exact Or.inl ⟨rfl, fun c _ => Nat.zero_le _⟩
  | succ r ih =>
    intro t u σ ht hu hp P T S
    have l8 := T.2.1
    have u12 : u < 4096 := by omega
    obtain ⟨e, he1, he2⟩ := drop_cons (L := L) (t := t) (by omega)
    have eD := hL e (mem_get he1)
    have dl : (L.drop (t + 1)).length = r := by rw [List.length_drop]; omega
    obtain ⟨q1, q2, q3⟩ := P.2.2.2 e eD
    have n66 := prs_len (A := A) (e := e) b2
    have ct : (nI t).toNatClampNeg = t := clamp (by omega)
    have cu : (nI u).toNatClampNeg = u := clamp (by omega)
    have ce : (nI e).toNatClampNeg = e := clamp (by omega)
    have c1 : nI t < σ.1 33 15 := by rw [T.1]; exact nlt (by omega) (by omega)
    have o1 : vp_in (nI u) 4096 := vin u12 (by decide)
    have cost_le : ∀ c, Hg A F (e :: L.drop (t + 1)) u c → c ≤ 108 := fun c hc => (Hg_lo b2 hF hc).2.1
    obtain ⟨s, s1, s2, s3⟩ := S
    obtain ⟨w, w1, w2, w3, w4⟩ := s3 u u12
    have x42 : (σ.1 42 (nI u).toNatClampNeg) >>> (nI 8 &&& 31) = nI (w / 256) := by rw [cu, w1]; exact pk_shrN (by omega) _ 8 (by decide)
    have S : SI A F L bs σ := ⟨s, s1, s2, s3⟩
    by_cases hit : w / 256 = s
    · have lc := w4 hit t (by omega) hp
      have R := p_X1_costFrom_0_1 (d := d + (r + 1)) (σ := σ) (l1 := nI t) (l2 := nI u) c1 o1 (by rw [x42, s2, hit])
      rw [cu, w1, fa_and, and255] at R
      refine ⟨σ, w % 256, R, lc, ?_, S, Fr.rf σ⟩
      rw [he2] at lc
      exact LC_le lc (fun c hc => by have := cost_le c hc; omega) (Nat.le_refl _)
    · -- the loop
      rw [he2]
      generalize hes : L.drop (t + 1) = es at dl cost_le he2 ih
      have ON : ∀ u' c, Hg A F es u' c → LF F (A 1 0) (min (A 1 0) (2 * r)) ≤ c := fun u' c hc => by
        obtain ⟨a, _, b⟩ := Hg_lo b2 hF hc
        rw [dl] at a b
        rw [Nat.min_eq_right b]; exact a
      have O9 : LF F (A 1 0) (min (A 1 0) (2 * r)) ≤ 108 := by
        have := LF_9 (F := F) (H := A 1 0) (m := min (A 1 0) (2 * r))
        omega
      have x39 : σ.1 39 (min (A 1 0) (2 * r)) = nI (LF F (A 1 0) (min (A 1 0) (2 * r))) := P.2.2.1 _ (by omega)
      generalize LF F (A 1 0) (min (A 1 0) (2 * r)) = O at ON O9 x39
      have fin : ∀ x ρ, x ≤ 200 → LC 200 (Hg A F (e :: es) u) x → SI A F L bs ρ → SI A F L bs (hq_sI ρ 42 (nI u).toNatClampNeg ((ρ.1 33 16 <<< (nI 8 &&& 31)) ||| nI x)) := fun x ρ hx hc hS => by
        rw [cu]
        exact hS.put u12 hp hx (by rw [he2]; exact hc)
      have loop : ∀ q k x ρ, k + q = (prs A e).length → x ≤ 200 → (x = 200 ∨ Hg A F (e :: es) u x) → (∀ k' b, k' < k → (prs A e)[k']? = some b → b &&& u = 0 → cano A F b u → ∀ c', Hg A F es (u ||| b) c' → x ≤ sset b F (A 1 0) + c') → SI A F L bs ρ → Fr [(42, 0)] σ ρ → ∃ τ v, hq_m 19 (d + (r + 1) + 1) (some (.int (nI v))) τ 57 [some (.ref 33), some (.int (nI t)), some (.int (nI u)), none, none, some (.int (nI (66 * e + (prs A e).length))), some (.int (nI x)), some (.int (nI O)), some (.int (nI (66 * e + k)))] [] ρ ∧ LC 200 (Hg A F (e :: es) u) v ∧ v ≤ 200 ∧ SI A F L bs τ ∧ Fr [(42, 0)] σ τ := by
        intro q
        induction q with
        | zero =>
          intro k x ρ hk hx hxv hdone hS fr
          have lc : LC 200 (Hg A F (e :: es) u) x := by
            have key : ∀ c, Hg A F (e :: es) u c → x ≤ c := fun c hc => by
              obtain ⟨b, m1, m2, m3, c', m4, m5⟩ := Hg_cano b2 hu hc
              obtain ⟨k', hk', hb'⟩ := List.getElem_of_mem m1
              rw [m5]
              exact hdone k' b (by omega) (by rw [List.getElem?_eq_getElem hk', hb']) m2 m3 c' m4
            rcases hxv with z | z
            · refine Or.inr ⟨fun c hc => ?_, z⟩
              have h1 := key c hc
              have h2 := cost_le c hc
              omega
            · exact Or.inl ⟨z, key⟩
          exact ⟨_, x, p_X1_costFrom_57_6 (nI_nlt (by omega) (by omega)) o1, lc, hx, fin x ρ hx lc hS, by rw [cu]; exact fr.sI rfl⟩
        | succ q ihq =>
          intro k x ρ hk hx hxv hdone hS fr
          have a1 : nI (66 * e + k) < nI (66 * e + (prs A e).length) := nlt (by omega) (by omega)
          by_cases z : O < x
          · have c2 : nI O < nI x := nlt z (by omega)
            have ok : vp_in (nI (66 * e + k)) 528 := vin (by omega) (by decide)
            have ck : (nI (66 * e + k)).toNatClampNeg = 66 * e + k := clamp (by omega)
            obtain ⟨b, hb⟩ : ∃ b, (prs A e)[k]? = some b := ⟨_, List.getElem?_eq_getElem (by omega)⟩
            obtain ⟨m1, m2⟩ := prs_mem.mp (mem_get hb)
            obtain ⟨y1, y2, tw, y3, y4⟩ := q3 k b hb
            have z34 : ρ.1 34 (nI (66 * e + k)).toNatClampNeg = nI b := by rw [ck, fr.i rfl]; exact y1
            have z35 : ρ.1 35 (nI (66 * e + k)).toNatClampNeg = nI (sset b F (A 1 0)) := by rw [ck, fr.i rfl]; exact y2
            have z36 : ρ.1 36 (nI (66 * e + k)).toNatClampNeg = nI tw := by rw [ck, fr.i rfl]; exact y4
            have pl : sset b F (A 1 0) ≤ 108 := by have := sset_le (n := b) hF; omega
            have nx : nI (66 * e + k) + nI 1 = nI (66 * e + (k + 1)) := nplus _ _
            have more : ∀ x', x' ≤ x → (b &&& u = 0 → cano A F b u → ∀ c', Hg A F es (u ||| b) c' → x' ≤ sset b F (A 1 0) + c') → ∀ k' b', k' < k + 1 → (prs A e)[k']? = some b' → b' &&& u = 0 → cano A F b' u → ∀ c', Hg A F es (u ||| b') c' → x' ≤ sset b' F (A 1 0) + c' := fun x' hx' hnew k' b' hk' hb' d1 d2 c' d3 => by
              by_cases zz : k' = k
              · subst zz
                rw [hb] at hb'
                cases hb'
                exact hnew d1 d2 c' d3
              · have := hdone k' b' (by omega) hb' d1 d2 c' d3
                omega
            have skip : (b &&& u = 0 → cano A F b u → ∀ c', Hg A F es (u ||| b) c' → x ≤ sset b F (A 1 0) + c') → ∃ τ v, hq_m 19 (d + (r + 1) + 1) (some (.int (nI v))) τ 57 [some (.ref 33), some (.int (nI t)), some (.int (nI u)), none, none, some (.int (nI (66 * e + (prs A e).length))), some (.int (nI x)), some (.int (nI O)), some (.int (nI (66 * e + (k + 1))))] [] ρ ∧ LC 200 (Hg A F (e :: es) u) v ∧ v ≤ 200 ∧ SI A F L bs τ ∧ Fr [(42, 0)] σ τ := fun hnew => ihq (k + 1) x ρ (by omega) hx hxv (more x (Nat.le_refl _) hnew) hS fr
            have hbu : nI b &&& nI u = 0 ↔ b &&& u = 0 := by
              rw [fa_and]
              have lb : b &&& u ≤ u := Nat.and_le_right
              constructor
              · intro h
                apply Classical.byContradiction
                intro n
                exact nI_ne0 (by omega) (by omega) h
              · intro h; rw [h]; rfl
            by_cases d1 : b &&& u = 0
            · have c3 : (ρ.1 34 (nI (66 * e + k)).toNatClampNeg &&& nI u) = 0 := by rw [z34]; exact hbu.mpr d1
              by_cases d2 : ndiff tw u = 0
              · have c4 : (ρ.1 36 (nI (66 * e + k)).toNatClampNeg &&& (nI u ^^^ (-1 : Int32))) = 0 := by rw [z36, and_not, d2]; rfl
                by_cases d3 : sset b F (A 1 0) + O < x
                · have c5 : ρ.1 35 (nI (66 * e + k)).toNatClampNeg + nI O < nI x := by rw [z35, nplus]; exact nlt d3 (by omega)
                  have ub : u ||| b < 2 ^ A 1 0 := Nat.or_lt_two_pow hu m1
                  have pub : pop (u ||| b) = bs + 2 * (t + 1) := by
                    have := sset_dj (f := fun _ => 1) (dj_sym d1) 12
                    have p2 := okP_2 m2
                    unfold pop at hp p2 ⊢
                    omega
                  obtain ⟨ρ1, v1, g1, g2, g3, g4, g5⟩ := ih (t + 1) (u ||| b) ρ (by omega) ub pub (HP.dep.fr fr (by decide) P) (TS.dep.fr fr (by decide) T) hS
                  rw [hes] at g2
                  have nw : (if ρ.1 35 (nI (66 * e + k)).toNatClampNeg + nI v1 < nI x then ρ.1 35 (nI (66 * e + k)).toNatClampNeg + nI v1 else nI x) = nI (min x (sset b F (A 1 0) + v1)) := by rw [z35, nplus]; exact min_val (by omega) (by omega)
                  obtain ⟨τ, v, k1, k2, k3, k4, k5⟩ := ihq (k + 1) (min x (sset b F (A 1 0) + v1)) ρ1 (by omega) (by omega) (by
                    by_cases zz : sset b F (A 1 0) + v1 < x
                    · right
                      rw [Nat.min_eq_right (by omega)]
                      rcases g2 with ⟨a, _⟩ | ⟨_, a⟩
                      · exact ⟨b, mem_get hb, d1, v1, a, rfl⟩
                      · omega
                    · rw [Nat.min_eq_left (by omega)]; exact hxv) (more _ (by omega) (fun _ _ c' hc' => by
                      rcases g2 with ⟨_, a⟩ | ⟨a, _⟩
                      · have := a c' hc'; omega
                      · exact absurd hc' (a c'))) g4 (fr.tr g5)
                  refine ⟨τ, v, p_X1_costFrom_57_1 a1 c2 ok c3 ok c4 ok c5 ok ok (by rw [z34, orr, nplus]; exact g1) ?_, k2, k3, k4, k5⟩
                  rw [nw, nx]; exact k1
                · obtain ⟨τ, v, k1, k2, k3, k4, k5⟩ := skip (fun _ _ c' hc' => by have := ON _ c' hc'; omega)
                  exact ⟨τ, v, p_X1_costFrom_57_2 a1 c2 ok c3 ok c4 ok (by rw [z35, nplus]; exact nI_nlt (by omega) (by omega)) (by rw [nx]; exact k1), k2, k3, k4, k5⟩
              · obtain ⟨τ, v, k1, k2, k3, k4, k5⟩ := skip (fun _ hc => by
                  exfalso
                  apply d2
                  apply Nat.eq_of_testBit_eq
                  intro o
                  rw [ndiff_test, Nat.zero_testBit]
                  cases ho : tw.testBit o with
                  | false => rfl
                  | true =>
                    obtain ⟨a, h, b', c', e', f'⟩ := y3.2 o ho
                    rw [hc o h b' c' e' f' a]; rfl)
                have tl : ndiff tw u < 2 ^ 12 := ndiff_le y3.1
                exact ⟨τ, v, p_X1_costFrom_57_3 a1 c2 ok c3 ok (by rw [z36, and_not]; exact nI_ne0 (by omega) (by omega)) (by rw [nx]; exact k1), k2, k3, k4, k5⟩
            · obtain ⟨τ, v, k1, k2, k3, k4, k5⟩ := skip (fun h => absurd h d1)
              exact ⟨τ, v, p_X1_costFrom_57_4 a1 c2 ok (by rw [z34]; exact fun h => d1 (hbu.mp h)) (by rw [nx]; exact k1), k2, k3, k4, k5⟩
          · have lc : LC 200 (Hg A F (e :: es) u) x := by
              rcases hxv with zz | zz
              · omega
              · refine Or.inl ⟨zz, fun c ⟨b, _, _, c', hc', hcc⟩ => ?_⟩
                have := ON _ c' hc'
                omega
            exact ⟨_, x, p_X1_costFrom_57_5 a1 (nI_nlt (by omega) (by omega)) o1, lc, hx, fin x ρ hx lc hS, by rw [cu]; exact fr.sI rfl⟩
      have x41 : σ.1 41 (nI t).toNatClampNeg = nI e := by rw [ct]; exact T.2.2 t e he1
      have ix : (if nI 2 * ((σ.1 33 15 - nI t) - nI 1) < σ.1 33 14 then nI 2 * ((σ.1 33 15 - nI t) - nI 1) else σ.1 33 14) = nI (min (A 1 0) (2 * r)) := by
        rw [T.1, P.2.1, pk_sub (by omega), pk_sub (by omega), nmul, show 2 * (L.length - t - 1) = 2 * r by omega]
        exact min_val (by omega) (by omega)
      obtain ⟨τ, v, k1, k2, k3, k4, k5⟩ := loop (prs A e).length 0 200 σ (by omega) (Nat.le_refl _) (Or.inl rfl) (fun k' b hk' => by omega) S (Fr.rf σ)
      refine ⟨τ, v, p_X1_costFrom_0_2 c1 o1 (by rw [x42, s2, nI_eq (by omega) (by omega)]; exact hit) (by rw [ix]; exact vin (by omega) (by decide)) (by rw [x41]; exact vin (by omega) (by decide)) (by exact vin (by omega) (by decide)) (by exact vin (by omega) (by decide)) ?_, k2, k3, k4, k5⟩
      have cm : (nI (min (A 1 0) (2 * r))).toNatClampNeg = min (A 1 0) (2 * r) := clamp (by omega)
      rw [ix, cm, x39, x41, ce, q1, nmul, nplus, Nat.mul_comm e 66]
      exact k1
end HF1
