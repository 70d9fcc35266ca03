/-! The rule read: what a reader gives: it went, where it stands, the log. -/
abbrev RR : Type := Bool × Nat × List Nat
def bsO (j : Nat) : Nat := if j = 13 then 0 else if j = 14 then 3 else 5
def chn (f : Nat → Nat) (T : Nat) (th : Nat → RR) (j : Nat) : Nat → Nat → RR
  | 0, p => (true, p, [])
  | n + 1, p => if ixA f T p j = 0 then (true, p, []) else if (th (p + 1)).1 then ((chn f T th j n (th (p + 1)).2.1).1, (chn f T th j n (th (p + 1)).2.1).2.1, (th (p + 1)).2.2 ++ ((2000 + bsO j + (ixA f T p j - 1)) :: (chn f T th j n (th (p + 1)).2.1).2.2)) else (false, (th (p + 1)).2.1, [])
def sqn (f : Nat → Nat) (T : Nat) (th : Nat → RR) (j n p : Nat) : RR := if (th p).1 then ((chn f T th j n (th p).2.1).1, (chn f T th j n (th p).2.1).2.1, (th p).2.2 ++ (chn f T th j n (th p).2.1).2.2) else (false, (th p).2.1, [])
def mns (f : Nat → Nat) (T : Nat) : Nat → Nat → Nat
  | 0, _ => 0
  | n + 1, p => if isA f T p 45 then mns f T n (p + 1) + 1 else 0
def lss (k : Nat) : List Nat := List.replicate (k / 2) 3001 ++ (if k % 2 = 1 then [3000] else [])
def nmL (f : Nat → Nat) (T p : Nat) : Nat := if dgA f T (p + 1) 0 9 then (if dgA f T (p + 2) 0 9 then 3 else 2) else 1
def nmV (f : Nat → Nat) (p : Nat) : Nat → Nat
  | 0 => 0
  | k + 1 => nmV f p k * 10 + (f (p + k) - 48)
def tco (f : Nat → Nat) (T : Nat) (ex : Option (Nat → RR)) (q : Nat) : RR :=
  if ixA f T q 12 ≠ 0 then (true, q + 1, [1000 + (ixA f T q 12 - 1)])
  else if dgA f T q 0 9 then (true, q + nmL f T q, [nmV f q (nmL f T q)])
  else if isA f T q 40 then (match ex with
    | none => (false, q, [])
    | some e => if (e (q + 1)).1 then (if isA f T (e (q + 1)).2.1 41 then (true, (e (q + 1)).2.1 + 1, (e (q + 1)).2.2) else (false, (e (q + 1)).2.1, [])) else (false, (e (q + 1)).2.1, []))
  else (false, q, [])
def thA (f : Nat → Nat) (T : Nat) (ex : Option (Nat → RR)) (p : Nat) : RR := if (tco f T ex (p + mns f T 40 p)).1 then (true, (tco f T ex (p + mns f T 40 p)).2.1, (tco f T ex (p + mns f T 40 p)).2.2 ++ lss (mns f T 40 p)) else (false, (tco f T ex (p + mns f T 40 p)).2.1, [])
def prA (f : Nat → Nat) (T : Nat) (ex : Option (Nat → RR)) : Nat → RR := sqn f T (thA f T ex) 15 40
def smA (f : Nat → Nat) (T : Nat) (ex : Option (Nat → RR)) : Nat → RR := sqn f T (prA f T ex) 14 40
def xpA (f : Nat → Nat) (T : Nat) (ex : Option (Nat → RR)) : Nat → RR := sqn f T (smA f T ex) 13 1
def exO (f : Nat → Nat) (T : Nat) : Nat → Option (Nat → RR)
  | 0 => none
  | m + 1 => some (xpA f T (exO f T m))
/-- a log that puts one number on the stack -/
def psh (G : List Nat) : Prop := ∀ n K, okG (n + 1) K → okG n (G ++ K)
def kps (G : List Nat) : Prop := ∀ n K, okG (n + 1) K → okG (n + 1) (G ++ K)
theorem cS_cons (t : Nat) (G : List Nat) : cS (t :: G) = if t = 3001 then cS G else cmp t :: cS G := rfl
theorem mS_cons (t : Nat) (G : List Nat) : mS (t :: G) = if t = 3001 then 3000 :: 3000 :: mS G else t :: mS G := rfl
theorem cS_app : ∀ G K, cS (G ++ K) = cS G ++ cS K
  | [], _ => rfl
  | t :: G, K => by
    rw [List.cons_append, cS_cons, cS_cons, cS_app G K]
    split <;> rfl
theorem mS_app : ∀ G K, mS (G ++ K) = mS G ++ mS K
  | [], _ => rfl
  | t :: G, K => by
    rw [List.cons_append, mS_cons, mS_cons, mS_app G K]
    split <;> rfl
theorem okG_cons (n t : Nat) (G : List Nat) : okG n (t :: G) = if t < 2000 then (t < 1009 ∧ okG (n + 1) G) else if t < 2007 then 2 ≤ n ∧ okG (n - 1) G else (t = 3000 ∨ t = 3001) ∧ 1 ≤ n ∧ okG n G := rfl
theorem psh_one {t : Nat} (h : t < 1009) : psh [t] := fun n K hK => by
  show okG n (t :: K)
  rw [okG_cons, if_pos (by omega)]
  exact ⟨h, hK⟩
theorem kps_rep : ∀ a, kps (List.replicate a 3001)
  | 0 => fun n K hK => hK
  | a + 1 => fun n K hK => by
    show okG (n + 1) (3001 :: (List.replicate a 3001 ++ K))
    rw [okG_cons, if_neg (by omega), if_neg (by omega)]
    exact ⟨Or.inr rfl, by omega, kps_rep a n K hK⟩
theorem psh_kps {G K : List Nat} (h : psh G) (k : kps K) : psh (G ++ K) := fun n J hJ => by
  rw [List.append_assoc]
  exact h n _ (k n J hJ)
theorem kps_app {G K : List Nat} (h : kps G) (k : kps K) : kps (G ++ K) := fun n J hJ => by
  rw [List.append_assoc]
  exact h n _ (k n J hJ)
theorem kps_lss (k : Nat) : kps (lss k) := by
  refine kps_app (kps_rep _) ?_
  split
  · intro n K hK
    show okG (n + 1) (3000 :: K)
    rw [okG_cons, if_neg (by omega), if_neg (by omega)]
    exact ⟨Or.inl rfl, by omega, hK⟩
  · exact fun n K hK => hK
theorem kps_nil : kps [] := fun n K hK => hK
theorem kps_op {G K : List Nat} {t : Nat} (h : psh G) (h1 : 2000 ≤ t) (h2 : t < 2007) (k : kps K) : kps (G ++ t :: K) := fun n J hJ => by
  rw [List.append_assoc]
  refine h (n + 1) _ ?_
  show okG (n + 1 + 1) (t :: (K ++ J))
  rw [okG_cons, if_neg (by omega), if_pos h2]
  exact ⟨by omega, k n J hJ⟩
theorem cS_rep : ∀ a, cS (List.replicate a 3001) = []
  | 0 => rfl
  | a + 1 => cS_rep a
theorem cS_lss (k : Nat) : cS (lss k) = if k % 2 = 1 then [3000] else [] := by
  unfold lss
  rw [cS_app, cS_rep]
  split <;> rfl
theorem mS_rep : ∀ a, mS (List.replicate a 3001) = List.replicate (2 * a) 3000
  | 0 => rfl
  | a + 1 => by
    show 3000 :: 3000 :: mS (List.replicate a 3001) = _
    rw [mS_rep a]; rfl
theorem mS_lss (k : Nat) : mS (lss k) = List.replicate k 3000 := by
  unfold lss
  rw [mS_app, mS_rep]
  split
  · rename_i q
    show _ ++ List.replicate 1 3000 = _
    rw [List.replicate_append_replicate]
    exact congrArg (fun n => List.replicate n 3000) (by omega)
  · rename_i q
    show _ ++ [] = _
    rw [List.append_nil]
    exact congrArg (fun n => List.replicate n 3000) (by omega)
/-- what holds of a reader -/
def okT (T : Nat) (th : Nat → RR) : Prop := ∀ p, p ≤ T → p ≤ (th p).2.1 ∧ (th p).2.1 ≤ T ∧ ((th p).1 = true → psh (th p).2.2 ∧ p + 1 ≤ (th p).2.1 ∧ p + (cS (th p).2.2).length ≤ (th p).2.1 ∧ p + (mS (th p).2.2).length ≤ (th p).2.1)
def okC (T : Nat) (c : Nat → RR) : Prop := ∀ p, p ≤ T → p ≤ (c p).2.1 ∧ (c p).2.1 ≤ T ∧ ((c p).1 = true → kps (c p).2.2 ∧ p + (cS (c p).2.2).length ≤ (c p).2.1 ∧ p + (mS (c p).2.2).length ≤ (c p).2.1)
section RR
variable {n T : Nat} {f : Nat → Nat}
theorem ixS_3 : ∀ c, c < 256 → ixS 13 c = (if c = 60 then 1 else if c = 62 then 2 else if c = 61 then 3 else 0) ∧ ixS 14 c = (if c = 43 then 1 else if c = 45 then 2 else 0) ∧ ixS 15 c = (if c = 42 then 1 else if c = 47 then 2 else 0) ∧ ixS 12 c ≤ 9 ∧ (ixS 12 c ≠ 0 → c = ltr (ixS 12 c - 1)) ∧ ixS 13 c ≤ 3 ∧ ixS 14 c ≤ 2 ∧ ixS 15 c ≤ 2 := by decide +kernel
theorem ixA_pos {p j : Nat} (h : ixA f T p j ≠ 0) : p < T := by
  unfold ixA at h
  split at h
  · assumption
  · exact absurd rfl h
theorem chn_ok {th : Nat → RR} (ht : okT T th) (hf : ∀ p, p < T → f p < 256) {j : Nat} (hj : j = 13 ∨ j = 14 ∨ j = 15) : ∀ m, okC T (chn f T th j m)
  | 0 => fun p hp => ⟨Nat.le_refl _, hp, fun _ => ⟨kps_nil, Nat.le_refl _, Nat.le_refl _⟩⟩
  | m + 1 => fun p hp => by
    unfold chn
    by_cases q : ixA f T p j = 0
    · rw [if_pos q]
      exact ⟨Nat.le_refl _, hp, fun _ => ⟨kps_nil, Nat.le_refl _, Nat.le_refl _⟩⟩
    · rw [if_neg q]
      have pT := ixA_pos q
      obtain ⟨a1, a2, a3⟩ := ht (p + 1) (by omega)
      cases h1 : (th (p + 1)).1 with
      | false =>
        rw [if_neg (by decide)]
        exact ⟨by dsimp only; omega, a2, fun z => by cases z⟩
      | true =>
        rw [if_pos rfl]
        obtain ⟨b1, b2, b3, b4⟩ := a3 h1
        obtain ⟨c1, c2, c3⟩ := chn_ok ht hf hj m (th (p + 1)).2.1 a2
        refine ⟨by dsimp only; omega, c2, fun z => ?_⟩
        obtain ⟨d1, d2, d3⟩ := c3 z
        have i3 := ixS_3 (f p) (hf p pT)
        have ix : 2000 ≤ 2000 + bsO j + (ixA f T p j - 1) ∧ 2000 + bsO j + (ixA f T p j - 1) < 2007 := by
          unfold ixA at q ⊢
          rw [if_pos pT] at q ⊢
          obtain ⟨-, -, -, -, -, j1, j2, j3⟩ := i3
          rcases hj with rfl | rfl | rfl
          · have : bsO 13 = 0 := rfl
            omega
          · have : bsO 14 = 3 := rfl
            omega
          · have : bsO 15 = 5 := rfl
            omega
        refine ⟨kps_op b1 ix.1 ix.2 d1, ?_, ?_⟩
        · dsimp only
          rw [cS_app]
          have : (cS ((2000 + bsO j + (ixA f T p j - 1)) :: (chn f T th j m (th (p + 1)).2.1).2.2)).length = (cS (chn f T th j m (th (p + 1)).2.1).2.2).length + 1 := by
            show (if _ then _ else _ : List Nat).length = _
            rw [if_neg (by omega)]; rfl
          rw [List.length_append, this]; omega
        · dsimp only
          rw [mS_app]
          have : (mS ((2000 + bsO j + (ixA f T p j - 1)) :: (chn f T th j m (th (p + 1)).2.1).2.2)).length = (mS (chn f T th j m (th (p + 1)).2.1).2.2).length + 1 := by
            show (if _ then _ else _ : List Nat).length = _
            rw [if_neg (by omega)]; rfl
          rw [List.length_append, this]; omega
theorem sqn_ok {th : Nat → RR} (ht : okT T th) (hf : ∀ p, p < T → f p < 256) {j : Nat} (hj : j = 13 ∨ j = 14 ∨ j = 15) (m : Nat) : okT T (sqn f T th j m) := fun p hp => by
  unfold sqn
  obtain ⟨a1, a2, a3⟩ := ht p hp
  cases h1 : (th p).1 with
  | false =>
    rw [if_neg (by decide)]
    exact ⟨a1, a2, fun z => by cases z⟩
  | true =>
    rw [if_pos rfl]
    obtain ⟨b1, b2, b3, b4⟩ := a3 h1
    obtain ⟨c1, c2, c3⟩ := chn_ok ht hf hj m (th p).2.1 a2
    refine ⟨by dsimp only; omega, c2, fun z => ?_⟩
    obtain ⟨d1, d2, d3⟩ := c3 z
    refine ⟨psh_kps b1 d1, by dsimp only; omega, ?_, ?_⟩
    · dsimp only
      rw [cS_app, List.length_append]; omega
    · dsimp only
      rw [mS_app, List.length_append]; omega
theorem mns_le : ∀ m p, p ≤ T → p + mns f T m p ≤ T
  | 0, p, h => h
  | m + 1, p, h => by
    unfold mns
    split
    · rename_i q
      unfold isA at q
      simp at q
      have := mns_le m (p + 1) (by omega)
      omega
    · exact h
theorem dg_lt {p lo hi : Nat} (h : dgA f T p lo hi = true) : p < T ∧ lo + 48 ≤ f p ∧ f p ≤ hi + 48 := by unfold dgA at h; simpa using h
theorem is_lt {p w : Nat} (h : isA f T p w = true) : p < T ∧ f p = w := by unfold isA at h; simpa using h
theorem nmV_lt {p : Nat} : ∀ k, (∀ i, i < k → f (p + i) ≤ 57) → nmV f p k < 10 ^ k
  | 0, _ => by show 0 < 1; decide
  | k + 1, h => by
    have := nmV_lt k (fun i hi => h i (by omega))
    have := h k (by omega)
    unfold nmV
    rw [Nat.pow_succ]; omega
theorem nm_ok {q : Nat} (h : dgA f T q 0 9 = true) : 1 ≤ nmL f T q ∧ nmL f T q ≤ 3 ∧ q + nmL f T q ≤ T ∧ (∀ i, i < nmL f T q → dgA f T (q + i) 0 9 = true) ∧ (nmL f T q < 3 → dgA f T (q + nmL f T q) 0 9 = false) ∧ nmV f q (nmL f T q) < 1000 := by
  have h0 := dg_lt h
  have key : 1 ≤ nmL f T q ∧ nmL f T q ≤ 3 ∧ (∀ i, i < nmL f T q → dgA f T (q + i) 0 9 = true) ∧ (nmL f T q < 3 → dgA f T (q + nmL f T q) 0 9 = false) := by
    unfold nmL
    cases h1 : dgA f T (q + 1) 0 9 with
    | false =>
      rw [if_neg (by decide)]
      refine ⟨by decide, by decide, fun i hi => ?_, fun _ => h1⟩
      have : i = 0 := by omega
      subst this; exact h
    | true =>
      rw [if_pos rfl]
      cases h2 : dgA f T (q + 2) 0 9 with
      | false =>
        rw [if_neg (by decide)]
        refine ⟨by decide, by decide, fun i hi => ?_, fun _ => h2⟩
        have : i = 0 ∨ i = 1 := by omega
        rcases this with rfl | rfl
        · exact h
        · exact h1
      | true =>
        rw [if_pos rfl]
        refine ⟨by decide, by decide, fun i hi => ?_, fun z => by omega⟩
        have : i = 0 ∨ i = 1 ∨ i = 2 := by omega
        rcases this with rfl | rfl | rfl
        · exact h
        · exact h1
        · exact h2
  obtain ⟨k1, k2, k3, k4⟩ := key
  refine ⟨k1, k2, ?_, k3, k4, ?_⟩
  · have := (dg_lt (k3 (nmL f T q - 1) (by omega))).1
    omega
  · have a := nmV_lt (f := f) (p := q) (nmL f T q) (fun i hi => (dg_lt (k3 i hi)).2.2)
    have b : 10 ^ nmL f T q ≤ 10 ^ 3 := Nat.pow_le_pow_right (by decide) k2
    omega
theorem tco_ok {ex : Option (Nat → RR)} (he : ∀ e, ex = some e → okT T e) (hf : ∀ p, p < T → f p < 256) : okT T (tco f T ex) := fun q hq => by
  unfold tco
  by_cases q1 : ixA f T q 12 ≠ 0
  · rw [if_pos q1]
    have pT := ixA_pos q1
    have i3 := (ixS_3 (f q) (hf q pT)).2.2.2.1
    have il : ixA f T q 12 ≤ 9 := by unfold ixA; rw [if_pos pT]; exact i3
    exact ⟨by dsimp only; omega, by dsimp only; omega, fun _ => ⟨psh_one (by omega), Nat.le_refl _, by
      show q + (cS [_]).length ≤ _
      have : cS [1000 + (ixA f T q 12 - 1)] = [cmp (1000 + (ixA f T q 12 - 1))] := by show (if _ then _ else _) = _; rw [if_neg (by omega)]; rfl
      rw [this]; exact Nat.le_refl _, by
      have : mS [1000 + (ixA f T q 12 - 1)] = [1000 + (ixA f T q 12 - 1)] := by show (if _ then _ else _) = _; rw [if_neg (by omega)]; rfl
      rw [this]; exact Nat.le_refl _⟩⟩
  · rw [if_neg q1]
    cases q2 : dgA f T q 0 9 with
    | true =>
      rw [if_pos rfl]
      obtain ⟨n1, n2, n3, n4, n5, n6⟩ := nm_ok q2
      refine ⟨by dsimp only; omega, n3, fun _ => ⟨psh_one (by omega), by dsimp only; omega, ?_, ?_⟩⟩
      · have : cS [nmV f q (nmL f T q)] = [cmp (nmV f q (nmL f T q))] := by show (if _ then _ else _) = _; rw [if_neg (by omega)]; rfl
        dsimp only
        rw [this]; simp; omega
      · have : mS [nmV f q (nmL f T q)] = [nmV f q (nmL f T q)] := by show (if _ then _ else _) = _; rw [if_neg (by omega)]; rfl
        dsimp only
        rw [this]; simp; omega
    | false =>
      rw [if_neg (by decide)]
      cases q3 : isA f T q 40 with
      | false =>
        rw [if_neg (by decide)]
        exact ⟨Nat.le_refl _, hq, fun z => by cases z⟩
      | true =>
        rw [if_pos rfl]
        have qT := (is_lt q3).1
        cases ex with
        | none => exact ⟨Nat.le_refl _, hq, fun z => by cases z⟩
        | some e =>
          dsimp only
          obtain ⟨a1, a2, a3⟩ := he e rfl (q + 1) (by omega)
          cases h1 : (e (q + 1)).1 with
          | false =>
            rw [if_neg (by decide)]
            exact ⟨by dsimp only; omega, a2, fun z => by cases z⟩
          | true =>
            rw [if_pos rfl]
            obtain ⟨b1, b2, b3, b4⟩ := a3 h1
            cases h2 : isA f T (e (q + 1)).2.1 41 with
            | false =>
              rw [if_neg (by decide)]
              exact ⟨by dsimp only; omega, a2, fun z => by cases z⟩
            | true =>
              rw [if_pos rfl]
              have := (is_lt h2).1
              exact ⟨by dsimp only; omega, by dsimp only; omega, fun _ => ⟨b1, by dsimp only; omega, by dsimp only; omega, by dsimp only; omega⟩⟩
theorem thA_ok {ex : Option (Nat → RR)} (he : ∀ e, ex = some e → okT T e) (hf : ∀ p, p < T → f p < 256) : okT T (thA f T ex) := fun p hp => by
  have hm := mns_le (f := f) (T := T) 40 p hp
  obtain ⟨a1, a2, a3⟩ := tco_ok he hf (p + mns f T 40 p) hm
  unfold thA
  cases h1 : (tco f T ex (p + mns f T 40 p)).1 with
  | false =>
    rw [if_neg (by decide)]
    exact ⟨by dsimp only; omega, a2, fun z => by cases z⟩
  | true =>
    rw [if_pos rfl]
    obtain ⟨b1, b2, b3, b4⟩ := a3 h1
    refine ⟨by dsimp only; omega, a2, fun _ => ⟨psh_kps b1 (kps_lss _), by dsimp only; omega, ?_, ?_⟩⟩
    · dsimp only
      rw [cS_app, cS_lss, List.length_append]
      split <;> simp <;> omega
    · dsimp only
      rw [mS_app, mS_lss, List.length_append, List.length_replicate]; omega
theorem xpA_ok {ex : Option (Nat → RR)} (he : ∀ e, ex = some e → okT T e) (hf : ∀ p, p < T → f p < 256) : okT T (prA f T ex) ∧ okT T (smA f T ex) ∧ okT T (xpA f T ex) := by
  have h1 := sqn_ok (thA_ok he hf) hf (Or.inr (Or.inr rfl)) 40
  have h2 := sqn_ok h1 hf (Or.inr (Or.inl rfl)) 40
  exact ⟨h1, h2, sqn_ok h2 hf (Or.inl rfl) 1⟩
theorem exO_ok (hf : ∀ p, p < T → f p < 256) : ∀ m e, exO f T m = some e → okT T e
  | 0, e, h => by cases h
  | m + 1, e, h => by
    cases h
    exact (xpA_ok (exO_ok hf m) hf).2.2
end RR
