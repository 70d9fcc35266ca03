/-! quiet: ways to a room r0; a length is 16 times its creaks and its doors. E: the open doors with their lengths and ends. -/
def rlx (V : Nat → Nat) (a b w : Nat) : Nat → Nat := fun r => if r = a then min (V a) (V b + w) else V r
def opA (A : TA) (e : Nat) : Bool := !shutF A (h0 A) e (onA A (e + 1))
def ckA (A : TA) (y : Int32) (G : List Nat) (e : Nat) : Nat := crk A y G e (onA A (e + 1))
def lnA (A : TA) (y : Int32) (G : List Nat) (e : Nat) : Nat := ckA A y G e * 16 + 1
def trn (A : TA) (y : Int32) (G : List Nat) (V : Nat → Nat) : Nat → Nat → Nat
  | 0 => V
  | e + 1 => if opA A e then rlx (rlx (trn A y G V e) (A 2 e) (A 3 e) (lnA A y G e)) (A 3 e) (A 2 e) (lnA A y G e) else trn A y G V e
def vi (r0 : Nat) : Nat → Nat := fun r => if r = r0 then 0 else 1048576
def vt (A : TA) (y : Int32) (G : List Nat) (r0 : Nat) : Nat → Nat → Nat
  | 0 => vi r0
  | k + 1 => trn A y G (vt A y G r0 k) (A 0 0)
/-- all at once -/
def bE (A : TA) (y : Int32) (G : List Nat) (B : Nat → Nat) (r : Nat) : Nat → Nat
  | 0 => B r
  | e + 1 => if opA A e = true ∧ othA A e r ≠ 0 then min (bE A y G B r e) (B (othA A e r - 1) + lnA A y G e) else bE A y G B r e
def bB (A : TA) (y : Int32) (G : List Nat) (r0 : Nat) : Nat → Nat → Nat
  | 0 => vi r0
  | k + 1 => fun r => bE A y G (bB A y G r0 k) r (A 0 0)
section QU
variable {A : TA} {y : Int32} {G : List Nat} {r0 : Nat}
theorem bE_le {B : Nat → Nat} {r : Nat} : ∀ e, bE A y G B r e ≤ B r
  | 0 => Nat.le_refl _
  | e + 1 => by
    have := bE_le (B := B) (r := r) e
    unfold bE
    split <;> omega
theorem bE_edge {B : Nat → Nat} {r e o : Nat} (h1 : opA A e = true) (h2 : othA A e r = o + 1) : ∀ m, e < m → bE A y G B r m ≤ B o + lnA A y G e
  | 0, h => by omega
  | m + 1, h => by
    by_cases q : e = m
    · subst q
      unfold bE
      rw [if_pos ⟨h1, by omega⟩, h2, Nat.add_sub_cancel]
      omega
    · have := bE_edge (B := B) h1 h2 m (by omega)
      unfold bE
      split <;> omega
theorem bE_ge {B : Nat → Nat} {r v : Nat} (h0 : v ≤ B r) : ∀ m, (∀ e o, e < m → opA A e = true → othA A e r = o + 1 → v ≤ B o + lnA A y G e) → v ≤ bE A y G B r m
  | 0, _ => h0
  | m + 1, h => by
    have ih := bE_ge (B := B) h0 m (fun e o he => h e o (by omega))
    unfold bE
    split
    · rename_i q
      have := h m (othA A m r - 1) (by omega) q.1 (by omega)
      omega
    · exact ih
theorem bB_dec {k r : Nat} : bB A y G r0 (k + 1) r ≤ bB A y G r0 k r := bE_le _
theorem bB_anti {r : Nat} : ∀ {k j : Nat}, bB A y G r0 (k + j) r ≤ bB A y G r0 k r
  | _, 0 => Nat.le_refl _
  | k, j + 1 => Nat.le_trans (bB_dec (k := k + j)) bB_anti
/-- what holds of all lengths on the way -/
def Iv (A : TA) (y : Int32) (G : List Nat) (r0 : Nat) (V : Nat → Nat) : Prop := V r0 = 0 ∧ (∀ r, V r ≤ 1048576) ∧ (∀ r, V r < 1048576 → (∃ m, m < 256 ∧ pop m = V r % 16 + 1 ∧ ∀ x, m.testBit x = true → V x ≤ V r) ∧ (r ≠ r0 → ∃ e o, e < A 0 0 ∧ opA A e = true ∧ othA A e r = o + 1 ∧ V o + lnA A y G e ≤ V r) ∧ bB A y G r0 (V r % 16) r ≤ V r ∧ V r ≤ 19009 * (V r % 16))
theorem pop8 : ∀ m, m < 256 → pop m ≤ 8 := by decide +kernel
theorem pop_1 : ∀ r, r < 8 → pop (2 ^ r) = 1 ∧ 2 ^ r < 256 := by decide +kernel
theorem Iv.m7 {V : Nat → Nat} (h : Iv A y G r0 V) {r : Nat} (hr : V r < 1048576) : V r % 16 ≤ 7 := by
  obtain ⟨⟨m, m1, m2, -⟩, -⟩ := h.2.2 r hr
  have := pop8 m m1
  omega
theorem Iv_init (hr : r0 < 8) : Iv A y G r0 (vi r0) := by
  refine ⟨by unfold vi; rw [if_pos rfl], fun r => by unfold vi; split <;> omega, fun r h => ?_⟩
  have e : r = r0 := by
    unfold vi at h
    split at h
    · assumption
    · omega
  subst e
  have z : vi r r = 0 := by unfold vi; rw [if_pos rfl]
  obtain ⟨p1, p2⟩ := pop_1 r hr
  refine ⟨⟨2 ^ r, p2, by rw [z, p1], fun x hx => ?_⟩, fun q => absurd rfl q, ?_, by rw [z]; decide⟩
  · rw [Nat.testBit_two_pow] at hx
    have : r = x := by simpa using hx
    rw [this]; exact Nat.le_refl _
  · rw [z]
    show vi r r ≤ 0
    rw [z]; exact Nat.le_refl _
theorem rlx_le {V : Nat → Nat} {a b w r : Nat} : rlx V a b w r ≤ V r := by
  unfold rlx
  split
  · rename_i q; subst q; omega
  · exact Nat.le_refl _
theorem rlx_a {V : Nat → Nat} {a b w : Nat} : rlx V a b w a ≤ V b + w := by unfold rlx; rw [if_pos rfl]; omega
theorem Iv_rlx {V : Nat → Nat} (W : Wf A) (h : Iv A y G r0 V) {e a b : Nat} (he : e < A 0 0) (ho : opA A e = true) (hab : othA A e a = b + 1) (ha : a < 8) (hne : a ≠ b) : Iv A y G r0 (rlx V a b (lnA A y G e)) := by
  by_cases q : V b + lnA A y G e < V a
  · have ia := h.2.1 a
    have hb : V b < 1048576 := by omega
    obtain ⟨⟨mb, m1, m2, m3⟩, -, hB, hK⟩ := h.2.2 b hb
    have b7 := h.m7 hb
    have va : rlx V a b (lnA A y G e) a = V b + lnA A y G e := by unfold rlx; rw [if_pos rfl]; omega
    have vo : ∀ r, r ≠ a → rlx V a b (lnA A y G e) r = V r := fun r hr => by unfold rlx; rw [if_neg hr]
    have ln1 : lnA A y G e = 16 * ckA A y G e + 1 := by unfold lnA; omega
    have a0 : a ≠ r0 := fun z => by rw [z, h.1] at q; omega
    have am : mb.testBit a = false := by
      cases z : mb.testBit a with
      | false => rfl
      | true => have := m3 a z; omega
    refine ⟨by rw [vo r0 (fun z => a0 z.symm)]; exact h.1, fun r => Nat.le_trans rlx_le (h.2.1 r), fun r hr => ?_⟩
    by_cases ra : r = a
    · subst ra
      rw [va] at hr ⊢
      have hm : (V b + lnA A y G e) % 16 = V b % 16 + 1 := by rw [ln1]; omega
      refine ⟨⟨mb ||| 2 ^ r, ?_, ?_, fun x hx => ?_⟩, fun _ => ⟨e, b, he, ho, hab, ?_⟩, ?_, ?_⟩
      · exact Nat.or_lt_two_pow (n := 8) m1 (pop_1 r ha).2
      · rw [pop_or (by omega) am, m2, hm]
      · by_cases xr : x = r
        · rw [xr, va]; exact Nat.le_refl _
        · rw [vo x xr]
          have : mb.testBit x = true := by
            rw [Nat.testBit_or, Nat.testBit_two_pow] at hx
            have hxr : decide (r = x) = false := by simp; exact fun z => xr z.symm
            rw [hxr, Bool.or_false] at hx
            exact hx
          have := m3 x this
          omega
      · rw [vo b (fun z => hne z.symm)]; exact Nat.le_refl _
      · rw [hm]
        exact Nat.le_trans (bE_edge ho hab _ he) (by omega)
      · rw [hm]
        have : ckA A y G e ≤ 1188 := crk_le W
        omega
    · rw [vo r ra] at hr ⊢
      obtain ⟨⟨m, n1, n2, n3⟩, n4, n5⟩ := h.2.2 r hr
      refine ⟨⟨m, n1, n2, fun x hx => Nat.le_trans rlx_le (n3 x hx)⟩, fun rr => ?_, n5⟩
      obtain ⟨e', o, e1, e2, e3, e4⟩ := n4 rr
      exact ⟨e', o, e1, e2, e3, Nat.le_trans (Nat.add_le_add_right rlx_le _) e4⟩
  · have : rlx V a b (lnA A y G e) = V := by
      funext r
      unfold rlx
      split
      · rename_i z; subst z; omega
      · rfl
    rw [this]; exact h
theorem oth_a (A : TA) {e : Nat} : othA A e (A 2 e) = A 3 e + 1 := by unfold othA; rw [if_pos rfl]
theorem oth_b {A : TA} {e : Nat} (h : A 2 e ≠ A 3 e) : othA A e (A 3 e) = A 2 e + 1 := by unfold othA; rw [if_neg h, if_pos rfl]
theorem oth_cases {A : TA} {e r o : Nat} (h : othA A e r = o + 1) : (r = A 2 e ∧ o = A 3 e) ∨ (r = A 3 e ∧ o = A 2 e) := by
  unfold othA at h
  split at h
  · left; omega
  · split at h
    · right; omega
    · omega
theorem trn_le {V : Nat → Nat} {r : Nat} : ∀ m, trn A y G V m r ≤ V r
  | 0 => Nat.le_refl _
  | m + 1 => by
    have ih := trn_le (V := V) (r := r) m
    unfold trn
    split
    · exact Nat.le_trans rlx_le (Nat.le_trans rlx_le ih)
    · exact ih
theorem trn_mono {V : Nat → Nat} {r : Nat} {m : Nat} : trn A y G V (m + 1) r ≤ trn A y G V m r := by
  show (if opA A m then _ else _ : Nat → Nat) r ≤ _
  split
  · exact Nat.le_trans rlx_le rlx_le
  · exact Nat.le_refl _
theorem trn_edge {V : Nat → Nat} {r o e : Nat} (h1 : opA A e = true) (h2 : othA A e r = o + 1) : ∀ m, e < m → trn A y G V m r ≤ V o + lnA A y G e
  | 0, h => by omega
  | m + 1, h => by
    by_cases q : e = m
    · subst q
      have lo := trn_le (A := A) (y := y) (G := G) (V := V) (r := o) e
      show (if opA A e then _ else _ : Nat → Nat) r ≤ _
      rw [if_pos h1]
      rcases oth_cases h2 with ⟨rfl, rfl⟩ | ⟨rfl, rfl⟩
      · exact Nat.le_trans rlx_le (Nat.le_trans rlx_a (by omega))
      · refine Nat.le_trans rlx_a ?_
        have := rlx_le (V := trn A y G V e) (a := A 2 e) (b := A 3 e) (w := lnA A y G e) (r := A 2 e)
        omega
    · exact Nat.le_trans trn_mono (trn_edge h1 h2 m (by omega))
theorem Iv_trn {V : Nat → Nat} (W : Wf A) (h : Iv A y G r0 V) : ∀ m, m ≤ A 0 0 → Iv A y G r0 (trn A y G V m)
  | 0, _ => h
  | m + 1, hm => by
    have ih := Iv_trn W h m (by omega)
    obtain ⟨w1, w2, w3, -⟩ := W.2.2.1 m (by omega)
    show Iv A y G r0 (if opA A m then _ else _)
    split
    · rename_i q
      exact Iv_rlx W (Iv_rlx W ih (by omega) q (oth_a A) w1 w3) (by omega) q (oth_b w3) w2 (fun z => w3 z.symm)
    · exact ih
theorem Iv_vt (W : Wf A) (hr : r0 < 8) : ∀ k, Iv A y G r0 (vt A y G r0 k)
  | 0 => Iv_init hr
  | k + 1 => Iv_trn W (Iv_vt W hr k) _ (Nat.le_refl _)
theorem vt_bB (W : Wf A) : ∀ k r, vt A y G r0 k r ≤ bB A y G r0 k r
  | 0, r => Nat.le_refl _
  | k + 1, r => by
    show trn A y G (vt A y G r0 k) (A 0 0) r ≤ bE A y G (bB A y G r0 k) r (A 0 0)
    apply bE_ge
    · exact Nat.le_trans (trn_le _) (vt_bB W k r)
    · intro e o he h1 h2
      exact Nat.le_trans (trn_edge h1 h2 _ he) (Nat.add_le_add_right (vt_bB W k o) _)
theorem bB_vt (W : Wf A) (hr : r0 < 8) (k r : Nat) : bB A y G r0 7 r ≤ vt A y G r0 k r := by
  have I := Iv_vt (A := A) (y := y) (G := G) W hr k
  by_cases q : vt A y G r0 k r < 1048576
  · have m7 := I.m7 q
    have := (I.2.2 r q).2.2.1
    have a := bB_anti (A := A) (y := y) (G := G) (r0 := r0) (r := r) (k := vt A y G r0 k r % 16) (j := 7 - vt A y G r0 k r % 16)
    rw [Nat.add_sub_cancel' m7] at a
    omega
  · have a := bB_anti (A := A) (y := y) (G := G) (r0 := r0) (r := r) (k := 0) (j := 7)
    rw [Nat.zero_add] at a
    have : vi r0 r ≤ 1048576 := by unfold vi; split <;> omega
    have : bB A y G r0 0 r = vi r0 r := rfl
    omega
/-- the lengths -/
def vq (A : TA) (y : Int32) (G : List Nat) (r0 : Nat) : Nat → Nat := vt A y G r0 8
theorem vq_edge (W : Wf A) (hr : r0 < 8) {e r o : Nat} (he : e < A 0 0) (h1 : opA A e = true) (h2 : othA A e r = o + 1) : vq A y G r0 r ≤ vq A y G r0 o + lnA A y G e := by
  have t := trn_edge (A := A) (y := y) (G := G) (V := vt A y G r0 7) h1 h2 (A 0 0) he
  have e7 : vt A y G r0 7 o ≤ vq A y G r0 o := Nat.le_trans (vt_bB W 7 o) (bB_vt W hr 8 o)
  have : vq A y G r0 r = trn A y G (vt A y G r0 7) (A 0 0) r := rfl
  omega
theorem vq_tight (W : Wf A) (hr : r0 < 8) {r : Nat} (h : vq A y G r0 r < 1048576) (hne : r ≠ r0) : ∃ e o, e < A 0 0 ∧ opA A e = true ∧ othA A e r = o + 1 ∧ vq A y G r0 o + lnA A y G e = vq A y G r0 r := by
  obtain ⟨e, o, h1, h2, h3, h4⟩ := ((Iv_vt (A := A) (y := y) (G := G) W hr 8).2.2 r h).2.1 hne
  have h5 := vq_edge (y := y) (G := G) W hr h1 h2 h3
  have h4' : vq A y G r0 o + lnA A y G e ≤ vq A y G r0 r := h4
  exact ⟨e, o, h1, h2, h3, by omega⟩
/-- the first door of a kind -/
def fsN (p : Nat → Bool) : Nat → Nat
  | 0 => 0
  | e + 1 => if fsN p e < e then fsN p e else if p e then e else e + 1
theorem fsN_le (p : Nat → Bool) : ∀ m, fsN p m ≤ m ∧ ∀ i, i < fsN p m → p i = false
  | 0 => ⟨Nat.le_refl _, fun i hi => by simp [fsN] at hi⟩
  | m + 1 => by
    obtain ⟨h1, h2⟩ := fsN_le p m
    unfold fsN
    split
    · exact ⟨by omega, h2⟩
    · have e : fsN p m = m := by omega
      rw [e] at h2
      split
      · exact ⟨by omega, h2⟩
      · rename_i hp
        refine ⟨Nat.le_refl _, fun i hi => ?_⟩
        by_cases q : i = m
        · subst q; simpa using hp
        · exact h2 i (by omega)
theorem fsN_hit (p : Nat → Bool) : ∀ m, fsN p m < m → p (fsN p m) = true
  | 0, h => by omega
  | m + 1, h => by
    have ih := fsN_hit p m
    have hl := (fsN_le p m).1
    unfold fsN at h ⊢
    split
    · rename_i q; exact ih q
    · rename_i q
      rw [if_neg q] at h
      split
      · assumption
      · rename_i hp; rw [if_neg hp] at h; omega
theorem fsN_ex {p : Nat → Bool} {m e : Nat} (he : e < m) (hp : p e = true) : fsN p m < m ∧ p (fsN p m) = true := by
  have hl := fsN_le p m
  have : fsN p m < m := by
    by_cases q : fsN p m < m
    · exact q
    · have := hl.2 e (by omega); rw [hp] at this; cases this
  exact ⟨this, fsN_hit p m this⟩
def qp (A : TA) (y : Int32) (G : List Nat) (r0 r e : Nat) : Bool := opA A e && decide (othA A e r ≠ 0) && decide (vq A y G r0 (othA A e r - 1) + lnA A y G e = vq A y G r0 r)
def qD (A : TA) (y : Int32) (G : List Nat) (r0 r : Nat) : Nat := fsN (qp A y G r0 r) (A 0 0)
def qW (A : TA) (y : Int32) (G : List Nat) (r0 : Nat) : Nat → Nat → List Int64
  | 0, _ => []
  | n + 1, r => if r = r0 then [] else (nI (qD A y G r0 r)).toInt64 :: qW A y G r0 n (othA A (qD A y G r0 r) r - 1)
theorem qD_ok (W : Wf A) (hr : r0 < 8) {r : Nat} (h : vq A y G r0 r < 1048576) (hne : r ≠ r0) : qD A y G r0 r < A 0 0 ∧ opA A (qD A y G r0 r) = true ∧ ∃ o, othA A (qD A y G r0 r) r = o + 1 ∧ o < 8 ∧ vq A y G r0 o + lnA A y G (qD A y G r0 r) = vq A y G r0 r ∧ vq A y G r0 o % 16 + 1 = vq A y G r0 r % 16 := by
  obtain ⟨e, o, h1, h2, h3, h4⟩ := vq_tight (y := y) (G := G) W hr h hne
  have hp : qp A y G r0 r e = true := by
    unfold qp
    rw [h2, h3, Nat.add_sub_cancel]
    simp [h4]
  obtain ⟨a, b⟩ := fsN_ex h1 hp
  have a' : qD A y G r0 r < A 0 0 := a
  have b' : qp A y G r0 r (qD A y G r0 r) = true := b
  unfold qp at b'
  simp at b'
  obtain ⟨⟨c1, c2⟩, c3⟩ := b'
  obtain ⟨w1, w2, w3, -⟩ := W.2.2.1 _ a'
  have e1 : othA A (qD A y G r0 r) r = (othA A (qD A y G r0 r) r - 1) + 1 := by omega
  refine ⟨a', c1, othA A (qD A y G r0 r) r - 1, e1, ?_, c3, ?_⟩
  · rcases oth_cases e1 with ⟨-, z⟩ | ⟨-, z⟩ <;> omega
  · have m7 := (Iv_vt (A := A) (y := y) (G := G) W hr 8).m7 (r := othA A (qD A y G r0 r) r - 1) (by
      show vq A y G r0 _ < _
      omega)
    have m7' : vq A y G r0 (othA A (qD A y G r0 r) r - 1) % 16 ≤ 7 := m7
    have ln1 : lnA A y G (qD A y G r0 r) = 16 * ckA A y G (qD A y G r0 r) + 1 := by unfold lnA; omega
    rw [← c3, ln1]
    omega
end QU
