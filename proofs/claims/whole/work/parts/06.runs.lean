/-! Runs of the plain machine, with calls; and that the real machine follows them. -/
def hq_strs : List (String × Nat × String) := [("HingesOnHire", 118, "no such door"), ("HingesOnHire", 147, "nothing such of a door"), ("HingesOnHire", 152, "no such hinge"), ("HingesOnHire", 175, "nothing such of a hinge"), ("HingesOnHire", 409, "no such number of the row"), ("HingesOnHireModel", 103, "d"), ("HingesOnHireModel", 80, "01234567"), ("HingesOnHireModel", 82, "lr"), ("HingesOnHireModel", 84, "123456789"), ("HingesOnHireModel", 109, "h"), ("HingesOnHireModel", 95, "lrb"), ("HingesOnHireModel", 101, "0123456789"), ("HingesOnHireModel", 207, "rsowntidx"), ("HingesOnHireModel", 212, "<>="), ("HingesOnHireModel", 214, "+-"), ("HingesOnHireModel", 216, "*/"), ("HingesOnHireModel", 320, "hton")]
def hq_sr (j : Nat) : String × Nat × String := hq_strs.getD (j - 1000) ("", 0, "")
def hq_slen : List Nat := [12, 22, 13, 23, 25, 1, 8, 2, 9, 1, 3, 10, 9, 3, 2, 2, 4]
def hq_sbyt : List (List Int32) := [[110, 111, 32, 115, 117, 99, 104, 32, 100, 111, 111, 114], [110, 111, 116, 104, 105, 110, 103, 32, 115, 117, 99, 104, 32, 111, 102, 32, 97, 32, 100, 111, 111, 114], [110, 111, 32, 115, 117, 99, 104, 32, 104, 105, 110, 103, 101], [110, 111, 116, 104, 105, 110, 103, 32, 115, 117, 99, 104, 32, 111, 102, 32, 97, 32, 104, 105, 110, 103, 101], [110, 111, 32, 115, 117, 99, 104, 32, 110, 117, 109, 98, 101, 114, 32, 111, 102, 32, 116, 104, 101, 32, 114, 111, 119], [100], [48, 49, 50, 51, 52, 53, 54, 55], [108, 114], [49, 50, 51, 52, 53, 54, 55, 56, 57], [104], [108, 114, 98], [48, 49, 50, 51, 52, 53, 54, 55, 56, 57], [114, 115, 111, 119, 110, 116, 105, 100, 120], [60, 62, 61], [43, 45], [42, 47], [104, 116, 111, 110]]
/-- a method: its instructions; its locals; its arguments, the object among them; what it returns (0 nothing, 1 an int, 2 a long, 3 a boolean); 0 if it is static, else 1 + its object's number in vwCl -/
abbrev hq_MI : Type := List hq_E × Nat × Nat × Nat × Nat
def hq_sl : List Value → hq_L
  | [] => []
  | v :: r => if v.category = 2 then some v :: none :: hq_sl r else some v :: hq_sl r
def hq_init (as : List Value) (n : Nat) : hq_L := hq_sl as ++ List.replicate (n - (hq_sl as).length) none
def hq_call (pg : Nat → hq_MI) (ins : Instr) (x : Nat) (st : List Value) : Option (List Value × List Value) :=
  if x < 900 ∧ (pg x).2.2.1 ≤ st.length ∧ ((st.drop (pg x).2.2.1).map fun v => v.category).sum ≤ 8 ∧ (hq_sl (st.take (pg x).2.2.1).reverse).length ≤ (pg x).2.1 then
    match ins with
    | .invokestatic _ => if (pg x).2.2.2.2 = 0 then some ((st.take (pg x).2.2.1).reverse, st.drop (pg x).2.2.1) else none
    | .invokevirtual _ => match (st.take (pg x).2.2.1).reverse with
      | .ref c :: as => match hq_lay[c]? with
        | some (.inr (ci, _)) => if (pg x).2.2.2.2 = ci + 1 then some (.ref c :: as, st.drop (pg x).2.2.1) else none
        | _ => none
      | _ => none
    | _ => none
  else none
def hq_ret (M : hq_MI) (v : Option Value) (τ : hq_St) : Nat → hq_L → List Value → hq_St → Prop := fun i _ st σ => σ = τ ∧ ∃ e, M.1[i]? = some e ∧
  ((M.2.2.2.1 = 0 ∧ e.2.1 = .return_ ∧ st = [] ∧ v = none) ∨ (M.2.2.2.1 = 1 ∧ e.2.1 = .ireturn ∧ ∃ x, st = [.int x] ∧ v = some (.int x)) ∨ (M.2.2.2.1 = 2 ∧ e.2.1 = .lreturn ∧ ∃ x, st = [.long x] ∧ v = some (.long x)) ∨ (M.2.2.2.1 = 3 ∧ e.2.1 = .ireturn ∧ ∃ x, st = [.int x] ∧ v = some (.int x) ∧ (x = 0 ∨ x = 1)))
abbrev hq_F : Type := Nat → hq_L → List Value → hq_St → Prop
abbrev hq_PR : Type := Nat → List Value → hq_St → Option Value → hq_St → Prop
def hq_ev (pg : Nat → hq_MI) (pr : hq_PR) : Nat → Nat → List hq_E → hq_F → Nat → hq_L → List Value → hq_St → Prop
  | 0, _, _, F, i, L, st, σ => F i L st σ
  | n + 1, d, T, F, i, L, st, σ => F i L st σ ∨ (1 ≤ d ∧ ∃ r : hq_R, hq_step T i L st σ = some r ∧ hq_all r.2.2.2.2 ∧ hq_ev pg pr n d T F r.1 r.2.1 r.2.2.1 r.2.2.2.1) ∨
    ∃ (e : hq_E) (as rest : List Value) (v : Option Value) (τ : hq_St) (d' : Nat), T[i]? = some e ∧ hq_call pg e.2.1 e.2.2.1 st = some (as, rest) ∧ d = d' + 1 ∧
      ((pr e.2.2.1 as σ v τ ∧ 8 ≤ d') ∨ hq_ev pg pr n d' (pg e.2.2.1).1 (hq_ret (pg e.2.2.1) v τ) 0 (hq_init as (pg e.2.2.1).2.1) [] σ) ∧ hq_ev pg pr n d T F (i + 1) L (v.toList ++ rest) τ
theorem hq_ev_mono {pg : Nat → hq_MI} {pr : hq_PR} : ∀ (n : Nat) {d d2 : Nat} {T : List hq_E} {F G : hq_F} {i : Nat} {L : hq_L} {st : List Value} {σ : hq_St}, d ≤ d2 → (∀ i L st σ, F i L st σ → G i L st σ) → hq_ev pg pr n d T F i L st σ → hq_ev pg pr (n + 1) d2 T G i L st σ
  | 0, _, _, _, _, _, _, _, _, _, _, hF, h => Or.inl (hF _ _ _ _ h)
  | n + 1, _, _, _, _, _, _, _, _, _, hd, hF, h => by
    rcases h with h | ⟨h0, r, h1, h2, h3⟩ | ⟨e, as, rest, v, τ, d', h1, h2, h3, h4, h5⟩
    · exact Or.inl (hF _ _ _ _ h)
    · exact Or.inr (Or.inl ⟨Nat.le_trans h0 hd, r, h1, h2, hq_ev_mono n hd hF h3⟩)
    · refine Or.inr (Or.inr ⟨e, as, rest, v, τ, _, h1, h2, (Nat.sub_add_cancel (by omega)).symm, ?_, hq_ev_mono n hd hF h5⟩)
      rcases h4 with h4 | h4
      · exact Or.inl ⟨h4.1, by omega⟩
      · exact Or.inr (hq_ev_mono n (by omega) (fun _ _ _ _ h => h) h4)
theorem hq_ev_up {pg : Nat → hq_MI} {pr : hq_PR} {n k : Nat} {d : Nat} {T : List hq_E} {F : hq_F} {i : Nat} {L : hq_L} {st : List Value} {σ : hq_St} (h : hq_ev pg pr n d T F i L st σ) (hk : n ≤ k) : hq_ev pg pr k d T F i L st σ := by
  induction hk with
  | refl => exact h
  | step _ ih => exact hq_ev_mono _ (Nat.le_refl _) (fun _ _ _ _ h => h) ih
/-- the run comes to a place of F -/
def hq_go (pg : Nat → hq_MI) (pr : hq_PR) (d : Nat) (T : List hq_E) (F : hq_F) (i : Nat) (L : hq_L) (st : List Value) (σ : hq_St) : Prop := ∃ n, hq_ev pg pr n d T F i L st σ
/-- a method's run: arguments, state, answer, state behind it -/
def hq_run (pg : Nat → hq_MI) (pr : hq_PR) (d x : Nat) (as : List Value) (σ : hq_St) (v : Option Value) (τ : hq_St) : Prop := hq_go pg pr d (pg x).1 (hq_ret (pg x) v τ) 0 (hq_init as (pg x).2.1) [] σ
section HQ2
variable {pg : Nat → hq_MI} {pr : hq_PR} {d : Nat} {T : List hq_E} {F G : hq_F} {i : Nat} {L : hq_L} {st : List Value} {σ : hq_St}
theorem hq_go.done (h : F i L st σ) : hq_go pg pr d T F i L st σ := ⟨0, h⟩
theorem hq_go.step {r : hq_R} (h0 : 1 ≤ d) (h1 : hq_step T i L st σ = some r) (h2 : hq_all r.2.2.2.2) (h3 : hq_go pg pr d T F r.1 r.2.1 r.2.2.1 r.2.2.2.1) : hq_go pg pr d T F i L st σ := by
  obtain ⟨n, h⟩ := h3
  exact ⟨n + 1, Or.inr (Or.inl ⟨h0, r, h1, h2, h⟩)⟩
/-- k steps at once -/
def hq_steps (T : List hq_E) : Nat → Nat → hq_L → List Value → hq_St → List Prop → Option hq_R
  | 0, i, L, st, σ, ps => some (i, L, st, σ, ps)
  | k + 1, i, L, st, σ, ps => match hq_step T i L st σ with
    | some r => hq_steps T k r.1 r.2.1 r.2.2.1 r.2.2.2.1 (r.2.2.2.2 ++ ps)
    | none => none
theorem hq_all_app : ∀ {a b : List Prop}, hq_all (a ++ b) ↔ hq_all a ∧ hq_all b
  | [], b => by simp [hq_all]
  | p :: a, b => by
    have ih := hq_all_app (a := a) (b := b)
    show p ∧ hq_all (a ++ b) ↔ (p ∧ hq_all a) ∧ hq_all b
    rw [ih, and_assoc]
theorem hq_go.steps (h0 : 1 ≤ d) : ∀ (k : Nat) {i : Nat} {L : hq_L} {st : List Value} {σ : hq_St} {ps : List Prop} {r : hq_R}, hq_steps T k i L st σ ps = some r → hq_all r.2.2.2.2 → hq_go pg pr d T F r.1 r.2.1 r.2.2.1 r.2.2.2.1 → hq_go pg pr d T F i L st σ ∧ hq_all ps
  | 0, i, L, st, σ, ps, r, h1, h2, h3 => by
    cases h1; exact ⟨h3, h2⟩
  | k + 1, i, L, st, σ, ps, r, h1, h2, h3 => by
    unfold hq_steps at h1
    split at h1
    · rename_i q hq
      obtain ⟨a, b⟩ := hq_go.steps h0 k h1 h2 h3
      exact ⟨hq_go.step h0 hq (hq_all_app.mp b).1 a, (hq_all_app.mp b).2⟩
    · cases h1
theorem hq_go.run (h0 : 1 ≤ d) (k : Nat) {i' : Nat} {L' : hq_L} {st' : List Value} {σ' : hq_St} {ps : List Prop} (h1 : hq_steps T k i L st σ [] = some (i', L', st', σ', ps)) (h2 : hq_all ps) (h3 : hq_go pg pr d T F i' L' st' σ') : hq_go pg pr d T F i L st σ := (hq_go.steps h0 k h1 h2 h3).1
theorem hq_go.call {e : hq_E} {as rest : List Value} {v : Option Value} {τ : hq_St} (h1 : T[i]? = some e) (h2 : hq_call pg e.2.1 e.2.2.1 st = some (as, rest)) (h3 : hq_run pg pr d e.2.2.1 as σ v τ) (h4 : hq_go pg pr (d + 1) T F (i + 1) L (v.toList ++ rest) τ) : hq_go pg pr (d + 1) T F i L st σ := by
  obtain ⟨a, ha⟩ := h3
  obtain ⟨b, hb⟩ := h4
  exact ⟨max a b + 1, Or.inr (Or.inr ⟨e, as, rest, v, τ, d, h1, h2, rfl, Or.inr (hq_ev_up ha (Nat.le_max_left _ _)), hq_ev_up hb (Nat.le_max_right _ _)⟩)⟩
theorem hq_go.prim {e : hq_E} {as rest : List Value} {v : Option Value} {τ : hq_St} (h1 : T[i]? = some e) (h2 : hq_call pg e.2.1 e.2.2.1 st = some (as, rest)) (h3 : pr e.2.2.1 as σ v τ) (h5 : 8 ≤ d) (h4 : hq_go pg pr (d + 1) T F (i + 1) L (v.toList ++ rest) τ) : hq_go pg pr (d + 1) T F i L st σ := by
  obtain ⟨b, hb⟩ := h4
  exact ⟨b + 1, Or.inr (Or.inr ⟨e, as, rest, v, τ, d, h1, h2, rfl, Or.inl ⟨h3, h5⟩, hb⟩)⟩
theorem hq_ev_then : ∀ (n : Nat) {d : Nat} {T : List hq_E} {F G : hq_F} {i : Nat} {L : hq_L} {st : List Value} {σ : hq_St}, hq_ev pg pr n d T F i L st σ → (∀ i L st σ, F i L st σ → hq_go pg pr d T G i L st σ) → hq_go pg pr d T G i L st σ
  | 0, _, _, _, _, _, _, _, _, h, hF => hF _ _ _ _ h
  | n + 1, d, _, _, _, _, _, _, _, h, hF => by
    rcases h with h | ⟨h0, r, h1, h2, h3⟩ | ⟨e, as, rest, v, τ, d', h1, h2, h3, h4, h5⟩
    · exact hF _ _ _ _ h
    · exact hq_go.step h0 h1 h2 (hq_ev_then n h3 hF)
    · subst h3
      have h6 := hq_ev_then n h5 hF
      rcases h4 with h4 | h4
      · exact hq_go.prim h1 h2 h4.1 h4.2 h6
      · exact hq_go.call h1 h2 ⟨n, h4⟩ h6
/-- one run behind another -/
theorem hq_go.then (h : hq_go pg pr d T F i L st σ) (hF : ∀ i L st σ, F i L st σ → hq_go pg pr d T G i L st σ) : hq_go pg pr d T G i L st σ := by
  obtain ⟨n, h⟩ := h
  exact hq_ev_then n h hF
theorem hq_go.deep {d2 : Nat} (hd : d ≤ d2) (h : hq_go pg pr d T F i L st σ) : hq_go pg pr d2 T F i L st σ := by
  obtain ⟨n, h⟩ := h
  exact ⟨n + 1, hq_ev_mono n hd (fun _ _ _ _ h => h) h⟩
theorem hq_run.deep {d2 x : Nat} {as : List Value} {v : Option Value} {τ : hq_St} (hd : d ≤ d2) (h : hq_run pg pr d x as σ v τ) : hq_run pg pr d2 x as σ v τ := hq_go.deep hd h
theorem hq_go.br {c : Prop} {ic : Decidable c} {a b : Nat} (h1 : c → hq_go pg pr d T F a L st σ) (h2 : ¬ c → hq_go pg pr d T F b L st σ) : hq_go pg pr d T F (cond (@decide c ic) a b) L st σ := by
  by_cases h : c
  · rw [decide_eq_true h]; exact h1 h
  · rw [decide_eq_false h]; exact h2 h
end HQ2
theorem hq_sl_len (ad : Nat → Nat) : ∀ as : List Value, (lg_sl (as.map (hq_vm ad))).length = (hq_sl as).length
  | [] => rfl
  | v :: r => by
    have ih := hq_sl_len ad r
    unfold lg_sl at ih ⊢
    rw [List.map_cons, List.flatMap_cons, List.length_append, ih]
    show _ = (if v.category = 2 then some v :: none :: hq_sl r else some v :: hq_sl r).length
    rw [hq_vm_cat]
    split <;> simp <;> omega
theorem hq_init_len {as : List Value} {n : Nat} (h : (hq_sl as).length ≤ n) : (hq_init as n).length = n := by simp [hq_init]; omega
theorem hq_lv_sl (ad : Nat → Nat) : ∀ (as : List Value) (k i : Nat) (v : Value), (hq_sl as)[i]? = some (some v) → (k + i, hq_vm ad v) ∈ lv_args k (as.map (hq_vm ad))
  | [], k, i, v, h => by simp [hq_sl] at h
  | w :: r, k, i, v, h => by
    unfold hq_sl at h
    unfold lv_args
    rw [List.map_cons]
    dsimp only
    rw [hq_vm_cat]
    split at h
    · rename_i hc
      rw [if_pos hc]
      match i, h with
      | 0, h => cases h; exact List.mem_cons_self
      | 1, h => cases h
      | j + 2, h =>
        have h : (hq_sl r)[j]? = some (some v) := h
        have := hq_lv_sl ad r (k + 2) j v h
        exact List.mem_cons_of_mem _ (by rw [show k + (j + 2) = k + 2 + j by omega]; exact this)
    · rename_i hc
      rw [if_neg hc]
      match i, h with
      | 0, h => cases h; exact List.mem_cons_self
      | j + 1, h =>
        have h : (hq_sl r)[j]? = some (some v) := h
        have := hq_lv_sl ad r (k + 1) j v h
        exact List.mem_cons_of_mem _ (by rw [show k + (j + 1) = k + 1 + j by omega]; exact this)
theorem hq_lv_init {ad : Nat → Nat} {as : List Value} {n : Nat} : ∀ q ∈ hq_lv ad (hq_init as n), q ∈ lv_args 0 (as.map (hq_vm ad)) := by
  rintro ⟨i, w⟩ hq
  obtain ⟨v, h, rfl⟩ := hq_lv_mem.mp hq
  unfold hq_init at h
  rw [List.getElem?_append] at h
  split at h
  · have := hq_lv_sl ad as 0 i v h
    rwa [Nat.zero_add] at this
  · rw [List.getElem?_replicate] at h
    split at h <;> cases h
def hq_A (ad : Nat → Nat) : Nat → Prop := fun q => ∃ i, i < hq_n ∧ q = ad i
def hq_rm (d : Nat) : Room := { frames := d, cells := 0, slots := 0, locals := 64 * d }
/-- the two statics of the JDK that String's own methods read -/
def hq_sx (A : Nat → Prop) (U : State) (H : Heap) : Prop := va_Z "java/lang/String" "COMPACT_STRINGS" "Z" (.int 1) A U H ∧ va_Zq "jdk/internal/util/Preconditions" "SIOOBE_FORMATTER" "Ljava/util/function/BiFunction;" A U H
theorem hq_sx.moved {A : Nat → Prop} {u U : State} {H : Heap} (hvm : u.vm.Alike U.vm) (h : hq_sx A u H) : hq_sx A U H := ⟨va_Z.moved hvm h.1, va_Zq.moved hvm h.2⟩
theorem hq_sx.kept {A : Nat → Prop} {U : State} {H H1 : Heap} (h : hq_sx A U H) (hq : ∀ a : Nat, a < H.size → ¬ A a → H1[a]? = H[a]?) : hq_sx A U H1 := ⟨va_Z.kept h.1 hq, va_Zq.kept h.2 hq⟩
theorem hq_sx.narrow {A B : Nat → Prop} {U : State} {H : Heap} (h : hq_sx A U H) (hAB : ∀ q, B q → A q) : hq_sx B U H := ⟨va_Z.narrow h.1 hAB, va_Zq.narrow h.2 hAB⟩
def hq_str (ad av : Nat → Nat) (A : Nat → Prop) (U : State) (H : Heap) : Prop := (∀ j, 1000 ≤ j → j < 1017 → vk_R (hq_sr j).1 (hq_sr j).2.1 (hq_sr j).2.2 (ad j) U) ∧ vk_S 17 hq_slen hq_sbyt (fun i => ad (1000 + i)) av A U H ∧ hq_sx A U H
def hq_pre (D : va_G) (cy : hq_C3) (ad av : Nat → Nat) (as : List Value) (σ : hq_St) : Array Value → State → Prop := fun a U => a = (as.map (hq_vm ad)).toArray ∧ va_P D vwCl (hq_ws cy ad σ) U.heap ∧ va_K D vwCl (hq_tys cy) U ∧ hq_str ad av (hq_A ad) U U.heap
def hq_post (D : va_G) (cy : hq_C3) (ad : Nat → Nat) (v : Option Value) (τ : hq_St) : Array Value → State → Outcome → State → Prop := fun _ st oc t => oc = .returned (v.map (hq_vm ad)) ∧ va_P D vwCl (hq_ws cy ad τ) t.heap ∧ va_F (hq_A ad) st t
theorem hq_pre_blind {D : va_G} {cy : hq_C3} {ad av : Nat → Nat} {as : List Value} {σ : hq_St} : FrameBlind (hq_pre D cy ad av as σ) := by
  intro a U g mk h
  obtain ⟨h1, h2, h3, h4, h5⟩ := h
  exact ⟨h1, h2, va_K.moved (u := U) (U := U.calling g mk a) (Vm.Alike.refl U.vm) h3, fun j a1 a2 => vk_R.same (u := U) (U := U.calling g mk a) rfl (h4 j a1 a2), vk_S.moved (u := U) (U := U.calling g mk a) (Vm.Alike.refl U.vm) h5.1, hq_sx.moved (u := U) (U := U.calling g mk a) (Vm.Alike.refl U.vm) h5.2⟩
section HQ3
variable {p : Program} {l : Launch} {e : Env} {R : Room} {s : State} {m : MethodId} {args : Array Value} {below : List Frame} {meth : Method} {c : Code} {H : Heap} {locs : List Loc} {cells slots : Nat} {Q : State → Prop}
variable {pc : Nat} {ls : Array Slot} {rest st0 : List Value} {a : Array Value} {A0 : Nat → Prop} {H0 : Heap} {D : va_G} {cy : hq_C3} {ad : Nat → Nat} {v : Option Value} {τ : hq_St}
theorem hq_callk (hr : va_Run p l e R s m args below meth c H locs cells slots 0 0 (F0 m pc ls st0) rest (hq_post D cy ad v τ a) (hq_A ad)) (hS : va_S A0 H0 H locs) (hA : ∀ i, i < hq_n → A0 (ad i))
    (kk : ∀ (H1 : Heap) (locs1 : List Loc), va_P D vwCl (hq_ws cy ad τ) H1 → va_S A0 H0 H1 locs1 → W p l e R s m args below meth c H1 locs1 cells slots Q (F0 m (pc + 3) ls ((v.map (hq_vm ad)).toList ++ rest))) : W p l e R s m args below meth c H locs cells slots Q (F0 m pc ls st0) := by
  intro T hT X
  obtain ⟨w, st₀, t, T', L, h0, X', hL, e1, e2, ⟨hv, hp, hz, hk⟩, st⟩ := hr T hT X
  cases hv
  rw [h0] at hz hk
  have hsub : ∀ q, hq_A ad q → A0 q := fun q ⟨i, h1, h2⟩ => by rw [h2]; exact hA i h1
  obtain ⟨t2, a1, b1⟩ := kk T'.heap (locs ++ L) (by rw [e1]; exact hp)
    ⟨Nat.le_trans hS.1 (by rw [e1]; exact hz), fun q h1 h2 => by rw [e1, hk q (Nat.lt_of_lt_of_le h1 hS.1) (fun z => h2 (hsub q z))]; exact hS.2.1 q h1 h2, fun q hq => by
      rcases List.mem_append.mp hq with h | h
      · exact hS.2.2 q h
      · exact hsub _ (hL q h)⟩ T' rfl X'
  exact ⟨t2, st t2 a1, b1⟩
end HQ3
/-- what the tables say of a method -/
def hq_mok (pg : Nat → hq_MI) (pj : Nat → MethodName) (pb : Nat → ByteArray) (pt : Nat → Option FieldType) (x : Nat) : Prop :=
  Cond.code (pj x) (pb x) (pg x).2.1 (pt x) ∈ hq_tbl ∧ Cond.initialized (pj x).cls ∈ hq_tbl ∧ plainName (pj x).cls = true ∧ ((pj x).cls ≠ "java/lang/invoke/MethodHandle" ∧ (pj x).cls ≠ "java/lang/invoke/VarHandle") ∧ (pg x).2.1 ≤ 45 ∧
  ((pg x).2.2.2.2 = 0 → Cond.static (pj x) ∈ hq_tbl ∧ (parseMethodDescriptor (pj x).desc).map (fun d => d.parameters.length) = some (pg x).2.2.1) ∧
  (∀ k, (pg x).2.2.2.2 = k + 1 → Cond.instanceMethod (pj x) ∈ hq_tbl ∧ Cond.selects (pj x).cls (pj x) (pj x) ∈ hq_tbl ∧ (∃ q, vwCl[k]? = some q ∧ q.1 = (pj x).cls) ∧ (parseMethodDescriptor (pj x).desc).map (fun d => d.parameters.length + 1) = some (pg x).2.2.1) ∧
  ((pg x).2.2.2.1 = 0 → pt x = none) ∧ ((pg x).2.2.2.1 = 1 → pt x = some .int) ∧ ((pg x).2.2.2.1 = 2 → pt x = some .long) ∧ ((pg x).2.2.2.1 = 3 → pt x = some .boolean)
def hq_tokx (pg : Nat → hq_MI) (pj : Nat → MethodName) (pb : Nat → ByteArray) (x : Nat) : Prop := hq_tok pj hq_sr (pg x).1 (pb x) (pj x).cls ∧ hq_pc (pg x).1 0 = 0
abbrev hq_MetX (l : Launch) (pg : Nat → hq_MI) (pj : Nat → MethodName) (pb : Nat → ByteArray) (pt : Nat → Option FieldType) (D : va_G) (cy : hq_C3) (ad av : Nat → Nat) (d x : Nat) (as : List Value) (σ : hq_St) (v : Option Value) (τ : hq_St) : Prop :=
  Met l (pj x) (Cond.code (pj x) (pb x) (pg x).2.1 (pt x) :: hq_tbl) (hq_rm d) (hq_pre D cy ad av as σ) (hq_post D cy ad v τ) 0 0 (hq_A ad)
theorem hq_sl_le {pg : Nat → hq_MI} {ins : Instr} {x : Nat} {st as rest : List Value} (h : hq_call pg ins x st = some (as, rest)) : (hq_sl as).length ≤ (pg x).2.1 ∧ as = (st.take (pg x).2.2.1).reverse ∧ rest = st.drop (pg x).2.2.1 ∧ (pg x).2.2.1 ≤ st.length ∧ (rest.map fun v => v.category).sum ≤ 8 := by
  unfold hq_call at h
  split at h
  · rename_i hc0
    have hc := hc0.2
    split at h
    · split at h
      · cases h; exact ⟨hc.2.2, rfl, rfl, hc.1, hc.2.1⟩
      · cases h
    · split at h
      · rename_i he
        split at h
        · split at h
          · cases h; rw [he] at hc; exact ⟨hc.2.2, he.symm, rfl, hc.1, hc.2.1⟩
          · cases h
        · cases h
      · cases h
    · cases h
  · cases h
theorem hq_call_lt {pg : Nat → hq_MI} {ins : Instr} {x : Nat} {st as rest : List Value} (h : hq_call pg ins x st = some (as, rest)) : x < 900 := by
  unfold hq_call at h
  split at h
  · rename_i hc; exact hc.1
  · cases h
theorem hq_call_s {pg : Nat → hq_MI} {k x : Nat} {st as rest : List Value} (h : hq_call pg (.invokestatic k) x st = some (as, rest)) : (pg x).2.2.2.2 = 0 := by
  unfold hq_call at h
  split at h
  · dsimp only at h
    split at h
    · assumption
    · cases h
  · cases h
theorem hq_call_v {pg : Nat → hq_MI} {k x : Nat} {st as rest : List Value} (h : hq_call pg (.invokevirtual k) x st = some (as, rest)) : ∃ c as' ci fs, as = .ref c :: as' ∧ hq_lay[c]? = some (.inr (ci, fs)) ∧ (pg x).2.2.2.2 = ci + 1 := by
  unfold hq_call at h
  split at h
  · dsimp only at h
    split at h
    · split at h
      · rename_i hl
        split at h
        · rename_i hk; cases h; exact ⟨_, _, _, _, rfl, hl, hk⟩
        · cases h
      · cases h
    · cases h
  · cases h
theorem hq_call_i {pg : Nat → hq_MI} {ins : Instr} {x : Nat} {st as rest : List Value} (h : hq_call pg ins x st = some (as, rest)) : (∃ k, ins = .invokestatic k) ∨ ∃ k, ins = .invokevirtual k := by
  unfold hq_call at h
  split at h
  · split at h
    · exact Or.inl ⟨_, rfl⟩
    · exact Or.inr ⟨_, rfl⟩
    · cases h
  · cases h
theorem hq_goodx {pg : Nat → hq_MI} {pj : Nat → MethodName} {pb : Nat → ByteArray} {pt : Nat → Option FieldType} {x : Nat} {Ts : List Cond} (h : hq_mok pg pj pb pt x) (hin : ∀ w ∈ hq_tbl, w ∈ Ts) : GoodIn Ts (Cond.code (pj x) (pb x) (pg x).2.1 (pt x) :: hq_tbl) := by
  intro w hw
  have h1 : w ∈ hq_tbl := by
    rcases List.mem_cons.mp hw with rfl | h2
    · exact h.1
    · exact h2
  exact ⟨hin w h1, (hq_good w h1).2⟩
set_option maxHeartbeats 4000000 in
theorem hq_snd {pg : Nat → hq_MI} {pr : hq_PR} {pj : Nat → MethodName} {pb : Nat → ByteArray} {pt : Nat → Option FieldType} (hM : ∀ x, x < 900 → hq_mok pg pj pb pt x) (hT : ∀ x, x < 900 → hq_tokx pg pj pb x) (hpm : hq_pm pj) {l : Launch}
    (hPr : ∀ (x : Nat) (as : List Value) (σ : hq_St) (v : Option Value) (τ : hq_St), pr x as σ v τ → ∀ (D : va_G) (cy : hq_C3) (ad av : Nat → Nat) (d : Nat), (∀ i j, i < hq_n → j < hq_n → ad i = ad j → i = j) → 8 ≤ d → hq_MetX l pg pj pb pt D cy ad av d x as σ v τ) :
    ∀ (n : Nat) {d : Nat} {T : List hq_E} {F : hq_F} {i : Nat} {L : hq_L} {st : List Value} {σ : hq_St} (_ : hq_ev pg pr n d T F i L st σ)
      {p : Program} {e : Env} {R : Room} {s : State} {m : MethodId} {args : Array Value} {below : List Frame} {meth : Method} {c : Code} {H : Heap} {locs : List Loc} {cells slots : Nat} {Q : State → Prop}
      {D : va_G} {cy : hq_C3} {A : Nat → Prop} {ad av : Nat → Nat} {Ts : List Cond} {cc : ByteArray} {own : String} {nL : Nat} {ls : Array Slot}
      (_ : hq_ctx p s m args c D cy A ad Ts pj hq_sr T cc own) (_ : c.maxLocals = nL) (_ : d ≤ R.frames ∧ 64 * d ≤ R.locals ∧ cells ≤ R.cells ∧ slots ≤ R.slots) (_ : hq_str ad av A s s.heap)
      (_ : hq_now D cy ad A s.heap H locs ls nL L σ)
      (_ : ∀ (i' : Nat) (L' : hq_L) (st' : List Value) (σ' : hq_St) (H' : Heap) (locs' : List Loc) (ls' : Array Slot), F i' L' st' σ' → hq_now D cy ad A s.heap H' locs' ls' nL L' σ' → W p l e R s m args below meth c H' locs' cells slots Q (F0 m (hq_pc T i') ls' (st'.map (hq_vm ad)))),
      W p l e R s m args below meth c H locs cells slots Q (F0 m (hq_pc T i) ls (st.map (hq_vm ad))) := by
  intro n
  induction n with
  | zero =>
    intro d T F i L st σ hev p e R s m args below meth c H locs cells slots Q D cy A ad av Ts cc own nL ls C hml hR hstr hI kk
    exact kk i L st σ H locs ls hev hI
  | succ n ih =>
    have met : ∀ {x d : Nat} {as : List Value} {σ : hq_St} {v : Option Value} {τ : hq_St}, x < 900 → (hq_sl as).length ≤ (pg x).2.1 → hq_ev pg pr n d (pg x).1 (hq_ret (pg x) v τ) 0 (hq_init as (pg x).2.1) [] σ → ∀ (D : va_G) (cy : hq_C3) (ad av : Nat → Nat), (∀ i j, i < hq_n → j < hq_n → ad i = ad j → i = j) → hq_MetX l pg pj pb pt D cy ad av d x as σ v τ := by
      intro x d as σ v τ hx9 hlen hev D cy ad av hinj
      obtain ⟨m1, m2, m3, m4, m5, m6, m7, r0, r1, r2, r3⟩ := hM x hx9
      refine Met.ofW (cc := pb x) (maxL := (pg x).2.1) (ret := pt x) m3 rfl ?_
      intro p e s m args below meth c s₁ B hml hv
      obtain ⟨rfl, hP, hK, hstr⟩ := hv
      have hx := B.exec
      have hb := B.bytes
      have hr := B.returns
      have hts := atoms_spec (ws := Cond.code (pj x) (pb x) (pg x).2.1 (pt x) :: hq_tbl) B.pre
      have hown : s.vm.findClass (pj x).cls = some m.cls := findClass_of_methodNamed B.named
      have hlocks := B.notSynchronized
      rw [lg_entry_eq]
      have hl := lv_entry (as.map (hq_vm ad)) (n := (pg x).2.1) (by rw [hq_sl_len]; exact hlen)
      generalize (lg_sl (as.map (hq_vm ad)) ++ List.replicate ((pg x).2.1 - (lg_sl (as.map (hq_vm ad))).length) Slot.unset).toArray = ls at hl ⊢
      have h0 : hq_pc (pg x).1 0 = 0 := (hT x hx9).2
      have key := ih hev (p := p) (e := e) (R := (headSpec (Cond.code (pj x) (pb x) (pg x).2.1 (pt x) :: hq_tbl) (hq_rm d)).room) (s := s) (m := m) (args := (as.map (hq_vm ad)).toArray) (below := below) (meth := meth) (c := c) (H := s.heap) (locs := []) (cells := 0) (slots := 0)
        (Q := MQ below (hq_post D cy ad v τ) (as.map (hq_vm ad)).toArray s 0 0 (hq_A ad)) (D := D) (cy := cy) (A := hq_A ad) (ad := ad) (av := av) (Ts := Cond.code (pj x) (pb x) (pg x).2.1 (pt x) :: hq_tbl) (cc := pb x) (own := (pj x).cls) (nL := (pg x).2.1) (ls := ls)
        ⟨hx, hb, hown, hts, fun w hw => List.mem_cons_of_mem _ hw, hK, hinj, fun i hi => ⟨i, hi, rfl⟩, (hT x hx9).1, hstr.1⟩ hml ⟨Nat.le_refl _, Nat.le_refl _, Nat.le_refl _, Nat.le_refl _⟩ hstr ⟨hP, va_S.rf, hq_has_mono hl hq_lv_init, hq_init_len hlen⟩ ?_
      · rw [h0] at key
        exact key
      · intro i' L' st' σ' H' locs' ls' hF hI
        obtain ⟨rfl, e0, he, hF⟩ := hF
        obtain ⟨hP', hS', hl', -⟩ := hI
        have hk := (hT x hx9).1 i' e0 he
        unfold hq_eokb at hk
        rw [Bool.and_eq_true, decide_eq_true_eq] at hk
        have hd := hk.1
        rw [hq_pc_at he]
        rcases hF with ⟨a1, a2, rfl, rfl⟩ | ⟨a1, a2, w, rfl, rfl⟩ | ⟨a1, a2, w, rfl, rfl⟩ | ⟨a1, a2, w, rfl, rfl, hw⟩
        · rw [a2] at hd
          exact W.vret hx hb (hr.trans (r0 a1)) (fun t ht hW => ⟨rfl, by rw [ht]; exact hP', hS'.F ht⟩) hS'.2.2 hd
        · rw [a2] at hd
          exact W.iret (v := w) hx hb (hr.trans (r1 a1)) (fun t ht hW => ⟨rfl, by rw [ht]; exact hP', hS'.F ht⟩) hS'.2.2 hd
        · rw [a2] at hd
          exact W.lret (v := w) hx hb (hr.trans (r2 a1)) (fun t ht hW => ⟨rfl, by rw [ht]; exact hP', hS'.F ht⟩) hS'.2.2 hd
        · rw [a2] at hd
          exact W.zret (v := w) hx hb (hr.trans (r3 a1)) (by rcases hw with rfl | rfl <;> rfl) (fun t ht hW => ⟨rfl, by rw [ht]; exact hP', hS'.F ht⟩) hS'.2.2 hd
    intro d T F i L st σ hev p e R s m args below meth c H locs cells slots Q D cy A ad av Ts cc own nL ls C hml hR hstr hI kk
    rcases hev with h | ⟨h0, r, h1, h2, h3⟩ | ⟨e0, as, rest, v, τ, d', h1, h2, rfl, h4, h5⟩
    · exact kk i L st σ H locs ls h hI
    · exact hq_follow C hpm hml ⟨by omega, by omega, hR.2.2.1, hR.2.2.2⟩ hI h1 h2 (fun H' locs' ls' hI' => ih h3 C hml hR hstr hI' kk)
    · have hm : hq_MetX l pg pj pb pt D cy ad av d' e0.2.2.1 as σ v τ := by
        rcases h4 with h4 | h4
        · exact hPr _ _ _ _ _ h4.1 D cy ad av d' C.2.2.2.2.2.2.1 h4.2
        · exact met (hq_call_lt h2) (hq_sl_le h2).1 h4 D cy ad av C.2.2.2.2.2.2.1
      obtain ⟨pc, ins, x, y, ts⟩ := e0
      dsimp only at h2 h4 hm
      obtain ⟨q1, q2, q3, q4, q5⟩ := hq_sl_le h2
      have C2 := C
      obtain ⟨hx, hb, hown, hts, hin, hK, hinj, hA, htok, hst9⟩ := C
      obtain ⟨hP, hS, hl, hLn⟩ := hI
      have hx9 := hq_call_lt h2
      obtain ⟨m1, m2, m3, m4, m5, m6, m7, -⟩ := hM x hx9
      have hk := htok i _ h1
      unfold hq_eokb at hk
      rw [Bool.and_eq_true, decide_eq_true_eq] at hk
      obtain ⟨hd, hk⟩ := hk
      have hsub : ∀ q, hq_A ad q → A q := fun q ⟨i, h1, h2⟩ => by rw [h2]; exact hA i h1
      have hpre : ∀ U : State, U.heap = H → s.WarmedH U.vm → hq_pre D cy ad av as σ (as.map (hq_vm ad)).toArray U := fun U hU hW => ⟨rfl, by rw [hU]; exact hP, va_K.moved hW.alike hK, fun j a1 a2 => vk_R.warm hW (hstr.1 j a1 a2), by rw [hU]; exact ⟨vk_S.moved hW.alike ((hstr.2.1.kept hS.2.1).narrow hsub), hq_sx.moved hW.alike ((hstr.2.2.kept hS.2.1).narrow hsub)⟩⟩
      have hroom : (hq_rm d').frames + 1 ≤ R.frames ∧ 8 + ((pg x).2.1 + 11) + (hq_rm d').locals ≤ R.locals := by
        refine ⟨hR.1, ?_⟩
        show 8 + ((pg x).2.1 + 11) + 64 * d' ≤ R.locals
        omega
      have hsize : (F0 m pc ls (st.map (hq_vm ad))).locals.size = nL := hl.1
      have hcat : 2 * (F0 m pc ls (st.map (hq_vm ad))).monitorRoom + ((rest.map (hq_vm ad)).map fun v => v.category).sum ≤ 8 := by
        have e9 : ((rest.map (hq_vm ad)).map fun v => v.category) = rest.map fun v => v.category := by
          rw [List.map_map]
          exact List.map_congr_left (fun v _ => hq_vm_cat ad v)
        rw [e9]
        show 2 * 0 + _ ≤ 8
        omega
      have hstk : st.map (hq_vm ad) = (as.map (hq_vm ad)).reverse ++ rest.map (hq_vm ad) := by
        rw [q2, q3, ← List.map_reverse, List.reverse_reverse, ← List.map_append, List.take_append_drop]
      have hfit : cells + 0 ≤ R.cells ∧ slots + 0 ≤ R.slots := hR.2.2
      rw [hq_pc_at h1]
      dsimp only
      have fin : ∀ (H1 : Heap) (locs1 : List Loc), hq_pc T (i + 1) = pc + 3 → va_P D vwCl (hq_ws cy ad τ) H1 → va_S A s.heap H1 locs1 → W p l e R s m args below meth c H1 locs1 cells slots Q (F0 m (pc + 3) ls ((v.map (hq_vm ad)).toList ++ rest.map (hq_vm ad))) := by
        intro H1 locs1 hn hP1 hS1
        have := ih h5 C2 hml hR hstr (H := H1) (locs := locs1) (ls := ls) ⟨hP1, hS1, hl, hLn⟩ kk
        rw [hn] at this
        have e8 : (v.toList ++ rest).map (hq_vm ad) = (v.map (hq_vm ad)).toList ++ rest.map (hq_vm ad) := by
          rw [List.map_append]; cases v <;> rfl
        rw [e8] at this
        exact this
      rcases hq_call_i h2 with ⟨k, rfl⟩ | ⟨k, rfl⟩
      · have hz := hq_call_s h2
        obtain ⟨z1, z2⟩ := m6 hz
        have hk : hq_pc T (i + 1) = pc + 3 ∧ hq_w ts = some (Cond.methodLink own k (pj x)) := by
          rw [Bool.and_eq_true, decide_eq_true_eq, decide_eq_true_eq] at hk; exact hk
        have hn9 : (as.map (hq_vm ad)).length = (pg x).2.2.1 := by rw [List.length_map, q2, List.length_reverse, List.length_take]; omega
        exact hq_callk (va_runS (As := as.map (hq_vm ad)) (rest := rest.map (hq_vm ad)) (g := F0 m pc ls (st.map (hq_vm ad))) ⟨hx, hb, hml, hown, hts⟩ hm ⟨callB_of (pg x).2.2.1 hts (hq_goodx (hM x hx9) hin) rfl rfl rfl (hts _ (hin _ m2)) (hts _ (hin _ (hq_w_in hk.2 rfl))) ⟨m4.1, m4.2, z2⟩ hroom, hts _ (hin _ z1)⟩ ⟨hq_pre_blind, hpre⟩ rfl hn9 hsize hstk hcat hd hfit) hS hA (fun H1 locs1 hP1 hS1 => fin H1 locs1 hk.1 hP1 hS1)
      · obtain ⟨c0, as', ci, fs, rfl, hlay, hz⟩ := hq_call_v h2
        obtain ⟨z1, z2, ⟨q, hq, hq1⟩, z3⟩ := m7 ci hz
        have hk : hq_pc T (i + 1) = pc + 3 ∧ hq_w ts = some (Cond.methodLink own k (pj x)) := by
          rw [Bool.and_eq_true, decide_eq_true_eq, decide_eq_true_eq] at hk; exact hk
        have hn8 : (Value.ref c0 :: as').length = (pg x).2.2.1 := by rw [q2, List.length_reverse, List.length_take]; omega
        have z4 : (parseMethodDescriptor (pj x).desc).map (fun d => d.parameters.length) = some as'.length := by
          cases hdd : parseMethodDescriptor (pj x).desc with
          | none => rw [hdd] at z3; cases z3
          | some dd =>
            rw [hdd] at z3
            have := Option.some.inj z3
            dsimp only at this
            simp only [Option.map_some, Option.some.injEq]
            simp only [List.length_cons] at hn8
            omega
        have hrec := va_recv hK hP hq (hq_cellO hlay)
        rw [hq1] at hrec
        have hn9 : (as'.map (hq_vm ad)).length = as'.length := List.length_map _
        have hstk2 : st.map (hq_vm ad) = (as'.map (hq_vm ad)).reverse ++ Value.ref (ad c0) :: rest.map (hq_vm ad) := by
          rw [hstk]
          show (hq_vm ad (.ref c0) :: as'.map (hq_vm ad)).reverse ++ _ = _
          rw [List.reverse_cons, List.append_assoc]; rfl
        exact hq_callk (va_runV (b := ad c0) (As := as'.map (hq_vm ad)) (rest := rest.map (hq_vm ad)) (g := F0 m pc ls (st.map (hq_vm ad))) (C := (pj x).cls) ⟨hx, hb, hml, hown, hts⟩ hm ⟨callB_of as'.length hts (hq_goodx (hM x hx9) hin) rfl rfl rfl (hts _ (hin _ m2)) (hts _ (hin _ (hq_w_in hk.2 rfl))) ⟨m4.1, m4.2, z4⟩ hroom, hts _ (hin _ z1), hts _ (hin _ z2)⟩ ⟨hq_pre_blind, hrec, hpre⟩ rfl hn9 hsize hstk2 hcat hd hfit) hS hA (fun H1 locs1 hP1 hS1 => fin H1 locs1 hk.1 hP1 hS1)

