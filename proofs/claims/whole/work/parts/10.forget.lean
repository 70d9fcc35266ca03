/-! Locals that are known may be forgotten; counted loops. -/
def hq_le : hq_L → hq_L → Prop
  | [], [] => True
  | a :: r, b :: q => (a = none ∨ a = b) ∧ hq_le r q
  | _, _ => False
theorem hq_le0 : hq_le [] [] := trivial
theorem hq_leS {a : Option Value} {r q : hq_L} (h : hq_le r q) : hq_le (a :: r) (a :: q) := ⟨Or.inr rfl, h⟩
theorem hq_leN {b : Option Value} {r q : hq_L} (h : hq_le r q) : hq_le (none :: r) (b :: q) := ⟨Or.inl rfl, h⟩
theorem hq_le_rf : ∀ L : hq_L, hq_le L L
  | [] => trivial
  | _ :: r => ⟨Or.inr rfl, hq_le_rf r⟩
theorem hq_le_len : ∀ {L M : hq_L}, hq_le L M → L.length = M.length
  | [], [], _ => rfl
  | _ :: r, _ :: q, h => by simp [hq_le_len h.2]
  | [], _ :: _, h => h.elim
  | _ :: _, [], h => h.elim
theorem hq_le_get : ∀ {L M : hq_L} {i : Nat} {v : Value}, hq_le L M → L[i]? = some (some v) → M[i]? = some (some v)
  | [], [], _, _, _, h => by simp at h
  | a :: r, b :: q, 0, v, h, e => by
    simp only [List.getElem?_cons_zero, Option.some.injEq] at e ⊢
    rcases h.1 with h1 | h1
    · rw [h1] at e; cases e
    · rw [← h1]; exact e
  | _ :: r, _ :: q, i + 1, v, h, e => by
    simp only [List.getElem?_cons_succ] at e ⊢
    exact hq_le_get h.2 e
  | [], _ :: _, _, _, h, _ => h.elim
  | _ :: _, [], _, _, h, _ => h.elim
theorem hq_le_set : ∀ {L M : hq_L} {i : Nat} {a : Option Value}, hq_le L M → hq_le (L.set i a) (M.set i a)
  | [], [], _, _, h => h
  | _ :: r, _ :: q, 0, a, h => ⟨Or.inr rfl, h.2⟩
  | _ :: r, _ :: q, i + 1, a, h => ⟨h.1, hq_le_set h.2⟩
  | [], _ :: _, _, _, h => h.elim
  | _ :: _, [], _, _, h => h.elim
theorem hq_le_none : ∀ {L M : hq_L} {i : Nat}, hq_le L M → hq_le (L.set i none) M
  | [], [], _, h => h
  | _ :: r, _ :: q, 0, h => ⟨Or.inl rfl, h.2⟩
  | _ :: r, _ :: q, i + 1, h => ⟨h.1, hq_le_none h.2⟩
  | [], _ :: _, _, h => h.elim
  | _ :: _, [], _, h => h.elim
theorem hq_le_tr : ∀ {L M N : hq_L}, hq_le L M → hq_le M N → hq_le L N
  | [], [], [], _, _ => trivial
  | a :: r, b :: q, c :: t, h, k => ⟨by
      rcases h.1 with h1 | h1
      · exact Or.inl h1
      · rw [h1]; exact k.1, hq_le_tr h.2 k.2⟩
  | [], _ :: _, _, h, _ => h.elim
  | _ :: _, [], _, h, _ => h.elim
  | _, [], _ :: _, _, h => h.elim
  | _, _ :: _, [], _, h => h.elim
theorem hq_le_put : ∀ {L M : hq_L} {i : Nat}, hq_le L M → (∀ v, M[i]? = some (some v) → L[i]? = some none) → hq_le L (M.set i none)
  | [], [], _, h, _ => h
  | a :: r, b :: q, 0, h, k => by
    refine ⟨?_, h.2⟩
    rcases h.1 with h1 | h1
    · exact Or.inl h1
    · cases b with
      | none => exact Or.inr h1
      | some v =>
        have := k v rfl
        simp only [List.getElem?_cons_zero, Option.some.injEq] at this
        exact Or.inl this
  | _ :: r, _ :: q, i + 1, h, k => ⟨h.1, hq_le_put h.2 (fun v e => by have := k v (by simpa using e); simpa using this)⟩
  | [], _ :: _, _, h, _ => h.elim
  | _ :: _, [], _, h, _ => h.elim
theorem hq_le_c2 {L M : hq_L} {i : Nat} (h : hq_le L M) : hq_le (hq_c2 L i) (hq_c2 M i) := by
  unfold hq_c2
  split
  · exact h
  · rename_i j
    cases hm : M[j]? with
    | none =>
      have : L[j]? = none := by
        rw [List.getElem?_eq_none_iff] at hm ⊢
        rw [hq_le_len h]; exact hm
      rw [this]; exact h
    | some b =>
      cases b with
      | none =>
        cases hl : L[j]? with
        | none => exact h
        | some a =>
          cases a with
          | none => exact h
          | some v => rw [hq_le_get h hl] at hm; cases hm
      | some w =>
        cases hl : L[j]? with
        | none =>
          have h1 := (List.getElem?_eq_some_iff.mp hm).1
          rw [← hq_le_len h] at h1
          rw [List.getElem?_eq_getElem h1] at hl; cases hl
        | some a =>
          cases a with
          | none =>
            dsimp only
            split
            · exact hq_le_put h (fun _ _ => hl)
            · exact h
          | some v =>
            have e := hq_le_get h hl
            rw [hm] at e
            cases e
            dsimp only
            split
            · exact hq_le_set h
            · exact h
theorem hq_le_st1 {L M : hq_L} {i : Nat} {v : Value} (h : hq_le L M) : hq_le (hq_st1 L i v) (hq_st1 M i v) := hq_le_set (hq_le_c2 h)
theorem hq_le_st2 {L M : hq_L} {i : Nat} {v : Value} (h : hq_le L M) : hq_le (hq_st2 L i v) (hq_st2 M i v) := hq_le_set (hq_le_set (hq_le_c2 h))
theorem hq_le_ld {L M : hq_L} {i : Nat} {v : Value} (h : hq_le L M) (e : hq_ld L i = some v) : hq_ld M i = some v := by
  unfold hq_ld at e ⊢
  split at e
  · rename_i w hw
    cases e
    rw [hq_le_get h hw]
  · cases e
set_option maxHeartbeats 4000000 in
theorem hq_ins_le {ins : Instr} {x y : Nat} {ts : List Nat} {i : Nat} {L M : hq_L} {st : List Value} {σ : hq_St} {r : hq_R} (hs : hq_ins ins x y ts i L st σ = some r) (h : hq_le L M) : ∃ N, hq_ins ins x y ts i M st σ = some (r.1, N, r.2.2.1, r.2.2.2.1, r.2.2.2.2) ∧ hq_le r.2.1 N := by
  cases ins
  case iadd =>
    obtain ⟨a, b, rr, rfl, rfl⟩ := hq_2i_some hs
    exact ⟨M, rfl, h⟩
  case isub =>
    obtain ⟨a, b, rr, rfl, rfl⟩ := hq_2i_some hs
    exact ⟨M, rfl, h⟩
  case imul =>
    obtain ⟨a, b, rr, rfl, rfl⟩ := hq_2i_some hs
    exact ⟨M, rfl, h⟩
  case iand =>
    obtain ⟨a, b, rr, rfl, rfl⟩ := hq_2i_some hs
    exact ⟨M, rfl, h⟩
  case ior =>
    obtain ⟨a, b, rr, rfl, rfl⟩ := hq_2i_some hs
    exact ⟨M, rfl, h⟩
  case ixor =>
    obtain ⟨a, b, rr, rfl, rfl⟩ := hq_2i_some hs
    exact ⟨M, rfl, h⟩
  case ishl =>
    obtain ⟨a, b, rr, rfl, rfl⟩ := hq_2i_some hs
    exact ⟨M, rfl, h⟩
  case ishr =>
    obtain ⟨a, b, rr, rfl, rfl⟩ := hq_2i_some hs
    exact ⟨M, rfl, h⟩
  case iushr =>
    obtain ⟨a, b, rr, rfl, rfl⟩ := hq_2i_some hs
    exact ⟨M, rfl, h⟩
  case idiv =>
    obtain ⟨a, b, rr, rfl, rfl⟩ := hq_2i_some hs
    exact ⟨M, rfl, h⟩
  case irem =>
    obtain ⟨a, b, rr, rfl, rfl⟩ := hq_2i_some hs
    exact ⟨M, rfl, h⟩
  case ladd =>
    obtain ⟨a, b, rr, rfl, rfl⟩ := hq_2l_some hs
    exact ⟨M, rfl, h⟩
  case lsub =>
    obtain ⟨a, b, rr, rfl, rfl⟩ := hq_2l_some hs
    exact ⟨M, rfl, h⟩
  case lmul =>
    obtain ⟨a, b, rr, rfl, rfl⟩ := hq_2l_some hs
    exact ⟨M, rfl, h⟩
  case land =>
    obtain ⟨a, b, rr, rfl, rfl⟩ := hq_2l_some hs
    exact ⟨M, rfl, h⟩
  case lor =>
    obtain ⟨a, b, rr, rfl, rfl⟩ := hq_2l_some hs
    exact ⟨M, rfl, h⟩
  case ldiv =>
    obtain ⟨a, b, rr, rfl, rfl⟩ := hq_2l_some hs
    exact ⟨M, rfl, h⟩
  case lrem =>
    obtain ⟨a, b, rr, rfl, rfl⟩ := hq_2l_some hs
    exact ⟨M, rfl, h⟩
  case lcmp =>
    obtain ⟨a, b, rr, rfl, rfl⟩ := hq_2l_some hs
    exact ⟨M, rfl, h⟩
  case lshl =>
    obtain ⟨a, b, rr, rfl, rfl⟩ := hq_2li_some hs
    exact ⟨M, rfl, h⟩
  case lshr =>
    obtain ⟨a, b, rr, rfl, rfl⟩ := hq_2li_some hs
    exact ⟨M, rfl, h⟩
  case ineg =>
    obtain ⟨a, rr, rfl, rfl⟩ := hq_1i_some hs
    exact ⟨M, rfl, h⟩
  case i2l =>
    obtain ⟨a, rr, rfl, rfl⟩ := hq_1i_some hs
    exact ⟨M, rfl, h⟩
  case i2b =>
    obtain ⟨a, rr, rfl, rfl⟩ := hq_1i_some hs
    exact ⟨M, rfl, h⟩
  case i2s =>
    obtain ⟨a, rr, rfl, rfl⟩ := hq_1i_some hs
    exact ⟨M, rfl, h⟩
  case l2i =>
    obtain ⟨a, rr, rfl, rfl⟩ := hq_1l_some hs
    exact ⟨M, rfl, h⟩
  case iconst =>
    cases hs
    exact ⟨M, rfl, h⟩
  case bipush =>
    cases hs
    exact ⟨M, rfl, h⟩
  case sipush =>
    cases hs
    exact ⟨M, rfl, h⟩
  case lconst =>
    cases hs
    exact ⟨M, rfl, h⟩
  case ldc2_w =>
    cases hs
    exact ⟨M, rfl, h⟩
  case goto =>
    cases hs
    exact ⟨M, rfl, h⟩
  case iload =>
    obtain ⟨v, hv, rfl⟩ := hq_ldi_some hs
    refine ⟨M, ?_, h⟩
    dsimp only [hq_ins, hq_ldi]
    rw [hq_le_ld h hv]
  case iload_n =>
    obtain ⟨v, hv, rfl⟩ := hq_ldi_some hs
    refine ⟨M, ?_, h⟩
    dsimp only [hq_ins, hq_ldi]
    rw [hq_le_ld h hv]
  case lload =>
    obtain ⟨v, hv, rfl⟩ := hq_ldl_some hs
    refine ⟨M, ?_, h⟩
    dsimp only [hq_ins, hq_ldl]
    rw [hq_le_ld h hv]
  case lload_n =>
    obtain ⟨v, hv, rfl⟩ := hq_ldl_some hs
    refine ⟨M, ?_, h⟩
    dsimp only [hq_ins, hq_ldl]
    rw [hq_le_ld h hv]
  case aload =>
    obtain ⟨v, hv, rfl⟩ := hq_lda_some hs
    refine ⟨M, ?_, h⟩
    dsimp only [hq_ins, hq_lda]
    rw [hq_le_ld h hv]
  case aload_n =>
    obtain ⟨v, hv, rfl⟩ := hq_lda_some hs
    refine ⟨M, ?_, h⟩
    dsimp only [hq_ins, hq_lda]
    rw [hq_le_ld h hv]
  case istore =>
    obtain ⟨v, rr, rfl, hn, rfl⟩ := hq_sti_some hs
    refine ⟨_, ?_, hq_le_st1 h⟩
    dsimp only [hq_ins, hq_sti]
    rw [if_pos (by rw [← hq_le_len h]; exact hn)]
  case istore_n =>
    obtain ⟨v, rr, rfl, hn, rfl⟩ := hq_sti_some hs
    refine ⟨_, ?_, hq_le_st1 h⟩
    dsimp only [hq_ins, hq_sti]
    rw [if_pos (by rw [← hq_le_len h]; exact hn)]
  case astore =>
    obtain ⟨v, rr, rfl, hn, rfl⟩ := hq_sta_some hs
    refine ⟨_, ?_, hq_le_st1 h⟩
    dsimp only [hq_ins, hq_sta]
    rw [if_pos (by rw [← hq_le_len h]; exact hn)]
  case astore_n =>
    obtain ⟨v, rr, rfl, hn, rfl⟩ := hq_sta_some hs
    refine ⟨_, ?_, hq_le_st1 h⟩
    dsimp only [hq_ins, hq_sta]
    rw [if_pos (by rw [← hq_le_len h]; exact hn)]
  case lstore =>
    obtain ⟨v, rr, rfl, hn, rfl⟩ := hq_stl_some hs
    refine ⟨_, ?_, hq_le_st2 h⟩
    dsimp only [hq_ins, hq_stl]
    rw [if_pos (by rw [← hq_le_len h]; exact hn)]
  case lstore_n =>
    obtain ⟨v, rr, rfl, hn, rfl⟩ := hq_stl_some hs
    refine ⟨_, ?_, hq_le_st2 h⟩
    dsimp only [hq_ins, hq_stl]
    rw [if_pos (by rw [← hq_le_len h]; exact hn)]
  case iinc k n =>
    dsimp only [hq_ins] at hs ⊢
    split at hs
    · rename_i v hv
      split at hs
      · rename_i hn
        cases hs
        refine ⟨_, ?_, hq_le_st1 h⟩
        rw [hq_le_ld h hv]
        dsimp only
        rw [if_pos (by rw [← hq_le_len h]; exact hn)]
      · cases hs
    · cases hs
  case ldc =>
    dsimp only [hq_ins] at hs ⊢
    split at hs
    · rename_i hy; cases hs; rw [if_pos hy]; exact ⟨M, rfl, h⟩
    · rename_i hy; cases hs; rw [if_neg hy]; exact ⟨M, rfl, h⟩
  case ldc_w =>
    dsimp only [hq_ins] at hs ⊢
    split at hs
    · rename_i hy; cases hs; rw [if_pos hy]; exact ⟨M, rfl, h⟩
    · rename_i hy; cases hs; rw [if_neg hy]; exact ⟨M, rfl, h⟩
  case dup =>
    dsimp only [hq_ins] at hs ⊢
    split at hs
    · split at hs
      · rename_i hc; cases hs; rw [if_pos hc]; exact ⟨M, rfl, h⟩
      · cases hs
    · cases hs
  case pop =>
    dsimp only [hq_ins] at hs ⊢
    split at hs
    · split at hs
      · rename_i hc; cases hs; rw [if_pos hc]; exact ⟨M, rfl, h⟩
      · cases hs
    · cases hs
  case pop2 =>
    dsimp only [hq_ins] at hs ⊢
    split at hs
    · split at hs
      · rename_i hc; cases hs; rw [if_pos hc]; exact ⟨M, rfl, h⟩
      · cases hs
    · cases hs
  case dup2 =>
    dsimp only [hq_ins] at hs ⊢
    split at hs
    · split at hs
      · rename_i hc; cases hs; rw [if_pos hc]; exact ⟨M, rfl, h⟩
      · cases hs
    · cases hs
  case ifCond =>
    dsimp only [hq_ins] at hs ⊢
    split at hs
    · cases hs; exact ⟨M, rfl, h⟩
    · cases hs
  case if_icmp =>
    dsimp only [hq_ins] at hs ⊢
    split at hs
    · cases hs; exact ⟨M, rfl, h⟩
    · cases hs
  case tableswitch =>
    dsimp only [hq_ins] at hs ⊢
    split at hs
    · cases hs; exact ⟨M, rfl, h⟩
    · cases hs
  case lookupswitch =>
    dsimp only [hq_ins] at hs ⊢
    split at hs
    · cases hs; exact ⟨M, rfl, h⟩
    · cases hs
  case getfield =>
    obtain ⟨c0, fs, f, rr, rfl, hlay, hf, rfl⟩ := hq_getf_some hs
    refine ⟨M, ?_, h⟩
    dsimp only [hq_ins, hq_getf]
    rw [hlay]
    dsimp only
    rw [if_pos rfl, hf]
  case putfield =>
    rcases hq_putf_some hs with ⟨v, c0, fs, f, rr, rfl, hlay, hf, ⟨rfl, rfl⟩ | ⟨rfl, rfl⟩⟩ | ⟨v, c0, fs, rr, rfl, hlay, hf, rfl⟩
    all_goals
      refine ⟨M, ?_, h⟩
      dsimp only [hq_ins, hq_putf]
      rw [hlay]
      dsimp only
      rw [if_pos rfl, hf]
      rfl
  case iaload =>
    obtain ⟨j, c0, n, rr, rfl, hlay, rfl⟩ := hq_ald_some hs
    refine ⟨M, ?_, h⟩
    dsimp only [hq_ins, hq_ald]
    rw [hlay]
    dsimp only
    rw [if_pos rfl]
  case laload =>
    obtain ⟨j, c0, n, rr, rfl, hlay, rfl⟩ := hq_ald_some hs
    refine ⟨M, ?_, h⟩
    dsimp only [hq_ins, hq_ald]
    rw [hlay]
    dsimp only
    rw [if_pos rfl]
  case baload =>
    obtain ⟨j, c0, n, rr, rfl, hlay, rfl⟩ := hq_ald_some hs
    refine ⟨M, ?_, h⟩
    dsimp only [hq_ins, hq_ald]
    rw [hlay]
    dsimp only
    rw [if_pos rfl]
  case iastore =>
    obtain ⟨v, j, c0, n, rr, rfl, hlay, rfl⟩ := hq_ast0_some hs
    refine ⟨M, ?_, h⟩
    dsimp only [hq_ins, hq_ast]
    rw [hlay]
    rfl
  case lastore =>
    obtain ⟨v, j, c0, n, rr, rfl, hlay, rfl⟩ := hq_ast1_some hs
    refine ⟨M, ?_, h⟩
    dsimp only [hq_ins, hq_ast]
    rw [hlay]
    rfl
  case bastore =>
    obtain ⟨v, j, c0, n, rr, rfl, hlay, rfl⟩ := hq_ast2_some hs
    refine ⟨M, ?_, h⟩
    dsimp only [hq_ins, hq_ast]
    rw [hlay]
    rfl
  case invokestatic =>
    rcases hq_mc_some hs with ⟨a, b, rr, rfl, hc, ⟨rfl, rfl⟩ | ⟨rfl, rfl⟩⟩ | ⟨a, b, rr, rfl, hc, ⟨rfl, rfl⟩ | ⟨rfl, rfl⟩⟩
    all_goals
      refine ⟨M, ?_, h⟩
      dsimp only [hq_ins, hq_mc]
      rw [if_pos hc]
      rfl
  case arraylength =>
    obtain ⟨c0, k, n, rr, rfl, hlay, rfl⟩ := hq_alen_some hs
    refine ⟨M, ?_, h⟩
    dsimp only [hq_ins, hq_alen]
    rw [hlay]
  all_goals (cases hs)
theorem hq_step_le {T : List hq_E} {i : Nat} {L M : hq_L} {st : List Value} {σ : hq_St} {r : hq_R} (hs : hq_step T i L st σ = some r) (h : hq_le L M) : ∃ N, hq_step T i M st σ = some (r.1, N, r.2.2.1, r.2.2.2.1, r.2.2.2.2) ∧ hq_le r.2.1 N := by
  unfold hq_step at hs ⊢
  split at hs
  · exact hq_ins_le hs h
  · cases hs
theorem hq_ev_le {pg : Nat → hq_MI} {pr : hq_PR} : ∀ (n : Nat) {d : Nat} {T : List hq_E} {F : hq_F} {i : Nat} {L M : hq_L} {st : List Value} {σ : hq_St}, (∀ i L M st σ, hq_le L M → F i L st σ → F i M st σ) → hq_le L M → hq_ev pg pr n d T F i L st σ → hq_ev pg pr n d T F i M st σ
  | 0, _, _, _, _, _, _, _, _, hF, h, he => hF _ _ _ _ _ h he
  | n + 1, _, _, _, _, _, _, _, _, hF, h, he => by
    rcases he with he | ⟨h0, r, h1, h2, h3⟩ | ⟨e, as, rest, v, τ, d', h1, h2, h3, h4, h5⟩
    · exact Or.inl (hF _ _ _ _ _ h he)
    · obtain ⟨N, a1, a2⟩ := hq_step_le h1 h
      exact Or.inr (Or.inl ⟨h0, _, a1, h2, hq_ev_le n hF a2 h3⟩)
    · exact Or.inr (Or.inr ⟨e, as, rest, v, τ, d', h1, h2, h3, h4, hq_ev_le n hF h h5⟩)
/-- the primitive methods: 'among' of the reference (a text's sign), 'adopt' of the rule (a copy of a row) -/
def hq_amongN (σ : hq_St) (l : List Int32) : Int32 := if σ.1 52 16 < σ.1 52 17 then (match l.findIdx? (fun c => c == σ.1 62 (σ.1 52 16).toNatClampNeg) with
  | some k => nI k
  | none => -1) else -1
def hq_prim : hq_PR := fun x as σ v τ =>
  (x = 181 ∧ ∃ j, j < 17 ∧ as = [.ref 52, .ref (1000 + j)] ∧ τ = σ ∧ v = some (.int (hq_amongN σ (hq_sbyt.getD j []))) ∧ (σ.1 52 16 < σ.1 52 17 → vp_in (σ.1 52 16) 80)) ∨
  (x = 49 ∧ as = [.ref 24] ∧ v = none ∧ ∃ n, n ≤ 40 ∧ σ.1 24 4 = nI n ∧ τ = (fun a => if a = 25 then va_cpy (σ.1 26) (σ.1 25) 0 0 n else if a = 24 then upd (σ.1 24) 3 (nI n) else σ.1 a, σ.2))
/-- a method's run from a place on: to its end, with v, in the state τ -/
abbrev hq_m (x d : Nat) (v : Option Value) (τ : hq_St) (i : Nat) (L : hq_L) (st : List Value) (σ : hq_St) : Prop := hq_go hq_pg hq_prim d (hq_pg x).1 (hq_ret (hq_pg x) v τ) i L st σ
abbrev hq_c (x d : Nat) (as : List Value) (σ : hq_St) (v : Option Value) (τ : hq_St) : Prop := hq_run hq_pg hq_prim d x as σ v τ
section HQ5
variable {x d : Nat} {v : Option Value} {τ : hq_St} {i : Nat} {L M : hq_L} {st : List Value} {σ : hq_St}
theorem hq_m.le (h : hq_le L M) (k : hq_m x d v τ i L st σ) : hq_m x d v τ i M st σ := by
  obtain ⟨n, k⟩ := k
  exact ⟨n, hq_ev_le n (fun _ _ _ _ _ _ h => h) h k⟩
/-- a straight stretch, behind which some locals are forgotten -/
theorem hq_m.go {T : List hq_E} (hT : (hq_pg x).1 = T) (n : Nat) {i' : Nat} {L' M' : hq_L} {st' : List Value} {σ' : hq_St} {ps : List Prop} (h1 : hq_steps T n i L st σ [] = some (i', M', st', σ', ps)) (h2 : hq_all ps) (hl : hq_le L' M') (h3 : hq_m x (d + 1) v τ i' L' st' σ') : hq_m x (d + 1) v τ i L st σ := hq_go.run (Nat.succ_pos d) n (hT ▸ h1) h2 (hq_m.le hl h3)
/-- a straight stretch with a branch at its end -/
theorem hq_m.br {T : List hq_E} (hT : (hq_pg x).1 = T) (n : Nat) {a b : Nat} {c : Prop} {ic : Decidable c} {L1 L2 M' : hq_L} {st' : List Value} {σ' : hq_St} {ps : List Prop} (h1 : hq_steps T n i L st σ [] = some (cond (@decide c ic) a b, M', st', σ', ps)) (h2 : hq_all ps) (l1 : hq_le L1 M') (l2 : hq_le L2 M') (k1 : c → hq_m x (d + 1) v τ a L1 st' σ') (k2 : ¬ c → hq_m x (d + 1) v τ b L2 st' σ') : hq_m x (d + 1) v τ i L st σ :=
  hq_go.run (Nat.succ_pos d) n (hT ▸ h1) h2 (hq_go.br (fun h => hq_m.le l1 (k1 h)) (fun h => hq_m.le l2 (k2 h)))
theorem hq_m.call {T : List hq_E} (hT : (hq_pg x).1 = T) {e : hq_E} {as rest : List Value} {w : Option Value} {ρ : hq_St} (h1 : T[i]? = some e) (h2 : hq_call hq_pg e.2.1 e.2.2.1 st = some (as, rest)) (h3 : hq_c e.2.2.1 d as σ w ρ) (hl : hq_le M L) (h4 : hq_m x (d + 1) v τ (i + 1) M (w.toList ++ rest) ρ) : hq_m x (d + 1) v τ i L st σ := hq_go.call (hT ▸ h1) h2 h3 (hq_m.le hl h4)
theorem hq_m.prim {T : List hq_E} (hT : (hq_pg x).1 = T) {e : hq_E} {as rest : List Value} {w : Option Value} {ρ : hq_St} (h1 : T[i]? = some e) (h2 : hq_call hq_pg e.2.1 e.2.2.1 st = some (as, rest)) (h3 : hq_prim e.2.2.1 as σ w ρ) (h5 : 8 ≤ d) (hl : hq_le M L) (h4 : hq_m x (d + 1) v τ (i + 1) M (w.toList ++ rest) ρ) : hq_m x (d + 1) v τ i L st σ := hq_go.prim (hT ▸ h1) h2 h3 h5 (hq_m.le hl h4)
/-- a counted loop: from the j-th state to the (j+1)-th, n times -/
theorem hq_m.for {x d : Nat} {v : Option Value} {τ : hq_St} {i : Nat} {st : List Value} (Lf : Nat → hq_L) (σf : Nat → hq_St) (n : Nat) (hs : ∀ j, j < n → hq_m x d v τ i (Lf (j + 1)) st (σf (j + 1)) → hq_m x d v τ i (Lf j) st (σf j)) (he : hq_m x d v τ i (Lf n) st (σf n)) : ∀ j, j ≤ n → hq_m x d v τ i (Lf j) st (σf j) := by
  intro j hj
  have h : ∀ k, k ≤ n → hq_m x d v τ i (Lf (n - k)) st (σf (n - k)) := by
    intro k
    induction k with
    | zero => intro _; exact he
    | succ k ih =>
      intro hk
      refine hs _ (by omega) ?_
      have := ih (by omega)
      rw [show n - (k + 1) + 1 = n - k by omega]
      exact this
  have := h (n - j) (by omega)
  rwa [show n - (n - j) = j by omega] at this
theorem hq_m.ix {i' : Nat} (e : i = i') (k : hq_m x d v τ i' L st σ) : hq_m x d v τ i L st σ := e ▸ k
theorem hq_c.of {as : List Value} {T : List hq_E} {mL na rk kd : Nat} (hp : hq_pg x = (T, mL, na, rk, kd)) (hi : hq_init as mL = M) (hl : hq_le L M) (k : hq_m x d v τ 0 L [] σ) : hq_c x d as σ v τ := by
  have k2 := hq_m.le hl k
  unfold hq_c hq_run
  rw [show (hq_pg x).2.1 = mL by rw [hp], hi]
  exact k2
theorem hq_done0 {T : List hq_E} {mL na kd pc a b : Nat} {ts : List Nat} (hp : hq_pg x = (T, mL, na, 0, kd)) (he : T[i]? = some (pc, .return_, a, b, ts)) : hq_m x d none σ i L [] σ :=
  hq_go.done ⟨rfl, _, by rw [hp]; exact he, Or.inl ⟨by rw [hp], rfl, rfl, rfl⟩⟩
theorem hq_done1 {T : List hq_E} {mL na kd pc a b : Nat} {ts : List Nat} {w : Int32} (hp : hq_pg x = (T, mL, na, 1, kd)) (he : T[i]? = some (pc, .ireturn, a, b, ts)) : hq_m x d (some (.int w)) σ i L [.int w] σ :=
  hq_go.done ⟨rfl, _, by rw [hp]; exact he, Or.inr (Or.inl ⟨by rw [hp], rfl, _, rfl, rfl⟩)⟩
theorem hq_done2 {T : List hq_E} {mL na kd pc a b : Nat} {ts : List Nat} {w : Int64} (hp : hq_pg x = (T, mL, na, 2, kd)) (he : T[i]? = some (pc, .lreturn, a, b, ts)) : hq_m x d (some (.long w)) σ i L [.long w] σ :=
  hq_go.done ⟨rfl, _, by rw [hp]; exact he, Or.inr (Or.inr (Or.inl ⟨by rw [hp], rfl, _, rfl, rfl⟩))⟩
theorem hq_done3 {T : List hq_E} {mL na kd pc a b : Nat} {ts : List Nat} {w : Int32} (hp : hq_pg x = (T, mL, na, 3, kd)) (he : T[i]? = some (pc, .ireturn, a, b, ts)) (hw : w = 0 ∨ w = 1) : hq_m x d (some (.int w)) σ i L [.int w] σ :=
  hq_go.done ⟨rfl, _, by rw [hp]; exact he, Or.inr (Or.inr (Or.inr ⟨by rw [hp], rfl, _, rfl, rfl, hw⟩))⟩
end HQ5
theorem hq_condT {c : Prop} {ic : Decidable c} {a b : Nat} (h : c) : cond (@decide c ic) a b = a := by rw [decide_eq_true h]; rfl
theorem hq_condF {c : Prop} {ic : Decidable c} {a b z : Nat} (h : ¬ c) (e : b = z) : cond (@decide c ic) a b = z := by rw [decide_eq_false h]; exact e
