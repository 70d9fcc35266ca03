/-! The law's body on the machine (the first rows are the skeleton's) -/
def R_law : String := "HingesOnHireLaw"
def lw_P (b : Addr) (xs : List Int32) (args : Array Value) (s : State) : Prop := args = #[.ref b] ∧ s.IntsAt b xs ∧ xs.length ≤ 2560 ∧ (Jvm.Cond.and given_1 narrow_1).before args s = true
def lw_Q (_ : Array Value) (s : State) (o : Outcome) (t : State) : Prop := o = .returned (some (.int 1)) ∧ Framed s o t [] 601024 7293033
def lw_Z (below : List Frame) (a : Array Value) (s : State) : State → Prop := fun t => ∃ o, t.status = .running ∧ Ended t below o ∧ lw_Q a s o t
/-- the law's own end, with 1 on the stack, nothing written that was there before, its room as the claim has it -/
theorem lw_ret {p : Program} {l : Launch} {e : Env} {s : State} {m : MethodId} {below : List Frame} {meth : Method} {c : Code} {b : Nat} (hx : p.tables.exec = Jvm.exec) (hb : c.code = code) (hr : meth.sig.returnType = ret) (hlocks : meth.locks = false) {pc : Nat} {H : Heap} {ls : Array Slot} (hdg : decode code pc = .ok (.ireturn, 1)) : W p l e room_1 s m #[Value.ref b] below meth c H [] 601024 7293033 (lw_Z below #[Value.ref b] s) (F0 m pc ls [.int 1]) := by
  intro T hT X
  obtain ⟨fs, hret, hrun, hended, hW, hframe⟩ := X.leave (v := some (.int 1)) (hlocks := hlocks) (fun h => by rw [hr] at h; cases h)
  have hmeth' : T.vm.method? m = some meth := X.method'
  refine ⟨T.setFrames fs, ?_, .returned (some (.int 1)), hrun, hended, rfl, ⟨_, rfl⟩, hW, hframe⟩
  jvm_step X.here [X.here.top, hx, hb, hdg, hmeth', hr, ret, narrow_b1]
  (try refine ⟨rfl, ?_⟩); (try refine ⟨rfl, ?_⟩)
  first | (intro acts; rw [hret _ acts rfl rfl rfl]) | rw [hret _ _ rfl rfl rfl]
  exact Steps.refl _
/-- what holds at the law's entry: the machine, the code, the tables' words (any of lw_tbl by 'hts w (by decide +kernel)'), the script of L ints xs at the cell b, what the Statement gives of the start (any of its parts by flat_of_before) -/
def lw_At (p : Program) (s : State) (m : MethodId) (meth : Method) (c : Code) (b L : Nat) (xs : Nat → Int32) : Prop :=
  p.tables.exec = Jvm.exec ∧ c.code = code ∧ meth.sig.returnType = ret ∧ c.maxLocals = 8 ∧ s.vm.findClass R_law = some m.cls ∧ (∀ w ∈ lw_tbl, w.before #[Value.ref b] s = true) ∧ va_X b L xs s s.heap ∧ b < s.heap.size ∧ meth.locks = false ∧ (Jvm.Cond.and given_1 narrow_1).before #[Value.ref b] s = true
def lwA (s : State) : Nat → Prop := fun q => s.heap.size ≤ q
/-- what holds of the law's frame all along -/
def lwC (p : Program) (s : State) (m : MethodId) (meth : Method) (c : Code) (b n : Nat) (xs : Nat → Int32) (D : va_G) (cy : hq_C3) (ad av : Nat → Nat) : Prop :=
  hq_ctx p s m #[Value.ref b] c D cy (lwA s) ad lw_tbl hq_pjL hq_sr tb_law code "HingesOnHireLaw" ∧ hq_str ad av (lwA s) s s.heap ∧ ad 2000 = b ∧ va_X b n xs s s.heap ∧ b < s.heap.size ∧ c.maxLocals = 8 ∧ meth.sig.returnType = ret ∧ meth.locks = false
def lwPr (l : Launch) : Prop := ∀ (x : Nat) (as : List Value) (σ : hq_St) (v : Option Value) (τ : hq_St), hq_prim x as σ v τ → ∀ (D : va_G) (cy : hq_C3) (ad av : Nat → Nat) (d : Nat), (∀ i j, i < hq_n → j < hq_n → ad i = ad j → i = j) → 8 ≤ d → hq_MetX l hq_pg hq_pjL hq_pb hq_pt D cy ad av d x as σ v τ
/-- from here the law comes to its end; k throws may still come -/
def KW (p : Program) (l : Launch) (e : Env) (s : State) (m : MethodId) (b : Nat) (below : List Frame) (meth : Method) (c : Code) (D : va_G) (cy : hq_C3) (ad : Nat → Nat) (k : Nat) : hq_F := fun i L st σ => ∀ (H : Heap) (locs : List Loc) (ls : Array Slot) (cells slots : Nat), cells + k ≤ 600000 → slots + 6 * k ≤ 7000000 → hq_now D cy ad (lwA s) s.heap H locs ls 8 L σ → W p l e room_1 s m #[Value.ref b] below meth c H locs cells slots (lw_Z below #[Value.ref b] s) (F0 m (hq_pc tb_law i) ls (st.map (hq_vm ad)))
section LM
variable {p : Program} {l : Launch} {e : Env} {s : State} {m : MethodId} {b n : Nat} {xs : Nat → Int32} {below : List Frame} {meth : Method} {c : Code} {D : va_G} {cy : hq_C3} {ad av : Nat → Nat} {k : Nat}
theorem lw_dec {i : Nat} {e : hq_E} (he : tb_law[i]? = some e) : decode code e.1 = .ok (e.2.1, hq_len e.2.2.2.1 e.2.1) := by
  have hk := lw_tok i e he
  unfold hq_eokb at hk
  rw [Bool.and_eq_true, decide_eq_true_eq] at hk
  exact hk.1
theorem lw_next {i : Nat} {e : hq_E} (he : tb_law[i]? = some e) (h : e.2.1 = .iaload ∨ e.2.1 = .arraylength) : hq_pc tb_law (i + 1) = e.1 + 1 := by
  have hk := lw_tok i e he
  unfold hq_eokb at hk
  rw [Bool.and_eq_true, decide_eq_true_eq] at hk
  have h2 := hk.2
  rcases h with h | h <;> (rw [h] at h2; exact of_decide_eq_true h2)
theorem hq_lv_le {L M : hq_L} (h : hq_le L M) : ∀ q ∈ hq_lv ad L, q ∈ hq_lv ad M := by
  rintro ⟨i, w⟩ hq
  obtain ⟨v, h1, h2⟩ := hq_lv_mem.mp hq
  exact hq_lv_mem.mpr ⟨v, hq_le_get h h1, h2⟩
theorem KW.run (C : lwC p s m meth c b n xs D cy ad av) (hp : lwPr l) (F : hq_F) (i : Nat) (L : hq_L) (st : List Value) (σ : hq_St) (h : hq_go hq_pg hq_prim 1001 tb_law F i L st σ) (kk : ∀ i' L' st' σ', F i' L' st' σ' → KW p l e s m b below meth c D cy ad k i' L' st' σ') : KW p l e s m b below meth c D cy ad k i L st σ := by
  intro H locs ls cells slots h1 h2 hI
  obtain ⟨nn, hev⟩ := h
  exact hq_snd hq_hML hq_hTL hq_hpmL hp nn hev C.1 C.2.2.2.2.2.1 ⟨(by decide : 1001 ≤ 2048), (by decide : 64 * 1001 ≤ 84000), (by show cells ≤ 601024; omega), (by show slots ≤ 7293033; omega)⟩ C.2.1 hI (fun i' L' st' σ' H' locs' ls' hf hI' => kk i' L' st' σ' hf H' locs' ls' cells slots h1 h2 hI')
theorem KW.sld (C : lwC p s m meth c b n xs D cy ad av) (i : Nat) (e0 : hq_E) (L : hq_L) (j : Int32) (st : List Value) (σ : hq_St) (he : tb_law[i]? = some e0) (hb : e0.2.1 = .iaload) (hj : vp_in j n) (kk : KW p l e s m b below meth c D cy ad k (i + 1) L (.int (xs j.toNatClampNeg) :: st) σ) : KW p l e s m b below meth c D cy ad k i L (.int j :: .ref 2000 :: st) σ := by
  intro H locs ls cells slots h1 h2 hI
  have hd := lw_dec he
  rw [hb] at hd
  have hn := lw_next he (Or.inl hb)
  have K := kk H locs ls cells slots h1 h2 hI
  rw [hn] at K
  rw [hq_pc_at he]
  show W p l e room_1 s m #[Value.ref b] below meth c H locs cells slots (lw_Z below #[Value.ref b] s) (F0 m e0.1 ls (.int j :: .ref (ad 2000) :: st.map (hq_vm ad)))
  rw [C.2.2.1]
  exact va_sld C.1.1 C.1.2.1 C.2.2.2.1 C.2.2.2.2.1 (Nat.not_le.mpr C.2.2.2.2.1) hI.2.1 hj hd K
theorem KW.slen (C : lwC p s m meth c b n xs D cy ad av) (i : Nat) (e0 : hq_E) (L : hq_L) (st : List Value) (σ : hq_St) (he : tb_law[i]? = some e0) (hb : e0.2.1 = .arraylength) (kk : KW p l e s m b below meth c D cy ad k (i + 1) L (.int (Int32.ofNat n) :: st) σ) : KW p l e s m b below meth c D cy ad k i L (.ref 2000 :: st) σ := by
  intro H locs ls cells slots h1 h2 hI
  have hd := lw_dec he
  rw [hb] at hd
  have hn := lw_next he (Or.inr hb)
  have K := kk H locs ls cells slots h1 h2 hI
  rw [hn] at K
  rw [hq_pc_at he]
  show W p l e room_1 s m #[Value.ref b] below meth c H locs cells slots (lw_Z below #[Value.ref b] s) (F0 m e0.1 ls (.ref (ad 2000) :: st.map (hq_vm ad)))
  rw [C.2.2.1]
  exact va_slen C.1.1 C.1.2.1 C.2.2.2.1 C.2.2.2.2.1 (Nat.not_le.mpr C.2.2.2.2.1) hI.2.1 hd K
theorem KW.ret (C : lwC p s m meth c b n xs D cy ad av) (i : Nat) (e0 : hq_E) (L : hq_L) (σ : hq_St) (he : tb_law[i]? = some e0) (hb : e0.2.1 = .ireturn) : KW p l e s m b below meth c D cy ad k i L [.int 1] σ := by
  intro H locs ls cells slots h1 h2 hI
  have hd := lw_dec he
  rw [hb] at hd
  rw [hq_pc_at he]
  refine va_forget (fun q hq => hI.2.1.2.2 q hq) ?_
  exact W.widen (k := 601024) (n := 7293033) (by omega) (by omega) (lw_ret C.1.1 C.1.2.1 C.2.2.2.2.2.2.1 C.2.2.2.2.2.2.2 hd)
theorem KW.le (i : Nat) (L M : hq_L) (st : List Value) (σ : hq_St) (h : hq_le L M) (kk : KW p l e s m b below meth c D cy ad k i L st σ) : KW p l e s m b below meth c D cy ad k i M st σ := by
  intro H locs ls cells slots h1 h2 hI
  exact kk H locs ls cells slots h1 h2 ⟨hI.1, hI.2.1, hq_has_mono hI.2.2.1 (hq_lv_le h), (hq_le_len h).trans hI.2.2.2⟩
theorem KW.mono (i : Nat) (L : hq_L) (st : List Value) (σ : hq_St) (kk : KW p l e s m b below meth c D cy ad k i L st σ) : KW p l e s m b below meth c D cy ad (k + 1) i L st σ := by
  intro H locs ls cells slots h1 h2 hI
  exact kk H locs ls cells slots (by omega) (by omega) hI
end LM
