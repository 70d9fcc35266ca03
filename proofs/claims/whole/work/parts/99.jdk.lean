/-! String.length and String.charAt of the JDK, as the reference calls them -/
def jd_pre (D : va_G) (cy : hq_C3) (ad av : Nat → Nat) (vs : List Value) (σ : hq_St) : Array Value → State → Prop := fun a U => a = vs.toArray ∧ va_P D vwCl (hq_ws cy ad σ) U.heap ∧ va_K D vwCl (hq_tys cy) U ∧ hq_str ad av (hq_A ad) U U.heap
abbrev jd_M (l : Launch) (y : MethodName) (b : ByteArray) (mL : Nat) (ret : Option FieldType) (D : va_G) (cy : hq_C3) (ad av : Nat → Nat) (d : Nat) (vs : List Value) (v : Option Value) (σ : hq_St) : Prop := Met l y (Cond.code y b mL ret :: hq_tbl) (hq_rm d) (jd_pre D cy ad av vs σ) (hq_post D cy ad v σ) 0 0 (hq_A ad)
theorem jd_blind {D : va_G} {cy : hq_C3} {ad av : Nat → Nat} {vs : List Value} {σ : hq_St} : FrameBlind (jd_pre D cy ad av vs σ) := by
  intro a U g mk h
  obtain ⟨h1, h2, h3, h4, h5⟩ := h
  exact ⟨h1, h2, va_K.moved (u := U) (U := U.calling g mk a) (Vm.Alike.refl U.vm) h3, fun j a1 a2 => vk_R.same (u := U) (U := U.calling g mk a) rfl (h4 j a1 a2), vk_S.moved (u := U) (U := U.calling g mk a) (Vm.Alike.refl U.vm) h5.1, hq_sx.moved (u := U) (U := U.calling g mk a) (Vm.Alike.refl U.vm) h5.2⟩
def jd_C (p : Program) (s : State) (m : MethodId) (args : Array Value) (c : Code) (D : va_G) (cy : hq_C3) (ad av : Nat → Nat) (Ts : List Cond) (cc : ByteArray) (own : String) (nL : Nat) : Prop :=
  p.tables.exec = Jvm.exec ∧ c.code = cc ∧ c.maxLocals = nL ∧ s.vm.findClass own = some m.cls ∧ (∀ w ∈ Ts, w.before args s = true) ∧ (∀ w ∈ hq_tbl, w ∈ Ts) ∧ va_K D vwCl (hq_tys cy) s ∧ hq_str ad av (hq_A ad) s s.heap
theorem jd_of {l : Launch} {y : MethodName} {b : ByteArray} {mL : Nat} {ret : Option FieldType} {D : va_G} {cy : hq_C3} {ad av : Nat → Nat} {d : Nat} {vs : List Value} {v : Option Value} {σ : hq_St} (hpl : plainName y.cls = true) (hlen : (lg_sl vs).length ≤ mL)
    (k : ∀ (p : Program) (e : Env) (s : State) (m : MethodId) (below : List Frame) (meth : Method) (c : Code) (ls : Array Slot) (R : Room), jd_C p s m vs.toArray c D cy ad av (Cond.code y b mL ret :: hq_tbl) b y.cls mL → meth.sig.returnType = ret → meth.locks = false → lv_has ls mL (lv_args 0 vs) → R.frames = d ∧ R.locals = 64 * d ∧ R.cells = 0 ∧ R.slots = 0 → va_P D vwCl (hq_ws cy ad σ) s.heap → W p l e R s m vs.toArray below meth c s.heap [] 0 0 (MQ below (hq_post D cy ad v σ) vs.toArray s 0 0 (hq_A ad)) (F0 m 0 ls [])) : jd_M l y b mL ret D cy ad av d vs v σ := by
  refine Met.ofW (cc := b) (maxL := mL) (ret := ret) hpl rfl ?_
  intro p e s m args below meth c s₁ B hml hv
  obtain ⟨rfl, hP, hK, hstr⟩ := hv
  rw [lg_entry_eq]
  exact k p e s m below meth c _ _ ⟨B.exec, B.bytes, hml, findClass_of_methodNamed B.named, atoms_spec (ws := Cond.code y b mL ret :: hq_tbl) B.pre, fun w hw => List.mem_cons_of_mem _ hw, hK, hstr⟩ B.returns B.notSynchronized (lv_entry vs hlen) ⟨rfl, rfl, rfl, rfl⟩ hP
section JD
variable {p : Program} {l : Launch} {e : Env} {R : Room} {s : State} {m : MethodId} {args : Array Value} {below : List Frame} {meth : Method} {c : Code} {H : Heap} {locs : List Loc} {cells slots : Nat} {Q : State → Prop} {D : va_G} {cy : hq_C3} {ad av : Nat → Nat} {Ts : List Cond} {cc : ByteArray} {own : String} {nL : Nat} {ls : Array Slot} {y : MethodName} {b : ByteArray} {mL : Nat} {ret : Option FieldType} {d' k pc : Nat} {vs rest st : List Value} {v : Option Value} {σ : hq_St}
theorem jd_good (w1 : Cond.code y b mL ret ∈ hq_tbl) (hin : ∀ w ∈ hq_tbl, w ∈ Ts) : GoodIn Ts (Cond.code y b mL ret :: hq_tbl) := by
  intro w hw
  have h1 : w ∈ hq_tbl := by
    rcases List.mem_cons.mp hw with rfl | h2
    · exact w1
    · exact h2
  exact ⟨hin w h1, (hq_good w h1).2⟩
theorem jd_prem (C : jd_C p s m args c D cy ad av Ts cc own nL) (hP : va_P D vwCl (hq_ws cy ad σ) H) (hS : va_S (hq_A ad) s.heap H locs) (U : State) (hU : U.heap = H) (hW : s.WarmedH U.vm) : jd_pre D cy ad av vs σ vs.toArray U := by
  obtain ⟨hx, hb, hml, hown, hts, hin, hK, hstr⟩ := C
  exact ⟨rfl, by rw [hU]; exact hP, va_K.moved hW.alike hK, fun j a1 a2 => vk_R.warm hW (hstr.1 j a1 a2), by rw [hU]; exact ⟨vk_S.moved hW.alike (hstr.2.1.kept hS.2.1), hq_sx.moved hW.alike (hstr.2.2.kept hS.2.1)⟩⟩
/-- a static call -/
theorem jd_cS (C : jd_C p s m args c D cy ad av Ts cc own nL) (hm : jd_M l y b mL ret D cy ad av d' vs v σ) (w1 : Cond.code y b mL ret ∈ hq_tbl) (w2 : Cond.initialized y.cls ∈ hq_tbl) (w3 : Cond.methodLink own k y ∈ hq_tbl) (w4 : Cond.static y ∈ hq_tbl) (hy : y.cls ≠ "java/lang/invoke/MethodHandle" ∧ y.cls ≠ "java/lang/invoke/VarHandle" ∧ (parseMethodDescriptor y.desc).map (fun d => d.parameters.length) = some vs.length) (hR : d' + 1 ≤ R.frames ∧ 64 * (d' + 1) ≤ R.locals ∧ cells ≤ R.cells ∧ slots ≤ R.slots) (hmL : mL ≤ 45) (hsz : ls.size = nL) (hP : va_P D vwCl (hq_ws cy ad σ) H) (hS : va_S (hq_A ad) s.heap H locs) (hst : st = vs.reverse ++ rest) (hc : (rest.map fun v => v.category).sum ≤ 8) (hdg : decode cc pc = .ok (.invokestatic k, 3))
    (kk : ∀ (H1 : Heap) (locs1 : List Loc), va_P D vwCl (hq_ws cy ad σ) H1 → va_S (hq_A ad) s.heap H1 locs1 → W p l e R s m args below meth c H1 locs1 cells slots Q (F0 m (pc + 3) ls ((v.map (hq_vm ad)).toList ++ rest))) : W p l e R s m args below meth c H locs cells slots Q (F0 m pc ls st) := by
  have C2 := C
  obtain ⟨hx, hb, hml, hown, hts, hin, hK, hstr⟩ := C
  have hroom : (hq_rm d').frames + 1 ≤ R.frames ∧ 8 + (mL + 11) + (hq_rm d').locals ≤ R.locals := by
    refine ⟨hR.1, ?_⟩
    show 8 + (mL + 11) + 64 * d' ≤ R.locals
    omega
  exact hq_callk (va_runS (As := vs) (rest := rest) (g := F0 m pc ls st) ⟨hx, hb, hml, hown, hts⟩ hm ⟨callB_of vs.length hts (jd_good w1 hin) rfl rfl rfl (hts _ (hin _ w2)) (hts _ (hin _ w3)) hy hroom, hts _ (hin _ w4)⟩ ⟨jd_blind, jd_prem C2 hP hS⟩ rfl rfl hsz hst (by show 2 * 0 + _ ≤ 8; omega) hdg hR.2.2) hS (fun i hi => ⟨i, hi, rfl⟩) kk
/-- a call of a String's own method -/
theorem jd_cV {q : Nat} (C : jd_C p s m args c D cy ad av Ts cc own nL) (hm : jd_M l y b mL ret D cy ad av d' (.ref q :: vs) v σ) (w1 : Cond.code y b mL ret ∈ hq_tbl) (w2 : Cond.initialized y.cls ∈ hq_tbl) (w3 : Cond.methodLink own k y ∈ hq_tbl) (w4 : Cond.instanceMethod y ∈ hq_tbl) (w5 : Cond.selects y.cls y y ∈ hq_tbl) (hy : y.cls ≠ "java/lang/invoke/MethodHandle" ∧ y.cls ≠ "java/lang/invoke/VarHandle" ∧ (parseMethodDescriptor y.desc).map (fun d => d.parameters.length) = some vs.length) (hrec : ∃ cell : Cell, H[q]? = some cell ∧ cell.vm.isStatics = false ∧ s.vm.findClass y.cls = some cell.cls) (hR : d' + 1 ≤ R.frames ∧ 64 * (d' + 1) ≤ R.locals ∧ cells ≤ R.cells ∧ slots ≤ R.slots) (hmL : mL ≤ 45) (hsz : ls.size = nL) (hP : va_P D vwCl (hq_ws cy ad σ) H) (hS : va_S (hq_A ad) s.heap H locs) (hst : st = vs.reverse ++ .ref q :: rest) (hc : (rest.map fun v => v.category).sum ≤ 8) (hdg : decode cc pc = .ok (.invokevirtual k, 3))
    (kk : ∀ (H1 : Heap) (locs1 : List Loc), va_P D vwCl (hq_ws cy ad σ) H1 → va_S (hq_A ad) s.heap H1 locs1 → W p l e R s m args below meth c H1 locs1 cells slots Q (F0 m (pc + 3) ls ((v.map (hq_vm ad)).toList ++ rest))) : W p l e R s m args below meth c H locs cells slots Q (F0 m pc ls st) := by
  have C2 := C
  obtain ⟨hx, hb, hml, hown, hts, hin, hK, hstr⟩ := C
  have hroom : (hq_rm d').frames + 1 ≤ R.frames ∧ 8 + (mL + 11) + (hq_rm d').locals ≤ R.locals := by
    refine ⟨hR.1, ?_⟩
    show 8 + (mL + 11) + 64 * d' ≤ R.locals
    omega
  exact hq_callk (va_runV (b := q) (As := vs) (rest := rest) (g := F0 m pc ls st) (C := y.cls) ⟨hx, hb, hml, hown, hts⟩ hm ⟨callB_of vs.length hts (jd_good w1 hin) rfl rfl rfl (hts _ (hin _ w2)) (hts _ (hin _ w3)) hy hroom, hts _ (hin _ w4), hts _ (hin _ w5)⟩ ⟨jd_blind, hrec, jd_prem C2 hP hS⟩ rfl rfl hsz hst (by show 2 * 0 + _ ≤ 8; omega) hdg hR.2.2) hS (fun i hi => ⟨i, hi, rfl⟩) kk
end JD
def jy_len : MethodName := ⟨"java/lang/String", "length", "()I"⟩
def jy_cod : MethodName := ⟨"java/lang/String", "coder", "()B"⟩
def jy_chr : MethodName := ⟨"java/lang/String", "charAt", "(I)C"⟩
def jy_lat : MethodName := ⟨"java/lang/String", "isLatin1", "()Z"⟩
def jy_chl : MethodName := ⟨"java/lang/StringLatin1", "charAt", "([BI)C"⟩
def jy_chk : MethodName := ⟨"java/lang/String", "checkIndex", "(II)V"⟩
def jy_pre : MethodName := ⟨"jdk/internal/util/Preconditions", "checkIndex", "(IILjava/util/function/BiFunction;)I"⟩
theorem jw_len : Cond.code jy_len prog_20_method_54_code 1 (some .int) ∈ hq_tbl := hq_w_in (ts := [6, 31]) (by decide +kernel) rfl
theorem jw_cod : Cond.code jy_cod prog_20_method_152_code 1 (some .byte) ∈ hq_tbl := hq_w_in (ts := [6, 35]) (by decide +kernel) rfl
theorem jw_chr : Cond.code jy_chr prog_20_method_56_code 2 (some .char) ∈ hq_tbl := hq_w_in (ts := [6, 41]) (by decide +kernel) rfl
theorem jw_lat : Cond.code jy_lat prog_20_method_154_code 1 (some .boolean) ∈ hq_tbl := hq_w_in (ts := [6, 45]) (by decide +kernel) rfl
theorem jw_chl : Cond.code jy_chl prog_21_method_2_code 2 (some .char) ∈ hq_tbl := hq_w_in (ts := [6, 48]) (by decide +kernel) rfl
theorem jw_chk : Cond.code jy_chk prog_20_method_155_code 2 none ∈ hq_tbl := hq_w_in (ts := [6, 51]) (by decide +kernel) rfl
theorem jw_pre : Cond.code jy_pre prog_28_method_11_code 3 (some .int) ∈ hq_tbl := hq_w_in (ts := [6, 56]) (by decide +kernel) rfl
theorem ji_S : Cond.initialized "java/lang/String" ∈ hq_tbl := hq_w_in (ts := [1, 13]) (by decide +kernel) rfl
theorem ji_L : Cond.initialized "java/lang/StringLatin1" ∈ hq_tbl := hq_w_in (ts := [1, 14]) (by decide +kernel) rfl
theorem ji_P : Cond.initialized "jdk/internal/util/Preconditions" ∈ hq_tbl := hq_w_in (ts := [1, 15]) (by decide +kernel) rfl
theorem jf_9 : Cond.fieldLink "java/lang/String" 9 "java/lang/String" "value" "[B" ∈ hq_tbl := hq_w_in (ts := [8, 221]) (by decide +kernel) rfl
theorem jf_15 : Cond.fieldLink "java/lang/String" 15 "java/lang/String" "coder" "B" ∈ hq_tbl := hq_w_in (ts := [8, 222]) (by decide +kernel) rfl
theorem jf_38 : Cond.fieldLink "java/lang/String" 38 "java/lang/String" "COMPACT_STRINGS" "Z" ∈ hq_tbl := hq_w_in (ts := [6, 36]) (by decide +kernel) rfl
theorem jf_1053 : Cond.fieldLink "java/lang/String" 1053 "jdk/internal/util/Preconditions" "SIOOBE_FORMATTER" "Ljava/util/function/BiFunction;" ∈ hq_tbl := hq_w_in (ts := [6, 52]) (by decide +kernel) rfl
theorem jl_335 : Cond.methodLink "java/lang/String" 335 jy_cod ∈ hq_tbl := hq_w_in (ts := [6, 32]) (by decide +kernel) rfl
theorem jl_492 : Cond.methodLink "java/lang/String" 492 jy_lat ∈ hq_tbl := hq_w_in (ts := [6, 42]) (by decide +kernel) rfl
theorem jl_495 : Cond.methodLink "java/lang/String" 495 jy_chl ∈ hq_tbl := hq_w_in (ts := [6, 46]) (by decide +kernel) rfl
theorem jl_9 : Cond.methodLink "java/lang/StringLatin1" 9 jy_chk ∈ hq_tbl := hq_w_in (ts := [6, 49]) (by decide +kernel) rfl
theorem jl_1059 : Cond.methodLink "java/lang/String" 1059 jy_pre ∈ hq_tbl := hq_w_in (ts := [6, 54]) (by decide +kernel) rfl
theorem jy_pre_ok : jy_pre.cls ≠ "java/lang/invoke/MethodHandle" ∧ jy_pre.cls ≠ "java/lang/invoke/VarHandle" ∧ (parseMethodDescriptor jy_pre.desc).map (fun d => d.parameters.length) = some 3 := by decide +kernel
theorem jy_chk_ok : jy_chk.cls ≠ "java/lang/invoke/MethodHandle" ∧ jy_chk.cls ≠ "java/lang/invoke/VarHandle" ∧ (parseMethodDescriptor jy_chk.desc).map (fun d => d.parameters.length) = some 2 := by decide +kernel
theorem jy_chl_ok : jy_chl.cls ≠ "java/lang/invoke/MethodHandle" ∧ jy_chl.cls ≠ "java/lang/invoke/VarHandle" ∧ (parseMethodDescriptor jy_chl.desc).map (fun d => d.parameters.length) = some 2 := by decide +kernel
theorem jy_chr_ok : jy_chr.cls ≠ "java/lang/invoke/MethodHandle" ∧ jy_chr.cls ≠ "java/lang/invoke/VarHandle" ∧ (parseMethodDescriptor jy_chr.desc).map (fun d => d.parameters.length) = some 1 := by decide +kernel
section JE
variable {l : Launch} {D : va_G} {cy : hq_C3} {ad av : Nat → Nat} {σ : hq_St}
theorem jm_pre (d : Nat) {i n : Int32} {w : Value} (hw : w = .null ∨ ∃ t, w = .ref t) (h1 : ¬ i < 0) (h2 : i < n) : jd_M l jy_pre prog_28_method_11_code 3 (some .int) D cy ad av d [.int i, .int n, w] (some (.int i)) σ := by
  refine jd_of rfl (by rcases hw with rfl | ⟨t, rfl⟩ <;> exact Nat.le_of_ble_eq_true rfl) ?_
  intro p e s m below meth c ls R C hr hlocks hl hR hP
  obtain ⟨hx, hb, hml, hown, hts, hin, hK, hstr⟩ := C
  refine lv_iload_n hx hb (by decide +kernel : decode prog_28_method_11_code 0 = .ok (.iload_n 0, 1)) rfl (lv_at hl 0 rfl) ?_
  refine lv_if_lt hx hb (by decide +kernel : decode prog_28_method_11_code 1 = .ok (.ifCond .lt 8, 3)) rfl (fun h => absurd h h1) (fun _ => ?_)
  refine lv_iload_n hx hb (by decide +kernel : decode prog_28_method_11_code 4 = .ok (.iload_n 0, 1)) rfl (lv_at hl 0 rfl) ?_
  refine lv_iload_n hx hb (by decide +kernel : decode prog_28_method_11_code 5 = .ok (.iload_n 1, 1)) rfl (lv_at hl 1 rfl) ?_
  refine lv_icmp_lt hx hb (by decide +kernel : decode prog_28_method_11_code 6 = .ok (.if_icmp .lt 10, 3)) rfl (fun _ => ?_) (fun h => absurd h2 h)
  refine lv_iload_n hx hb (by decide +kernel : decode prog_28_method_11_code 16 = .ok (.iload_n 0, 1)) rfl (lv_at hl 0 rfl) ?_
  exact W.iret hx hb hr (fun t ht hW => ⟨rfl, by rw [ht]; exact hP, va_S.rf.F ht⟩) (fun q hq => nomatch hq) (by decide +kernel : decode prog_28_method_11_code 17 = .ok (.ireturn, 1))
theorem jm_chk (d : Nat) {i n : Int32} (h1 : ¬ i < 0) (h2 : i < n) : jd_M l jy_chk prog_20_method_155_code 2 none D cy ad av (d + 1) [.int i, .int n] none σ := by
  refine jd_of rfl (Nat.le_of_ble_eq_true rfl) ?_
  intro p e s m below meth c ls R C hr hlocks hl hR hP
  have C2 := C
  obtain ⟨hx, hb, hml, hown, hts, hin, hK, hstr⟩ := C
  refine lv_iload_n hx hb (by decide +kernel : decode prog_20_method_155_code 0 = .ok (.iload_n 0, 1)) rfl (lv_at hl 0 rfl) ?_
  refine lv_iload_n hx hb (by decide +kernel : decode prog_20_method_155_code 1 = .ok (.iload_n 1, 1)) rfl (lv_at hl 1 rfl) ?_
  have hz : ∃ w : Value, (w = .null ∨ ∃ t, w = .ref t) ∧ va_Z "jdk/internal/util/Preconditions" "SIOOBE_FORMATTER" "Ljava/util/function/BiFunction;" w (hq_A ad) s s.heap := by
    rcases hstr.2.2.2 with h | ⟨t, h⟩
    · exact ⟨_, Or.inl rfl, h⟩
    · exact ⟨_, Or.inr ⟨t, rfl⟩, h⟩
  obtain ⟨w, hw, hz⟩ := hz
  refine va_gets hx hb hz va_S.rf hown (hts _ (hin _ jf_1053)) (fun _ h => h) (by decide +kernel : decode prog_20_method_155_code 2 = .ok (.getstatic 1053, 3)) ?_
  refine jd_cS C2 (jm_pre d hw h1 h2) jw_pre ji_P jl_1059 (hq_w_in (ts := [6, 55]) (by decide +kernel) rfl) jy_pre_ok ⟨by omega, by omega, by omega, by omega⟩ (by decide) hl.1 hP va_S.rf (rest := []) (pc := 5) rfl (by decide) (by decide +kernel) (fun H1 locs1 hP1 hS1 => ?_)
  refine lv_pop hx hb (by decide +kernel : decode prog_20_method_155_code 8 = .ok (.pop, 1)) rfl ?_
  exact W.vret hx hb hr (fun t ht hW => ⟨rfl, by rw [ht]; exact hP1, hS1.F ht⟩) hS1.2.2 (by decide +kernel : decode prog_20_method_155_code 9 = .ok (.return_, 1))
theorem jm_cod (d : Nat) {j : Nat} (hj : j < 17) : jd_M l jy_cod prog_20_method_152_code 1 (some .byte) D cy ad av d [.ref (ad (1000 + j))] (some (.int 0)) σ := by
  refine jd_of rfl (Nat.le_of_ble_eq_true rfl) ?_
  intro p e s m below meth c ls R C hr hlocks hl hR hP
  obtain ⟨hx, hb, hml, hown, hts, hin, hK, hstr⟩ := C
  refine va_gets hx hb hstr.2.2.1 va_S.rf hown (hts _ (hin _ jf_38)) (fun _ h => h) (by decide +kernel : decode prog_20_method_152_code 0 = .ok (.getstatic 38, 3)) ?_
  refine lv_if_eq hx hb (by decide +kernel : decode prog_20_method_152_code 3 = .ok (.ifCond .eq 10, 3)) (tgt := 13) rfl (fun h => absurd h (by decide)) (fun _ => ?_)
  refine lv_aload_n hx hb (by decide +kernel : decode prog_20_method_152_code 6 = .ok (.aload_n 0, 1)) rfl (lv_at hl 0 rfl) ?_
  refine vk_getf hx hb (hstr.2.1.1 j hj).2.1 va_S.rf hown (hts _ (hin _ jf_15)) (fun _ h => h) (by decide +kernel : decode prog_20_method_152_code 7 = .ok (.getfield 15, 3)) ?_
  refine lv_goto hx hb (by decide +kernel : decode prog_20_method_152_code 10 = .ok (.goto 4, 3)) (tgt := 14) rfl ?_
  exact W.zret hx hb hr rfl (fun t ht hW => ⟨rfl, by rw [ht]; exact hP, va_S.rf.F ht⟩) (fun q hq => nomatch hq) (by decide +kernel : decode prog_20_method_152_code 14 = .ok (.ireturn, 1))
theorem jm_lat (d : Nat) {j : Nat} (hj : j < 17) : jd_M l jy_lat prog_20_method_154_code 1 (some .boolean) D cy ad av d [.ref (ad (1000 + j))] (some (.int 1)) σ := by
  refine jd_of rfl (Nat.le_of_ble_eq_true rfl) ?_
  intro p e s m below meth c ls R C hr hlocks hl hR hP
  obtain ⟨hx, hb, hml, hown, hts, hin, hK, hstr⟩ := C
  refine va_gets hx hb hstr.2.2.1 va_S.rf hown (hts _ (hin _ jf_38)) (fun _ h => h) (by decide +kernel : decode prog_20_method_154_code 0 = .ok (.getstatic 38, 3)) ?_
  refine lv_if_eq hx hb (by decide +kernel : decode prog_20_method_154_code 3 = .ok (.ifCond .eq 14, 3)) (tgt := 17) rfl (fun h => absurd h (by decide)) (fun _ => ?_)
  refine lv_aload_n hx hb (by decide +kernel : decode prog_20_method_154_code 6 = .ok (.aload_n 0, 1)) rfl (lv_at hl 0 rfl) ?_
  refine vk_getf hx hb (hstr.2.1.1 j hj).2.1 va_S.rf hown (hts _ (hin _ jf_15)) (fun _ h => h) (by decide +kernel : decode prog_20_method_154_code 7 = .ok (.getfield 15, 3)) ?_
  refine lv_if_ne hx hb (by decide +kernel : decode prog_20_method_154_code 10 = .ok (.ifCond .ne 7, 3)) (tgt := 17) rfl (fun h => absurd rfl h) (fun _ => ?_)
  refine lv_iconst hx hb (by decide +kernel : decode prog_20_method_154_code 13 = .ok (.iconst 1, 1)) rfl ?_
  refine lv_goto hx hb (by decide +kernel : decode prog_20_method_154_code 14 = .ok (.goto 4, 3)) (tgt := 18) rfl ?_
  exact W.zret hx hb hr rfl (fun t ht hW => ⟨rfl, by rw [ht]; exact hP, va_S.rf.F ht⟩) (fun q hq => nomatch hq) (by decide +kernel : decode prog_20_method_154_code 18 = .ok (.ireturn, 1))
theorem jd_sl : ∀ j, j < 17 → hq_slen.getD j 0 = (hq_sbyt.getD j []).length ∧ (hq_sbyt.getD j []).length < 100 ∧ ∀ x ∈ hq_sbyt.getD j [], x &&& 255 = x := by decide +kernel
theorem jd_bt {j k : Nat} (hj : j < 17) : ((hq_sbyt.getD j []).getD k 0) &&& 255 = (hq_sbyt.getD j []).getD k 0 := by
  rw [List.getD_eq_getElem?_getD]
  cases h : (hq_sbyt.getD j [])[k]? with
  | none => rfl
  | some x => exact (jd_sl j hj).2.2 x (List.mem_of_getElem? h)
theorem jm_chl (d : Nat) {j k : Nat} (hj : j < 17) (hk : k < (hq_sbyt.getD j []).length) : jd_M l jy_chl prog_21_method_2_code 2 (some .char) D cy ad av (d + 2) [.ref (av j), .int (nI k)] (some (.int ((hq_sbyt.getD j []).getD k 0))) σ := by
  refine jd_of rfl (Nat.le_of_ble_eq_true rfl) ?_
  intro p e s m below meth c ls R C hr hlocks hl hR hP
  have C2 := C
  obtain ⟨hx, hb, hml, hown, hts, hin, hK, hstr⟩ := C
  obtain ⟨e1, e2, e3⟩ := jd_sl j hj
  have hT := (hstr.2.1.1 j hj).2.2.2
  rw [e1] at hT
  refine lv_iload_n hx hb (by decide +kernel : decode prog_21_method_2_code 0 = .ok (.iload_n 1, 1)) rfl (lv_at hl 1 rfl) ?_
  refine lv_aload_n hx hb (by decide +kernel : decode prog_21_method_2_code 1 = .ok (.aload_n 0, 1)) rfl (lv_at hl 0 rfl) ?_
  refine va_tlen hx hb hT va_S.rf rfl (by decide +kernel : decode prog_21_method_2_code 2 = .ok (.arraylength, 1)) ?_
  refine jd_cS C2 (jm_chk (i := nI k) (n := Int32.ofNat (hq_sbyt.getD j []).length) d (nI_pos (by omega)) (nI_lt hk (by omega))) jw_chk ji_S jl_9 (hq_w_in (ts := [6, 50]) (by decide +kernel) rfl) jy_chk_ok ⟨by omega, by omega, by omega, by omega⟩ (by decide) hl.1 hP va_S.rf (rest := []) (pc := 3) rfl (by decide) (by decide +kernel) (fun H1 locs1 hP1 hS1 => ?_)
  refine lv_aload_n hx hb (by decide +kernel : decode prog_21_method_2_code 6 = .ok (.aload_n 0, 1)) rfl (lv_at hl 0 rfl) ?_
  refine lv_iload_n hx hb (by decide +kernel : decode prog_21_method_2_code 7 = .ok (.iload_n 1, 1)) rfl (lv_at hl 1 rfl) ?_
  refine va_tb hx hb hT hS1 (vp_in_nI hk (by omega)) rfl (by decide +kernel : decode prog_21_method_2_code 8 = .ok (.baload, 1)) ?_
  rw [nI_clamp (by omega)]
  refine lv_sipush hx hb (by decide +kernel : decode prog_21_method_2_code 9 = .ok (.sipush 255, 3)) (v := 255) (by decide) ?_
  refine lv_iand hx hb (by decide +kernel : decode prog_21_method_2_code 12 = .ok (.iand, 1)) ?_
  refine lv_i2c hx hb (by decide +kernel : decode prog_21_method_2_code 13 = .ok (.i2c, 1)) (sc_c2 _) ?_
  refine W.zret hx hb hr (sc_nar _) (fun t ht hW => ⟨?_, by rw [ht]; exact hP1, hS1.F ht⟩) hS1.2.2 (by decide +kernel : decode prog_21_method_2_code 14 = .ok (.ireturn, 1))
  rw [jd_bt hj]
  rfl
theorem jm_len (d : Nat) {j : Nat} (hj : j < 17) : jd_M l jy_len prog_20_method_54_code 1 (some .int) D cy ad av (d + 1) [.ref (ad (1000 + j))] (some (.int (nI (hq_sbyt.getD j []).length))) σ := by
  refine jd_of rfl (Nat.le_of_ble_eq_true rfl) ?_
  intro p e s m below meth c ls R C hr hlocks hl hR hP
  have C2 := C
  obtain ⟨hx, hb, hml, hown, hts, hin, hK, hstr⟩ := C
  obtain ⟨e1, e2, e3⟩ := jd_sl j hj
  have hT := (hstr.2.1.1 j hj).2.2.2
  rw [e1] at hT
  refine lv_aload_n hx hb (by decide +kernel : decode prog_20_method_54_code 0 = .ok (.aload_n 0, 1)) rfl (lv_at hl 0 rfl) ?_
  refine vk_getf hx hb (hstr.2.1.1 j hj).2.2.1 va_S.rf hown (hts _ (hin _ jf_9)) (fun _ h => h) (by decide +kernel : decode prog_20_method_54_code 1 = .ok (.getfield 9, 3)) ?_
  refine va_tlen hx hb hT va_S.rf rfl (by decide +kernel : decode prog_20_method_54_code 4 = .ok (.arraylength, 1)) ?_
  refine lv_aload_n hx hb (by decide +kernel : decode prog_20_method_54_code 5 = .ok (.aload_n 0, 1)) rfl (lv_at hl 0 rfl) ?_
  refine jd_cV (vs := []) C2 (jm_cod d hj) jw_cod ji_S jl_335 (hq_w_in (ts := [6, 33]) (by decide +kernel) rfl) (hq_w_in (ts := [6, 34]) (by decide +kernel) rfl) (by decide +kernel) (vk_recv (i := j) (adK := fun i => ad (1000 + i)) hstr.2.1 hj va_S.rf) ⟨by omega, by omega, by omega, by omega⟩ (by decide) hl.1 hP va_S.rf (rest := [.int (Int32.ofNat (hq_sbyt.getD j []).length)]) (pc := 6) rfl (Nat.le_of_ble_eq_true rfl) (by decide +kernel) (fun H1 locs1 hP1 hS1 => ?_)
  refine lv_ishr hx hb (by decide +kernel : decode prog_20_method_54_code 9 = .ok (.ishr, 1)) ?_
  refine W.iret hx hb hr (fun t ht hW => ⟨?_, by rw [ht]; exact hP1, hS1.F ht⟩) hS1.2.2 (by decide +kernel : decode prog_20_method_54_code 10 = .ok (.ireturn, 1))
  have := sc_shr0 (n := (hq_sbyt.getD j []).length) (by omega)
  rw [show Int32.ofNat (hq_sbyt.getD j []).length = nI (hq_sbyt.getD j []).length from rfl, this]
  rfl
theorem jm_chr (d : Nat) {j k : Nat} (hj : j < 17) (hk : k < (hq_sbyt.getD j []).length) : jd_M l jy_chr prog_20_method_56_code 2 (some .char) D cy ad av (d + 3) [.ref (ad (1000 + j)), .int (nI k)] (some (.int ((hq_sbyt.getD j []).getD k 0))) σ := by
  refine jd_of rfl (Nat.le_of_ble_eq_true rfl) ?_
  intro p e s m below meth c ls R C hr hlocks hl hR hP
  have C2 := C
  obtain ⟨hx, hb, hml, hown, hts, hin, hK, hstr⟩ := C
  refine lv_aload_n hx hb (by decide +kernel : decode prog_20_method_56_code 0 = .ok (.aload_n 0, 1)) rfl (lv_at hl 0 rfl) ?_
  refine jd_cV (vs := []) C2 (jm_lat d hj) jw_lat ji_S jl_492 (hq_w_in (ts := [6, 43]) (by decide +kernel) rfl) (hq_w_in (ts := [6, 44]) (by decide +kernel) rfl) (by decide +kernel) (vk_recv (i := j) (adK := fun i => ad (1000 + i)) hstr.2.1 hj va_S.rf) ⟨by omega, by omega, by omega, by omega⟩ (by decide) hl.1 hP va_S.rf (rest := []) (pc := 1) rfl (by decide) (by decide +kernel) (fun H1 locs1 hP1 hS1 => ?_)
  refine lv_if_eq hx hb (by decide +kernel : decode prog_20_method_56_code 4 = .ok (.ifCond .eq 12, 3)) (tgt := 16) rfl (fun h => absurd h (by decide)) (fun _ => ?_)
  refine lv_aload_n hx hb (by decide +kernel : decode prog_20_method_56_code 7 = .ok (.aload_n 0, 1)) rfl (lv_at hl 0 rfl) ?_
  refine vk_getf hx hb (hstr.2.1.1 j hj).2.2.1 hS1 hown (hts _ (hin _ jf_9)) (fun _ h => h) (by decide +kernel : decode prog_20_method_56_code 8 = .ok (.getfield 9, 3)) ?_
  refine lv_iload_n hx hb (by decide +kernel : decode prog_20_method_56_code 11 = .ok (.iload_n 1, 1)) rfl (lv_at hl 1 rfl) ?_
  refine jd_cS C2 (jm_chl d hj hk) jw_chl ji_L jl_495 (hq_w_in (ts := [6, 47]) (by decide +kernel) rfl) jy_chl_ok ⟨by omega, by omega, by omega, by omega⟩ (by decide) hl.1 hP1 hS1 (rest := []) (pc := 12) rfl (by decide) (by decide +kernel) (fun H2 locs2 hP2 hS2 => ?_)
  have hn : narrow .char (.int ((hq_sbyt.getD j []).getD k 0)) = .int ((hq_sbyt.getD j []).getD k 0) := by
    have := sc_nar ((hq_sbyt.getD j []).getD k 0)
    rw [jd_bt hj] at this
    exact this
  exact W.zret hx hb hr hn (fun t ht hW => ⟨rfl, by rw [ht]; exact hP2, hS2.F ht⟩) hS2.2.2 (by decide +kernel : decode prog_20_method_56_code 15 = .ok (.ireturn, 1))
end JE
