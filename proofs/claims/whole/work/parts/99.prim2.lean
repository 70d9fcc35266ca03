/-! The primitive 'among' of the reference -/
def pjM (x : Nat) : MethodName := if x = 921 then jy_len else if x = 922 then jy_chr else hq_pjL x
def tbM : List hq_E := [(0, .iconst 0, 0, 0, []), (1, .istore_n 2, 0, 0, []), (2, .iload_n 2, 0, 0, []), (3, .aload_n 1, 0, 0, []), (4, .invokevirtual 60, 921, 0, [6, 28]), (7, .if_icmp .ge 39, 24, 0, []), (10, .aload_n 0, 0, 0, []), (11, .getfield 37, 10, 16, [8, 64]), (14, .aload_n 0, 0, 0, []), (15, .getfield 49, 10, 17, [8, 65]), (18, .if_icmp .ge 28, 24, 0, []), (21, .aload_n 1, 0, 0, []), (22, .iload_n 2, 0, 0, []), (23, .invokevirtual 66, 922, 0, [6, 38]), (26, .aload_n 0, 0, 0, []), (27, .getfield 33, 10, 14, [8, 62]), (30, .aload_n 0, 0, 0, []), (31, .getfield 37, 10, 16, [8, 64]), (34, .iaload, 0, 0, []), (35, .if_icmp .ne 5, 22, 0, []), (38, .iload_n 2, 0, 0, []), (39, .ireturn, 0, 0, []), (40, .iinc 2 1, 0, 0, []), (43, .goto (-41), 2, 0, []), (46, .iconst (-1), 0, 0, []), (47, .ireturn, 0, 0, [])]
theorem tbM_ok : tbM.zipIdx.all (fun z => hq_eokb pjM hq_sr tbM prog_12_method_17_code "HingesOnHireModel" z.2 z.1) = true := by decide +kernel
theorem am_out {σ : hq_St} {bs : List Int32} (h : ¬ σ.1 52 16 < σ.1 52 17) : hq_amongN σ bs = -1 := by
  unfold hq_amongN
  rw [if_neg h]
theorem am_none {σ : hq_St} {bs : List Int32} (h2 : σ.1 52 16 < σ.1 52 17 → ∀ i, i < bs.length → bs.getD i 0 ≠ σ.1 62 (σ.1 52 16).toNatClampNeg) : hq_amongN σ bs = -1 := by
  by_cases h : σ.1 52 16 < σ.1 52 17
  · unfold hq_amongN
    rw [if_pos h]
    have : bs.findIdx? (fun c => c == σ.1 62 (σ.1 52 16).toNatClampNeg) = none := by
      rw [List.findIdx?_eq_none_iff]
      intro x hx
      obtain ⟨i, hi, rfl⟩ := List.mem_iff_getElem.mp hx
      have := h2 h i hi
      rw [List.getD_eq_getElem?_getD, List.getElem?_eq_getElem hi] at this
      exact beq_eq_false_iff_ne.mpr this
    rw [this]
  · exact am_out h
theorem am_hit {σ : hq_St} {bs : List Int32} {k : Nat} (h : σ.1 52 16 < σ.1 52 17) (hk : k < bs.length) (h1 : bs.getD k 0 = σ.1 62 (σ.1 52 16).toNatClampNeg) (h2 : ∀ i, i < k → bs.getD i 0 ≠ σ.1 62 (σ.1 52 16).toNatClampNeg) : hq_amongN σ bs = nI k := by
  unfold hq_amongN
  rw [if_pos h]
  have : bs.findIdx? (fun c => c == σ.1 62 (σ.1 52 16).toNatClampNeg) = some k := by
    rw [List.findIdx?_eq_some_iff_getElem]
    refine ⟨hk, ?_, fun i hi => ?_⟩
    · rw [List.getD_eq_getElem?_getD, List.getElem?_eq_getElem hk] at h1
      exact beq_iff_eq.mpr h1
    · have := h2 i hi
      rw [List.getD_eq_getElem?_getD, List.getElem?_eq_getElem (by omega)] at this
      intro z
      exact this (beq_iff_eq.mp z)
  rw [this]
theorem pr_among (l : Launch) {σ : hq_St} {j : Nat} (hj : j < 17) (hvp : σ.1 52 16 < σ.1 52 17 → vp_in (σ.1 52 16) 80) (D : va_G) (cy : hq_C3) (ad av : Nat → Nat) (d : Nat) (hinj : ∀ i j, i < hq_n → j < hq_n → ad i = ad j → i = j) (hd : 8 ≤ d) : hq_MetX l hq_pg hq_pjL hq_pb hq_pt D cy ad av d 181 [.ref 52, .ref (1000 + j)] σ (some (.int (hq_amongN σ (hq_sbyt.getD j [])))) σ := by
  obtain ⟨m1, m2, m3, m4, m5, m6, m7, r0, r1, r2, r3⟩ := hq_hML 181 (by decide)
  refine Met.ofW (cc := hq_pb 181) (maxL := (hq_pg 181).2.1) (ret := hq_pt 181) m3 rfl ?_
  intro p e s m args below meth c s₁ B hml hv
  obtain ⟨rfl, hP, hK, hstr⟩ := hv
  have hx := B.exec
  have hb : c.code = prog_12_method_17_code := B.bytes
  have hr : meth.sig.returnType = some .int := B.returns
  have hts := atoms_spec (ws := Cond.code (hq_pjL 181) (hq_pb 181) (hq_pg 181).2.1 (hq_pt 181) :: hq_tbl) B.pre
  have hown : s.vm.findClass "HingesOnHireModel" = some m.cls := findClass_of_methodNamed B.named
  have hlocks := B.notSynchronized
  have hin : ∀ w ∈ hq_tbl, w ∈ (Cond.code (hq_pjL 181) (hq_pb 181) (hq_pg 181).2.1 (hq_pt 181) :: hq_tbl) := fun w hw => List.mem_cons_of_mem _ hw
  rw [lg_entry_eq]
  have hl := lv_entry ([.ref 52, .ref (1000 + j)].map (hq_vm ad)) (n := 3) (Nat.le_of_ble_eq_true rfl)
  change W _ _ _ _ _ _ _ _ _ _ _ _ _ _ _ (F0 m 0 (lg_sl ([.ref 52, .ref (1000 + j)].map (hq_vm ad)) ++ List.replicate (3 - (lg_sl ([.ref 52, .ref (1000 + j)].map (hq_vm ad))).length) Slot.unset).toArray [])
  generalize (lg_sl ([.ref 52, .ref (1000 + j)].map (hq_vm ad)) ++ List.replicate (3 - (lg_sl ([.ref 52, .ref (1000 + j)].map (hq_vm ad))).length) Slot.unset).toArray = ls at hl ⊢
  have C : hq_ctx p s m ([.ref 52, .ref (1000 + j)].map (hq_vm ad)).toArray c D cy (hq_A ad) ad _ pjM hq_sr tbM prog_12_method_17_code "HingesOnHireModel" := ⟨hx, hb, hown, hts, hin, hK, hinj, fun i hi => ⟨i, hi, rfl⟩, fun i e he => List.all_eq_true.mp tbM_ok (e, i) (List.mem_zipIdx_iff_getElem?.mpr he), hstr.1⟩
  have J : jd_C p s m ([.ref 52, .ref (1000 + j)].map (hq_vm ad)).toArray c D cy ad av _ prog_12_method_17_code "HingesOnHireModel" 3 := ⟨hx, hb, hml, hown, hts, hin, hK, hstr⟩
  have hI : hq_now D cy ad (hq_A ad) s.heap s.heap [] ls 3 [some (.ref 52), some (.ref (1000 + j)), none] σ := ⟨hP, va_S.rf, hq_has_mono hl (fun q hq => hq), rfl⟩
  have hRf : d ≤ (headSpec (Cond.code (hq_pjL 181) (hq_pb 181) (hq_pg 181).2.1 (hq_pt 181) :: hq_tbl) (hq_rm d)).room.frames := Nat.le_refl d
  have hRl : 64 * d ≤ (headSpec (Cond.code (hq_pjL 181) (hq_pb 181) (hq_pg 181).2.1 (hq_pt 181) :: hq_tbl) (hq_rm d)).room.locals := Nat.le_refl (64 * d)
  generalize (headSpec (Cond.code (hq_pjL 181) (hq_pb 181) (hq_pg 181).2.1 (hq_pt 181) :: hq_tbl) (hq_rm d)).room = R at hRf hRl ⊢
  have hR0 : 1 ≤ R.frames ∧ 64 ≤ R.locals ∧ 0 ≤ R.cells ∧ 0 ≤ R.slots := ⟨by omega, by omega, Nat.zero_le _, Nat.zero_le _⟩
  obtain ⟨d3, rfl⟩ : ∃ d3, d = d3 + 8 := ⟨d - 8, by omega⟩
  obtain ⟨e1, e2, e3⟩ := jd_sl j hj
  generalize hbs : hq_sbyt.getD j [] = bs at e1 e2 e3 ⊢
  have out : ∀ (H : Heap) (locs : List Loc) (ls : Array Slot) (L : hq_L), hq_now D cy ad (hq_A ad) s.heap H locs ls 3 L σ → hq_amongN σ bs = -1 → W p l e R s m ([.ref 52, .ref (1000 + j)].map (hq_vm ad)).toArray below meth c H locs 0 0 (MQ below (hq_post D cy ad (some (.int (hq_amongN σ bs))) σ) ([.ref 52, .ref (1000 + j)].map (hq_vm ad)).toArray s 0 0 (hq_A ad)) (F0 m 46 ls []) := by
    intro H locs ls L hI hn
    refine (hq_stp C ⟨rfl, rfl, rfl, rfl⟩ hml hR0 1 (i := 24) (L := L) (st := []) (ps := []) (r := (25, L, [.int (-1)], σ, [])) rfl trivial hI (fun H locs ls hI => ?_)).1
    obtain ⟨hP, hS, hl, hL⟩ := hI
    exact W.iret hx hb hr (fun t ht hW => ⟨by rw [hn]; rfl, by rw [ht]; exact hP, hS.F ht⟩) hS.2.2 (by decide +kernel : decode prog_12_method_17_code 47 = .ok (.ireturn, 1))
  have loop : ∀ (f k : Nat), bs.length = k + f → (σ.1 52 16 < σ.1 52 17 → ∀ i, i < k → bs.getD i 0 ≠ σ.1 62 (σ.1 52 16).toNatClampNeg) → ∀ (H : Heap) (locs : List Loc) (ls : Array Slot), hq_now D cy ad (hq_A ad) s.heap H locs ls 3 [some (.ref 52), some (.ref (1000 + j)), some (.int (nI k))] σ → W p l e R s m ([.ref 52, .ref (1000 + j)].map (hq_vm ad)).toArray below meth c H locs 0 0 (MQ below (hq_post D cy ad (some (.int (hq_amongN σ bs))) σ) ([.ref 52, .ref (1000 + j)].map (hq_vm ad)).toArray s 0 0 (hq_A ad)) (F0 m 2 ls []) := by
    intro f
    induction f with
    | zero =>
      intro k hk hne H locs ls hI
      refine (hq_stp C ⟨rfl, rfl, rfl, rfl⟩ hml hR0 2 (i := 2) (L := [some (.ref 52), some (.ref (1000 + j)), some (.int (nI k))]) (st := []) (ps := []) (r := (4, [some (.ref 52), some (.ref (1000 + j)), some (.int (nI k))], [.ref (1000 + j), .int (nI k)], σ, [])) rfl trivial hI (fun H locs ls hI => ?_)).1
      obtain ⟨hP, hS, hl, hL⟩ := hI
      refine jd_cV (k := 60) (vs := []) J (jm_len (d3 + 6) hj) jw_len ji_S (hq_w_in (ts := [6, 28]) (by decide +kernel) rfl) (hq_w_in (ts := [6, 29]) (by decide +kernel) rfl) (hq_w_in (ts := [6, 30]) (by decide +kernel) rfl) (by decide +kernel) (vk_recv (i := j) (adK := fun i => ad (1000 + i)) hstr.2.1 hj hS) ⟨by omega, by omega, Nat.zero_le _, Nat.zero_le _⟩ (by decide) hl.1 hP hS (rest := [.int (nI k)]) (pc := 4) rfl (Nat.le_of_ble_eq_true rfl) (by decide +kernel) (fun H1 locs1 hP1 hS1 => ?_)
      rw [hbs]
      refine lv_icmp_ge hx hb (by decide +kernel : decode prog_12_method_17_code 7 = .ok (.if_icmp .ge 39, 3)) (tgt := 46) rfl (fun h => ?_) (fun h => absurd (nI_le (by omega) (by omega)) h)
      exact out H1 locs1 ls _ ⟨hP1, hS1, hl, hL⟩ (am_none (fun z i hi => hne z i (by omega)))
    | succ f ih =>
      intro k hk hne H locs ls hI
      refine (hq_stp C ⟨rfl, rfl, rfl, rfl⟩ hml hR0 2 (i := 2) (L := [some (.ref 52), some (.ref (1000 + j)), some (.int (nI k))]) (st := []) (ps := []) (r := (4, [some (.ref 52), some (.ref (1000 + j)), some (.int (nI k))], [.ref (1000 + j), .int (nI k)], σ, [])) rfl trivial hI (fun H locs ls hI => ?_)).1
      obtain ⟨hP, hS, hl, hL⟩ := hI
      refine jd_cV (k := 60) (vs := []) J (jm_len (d3 + 6) hj) jw_len ji_S (hq_w_in (ts := [6, 28]) (by decide +kernel) rfl) (hq_w_in (ts := [6, 29]) (by decide +kernel) rfl) (hq_w_in (ts := [6, 30]) (by decide +kernel) rfl) (by decide +kernel) (vk_recv (i := j) (adK := fun i => ad (1000 + i)) hstr.2.1 hj hS) ⟨by omega, by omega, Nat.zero_le _, Nat.zero_le _⟩ (by decide) hl.1 hP hS (rest := [.int (nI k)]) (pc := 4) rfl (Nat.le_of_ble_eq_true rfl) (by decide +kernel) (fun H1 locs1 hP1 hS1 => ?_)
      rw [hbs]
      refine lv_icmp_ge hx hb (by decide +kernel : decode prog_12_method_17_code 7 = .ok (.if_icmp .ge 39, 3)) (tgt := 46) rfl (fun h => absurd h (nI_ge (by omega) (by omega))) (fun h => ?_)
      refine (hq_stp C ⟨rfl, rfl, rfl, rfl⟩ hml hR0 4 (i := 6) (L := [some (.ref 52), some (.ref (1000 + j)), some (.int (nI k))]) (st := []) (ps := []) (r := (10, [some (.ref 52), some (.ref (1000 + j)), some (.int (nI k))], [.int (σ.1 52 17), .int (σ.1 52 16)], σ, [])) rfl trivial ⟨hP1, hS1, hl, hL⟩ (fun H locs ls hI => ?_)).1
      refine lv_icmp_ge hx hb (by decide +kernel : decode prog_12_method_17_code 18 = .ok (.if_icmp .ge 28, 3)) (tgt := 46) rfl (fun h => out H locs ls _ hI (am_out (Int32.not_lt.mpr h))) (fun h => ?_)
      have hlt : σ.1 52 16 < σ.1 52 17 := Int32.not_le.mp h
      refine (hq_stp C ⟨rfl, rfl, rfl, rfl⟩ hml hR0 2 (i := 11) (L := [some (.ref 52), some (.ref (1000 + j)), some (.int (nI k))]) (st := []) (ps := []) (r := (13, [some (.ref 52), some (.ref (1000 + j)), some (.int (nI k))], [.int (nI k), .ref (1000 + j)], σ, [])) rfl trivial hI (fun H locs ls hI => ?_)).1
      obtain ⟨hP, hS, hl, hL⟩ := hI
      refine jd_cV (k := 66) (vs := [.int (nI k)]) J (jm_chr (k := k) (d3 + 4) hj (by rw [hbs]; omega)) jw_chr ji_S (hq_w_in (ts := [6, 38]) (by decide +kernel) rfl) (hq_w_in (ts := [6, 39]) (by decide +kernel) rfl) (hq_w_in (ts := [6, 40]) (by decide +kernel) rfl) jy_chr_ok (vk_recv (i := j) (adK := fun i => ad (1000 + i)) hstr.2.1 hj hS) ⟨by omega, by omega, Nat.zero_le _, Nat.zero_le _⟩ (by decide) hl.1 hP hS (rest := []) (pc := 23) rfl (by decide) (by decide +kernel) (fun H1 locs1 hP1 hS1 => ?_)
      rw [hbs]
      refine (hq_stp C ⟨rfl, rfl, rfl, rfl⟩ hml hR0 5 (i := 14) (L := [some (.ref 52), some (.ref (1000 + j)), some (.int (nI k))]) (st := [.int (bs.getD k 0)]) (ps := []) (r := (19, [some (.ref 52), some (.ref (1000 + j)), some (.int (nI k))], [.int (σ.1 62 (σ.1 52 16).toNatClampNeg), .int (bs.getD k 0)], σ, [vp_in (σ.1 52 16) 80])) rfl ⟨hvp hlt, trivial⟩ ⟨hP1, hS1, hl, hL⟩ (fun H locs ls hI => ?_)).1
      refine lv_icmp_ne hx hb (by decide +kernel : decode prog_12_method_17_code 35 = .ok (.if_icmp .ne 5, 3)) (tgt := 40) rfl (fun h => ?_) (fun h => ?_)
      · refine (hq_stp C ⟨rfl, rfl, rfl, rfl⟩ hml hR0 2 (i := 22) (L := [some (.ref 52), some (.ref (1000 + j)), some (.int (nI k))]) (st := []) (ps := []) (r := (2, [some (.ref 52), some (.ref (1000 + j)), some (.int (nI k + nI 1))], [], σ, [])) rfl trivial hI (fun H locs ls hI => ?_)).1
        rw [nI_add] at hI
        refine ih (k + 1) (by omega) (fun z i hi => ?_) H locs ls hI
        rcases Nat.lt_or_ge i k with q | q
        · exact hne z i q
        · rw [show i = k by omega]; exact h
      · refine (hq_stp C ⟨rfl, rfl, rfl, rfl⟩ hml hR0 1 (i := 20) (L := [some (.ref 52), some (.ref (1000 + j)), some (.int (nI k))]) (st := []) (ps := []) (r := (21, [some (.ref 52), some (.ref (1000 + j)), some (.int (nI k))], [.int (nI k)], σ, [])) rfl trivial hI (fun H locs ls hI => ?_)).1
        obtain ⟨hP, hS, hl, hL⟩ := hI
        exact W.iret hx hb hr (fun t ht hW => ⟨by rw [am_hit hlt (by omega) h (hne hlt)]; rfl, by rw [ht]; exact hP, hS.F ht⟩) hS.2.2 (by decide +kernel : decode prog_12_method_17_code 39 = .ok (.ireturn, 1))
  refine (hq_stp C ⟨rfl, rfl, rfl, rfl⟩ hml hR0 2 (i := 0) (L := [some (.ref 52), some (.ref (1000 + j)), none]) (st := []) (ps := []) (r := (2, [some (.ref 52), some (.ref (1000 + j)), some (.int (nI 0))], [], σ, [])) rfl trivial hI (fun H locs ls hI => ?_)).1
  exact loop bs.length 0 (by omega) (fun _ i hi => absurd hi (Nat.not_lt_zero i)) H locs ls hI
theorem lw_pr (l : Launch) : lwPr l := by
  intro x as σ v τ h D cy ad av d hinj hd
  rcases h with ⟨rfl, j, hj, rfl, rfl, rfl, hv⟩ | ⟨rfl, rfl, rfl, n, hn, hσ, hτ⟩
  · exact pr_among l hj hv D cy ad av d hinj hd
  · exact pr_adopt l hn hσ hτ D cy ad av d hinj hd
