/-! What the law starts with: the classes, the texts -/
def lw_fl : List Cond := flatC (Jvm.Cond.and given_1 narrow_1)
def lw_tm (i : Nat) : Term := Term.string (hq_sr (1000 + i)).1 (hq_sr (1000 + i)).2.1
theorem lw_s1 : ∀ i, i < 17 → hq_slen.getD i 0 < 2 ^ 31 := by decide +kernel
theorem lw_t2 : ∀ i, i < 17 → lw_fl[([22, 38, 65, 84, 114, 147, 157, 175, 188, 209, 223, 240, 265, 290, 310, 330, 351] : List Nat).getD i 0]? = some (Cond.exactly (lw_tm i) "java/lang/String") := by decide +kernel
theorem lw_s2 (i : Nat) (hi : i < 17) : Cond.exactly (lw_tm i) "java/lang/String" ∈ lw_fl := List.mem_of_getElem? (lw_t2 i hi)
theorem lw_t3 : ∀ i, i < 17 → lw_fl[([23, 39, 66, 85, 115, 148, 158, 176, 189, 210, 224, 241, 266, 291, 311, 331, 352] : List Nat).getD i 0]? = some (Cond.eq (.field (lw_tm i) "java/lang/String" "coder" "B") (.int 0)) := by decide +kernel
theorem lw_s3 (i : Nat) (hi : i < 17) : Cond.eq (.field (lw_tm i) "java/lang/String" "coder" "B") (.int 0) ∈ lw_fl := List.mem_of_getElem? (lw_t3 i hi)
theorem lw_t4 : ∀ i, i < 17 → lw_fl[([24, 40, 67, 86, 116, 149, 159, 177, 190, 211, 225, 242, 267, 292, 312, 332, 353] : List Nat).getD i 0]? = some (Cond.arrayOf (.field (lw_tm i) "java/lang/String" "value" "[B") .byte) := by decide +kernel
theorem lw_s4 (i : Nat) (hi : i < 17) : Cond.arrayOf (.field (lw_tm i) "java/lang/String" "value" "[B") .byte ∈ lw_fl := List.mem_of_getElem? (lw_t4 i hi)
theorem lw_t5 : ∀ i, i < 17 → lw_fl[([25, 41, 68, 87, 117, 150, 160, 178, 191, 212, 226, 243, 268, 293, 313, 333, 354] : List Nat).getD i 0]? = some (Cond.eq (.length (.field (lw_tm i) "java/lang/String" "value" "[B")) (.int (Int32.ofNat (hq_slen.getD i 0)))) := by decide +kernel
theorem lw_s5 (i : Nat) (hi : i < 17) : Cond.eq (.length (.field (lw_tm i) "java/lang/String" "value" "[B")) (.int (Int32.ofNat (hq_slen.getD i 0))) ∈ lw_fl := List.mem_of_getElem? (lw_t5 i hi)
theorem lw_t6 : ∀ i, i < 17 → ∀ j, j < hq_slen.getD i 0 → lw_fl[(([[26, 27, 28, 29, 30, 31, 32, 33, 34, 35, 36, 37], [42, 43, 44, 45, 46, 47, 48, 49, 50, 51, 52, 53, 54, 55, 56, 57, 58, 59, 60, 61, 62, 63], [69, 70, 71, 72, 73, 74, 75, 76, 77, 78, 79, 80, 81], [88, 89, 90, 91, 92, 93, 94, 95, 96, 97, 98, 99, 100, 101, 102, 103, 104, 105, 106, 107, 108, 109, 110], [118, 119, 120, 121, 122, 123, 124, 125, 126, 127, 128, 129, 130, 131, 132, 133, 134, 135, 136, 137, 138, 139, 140, 141, 142], [151], [161, 162, 163, 164, 165, 166, 167, 168], [179, 180], [192, 193, 194, 195, 196, 197, 198, 199, 200], [213], [227, 228, 229], [244, 245, 246, 247, 248, 249, 250, 251, 252, 253], [269, 270, 271, 272, 273, 274, 275, 276, 277], [294, 295, 296], [314, 315], [334, 335], [355, 356, 357, 358]] : List (List Nat)).getD i []).getD j 0]? = some (Cond.eq (.elem (.field (lw_tm i) "java/lang/String" "value" "[B") (.int (Int32.ofNat j))) (.int ((hq_sbyt.getD i []).getD j 0))) := by decide +kernel
theorem lw_s6 (i : Nat) (hi : i < 17) (j : Nat) (hj : j < hq_slen.getD i 0) : Cond.eq (.elem (.field (lw_tm i) "java/lang/String" "value" "[B") (.int (Int32.ofNat j))) (.int ((hq_sbyt.getD i []).getD j 0)) ∈ lw_fl := List.mem_of_getElem? (lw_t6 i hi j hj)
theorem lw_t7 : ∀ i, i < 17 → ∀ j, j < i → lw_fl[(([[], [64], [82, 83], [111, 112, 113], [143, 144, 145, 146], [152, 153, 154, 155, 156], [169, 170, 171, 172, 173, 174], [181, 182, 183, 184, 185, 186, 187], [201, 202, 203, 204, 205, 206, 207, 208], [214, 215, 216, 217, 218, 219, 220, 221, 222], [230, 231, 232, 233, 234, 235, 236, 237, 238, 239], [254, 255, 256, 257, 258, 259, 260, 261, 262, 263, 264], [278, 279, 280, 281, 282, 283, 284, 285, 286, 287, 288, 289], [297, 298, 299, 300, 301, 302, 303, 304, 305, 306, 307, 308, 309], [316, 317, 318, 319, 320, 321, 322, 323, 324, 325, 326, 327, 328, 329], [336, 337, 338, 339, 340, 341, 342, 343, 344, 345, 346, 347, 348, 349, 350], [359, 360, 361, 362, 363, 364, 365, 366, 367, 368, 369, 370, 371, 372, 373, 374]] : List (List Nat)).getD i []).getD j 0]? = some (Cond.not (Cond.eq (lw_tm j) (lw_tm i))) := by decide +kernel
theorem lw_s7 (i : Nat) (hi : i < 17) (j : Nat) (hj : j < 17) (h : i ≠ j) : Cond.not (Cond.eq (lw_tm i) (lw_tm j)) ∈ lw_fl ∨ Cond.not (Cond.eq (lw_tm j) (lw_tm i)) ∈ lw_fl := by
  by_cases q : j < i
  · exact Or.inr (List.mem_of_getElem? (lw_t7 i hi j q))
  · exact Or.inl (List.mem_of_getElem? (lw_t7 j hj i (by omega)))
theorem lw_t8 : ∀ i, i < 17 → hq_w (([[5, 189], [5, 216], [5, 224], [5, 225], [5, 233], [6, 23], [6, 80], [6, 81], [6, 82], [6, 90], [6, 95], [6, 100], [6, 127], [6, 128], [6, 129], [6, 130], [7, 58]] : List (List Nat)).getD i []) = some (Cond.stringRef (hq_sr (1000 + i)).1 (hq_sr (1000 + i)).2.1 (hq_sr (1000 + i)).2.2) := by decide +kernel
theorem hq_w_tb {ts : List Nat} {w : Cond} (h : hq_w ts = some w) : w ∈ lw_tbl := by
  have e : lw_tbl = hq_tw.flatten := by simp [lw_tbl, hq_tw, tables_1]
  rw [e]
  unfold hq_w at h
  split at h
  · rename_i q r
    cases hq : hq_tw[q]? with
    | none => rw [hq] at h; cases h
    | some l =>
      rw [hq] at h
      exact List.mem_flatten.mpr ⟨l, List.mem_of_getElem? hq, List.mem_of_getElem? h⟩
  · cases h
theorem lw_s8 (i : Nat) (hi : i < 17) : Cond.stringRef (hq_sr (1000 + i)).1 (hq_sr (1000 + i)).2.1 (hq_sr (1000 + i)).2.2 ∈ lw_tbl := hq_w_tb (lw_t8 i hi)
def lw_ip : List (List Nat) := [[1, 235], [2, 35], [2, 14], [1, 186], [1, 58], [1, 213], [1, 32], [2, 100], [1, 74], [1, 24], [6, 16]]
theorem lw_inst (k : Nat) (q : vw_C) (h : vwCl[k]? = some q) : Cond.instantiable q.1 q.2.2 ∈ hq_tbl := by
  match k, h with
  | 0, h => cases h; exact hq_w_in (ts := [1, 235]) (by decide +kernel) rfl
  | 1, h => cases h; exact hq_w_in (ts := [2, 35]) (by decide +kernel) rfl
  | 2, h => cases h; exact hq_w_in (ts := [2, 14]) (by decide +kernel) rfl
  | 3, h => cases h; exact hq_w_in (ts := [1, 186]) (by decide +kernel) rfl
  | 4, h => cases h; exact hq_w_in (ts := [1, 58]) (by decide +kernel) rfl
  | 5, h => cases h; exact hq_w_in (ts := [1, 213]) (by decide +kernel) rfl
  | 6, h => cases h; exact hq_w_in (ts := [1, 32]) (by decide +kernel) rfl
  | 7, h => cases h; exact hq_w_in (ts := [2, 100]) (by decide +kernel) rfl
  | 8, h => cases h; exact hq_w_in (ts := [1, 74]) (by decide +kernel) rfl
  | 9, h => cases h; exact hq_w_in (ts := [1, 24]) (by decide +kernel) rfl
  | 10, h => cases h; exact hq_w_in (ts := [6, 16]) (by decide +kernel) rfl
  | k + 11, h => cases h
section ST
variable {s : State} {b : Nat}
theorem lw_strs (hts : ∀ w ∈ lw_tbl, w.before #[Value.ref b] s = true) (hgv : (Jvm.Cond.and given_1 narrow_1).before #[Value.ref b] s = true) : ∃ adK adV : Nat → Nat, vk_S 17 hq_slen hq_sbyt adK adV (lwA s) s s.heap ∧ ∀ i, i < 17 → vk_R (hq_sr (1000 + i)).1 (hq_sr (1000 + i)).2.1 (hq_sr (1000 + i)).2.2 (adK i) s := by
  have hs := flat_of_before _ hgv
  obtain ⟨adK, adV, h1, h2⟩ := vk_Sof (args := #[Value.ref b]) (s := s) (N := 17) (tm := lw_tm) (len := hq_slen) (byt := hq_sbyt) (A := lwA s) lw_s1 (fun i hi => hs _ (lw_s2 i hi)) (fun i hi => hs _ (lw_s3 i hi)) (fun i hi => hs _ (lw_s4 i hi)) (fun i hi => hs _ (lw_s5 i hi)) (fun i hi j hj => hs _ (lw_s6 i hi j hj)) (fun i j hi hj hij => (lw_s7 i hi j hj hij).imp (fun h => hs _ h) (fun h => hs _ h)) (fun a ha => Nat.not_le.mpr ha)
  exact ⟨adK, adV, h1, fun i hi => vk_R.of (hts _ (lw_s8 i hi)) (h2 i hi)⟩
theorem lw_sx (hts : ∀ w ∈ lw_tbl, w.before #[Value.ref b] s = true) (hgv : (Jvm.Cond.and given_1 narrow_1).before #[Value.ref b] s = true) : hq_sx (lwA s) s s.heap := by
  have hs := flat_of_before _ hgv
  have hA : ∀ a : Nat, a < s.heap.size → ¬ lwA s a := fun a ha => Nat.not_le.mpr ha
  refine ⟨va_Zof (hts _ (hq_w_tb (ts := [6, 37]) (w := .laysStatic "java/lang/String" "COMPACT_STRINGS" "Z") (by decide +kernel))) (hts _ (hq_w_tb (ts := [1, 13]) (w := .initialized "java/lang/String") (by decide +kernel))) (va_eqt (hs (Cond.eq (.static "java/lang/String" "COMPACT_STRINGS" "Z") (.int 1)) (by decide +kernel))) hA, va_Zqof (hts _ (hq_w_tb (ts := [6, 53]) (w := .laysStatic "jdk/internal/util/Preconditions" "SIOOBE_FORMATTER" "Ljava/util/function/BiFunction;") (by decide +kernel))) (hts _ (hq_w_tb (ts := [1, 15]) (w := .initialized "jdk/internal/util/Preconditions") (by decide +kernel))) (hs (Cond.isRef (.static "jdk/internal/util/Preconditions" "SIOOBE_FORMATTER" "Ljava/util/function/BiFunction;")) (by decide +kernel)) hA⟩
theorem lw_ka {ty : FieldType} (h : (Cond.arrayClass ty).before #[Value.ref b] s = true) : ∃ cA : ClassId, ArrOfT s cA ty ∧ s.vm.findClass ("[" ++ ty.toString) = some cA := by
  obtain ⟨cA, kA, comp, hfind, hk, hkind⟩ := Cond.arrayClass_spec h
  exact ⟨cA, fun n z => ⟨fun k h => (by cases h), kA, hk, comp, hkind⟩, hfind⟩
theorem lw_cls (hts : ∀ w ∈ lw_tbl, w.before #[Value.ref b] s = true) : ∃ (D : va_G) (cy : hq_C3), va_K D vwCl (hq_tys cy) s := by
  have hin : ∀ w ∈ hq_tbl, w.before #[Value.ref b] s = true := fun w h => hts w (hq_good w h).1
  have kn : ∀ k : Nat, ∃ x : ClassId × (Nat → Nat), ∀ q : vw_C, vwCl[k]? = some q → u_Kn s q.1 q.2.1 q.2.2 x.1 x.2 := by
    intro k
    cases hq : vwCl[k]? with
    | none => exact ⟨(default, fun _ => 0), fun q h => by cases h⟩
    | some q =>
      obtain ⟨cC, iS, hK⟩ := u_known (C := q.1) (T := q.2.1) (N := q.2.2) (n := q.2.2) hin (hq_cls hq).1 (hin _ (lw_inst k q hq))
      exact ⟨(cC, iS), fun q' h => by cases h; exact hK⟩
  obtain ⟨ad, had⟩ := Classical.axiomOfChoice kn
  obtain ⟨c1, a1, b1⟩ := lw_ka (hin _ (hq_w_in (ts := [1, 56]) (w := Cond.arrayClass .int) (by decide +kernel) rfl))
  obtain ⟨c2, a2, b2⟩ := lw_ka (hin _ (hq_w_in (ts := [1, 72]) (w := Cond.arrayClass .long) (by decide +kernel) rfl))
  obtain ⟨c3, a3, b3⟩ := lw_ka (hin _ (hq_w_in (ts := [1, 211]) (w := Cond.arrayClass .boolean) (by decide +kernel) rfl))
  refine ⟨(fun k => (ad k).1, fun k => (ad k).2), (c1, c2, c3), fun k q h => had k q h, fun k q h => ?_⟩
  match k, h with
  | 0, h => cases h; exact ⟨a1, b1⟩
  | 1, h => cases h; exact ⟨a2, b2⟩
  | 2, h => cases h; exact ⟨a3, b3⟩
  | k + 3, h => cases h
end ST
