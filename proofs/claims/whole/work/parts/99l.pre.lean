/-! WHAT THE STATEMENT GIVES OF THE START -/
def NC1 : Jvm.Cond := Jvm.Cond.and given_1 narrow_1
def nTm (i : Nat) : Term := .string "PuddleBoatyard$Program" (fForm.getD i (0, "")).1
def nPos : List Nat := [1032, 1040, 1055, 1067, 1080, 1092, 1105, 1117, 1128, 1140, 1155]
theorem nEx : ∀ i, i < 11 → (flatC NC1)[nPos.getD i 0]? = some (.exactly (nTm i) "java/lang/String") := by decide +kernel
theorem nCo : ∀ i, i < 11 → (flatC NC1)[nPos.getD i 0 + 1]? = some (.eq (.field (nTm i) "java/lang/String" "coder" "B") (.int 0)) := by decide +kernel
theorem nAr : ∀ i, i < 11 → (flatC NC1)[nPos.getD i 0 + 2]? = some (.arrayOf (.field (nTm i) "java/lang/String" "value" "[B") .byte) := by decide +kernel
theorem nLe : ∀ i, i < 11 → (flatC NC1)[nPos.getD i 0 + 3]? = some (.eq (.length (.field (nTm i) "java/lang/String" "value" "[B")) (.int (Int32.ofNat (fLen.getD i 0)))) := by decide +kernel
theorem nEl : ∀ i, i < 11 → ∀ j, j < fLen.getD i 0 → (flatC NC1)[nPos.getD i 0 + 4 + j]? = some (.eq (.elem (.field (nTm i) "java/lang/String" "value" "[B") (.int (Int32.ofNat j))) (.int ((fByt.getD i []).getD j 0))) := by decide +kernel
theorem nSr : ∀ i, i < 11 → lw_tbl[([1470, 1471, 1472, 1473, 1474, 1475, 1476, 1477, 1478, 1479, 1480] : List Nat).getD i 0]? = some (.stringRef "PuddleBoatyard$Program" (fForm.getD i (0, "")).1 (fForm.getD i (0, "")).2) := by decide +kernel
theorem nOn : ∀ j, j < 100 → (flatC NC1)[14 + j]? = some (.eq (.elem (.static "java/lang/Integer" "DigitOnes" "[B") (.int (Int32.ofNat j))) (.int (nI (48 + j % 10)))) := by decide +kernel
theorem nTe : ∀ j, j < 100 → (flatC NC1)[117 + j]? = some (.eq (.elem (.static "java/lang/Integer" "DigitTens" "[B") (.int (Int32.ofNat j))) (.int (nI (48 + j / 10)))) := by decide +kernel
def nWs : List (Jvm.Cond × Nat) := [(.arrayOf (.static "java/lang/Integer" "DigitOnes" "[B") .byte, 12), (.eq (.length (.static "java/lang/Integer" "DigitOnes" "[B")) (.int (Int32.ofNat 100)), 13), (.arrayOf (.static "java/lang/Integer" "DigitTens" "[B") .byte, 115), (.eq (.length (.static "java/lang/Integer" "DigitTens" "[B")) (.int (Int32.ofNat 100)), 116),
  (.eq (.static "java/lang/String" "COMPACT_STRINGS" "Z") (.int 1), 4), (.isRef (.static "java/lang/Throwable" "UNASSIGNED_STACK" "[Ljava/lang/StackTraceElement;"), 5), (.isRef (.static "java/lang/Throwable" "SUPPRESSED_SENTINEL" "Ljava/util/List;"), 6), (.isRef (.static "jdk/internal/util/Preconditions" "SIOOBE_FORMATTER" "Ljava/util/function/BiFunction;"), 7)]
theorem nWs_ok : ∀ q ∈ nWs, (flatC NC1)[q.2]? = some q.1 := by decide +kernel
def nStr : List ((String × Nat × String) × Nat × Nat) := [(("PuddleBoatyard", 355, "no such hull or seam"), 633, 361), (("PuddleBoatyard", 357, "a number is out of range"), 668, 385), (("PuddleBoatyard", 359, "the boatyard or the hull does not allow it now"), 684, 413), (("PuddleBoatyard", 363, "the launch is refused"), 700, 463), (("PuddleBoatyard", 233, "no such order"), 716, 488), (("PuddleBoatyard", 369, "no such hull"), 853, 505), (("PuddleBoatyard", 90, "no such frame"), 868, 521), (("PuddleBoatyard", 106, "no such seam"), 877, 538), (("PuddleBoatyard", 371, "the hull cannot float"), 905, 554), (("PuddleBoatyard", 136, "no such rank"), 940, 579), (("PuddleBoatyard", 159, "hours out of range"), 1013, 595), (("PuddleBoatyard", 373, "the hull is not built"), 1026, 617), (("PuddleBoatyard", 375, "the hull is too short"), 1027, 642), (("PuddleBoatyard", 168, "no tide is high enough"), 1028, 667), (("PuddleBoatyard", 184, "the hull is not afloat"), 1045, 693), (("PuddleBoatyard", 199, "it does not sink in this time"), 1049, 719), (("PuddleBoatyard", 201, "no such slip"), 1064, 752), (("PuddleBoatyard", 225, "no such position"), 1086, 768), (("PuddleBoatyard", 250, "no such state"), 1103, 788), (("PuddleBoatyard", 255, "no launch was refused"), 1111, 805), (("PuddleBoatyard", 259, "there are no hulls"), 1134, 830), (("PuddleBoatyard", 279, "no such character"), 1428, 955), (("PuddleBoatyard", 284, "no such character can be typed"), 1446, 976), (("PuddleBoatyard", 288, "the buffer is full"), 1447, 1010), (("PuddleBoatyard", 299, "the program is malformed"), 1511, 1170), (("PuddleBoatyard", 304, "a command fails"), 1520, 1198), (("PuddleBoatyard", 309, "no program was malformed"), 1528, 1217), (("PuddleBoatyard", 311, "no command failed"), 1536, 1245), (("PuddleBoatyard", 316, "nothing can be undone"), 1544, 1266), (("PuddleBoatyard", 328, "there is no snapshot"), 1556, 1291)]
theorem nStr_ok : ∀ q ∈ nStr, lw_tbl[q.2.1]? = some (.stringRef q.1.1 q.1.2.1 q.1.2.2) ∧ (flatC NC1)[q.2.2]? = some (.exactly (.string q.1.1 q.1.2.1) "java/lang/String") := by decide +kernel
theorem nStr_all : nStr.map Prod.fst = fStr := by decide +kernel
def nNcl : List ((String × String) × Nat) := [(("java/lang/IllegalArgumentException", "java/lang/IndexOutOfBoundsException"), 245), (("java/lang/IllegalStateException", "java/lang/IllegalArgumentException"), 262), (("java/lang/IllegalStateException", "java/lang/IndexOutOfBoundsException"), 246), (("java/lang/IllegalStateException", "java/util/NoSuchElementException"), 299), (("java/lang/IndexOutOfBoundsException", "java/util/NoSuchElementException"), 297), (("java/lang/UnsupportedOperationException", "java/lang/IllegalStateException"), 229), (("java/lang/UnsupportedOperationException", "java/lang/IndexOutOfBoundsException"), 247), (("java/util/NoSuchElementException", "java/lang/IllegalStateException"), 230), (("java/util/NoSuchElementException", "java/lang/IndexOutOfBoundsException"), 248)]
theorem nNcl_ok : ∀ q ∈ nNcl, (flatC NC1)[q.2]? = some (.not (.castable q.1.1 q.1.2)) := by decide +kernel
theorem nNcl_all : nNcl.map Prod.fst = fNcl := by decide +kernel
def nTb : List (Jvm.Cond × Nat) := [(.arrayOver (.object "PuddleBoatyard$Hull"), 118), (.arrayOver (.object "PuddleBoatyard$Yard"), 237), (.arrayOver (.array .int), 323), (.laysStatic "java/lang/Integer" "DigitOnes" "[B", 1286), (.laysStatic "java/lang/Integer" "DigitTens" "[B", 1288), (.initialized "java/lang/Integer", 96), (.laysStatic "java/lang/String" "COMPACT_STRINGS" "Z", 293), (.initialized "java/lang/String", 80),
  (.laysStatic "java/lang/Throwable" "UNASSIGNED_STACK" "[Ljava/lang/StackTraceElement;", 614), (.laysStatic "java/lang/Throwable" "SUPPRESSED_SENTINEL" "Ljava/util/List;", 616), (.initialized "java/lang/Throwable", 85), (.laysStatic "jdk/internal/util/Preconditions" "SIOOBE_FORMATTER" "Ljava/util/function/BiFunction;", 1216), (.initialized "jdk/internal/util/Preconditions", 101),
  (.selects RJ4 yJ5_isLatin1_aae02 yJ5_isLatin1_aae02, 1201), (.privateMethod yJ5_ensureCapacityInternal_d00df, 1170), (.instanceMethod yJ5_ensureCapacityInternal_d00df, 1171), (.privateMethod yJ5_newCapacity_0f7a4, 1174), (.instanceMethod yJ5_newCapacity_0f7a4, 1175)]
theorem nTb_ok : ∀ q ∈ nTb, lw_tbl[q.2]? = some q.1 := by decide +kernel
def nIns : List (Jvm.Cond × Nat) := [(.instantiable "PuddleBoatyard$History" 3, 231), (.instantiable "PuddleBoatyard$Hull" 7, 153), (.instantiable "PuddleBoatyard$Orders" 7, 120), (.instantiable "PuddleBoatyard$Program" 7, 251), (.instantiable "PuddleBoatyard$SlipPlan" 3, 329), (.instantiable "PuddleBoatyard$Stretches" 1, 317), (.instantiable "PuddleBoatyard$Yard" 7, 112), (.instantiable "PuddleBoatyard" 13, 104), (.instantiable "PuddleBoatyardModel" 24, 1558), (.instantiable "java/lang/StringBuilder" 4, 284)]
theorem nIns_ok : ∀ q ∈ nIns, lw_tbl[q.2]? = some q.1 := by decide +kernel
section NSTART
variable {args : Array Value} {s : State}
theorem n_prim {ty : FieldType} (h : (Jvm.Cond.arrayClass ty).before args s = true) (ht : ∀ C, ty ≠ .object C) : ∃ cA : ClassId, ArrOfT s cA ty ∧ va_RA s cA ty := by
  obtain ⟨cA, kA, comp, h1, h2, h3⟩ := Cond.arrayClass_spec h
  refine ⟨cA, fun n z => ⟨fun k h => (by cases h), kA, h2, comp, h3⟩, ?_⟩
  cases ty <;> first | exact h1 | exact absurd rfl (ht _)
theorem n_obj {C : String} (h : (Jvm.Cond.arrayOver (.object C)).before args s = true) : ∃ cA : ClassId, ArrOfT s cA (.object C) ∧ va_RA s cA (.object C) := by
  obtain ⟨comp, cA, kA, h1, -, h2, h3, h4⟩ := Cond.arrayOver_spec h
  exact ⟨cA, fun n z => ⟨fun k h => (by cases h), kA, h2, comp, h3⟩, kA, comp, h2, h3, h1, h4⟩
theorem n_arr {t : FieldType} (h : (Jvm.Cond.arrayOver (.array t)).before args s = true) : ∃ cA : ClassId, ArrOfT s cA (.array t) ∧ va_RA s cA (.array t) := by
  obtain ⟨comp, cA, kA, h1, -, h2, h3, h4⟩ := arrayOverA_spec h
  exact ⟨cA, fun n z => ⟨fun k h => (by cases h), kA, h2, comp, h3⟩, h4⟩
theorem n_sel {C : String} {y y0 : MethodName} (hy : y.cls ≠ "java/lang/invoke/MethodHandle" ∧ y.cls ≠ "java/lang/invoke/VarHandle") (he : y0.cls = y.cls) (h0 : (Jvm.Cond.selects C y0 y0).before args s = true) (hp : (Jvm.Cond.privateMethod y).before args s = true) (hi : (Jvm.Cond.instanceMethod y).before args s = true) : (Jvm.Cond.selects C y y).before args s = true := by
  obtain ⟨c, r, m0, hc, -, hm0, -, kI, hkI, hni⟩ := Cond.selects_spec h0
  obtain ⟨mk, methM, hnamed, hmethM, -, -⟩ := Cond.instanceMethod_spec hi
  have hfound : s.methodFound? y.cls y.name y.desc = some mk := State.methodFound?_of_named hnamed hy
  have e1 := findClass_of_methodNamed hm0
  have e2 := findClass_of_methodNamed hnamed
  rw [he] at e1
  have hcls : m0.cls = mk.cls := Option.some.inj (e1.symm.trans e2)
  rw [hcls] at hkI
  have hsel : selectMethod {} s.vm c mk = .method mk := selectMethod_private hmethM (Cond.privateMethod_at hp mk methM hnamed hmethM)
  simp only [Cond.before, Cond.holds, Cond.value, hc, hfound, hnamed, hsel, hkI]
  simp
  exact hni
theorem n_int {a b : Nat} (ha : a < 2 ^ 31) (hb : b < 2 ^ 31) (h : Int32.ofNat a = Int32.ofNat b) : a = b := (nI_eq ha hb).mp h
/-- strings by their contents: different contents, different strings -/
theorem n_str {A : Nat → Prop} {tm : Nat → Term} (hex : ∀ i : Nat, i < 11 → (Jvm.Cond.exactly (tm i) "java/lang/String").before args s = true) (hco : ∀ i : Nat, i < 11 → (Jvm.Cond.eq (.field (tm i) "java/lang/String" "coder" "B") (.int 0)).before args s = true)
    (har : ∀ i : Nat, i < 11 → (Jvm.Cond.arrayOf (.field (tm i) "java/lang/String" "value" "[B") .byte).before args s = true) (hle : ∀ i : Nat, i < 11 → (Jvm.Cond.eq (.length (.field (tm i) "java/lang/String" "value" "[B")) (.int (Int32.ofNat (fLen.getD i 0)))).before args s = true)
    (hel : ∀ i : Nat, i < 11 → ∀ j : Nat, j < fLen.getD i 0 → (Jvm.Cond.eq (.elem (.field (tm i) "java/lang/String" "value" "[B") (.int (Int32.ofNat j))) (.int ((fByt.getD i []).getD j 0))).before args s = true) (hA : ∀ a : Nat, a < s.heap.size → ¬ A a) :
    ∃ adK adV : Nat → Nat, vk_S 11 fLen fByt adK adV A s s.heap ∧ ∀ i : Nat, i < 11 → (tm i).eval args s none [] s = some (.ref (adK i)) := by
  have hN : ∀ i, i < 11 → fLen.getD i 0 < 2 ^ 31 := by decide +kernel
  have hdi : ∀ i, i < 11 → ∀ j, j < 11 → fLen.getD i 0 = fLen.getD j 0 → (∀ k, k < fLen.getD i 0 → (fByt.getD i []).getD k 0 = (fByt.getD j []).getD k 0) → i = j := by decide +kernel
  have h0 : ∀ i : Nat, ∃ q : Nat × Nat, i < 11 → (tm i).eval args s none [] s = some (.ref q.1) ∧ va_O "java/lang/String" q.1 A s s.heap ∧ va_OF "java/lang/String" "coder" "B" (.int 0) q.1 A s s.heap ∧ va_OF "java/lang/String" "value" "[B" (.ref q.2) q.1 A s s.heap ∧ va_T .byte q.2 (fLen.getD i 0) (fun j => .int ((fByt.getD i []).getD j 0)) A s s.heap := by
    intro i
    by_cases hi : i < 11
    · obtain ⟨a, c, cA, kA, q1, q2, q3, q4, q5, q6, -⟩ := Cond.exactly_spec (args := args) (first := s) (o := none) (s := s) (idx := []) (t := tm i) (cls := "java/lang/String") (hex i hi)
      obtain ⟨t, ht, hT⟩ := va_Tof (f := fun j => .int ((fByt.getD i []).getD j 0)) (A := A) (hN i hi) (har i hi) (va_eqt (hle i hi)) (fun j hj => va_eqt (hel i hi j hj)) hA
      exact ⟨(a, t), fun _ => ⟨q1, ⟨cA, q3, q5, by rw [q6]; exact q2, hA a (Array.getElem?_eq_some_iff.mp q3).1⟩, vk_OFof q1 (va_eqt (hco i hi)) hA, vk_OFof q1 ht hA, hT⟩⟩
    · exact ⟨(0, 0), fun h => absurd h hi⟩
  obtain ⟨ad, had⟩ := Classical.axiomOfChoice h0
  refine ⟨fun i => (ad i).1, fun i => (ad i).2, ⟨fun i hi => (had i hi).2, fun i j hi hj e => ?_⟩, fun i hi => (had i hi).1⟩
  obtain ⟨-, -, -, ⟨cf, k, fi, f, cell, a1, a2, a3, a4, a5, -⟩, cell1, b1, -, -, -, b5, b6, -⟩ := had i hi
  obtain ⟨-, -, -, ⟨cf', k', fi', f', cell', a1', a2', a3', a4', a5', -⟩, cell1', b1', -, -, -, b5', b6', -⟩ := had j hj
  have e : (ad i).1 = (ad j).1 := e
  rw [e] at a3
  cases a1.symm.trans a1'
  cases a3.symm.trans a3'
  have e3 : (ad i).2 = (ad j).2 := by
    have := a5.symm.trans a5'
    injection this with this
    injection this
  rw [e3] at b1
  cases b1.symm.trans b1'
  have e4 : fLen.getD i 0 = fLen.getD j 0 := n_int (hN i hi) (hN j hj) (b5.symm.trans b5')
  refine hdi i hi j hj e4 (fun k hk => ?_)
  have := (b6 k hk).symm.trans (b6' k (by rw [← e4]; exact hk))
  injection this with this
  injection this
end NSTART
/-- the start keeps all that the methods ask -/
theorem n_pre {args : Array Value} {s : State} {b : Nat} (hts : ∀ w ∈ lw_tbl, w.before args s = true) (hgv : NC1.before args s = true) : ∃ (ad : Nat → Nat) (D : va_G) (aC : Nat → ClassId), fPre (sGm s.heap.size b ad D aC) s := by
  have hn := flat_of_before _ hgv
  have hnw : ∀ k {w : Jvm.Cond} {i : Nat}, nWs[k]? = some (w, i) → w.before args s = true := fun k w i hk => hn _ (List.mem_of_getElem? (nWs_ok _ (List.mem_of_getElem? hk)))
  have htb : ∀ k {w : Jvm.Cond} {i : Nat}, nTb[k]? = some (w, i) → w.before args s = true := fun k w i hk => hts _ (List.mem_of_getElem? (nTb_ok _ (List.mem_of_getElem? hk)))
  have hfT : ∀ w ∈ fT, w.before args s = true := fun w hw => hts w (List.mem_filter.mp hw).1
  have hA : ∀ a : Nat, a < s.heap.size → ¬ (fun q => s.heap.size ≤ q) a := fun a ha => Nat.not_le.mpr ha
  -- classes
  have hcl : ∀ c, ∃ q : ClassId × (Nat → Nat), c < 10 → u_Kn s (fct c).1 (fct c).2.1 (fct c).2.2 q.1 q.2 := by
    intro c
    by_cases hc : c < 10
    · have hi : ∃ n, (Jvm.Cond.instantiable (fct c).1 n).before args s = true := by
        have h : ∀ c, c < 10 → ∃ n i, nIns[c]? = some (Jvm.Cond.instantiable (fct c).1 n, i) := by
          intro c hc
          match c, hc with
          | 0, _ => exact ⟨_, _, rfl⟩
          | 1, _ => exact ⟨_, _, rfl⟩
          | 2, _ => exact ⟨_, _, rfl⟩
          | 3, _ => exact ⟨_, _, rfl⟩
          | 4, _ => exact ⟨_, _, rfl⟩
          | 5, _ => exact ⟨_, _, rfl⟩
          | 6, _ => exact ⟨_, _, rfl⟩
          | 7, _ => exact ⟨_, _, rfl⟩
          | 8, _ => exact ⟨_, _, rfl⟩
          | 9, _ => exact ⟨_, _, rfl⟩
          | c + 10, hc => exact absurd hc (by omega)
        obtain ⟨n, i, hni⟩ := h c hc
        exact ⟨n, hts _ (List.mem_of_getElem? (nIns_ok _ (List.mem_of_getElem? hni)))⟩
      obtain ⟨n, hi⟩ := hi
      obtain ⟨cC, iS, hK⟩ := u_known hfT (buw_ok c hc) hi
      exact ⟨(cC, iS), fun _ => hK⟩
    · exact ⟨(0, fun _ => 0), fun h => absurd h hc⟩
  obtain ⟨dd, hdd⟩ := Classical.axiomOfChoice hcl
  -- arrays
  have har : ∀ t, ∃ cA : ClassId, t < 9 → ArrOfT s cA (fty.getD t .int) ∧ va_RA s cA (fty.getD t .int) := by
    intro t
    match t with
    | 0 => obtain ⟨c, h⟩ := n_prim (hfT _ (bac_ok 0 (by omega))) (fun C h => by cases h); exact ⟨c, fun _ => h⟩
    | 1 => obtain ⟨c, h⟩ := n_prim (hfT _ (bac_ok 1 (by omega))) (fun C h => by cases h); exact ⟨c, fun _ => h⟩
    | 2 => obtain ⟨c, h⟩ := n_prim (hfT _ (bac_ok 2 (by omega))) (fun C h => by cases h); exact ⟨c, fun _ => h⟩
    | 3 => obtain ⟨c, h⟩ := n_prim (hfT _ (bac_ok 3 (by omega))) (fun C h => by cases h); exact ⟨c, fun _ => h⟩
    | 4 => obtain ⟨c, h⟩ := n_prim (hfT _ (bac_ok 4 (by omega))) (fun C h => by cases h); exact ⟨c, fun _ => h⟩
    | 5 => obtain ⟨c, h⟩ := n_obj (htb 0 rfl); exact ⟨c, fun _ => h⟩
    | 6 => obtain ⟨c, h⟩ := n_obj (htb 1 rfl); exact ⟨c, fun _ => h⟩
    | 7 => obtain ⟨c, h⟩ := n_arr (htb 2 rfl); exact ⟨c, fun _ => h⟩
    | 8 => obtain ⟨c, h⟩ := n_prim (hfT _ (bac_ok 8 (by omega))) (fun C h => by cases h); exact ⟨c, fun _ => h⟩
    | t + 9 => exact ⟨0, fun h => absurd h (by omega)⟩
  obtain ⟨aC, haC⟩ := Classical.axiomOfChoice har
  -- strings
  obtain ⟨ad, adV, hS, hev⟩ := n_str (A := fun q => s.heap.size ≤ q) (tm := nTm) (fun i hi => hn _ (List.mem_of_getElem? (nEx i hi))) (fun i hi => hn _ (List.mem_of_getElem? (nCo i hi))) (fun i hi => hn _ (List.mem_of_getElem? (nAr i hi))) (fun i hi => hn _ (List.mem_of_getElem? (nLe i hi))) (fun i hi j hj => hn _ (List.mem_of_getElem? (nEl i hi j hj))) hA
  refine ⟨ad, (fun c => (dd c).1, fun c => (dd c).2), aC, ⟨fun c q hq => ?_, fun k q hq => ?_⟩, Nat.le_refl _, vx_Zqof (htb 8 rfl) (htb 10 rfl) (hnw 5 rfl) hA, vx_Zqof (htb 9 rfl) (htb 10 rfl) (hnw 6 rfl) hA, fun w hw => ?_, fun q hq => ?_, ⟨adV, hS⟩, fun i hi => ?_, va_Zof (htb 6 rfl) (htb 7 rfl) (va_eqi (hnw 4 rfl)) hA, ?_, ?_, va_Zqof (htb 11 rfl) (htb 12 rfl) (hnw 7 rfl) hA, fun w hw => ?_, fun q hq => ?_, va_AO.of (htb 0 rfl), va_AO.of (htb 1 rfl), (htb 2 rfl : (Jvm.Cond.arrayOver (.array .int)).before args s = true)⟩
  · have hc : c < 10 := (List.getElem?_eq_some_iff.mp hq).1
    have e := (bcl_at c hc).symm.trans hq
    cases e
    exact hdd c hc
  · simp only [ftys, List.getElem?_map, Option.map_eq_some_iff] at hq
    obtain ⟨t, ht, rfl⟩ := hq
    have h9 : t < 9 := List.mem_range.mp (List.mem_of_getElem? ht)
    exact haC t h9
  · obtain ⟨h1, h2⟩ := List.mem_filter.mp hw
    have h3 := hts w h1
    unfold fNwb at h2
    split at h2
    · exact va_Nw.of rfl h3
    · exact va_Nw.of rfl h3
    · exact va_Nw.of rfl h3
    · cases h2
  · rw [← nStr_all] at hq
    obtain ⟨q', hq', rfl⟩ := List.mem_map.mp hq
    obtain ⟨h1, h2⟩ := nStr_ok q' hq'
    obtain ⟨a, c, cA, kA, q1, -⟩ := Cond.exactly_spec (args := args) (first := s) (o := none) (s := s) (idx := []) (hn _ (List.mem_of_getElem? h2))
    exact ⟨a, vk_R.of (hts _ (List.mem_of_getElem? h1)) q1⟩
  · exact vk_R.of (hts _ (List.mem_of_getElem? (nSr i hi))) (hev i hi)
  · obtain ⟨t, ht, hT⟩ := va_Tof (N := 100) (f := fun j => .int (nI (48 + j % 10))) (A := fun q => s.heap.size ≤ q) (by decide) (hnw 0 rfl) (va_eqt (hnw 1 rfl)) (fun j hj => va_eqt (hn _ (List.mem_of_getElem? (nOn j hj)))) hA
    exact ⟨t, va_Zof (htb 3 rfl) (htb 5 rfl) ht hA, hT⟩
  · obtain ⟨t, ht, hT⟩ := va_Tof (N := 100) (f := fun j => .int (nI (48 + j / 10))) (A := fun q => s.heap.size ≤ q) (by decide) (hnw 2 rfl) (va_eqt (hnw 3 rfl)) (fun j hj => va_eqt (hn _ (List.mem_of_getElem? (nTe j hj)))) hA
    exact ⟨t, va_Zof (htb 4 rfl) (htb 5 rfl) ht hA, hT⟩
  · simp only [fSelw, List.mem_cons, List.not_mem_nil, or_false] at hw
    rcases hw with rfl | rfl
    · exact va_Nw.of rfl (n_sel (y0 := yJ5_isLatin1_aae02) ⟨by decide, by decide⟩ rfl (htb 13 rfl) (htb 14 rfl) (htb 15 rfl))
    · exact va_Nw.of rfl (n_sel (y0 := yJ5_isLatin1_aae02) ⟨by decide, by decide⟩ rfl (htb 13 rfl) (htb 16 rfl) (htb 17 rfl))
  · rw [← nNcl_all] at hq
    obtain ⟨q', hq', rfl⟩ := List.mem_map.mp hq
    exact va_Nc.of (hn _ (List.mem_of_getElem? (nNcl_ok q' hq')))
