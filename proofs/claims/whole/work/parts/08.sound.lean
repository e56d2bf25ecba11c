/-! SOUNDNESS: what the flat machine answers, the machine does. First: what is checked of a table's rows -/
/-- fl: fields; cs: calls; ths: throws; lc: long constants (constant, value, place of the word); li: int constants; lst: string constants (constant, form) -/
abbrev fT5 : Type := List (Nat × Nat × Nat × Nat) × List (Instr × Nat × Nat) × List (Nat × Nat) × List (Nat × Nat) × List (Nat × Int32) × List (Nat × Nat)
def fok (nL : Nat) (ret : Option FieldType) (Z : fT5) (pc : Nat) (ln : Nat) (o : fO) : Bool := match o with
  | (ins, nx, a, b, v, ts) => match ins with
    | .iconst n => decide (ln = 1) && (decide (nx = pc + 1) && decide (v = Int32.ofInt n))
    | .bipush n => decide (ln = 2) && (decide (nx = pc + 2) && decide (v = (Int8.ofInt n).toInt32))
    | .sipush n => decide (ln = 3) && (decide (nx = pc + 3) && decide (v = (Int16.ofInt n).toInt32))
    | .ldc x => decide (ln = 2) && (decide (nx = pc + 2) && (bif Nat.beq b 1 then decide ((x, v) ∈ Z.2.2.2.2.1) else decide ((x, a) ∈ Z.2.2.2.2.2)))
    | .ldc_w x => decide (ln = 3) && (decide (nx = pc + 3) && decide ((x, v) ∈ Z.2.2.2.2.1))
    | .lconst n => decide (ln = 1) && (decide (nx = pc + 1) && decide (a = (n : Nat)))
    | .ldc2_w x => decide (ln = 3) && (decide (nx = pc + 3) && decide ((x, a) ∈ Z.2.2.2.1))
    | .dconst n => decide (ln = 1) && (decide (nx = pc + 1) && decide (a = (n : Nat)))
    | .iload i => decide (ln = 2) && (decide (nx = pc + 2) && decide (a = i))
    | .aload i => decide (ln = 2) && (decide (nx = pc + 2) && decide (a = i))
    | .lload i => decide (ln = 2) && (decide (nx = pc + 2) && decide (a = i))
    | .dload i => decide (ln = 2) && (decide (nx = pc + 2) && decide (a = i))
    | .iload_n i => decide (ln = 1) && (decide (nx = pc + 1) && decide (a = (i : Nat)))
    | .aload_n i => decide (ln = 1) && (decide (nx = pc + 1) && decide (a = (i : Nat)))
    | .lload_n i => decide (ln = 1) && (decide (nx = pc + 1) && decide (a = (i : Nat)))
    | .istore i => decide (ln = 2) && (decide (nx = pc + 2) && (decide (a = i) && decide (a < nL)))
    | .astore i => decide (ln = 2) && (decide (nx = pc + 2) && (decide (a = i) && decide (a < nL)))
    | .istore_n i => decide (ln = 1) && (decide (nx = pc + 1) && (decide (a = (i : Nat)) && decide (a < nL)))
    | .astore_n i => decide (ln = 1) && (decide (nx = pc + 1) && (decide (a = (i : Nat)) && decide (a < nL)))
    | .dstore i => decide (ln = 2) && (decide (nx = pc + 2) && (decide (a = i) && decide (a + 1 < nL)))
    | .iinc i n => decide (ln = 3) && (decide (nx = pc + 3) && (decide (a = i) && (decide (v = Int32.ofInt n) && decide (a < nL))))
    | .if_icmp _ off => decide (ln = 3) && (decide (nx = pc + 3) && decide ((pc : Int) + off = (a : Int)))
    | .ifCond _ off => decide (ln = 3) && (decide (nx = pc + 3) && decide ((pc : Int) + off = (a : Int)))
    | .goto off => decide (ln = 3) && decide ((pc : Int) + off = (a : Int))
    | .tableswitch d lo hi offs => decide (lo = v.toInt) && (decide (hi = (b : Int)) && (decide ((pc : Int) + d = (a : Int)) && decide (∀ j, j < (hi - lo).toNat + 1 → (offs[j]?).map (fun z => (pc : Int) + z) = (ts[j]?).map (fun z => (z : Int)) ∧ (ts[j]?).isSome = true)))
    | .getfield x => decide (ln = 3) && (decide (nx = pc + 3) && (Z.1.any (fun q => decide (q.1 = x) && (decide (q.2.1 = a) && decide (q.2.2.1 = b))) && (decide (a < 9) && (decide (b < fnf a) && (match ts with
        | [] => decide ((fkfL.getD a []).getD b 0 < 2)
        | [_] => decide ((fkfL.getD a []).getD b 0 = 2)
        | [c', my, oy, mh, oh] => decide (2 < (fkfL.getD a []).getD b 0) && decide ((frfL.getD a []).getD b (0, 0, 0, 0, 0) = (c', my, oy, mh, oh))
        | _ => false)))))
    | .putfield x => decide (ln = 3) && (decide (nx = pc + 3) && (Z.1.any (fun q => decide (q.1 = x) && (decide (q.2.1 = a) && decide (q.2.2.1 = b))) && (decide (a < 9) && (decide (b < fnf a) && (decide (((fct a).2.1 b).2.2.2 = false) && (match ts with
        | [] => decide ((fkfL.getD a []).getD b 0 = 0)
        | [_] => decide ((fkfL.getD a []).getD b 0 = 1)
        | [_, _] => decide ((fkfL.getD a []).getD b 0 = 2)
        | _ => false))))))
    | .invokevirtual x => decide (ln = 3) && (decide (nx = pc + 3) && Z.2.1.any (fun q => decide (q.1 = Instr.invokevirtual x) && (decide (q.2.1 = a) && decide (q.2.2 = b))))
    | .invokespecial x => decide (ln = 3) && (decide (nx = pc + 3) && Z.2.1.any (fun q => decide (q.1 = Instr.invokespecial x) && (decide (q.2.1 = a) && decide (q.2.2 = b))))
    | .invokestatic x => decide (ln = 3) && (decide (nx = pc + 3) && Z.2.1.any (fun q => decide (q.1 = Instr.invokestatic x) && (decide (q.2.1 = a) && decide (q.2.2 = b))))
    | .new _ => decide ((pc, a) ∈ Z.2.2.1)
    | .ireturn => decide (ln = 1) && (decide (b = 0 ∧ ret = some .int) || (decide (b = 1 ∧ ret = some .boolean) || decide (b = 2 ∧ ret = some .char)))
    | .lreturn => decide (ln = 1) && decide (ret = some .long)
    | .dreturn => decide (ln = 1) && decide (ret = some .double)
    | .areturn => decide (ln = 1) && (match ret with
        | some (.object _) => true
        | some (.array _) => true
        | _ => false)
    | .return_ => decide (ln = 1) && decide (ret = none)
    | _ => decide (ln = 1) && decide (nx = pc + 1)
def fokR (cc : ByteArray) (nL : Nat) (ret : Option FieldType) (Z : fT5) (q : Nat × fO) : Bool := match decode cc q.1 with
  | .ok (i, ln) => decide (i = q.2.1) && fok nL ret Z q.1 ln q.2
  | _ => false
def fokT (cc : ByteArray) (nL : Nat) (ret : Option FieldType) (Z : fT5) (t : fTb) : Bool := t.all (fun ch => ch.2.all (fokR cc nL ret Z))
theorem flk1_mem : ∀ {l : List (Nat × fO)} {pc : Nat} {o : fO}, flk1 l pc = some o → (pc, o) ∈ l
  | q :: r, pc, o, h => by
    unfold flk1 at h
    cases hb : Nat.beq q.1 pc <;> rw [hb] at h
    · exact List.mem_cons_of_mem _ (flk1_mem h)
    · have e : q.1 = pc := Nat.eq_of_beq_eq_true hb
      cases h
      rw [← e]
      exact List.mem_cons_self
theorem flk_mem : ∀ {t : fTb} {pc : Nat} {o : fO}, flk t pc = some o → ∃ ch ∈ t, (pc, o) ∈ ch.2
  | q :: r, pc, o, h => by
    unfold flk at h
    cases hb : Nat.ble pc q.1 <;> rw [hb] at h
    · obtain ⟨ch, h1, h2⟩ := flk_mem h
      exact ⟨ch, List.mem_cons_of_mem _ h1, h2⟩
    · exact ⟨q, List.mem_cons_self, flk1_mem h⟩
theorem fokT_at {cc : ByteArray} {nL : Nat} {ret : Option FieldType} {Z : fT5} {t : fTb} (h : fokT cc nL ret Z t = true) {pc : Nat} {o : fO} (ho : flk t pc = some o) : ∃ ln, decode cc pc = .ok (o.1, ln) ∧ fok nL ret Z pc ln o = true := by
  obtain ⟨ch, h1, h2⟩ := flk_mem ho
  have h3 := List.all_eq_true.mp (List.all_eq_true.mp h ch h1) _ h2
  unfold fokR at h3
  split at h3
  · rename_i i ln hd
    rw [Bool.and_eq_true, decide_eq_true_eq] at h3
    exact ⟨ln, by rw [hd, h3.1], h3.2⟩
  · cases h3
/-! references: where they lead they stay among the known ones -/
def fvb (q : Nat × Nat × Nat) : Bool := decide (q ∈ frefs) || (decide (50 ≤ q.1) && ((decide (q.1 = 52) || decide (q.2.1 = 0)) && decide (q.2.2 = 0)))
theorem fvb_ok {q : Nat × Nat × Nat} (h : fvb q = true) : fVok (.inl q) := by
  simp only [fvb, Bool.or_eq_true, Bool.and_eq_true, decide_eq_true_eq] at h
  exact h
theorem frf_ok : ∀ r ∈ frefs, r.1 < 9 → ∀ k, k < fnf r.1 → 2 < (fkfL.getD r.1 []).getD k 0 → fVok (.inl (ftgt ((frfL.getD r.1 []).getD k (0, 0, 0, 0, 0)) r.2.1 r.2.2)) := by
  have h : ∀ r ∈ frefs, r.1 < 9 → ∀ k, k < fnf r.1 → 2 < (fkfL.getD r.1 []).getD k 0 → fvb (ftgt ((frfL.getD r.1 []).getD k (0, 0, 0, 0, 0)) r.2.1 r.2.2) = true := by decide +kernel
  exact fun r hr hc k hk h2 => fvb_ok (h r hr hc k hk h2)
theorem fel_ok : ∀ r ∈ frefs, 5 ≤ (fal r.1).1 → (fal r.1).1 ≤ 7 → ∀ j, j < (fal r.1).2 → fel r.1 r.2.1 j ∈ frefs := by decide +kernel
theorem fal_50 : ∀ c, 50 ≤ c → (fal c).1 = 9 := by
  intro c hc
  have h1 : ∀ k, k < 42 → Nat.ble c k = false := fun k hk => by
    cases h : Nat.ble c k
    · rfl
    · exact absurd (Nat.le_of_ble_eq_true h) (by omega)
  have h2 : ∀ k, k < 42 → Nat.beq c k = false := fun k hk => by
    cases h : Nat.beq c k
    · rfl
    · exact absurd (Nat.eq_of_beq_eq_true h) (by omega)
  unfold fal
  simp [h1, h2, -Nat.ble_eq, -Nat.beq_eq]

