/-! THE FLAT MEMORY IN THE HEAP. G: addresses of references, the kit's dictionary, the array classes by code, the heap's size at the law's start -/
abbrev fG : Type := (Nat × Nat × Nat → Nat) × va_G × (Nat → ClassId) × Nat
abbrev fA (G : fG) : Nat → Prop := fun q => G.2.2.2 ≤ q
def ftv (G : fG) : fV → Value
  | .inl r => .ref (G.1 r)
  | .inr (.inl x) => .int x
  | .inr (.inr (.inl x)) => .long x
  | .inr (.inr (.inr x)) => .double x
def fnf (c : Nat) : Nat := ([3, 7, 7, 7, 3, 1, 7, 13, 24] : List Nat).getD c 0
def fty : List FieldType := [.int, .boolean, .char, .long, .double, .object "PuddleBoatyard$Hull", .object "PuddleBoatyard$Yard", .array .int, .byte]
abbrev ftys (G : fG) : List (ClassId × FieldType) := (List.range 9).map (fun t => (G.2.2.1 t, fty.getD t .int))
def facon (G : fG) (μ : fM) (c y h : Nat) : (Nat → Int32) ⊕ (Nat → Int64) ⊕ (Nat → UInt32) ⊕ (Nat → UInt64) ⊕ (Nat → Option Nat) := match (fal c).1 with
  | 0 => .inl (fun j => μ.1 c y h j)
  | 1 => .inl (fun j => μ.1 c y h j)
  | 2 => .inl (fun j => μ.1 c y h j)
  | 3 => .inr (.inl (fun j => μ.2.1 c y h j))
  | 4 => .inr (.inr (.inr (.inl (fun j => μ.2.2 c y h j))))
  | _ => .inr (.inr (.inr (.inr (fun j => some (G.1 (fel c y j))))))
def ffs (G : fG) (μ : fM) (c y h : Nat) : List Value := (List.range (fnf c)).map (fun k => ftv G (ffv μ c y h k))
def fcell (G : fG) (μ : fM) (r : Nat × Nat × Nat) : va_E := if r.1 < 9 then .inr (r.1, ffs G μ r.1 r.2.1 r.2.2) else .inl (G.2.2.1 (fal r.1).1, (fal r.1).2, facon G μ r.1 r.2.1 r.2.2)
def fws (G : fG) (μ : fM) : va_W := frefs.map (fun r => (G.1 r, fcell G μ r))
/-- the StringBuilder and its bytes: the text's letters are ints at (51, 0, 0, j), its length at (51, 1, 0, 0) -/
def fSB (G : fG) (μ : fM) (H : Heap) : Prop := ∃ (q m n : Nat) (a : Nat → Int32) (ml : Int32), va_P G.2.1 fcl [(G.1 (51, 0, 0), .inr (9, [.ref q, .int 0, .int ml, .int (nI n)])), (q, .inl (G.2.2.1 8, m, .inl a))] H ∧
  (∀ r ∈ frefs, G.1 r ≠ q) ∧ G.2.2.2 ≤ q ∧ q ≠ G.1 (51, 0, 0) ∧ n ≤ m ∧ m ≤ 200 ∧ sb_Fit a ∧ μ.1 51 1 0 0 = nI n ∧ ∀ j, j < n → 0 ≤ a j ∧ μ.1 51 0 0 j = a j
def fMem (G : fG) (μ : fM) (H : Heap) : Prop := va_P G.2.1 fcl (fws G μ) H ∧ fSB G μ H
def fWf (G : fG) : Prop := (∀ r ∈ frefs, ∀ r' ∈ frefs, G.1 r = G.1 r' → r = r') ∧ (∀ r ∈ frefs, G.2.2.2 ≤ G.1 r) ∧ (∀ r ∈ frefs, G.1 r ≠ G.1 (51, 0, 0)) ∧ G.2.2.2 ≤ G.1 (51, 0, 0)
theorem frefs_nodup : frefs.Nodup := by decide +kernel
theorem fidx {r : Nat × Nat × Nat} (h : r ∈ frefs) : ∃ i : Nat, frefs[i]? = some r := List.getElem?_of_mem h
theorem fws_at {G : fG} {μ : fM} {i : Nat} {r : Nat × Nat × Nat} (h : frefs[i]? = some r) : (fws G μ)[i]? = some (G.1 r, fcell G μ r) := by
  simp [fws, h]
theorem fcell_o {G : fG} {μ : fM} {c y h : Nat} (hc : c < 9) : fcell G μ (c, y, h) = .inr (c, ffs G μ c y h) := if_pos hc
theorem fcell_a {G : fG} {μ : fM} {c y h : Nat} (hc : ¬ c < 9) : fcell G μ (c, y, h) = .inl (G.2.2.1 (fal c).1, (fal c).2, facon G μ c y h) := if_neg hc
theorem ffs_at {G : fG} {μ : fM} {c y h k : Nat} (hk : k < fnf c) : (ffs G μ c y h)[k]? = some (ftv G (ffv μ c y h k)) := by
  simp [ffs, hk]
theorem ffs_len {G : fG} {μ : fM} {c y h : Nat} : (ffs G μ c y h).length = fnf c := by simp [ffs]
theorem fD_ws {G : fG} {μ : fM} (hG : fWf G) : va_D (fA G) (fws G μ) := by
  refine ⟨fun i j p q hi hj hpq => ?_, fun k q hk => ?_⟩
  · simp only [fws, List.getElem?_map, Option.map_eq_some_iff] at hi hj
    obtain ⟨r, hr, rfl⟩ := hi
    obtain ⟨r', hr', rfl⟩ := hj
    have e := hG.1 r (List.mem_of_getElem? hr) r' (List.mem_of_getElem? hr') hpq
    subst e
    exact (List.getElem?_inj (List.getElem?_eq_some_iff.mp hr).1 frefs_nodup).mp (hr.trans hr'.symm)
  · simp only [fws, List.getElem?_map, Option.map_eq_some_iff] at hk
    obtain ⟨r, hr, rfl⟩ := hk
    exact hG.2.1 r (List.mem_of_getElem? hr)
/-- one cell written: the list of cells is that of the new memory -/
theorem fws_set {G : fG} {μ μ' : fM} {i : Nat} {r : Nat × Nat × Nat} {e : va_E} (h : frefs[i]? = some r) (he : fcell G μ' r = e) (hs : ∀ r' ∈ frefs, r' ≠ r → fcell G μ' r' = fcell G μ r') : (fws G μ).set i (G.1 r, e) = fws G μ' := by
  apply List.ext_getElem?
  intro j
  rw [List.getElem?_set]
  by_cases hij : i = j
  · subst hij
    have hl : i < (fws G μ).length := by
      simp only [fws, List.length_map]
      exact (List.getElem?_eq_some_iff.mp h).1
    rw [if_pos rfl, if_pos hl, fws_at h, he]
  · rw [if_neg hij]
    simp only [fws, List.getElem?_map]
    cases hj : frefs[j]? with
    | none => rfl
    | some r' =>
      have hne : r' ≠ r := by
        intro e2
        subst e2
        exact hij ((List.getElem?_inj (List.getElem?_eq_some_iff.mp h).1 frefs_nodup).mp (h.trans hj.symm))
      simp only [Option.map_some]
      rw [hs r' (List.mem_of_getElem? hj) hne]
