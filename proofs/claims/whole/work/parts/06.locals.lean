/-! LOCALS of the flat machine against the machine's -/
theorem ftv_cat (G : fG) (v : fV) : (ftv G v).category = fcat v := by
  rcases v with r | x | x | x <;> rfl
def fLH (G : fG) (ls : Array Slot) (nL : Nat) (L : List (Option fV)) : Prop := ls.size = nL ∧ lv_wf ls ∧ L.length ≤ nL ∧ ∀ (i : Nat) (v : fV), L[i]? = some (some v) → ls[i]? = some (.val (ftv G v))
def flv (G : fG) (L : List (Option fV)) : List (Nat × Value) := (List.range L.length).filterMap (fun i => match L[i]? with
  | some (some v) => some (i, ftv G v)
  | _ => none)
theorem flv_mem {G : fG} {L : List (Option fV)} {q : Nat × Value} : q ∈ flv G L ↔ ∃ v, L[q.1]? = some (some v) ∧ q.2 = ftv G v := by
  unfold flv
  rw [List.mem_filterMap]
  constructor
  · rintro ⟨i, -, hi⟩
    cases h : L[i]? with
    | none => rw [h] at hi; cases hi
    | some w =>
      cases w with
      | none => rw [h] at hi; cases hi
      | some v =>
        rw [h] at hi
        cases hi
        exact ⟨v, h, rfl⟩
  · rintro ⟨v, h1, h2⟩
    refine ⟨q.1, List.mem_range.mpr (List.getElem?_eq_some_iff.mp h1).1, ?_⟩
    rw [h1]
    show some (q.1, ftv G v) = some q
    rw [← h2]
theorem fLH.has {G : fG} {ls : Array Slot} {nL : Nat} {L : List (Option fV)} (h : fLH G ls nL L) : lv_has ls nL (flv G L) := ⟨h.1, h.2.1, fun q hq => by
  obtain ⟨v, h1, h2⟩ := flv_mem.mp hq
  rw [h2]
  exact h.2.2.2 q.1 v h1⟩
theorem fdrop_len (L : List (Option fV)) (a : Nat) : (fdrop L a).length = L.length := by
  unfold fdrop
  split
  · rfl
  · split
    · cases Nat.ble 2 (ftag _) <;> simp
    · rfl
theorem fdrop_at {L : List (Option fV)} {a j : Nat} {v : fV} (h : (fdrop L a)[j]? = some (some v)) : L[j]? = some (some v) ∧ ¬ (j + 1 = a ∧ fcat v = 2) := by
  unfold fdrop at h
  split at h
  · exact ⟨h, by omega⟩
  · rename_i a'
    split at h
    · rename_i w hw
      by_cases hb : Nat.ble 2 (ftag w) = true
      · rw [hb] at h
        simp only [cond_true] at h
        rw [List.getElem?_set] at h
        by_cases hj : a' = j
        · subst hj
          rw [if_pos rfl] at h
          split at h <;> cases h
        · rw [if_neg hj] at h
          exact ⟨h, by omega⟩
      · have hb' : Nat.ble 2 (ftag w) = false := Bool.eq_false_iff.mpr hb
        rw [hb'] at h
        simp only [cond_false] at h
        refine ⟨h, fun q => ?_⟩
        have e : a' = j := by omega
        subst e
        rw [hw] at h
        cases h
        have := q.2
        unfold fcat at this
        rw [hb'] at this
        simp at this
    · rename_i hn
      refine ⟨h, fun q => ?_⟩
      have e : a' = j := by omega
      subst e
      exact hn _ h
theorem fLH.put1 {G : fG} {ls ls' : Array Slot} {nL a : Nat} {L : List (Option fV)} {v : fV} {w : Option fV} (h : fLH G ls nL L) (hw : w = some v ∨ w = none) (h' : lv_has ls' nL ((a, ftv G v) :: (flv G L).filter (fun q => !(q.1 == a) && !(q.1 + 1 == a && q.2.category == 2)))) : fLH G ls' nL (fput1 L a w) := by
  refine ⟨h'.1, h'.2.1, by unfold fput1; rw [List.length_set, fdrop_len]; exact h.2.2.1, fun i x hx => ?_⟩
  unfold fput1 at hx
  rw [List.getElem?_set] at hx
  by_cases hi : a = i
  · subst hi
    rw [if_pos rfl] at hx
    rcases hw with rfl | rfl
    · split at hx
      · cases hx
        exact h'.2.2 (a, ftv G v) List.mem_cons_self
      · cases hx
    · split at hx <;> cases hx
  · rw [if_neg hi] at hx
    obtain ⟨h1, h2⟩ := fdrop_at hx
    refine h'.2.2 (i, ftv G x) (List.mem_cons_of_mem _ (List.mem_filter.mpr ⟨flv_mem.mpr ⟨x, h1, rfl⟩, ?_⟩))
    have e1 : (i == a) = false := by simpa using fun q => hi q.symm
    show (!(i == a) && !(i + 1 == a && (ftv G x).category == 2)) = true
    rw [e1, ftv_cat]
    by_cases e2 : i + 1 = a
    · have : ¬ fcat x = 2 := fun q => h2 ⟨e2, q⟩
      simp [this]
    · simp [e2]
theorem fLH.put2 {G : fG} {ls ls' : Array Slot} {nL a : Nat} {L : List (Option fV)} {v : fV} (h : fLH G ls nL L) (h' : lv_has ls' nL ((a, ftv G v) :: (flv G L).filter (fun q => !(q.1 == a) && (!(q.1 == a + 1) && !(q.1 + 1 == a && q.2.category == 2))))) : fLH G ls' nL (fput2 L a v) := by
  refine ⟨h'.1, h'.2.1, by unfold fput2; rw [List.length_set, List.length_set, fdrop_len]; exact h.2.2.1, fun i x hx => ?_⟩
  unfold fput2 at hx
  rw [List.getElem?_set] at hx
  by_cases hi2 : a + 1 = i
  · rw [if_pos hi2] at hx
    split at hx <;> cases hx
  rw [if_neg hi2, List.getElem?_set] at hx
  by_cases hi : a = i
  · subst hi
    rw [if_pos rfl] at hx
    split at hx
    · cases hx
      exact h'.2.2 (a, ftv G v) List.mem_cons_self
    · cases hx
  · rw [if_neg hi] at hx
    obtain ⟨h1, h2⟩ := fdrop_at hx
    refine h'.2.2 (i, ftv G x) (List.mem_cons_of_mem _ (List.mem_filter.mpr ⟨flv_mem.mpr ⟨x, h1, rfl⟩, ?_⟩))
    have e1 : (i == a) = false := by simpa using fun q => hi q.symm
    have e3 : (i == a + 1) = false := by simpa using fun q => hi2 q.symm
    show (!(i == a) && (!(i == a + 1) && !(i + 1 == a && (ftv G x).category == 2))) = true
    rw [e1, e3, ftv_cat]
    by_cases e2 : i + 1 = a
    · have : ¬ fcat x = 2 := fun q => h2 ⟨e2, q⟩
      simp [this]
    · simp [e2]
/-- at the entry: the arguments by their places, the rest not set -/
def fargs : List fV → List (Option fV)
  | [] => []
  | v :: r => bif Nat.ble 2 (ftag v) then some v :: none :: fargs r else some v :: fargs r
def fentry (a : List fV) (n : Nat) : List (Option fV) := fargs a ++ List.replicate (n - (fargs a).length) none
theorem fargs_len (G : fG) : ∀ a : List fV, (lg_sl (a.map (ftv G))).length = (fargs a).length
  | [] => rfl
  | v :: r => by
    have ih := fargs_len G r
    have hc := ftv_cat G v
    simp only [lg_sl, List.map_cons, List.flatMap_cons, List.length_append] at ih ⊢
    unfold fargs
    unfold fcat at hc
    cases hb : Nat.ble 2 (ftag v) <;> rw [hb] at hc <;> (simp [hc, ih]; try omega)
theorem fargs_at (G : fG) : ∀ (a : List fV) (i : Nat) (v : fV), (fargs a)[i]? = some (some v) → (lg_sl (a.map (ftv G)))[i]? = some (.val (ftv G v))
  | [], i, v, h => by simp [fargs] at h
  | w :: r, i, v, h => by
    have ih := fargs_at G r
    have hc := ftv_cat G w
    unfold fargs at h
    unfold fcat at hc
    simp only [lg_sl, List.map_cons, List.flatMap_cons] at ih ⊢
    cases hb : Nat.ble 2 (ftag w) <;> rw [hb] at hc h <;> simp only [cond_true, cond_false] at hc h
    · rw [if_neg (by omega)]
      match i with
      | 0 => simp at h; subst h; simp
      | i + 1 => simpa using ih i v (by simpa using h)
    · rw [if_pos hc]
      match i with
      | 0 => simp at h; subst h; simp
      | 1 => simp at h
      | i + 2 => simpa using ih i v (by simpa using h)
theorem fentry_LH (G : fG) (a : List fV) {n : Nat} (hn : (fargs a).length ≤ n) : fLH G ((lg_sl (a.map (ftv G)) ++ List.replicate (n - (lg_sl (a.map (ftv G))).length) Slot.unset).toArray) n (fentry a n) := by
  have h := lv_entry (a.map (ftv G)) (n := n) (by rw [fargs_len]; exact hn)
  refine ⟨h.1, h.2.1, by unfold fentry; simp; omega, fun i v hi => ?_⟩
  unfold fentry at hi
  by_cases hl : i < (fargs a).length
  · rw [List.getElem?_append_left hl] at hi
    have := fargs_at G a i v hi
    rw [List.getElem?_toArray, List.getElem?_append_left (by rw [fargs_len]; exact hl)]
    exact this
  · rw [List.getElem?_append_right (by omega)] at hi
    rw [List.getElem?_replicate] at hi
    split at hi <;> cases hi
