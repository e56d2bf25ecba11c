theorem lkS_ne {t g k i : Nat} {b : Nat → Nat} (h1 : i ≠ 21 + 28 * g + 3) (h2 : i ≠ 21 + 28 * g + 20 + k) : lkS t g k b i = b i := by
  unfold lkS
  split
  · rw [up_ne h2, up_ne h1]
  · rw [up_ne h1]
theorem lkS_w {t g k : Nat} {b : Nat → Nat} : hW (lkS t g k b) g = hW b g + (9 - hK b g k) := by
  show lkS t g k b (21 + 28 * g + 3) = _
  unfold lkS
  split
  · rw [up_ne (by omega), up_at]
  · rw [up_at]
theorem lkS_k {t g k : Nat} {b : Nat → Nat} : hK (lkS t g k b) g k = kN' t (hK b g k) := by
  show lkS t g k b (21 + 28 * g + 20 + k) = _
  unfold lkS kN'
  split
  · rw [up_at]
  · rw [up_ne (by omega)]
/-- what leaking leaves, adds and wears -/
theorem lkR_all {t g : Nat} : ∀ {j k : Nat} {b : Nat → Nat}, (∀ i, i ≠ 21 + 28 * g + 3 → (∀ m, k ≤ m → m < k + j → i ≠ 21 + 28 * g + 20 + m) → lkR t g j k b i = b i) ∧ hW (lkR t g j k b) g = hW b g + nT (fun i => 9 - hK b g i) k j ∧ (∀ m, k ≤ m → m < k + j → hK (lkR t g j k b) g m = kN' t (hK b g m))
  | 0, k, b => ⟨fun _ _ _ => rfl, rfl, fun m h1 h2 => absurd h2 (by omega)⟩
  | j + 1, k, b => by
    have ih := lkR_all (t := t) (g := g) (j := j) (k := k + 1) (b := lkS t g k b)
    refine ⟨fun i h1 h2 => ?_, ?_, fun m h1 h2 => ?_⟩
    · rw [lkR, ih.1 i h1 (fun m h3 h4 => h2 m (by omega) (by omega)), lkS_ne h1 (h2 k (Nat.le_refl _) (by omega))]
    · rw [lkR, ih.2.1, lkS_w, nT, nT_eq (g := fun i => 9 - hK b g i) (fun i h3 h4 => by show 9 - hK (lkS t g k b) g i = _; rw [show hK (lkS t g k b) g i = hK b g i from lkS_ne (by omega) (by omega)]), Nat.add_assoc]
    · rw [lkR]
      by_cases e : m = k
      · subst e
        rw [show hK (lkR t g j (m + 1) (lkS t g m b)) g m = hK (lkS t g m b) g m from ih.1 _ (by omega) (fun i h3 h4 => by omega), lkS_k]
      · rw [ih.2.2 m (by omega) (by omega), show hK (lkS t g k b) g m = hK b g m from lkS_ne (by omega) (by omega)]
theorem hSk_eq {wide F hour : Nat} : ∀ {j n w : Nat} {c d : Nat → Nat}, (∀ i, i < F - 1 → c i = d i) → hSk wide F hour j n w c = hSk wide F hour j n w d
  | 0, _, _, _, _, _ => rfl
  | j + 1, n, w, c, d, h => by
    have e : nT (fun k => 9 - c k) 0 (F - 1) = nT (fun k => 9 - d k) 0 (F - 1) := nT_eq fun i _ h2 => by show 9 - c i = 9 - d i; rw [h i (by omega)]
    unfold hSk
    rw [e, hSk_eq (j := j) (c := fun k => kN' (hour + n) (c k)) (d := fun k => kN' (hour + n) (d k)) (fun i hi => by show kN' _ (c i) = kN' _ (d i); rw [h i hi])]
theorem fl_dr {wide w : Nat} : (w ≤ wide * 40 / 2) ↔ ¬ dDr wide w = 41 := by
  constructor
  · intro h e
    have := dr_hi (wide := wide) (m := 40) (by decide) h
    omega
  · intro h
    refine Nat.not_lt.mp fun p => h ?_
    have h1 := dr_lo (wide := wide) (m := 40) (by decide) p
    have h2 : dDr wide w ≤ 41 := dDr_le
    omega
