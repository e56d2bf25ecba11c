theorem k_save {μ : fM} {u : Nat} {a : Nat → Nat} (Y : YR μ 0 a) (O : OKA u a) : ∃ μ', sX7_save [vR 7 0 0] μ = some (.inl (some (vI (nI (a 1)))), fI μ' 7 0 0 3 1) ∧ YR μ' 1 a ∧ sY (yP 1) μ μ' := by
  obtain ⟨μ1, r1, r2, r3⟩ := c_ybecome (μ := μ) (y := 1) (y2 := 0) (by omega) O Y
  refine ⟨μ1, fsemV_of (Nat.le_of_ble_eq_true rfl) ?_, r2, r3⟩
  have hn : μ1.1 6 0 0 5 = nI (a 1) := (r3.1 6 0 0 5 (fun p => by have := p.2; omega)).trans Y.now
  refine fE_call (r1) 5 (fun _ => rfl) ?_
  refine fE_ret2 7 (fun _ => rfl) ?_
  show (Sum.inl (some (vI ((fI μ1 7 0 0 3 1).1 6 0 0 5))), fI μ1 7 0 0 3 1) = _
  rw [fI_ne (by omega), hn]
theorem k_restore {μ : fM} {u : Nat} {b : Nat → Nat} (h3 : μ.1 7 0 0 3 = 1) (Y : YR μ 1 b) (O : OKA u b) : ∃ μ', sX7_restore [vR 7 0 0] μ = some (.inl (some (vI (nI (b 1)))), fI μ' 0 0 0 2 0) ∧ YR μ' 0 b ∧ sY (yP 0) μ μ' := by
  obtain ⟨μ1, r1, r2, r3⟩ := c_ybecome (μ := μ) (y := 0) (y2 := 1) (by omega) O Y
  refine ⟨μ1, fsemV_of (Nat.le_of_ble_eq_true rfl) ?_, r2, r3⟩
  have hn : μ1.1 6 0 0 5 = nI (b 1) := r2.now
  refine fE_neg (fun p => by change μ.1 7 0 0 3 = 0 at p; rw [h3] at p; exact absurd p (by decide)) 3 (fun _ => rfl) ?_
  refine fE_call (r1) 5 (fun _ => rfl) ?_
  refine fE_ret2 8 (fun _ => rfl) ?_
  show (Sum.inl (some (vI ((fI μ1 0 0 0 2 0).1 6 0 0 5))), fI μ1 0 0 0 2 0) = _
  rw [fI_ne (by omega), hn]
theorem k_restore0 {μ : fM} (h3 : μ.1 7 0 0 3 = 0) : sX7_restore [vR 7 0 0] μ = some (.inr 2, μ) := by
  refine fsemV_of (Nat.le_of_ble_eq_true rfl) ?_
  refine fE_pos (by exact h3) 3 (fun _ => rfl) ?_
  exact fE_ret 1 (fun _ => rfl)
theorem k_undo0 {μ : fM} (H : HR μ []) : sX7_undo [vR 7 0 0] μ = some (.inr 2, μ) := by
  obtain ⟨o, ho, hl, h1, h2, hP⟩ := H
  refine fsemV_of (Nat.le_of_ble_eq_true rfl) ?_
  refine fE_pos (by exact h2) 4 (fun _ => rfl) ?_
  exact fE_ret 1 (fun _ => rfl)
theorem k_undo {μ : fM} {u : Nat} {b : Nat → Nat} {l : List (Nat → Nat)} (O : OKA u b) (H : HR μ (l ++ [b])) : ∃ μ', sX7_undo [vR 7 0 0] μ = some (.inl (some (vI (nI l.length))), μ') ∧ YR μ' 0 b ∧ HR μ' l ∧ sY (fun c y' => c = 0 ∨ yP 0 c y') μ μ' := by
  obtain ⟨μ', r1, r2, r3, r4⟩ := c_takeBack (y := 0) (by omega) O H
  obtain ⟨o, ho, hl, h1, h2, hP⟩ := H
  have r3' := r3
  obtain ⟨o', -, -, -, k2, -⟩ := r3'
  refine ⟨μ', fsemV_of (Nat.le_of_ble_eq_true rfl) ?_, r2, r3, r4⟩
  refine fE_neg (fun p => by change μ.1 0 0 0 2 = 0 at p; rw [h2] at p; have := (nI_eq (b := 0) (by omega) (by omega)).mp p; simp at this) 4 (fun _ => rfl) ?_
  refine fE_call (r1) 5 (fun _ => rfl) ?_
  refine fE_ret2 4 (fun _ => rfl) ?_
  show (Sum.inl (some (vI (μ'.1 0 0 0 2))), μ') = _
  rw [k2]
