/-- one yard's orders -/
def oP' (y : Nat) (c y' h' _k : Nat) : Prop := (c = 2 ∨ c = 16 ∨ c = 17 ∨ c = 18 ∨ c = 19) ∧ y' = y ∧ h' = 0
def oBec (μ : fM) (y y2 : Nat) : fM := fI (fI (fCp (fCp (fCp (fCp μ 16 y2 0 16 y 0 0 0 6) 17 y2 0 17 y 0 0 0 6) 18 y2 0 18 y 0 0 0 6) 19 y2 0 19 y 0 0 0 6) 2 y 0 5 (μ.1 2 y2 0 5)) 2 y 0 6 (μ.1 2 y2 0 6)
theorem c_obecome {μ : fM} {y y2 : Nat} (hne : ¬ y2 = y) : sX2_become [vR 2 y 0, vR 2 y2 0] μ = some (.inl none, oBec μ y y2) := by
  refine fsemV_of (Nat.le_of_ble_eq_true rfl) ?_
  have e : ∀ k, (fCp (fCp (fCp (fCp μ 16 y2 0 16 y 0 0 0 6) 17 y2 0 17 y 0 0 0 6) 18 y2 0 18 y 0 0 0 6) 19 y2 0 19 y 0 0 0 6).1 2 y2 0 k = μ.1 2 y2 0 k := fun k => by
    rw [fCp_ne (by omega), fCp_ne (by omega), fCp_ne (by omega), fCp_ne (by omega)]
  have n3 : ∀ (m : fM) v k k2, (fI m 2 y 0 k v).1 2 y2 0 k2 = m.1 2 y2 0 k2 := fun m v k k2 => fI_ne (by omega)
  refine fE_ret2 41 (fun _ => rfl) ?_
  unfold oBec
  show (Sum.inl none, fI (fI (fCp (fCp (fCp (fCp μ 16 y2 0 16 y 0 0 0 6) 17 y2 0 17 y 0 0 0 6) 18 y2 0 18 y 0 0 0 6) 19 y2 0 19 y 0 0 0 6) 2 y 0 5 ((fCp (fCp (fCp (fCp μ 16 y2 0 16 y 0 0 0 6) 17 y2 0 17 y 0 0 0 6) 18 y2 0 18 y 0 0 0 6) 19 y2 0 19 y 0 0 0 6).1 2 y2 0 5)) 2 y 0 6 ((fI (fCp (fCp (fCp (fCp μ 16 y2 0 16 y 0 0 0 6) 17 y2 0 17 y 0 0 0 6) 18 y2 0 18 y 0 0 0 6) 19 y2 0 19 y 0 0 0 6) 2 y 0 5 ((fCp (fCp (fCp (fCp μ 16 y2 0 16 y 0 0 0 6) 17 y2 0 17 y 0 0 0 6) 18 y2 0 18 y 0 0 0 6) 19 y2 0 19 y 0 0 0 6).1 2 y2 0 5)).1 2 y2 0 6)) = _
  simp only [n3, e]
theorem oBec_out {μ : fM} {y y2 : Nat} : sX' (oP' y) μ (oBec μ y y2) := by
  refine ⟨fun c y' h' k q => ?_, rfl⟩
  have q : ¬ ((c = 2 ∨ c = 16 ∨ c = 17 ∨ c = 18 ∨ c = 19) ∧ y' = y ∧ h' = 0) := q
  unfold oBec
  rw [fI_ne (by omega), fI_ne (by omega), fCp_ne (by omega), fCp_ne (by omega), fCp_ne (by omega), fCp_ne (by omega)]
theorem oBec_at {μ : fM} {y y2 k c : Nat} (hk : k < 6) (hc : c = 16 ∨ c = 17 ∨ c = 18 ∨ c = 19) : (oBec μ y y2).1 c y 0 k = μ.1 c y2 0 k := by
  unfold oBec
  rcases hc with rfl | rfl | rfl | rfl
  · rw [fI_ne (by omega), fI_ne (by omega), fCp_ne (by omega), fCp_ne (by omega), fCp_ne (by omega), fCp_at hk]
  · rw [fI_ne (by omega), fI_ne (by omega), fCp_ne (by omega), fCp_ne (by omega), fCp_at hk, fCp_ne (by omega)]
  · rw [fI_ne (by omega), fI_ne (by omega), fCp_ne (by omega), fCp_at hk, fCp_ne (by omega), fCp_ne (by omega)]
  · rw [fI_ne (by omega), fI_ne (by omega), fCp_at hk, fCp_ne (by omega), fCp_ne (by omega), fCp_ne (by omega)]
theorem oBec_5 {μ : fM} {y y2 : Nat} : (oBec μ y y2).1 2 y 0 5 = μ.1 2 y2 0 5 := by
  unfold oBec
  rw [fI_ne (by omega), fI_at]
theorem oBec_6 {μ : fM} {y y2 : Nat} : (oBec μ y y2).1 2 y 0 6 = μ.1 2 y2 0 6 := by
  unfold oBec
  rw [fI_at]
