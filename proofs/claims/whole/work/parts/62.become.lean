/-! COPIES -/
theorem fCp_at {μ : fM} {c0 y0 h0 c1 y1 h1 n k : Nat} (hk : k < n) : (fCp μ c0 y0 h0 c1 y1 h1 0 0 n).1 c1 y1 h1 k = μ.1 c0 y0 h0 k := by
  show (if c1 = c1 ∧ y1 = y1 ∧ h1 = h1 ∧ 0 ≤ k ∧ k < 0 + n then μ.1 c0 y0 h0 (0 + (k - 0)) else _) = _
  rw [if_pos ⟨rfl, rfl, rfl, by omega, by omega⟩, Nat.zero_add, Nat.sub_zero]
theorem fCp_ne {μ : fM} {c0 y0 h0 c1 y1 h1 n c y h k : Nat} (q : ¬ (c = c1 ∧ y = y1 ∧ h = h1)) : (fCp μ c0 y0 h0 c1 y1 h1 0 0 n).1 c y h k = μ.1 c y h k := if_neg (fun p => q ⟨p.1, p.2.1, p.2.2.1⟩)
def hBec (μ : fM) (y h y2 h2 : Nat) : fM :=
  fI (fI (fI (fI (fCp (fCp (fCp μ 10 y2 h2 10 y h 0 0 8) 11 y2 h2 11 y h 0 0 8) 12 y2 h2 12 y h 0 0 8) 1 y h 3 (μ.1 1 y2 h2 3)) 1 y h 4 (μ.1 1 y2 h2 4)) 1 y h 5 (μ.1 1 y2 h2 5)) 1 y h 6 (μ.1 1 y2 h2 6)
theorem c_become {μ : fM} {y h y2 h2 : Nat} (hne : ¬ (y2 = y ∧ h2 = h)) : sX1_become [vR 1 y h, vR 1 y2 h2] μ = some (.inl none, hBec μ y h y2 h2) := by
  refine fsemV_of (Nat.le_of_ble_eq_true rfl) ?_
  have e : ∀ k, (fCp (fCp (fCp μ 10 y2 h2 10 y h 0 0 8) 11 y2 h2 11 y h 0 0 8) 12 y2 h2 12 y h 0 0 8).1 1 y2 h2 k = μ.1 1 y2 h2 k := fun k => by
    rw [fCp_ne (by omega), fCp_ne (by omega), fCp_ne (by omega)]
  have n3 : ∀ (m : fM) v k k2, (fI m 1 y h k v).1 1 y2 h2 k2 = m.1 1 y2 h2 k2 := fun m v k k2 => fI_ne (by omega)
  refine fE_ret2 41 (fun _ => rfl) ?_
  unfold hBec
  show (Sum.inl none, fI (fI (fI (fI (fCp (fCp (fCp μ 10 y2 h2 10 y h 0 0 8) 11 y2 h2 11 y h 0 0 8) 12 y2 h2 12 y h 0 0 8) 1 y h 3 ((fCp (fCp (fCp μ 10 y2 h2 10 y h 0 0 8) 11 y2 h2 11 y h 0 0 8) 12 y2 h2 12 y h 0 0 8).1 1 y2 h2 3)) 1 y h 4 ((fI (fCp (fCp (fCp μ 10 y2 h2 10 y h 0 0 8) 11 y2 h2 11 y h 0 0 8) 12 y2 h2 12 y h 0 0 8) 1 y h 3 ((fCp (fCp (fCp μ 10 y2 h2 10 y h 0 0 8) 11 y2 h2 11 y h 0 0 8) 12 y2 h2 12 y h 0 0 8).1 1 y2 h2 3)).1 1 y2 h2 4)) 1 y h 5 ((fI (fI (fCp (fCp (fCp μ 10 y2 h2 10 y h 0 0 8) 11 y2 h2 11 y h 0 0 8) 12 y2 h2 12 y h 0 0 8) 1 y h 3 ((fCp (fCp (fCp μ 10 y2 h2 10 y h 0 0 8) 11 y2 h2 11 y h 0 0 8) 12 y2 h2 12 y h 0 0 8).1 1 y2 h2 3)) 1 y h 4 ((fI (fCp (fCp (fCp μ 10 y2 h2 10 y h 0 0 8) 11 y2 h2 11 y h 0 0 8) 12 y2 h2 12 y h 0 0 8) 1 y h 3 ((fCp (fCp (fCp μ 10 y2 h2 10 y h 0 0 8) 11 y2 h2 11 y h 0 0 8) 12 y2 h2 12 y h 0 0 8).1 1 y2 h2 3)).1 1 y2 h2 4)).1 1 y2 h2 5)) 1 y h 6 ((fI (fI (fI (fCp (fCp (fCp μ 10 y2 h2 10 y h 0 0 8) 11 y2 h2 11 y h 0 0 8) 12 y2 h2 12 y h 0 0 8) 1 y h 3 ((fCp (fCp (fCp μ 10 y2 h2 10 y h 0 0 8) 11 y2 h2 11 y h 0 0 8) 12 y2 h2 12 y h 0 0 8).1 1 y2 h2 3)) 1 y h 4 ((fI (fCp (fCp (fCp μ 10 y2 h2 10 y h 0 0 8) 11 y2 h2 11 y h 0 0 8) 12 y2 h2 12 y h 0 0 8) 1 y h 3 ((fCp (fCp (fCp μ 10 y2 h2 10 y h 0 0 8) 11 y2 h2 11 y h 0 0 8) 12 y2 h2 12 y h 0 0 8).1 1 y2 h2 3)).1 1 y2 h2 4)) 1 y h 5 ((fI (fI (fCp (fCp (fCp μ 10 y2 h2 10 y h 0 0 8) 11 y2 h2 11 y h 0 0 8) 12 y2 h2 12 y h 0 0 8) 1 y h 3 ((fCp (fCp (fCp μ 10 y2 h2 10 y h 0 0 8) 11 y2 h2 11 y h 0 0 8) 12 y2 h2 12 y h 0 0 8).1 1 y2 h2 3)) 1 y h 4 ((fI (fCp (fCp (fCp μ 10 y2 h2 10 y h 0 0 8) 11 y2 h2 11 y h 0 0 8) 12 y2 h2 12 y h 0 0 8) 1 y h 3 ((fCp (fCp (fCp μ 10 y2 h2 10 y h 0 0 8) 11 y2 h2 11 y h 0 0 8) 12 y2 h2 12 y h 0 0 8).1 1 y2 h2 3)).1 1 y2 h2 4)).1 1 y2 h2 5)).1 1 y2 h2 6)) = _
  simp only [n3, e]
theorem hBec_hv {μ : fM} {y h y2 h2 g : Nat} {a : Nat → Nat} (H : HV μ y2 h2 a g) (B : HB a g) : HV (hBec μ y h y2 h2) y h a g := by
  have h8 := B.1
  unfold hBec
  refine ⟨?_, ?_, ?_, ?_, fun k hk => ?_, fun k hk => ?_, fun k hk => ?_⟩
  · rw [fI_ne (by omega), fI_ne (by omega), fI_ne (by omega), fI_at]; exact H.1
  · rw [fI_ne (by omega), fI_ne (by omega), fI_at]; exact H.2.1
  · rw [fI_ne (by omega), fI_at]; exact H.2.2.1
  · rw [fI_at]; exact H.2.2.2.1
  · rw [fI_ne (by omega), fI_ne (by omega), fI_ne (by omega), fI_ne (by omega), fCp_ne (by omega), fCp_ne (by omega), fCp_at hk]; exact H.2.2.2.2.1 k hk
  · rw [fI_ne (by omega), fI_ne (by omega), fI_ne (by omega), fI_ne (by omega), fCp_ne (by omega), fCp_at hk, fCp_ne (by omega)]; exact H.2.2.2.2.2.1 k hk
  · rw [fI_ne (by omega), fI_ne (by omega), fI_ne (by omega), fI_ne (by omega), fCp_at (by omega), fCp_ne (by omega), fCp_ne (by omega)]; exact H.2.2.2.2.2.2 k hk
theorem hBec_out {μ : fM} {y h y2 h2 : Nat} : sX' (hP y h) μ (hBec μ y h y2 h2) := by
  refine ⟨fun c y' h' k q => ?_, rfl⟩
  have q : ¬ ((c = 1 ∨ c = 10 ∨ c = 11 ∨ c = 12) ∧ y' = y ∧ h' = h) := q
  unfold hBec
  rw [fI_ne (by omega), fI_ne (by omega), fI_ne (by omega), fI_ne (by omega), fCp_ne (by omega), fCp_ne (by omega), fCp_ne (by omega)]
