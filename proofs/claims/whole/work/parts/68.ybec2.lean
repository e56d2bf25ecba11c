/-- a yard's places -/
def yP (y : Nat) (c y' : Nat) : Prop := (c = 1 ∨ c = 2 ∨ c = 6 ∨ c = 10 ∨ c = 11 ∨ c = 12 ∨ c = 14 ∨ c = 15 ∨ c = 16 ∨ c = 17 ∨ c = 18 ∨ c = 19) ∧ y' = y
def sY (P : Nat → Nat → Prop) (μ μ' : fM) : Prop := (∀ c y h k, ¬ P c y → μ'.1 c y h k = μ.1 c y h k) ∧ (∀ c y h k, ¬ P c y → μ'.2.1 c y h k = μ.2.1 c y h k) ∧ μ'.2.2 = μ.2.2
def yFin (μ : fM) (y y2 : Nat) : fM :=
  fJ (fI (fI (oBec (fCp (fCp μ 14 y2 0 14 y 0 0 0 12) 15 y2 0 15 y 0 0 0 4) y y2) 6 y 0 4 (μ.1 6 y2 0 4)) 6 y 0 5 (μ.1 6 y2 0 5)) 6 y 0 6 (μ.2.1 6 y2 0 6)
theorem fJ_i {μ : fM} {c y h k : Nat} {v : Int64} : (fJ μ c y h k v).1 = μ.1 := rfl
theorem yFin_i {μ : fM} {y y2 c y' h k : Nat} (q : ¬ ((c = 2 ∨ c = 6 ∨ c = 14 ∨ c = 15 ∨ c = 16 ∨ c = 17 ∨ c = 18 ∨ c = 19) ∧ y' = y)) : (yFin μ y y2).1 c y' h k = μ.1 c y' h k := by
  rw [yFin, fJ_i]
  rw [fI_ne (by omega), fI_ne (by omega), oBec_out.1 c y' h k (fun p => q ⟨by have := p.1; omega, p.2.1⟩), fCp_ne (by omega), fCp_ne (by omega)]
theorem yFin_yr {μ : fM} {y y2 u : Nat} {a : Nat → Nat} (hne : ¬ y2 = y) (O : OKA u a) (H : ∀ h, h < 6 → HV μ y h a h) (Y : YR μ y2 a) : YR (yFin μ y y2) y a := by
  have o6 := O.ords
  have cp : ∀ c k, (c = 16 ∨ c = 17 ∨ c = 18 ∨ c = 19) → k < 6 → (yFin μ y y2).1 c y 0 k = μ.1 c y2 0 k := fun c k hc hk => by
    rw [yFin, fJ_i]
    rw [fI_ne (by omega), fI_ne (by omega), oBec_at hk hc, fCp_ne (by omega), fCp_ne (by omega)]
  refine ⟨fun h hh => HV_out (H h hh) (fun c k hc => yFin_i (by omega)), fun k hk => ?_, fun k hk => ?_, ?_, ?_, ?_, ?_, ?_, fun k hk => ?_, fun k hk => ?_, fun k hk => ?_, fun k hk => ?_⟩
  · rw [yFin, fJ_i]
    rw [fI_ne (by omega), fI_ne (by omega), oBec_out.1 14 y 0 k (fun p => by have := p.1; omega), fCp_ne (by omega), fCp_at hk, Y.tide hk]
  · rw [yFin, fJ_i]
    rw [fI_ne (by omega), fI_ne (by omega), oBec_out.1 15 y 0 k (fun p => by have := p.1; omega), fCp_at hk, fCp_ne (by omega), Y.slip hk]
  · rw [yFin, fJ_i]
    rw [fI_ne (by omega), fI_at, Y.begun]
  · rw [yFin, fJ_i]
    rw [fI_at, Y.now]
  · exact (if_pos ⟨rfl, rfl, rfl, rfl⟩).trans Y.paid
  · rw [yFin, fJ_i]
    rw [fI_ne (by omega), fI_ne (by omega), oBec_5, fCp_ne (by omega), fCp_ne (by omega), Y.count]
  · rw [yFin, fJ_i]
    rw [fI_ne (by omega), fI_ne (by omega), oBec_6, fCp_ne (by omega), fCp_ne (by omega), Y.next]
  · rw [cp 16 k (by omega) (by omega), Y.id hk]
  · rw [cp 17 k (by omega) (by omega), Y.fr hk]
  · rw [cp 18 k (by omega) (by omega), Y.hr hk]
  · rw [cp 19 k (by omega) (by omega), Y.co hk]
