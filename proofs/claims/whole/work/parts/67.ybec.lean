/-- all hulls of one yard -/
def hsP (y : Nat) (c y' _h' _k : Nat) : Prop := (c = 1 ∨ c = 10 ∨ c = 11 ∨ c = 12) ∧ y' = y
theorem c_ybec_1 {y y2 : Nat} {a : Nat → Nat} (hne : ¬ y2 = y) (hB : ∀ h, h < 6 → HB a h) : ∀ j k (μ : fM), k + j = 6 → (∀ h, h < k → HV μ y h a h) → (∀ h, h < 6 → HV μ y2 h a h) → ∃ μ', (∀ res, fEnds (fun zz => frun eX6_become tX6_become zz 29 [kR 6 y 0, kR 6 y2 0, kN 6] [] μ' 0 0) res → fEnds (fun zz => frun eX6_become tX6_become zz 2 [kR 6 y 0, kR 6 y2 0, kN k] [] μ 0 0) res) ∧ (∀ h, h < 6 → HV μ' y h a h) ∧ sX' (hsP y) μ μ'
  | 0, k, μ, e, H, H2 => by
    obtain rfl : k = 6 := e
    refine ⟨μ, fun res R => ?_, H, sX_refl⟩
    refine fE_step (y := fun zz => frun _ _ zz 29 [kR 6 y 0, kR 6 y2 0, kN 6] [] _ 0 0) 3 (fun _ => rfl) ?_
    exact R
  | j + 1, k, μ, e, H, H2 => by
    have hc : (nI k).toNatClampNeg = k := nI_clamp (by omega)
    have out := hBec_out (μ := μ) (y := y) (h := k) (y2 := y2) (h2 := k)
    obtain ⟨μ', r1, r2, r3⟩ := c_ybec_1 hne hB j (k + 1) (hBec μ y k y2 k) (by omega) (fun h hh => by
      by_cases e : h = k
      · subst e
        exact hBec_hv (H2 h (by omega)) (hB h (by omega))
      · exact HV_out (H h (by omega)) (fun c i _ => out.1 c y h i (fun p => e p.2.2))) (fun h hh => HV_out (H2 h hh) (fun c i _ => out.1 c y2 h i (fun p => hne p.2.1)))
    refine ⟨μ', fun res R => ?_, r2, sX_trans (sX_mono out (fun c y' h' i p => ⟨p.1, p.2.1⟩)) r3⟩
    have r1 := r1 res R
    refine fE_neg (by first | omega | (simp (disch := omega) only [fLit, nI_add, pk_mul, pk_rem, nI_clamp, beq01, beq11, cond_false, cond_true, nI_leI, nI_ltI, nI_eq]; done) | (simp (disch := omega) only [fLit, nI_add, pk_mul, pk_rem, nI_clamp, beq01, beq11, cond_false, cond_true, nI_leI, nI_ltI, nI_eq]; omega)) 3 (fun _ => rfl) ?_
    refine fE_pos (by refine g_in (k := k) ?_ (show k < 6 from by omega) (show 6 < 2 ^ 31 from by decide); first | rfl | (simp (disch := omega) only [fLit, nI_add, pk_mul, pk_rem, pk_sub, nI_clamp]; done)) 4 (fun _ => rfl) ?_
    refine fE_pos (by refine g_in (k := k) ?_ (show k < 6 from by omega) (show 6 < 2 ^ 31 from by decide); first | rfl | (simp (disch := omega) only [fLit, nI_add, pk_mul, pk_rem, pk_sub, nI_clamp]; done)) 4 (fun _ => rfl) ?_
    rw [hc]
    refine fE_call (c_become (μ := μ) (y := y) (h := k) (y2 := y2) (h2 := k) (fun p => hne p.1)) 1 (fun _ => rfl) ?_
    refine fE_step (y := fun zz => frun _ _ zz 2 [kR 6 y 0, kR 6 y2 0, kX (nI k + 1)] [] _ 0 0) 2 (fun _ => rfl) ?_
    rw [nI_1]
    exact r1
