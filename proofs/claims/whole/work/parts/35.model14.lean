theorem fdiv_ok {x y : Int32} (hy : y ≠ 0) : FP.ddiv (FP.i2d x) (FP.i2d y) &&& 0x7fffffffffffffff ≤ 0x7ff0000000000000 := by
  have h1 := Jvm.Free.Fl.i2d_fin x
  have h2 := Jvm.Free.Fl.i2d_fin y
  refine Jvm.Free.Fl.ddiv_out (UInt64.le_of_lt h1) h2 ?_
  exact (Jvm.Free.Fl.nz64_iff _).mpr (Jvm.FP.Core.i2d_ne_zero hy)
abbrev aWs (a : Nat → Nat) : Nat := nT (hWgt a) 0 (a 0)
theorem aWs_le {u : Nat} {a : Nat → Nat} (O : OKA u a) : aWs a ≤ 240000000 := by
  have h6 := O.hulls
  have h : aWs a ≤ a 0 * 40000000 := nT_le fun i _ hi => hWgt_le O (by omega)
  omega
theorem g_mean_1 (μ : fM) {u : Nat} {a : Nat → Nat} {res : fR} (O : OKA u a) : ∀ j k x, k + j = a 0 → fEnds (fun zz => frun eX8_meanWeight tX8_meanWeight zz 50 [kR 8 0 0, kN (x + nT (hWgt a) k j), kN (a 0)] [] (gA μ a) 0 0) res → fEnds (fun zz => frun eX8_meanWeight tX8_meanWeight zz 26 [kR 8 0 0, kN x, kN k] [] (gA μ a) 0 0) res
  | 0, k, x, e, H => by
    have h6 := O.hulls
    refine fE_pos (by first | omega | (simp (disch := omega) only [fLit, nI_add, pk_mul, pk_rem, nI_clamp, beq01, beq11, cond_false, cond_true, nI_leI, nI_ltI, nI_eq, gA_at']; done) | (simp (disch := omega) only [fLit, nI_add, pk_mul, pk_rem, nI_clamp, beq01, beq11, cond_false, cond_true, nI_leI, nI_ltI, nI_eq, gA_at']; omega)) 6 (fun _ => rfl) ?_
    rw [← e] at H
    exact H
  | j + 1, k, x, e, H => by
    have h6 := O.hulls
    refine fE_neg (by first | omega | (simp (disch := omega) only [fLit, nI_add, pk_mul, pk_rem, nI_clamp, beq01, beq11, cond_false, cond_true, nI_leI, nI_ltI, nI_eq, gA_at']; done) | (simp (disch := omega) only [fLit, nI_add, pk_mul, pk_rem, nI_clamp, beq01, beq11, cond_false, cond_true, nI_leI, nI_ltI, nI_eq, gA_at']; omega)) 6 (fun _ => rfl) ?_
    refine fE_call (g_weight μ O (h := k) (by omega)) 4 (fun _ => rfl) ?_
    refine fE_step (y := fun zz => frun _ _ zz 26 [kR 8 0 0, kX (nI x + nI (hWgt a k)), kX (nI k + 1)] [] _ 0 0) 4 (fun _ => rfl) ?_
    simp (disch := omega) only [fLit, nI_add, pk_mul, pk_rem, nI_clamp, beq01, beq11, cond_false, cond_true]
    rw [nT, ← Nat.add_assoc] at H
    exact g_mean_1 μ O j (k + 1) _ (by omega) H
/-- the mean of weights: none where there are no hulls -/
def qMean (a : Nat → Nat) : Option UInt64 := if a 0 = 0 then none else some (FP.ddiv (FP.i2d (nI (aWs a))) (FP.i2d (nI (a 0))))
def mResD (μ : fM) (a : Nat → Nat) : Option UInt64 → fR
  | none => (.inl (some (vD FP.dconst0)), gA (gT μ 1) a)
  | some v => (.inl (some (vD v)), gA (gT μ 0) a)
theorem q_meanWeight (μ : fM) {u : Nat} {a : Nat → Nat} (O : OKA u a) : sX8_meanWeight [vR 8 0 0] (gA μ a) = some (mResD μ a (qMean a)) := by
  have h6 := O.hulls
  refine fsemV_of (Nat.le_of_ble_eq_true rfl) ?_
  refine fE_step (y := fun zz => frun _ _ zz 5 [kR 8 0 0, none, none] [] (fI (gA μ a) 8 0 0 9 0) 0 0) 3 (fun _ => rfl) ?_
  rw [gA_fI (by decide)]
  refine fE_ite 5 (fun _ => rfl) (fun q => ?_) (fun q => ?_)
  · skip
    simp (disch := omega) only [fLit, nI_add, pk_mul, pk_rem, nI_clamp, beq01, beq11, cond_false, cond_true, nI_leI, nI_ltI, nI_eq, gA_at'] at q
    refine fE_call (g_throwing0 μ a 1 0) 3 (fun _ => rfl) ?_
    refine fE_ret2 3 (fun _ => rfl) ?_
    unfold qMean
    rw [if_pos q]
    rfl
  · skip
    simp (disch := omega) only [fLit, nI_add, pk_mul, pk_rem, nI_clamp, beq01, beq11, cond_false, cond_true, nI_leI, nI_ltI, nI_eq, gA_at'] at q
    refine fE_step (y := fun zz => frun _ _ zz 26 [kR 8 0 0, kN 0, kN 0] [] _ 0 0) 4 (fun _ => rfl) ?_
    refine g_mean_1 (gT μ 0) O (a 0) 0 0 (by omega) ?_
    rw [Nat.zero_add]
    simp (disch := omega) only [fLit, nI_add, pk_mul, pk_rem, nI_clamp, beq01, beq11, cond_false, cond_true, gA_at']
    refine fE_pos (fdiv_ok (x := nI (aWs a)) (y := nI (a 0)) (fun e => q ((nI_eq (by omega) (by omega)).mp e))) 8 (fun _ => rfl) ?_
    refine fE_ret2 1 (fun _ => rfl) ?_
    unfold qMean
    rw [if_neg q]
    rfl
