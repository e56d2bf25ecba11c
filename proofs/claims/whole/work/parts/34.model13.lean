/-- whether the order at place k comes before the one at place p -/
abbrev bP (a : Nat → Nat) (p k : Nat) : Prop := oF a k = oF a p ∧ (oD a p < oD a k ∨ oD a k = oD a p ∧ k < p)
theorem oD_le {u : Nat} {a : Nat → Nat} (O : OKA u a) {k : Nat} (hk : k < 6) : oD a k ≤ 999 := by
  have := O.oc k hk
  unfold oD
  omega
theorem g_before_1 (μ : fM) {u : Nat} {a : Nat → Nat} {p : Nat} (O : OKA u a) (hp : p < 6) : ∀ j k n z, k + j = a 2 → fEnds (fun zz => frun eX8_before tX8_before zz 4 [kR 8 0 0, kN p, kN n, kN k, z] [] (gA μ a) 0 0) (.inl (some (vI (nI (n + nC (bP a p) k j)))), gA μ a)
  | 0, k, n, z, e => by
    have h6 := O.ords
    refine fE_pos (by first | omega | (simp (disch := omega) only [fLit, nI_add, pk_mul, pk_rem, nI_clamp, beq01, beq11, cond_false, cond_true, nI_leI, nI_ltI, nI_eq, gA_at']; done) | (simp (disch := omega) only [fLit, nI_add, pk_mul, pk_rem, nI_clamp, beq01, beq11, cond_false, cond_true, nI_leI, nI_ltI, nI_eq, gA_at']; omega)) 6 (fun _ => rfl) ?_
    exact fE_ret 2 (fun _ => rfl)
  | j + 1, k, n, z, e => by
    have h6 := O.ords
    have f1 := O.fo k (by omega)
    have f2 := O.fo p (by omega)
    have c1 := oD_le O (k := k) (by omega)
    have c2 := oD_le O hp
    have e1 : ∀ m, n + 1 + nC (bP a p) (k + 1) j = m → bP a p k → n + nC (bP a p) k (j + 1) = m := fun m hm hb => by
      rw [← hm, nC, if_pos hb, Nat.add_assoc]
    have e0 : ∀ m, n + nC (bP a p) (k + 1) j = m → ¬ bP a p k → n + nC (bP a p) k (j + 1) = m := fun m hm hb => by
      rw [← hm, nC, if_neg hb, Nat.zero_add]
    refine fE_neg (by first | omega | (simp (disch := omega) only [fLit, nI_add, pk_mul, pk_rem, nI_clamp, beq01, beq11, cond_false, cond_true, nI_leI, nI_ltI, nI_eq, gA_at']; done) | (simp (disch := omega) only [fLit, nI_add, pk_mul, pk_rem, nI_clamp, beq01, beq11, cond_false, cond_true, nI_leI, nI_ltI, nI_eq, gA_at']; omega)) 6 (fun _ => rfl) ?_
    refine fE_pos (by refine g_in (k := 189 + 4 * k + 1) ?_ (show 189 + 4 * k + 1 < 213 from by omega) (show 213 < 2 ^ 31 from by decide); first | rfl | (simp (disch := omega) only [fLit, nI_add, pk_mul, pk_rem, pk_sub, nI_clamp]; done)) 10 (fun _ => rfl) ?_
    refine fE_pos (by refine g_in (k := 189 + 4 * p + 1) ?_ (show 189 + 4 * p + 1 < 213 from by omega) (show 213 < 2 ^ 31 from by decide); first | rfl | (simp (disch := omega) only [fLit, nI_add, pk_mul, pk_rem, pk_sub, nI_clamp]; done)) 10 (fun _ => rfl) ?_
    refine fE_ite 1 (fun _ => rfl) (fun q => ?_) (fun q => ?_)
    · skip
      simp (disch := omega) only [fLit, nI_add, pk_mul, pk_rem, nI_clamp, beq01, beq11, cond_false, cond_true, nI_leI, nI_ltI, nI_eq, gA_at'] at q
      have q := (nI_eq (a := oF a k) (b := oF a p) (by omega) (by omega)).mp q
      refine fE_call (g_coins μ (k := k) O (by omega)) 9 (fun _ => rfl) ?_
      refine fE_call (g_coins μ (k := p) O hp) 3 (fun _ => rfl) ?_
      refine fE_ite 1 (fun _ => rfl) (fun r => ?_) (fun r => ?_)
      · skip
        simp (disch := omega) only [fLit, nI_add, pk_mul, pk_rem, nI_clamp, beq01, beq11, cond_false, cond_true, nI_leI, nI_ltI, nI_eq] at r
        refine fE_step (y := fun zz => frun _ _ zz 4 [kR 8 0 0, kN p, kX (nI n + 1), kX (nI k + 1), kN 1] [] _ 0 0) 6 (fun _ => rfl) ?_
        rw [nI_1, nI_1, e1 _ rfl ⟨q, Or.inl r⟩]
        exact g_before_1 μ O hp j (k + 1) _ _ (by omega)
      · skip
        simp (disch := omega) only [fLit, nI_add, pk_mul, pk_rem, nI_clamp, beq01, beq11, cond_false, cond_true, nI_leI, nI_ltI, nI_eq] at r
        refine fE_call (g_coins μ (k := k) O (by omega)) 3 (fun _ => rfl) ?_
        refine fE_call (g_coins μ (k := p) O hp) 3 (fun _ => rfl) ?_
        refine fE_ite 1 (fun _ => rfl) (fun s => ?_) (fun s => ?_)
        · skip
          simp (disch := omega) only [fLit, nI_add, pk_mul, pk_rem, nI_clamp, beq01, beq11, cond_false, cond_true, nI_leI, nI_ltI, nI_eq] at s
          refine fE_ite 3 (fun _ => rfl) (fun t => ?_) (fun t => ?_)
          · skip
            simp (disch := omega) only [fLit, nI_add, pk_mul, pk_rem, nI_clamp, beq01, beq11, cond_false, cond_true, nI_leI, nI_ltI, nI_eq] at t
            refine fE_step (y := fun zz => frun _ _ zz 4 [kR 8 0 0, kN p, kX (nI n + 0), kX (nI k + 1), kN 1] [] _ 0 0) 5 (fun _ => rfl) ?_
            simp (disch := omega) only [fLit, nI_add, pk_mul, pk_rem, nI_clamp, beq01, beq11, cond_false, cond_true]
            rw [e0 _ rfl (fun b => b.2.elim r (fun b => by omega))]
            exact g_before_1 μ O hp j (k + 1) _ _ (by omega)
          · skip
            simp (disch := omega) only [fLit, nI_add, pk_mul, pk_rem, nI_clamp, beq01, beq11, cond_false, cond_true, nI_leI, nI_ltI, nI_eq] at t
            refine fE_step (y := fun zz => frun _ _ zz 4 [kR 8 0 0, kN p, kX (nI n + 1), kX (nI k + 1), kN 1] [] _ 0 0) 6 (fun _ => rfl) ?_
            rw [nI_1, nI_1, e1 _ rfl ⟨q, Or.inr ⟨s, by omega⟩⟩]
            exact g_before_1 μ O hp j (k + 1) _ _ (by omega)
        · skip
          simp (disch := omega) only [fLit, nI_add, pk_mul, pk_rem, nI_clamp, beq01, beq11, cond_false, cond_true, nI_leI, nI_ltI, nI_eq] at s
          refine fE_step (y := fun zz => frun _ _ zz 4 [kR 8 0 0, kN p, kX (nI n + 0), kX (nI k + 1), kN 1] [] _ 0 0) 5 (fun _ => rfl) ?_
          simp (disch := omega) only [fLit, nI_add, pk_mul, pk_rem, nI_clamp, beq01, beq11, cond_false, cond_true]
          rw [e0 _ rfl (fun b => b.2.elim r (fun b => s b.1))]
          exact g_before_1 μ O hp j (k + 1) _ _ (by omega)
    · skip
      simp (disch := omega) only [fLit, nI_add, pk_mul, pk_rem, nI_clamp, beq01, beq11, cond_false, cond_true, nI_leI, nI_ltI, nI_eq, gA_at'] at q
      have q : ¬ oF a k = oF a p := fun b => q (congrArg nI b)
      refine fE_step (y := fun zz => frun _ _ zz 4 [kR 8 0 0, kN p, kX (nI n + 0), kX (nI k + 1), kN 0] [] _ 0 0) 10 (fun _ => rfl) ?_
      simp (disch := omega) only [fLit, nI_add, pk_mul, pk_rem, nI_clamp, beq01, beq11, cond_false, cond_true]
      rw [e0 _ rfl (fun b => q b.1)]
      exact g_before_1 μ O hp j (k + 1) _ _ (by omega)
def oB (a : Nat → Nat) (p : Nat) : Nat := nC (bP a p) 0 (a 2)
theorem g_before (μ : fM) {u : Nat} {a : Nat → Nat} {p : Nat} (O : OKA u a) (hp : p < 6) : sX8_before [vR 8 0 0, vI (nI p)] (gA μ a) = some (.inl (some (vI (nI (oB a p)))), gA μ a) := by
  refine fsemV_of (Nat.le_of_ble_eq_true rfl) ?_
  refine fE_step (y := fun zz => frun _ _ zz 4 [kR 8 0 0, kN p, kN 0, kN 0, none] [] _ 0 0) 4 (fun _ => rfl) ?_
  refine fE_cg (g_before_1 μ O hp (a 2) 0 0 _ (by omega)) ?_
  rw [Nat.zero_add]
  rfl
abbrev dP (a : Nat → Nat) (f k : Nat) : Prop := hS a k = 1 ∧ hF a k = f
def qDel (a : Nat → Nat) : Nat := nT (fun p => if oB a p < nC (dP a (oF a p)) 0 (a 0) then oD a p else 0) 0 (a 2)
theorem g_best_1 (μ : fM) {u : Nat} {a : Nat → Nat} {x p : Nat} {res : fR} (O : OKA u a) (hp : p < 6) : ∀ j k n, k + j = a 0 → fEnds (fun zz => frun eX8_bestDelivery tX8_bestDelivery zz 82 [kR 8 0 0, kN x, kN p, kN (n + nC (dP a (oF a p)) k j), kN (a 0)] [] (gA μ a) 0 0) res → fEnds (fun zz => frun eX8_bestDelivery tX8_bestDelivery zz 24 [kR 8 0 0, kN x, kN p, kN n, kN k] [] (gA μ a) 0 0) res
  | 0, k, n, e, H => by
    have h6 := O.hulls
    refine fE_pos (by first | omega | (simp (disch := omega) only [fLit, nI_add, pk_mul, pk_rem, nI_clamp, beq01, beq11, cond_false, cond_true, nI_leI, nI_ltI, nI_eq, gA_at']; done) | (simp (disch := omega) only [fLit, nI_add, pk_mul, pk_rem, nI_clamp, beq01, beq11, cond_false, cond_true, nI_leI, nI_ltI, nI_eq, gA_at']; omega)) 6 (fun _ => rfl) ?_
    rw [← e] at H
    exact H
  | j + 1, k, n, e, H => by
    have h6 := O.hulls
    have s1 := O.st k (by omega)
    have f1 := O.fr k (by omega)
    have f2 := O.fo p hp
    refine fE_neg (by first | omega | (simp (disch := omega) only [fLit, nI_add, pk_mul, pk_rem, nI_clamp, beq01, beq11, cond_false, cond_true, nI_leI, nI_ltI, nI_eq, gA_at']; done) | (simp (disch := omega) only [fLit, nI_add, pk_mul, pk_rem, nI_clamp, beq01, beq11, cond_false, cond_true, nI_leI, nI_ltI, nI_eq, gA_at']; omega)) 6 (fun _ => rfl) ?_
    refine fE_call (g_state μ (a := a) (h := k) (by omega)) 4 (fun _ => rfl) ?_
    refine fE_ite 2 (fun _ => rfl) (fun q => ?_) (fun q => ?_)
    · skip
      simp (disch := omega) only [fLit, nI_add, pk_mul, pk_rem, nI_clamp, beq01, beq11, cond_false, cond_true, nI_leI, nI_ltI, nI_eq] at q
      refine fE_call (g_frames μ (a := a) (h := k) (by omega)) 3 (fun _ => rfl) ?_
      refine fE_pos (by refine g_in (k := 189 + 4 * p + 1) ?_ (show 189 + 4 * p + 1 < 213 from by omega) (show 213 < 2 ^ 31 from by decide); first | rfl | (simp (disch := omega) only [fLit, nI_add, pk_mul, pk_rem, pk_sub, nI_clamp]; done)) 10 (fun _ => rfl) ?_
      refine fE_ite 1 (fun _ => rfl) (fun r => ?_) (fun r => ?_)
      · skip
        simp (disch := omega) only [fLit, nI_add, pk_mul, pk_rem, nI_clamp, beq01, beq11, cond_false, cond_true, nI_leI, nI_ltI, nI_eq, gA_at'] at r
        have r := (nI_eq (a := hF a k) (b := oF a p) (by omega) (by omega)).mp r
        refine fE_step (y := fun zz => frun _ _ zz 24 [kR 8 0 0, kN x, kN p, kX (nI n + 1), kX (nI k + 1)] [] _ 0 0) 6 (fun _ => rfl) ?_
        rw [nI_1, nI_1]
        rw [nC, if_pos ⟨q, r⟩, ← Nat.add_assoc] at H
        exact g_best_1 μ O hp j (k + 1) _ (by omega) H
      · skip
        simp (disch := omega) only [fLit, nI_add, pk_mul, pk_rem, nI_clamp, beq01, beq11, cond_false, cond_true, nI_leI, nI_ltI, nI_eq, gA_at'] at r
        have r : ¬ hF a k = oF a p := fun b => r (congrArg nI b)
        refine fE_step (y := fun zz => frun _ _ zz 24 [kR 8 0 0, kN x, kN p, kX (nI n + 0), kX (nI k + 1)] [] _ 0 0) 5 (fun _ => rfl) ?_
        simp (disch := omega) only [fLit, nI_add, pk_mul, pk_rem, nI_clamp, beq01, beq11, cond_false, cond_true]
        rw [nC, if_neg (fun b => r b.2), Nat.zero_add] at H
        exact g_best_1 μ O hp j (k + 1) _ (by omega) H
    · skip
      simp (disch := omega) only [fLit, nI_add, pk_mul, pk_rem, nI_clamp, beq01, beq11, cond_false, cond_true, nI_leI, nI_ltI, nI_eq] at q
      refine fE_step (y := fun zz => frun _ _ zz 24 [kR 8 0 0, kN x, kN p, kX (nI n + 0), kX (nI k + 1)] [] _ 0 0) 5 (fun _ => rfl) ?_
      simp (disch := omega) only [fLit, nI_add, pk_mul, pk_rem, nI_clamp, beq01, beq11, cond_false, cond_true]
      rw [nC, if_neg (fun b => q b.1), Nat.zero_add] at H
      exact g_best_1 μ O hp j (k + 1) _ (by omega) H
theorem g_best_2 (μ : fM) {u : Nat} {a : Nat → Nat} (O : OKA u a) : ∀ j p x y z, p + j = a 2 → fEnds (fun zz => frun eX8_bestDelivery tX8_bestDelivery zz 9 [kR 8 0 0, kN x, kN p, y, z] [] (gA μ a) 0 0) (.inl (some (vI (nI (x + nT (fun p => if oB a p < nC (dP a (oF a p)) 0 (a 0) then oD a p else 0) p j)))), gA μ a)
  | 0, p, x, y, z, e => by
    have h6 := O.ords
    refine fE_pos (by first | omega | (simp (disch := omega) only [fLit, nI_add, pk_mul, pk_rem, nI_clamp, beq01, beq11, cond_false, cond_true, nI_leI, nI_ltI, nI_eq, gA_at']; done) | (simp (disch := omega) only [fLit, nI_add, pk_mul, pk_rem, nI_clamp, beq01, beq11, cond_false, cond_true, nI_leI, nI_ltI, nI_eq, gA_at']; omega)) 6 (fun _ => rfl) ?_
    exact fE_ret 2 (fun _ => rfl)
  | j + 1, p, x, y, z, e => by
    have h6 := O.ords
    have hh := O.hulls
    have b1 : oB a p ≤ a 2 := nC_le
    have b2 : nC (dP a (oF a p)) 0 (a 0) ≤ a 0 := nC_le
    refine fE_neg (by first | omega | (simp (disch := omega) only [fLit, nI_add, pk_mul, pk_rem, nI_clamp, beq01, beq11, cond_false, cond_true, nI_leI, nI_ltI, nI_eq, gA_at']; done) | (simp (disch := omega) only [fLit, nI_add, pk_mul, pk_rem, nI_clamp, beq01, beq11, cond_false, cond_true, nI_leI, nI_ltI, nI_eq, gA_at']; omega)) 6 (fun _ => rfl) ?_
    refine fE_step (y := fun zz => frun _ _ zz 24 [kR 8 0 0, kN x, kN p, kN 0, kN 0] [] _ 0 0) 4 (fun _ => rfl) ?_
    refine g_best_1 μ O (by omega) (a 0) 0 0 (by omega) ?_
    rw [Nat.zero_add]
    refine fE_call (g_before μ (p := p) O (by omega)) 4 (fun _ => rfl) ?_
    refine fE_ite 2 (fun _ => rfl) (fun q => ?_) (fun q => ?_)
    · skip
      simp (disch := omega) only [fLit, nI_add, pk_mul, pk_rem, nI_clamp, beq01, beq11, cond_false, cond_true, nI_leI, nI_ltI, nI_eq] at q
      refine fE_step (y := fun zz => frun _ _ zz 9 [kR 8 0 0, kX (nI x + 0), kX (nI p + 1), kN (nC (dP a (oF a p)) 0 (a 0)), kN (a 0)] [] _ 0 0) 5 (fun _ => rfl) ?_
      simp (disch := omega) only [fLit, nI_add, pk_mul, pk_rem, nI_clamp, beq01, beq11, cond_false, cond_true]
      refine fE_cg (g_best_2 μ O j (p + 1) _ _ _ (by omega)) ?_
      rw [nT, if_neg (by omega)]
      show _ = (Sum.inl (some (vI (nI (x + (0 + _))))), gA μ a)
      rw [Nat.zero_add]
      rfl
    · skip
      simp (disch := omega) only [fLit, nI_add, pk_mul, pk_rem, nI_clamp, beq01, beq11, cond_false, cond_true, nI_leI, nI_ltI, nI_eq] at q
      refine fE_call (g_coins μ (k := p) O (by omega)) 3 (fun _ => rfl) ?_
      refine fE_step (y := fun zz => frun _ _ zz 9 [kR 8 0 0, kX (nI x + nI (oD a p)), kX (nI p + 1), kN (nC (dP a (oF a p)) 0 (a 0)), kN (a 0)] [] _ 0 0) 5 (fun _ => rfl) ?_
      simp (disch := omega) only [fLit, nI_add, pk_mul, pk_rem, nI_clamp, beq01, beq11, cond_false, cond_true]
      refine fE_cg (g_best_2 μ O j (p + 1) _ _ _ (by omega)) ?_
      rw [nT, if_pos (by omega), Nat.add_assoc]
theorem q_bestDelivery (μ : fM) {u : Nat} {a : Nat → Nat} (O : OKA u a) : sX8_bestDelivery [vR 8 0 0] (gA μ a) = some (mRes μ a (.inr (nI (qDel a)))) := by
  refine fsemV_of (Nat.le_of_ble_eq_true rfl) ?_
  refine fE_step (y := fun zz => frun _ _ zz 5 [kR 8 0 0, none, none, none, none] [] (fI (gA μ a) 8 0 0 9 0) 0 0) 3 (fun _ => rfl) ?_
  rw [gA_fI (by decide)]
  refine fE_step (y := fun zz => frun _ _ zz 9 [kR 8 0 0, kN 0, kN 0, none, none] [] _ 0 0) 4 (fun _ => rfl) ?_
  refine fE_cg (g_best_2 (gT μ 0) O (a 2) 0 0 _ _ (by omega)) ?_
  rw [Nat.zero_add]
  rfl
