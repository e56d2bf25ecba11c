theorem sub_pos {x y : Nat} (hx : x < 2 ^ 30) (hy : y < 2 ^ 30) : (0 : Int32) < nI x - nI y ↔ y < x := by
  rw [Int32.lt_iff_toInt_lt, pk_sub_toInt hx hy]
  show (0 : Int) < _ ↔ _
  omega
theorem sub_eq0 {x y : Nat} (hx : x < 2 ^ 30) (hy : y < 2 ^ 30) : nI x - nI y = (0 : Int32) ↔ x = y := by
  rw [← Int32.toInt_inj, pk_sub_toInt hx hy]
  show _ = (0 : Int) ↔ _
  omega
abbrev kP (a : Nat → Nat) (k o : Nat) : Prop := hWgt a o < hWgt a k ∨ hWgt a o = hWgt a k ∧ o < k
def kR' (a : Nat → Nat) (k : Nat) : Nat := nC (kP a k) 0 (a 0)
theorem q_rank_1 (μ : fM) {u : Nat} {a : Nat → Nat} {x : Int32} {k : Nat} {res : fR} (O : OKA u a) (hk : k < a 0) : ∀ j o n y, o + j = a 0 → (∀ y, fEnds (fun zz => frun eX8_hullAtRank tX8_hullAtRank zz 77 [kR 8 0 0, kX x, kN k, kN (n + nC (kP a k) o j), kN (a 0), y] [] (gA μ a) 0 0) res) → fEnds (fun zz => frun eX8_hullAtRank tX8_hullAtRank zz 22 [kR 8 0 0, kX x, kN k, kN n, kN o, y] [] (gA μ a) 0 0) res
  | 0, o, n, y, e, H => by
    have h6 := O.hulls
    refine fE_pos (by first | omega | (simp (disch := omega) only [fLit, nI_add, pk_mul, pk_rem, nI_clamp, beq01, beq11, cond_false, cond_true, nI_leI, nI_ltI, nI_eq, gA_at']; done) | (simp (disch := omega) only [fLit, nI_add, pk_mul, pk_rem, nI_clamp, beq01, beq11, cond_false, cond_true, nI_leI, nI_ltI, nI_eq, gA_at']; omega)) 6 (fun _ => rfl) ?_
    have H := H y
    rw [← e] at H
    exact H
  | j + 1, o, n, y, e, H => by
    have h6 := O.hulls
    have w1 := hWgt_le O (h := k) (by omega)
    have w2 := hWgt_le O (h := o) (by omega)
    refine fE_neg (by first | omega | (simp (disch := omega) only [fLit, nI_add, pk_mul, pk_rem, nI_clamp, beq01, beq11, cond_false, cond_true, nI_leI, nI_ltI, nI_eq, gA_at']; done) | (simp (disch := omega) only [fLit, nI_add, pk_mul, pk_rem, nI_clamp, beq01, beq11, cond_false, cond_true, nI_leI, nI_ltI, nI_eq, gA_at']; omega)) 6 (fun _ => rfl) ?_
    refine fE_call (g_weight μ O (h := k) (by omega)) 3 (fun _ => rfl) ?_
    refine fE_call (g_weight μ O (h := o) (by omega)) 3 (fun _ => rfl) ?_
    refine fE_ite 5 (fun _ => rfl) (fun q => ?_) (fun q => ?_)
    · skip
      rw [sub_pos (by omega) (by omega)] at q
      refine fE_step (y := fun zz => frun _ _ zz 22 [kR 8 0 0, kX x, kN k, kX (nI n + 1), kX (nI o + 1), kX (nI (hWgt a k) - nI (hWgt a o))] [] _ 0 0) 6 (fun _ => rfl) ?_
      rw [nI_1, nI_1]
      refine q_rank_1 μ O hk j (o + 1) _ _ (by omega) (fun y => ?_)
      rw [Nat.add_assoc, show 1 + nC (kP a k) (o + 1) j = nC (kP a k) o (j + 1) from by rw [nC, if_pos (Or.inl q)]]
      exact H y
    · skip
      rw [sub_pos (by omega) (by omega)] at q
      refine fE_ite 2 (fun _ => rfl) (fun r => ?_) (fun r => ?_)
      · skip
        rw [sub_eq0 (by omega) (by omega)] at r
        refine fE_ite 3 (fun _ => rfl) (fun s => ?_) (fun s => ?_)
        · skip
          simp (disch := omega) only [fLit, nI_add, pk_mul, pk_rem, nI_clamp, beq01, beq11, cond_false, cond_true, nI_leI, nI_ltI, nI_eq] at s
          refine fE_step (y := fun zz => frun _ _ zz 22 [kR 8 0 0, kX x, kN k, kX (nI n + 0), kX (nI o + 1), kX (nI (hWgt a k) - nI (hWgt a o))] [] _ 0 0) 5 (fun _ => rfl) ?_
          simp (disch := omega) only [fLit, nI_add, pk_mul, pk_rem, nI_clamp, beq01, beq11, cond_false, cond_true]
          refine q_rank_1 μ O hk j (o + 1) _ _ (by omega) (fun y => ?_)
          rw [Nat.add_assoc, show 0 + nC (kP a k) (o + 1) j = nC (kP a k) o (j + 1) from by rw [nC, if_neg (by omega)]]
          exact H y
        · skip
          simp (disch := omega) only [fLit, nI_add, pk_mul, pk_rem, nI_clamp, beq01, beq11, cond_false, cond_true, nI_leI, nI_ltI, nI_eq] at s
          refine fE_step (y := fun zz => frun _ _ zz 22 [kR 8 0 0, kX x, kN k, kX (nI n + 1), kX (nI o + 1), kX (nI (hWgt a k) - nI (hWgt a o))] [] _ 0 0) 6 (fun _ => rfl) ?_
          rw [nI_1, nI_1]
          refine q_rank_1 μ O hk j (o + 1) _ _ (by omega) (fun y => ?_)
          rw [Nat.add_assoc, show 1 + nC (kP a k) (o + 1) j = nC (kP a k) o (j + 1) from by rw [nC, if_pos (Or.inr (by omega))]]
          exact H y
      · skip
        rw [sub_eq0 (by omega) (by omega)] at r
        refine fE_step (y := fun zz => frun _ _ zz 22 [kR 8 0 0, kX x, kN k, kX (nI n + 0), kX (nI o + 1), kX (nI (hWgt a k) - nI (hWgt a o))] [] _ 0 0) 5 (fun _ => rfl) ?_
        simp (disch := omega) only [fLit, nI_add, pk_mul, pk_rem, nI_clamp, beq01, beq11, cond_false, cond_true]
        refine q_rank_1 μ O hk j (o + 1) _ _ (by omega) (fun y => ?_)
        rw [Nat.add_assoc, show 0 + nC (kP a k) (o + 1) j = nC (kP a k) o (j + 1) from by rw [nC, if_neg (by omega)]]
        exact H y
def qRank (a : Nat → Nat) (x : Int32) : qR := if nF (fun k => nI (kR' a k) = x) 0 (a 0) = a 0 then .inl 1 else .inr (nI (nF (fun k => nI (kR' a k) = x) 0 (a 0)))
theorem q_rank_2 (μ : fM) {u : Nat} {a : Nat → Nat} {x : Int32} (O : OKA u a) : ∀ j k y z w, k + j = a 0 → nF (fun k => nI (kR' a k) = x) 0 (a 0) = nF (fun k => nI (kR' a k) = x) k j → fEnds (fun zz => frun eX8_hullAtRank tX8_hullAtRank zz 7 [kR 8 0 0, kX x, kN k, y, z, w] [] (gA (gT μ 0) a) 0 0) (mRes μ a (qRank a x))
  | 0, k, y, z, w, e, ef => by
    have h6 := O.hulls
    have ef : nF (fun k => nI (kR' a k) = x) 0 (a 0) = k := ef
    refine fE_pos (by first | omega | (simp (disch := omega) only [fLit, nI_add, pk_mul, pk_rem, nI_clamp, beq01, beq11, cond_false, cond_true, nI_leI, nI_ltI, nI_eq, gA_at']; done) | (simp (disch := omega) only [fLit, nI_add, pk_mul, pk_rem, nI_clamp, beq01, beq11, cond_false, cond_true, nI_leI, nI_ltI, nI_eq, gA_at']; omega)) 6 (fun _ => rfl) ?_
    refine fE_call (g_throwing0 μ a 1 0) 3 (fun _ => rfl) ?_
    refine fE_ret2 1 (fun _ => rfl) ?_
    unfold qRank
    rw [if_pos (by omega)]
    rfl
  | j + 1, k, y, z, w, e, ef => by
    have h6 := O.hulls
    refine fE_neg (by first | omega | (simp (disch := omega) only [fLit, nI_add, pk_mul, pk_rem, nI_clamp, beq01, beq11, cond_false, cond_true, nI_leI, nI_ltI, nI_eq, gA_at']; done) | (simp (disch := omega) only [fLit, nI_add, pk_mul, pk_rem, nI_clamp, beq01, beq11, cond_false, cond_true, nI_leI, nI_ltI, nI_eq, gA_at']; omega)) 6 (fun _ => rfl) ?_
    refine fE_step (y := fun zz => frun _ _ zz 22 [kR 8 0 0, kX x, kN k, kN 0, kN 0, w] [] _ 0 0) 4 (fun _ => rfl) ?_
    refine q_rank_1 (gT μ 0) O (by omega) (a 0) 0 0 w (by omega) (fun w => ?_)
    rw [Nat.zero_add]
    refine fE_ite 3 (fun _ => rfl) (fun q => ?_) (fun q => ?_)
    · skip
      have q : nI (kR' a k) = x := q
      rw [nF, if_pos q] at ef
      refine fE_ret2 2 (fun _ => rfl) ?_
      unfold qRank
      rw [ef, if_neg (by omega)]
      rfl
    · skip
      have q : ¬ nI (kR' a k) = x := q
      rw [nF, if_neg q] at ef
      refine fE_step (y := fun zz => frun _ _ zz 7 [kR 8 0 0, kX x, kX (nI k + 1), kN (kR' a k), kN (a 0), w] [] _ 0 0) 2 (fun _ => rfl) ?_
      rw [nI_1]
      exact q_rank_2 μ O j (k + 1) _ _ _ (by omega) ef
theorem q_hullAtRank (μ : fM) {u : Nat} {a : Nat → Nat} (x : Int32) (O : OKA u a) : sX8_hullAtRank [vR 8 0 0, vI x] (gA μ a) = some (mRes μ a (qRank a x)) := by
  refine fsemV_of (Nat.le_of_ble_eq_true rfl) ?_
  refine fE_step (y := fun zz => frun _ _ zz 5 [kR 8 0 0, kX x, none, none, none, none] [] (fI (gA μ a) 8 0 0 9 0) 0 0) 3 (fun _ => rfl) ?_
  rw [gA_fI (by decide)]
  refine fE_step (y := fun zz => frun _ _ zz 7 [kR 8 0 0, kX x, kN 0, none, none, none] [] _ 0 0) 2 (fun _ => rfl) ?_
  exact q_rank_2 μ O (a 0) 0 _ _ _ (by omega) rfl
