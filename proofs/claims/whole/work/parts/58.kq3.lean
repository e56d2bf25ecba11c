theorem c_rank_1 {μ : fM} {u k : Nat} {a : Nat → Nat} (Y : YR μ 0 a) (O : OKA u a) (hk : k < a 0) : ∀ j o n z, o + j = a 0 → fEnds (fun zz => frun eX6_rankByWeight tX6_rankByWeight zz 15 [kR 6 0 0, kN k, kN (hWgt a k), kN n, kN o, z] [] μ 0 0) (.inl (some (vI (nI (n + nC (kP a k) o j)))), μ)
  | 0, o, n, z, e => by
    have h6 := O.hulls
    have hb := Y.begun
    refine fE_pos (by show μ.1 6 0 0 4 ≤ nI o; rw [hb]; exact nI_le (by omega) (by omega)) 4 (fun _ => rfl) ?_
    exact fE_ret 2 (fun _ => rfl)
  | j + 1, o, n, z, e => by
    have h6 := O.hulls
    have hb := Y.begun
    have w1 := hWgt_le O (h := k) (by omega)
    have w2 := hWgt_le O (h := o) (by omega)
    have hc : (nI o).toNatClampNeg = o := nI_clamp (by omega)
    have cw := c_weight (Y.hv (h := o) (by omega)) (O.hb (g := o) (by omega))
    rw [← hc] at cw
    rw [hc] at cw
    have up1 : kP a k o → n + nC (kP a k) o (j + 1) = n + 1 + nC (kP a k) (o + 1) j := fun p => by rw [nC, if_pos p, Nat.add_assoc]
    have up0 : ¬ kP a k o → n + nC (kP a k) o (j + 1) = n + nC (kP a k) (o + 1) j := fun p => by rw [nC, if_neg p, Nat.zero_add]
    refine fE_neg (fun p => by change μ.1 6 0 0 4 ≤ nI o at p; rw [hb] at p; exact absurd ((nI_leI (by omega) (by omega)).mp p) (by omega)) 4 (fun _ => rfl) ?_
    refine fE_pos (by refine g_in (k := o) ?_ (show o < 6 from by omega) (show 6 < 2 ^ 31 from by decide); first | rfl | (simp (disch := omega) only [fLit, nI_add, pk_mul, pk_rem, pk_sub, nI_clamp]; done)) 4 (fun _ => rfl) ?_
    rw [hc]
    refine fE_call (cw) 1 (fun _ => rfl) ?_
    refine fE_step (y := fun zz => frun _ _ zz 36 [kR 6 0 0, kN k, kN (hWgt a k), kN n, kN o, kN (hWgt a o)] [] _ 0 0) 1 (fun _ => rfl) ?_
    refine fE_ite 3 (fun _ => rfl) (fun q => ?_) (fun q => ?_)
    · skip
      simp (disch := omega) only [fLit, nI_add, pk_mul, pk_rem, nI_clamp, beq01, beq11, cond_false, cond_true, nI_leI, nI_ltI, nI_eq] at q
      refine fE_step (y := fun zz => frun _ _ zz 15 [kR 6 0 0, kN k, kN (hWgt a k), kX (nI n + 1), kX (nI o + 1), kN (hWgt a o)] [] _ 0 0) 3 (fun _ => rfl) ?_
      rw [nI_1, nI_1, up1 (Or.inl q)]
      exact c_rank_1 Y O hk j (o + 1) _ _ (by omega)
    · skip
      simp (disch := omega) only [fLit, nI_add, pk_mul, pk_rem, nI_clamp, beq01, beq11, cond_false, cond_true, nI_leI, nI_ltI, nI_eq] at q
      refine fE_ite 3 (fun _ => rfl) (fun r => ?_) (fun r => ?_)
      · skip
        simp (disch := omega) only [fLit, nI_add, pk_mul, pk_rem, nI_clamp, beq01, beq11, cond_false, cond_true, nI_leI, nI_ltI, nI_eq] at r
        refine fE_ite 3 (fun _ => rfl) (fun s => ?_) (fun s => ?_)
        · skip
          simp (disch := omega) only [fLit, nI_add, pk_mul, pk_rem, nI_clamp, beq01, beq11, cond_false, cond_true, nI_leI, nI_ltI, nI_eq] at s
          refine fE_step (y := fun zz => frun _ _ zz 15 [kR 6 0 0, kN k, kN (hWgt a k), kN n, kX (nI o + 1), kN (hWgt a o)] [] _ 0 0) 2 (fun _ => rfl) ?_
          rw [nI_1, up0 (by omega)]
          exact c_rank_1 Y O hk j (o + 1) _ _ (by omega)
        · skip
          simp (disch := omega) only [fLit, nI_add, pk_mul, pk_rem, nI_clamp, beq01, beq11, cond_false, cond_true, nI_leI, nI_ltI, nI_eq] at s
          refine fE_step (y := fun zz => frun _ _ zz 15 [kR 6 0 0, kN k, kN (hWgt a k), kX (nI n + 1), kX (nI o + 1), kN (hWgt a o)] [] _ 0 0) 3 (fun _ => rfl) ?_
          rw [nI_1, nI_1, up1 (Or.inr ⟨r, by omega⟩)]
          exact c_rank_1 Y O hk j (o + 1) _ _ (by omega)
      · skip
        simp (disch := omega) only [fLit, nI_add, pk_mul, pk_rem, nI_clamp, beq01, beq11, cond_false, cond_true, nI_leI, nI_ltI, nI_eq] at r
        refine fE_step (y := fun zz => frun _ _ zz 15 [kR 6 0 0, kN k, kN (hWgt a k), kN n, kX (nI o + 1), kN (hWgt a o)] [] _ 0 0) 2 (fun _ => rfl) ?_
        rw [nI_1, up0 (by omega)]
        exact c_rank_1 Y O hk j (o + 1) _ _ (by omega)
theorem c_rank {μ : fM} {u k : Nat} {a : Nat → Nat} (Y : YR μ 0 a) (O : OKA u a) (hk : k < a 0) : sX6_rankByWeight [vR 6 0 0, vI (nI k)] μ = some (.inl (some (vI (nI (kR' a k)))), μ) := by
  have h6 := O.hulls
  have hc : (nI k).toNatClampNeg = k := nI_clamp (by omega)
  refine fsemV_of (Nat.le_of_ble_eq_true rfl) ?_
  refine fE_pos (by refine g_in (k := k) ?_ (show k < 6 from by omega) (show 6 < 2 ^ 31 from by decide); first | rfl | (simp (disch := omega) only [fLit, nI_add, pk_mul, pk_rem, pk_sub, nI_clamp]; done)) 4 (fun _ => rfl) ?_
  rw [hc]
  refine fE_call (c_weight (Y.hv (h := k) (by omega)) (O.hb (g := k) (by omega))) 1 (fun _ => rfl) ?_
  refine fE_step (y := fun zz => frun _ _ zz 15 [kR 6 0 0, kN k, kN (hWgt a k), kN 0, kN 0, none] [] _ 0 0) 5 (fun _ => rfl) ?_
  refine fE_cg (c_rank_1 Y O hk (a 0) 0 0 none (by omega)) ?_
  rw [Nat.zero_add]
  rfl
theorem k_rank_1 {μ : fM} {u : Nat} {a : Nat → Nat} {x : Int32} (Y : YR μ 0 a) (O : OKA u a) : ∀ j k, k + j = a 0 → nF (fun k => nI (kR' a k) = x) 0 (a 0) = nF (fun k => nI (kR' a k) = x) k j → fEnds (fun zz => frun eX7_hullAtRank tX7_hullAtRank zz 2 [kR 7 0 0, kX x, kN k] [] μ 0 0) (cRes eO μ (qRank a x))
  | 0, k, e, ef => by
    have h6 := O.hulls
    have hb := Y.begun
    have ef : nF (fun k => nI (kR' a k) = x) 0 (a 0) = k := ef
    refine fE_pos (by show μ.1 6 0 0 4 ≤ nI k; rw [hb]; exact nI_le (by omega) (by omega)) 5 (fun _ => rfl) ?_
    unfold qRank
    rw [if_pos (by omega)]
    exact fE_ret 1 (fun _ => rfl)
  | j + 1, k, e, ef => by
    have h6 := O.hulls
    have hb := Y.begun
    refine fE_neg (fun p => by change μ.1 6 0 0 4 ≤ nI k at p; rw [hb] at p; exact absurd ((nI_leI (by omega) (by omega)).mp p) (by omega)) 5 (fun _ => rfl) ?_
    refine fE_call (c_rank Y O (k := k) (by omega)) 4 (fun _ => rfl) ?_
    refine fE_ite 2 (fun _ => rfl) (fun q => ?_) (fun q => ?_)
    · skip
      rw [nF, if_pos q] at ef
      unfold qRank
      rw [ef, if_neg (by omega)]
      exact fE_ret 2 (fun _ => rfl)
    · skip
      rw [nF, if_neg q] at ef
      refine fE_step (y := fun zz => frun _ _ zz 2 [kR 7 0 0, kX x, kX (nI k + 1)] [] _ 0 0) 2 (fun _ => rfl) ?_
      rw [nI_1]
      exact k_rank_1 Y O j (k + 1) (by omega) ef
theorem k_hullAtRank {μ : fM} {u : Nat} {a : Nat → Nat} (Y : YR μ 0 a) (O : OKA u a) (x : Int32) : sX7_hullAtRank [vR 7 0 0, vI x] μ = some (cRes eO μ (qRank a x)) := by
  refine fsemV_of (Nat.le_of_ble_eq_true rfl) ?_
  refine fE_step (y := fun zz => frun _ _ zz 2 [kR 7 0 0, kX x, kN 0] [] _ 0 0) 2 (fun _ => rfl) ?_
  exact k_rank_1 Y O (a 0) 0 (by omega) rfl
theorem k_mean_1 {μ : fM} {u : Nat} {a : Nat → Nat} {res : fR} (Y : YR μ 0 a) (O : OKA u a) : ∀ j k x, k + j = a 0 → fEnds (fun zz => frun eX7_meanWeight tX7_meanWeight zz 57 [kR 7 0 0, kN (x + nT (hWgt a) k j), kN (a 0)] [] μ 0 0) res → fEnds (fun zz => frun eX7_meanWeight tX7_meanWeight zz 25 [kR 7 0 0, kN x, kN k] [] μ 0 0) res
  | 0, k, x, e, H => by
    have h6 := O.hulls
    have hb := Y.begun
    refine fE_pos (by show μ.1 6 0 0 4 ≤ nI k; rw [hb]; exact nI_le (by omega) (by omega)) 5 (fun _ => rfl) ?_
    rw [← e] at H
    exact H
  | j + 1, k, x, e, H => by
    have h6 := O.hulls
    have hb := Y.begun
    have hc : (nI k).toNatClampNeg = k := nI_clamp (by omega)
    refine fE_neg (fun p => by change μ.1 6 0 0 4 ≤ nI k at p; rw [hb] at p; exact absurd ((nI_leI (by omega) (by omega)).mp p) (by omega)) 5 (fun _ => rfl) ?_
    refine fE_pos (by refine g_in (k := k) ?_ (show k < 6 from by omega) (show 6 < 2 ^ 31 from by decide); first | rfl | (simp (disch := omega) only [fLit, nI_add, pk_mul, pk_rem, pk_sub, nI_clamp]; done)) 6 (fun _ => rfl) ?_
    rw [hc]
    refine fE_call (c_weight (Y.hv (h := k) (by omega)) (O.hb (g := k) (by omega))) 1 (fun _ => rfl) ?_
    refine fE_step (y := fun zz => frun _ _ zz 25 [kR 7 0 0, kX (nI x + nI (hWgt a k)), kX (nI k + 1)] [] _ 0 0) 4 (fun _ => rfl) ?_
    simp (disch := omega) only [fLit, nI_add, pk_mul, pk_rem, nI_clamp, beq01, beq11, cond_false, cond_true]
    rw [nT, ← Nat.add_assoc] at H
    exact k_mean_1 Y O j (k + 1) _ (by omega) H
def cResD (μ : fM) : Option UInt64 → fR
  | none => (.inr 5, μ)
  | some v => (.inl (some (vD v)), μ)
theorem k_meanWeight {μ : fM} {u : Nat} {a : Nat → Nat} (Y : YR μ 0 a) (O : OKA u a) : sX7_meanWeight [vR 7 0 0] μ = some (cResD μ (qMean a)) := by
  have h6 := O.hulls
  have hb := Y.begun
  refine fsemV_of (Nat.le_of_ble_eq_true rfl) ?_
  unfold qMean
  refine fE_ite 4 (fun _ => rfl) (fun q => ?_) (fun q => ?_)
  · skip
    change μ.1 6 0 0 4 = 0 at q
    rw [hb] at q
    have q := (nI_eq (b := 0) (by omega) (by omega)).mp q
    rw [if_pos q]
    exact fE_ret 1 (fun _ => rfl)
  · skip
    change ¬ μ.1 6 0 0 4 = 0 at q
    rw [hb] at q
    have q0 : ¬ a 0 = 0 := fun p => q (congrArg nI p)
    rw [if_neg q0]
    refine fE_step (y := fun zz => frun _ _ zz 25 [kR 7 0 0, kN 0, kN 0] [] _ 0 0) 4 (fun _ => rfl) ?_
    refine k_mean_1 Y O (a 0) 0 0 (by omega) ?_
    rw [Nat.zero_add]
    refine fE_pos (by show FP.ddiv (FP.i2d (nI (aWs a))) (FP.i2d (μ.1 6 0 0 4)) &&& 0x7fffffffffffffff ≤ 0x7ff0000000000000; rw [hb]; exact fdiv_ok q) 7 (fun _ => rfl) ?_
    refine fE_ret2 1 (fun _ => rfl) ?_
    show (Sum.inl (some (vD (FP.ddiv (FP.i2d (nI (aWs a))) (FP.i2d (μ.1 6 0 0 4))))), μ) = _
    rw [hb]
    rfl
