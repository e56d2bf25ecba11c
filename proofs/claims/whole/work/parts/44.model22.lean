def aOrd (a : Nat → Nat) (f h c : Nat) : Nat → Nat :=
  up (up (up (up (up (up a (189 + 4 * a 2) (a 3)) (189 + 4 * a 2 + 1) f) (189 + 4 * a 2 + 2) h) (189 + 4 * a 2 + 3) c) 2 (a 2 + 1)) 3 (a 3 + 1)
def sOrder (a : Nat → Nat) (x y z : Int32) : qR × (Nat → Nat) :=
  if inR x 2 8 ∧ inR y 0 999 ∧ inR z 1 999 then
    if a 2 = 6 then (.inl 2, a) else (.inr (nI (a 3)), aOrd a (xN x) (xN y) (xN z))
  else (.inl 1, a)
theorem g_orderIt (μ : fM) {u : Nat} {a : Nat → Nat} (O : OKA u a) (x y z : Int32) : sX8_orderIt [vR 8 0 0, vI x, vI y, vI z] (gA μ a) = some (mMod μ (sOrder a x y z)) := by
  have h6 := O.ords
  refine fsemV_of (Nat.le_of_ble_eq_true rfl) ?_
  unfold sOrder
  refine fE_call (m_inL x 2 8 (gA μ a) (by decide) (by decide)) 5 (fun _ => rfl) ?_
  refine fE_ite 1 (fun _ => rfl) (fun c => ?_) (fun c => ?_)
  · skip
    have c := bI_0.mp c
    refine fE_call (g_throwing μ a 1) 3 (fun _ => rfl) ?_
    refine fE_ret2 1 (fun _ => rfl) ?_
    rw [if_neg (fun p => c p.1)]
    rfl
  · skip
    have c := bI_n.mp c
    refine fE_step (y := fun zz => frun _ _ zz 14 [kR 8 0 0, kX x, kX y, kX z, none] [] _ 0 0) 0 (fun _ => rfl) ?_
    refine fE_call (m_inL y 0 999 (gA μ a) (by decide) (by decide)) 5 (fun _ => rfl) ?_
    refine fE_ite 1 (fun _ => rfl) (fun d => ?_) (fun d => ?_)
    · skip
      have d := bI_0.mp d
      refine fE_call (g_throwing μ a 1) 3 (fun _ => rfl) ?_
      refine fE_ret2 1 (fun _ => rfl) ?_
      rw [if_neg (fun p => d p.2.1)]
      rfl
    · skip
      have d := bI_n.mp d
      refine fE_step (y := fun zz => frun _ _ zz 26 [kR 8 0 0, kX x, kX y, kX z, none] [] _ 0 0) 0 (fun _ => rfl) ?_
      refine fE_call (m_inL z 1 999 (gA μ a) (by decide) (by decide)) 5 (fun _ => rfl) ?_
      refine fE_ite 1 (fun _ => rfl) (fun e => ?_) (fun e => ?_)
      · skip
        have e := bI_0.mp e
        refine fE_call (g_throwing μ a 1) 3 (fun _ => rfl) ?_
        refine fE_ret2 1 (fun _ => rfl) ?_
        rw [if_neg (fun p => e p.2.2)]
        rfl
      · skip
        have e := bI_n.mp e
        obtain ⟨X, hX1, hX2, rfl⟩ := inR_of (lo := 2) (hi := 8) (by omega) (by omega) c
        obtain ⟨Y, hY1, hY2, rfl⟩ := inR_of (lo := 0) (hi := 999) (by omega) (by omega) d
        obtain ⟨Z, hZ1, hZ2, rfl⟩ := inR_of (lo := 1) (hi := 999) (by omega) (by omega) e
        rw [if_pos ⟨c, d, e⟩, xN, xN, xN, nI_clamp (by omega), nI_clamp (by omega), nI_clamp (by omega)]
        refine fE_step (y := fun zz => frun _ _ zz 44 [kR 8 0 0, kN X, kN Y, kN Z, none] [] _ 0 0) 0 (fun _ => rfl) ?_
        refine fE_ite 6 (fun _ => rfl) (fun f => ?_) (fun f => ?_)
        · skip
          simp (disch := omega) only [fLit, nI_add, pk_mul, pk_rem, nI_clamp, beq01, beq11, cond_false, cond_true, nI_leI, nI_ltI, nI_eq, gA_at'] at f
          refine fE_call (g_throwing μ a 2) 3 (fun _ => rfl) ?_
          refine fE_ret2 1 (fun _ => rfl) ?_
          rw [if_pos f]
          rfl
        · skip
          simp (disch := omega) only [fLit, nI_add, pk_mul, pk_rem, nI_clamp, beq01, beq11, cond_false, cond_true, nI_leI, nI_ltI, nI_eq, gA_at'] at f
          rw [if_neg f]
          refine fE_step (y := fun zz => frun _ _ zz 75 [kR 8 0 0, kN X, kN Y, kN Z, kX (189 + 4 * (gA μ a).1 30 0 0 2)] [] _ 0 0) 9 (fun _ => rfl) ?_
          simp (disch := omega) only [fLit, nI_add, pk_mul, pk_rem, nI_clamp, beq01, beq11, cond_false, cond_true, gA_at']
          refine fE_pos (by refine g_in (k := 189 + 4 * a 2) ?_ (show 189 + 4 * a 2 < 213 from by omega) (show 213 < 2 ^ 31 from by decide); first | rfl | (simp (disch := omega) only [fLit, nI_add, pk_mul, pk_rem, pk_sub, nI_clamp]; done)) 8 (fun _ => rfl) ?_
          simp (disch := omega) only [fLit, nI_add, pk_mul, pk_rem, nI_clamp, beq01, beq11, cond_false, cond_true, gA_at', gA_set]
          refine fE_pos (by refine g_in (k := 189 + 4 * a 2 + 1) ?_ (show 189 + 4 * a 2 + 1 < 213 from by omega) (show 213 < 2 ^ 31 from by decide); first | rfl | (simp (disch := omega) only [fLit, nI_add, pk_mul, pk_rem, pk_sub, nI_clamp]; done)) 7 (fun _ => rfl) ?_
          simp (disch := omega) only [fLit, nI_add, pk_mul, pk_rem, nI_clamp, beq01, beq11, cond_false, cond_true, gA_set]
          refine fE_pos (by refine g_in (k := 189 + 4 * a 2 + 2) ?_ (show 189 + 4 * a 2 + 2 < 213 from by omega) (show 213 < 2 ^ 31 from by decide); first | rfl | (simp (disch := omega) only [fLit, nI_add, pk_mul, pk_rem, pk_sub, nI_clamp]; done)) 7 (fun _ => rfl) ?_
          simp (disch := omega) only [fLit, nI_add, pk_mul, pk_rem, nI_clamp, beq01, beq11, cond_false, cond_true, gA_set]
          refine fE_pos (by refine g_in (k := 189 + 4 * a 2 + 3) ?_ (show 189 + 4 * a 2 + 3 < 213 from by omega) (show 213 < 2 ^ 31 from by decide); first | rfl | (simp (disch := omega) only [fLit, nI_add, pk_mul, pk_rem, pk_sub, nI_clamp]; done)) 7 (fun _ => rfl) ?_
          simp (disch := omega) only [fLit, nI_add, pk_mul, pk_rem, nI_clamp, beq01, beq11, cond_false, cond_true, gA_set]
          refine fE_step (y := fun zz => frun _ _ zz 128 [kR 8 0 0, kN X, kN Y, kN Z, kN (189 + 4 * a 2)] [] (fI (gA μ (up (up (up (up a (189 + 4 * a 2) (a 3)) (189 + 4 * a 2 + 1) X) (189 + 4 * a 2 + 2) Y) (189 + 4 * a 2 + 3) Z)) 30 0 0 2 ((gA μ (up (up (up (up a (189 + 4 * a 2) (a 3)) (189 + 4 * a 2 + 1) X) (189 + 4 * a 2 + 2) Y) (189 + 4 * a 2 + 3) Z)).1 30 0 0 2 + 1)) 0 0) 8 (fun _ => rfl) ?_
          simp (disch := omega) only [fLit, nI_add, pk_mul, pk_rem, nI_clamp, beq01, beq11, cond_false, cond_true, gA_at', gA_set, up_ne]
          refine fE_step (y := fun zz => frun _ _ zz 138 [kR 8 0 0, kN X, kN Y, kN Z, kN (189 + 4 * a 2)] [] (fI (gA μ (up (up (up (up (up a (189 + 4 * a 2) (a 3)) (189 + 4 * a 2 + 1) X) (189 + 4 * a 2 + 2) Y) (189 + 4 * a 2 + 3) Z) 2 (a 2 + 1))) 30 0 0 3 ((gA μ (up (up (up (up (up a (189 + 4 * a 2) (a 3)) (189 + 4 * a 2 + 1) X) (189 + 4 * a 2 + 2) Y) (189 + 4 * a 2 + 3) Z) 2 (a 2 + 1))).1 30 0 0 3 + 1)) 0 0) 8 (fun _ => rfl) ?_
          simp (disch := omega) only [fLit, nI_add, pk_mul, pk_rem, nI_clamp, beq01, beq11, cond_false, cond_true, gA_at', gA_set, up_ne]
          refine fE_pos (by refine g_in (k := 189 + 4 * a 2) ?_ (show 189 + 4 * a 2 < 213 from by omega) (show 213 < 2 ^ 31 from by decide); first | rfl | (simp (disch := omega) only [fLit, nI_add, pk_mul, pk_rem, pk_sub, nI_clamp]; done)) 4 (fun _ => rfl) ?_
          refine fE_ret2 1 (fun _ => rfl) ?_
          simp (disch := omega) only [fLit, nI_add, pk_mul, pk_rem, nI_clamp, beq01, beq11, cond_false, cond_true, gA_at', up_ne, up_at]
          rfl
/-! DELIVER -/
def aSh (b : Nat → Nat) (s k : Nat) : Nat → Nat := fun j => if s ≤ j ∧ j < k then b (j + 4) else b j
theorem aSh_up {b : Nat → Nat} {s k : Nat} (h : s ≤ k) : up (aSh b s k) k (b (k + 4)) = aSh b s (k + 1) := by
  funext j
  unfold up aSh
  by_cases e : j = k
  · subst e
    rw [if_pos rfl, if_pos (by omega)]
  · rw [if_neg e]
    by_cases l : s ≤ j ∧ j < k
    · rw [if_pos l, if_pos (by omega)]
    · rw [if_neg l, if_neg (by omega)]
theorem aSh_0 {b : Nat → Nat} {s : Nat} : aSh b s s = b := by
  funext j
  exact if_neg (by omega)
def aZr (b : Nat → Nat) (k : Nat) : Nat → Nat := fun j => if 209 ≤ j ∧ j < k then 0 else b j
theorem aZr_up {b : Nat → Nat} {k : Nat} (h : 209 ≤ k) : up (aZr b k) k 0 = aZr b (k + 1) := by
  funext j
  unfold up aZr
  by_cases e : j = k
  · subst e
    rw [if_pos rfl, if_pos (by omega)]
  · rw [if_neg e]
    by_cases l : 209 ≤ j ∧ j < k
    · rw [if_pos l, if_pos (by omega)]
    · rw [if_neg l, if_neg (by omega)]
theorem aZr_0 {b : Nat → Nat} : aZr b 209 = b := by
  funext j
  exact if_neg (by omega)
theorem g_del_2 (μ : fM) {b : Nat → Nat} {x y : Int32} {p z : Nat} {res : fR} : ∀ j k, k + j = 213 → 209 ≤ k → fEnds (fun zz => frun eX8_deliverIt tX8_deliverIt zz 162 [kR 8 0 0, kX x, kX y, kN p, kN z, kN 213] [] (gA μ (aZr b 213)) 0 0) res → fEnds (fun zz => frun eX8_deliverIt tX8_deliverIt zz 140 [kR 8 0 0, kX x, kX y, kN p, kN z, kN k] [] (gA μ (aZr b k)) 0 0) res
  | 0, k, e, h, H => by
    obtain rfl : k = 213 := e
    refine fE_step (y := fun zz => frun _ _ zz 162 [kR 8 0 0, kX x, kX y, kN p, kN z, kN 213] [] _ 0 0) 3 (fun _ => rfl) ?_
    exact H
  | j + 1, k, e, h, H => by
    skip
    refine fE_neg (by first | omega | (simp (disch := omega) only [fLit, nI_add, pk_mul, pk_rem, nI_clamp, beq01, beq11, cond_false, cond_true, nI_leI, nI_ltI, nI_eq]; done) | (simp (disch := omega) only [fLit, nI_add, pk_mul, pk_rem, nI_clamp, beq01, beq11, cond_false, cond_true, nI_leI, nI_ltI, nI_eq]; omega)) 3 (fun _ => rfl) ?_
    refine fE_pos (by refine g_in (k := k) ?_ (show k < 213 from by omega) (show 213 < 2 ^ 31 from by decide); first | rfl | (simp (disch := omega) only [fLit, nI_add, pk_mul, pk_rem, pk_sub, nI_clamp]; done)) 5 (fun _ => rfl) ?_
    refine fE_step (y := fun zz => frun _ _ zz 140 [kR 8 0 0, kX x, kX y, kN p, kN z, kX (nI k + 1)] [] (fI (gA μ (aZr b k)) 30 0 0 (nI k).toNatClampNeg (nI 0)) 0 0) 2 (fun _ => rfl) ?_
    simp (disch := omega) only [fLit, nI_add, pk_mul, pk_rem, nI_clamp, beq01, beq11, cond_false, cond_true, gA_set]
    rw [aZr_up h]
    exact g_del_2 μ j (k + 1) (by omega) (by omega) H
theorem g_del_1 (μ : fM) {b : Nat → Nat} {x y : Int32} {p z s : Nat} {res : fR} : ∀ j k, k + j = 209 → s ≤ k → fEnds (fun zz => frun eX8_deliverIt tX8_deliverIt zz 135 [kR 8 0 0, kX x, kX y, kN p, kN z, kN 209] [] (gA μ (aSh b s 209)) 0 0) res → fEnds (fun zz => frun eX8_deliverIt tX8_deliverIt zz 105 [kR 8 0 0, kX x, kX y, kN p, kN z, kN k] [] (gA μ (aSh b s k)) 0 0) res
  | 0, k, e, h, H => by
    obtain rfl : k = 209 := e
    refine fE_step (y := fun zz => frun _ _ zz 135 [kR 8 0 0, kX x, kX y, kN p, kN z, kN 209] [] _ 0 0) 3 (fun _ => rfl) ?_
    exact H
  | j + 1, k, e, h, H => by
    have e4 : aSh b s k (k + 4) = b (k + 4) := if_neg (by omega)
    refine fE_neg (by first | omega | (simp (disch := omega) only [fLit, nI_add, pk_mul, pk_rem, nI_clamp, beq01, beq11, cond_false, cond_true, nI_leI, nI_ltI, nI_eq]; done) | (simp (disch := omega) only [fLit, nI_add, pk_mul, pk_rem, nI_clamp, beq01, beq11, cond_false, cond_true, nI_leI, nI_ltI, nI_eq]; omega)) 3 (fun _ => rfl) ?_
    refine fE_pos (by refine g_in (k := k + 4) ?_ (show k + 4 < 213 from by omega) (show 213 < 2 ^ 31 from by decide); first | rfl | (simp (disch := omega) only [fLit, nI_add, pk_mul, pk_rem, pk_sub, nI_clamp]; done)) 9 (fun _ => rfl) ?_
    refine fE_pos (by refine g_in (k := k) ?_ (show k < 213 from by omega) (show 213 < 2 ^ 31 from by decide); first | rfl | (simp (disch := omega) only [fLit, nI_add, pk_mul, pk_rem, pk_sub, nI_clamp]; done)) 1 (fun _ => rfl) ?_
    refine fE_step (y := fun zz => frun _ _ zz 105 [kR 8 0 0, kX x, kX y, kN p, kN z, kX (nI k + 1)] [] (fI (gA μ (aSh b s k)) 30 0 0 (nI k).toNatClampNeg ((gA μ (aSh b s k)).1 30 0 0 (nI k + nI 4).toNatClampNeg)) 0 0) 2 (fun _ => rfl) ?_
    simp (disch := omega) only [fLit, nI_add, pk_mul, pk_rem, nI_clamp, beq01, beq11, cond_false, cond_true, gA_at', e4, gA_set]
    rw [aSh_up h]
    exact g_del_1 μ j (k + 1) (by omega) (by omega) H
