/-! CHANGED -/
def gChg (μ : fM) (c : Nat) : fM := fI (hO 33 (213 * c) 213 μ (fun j => μ.1 31 0 0 (j - 213 * c))) 8 0 0 5 (nI (c + 1))
theorem g_changed_2 (μ : fM) {a : Nat → Nat} {c : Nat} {t : Int32} (hc : c < 8) (h5 : μ.1 8 0 0 5 = nI c) : ∀ j k, k + j = 213 → fEnds (fun zz => frun eX8_changed tX8_changed zz 61 [kR 8 0 0, kX t, kN k] [] (gA (hO 33 (213 * c) k μ (fun j => μ.1 31 0 0 (j - 213 * c))) a) 0 0) (.inl (some (vI t)), gA (gChg μ c) a)
  | 0, k, e => by
    obtain rfl : k = 213 := e
    have h5' : (gA (hO 33 (213 * c) 213 μ (fun j => μ.1 31 0 0 (j - 213 * c))) a).1 8 0 0 5 = nI c := h5
    refine fE_step (y := fun zz => frun _ _ zz 105 [kR 8 0 0, kX t, kN 213] [] (fI (gA (hO 33 (213 * c) 213 μ (fun j => μ.1 31 0 0 (j - 213 * c))) a) 8 0 0 5 ((gA (hO 33 (213 * c) 213 μ (fun j => μ.1 31 0 0 (j - 213 * c))) a).1 8 0 0 5 + 1)) 0 0) 9 (fun _ => rfl) ?_
    rw [h5', nI_1, gA_fI (by decide)]
    exact fE_ret 2 (fun _ => rfl)
  | j + 1, k, e => by
    have h5' : (gA (hO 33 (213 * c) k μ (fun j => μ.1 31 0 0 (j - 213 * c))) a).1 8 0 0 5 = nI c := h5
    have hv : (gA (hO 33 (213 * c) k μ (fun j => μ.1 31 0 0 (j - 213 * c))) a).1 31 0 0 k = μ.1 31 0 0 k := rfl
    refine fE_neg (by first | omega | (simp (disch := omega) only [fLit, nI_add, pk_mul, pk_rem, nI_clamp, beq01, beq11, cond_false, cond_true, nI_leI, nI_ltI, nI_eq]; done) | (simp (disch := omega) only [fLit, nI_add, pk_mul, pk_rem, nI_clamp, beq01, beq11, cond_false, cond_true, nI_leI, nI_ltI, nI_eq]; omega)) 3 (fun _ => rfl) ?_
    refine fE_pos (by refine g_in (k := k) ?_ (show k < 213 from by omega) (show 213 < 2 ^ 31 from by decide); first | rfl | (simp (disch := omega) only [fLit, nI_add, pk_mul, pk_rem, pk_sub, nI_clamp]; done)) 12 (fun _ => rfl) ?_
    refine fE_pos (by refine g_in (k := 213 * c + k) ?_ (show 213 * c + k < 1704 from by omega) (by decide); show (213 : Int32) * (gA (hO 33 (213 * c) k μ (fun j => μ.1 31 0 0 (j - 213 * c))) a).1 8 0 0 5 + nI k = _; rw [h5', fLit, pk_mul, nI_add]) 1 (fun _ => rfl) ?_
    refine fE_step (y := fun zz => frun _ _ zz 61 [kR 8 0 0, kX t, kX (nI k + 1)] [] (fI (gA (hO 33 (213 * c) k μ (fun j => μ.1 31 0 0 (j - 213 * c))) a) 33 0 0 ((213 : Int32) * (gA (hO 33 (213 * c) k μ (fun j => μ.1 31 0 0 (j - 213 * c))) a).1 8 0 0 5 + nI k).toNatClampNeg ((gA (hO 33 (213 * c) k μ (fun j => μ.1 31 0 0 (j - 213 * c))) a).1 31 0 0 (nI k).toNatClampNeg)) 0 0) 2 (fun _ => rfl) ?_
    rw [h5']
    simp (disch := omega) only [fLit, nI_add, pk_mul, pk_rem, nI_clamp, beq01, beq11, cond_false, cond_true, hv]
    rw [gA_fI (by decide), hO_more (by rw [Nat.add_sub_cancel_left])]
    exact g_changed_2 μ hc h5 j (k + 1) (by omega)
theorem g_changed_1 (μ : fM) {a : Nat → Nat} {t : Int32} {res : fR} : ∀ j k, k + j = 1491 → fEnds (fun zz => frun eX8_changed tX8_changed zz 49 [kR 8 0 0, kX t, kN 1491] [] (gA (hO 33 0 1491 μ (fun j => μ.1 33 0 0 (j + 213))) a) 0 0) res → fEnds (fun zz => frun eX8_changed tX8_changed zz 20 [kR 8 0 0, kX t, kN k] [] (gA (hO 33 0 k μ (fun j => μ.1 33 0 0 (j + 213))) a) 0 0) res
  | 0, k, e, H => by
    obtain rfl : k = 1491 := e
    refine fE_step (y := fun zz => frun _ _ zz 49 [kR 8 0 0, kX t, kN 1491] [] _ 0 0) 3 (fun _ => rfl) ?_
    exact H
  | j + 1, k, e, H => by
    have hv : (gA (hO 33 0 k μ (fun j => μ.1 33 0 0 (j + 213))) a).1 33 0 0 (k + 213) = μ.1 33 0 0 (k + 213) := by
      rw [gA_ne (by decide), hO_out (by omega)]
    have hm := hO_more (K := 33) (s := 0) (n := k) (μ := μ) (f := fun j => μ.1 33 0 0 (j + 213)) (v := μ.1 33 0 0 (k + 213)) (by rw [Nat.zero_add])
    rw [Nat.zero_add] at hm
    refine fE_neg (by first | omega | (simp (disch := omega) only [fLit, nI_add, pk_mul, pk_rem, nI_clamp, beq01, beq11, cond_false, cond_true, nI_leI, nI_ltI, nI_eq]; done) | (simp (disch := omega) only [fLit, nI_add, pk_mul, pk_rem, nI_clamp, beq01, beq11, cond_false, cond_true, nI_leI, nI_ltI, nI_eq]; omega)) 3 (fun _ => rfl) ?_
    refine fE_pos (by refine g_in (k := k + 213) ?_ (show k + 213 < 1704 from by omega) (show 1704 < 2 ^ 31 from by decide); first | rfl | (simp (disch := omega) only [fLit, nI_add, pk_mul, pk_rem, pk_sub, nI_clamp]; done)) 9 (fun _ => rfl) ?_
    refine fE_pos (by refine g_in (k := k) ?_ (show k < 1704 from by omega) (show 1704 < 2 ^ 31 from by decide); first | rfl | (simp (disch := omega) only [fLit, nI_add, pk_mul, pk_rem, pk_sub, nI_clamp]; done)) 1 (fun _ => rfl) ?_
    refine fE_step (y := fun zz => frun _ _ zz 20 [kR 8 0 0, kX t, kX (nI k + 1)] [] (fI (gA (hO 33 0 k μ (fun j => μ.1 33 0 0 (j + 213))) a) 33 0 0 (nI k).toNatClampNeg ((gA (hO 33 0 k μ (fun j => μ.1 33 0 0 (j + 213))) a).1 33 0 0 (nI k + nI 213).toNatClampNeg)) 0 0) 2 (fun _ => rfl) ?_
    simp (disch := omega) only [fLit, nI_add, pk_mul, pk_rem, nI_clamp, beq01, beq11, cond_false, cond_true, hv]
    rw [gA_fI (by decide), hm]
    exact g_changed_1 μ j (k + 1) (by omega) H
def gShf (μ : fM) : fM := fI (hO 33 0 1491 μ (fun j => μ.1 33 0 0 (j + 213))) 8 0 0 5 (nI 7)
def gKeep (μ : fM) (c : Nat) : fM := if c = 8 then gChg (gShf μ) 7 else gChg μ c
theorem g_changed (μ : fM) {a : Nat → Nat} {c : Nat} {t : Int32} (hc : c ≤ 8) (h5 : μ.1 8 0 0 5 = nI c) (h9 : μ.1 8 0 0 9 = 0) : sX8_changed [vR 8 0 0, vI t] (gA μ a) = some (.inl (some (vI t)), gA (gKeep μ c) a) := by
  have h5' : (gA μ a).1 8 0 0 5 = nI c := h5
  refine fsemV_of (Nat.le_of_ble_eq_true rfl) ?_
  unfold gKeep
  by_cases q : c = 8
  · rw [if_pos q]
    have hx := g_changed_2 (gShf μ) (a := a) (c := 7) (t := t) (by decide) rfl 213 0 (by omega)
    rw [hO_0] at hx
    have hy := g_changed_1 μ (a := a) (t := t) (res := (.inl (some (vI t)), gA (gChg (gShf μ) 7) a)) 1491 0 (by omega)
    rw [hO_0] at hy
    refine fE_pos (by show μ.1 8 0 0 9 ≤ 0; rw [h9]; decide) 3 (fun _ => rfl) ?_
    refine fE_pos (by show μ.1 8 0 0 5 = 8; rw [h5, q]; rfl) 4 (fun _ => rfl) ?_
    refine fE_step (y := fun zz => frun _ _ zz 20 [kR 8 0 0, kX t, kN 0] [] _ 0 0) 2 (fun _ => rfl) ?_
    refine hy ?_
    refine fE_step (y := fun zz => frun _ _ zz 59 [kR 8 0 0, kX t, kN 1491] [] (fI (gA (hO 33 0 1491 μ (fun j => μ.1 33 0 0 (j + 213))) a) 8 0 0 5 ((gA (hO 33 0 1491 μ (fun j => μ.1 33 0 0 (j + 213))) a).1 8 0 0 5 - 1)) 0 0) 6 (fun _ => rfl) ?_
    rw [show (gA (hO 33 0 1491 μ (fun j => μ.1 33 0 0 (j + 213))) a).1 8 0 0 5 = nI (7 + 1) from h5.trans (by rw [q]), nI_pred, gA_fI (by decide)]
    refine fE_step (y := fun zz => frun _ _ zz 61 [kR 8 0 0, kX t, kN 0] [] _ 0 0) 2 (fun _ => rfl) ?_
    exact hx
  · rw [if_neg q]
    have hx := g_changed_2 μ (a := a) (t := t) (c := c) (by omega) h5 213 0 (by omega)
    rw [hO_0] at hx
    refine fE_pos (by show μ.1 8 0 0 9 ≤ 0; rw [h9]; decide) 3 (fun _ => rfl) ?_
    refine fE_neg (fun p => by change μ.1 8 0 0 5 = 8 at p; rw [h5] at p; exact q ((nI_eq (b := 8) (by omega) (by omega)).mp p)) 4 (fun _ => rfl) ?_
    refine fE_step (y := fun zz => frun _ _ zz 61 [kR 8 0 0, kX t, kN 0] [] _ 0 0) 2 (fun _ => rfl) ?_
    exact hx
theorem g_changed0 (μ : fM) {a : Nat → Nat} {t : Int32} {n : Nat} (hn : 0 < n) (hn2 : n < 10) (h9 : μ.1 8 0 0 9 = nI n) : sX8_changed [vR 8 0 0, vI t] (gA μ a) = some (.inl (some (vI t)), gA μ a) := by
  refine fsemV_of (Nat.le_of_ble_eq_true rfl) ?_
  refine fE_neg (fun p => by change μ.1 8 0 0 9 ≤ 0 at p; rw [h9] at p; exact absurd ((nI_leI (b := 0) (by omega) (by omega)).mp p) (by omega)) 3 (fun _ => rfl) ?_
  exact fE_ret 2 (fun _ => rfl)
