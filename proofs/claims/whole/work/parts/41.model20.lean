def sCargo (a : Nat → Nat) (x c : Int32) : qR × (Nat → Nat) :=
  if okH a x then
    if inR c 0 999 then
      if hS a (xN x) ≤ 1 then (.inr (nI (hC a (xN x))), up a (21 + 28 * xN x + 2) (xN c)) else (.inl 3, a)
    else (.inl 2, a)
  else (.inl 1, a)
theorem g_cargoIt (μ : fM) {u : Nat} {a : Nat → Nat} (O : OKA u a) (x c : Int32) : sX8_cargoIt [vR 8 0 0, vI x, vI c] (gA μ a) = some (mMod μ (sCargo a x c)) := by
  have h6 := O.hulls
  refine fsemV_of (Nat.le_of_ble_eq_true rfl) ?_
  unfold sCargo
  refine fE_call (g_isHull μ (a := a) (x := x) O) 3 (fun _ => rfl) ?_
  refine fE_ite 1 (fun _ => rfl) (fun q => ?_) (fun q => ?_)
  · skip
    have q := bI_0.mp q
    refine fE_call (g_throwing μ a 1) 3 (fun _ => rfl) ?_
    refine fE_ret2 1 (fun _ => rfl) ?_
    rw [if_neg q]
    rfl
  · skip
    have q := bI_n.mp q
    obtain ⟨h, hh, rfl⟩ := nI_ix (by omega) q.1 q.2
    have hx : xN (nI h) = h := nI_clamp (by omega)
    refine fE_step (y := fun zz => frun _ _ zz 14 [kR 8 0 0, kN h, kX c, none] [] _ 0 0) 0 (fun _ => rfl) ?_
    refine fE_call (m_inL c 0 999 (gA μ a) (by decide) (by decide)) 5 (fun _ => rfl) ?_
    refine fE_ite 1 (fun _ => rfl) (fun d => ?_) (fun d => ?_)
    · skip
      have d := bI_0.mp d
      refine fE_call (g_throwing μ a 2) 3 (fun _ => rfl) ?_
      refine fE_ret2 1 (fun _ => rfl) ?_
      rw [if_pos q, if_neg d]
      rfl
    · skip
      have d := bI_n.mp d
      obtain ⟨C, hC1, hC2, rfl⟩ := inR_of (lo := 0) (hi := 999) (by omega) (by omega) d
      rw [if_pos q, if_pos d, hx, xN, nI_clamp (by omega)]
      refine fE_step (y := fun zz => frun _ _ zz 32 [kR 8 0 0, kN h, kN C, none] [] _ 0 0) 0 (fun _ => rfl) ?_
      refine fE_call (g_isWorked μ (h := h) O (by omega)) 3 (fun _ => rfl) ?_
      refine fE_ite 1 (fun _ => rfl) (fun e => ?_) (fun e => ?_)
      · skip
        have e := bI_0.mp e
        refine fE_call (g_throwing μ a 3) 3 (fun _ => rfl) ?_
        refine fE_ret2 1 (fun _ => rfl) ?_
        rw [if_neg e]
        rfl
      · skip
        have e := bI_n.mp e
        rw [if_pos e]
        refine fE_step (y := fun zz => frun _ _ zz 46 [kR 8 0 0, kN h, kN C, none] [] _ 0 0) 0 (fun _ => rfl) ?_
        refine fE_call (m_hullAt (nI h) _) 4 (fun _ => rfl) ?_
        refine fE_pos (by refine g_in (k := 21 + 28 * h + 2) ?_ (show 21 + 28 * h + 2 < 213 from by omega) (show 213 < 2 ^ 31 from by decide); first | rfl | (simp (disch := omega) only [fLit, nI_add, pk_mul, pk_rem, pk_sub, nI_clamp]; done)) 3 (fun _ => rfl) ?_
        simp (disch := omega) only [fLit, nI_add, pk_mul, pk_rem, nI_clamp, beq01, beq11, cond_false, cond_true, gA_at']
        refine fE_call (m_hullAt (nI h) _) 5 (fun _ => rfl) ?_
        refine fE_pos (by refine g_in (k := 21 + 28 * h + 2) ?_ (show 21 + 28 * h + 2 < 213 from by omega) (show 213 < 2 ^ 31 from by decide); first | rfl | (simp (disch := omega) only [fLit, nI_add, pk_mul, pk_rem, pk_sub, nI_clamp]; done)) 4 (fun _ => rfl) ?_
        simp (disch := omega) only [fLit, nI_add, pk_mul, pk_rem, nI_clamp, beq01, beq11, cond_false, cond_true, gA_set]
        exact fE_ret 2 (fun _ => rfl)
def sCaulk (a : Nat → Nat) (x y : Int32) : qR × (Nat → Nat) :=
  if okH a x ∧ 0 ≤ y ∧ y < nI (hF a (xN x) - 1) then
    if hS a (xN x) ≤ 1 then (.inr (nI (hK a (xN x) (xN y))), up a (21 + 28 * xN x + 20 + xN y) 9) else (.inl 2, a)
  else (.inl 1, a)
theorem g_caulkIt (μ : fM) {u : Nat} {a : Nat → Nat} (O : OKA u a) (x y : Int32) : sX8_caulkIt [vR 8 0 0, vI x, vI y] (gA μ a) = some (mMod μ (sCaulk a x y)) := by
  have h6 := O.hulls
  refine fsemV_of (Nat.le_of_ble_eq_true rfl) ?_
  unfold sCaulk
  by_cases q : okH a x
  · obtain ⟨h, hh, rfl⟩ := nI_ix (by omega) q.1 q.2
    have hx : xN (nI h) = h := nI_clamp (by omega)
    have hf := O.fr h (by omega)
    refine fE_call (g_isSeam μ (y := y) O hh) 4 (fun _ => rfl) ?_
    refine fE_ite 1 (fun _ => rfl) (fun r => ?_) (fun r => ?_)
    · skip
      have r := bI_0.mp r
      refine fE_call (g_throwing μ a 1) 3 (fun _ => rfl) ?_
      refine fE_ret2 1 (fun _ => rfl) ?_
      rw [hx, if_neg (fun p => r p.2)]
      rfl
    · skip
      have r := bI_n.mp r
      obtain ⟨k, hk, rfl⟩ := nI_ix (by omega) r.1 r.2
      rw [hx, if_pos ⟨q, r⟩, xN, nI_clamp (by omega)]
      refine fE_step (y := fun zz => frun _ _ zz 15 [kR 8 0 0, kN h, kN k, none] [] _ 0 0) 0 (fun _ => rfl) ?_
      refine fE_call (g_isWorked μ (h := h) O (by omega)) 3 (fun _ => rfl) ?_
      refine fE_ite 1 (fun _ => rfl) (fun e => ?_) (fun e => ?_)
      · skip
        have e := bI_0.mp e
        refine fE_call (g_throwing μ a 2) 3 (fun _ => rfl) ?_
        refine fE_ret2 1 (fun _ => rfl) ?_
        rw [if_neg e]
        rfl
      · skip
        have e := bI_n.mp e
        rw [if_pos e]
        refine fE_step (y := fun zz => frun _ _ zz 29 [kR 8 0 0, kN h, kN k, none] [] _ 0 0) 0 (fun _ => rfl) ?_
        refine fE_call (m_hullAt (nI h) _) 4 (fun _ => rfl) ?_
        refine fE_pos (by refine g_in (k := 21 + 28 * h + 20 + k) ?_ (show 21 + 28 * h + 20 + k < 213 from by omega) (show 213 < 2 ^ 31 from by decide); first | rfl | (simp (disch := omega) only [fLit, nI_add, pk_mul, pk_rem, pk_sub, nI_clamp]; done)) 5 (fun _ => rfl) ?_
        simp (disch := omega) only [fLit, nI_add, pk_mul, pk_rem, nI_clamp, beq01, beq11, cond_false, cond_true, gA_at']
        refine fE_call (m_hullAt (nI h) _) 5 (fun _ => rfl) ?_
        refine fE_pos (by refine g_in (k := 21 + 28 * h + 20 + k) ?_ (show 21 + 28 * h + 20 + k < 213 from by omega) (show 213 < 2 ^ 31 from by decide); first | rfl | (simp (disch := omega) only [fLit, nI_add, pk_mul, pk_rem, pk_sub, nI_clamp]; done)) 6 (fun _ => rfl) ?_
        simp (disch := omega) only [fLit, nI_add, pk_mul, pk_rem, nI_clamp, beq01, beq11, cond_false, cond_true, gA_set]
        exact fE_ret 2 (fun _ => rfl)
  · skip
    refine fE_call (g_isSeam0 μ (y := y) O q) 4 (fun _ => rfl) ?_
    refine fE_call (g_throwing μ a 1) 4 (fun _ => rfl) ?_
    refine fE_ret2 1 (fun _ => rfl) ?_
    rw [if_neg (fun p => q p.1)]
    rfl
def sPump (a : Nat → Nat) (x n : Int32) : qR × (Nat → Nat) :=
  if okH a x then
    if inR n 1 999 then
      if hS a (xN x) = 1 then (.inr (nI (hW a (xN x) - xN n)), up a (21 + 28 * xN x + 3) (hW a (xN x) - xN n)) else (.inl 3, a)
    else (.inl 2, a)
  else (.inl 1, a)
theorem g_pumpIt (μ : fM) {u : Nat} {a : Nat → Nat} (O : OKA u a) (x n : Int32) : sX8_pumpIt [vR 8 0 0, vI x, vI n] (gA μ a) = some (mMod μ (sPump a x n)) := by
  have h6 := O.hulls
  refine fsemV_of (Nat.le_of_ble_eq_true rfl) ?_
  unfold sPump
  refine fE_call (g_isHull μ (a := a) (x := x) O) 3 (fun _ => rfl) ?_
  refine fE_ite 1 (fun _ => rfl) (fun q => ?_) (fun q => ?_)
  · skip
    have q := bI_0.mp q
    refine fE_call (g_throwing μ a 1) 3 (fun _ => rfl) ?_
    refine fE_ret2 1 (fun _ => rfl) ?_
    rw [if_neg q]
    rfl
  · skip
    have q := bI_n.mp q
    obtain ⟨h, hh, rfl⟩ := nI_ix (by omega) q.1 q.2
    have hx : xN (nI h) = h := nI_clamp (by omega)
    have hs := O.st h (by omega)
    have hw := O.wt h (by omega)
    have h1 := O.hour
    have h2 := O.u6
    refine fE_step (y := fun zz => frun _ _ zz 14 [kR 8 0 0, kN h, kX n] [] _ 0 0) 0 (fun _ => rfl) ?_
    refine fE_call (m_inL n 1 999 (gA μ a) (by decide) (by decide)) 5 (fun _ => rfl) ?_
    refine fE_ite 1 (fun _ => rfl) (fun d => ?_) (fun d => ?_)
    · skip
      have d := bI_0.mp d
      refine fE_call (g_throwing μ a 2) 3 (fun _ => rfl) ?_
      refine fE_ret2 1 (fun _ => rfl) ?_
      rw [if_pos q, if_neg d]
      rfl
    · skip
      have d := bI_n.mp d
      obtain ⟨C, hC1, hC2, rfl⟩ := inR_of (lo := 1) (hi := 999) (by omega) (by omega) d
      rw [if_pos q, if_pos d, hx, xN, nI_clamp (by omega)]
      refine fE_step (y := fun zz => frun _ _ zz 32 [kR 8 0 0, kN h, kN C] [] _ 0 0) 0 (fun _ => rfl) ?_
      refine fE_call (g_state μ (a := a) (h := h) (by omega)) 3 (fun _ => rfl) ?_
      refine fE_ite 2 (fun _ => rfl) (fun e => ?_) (fun e => ?_)
      · skip
        simp (disch := omega) only [fLit, nI_add, pk_mul, pk_rem, nI_clamp, beq01, beq11, cond_false, cond_true, nI_leI, nI_ltI, nI_eq] at e
        rw [if_pos e]
        refine fE_step (y := fun zz => frun _ _ zz 47 [kR 8 0 0, kN h, kN C] [] _ 0 0) 0 (fun _ => rfl) ?_
        refine fE_call (m_hullAt (nI h) _) 4 (fun _ => rfl) ?_
        refine fE_call (m_hullAt (nI h) _) 7 (fun _ => rfl) ?_
        refine fE_pos (by refine g_in (k := 21 + 28 * h + 3) ?_ (show 21 + 28 * h + 3 < 213 from by omega) (show 213 < 2 ^ 31 from by decide); first | rfl | (simp (disch := omega) only [fLit, nI_add, pk_mul, pk_rem, pk_sub, nI_clamp]; done)) 3 (fun _ => rfl) ?_
        simp (disch := omega) only [fLit, nI_add, pk_mul, pk_rem, nI_clamp, beq01, beq11, cond_false, cond_true, gA_at']
        refine fE_call (j_max 0 (nI (hW a h) - nI C) (gA μ a)) 3 (fun _ => rfl) ?_
        rw [mx0 (by omega) (by omega)]
        refine fE_pos (by refine g_in (k := 21 + 28 * h + 3) ?_ (show 21 + 28 * h + 3 < 213 from by omega) (show 213 < 2 ^ 31 from by decide); first | rfl | (simp (disch := omega) only [fLit, nI_add, pk_mul, pk_rem, pk_sub, nI_clamp]; done)) 1 (fun _ => rfl) ?_
        simp (disch := omega) only [fLit, nI_add, pk_mul, pk_rem, nI_clamp, beq01, beq11, cond_false, cond_true, gA_set]
        refine fE_call (m_hullAt (nI h) _) 4 (fun _ => rfl) ?_
        refine fE_pos (by refine g_in (k := 21 + 28 * h + 3) ?_ (show 21 + 28 * h + 3 < 213 from by omega) (show 213 < 2 ^ 31 from by decide); first | rfl | (simp (disch := omega) only [fLit, nI_add, pk_mul, pk_rem, pk_sub, nI_clamp]; done)) 3 (fun _ => rfl) ?_
        refine fE_ret2 1 (fun _ => rfl) ?_
        simp (disch := omega) only [fLit, nI_add, pk_mul, pk_rem, nI_clamp, beq01, beq11, cond_false, cond_true, gA_at', up_at]
        rfl
      · skip
        simp (disch := omega) only [fLit, nI_add, pk_mul, pk_rem, nI_clamp, beq01, beq11, cond_false, cond_true, nI_leI, nI_ltI, nI_eq] at e
        refine fE_call (g_throwing μ a 3) 3 (fun _ => rfl) ?_
        refine fE_ret2 1 (fun _ => rfl) ?_
        rw [if_neg e]
        rfl
def sTide (a : Nat → Nat) (x y : Int32) : qR × (Nat → Nat) :=
  if inR x 0 11 ∧ inR y 0 50 then (.inr (nI (aT a (xN x))), up a (5 + xN x) (xN y)) else (.inl 1, a)
theorem g_tideIt (μ : fM) {a : Nat → Nat} (x y : Int32) : sX8_tideIt [vR 8 0 0, vI x, vI y] (gA μ a) = some (mMod μ (sTide a x y)) := by
  refine fsemV_of (Nat.le_of_ble_eq_true rfl) ?_
  unfold sTide
  refine fE_call (m_inL x 0 11 (gA μ a) (by decide) (by decide)) 5 (fun _ => rfl) ?_
  refine fE_ite 1 (fun _ => rfl) (fun c => ?_) (fun c => ?_)
  · skip
    have c := bI_0.mp c
    refine fE_call (g_throwing μ a 1) 3 (fun _ => rfl) ?_
    refine fE_ret2 1 (fun _ => rfl) ?_
    rw [if_neg (fun p => c p.1)]
    rfl
  · skip
    have c := bI_n.mp c
    refine fE_step (y := fun zz => frun _ _ zz 12 [kR 8 0 0, kX x, kX y, none] [] _ 0 0) 0 (fun _ => rfl) ?_
    refine fE_call (m_inL y 0 50 (gA μ a) (by decide) (by decide)) 5 (fun _ => rfl) ?_
    refine fE_ite 1 (fun _ => rfl) (fun d => ?_) (fun d => ?_)
    · skip
      have d := bI_0.mp d
      refine fE_call (g_throwing μ a 1) 3 (fun _ => rfl) ?_
      refine fE_ret2 1 (fun _ => rfl) ?_
      rw [if_neg (fun p => d p.2)]
      rfl
    · skip
      have d := bI_n.mp d
      obtain ⟨X, hX1, hX2, rfl⟩ := inR_of (lo := 0) (hi := 11) (by omega) (by omega) c
      obtain ⟨Y, hY1, hY2, rfl⟩ := inR_of (lo := 0) (hi := 50) (by omega) (by omega) d
      rw [if_pos ⟨c, d⟩, xN, xN, nI_clamp (by omega), nI_clamp (by omega)]
      refine fE_step (y := fun zz => frun _ _ zz 30 [kR 8 0 0, kN X, kN Y, none] [] _ 0 0) 0 (fun _ => rfl) ?_
      refine fE_pos (by refine g_in (k := 5 + X) ?_ (show 5 + X < 213 from by omega) (show 213 < 2 ^ 31 from by decide); first | rfl | (simp (disch := omega) only [fLit, nI_add, pk_mul, pk_rem, pk_sub, nI_clamp]; done)) 6 (fun _ => rfl) ?_
      simp (disch := omega) only [fLit, nI_add, pk_mul, pk_rem, nI_clamp, beq01, beq11, cond_false, cond_true, gA_at']
      refine fE_pos (by refine g_in (k := 5 + X) ?_ (show 5 + X < 213 from by omega) (show 213 < 2 ^ 31 from by decide); first | rfl | (simp (disch := omega) only [fLit, nI_add, pk_mul, pk_rem, pk_sub, nI_clamp]; done)) 8 (fun _ => rfl) ?_
      simp (disch := omega) only [fLit, nI_add, pk_mul, pk_rem, nI_clamp, beq01, beq11, cond_false, cond_true, gA_set]
      exact fE_ret 2 (fun _ => rfl)
