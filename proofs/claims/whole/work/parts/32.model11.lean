def lH (a : Nat → Nat) (d : Nat) : Nat := nF (fun n => d ≤ aT a ((a 1 + n) % 12)) 0 12
def qLaunchIn (a : Nat → Nat) (x : Int32) : qR :=
  if okH a x then
    if hS a (xN x) = 0 then
      if hF a (xN x) < 2 ∨ hDr a (xN x) (hWgt a (xN x)) = 41 then .inl 3
      else if lH a (hDr a (xN x) (hWgt a (xN x))) = 12 then .inl 3 else .inr (nI (lH a (hDr a (xN x) (hWgt a (xN x)))))
    else .inl 2
  else .inl 1
theorem g_hours_1 (μ : fM) {u : Nat} {a : Nat → Nat} {h d : Nat} {res : fR} (O : OKA u a) (hd : d ≤ 41) : ∀ j n, n + j = 12 → fEnds (fun zz => frun eX8_hoursToLaunch tX8_hoursToLaunch zz 94 [kR 8 0 0, kN h, kN d, kN (nF (fun n => d ≤ aT a ((a 1 + n) % 12)) n j)] [] (gA μ a) 0 0) res → fEnds (fun zz => frun eX8_hoursToLaunch tX8_hoursToLaunch zz 66 [kR 8 0 0, kN h, kN d, kN n] [] (gA μ a) 0 0) res
  | 0, n, e, H => by
    obtain rfl : n = 12 := e
    refine fE_step (y := fun zz => frun _ _ zz 94 [kR 8 0 0, kN h, kN d, kN 12] [] _ 0 0) 3 (fun _ => rfl) ?_
    exact H
  | j + 1, n, e, H => by
    have h1 := O.hour
    have h2 := O.u6
    have ht := O.tide ((a 1 + n) % 12) (by omega)
    refine fE_neg (by first | omega | (simp (disch := omega) only [fLit, nI_add, pk_mul, pk_rem, nI_clamp, beq01, beq11, cond_false, cond_true, nI_leI, nI_ltI, nI_eq]; done) | (simp (disch := omega) only [fLit, nI_add, pk_mul, pk_rem, nI_clamp, beq01, beq11, cond_false, cond_true, nI_leI, nI_ltI, nI_eq]; omega)) 3 (fun _ => rfl) ?_
    have hi := g_tide μ (a := a) (t := a 1 + n) (by omega)
    rw [← nI_add, ← gA_at' (μ := μ) (a := a) (k := 1) (by decide)] at hi
    refine fE_call (hi) 8 (fun _ => rfl) ?_
    refine fE_ite 2 (fun _ => rfl) (fun q => ?_) (fun q => ?_)
    · skip
      simp (disch := omega) only [fLit, nI_add, pk_mul, pk_rem, nI_clamp, beq01, beq11, cond_false, cond_true, nI_leI, nI_ltI, nI_eq] at q
      rw [nF, if_pos q] at H
      exact H
    · skip
      simp (disch := omega) only [fLit, nI_add, pk_mul, pk_rem, nI_clamp, beq01, beq11, cond_false, cond_true, nI_leI, nI_ltI, nI_eq] at q
      rw [nF, if_neg q] at H
      refine fE_step (y := fun zz => frun _ _ zz 66 [kR 8 0 0, kN h, kN d, kX (nI n + 1)] [] _ 0 0) 2 (fun _ => rfl) ?_
      rw [nI_1]
      exact g_hours_1 μ O hd j (n + 1) (by omega) H
theorem lH_le {a : Nat → Nat} {d : Nat} : lH a d ≤ 12 := nF_le
theorem q_hoursToLaunch (μ : fM) {u : Nat} {a : Nat → Nat} (x : Int32) (O : OKA u a) : sX8_hoursToLaunch [vR 8 0 0, vI x] (gA μ a) = some (mRes μ a (qLaunchIn a x)) := by
  have h6 := O.hulls
  refine fsemV_of (Nat.le_of_ble_eq_true rfl) ?_
  refine fE_step (y := fun zz => frun _ _ zz 5 [kR 8 0 0, kX x, none, none] [] (fI (gA μ a) 8 0 0 9 0) 0 0) 3 (fun _ => rfl) ?_
  rw [gA_fI (by decide)]
  refine fE_call (g_isHull (gT μ 0) (a := a) (x := x) O) 3 (fun _ => rfl) ?_
  refine fE_ite 1 (fun _ => rfl) (fun q => ?_) (fun q => ?_)
  · skip
    have q := bI_0.mp q
    refine fE_call (g_throwing0 μ a 1 0) 3 (fun _ => rfl) ?_
    refine fE_ret2 1 (fun _ => rfl) ?_
    unfold qLaunchIn
    rw [if_neg q]
    rfl
  · skip
    have q := bI_n.mp q
    obtain ⟨h, hh, rfl⟩ := nI_ix (by omega) q.1 q.2
    have hs := O.st h (by omega)
    have hf := O.fr h (by omega)
    have hw := hWgt_le O (h := h) (by omega)
    have hd : hDr a h (hWgt a h) ≤ 41 := dDr_le
    refine fE_call (g_state (gT μ 0) (a := a) (h := h) (by omega)) 3 (fun _ => rfl) ?_
    refine fE_ite 1 (fun _ => rfl) (fun r => ?_) (fun r => ?_)
    · skip
      simp (disch := omega) only [fLit, nI_add, pk_mul, pk_rem, nI_clamp, beq01, beq11, cond_false, cond_true, nI_leI, nI_ltI, nI_eq] at r
      refine fE_call (g_weight (gT μ 0) O (h := h) (by omega)) 5 (fun _ => rfl) ?_
      refine fE_call (g_draught (gT μ 0) O (h := h) (w := hWgt a h) (by omega) (by omega)) 1 (fun _ => rfl) ?_
      refine fE_call (g_frames (gT μ 0) (a := a) (h := h) (by omega)) 4 (fun _ => rfl) ?_
      refine fE_ite 2 (fun _ => rfl) (fun s => ?_) (fun s => ?_)
      · skip
        simp (disch := omega) only [fLit, nI_add, pk_mul, pk_rem, nI_clamp, beq01, beq11, cond_false, cond_true, nI_leI, nI_ltI, nI_eq] at s
        refine fE_call (g_throwing0 μ a 3 0) 3 (fun _ => rfl) ?_
        refine fE_ret2 1 (fun _ => rfl) ?_
        unfold qLaunchIn
        rw [if_pos q, xN, nI_clamp (by omega), if_pos r, if_pos (Or.inl s)]
        rfl
      · skip
        simp (disch := omega) only [fLit, nI_add, pk_mul, pk_rem, nI_clamp, beq01, beq11, cond_false, cond_true, nI_leI, nI_ltI, nI_eq] at s
        refine fE_ite 3 (fun _ => rfl) (fun t => ?_) (fun t => ?_)
        · skip
          have t := (dI_m1 hd).mp t
          refine fE_call (g_throwing0 μ a 3 0) 3 (fun _ => rfl) ?_
          refine fE_ret2 1 (fun _ => rfl) ?_
          unfold qLaunchIn
          rw [if_pos q, xN, nI_clamp (by omega), if_pos r, if_pos (Or.inr t)]
          rfl
        · skip
          have t : ¬ hDr a h (hWgt a h) = 41 := fun p => t ((dI_m1 hd).mpr p)
          rw [show dI (hDr a h (hWgt a h)) = nI (hDr a h (hWgt a h)) from if_neg t]
          refine fE_step (y := fun zz => frun _ _ zz 66 [kR 8 0 0, kN h, kN (hDr a h (hWgt a h)), kN 0] [] _ 0 0) 2 (fun _ => rfl) ?_
          refine g_hours_1 (gT μ 0) O hd 12 0 (by omega) ?_
          have hl : lH a (hDr a h (hWgt a h)) ≤ 12 := lH_le
          show fEnds (fun zz => frun eX8_hoursToLaunch tX8_hoursToLaunch zz 94 [kR 8 0 0, kN h, kN (hDr a h (hWgt a h)), kN (lH a (hDr a h (hWgt a h)))] [] (gA (gT μ 0) a) 0 0) _
          refine fE_ite 3 (fun _ => rfl) (fun v => ?_) (fun v => ?_)
          · skip
            simp (disch := omega) only [fLit, nI_add, pk_mul, pk_rem, nI_clamp, beq01, beq11, cond_false, cond_true, nI_leI, nI_ltI, nI_eq] at v
            refine fE_call (g_throwing0 μ a 3 0) 3 (fun _ => rfl) ?_
            refine fE_ret2 2 (fun _ => rfl) ?_
            unfold qLaunchIn
            rw [if_pos q, xN, nI_clamp (by omega), if_pos r, if_neg (by omega), if_pos v]
            rfl
          · skip
            simp (disch := omega) only [fLit, nI_add, pk_mul, pk_rem, nI_clamp, beq01, beq11, cond_false, cond_true, nI_leI, nI_ltI, nI_eq] at v
            refine fE_ret2 2 (fun _ => rfl) ?_
            unfold qLaunchIn
            rw [if_pos q, xN, nI_clamp (by omega), if_pos r, if_neg (by omega), if_neg v]
            rfl
    · skip
      simp (disch := omega) only [fLit, nI_add, pk_mul, pk_rem, nI_clamp, beq01, beq11, cond_false, cond_true, nI_leI, nI_ltI, nI_eq] at r
      refine fE_call (g_throwing0 μ a 2 0) 3 (fun _ => rfl) ?_
      refine fE_ret2 1 (fun _ => rfl) ?_
      unfold qLaunchIn
      rw [if_pos q, xN, nI_clamp (by omega), if_neg r]
      rfl
theorem q_hoursToLaunchByTides (μ : fM) {u : Nat} {a : Nat → Nat} (x : Int32) (O : OKA u a) : sX8_hoursToLaunchByTides [vR 8 0 0, vI x] (gA μ a) = some (mRes μ a (qLaunchIn a x)) := by
  refine fsemV_of (Nat.le_of_ble_eq_true rfl) ?_
  refine fE_call (q_hoursToLaunch μ x O) 3 (fun _ => rfl) ?_
  exact fE_ret 1 (fun _ => rfl)
def qStored (r none' : Int32) : qR := if r = none' then .inl 1 else .inr r
theorem q_refusalReason (μ : fM) {a : Nat → Nat} : sX8_refusalReason [vR 8 0 0] (gA μ a) = some (mRes μ a (qStored (μ.1 8 0 0 8) 0)) := by
  refine fsemV_of (Nat.le_of_ble_eq_true rfl) ?_
  refine fE_step (y := fun zz => frun _ _ zz 5 [kR 8 0 0] [] (fI (gA μ a) 8 0 0 9 0) 0 0) 3 (fun _ => rfl) ?_
  rw [gA_fI (by decide)]
  refine fE_ite 3 (fun _ => rfl) (fun q => ?_) (fun q => ?_)
  · skip
    have q : μ.1 8 0 0 8 = 0 := q
    refine fE_call (g_throwing0 μ a 1 0) 3 (fun _ => rfl) ?_
    refine fE_ret2 2 (fun _ => rfl) ?_
    unfold qStored
    rw [if_pos q]
    rfl
  · skip
    have q : ¬ μ.1 8 0 0 8 = 0 := q
    refine fE_ret2 3 (fun _ => rfl) ?_
    unfold qStored
    rw [if_neg q]
    rfl
theorem q_errorPosition (μ : fM) {a : Nat → Nat} : sX8_errorPosition [vR 8 0 0] (gA μ a) = some (mRes μ a (qStored (μ.1 8 0 0 6) (-1))) := by
  refine fsemV_of (Nat.le_of_ble_eq_true rfl) ?_
  refine fE_step (y := fun zz => frun _ _ zz 5 [kR 8 0 0] [] (fI (gA μ a) 8 0 0 9 0) 0 0) 3 (fun _ => rfl) ?_
  rw [gA_fI (by decide)]
  refine fE_ite 4 (fun _ => rfl) (fun q => ?_) (fun q => ?_)
  · skip
    have q : μ.1 8 0 0 6 = -1 := q
    refine fE_call (g_throwing0 μ a 1 0) 3 (fun _ => rfl) ?_
    refine fE_ret2 2 (fun _ => rfl) ?_
    unfold qStored
    rw [if_pos q]
    rfl
  · skip
    have q : ¬ μ.1 8 0 0 6 = -1 := q
    refine fE_ret2 3 (fun _ => rfl) ?_
    unfold qStored
    rw [if_neg q]
    rfl
theorem q_failedCommand (μ : fM) {a : Nat → Nat} : sX8_failedCommand [vR 8 0 0] (gA μ a) = some (mRes μ a (qStored (μ.1 8 0 0 7) (-1))) := by
  refine fsemV_of (Nat.le_of_ble_eq_true rfl) ?_
  refine fE_step (y := fun zz => frun _ _ zz 5 [kR 8 0 0] [] (fI (gA μ a) 8 0 0 9 0) 0 0) 3 (fun _ => rfl) ?_
  rw [gA_fI (by decide)]
  refine fE_ite 4 (fun _ => rfl) (fun q => ?_) (fun q => ?_)
  · skip
    have q : μ.1 8 0 0 7 = -1 := q
    refine fE_call (g_throwing0 μ a 1 0) 3 (fun _ => rfl) ?_
    refine fE_ret2 2 (fun _ => rfl) ?_
    unfold qStored
    rw [if_pos q]
    rfl
  · skip
    have q : ¬ μ.1 8 0 0 7 = -1 := q
    refine fE_ret2 3 (fun _ => rfl) ?_
    unfold qStored
    rw [if_neg q]
    rfl
