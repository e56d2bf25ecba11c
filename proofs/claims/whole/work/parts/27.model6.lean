def qWgt (a : Nat → Nat) (x : Int32) : qR := if okH a x then .inr (nI (hWgt a (xN x))) else .inl 1
theorem q_weightOf (μ : fM) {u : Nat} {a : Nat → Nat} (x : Int32) (O : OKA u a) : sX8_weightOf [vR 8 0 0, vI x] (gA μ a) = some (mRes μ a (qWgt a x)) := by
  have h6 := O.hulls
  refine fsemV_of (Nat.le_of_ble_eq_true rfl) ?_
  refine fE_step (y := fun n => frun _ _ n 5 [kR 8 0 0, kX x] [] (fI (gA μ a) 8 0 0 9 0) 0 0) 3 (fun _ => rfl) ?_
  rw [gA_fI (by decide)]
  refine fE_call (g_isHull (gT μ 0) (a := a) (x := x) O) 3 (fun _ => rfl) ?_
  refine fE_ite 1 (fun _ => rfl) (fun q => ?_) (fun q => ?_)
  · skip
    have q := bI_0.mp q
    refine fE_call (g_throwing0 μ a 1 0) 3 (fun _ => rfl) ?_
    refine fE_ret2 1 (fun _ => rfl) ?_
    unfold qWgt
    rw [if_neg q]
    rfl
  · skip
    have q := bI_n.mp q
    obtain ⟨h, hh, rfl⟩ := nI_ix (by omega) q.1 q.2
    refine fE_call (g_weight (gT μ 0) O (h := h) (by omega)) 3 (fun _ => rfl) ?_
    refine fE_ret2 2 (fun _ => rfl) ?_
    unfold qWgt
    rw [if_pos q, xN, nI_clamp (by omega)]
    rfl
def qDr (a : Nat → Nat) (x : Int32) : qR := if okH a x then (if hDr a (xN x) (hWgt a (xN x)) = 41 then .inl 2 else .inr (nI (hDr a (xN x) (hWgt a (xN x))))) else .inl 1
theorem dI_m1 {d : Nat} (h : d ≤ 41) : dI d = -1 ↔ d = 41 := by
  unfold dI
  split
  · simp_all
  · rename_i q
    constructor
    · intro e
      have := congrArg Int32.toInt e
      rw [nI_toInt (by omega)] at this
      have e2 : (-1 : Int32).toInt = -1 := rfl
      omega
    · exact fun e => absurd e q
theorem q_draughtOf (μ : fM) {u : Nat} {a : Nat → Nat} (x : Int32) (O : OKA u a) : sX8_draughtOf [vR 8 0 0, vI x] (gA μ a) = some (mRes μ a (qDr a x)) := by
  have h6 := O.hulls
  refine fsemV_of (Nat.le_of_ble_eq_true rfl) ?_
  refine fE_step (y := fun n => frun _ _ n 5 [kR 8 0 0, kX x, none] [] (fI (gA μ a) 8 0 0 9 0) 0 0) 3 (fun _ => rfl) ?_
  rw [gA_fI (by decide)]
  refine fE_call (g_isHull (gT μ 0) (a := a) (x := x) O) 3 (fun _ => rfl) ?_
  refine fE_ite 1 (fun _ => rfl) (fun q => ?_) (fun q => ?_)
  · skip
    have q := bI_0.mp q
    refine fE_call (g_throwing0 μ a 1 0) 3 (fun _ => rfl) ?_
    refine fE_ret2 1 (fun _ => rfl) ?_
    unfold qDr
    rw [if_neg q]
    rfl
  · skip
    have q := bI_n.mp q
    obtain ⟨h, hh, rfl⟩ := nI_ix (by omega) q.1 q.2
    have hw := hWgt_le O (h := h) (by omega)
    have hd : hDr a h (hWgt a h) ≤ 41 := dDr_le
    refine fE_call (g_weight (gT μ 0) O (h := h) (by omega)) 5 (fun _ => rfl) ?_
    refine fE_call (g_draught (gT μ 0) O (h := h) (w := hWgt a h) (by omega) (by omega)) 1 (fun _ => rfl) ?_
    refine fE_ite 4 (fun _ => rfl) (fun r => ?_) (fun r => ?_)
    · skip
      have r := (dI_m1 hd).mp r
      refine fE_call (g_throwing0 μ a 2 0) 3 (fun _ => rfl) ?_
      refine fE_ret2 2 (fun _ => rfl) ?_
      unfold qDr
      rw [if_pos q, xN, nI_clamp (by omega), if_pos r]
      rfl
    · skip
      have r := fun p => r ((dI_m1 hd).mpr p)
      refine fE_ret2 2 (fun _ => rfl) ?_
      unfold qDr
      rw [if_pos q, xN, nI_clamp (by omega), if_neg r]
      show (Sum.inl (some (vI (if _ = 41 then -1 else nI _))), _) = _
      rw [if_neg r]
      rfl
theorem q_draughtByHalving (μ : fM) {u : Nat} {a : Nat → Nat} (x : Int32) (O : OKA u a) : sX8_draughtByHalving [vR 8 0 0, vI x] (gA μ a) = some (mRes μ a (qDr a x)) := by
  refine fsemV_of (Nat.le_of_ble_eq_true rfl) ?_
  refine fE_call (q_draughtOf μ x O) 3 (fun _ => rfl) ?_
  exact fE_ret 1 (fun _ => rfl)
def iT (f : Nat → Int32) (x : Int32) (k : Nat) : Nat → Int32
  | 0 => x
  | j + 1 => iT f (x + f k) (k + 1) j
def qHeel (a : Nat → Nat) (x : Int32) : qR := if okH a x then .inr (iT (fun k => nI (hD a (xN x) k 0) - nI (hD a (xN x) k 1)) 0 0 (hF a (xN x))) else .inl 1
theorem q_heelOf_1 (μ : fM) {u : Nat} {a : Nat → Nat} {h : Nat} (O : OKA u a) (hh : h < 6) : ∀ j k x, k + j = hF a h → fEnds (fun n => frun eX8_heelOf tX8_heelOf n 23 [kR 8 0 0, kN h, kX x, kN k] [] (gA μ a) 0 0) (.inl (some (vI (iT (fun k => nI (hD a h k 0) - nI (hD a h k 1)) x k j))), gA μ a)
  | 0, k, x, e => by
    have h8 := O.fr h hh
    refine fE_call (g_frames μ (a := a) hh) 4 (fun _ => rfl) ?_
    refine fE_pos (by first | omega | (simp (disch := omega) only [fLit, nI_add, pk_mul, pk_rem, nI_clamp, beq01, beq11, cond_false, cond_true, nI_leI, nI_ltI, nI_eq]; done) | (simp (disch := omega) only [fLit, nI_add, pk_mul, pk_rem, nI_clamp, beq01, beq11, cond_false, cond_true, nI_leI, nI_ltI, nI_eq]; omega)) 1 (fun _ => rfl) ?_
    exact fE_ret 2 (fun _ => rfl)
  | j + 1, k, x, e => by
    have h8 := O.fr h hh
    refine fE_call (g_frames μ (a := a) hh) 4 (fun _ => rfl) ?_
    refine fE_neg (by first | omega | (simp (disch := omega) only [fLit, nI_add, pk_mul, pk_rem, nI_clamp, beq01, beq11, cond_false, cond_true, nI_leI, nI_ltI, nI_eq]; done) | (simp (disch := omega) only [fLit, nI_add, pk_mul, pk_rem, nI_clamp, beq01, beq11, cond_false, cond_true, nI_leI, nI_ltI, nI_eq]; omega)) 1 (fun _ => rfl) ?_
    refine fE_call (g_width μ (a := a) (f := k) (s := 0) hh (by omega) (by decide)) 6 (fun _ => rfl) ?_
    refine fE_call (g_width μ (a := a) (f := k) (s := 1) hh (by omega) (by decide)) 5 (fun _ => rfl) ?_
    refine fE_step (y := fun n => frun _ _ n 23 [kR 8 0 0, kN h, kX (x + (nI (hD a h k 0) - nI (hD a h k 1))), kX (nI k + 1)] [] _ 0 0) 5 (fun _ => rfl) ?_
    rw [nI_1]
    exact q_heelOf_1 μ O hh j (k + 1) _ (by omega)
theorem q_heelOf (μ : fM) {u : Nat} {a : Nat → Nat} (x : Int32) (O : OKA u a) : sX8_heelOf [vR 8 0 0, vI x] (gA μ a) = some (mRes μ a (qHeel a x)) := by
  have h6 := O.hulls
  refine fsemV_of (Nat.le_of_ble_eq_true rfl) ?_
  refine fE_step (y := fun n => frun _ _ n 5 [kR 8 0 0, kX x, none, none] [] (fI (gA μ a) 8 0 0 9 0) 0 0) 3 (fun _ => rfl) ?_
  rw [gA_fI (by decide)]
  refine fE_call (g_isHull (gT μ 0) (a := a) (x := x) O) 3 (fun _ => rfl) ?_
  refine fE_ite 1 (fun _ => rfl) (fun q => ?_) (fun q => ?_)
  · skip
    have q := bI_0.mp q
    refine fE_call (g_throwing0 μ a 1 0) 3 (fun _ => rfl) ?_
    refine fE_ret2 1 (fun _ => rfl) ?_
    unfold qHeel
    rw [if_neg q]
    rfl
  · skip
    have q := bI_n.mp q
    obtain ⟨h, hh, rfl⟩ := nI_ix (by omega) q.1 q.2
    refine fE_step (y := fun n => frun _ _ n 23 [kR 8 0 0, kN h, kN 0, kN 0] [] _ 0 0) 4 (fun _ => rfl) ?_
    refine fE_cg (q_heelOf_1 (gT μ 0) O (by omega) (hF a h) 0 0 (by omega)) ?_
    unfold qHeel
    rw [if_pos q, xN, nI_clamp (by omega)]
    rfl
