theorem q_hullCount (μ : fM) {a : Nat → Nat} : sX8_hullCount [vR 8 0 0] (gA μ a) = some (mRes μ a (.inr (nI (a 0)))) := by
  refine fsemV_of (Nat.le_of_ble_eq_true rfl) ?_
  refine fE_step (y := fun n => frun _ _ n 5 [kR 8 0 0] [] (fI (gA μ a) 8 0 0 9 0) 0 0) 3 (fun _ => rfl) ?_
  rw [gA_fI (by decide)]
  refine fE_ret2 5 (fun _ => rfl) ?_
  simp (disch := omega) only [fLit, nI_add, pk_mul, pk_rem, nI_clamp, beq01, beq11, cond_false, cond_true, gA_at']
  rfl
theorem q_hour (μ : fM) {a : Nat → Nat} : sX8_hour [vR 8 0 0] (gA μ a) = some (mRes μ a (.inr (nI (a 1)))) := by
  refine fsemV_of (Nat.le_of_ble_eq_true rfl) ?_
  refine fE_step (y := fun n => frun _ _ n 5 [kR 8 0 0] [] (fI (gA μ a) 8 0 0 9 0) 0 0) 3 (fun _ => rfl) ?_
  rw [gA_fI (by decide)]
  refine fE_ret2 5 (fun _ => rfl) ?_
  simp (disch := omega) only [fLit, nI_add, pk_mul, pk_rem, nI_clamp, beq01, beq11, cond_false, cond_true, gA_at']
  rfl
theorem q_orderCount (μ : fM) {a : Nat → Nat} : sX8_orderCount [vR 8 0 0] (gA μ a) = some (mRes μ a (.inr (nI (a 2)))) := by
  refine fsemV_of (Nat.le_of_ble_eq_true rfl) ?_
  refine fE_step (y := fun n => frun _ _ n 5 [kR 8 0 0] [] (fI (gA μ a) 8 0 0 9 0) 0 0) 3 (fun _ => rfl) ?_
  rw [gA_fI (by decide)]
  refine fE_ret2 5 (fun _ => rfl) ?_
  simp (disch := omega) only [fLit, nI_add, pk_mul, pk_rem, nI_clamp, beq01, beq11, cond_false, cond_true, gA_at']
  rfl
theorem q_paidCoins (μ : fM) {a : Nat → Nat} : sX8_paidCoins [vR 8 0 0] (gA μ a) = some (.inl (some (vL (nI (a 4)).toInt64)), gA (gT μ 0) a) := by
  refine fsemV_of (Nat.le_of_ble_eq_true rfl) ?_
  refine fE_step (y := fun n => frun _ _ n 5 [kR 8 0 0] [] (fI (gA μ a) 8 0 0 9 0) 0 0) 3 (fun _ => rfl) ?_
  rw [gA_fI (by decide)]
  refine fE_ret2 6 (fun _ => rfl) ?_
  simp (disch := omega) only [fLit, nI_add, pk_mul, pk_rem, nI_clamp, beq01, beq11, cond_false, cond_true, gA_at']
def qSlip (a : Nat → Nat) (x : Int32) : qR := if 0 ≤ x ∧ x < nI 4 then .inr (nI (aS a (xN x))) else .inl 1
theorem i_le_lit {x : Int32} {n : Nat} (hn : n < 2 ^ 30) : (nI 0 ≤ x ∧ x ≤ nI n) ↔ (0 ≤ x ∧ x < nI (n + 1)) := by
  refine and_congr_right fun h0 => ?_
  rw [Int32.le_iff_toInt_le, Int32.lt_iff_toInt_lt, nI_toInt (by omega), nI_toInt (by omega)]
  omega
theorem q_slipLength (μ : fM) {a : Nat → Nat} (x : Int32) : sX8_slipLength [vR 8 0 0, vI x] (gA μ a) = some (mRes μ a (qSlip a x)) := by
  refine fsemV_of (Nat.le_of_ble_eq_true rfl) ?_
  refine fE_step (y := fun n => frun _ _ n 5 [kR 8 0 0, kX x] [] (fI (gA μ a) 8 0 0 9 0) 0 0) 3 (fun _ => rfl) ?_
  rw [gA_fI (by decide)]
  refine fE_call (m_inL x 0 3 (gA (gT μ 0) a) (by decide) (by decide)) 5 (fun _ => rfl) ?_
  refine fE_ite 1 (fun _ => rfl) (fun q => ?_) (fun q => ?_)
  · skip
    have q := bI_0.mp q
    rw [i_le_lit (by decide)] at q
    refine fE_call (g_throwing0 μ a 1 0) 3 (fun _ => rfl) ?_
    refine fE_ret2 1 (fun _ => rfl) ?_
    unfold qSlip
    rw [if_neg q]
    rfl
  · skip
    have q := bI_n.mp q
    rw [i_le_lit (by decide)] at q
    obtain ⟨h, hh, rfl⟩ := nI_ix (by omega) q.1 q.2
    refine fE_pos (by refine g_in (k := 17 + h) ?_ (show 17 + h < 213 from by omega) (show 213 < 2 ^ 31 from by decide); first | rfl | (simp (disch := omega) only [fLit, nI_add, pk_mul, pk_rem, pk_sub, nI_clamp]; done)) 6 (fun _ => rfl) ?_
    refine fE_ret2 2 (fun _ => rfl) ?_
    unfold qSlip
    rw [if_pos q, xN, nI_clamp (by omega)]
    simp (disch := omega) only [fLit, nI_add, pk_mul, pk_rem, nI_clamp, beq01, beq11, cond_false, cond_true, gA_at']
    rfl
def qOrderAt (a : Nat → Nat) (x : Int32) : qR := if 0 ≤ x ∧ x < nI (a 2) then .inr (nI (oI a (xN x))) else .inl 1
theorem q_orderAt (μ : fM) {u : Nat} {a : Nat → Nat} (x : Int32) (O : OKA u a) : sX8_orderAt [vR 8 0 0, vI x] (gA μ a) = some (mRes μ a (qOrderAt a x)) := by
  have h6 := O.ords
  refine fsemV_of (Nat.le_of_ble_eq_true rfl) ?_
  refine fE_step (y := fun n => frun _ _ n 5 [kR 8 0 0, kX x] [] (fI (gA μ a) 8 0 0 9 0) 0 0) 3 (fun _ => rfl) ?_
  rw [gA_fI (by decide)]
  simp (disch := omega) only [fLit, nI_add, pk_mul, pk_rem, nI_clamp, beq01, beq11, cond_false, cond_true, gA_at']
  have hi := m_inI x 0 (nI (a 2) - 1) (gA (gT μ 0) a)
  simp (disch := omega) only [fLit, nI_add, pk_mul, pk_rem, nI_clamp, beq01, beq11, cond_false, cond_true, nI_leI, nI_ltI, nI_eq] at hi
  refine fE_call (hi) 11 (fun _ => rfl) ?_
  refine fE_ite 1 (fun _ => rfl) (fun q => ?_) (fun q => ?_)
  · skip
    have q := bI_0.mp q
    refine fE_call (g_throwing0 μ a 1 0) 3 (fun _ => rfl) ?_
    refine fE_ret2 1 (fun _ => rfl) ?_
    unfold qOrderAt
    rw [if_neg (fun p => q ((i_le_pred (by omega)).mpr p))]
    rfl
  · skip
    have q := (i_le_pred (by omega)).mp (bI_n.mp q)
    obtain ⟨h, hh, rfl⟩ := nI_ix (by omega) q.1 q.2
    refine fE_pos (by refine g_in (k := 189 + 4 * h) ?_ (show 189 + 4 * h < 213 from by omega) (show 213 < 2 ^ 31 from by decide); first | rfl | (simp (disch := omega) only [fLit, nI_add, pk_mul, pk_rem, pk_sub, nI_clamp]; done)) 8 (fun _ => rfl) ?_
    refine fE_ret2 2 (fun _ => rfl) ?_
    unfold qOrderAt
    rw [if_pos q, xN, nI_clamp (by omega)]
    simp (disch := omega) only [fLit, nI_add, pk_mul, pk_rem, nI_clamp, beq01, beq11, cond_false, cond_true, gA_at']
    rfl
def qCoins (a : Nat → Nat) (x : Int32) : qR := if oP a x = a 2 then .inl 1 else .inr (nI (oD a (oP a x)))
theorem oP_le {a : Nat → Nat} {x : Int32} : oP a x ≤ a 2 := by
  have := nF_le (p := fun k => nI (oI a k) = x) (j := a 2) (k := 0)
  unfold oP
  omega
theorem dF_m1 {n d : Nat} (h : d ≤ n) (hn : n < 2 ^ 30) : dF n d = -1 ↔ d = n := by
  unfold dF
  split
  · simp_all
  · rename_i q
    constructor
    · intro e
      have := congrArg Int32.toInt e
      rw [nI_toInt (by omega)] at this
      have e2 : (-1 : Int32).toInt = -1 := rfl
      omega
    · exact fun e => absurd e q
theorem dF_ne {n d : Nat} (h : ¬ d = n) : dF n d = nI d := if_neg h
theorem q_coinsFor (μ : fM) {u : Nat} {a : Nat → Nat} (x : Int32) (O : OKA u a) : sX8_coinsFor [vR 8 0 0, vI x] (gA μ a) = some (mRes μ a (qCoins a x)) := by
  have h6 := O.ords
  have hp : oP a x ≤ a 2 := oP_le
  refine fsemV_of (Nat.le_of_ble_eq_true rfl) ?_
  refine fE_step (y := fun n => frun _ _ n 5 [kR 8 0 0, kX x, none] [] (fI (gA μ a) 8 0 0 9 0) 0 0) 3 (fun _ => rfl) ?_
  rw [gA_fI (by decide)]
  refine fE_call (g_find (gT μ 0) x O) 3 (fun _ => rfl) ?_
  refine fE_ite 4 (fun _ => rfl) (fun q => ?_) (fun q => ?_)
  · skip
    have q := (dF_m1 hp (by omega)).mp q
    refine fE_call (g_throwing0 μ a 1 0) 3 (fun _ => rfl) ?_
    refine fE_ret2 2 (fun _ => rfl) ?_
    unfold qCoins
    rw [if_pos q]
    rfl
  · skip
    have q : ¬ oP a x = a 2 := fun p => q ((dF_m1 hp (by omega)).mpr p)
    have hi := g_coins (gT μ 0) (k := oP a x) O (by omega)
    rw [← dF_ne q] at hi
    refine fE_call (hi) 3 (fun _ => rfl) ?_
    refine fE_ret2 1 (fun _ => rfl) ?_
    unfold qCoins
    rw [if_neg q]
    rfl
