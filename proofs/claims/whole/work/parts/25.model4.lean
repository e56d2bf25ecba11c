theorem i_le_pred {x : Int32} {B : Nat} (hB : B < 2 ^ 30) : (0 ≤ x ∧ x ≤ nI B - 1) ↔ (0 ≤ x ∧ x < nI B) := by
  refine and_congr_right fun h0 => ?_
  show x ≤ nI B - nI 1 ↔ _
  rw [Int32.le_iff_toInt_le, Int32.lt_iff_toInt_lt, pk_sub_toInt (a := B) (b := 1) (by omega) (by omega), nI_toInt (by omega)]
  omega
theorem bI_c {p q : Prop} [Decidable p] [Decidable q] (h : p ↔ q) : bI p = bI q := by
  unfold bI
  split <;> split <;> simp_all
theorem mx0 {x y : Nat} (hx : x < 2 ^ 30) (hy : y < 2 ^ 30) : (if (0 : Int32) < nI x - nI y then nI x - nI y else 0) = nI (x - y) := by
  by_cases h : y < x
  · rw [pk_sub (by omega), if_pos (by rw [fLit]; exact nI_lt (by omega) (by omega))]
  · rw [if_neg, show x - y = 0 from by omega]
    · rfl
    · rw [Int32.lt_iff_toInt_lt, pk_sub_toInt hx hy]
      show ¬ (0 : Int) < _
      omega
abbrev gT (μ : fM) (t : Int32) : fM := fI μ 8 0 0 9 t
theorem fI_fI {μ : fM} {c y h k : Nat} {v w : Int32} : fI (fI μ c y h k v) c y h k w = fI μ c y h k w := by
  refine Prod.ext ?_ rfl
  funext c' y' h' k'
  show (if c' = c ∧ k' = k ∧ y' = y ∧ h' = h then w else (if c' = c ∧ k' = k ∧ y' = y ∧ h' = h then v else μ.1 c' y' h' k')) = (if c' = c ∧ k' = k ∧ y' = y ∧ h' = h then w else μ.1 c' y' h' k')
  split <;> rename_i q <;> first | rfl | exact if_neg q
theorem fI_ne {μ : fM} {c y h k c' y' h' k' : Nat} {v : Int32} (q : ¬ (c' = c ∧ k' = k ∧ y' = y ∧ h' = h)) : (fI μ c y h k v).1 c' y' h' k' = μ.1 c' y' h' k' := if_neg q
theorem g_isWorked (μ : fM) {u : Nat} {a : Nat → Nat} {h : Nat} (O : OKA u a) (hh : h < 6) : sX8_isWorked [vR 8 0 0, vI (nI h)] (gA μ a) = some (.inl (some (vI (bI (hS a h ≤ 1)))), gA μ a) := by
  refine fsemV_of (Nat.le_of_ble_eq_true rfl) ?_
  have hs := O.st h hh
  refine fE_call (g_state μ (a := a) hh) 3 (fun _ => rfl) ?_
  refine fE_ite 1 (fun _ => rfl) (fun q => ?_) (fun q => ?_)
  · skip
    simp (disch := omega) only [fLit, nI_add, pk_mul, pk_rem, nI_clamp, beq01, beq11, cond_false, cond_true, nI_leI, nI_ltI, nI_eq] at q
    refine fE_ret2 3 (fun _ => rfl) ?_
    rw [bI_t (by omega)]
    rfl
  · skip
    simp (disch := omega) only [fLit, nI_add, pk_mul, pk_rem, nI_clamp, beq01, beq11, cond_false, cond_true, nI_leI, nI_ltI, nI_eq] at q
    refine fE_call (g_state μ (a := a) hh) 3 (fun _ => rfl) ?_
    refine fE_ite 2 (fun _ => rfl) (fun r => ?_) (fun r => ?_)
    · skip
      simp (disch := omega) only [fLit, nI_add, pk_mul, pk_rem, nI_clamp, beq01, beq11, cond_false, cond_true, nI_leI, nI_ltI, nI_eq] at r
      refine fE_ret2 3 (fun _ => rfl) ?_
      rw [bI_t (by omega)]
      rfl
    · skip
      simp (disch := omega) only [fLit, nI_add, pk_mul, pk_rem, nI_clamp, beq01, beq11, cond_false, cond_true, nI_leI, nI_ltI, nI_eq] at r
      refine fE_ret2 2 (fun _ => rfl) ?_
      rw [bI_f (by omega)]
      rfl
theorem g_isSeam (μ : fM) {u : Nat} {a : Nat → Nat} {h : Nat} {y : Int32} (O : OKA u a) (hh : h < a 0) : sX8_isSeam [vR 8 0 0, vI (nI h), vI y] (gA μ a) = some (.inl (some (vI (bI (0 ≤ y ∧ y < nI (hF a h - 1))))), gA μ a) := by
  have h6 := O.hulls
  have hf := O.fr h (by omega)
  refine fsemV_of (Nat.le_of_ble_eq_true rfl) ?_
  refine fE_call (g_isHull μ (a := a) (x := nI h) O) 3 (fun _ => rfl) ?_
  refine fE_neg (fun q => bI_0.mp q ⟨by rw [fLit]; exact nI_le (by omega) (by omega), nI_lt hh (by omega)⟩) 1 (fun _ => rfl) ?_
  refine fE_call (g_seams μ O (h := h) (by omega)) 6 (fun _ => rfl) ?_
  refine fE_call (m_inI y 0 (nI (hF a h - 1) - 1) (gA μ a)) 4 (fun _ => rfl) ?_
  refine fE_ite 1 (fun _ => rfl) (fun q => ?_) (fun q => ?_)
  · skip
    have q := bI_0.mp q
    rw [i_le_pred (by omega)] at q
    refine fE_ret2 2 (fun _ => rfl) ?_
    rw [bI_f q]
    rfl
  · skip
    have q := bI_n.mp q
    rw [i_le_pred (by omega)] at q
    refine fE_ret2 3 (fun _ => rfl) ?_
    rw [bI_t q]
    rfl
theorem g_isSeam0 (μ : fM) {u : Nat} {a : Nat → Nat} {x y : Int32} (O : OKA u a) (hx : ¬ (0 ≤ x ∧ x < nI (a 0))) : sX8_isSeam [vR 8 0 0, vI x, vI y] (gA μ a) = some (.inl (some (vI 0)), gA μ a) := by
  refine fsemV_of (Nat.le_of_ble_eq_true rfl) ?_
  refine fE_call (g_isHull μ (a := a) (x := x) O) 3 (fun _ => rfl) ?_
  refine fE_pos (bI_0.mpr hx) 1 (fun _ => rfl) ?_
  exact fE_ret 2 (fun _ => rfl)
theorem g_tide (μ : fM) {a : Nat → Nat} {t : Nat} (ht : t < 2 ^ 30) : sX8_tide [vR 8 0 0, vI (nI t)] (gA μ a) = some (.inl (some (vI (nI (aT a (t % 12))))), gA μ a) := by
  refine fsemV_of (Nat.le_of_ble_eq_true rfl) ?_
  refine fE_pos (by refine g_in (k := 5 + t % 12) ?_ (show 5 + t % 12 < 213 from by omega) (show 213 < 2 ^ 31 from by decide); first | rfl | (simp (disch := omega) only [fLit, nI_add, pk_mul, pk_rem, pk_sub, nI_clamp]; done)) 8 (fun _ => rfl) ?_
  refine fE_ret2 1 (fun _ => rfl) ?_
  simp (disch := omega) only [fLit, nI_add, pk_mul, pk_rem, nI_clamp, beq01, beq11, cond_false, cond_true, gA_at']
  rfl
theorem g_find_1 (μ : fM) {u : Nat} {a : Nat → Nat} {x : Int32} (O : OKA u a) : ∀ j k, k + j = a 2 → fEnds (fun n => frun eX8_find tX8_find n 2 [kR 8 0 0, kX x, kN k] [] (gA μ a) 0 0) (.inl (some (vI (let d := nF (fun k => nI (oI a k) = x) k j; if d = a 2 then -1 else nI d))), gA μ a)
  | 0, k, e => by
    have h6 := O.ords
    refine fE_pos (by first | omega | (simp (disch := omega) only [fLit, nI_add, pk_mul, pk_rem, nI_clamp, beq01, beq11, cond_false, cond_true, nI_leI, nI_ltI, nI_eq, gA_at']; done) | (simp (disch := omega) only [fLit, nI_add, pk_mul, pk_rem, nI_clamp, beq01, beq11, cond_false, cond_true, nI_leI, nI_ltI, nI_eq, gA_at']; omega)) 6 (fun _ => rfl) ?_
    refine fE_ret2 2 (fun _ => rfl) ?_
    show _ = (Sum.inl (some (vI (if k = a 2 then -1 else nI k))), gA μ a)
    rw [if_pos (by omega)]
    rfl
  | j + 1, k, e => by
    have h6 := O.ords
    refine fE_neg (by first | omega | (simp (disch := omega) only [fLit, nI_add, pk_mul, pk_rem, nI_clamp, beq01, beq11, cond_false, cond_true, nI_leI, nI_ltI, nI_eq, gA_at']; done) | (simp (disch := omega) only [fLit, nI_add, pk_mul, pk_rem, nI_clamp, beq01, beq11, cond_false, cond_true, nI_leI, nI_ltI, nI_eq, gA_at']; omega)) 6 (fun _ => rfl) ?_
    refine fE_pos (by refine g_in (k := 189 + 4 * k) ?_ (show 189 + 4 * k < 213 from by omega) (show 213 < 2 ^ 31 from by decide); first | rfl | (simp (disch := omega) only [fLit, nI_add, pk_mul, pk_rem, pk_sub, nI_clamp]; done)) 8 (fun _ => rfl) ?_
    refine fE_ite 2 (fun _ => rfl) (fun q => ?_) (fun q => ?_)
    · skip
      simp (disch := omega) only [fLit, nI_add, pk_mul, pk_rem, nI_clamp, beq01, beq11, cond_false, cond_true, nI_leI, nI_ltI, nI_eq, gA_at'] at q
      refine fE_ret2 2 (fun _ => rfl) ?_
      rw [nF, if_pos q]
      show _ = (Sum.inl (some (vI (if k = a 2 then -1 else nI k))), gA μ a)
      rw [if_neg (by omega)]
      rfl
    · skip
      simp (disch := omega) only [fLit, nI_add, pk_mul, pk_rem, nI_clamp, beq01, beq11, cond_false, cond_true, nI_leI, nI_ltI, nI_eq, gA_at'] at q
      refine fE_step (y := fun n => frun _ _ n 2 [kR 8 0 0, kX x, kX (nI k + 1)] [] _ 0 0) 2 (fun _ => rfl) ?_
      rw [nI_1, nF, if_neg q]
      exact g_find_1 μ O j (k + 1) (by omega)
def dF (n d : Nat) : Int32 := if d = n then -1 else nI d
def oP (a : Nat → Nat) (x : Int32) : Nat := nF (fun k => nI (oI a k) = x) 0 (a 2)
theorem g_find (μ : fM) {u : Nat} {a : Nat → Nat} (x : Int32) (O : OKA u a) : sX8_find [vR 8 0 0, vI x] (gA μ a) = some (.inl (some (vI (dF (a 2) (oP a x)))), gA μ a) := by
  refine fsemV_of (Nat.le_of_ble_eq_true rfl) ?_
  refine fE_step (y := fun n => frun _ _ n 2 [kR 8 0 0, kX x, kN 0] [] _ 0 0) 2 (fun _ => rfl) ?_
  exact g_find_1 μ O (a 2) 0 (by omega)
/-- the coins that are due for the order at place k -/
def oD (a : Nat → Nat) (k : Nat) : Nat := oC a k - (a 1 - oH a k)
theorem g_coins (μ : fM) {u : Nat} {a : Nat → Nat} {k : Nat} (O : OKA u a) (hk : k < 6) : sX8_coins [vR 8 0 0, vI (nI k)] (gA μ a) = some (.inl (some (vI (nI (oD a k)))), gA μ a) := by
  refine fsemV_of (Nat.le_of_ble_eq_true rfl) ?_
  have h1 := O.hour
  have h2 := O.u6
  have h3 := O.oh k hk
  have h4 := O.oc k hk
  refine fE_pos (by refine g_in (k := 189 + 4 * k + 3) ?_ (show 189 + 4 * k + 3 < 213 from by omega) (show 213 < 2 ^ 31 from by decide); first | rfl | (simp (disch := omega) only [fLit, nI_add, pk_mul, pk_rem, pk_sub, nI_clamp]; done)) 13 (fun _ => rfl) ?_
  refine fE_pos (by refine g_in (k := 189 + 4 * k + 2) ?_ (show 189 + 4 * k + 2 < 213 from by omega) (show 213 < 2 ^ 31 from by decide); first | rfl | (simp (disch := omega) only [fLit, nI_add, pk_mul, pk_rem, pk_sub, nI_clamp]; done)) 11 (fun _ => rfl) ?_
  simp (disch := omega) only [fLit, nI_add, pk_mul, pk_rem, nI_clamp, beq01, beq11, cond_false, cond_true, gA_at']
  refine fE_call (j_max 0 (nI (a 1) - nI (oH a k)) (gA μ a)) 2 (fun _ => rfl) ?_
  rw [mx0 (by omega) (by omega)]
  refine fE_call (j_max 0 (nI (oC a k) - nI (a 1 - oH a k)) (gA μ a)) 2 (fun _ => rfl) ?_
  rw [mx0 (by omega) (by omega)]
  exact fE_ret 1 (fun _ => rfl)
theorem g_throwing (μ : fM) (a : Nat → Nat) (t : Int32) : sX8_throwing [vR 8 0 0, vI t] (gA μ a) = some (.inl (some (vI (-1))), gA (gT μ t) a) := by
  refine fsemV_of (Nat.le_of_ble_eq_true rfl) ?_
  rw [← gA_fI (by decide)]
  exact fE_ret 5 (fun _ => rfl)
theorem gT_gT {μ : fM} {s t : Int32} : gT (gT μ s) t = gT μ t := fI_fI
theorem g_throwing0 (μ : fM) (a : Nat → Nat) (t s : Int32) : sX8_throwing [vR 8 0 0, vI t] (gA (gT μ s) a) = some (.inl (some (vI (-1))), gA (gT μ t) a) := by
  rw [g_throwing, gT_gT]
/-- what is told of a hull -/
theorem g_ofHull (μ : fM) {u : Nat} {a : Nat → Nat} {x : Int32} {w : Nat} (O : OKA u a) (hw : w < 4) : sX8_ofHull [vR 8 0 0, vI x, vI (nI w)] (gA μ a) = some (if 0 ≤ x ∧ x < nI (a 0) then (.inl (some (vI (nI (a (21 + 28 * x.toNatClampNeg + w))))), gA (gT μ 0) a) else (.inl (some (vI (-1))), gA (gT μ 1) a)) := by
  have h6 := O.hulls
  refine fsemV_of (Nat.le_of_ble_eq_true rfl) ?_
  refine fE_step (y := fun n => frun _ _ n 5 [kR 8 0 0, kX x, kN w] [] (fI (gA μ a) 8 0 0 9 0) 0 0) 3 (fun _ => rfl) ?_
  rw [gA_fI (by decide)]
  refine fE_call (g_isHull (gT μ 0) (a := a) (x := x) O) 3 (fun _ => rfl) ?_
  refine fE_ite 1 (fun _ => rfl) (fun q => ?_) (fun q => ?_)
  · skip
    have q := bI_0.mp q
    refine fE_call (g_throwing0 μ a 1 0) 3 (fun _ => rfl) ?_
    refine fE_ret2 1 (fun _ => rfl) ?_
    rw [if_neg q]
    rfl
  · skip
    have q := bI_n.mp q
    obtain ⟨h, hh, rfl⟩ := nI_ix (by omega) q.1 q.2
    refine fE_call (m_hullAt (nI h) _) 4 (fun _ => rfl) ?_
    refine fE_pos (by refine g_in (k := 21 + 28 * h + w) ?_ (show 21 + 28 * h + w < 213 from by omega) (show 213 < 2 ^ 31 from by decide); first | rfl | (simp (disch := omega) only [fLit, nI_add, pk_mul, pk_rem, pk_sub, nI_clamp]; done)) 3 (fun _ => rfl) ?_
    refine fE_ret2 2 (fun _ => rfl) ?_
    rw [if_pos q]
    simp (disch := omega) only [fLit, nI_add, pk_mul, pk_rem, nI_clamp, beq01, beq11, cond_false, cond_true, gA_at']
    rfl
