theorem msb_of {z : Int32} : (0 ≤ z) ↔ z.toBitVec.msb = false := by
  rw [Int32.le_iff_toInt_le, BitVec.msb_eq_toInt, decide_eq_false_iff_not, Int.not_lt]
  exact Iff.rfl
theorem xor12 {x : Int32} : (0 ≤ x ^^^ 12) ↔ 0 ≤ x := by
  rw [msb_of, msb_of, Int32.toBitVec_xor, BitVec.msb_xor, show (12 : Int32).toBitVec.msb = false from by decide, Bool.xor_false]
theorem j_fm {t : Nat} {μ : fM} (ht : t < 2 ^ 30) : sJ9_floorMod_7cf53 [vI (nI t), vI 12] μ = some (.inl (some (vI (nI (t % 12)))), μ) := by
  refine fsem_of (Nat.le_of_ble_eq_true rfl) ?_
  refine fE_pos (by show 0 ≤ nI t ^^^ 12; rw [xor12, fLit]; exact nI_le (by omega) (by omega)) 8 (fun _ => rfl) ?_
  refine fE_ret2 2 (fun _ => rfl) ?_
  show (Sum.inl (some (vI (nI t - nI t / nI 12 * nI 12))), μ) = _
  rw [pk_rem (by omega) (by decide) (by decide)]
theorem c_tideIn {μ : fM} {y t : Nat} {a : Nat → Nat} (Y : YR μ y a) (ht : a 1 + t < 2 ^ 30) : sX6_tideIn [vR 6 y 0, vI (nI t)] μ = some (.inl (some (vI (nI (aT a ((a 1 + t) % 12))))), μ) := by
  have hn := Y.now
  have hj := j_fm (t := a 1 + t) (μ := μ) ht
  rw [← nI_add, ← hn] at hj
  refine fsemV_of (Nat.le_of_ble_eq_true rfl) ?_
  refine fE_call (hj) 8 (fun _ => rfl) ?_
  refine fE_pos (by refine g_in (k := (a 1 + t) % 12) ?_ (show (a 1 + t) % 12 < 12 from by omega) (show 12 < 2 ^ 31 from by decide); first | rfl | (simp (disch := omega) only [fLit, nI_add, pk_mul, pk_rem, pk_sub, nI_clamp]; done)) 1 (fun _ => rfl) ?_
  refine fE_ret2 1 (fun _ => rfl) ?_
  show (Sum.inl (some (vI (μ.1 14 y 0 (nI ((a 1 + t) % 12)).toNatClampNeg))), μ) = _
  rw [nI_clamp (by omega), Y.tide (by omega)]
theorem k_frameCount {μ : fM} {u : Nat} {a : Nat → Nat} (Y : YR μ 0 a) (O : OKA u a) (x : Int32) : sX7_frameCount [vR 7 0 0, vI x] μ = some (cRes e0 μ (qOf 1 a x)) := by
  have h6 := O.hulls
  refine fsemV_of (Nat.le_of_ble_eq_true rfl) ?_
  unfold qOf
  by_cases q : okH a x
  · rw [if_pos q]
    obtain ⟨h, hh, rfl⟩ := nI_ix (by omega) q.1 q.2
    rw [xN, nI_clamp (by omega)]
    refine fE_call (c_known Y h6 hh) 3 (fun _ => rfl) ?_
    refine fE_ret2 2 (fun _ => rfl) ?_
    show (Sum.inl (some (vI (μ.1 1 0 h 3))), μ) = _
    rw [(Y.hv (h := h) (by omega)).1]
    rfl
  · rw [if_neg q]
    refine fE_call (c_known0 Y q) 3 (fun _ => rfl) ?_
    exact fE_ret 0 (fun _ => rfl)
theorem k_waterIn {μ : fM} {u : Nat} {a : Nat → Nat} (Y : YR μ 0 a) (O : OKA u a) (x : Int32) : sX7_waterIn [vR 7 0 0, vI x] μ = some (cRes e0 μ (qOf 3 a x)) := by
  have h6 := O.hulls
  refine fsemV_of (Nat.le_of_ble_eq_true rfl) ?_
  unfold qOf
  by_cases q : okH a x
  · rw [if_pos q]
    obtain ⟨h, hh, rfl⟩ := nI_ix (by omega) q.1 q.2
    rw [xN, nI_clamp (by omega)]
    refine fE_call (c_known Y h6 hh) 3 (fun _ => rfl) ?_
    refine fE_ret2 2 (fun _ => rfl) ?_
    show (Sum.inl (some (vI (μ.1 1 0 h 6))), μ) = _
    rw [(Y.hv (h := h) (by omega)).2.2.2.1]
    rfl
  · rw [if_neg q]
    refine fE_call (c_known0 Y q) 3 (fun _ => rfl) ?_
    exact fE_ret 0 (fun _ => rfl)
theorem k_weightOf {μ : fM} {u : Nat} {a : Nat → Nat} (Y : YR μ 0 a) (O : OKA u a) (x : Int32) : sX7_weightOf [vR 7 0 0, vI x] μ = some (cRes e0 μ (qWgt a x)) := by
  have h6 := O.hulls
  refine fsemV_of (Nat.le_of_ble_eq_true rfl) ?_
  unfold qWgt
  by_cases q : okH a x
  · rw [if_pos q]
    obtain ⟨h, hh, rfl⟩ := nI_ix (by omega) q.1 q.2
    rw [xN, nI_clamp (by omega)]
    refine fE_call (c_known Y h6 hh) 3 (fun _ => rfl) ?_
    refine fE_call (c_weight (Y.hv (h := h) (by omega)) (O.hb (by omega))) 1 (fun _ => rfl) ?_
    exact fE_ret 1 (fun _ => rfl)
  · rw [if_neg q]
    refine fE_call (c_known0 Y q) 3 (fun _ => rfl) ?_
    exact fE_ret 0 (fun _ => rfl)
theorem k_heelOf {μ : fM} {u : Nat} {a : Nat → Nat} (Y : YR μ 0 a) (O : OKA u a) (x : Int32) : sX7_heelOf [vR 7 0 0, vI x] μ = some (cRes e0 μ (qHeel a x)) := by
  have h6 := O.hulls
  refine fsemV_of (Nat.le_of_ble_eq_true rfl) ?_
  unfold qHeel
  by_cases q : okH a x
  · rw [if_pos q]
    obtain ⟨h, hh, rfl⟩ := nI_ix (by omega) q.1 q.2
    rw [xN, nI_clamp (by omega)]
    refine fE_call (c_known Y h6 hh) 3 (fun _ => rfl) ?_
    refine fE_call (c_heel (Y.hv (h := h) (by omega)) (O.hb (by omega))) 1 (fun _ => rfl) ?_
    exact fE_ret 1 (fun _ => rfl)
  · rw [if_neg q]
    refine fE_call (c_known0 Y q) 3 (fun _ => rfl) ?_
    exact fE_ret 0 (fun _ => rfl)
/-- 1: no hull; 2: it cannot float -/
def e1 (t : Nat) : Nat := if t = 1 then 0 else 4
theorem c_kd {μ : fM} {d : Nat} (hd : d ≤ 41) : sX7_knownDraught [vI (dI d)] μ = some (if d = 41 then (.inr 4, μ) else (.inl (some (vI (nI d))), μ)) := by
  refine fsem_of (Nat.le_of_ble_eq_true rfl) ?_
  refine fE_ite 3 (fun _ => rfl) (fun q => ?_) (fun q => ?_)
  · skip
    have q := (dI_m1 hd).mp q
    rw [if_pos q]
    exact fE_ret 1 (fun _ => rfl)
  · skip
    have q : ¬ d = 41 := fun p => q ((dI_m1 hd).mpr p)
    rw [if_neg q, show dI d = nI d from if_neg q]
    exact fE_ret 2 (fun _ => rfl)
theorem k_draughtOf {μ : fM} {u : Nat} {a : Nat → Nat} (Y : YR μ 0 a) (O : OKA u a) (x : Int32) : sX7_draughtOf [vR 7 0 0, vI x] μ = some (cRes e1 μ (qDr a x)) := by
  have h6 := O.hulls
  refine fsemV_of (Nat.le_of_ble_eq_true rfl) ?_
  unfold qDr
  by_cases q : okH a x
  · rw [if_pos q]
    obtain ⟨h, hh, rfl⟩ := nI_ix (by omega) q.1 q.2
    rw [xN, nI_clamp (by omega)]
    have hd : hDr a h (hWgt a h) ≤ 41 := dDr_le
    have hk := c_kd (μ := μ) hd
    by_cases r : hDr a h (hWgt a h) = 41
    · rw [if_pos r] at hk ⊢
      refine fE_call (c_known Y h6 hh) 3 (fun _ => rfl) ?_
      refine fE_call (c_tried (Y.hv (h := h) (by omega)) (O.hb (by omega))) 1 (fun _ => rfl) ?_
      refine fE_call (hk) 1 (fun _ => rfl) ?_
      exact fE_ret 0 (fun _ => rfl)
    · rw [if_neg r] at hk ⊢
      refine fE_call (c_known Y h6 hh) 3 (fun _ => rfl) ?_
      refine fE_call (c_tried (Y.hv (h := h) (by omega)) (O.hb (by omega))) 1 (fun _ => rfl) ?_
      refine fE_call (hk) 1 (fun _ => rfl) ?_
      exact fE_ret 1 (fun _ => rfl)
  · rw [if_neg q]
    refine fE_call (c_known0 Y q) 3 (fun _ => rfl) ?_
    exact fE_ret 0 (fun _ => rfl)
theorem k_draughtByHalving {μ : fM} {u : Nat} {a : Nat → Nat} (Y : YR μ 0 a) (O : OKA u a) (x : Int32) : sX7_draughtByHalving [vR 7 0 0, vI x] μ = some (cRes e1 μ (qDr a x)) := by
  have h6 := O.hulls
  refine fsemV_of (Nat.le_of_ble_eq_true rfl) ?_
  unfold qDr
  by_cases q : okH a x
  · rw [if_pos q]
    obtain ⟨h, hh, rfl⟩ := nI_ix (by omega) q.1 q.2
    rw [xN, nI_clamp (by omega)]
    have hd : hDr a h (hWgt a h) ≤ 41 := dDr_le
    have hk := c_kd (μ := μ) hd
    by_cases r : hDr a h (hWgt a h) = 41
    · rw [if_pos r] at hk ⊢
      refine fE_call (c_known Y h6 hh) 3 (fun _ => rfl) ?_
      refine fE_call (c_halved (Y.hv (h := h) (by omega)) (O.hb (by omega))) 1 (fun _ => rfl) ?_
      refine fE_call (hk) 1 (fun _ => rfl) ?_
      exact fE_ret 0 (fun _ => rfl)
    · rw [if_neg r] at hk ⊢
      refine fE_call (c_known Y h6 hh) 3 (fun _ => rfl) ?_
      refine fE_call (c_halved (Y.hv (h := h) (by omega)) (O.hb (by omega))) 1 (fun _ => rfl) ?_
      refine fE_call (hk) 1 (fun _ => rfl) ?_
      exact fE_ret 1 (fun _ => rfl)
  · rw [if_neg q]
    refine fE_call (c_known0 Y q) 3 (fun _ => rfl) ?_
    exact fE_ret 0 (fun _ => rfl)
theorem k_hullCount {μ : fM} {a : Nat → Nat} (Y : YR μ 0 a) : sX7_hullCount [vR 7 0 0] μ = some (.inl (some (vI (nI (a 0)))), μ) := by
  refine fsemV_of (Nat.le_of_ble_eq_true rfl) ?_
  refine fE_ret2 4 (fun _ => rfl) ?_
  show (Sum.inl (some (vI (μ.1 6 0 0 4))), μ) = _
  rw [Y.begun]
theorem k_hour {μ : fM} {a : Nat → Nat} (Y : YR μ 0 a) : sX7_hour [vR 7 0 0] μ = some (.inl (some (vI (nI (a 1)))), μ) := by
  refine fsemV_of (Nat.le_of_ble_eq_true rfl) ?_
  refine fE_ret2 4 (fun _ => rfl) ?_
  show (Sum.inl (some (vI (μ.1 6 0 0 5))), μ) = _
  rw [Y.now]
theorem k_orderCount {μ : fM} {a : Nat → Nat} (Y : YR μ 0 a) : sX7_orderCount [vR 7 0 0] μ = some (.inl (some (vI (nI (a 2)))), μ) := by
  refine fsemV_of (Nat.le_of_ble_eq_true rfl) ?_
  refine fE_ret2 5 (fun _ => rfl) ?_
  show (Sum.inl (some (vI (μ.1 2 0 0 5))), μ) = _
  rw [Y.count]
theorem k_paidCoins {μ : fM} {a : Nat → Nat} (Y : YR μ 0 a) : sX7_paidCoins [vR 7 0 0] μ = some (.inl (some (vL (nI (a 4)).toInt64)), μ) := by
  refine fsemV_of (Nat.le_of_ble_eq_true rfl) ?_
  refine fE_ret2 4 (fun _ => rfl) ?_
  show (Sum.inl (some (vL (μ.2.1 6 0 0 6))), μ) = _
  rw [Y.paid]
/-- an argument out of range -/
def eA (_ : Nat) : Nat := 1
theorem k_slipLength {μ : fM} {a : Nat → Nat} (Y : YR μ 0 a) (x : Int32) : sX7_slipLength [vR 7 0 0, vI x] μ = some (cRes eA μ (qSlip a x)) := by
  refine fsemV_of (Nat.le_of_ble_eq_true rfl) ?_
  unfold qSlip
  refine fE_call (c_isFromTo x 0 3 μ) 4 (fun _ => rfl) ?_
  refine fE_ite 1 (fun _ => rfl) (fun q => ?_) (fun q => ?_)
  · skip
    have q : ¬ (nI 0 ≤ x ∧ x ≤ nI 3) := bI_0.mp q
    rw [i_le_lit (by decide)] at q
    rw [if_neg q]
    exact fE_ret 1 (fun _ => rfl)
  · skip
    have q : (nI 0 ≤ x ∧ x ≤ nI 3) := bI_n.mp q
    rw [i_le_lit (by decide)] at q
    rw [if_pos q]
    obtain ⟨h, hh, rfl⟩ := nI_ix (by omega) q.1 q.2
    refine fE_pos (by refine g_in (k := h) ?_ (show h < 4 from by omega) (show 4 < 2 ^ 31 from by decide); first | rfl | (simp (disch := omega) only [fLit, nI_add, pk_mul, pk_rem, pk_sub, nI_clamp]; done)) 5 (fun _ => rfl) ?_
    refine fE_ret2 1 (fun _ => rfl) ?_
    show (Sum.inl (some (vI (μ.1 15 0 0 (nI h).toNatClampNeg))), μ) = _
    rw [nI_clamp (by omega), Y.slip (by omega), xN, nI_clamp (by omega)]
    rfl
theorem k_tideAfter {μ : fM} {u : Nat} {a : Nat → Nat} (Y : YR μ 0 a) (O : OKA u a) (x : Int32) : sX7_tideAfter [vR 7 0 0, vI x] μ = some (cRes eA μ (qTideAfter a x)) := by
  have h1 := O.hour
  have h2 := O.u6
  refine fsemV_of (Nat.le_of_ble_eq_true rfl) ?_
  unfold qTideAfter
  refine fE_call (c_isFromTo x 0 999 μ) 4 (fun _ => rfl) ?_
  refine fE_ite 1 (fun _ => rfl) (fun q => ?_) (fun q => ?_)
  · skip
    have q : ¬ (nI 0 ≤ x ∧ x ≤ nI 999) := bI_0.mp q
    rw [i_le_lit (by decide)] at q
    rw [if_neg q]
    exact fE_ret 1 (fun _ => rfl)
  · skip
    have q : (nI 0 ≤ x ∧ x ≤ nI 999) := bI_n.mp q
    rw [i_le_lit (by decide)] at q
    rw [if_pos q]
    obtain ⟨h, hh, rfl⟩ := nI_ix (by omega) q.1 q.2
    refine fE_call (c_tideIn Y (t := h) (by omega)) 4 (fun _ => rfl) ?_
    refine fE_ret2 1 (fun _ => rfl) ?_
    rw [xN, nI_clamp (by omega)]
    rfl
