/-! CALLS THAT MODIFY -/
abbrev gS (μ : fM) (a : Nat → Nat) : fM := hO 31 0 213 (gT μ 0) (fun i => nI (a i))
def mE (ν : fM) (c : Nat) : qR → fM
  | .inl t => gT ν (nI t)
  | .inr _ => gKeep ν c
theorem g_ch (ν : fM) {a : Nat → Nat} {c : Nat} {r : qR} (hc : c ≤ 8) (h5 : ν.1 8 0 0 5 = nI c) (h9 : ν.1 8 0 0 9 = 0) (ht : ∀ t, r = .inl t → 0 < t ∧ t < 10) : sX8_changed [vR 8 0 0, vI (mVal r)] (gA (mT ν r) a) = some (.inl (some (vI (mVal r))), gA (mE ν c r) a) := by
  cases r with
  | inl t =>
    have h := ht t rfl
    exact g_changed0 (gT ν (nI t)) h.1 h.2 rfl
  | inr v => exact g_changed ν hc h5 h9
theorem sMir_in {h : Nat} : ∀ {j k n a}, ∃ v, (sMir h j k n a).1 = .inr v
  | 0, _, n, _ => ⟨nI n, rfl⟩
  | j + 1, _, _, _ => sMir_in (j := j)
theorem rHr_in : ∀ {j n a}, ∃ v, (rHr j n a).1 = .inr v
  | 0, n, _ => ⟨nI n, rfl⟩
  | j + 1, _, _ => rHr_in (j := j)
theorem sHull_t {a : Nat → Nat} : ∀ t, (sHull a).1 = .inl t → 0 < t ∧ t < 10 := by
  intro t h
  unfold sHull at h
  (repeat' split at h) <;> cases h <;> decide
theorem g_beginHull (μ : fM) {u c : Nat} {a : Nat → Nat} (O : OKA u a) (hc : c ≤ 8) (h5 : μ.1 8 0 0 5 = nI c) : sX8_beginHull [vR 8 0 0] (gA μ a) = some (.inl (some (vI (mVal (sHull a).1))), gA (mE (gS μ a) c (sHull a).1) (sHull a).2) := by
  refine fsemV_of (Nat.le_of_ble_eq_true rfl) ?_
  refine fE_call (g_starts μ) 2 (fun _ => rfl) ?_
  refine fE_call (g_hullIt (gS μ a) O) 3 (fun _ => rfl) ?_
  refine fE_call (g_ch (gS μ a) hc h5 rfl sHull_t) 1 (fun _ => rfl) ?_
  exact fE_ret 1 (fun _ => rfl)
theorem sFrame_t {a : Nat → Nat} {x l r : Int32} : ∀ t, (sFrame a x l r).1 = .inl t → 0 < t ∧ t < 10 := by
  intro t h
  unfold sFrame at h
  (repeat' split at h) <;> cases h <;> decide
theorem g_addFrame (μ : fM) {u c : Nat} {a : Nat → Nat} (O : OKA u a) (hc : c ≤ 8) (h5 : μ.1 8 0 0 5 = nI c) (x l r : Int32) : sX8_addFrame [vR 8 0 0, vI x, vI l, vI r] (gA μ a) = some (.inl (some (vI (mVal (sFrame a x l r).1))), gA (mE (gS μ a) c (sFrame a x l r).1) (sFrame a x l r).2) := by
  refine fsemV_of (Nat.le_of_ble_eq_true rfl) ?_
  refine fE_call (g_starts μ) 2 (fun _ => rfl) ?_
  refine fE_call (g_frameIt (gS μ a) O x l r) 6 (fun _ => rfl) ?_
  refine fE_call (g_ch (gS μ a) hc h5 rfl sFrame_t) 1 (fun _ => rfl) ?_
  exact fE_ret 1 (fun _ => rfl)
theorem sMirror_t {a : Nat → Nat} {x : Int32} : ∀ t, (sMirror a x).1 = .inl t → 0 < t ∧ t < 10 := by
  intro t h
  unfold sMirror at h
  split at h
  · split at h
    · obtain ⟨v, hv⟩ := sMir_in (h := xN x) (j := hF a (xN x)) (k := 0) (n := 0) (a := a)
      rw [hv] at h
      cases h
    · cases h
      decide
  · cases h
    decide
theorem g_mirror (μ : fM) {u c : Nat} {a : Nat → Nat} (O : OKA u a) (hc : c ≤ 8) (h5 : μ.1 8 0 0 5 = nI c) (x : Int32) : sX8_mirror [vR 8 0 0, vI x] (gA μ a) = some (.inl (some (vI (mVal (sMirror a x).1))), gA (mE (gS μ a) c (sMirror a x).1) (sMirror a x).2) := by
  refine fsemV_of (Nat.le_of_ble_eq_true rfl) ?_
  refine fE_call (g_starts μ) 2 (fun _ => rfl) ?_
  refine fE_call (g_mirrorIt (gS μ a) O x) 4 (fun _ => rfl) ?_
  refine fE_call (g_ch (gS μ a) hc h5 rfl sMirror_t) 1 (fun _ => rfl) ?_
  exact fE_ret 1 (fun _ => rfl)
theorem sCargo_t {a : Nat → Nat} {x y : Int32} : ∀ t, (sCargo a x y).1 = .inl t → 0 < t ∧ t < 10 := by
  intro t h
  unfold sCargo at h
  (repeat' split at h) <;> cases h <;> decide
theorem g_setCargo (μ : fM) {u c : Nat} {a : Nat → Nat} (O : OKA u a) (hc : c ≤ 8) (h5 : μ.1 8 0 0 5 = nI c) (x y : Int32) : sX8_setCargo [vR 8 0 0, vI x, vI y] (gA μ a) = some (.inl (some (vI (mVal (sCargo a x y).1))), gA (mE (gS μ a) c (sCargo a x y).1) (sCargo a x y).2) := by
  refine fsemV_of (Nat.le_of_ble_eq_true rfl) ?_
  refine fE_call (g_starts μ) 2 (fun _ => rfl) ?_
  refine fE_call (g_cargoIt (gS μ a) O x y) 5 (fun _ => rfl) ?_
  refine fE_call (g_ch (gS μ a) hc h5 rfl sCargo_t) 1 (fun _ => rfl) ?_
  exact fE_ret 1 (fun _ => rfl)
theorem sCaulk_t {a : Nat → Nat} {x y : Int32} : ∀ t, (sCaulk a x y).1 = .inl t → 0 < t ∧ t < 10 := by
  intro t h
  unfold sCaulk at h
  (repeat' split at h) <;> cases h <;> decide
theorem g_caulk (μ : fM) {u c : Nat} {a : Nat → Nat} (O : OKA u a) (hc : c ≤ 8) (h5 : μ.1 8 0 0 5 = nI c) (x y : Int32) : sX8_caulk [vR 8 0 0, vI x, vI y] (gA μ a) = some (.inl (some (vI (mVal (sCaulk a x y).1))), gA (mE (gS μ a) c (sCaulk a x y).1) (sCaulk a x y).2) := by
  refine fsemV_of (Nat.le_of_ble_eq_true rfl) ?_
  refine fE_call (g_starts μ) 2 (fun _ => rfl) ?_
  refine fE_call (g_caulkIt (gS μ a) O x y) 5 (fun _ => rfl) ?_
  refine fE_call (g_ch (gS μ a) hc h5 rfl sCaulk_t) 1 (fun _ => rfl) ?_
  exact fE_ret 1 (fun _ => rfl)
theorem sPump_t {a : Nat → Nat} {x y : Int32} : ∀ t, (sPump a x y).1 = .inl t → 0 < t ∧ t < 10 := by
  intro t h
  unfold sPump at h
  (repeat' split at h) <;> cases h <;> decide
theorem g_pump (μ : fM) {u c : Nat} {a : Nat → Nat} (O : OKA u a) (hc : c ≤ 8) (h5 : μ.1 8 0 0 5 = nI c) (x y : Int32) : sX8_pump [vR 8 0 0, vI x, vI y] (gA μ a) = some (.inl (some (vI (mVal (sPump a x y).1))), gA (mE (gS μ a) c (sPump a x y).1) (sPump a x y).2) := by
  refine fsemV_of (Nat.le_of_ble_eq_true rfl) ?_
  refine fE_call (g_starts μ) 2 (fun _ => rfl) ?_
  refine fE_call (g_pumpIt (gS μ a) O x y) 5 (fun _ => rfl) ?_
  refine fE_call (g_ch (gS μ a) hc h5 rfl sPump_t) 1 (fun _ => rfl) ?_
  exact fE_ret 1 (fun _ => rfl)
theorem sTide_t {a : Nat → Nat} {x y : Int32} : ∀ t, (sTide a x y).1 = .inl t → 0 < t ∧ t < 10 := by
  intro t h
  unfold sTide at h
  (repeat' split at h) <;> cases h <;> decide
theorem g_setTide (μ : fM) {u c : Nat} {a : Nat → Nat} (O : OKA u a) (hc : c ≤ 8) (h5 : μ.1 8 0 0 5 = nI c) (x y : Int32) : sX8_setTide [vR 8 0 0, vI x, vI y] (gA μ a) = some (.inl (some (vI (mVal (sTide a x y).1))), gA (mE (gS μ a) c (sTide a x y).1) (sTide a x y).2) := by
  refine fsemV_of (Nat.le_of_ble_eq_true rfl) ?_
  refine fE_call (g_starts μ) 2 (fun _ => rfl) ?_
  refine fE_call (g_tideIt (gS μ a) x y) 5 (fun _ => rfl) ?_
  refine fE_call (g_ch (gS μ a) hc h5 rfl sTide_t) 1 (fun _ => rfl) ?_
  exact fE_ret 1 (fun _ => rfl)
theorem sHours_t {a : Nat → Nat} {x : Int32} : ∀ t, (sHours a x).1 = .inl t → 0 < t ∧ t < 10 := by
  intro t h
  unfold sHours at h
  split at h
  · obtain ⟨v, hv⟩ := rHr_in (j := xN x) (n := 0) (a := a)
    rw [hv] at h
    cases h
  · cases h
    decide
theorem g_pass (μ : fM) {u c : Nat} {a : Nat → Nat} (O : OKA u a) (hu : u + 1 ≤ 6200) (hc : c ≤ 8) (h5 : μ.1 8 0 0 5 = nI c) (x : Int32) : sX8_pass [vR 8 0 0, vI x] (gA μ a) = some (.inl (some (vI (mVal (sHours a x).1))), gA (mE (gS μ a) c (sHours a x).1) (sHours a x).2) := by
  refine fsemV_of (Nat.le_of_ble_eq_true rfl) ?_
  refine fE_call (g_starts μ) 2 (fun _ => rfl) ?_
  refine fE_call (g_hoursIt (gS μ a) O hu x) 4 (fun _ => rfl) ?_
  refine fE_call (g_ch (gS μ a) hc h5 rfl sHours_t) 1 (fun _ => rfl) ?_
  exact fE_ret 1 (fun _ => rfl)
theorem sOrder_t {a : Nat → Nat} {x y z : Int32} : ∀ t, (sOrder a x y z).1 = .inl t → 0 < t ∧ t < 10 := by
  intro t h
  unfold sOrder at h
  (repeat' split at h) <;> cases h <;> decide
theorem g_addOrder (μ : fM) {u c : Nat} {a : Nat → Nat} (O : OKA u a) (hc : c ≤ 8) (h5 : μ.1 8 0 0 5 = nI c) (x y z : Int32) : sX8_addOrder [vR 8 0 0, vI x, vI y, vI z] (gA μ a) = some (.inl (some (vI (mVal (sOrder a x y z).1))), gA (mE (gS μ a) c (sOrder a x y z).1) (sOrder a x y z).2) := by
  refine fsemV_of (Nat.le_of_ble_eq_true rfl) ?_
  refine fE_call (g_starts μ) 2 (fun _ => rfl) ?_
  refine fE_call (g_orderIt (gS μ a) O x y z) 6 (fun _ => rfl) ?_
  refine fE_call (g_ch (gS μ a) hc h5 rfl sOrder_t) 1 (fun _ => rfl) ?_
  exact fE_ret 1 (fun _ => rfl)
theorem sDeliver_t {a : Nat → Nat} {x y : Int32} : ∀ t, (sDeliver a x y).1 = .inl t → 0 < t ∧ t < 10 := by
  intro t h
  unfold sDeliver at h
  (repeat' split at h) <;> cases h <;> decide
theorem g_deliver (μ : fM) {u c : Nat} {a : Nat → Nat} (O : OKA u a) (hc : c ≤ 8) (h5 : μ.1 8 0 0 5 = nI c) (x y : Int32) : sX8_deliver [vR 8 0 0, vI x, vI y] (gA μ a) = some (.inl (some (vI (mVal (sDeliver a x y).1))), gA (mE (gS μ a) c (sDeliver a x y).1) (sDeliver a x y).2) := by
  refine fsemV_of (Nat.le_of_ble_eq_true rfl) ?_
  refine fE_call (g_starts μ) 2 (fun _ => rfl) ?_
  refine fE_call (g_deliverIt (gS μ a) O x y) 5 (fun _ => rfl) ?_
  refine fE_call (g_ch (gS μ a) hc h5 rfl sDeliver_t) 1 (fun _ => rfl) ?_
  exact fE_ret 1 (fun _ => rfl)
theorem sLaunch_t {a : Nat → Nat} {x : Int32} : ∀ t, (sLaunch a x).1 = .inl t → 0 < t ∧ t < 10 := by
  intro t h
  unfold sLaunch at h
  (repeat' split at h) <;> cases h <;> decide
theorem mW_5 {μ : fM} {w k : Nat} (hk : k ≠ 8) : (mW μ w).1 8 0 0 k = μ.1 8 0 0 k := by
  unfold mW
  split
  · rfl
  · exact fI_ne (fun q => hk q.2.1)
theorem g_launch (μ : fM) {u c : Nat} {a : Nat → Nat} (O : OKA u a) (hc : c ≤ 8) (h5 : μ.1 8 0 0 5 = nI c) (x : Int32) : sX8_launch [vR 8 0 0, vI x] (gA μ a) = some (.inl (some (vI (mVal (sLaunch a x).1))), gA (mE (mW (gS μ a) (sWhy a x)) c (sLaunch a x).1) (sLaunch a x).2) := by
  refine fsemV_of (Nat.le_of_ble_eq_true rfl) ?_
  refine fE_call (g_starts μ) 2 (fun _ => rfl) ?_
  refine fE_call (g_launchIt (gS μ a) O x) 4 (fun _ => rfl) ?_
  refine fE_call (g_ch (mW (gS μ a) (sWhy a x)) hc ((mW_5 (by decide)).trans h5) (mW_5 (by decide)) sLaunch_t) 1 (fun _ => rfl) ?_
  exact fE_ret 1 (fun _ => rfl)
def sSlip (a : Nat → Nat) (x y : Int32) : qR × (Nat → Nat) := if inR x 0 3 ∧ inR y 0 8 then (.inr (nI (aS a (xN x))), up a (17 + xN x) (xN y)) else (.inl 1, a)
theorem g_setSlip (μ : fM) {c : Nat} {a : Nat → Nat} (hc : c ≤ 8) (h5 : μ.1 8 0 0 5 = nI c) (x y : Int32) : sX8_setSlip [vR 8 0 0, vI x, vI y] (gA μ a) = some (.inl (some (vI (mVal (sSlip a x y).1))), gA (mE (gS μ a) c (sSlip a x y).1) (sSlip a x y).2) := by
  refine fsemV_of (Nat.le_of_ble_eq_true rfl) ?_
  unfold sSlip
  refine fE_call (g_starts μ) 2 (fun _ => rfl) ?_
  refine fE_call (m_inL x 0 3 (gA (gS μ a) a) (by decide) (by decide)) 5 (fun _ => rfl) ?_
  refine fE_ite 1 (fun _ => rfl) (fun p => ?_) (fun p => ?_)
  · skip
    have p := bI_0.mp p
    refine fE_call (g_throwing (gS μ a) a 1) 3 (fun _ => rfl) ?_
    refine fE_ret2 1 (fun _ => rfl) ?_
    rw [if_neg (fun q => p q.1)]
    rfl
  · skip
    have p := bI_n.mp p
    refine fE_step (y := fun zz => frun _ _ zz 16 [kR 8 0 0, kX x, kX y, none] [] _ 0 0) 0 (fun _ => rfl) ?_
    refine fE_call (m_inL y 0 8 (gA (gS μ a) a) (by decide) (by decide)) 5 (fun _ => rfl) ?_
    refine fE_ite 1 (fun _ => rfl) (fun d => ?_) (fun d => ?_)
    · skip
      have d := bI_0.mp d
      refine fE_call (g_throwing (gS μ a) a 1) 3 (fun _ => rfl) ?_
      refine fE_ret2 1 (fun _ => rfl) ?_
      rw [if_neg (fun q => d q.2)]
      rfl
    · skip
      have d := bI_n.mp d
      obtain ⟨X, hX1, hX2, rfl⟩ := inR_of (lo := 0) (hi := 3) (by omega) (by omega) p
      obtain ⟨Y, hY1, hY2, rfl⟩ := inR_of (lo := 0) (hi := 8) (by omega) (by omega) d
      rw [if_pos ⟨p, d⟩, xN, xN, nI_clamp (by omega), nI_clamp (by omega)]
      refine fE_step (y := fun zz => frun _ _ zz 34 [kR 8 0 0, kN X, kN Y, none] [] _ 0 0) 0 (fun _ => rfl) ?_
      refine fE_pos (by refine g_in (k := 17 + X) ?_ (show 17 + X < 213 from by omega) (by decide); show (17 : Int32) + nI X = _; rw [fLit, nI_add]) 6 (fun _ => rfl) ?_
      refine fE_pos (by refine g_in (k := 17 + X) ?_ (show 17 + X < 213 from by omega) (by decide); show (17 : Int32) + nI X = _; rw [fLit, nI_add]) 8 (fun _ => rfl) ?_
      refine fE_step (y := fun zz => frun _ _ zz 54 [kR 8 0 0, kN X, kN Y, kX ((gA (gS μ a) a).1 30 0 0 ((17 : Int32) + nI X).toNatClampNeg)] [] (fI (gA (gS μ a) a) 30 0 0 ((17 : Int32) + nI X).toNatClampNeg (nI Y)) 0 0) 0 (fun _ => rfl) ?_
      rw [show ((17 : Int32) + nI X).toNatClampNeg = 17 + X from by rw [fLit, nI_add, nI_clamp (by omega)], gA_set (by omega), gA_at' (by omega)]
      refine fE_call (g_changed (gS μ a) (a := up a (17 + X) Y) (t := nI (a (17 + X))) hc h5 rfl) 3 (fun _ => rfl) ?_
      exact fE_ret 1 (fun _ => rfl)
