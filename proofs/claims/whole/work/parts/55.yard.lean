/-! THE CLASS'S YARDS: yard y stands for a -/
def YR (μ : fM) (y : Nat) (a : Nat → Nat) : Prop :=
  (∀ h, h < 6 → HV μ y h a h) ∧ (∀ k, k < 12 → μ.1 14 y 0 k = nI (aT a k)) ∧ (∀ k, k < 4 → μ.1 15 y 0 k = nI (aS a k)) ∧ μ.1 6 y 0 4 = nI (a 0) ∧ μ.1 6 y 0 5 = nI (a 1) ∧ μ.2.1 6 y 0 6 = (nI (a 4)).toInt64 ∧ μ.1 2 y 0 5 = nI (a 2) ∧ μ.1 2 y 0 6 = nI (a 3) ∧ (∀ k, k < a 2 → μ.1 16 y 0 k = nI (oI a k)) ∧ (∀ k, k < a 2 → μ.1 17 y 0 k = nI (oF a k)) ∧ (∀ k, k < a 2 → μ.1 18 y 0 k = nI (oH a k)) ∧ (∀ k, k < a 2 → μ.1 19 y 0 k = nI (oC a k))
theorem YR.hv {μ : fM} {y : Nat} {a : Nat → Nat} (Y : YR μ y a) {h : Nat} (hh : h < 6) : HV μ y h a h := Y.1 h hh
theorem YR.tide {μ : fM} {y : Nat} {a : Nat → Nat} (Y : YR μ y a) {k : Nat} (hk : k < 12) : μ.1 14 y 0 k = nI (aT a k) := Y.2.1 k hk
theorem YR.slip {μ : fM} {y : Nat} {a : Nat → Nat} (Y : YR μ y a) {k : Nat} (hk : k < 4) : μ.1 15 y 0 k = nI (aS a k) := Y.2.2.1 k hk
theorem YR.begun {μ : fM} {y : Nat} {a : Nat → Nat} (Y : YR μ y a) : μ.1 6 y 0 4 = nI (a 0) := Y.2.2.2.1
theorem YR.now {μ : fM} {y : Nat} {a : Nat → Nat} (Y : YR μ y a) : μ.1 6 y 0 5 = nI (a 1) := Y.2.2.2.2.1
theorem YR.paid {μ : fM} {y : Nat} {a : Nat → Nat} (Y : YR μ y a) : μ.2.1 6 y 0 6 = (nI (a 4)).toInt64 := Y.2.2.2.2.2.1
theorem YR.count {μ : fM} {y : Nat} {a : Nat → Nat} (Y : YR μ y a) : μ.1 2 y 0 5 = nI (a 2) := Y.2.2.2.2.2.2.1
theorem YR.next {μ : fM} {y : Nat} {a : Nat → Nat} (Y : YR μ y a) : μ.1 2 y 0 6 = nI (a 3) := Y.2.2.2.2.2.2.2.1
theorem YR.id {μ : fM} {y : Nat} {a : Nat → Nat} (Y : YR μ y a) {k : Nat} (hk : k < a 2) : μ.1 16 y 0 k = nI (oI a k) := Y.2.2.2.2.2.2.2.2.1 k hk
theorem YR.fr {μ : fM} {y : Nat} {a : Nat → Nat} (Y : YR μ y a) {k : Nat} (hk : k < a 2) : μ.1 17 y 0 k = nI (oF a k) := Y.2.2.2.2.2.2.2.2.2.1 k hk
theorem YR.hr {μ : fM} {y : Nat} {a : Nat → Nat} (Y : YR μ y a) {k : Nat} (hk : k < a 2) : μ.1 18 y 0 k = nI (oH a k) := Y.2.2.2.2.2.2.2.2.2.2.1 k hk
theorem YR.co {μ : fM} {y : Nat} {a : Nat → Nat} (Y : YR μ y a) {k : Nat} (hk : k < a 2) : μ.1 19 y 0 k = nI (oC a k) := Y.2.2.2.2.2.2.2.2.2.2.2 k hk
/-- what the class answers where the model answers q: e turns the model's number of a fault into the number of an exception -/
def cRes (e : Nat → Nat) (μ : fM) : qR → fR
  | .inl t => (.inr (e t), μ)
  | .inr v => (.inl (some (vI v)), μ)
theorem c_hasHull {μ : fM} {y : Nat} {a : Nat → Nat} (Y : YR μ y a) (x : Int32) : sX6_hasHull [vR 6 y 0, vI x] μ = some (.inl (some (vI (bI (okH a x)))), μ) := by
  have hb := Y.begun
  refine fsemV_of (Nat.le_of_ble_eq_true rfl) ?_
  refine fE_ite 2 (fun _ => rfl) (fun q => ?_) (fun q => ?_)
  · skip
    refine fE_ret2 2 (fun _ => rfl) ?_
    rw [bI_f (fun p => absurd p.1 (Int32.not_le.mpr q))]
    rfl
  · skip
    refine fE_ite 4 (fun _ => rfl) (fun r => ?_) (fun r => ?_)
    · skip
      change μ.1 6 y 0 4 ≤ x at r
      rw [hb] at r
      refine fE_ret2 2 (fun _ => rfl) ?_
      rw [bI_f (fun p => absurd p.2 (Int32.not_lt.mpr r))]
      rfl
    · skip
      change ¬ μ.1 6 y 0 4 ≤ x at r
      rw [hb] at r
      refine fE_ret2 3 (fun _ => rfl) ?_
      rw [bI_t ⟨Int32.not_lt.mp q, Int32.not_le.mp r⟩]
      rfl
theorem c_known {μ : fM} {a : Nat → Nat} {h : Nat} (Y : YR μ 0 a) (h6 : a 0 ≤ 6) (hh : h < a 0) : sX7_knownHull [vR 7 0 0, vI (nI h)] μ = some (.inl (some (vR 1 0 h)), μ) := by
  have ho : okH a (nI h) := ⟨by rw [fLit]; exact nI_le (by omega) (by omega), nI_lt hh (by omega)⟩
  refine fsemV_of (Nat.le_of_ble_eq_true rfl) ?_
  refine fE_call (c_hasHull Y (nI h)) 4 (fun _ => rfl) ?_
  refine fE_neg (fun p => bI_0.mp p ho) 1 (fun _ => rfl) ?_
  refine fE_pos (by refine g_in (k := h) ?_ (show h < 6 from by omega) (show 6 < 2 ^ 31 from by decide); first | rfl | (simp (disch := omega) only [fLit, nI_add, pk_mul, pk_rem, pk_sub, nI_clamp]; done)) 5 (fun _ => rfl) ?_
  refine fE_ret2 1 (fun _ => rfl) ?_
  show (Sum.inl (some (vR 1 0 (nI h).toNatClampNeg)), μ) = _
  rw [nI_clamp (by omega)]
theorem c_known0 {μ : fM} {a : Nat → Nat} {x : Int32} (Y : YR μ 0 a) (hx : ¬ okH a x) : sX7_knownHull [vR 7 0 0, vI x] μ = some (.inr 0, μ) := by
  refine fsemV_of (Nat.le_of_ble_eq_true rfl) ?_
  refine fE_call (c_hasHull Y x) 4 (fun _ => rfl) ?_
  refine fE_pos (bI_0.mpr hx) 1 (fun _ => rfl) ?_
  exact fE_ret 1 (fun _ => rfl)
/-- the exceptions of calls that know only one fault of the hull -/
def e0 (_ : Nat) : Nat := 0
theorem k_stateOf {μ : fM} {u : Nat} {a : Nat → Nat} (Y : YR μ 0 a) (O : OKA u a) (x : Int32) : sX7_stateOf [vR 7 0 0, vI x] μ = some (cRes e0 μ (qOf 0 a x)) := by
  have h6 := O.hulls
  refine fsemV_of (Nat.le_of_ble_eq_true rfl) ?_
  unfold qOf
  by_cases q : okH a x
  · rw [if_pos q]
    obtain ⟨h, hh, rfl⟩ := nI_ix (by omega) q.1 q.2
    rw [xN, nI_clamp (by omega)]
    refine fE_call (c_known Y h6 hh) 3 (fun _ => rfl) ?_
    refine fE_ret2 2 (fun _ => rfl) ?_
    show (Sum.inl (some (vI (μ.1 1 0 h 4))), μ) = _
    rw [(Y.hv (h := h) (by omega)).2.1]
    rfl
  · rw [if_neg q]
    refine fE_call (c_known0 Y q) 3 (fun _ => rfl) ?_
    exact fE_ret 0 (fun _ => rfl)
