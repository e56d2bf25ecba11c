/-! INTS THAT ARE SMALL NUMBERS -/
theorem fLit (n : Nat) : (OfNat.ofNat n : Int32) = nI (OfNat.ofNat n) := rfl
def bI (p : Prop) [Decidable p] : Int32 := if p then 1 else 0
theorem bI_0 {p : Prop} [Decidable p] : bI p = 0 ↔ ¬ p := by
  unfold bI
  split <;> simp_all
theorem bI_n {p : Prop} [Decidable p] : ¬ bI p = 0 ↔ p := by
  unfold bI
  split <;> simp_all
theorem bI_b {p : Prop} [Decidable p] : fnar 1 (bI p) = bI p := by
  unfold bI
  split <;> rfl
theorem bI_and {p : Prop} [Decidable p] : bI p &&& 1 = bI p := by
  unfold bI
  split <;> rfl
theorem bI_t {p : Prop} [Decidable p] (h : p) : bI p = 1 := if_pos h
theorem bI_f {p : Prop} [Decidable p] (h : ¬ p) : bI p = 0 := if_neg h
theorem g_in {i : Int32} {n k : Nat} (e : i = nI k) (h : k < n) (hn : n < 2 ^ 31) : ¬ (i < 0 ∨ n ≤ i.toNatClampNeg) := by
  rw [e]
  exact nI_in h hn
/-- an index that was looked at -/
theorem nI_ix {x : Int32} {n : Nat} (hn : n < 2 ^ 31) (h0 : 0 ≤ x) (h1 : x < nI n) : ∃ k, k < n ∧ x = nI k := by
  obtain ⟨j, hj, rfl⟩ := nI_of (Int32.not_lt.mpr h0)
  exact ⟨j, (nI_ltI hj hn).mp h1, rfl⟩
theorem i2l_le {x y : Int32} : x.toInt64 ≤ y.toInt64 ↔ x ≤ y := by
  rw [Int64.le_iff_toInt_le, Int32.le_iff_toInt_le, Int32.toInt_toInt64, Int32.toInt_toInt64]
theorem lit_l {n : Nat} (h : n < 2 ^ 31) : Int64.ofNat n = (nI n).toInt64 := (nI_l h).symm
/-! JDK: max, min -/
theorem j_max (x y : Int32) (μ : fM) : sJ9_max_7cf53 [vI x, vI y] μ = some (.inl (some (vI (if x < y then y else x))), μ) := by
  refine fsem_of (Nat.le_of_ble_eq_true rfl) ?_
  refine fE_ite 3 (fun _ => rfl) (fun h => ?_) (fun h => ?_)
  · skip
    refine fE_ret2 2 (fun _ => rfl) ?_
    rw [if_pos h]; rfl
  · skip
    refine fE_ret2 3 (fun _ => rfl) ?_
    rw [if_neg h]; rfl
theorem j_min (x y : Int32) (μ : fM) : sJ9_min_7cf53 [vI x, vI y] μ = some (.inl (some (vI (if x ≤ y then x else y))), μ) := by
  refine fsem_of (Nat.le_of_ble_eq_true rfl) ?_
  refine fE_ite 3 (fun _ => rfl) (fun h => ?_) (fun h => ?_)
  · skip
    refine fE_ret2 2 (fun _ => rfl) ?_
    rw [if_neg (Int32.not_le.mpr h)]; rfl
  · skip
    refine fE_ret2 3 (fun _ => rfl) ?_
    rw [if_pos (Int32.not_lt.mp h)]; rfl
/-! THE MODEL'S LEAVES -/
abbrev mA (μ : fM) (k : Nat) : Int32 := μ.1 30 0 0 k
theorem m_in (x lo hi : Int64) (μ : fM) : sX8_in [vL x, vL lo, vL hi] μ = some (.inl (some (vI (bI (lo ≤ x ∧ x ≤ hi)))), μ) := by
  refine fsem_of (Nat.le_of_ble_eq_true rfl) ?_
  refine fE_ite 4 (fun _ => rfl) (fun h => ?_) (fun h => ?_)
  · skip
    refine fE_ret2 2 (fun _ => rfl) ?_
    have : ¬ lo ≤ x := fun q => absurd ((lg_cmp_ge x lo).mpr q) (Int32.not_le.mpr h)
    rw [bI_f (fun q => this q.1)]; rfl
  · skip
    have h1 : lo ≤ x := (lg_cmp_ge x lo).mp (Int32.not_lt.mp h)
    refine fE_ite 4 (fun _ => rfl) (fun g => ?_) (fun g => ?_)
    · skip
      refine fE_ret2 2 (fun _ => rfl) ?_
      have : ¬ x ≤ hi := fun q => absurd ((lg_cmp_le x hi).mpr q) (Int32.not_le.mpr g)
      rw [bI_f (fun q => this q.2)]; rfl
    · skip
      refine fE_ret2 3 (fun _ => rfl) ?_
      have : x ≤ hi := (lg_cmp_le x hi).mp (Int32.not_lt.mp g)
      rw [bI_t ⟨h1, this⟩]; rfl
theorem m_inI (x lo hi : Int32) (μ : fM) : sX8_in [vL x.toInt64, vL lo.toInt64, vL hi.toInt64] μ = some (.inl (some (vI (bI (lo ≤ x ∧ x ≤ hi)))), μ) := by
  rw [m_in]
  simp only [i2l_le]
theorem m_inL (x : Int32) (a b : Nat) (μ : fM) (ha : a < 2 ^ 31) (hb : b < 2 ^ 31) : sX8_in [vL x.toInt64, vL (Int64.ofNat a), vL (Int64.ofNat b)] μ = some (.inl (some (vI (bI (nI a ≤ x ∧ x ≤ nI b)))), μ) := by
  rw [lit_l ha, lit_l hb, m_inI]
theorem m_hullAt (x : Int32) (μ : fM) : sX8_hullAt [vI x] μ = some (.inl (some (vI (21 + 28 * x))), μ) := by
  refine fsem_of (Nat.le_of_ble_eq_true rfl) ?_
  exact fE_ret 6 (fun _ => rfl)
theorem m_isHull {μ : fM} {B : Nat} (x : Int32) (hB : mA μ 0 = nI B) (hB6 : B ≤ 6) : sX8_isHull [vR 8 0 0, vI x] μ = some (.inl (some (vI (bI (0 ≤ x ∧ x < nI B)))), μ) := by
  refine fsemV_of (Nat.le_of_ble_eq_true rfl) ?_
  refine fE_call (m_inI x 0 (μ.1 30 0 0 0 - 1) μ) 11 (fun _ => rfl) ?_
  refine fE_ret2 1 (fun _ => rfl) ?_
  have e : (0 ≤ x ∧ x ≤ μ.1 30 0 0 0 - 1) ↔ (0 ≤ x ∧ x < nI B) := by
    rw [show μ.1 30 0 0 0 = nI B from hB]
    refine and_congr_right fun h0 => ?_
    show x ≤ nI B - nI 1 ↔ _
    rw [Int32.le_iff_toInt_le, Int32.lt_iff_toInt_lt, pk_sub_toInt (a := B) (b := 1) (by omega) (by omega), nI_toInt (by omega)]
    omega
  show (Sum.inl (some (vI (fnar 1 (bI _)))), μ) = _
  rw [bI_b]
  simp only [e]
theorem m_state {μ : fM} {h : Nat} (hh : h < 6) : sX8_state [vR 8 0 0, vI (nI h)] μ = some (.inl (some (vI (mA μ (21 + 28 * h)))), μ) := by
  refine fsemV_of (Nat.le_of_ble_eq_true rfl) ?_
  refine fE_call (m_hullAt (nI h) μ) 4 (fun _ => rfl) ?_
  refine fE_pos (by refine g_in (k := 21 + 28 * h) ?_ (show 21 + 28 * h < 213 from by omega) (show 213 < 2 ^ 31 from by decide); first | rfl | (simp (disch := omega) only [fLit, nI_add, pk_mul, pk_sub, nI_clamp]; done)) 1 (fun _ => rfl) ?_
  refine fE_ret2 1 (fun _ => rfl) ?_
  simp (disch := omega) only [fLit, nI_add, pk_mul, nI_clamp]; rfl
theorem m_frames {μ : fM} {h : Nat} (hh : h < 6) : sX8_frames [vR 8 0 0, vI (nI h)] μ = some (.inl (some (vI (mA μ (21 + 28 * h + 1)))), μ) := by
  refine fsemV_of (Nat.le_of_ble_eq_true rfl) ?_
  refine fE_call (m_hullAt (nI h) μ) 4 (fun _ => rfl) ?_
  refine fE_pos (by refine g_in (k := 21 + 28 * h + 1) ?_ (show 21 + 28 * h + 1 < 213 from by omega) (show 213 < 2 ^ 31 from by decide); first | rfl | (simp (disch := omega) only [fLit, nI_add, pk_mul, pk_sub, nI_clamp]; done)) 3 (fun _ => rfl) ?_
  refine fE_ret2 1 (fun _ => rfl) ?_
  simp (disch := omega) only [fLit, nI_add, pk_mul, nI_clamp]; rfl
theorem m_width {μ : fM} {h f s : Nat} (hh : h < 6) (hf : f < 8) (hs : s < 2) : sX8_width [vR 8 0 0, vI (nI h), vI (nI f), vI (nI s)] μ = some (.inl (some (vI (mA μ (21 + 28 * h + 4 + 2 * f + s)))), μ) := by
  refine fsemV_of (Nat.le_of_ble_eq_true rfl) ?_
  refine fE_call (m_hullAt (nI h) μ) 4 (fun _ => rfl) ?_
  refine fE_pos (by refine g_in (k := 21 + 28 * h + 4 + 2 * f + s) ?_ (show 21 + 28 * h + 4 + 2 * f + s < 213 from by omega) (show 213 < 2 ^ 31 from by decide); first | rfl | (simp (disch := omega) only [fLit, nI_add, pk_mul, pk_sub, nI_clamp]; done)) 9 (fun _ => rfl) ?_
  refine fE_ret2 1 (fun _ => rfl) ?_
  simp (disch := omega) only [fLit, nI_add, pk_mul, nI_clamp]; rfl
theorem m_seams {μ : fM} {h F : Nat} (hh : h < 6) (hF : mA μ (21 + 28 * h + 1) = nI F) (hF8 : F ≤ 8) : sX8_seams [vR 8 0 0, vI (nI h)] μ = some (.inl (some (vI (nI (F - 1)))), μ) := by
  refine fsemV_of (Nat.le_of_ble_eq_true rfl) ?_
  refine fE_call (m_frames hh) 4 (fun _ => rfl) ?_
  refine fE_call (j_max 0 (mA μ (21 + 28 * h + 1) - 1) μ) 3 (fun _ => rfl) ?_
  refine fE_ret2 1 (fun _ => rfl) ?_
  rw [hF]
  match F, hF8 with
  | 0, _ => rfl
  | F + 1, h8 =>
    rw [nI_pred]
    show (Sum.inl (some (vI (fnar 0 (if (0 : Int32) < nI F then nI F else 0)))), μ) = _
    split
    · rfl
    · rename_i hn
      match F, hn with
      | 0, _ => rfl
      | F + 1, hn => exact absurd (nI_lt (a := 0) (b := F + 1) (by omega) (by omega)) hn
