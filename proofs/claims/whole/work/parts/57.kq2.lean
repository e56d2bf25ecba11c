theorem c_hasSeam {μ : fM} {y h g : Nat} {a : Nat → Nat} (H : HV μ y h a g) (B : HB a g) (x : Int32) : sX1_hasSeam [vR 1 y h, vI x] μ = some (.inl (some (vI (bI (0 ≤ x ∧ x < nI (hF a g - 1))))), μ) := by
  have hf := H.1
  have h8 := B.1
  refine fsemV_of (Nat.le_of_ble_eq_true rfl) ?_
  refine fE_ite 2 (fun _ => rfl) (fun q => ?_) (fun q => ?_)
  · skip
    refine fE_ret2 2 (fun _ => rfl) ?_
    rw [bI_f (fun p => absurd p.1 (Int32.not_le.mpr q))]
    rfl
  · skip
    have q := Int32.not_lt.mp q
    obtain ⟨k, hk, rfl⟩ := nI_of (x := x) (fun p => absurd q (Int32.not_le.mpr p))
    refine fE_ite 6 (fun _ => rfl) (fun r => ?_) (fun r => ?_)
    · skip
      change μ.1 1 y h 3 - 1 ≤ nI k at r
      rw [hf] at r
      have r : ¬ nI k < nI (hF a g - 1) := fun p => by
        have p := (nI_ltI hk (by omega)).mp p
        rw [ge_pred (by omega) (by omega)] at r
        omega
      refine fE_ret2 2 (fun _ => rfl) ?_
      rw [bI_f (fun p => r p.2)]
      rfl
    · skip
      change ¬ μ.1 1 y h 3 - 1 ≤ nI k at r
      rw [hf] at r
      have r : nI k < nI (hF a g - 1) := by
        by_cases l : k < hF a g - 1
        · exact nI_lt l (by omega)
        · refine absurd ?_ r
          show nI (hF a g) - nI 1 ≤ nI k
          rw [Int32.le_iff_toInt_le, pk_sub_toInt (a := hF a g) (b := 1) (by omega) (by omega), nI_toInt hk]
          omega
      refine fE_ret2 3 (fun _ => rfl) ?_
      rw [bI_t ⟨q, r⟩]
      rfl
theorem k_widthOf {μ : fM} {u : Nat} {a : Nat → Nat} (Y : YR μ 0 a) (O : OKA u a) (x y s : Int32) : sX7_widthOf [vR 7 0 0, vI x, vI y, vI s] μ = some (cRes e0 μ (qWidth a x y s)) := by
  have h6 := O.hulls
  refine fsemV_of (Nat.le_of_ble_eq_true rfl) ?_
  unfold qWidth
  by_cases q : okH a x
  · obtain ⟨h, hh, rfl⟩ := nI_ix (by omega) q.1 q.2
    have hx : xN (nI h) = h := nI_clamp (by omega)
    have H := Y.hv (h := h) (by omega)
    have hf := H.1
    have h8 := O.fr h (by omega)
    rw [hx]
    refine fE_call (c_known Y h6 hh) 3 (fun _ => rfl) ?_
    refine fE_step (y := fun zz => frun _ _ zz 7 [kR 7 0 0, kN h, kX y, kX s, kR 1 0 h] [] _ 1 6) 1 (fun _ => rfl) ?_
    refine fE_ite 2 (fun _ => rfl) (fun r => ?_) (fun r => ?_)
    · skip
      rw [if_neg (fun p => absurd p.2.1 (Int32.not_le.mpr r))]
      exact fE_ret 1 (fun _ => rfl)
    · skip
      have r := Int32.not_lt.mp r
      refine fE_ite 4 (fun _ => rfl) (fun t => ?_) (fun t => ?_)
      · skip
        change y < μ.1 1 0 h 3 at t
        rw [hf] at t
        rw [if_pos ⟨q, r, t⟩]
        obtain ⟨k, hk, rfl⟩ := nI_ix (by omega) r t
        refine fE_ite 2 (fun _ => rfl) (fun v => ?_) (fun v => ?_)
        · skip
          refine fE_pos (by refine g_in (k := k) ?_ (show k < 8 from by omega) (show 8 < 2 ^ 31 from by decide); first | rfl | (simp (disch := omega) only [fLit, nI_add, pk_mul, pk_rem, pk_sub, nI_clamp]; done)) 4 (fun _ => rfl) ?_
          refine fE_ret2 1 (fun _ => rfl) ?_
          show (Sum.inl (some (vI (μ.1 11 0 h (nI k).toNatClampNeg))), μ) = _
          rw [if_pos v, nI_clamp (by omega), xN, nI_clamp (by omega), H.2.2.2.2.2.1 k (by omega)]
          rfl
        · skip
          refine fE_pos (by refine g_in (k := k) ?_ (show k < 8 from by omega) (show 8 < 2 ^ 31 from by decide); first | rfl | (simp (disch := omega) only [fLit, nI_add, pk_mul, pk_rem, pk_sub, nI_clamp]; done)) 4 (fun _ => rfl) ?_
          refine fE_ret2 2 (fun _ => rfl) ?_
          show (Sum.inl (some (vI (μ.1 10 0 h (nI k).toNatClampNeg))), μ) = _
          rw [if_neg v, nI_clamp (by omega), xN, nI_clamp (by omega), H.2.2.2.2.1 k (by omega)]
          rfl
      · skip
        change ¬ y < μ.1 1 0 h 3 at t
        rw [hf] at t
        rw [if_neg (fun p => t p.2.2)]
        exact fE_ret 1 (fun _ => rfl)
  · rw [if_neg (fun p => q p.1)]
    refine fE_call (c_known0 Y q) 3 (fun _ => rfl) ?_
    exact fE_ret 0 (fun _ => rfl)
theorem k_caulkingOf {μ : fM} {u : Nat} {a : Nat → Nat} (Y : YR μ 0 a) (O : OKA u a) (x y : Int32) : sX7_caulkingOf [vR 7 0 0, vI x, vI y] μ = some (cRes e0 μ (qCaulk a x y)) := by
  have h6 := O.hulls
  refine fsemV_of (Nat.le_of_ble_eq_true rfl) ?_
  unfold qCaulk
  by_cases q : okH a x
  · obtain ⟨h, hh, rfl⟩ := nI_ix (by omega) q.1 q.2
    have hx : xN (nI h) = h := nI_clamp (by omega)
    have H := Y.hv (h := h) (by omega)
    have h8 := O.fr h (by omega)
    rw [hx]
    refine fE_call (c_known Y h6 hh) 3 (fun _ => rfl) ?_
    refine fE_step (y := fun zz => frun _ _ zz 6 [kR 7 0 0, kN h, kX y, kR 1 0 h] [] _ 1 6) 1 (fun _ => rfl) ?_
    refine fE_call (c_hasSeam H (O.hb (by omega)) y) 3 (fun _ => rfl) ?_
    refine fE_ite 1 (fun _ => rfl) (fun r => ?_) (fun r => ?_)
    · skip
      have r := bI_0.mp r
      rw [if_neg (fun p => r p.2)]
      exact fE_ret 1 (fun _ => rfl)
    · skip
      have r := bI_n.mp r
      rw [if_pos ⟨q, r⟩]
      obtain ⟨k, hk, rfl⟩ := nI_ix (by omega) r.1 r.2
      refine fE_pos (by refine g_in (k := k) ?_ (show k < 8 from by omega) (show 8 < 2 ^ 31 from by decide); first | rfl | (simp (disch := omega) only [fLit, nI_add, pk_mul, pk_rem, pk_sub, nI_clamp]; done)) 4 (fun _ => rfl) ?_
      refine fE_ret2 1 (fun _ => rfl) ?_
      show (Sum.inl (some (vI (μ.1 12 0 h (nI k).toNatClampNeg))), μ) = _
      rw [nI_clamp (by omega), xN, nI_clamp (by omega), H.2.2.2.2.2.2 k (by omega), if_pos (by omega)]
      rfl
  · rw [if_neg (fun p => q p.1)]
    refine fE_call (c_known0 Y q) 3 (fun _ => rfl) ?_
    exact fE_ret 0 (fun _ => rfl)
theorem k_orderAt {μ : fM} {u : Nat} {a : Nat → Nat} (Y : YR μ 0 a) (O : OKA u a) (x : Int32) : sX7_orderAt [vR 7 0 0, vI x] μ = some (cRes e0 μ (qOrderAt a x)) := by
  have h6 := O.ords
  have hc := Y.count
  refine fsemV_of (Nat.le_of_ble_eq_true rfl) ?_
  unfold qOrderAt
  refine fE_ite 2 (fun _ => rfl) (fun q => ?_) (fun q => ?_)
  · skip
    rw [if_neg (fun p => absurd p.1 (Int32.not_le.mpr q))]
    exact fE_ret 1 (fun _ => rfl)
  · skip
    have q := Int32.not_lt.mp q
    refine fE_ite 6 (fun _ => rfl) (fun r => ?_) (fun r => ?_)
    · skip
      change x < μ.1 2 0 0 5 at r
      rw [hc] at r
      rw [if_pos ⟨q, r⟩]
      obtain ⟨k, hk, rfl⟩ := nI_ix (by omega) q r
      refine fE_pos (by refine g_in (k := k) ?_ (show k < 6 from by omega) (show 6 < 2 ^ 31 from by decide); first | rfl | (simp (disch := omega) only [fLit, nI_add, pk_mul, pk_rem, pk_sub, nI_clamp]; done)) 6 (fun _ => rfl) ?_
      refine fE_ret2 1 (fun _ => rfl) ?_
      show (Sum.inl (some (vI (μ.1 16 0 0 (nI k).toNatClampNeg))), μ) = _
      rw [nI_clamp (by omega), xN, nI_clamp (by omega), Y.id hk]
      rfl
    · skip
      change ¬ x < μ.1 2 0 0 5 at r
      rw [hc] at r
      rw [if_neg (fun p => r p.2)]
      exact fE_ret 1 (fun _ => rfl)
theorem c_pos_1 {μ : fM} {y u : Nat} {a : Nat → Nat} (Y : YR μ y a) (O : OKA u a) {x : Int32} : ∀ j k, k + j = a 2 → fEnds (fun zz => frun eX2_positionOf tX2_positionOf zz 2 [kR 2 y 0, kX x, kN k] [] μ 0 0) (.inl (some (vI (dF (a 2) (nF (fun k => nI (oI a k) = x) k j)))), μ)
  | 0, k, e => by
    have h6 := O.ords
    have hc := Y.count
    refine fE_pos (by show μ.1 2 y 0 5 ≤ nI k; rw [hc]; exact nI_le (by omega) (by omega)) 4 (fun _ => rfl) ?_
    refine fE_ret2 2 (fun _ => rfl) ?_
    rw [nF, dF, if_pos (by omega)]
    rfl
  | j + 1, k, e => by
    have h6 := O.ords
    have hc := Y.count
    refine fE_neg (fun p => by change μ.1 2 y 0 5 ≤ nI k at p; rw [hc] at p; exact absurd ((nI_leI (by omega) (by omega)).mp p) (by omega)) 4 (fun _ => rfl) ?_
    refine fE_pos (by refine g_in (k := k) ?_ (show k < 6 from by omega) (show 6 < 2 ^ 31 from by decide); first | rfl | (simp (disch := omega) only [fLit, nI_add, pk_mul, pk_rem, pk_sub, nI_clamp]; done)) 4 (fun _ => rfl) ?_
    refine fE_ite 2 (fun _ => rfl) (fun q => ?_) (fun q => ?_)
    · skip
      change μ.1 16 y 0 (nI k).toNatClampNeg = x at q
      rw [nI_clamp (by omega), Y.id (by omega)] at q
      refine fE_ret2 2 (fun _ => rfl) ?_
      rw [nF, if_pos q, dF, if_neg (by omega)]
      rfl
    · skip
      change ¬ μ.1 16 y 0 (nI k).toNatClampNeg = x at q
      rw [nI_clamp (by omega), Y.id (by omega)] at q
      refine fE_step (y := fun zz => frun _ _ zz 2 [kR 2 y 0, kX x, kX (nI k + 1)] [] _ 0 0) 2 (fun _ => rfl) ?_
      rw [nI_1, nF, if_neg q]
      exact c_pos_1 Y O j (k + 1) (by omega)
theorem c_pos {μ : fM} {y u : Nat} {a : Nat → Nat} (Y : YR μ y a) (O : OKA u a) (x : Int32) : sX2_positionOf [vR 2 y 0, vI x] μ = some (.inl (some (vI (dF (a 2) (oP a x)))), μ) := by
  refine fsemV_of (Nat.le_of_ble_eq_true rfl) ?_
  refine fE_step (y := fun zz => frun _ _ zz 2 [kR 2 y 0, kX x, kN 0] [] _ 0 0) 2 (fun _ => rfl) ?_
  exact c_pos_1 Y O (a 2) 0 (by omega)
theorem c_due {μ : fM} {y u k : Nat} {a : Nat → Nat} (Y : YR μ y a) (O : OKA u a) (hk : k < a 2) : sX2_coinsDue [vR 2 y 0, vI (nI k), vI (nI (a 1))] μ = some (.inl (some (vI (nI (oD a k)))), μ) := by
  have h6 := O.ords
  have h1 := O.hour
  have h2 := O.u6
  have h3 := O.oh k (by omega)
  have h4 := O.oc k (by omega)
  have eh := Y.hr hk
  have ec := Y.co hk
  refine fsemV_of (Nat.le_of_ble_eq_true rfl) ?_
  refine fE_pos (by refine g_in (k := k) ?_ (show k < 6 from by omega) (show 6 < 2 ^ 31 from by decide); first | rfl | (simp (disch := omega) only [fLit, nI_add, pk_mul, pk_rem, pk_sub, nI_clamp]; done)) 6 (fun _ => rfl) ?_
  simp (disch := omega) only [fLit, nI_add, pk_mul, pk_rem, nI_clamp, beq01, beq11, cond_false, cond_true, eh]
  refine fE_call (j_max 0 (nI (a 1) - nI (oH a k)) μ) 2 (fun _ => rfl) ?_
  rw [mx0 (by omega) (by omega)]
  refine fE_pos (by refine g_in (k := k) ?_ (show k < 6 from by omega) (show 6 < 2 ^ 31 from by decide); first | rfl | (simp (disch := omega) only [fLit, nI_add, pk_mul, pk_rem, pk_sub, nI_clamp]; done)) 6 (fun _ => rfl) ?_
  simp (disch := omega) only [fLit, nI_add, pk_mul, pk_rem, nI_clamp, beq01, beq11, cond_false, cond_true, ec]
  refine fE_call (j_max 0 (nI (oC a k) - nI (a 1 - oH a k)) μ) 3 (fun _ => rfl) ?_
  rw [mx0 (by omega) (by omega)]
  exact fE_ret 1 (fun _ => rfl)
/-- no such order -/
def eO (_ : Nat) : Nat := 4
theorem k_coinsFor {μ : fM} {u : Nat} {a : Nat → Nat} (Y : YR μ 0 a) (O : OKA u a) (x : Int32) : sX7_coinsFor [vR 7 0 0, vI x] μ = some (cRes eO μ (qCoins a x)) := by
  have h6 := O.ords
  have hp : oP a x ≤ a 2 := oP_le
  have hn := Y.now
  refine fsemV_of (Nat.le_of_ble_eq_true rfl) ?_
  unfold qCoins
  refine fE_call (c_pos Y O x) 5 (fun _ => rfl) ?_
  by_cases q : oP a x = a 2
  · skip
    rw [if_pos q, show dF (a 2) (oP a x) = -1 from if_pos q]
    exact fE_ret 4 (fun _ => rfl)
  · skip
    have e : dF (a 2) (oP a x) = nI (oP a x) := if_neg q
    have hi := c_due Y O (k := oP a x) (by omega)
    rw [← hn] at hi
    rw [if_neg q, e]
    refine fE_pos (by rw [fLit]; exact nI_le (by omega) (by omega)) 3 (fun _ => rfl) ?_
    refine fE_call (hi) 8 (fun _ => rfl) ?_
    exact fE_ret 1 (fun _ => rfl)
theorem k_hullsIn_1 {μ : fM} {u : Nat} {a : Nat → Nat} (Y : YR μ 0 a) (O : OKA u a) {x : Int32} : ∀ j k n, k + j = a 0 → fEnds (fun zz => frun eX7_hullsIn tX7_hullsIn zz 23 [kR 7 0 0, kX x, kN n, kN k] [] μ 0 0) (.inl (some (vI (nI (n + nC (fun k => nI (hS a k) = x) k j)))), μ)
  | 0, k, n, e => by
    have h6 := O.hulls
    have hb := Y.begun
    refine fE_pos (by show μ.1 6 0 0 4 ≤ nI k; rw [hb]; exact nI_le (by omega) (by omega)) 5 (fun _ => rfl) ?_
    exact fE_ret 2 (fun _ => rfl)
  | j + 1, k, n, e => by
    have h6 := O.hulls
    have hb := Y.begun
    have hs := (Y.hv (h := k) (by omega)).2.1
    refine fE_neg (fun p => by change μ.1 6 0 0 4 ≤ nI k at p; rw [hb] at p; exact absurd ((nI_leI (by omega) (by omega)).mp p) (by omega)) 5 (fun _ => rfl) ?_
    refine fE_pos (by refine g_in (k := k) ?_ (show k < 6 from by omega) (show 6 < 2 ^ 31 from by decide); first | rfl | (simp (disch := omega) only [fLit, nI_add, pk_mul, pk_rem, pk_sub, nI_clamp]; done)) 5 (fun _ => rfl) ?_
    refine fE_ite 3 (fun _ => rfl) (fun q => ?_) (fun q => ?_)
    · skip
      change μ.1 1 0 (nI k).toNatClampNeg 4 = x at q
      rw [nI_clamp (by omega), hs] at q
      refine fE_step (y := fun zz => frun _ _ zz 23 [kR 7 0 0, kX x, kX (nI n + 1), kX (nI k + 1)] [] _ 0 0) 3 (fun _ => rfl) ?_
      rw [nI_1, nI_1]
      refine fE_cg (k_hullsIn_1 Y O j (k + 1) (n + 1) (by omega)) ?_
      rw [nC, if_pos q, Nat.add_assoc]
    · skip
      change ¬ μ.1 1 0 (nI k).toNatClampNeg 4 = x at q
      rw [nI_clamp (by omega), hs] at q
      refine fE_step (y := fun zz => frun _ _ zz 23 [kR 7 0 0, kX x, kN n, kX (nI k + 1)] [] _ 0 0) 2 (fun _ => rfl) ?_
      rw [nI_1]
      refine fE_cg (k_hullsIn_1 Y O j (k + 1) n (by omega)) ?_
      rw [nC, if_neg q, Nat.zero_add]
theorem k_hullsIn {μ : fM} {u : Nat} {a : Nat → Nat} (Y : YR μ 0 a) (O : OKA u a) (x : Int32) : sX7_hullsIn [vR 7 0 0, vI x] μ = some (cRes eA μ (qHullsIn a x)) := by
  refine fsemV_of (Nat.le_of_ble_eq_true rfl) ?_
  unfold qHullsIn
  refine fE_call (c_isFromTo x 0 3 μ) 4 (fun _ => rfl) ?_
  refine fE_ite 1 (fun _ => rfl) (fun q => ?_) (fun q => ?_)
  · skip
    have q : ¬ (nI 0 ≤ x ∧ x ≤ nI 3) := bI_0.mp q
    rw [i_le_lit (by decide)] at q
    rw [if_neg q]
    exact fE_ret 1 (fun _ => rfl)
  · skip
    have q : (nI 0 ≤ x ∧ x ≤ nI 3) := bI_n.mp q
    rw [i_le_lit (by decide)] at q
    rw [if_pos q]
    refine fE_step (y := fun zz => frun _ _ zz 23 [kR 7 0 0, kX x, kN 0, kN 0] [] _ 0 0) 4 (fun _ => rfl) ?_
    refine fE_cg (k_hullsIn_1 Y O (a 0) 0 0 (by omega)) ?_
    rw [Nat.zero_add]
    rfl
