def qWidth (a : Nat → Nat) (x y s : Int32) : qR := if okH a x ∧ 0 ≤ y ∧ y < nI (hF a (xN x)) then .inr (nI (hD a (xN x) (xN y) (if s = 0 then 1 else 0))) else .inl 1
theorem q_widthOf (μ : fM) {u : Nat} {a : Nat → Nat} (x y s : Int32) (O : OKA u a) : sX8_widthOf [vR 8 0 0, vI x, vI y, vI s] (gA μ a) = some (mRes μ a (qWidth a x y s)) := by
  have h6 := O.hulls
  refine fsemV_of (Nat.le_of_ble_eq_true rfl) ?_
  refine fE_step (y := fun zz => frun _ _ zz 5 [kR 8 0 0, kX x, kX y, kX s, none] [] (fI (gA μ a) 8 0 0 9 0) 0 0) 3 (fun _ => rfl) ?_
  rw [gA_fI (by decide)]
  refine fE_call (g_isHull (gT μ 0) (a := a) (x := x) O) 3 (fun _ => rfl) ?_
  refine fE_ite 1 (fun _ => rfl) (fun q => ?_) (fun q => ?_)
  · skip
    have q := bI_0.mp q
    refine fE_call (g_throwing0 μ a 1 0) 7 (fun _ => rfl) ?_
    refine fE_ret2 1 (fun _ => rfl) ?_
    unfold qWidth
    rw [if_neg (fun p => q p.1)]
    rfl
  · skip
    have q := bI_n.mp q
    obtain ⟨h, hh, rfl⟩ := nI_ix (by omega) q.1 q.2
    have hf := O.fr h (by omega)
    refine fE_call (g_frames (gT μ 0) (a := a) (h := h) (by omega)) 6 (fun _ => rfl) ?_
    refine fE_call (m_inI y 0 (nI (hF a h) - 1) (gA (gT μ 0) a)) 4 (fun _ => rfl) ?_
    refine fE_ite 1 (fun _ => rfl) (fun r => ?_) (fun r => ?_)
    · skip
      have r := bI_0.mp r
      rw [i_le_pred (by omega)] at r
      refine fE_call (g_throwing0 μ a 1 0) 7 (fun _ => rfl) ?_
      refine fE_ret2 1 (fun _ => rfl) ?_
      unfold qWidth
      rw [xN, nI_clamp (by omega), if_neg (fun p => r p.2)]
      rfl
    · skip
      have r := bI_n.mp r
      rw [i_le_pred (by omega)] at r
      obtain ⟨k, hk, rfl⟩ := nI_ix (by omega) r.1 r.2
      refine fE_ite 10 (fun _ => rfl) (fun t => ?_) (fun t => ?_)
      · skip
        refine fE_call (g_width (gT μ 0) (a := a) (h := h) (f := k) (s := 1) (by omega) (by omega) (by decide)) 2 (fun _ => rfl) ?_
        refine fE_ret2 2 (fun _ => rfl) ?_
        unfold qWidth
        rw [xN, xN, nI_clamp (by omega), nI_clamp (by omega), if_pos ⟨q, r⟩, if_pos t]
        rfl
      · skip
        refine fE_call (g_width (gT μ 0) (a := a) (h := h) (f := k) (s := 0) (by omega) (by omega) (by decide)) 3 (fun _ => rfl) ?_
        refine fE_ret2 2 (fun _ => rfl) ?_
        unfold qWidth
        rw [xN, xN, nI_clamp (by omega), nI_clamp (by omega), if_pos ⟨q, r⟩, if_neg t]
        rfl
def qCaulk (a : Nat → Nat) (x y : Int32) : qR := if okH a x ∧ 0 ≤ y ∧ y < nI (hF a (xN x) - 1) then .inr (nI (hK a (xN x) (xN y))) else .inl 1
theorem q_caulkingOf (μ : fM) {u : Nat} {a : Nat → Nat} (x y : Int32) (O : OKA u a) : sX8_caulkingOf [vR 8 0 0, vI x, vI y] (gA μ a) = some (mRes μ a (qCaulk a x y)) := by
  have h6 := O.hulls
  refine fsemV_of (Nat.le_of_ble_eq_true rfl) ?_
  by_cases q : okH a x
  · obtain ⟨h, hh, rfl⟩ := nI_ix (by omega) q.1 q.2
    have hf := O.fr h (by omega)
    refine fE_step (y := fun zz => frun _ _ zz 5 [kR 8 0 0, kN h, kX y] [] (fI (gA μ a) 8 0 0 9 0) 0 0) 3 (fun _ => rfl) ?_
    rw [gA_fI (by decide)]
    refine fE_call (g_isSeam (gT μ 0) (y := y) O hh) 4 (fun _ => rfl) ?_
    refine fE_ite 1 (fun _ => rfl) (fun r => ?_) (fun r => ?_)
    · skip
      have r := bI_0.mp r
      refine fE_call (g_throwing0 μ a 1 0) 3 (fun _ => rfl) ?_
      refine fE_ret2 1 (fun _ => rfl) ?_
      unfold qCaulk
      rw [xN, nI_clamp (by omega), if_neg (fun p => r p.2)]
      rfl
    · skip
      have r := bI_n.mp r
      obtain ⟨k, hk, rfl⟩ := nI_ix (by omega) r.1 r.2
      refine fE_call (m_hullAt (nI h) _) 4 (fun _ => rfl) ?_
      refine fE_pos (by refine g_in (k := 21 + 28 * h + 20 + k) ?_ (show 21 + 28 * h + 20 + k < 213 from by omega) (show 213 < 2 ^ 31 from by decide); first | rfl | (simp (disch := omega) only [fLit, nI_add, pk_mul, pk_rem, pk_sub, nI_clamp]; done)) 5 (fun _ => rfl) ?_
      refine fE_ret2 2 (fun _ => rfl) ?_
      unfold qCaulk
      rw [xN, xN, nI_clamp (by omega), nI_clamp (by omega), if_pos ⟨q, r⟩]
      simp (disch := omega) only [fLit, nI_add, pk_mul, pk_rem, nI_clamp, beq01, beq11, cond_false, cond_true, gA_at']
      rfl
  · skip
    refine fE_step (y := fun zz => frun _ _ zz 5 [kR 8 0 0, kX x, kX y] [] (fI (gA μ a) 8 0 0 9 0) 0 0) 3 (fun _ => rfl) ?_
    rw [gA_fI (by decide)]
    refine fE_call (g_isSeam0 (gT μ 0) (y := y) O q) 4 (fun _ => rfl) ?_
    refine fE_call (g_throwing0 μ a 1 0) 4 (fun _ => rfl) ?_
    refine fE_ret2 1 (fun _ => rfl) ?_
    unfold qCaulk
    rw [if_neg (fun p => q p.1)]
    rfl
def nC (p : Nat → Prop) [DecidablePred p] (k : Nat) : Nat → Nat
  | 0 => 0
  | j + 1 => (if p k then 1 else 0) + nC p (k + 1) j
theorem nC_le {p : Nat → Prop} [DecidablePred p] : ∀ {j k : Nat}, nC p k j ≤ j
  | 0, _ => Nat.le_refl 0
  | j + 1, k => by
    have := nC_le (p := p) (j := j) (k := k + 1)
    unfold nC
    split <;> omega
def qHullsIn (a : Nat → Nat) (x : Int32) : qR := if 0 ≤ x ∧ x < nI 4 then .inr (nI (nC (fun k => nI (hS a k) = x) 0 (a 0))) else .inl 1
theorem q_hullsIn_1 (μ : fM) {u : Nat} {a : Nat → Nat} {x : Int32} (O : OKA u a) : ∀ j k n, k + j = a 0 → fEnds (fun N => frun eX8_hullsIn tX8_hullsIn N 27 [kR 8 0 0, kX x, kN n, kN k] [] (gA μ a) 0 0) (.inl (some (vI (nI (n + nC (fun k => nI (hS a k) = x) k j)))), gA μ a)
  | 0, k, n, e => by
    have h6 := O.hulls
    refine fE_pos (by first | omega | (simp (disch := omega) only [fLit, nI_add, pk_mul, pk_rem, nI_clamp, beq01, beq11, cond_false, cond_true, nI_leI, nI_ltI, nI_eq, gA_at']; done) | (simp (disch := omega) only [fLit, nI_add, pk_mul, pk_rem, nI_clamp, beq01, beq11, cond_false, cond_true, nI_leI, nI_ltI, nI_eq, gA_at']; omega)) 6 (fun _ => rfl) ?_
    exact fE_ret 2 (fun _ => rfl)
  | j + 1, k, n, e => by
    have h6 := O.hulls
    refine fE_neg (by first | omega | (simp (disch := omega) only [fLit, nI_add, pk_mul, pk_rem, nI_clamp, beq01, beq11, cond_false, cond_true, nI_leI, nI_ltI, nI_eq, gA_at']; done) | (simp (disch := omega) only [fLit, nI_add, pk_mul, pk_rem, nI_clamp, beq01, beq11, cond_false, cond_true, nI_leI, nI_ltI, nI_eq, gA_at']; omega)) 6 (fun _ => rfl) ?_
    refine fE_call (g_state μ (a := a) (h := k) (by omega)) 4 (fun _ => rfl) ?_
    refine fE_ite 2 (fun _ => rfl) (fun q => ?_) (fun q => ?_)
    · skip
      refine fE_step (y := fun zz => frun _ _ zz 27 [kR 8 0 0, kX x, kX (nI n + 1), kX (nI k + 1)] [] _ 0 0) 6 (fun _ => rfl) ?_
      simp (disch := omega) only [fLit, nI_add, pk_mul, pk_rem, nI_clamp, beq01, beq11, cond_false, cond_true]
      refine fE_cg (q_hullsIn_1 μ O j (k + 1) (n + 1) (by omega)) ?_
      rw [nC, if_pos q, Nat.add_assoc]
    · skip
      refine fE_step (y := fun zz => frun _ _ zz 27 [kR 8 0 0, kX x, kX (nI n + 0), kX (nI k + 1)] [] _ 0 0) 5 (fun _ => rfl) ?_
      simp (disch := omega) only [fLit, nI_add, pk_mul, pk_rem, nI_clamp, beq01, beq11, cond_false, cond_true]
      refine fE_cg (q_hullsIn_1 μ O j (k + 1) n (by omega)) ?_
      rw [nC, if_neg q, Nat.zero_add]
theorem q_hullsIn (μ : fM) {u : Nat} {a : Nat → Nat} (x : Int32) (O : OKA u a) : sX8_hullsIn [vR 8 0 0, vI x] (gA μ a) = some (mRes μ a (qHullsIn a x)) := by
  refine fsemV_of (Nat.le_of_ble_eq_true rfl) ?_
  refine fE_step (y := fun zz => frun _ _ zz 5 [kR 8 0 0, kX x, none, none] [] (fI (gA μ a) 8 0 0 9 0) 0 0) 3 (fun _ => rfl) ?_
  rw [gA_fI (by decide)]
  refine fE_call (m_inL x 0 3 (gA (gT μ 0) a) (by decide) (by decide)) 5 (fun _ => rfl) ?_
  refine fE_ite 1 (fun _ => rfl) (fun q => ?_) (fun q => ?_)
  · skip
    have q := bI_0.mp q
    rw [i_le_lit (by decide)] at q
    refine fE_call (g_throwing0 μ a 1 0) 3 (fun _ => rfl) ?_
    refine fE_ret2 1 (fun _ => rfl) ?_
    unfold qHullsIn
    rw [if_neg q]
    rfl
  · skip
    have q := bI_n.mp q
    rw [i_le_lit (by decide)] at q
    refine fE_step (y := fun zz => frun _ _ zz 27 [kR 8 0 0, kX x, kN 0, kN 0] [] _ 0 0) 4 (fun _ => rfl) ?_
    refine fE_cg (q_hullsIn_1 (gT μ 0) O (a 0) 0 0 (by omega)) ?_
    unfold qHullsIn
    rw [if_pos q, Nat.zero_add]
    rfl
def qTideAfter (a : Nat → Nat) (x : Int32) : qR := if 0 ≤ x ∧ x < nI 1000 then .inr (nI (aT a ((a 1 + xN x) % 12))) else .inl 1
theorem q_tideAfter (μ : fM) {u : Nat} {a : Nat → Nat} (x : Int32) (O : OKA u a) : sX8_tideAfter [vR 8 0 0, vI x] (gA μ a) = some (mRes μ a (qTideAfter a x)) := by
  have h1 := O.hour
  have h2 := O.u6
  refine fsemV_of (Nat.le_of_ble_eq_true rfl) ?_
  refine fE_step (y := fun zz => frun _ _ zz 5 [kR 8 0 0, kX x] [] (fI (gA μ a) 8 0 0 9 0) 0 0) 3 (fun _ => rfl) ?_
  rw [gA_fI (by decide)]
  refine fE_call (m_inL x 0 999 (gA (gT μ 0) a) (by decide) (by decide)) 5 (fun _ => rfl) ?_
  refine fE_ite 1 (fun _ => rfl) (fun q => ?_) (fun q => ?_)
  · skip
    have q := bI_0.mp q
    rw [i_le_lit (by decide)] at q
    refine fE_call (g_throwing0 μ a 1 0) 3 (fun _ => rfl) ?_
    refine fE_ret2 1 (fun _ => rfl) ?_
    unfold qTideAfter
    rw [if_neg q]
    rfl
  · skip
    have q := bI_n.mp q
    rw [i_le_lit (by decide)] at q
    obtain ⟨h, hh, rfl⟩ := nI_ix (by omega) q.1 q.2
    have hi := g_tide (gT μ 0) (a := a) (t := a 1 + h) (by omega)
    rw [← nI_add, ← gA_at' (μ := gT μ 0) (a := a) (k := 1) (by decide)] at hi
    refine fE_call (hi) 8 (fun _ => rfl) ?_
    refine fE_ret2 2 (fun _ => rfl) ?_
    unfold qTideAfter
    rw [if_pos q, xN, nI_clamp (by omega)]
    rfl
