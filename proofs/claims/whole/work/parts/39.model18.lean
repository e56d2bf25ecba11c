/-! HOURS TO SINKING -/
def kN' (t k : Nat) : Nat := if t % 6 = 0 then k - 1 else k
def hSk (wide F hour : Nat) : Nat → Nat → Nat → (Nat → Nat) → Nat
  | 0, n, _, _ => n
  | j + 1, n, w, ck => if dDr wide (w + nT (fun k => 9 - ck k) 0 (F - 1)) = 41 then n else hSk wide F hour j (n + 1) (w + nT (fun k => 9 - ck k) 0 (F - 1)) (fun k => kN' (hour + n) (ck k))
theorem g_sink_1 (μ : fM) {u : Nat} {a : Nat → Nat} {h : Nat} {z : Option fV} {y : Option fV} {res : fR} (O : OKA u a) (hh : h < 6) : ∀ j k, k + j = hF a h - 1 → fEnds (fun zz => frun eX8_hoursToSinking tX8_hoursToSinking zz 71 [kR 8 0 0, kN h, kN (hF a h - 1), z, y] [] (gA (gB 35 (hF a h - 1) μ (hK a h)) a) 0 0) res → fEnds (fun zz => frun eX8_hoursToSinking tX8_hoursToSinking zz 36 [kR 8 0 0, kN h, kN k, z, y] [] (gA (gB 35 k μ (hK a h)) a) 0 0) res
  | 0, k, e, H => by
    have h8 := O.fr h hh
    refine fE_call (g_seams (gB 35 k μ (hK a h)) O hh) 4 (fun _ => rfl) ?_
    refine fE_pos (by first | omega | (simp (disch := omega) only [fLit, nI_add, pk_mul, pk_rem, nI_clamp, beq01, beq11, cond_false, cond_true, nI_leI, nI_ltI, nI_eq]; done) | (simp (disch := omega) only [fLit, nI_add, pk_mul, pk_rem, nI_clamp, beq01, beq11, cond_false, cond_true, nI_leI, nI_ltI, nI_eq]; omega)) 1 (fun _ => rfl) ?_
    rw [← e] at H
    exact H
  | j + 1, k, e, H => by
    have h8 := O.fr h hh
    refine fE_call (g_seams (gB 35 k μ (hK a h)) O hh) 4 (fun _ => rfl) ?_
    refine fE_neg (by first | omega | (simp (disch := omega) only [fLit, nI_add, pk_mul, pk_rem, nI_clamp, beq01, beq11, cond_false, cond_true, nI_leI, nI_ltI, nI_eq]; done) | (simp (disch := omega) only [fLit, nI_add, pk_mul, pk_rem, nI_clamp, beq01, beq11, cond_false, cond_true, nI_leI, nI_ltI, nI_eq]; omega)) 1 (fun _ => rfl) ?_
    refine fE_call (m_hullAt (nI h) _) 7 (fun _ => rfl) ?_
    refine fE_pos (by refine g_in (k := 21 + 28 * h + 20 + k) ?_ (show 21 + 28 * h + 20 + k < 213 from by omega) (show 213 < 2 ^ 31 from by decide); first | rfl | (simp (disch := omega) only [fLit, nI_add, pk_mul, pk_rem, pk_sub, nI_clamp]; done)) 5 (fun _ => rfl) ?_
    refine fE_pos (by refine g_in (k := k) ?_ (show k < 8 from by omega) (show 8 < 2 ^ 31 from by decide); first | rfl | (simp (disch := omega) only [fLit, nI_add, pk_mul, pk_rem, pk_sub, nI_clamp]; done)) 1 (fun _ => rfl) ?_
    simp (disch := omega) only [fLit, nI_add, pk_mul, pk_rem, nI_clamp, beq01, beq11, cond_false, cond_true, gA_at']
    refine fE_step (y := fun zz => frun _ _ zz 36 [kR 8 0 0, kN h, kX (nI k + 1), z, y] [] (fI (gA (gB 35 k μ (hK a h)) a) 35 0 0 k (nI (hK a h k))) 0 0) 2 (fun _ => rfl) ?_
    rw [nI_1, gA_fI (by decide), gB_more]
    exact g_sink_1 μ O hh j (k + 1) (by omega) H
theorem g_sink_2 (μ : fM) {u : Nat} {a : Nat → Nat} {h n : Nat} {res : fR} (O : OKA u a) (hh : h < 6) (hn : n ≤ 500) : ∀ j k w ck, k + j = hF a h - 1 → w + 9 * j < 2 ^ 30 → (∀ i, i < hF a h - 1 → ck i ≤ 9) → fEnds (fun zz => frun eX8_hoursToSinking tX8_hoursToSinking zz 162 [kR 8 0 0, kN h, kN (w + nT (fun k => 9 - ck k) k j), kN n, kN (hF a h - 1)] [] (gA (gB 35 (hF a h - 1) μ (fun i => if i < k then ck i else kN' (a 1 + n) (ck i))) a) 0 0) res → fEnds (fun zz => frun eX8_hoursToSinking tX8_hoursToSinking zz 89 [kR 8 0 0, kN h, kN w, kN n, kN k] [] (gA (gB 35 (hF a h - 1) μ ck) a) 0 0) res
  | 0, k, w, ck, e, hw, hc, H => by
    have h8 := O.fr h hh
    refine fE_call (g_seams (gB 35 (hF a h - 1) μ ck) O hh) 4 (fun _ => rfl) ?_
    refine fE_pos (by first | omega | (simp (disch := omega) only [fLit, nI_add, pk_mul, pk_rem, nI_clamp, beq01, beq11, cond_false, cond_true, nI_leI, nI_ltI, nI_eq]; done) | (simp (disch := omega) only [fLit, nI_add, pk_mul, pk_rem, nI_clamp, beq01, beq11, cond_false, cond_true, nI_leI, nI_ltI, nI_eq]; omega)) 1 (fun _ => rfl) ?_
    rw [gB_eq (g := ck) (fun i hi => if_pos (by omega))] at H
    rw [← e] at H ⊢
    exact H
  | j + 1, k, w, ck, e, hw, hc, H => by
    have h8 := O.fr h hh
    have h1 := O.hour
    have h2 := O.u6
    have hk := hc k (by omega)
    have e1 : (gA (gB 35 (hF a h - 1) μ ck) a).1 35 0 0 k = nI (ck k) := by
      rw [gA_ne (by decide), gB_at (by omega)]
    refine fE_call (g_seams (gB 35 (hF a h - 1) μ ck) O hh) 4 (fun _ => rfl) ?_
    refine fE_neg (by first | omega | (simp (disch := omega) only [fLit, nI_add, pk_mul, pk_rem, nI_clamp, beq01, beq11, cond_false, cond_true, nI_leI, nI_ltI, nI_eq]; done) | (simp (disch := omega) only [fLit, nI_add, pk_mul, pk_rem, nI_clamp, beq01, beq11, cond_false, cond_true, nI_leI, nI_ltI, nI_eq]; omega)) 1 (fun _ => rfl) ?_
    refine fE_pos (by refine g_in (k := k) ?_ (show k < 8 from by omega) (show 8 < 2 ^ 31 from by decide); first | rfl | (simp (disch := omega) only [fLit, nI_add, pk_mul, pk_rem, pk_sub, nI_clamp]; done)) 6 (fun _ => rfl) ?_
    simp (disch := omega) only [fLit, nI_add, pk_mul, pk_rem, nI_clamp, beq01, beq11, cond_false, cond_true, e1]
    have fin : ∀ v, v = kN' (a 1 + n) (ck k) → fEnds (fun zz => frun eX8_hoursToSinking tX8_hoursToSinking zz 89 [kR 8 0 0, kN h, kX (nI w + (nI 9 - nI (ck k))), kN n, kX (nI k + 1)] [] (fI (gA (gB 35 (hF a h - 1) μ ck) a) 35 0 0 k (nI v)) 0 0) res := fun v hv => by
      rw [gA_fI (by decide), gB_set (by omega), pk_sub hk, nI_add, nI_1]
      refine g_sink_2 μ O hh hn j (k + 1) _ _ (by omega) (by omega) (fun i hi => ?_) ?_
      · by_cases ei : i = k
        · subst ei
          rw [up_at, hv]
          unfold kN'
          split <;> omega
        · rw [up_ne ei]
          exact hc i hi
      · rw [nT_eq (g := fun k => 9 - ck k) (fun i h1 h2 => by show 9 - up ck k v i = _; rw [up_ne (by omega)])]
        rw [nT, ← Nat.add_assoc] at H
        rw [gB_eq (g := fun i => if i < k then ck i else kN' (a 1 + n) (ck i))]
        · exact H
        · intro i hi
          show (if i < k + 1 then up ck k v i else kN' (a 1 + n) (up ck k v i)) = if i < k then ck i else kN' (a 1 + n) (ck i)
          by_cases ei : i = k
          · subst ei
            rw [if_pos (by omega), up_at, if_neg (by omega), hv]
          · rw [up_ne ei]
            by_cases l : i < k
            · rw [if_pos (by omega), if_pos l]
            · rw [if_neg (by omega), if_neg l]
    refine fE_ite 15 (fun _ => rfl) (fun q => ?_) (fun q => ?_)
    · skip
      simp (disch := omega) only [fLit, nI_add, pk_mul, pk_rem, nI_clamp, beq01, beq11, cond_false, cond_true, nI_leI, nI_ltI, nI_eq, gA_at'] at q
      refine fE_pos (by refine g_in (k := k) ?_ (show k < 8 from by omega) (show 8 < 2 ^ 31 from by decide); first | rfl | (simp (disch := omega) only [fLit, nI_add, pk_mul, pk_rem, pk_sub, nI_clamp]; done)) 5 (fun _ => rfl) ?_
      simp (disch := omega) only [fLit, nI_add, pk_mul, pk_rem, nI_clamp, beq01, beq11, cond_false, cond_true, e1]
      refine fE_call (j_max 0 (nI (ck k) - nI 1) _) 3 (fun _ => rfl) ?_
      rw [mx0 (by omega) (by omega)]
      refine fE_pos (by refine g_in (k := k) ?_ (show k < 8 from by omega) (show 8 < 2 ^ 31 from by decide); first | rfl | (simp (disch := omega) only [fLit, nI_add, pk_mul, pk_rem, pk_sub, nI_clamp]; done)) 2 (fun _ => rfl) ?_
      refine fE_step (y := fun zz => frun _ _ zz 89 [kR 8 0 0, kN h, kX (nI w + (nI 9 - nI (ck k))), kN n, kX (nI k + 1)] [] (fI (gA (gB 35 (hF a h - 1) μ ck) a) 35 0 0 (nI k).toNatClampNeg (nI (ck k - 1))) 0 0) 2 (fun _ => rfl) ?_
      rw [nI_clamp (by omega)]
      exact fin _ (if_pos q).symm
    · skip
      simp (disch := omega) only [fLit, nI_add, pk_mul, pk_rem, nI_clamp, beq01, beq11, cond_false, cond_true, nI_leI, nI_ltI, nI_eq, gA_at'] at q
      refine fE_pos (by refine g_in (k := k) ?_ (show k < 8 from by omega) (show 8 < 2 ^ 31 from by decide); first | rfl | (simp (disch := omega) only [fLit, nI_add, pk_mul, pk_rem, pk_sub, nI_clamp]; done)) 4 (fun _ => rfl) ?_
      simp (disch := omega) only [fLit, nI_add, pk_mul, pk_rem, nI_clamp, beq01, beq11, cond_false, cond_true, e1]
      refine fE_pos (by refine g_in (k := k) ?_ (show k < 8 from by omega) (show 8 < 2 ^ 31 from by decide); first | rfl | (simp (disch := omega) only [fLit, nI_add, pk_mul, pk_rem, pk_sub, nI_clamp]; done)) 1 (fun _ => rfl) ?_
      refine fE_step (y := fun zz => frun _ _ zz 89 [kR 8 0 0, kN h, kX (nI w + (nI 9 - nI (ck k))), kN n, kX (nI k + 1)] [] (fI (gA (gB 35 (hF a h - 1) μ ck) a) 35 0 0 (nI k).toNatClampNeg (nI (ck k))) 0 0) 2 (fun _ => rfl) ?_
      rw [nI_clamp (by omega)]
      exact fin _ (if_neg q).symm
theorem kN_le {t k : Nat} : kN' t k ≤ k := by
  unfold kN'
  split <;> omega
theorem g_sink_3 (μ : fM) {u : Nat} {a : Nat → Nat} {h : Nat} (O : OKA u a) (hh : h < 6) : ∀ j n w ck z, n + j = 501 → w + 63 * j < 2 ^ 30 → (∀ i, i < hF a h - 1 → ck i ≤ 9) → ∃ ck', fEnds (fun zz => frun eX8_hoursToSinking tX8_hoursToSinking zz 79 [kR 8 0 0, kN h, kN w, kN n, z] [] (gA (gB 35 (hF a h - 1) (gT μ 0) ck) a) 0 0) (mRes (gB 35 (hF a h - 1) μ ck') a (if hSk (hWide a h) (hF a h) (a 1) j n w ck = 501 then .inl 3 else .inr (nI (hSk (hWide a h) (hF a h) (a 1) j n w ck))))
  | 0, n, w, ck, z, e, hw, hc => by
    obtain rfl : n = 501 := e
    refine ⟨ck, ?_⟩
    rw [← gB_fI (by decide)]
    refine fE_call (g_throwing0 (gB 35 (hF a h - 1) μ ck) a 3 0) 6 (fun _ => rfl) ?_
    exact fE_ret 1 (fun _ => rfl)
  | j + 1, n, w, ck, z, e, hw, hc => by
    have h8 := O.fr h hh
    have hb : nT (fun k => 9 - ck k) 0 (hF a h - 1) ≤ (hF a h - 1) * 9 := nT_le fun i _ _ => by show 9 - ck i ≤ 9; omega
    have hd : dDr (hWide a h) (w + nT (fun k => 9 - ck k) 0 (hF a h - 1)) ≤ 41 := dDr_le
    obtain ⟨ck', ih⟩ := g_sink_3 μ O hh j (n + 1) (w + nT (fun k => 9 - ck k) 0 (hF a h - 1)) (fun k => kN' (a 1 + n) (ck k)) (kN (hF a h - 1)) (by omega) (by omega) (fun i hi => Nat.le_trans kN_le (hc i hi))
    by_cases q : dDr (hWide a h) (w + nT (fun k => 9 - ck k) 0 (hF a h - 1)) = 41
    · refine ⟨fun i => kN' (a 1 + n) (ck i), ?_⟩
      rw [hSk, if_pos q, if_neg (by omega)]
      refine fE_neg (by first | omega | (simp (disch := omega) only [fLit, nI_add, pk_mul, pk_rem, nI_clamp, beq01, beq11, cond_false, cond_true, nI_leI, nI_ltI, nI_eq]; done) | (simp (disch := omega) only [fLit, nI_add, pk_mul, pk_rem, nI_clamp, beq01, beq11, cond_false, cond_true, nI_leI, nI_ltI, nI_eq]; omega)) 3 (fun _ => rfl) ?_
      refine fE_step (y := fun zz => frun _ _ zz 89 [kR 8 0 0, kN h, kN w, kN n, kN 0] [] _ 0 0) 2 (fun _ => rfl) ?_
      refine g_sink_2 (gT μ 0) O hh (by omega) (hF a h - 1) 0 w ck (by omega) (by omega) hc ?_
      rw [gB_eq (g := fun i => kN' (a 1 + n) (ck i)) (fun i hi => if_neg (by omega))]
      refine fE_call (g_draught (gB 35 (hF a h - 1) (gT μ 0) _) O (h := h) (w := w + nT (fun k => 9 - ck k) 0 (hF a h - 1)) hh (by omega)) 4 (fun _ => rfl) ?_
      refine fE_pos ((dI_m1 hd).mpr q) 2 (fun _ => rfl) ?_
      refine fE_ret2 2 (fun _ => rfl) ?_
      rw [← gB_fI (by decide)]
      rfl
    · refine ⟨ck', ?_⟩
      rw [hSk, if_neg q]
      refine fE_neg (by first | omega | (simp (disch := omega) only [fLit, nI_add, pk_mul, pk_rem, nI_clamp, beq01, beq11, cond_false, cond_true, nI_leI, nI_ltI, nI_eq]; done) | (simp (disch := omega) only [fLit, nI_add, pk_mul, pk_rem, nI_clamp, beq01, beq11, cond_false, cond_true, nI_leI, nI_ltI, nI_eq]; omega)) 3 (fun _ => rfl) ?_
      refine fE_step (y := fun zz => frun _ _ zz 89 [kR 8 0 0, kN h, kN w, kN n, kN 0] [] _ 0 0) 2 (fun _ => rfl) ?_
      refine g_sink_2 (gT μ 0) O hh (by omega) (hF a h - 1) 0 w ck (by omega) (by omega) hc ?_
      rw [gB_eq (g := fun i => kN' (a 1 + n) (ck i)) (fun i hi => if_neg (by omega))]
      refine fE_call (g_draught (gB 35 (hF a h - 1) (gT μ 0) _) O (h := h) (w := w + nT (fun k => 9 - ck k) 0 (hF a h - 1)) hh (by omega)) 4 (fun _ => rfl) ?_
      refine fE_neg (fun p => q ((dI_m1 hd).mp p)) 2 (fun _ => rfl) ?_
      refine fE_step (y := fun zz => frun _ _ zz 79 [kR 8 0 0, kN h, kN (w + nT (fun k => 9 - ck k) 0 (hF a h - 1)), kX (nI n + 1), kN (hF a h - 1)] [] _ 0 0) 2 (fun _ => rfl) ?_
      rw [nI_1]
      exact ih
def qSink (a : Nat → Nat) (x : Int32) : qR :=
  if okH a x then
    if hS a (xN x) = 1 then
      if hSk (hWide a (xN x)) (hF a (xN x)) (a 1) 500 1 (hWgt a (xN x)) (hK a (xN x)) = 501 then .inl 3 else .inr (nI (hSk (hWide a (xN x)) (hF a (xN x)) (a 1) 500 1 (hWgt a (xN x)) (hK a (xN x))))
    else .inl 2
  else .inl 1
theorem q_hoursToSinking (μ : fM) {u : Nat} {a : Nat → Nat} (x : Int32) (O : OKA u a) : ∃ n ck, sX8_hoursToSinking [vR 8 0 0, vI x] (gA μ a) = some (mRes (gB 35 n μ ck) a (qSink a x)) := by
  have h6 := O.hulls
  by_cases q : okH a x
  · obtain ⟨h, hh, rfl⟩ := nI_ix (by omega) q.1 q.2
    have h8 := O.fr h (by omega)
    have hs := O.st h (by omega)
    have hw := hWgt_le O (h := h) (by omega)
    have hx : xN (nI h) = h := nI_clamp (by omega)
    by_cases r : hS a h = 1
    · obtain ⟨ck', ih⟩ := g_sink_3 μ O (h := h) (by omega) 500 1 (hWgt a h) (hK a h) none (by omega) (by omega) (fun i hi => O.ck h i (by omega) (by omega))
      refine ⟨hF a h - 1, ck', fsemV_of (Nat.le_of_ble_eq_true rfl) ?_⟩
      unfold qSink
      rw [if_pos q, hx, if_pos r]
      refine fE_step (y := fun zz => frun _ _ zz 5 [kR 8 0 0, kN h, none, none, none] [] (fI (gA μ a) 8 0 0 9 0) 0 0) 3 (fun _ => rfl) ?_
      rw [gA_fI (by decide)]
      refine fE_call (g_isHull (gT μ 0) (a := a) (x := nI h) O) 3 (fun _ => rfl) ?_
      refine fE_neg (fun p => bI_0.mp p q) 1 (fun _ => rfl) ?_
      refine fE_call (g_state (gT μ 0) (a := a) (h := h) (by omega)) 3 (fun _ => rfl) ?_
      refine fE_pos (by first | omega | (simp (disch := omega) only [fLit, nI_add, pk_mul, pk_rem, nI_clamp, beq01, beq11, cond_false, cond_true, nI_leI, nI_ltI, nI_eq]; done) | (simp (disch := omega) only [fLit, nI_add, pk_mul, pk_rem, nI_clamp, beq01, beq11, cond_false, cond_true, nI_leI, nI_ltI, nI_eq]; omega)) 2 (fun _ => rfl) ?_
      refine fE_step (y := fun zz => frun _ _ zz 36 [kR 8 0 0, kN h, kN 0, none, none] [] (gA (gT μ 0) a) 0 0) 2 (fun _ => rfl) ?_
      rw [← gB_0 (K := 35) (μ := gT μ 0) (f := hK a h)]
      refine g_sink_1 (gT μ 0) O (by omega) (hF a h - 1) 0 (by omega) ?_
      refine fE_call (g_weight (gB 35 (hF a h - 1) (gT μ 0) (hK a h)) O (h := h) (by omega)) 3 (fun _ => rfl) ?_
      refine fE_step (y := fun zz => frun _ _ zz 79 [kR 8 0 0, kN h, kN (hWgt a h), kN 1, none] [] _ 0 0) 3 (fun _ => rfl) ?_
      exact ih
    · refine ⟨0, hK a h, fsemV_of (Nat.le_of_ble_eq_true rfl) ?_⟩
      unfold qSink
      rw [if_pos q, hx, if_neg r, gB_0]
      refine fE_step (y := fun zz => frun _ _ zz 5 [kR 8 0 0, kN h, none, none, none] [] (fI (gA μ a) 8 0 0 9 0) 0 0) 3 (fun _ => rfl) ?_
      rw [gA_fI (by decide)]
      refine fE_call (g_isHull (gT μ 0) (a := a) (x := nI h) O) 3 (fun _ => rfl) ?_
      refine fE_neg (fun p => bI_0.mp p q) 1 (fun _ => rfl) ?_
      refine fE_call (g_state (gT μ 0) (a := a) (h := h) (by omega)) 3 (fun _ => rfl) ?_
      refine fE_neg (by first | omega | (simp (disch := omega) only [fLit, nI_add, pk_mul, pk_rem, nI_clamp, beq01, beq11, cond_false, cond_true, nI_leI, nI_ltI, nI_eq]; done) | (simp (disch := omega) only [fLit, nI_add, pk_mul, pk_rem, nI_clamp, beq01, beq11, cond_false, cond_true, nI_leI, nI_ltI, nI_eq]; omega)) 2 (fun _ => rfl) ?_
      refine fE_call (g_throwing0 μ a 2 0) 3 (fun _ => rfl) ?_
      exact fE_ret 1 (fun _ => rfl)
  · refine ⟨0, hK a 0, fsemV_of (Nat.le_of_ble_eq_true rfl) ?_⟩
    unfold qSink
    rw [if_neg q, gB_0]
    refine fE_step (y := fun zz => frun _ _ zz 5 [kR 8 0 0, kX x, none, none, none] [] (fI (gA μ a) 8 0 0 9 0) 0 0) 3 (fun _ => rfl) ?_
    rw [gA_fI (by decide)]
    refine fE_call (g_isHull (gT μ 0) (a := a) (x := x) O) 3 (fun _ => rfl) ?_
    refine fE_pos (bI_0.mpr q) 1 (fun _ => rfl) ?_
    refine fE_call (g_throwing0 μ a 1 0) 3 (fun _ => rfl) ?_
    exact fE_ret 1 (fun _ => rfl)
