/-! MIRROR, LAUNCH, ORDER -/
def aSw (a : Nat → Nat) (h k : Nat) : Nat → Nat := up (up a (21 + 28 * h + 4 + 2 * k) (hD a h k 1)) (21 + 28 * h + 4 + 2 * k + 1) (hD a h k 0)
theorem aSw_ok {u : Nat} {a : Nat → Nat} {h k : Nat} (O : OKA u a) (hh : h < 6) (hk : k < 8) : OKA u (aSw a h k) :=
  OKA.up_wd (g := h) (i := k) (r := 1) (OKA.up_wd (g := h) (i := k) (r := 0) O hh hk (by decide) (O.wd h k 1 hh hk (by decide))) hh hk (by decide) (O.wd h k 0 hh hk (by decide))
theorem aSw_fr {a : Nat → Nat} {h k : Nat} : hF (aSw a h k) h = hF a h := by
  show up (up a _ _) _ _ (21 + 28 * h + 1) = _
  rw [up_ne (by omega), up_ne (by omega)]
def sMir (h : Nat) : Nat → Nat → Nat → (Nat → Nat) → qR × (Nat → Nat)
  | 0, _, n, a => (.inr (nI n), a)
  | j + 1, k, n, a => sMir h j (k + 1) (n + if hD a h k 0 = hD a h k 1 then 0 else 1) (aSw a h k)
theorem g_mirror_1 (μ : fM) {u h : Nat} (hh : h < 6) : ∀ j k n (a : Nat → Nat) y z, OKA u a → k + j = hF a h → n ≤ k → fEnds (fun zz => frun eX8_mirrorIt tX8_mirrorIt zz 32 [kR 8 0 0, kN h, kN n, kN k, y, z] [] (gA μ a) 0 0) (mMod μ (sMir h j k n a))
  | 0, k, n, a, y, z, O, e, hn => by
    have h8 := O.fr h hh
    refine fE_call (g_frames μ (a := a) hh) 4 (fun _ => rfl) ?_
    refine fE_pos (by first | omega | (simp (disch := omega) only [fLit, nI_add, pk_mul, pk_rem, nI_clamp, beq01, beq11, cond_false, cond_true, nI_leI, nI_ltI, nI_eq]; done) | (simp (disch := omega) only [fLit, nI_add, pk_mul, pk_rem, nI_clamp, beq01, beq11, cond_false, cond_true, nI_leI, nI_ltI, nI_eq]; omega)) 1 (fun _ => rfl) ?_
    exact fE_ret 2 (fun _ => rfl)
  | j + 1, k, n, a, y, z, O, e, hn => by
    have h8 := O.fr h hh
    have w0 := O.wd h k 0 hh (by omega) (by decide)
    have w1 := O.wd h k 1 hh (by omega) (by decide)
    refine fE_call (g_frames μ (a := a) hh) 4 (fun _ => rfl) ?_
    refine fE_neg (by first | omega | (simp (disch := omega) only [fLit, nI_add, pk_mul, pk_rem, nI_clamp, beq01, beq11, cond_false, cond_true, nI_leI, nI_ltI, nI_eq]; done) | (simp (disch := omega) only [fLit, nI_add, pk_mul, pk_rem, nI_clamp, beq01, beq11, cond_false, cond_true, nI_leI, nI_ltI, nI_eq]; omega)) 1 (fun _ => rfl) ?_
    refine fE_call (g_width μ (a := a) (f := k) (s := 0) hh (by omega) (by decide)) 5 (fun _ => rfl) ?_
    refine fE_call (g_width μ (a := a) (f := k) (s := 1) hh (by omega) (by decide)) 6 (fun _ => rfl) ?_
    refine fE_call (m_hullAt (nI h) _) 5 (fun _ => rfl) ?_
    refine fE_pos (by refine g_in (k := 21 + 28 * h + 4 + 2 * k) ?_ (show 21 + 28 * h + 4 + 2 * k < 213 from by omega) (show 213 < 2 ^ 31 from by decide); first | rfl | (simp (disch := omega) only [fLit, nI_add, pk_mul, pk_rem, pk_sub, nI_clamp]; done)) 8 (fun _ => rfl) ?_
    simp (disch := omega) only [fLit, nI_add, pk_mul, pk_rem, nI_clamp, beq01, beq11, cond_false, cond_true, gA_set]
    refine fE_call (m_hullAt (nI h) _) 4 (fun _ => rfl) ?_
    refine fE_pos (by refine g_in (k := 21 + 28 * h + 4 + 2 * k + 1) ?_ (show 21 + 28 * h + 4 + 2 * k + 1 < 213 from by omega) (show 213 < 2 ^ 31 from by decide); first | rfl | (simp (disch := omega) only [fLit, nI_add, pk_mul, pk_rem, pk_sub, nI_clamp]; done)) 10 (fun _ => rfl) ?_
    simp (disch := omega) only [fLit, nI_add, pk_mul, pk_rem, nI_clamp, beq01, beq11, cond_false, cond_true, gA_set]
    refine fE_ite 4 (fun _ => rfl) (fun q => ?_) (fun q => ?_)
    · skip
      simp (disch := omega) only [fLit, nI_add, pk_mul, pk_rem, nI_clamp, beq01, beq11, cond_false, cond_true, nI_leI, nI_ltI, nI_eq] at q
      refine fE_step (y := fun zz => frun _ _ zz 32 [kR 8 0 0, kN h, kX (nI n + 0), kX (nI k + 1), kN (hD a h k 0), kN (hD a h k 1)] [] (gA μ (aSw a h k)) 0 0) 6 (fun _ => rfl) ?_
      simp (disch := omega) only [fLit, nI_add, pk_mul, pk_rem, nI_clamp, beq01, beq11, cond_false, cond_true]
      rw [sMir, if_pos q]
      exact g_mirror_1 μ hh j (k + 1) _ _ _ _ (aSw_ok O hh (by omega)) (by rw [aSw_fr]; omega) (by omega)
    · skip
      simp (disch := omega) only [fLit, nI_add, pk_mul, pk_rem, nI_clamp, beq01, beq11, cond_false, cond_true, nI_leI, nI_ltI, nI_eq] at q
      refine fE_step (y := fun zz => frun _ _ zz 32 [kR 8 0 0, kN h, kX (nI n + 1), kX (nI k + 1), kN (hD a h k 0), kN (hD a h k 1)] [] (gA μ (aSw a h k)) 0 0) 5 (fun _ => rfl) ?_
      simp (disch := omega) only [fLit, nI_add, pk_mul, pk_rem, nI_clamp, beq01, beq11, cond_false, cond_true]
      rw [sMir, if_neg q]
      exact g_mirror_1 μ hh j (k + 1) _ _ _ _ (aSw_ok O hh (by omega)) (by rw [aSw_fr]; omega) (by omega)
def sMirror (a : Nat → Nat) (x : Int32) : qR × (Nat → Nat) :=
  if okH a x then
    if hS a (xN x) = 0 then sMir (xN x) (hF a (xN x)) 0 0 a else (.inl 2, a)
  else (.inl 1, a)
theorem g_mirrorIt (μ : fM) {u : Nat} {a : Nat → Nat} (O : OKA u a) (x : Int32) : sX8_mirrorIt [vR 8 0 0, vI x] (gA μ a) = some (mMod μ (sMirror a x)) := by
  have h6 := O.hulls
  refine fsemV_of (Nat.le_of_ble_eq_true rfl) ?_
  unfold sMirror
  refine fE_call (g_isHull μ (a := a) (x := x) O) 3 (fun _ => rfl) ?_
  refine fE_ite 1 (fun _ => rfl) (fun q => ?_) (fun q => ?_)
  · skip
    have q := bI_0.mp q
    refine fE_call (g_throwing μ a 1) 3 (fun _ => rfl) ?_
    refine fE_ret2 1 (fun _ => rfl) ?_
    rw [if_neg q]
    rfl
  · skip
    have q := bI_n.mp q
    obtain ⟨h, hh, rfl⟩ := nI_ix (by omega) q.1 q.2
    have hx : xN (nI h) = h := nI_clamp (by omega)
    have hs := O.st h (by omega)
    rw [if_pos q, hx]
    refine fE_step (y := fun zz => frun _ _ zz 14 [kR 8 0 0, kN h, none, none, none, none] [] _ 0 0) 0 (fun _ => rfl) ?_
    refine fE_call (g_state μ (a := a) (h := h) (by omega)) 3 (fun _ => rfl) ?_
    refine fE_ite 1 (fun _ => rfl) (fun e => ?_) (fun e => ?_)
    · skip
      simp (disch := omega) only [fLit, nI_add, pk_mul, pk_rem, nI_clamp, beq01, beq11, cond_false, cond_true, nI_leI, nI_ltI, nI_eq] at e
      rw [if_pos e]
      refine fE_step (y := fun zz => frun _ _ zz 32 [kR 8 0 0, kN h, kN 0, kN 0, none, none] [] _ 0 0) 4 (fun _ => rfl) ?_
      exact g_mirror_1 μ (by omega) (hF a h) 0 0 a _ _ O (by omega) (by omega)
    · skip
      simp (disch := omega) only [fLit, nI_add, pk_mul, pk_rem, nI_clamp, beq01, beq11, cond_false, cond_true, nI_leI, nI_ltI, nI_eq] at e
      refine fE_call (g_throwing μ a 2) 3 (fun _ => rfl) ?_
      refine fE_ret2 1 (fun _ => rfl) ?_
      rw [if_neg e]
      rfl
def hWhy (a : Nat → Nat) (h : Nat) : Nat :=
  if hF a h < 2 then 1 else if hDr a h (hWgt a h) = 41 then 2 else if hDr a h (hWgt a h) ≤ aT a (a 1 % 12) then 0 else 3
def sLaunch (a : Nat → Nat) (x : Int32) : qR × (Nat → Nat) :=
  if okH a x then
    if hS a (xN x) = 0 then
      if hWhy a (xN x) = 0 then (.inr (nI (hDr a (xN x) (hWgt a (xN x)))), up a (21 + 28 * xN x) 1) else (.inl 3, a)
    else (.inl 2, a)
  else (.inl 1, a)
/-- the refusal that a launch stores, 0 if none -/
def sWhy (a : Nat → Nat) (x : Int32) : Nat := if okH a x ∧ hS a (xN x) = 0 then hWhy a (xN x) else 0
def mW (μ : fM) (w : Nat) : fM := if w = 0 then μ else fI μ 8 0 0 8 (nI w)
theorem g_launch_1 (μ : fM) {a : Nat → Nat} {h : Nat} {d : Int32} {w : Nat} {res : fR} (hw : w < 4) (h0 : w ≠ 0) (e : (Sum.inl (some (vI (-1))), gA (gT (fI μ 8 0 0 8 (nI w)) 3) a) = res) : fEnds (fun zz => frun eX8_launchIt tX8_launchIt zz 80 [kR 8 0 0, kN h, kX d, none] [vI (nI w)] (gA μ a) 0 0) res := by
  skip
  refine fE_neg (by first | omega | (simp (disch := omega) only [fLit, nI_add, pk_mul, pk_rem, nI_clamp, beq01, beq11, cond_false, cond_true, nI_leI, nI_ltI, nI_eq]; done) | (simp (disch := omega) only [fLit, nI_add, pk_mul, pk_rem, nI_clamp, beq01, beq11, cond_false, cond_true, nI_leI, nI_ltI, nI_eq]; omega)) 3 (fun _ => rfl) ?_
  refine fE_step (y := fun zz => frun _ _ zz 90 [kR 8 0 0, kN h, kX d, kN w] [] (fI (gA μ a) 8 0 0 8 (nI w)) 0 0) 3 (fun _ => rfl) ?_
  rw [gA_fI (by decide)]
  refine fE_call (g_throwing (fI μ 8 0 0 8 (nI w)) a 3) 3 (fun _ => rfl) ?_
  refine fE_ret2 1 (fun _ => rfl) ?_
  exact e
theorem g_launchIt (μ : fM) {u : Nat} {a : Nat → Nat} (O : OKA u a) (x : Int32) : sX8_launchIt [vR 8 0 0, vI x] (gA μ a) = some (mMod (mW μ (sWhy a x)) (sLaunch a x)) := by
  have h6 := O.hulls
  refine fsemV_of (Nat.le_of_ble_eq_true rfl) ?_
  unfold sLaunch
  refine fE_call (g_isHull μ (a := a) (x := x) O) 3 (fun _ => rfl) ?_
  refine fE_ite 1 (fun _ => rfl) (fun q => ?_) (fun q => ?_)
  · skip
    have q := bI_0.mp q
    refine fE_call (g_throwing μ a 1) 3 (fun _ => rfl) ?_
    refine fE_ret2 1 (fun _ => rfl) ?_
    rw [if_neg q, sWhy, if_neg (fun p => q p.1)]
    rfl
  · skip
    have q := bI_n.mp q
    obtain ⟨h, hh, rfl⟩ := nI_ix (by omega) q.1 q.2
    have hx : xN (nI h) = h := nI_clamp (by omega)
    have hs := O.st h (by omega)
    have hf := O.fr h (by omega)
    have hw := hWgt_le O (h := h) (by omega)
    have h1 := O.hour
    have h2 := O.u6
    have hd : hDr a h (hWgt a h) ≤ 41 := dDr_le
    have ht := O.tide (a 1 % 12) (by omega)
    unfold sWhy
    rw [if_pos q, hx]
    refine fE_step (y := fun zz => frun _ _ zz 14 [kR 8 0 0, kN h, none, none] [] _ 0 0) 0 (fun _ => rfl) ?_
    refine fE_call (g_state μ (a := a) (h := h) (by omega)) 3 (fun _ => rfl) ?_
    refine fE_ite 1 (fun _ => rfl) (fun e => ?_) (fun e => ?_)
    · skip
      simp (disch := omega) only [fLit, nI_add, pk_mul, pk_rem, nI_clamp, beq01, beq11, cond_false, cond_true, nI_leI, nI_ltI, nI_eq] at e
      rw [if_pos e, if_pos ⟨q, e⟩]
      refine fE_step (y := fun zz => frun _ _ zz 28 [kR 8 0 0, kN h, none, none] [] _ 0 0) 0 (fun _ => rfl) ?_
      refine fE_call (g_weight μ O (h := h) (by omega)) 5 (fun _ => rfl) ?_
      refine fE_call (g_draught μ O (h := h) (w := hWgt a h) (by omega) (by omega)) 1 (fun _ => rfl) ?_
      refine fE_call (g_frames μ (a := a) (h := h) (by omega)) 4 (fun _ => rfl) ?_
      have fin : ∀ w, hWhy a h = w → w < 4 → w ≠ 0 → fEnds (fun zz => frun eX8_launchIt tX8_launchIt zz 80 [kR 8 0 0, kN h, kX (dI (hDr a h (hWgt a h))), none] [vI (nI w)] (gA μ a) 0 0) (mMod (mW μ (hWhy a h)) (if hWhy a h = 0 then (.inr (nI (hDr a h (hWgt a h))), up a (21 + 28 * h) 1) else (.inl 3, a))) := fun w hw h4 h0 => by
        refine g_launch_1 μ h4 h0 ?_
        rw [hw, if_neg h0, mW, if_neg h0]
        rfl
      refine fE_ite 2 (fun _ => rfl) (fun f => ?_) (fun f => ?_)
      · skip
        simp (disch := omega) only [fLit, nI_add, pk_mul, pk_rem, nI_clamp, beq01, beq11, cond_false, cond_true, nI_leI, nI_ltI, nI_eq] at f
        refine fE_ite 3 (fun _ => rfl) (fun g => ?_) (fun g => ?_)
        · skip
          have g := (dI_m1 hd).mp g
          refine fE_step (y := fun zz => frun _ _ zz 80 [kR 8 0 0, kN h, kX (dI (hDr a h (hWgt a h))), none] [vI (nI 2)] _ 0 0) 2 (fun _ => rfl) ?_
          refine fin 2 ?_ (by omega) (by omega)
          unfold hWhy
          rw [if_neg (by omega), if_pos g]
        · skip
          have g : ¬ hDr a h (hWgt a h) = 41 := fun p => g ((dI_m1 hd).mpr p)
          have ed : dI (hDr a h (hWgt a h)) = nI (hDr a h (hWgt a h)) := if_neg g
          simp (disch := omega) only [fLit, nI_add, pk_mul, pk_rem, nI_clamp, beq01, beq11, cond_false, cond_true, gA_at']
          refine fE_step (y := fun zz => frun _ _ zz 69 [kR 8 0 0, kN h, kX (dI (hDr a h (hWgt a h))), none] [vI ((gA μ a).1 30 0 0 1), vR 8 0 0, vI (dI (hDr a h (hWgt a h)))] _ 0 0) 6 (fun _ => rfl) ?_
          simp (disch := omega) only [fLit, nI_add, pk_mul, pk_rem, nI_clamp, beq01, beq11, cond_false, cond_true, gA_at']
          refine fE_call (g_tide μ (a := a) (t := a 1) (by omega)) 1 (fun _ => rfl) ?_
          refine fE_ite 1 (fun _ => rfl) (fun i => ?_) (fun i => ?_)
          · skip
            rw [ed] at i
            simp (disch := omega) only [fLit, nI_add, pk_mul, pk_rem, nI_clamp, beq01, beq11, cond_false, cond_true, nI_leI, nI_ltI, nI_eq] at i
            have w0 : hWhy a h = 0 := by
              unfold hWhy
              rw [if_neg (by omega), if_neg g, if_pos i]
            rw [w0, if_pos rfl]
            refine fE_step (y := fun zz => frun _ _ zz 96 [kR 8 0 0, kN h, kX (dI (hDr a h (hWgt a h))), kN 0] [] _ 0 0) 4 (fun _ => rfl) ?_
            refine fE_call (m_hullAt (nI h) _) 4 (fun _ => rfl) ?_
            refine fE_pos (by refine g_in (k := 21 + 28 * h) ?_ (show 21 + 28 * h < 213 from by omega) (show 213 < 2 ^ 31 from by decide); first | rfl | (simp (disch := omega) only [fLit, nI_add, pk_mul, pk_rem, pk_sub, nI_clamp]; done)) 2 (fun _ => rfl) ?_
            simp (disch := omega) only [fLit, nI_add, pk_mul, pk_rem, nI_clamp, beq01, beq11, cond_false, cond_true, gA_set]
            refine fE_ret2 2 (fun _ => rfl) ?_
            rw [ed]
            rfl
          · skip
            rw [ed] at i
            simp (disch := omega) only [fLit, nI_add, pk_mul, pk_rem, nI_clamp, beq01, beq11, cond_false, cond_true, nI_leI, nI_ltI, nI_eq] at i
            refine fE_step (y := fun zz => frun _ _ zz 80 [kR 8 0 0, kN h, kX (dI (hDr a h (hWgt a h))), none] [vI (nI 3)] _ 0 0) 2 (fun _ => rfl) ?_
            refine fin 3 ?_ (by omega) (by omega)
            unfold hWhy
            rw [if_neg (by omega), if_neg g, if_neg i]
      · skip
        simp (disch := omega) only [fLit, nI_add, pk_mul, pk_rem, nI_clamp, beq01, beq11, cond_false, cond_true, nI_leI, nI_ltI, nI_eq] at f
        refine fE_step (y := fun zz => frun _ _ zz 80 [kR 8 0 0, kN h, kX (dI (hDr a h (hWgt a h))), none] [vI (nI 1)] _ 0 0) 2 (fun _ => rfl) ?_
        refine fin 1 ?_ (by omega) (by omega)
        unfold hWhy
        rw [if_pos (by omega)]
    · skip
      simp (disch := omega) only [fLit, nI_add, pk_mul, pk_rem, nI_clamp, beq01, beq11, cond_false, cond_true, nI_leI, nI_ltI, nI_eq] at e
      refine fE_call (g_throwing μ a 2) 3 (fun _ => rfl) ?_
      refine fE_ret2 1 (fun _ => rfl) ?_
      rw [if_neg e, if_neg (fun p => e p.2)]
      rfl
