/-! THE CLASS'S HULLS: the hull (1, y, h) stands for hull g of a -/
def HV (μ : fM) (y h : Nat) (a : Nat → Nat) (g : Nat) : Prop :=
  μ.1 1 y h 3 = nI (hF a g) ∧ μ.1 1 y h 4 = nI (hS a g) ∧ μ.1 1 y h 5 = nI (hC a g) ∧ μ.1 1 y h 6 = nI (hW a g) ∧ (∀ k, k < 8 → μ.1 10 y h k = nI (hD a g k 0)) ∧ (∀ k, k < 8 → μ.1 11 y h k = nI (hD a g k 1)) ∧ (∀ k, k < hF a g → μ.1 12 y h k = nI (if k + 1 < hF a g then hK a g k else 9))
def HB (a : Nat → Nat) (g : Nat) : Prop :=
  hF a g ≤ 8 ∧ hS a g ≤ 3 ∧ hC a g ≤ 999 ∧ hW a g ≤ 40000000 ∧ (∀ k s, k < 8 → s < 2 → hD a g k s ≤ 30) ∧ (∀ k, k < 7 → hK a g k ≤ 9)
theorem OKA.hb {u : Nat} {a : Nat → Nat} (O : OKA u a) {g : Nat} (hg : g < 6) : HB a g := by
  have h1 := O.hour
  have h2 := O.u6
  have h3 := O.wt g hg
  exact ⟨O.fr g hg, O.st g hg, O.cg g hg, by omega, fun k s hk hs => O.wd g k s hg hk hs, fun k hk => O.ck g k hg hk⟩
theorem HB.dry {a : Nat → Nat} {g : Nat} (B : HB a g) : hDry a g ≤ 1479 := by
  have h1 := B.1
  have h2 := B.2.2.1
  have h3 : nT (fun k => hD a g k 0 + hD a g k 1) 0 (hF a g) ≤ hF a g * 60 := nT_le fun i _ hi => by
    have h4 := B.2.2.2.2.1 i 0 (by omega) (by decide)
    have h5 := B.2.2.2.2.1 i 1 (by omega) (by decide)
    show hD a g i 0 + hD a g i 1 ≤ 60
    omega
  unfold hDry
  omega
theorem HB.wgt {a : Nat → Nat} {g : Nat} (B : HB a g) : hWgt a g ≤ 40001479 := by
  have h1 := B.dry
  have h2 := B.2.2.2.1
  unfold hWgt
  omega
theorem HB.wide {a : Nat → Nat} {g : Nat} (B : HB a g) : hWide a g ≤ 840 := by
  have h2 := B.1
  have h3 : hWide a g ≤ (hF a g - 1) * 120 := nT_le fun i _ hi => by
    have h4 := B.2.2.2.2.1 i 0 (by omega) (by decide)
    have h5 := B.2.2.2.2.1 i 1 (by omega) (by decide)
    have h6 := B.2.2.2.2.1 (i + 1) 0 (by omega) (by decide)
    have h7 := B.2.2.2.2.1 (i + 1) 1 (by omega) (by decide)
    show hD a g i 0 + hD a g i 1 + hD a g (i + 1) 0 + hD a g (i + 1) 1 ≤ 120
    omega
  omega
theorem c_weight_1 {μ : fM} {y h g : Nat} {a : Nat → Nat} (H : HV μ y h a g) (B : HB a g) : ∀ j k x, k + j = hF a g → fEnds (fun zz => frun eX1_weight tX1_weight zz 12 [kR 1 y h, kN x, kN k] [] μ 0 0) (.inl (some (vI (nI (x + nT (fun k => hD a g k 0 + hD a g k 1) k j)))), μ)
  | 0, k, x, e => by
    have h8 := B.1
    have hf := H.1
    refine fE_pos (by first | omega | (simp (disch := omega) only [fLit, nI_add, pk_mul, pk_rem, nI_clamp, beq01, beq11, cond_false, cond_true, nI_leI, nI_ltI, nI_eq, hf]; done) | (simp (disch := omega) only [fLit, nI_add, pk_mul, pk_rem, nI_clamp, beq01, beq11, cond_false, cond_true, nI_leI, nI_ltI, nI_eq, hf]; omega)) 4 (fun _ => rfl) ?_
    exact fE_ret 2 (fun _ => rfl)
  | j + 1, k, x, e => by
    have h8 := B.1
    have hf := H.1
    have hl := H.2.2.2.2.1 k (by omega)
    have hr := H.2.2.2.2.2.1 k (by omega)
    refine fE_neg (by first | omega | (simp (disch := omega) only [fLit, nI_add, pk_mul, pk_rem, nI_clamp, beq01, beq11, cond_false, cond_true, nI_leI, nI_ltI, nI_eq, hf]; done) | (simp (disch := omega) only [fLit, nI_add, pk_mul, pk_rem, nI_clamp, beq01, beq11, cond_false, cond_true, nI_leI, nI_ltI, nI_eq, hf]; omega)) 4 (fun _ => rfl) ?_
    refine fE_pos (by refine g_in (k := k) ?_ (show k < 8 from by omega) (show 8 < 2 ^ 31 from by decide); first | rfl | (simp (disch := omega) only [fLit, nI_add, pk_mul, pk_rem, pk_sub, nI_clamp]; done)) 5 (fun _ => rfl) ?_
    refine fE_pos (by refine g_in (k := k) ?_ (show k < 8 from by omega) (show 8 < 2 ^ 31 from by decide); first | rfl | (simp (disch := omega) only [fLit, nI_add, pk_mul, pk_rem, pk_sub, nI_clamp]; done)) 4 (fun _ => rfl) ?_
    simp (disch := omega) only [fLit, nI_add, pk_mul, pk_rem, nI_clamp, beq01, beq11, cond_false, cond_true, hl, hr]
    refine fE_step (y := fun zz => frun _ _ zz 12 [kR 1 y h, kX (nI x + (nI (hD a g k 0) + nI (hD a g k 1))), kX (nI k + 1)] [] _ 0 0) 5 (fun _ => rfl) ?_
    simp (disch := omega) only [fLit, nI_add, pk_mul, pk_rem, nI_clamp, beq01, beq11, cond_false, cond_true]
    refine fE_cg (c_weight_1 H B j (k + 1) (x + (hD a g k 0 + hD a g k 1)) (by omega)) ?_
    rw [nT, Nat.add_assoc]
theorem c_weight {μ : fM} {y h g : Nat} {a : Nat → Nat} (H : HV μ y h a g) (B : HB a g) : sX1_weight [vR 1 y h] μ = some (.inl (some (vI (nI (hWgt a g)))), μ) := by
  refine fsemV_of (Nat.le_of_ble_eq_true rfl) ?_
  have hc := H.2.2.1
  have hw := H.2.2.2.1
  refine fE_step (y := fun zz => frun _ _ zz 12 [kR 1 y h, kX (μ.1 1 y h 5 + μ.1 1 y h 6), kN 0] [] _ 0 0) 8 (fun _ => rfl) ?_
  rw [hc, hw, nI_add]
  refine fE_cg (c_weight_1 H B (hF a g) 0 (hC a g + hW a g) (by omega)) ?_
  rw [hWgt, hDry, Nat.add_right_comm]
theorem ge_pred {F k : Nat} (hF : F < 2 ^ 30) (hk : k < 2 ^ 30) : (nI F - 1 ≤ nI k) ↔ F - 1 ≤ k := by
  show nI F - nI 1 ≤ nI k ↔ _
  rw [Int32.le_iff_toInt_le, pk_sub_toInt (a := F) (b := 1) (by omega) (by omega), nI_toInt (by omega)]
  omega
theorem c_wide_1 {μ : fM} {y h g : Nat} {a : Nat → Nat} (H : HV μ y h a g) (B : HB a g) : ∀ j k x, k + j = hF a g - 1 → fEnds (fun zz => frun eX1_widthsAtSeams tX1_widthsAtSeams zz 4 [kR 1 y h, kN x, kN k] [] μ 0 0) (.inl (some (vI (nI (x + nT (fun k => hD a g k 0 + hD a g k 1 + hD a g (k + 1) 0 + hD a g (k + 1) 1) k j)))), μ)
  | 0, k, x, e => by
    have h8 := B.1
    have hf := H.1
    refine fE_pos (by show μ.1 1 y h 3 - 1 ≤ nI k; rw [hf, ge_pred (by omega) (by omega)]; omega) 6 (fun _ => rfl) ?_
    exact fE_ret 2 (fun _ => rfl)
  | j + 1, k, x, e => by
    have h8 := B.1
    have hf := H.1
    have hl := H.2.2.2.2.1 k (by omega)
    have hr := H.2.2.2.2.2.1 k (by omega)
    have hl1 := H.2.2.2.2.1 (k + 1) (by omega)
    have hr1 := H.2.2.2.2.2.1 (k + 1) (by omega)
    refine fE_neg (fun p => by change μ.1 1 y h 3 - 1 ≤ nI k at p; rw [hf, ge_pred (by omega) (by omega)] at p; omega) 6 (fun _ => rfl) ?_
    refine fE_pos (by refine g_in (k := k) ?_ (show k < 8 from by omega) (show 8 < 2 ^ 31 from by decide); first | rfl | (simp (disch := omega) only [fLit, nI_add, pk_mul, pk_rem, pk_sub, nI_clamp]; done)) 5 (fun _ => rfl) ?_
    refine fE_pos (by refine g_in (k := k) ?_ (show k < 8 from by omega) (show 8 < 2 ^ 31 from by decide); first | rfl | (simp (disch := omega) only [fLit, nI_add, pk_mul, pk_rem, pk_sub, nI_clamp]; done)) 4 (fun _ => rfl) ?_
    refine fE_pos (by refine g_in (k := k + 1) ?_ (show k + 1 < 8 from by omega) (show 8 < 2 ^ 31 from by decide); first | rfl | (simp (disch := omega) only [fLit, nI_add, pk_mul, pk_rem, pk_sub, nI_clamp]; done)) 7 (fun _ => rfl) ?_
    refine fE_pos (by refine g_in (k := k + 1) ?_ (show k + 1 < 8 from by omega) (show 8 < 2 ^ 31 from by decide); first | rfl | (simp (disch := omega) only [fLit, nI_add, pk_mul, pk_rem, pk_sub, nI_clamp]; done)) 7 (fun _ => rfl) ?_
    simp (disch := omega) only [fLit, nI_add, pk_mul, pk_rem, nI_clamp, beq01, beq11, cond_false, cond_true, hl, hr, hl1, hr1]
    refine fE_step (y := fun zz => frun _ _ zz 4 [kR 1 y h, kX (nI x + (nI (hD a g k 0 + hD a g k 1 + hD a g (k + 1) 0) + nI (hD a g (k + 1) 1))), kX (nI k + 1)] [] _ 0 0) 5 (fun _ => rfl) ?_
    simp (disch := omega) only [fLit, nI_add, pk_mul, pk_rem, nI_clamp, beq01, beq11, cond_false, cond_true]
    refine fE_cg (c_wide_1 H B j (k + 1) (x + (hD a g k 0 + hD a g k 1 + hD a g (k + 1) 0 + hD a g (k + 1) 1)) (by omega)) ?_
    rw [nT, Nat.add_assoc]
theorem c_wide {μ : fM} {y h g : Nat} {a : Nat → Nat} (H : HV μ y h a g) (B : HB a g) : sX1_widthsAtSeams [vR 1 y h] μ = some (.inl (some (vI (nI (hWide a g)))), μ) := by
  refine fsemV_of (Nat.le_of_ble_eq_true rfl) ?_
  refine fE_step (y := fun zz => frun _ _ zz 4 [kR 1 y h, kN 0, kN 0] [] _ 0 0) 4 (fun _ => rfl) ?_
  refine fE_cg (c_wide_1 H B (hF a g - 1) 0 0 (by omega)) ?_
  rw [Nat.zero_add]
  rfl
theorem c_buoy {μ : fM} {x d : Nat} (hx : x ≤ 840) (hd : d ≤ 41) : sX1_buoyancy [vI (nI x), vI (nI d)] μ = some (.inl (some (vI (nI (x * d / 2)))), μ) := by
  have hm : x * d ≤ 840 * 41 := Nat.mul_le_mul hx hd
  refine fsem_of (Nat.le_of_ble_eq_true rfl) ?_
  refine fE_ret2 6 (fun _ => rfl) ?_
  show (Sum.inl (some (vI (nI x * nI d / nI 2))), μ) = _
  rw [pk_mul, pk_div (by omega) (by decide) (by decide)]
theorem c_tried_1 {μ : fM} {y h wide w : Nat} (h1 : wide ≤ 840) (h2 : w < 2 ^ 30) : ∀ j k, k + j = 41 → fEnds (fun zz => frun eX1_triedDraught tX1_triedDraught zz 12 [kR 1 y h, kN wide, kN w, kN k] [] μ 0 0) (.inl (some (vI (dI (nF (fun d => w ≤ wide * d / 2) k j)))), μ)
  | 0, k, e => by
    obtain rfl : k = 41 := e
    exact fE_ret 5 (fun _ => rfl)
  | j + 1, k, e => by
    have hm : wide * k ≤ 840 * 40 := Nat.mul_le_mul h1 (by omega)
    refine fE_neg (by first | omega | (simp (disch := omega) only [fLit, nI_add, pk_mul, pk_rem, nI_clamp, beq01, beq11, cond_false, cond_true, nI_leI, nI_ltI, nI_eq]; done) | (simp (disch := omega) only [fLit, nI_add, pk_mul, pk_rem, nI_clamp, beq01, beq11, cond_false, cond_true, nI_leI, nI_ltI, nI_eq]; omega)) 3 (fun _ => rfl) ?_
    refine fE_call (c_buoy (x := wide) (d := k) h1 (by omega)) 3 (fun _ => rfl) ?_
    refine fE_ite 2 (fun _ => rfl) (fun q => ?_) (fun q => ?_)
    · skip
      have q := (nI_ltI (by omega) (by omega)).mp q
      refine fE_step (y := fun zz => frun _ _ zz 12 [kR 1 y h, kN wide, kN w, kX (nI k + 1)] [] _ 0 0) 2 (fun _ => rfl) ?_
      rw [nI_1, nF, if_neg (by omega)]
      exact c_tried_1 h1 h2 j (k + 1) (by omega)
    · skip
      have q : w ≤ wide * k / 2 := Nat.not_lt.mp fun p => q (nI_lt p (by omega))
      refine fE_ret2 2 (fun _ => rfl) ?_
      rw [nF, if_pos q]
      show _ = (Sum.inl (some (vI (if k = 41 then -1 else nI k))), μ)
      rw [if_neg (by omega)]
      rfl
theorem c_tried {μ : fM} {y h g : Nat} {a : Nat → Nat} (H : HV μ y h a g) (B : HB a g) : sX1_triedDraught [vR 1 y h] μ = some (.inl (some (vI (dI (hDr a g (hWgt a g))))), μ) := by
  have hw := B.wgt
  refine fsemV_of (Nat.le_of_ble_eq_true rfl) ?_
  refine fE_call (c_wide H B) 2 (fun _ => rfl) ?_
  refine fE_call (c_weight H B) 3 (fun _ => rfl) ?_
  refine fE_step (y := fun zz => frun _ _ zz 12 [kR 1 y h, kN (hWide a g), kN (hWgt a g), kN 0] [] _ 0 0) 3 (fun _ => rfl) ?_
  exact c_tried_1 B.wide (by omega) 41 0 (by omega)
theorem c_floats {μ : fM} {y h g : Nat} {a : Nat → Nat} (H : HV μ y h a g) (B : HB a g) : sX1_floats [vR 1 y h] μ = some (.inl (some (vI (bI (hWgt a g ≤ hWide a g * 40 / 2)))), μ) := by
  have hw := B.wgt
  have hd := B.wide
  refine fsemV_of (Nat.le_of_ble_eq_true rfl) ?_
  refine fE_call (c_wide H B) 2 (fun _ => rfl) ?_
  refine fE_call (c_buoy (x := hWide a g) (d := 40) hd (by decide)) 2 (fun _ => rfl) ?_
  refine fE_call (c_weight H B) 2 (fun _ => rfl) ?_
  refine fE_ite 1 (fun _ => rfl) (fun q => ?_) (fun q => ?_)
  · skip
    have q := (nI_ltI (by omega) (by omega)).mp q
    refine fE_ret2 2 (fun _ => rfl) ?_
    rw [bI_f (by omega)]
    rfl
  · skip
    have q := fun p => q (nI_lt (a := hWide a g * 40 / 2) (b := hWgt a g) p (by omega))
    refine fE_ret2 3 (fun _ => rfl) ?_
    rw [bI_t (Nat.not_lt.mp q)]
    rfl
theorem c_heel_1 {μ : fM} {y h g : Nat} {a : Nat → Nat} (H : HV μ y h a g) (B : HB a g) : ∀ j k x, k + j = hF a g → fEnds (fun zz => frun eX1_heel tX1_heel zz 4 [kR 1 y h, kX x, kN k] [] μ 0 0) (.inl (some (vI (iT (fun k => nI (hD a g k 0) - nI (hD a g k 1)) x k j))), μ)
  | 0, k, x, e => by
    have h8 := B.1
    have hf := H.1
    refine fE_pos (by first | omega | (simp (disch := omega) only [fLit, nI_add, pk_mul, pk_rem, nI_clamp, beq01, beq11, cond_false, cond_true, nI_leI, nI_ltI, nI_eq, hf]; done) | (simp (disch := omega) only [fLit, nI_add, pk_mul, pk_rem, nI_clamp, beq01, beq11, cond_false, cond_true, nI_leI, nI_ltI, nI_eq, hf]; omega)) 4 (fun _ => rfl) ?_
    exact fE_ret 2 (fun _ => rfl)
  | j + 1, k, x, e => by
    have h8 := B.1
    have hf := H.1
    have hl := H.2.2.2.2.1 k (by omega)
    have hr := H.2.2.2.2.2.1 k (by omega)
    refine fE_neg (by first | omega | (simp (disch := omega) only [fLit, nI_add, pk_mul, pk_rem, nI_clamp, beq01, beq11, cond_false, cond_true, nI_leI, nI_ltI, nI_eq, hf]; done) | (simp (disch := omega) only [fLit, nI_add, pk_mul, pk_rem, nI_clamp, beq01, beq11, cond_false, cond_true, nI_leI, nI_ltI, nI_eq, hf]; omega)) 4 (fun _ => rfl) ?_
    refine fE_pos (by refine g_in (k := k) ?_ (show k < 8 from by omega) (show 8 < 2 ^ 31 from by decide); first | rfl | (simp (disch := omega) only [fLit, nI_add, pk_mul, pk_rem, pk_sub, nI_clamp]; done)) 5 (fun _ => rfl) ?_
    refine fE_pos (by refine g_in (k := k) ?_ (show k < 8 from by omega) (show 8 < 2 ^ 31 from by decide); first | rfl | (simp (disch := omega) only [fLit, nI_add, pk_mul, pk_rem, pk_sub, nI_clamp]; done)) 4 (fun _ => rfl) ?_
    simp (disch := omega) only [fLit, nI_add, pk_mul, pk_rem, nI_clamp, beq01, beq11, cond_false, cond_true, hl, hr]
    refine fE_step (y := fun zz => frun _ _ zz 4 [kR 1 y h, kX (x + (nI (hD a g k 0) - nI (hD a g k 1))), kX (nI k + 1)] [] _ 0 0) 5 (fun _ => rfl) ?_
    rw [nI_1]
    exact c_heel_1 H B j (k + 1) _ (by omega)
theorem c_heel {μ : fM} {y h g : Nat} {a : Nat → Nat} (H : HV μ y h a g) (B : HB a g) : sX1_heel [vR 1 y h] μ = some (.inl (some (vI (iT (fun k => nI (hD a g k 0) - nI (hD a g k 1)) 0 0 (hF a g)))), μ) := by
  refine fsemV_of (Nat.le_of_ble_eq_true rfl) ?_
  refine fE_step (y := fun zz => frun _ _ zz 4 [kR 1 y h, kN 0, kN 0] [] _ 0 0) 4 (fun _ => rfl) ?_
  exact c_heel_1 H B (hF a g) 0 _ (by omega)
theorem c_isFromTo (x lo hi : Int32) (μ : fM) : sX7_isFromTo [vI x, vI lo, vI hi] μ = some (.inl (some (vI (bI (lo ≤ x ∧ x ≤ hi)))), μ) := by
  refine fsem_of (Nat.le_of_ble_eq_true rfl) ?_
  refine fE_ite 3 (fun _ => rfl) (fun q => ?_) (fun q => ?_)
  · skip
    refine fE_ret2 2 (fun _ => rfl) ?_
    rw [bI_f (fun p => absurd p.1 (Int32.not_le.mpr q))]
    rfl
  · skip
    refine fE_ite 3 (fun _ => rfl) (fun r => ?_) (fun r => ?_)
    · skip
      refine fE_ret2 2 (fun _ => rfl) ?_
      rw [bI_f (fun p => absurd p.2 (Int32.not_le.mpr r))]
      rfl
    · skip
      refine fE_ret2 3 (fun _ => rfl) ?_
      rw [bI_t ⟨Int32.not_lt.mp q, Int32.not_lt.mp r⟩]
      rfl
