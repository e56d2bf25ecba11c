theorem bu_mono {wide x y : Nat} (h : x ≤ y) : wide * x / 2 ≤ wide * y / 2 := Nat.div_le_div_right (Nat.mul_le_mul_left _ h)
theorem dr_hi {wide w m : Nat} (hm : m < 41) (h : w ≤ wide * m / 2) : dDr wide w ≤ m := by
  refine Nat.not_lt.mp fun p => ?_
  exact nF_not (p := fun d => w ≤ wide * d / 2) (j := 41) (k := 0) (Nat.zero_le _) p h
theorem dr_lo {wide w m : Nat} (hm : m < 41) (h : wide * m / 2 < w) : m < dDr wide w := by
  refine Nat.not_le.mp fun p => ?_
  have h1 := nF_is (p := fun d => w ≤ wide * d / 2) (j := 41) (k := 0) (by show dDr wide w < 0 + 41; omega)
  have h2 : w ≤ wide * dDr wide w / 2 := h1
  have h3 := bu_mono (wide := wide) p
  omega
theorem c_halved_1 {μ : fM} {y h wide w : Nat} (h1 : wide ≤ 840) (h2 : w < 2 ^ 30) : ∀ j l g t z, g ≤ l + j → t + j ≤ 41 → l ≤ dDr wide w → dDr wide w ≤ g → g ≤ 41 → fEnds (fun zz => frun eX1_halvedDraught tX1_halvedDraught zz 19 [kR 1 y h, kN wide, kN w, kN l, kN g, kN t, z] [] μ 0 0) (.inl (some (vI (dI (dDr wide w)))), μ)
  | j, l, g, t, z, hj, ht, hl, hg, h41 => by
    have fin : l = dDr wide w → fEnds (fun zz => frun eX1_halvedDraught tX1_halvedDraught zz 68 [kR 1 y h, kN wide, kN w, kN l, kN g, kN t, z] [] μ 0 0) (.inl (some (vI (dI (dDr wide w)))), μ) := fun e => by
      rw [← e]
      refine fE_ite 3 (fun _ => rfl) (fun q => ?_) (fun q => ?_)
      · skip
        simp (disch := omega) only [fLit, nI_add, pk_mul, pk_rem, nI_clamp, beq01, beq11, cond_false, cond_true, nI_leI, nI_ltI, nI_eq] at q
        refine fE_ret2 2 (fun _ => rfl) ?_
        rw [show dI l = -1 from if_pos (by omega)]
        rfl
      · skip
        simp (disch := omega) only [fLit, nI_add, pk_mul, pk_rem, nI_clamp, beq01, beq11, cond_false, cond_true, nI_leI, nI_ltI, nI_eq] at q
        refine fE_ret2 3 (fun _ => rfl) ?_
        rw [show dI l = nI l from if_neg (by omega)]
        rfl
    refine fE_ite 3 (fun _ => rfl) (fun q => ?_) (fun q => ?_)
    · skip
      simp (disch := omega) only [fLit, nI_add, pk_mul, pk_rem, nI_clamp, beq01, beq11, cond_false, cond_true, nI_leI, nI_ltI, nI_eq] at q
      have e : l = dDr wide w := by omega
      exact fin e
    · skip
      simp (disch := omega) only [fLit, nI_add, pk_mul, pk_rem, nI_clamp, beq01, beq11, cond_false, cond_true, nI_leI, nI_ltI, nI_eq] at q
      refine fE_ite 3 (fun _ => rfl) (fun r => ?_) (fun r => ?_)
      · skip
        have r := (nI_leI (by omega) (by omega)).mp r
        exact fin (by omega)
      · skip
        have r : l < g := Nat.not_le.mp fun p => r (nI_le p (by omega))
        have em : (nI l + nI g) / (2 : Int32) = nI ((l + g) / 2) := by
          rw [fLit, nI_add, pk_div (by omega) (by decide) (by decide)]
        refine fE_step (y := fun zz => frun _ _ zz 40 [kR 1 y h, kN wide, kN w, kN l, kN g, kN t, kX ((nI l + nI g) / 2)] [] _ 0 0) 6 (fun _ => rfl) ?_
        rw [em]
        refine fE_call (c_buoy (x := wide) (d := (l + g) / 2) h1 (by omega)) 3 (fun _ => rfl) ?_
        have hb : wide * ((l + g) / 2) ≤ 840 * 41 := Nat.mul_le_mul h1 (by omega)
        refine fE_ite 2 (fun _ => rfl) (fun s => ?_) (fun s => ?_)
        · skip
          have s := (nI_ltI (by omega) (by omega)).mp s
          have := dr_lo (m := (l + g) / 2) (by omega) s
          refine fE_step (y := fun zz => frun _ _ zz 19 [kR 1 y h, kN wide, kN w, kX (nI ((l + g) / 2) + 1), kN g, kX (nI t + 1), kN ((l + g) / 2)] [] _ 0 0) 6 (fun _ => rfl) ?_
          rw [nI_1, nI_1]
          match j, hj, ht with
          | 0, hj, _ => exact absurd r (by omega)
          | j + 1, hj, ht => exact c_halved_1 h1 h2 j _ _ _ _ (by omega) (by omega) (by omega) hg h41
        · skip
          have s : w ≤ wide * ((l + g) / 2) / 2 := Nat.not_lt.mp fun p => s (nI_lt p (by omega))
          have := dr_hi (m := (l + g) / 2) (by omega) s
          refine fE_step (y := fun zz => frun _ _ zz 19 [kR 1 y h, kN wide, kN w, kN l, kN ((l + g) / 2), kX (nI t + 1), kN ((l + g) / 2)] [] _ 0 0) 5 (fun _ => rfl) ?_
          rw [nI_1]
          match j, hj, ht with
          | 0, hj, _ => exact absurd r (by omega)
          | j + 1, hj, ht => exact c_halved_1 h1 h2 j _ _ _ _ (by omega) (by omega) hl (by omega) (by omega)
theorem c_halved {μ : fM} {y h g : Nat} {a : Nat → Nat} (H : HV μ y h a g) (B : HB a g) : sX1_halvedDraught [vR 1 y h] μ = some (.inl (some (vI (dI (hDr a g (hWgt a g))))), μ) := by
  have hw := B.wgt
  have hd : dDr (hWide a g) (hWgt a g) ≤ 41 := dDr_le
  refine fsemV_of (Nat.le_of_ble_eq_true rfl) ?_
  refine fE_call (c_wide H B) 2 (fun _ => rfl) ?_
  refine fE_call (c_weight H B) 3 (fun _ => rfl) ?_
  refine fE_step (y := fun zz => frun _ _ zz 19 [kR 1 y h, kN (hWide a g), kN (hWgt a g), kN 0, kN 41, kN 0, none] [] _ 0 0) 7 (fun _ => rfl) ?_
  exact c_halved_1 B.wide (by omega) 41 0 41 0 _ (by omega) (by omega) (by omega) hd (by omega)
/-! reflections -/
theorem c_frameEq {μ : fM} {y h y2 h2 g g2 f k : Nat} {a a2 : Nat → Nat} (H : HV μ y h a g) (B : HB a g) (H2 : HV μ y2 h2 a2 g2) (B2 : HB a2 g2) (hf : f < 8) (hk : k < 8) : sX1_frameEqualsReflected [vR 1 y h, vI (nI f), vR 1 y2 h2, vI (nI k)] μ = some (.inl (some (vI (bI (hD a g f 0 = hD a2 g2 k 1 ∧ hD a g f 1 = hD a2 g2 k 0)))), μ) := by
  have l1 := H.2.2.2.2.1 f hf
  have r1 := H.2.2.2.2.2.1 f hf
  have l2 := H2.2.2.2.2.1 k hk
  have r2 := H2.2.2.2.2.2.1 k hk
  have b1 := B.2.2.2.2.1 f 0 hf (by decide)
  have b2 := B.2.2.2.2.1 f 1 hf (by decide)
  have b3 := B2.2.2.2.2.1 k 0 hk (by decide)
  have b4 := B2.2.2.2.2.1 k 1 hk (by decide)
  refine fsemV_of (Nat.le_of_ble_eq_true rfl) ?_
  refine fE_pos (by refine g_in (k := f) ?_ (show f < 8 from by omega) (show 8 < 2 ^ 31 from by decide); first | rfl | (simp (disch := omega) only [fLit, nI_add, pk_mul, pk_rem, pk_sub, nI_clamp]; done)) 4 (fun _ => rfl) ?_
  refine fE_pos (by refine g_in (k := k) ?_ (show k < 8 from by omega) (show 8 < 2 ^ 31 from by decide); first | rfl | (simp (disch := omega) only [fLit, nI_add, pk_mul, pk_rem, pk_sub, nI_clamp]; done)) 4 (fun _ => rfl) ?_
  refine fE_ite 1 (fun _ => rfl) (fun q => ?_) (fun q => ?_)
  · skip
    simp (disch := omega) only [nI_clamp, beq11, cond_true] at q
    rw [l1, r2] at q
    have q := (nI_eq (by omega) (by omega)).mp q
    refine fE_pos (by refine g_in (k := f) ?_ (show f < 8 from by omega) (show 8 < 2 ^ 31 from by decide); first | rfl | (simp (disch := omega) only [fLit, nI_add, pk_mul, pk_rem, pk_sub, nI_clamp]; done)) 4 (fun _ => rfl) ?_
    refine fE_pos (by refine g_in (k := k) ?_ (show k < 8 from by omega) (show 8 < 2 ^ 31 from by decide); first | rfl | (simp (disch := omega) only [fLit, nI_add, pk_mul, pk_rem, pk_sub, nI_clamp]; done)) 4 (fun _ => rfl) ?_
    refine fE_ite 1 (fun _ => rfl) (fun r => ?_) (fun r => ?_)
    · skip
      simp (disch := omega) only [nI_clamp, beq11, cond_true] at r
      rw [r1, l2] at r
      have r := (nI_eq (by omega) (by omega)).mp r
      refine fE_ret2 3 (fun _ => rfl) ?_
      rw [bI_t ⟨q, r⟩]
      rfl
    · skip
      simp (disch := omega) only [nI_clamp, beq11, cond_true] at r
      rw [r1, l2] at r
      refine fE_ret2 2 (fun _ => rfl) ?_
      rw [bI_f (fun p => r (congrArg nI p.2))]
      rfl
  · skip
    simp (disch := omega) only [nI_clamp, beq11, cond_true] at q
    rw [l1, r2] at q
    refine fE_ret2 2 (fun _ => rfl) ?_
    rw [bI_f (fun p => q (congrArg nI p.1))]
    rfl
theorem c_isForSlips {μ : fM} {y h g : Nat} {a : Nat → Nat} (H : HV μ y h a g) (B : HB a g) : sX1_isForSlips [vR 1 y h] μ = some (.inl (some (vI (bI (hS a g = 0 ∧ 2 ≤ hF a g)))), μ) := by
  have hf := H.1
  have hs := H.2.1
  have b1 := B.1
  have b2 := B.2.1
  refine fsemV_of (Nat.le_of_ble_eq_true rfl) ?_
  refine fE_ite 3 (fun _ => rfl) (fun q => ?_) (fun q => ?_)
  · skip
    change μ.1 1 y h 4 = 0 at q
    rw [hs] at q
    simp (disch := omega) only [fLit, nI_add, pk_mul, pk_rem, nI_clamp, beq01, beq11, cond_false, cond_true, nI_leI, nI_ltI, nI_eq] at q
    refine fE_ite 4 (fun _ => rfl) (fun r => ?_) (fun r => ?_)
    · skip
      change μ.1 1 y h 3 < 2 at r
      rw [hf] at r
      simp (disch := omega) only [fLit, nI_add, pk_mul, pk_rem, nI_clamp, beq01, beq11, cond_false, cond_true, nI_leI, nI_ltI, nI_eq] at r
      refine fE_ret2 2 (fun _ => rfl) ?_
      rw [bI_f (by omega)]
      rfl
    · skip
      change ¬ μ.1 1 y h 3 < 2 at r
      rw [hf] at r
      simp (disch := omega) only [fLit, nI_add, pk_mul, pk_rem, nI_clamp, beq01, beq11, cond_false, cond_true, nI_leI, nI_ltI, nI_eq] at r
      refine fE_ret2 3 (fun _ => rfl) ?_
      rw [bI_t (by omega)]
      rfl
  · skip
    change ¬ μ.1 1 y h 4 = 0 at q
    rw [hs] at q
    simp (disch := omega) only [fLit, nI_add, pk_mul, pk_rem, nI_clamp, beq01, beq11, cond_false, cond_true, nI_leI, nI_ltI, nI_eq] at q
    refine fE_ret2 2 (fun _ => rfl) ?_
    rw [bI_f (by omega)]
    rfl
/-! what changes leave of a hull -/
theorem HV_out {μ μ' : fM} {y h g : Nat} {a : Nat → Nat} (H : HV μ y h a g) (e : ∀ c k, c = 1 ∨ c = 10 ∨ c = 11 ∨ c = 12 → μ'.1 c y h k = μ.1 c y h k) : HV μ' y h a g :=
  ⟨(e 1 3 (by omega)).trans H.1, (e 1 4 (by omega)).trans H.2.1, (e 1 5 (by omega)).trans H.2.2.1, (e 1 6 (by omega)).trans H.2.2.2.1, fun k hk => (e 10 k (by omega)).trans (H.2.2.2.2.1 k hk), fun k hk => (e 11 k (by omega)).trans (H.2.2.2.2.2.1 k hk), fun k hk => (e 12 k (by omega)).trans (H.2.2.2.2.2.2 k hk)⟩
theorem HV_eq {μ : fM} {y h g g2 : Nat} {a a2 : Nat → Nat} (H : HV μ y h a g) (b1 : hF a g ≤ 8) (e : ∀ i, i < 28 → a (21 + 28 * g + i) = a2 (21 + 28 * g2 + i)) : HV μ y h a2 g2 := by
  have e0 : hS a g = hS a2 g2 := e 0 (by omega)
  have e1 : hF a g = hF a2 g2 := e 1 (by omega)
  have e2 : hC a g = hC a2 g2 := e 2 (by omega)
  have e3 : hW a g = hW a2 g2 := e 3 (by omega)
  have ed : ∀ k s, k < 8 → s < 2 → hD a g k s = hD a2 g2 k s := fun k s hk hs => by
    have := e (4 + 2 * k + s) (by omega)
    rw [show 21 + 28 * g + (4 + 2 * k + s) = 21 + 28 * g + 4 + 2 * k + s from by omega, show 21 + 28 * g2 + (4 + 2 * k + s) = 21 + 28 * g2 + 4 + 2 * k + s from by omega] at this
    exact this
  have ek : ∀ k, k < 8 → hK a g k = hK a2 g2 k := fun k hk => by
    have := e (20 + k) (by omega)
    rw [← Nat.add_assoc, ← Nat.add_assoc] at this
    exact this
  refine ⟨e1 ▸ H.1, e0 ▸ H.2.1, e2 ▸ H.2.2.1, e3 ▸ H.2.2.2.1, fun k hk => by rw [← ed k 0 hk (by decide)]; exact H.2.2.2.2.1 k hk, fun k hk => by rw [← ed k 1 hk (by decide)]; exact H.2.2.2.2.2.1 k hk, fun k hk => ?_⟩
  rw [← e1] at hk ⊢
  rw [H.2.2.2.2.2.2 k hk]
  by_cases l : k + 1 < hF a g
  · rw [if_pos l, if_pos l]
    rw [ek k (by omega)]
  · rw [if_neg l, if_neg l]
theorem HV_water {μ : fM} {y h g v : Nat} {a : Nat → Nat} (H : HV μ y h a g) (B : HB a g) : HV (fI μ 1 y h 6 (nI v)) y h (up a (21 + 28 * g + 3) v) g := by
  have b1 := B.1
  have e1 : hF (up a (21 + 28 * g + 3) v) g = hF a g := up_ne (by omega)
  refine ⟨?_, ?_, ?_, ?_, fun k hk => ?_, fun k hk => ?_, fun k hk => ?_⟩
  · rw [e1, fI_ne (by omega)]; exact H.1
  · rw [fI_ne (by omega), show hS (up a (21 + 28 * g + 3) v) g = hS a g from up_ne (by omega)]; exact H.2.1
  · rw [fI_ne (by omega), show hC (up a (21 + 28 * g + 3) v) g = hC a g from up_ne (by omega)]; exact H.2.2.1
  · rw [fI_at, show hW (up a (21 + 28 * g + 3) v) g = v from up_at]
  · rw [fI_ne (by omega), show hD (up a (21 + 28 * g + 3) v) g k 0 = hD a g k 0 from up_ne (by omega)]; exact H.2.2.2.2.1 k hk
  · rw [fI_ne (by omega), show hD (up a (21 + 28 * g + 3) v) g k 1 = hD a g k 1 from up_ne (by omega)]; exact H.2.2.2.2.2.1 k hk
  · rw [e1] at hk ⊢
    rw [fI_ne (by omega), show hK (up a (21 + 28 * g + 3) v) g k = hK a g k from up_ne (by omega)]; exact H.2.2.2.2.2.2 k hk
theorem HV_caulk {μ : fM} {y h g v i : Nat} {a : Nat → Nat} (H : HV μ y h a g) (B : HB a g) (hi : i + 1 < hF a g) : HV (fI μ 12 y h i (nI v)) y h (up a (21 + 28 * g + 20 + i) v) g := by
  have b1 := B.1
  have e1 : hF (up a (21 + 28 * g + 20 + i) v) g = hF a g := up_ne (by omega)
  refine ⟨?_, ?_, ?_, ?_, fun k hk => ?_, fun k hk => ?_, fun k hk => ?_⟩
  · rw [e1, fI_ne (by omega)]; exact H.1
  · rw [fI_ne (by omega), show hS (up a (21 + 28 * g + 20 + i) v) g = hS a g from up_ne (by omega)]; exact H.2.1
  · rw [fI_ne (by omega), show hC (up a (21 + 28 * g + 20 + i) v) g = hC a g from up_ne (by omega)]; exact H.2.2.1
  · rw [fI_ne (by omega), show hW (up a (21 + 28 * g + 20 + i) v) g = hW a g from up_ne (by omega)]; exact H.2.2.2.1
  · rw [fI_ne (by omega), show hD (up a (21 + 28 * g + 20 + i) v) g k 0 = hD a g k 0 from up_ne (by omega)]; exact H.2.2.2.2.1 k hk
  · rw [fI_ne (by omega), show hD (up a (21 + 28 * g + 20 + i) v) g k 1 = hD a g k 1 from up_ne (by omega)]; exact H.2.2.2.2.2.1 k hk
  · rw [e1] at hk ⊢
    by_cases e : k = i
    · subst e
      rw [fI_at, if_pos hi, show hK (up a (21 + 28 * g + 20 + k) v) g k = v from up_at]
    · rw [fI_ne (by omega), show hK (up a (21 + 28 * g + 20 + i) v) g k = hK a g k from up_ne (by omega)]; exact H.2.2.2.2.2.2 k hk
