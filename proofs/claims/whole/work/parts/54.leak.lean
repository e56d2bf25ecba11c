/-! WHAT A CALL LEAVES AS IT IS -/
def sX' (P : Nat → Nat → Nat → Nat → Prop) (μ μ' : fM) : Prop := (∀ c y h k, ¬ P c y h k → μ'.1 c y h k = μ.1 c y h k) ∧ μ'.2 = μ.2
theorem sX_refl {P : Nat → Nat → Nat → Nat → Prop} {μ : fM} : sX' P μ μ := ⟨fun _ _ _ _ _ => rfl, rfl⟩
theorem sX_trans {P : Nat → Nat → Nat → Nat → Prop} {μ μ' μ'' : fM} (h1 : sX' P μ μ') (h2 : sX' P μ' μ'') : sX' P μ μ'' := ⟨fun c y h k q => (h2.1 c y h k q).trans (h1.1 c y h k q), h2.2.trans h1.2⟩
theorem sX_mono {P Q : Nat → Nat → Nat → Nat → Prop} {μ μ' : fM} (h1 : sX' P μ μ') (h : ∀ c y h k, P c y h k → Q c y h k) : sX' Q μ μ' := ⟨fun c y h' k q => h1.1 c y h' k (fun p => q (h c y h' k p)), h1.2⟩
theorem sX_fI {P : Nat → Nat → Nat → Nat → Prop} {μ : fM} {c y h k : Nat} {v : Int32} (hp : P c y h k) : sX' P μ (fI μ c y h k v) := ⟨fun c' y' h' k' q => fI_ne (fun e => q (by obtain ⟨rfl, rfl, rfl, rfl⟩ := e; exact hp)), rfl⟩
/-- one hull's places -/
def hP (y h : Nat) (c y' h' _k : Nat) : Prop := (c = 1 ∨ c = 10 ∨ c = 11 ∨ c = 12) ∧ y' = y ∧ h' = h
def lkS (t g k : Nat) (b : Nat → Nat) : Nat → Nat :=
  if t % 6 = 0 then up (up b (21 + 28 * g + 3) (hW b g + (9 - hK b g k))) (21 + 28 * g + 20 + k) (hK b g k - 1)
  else up b (21 + 28 * g + 3) (hW b g + (9 - hK b g k))
def lkR (t g : Nat) : Nat → Nat → (Nat → Nat) → (Nat → Nat)
  | 0, _, b => b
  | j + 1, k, b => lkR t g j (k + 1) (lkS t g k b)
theorem HB_water {g v : Nat} {a : Nat → Nat} (B : HB a g) (hv : v ≤ 40000000) : HB (up a (21 + 28 * g + 3) v) g := by
  refine ⟨?_, ?_, ?_, ?_, fun k s hk hs => ?_, fun k hk => ?_⟩
  · rw [show hF (up a (21 + 28 * g + 3) v) g = hF a g from up_ne (by omega)]; exact B.1
  · rw [show hS (up a (21 + 28 * g + 3) v) g = hS a g from up_ne (by omega)]; exact B.2.1
  · rw [show hC (up a (21 + 28 * g + 3) v) g = hC a g from up_ne (by omega)]; exact B.2.2.1
  · rw [show hW (up a (21 + 28 * g + 3) v) g = v from up_at]; exact hv
  · rw [show hD (up a (21 + 28 * g + 3) v) g k s = hD a g k s from up_ne (by omega)]; exact B.2.2.2.2.1 k s hk hs
  · rw [show hK (up a (21 + 28 * g + 3) v) g k = hK a g k from up_ne (by omega)]; exact B.2.2.2.2.2 k hk
theorem HB_caulk {g i v : Nat} {a : Nat → Nat} (B : HB a g) (hv : v ≤ 9) : HB (up a (21 + 28 * g + 20 + i) v) g := by
  refine ⟨?_, ?_, ?_, ?_, fun k s hk hs => ?_, fun k hk => ?_⟩
  · rw [show hF (up a (21 + 28 * g + 20 + i) v) g = hF a g from up_ne (by omega)]; exact B.1
  · rw [show hS (up a (21 + 28 * g + 20 + i) v) g = hS a g from up_ne (by omega)]; exact B.2.1
  · rw [show hC (up a (21 + 28 * g + 20 + i) v) g = hC a g from up_ne (by omega)]; exact B.2.2.1
  · rw [show hW (up a (21 + 28 * g + 20 + i) v) g = hW a g from up_ne (by omega)]; exact B.2.2.2.1
  · rw [show hD (up a (21 + 28 * g + 20 + i) v) g k s = hD a g k s from up_ne (by omega)]; exact B.2.2.2.2.1 k s hk hs
  · by_cases e : k = i
    · subst e
      rw [show hK (up a (21 + 28 * g + 20 + k) v) g k = v from up_at]; exact hv
    · rw [show hK (up a (21 + 28 * g + 20 + i) v) g k = hK a g k from up_ne (by omega)]; exact B.2.2.2.2.2 k hk
theorem c_leak_1 {y h g t : Nat} (ht : t < 2 ^ 30) : ∀ j k (μ : fM) (b : Nat → Nat), HV μ y h b g → HB b g → hW b g + 9 * j ≤ 40000000 → k + j = hF b g - 1 → ∃ μ', fEnds (fun zz => frun eX1_leak tX1_leak zz 2 [kR 1 y h, kN t, kN k] [] μ 0 0) (.inl none, μ') ∧ HV μ' y h (lkR t g j k b) g ∧ sX' (hP y h) μ μ'
  | 0, k, μ, b, H, B, hw, e => by
    have h8 := B.1
    have hf := H.1
    refine ⟨μ, ?_, H, sX_refl⟩
    refine fE_pos (by show μ.1 1 y h 3 - 1 ≤ nI k; rw [hf, ge_pred (by omega) (by omega)]; omega) 6 (fun _ => rfl) ?_
    exact fE_ret 1 (fun _ => rfl)
  | j + 1, k, μ, b, H, B, hw, e => by
    have h8 := B.1
    have hf := H.1
    have hwt := H.2.2.2.1
    have hb4 := B.2.2.2.1
    have hk9 := B.2.2.2.2.2 k (by omega)
    have hc := H.2.2.2.2.2.2 k (by omega)
    rw [if_pos (by omega)] at hc
    have H1 := HV_water (v := hW b g + (9 - hK b g k)) H B
    have B1 := HB_water (v := hW b g + (9 - hK b g k)) B (by omega)
    have f1 : hF (up b (21 + 28 * g + 3) (hW b g + (9 - hK b g k))) g = hF b g := up_ne (by omega)
    have k1 : hK (up b (21 + 28 * g + 3) (hW b g + (9 - hK b g k))) g k = hK b g k := up_ne (by omega)
    have w1 : hW (up b (21 + 28 * g + 3) (hW b g + (9 - hK b g k))) g = hW b g + (9 - hK b g k) := up_at
    have cc : (fI μ 1 y h 6 (nI (hW b g + (9 - hK b g k)))).1 12 y h k = nI (hK b g k) := (fI_ne (by omega)).trans hc
    have go : ∀ μ2 b2, lkS t g k b = b2 → HV μ2 y h b2 g → HB b2 g → hW b2 g = hW b g + (9 - hK b g k) → hF b2 g = hF b g → sX' (hP y h) μ μ2 → fEnds (fun zz => frun eX1_leak tX1_leak zz 2 [kR 1 y h, kN t, kN k] [] μ 0 0) = fEnds (fun zz => frun eX1_leak tX1_leak zz 2 [kR 1 y h, kN t, kN k] [] μ 0 0) → (∀ r, fEnds (fun zz => frun eX1_leak tX1_leak zz 56 [kR 1 y h, kN t, kN k] [] μ2 0 0) r → fEnds (fun zz => frun eX1_leak tX1_leak zz 2 [kR 1 y h, kN t, kN k] [] μ 0 0) r) → ∃ μ', fEnds (fun zz => frun eX1_leak tX1_leak zz 2 [kR 1 y h, kN t, kN k] [] μ 0 0) (.inl none, μ') ∧ HV μ' y h (lkR t g (j + 1) k b) g ∧ sX' (hP y h) μ μ' := fun μ2 b2 hb2 H2 B2 w2 f2 s2 _ st => by
      obtain ⟨μ', r1, r2, r3⟩ := c_leak_1 ht j (k + 1) μ2 b2 H2 B2 (by omega) (by omega)
      refine ⟨μ', st _ ?_, by rw [lkR, hb2]; exact r2, sX_trans s2 r3⟩
      refine fE_step (y := fun zz => frun _ _ zz 2 [kR 1 y h, kN t, kX (nI k + 1)] [] _ 0 0) 2 (fun _ => rfl) ?_
      rw [nI_1]
      exact r1
    have st0 : ∀ r, fEnds (fun zz => frun eX1_leak tX1_leak zz 30 [kR 1 y h, kN t, kN k] [] (fI μ 1 y h 6 (nI (hW b g + (9 - hK b g k)))) 0 0) r → fEnds (fun zz => frun eX1_leak tX1_leak zz 2 [kR 1 y h, kN t, kN k] [] μ 0 0) r := fun r hr => by
      skip
      refine fE_neg (fun p => by change μ.1 1 y h 3 - 1 ≤ nI k at p; rw [hf, ge_pred (by omega) (by omega)] at p; omega) 6 (fun _ => rfl) ?_
      refine fE_pos (by refine g_in (k := k) ?_ (show k < 8 from by omega) (show 8 < 2 ^ 31 from by decide); first | rfl | (simp (disch := omega) only [fLit, nI_add, pk_mul, pk_rem, pk_sub, nI_clamp]; done)) 8 (fun _ => rfl) ?_
      refine fE_step (y := fun zz => frun _ _ zz 30 [kR 1 y h, kN t, kN k] [] (fI μ 1 y h 6 (μ.1 1 y h 6 + (9 - μ.1 12 y h (nI k).toNatClampNeg))) 0 0) 3 (fun _ => rfl) ?_
      rw [nI_clamp (by omega), hwt, hc, fLit 9, pk_sub hk9, nI_add]
      exact hr
    by_cases q : t % 6 = 0
    · by_cases z : hK b g k = 0
      · refine go _ _ ?_ H1 B1 w1 f1 (sX_fI ⟨Or.inl rfl, rfl, rfl⟩) rfl (fun r hr => st0 r ?_)
        · rw [lkS, if_pos q]
          funext i
          show (if i = 21 + 28 * g + 20 + k then hK b g k - 1 else _) = _
          split
          · rename_i ei
            subst ei
            exact (show hK b g k - 1 = hK b g k from by omega).trans k1.symm
          · rfl
        · skip
          refine fE_pos (by first | omega | (simp (disch := omega) only [fLit, nI_add, pk_mul, pk_rem, nI_clamp, beq01, beq11, cond_false, cond_true, nI_leI, nI_ltI, nI_eq]; done) | (simp (disch := omega) only [fLit, nI_add, pk_mul, pk_rem, nI_clamp, beq01, beq11, cond_false, cond_true, nI_leI, nI_ltI, nI_eq]; omega)) 4 (fun _ => rfl) ?_
          refine fE_pos (by refine g_in (k := k) ?_ (show k < 8 from by omega) (show 8 < 2 ^ 31 from by decide); first | rfl | (simp (disch := omega) only [fLit, nI_add, pk_mul, pk_rem, pk_sub, nI_clamp]; done)) 4 (fun _ => rfl) ?_
          refine fE_pos (by show (fI μ 1 y h 6 (nI (hW b g + (9 - hK b g k)))).1 12 y h (nI k).toNatClampNeg ≤ 0; rw [nI_clamp (by omega), cc, z]; decide) 1 (fun _ => rfl) ?_
          exact hr
      · refine go (fI (fI μ 1 y h 6 (nI (hW b g + (9 - hK b g k)))) 12 y h k (nI (hK b g k - 1))) (up (up b (21 + 28 * g + 3) (hW b g + (9 - hK b g k))) (21 + 28 * g + 20 + k) (hK b g k - 1)) (if_pos q) (HV_caulk H1 B1 (by omega)) (HB_caulk B1 (by omega)) ((up_ne (by omega)).trans w1) ((up_ne (by omega)).trans f1) (sX_trans (sX_fI ⟨Or.inl rfl, rfl, rfl⟩) (sX_fI ⟨Or.inr (Or.inr (Or.inr rfl)), rfl, rfl⟩)) rfl (fun r hr => st0 r ?_)
        skip
        refine fE_pos (by first | omega | (simp (disch := omega) only [fLit, nI_add, pk_mul, pk_rem, nI_clamp, beq01, beq11, cond_false, cond_true, nI_leI, nI_ltI, nI_eq]; done) | (simp (disch := omega) only [fLit, nI_add, pk_mul, pk_rem, nI_clamp, beq01, beq11, cond_false, cond_true, nI_leI, nI_ltI, nI_eq]; omega)) 4 (fun _ => rfl) ?_
        refine fE_pos (by refine g_in (k := k) ?_ (show k < 8 from by omega) (show 8 < 2 ^ 31 from by decide); first | rfl | (simp (disch := omega) only [fLit, nI_add, pk_mul, pk_rem, pk_sub, nI_clamp]; done)) 4 (fun _ => rfl) ?_
        refine fE_neg (fun p => by change (fI μ 1 y h 6 (nI (hW b g + (9 - hK b g k)))).1 12 y h (nI k).toNatClampNeg ≤ 0 at p; rw [nI_clamp (by omega), cc] at p; exact z (Nat.le_zero.mp ((nI_leI (b := 0) (by omega) (by omega)).mp p))) 1 (fun _ => rfl) ?_
        refine fE_pos (by refine g_in (k := k) ?_ (show k < 8 from by omega) (show 8 < 2 ^ 31 from by decide); first | rfl | (simp (disch := omega) only [fLit, nI_add, pk_mul, pk_rem, pk_sub, nI_clamp]; done)) 5 (fun _ => rfl) ?_
        refine fE_pos (by refine g_in (k := k) ?_ (show k < 8 from by omega) (show 8 < 2 ^ 31 from by decide); first | rfl | (simp (disch := omega) only [fLit, nI_add, pk_mul, pk_rem, pk_sub, nI_clamp]; done)) 3 (fun _ => rfl) ?_
        refine fE_step (y := fun zz => frun _ _ zz 56 [kR 1 y h, kN t, kN k] [] (fI (fI μ 1 y h 6 (nI (hW b g + (9 - hK b g k)))) 12 y h (nI k).toNatClampNeg ((fI μ 1 y h 6 (nI (hW b g + (9 - hK b g k)))).1 12 y h (nI k).toNatClampNeg - 1)) 0 0) 0 (fun _ => rfl) ?_
        rw [nI_clamp (by omega), cc, fLit 1, pk_sub (a := hK b g k) (b := 1) (by omega)]
        exact hr
    · refine go _ _ (if_neg q) H1 B1 w1 f1 (sX_fI ⟨Or.inl rfl, rfl, rfl⟩) rfl (fun r hr => st0 r ?_)
      skip
      refine fE_neg (by first | omega | (simp (disch := omega) only [fLit, nI_add, pk_mul, pk_rem, nI_clamp, beq01, beq11, cond_false, cond_true, nI_leI, nI_ltI, nI_eq]; done) | (simp (disch := omega) only [fLit, nI_add, pk_mul, pk_rem, nI_clamp, beq01, beq11, cond_false, cond_true, nI_leI, nI_ltI, nI_eq]; omega)) 4 (fun _ => rfl) ?_
      exact hr
theorem c_leak {y h g t : Nat} {μ : fM} {b : Nat → Nat} (ht : t < 2 ^ 30) (H : HV μ y h b g) (B : HB b g) (hw : hW b g + 63 ≤ 40000000) : ∃ μ', sX1_leak [vR 1 y h, vI (nI t)] μ = some (.inl none, μ') ∧ HV μ' y h (lkR t g (hF b g - 1) 0 b) g ∧ sX' (hP y h) μ μ' := by
  have h8 := B.1
  obtain ⟨μ', r1, r2, r3⟩ := c_leak_1 ht (hF b g - 1) 0 μ b H B (by omega) (by omega)
  refine ⟨μ', fsemV_of (Nat.le_of_ble_eq_true rfl) ?_, r2, r3⟩
  refine fE_step (y := fun zz => frun _ _ zz 2 [kR 1 y h, kN t, kN 0] [] _ 0 0) 2 (fun _ => rfl) ?_
  exact r1
