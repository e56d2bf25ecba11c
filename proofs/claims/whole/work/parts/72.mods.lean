/-! THE MODIFICATIONS: what each does to the yard -/
def aL (h : Nat) (a a' : Nat → Nat) : Prop := ∀ k, ¬ (21 + 28 * h ≤ k ∧ k < 49 + 28 * h) → a' k = a k
theorem aL_refl {h : Nat} {a : Nat → Nat} : aL h a a := fun _ _ => rfl
theorem aL_trans {h : Nat} {a b c : Nat → Nat} (h1 : aL h a b) (h2 : aL h b c) : aL h a c := fun k q => (h2 k q).trans (h1 k q)
theorem aL_up {h k v : Nat} {a : Nat → Nat} (hk : 21 + 28 * h ≤ k ∧ k < 49 + 28 * h) : aL h a (up a k v) := fun j q => up_ne (fun e => q (e ▸ hk))
theorem YR_hull {μ μ' : fM} {y h : Nat} {a a' : Nat → Nat} (Y : YR μ y a) (hh : h < 6) (B : ∀ g, g < 6 → hF a g ≤ 8) (H : HV μ' y h a' h) (L : aL h a a') (S : sX' (hP y h) μ μ') : YR μ' y a' := by
  have o : ∀ c h' k, ¬ (c = 1 ∨ c = 10 ∨ c = 11 ∨ c = 12) → μ'.1 c y h' k = μ.1 c y h' k := fun c h' k q => S.1 c y h' k (fun p => q p.1)
  have e2 : a' 2 = a 2 := L 2 (by omega)
  refine ⟨fun g hg => ?_, fun k hk => ?_, fun k hk => ?_, ?_, ?_, ?_, ?_, ?_, fun k hk => ?_, fun k hk => ?_, fun k hk => ?_, fun k hk => ?_⟩
  · by_cases e : g = h
    · exact e ▸ H
    · exact HV_eq (HV_out (Y.hv hg) (fun c k _ => S.1 c y g k (fun p => e p.2.2))) (B g hg) (fun i hi => (L _ (by omega)).symm)
  · rw [o 14 0 k (by omega), Y.tide hk]; exact congrArg nI (L _ (by omega)).symm
  · rw [o 15 0 k (by omega), Y.slip hk]; exact congrArg nI (L _ (by omega)).symm
  · rw [o 6 0 4 (by omega), Y.begun]; exact congrArg nI (L _ (by omega)).symm
  · rw [o 6 0 5 (by omega), Y.now]; exact congrArg nI (L _ (by omega)).symm
  · rw [S.2, Y.paid, L 4 (by omega)]
  · rw [o 2 0 5 (by omega), Y.count]; exact congrArg nI (L _ (by omega)).symm
  · rw [o 2 0 6 (by omega), Y.next]; exact congrArg nI (L _ (by omega)).symm
  · rw [o 16 0 k (by omega), Y.id (by omega)]; exact congrArg nI (L _ (by omega)).symm
  · rw [o 17 0 k (by omega), Y.fr (by omega)]; exact congrArg nI (L _ (by omega)).symm
  · rw [o 18 0 k (by omega), Y.hr (by omega)]; exact congrArg nI (L _ (by omega)).symm
  · rw [o 19 0 k (by omega), Y.co (by omega)]; exact congrArg nI (L _ (by omega)).symm
theorem c_repl12 {μ : fM} {y h i : Nat} {v : Int32} (hi : i < 8) : sX6_replace [vR 12 y h, vI (nI i), vI v] μ = some (.inl (some (vI (μ.1 12 y h i))), fI μ 12 y h i v) := by
  have e : (nI i).toNatClampNeg = i := nI_clamp (by omega)
  refine fsem_of (Nat.le_of_ble_eq_true rfl) ?_
  refine fE_pos (by refine g_in (k := i) ?_ (show i < 8 from by omega) (show 8 < 2 ^ 31 from by decide); first | rfl | (simp (disch := omega) only [fLit, nI_add, pk_mul, pk_rem, pk_sub, nI_clamp]; done)) 3 (fun _ => rfl) ?_
  refine fE_pos (by refine g_in (k := i) ?_ (show i < 8 from by omega) (show 8 < 2 ^ 31 from by decide); first | rfl | (simp (disch := omega) only [fLit, nI_add, pk_mul, pk_rem, pk_sub, nI_clamp]; done)) 5 (fun _ => rfl) ?_
  refine fE_ret2 2 (fun _ => rfl) ?_
  show (Sum.inl (some (vI (μ.1 12 y h (nI i).toNatClampNeg))), fI μ 12 y h (nI i).toNatClampNeg v) = _
  rw [e]
theorem c_repl14 {μ : fM} {y i : Nat} {v : Int32} (hi : i < 12) : sX6_replace [vR 14 y 0, vI (nI i), vI v] μ = some (.inl (some (vI (μ.1 14 y 0 i))), fI μ 14 y 0 i v) := by
  have e : (nI i).toNatClampNeg = i := nI_clamp (by omega)
  refine fsem_of (Nat.le_of_ble_eq_true rfl) ?_
  refine fE_pos (by refine g_in (k := i) ?_ (show i < 12 from by omega) (show 12 < 2 ^ 31 from by decide); first | rfl | (simp (disch := omega) only [fLit, nI_add, pk_mul, pk_rem, pk_sub, nI_clamp]; done)) 3 (fun _ => rfl) ?_
  refine fE_pos (by refine g_in (k := i) ?_ (show i < 12 from by omega) (show 12 < 2 ^ 31 from by decide); first | rfl | (simp (disch := omega) only [fLit, nI_add, pk_mul, pk_rem, pk_sub, nI_clamp]; done)) 5 (fun _ => rfl) ?_
  refine fE_ret2 2 (fun _ => rfl) ?_
  show (Sum.inl (some (vI (μ.1 14 y 0 (nI i).toNatClampNeg))), fI μ 14 y 0 (nI i).toNatClampNeg v) = _
  rw [e]
theorem c_repl15 {μ : fM} {y i : Nat} {v : Int32} (hi : i < 4) : sX6_replace [vR 15 y 0, vI (nI i), vI v] μ = some (.inl (some (vI (μ.1 15 y 0 i))), fI μ 15 y 0 i v) := by
  have e : (nI i).toNatClampNeg = i := nI_clamp (by omega)
  refine fsem_of (Nat.le_of_ble_eq_true rfl) ?_
  refine fE_pos (by refine g_in (k := i) ?_ (show i < 4 from by omega) (show 4 < 2 ^ 31 from by decide); first | rfl | (simp (disch := omega) only [fLit, nI_add, pk_mul, pk_rem, pk_sub, nI_clamp]; done)) 3 (fun _ => rfl) ?_
  refine fE_pos (by refine g_in (k := i) ?_ (show i < 4 from by omega) (show 4 < 2 ^ 31 from by decide); first | rfl | (simp (disch := omega) only [fLit, nI_add, pk_mul, pk_rem, pk_sub, nI_clamp]; done)) 5 (fun _ => rfl) ?_
  refine fE_ret2 2 (fun _ => rfl) ?_
  show (Sum.inl (some (vI (μ.1 15 y 0 (nI i).toNatClampNeg))), fI μ 15 y 0 (nI i).toNatClampNeg v) = _
  rw [e]
theorem HV_cargo {μ : fM} {y h g v : Nat} {a : Nat → Nat} (H : HV μ y h a g) (B : HB a g) : HV (fI μ 1 y h 5 (nI v)) y h (up a (21 + 28 * g + 2) v) g := by
  have b1 := B.1
  have e1 : hF (up a (21 + 28 * g + 2) v) g = hF a g := up_ne (by omega)
  refine ⟨?_, ?_, ?_, ?_, fun k hk => ?_, fun k hk => ?_, fun k hk => ?_⟩
  · rw [e1, fI_ne (by omega)]; exact H.1
  · rw [fI_ne (by omega), show hS (up a (21 + 28 * g + 2) v) g = hS a g from up_ne (by omega)]; exact H.2.1
  · rw [fI_at, show hC (up a (21 + 28 * g + 2) v) g = v from up_at]
  · rw [fI_ne (by omega), show hW (up a (21 + 28 * g + 2) v) g = hW a g from up_ne (by omega)]; exact H.2.2.2.1
  · rw [fI_ne (by omega), show hD (up a (21 + 28 * g + 2) v) g k 0 = hD a g k 0 from up_ne (by omega)]; exact H.2.2.2.2.1 k hk
  · rw [fI_ne (by omega), show hD (up a (21 + 28 * g + 2) v) g k 1 = hD a g k 1 from up_ne (by omega)]; exact H.2.2.2.2.2.1 k hk
  · rw [e1] at hk ⊢
    rw [fI_ne (by omega), show hK (up a (21 + 28 * g + 2) v) g k = hK a g k from up_ne (by omega)]; exact H.2.2.2.2.2.2 k hk
theorem HV_state {μ : fM} {y h g v : Nat} {a : Nat → Nat} (H : HV μ y h a g) (B : HB a g) : HV (fI μ 1 y h 4 (nI v)) y h (up a (21 + 28 * g) v) g := by
  have b1 := B.1
  have e1 : hF (up a (21 + 28 * g) v) g = hF a g := up_ne (by omega)
  refine ⟨?_, ?_, ?_, ?_, fun k hk => ?_, fun k hk => ?_, fun k hk => ?_⟩
  · rw [e1, fI_ne (by omega)]; exact H.1
  · rw [fI_at, show hS (up a (21 + 28 * g) v) g = v from up_at]
  · rw [fI_ne (by omega), show hC (up a (21 + 28 * g) v) g = hC a g from up_ne (by omega)]; exact H.2.2.1
  · rw [fI_ne (by omega), show hW (up a (21 + 28 * g) v) g = hW a g from up_ne (by omega)]; exact H.2.2.2.1
  · rw [fI_ne (by omega), show hD (up a (21 + 28 * g) v) g k 0 = hD a g k 0 from up_ne (by omega)]; exact H.2.2.2.2.1 k hk
  · rw [fI_ne (by omega), show hD (up a (21 + 28 * g) v) g k 1 = hD a g k 1 from up_ne (by omega)]; exact H.2.2.2.2.2.1 k hk
  · rw [e1] at hk ⊢
    rw [fI_ne (by omega), show hK (up a (21 + 28 * g) v) g k = hK a g k from up_ne (by omega)]; exact H.2.2.2.2.2.2 k hk
theorem HB_state {g v : Nat} {a : Nat → Nat} (B : HB a g) (hv : v ≤ 3) : HB (up a (21 + 28 * g) v) g := by
  refine ⟨?_, ?_, ?_, ?_, fun k s hk hs => ?_, fun k hk => ?_⟩
  · rw [show hF (up a (21 + 28 * g) v) g = hF a g from up_ne (by omega)]; exact B.1
  · rw [show hS (up a (21 + 28 * g) v) g = v from up_at]; exact hv
  · rw [show hC (up a (21 + 28 * g) v) g = hC a g from up_ne (by omega)]; exact B.2.2.1
  · rw [show hW (up a (21 + 28 * g) v) g = hW a g from up_ne (by omega)]; exact B.2.2.2.1
  · rw [show hD (up a (21 + 28 * g) v) g k s = hD a g k s from up_ne (by omega)]; exact B.2.2.2.2.1 k s hk hs
  · rw [show hK (up a (21 + 28 * g) v) g k = hK a g k from up_ne (by omega)]; exact B.2.2.2.2.2 k hk
theorem st_wgt {a : Nat → Nat} {g v : Nat} (h8 : hF a g ≤ 8) : hWgt (up a (21 + 28 * g) v) g = hWgt a g ∧ hWide (up a (21 + 28 * g) v) g = hWide a g := by
  have e1 : hF (up a (21 + 28 * g) v) g = hF a g := up_ne (by omega)
  have d : ∀ k s, hD (up a (21 + 28 * g) v) g k s = hD a g k s := fun k s => up_ne (by omega)
  constructor
  · unfold hWgt hDry
    rw [e1, show hC (up a (21 + 28 * g) v) g = hC a g from up_ne (by omega), show hW (up a (21 + 28 * g) v) g = hW a g from up_ne (by omega)]
    simp only [d]
  · unfold hWide
    rw [e1]
    simp only [d]
/-- a frame at the stern -/
def fAdd (μ : fM) (y h F L R : Nat) : fM := fI (fI (fI (fI μ 10 y h F (nI L)) 11 y h F (nI R)) 12 y h F 9) 1 y h 3 (nI (F + 1))
theorem c_addF {μ : fM} {y h g L R : Nat} {a : Nat → Nat} (H : HV μ y h a g) (h8 : hF a g < 8) : sX1_addFrameAtStern [vR 1 y h, vI (nI L), vI (nI R)] μ = some (.inl (some (vI (nI (hF a g + 1)))), fAdd μ y h (hF a g) L R) := by
  have hf := H.1
  have e0 : (nI (hF a g)).toNatClampNeg = hF a g := nI_clamp (by omega)
  refine fsemV_of (Nat.le_of_ble_eq_true rfl) ?_
  refine fE_pos (by exact g_in (k := hF a g) hf h8 (by decide)) 6 (fun _ => rfl) ?_
  refine fE_pos (by exact g_in (k := hF a g) ((fI_ne (by omega)).trans hf) h8 (by decide)) 6 (fun _ => rfl) ?_
  refine fE_pos (by exact g_in (k := hF a g) ((fI_ne (by omega)).trans ((fI_ne (by omega)).trans hf)) h8 (by decide)) 6 (fun _ => rfl) ?_
  refine fE_ret2 9 (fun _ => rfl) ?_
  show (Sum.inl (some (vI ((fI (fI (fI (fI μ 10 y h (μ.1 1 y h 3).toNatClampNeg (nI L)) 11 y h (μ.1 1 y h 3).toNatClampNeg (nI R)) 12 y h (μ.1 1 y h 3).toNatClampNeg 9) 1 y h 3 (μ.1 1 y h 3 + 1)).1 1 y h 3))), fI (fI (fI (fI μ 10 y h (μ.1 1 y h 3).toNatClampNeg (nI L)) 11 y h (μ.1 1 y h 3).toNatClampNeg (nI R)) 12 y h (μ.1 1 y h 3).toNatClampNeg 9) 1 y h 3 (μ.1 1 y h 3 + 1)) = _
  rw [fI_at, hf, e0, nI_1]
  rfl
theorem aFrame_at {a : Nat → Nat} {h L R k : Nat} (h8 : hF a h < 8) : aFrame a h L R k = (if hF a h ≠ 0 ∧ k = 21 + 28 * h + 20 + (hF a h - 1) then 9 else if k = 21 + 28 * h + 1 then hF a h + 1 else if k = 21 + 28 * h + 4 + 2 * hF a h + 1 then R else if k = 21 + 28 * h + 4 + 2 * hF a h then L else a k) := by
  unfold aFrame
  by_cases e : hF a h = 0
  · rw [if_pos e, if_neg (fun p => p.1 e)]
    simp only [up]
  · rw [if_neg e]
    simp only [up, ne_eq, e, not_false_eq_true, true_and]
theorem HV_addF {μ : fM} {y h L R : Nat} {a : Nat → Nat} (H : HV μ y h a h) (h8 : hF a h < 8) : HV (fAdd μ y h (hF a h) L R) y h (aFrame a h L R) h := by
  have ef : hF (aFrame a h L R) h = hF a h + 1 := by
    rw [hF, aFrame_at h8, if_neg (by omega), if_pos rfl]
  unfold fAdd
  refine ⟨?_, ?_, ?_, ?_, fun k hk => ?_, fun k hk => ?_, fun k hk => ?_⟩
  · rw [ef, fI_at]
  · rw [fI_ne (by omega), fI_ne (by omega), fI_ne (by omega), fI_ne (by omega), H.2.1, hS, hS, aFrame_at h8, if_neg (by omega), if_neg (by omega), if_neg (by omega), if_neg (by omega)]
  · rw [fI_ne (by omega), fI_ne (by omega), fI_ne (by omega), fI_ne (by omega), H.2.2.1, hC, hC, aFrame_at h8, if_neg (by omega), if_neg (by omega), if_neg (by omega), if_neg (by omega)]
  · rw [fI_ne (by omega), fI_ne (by omega), fI_ne (by omega), fI_ne (by omega), H.2.2.2.1, hW, hW, aFrame_at h8, if_neg (by omega), if_neg (by omega), if_neg (by omega), if_neg (by omega)]
  · rw [fI_ne (by omega), fI_ne (by omega), fI_ne (by omega), hD, aFrame_at h8, if_neg (by omega), if_neg (by omega), if_neg (by omega)]
    by_cases e : k = hF a h
    · subst e
      rw [fI_at, if_pos (by omega)]
    · rw [fI_ne (by omega), if_neg (by omega)]
      exact H.2.2.2.2.1 k hk
  · rw [fI_ne (by omega), fI_ne (by omega), hD, aFrame_at h8, if_neg (by omega), if_neg (by omega)]
    by_cases e : k = hF a h
    · subst e
      rw [fI_at, if_pos (by omega)]
    · rw [fI_ne (by omega), fI_ne (by omega), if_neg (by omega), if_neg (by omega)]
      exact H.2.2.2.2.2.1 k hk
  · rw [ef] at hk ⊢
    rw [fI_ne (by omega)]
    by_cases e : k = hF a h
    · subst e
      rw [fI_at, if_neg (by omega)]
      rfl
    · rw [fI_ne (by omega), fI_ne (by omega), fI_ne (by omega), H.2.2.2.2.2.2 k (by omega), if_pos (show k + 1 < hF a h + 1 by omega), show hK (aFrame a h L R) h k = _ from aFrame_at h8]
      by_cases e2 : k + 1 < hF a h
      · rw [if_pos e2, if_neg (by omega), if_neg (by omega), if_neg (by omega), if_neg (by omega)]
      · rw [if_neg e2, if_pos (by omega)]
theorem aL_addF {h L R : Nat} {a : Nat → Nat} (h8 : hF a h < 8) : aL h a (aFrame a h L R) := fun k q => by
  rw [aFrame_at h8, if_neg (by omega), if_neg (by omega), if_neg (by omega), if_neg (by omega)]
theorem fAdd_out {μ : fM} {y h F L R : Nat} : sX' (hP y h) μ (fAdd μ y h F L R) :=
  sX_trans (sX_trans (sX_trans (sX_fI ⟨Or.inr (Or.inl rfl), rfl, rfl⟩) (sX_fI ⟨Or.inr (Or.inr (Or.inl rfl)), rfl, rfl⟩)) (sX_fI ⟨Or.inr (Or.inr (Or.inr rfl)), rfl, rfl⟩)) (sX_fI ⟨Or.inl rfl, rfl, rfl⟩)
/-- the sides exchanged -/
theorem aL_sw {h k : Nat} {a : Nat → Nat} (hk : k < 8) : aL h a (aSw a h k) := aL_trans (aL_up (by omega)) (aL_up (by omega))
theorem HB_sw {g k : Nat} {a : Nat → Nat} (B : HB a g) (hk : k < 8) : HB (aSw a g k) g := by
  have e : ∀ j, j ≠ 21 + 28 * g + 4 + 2 * k → j ≠ 21 + 28 * g + 4 + 2 * k + 1 → aSw a g k j = a j := fun j h1 h2 => (up_ne h2).trans (up_ne h1)
  refine ⟨?_, ?_, ?_, ?_, fun j s hj hs => ?_, fun j hj => ?_⟩
  · rw [hF, e _ (by omega) (by omega)]; exact B.1
  · rw [hS, e _ (by omega) (by omega)]; exact B.2.1
  · rw [hC, e _ (by omega) (by omega)]; exact B.2.2.1
  · rw [hW, e _ (by omega) (by omega)]; exact B.2.2.2.1
  · by_cases c : j = k
    · subst c
      by_cases d : s = 0
      · subst d
        rw [hD, show aSw a g j (21 + 28 * g + 4 + 2 * j + 0) = hD a g j 1 from (up_ne (by omega)).trans up_at]
        exact B.2.2.2.2.1 j 1 hj (by decide)
      · obtain rfl : s = 1 := by omega
        rw [hD, show aSw a g j (21 + 28 * g + 4 + 2 * j + 1) = hD a g j 0 from up_at]
        exact B.2.2.2.2.1 j 0 hj (by decide)
    · rw [hD, e _ (by omega) (by omega)]; exact B.2.2.2.2.1 j s hj hs
  · rw [hK, e _ (by omega) (by omega)]; exact B.2.2.2.2.2 j hj
theorem HV_sw {μ : fM} {y h g k : Nat} {a : Nat → Nat} (H : HV μ y h a g) (B : HB a g) (hk : k < 8) : HV (fI (fI μ 10 y h k (nI (hD a g k 1))) 11 y h k (nI (hD a g k 0))) y h (aSw a g k) g := by
  have b1 := B.1
  have e : ∀ j, j ≠ 21 + 28 * g + 4 + 2 * k → j ≠ 21 + 28 * g + 4 + 2 * k + 1 → aSw a g k j = a j := fun j h1 h2 => (up_ne h2).trans (up_ne h1)
  have e1 : hF (aSw a g k) g = hF a g := e _ (by omega) (by omega)
  refine ⟨?_, ?_, ?_, ?_, fun j hj => ?_, fun j hj => ?_, fun j hj => ?_⟩
  · rw [e1, fI_ne (by omega), fI_ne (by omega)]; exact H.1
  · rw [fI_ne (by omega), fI_ne (by omega), hS, e _ (by omega) (by omega)]; exact H.2.1
  · rw [fI_ne (by omega), fI_ne (by omega), hC, e _ (by omega) (by omega)]; exact H.2.2.1
  · rw [fI_ne (by omega), fI_ne (by omega), hW, e _ (by omega) (by omega)]; exact H.2.2.2.1
  · rw [fI_ne (by omega)]
    by_cases c : j = k
    · subst c
      rw [fI_at, show hD (aSw a g j) g j 0 = hD a g j 1 from (up_ne (by omega)).trans up_at]
    · rw [fI_ne (by omega), hD, e _ (by omega) (by omega)]; exact H.2.2.2.2.1 j hj
  · by_cases c : j = k
    · subst c
      rw [fI_at, show hD (aSw a g j) g j 1 = hD a g j 0 from up_at]
    · rw [fI_ne (by omega), fI_ne (by omega), hD, e _ (by omega) (by omega)]; exact H.2.2.2.2.2.1 j hj
  · rw [e1] at hj ⊢
    rw [fI_ne (by omega), fI_ne (by omega), hK, e _ (by omega) (by omega)]; exact H.2.2.2.2.2.2 j hj
theorem c_exch_1 {y h g : Nat} : ∀ j k n (μ : fM) (a : Nat → Nat) z, HB a g → HV μ y h a g → k + j = hF a g → ∃ μ', fEnds (fun zz => frun eX1_exchangeSides tX1_exchangeSides zz 4 [kR 1 y h, kN n, kN k, z] [] μ 0 0) (.inl (some (vI (mVal (sMir g j k n a).1))), μ') ∧ HV μ' y h (sMir g j k n a).2 g ∧ aL g a (sMir g j k n a).2 ∧ sX' (hP y h) μ μ'
  | 0, k, n, μ, a, z, B, H, e => by
    have h8 := B.1
    have hf := H.1
    refine ⟨μ, ?_, H, aL_refl, sX_refl⟩
    refine fE_pos (by first | omega | (simp (disch := omega) only [fLit, nI_add, pk_mul, pk_rem, nI_clamp, beq01, beq11, cond_false, cond_true, nI_leI, nI_ltI, nI_eq, hf]; done) | (simp (disch := omega) only [fLit, nI_add, pk_mul, pk_rem, nI_clamp, beq01, beq11, cond_false, cond_true, nI_leI, nI_ltI, nI_eq, hf]; omega)) 4 (fun _ => rfl) ?_
    exact fE_ret 2 (fun _ => rfl)
  | j + 1, k, n, μ, a, z, B, H, e => by
    have h8 := B.1
    have hf := H.1
    have hl := H.2.2.2.2.1 k (by omega)
    have hr := H.2.2.2.2.2.1 k (by omega)
    have b1 := B.2.2.2.2.1 k 0 (by omega) (by decide)
    have b2 := B.2.2.2.2.1 k 1 (by omega) (by decide)
    have ek : (nI k).toNatClampNeg = k := nI_clamp (by omega)
    have ef : hF (aSw a g k) g = hF a g := (up_ne (by omega)).trans (up_ne (by omega))
    obtain ⟨μ', r1, r2, r3, r4⟩ := c_exch_1 (y := y) (h := h) (g := g) j (k + 1) (n + if hD a g k 0 = hD a g k 1 then 0 else 1) _ (aSw a g k) (some (vI (nI (hD a g k 0)))) (HB_sw B (by omega)) (HV_sw H B (by omega)) (by omega)
    refine ⟨μ', ?_, r2, aL_trans (aL_sw (by omega)) r3, sX_trans (sX_trans (sX_fI ⟨Or.inr (Or.inl rfl), rfl, rfl⟩) (sX_fI ⟨Or.inr (Or.inr (Or.inl rfl)), rfl, rfl⟩)) r4⟩
    rw [sMir]
    refine fE_neg (by first | omega | (simp (disch := omega) only [fLit, nI_add, pk_mul, pk_rem, nI_clamp, beq01, beq11, cond_false, cond_true, nI_leI, nI_ltI, nI_eq, hf]; done) | (simp (disch := omega) only [fLit, nI_add, pk_mul, pk_rem, nI_clamp, beq01, beq11, cond_false, cond_true, nI_leI, nI_ltI, nI_eq, hf]; omega)) 4 (fun _ => rfl) ?_
    refine fE_pos (by refine g_in (k := k) ?_ (show k < 8 from by omega) (show 8 < 2 ^ 31 from by decide); first | rfl | (simp (disch := omega) only [fLit, nI_add, pk_mul, pk_rem, pk_sub, nI_clamp]; done)) 4 (fun _ => rfl) ?_
    refine fE_pos (by refine g_in (k := k) ?_ (show k < 8 from by omega) (show 8 < 2 ^ 31 from by decide); first | rfl | (simp (disch := omega) only [fLit, nI_add, pk_mul, pk_rem, pk_sub, nI_clamp]; done)) 8 (fun _ => rfl) ?_
    refine fE_pos (by refine g_in (k := k) ?_ (show k < 8 from by omega) (show 8 < 2 ^ 31 from by decide); first | rfl | (simp (disch := omega) only [fLit, nI_add, pk_mul, pk_rem, pk_sub, nI_clamp]; done)) 1 (fun _ => rfl) ?_
    refine fE_pos (by refine g_in (k := k) ?_ (show k < 8 from by omega) (show 8 < 2 ^ 31 from by decide); first | rfl | (simp (disch := omega) only [fLit, nI_add, pk_mul, pk_rem, pk_sub, nI_clamp]; done)) 5 (fun _ => rfl) ?_
    refine fE_pos (by refine g_in (k := k) ?_ (show k < 8 from by omega) (show 8 < 2 ^ 31 from by decide); first | rfl | (simp (disch := omega) only [fLit, nI_add, pk_mul, pk_rem, pk_sub, nI_clamp]; done)) 4 (fun _ => rfl) ?_
    refine fE_pos (by refine g_in (k := k) ?_ (show k < 8 from by omega) (show 8 < 2 ^ 31 from by decide); first | rfl | (simp (disch := omega) only [fLit, nI_add, pk_mul, pk_rem, pk_sub, nI_clamp]; done)) 4 (fun _ => rfl) ?_
    refine fE_step (y := fun zz => frun _ _ zz 50 [kR 1 y h, kN n, kN k, kX (μ.1 10 y h (nI k).toNatClampNeg)] [vI ((fI (fI μ 10 y h (nI k).toNatClampNeg (μ.1 11 y h (nI k).toNatClampNeg)) 11 y h (nI k).toNatClampNeg (μ.1 10 y h (nI k).toNatClampNeg)).1 11 y h (nI k).toNatClampNeg), vI ((fI (fI μ 10 y h (nI k).toNatClampNeg (μ.1 11 y h (nI k).toNatClampNeg)) 11 y h (nI k).toNatClampNeg (μ.1 10 y h (nI k).toNatClampNeg)).1 10 y h (nI k).toNatClampNeg)] ((fI (fI μ 10 y h (nI k).toNatClampNeg (μ.1 11 y h (nI k).toNatClampNeg)) 11 y h (nI k).toNatClampNeg (μ.1 10 y h (nI k).toNatClampNeg))) 0 0) 0 (fun _ => rfl) ?_
    rw [ek, hl, hr, fI_at, fI_ne (by omega), fI_at]
    refine fE_ite 1 (fun _ => rfl) (fun q => ?_) (fun q => ?_)
    · skip
      have q := (nI_eq (by omega) (by omega)).mp q
      rw [if_pos q.symm] at r1 ⊢
      refine fE_step (y := fun zz => frun _ _ zz 4 [kR 1 y h, kN n, kX (nI k + 1), kN (hD a g k 0)] [] _ 0 0) 2 (fun _ => rfl) ?_
      rw [nI_1]
      exact r1
    · skip
      have q : ¬ hD a g k 0 = hD a g k 1 := fun p => q (congrArg nI p.symm)
      rw [if_neg q] at r1 ⊢
      refine fE_step (y := fun zz => frun _ _ zz 4 [kR 1 y h, kX (nI n + 1), kX (nI k + 1), kN (hD a g k 0)] [] _ 0 0) 3 (fun _ => rfl) ?_
      rw [nI_1, nI_1]
      exact r1
theorem c_exch {μ : fM} {y h g : Nat} {a : Nat → Nat} (H : HV μ y h a g) (B : HB a g) : ∃ μ', sX1_exchangeSides [vR 1 y h] μ = some (.inl (some (vI (mVal (sMir g (hF a g) 0 0 a).1))), μ') ∧ HV μ' y h (sMir g (hF a g) 0 0 a).2 g ∧ aL g a (sMir g (hF a g) 0 0 a).2 ∧ sX' (hP y h) μ μ' := by
  obtain ⟨μ', r1, r2, r3, r4⟩ := c_exch_1 (y := y) (h := h) (g := g) (hF a g) 0 0 μ a none B H (by omega)
  refine ⟨μ', fsemV_of (Nat.le_of_ble_eq_true rfl) ?_, r2, r3, r4⟩
  refine fE_step (y := fun zz => frun _ _ zz 4 [kR 1 y h, kN 0, kN 0, none] [] _ 0 0) 4 (fun _ => rfl) ?_
  exact r1
theorem c_cargo {μ : fM} {y h : Nat} {v : Int32} : sX6_changeCargo [vR 1 y h, vI v] μ = some (.inl (some (vI (μ.1 1 y h 5))), fI μ 1 y h 5 v) := by
  refine fsem_of (Nat.le_of_ble_eq_true rfl) ?_
  exact fE_ret 8 (fun _ => rfl)
theorem c_append {μ : fM} {y u F T C : Nat} {a : Nat → Nat} (Y : YR μ y a) (O : OKA u a) (h6 : a 2 < 6) : ∃ μ', sX2_append [vR 2 y 0, vI (nI F), vI (nI T), vI (nI C)] μ = some (.inl (some (vI (nI (a 3)))), μ') ∧ YR μ' y (aOrd a F T C) ∧ sX' (oP' y) μ μ' := by
  have hc := Y.count
  have hn := Y.next
  have h3 := O.next
  have hu := O.u6
  have e0 : (nI (a 2)).toNatClampNeg = a 2 := nI_clamp (by omega)
  have at' : ∀ k, aOrd a F T C k = (if k = 3 then a 3 + 1 else if k = 2 then a 2 + 1 else if k = 189 + 4 * a 2 + 3 then C else if k = 189 + 4 * a 2 + 2 then T else if k = 189 + 4 * a 2 + 1 then F else if k = 189 + 4 * a 2 then a 3 else a k) := fun k => rfl
  have old : ∀ k, k < 189 + 4 * a 2 → k ≠ 2 → k ≠ 3 → aOrd a F T C k = a k := fun k q1 q2 q3 => by
    rw [at', if_neg q3, if_neg q2, if_neg (by omega), if_neg (by omega), if_neg (by omega), if_neg (by omega)]
  have n2 : aOrd a F T C 2 = a 2 + 1 := by rw [at', if_neg (by omega), if_pos rfl]
  refine ⟨fI (fI (fI (fI (fI (fI μ 16 y 0 (a 2) (nI (a 3))) 17 y 0 (a 2) (nI F)) 18 y 0 (a 2) (nI T)) 19 y 0 (a 2) (nI C)) 2 y 0 5 (nI (a 2 + 1))) 2 y 0 6 (nI (a 3 + 1)), fsemV_of (Nat.le_of_ble_eq_true rfl) ?_, ?_, ?_⟩
  · skip
    refine fE_pos (by exact g_in (k := a 2) hc h6 (by decide)) 7 (fun _ => rfl) ?_
    refine fE_step (y := fun zz => frun _ _ zz 13 [kR 2 y 0, kN F, kN T, kN C] [] (fI μ 16 y 0 (μ.1 2 y 0 5).toNatClampNeg (μ.1 2 y 0 6)) 0 0) 0 (fun _ => rfl) ?_
    rw [hc, hn, e0]
    refine fE_pos (by exact g_in (k := a 2) ((fI_ne (by omega)).trans hc) h6 (by decide)) 6 (fun _ => rfl) ?_
    refine fE_pos (by exact g_in (k := a 2) ((fI_ne (by omega)).trans ((fI_ne (by omega)).trans hc)) h6 (by decide)) 6 (fun _ => rfl) ?_
    refine fE_pos (by exact g_in (k := a 2) ((fI_ne (by omega)).trans ((fI_ne (by omega)).trans ((fI_ne (by omega)).trans hc))) h6 (by decide)) 6 (fun _ => rfl) ?_
    refine fE_step (y := fun zz => frun _ _ zz 43 [kR 2 y 0, kN F, kN T, kN C] [] (fI (fI (fI (fI μ 16 y 0 (a 2) (nI (a 3))) 17 y 0 ((fI μ 16 y 0 (a 2) (nI (a 3))).1 2 y 0 5).toNatClampNeg (nI F)) 18 y 0 ((fI (fI μ 16 y 0 (a 2) (nI (a 3))) 17 y 0 ((fI μ 16 y 0 (a 2) (nI (a 3))).1 2 y 0 5).toNatClampNeg (nI F)).1 2 y 0 5).toNatClampNeg (nI T)) 19 y 0 ((fI (fI (fI μ 16 y 0 (a 2) (nI (a 3))) 17 y 0 ((fI μ 16 y 0 (a 2) (nI (a 3))).1 2 y 0 5).toNatClampNeg (nI F)) 18 y 0 ((fI (fI μ 16 y 0 (a 2) (nI (a 3))) 17 y 0 ((fI μ 16 y 0 (a 2) (nI (a 3))).1 2 y 0 5).toNatClampNeg (nI F)).1 2 y 0 5).toNatClampNeg (nI T)).1 2 y 0 5).toNatClampNeg (nI C)) 0 0) 0 (fun _ => rfl) ?_
    have q1 : (fI μ 16 y 0 (a 2) (nI (a 3))).1 2 y 0 5 = nI (a 2) := (fI_ne (by omega)).trans hc
    rw [q1, e0]
    have q2 : (fI (fI μ 16 y 0 (a 2) (nI (a 3))) 17 y 0 (a 2) (nI F)).1 2 y 0 5 = nI (a 2) := (fI_ne (by omega)).trans q1
    rw [q2, e0]
    have q3 : (fI (fI (fI μ 16 y 0 (a 2) (nI (a 3))) 17 y 0 (a 2) (nI F)) 18 y 0 (a 2) (nI T)).1 2 y 0 5 = nI (a 2) := (fI_ne (by omega)).trans q2
    rw [q3, e0]
    have q4 : (fI (fI (fI (fI μ 16 y 0 (a 2) (nI (a 3))) 17 y 0 (a 2) (nI F)) 18 y 0 (a 2) (nI T)) 19 y 0 (a 2) (nI C)).1 2 y 0 5 = nI (a 2) := (fI_ne (by omega)).trans q3
    have q5 : (fI (fI (fI (fI μ 16 y 0 (a 2) (nI (a 3))) 17 y 0 (a 2) (nI F)) 18 y 0 (a 2) (nI T)) 19 y 0 (a 2) (nI C)).1 2 y 0 6 = nI (a 3) := by
      rw [fI_ne (by omega), fI_ne (by omega), fI_ne (by omega), fI_ne (by omega), hn]
    revert q4 q5
    generalize fI (fI (fI (fI μ 16 y 0 (a 2) (nI (a 3))) 17 y 0 (a 2) (nI F)) 18 y 0 (a 2) (nI T)) 19 y 0 (a 2) (nI C) = ν
    intro q4 q5
    refine fE_step (y := fun zz => frun _ _ zz 63 [kR 2 y 0, kN F, kN T, kN C] [] (fI (fI ν 2 y 0 5 (ν.1 2 y 0 5 + 1)) 2 y 0 6 ((fI ν 2 y 0 5 (ν.1 2 y 0 5 + 1)).1 2 y 0 6 + 1)) 0 0) 12 (fun _ => rfl) ?_
    rw [show (fI ν 2 y 0 5 (ν.1 2 y 0 5 + 1)).1 2 y 0 6 = nI (a 3) from (fI_ne (by omega)).trans q5, q4, nI_1, nI_1]
    refine fE_ret2 5 (fun _ => rfl) ?_
    show (Sum.inl (some (vI ((fI (fI ν 2 y 0 5 (nI (a 2 + 1))) 2 y 0 6 (nI (a 3 + 1))).1 2 y 0 6 - 1))), _) = _
    rw [fI_at, nI_pred]
  · refine ⟨fun h hh => ?_, fun k hk => ?_, fun k hk => ?_, ?_, ?_, ?_, ?_, ?_, fun k hk => ?_, fun k hk => ?_, fun k hk => ?_, fun k hk => ?_⟩
    · have b8 := O.fr h hh
      exact HV_eq (HV_out (Y.hv hh) (fun c k hc => by rw [fI_ne (by omega), fI_ne (by omega), fI_ne (by omega), fI_ne (by omega), fI_ne (by omega), fI_ne (by omega)])) b8 (fun i hi => (old _ (by omega) (by omega) (by omega)).symm)
    · rw [fI_ne (by omega), fI_ne (by omega), fI_ne (by omega), fI_ne (by omega), fI_ne (by omega), fI_ne (by omega), Y.tide hk, aT, aT, old _ (by omega) (by omega) (by omega)]
    · rw [fI_ne (by omega), fI_ne (by omega), fI_ne (by omega), fI_ne (by omega), fI_ne (by omega), fI_ne (by omega), Y.slip hk, aS, aS, old _ (by omega) (by omega) (by omega)]
    · rw [fI_ne (by omega), fI_ne (by omega), fI_ne (by omega), fI_ne (by omega), fI_ne (by omega), fI_ne (by omega), Y.begun, old 0 (by omega) (by omega) (by omega)]
    · rw [fI_ne (by omega), fI_ne (by omega), fI_ne (by omega), fI_ne (by omega), fI_ne (by omega), fI_ne (by omega), Y.now, old 1 (by omega) (by omega) (by omega)]
    · rw [old 4 (by omega) (by omega) (by omega)]; exact Y.paid
    · rw [fI_ne (by omega), fI_at, n2]
    · rw [fI_at, at', if_pos rfl]
    · rw [n2] at hk
      rw [fI_ne (by omega), fI_ne (by omega), fI_ne (by omega), fI_ne (by omega), fI_ne (by omega), oI, at', if_neg (by omega), if_neg (by omega), if_neg (by omega), if_neg (by omega), if_neg (by omega)]
      by_cases e : k = a 2
      · subst e; rw [fI_at, if_pos rfl]
      · rw [fI_ne (by omega), if_neg (by omega)]; exact Y.id (by omega)
    · rw [n2] at hk
      rw [fI_ne (by omega), fI_ne (by omega), fI_ne (by omega), fI_ne (by omega), oF, at', if_neg (by omega), if_neg (by omega), if_neg (by omega), if_neg (by omega)]
      by_cases e : k = a 2
      · subst e; rw [fI_at, if_pos rfl]
      · rw [fI_ne (by omega), fI_ne (by omega), if_neg (by omega), if_neg (by omega)]; exact Y.fr (by omega)
    · rw [n2] at hk
      rw [fI_ne (by omega), fI_ne (by omega), fI_ne (by omega), oH, at', if_neg (by omega), if_neg (by omega), if_neg (by omega)]
      by_cases e : k = a 2
      · subst e; rw [fI_at, if_pos rfl]
      · rw [fI_ne (by omega), fI_ne (by omega), fI_ne (by omega), if_neg (by omega), if_neg (by omega), if_neg (by omega)]; exact Y.hr (by omega)
    · rw [n2] at hk
      rw [fI_ne (by omega), fI_ne (by omega), oC, at', if_neg (by omega), if_neg (by omega)]
      by_cases e : k = a 2
      · subst e; rw [fI_at, if_pos rfl]
      · rw [fI_ne (by omega), fI_ne (by omega), fI_ne (by omega), fI_ne (by omega), if_neg (by omega), if_neg (by omega), if_neg (by omega), if_neg (by omega)]; exact Y.co (by omega)
  · exact sX_trans (sX_trans (sX_trans (sX_trans (sX_trans (sX_fI ⟨by omega, rfl, rfl⟩) (sX_fI ⟨by omega, rfl, rfl⟩)) (sX_fI ⟨by omega, rfl, rfl⟩)) (sX_fI ⟨by omega, rfl, rfl⟩)) (sX_fI ⟨by omega, rfl, rfl⟩)) (sX_fI ⟨by omega, rfl, rfl⟩)
