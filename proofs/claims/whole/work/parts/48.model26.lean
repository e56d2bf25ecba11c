/-! A PIECE OF AN ARRAY WRITTEN ANEW -/
def hO (K s n : Nat) (μ : fM) (f : Nat → Int32) : fM := (fun c y h k => if c = K ∧ y = 0 ∧ h = 0 ∧ s ≤ k ∧ k < s + n then f k else μ.1 c y h k, μ.2)
theorem hO_in {K s n : Nat} {μ : fM} {f : Nat → Int32} {k : Nat} (h1 : s ≤ k) (h2 : k < s + n) : (hO K s n μ f).1 K 0 0 k = f k := if_pos ⟨rfl, rfl, rfl, h1, h2⟩
theorem hO_out {K s n : Nat} {μ : fM} {f : Nat → Int32} {y h k : Nat} (hk : ¬ (s ≤ k ∧ k < s + n)) : (hO K s n μ f).1 K y h k = μ.1 K y h k := if_neg (fun q => hk q.2.2.2)
theorem hO_ne {K s n : Nat} {μ : fM} {f : Nat → Int32} {c y h k : Nat} (hc : c ≠ K) : (hO K s n μ f).1 c y h k = μ.1 c y h k := if_neg (fun q => hc q.1)
theorem hO_0 {K s : Nat} {μ : fM} {f : Nat → Int32} : hO K s 0 μ f = μ := by
  refine Prod.ext ?_ rfl
  funext c y h k
  exact if_neg (fun q => by have := q.2.2.2; omega)
theorem hO_more {K s n : Nat} {μ : fM} {f : Nat → Int32} {v : Int32} (hv : v = f (s + n)) : fI (hO K s n μ f) K 0 0 (s + n) v = hO K s (n + 1) μ f := by
  subst hv
  refine Prod.ext ?_ rfl
  funext c y h k
  show (if c = K ∧ k = s + n ∧ y = 0 ∧ h = 0 then f (s + n) else (if c = K ∧ y = 0 ∧ h = 0 ∧ s ≤ k ∧ k < s + n then f k else μ.1 c y h k)) = (if c = K ∧ y = 0 ∧ h = 0 ∧ s ≤ k ∧ k < s + (n + 1) then f k else μ.1 c y h k)
  by_cases e : c = K ∧ y = 0 ∧ h = 0
  · obtain ⟨rfl, rfl, rfl⟩ := e
    by_cases ek : k = s + n
    · subst ek
      rw [if_pos ⟨rfl, rfl, rfl, rfl⟩, if_pos ⟨rfl, rfl, rfl, by omega, by omega⟩]
    · rw [if_neg (fun q => ek q.2.1)]
      by_cases l : s ≤ k ∧ k < s + n
      · rw [if_pos ⟨rfl, rfl, rfl, l⟩, if_pos ⟨rfl, rfl, rfl, by omega, by omega⟩]
      · rw [if_neg (fun q => l q.2.2.2), if_neg (fun q => by have := q.2.2.2; omega)]
  · rw [if_neg (fun q => e ⟨q.1, q.2.2⟩), if_neg (fun q => e ⟨q.1, q.2.1, q.2.2.1⟩), if_neg (fun q => e ⟨q.1, q.2.1, q.2.2.1⟩)]
theorem hO_fI {K s n : Nat} {μ : fM} {f : Nat → Int32} {c y h k : Nat} {v : Int32} (hc : c ≠ K) : fI (hO K s n μ f) c y h k v = hO K s n (fI μ c y h k v) f := by
  refine Prod.ext ?_ rfl
  funext c' y' h' k'
  show (if c' = c ∧ k' = k ∧ y' = y ∧ h' = h then v else (if c' = K ∧ y' = 0 ∧ h' = 0 ∧ s ≤ k' ∧ k' < s + n then f k' else μ.1 c' y' h' k')) = (if c' = K ∧ y' = 0 ∧ h' = 0 ∧ s ≤ k' ∧ k' < s + n then f k' else (if c' = c ∧ k' = k ∧ y' = y ∧ h' = h then v else μ.1 c' y' h' k'))
  split <;> split <;> first | rfl | (rename_i p q; exact absurd (p.1.symm.trans q.1) hc)
theorem gA_hO {K s n : Nat} {μ : fM} {a : Nat → Nat} {f : Nat → Int32} (hK : K ≠ 30) : hO K s n (gA μ a) f = gA (hO K s n μ f) a := by
  refine Prod.ext ?_ rfl
  funext c y h k
  show (if c = K ∧ y = 0 ∧ h = 0 ∧ s ≤ k ∧ k < s + n then f k else (if c = 30 ∧ y = 0 ∧ h = 0 ∧ k < 213 then nI (a k) else μ.1 c y h k)) = (if c = 30 ∧ y = 0 ∧ h = 0 ∧ k < 213 then nI (a k) else (if c = K ∧ y = 0 ∧ h = 0 ∧ s ≤ k ∧ k < s + n then f k else μ.1 c y h k))
  split <;> split <;> first | rfl | (rename_i p q; exact absurd (p.1.symm.trans q.1) hK)
theorem g_starts_1 (μ : fM) {a : Nat → Nat} : ∀ j k, k + j = 213 → fEnds (fun zz => frun eX8_starts tX8_starts zz 7 [kR 8 0 0, kN k] [] (gA (hO 31 0 k μ (fun i => nI (a i))) a) 0 0) (.inl none, gA (hO 31 0 213 μ (fun i => nI (a i))) a)
  | 0, k, e => by
    obtain rfl : k = 213 := e
    exact fE_ret 4 (fun _ => rfl)
  | j + 1, k, e => by
    skip
    refine fE_neg (by first | omega | (simp (disch := omega) only [fLit, nI_add, pk_mul, pk_rem, nI_clamp, beq01, beq11, cond_false, cond_true, nI_leI, nI_ltI, nI_eq]; done) | (simp (disch := omega) only [fLit, nI_add, pk_mul, pk_rem, nI_clamp, beq01, beq11, cond_false, cond_true, nI_leI, nI_ltI, nI_eq]; omega)) 3 (fun _ => rfl) ?_
    refine fE_pos (by refine g_in (k := k) ?_ (show k < 213 from by omega) (show 213 < 2 ^ 31 from by decide); first | rfl | (simp (disch := omega) only [fLit, nI_add, pk_mul, pk_rem, pk_sub, nI_clamp]; done)) 7 (fun _ => rfl) ?_
    refine fE_pos (by refine g_in (k := k) ?_ (show k < 213 from by omega) (show 213 < 2 ^ 31 from by decide); first | rfl | (simp (disch := omega) only [fLit, nI_add, pk_mul, pk_rem, pk_sub, nI_clamp]; done)) 1 (fun _ => rfl) ?_
    refine fE_step (y := fun zz => frun _ _ zz 7 [kR 8 0 0, kX (nI k + 1)] [] (fI (gA (hO 31 0 k μ (fun i => nI (a i))) a) 31 0 0 (nI k).toNatClampNeg ((gA (hO 31 0 k μ (fun i => nI (a i))) a).1 30 0 0 (nI k).toNatClampNeg)) 0 0) 2 (fun _ => rfl) ?_
    simp (disch := omega) only [fLit, nI_add, pk_mul, pk_rem, nI_clamp, beq01, beq11, cond_false, cond_true, gA_at']
    rw [gA_fI (by decide)]
    have hm := hO_more (K := 31) (s := 0) (n := k) (μ := μ) (f := fun i => nI (a i)) (v := nI (a k)) (by rw [Nat.zero_add])
    rw [Nat.zero_add] at hm
    rw [hm]
    exact g_starts_1 μ j (k + 1) (by omega)
theorem g_starts (μ : fM) {a : Nat → Nat} : sX8_starts [vR 8 0 0] (gA μ a) = some (.inl none, gA (hO 31 0 213 (gT μ 0) (fun i => nI (a i))) a) := by
  refine fsemV_of (Nat.le_of_ble_eq_true rfl) ?_
  refine fE_step (y := fun zz => frun _ _ zz 5 [kR 8 0 0, none] [] (fI (gA μ a) 8 0 0 9 0) 0 0) 3 (fun _ => rfl) ?_
  rw [gA_fI (by decide)]
  refine fE_step (y := fun zz => frun _ _ zz 7 [kR 8 0 0, kN 0] [] _ 0 0) 2 (fun _ => rfl) ?_
  have hh := g_starts_1 (gT μ 0) (a := a) 213 0 (by omega)
  rw [hO_0] at hh
  exact hh
theorem g_save_1 (μ : fM) {a : Nat → Nat} : ∀ j k, k + j = 213 → fEnds (fun zz => frun eX8_save tX8_save zz 7 [kR 8 0 0, kN k] [] (gA (hO 32 0 k μ (fun i => nI (a i))) a) 0 0) (.inl (some (vI (nI (a 1)))), gA (fI (hO 32 0 213 μ (fun i => nI (a i))) 8 0 0 3 1) a)
  | 0, k, e => by
    obtain rfl : k = 213 := e
    refine fE_step (y := fun zz => frun _ _ zz 37 [kR 8 0 0, kN 213] [] (fI (gA (hO 32 0 213 μ (fun i => nI (a i))) a) 8 0 0 3 1) 0 0) 6 (fun _ => rfl) ?_
    rw [gA_fI (by decide)]
    refine fE_ret2 5 (fun _ => rfl) ?_
    simp (disch := omega) only [fLit, nI_add, pk_mul, pk_rem, nI_clamp, beq01, beq11, cond_false, cond_true, gA_at']
    rfl
  | j + 1, k, e => by
    skip
    refine fE_neg (by first | omega | (simp (disch := omega) only [fLit, nI_add, pk_mul, pk_rem, nI_clamp, beq01, beq11, cond_false, cond_true, nI_leI, nI_ltI, nI_eq]; done) | (simp (disch := omega) only [fLit, nI_add, pk_mul, pk_rem, nI_clamp, beq01, beq11, cond_false, cond_true, nI_leI, nI_ltI, nI_eq]; omega)) 3 (fun _ => rfl) ?_
    refine fE_pos (by refine g_in (k := k) ?_ (show k < 213 from by omega) (show 213 < 2 ^ 31 from by decide); first | rfl | (simp (disch := omega) only [fLit, nI_add, pk_mul, pk_rem, pk_sub, nI_clamp]; done)) 7 (fun _ => rfl) ?_
    refine fE_pos (by refine g_in (k := k) ?_ (show k < 213 from by omega) (show 213 < 2 ^ 31 from by decide); first | rfl | (simp (disch := omega) only [fLit, nI_add, pk_mul, pk_rem, pk_sub, nI_clamp]; done)) 1 (fun _ => rfl) ?_
    refine fE_step (y := fun zz => frun _ _ zz 7 [kR 8 0 0, kX (nI k + 1)] [] (fI (gA (hO 32 0 k μ (fun i => nI (a i))) a) 32 0 0 (nI k).toNatClampNeg ((gA (hO 32 0 k μ (fun i => nI (a i))) a).1 30 0 0 (nI k).toNatClampNeg)) 0 0) 2 (fun _ => rfl) ?_
    simp (disch := omega) only [fLit, nI_add, pk_mul, pk_rem, nI_clamp, beq01, beq11, cond_false, cond_true, gA_at']
    rw [gA_fI (by decide)]
    have hm := hO_more (K := 32) (s := 0) (n := k) (μ := μ) (f := fun i => nI (a i)) (v := nI (a k)) (by rw [Nat.zero_add])
    rw [Nat.zero_add] at hm
    rw [hm]
    exact g_save_1 μ j (k + 1) (by omega)
theorem g_save (μ : fM) {a : Nat → Nat} : sX8_save [vR 8 0 0] (gA μ a) = some (.inl (some (vI (nI (a 1)))), gA (fI (hO 32 0 213 (gT μ 0) (fun i => nI (a i))) 8 0 0 3 1) a) := by
  refine fsemV_of (Nat.le_of_ble_eq_true rfl) ?_
  refine fE_step (y := fun zz => frun _ _ zz 5 [kR 8 0 0, none] [] (fI (gA μ a) 8 0 0 9 0) 0 0) 3 (fun _ => rfl) ?_
  rw [gA_fI (by decide)]
  refine fE_step (y := fun zz => frun _ _ zz 7 [kR 8 0 0, kN 0] [] _ 0 0) 2 (fun _ => rfl) ?_
  have hh := g_save_1 (gT μ 0) (a := a) 213 0 (by omega)
  rw [hO_0] at hh
  exact hh
/-! BACK TO A STATE THAT WAS KEPT -/
def aCp (a b : Nat → Nat) (n : Nat) : Nat → Nat := fun j => if j < n then b j else a j
theorem aCp_up {a b : Nat → Nat} {n : Nat} : up (aCp a b n) n (b n) = aCp a b (n + 1) := by
  funext j
  unfold up aCp
  by_cases e : j = n
  · subst e
    rw [if_pos rfl, if_pos (by omega)]
  · rw [if_neg e]
    by_cases l : j < n
    · rw [if_pos l, if_pos (by omega)]
    · rw [if_neg l, if_neg (by omega)]
theorem aCp_0 {a b : Nat → Nat} : aCp a b 0 = a := by
  funext j
  exact if_neg (by omega)
theorem gA_eq {μ : fM} {a b : Nat → Nat} (h : ∀ k, k < 213 → a k = b k) : gA μ a = gA μ b := by
  refine Prod.ext ?_ rfl
  funext c y h' k
  show (if c = 30 ∧ y = 0 ∧ h' = 0 ∧ k < 213 then nI (a k) else _) = (if c = 30 ∧ y = 0 ∧ h' = 0 ∧ k < 213 then nI (b k) else _)
  split
  · rename_i q; rw [h k q.2.2.2]
  · rfl
theorem aCp_all {μ : fM} {a b : Nat → Nat} : gA μ (aCp a b 213) = gA μ b := gA_eq fun _ h => if_pos h
theorem g_undo_1 (μ : fM) {a b : Nat → Nat} {c : Nat} (hc : c < 8) (h5 : μ.1 8 0 0 5 = nI c) (hb : ∀ k, k < 213 → μ.1 33 0 0 (213 * c + k) = nI (b k)) : ∀ j k, k + j = 213 → fEnds (fun zz => frun eX8_undo tX8_undo zz 30 [kR 8 0 0, kN k] [] (gA μ (aCp a b k)) 0 0) (.inl (some (vI (nI c))), gA μ b)
  | 0, k, e => by
    obtain rfl : k = 213 := e
    refine fE_ret2 6 (fun _ => rfl) ?_
    rw [aCp_all]
    show (Sum.inl (some (vI (fnar 0 (μ.1 8 0 0 5)))), _) = _
    rw [h5]
    rfl
  | j + 1, k, e => by
    have h5' : (gA μ (aCp a b k)).1 8 0 0 5 = nI c := h5
    have hb' : (gA μ (aCp a b k)).1 33 0 0 (213 * c + k) = nI (b k) := hb k (by omega)
    refine fE_neg (by first | omega | (simp (disch := omega) only [fLit, nI_add, pk_mul, pk_rem, nI_clamp, beq01, beq11, cond_false, cond_true, nI_leI, nI_ltI, nI_eq]; done) | (simp (disch := omega) only [fLit, nI_add, pk_mul, pk_rem, nI_clamp, beq01, beq11, cond_false, cond_true, nI_leI, nI_ltI, nI_eq]; omega)) 3 (fun _ => rfl) ?_
    refine fE_pos (by refine g_in (k := 213 * c + k) ?_ (show 213 * c + k < 1704 from by omega) (by decide); show (213 : Int32) * μ.1 8 0 0 5 + nI k = _; rw [h5, fLit, pk_mul, nI_add]) 12 (fun _ => rfl) ?_
    refine fE_pos (by refine g_in (k := k) ?_ (show k < 213 from by omega) (show 213 < 2 ^ 31 from by decide); first | rfl | (simp (disch := omega) only [fLit, nI_add, pk_mul, pk_rem, pk_sub, nI_clamp]; done)) 1 (fun _ => rfl) ?_
    refine fE_step (y := fun zz => frun _ _ zz 30 [kR 8 0 0, kX (nI k + 1)] [] (fI (gA μ (aCp a b k)) 30 0 0 (nI k).toNatClampNeg ((gA μ (aCp a b k)).1 33 0 0 ((213 : Int32) * (gA μ (aCp a b k)).1 8 0 0 5 + nI k).toNatClampNeg)) 0 0) 2 (fun _ => rfl) ?_
    rw [h5']
    simp (disch := omega) only [fLit, nI_add, pk_mul, pk_rem, nI_clamp, beq01, beq11, cond_false, cond_true, hb', gA_set]
    rw [aCp_up]
    exact g_undo_1 μ hc h5 hb j (k + 1) (by omega)
theorem g_undo (μ : fM) {a b : Nat → Nat} {c : Nat} (hc : c < 8) (h5 : μ.1 8 0 0 5 = nI (c + 1)) (hb : ∀ k, k < 213 → μ.1 33 0 0 (213 * c + k) = nI (b k)) : sX8_undo [vR 8 0 0] (gA μ a) = some (.inl (some (vI (nI c))), gA (fI (gT μ 0) 8 0 0 5 (nI c)) b) := by
  have h5' : (gA (fI μ 8 0 0 9 0) a).1 8 0 0 5 = nI (c + 1) := h5
  refine fsemV_of (Nat.le_of_ble_eq_true rfl) ?_
  refine fE_step (y := fun zz => frun _ _ zz 5 [kR 8 0 0, none] [] (fI (gA μ a) 8 0 0 9 0) 0 0) 3 (fun _ => rfl) ?_
  rw [gA_fI (by decide)]
  refine fE_neg (fun p => by change (gA (fI μ 8 0 0 9 0) a).1 8 0 0 5 = 0 at p; rw [h5'] at p; exact absurd ((nI_eq (b := 0) (by omega) (by omega)).mp p) (by omega)) 3 (fun _ => rfl) ?_
  refine fE_step (y := fun zz => frun _ _ zz 30 [kR 8 0 0, kN 0] [] (fI (gA (fI μ 8 0 0 9 0) a) 8 0 0 5 ((gA (fI μ 8 0 0 9 0) a).1 8 0 0 5 - 1)) 0 0) 8 (fun _ => rfl) ?_
  rw [h5', nI_pred, gA_fI (by decide), ← aCp_0 (a := a) (b := b)]
  exact g_undo_1 (fI (gT μ 0) 8 0 0 5 (nI c)) hc fI_at hb 213 0 (by omega)
theorem g_undo0 (μ : fM) {a : Nat → Nat} (h5 : μ.1 8 0 0 5 = 0) : sX8_undo [vR 8 0 0] (gA μ a) = some (.inl (some (vI (-1))), gA (gT μ 1) a) := by
  refine fsemV_of (Nat.le_of_ble_eq_true rfl) ?_
  refine fE_step (y := fun zz => frun _ _ zz 5 [kR 8 0 0, none] [] (fI (gA μ a) 8 0 0 9 0) 0 0) 3 (fun _ => rfl) ?_
  rw [gA_fI (by decide)]
  refine fE_pos (h5) 3 (fun _ => rfl) ?_
  refine fE_call (g_throwing0 μ a 1 0) 3 (fun _ => rfl) ?_
  exact fE_ret 1 (fun _ => rfl)
theorem g_restore_1 (μ : fM) {a b : Nat → Nat} (hb : ∀ k, k < 213 → μ.1 32 0 0 k = nI (b k)) : ∀ j k, k + j = 213 → fEnds (fun zz => frun eX8_restore tX8_restore zz 20 [kR 8 0 0, kN k] [] (gA μ (aCp a b k)) 0 0) (.inl (some (vI (nI (b 1)))), gA (fI μ 8 0 0 5 0) b)
  | 0, k, e => by
    obtain rfl : k = 213 := e
    rw [aCp_all]
    refine fE_step (y := fun zz => frun _ _ zz 50 [kR 8 0 0, kN 213] [] (fI (gA μ b) 8 0 0 5 0) 0 0) 6 (fun _ => rfl) ?_
    rw [gA_fI (by decide)]
    refine fE_ret2 5 (fun _ => rfl) ?_
    simp (disch := omega) only [fLit, nI_add, pk_mul, pk_rem, nI_clamp, beq01, beq11, cond_false, cond_true, gA_at']
    rfl
  | j + 1, k, e => by
    have hb' : (gA μ (aCp a b k)).1 32 0 0 k = nI (b k) := hb k (by omega)
    refine fE_neg (by first | omega | (simp (disch := omega) only [fLit, nI_add, pk_mul, pk_rem, nI_clamp, beq01, beq11, cond_false, cond_true, nI_leI, nI_ltI, nI_eq]; done) | (simp (disch := omega) only [fLit, nI_add, pk_mul, pk_rem, nI_clamp, beq01, beq11, cond_false, cond_true, nI_leI, nI_ltI, nI_eq]; omega)) 3 (fun _ => rfl) ?_
    refine fE_pos (by refine g_in (k := k) ?_ (show k < 213 from by omega) (show 213 < 2 ^ 31 from by decide); first | rfl | (simp (disch := omega) only [fLit, nI_add, pk_mul, pk_rem, pk_sub, nI_clamp]; done)) 7 (fun _ => rfl) ?_
    refine fE_pos (by refine g_in (k := k) ?_ (show k < 213 from by omega) (show 213 < 2 ^ 31 from by decide); first | rfl | (simp (disch := omega) only [fLit, nI_add, pk_mul, pk_rem, pk_sub, nI_clamp]; done)) 1 (fun _ => rfl) ?_
    refine fE_step (y := fun zz => frun _ _ zz 20 [kR 8 0 0, kX (nI k + 1)] [] (fI (gA μ (aCp a b k)) 30 0 0 (nI k).toNatClampNeg ((gA μ (aCp a b k)).1 32 0 0 (nI k).toNatClampNeg)) 0 0) 2 (fun _ => rfl) ?_
    simp (disch := omega) only [fLit, nI_add, pk_mul, pk_rem, nI_clamp, beq01, beq11, cond_false, cond_true, hb', gA_set]
    rw [aCp_up]
    exact g_restore_1 μ hb j (k + 1) (by omega)
theorem g_restore (μ : fM) {a b : Nat → Nat} (h3 : μ.1 8 0 0 3 = 1) (hb : ∀ k, k < 213 → μ.1 32 0 0 k = nI (b k)) : sX8_restore [vR 8 0 0] (gA μ a) = some (.inl (some (vI (nI (b 1)))), gA (fI (gT μ 0) 8 0 0 5 0) b) := by
  refine fsemV_of (Nat.le_of_ble_eq_true rfl) ?_
  refine fE_step (y := fun zz => frun _ _ zz 5 [kR 8 0 0, none] [] (fI (gA μ a) 8 0 0 9 0) 0 0) 3 (fun _ => rfl) ?_
  rw [gA_fI (by decide)]
  refine fE_neg (fun p => by change μ.1 8 0 0 3 = 0 at p; rw [h3] at p; exact absurd p (by decide)) 3 (fun _ => rfl) ?_
  refine fE_step (y := fun zz => frun _ _ zz 20 [kR 8 0 0, kN 0] [] _ 0 0) 2 (fun _ => rfl) ?_
  rw [← aCp_0 (a := a) (b := b)]
  exact g_restore_1 (gT μ 0) hb 213 0 (by omega)
theorem g_restore0 (μ : fM) {a : Nat → Nat} (h3 : μ.1 8 0 0 3 = 0) : sX8_restore [vR 8 0 0] (gA μ a) = some (.inl (some (vI (-1))), gA (gT μ 1) a) := by
  refine fsemV_of (Nat.le_of_ble_eq_true rfl) ?_
  refine fE_step (y := fun zz => frun _ _ zz 5 [kR 8 0 0, none] [] (fI (gA μ a) 8 0 0 9 0) 0 0) 3 (fun _ => rfl) ?_
  rw [gA_fI (by decide)]
  refine fE_pos (h3) 3 (fun _ => rfl) ?_
  refine fE_call (g_throwing0 μ a 1 0) 3 (fun _ => rfl) ?_
  exact fE_ret 1 (fun _ => rfl)
