/-! AN HOUR PASSES -/
theorem up_up {a : Nat → Nat} {k v w : Nat} : up (up a k v) k w = up a k w := by
  funext j
  unfold up
  split <;> rename_i q <;> first | rfl | exact if_neg q
theorem up_id {a : Nat → Nat} {k : Nat} : up a k (a k) = a := by
  funext j
  unfold up
  split <;> rename_i q
  · rw [q]
  · rfl
def lk (a : Nat → Nat) (h : Nat) : Nat := nT (fun k => 9 - hK a h k) 0 (hF a h - 1)
theorem lk_le {u : Nat} {a : Nat → Nat} {h : Nat} (O : OKA u a) (hh : h < 6) : lk a h ≤ 63 := by
  have h8 := O.fr h hh
  have : lk a h ≤ (hF a h - 1) * 9 := nT_le fun i _ _ => by show 9 - hK a h i ≤ 9; omega
  omega
def s1 (a : Nat → Nat) (h : Nat) : Nat → Nat := if hS a h = 1 then up a (21 + 28 * h + 3) (hW a h + lk a h) else a
def r1 : Nat → Nat → (Nat → Nat) → (Nat → Nat)
  | 0, _, a => a
  | j + 1, h, a => r1 j (h + 1) (s1 a h)
theorem g_hour_1i (μ : fM) {u h n : Nat} {a : Nat → Nat} {res : fR} (O : OKA u a) (hh : h < 6) (hs1 : hS a h = 1) (hw : hW a h + 63 ≤ 63 * a 1) : ∀ j k x, k + j = hF a h - 1 → x + 9 * j ≤ 63 → fEnds (fun zz => frun eX8_passesHour tX8_passesHour zz 81 [kR 8 0 0, kN n, kN h, kN (hF a h - 1)] [] (gA μ (up a (21 + 28 * h + 3) (hW a h + (x + nT (fun k => 9 - hK a h k) k j)))) 0 0) res → fEnds (fun zz => frun eX8_passesHour tX8_passesHour zz 26 [kR 8 0 0, kN n, kN h, kN k] [] (gA μ (up a (21 + 28 * h + 3) (hW a h + x))) 0 0) res
  | 0, k, x, e, hx, H => by
    have h8 := O.fr h hh
    have O1 := O.up_wt (g := h) (v := hW a h + x) hh (by omega)
    have f1 : hF (up a (21 + 28 * h + 3) (hW a h + x)) h = hF a h := up_ne (by omega)
    refine fE_call (g_seams μ O1 hh) 4 (fun _ => rfl) ?_
    rw [f1]
    refine fE_pos (by first | omega | (simp (disch := omega) only [fLit, nI_add, pk_mul, pk_rem, nI_clamp, beq01, beq11, cond_false, cond_true, nI_leI, nI_ltI, nI_eq]; done) | (simp (disch := omega) only [fLit, nI_add, pk_mul, pk_rem, nI_clamp, beq01, beq11, cond_false, cond_true, nI_leI, nI_ltI, nI_eq]; omega)) 1 (fun _ => rfl) ?_
    rw [← e] at H
    exact H
  | j + 1, k, x, e, hx, H => by
    have h8 := O.fr h hh
    have hk := O.ck h k hh (by omega)
    have h1 := O.hour
    have h2 := O.u6
    have O1 := O.up_wt (g := h) (v := hW a h + x) hh (by omega)
    have f1 : hF (up a (21 + 28 * h + 3) (hW a h + x)) h = hF a h := up_ne (by omega)
    have f2 : hS (up a (21 + 28 * h + 3) (hW a h + x)) h = 1 := (up_ne (by omega)).trans hs1
    refine fE_call (g_seams μ O1 hh) 4 (fun _ => rfl) ?_
    rw [f1]
    refine fE_neg (by first | omega | (simp (disch := omega) only [fLit, nI_add, pk_mul, pk_rem, nI_clamp, beq01, beq11, cond_false, cond_true, nI_leI, nI_ltI, nI_eq]; done) | (simp (disch := omega) only [fLit, nI_add, pk_mul, pk_rem, nI_clamp, beq01, beq11, cond_false, cond_true, nI_leI, nI_ltI, nI_eq]; omega)) 1 (fun _ => rfl) ?_
    refine fE_call (g_state μ (a := up a (21 + 28 * h + 3) (hW a h + x)) (h := h) hh) 3 (fun _ => rfl) ?_
    rw [f2]
    refine fE_call (m_hullAt (nI h) _) 6 (fun _ => rfl) ?_
    refine fE_pos (by refine g_in (k := 21 + 28 * h + 3) ?_ (show 21 + 28 * h + 3 < 213 from by omega) (show 213 < 2 ^ 31 from by decide); first | rfl | (simp (disch := omega) only [fLit, nI_add, pk_mul, pk_rem, pk_sub, nI_clamp]; done)) 4 (fun _ => rfl) ?_
    simp (disch := omega) only [fLit, nI_add, pk_mul, pk_rem, nI_clamp, beq01, beq11, cond_false, cond_true, gA_at', up_at]
    refine fE_call (m_hullAt (nI h) _) 5 (fun _ => rfl) ?_
    refine fE_pos (by refine g_in (k := 21 + 28 * h + 20 + k) ?_ (show 21 + 28 * h + 20 + k < 213 from by omega) (show 213 < 2 ^ 31 from by decide); first | rfl | (simp (disch := omega) only [fLit, nI_add, pk_mul, pk_rem, pk_sub, nI_clamp]; done)) 5 (fun _ => rfl) ?_
    simp (disch := omega) only [fLit, nI_add, pk_mul, pk_rem, nI_clamp, beq01, beq11, cond_false, cond_true, gA_at', up_ne]
    refine fE_pos (by refine g_in (k := 21 + 28 * h + 3) ?_ (show 21 + 28 * h + 3 < 213 from by omega) (show 213 < 2 ^ 31 from by decide); first | rfl | (simp (disch := omega) only [fLit, nI_add, pk_mul, pk_rem, pk_sub, nI_clamp]; done)) 3 (fun _ => rfl) ?_
    refine fE_step (y := fun zz => frun _ _ zz 26 [kR 8 0 0, kN n, kN h, kX (nI k + 1)] [] (fI (gA μ (up a (21 + 28 * h + 3) (hW a h + x))) 30 0 0 (nI (21 + 28 * h + 3)).toNatClampNeg (nI (hW a h + x) + (nI 9 - nI (hK a h k)))) 0 0) 2 (fun _ => rfl) ?_
    rw [pk_sub hk, nI_1, nI_add, nI_clamp (by omega), gA_set (by omega), up_up, Nat.add_assoc (hW a h)]
    rw [nT, ← Nat.add_assoc x] at H
    exact g_hour_1i μ O hh hs1 hw j (k + 1) (x + (9 - hK a h k)) (by omega) (by omega) H
theorem s1_ok {u : Nat} {a : Nat → Nat} {h : Nat} (O : OKA u a) (hh : h < 6) (hw : hW a h + 63 ≤ 63 * a 1) : OKA u (s1 a h) := by
  unfold s1
  split
  · exact O.up_wt (g := h) hh (by have := lk_le O hh; omega)
  · exact O
theorem s1_ne {a : Nat → Nat} {h j : Nat} (hj : j ≠ 21 + 28 * h + 3) : s1 a h j = a j := by
  unfold s1
  split
  · exact up_ne hj
  · rfl
theorem g_hour_1 (μ : fM) {u n : Nat} {res : fR} : ∀ j h (a : Nat → Nat) z, OKA u a → h + j = a 0 → (∀ g, h ≤ g → g < 6 → hW a g + 63 ≤ 63 * a 1) → (∀ z, fEnds (fun zz => frun eX8_passesHour tX8_passesHour zz 87 [kR 8 0 0, kN n, kN (a 0), z] [] (gA μ (r1 j h a)) 0 0) res) → fEnds (fun zz => frun eX8_passesHour tX8_passesHour zz 14 [kR 8 0 0, kN n, kN h, z] [] (gA μ a) 0 0) res
  | 0, h, a, z, O, e, hw, H => by
    have h6 := O.hulls
    refine fE_pos (by first | omega | (simp (disch := omega) only [fLit, nI_add, pk_mul, pk_rem, nI_clamp, beq01, beq11, cond_false, cond_true, nI_leI, nI_ltI, nI_eq, gA_at']; done) | (simp (disch := omega) only [fLit, nI_add, pk_mul, pk_rem, nI_clamp, beq01, beq11, cond_false, cond_true, nI_leI, nI_ltI, nI_eq, gA_at']; omega)) 6 (fun _ => rfl) ?_
    have H := H z
    rw [← e] at H
    exact H
  | j + 1, h, a, z, O, e, hw, H => by
    have h6 := O.hulls
    have h8 := O.fr h (by omega)
    have hs := O.st h (by omega)
    have e0 : s1 a h 0 = a 0 := s1_ne (by omega)
    have e1 : s1 a h 1 = a 1 := s1_ne (by omega)
    have next : ∀ z, fEnds (fun zz => frun eX8_passesHour tX8_passesHour zz 14 [kR 8 0 0, kN n, kN (h + 1), z] [] (gA μ (s1 a h)) 0 0) res := fun z => by
      refine g_hour_1 μ j (h + 1) (s1 a h) z (s1_ok O (by omega) (hw h (by omega) (by omega))) (by omega) (fun g hg hg6 => ?_) (fun z => ?_)
      · rw [e1, show hW (s1 a h) g = hW a g from s1_ne (by omega)]
        exact hw g (by omega) hg6
      · rw [e0]
        exact H z
    have next : ∀ z, fEnds (fun zz => frun eX8_passesHour tX8_passesHour zz 81 [kR 8 0 0, kN n, kN h, z] [] (gA μ (s1 a h)) 0 0) res := fun z => by
      skip
      refine fE_step (y := fun zz => frun _ _ zz 14 [kR 8 0 0, kN n, kX (nI h + 1), z] [] _ 0 0) 2 (fun _ => rfl) ?_
      rw [nI_1]
      exact next z
    by_cases q : hS a h = 1
    · skip
      refine fE_neg (by first | omega | (simp (disch := omega) only [fLit, nI_add, pk_mul, pk_rem, nI_clamp, beq01, beq11, cond_false, cond_true, nI_leI, nI_ltI, nI_eq, gA_at']; done) | (simp (disch := omega) only [fLit, nI_add, pk_mul, pk_rem, nI_clamp, beq01, beq11, cond_false, cond_true, nI_leI, nI_ltI, nI_eq, gA_at']; omega)) 6 (fun _ => rfl) ?_
      refine fE_step (y := fun zz => frun _ _ zz 26 [kR 8 0 0, kN n, kN h, kN 0] [] _ 0 0) 2 (fun _ => rfl) ?_
      rw [← up_id (a := a) (k := 21 + 28 * h + 3)]
      refine g_hour_1i μ O (by omega) q (hw h (by omega) (by omega)) (hF a h - 1) 0 0 (by omega) (by omega) ?_
      have next := next (kN (hF a h - 1))
      rw [s1, if_pos q] at next
      rw [Nat.zero_add]
      exact next
    · have next := next (kN 0)
      rw [s1, if_neg q] at next
      refine fE_neg (by first | omega | (simp (disch := omega) only [fLit, nI_add, pk_mul, pk_rem, nI_clamp, beq01, beq11, cond_false, cond_true, nI_leI, nI_ltI, nI_eq, gA_at']; done) | (simp (disch := omega) only [fLit, nI_add, pk_mul, pk_rem, nI_clamp, beq01, beq11, cond_false, cond_true, nI_leI, nI_ltI, nI_eq, gA_at']; omega)) 6 (fun _ => rfl) ?_
      refine fE_step (y := fun zz => frun _ _ zz 26 [kR 8 0 0, kN n, kN h, kN 0] [] _ 0 0) 2 (fun _ => rfl) ?_
      refine fE_call (g_seams μ O (h := h) (by omega)) 4 (fun _ => rfl) ?_
      refine fE_ite 1 (fun _ => rfl) (fun r => ?_) (fun r => ?_)
      · skip
        exact next
      · skip
        refine fE_call (g_state μ (a := a) (h := h) (by omega)) 3 (fun _ => rfl) ?_
        refine fE_neg (fun p => q ((nI_eq (by omega) (by omega)).mp p)) 2 (fun _ => rfl) ?_
        exact next
/-! the seams wear -/
def A2 (a : Nat → Nat) (h n : Nat) : Nat → Nat := fun j => if 21 + 28 * h + 20 ≤ j ∧ j < 21 + 28 * h + 20 + n then a j - 1 else a j
theorem A2_0 {a : Nat → Nat} {h : Nat} : A2 a h 0 = a := by
  funext j
  exact if_neg (by omega)
theorem A2_ne {a : Nat → Nat} {h n j : Nat} (hj : ¬ (21 + 28 * h + 20 ≤ j ∧ j < 21 + 28 * h + 20 + n)) : A2 a h n j = a j := if_neg hj
theorem A2_up {a : Nat → Nat} {h n : Nat} : up (A2 a h n) (21 + 28 * h + 20 + n) (hK a h n - 1) = A2 a h (n + 1) := by
  funext j
  unfold up A2
  by_cases e : j = 21 + 28 * h + 20 + n
  · subst e
    rw [if_pos rfl, if_pos (by omega)]
  · rw [if_neg e]
    by_cases l : 21 + 28 * h + 20 ≤ j ∧ j < 21 + 28 * h + 20 + n
    · rw [if_pos l, if_pos (by omega)]
    · rw [if_neg l, if_neg (by omega)]
theorem A2_ok {u : Nat} {a : Nat → Nat} {h : Nat} (O : OKA u a) (hh : h < 6) : ∀ n, n ≤ 7 → OKA u (A2 a h n)
  | 0, _ => by
    rw [A2_0]
    exact O
  | n + 1, hn => by
    rw [← A2_up]
    exact OKA.up_ck (A2_ok O hh n (by omega)) hh (by omega) (by have := O.ck h n hh (by omega); omega)
def s2 (a : Nat → Nat) (h : Nat) : Nat → Nat := if hS a h = 1 ∧ a 1 % 6 = 0 then A2 a h (hF a h - 1) else a
def r2 : Nat → Nat → (Nat → Nat) → (Nat → Nat)
  | 0, _, a => a
  | j + 1, h, a => r2 j (h + 1) (s2 a h)
theorem s2_ok {u : Nat} {a : Nat → Nat} {h : Nat} (O : OKA u a) (hh : h < 6) : OKA u (s2 a h) := by
  have := O.fr h hh
  unfold s2
  split
  · exact A2_ok O hh _ (by omega)
  · exact O
theorem s2_ne {a : Nat → Nat} {h j : Nat} (hj : j < 21) : s2 a h j = a j := by
  unfold s2
  split
  · exact A2_ne (by omega)
  · rfl
theorem g_hour_2i (μ : fM) {u h n : Nat} {a : Nat → Nat} {res : fR} (O : OKA u a) (hh : h < 6) (hs1 : hS a h = 1) (hm : a 1 % 6 = 0) : ∀ j k, k + j = hF a h - 1 → fEnds (fun zz => frun eX8_passesHour tX8_passesHour zz 171 [kR 8 0 0, kN n, kN h, kN (hF a h - 1)] [] (gA μ (A2 a h (hF a h - 1))) 0 0) res → fEnds (fun zz => frun eX8_passesHour tX8_passesHour zz 101 [kR 8 0 0, kN n, kN h, kN k] [] (gA μ (A2 a h k)) 0 0) res
  | 0, k, e, H => by
    have h8 := O.fr h hh
    have O1 := A2_ok O hh k (by omega)
    have f1 : hF (A2 a h k) h = hF a h := A2_ne (by omega)
    refine fE_call (g_seams μ O1 hh) 4 (fun _ => rfl) ?_
    rw [f1]
    refine fE_pos (by first | omega | (simp (disch := omega) only [fLit, nI_add, pk_mul, pk_rem, nI_clamp, beq01, beq11, cond_false, cond_true, nI_leI, nI_ltI, nI_eq]; done) | (simp (disch := omega) only [fLit, nI_add, pk_mul, pk_rem, nI_clamp, beq01, beq11, cond_false, cond_true, nI_leI, nI_ltI, nI_eq]; omega)) 1 (fun _ => rfl) ?_
    rw [← e] at H
    exact H
  | j + 1, k, e, H => by
    have h8 := O.fr h hh
    have h1 := O.hour
    have h2 := O.u6
    have hk := O.ck h k hh (by omega)
    have O1 := A2_ok O hh k (by omega)
    have f1 : hF (A2 a h k) h = hF a h := A2_ne (by omega)
    have f2 : hS (A2 a h k) h = 1 := (A2_ne (by omega)).trans hs1
    have f3 : A2 a h k 1 = a 1 := A2_ne (by omega)
    have f4 : A2 a h k (21 + 28 * h + 20 + k) = hK a h k := A2_ne (by omega)
    refine fE_call (g_seams μ O1 hh) 4 (fun _ => rfl) ?_
    rw [f1]
    refine fE_neg (by first | omega | (simp (disch := omega) only [fLit, nI_add, pk_mul, pk_rem, nI_clamp, beq01, beq11, cond_false, cond_true, nI_leI, nI_ltI, nI_eq]; done) | (simp (disch := omega) only [fLit, nI_add, pk_mul, pk_rem, nI_clamp, beq01, beq11, cond_false, cond_true, nI_leI, nI_ltI, nI_eq]; omega)) 1 (fun _ => rfl) ?_
    refine fE_call (g_state μ (a := A2 a h k) (h := h) hh) 3 (fun _ => rfl) ?_
    rw [f2]
    refine fE_pos (by first | omega | (simp (disch := omega) only [fLit, nI_add, pk_mul, pk_rem, nI_clamp, beq01, beq11, cond_false, cond_true, nI_leI, nI_ltI, nI_eq, gA_at', f3]; done) | (simp (disch := omega) only [fLit, nI_add, pk_mul, pk_rem, nI_clamp, beq01, beq11, cond_false, cond_true, nI_leI, nI_ltI, nI_eq, gA_at', f3]; omega)) 9 (fun _ => rfl) ?_
    refine fE_call (m_hullAt (nI h) _) 4 (fun _ => rfl) ?_
    refine fE_call (m_hullAt (nI h) _) 9 (fun _ => rfl) ?_
    refine fE_pos (by refine g_in (k := 21 + 28 * h + 20 + k) ?_ (show 21 + 28 * h + 20 + k < 213 from by omega) (show 213 < 2 ^ 31 from by decide); first | rfl | (simp (disch := omega) only [fLit, nI_add, pk_mul, pk_rem, pk_sub, nI_clamp]; done)) 5 (fun _ => rfl) ?_
    simp (disch := omega) only [fLit, nI_add, pk_mul, pk_rem, nI_clamp, beq01, beq11, cond_false, cond_true, gA_at', f4]
    refine fE_call (j_max 0 (nI (hK a h k) - nI 1) _) 3 (fun _ => rfl) ?_
    rw [mx0 (by omega) (by omega)]
    refine fE_pos (by refine g_in (k := 21 + 28 * h + 20 + k) ?_ (show 21 + 28 * h + 20 + k < 213 from by omega) (show 213 < 2 ^ 31 from by decide); first | rfl | (simp (disch := omega) only [fLit, nI_add, pk_mul, pk_rem, pk_sub, nI_clamp]; done)) 1 (fun _ => rfl) ?_
    refine fE_step (y := fun zz => frun _ _ zz 101 [kR 8 0 0, kN n, kN h, kX (nI k + 1)] [] (fI (gA μ (A2 a h k)) 30 0 0 (nI (21 + 28 * h + 20 + k)).toNatClampNeg (nI (hK a h k - 1))) 0 0) 2 (fun _ => rfl) ?_
    rw [nI_1, nI_clamp (by omega), gA_set (by omega), A2_up]
    exact g_hour_2i μ O hh hs1 hm j (k + 1) (by omega) H
theorem g_hour_2 (μ : fM) {u n : Nat} {res : fR} : ∀ j h (a : Nat → Nat) z, OKA u a → h + j = a 0 → (∀ z, fEnds (fun zz => frun eX8_passesHour tX8_passesHour zz 177 [kR 8 0 0, kN n, kN (a 0), z] [] (gA μ (r2 j h a)) 0 0) res) → fEnds (fun zz => frun eX8_passesHour tX8_passesHour zz 89 [kR 8 0 0, kN n, kN h, z] [] (gA μ a) 0 0) res
  | 0, h, a, z, O, e, H => by
    have h6 := O.hulls
    refine fE_pos (by first | omega | (simp (disch := omega) only [fLit, nI_add, pk_mul, pk_rem, nI_clamp, beq01, beq11, cond_false, cond_true, nI_leI, nI_ltI, nI_eq, gA_at']; done) | (simp (disch := omega) only [fLit, nI_add, pk_mul, pk_rem, nI_clamp, beq01, beq11, cond_false, cond_true, nI_leI, nI_ltI, nI_eq, gA_at']; omega)) 6 (fun _ => rfl) ?_
    have H := H z
    rw [← e] at H
    exact H
  | j + 1, h, a, z, O, e, H => by
    have h6 := O.hulls
    have h8 := O.fr h (by omega)
    have hs := O.st h (by omega)
    have h1 := O.hour
    have h2 := O.u6
    have e0 : s2 a h 0 = a 0 := s2_ne (by omega)
    have next : ∀ z, fEnds (fun zz => frun eX8_passesHour tX8_passesHour zz 89 [kR 8 0 0, kN n, kN (h + 1), z] [] (gA μ (s2 a h)) 0 0) res := fun z => by
      refine g_hour_2 μ j (h + 1) (s2 a h) z (s2_ok O (by omega)) (by omega) (fun z => ?_)
      rw [e0]
      exact H z
    have next : ∀ z, fEnds (fun zz => frun eX8_passesHour tX8_passesHour zz 171 [kR 8 0 0, kN n, kN h, z] [] (gA μ (s2 a h)) 0 0) res := fun z => by
      skip
      refine fE_step (y := fun zz => frun _ _ zz 89 [kR 8 0 0, kN n, kX (nI h + 1), z] [] _ 0 0) 2 (fun _ => rfl) ?_
      rw [nI_1]
      exact next z
    by_cases q : hS a h = 1 ∧ a 1 % 6 = 0
    · skip
      refine fE_neg (by first | omega | (simp (disch := omega) only [fLit, nI_add, pk_mul, pk_rem, nI_clamp, beq01, beq11, cond_false, cond_true, nI_leI, nI_ltI, nI_eq, gA_at']; done) | (simp (disch := omega) only [fLit, nI_add, pk_mul, pk_rem, nI_clamp, beq01, beq11, cond_false, cond_true, nI_leI, nI_ltI, nI_eq, gA_at']; omega)) 6 (fun _ => rfl) ?_
      refine fE_step (y := fun zz => frun _ _ zz 101 [kR 8 0 0, kN n, kN h, kN 0] [] _ 0 0) 2 (fun _ => rfl) ?_
      rw [← A2_0 (a := a) (h := h)]
      refine g_hour_2i μ O (by omega) q.1 q.2 (hF a h - 1) 0 (by omega) ?_
      have next := next (kN (hF a h - 1))
      rw [s2, if_pos q] at next
      exact next
    · have next := next (kN 0)
      rw [s2, if_neg q] at next
      refine fE_neg (by first | omega | (simp (disch := omega) only [fLit, nI_add, pk_mul, pk_rem, nI_clamp, beq01, beq11, cond_false, cond_true, nI_leI, nI_ltI, nI_eq, gA_at']; done) | (simp (disch := omega) only [fLit, nI_add, pk_mul, pk_rem, nI_clamp, beq01, beq11, cond_false, cond_true, nI_leI, nI_ltI, nI_eq, gA_at']; omega)) 6 (fun _ => rfl) ?_
      refine fE_step (y := fun zz => frun _ _ zz 101 [kR 8 0 0, kN n, kN h, kN 0] [] _ 0 0) 2 (fun _ => rfl) ?_
      refine fE_call (g_seams μ O (h := h) (by omega)) 4 (fun _ => rfl) ?_
      refine fE_ite 1 (fun _ => rfl) (fun r => ?_) (fun r => ?_)
      · skip
        exact next
      · skip
        refine fE_call (g_state μ (a := a) (h := h) (by omega)) 3 (fun _ => rfl) ?_
        refine fE_ite 2 (fun _ => rfl) (fun s => ?_) (fun s => ?_)
        · skip
          simp (disch := omega) only [fLit, nI_add, pk_mul, pk_rem, nI_clamp, beq01, beq11, cond_false, cond_true, nI_leI, nI_ltI, nI_eq] at s
          refine fE_neg (by first | omega | (simp (disch := omega) only [fLit, nI_add, pk_mul, pk_rem, nI_clamp, beq01, beq11, cond_false, cond_true, nI_leI, nI_ltI, nI_eq, gA_at']; done) | (simp (disch := omega) only [fLit, nI_add, pk_mul, pk_rem, nI_clamp, beq01, beq11, cond_false, cond_true, nI_leI, nI_ltI, nI_eq, gA_at']; omega)) 7 (fun _ => rfl) ?_
          exact next
        · skip
          exact next
