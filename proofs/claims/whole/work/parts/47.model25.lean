theorem r1_ok {u : Nat} : ∀ {j h : Nat} {a : Nat → Nat}, OKA u a → h + j ≤ 6 → (∀ g, h ≤ g → g < 6 → hW a g + 63 ≤ 63 * a 1) → OKA u (r1 j h a) ∧ ∀ k, k < 21 → r1 j h a k = a k
  | 0, h, a, O, e, hw => ⟨O, fun _ _ => rfl⟩
  | j + 1, h, a, O, e, hw => by
    have e1 : s1 a h 1 = a 1 := s1_ne (by omega)
    have ih := r1_ok (j := j) (h := h + 1) (s1_ok O (by omega) (hw h (by omega) (by omega))) (by omega) (fun g hg hg6 => by
      rw [e1, show hW (s1 a h) g = hW a g from s1_ne (by omega)]
      exact hw g (by omega) hg6)
    exact ⟨ih.1, fun k hk => (ih.2 k hk).trans (s1_ne (by omega))⟩
theorem r2_ok {u : Nat} : ∀ {j h : Nat} {a : Nat → Nat}, OKA u a → h + j ≤ 6 → OKA u (r2 j h a) ∧ ∀ k, k < 21 → r2 j h a k = a k
  | 0, h, a, O, e => ⟨O, fun _ _ => rfl⟩
  | j + 1, h, a, O, e => by
    have ih := r2_ok (j := j) (h := h + 1) (s2_ok O (h := h) (by omega)) (by omega)
    exact ⟨ih.1, fun k hk => (ih.2 k hk).trans (s2_ne hk)⟩
def s3 (q : Nat × (Nat → Nat)) (h : Nat) : Nat × (Nat → Nat) := if hS q.2 h = 1 ∧ hDr q.2 h (hWgt q.2 h) = 41 then (q.1 + 1, up q.2 (21 + 28 * h) 3) else q
def r3 : Nat → Nat → Nat × (Nat → Nat) → Nat × (Nat → Nat)
  | 0, _, q => q
  | j + 1, h, q => r3 j (h + 1) (s3 q h)
theorem s3_ok {u : Nat} {q : Nat × (Nat → Nat)} {h : Nat} (O : OKA u q.2) (hh : h < 6) : OKA u (s3 q h).2 ∧ (∀ k, k < 21 → (s3 q h).2 k = q.2 k) ∧ (s3 q h).1 ≤ q.1 + 1 := by
  unfold s3
  split
  · exact ⟨O.up_st hh (by decide), fun k hk => up_ne (by omega), Nat.le_refl _⟩
  · exact ⟨O, fun _ _ => rfl, Nat.le_succ _⟩
theorem r3_ok {u : Nat} : ∀ {j h : Nat} {q : Nat × (Nat → Nat)}, OKA u q.2 → h + j ≤ 6 → OKA u (r3 j h q).2 ∧ (∀ k, k < 21 → (r3 j h q).2 k = q.2 k) ∧ (r3 j h q).1 ≤ q.1 + j
  | 0, h, q, O, e => ⟨O, fun _ _ => rfl, Nat.le_refl _⟩
  | j + 1, h, q, O, e => by
    have h3 := s3_ok O (h := h) (by omega)
    have ih := r3_ok (j := j) (h := h + 1) h3.1 (by omega)
    exact ⟨ih.1, fun k hk => (ih.2.1 k hk).trans (h3.2.1 k hk), by have := ih.2.2; have := h3.2.2; show (r3 j (h + 1) (s3 q h)).1 ≤ _; omega⟩
theorem g_hour_3 (μ : fM) {u : Nat} {z : Option fV} : ∀ j h (q : Nat × (Nat → Nat)), OKA u q.2 → h + j = q.2 0 → fEnds (fun zz => frun eX8_passesHour tX8_passesHour zz 179 [kR 8 0 0, kN q.1, kN h, z] [] (gA μ q.2) 0 0) (.inl (some (vI (nI (r3 j h q).1))), gA μ (r3 j h q).2)
  | 0, h, q, O, e => by
    have h6 := O.hulls
    refine fE_pos (by first | omega | (simp (disch := omega) only [fLit, nI_add, pk_mul, pk_rem, nI_clamp, beq01, beq11, cond_false, cond_true, nI_leI, nI_ltI, nI_eq, gA_at']; done) | (simp (disch := omega) only [fLit, nI_add, pk_mul, pk_rem, nI_clamp, beq01, beq11, cond_false, cond_true, nI_leI, nI_ltI, nI_eq, gA_at']; omega)) 6 (fun _ => rfl) ?_
    exact fE_ret 2 (fun _ => rfl)
  | j + 1, h, q, O, e => by
    have h6 := O.hulls
    have hs := O.st h (by omega)
    have hw := hWgt_le O (h := h) (by omega)
    have hd : hDr q.2 h (hWgt q.2 h) ≤ 41 := dDr_le
    have h3 := s3_ok O (h := h) (by omega)
    have ih := g_hour_3 μ (z := z) j (h + 1) (s3 q h) h3.1 (by rw [h3.2.1 0 (by omega)]; omega)
    have next : ¬ (hS q.2 h = 1 ∧ hDr q.2 h (hWgt q.2 h) = 41) → fEnds (fun zz => frun eX8_passesHour tX8_passesHour zz 225 [kR 8 0 0, kN q.1, kN h, z] [] (gA μ q.2) 0 0) (.inl (some (vI (nI (r3 (j + 1) h q).1))), gA μ (r3 (j + 1) h q).2) := fun hn => by
      rw [r3, s3, if_neg hn]
      rw [s3, if_neg hn] at ih
      refine fE_step (y := fun zz => frun _ _ zz 179 [kR 8 0 0, kN q.1, kX (nI h + 1), z] [] _ 0 0) 2 (fun _ => rfl) ?_
      rw [nI_1]
      exact ih
    refine fE_neg (by first | omega | (simp (disch := omega) only [fLit, nI_add, pk_mul, pk_rem, nI_clamp, beq01, beq11, cond_false, cond_true, nI_leI, nI_ltI, nI_eq, gA_at']; done) | (simp (disch := omega) only [fLit, nI_add, pk_mul, pk_rem, nI_clamp, beq01, beq11, cond_false, cond_true, nI_leI, nI_ltI, nI_eq, gA_at']; omega)) 6 (fun _ => rfl) ?_
    refine fE_call (g_state μ (a := q.2) (h := h) (by omega)) 3 (fun _ => rfl) ?_
    refine fE_ite 2 (fun _ => rfl) (fun e1 => ?_) (fun e1 => ?_)
    · skip
      simp (disch := omega) only [fLit, nI_add, pk_mul, pk_rem, nI_clamp, beq01, beq11, cond_false, cond_true, nI_leI, nI_ltI, nI_eq] at e1
      refine fE_call (g_weight μ O (h := h) (by omega)) 5 (fun _ => rfl) ?_
      refine fE_call (g_draught μ O (h := h) (w := hWgt q.2 h) (by omega) (by omega)) 1 (fun _ => rfl) ?_
      refine fE_ite 2 (fun _ => rfl) (fun e2 => ?_) (fun e2 => ?_)
      · skip
        have e2 := (dI_m1 hd).mp e2
        rw [r3, s3, if_pos ⟨e1, e2⟩]
        rw [s3, if_pos ⟨e1, e2⟩] at ih
        refine fE_call (m_hullAt (nI h) _) 4 (fun _ => rfl) ?_
        refine fE_pos (by refine g_in (k := 21 + 28 * h) ?_ (show 21 + 28 * h < 213 from by omega) (show 213 < 2 ^ 31 from by decide); first | rfl | (simp (disch := omega) only [fLit, nI_add, pk_mul, pk_rem, pk_sub, nI_clamp]; done)) 2 (fun _ => rfl) ?_
        simp (disch := omega) only [fLit, nI_add, pk_mul, pk_rem, nI_clamp, beq01, beq11, cond_false, cond_true, gA_set]
        refine fE_step (y := fun zz => frun _ _ zz 179 [kR 8 0 0, kX (nI q.1 + 1), kX (nI h + 1), z] [] _ 0 0) 3 (fun _ => rfl) ?_
        rw [nI_1, nI_1]
        exact ih
      · skip
        exact next (fun p => e2 ((dI_m1 hd).mpr p.2))
    · skip
      simp (disch := omega) only [fLit, nI_add, pk_mul, pk_rem, nI_clamp, beq01, beq11, cond_false, cond_true, nI_leI, nI_ltI, nI_eq] at e1
      exact next (fun p => e1 p.1)
def sHr (a : Nat → Nat) : Nat × (Nat → Nat) := r3 (a 0) 0 (0, r2 (a 0) 0 (r1 (a 0) 0 (up a 1 (a 1 + 1))))
theorem sHr_ok0 {u : Nat} {a : Nat → Nat} (O : OKA u a) (h1 : a 1 + 1 ≤ 99 * u) : OKA u (up a 1 (a 1 + 1)) ∧ ∀ g, 0 ≤ g → g < 6 → hW (up a 1 (a 1 + 1)) g + 63 ≤ 63 * (up a 1 (a 1 + 1)) 1 := by
  refine ⟨O.up_hour ⟨by omega, h1⟩, fun g _ hg => ?_⟩
  have := O.wt g hg
  rw [up_at, show hW (up a 1 (a 1 + 1)) g = hW a g from up_ne (by omega)]
  omega
theorem sHr_ok {u : Nat} {a : Nat → Nat} (O : OKA u a) (h1 : a 1 + 1 ≤ 99 * u) : OKA u (sHr a).2 ∧ (sHr a).2 1 = a 1 + 1 ∧ (sHr a).2 0 = a 0 ∧ (sHr a).1 ≤ 6 := by
  have h6 := O.hulls
  have o0 := sHr_ok0 O h1
  have o1 := r1_ok o0.1 (j := a 0) (h := 0) (by omega) o0.2
  have o2 := r2_ok o1.1 (j := a 0) (h := 0) (by omega)
  have o3 := r3_ok (q := (0, r2 (a 0) 0 (r1 (a 0) 0 (up a 1 (a 1 + 1))))) o2.1 (j := a 0) (h := 0) (by omega)
  refine ⟨o3.1, ?_, ?_, ?_⟩
  · exact (o3.2.1 1 (by omega)).trans ((o2.2 1 (by omega)).trans ((o1.2 1 (by omega)).trans up_at))
  · exact (o3.2.1 0 (by omega)).trans ((o2.2 0 (by omega)).trans ((o1.2 0 (by omega)).trans (up_ne (by omega))))
  · have := o3.2.2
    unfold sHr
    omega
theorem g_passesHour (μ : fM) {u : Nat} {a : Nat → Nat} (O : OKA u a) (h1 : a 1 + 1 ≤ 99 * u) : sX8_passesHour [vR 8 0 0] (gA μ a) = some (.inl (some (vI (nI (sHr a).1))), gA μ (sHr a).2) := by
  have h6 := O.hulls
  have o0 := sHr_ok0 O h1
  have o1 := r1_ok o0.1 (j := a 0) (h := 0) (by omega) o0.2
  have o2 := r2_ok o1.1 (j := a 0) (h := 0) (by omega)
  have z0 : up a 1 (a 1 + 1) 0 = a 0 := up_ne (by omega)
  have z1 := (o1.2 0 (by omega)).trans z0
  have z2 := (o2.2 0 (by omega)).trans z1
  refine fsemV_of (Nat.le_of_ble_eq_true rfl) ?_
  refine fE_step (y := fun zz => frun _ _ zz 14 [kR 8 0 0, kN 0, kN 0, none] [] (fI (gA μ a) 30 0 0 1 ((gA μ a).1 30 0 0 1 + 1)) 0 0) 12 (fun _ => rfl) ?_
  simp (disch := omega) only [fLit, nI_add, pk_mul, pk_rem, nI_clamp, beq01, beq11, cond_false, cond_true, gA_at', gA_set]
  refine g_hour_1 μ (a 0) 0 _ none o0.1 (by omega) o0.2 (fun z => ?_)
  rw [z0]
  refine fE_step (y := fun zz => frun _ _ zz 89 [kR 8 0 0, kN 0, kN 0, z] [] _ 0 0) 2 (fun _ => rfl) ?_
  refine g_hour_2 μ (a 0) 0 _ z o1.1 (by omega) (fun z => ?_)
  rw [z1]
  refine fE_step (y := fun zz => frun _ _ zz 179 [kR 8 0 0, kN 0, kN 0, z] [] _ 0 0) 2 (fun _ => rfl) ?_
  exact g_hour_3 μ (a 0) 0 (0, r2 (a 0) 0 (r1 (a 0) 0 (up a 1 (a 1 + 1)))) o2.1 ((Nat.zero_add _).trans z2.symm)
def rHr : Nat → Nat → (Nat → Nat) → qR × (Nat → Nat)
  | 0, n, a => (.inr (nI n), a)
  | j + 1, n, a => rHr j (n + (sHr a).1) (sHr a).2
def sHours (a : Nat → Nat) (x : Int32) : qR × (Nat → Nat) := if inR x 1 99 then rHr (xN x) 0 a else (.inl 1, a)
theorem g_hours (μ : fM) {u N : Nat} : ∀ j k n (a : Nat → Nat), OKA u a → k + j = N → N ≤ 99 → a 1 + j ≤ 99 * u → n ≤ 6 * k → fEnds (fun zz => frun eX8_hoursIt tX8_hoursIt zz 22 [kR 8 0 0, kN N, kN n, kN k] [] (gA μ a) 0 0) (mMod μ (rHr j n a))
  | 0, k, n, a, O, e, hN, h1, hn => by
    skip
    refine fE_pos (by first | omega | (simp (disch := omega) only [fLit, nI_add, pk_mul, pk_rem, nI_clamp, beq01, beq11, cond_false, cond_true, nI_leI, nI_ltI, nI_eq]; done) | (simp (disch := omega) only [fLit, nI_add, pk_mul, pk_rem, nI_clamp, beq01, beq11, cond_false, cond_true, nI_leI, nI_ltI, nI_eq]; omega)) 3 (fun _ => rfl) ?_
    exact fE_ret 2 (fun _ => rfl)
  | j + 1, k, n, a, O, e, hN, h1, hn => by
    have ho := sHr_ok O (by omega)
    refine fE_neg (by first | omega | (simp (disch := omega) only [fLit, nI_add, pk_mul, pk_rem, nI_clamp, beq01, beq11, cond_false, cond_true, nI_leI, nI_ltI, nI_eq]; done) | (simp (disch := omega) only [fLit, nI_add, pk_mul, pk_rem, nI_clamp, beq01, beq11, cond_false, cond_true, nI_leI, nI_ltI, nI_eq]; omega)) 3 (fun _ => rfl) ?_
    refine fE_call (g_passesHour μ O (by omega)) 3 (fun _ => rfl) ?_
    refine fE_step (y := fun zz => frun _ _ zz 22 [kR 8 0 0, kN N, kX (nI n + nI (sHr a).1), kX (nI k + 1)] [] _ 0 0) 4 (fun _ => rfl) ?_
    rw [nI_add, nI_1, rHr]
    exact g_hours μ j (k + 1) _ _ ho.1 (by omega) hN (by rw [ho.2.1]; omega) (by have := ho.2.2.2; omega)
theorem g_hoursIt (μ : fM) {u : Nat} {a : Nat → Nat} (O : OKA u a) (hu : u + 1 ≤ 6200) (x : Int32) : sX8_hoursIt [vR 8 0 0, vI x] (gA μ a) = some (mMod μ (sHours a x)) := by
  have h1 := O.hour
  refine fsemV_of (Nat.le_of_ble_eq_true rfl) ?_
  unfold sHours
  refine fE_call (m_inL x 1 99 (gA μ a) (by decide) (by decide)) 5 (fun _ => rfl) ?_
  refine fE_ite 1 (fun _ => rfl) (fun c => ?_) (fun c => ?_)
  · skip
    have c := bI_0.mp c
    refine fE_call (g_throwing μ a 1) 3 (fun _ => rfl) ?_
    refine fE_ret2 1 (fun _ => rfl) ?_
    rw [if_neg c]
    rfl
  · skip
    have c := bI_n.mp c
    obtain ⟨X, hX1, hX2, rfl⟩ := inR_of (lo := 1) (hi := 99) (by omega) (by omega) c
    rw [if_pos c, xN, nI_clamp (by omega)]
    refine fE_step (y := fun zz => frun _ _ zz 22 [kR 8 0 0, kN X, kN 0, kN 0] [] _ 0 0) 4 (fun _ => rfl) ?_
    exact g_hours μ X 0 0 a (O.mono (u2 := u + 1) (by omega) hu) (by omega) hX2 (by omega) (by omega)
