/-! stretches by trying -/
theorem c_len_1 {μ : fM} {h g f k : Nat} {a : Nat → Nat} (H : HV μ 0 h a h) (G : HV μ 0 g a g) (B : HB a h) (B2 : HB a g) (hf : f < hF a h) (hk : k < hF a g) : ∀ j n, n + j = 8 → fEnds (fun zz => frun eX5_lengthFrom tX5_lengthFrom zz 20 [kR 1 0 h, kN f, kR 1 0 g, kN k, kN (min (hF a h - f) (hF a g - k)), kN n] [] μ 0 0) (.inl (some (vI (nI (nF (rP a h g f k) n j)))), μ)
  | 0, n, e => by
    have h8 := B.1
    have g8 := B2.1
    have hm : min (hF a h - f) (hF a g - k) ≤ 8 := Nat.le_trans (Nat.min_le_left _ _) (by omega)
    refine fE_pos (by first | omega | (simp (disch := omega) only [fLit, nI_add, pk_mul, pk_rem, nI_clamp, beq01, beq11, cond_false, cond_true, nI_leI, nI_ltI, nI_eq]; done) | (simp (disch := omega) only [fLit, nI_add, pk_mul, pk_rem, nI_clamp, beq01, beq11, cond_false, cond_true, nI_leI, nI_ltI, nI_eq]; omega)) 3 (fun _ => rfl) ?_
    exact fE_ret 2 (fun _ => rfl)
  | j + 1, n, e => by
    have h8 := B.1
    have g8 := B2.1
    have hm : min (hF a h - f) (hF a g - k) ≤ 8 := Nat.le_trans (Nat.min_le_left _ _) (by omega)
    refine fE_ite 3 (fun _ => rfl) (fun q => ?_) (fun q => ?_)
    · skip
      have q := (nI_leI (by omega) (by omega)).mp q
      refine fE_ret2 2 (fun _ => rfl) ?_
      rw [nF, if_pos (fun p => absurd q (by omega))]
      rfl
    · skip
      have q : n < min (hF a h - f) (hF a g - k) := Nat.not_le.mp fun p => q (nI_le p (by omega))
      have q1 : f + n < hF a h := by omega
      have q2 : k + n < hF a g := by omega
      have hi := c_frameEq H B G B2 (f := f + n) (k := k + n) (by omega) (by omega)
      rw [← nI_add, ← nI_add] at hi
      refine fE_call (hi) 9 (fun _ => rfl) ?_
      refine fE_ite 1 (fun _ => rfl) (fun r => ?_) (fun r => ?_)
      · skip
        have r := bI_0.mp r
        refine fE_ret2 2 (fun _ => rfl) ?_
        rw [nF, if_pos (fun p => r p.2.2)]
        rfl
      · skip
        have r := bI_n.mp r
        refine fE_step (y := fun zz => frun _ _ zz 20 [kR 1 0 h, kN f, kR 1 0 g, kN k, kN (min (hF a h - f) (hF a g - k)), kX (nI n + 1)] [] _ 0 0) 2 (fun _ => rfl) ?_
        rw [nI_1, nF, if_neg (fun p => p ⟨q1, q2, r⟩)]
        exact c_len_1 H G B B2 hf hk j (n + 1) (by omega)
theorem mnI {x y : Nat} (hx : x < 2 ^ 31) (hy : y < 2 ^ 31) : (if nI x ≤ nI y then nI x else nI y) = nI (min x y) := by
  by_cases h : x ≤ y
  · rw [if_pos (nI_le h hy), Nat.min_eq_left h]
  · rw [if_neg (fun p => h ((nI_leI hx hy).mp p)), Nat.min_eq_right (by omega)]
theorem c_len {μ : fM} {h g f k : Nat} {a : Nat → Nat} (H : HV μ 0 h a h) (G : HV μ 0 g a g) (B : HB a h) (B2 : HB a g) (hf : f < hF a h) (hk : k < hF a g) : sX5_lengthFrom [vR 1 0 h, vI (nI f), vR 1 0 g, vI (nI k)] μ = some (.inl (some (vI (nI (rL a h g f k)))), μ) := by
  have h8 := B.1
  have g8 := B2.1
  have e1 := H.1
  have e2 := G.1
  have hm : min (hF a h - f) (hF a g - k) ≤ 8 := Nat.le_trans (Nat.min_le_left _ _) (by omega)
  have hj := j_min (nI (hF a h - f)) (nI (hF a g - k)) μ
  rw [mnI (by omega) (by omega), ← pk_sub (a := hF a h) (b := f) (by omega), ← pk_sub (a := hF a g) (b := k) (by omega), ← e1, ← e2] at hj
  refine fsem_of (Nat.le_of_ble_eq_true rfl) ?_
  refine fE_call (hj) 9 (fun _ => rfl) ?_
  refine fE_step (y := fun zz => frun _ _ zz 20 [kR 1 0 h, kN f, kR 1 0 g, kN k, kN (min (hF a h - f) (hF a g - k)), kN 0] [] _ 0 0) 3 (fun _ => rfl) ?_
  exact c_len_1 H G B B2 hf hk 8 0 (by omega)
theorem c_try_1 {μ : fM} {h g f : Nat} {a : Nat → Nat} {res : fR} (H : HV μ 0 h a h) (G : HV μ 0 g a g) (B : HB a h) (B2 : HB a g) (hf : f < hF a h) : ∀ j k x, k + j = hF a g → x ≤ 8 → fEnds (fun zz => frun eX5_longestByTrying tX5_longestByTrying zz 46 [kR 5 0 0, kR 1 0 h, kR 1 0 g, kN (nX (rL a h g f) x k j), kN f, kN (hF a g)] [] μ 0 0) res → fEnds (fun zz => frun eX5_longestByTrying tX5_longestByTrying zz 17 [kR 5 0 0, kR 1 0 h, kR 1 0 g, kN x, kN f, kN k] [] μ 0 0) res
  | 0, k, x, e, hx, R => by
    have g8 := B2.1
    have e2 := G.1
    refine fE_pos (by show μ.1 1 0 g 3 ≤ nI k; rw [e2]; exact nI_le (by omega) (by omega)) 4 (fun _ => rfl) ?_
    rw [← e] at R
    exact R
  | j + 1, k, x, e, hx, R => by
    have g8 := B2.1
    have e2 := G.1
    have hr : rL a h g f k ≤ 8 := rL_le
    refine fE_neg (fun p => by change μ.1 1 0 g 3 ≤ nI k at p; rw [e2] at p; exact absurd ((nI_leI (by omega) (by omega)).mp p) (by omega)) 4 (fun _ => rfl) ?_
    refine fE_call (c_len H G B B2 hf (k := k) (by omega)) 6 (fun _ => rfl) ?_
    refine fE_call (j_max (nI x) (nI (rL a h g f k)) μ) 1 (fun _ => rfl) ?_
    refine fE_step (y := fun zz => frun _ _ zz 17 [kR 5 0 0, kR 1 0 h, kR 1 0 g, kX (if nI x < nI (rL a h g f k) then nI (rL a h g f k) else nI x), kN f, kX (nI k + 1)] [] _ 0 0) 3 (fun _ => rfl) ?_
    rw [mxI (by omega) (by omega), nI_1]
    exact c_try_1 H G B B2 hf j (k + 1) _ (by omega) (Nat.max_le.mpr ⟨hx, hr⟩) R
theorem c_try_2 {μ : fM} {h g : Nat} {a : Nat → Nat} (H : HV μ 0 h a h) (G : HV μ 0 g a g) (B : HB a h) (B2 : HB a g) : ∀ j f x z, f + j = hF a h → x ≤ 8 → fEnds (fun zz => frun eX5_longestByTrying tX5_longestByTrying zz 5 [kR 5 0 0, kR 1 0 h, kR 1 0 g, kN x, kN f, z] [] μ 0 0) (.inl (some (vI (nI (nY (rL a h g) (hF a g) x f j)))), μ)
  | 0, f, x, z, e, hx => by
    have h8 := B.1
    have e1 := H.1
    refine fE_pos (by show μ.1 1 0 h 3 ≤ nI f; rw [e1]; exact nI_le (by omega) (by omega)) 4 (fun _ => rfl) ?_
    exact fE_ret 2 (fun _ => rfl)
  | j + 1, f, x, z, e, hx => by
    have h8 := B.1
    have e1 := H.1
    refine fE_neg (fun p => by change μ.1 1 0 h 3 ≤ nI f at p; rw [e1] at p; exact absurd ((nI_leI (by omega) (by omega)).mp p) (by omega)) 4 (fun _ => rfl) ?_
    refine fE_step (y := fun zz => frun _ _ zz 17 [kR 5 0 0, kR 1 0 h, kR 1 0 g, kN x, kN f, kN 0] [] _ 0 0) 2 (fun _ => rfl) ?_
    refine c_try_1 H G B B2 (by omega) (hF a g) 0 x (by omega) hx ?_
    refine fE_step (y := fun zz => frun _ _ zz 5 [kR 5 0 0, kR 1 0 h, kR 1 0 g, kN (nX (rL a h g f) x 0 (hF a g)), kX (nI f + 1), kN (hF a g)] [] _ 0 0) 2 (fun _ => rfl) ?_
    rw [nI_1]
    exact c_try_2 H G B B2 j (f + 1) _ _ (by omega) (nX_le hx fun _ => rL_le)
theorem c_try {μ : fM} {h g : Nat} {a : Nat → Nat} (H : HV μ 0 h a h) (G : HV μ 0 g a g) (B : HB a h) (B2 : HB a g) : sX5_longestByTrying [vR 5 0 0, vR 1 0 h, vR 1 0 g] μ = some (.inl (some (vI (nI (nY (rL a h g) (hF a g) 0 0 (hF a h))))), μ) := by
  refine fsemV_of (Nat.le_of_ble_eq_true rfl) ?_
  refine fE_step (y := fun zz => frun _ _ zz 5 [kR 5 0 0, kR 1 0 h, kR 1 0 g, kN 0, kN 0, none] [] _ 0 0) 4 (fun _ => rfl) ?_
  exact c_try_2 H G B B2 (hF a h) 0 0 _ (by omega) (by omega)
theorem k_commonStretchByTrying {μ : fM} {u : Nat} {a : Nat → Nat} (Y : YR μ 0 a) (O : OKA u a) (x y : Int32) : sX7_commonStretchByTrying [vR 7 0 0, vI x, vI y] μ = some (cRes e0 μ (qStretch a x y)) := by
  have h6 := O.hulls
  refine fsemV_of (Nat.le_of_ble_eq_true rfl) ?_
  unfold qStretch
  by_cases q : okH a x
  · obtain ⟨h, hh, rfl⟩ := nI_ix (by omega) q.1 q.2
    by_cases r : okH a y
    · obtain ⟨g, hg, rfl⟩ := nI_ix (by omega) r.1 r.2
      rw [if_pos ⟨q, r⟩, xN, xN, nI_clamp (by omega), nI_clamp (by omega)]
      refine fE_call (c_known Y h6 hh) 5 (fun _ => rfl) ?_
      refine fE_call (c_known Y h6 hg) 3 (fun _ => rfl) ?_
      refine fE_call (c_try (Y.hv (h := h) (by omega)) (Y.hv (h := g) (by omega)) (O.hb (by omega)) (O.hb (by omega))) 1 (fun _ => rfl) ?_
      exact fE_ret 1 (fun _ => rfl)
    · rw [if_neg (fun p => r p.2)]
      refine fE_call (c_known Y h6 hh) 5 (fun _ => rfl) ?_
      refine fE_call (c_known0 Y r) 3 (fun _ => rfl) ?_
      exact fE_ret 0 (fun _ => rfl)
  · rw [if_neg (fun p => q p.1)]
    refine fE_call (c_known0 Y q) 5 (fun _ => rfl) ?_
    exact fE_ret 0 (fun _ => rfl)
