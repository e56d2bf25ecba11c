theorem lkR_hb {t g j : Nat} {b : Nat → Nat} (B : HB b g) (hj : j = hF b g - 1) (hw : hW b g + 63 ≤ 40000000) : HB (lkR t g j 0 b) g ∧ hF (lkR t g j 0 b) g = hF b g ∧ hWide (lkR t g j 0 b) g = hWide b g ∧ hWgt (lkR t g j 0 b) g = hWgt b g + nT (fun i => 9 - hK b g i) 0 j ∧ hW (lkR t g j 0 b) g ≤ hW b g + 63 := by
  have A := lkR_all (t := t) (g := g) (j := j) (k := 0) (b := b)
  have h8 := B.1
  have f : hF (lkR t g j 0 b) g = hF b g := A.1 _ (by omega) (fun m _ _ => by omega)
  have s : hS (lkR t g j 0 b) g = hS b g := A.1 _ (by omega) (fun m _ _ => by omega)
  have c : hC (lkR t g j 0 b) g = hC b g := A.1 _ (by omega) (fun m _ _ => by omega)
  have d : ∀ k s, k < 8 → s < 2 → hD (lkR t g j 0 b) g k s = hD b g k s := fun k s hk hs => A.1 _ (by omega) (fun m _ _ => by omega)
  have n9 : nT (fun i => 9 - hK b g i) 0 j ≤ j * 9 := nT_le fun i _ _ => by show 9 - hK b g i ≤ 9; omega
  refine ⟨⟨by rw [f]; exact h8, by rw [s]; exact B.2.1, by rw [c]; exact B.2.2.1, by rw [A.2.1]; omega, fun k s hk hs => by rw [d k s hk hs]; exact B.2.2.2.2.1 k s hk hs, fun k hk => ?_⟩, f, ?_, ?_, by rw [A.2.1]; omega⟩
  · by_cases l : k < j
    · rw [A.2.2 k (by omega) (by omega)]
      exact Nat.le_trans kN_le (B.2.2.2.2.2 k hk)
    · rw [show hK (lkR t g j 0 b) g k = hK b g k from A.1 _ (by omega) (fun m _ _ => by omega)]
      exact B.2.2.2.2.2 k hk
  · unfold hWide
    rw [f]
    exact nT_eq fun i _ hi => by
      show hD _ g i 0 + hD _ g i 1 + hD _ g (i + 1) 0 + hD _ g (i + 1) 1 = _
      rw [d i 0 (by omega) (by decide), d i 1 (by omega) (by decide), d (i + 1) 0 (by omega) (by decide), d (i + 1) 1 (by omega) (by decide)]
  · unfold hWgt hDry
    rw [f, c, A.2.1, nT_eq (f := fun k => hD (lkR t g j 0 b) g k 0 + hD (lkR t g j 0 b) g k 1) (g := fun k => hD b g k 0 + hD b g k 1) (fun i _ hi => by
      show hD (lkR t g j 0 b) g i 0 + hD (lkR t g j 0 b) g i 1 = _
      rw [d i 0 (by omega) (by decide), d i 1 (by omega) (by decide)])]
    omega
theorem k_sink_1 {u g : Nat} {a : Nat → Nat} {x : Int32} {F wide : Nat} {hu : Nat} (O : OKA u a) : ∀ j n (μ : fM) (b : Nat → Nat), n + j = 501 → μ.1 6 0 0 5 = nI (a 1) → HV μ 11 0 b g → HB b g → hF b g = F → hWide b g = wide → hW b g + 63 * j ≤ 40000000 → ∃ μ', fEnds (fun zz => frun eX7_hoursToSinking tX7_hoursToSinking zz 34 [kR 7 0 0, kX x, kR 1 0 hu, kN n] [] μ 1 6) (cRes eL μ' (if hSk wide F (a 1) j n (hWgt b g) (hK b g) = 501 then .inl 3 else .inr (nI (hSk wide F (a 1) j n (hWgt b g) (hK b g))))) ∧ sX' (hP 11 0) μ μ'
  | 0, n, μ, b, e, hn, H, B, hf, hwd, hw => by
    obtain rfl : n = 501 := e
    refine ⟨μ, ?_, sX_refl⟩
    exact fE_ret 4 (fun _ => rfl)
  | j + 1, n, μ, b, e, hn, H, B, hf, hwd, hw => by
    have h8 := B.1
    have h1 := O.hour
    have h2 := O.u6
    obtain ⟨μ1, r1, r2, r3⟩ := c_leak (t := a 1 + n) (by omega) H B (by omega)
    rw [← nI_add, ← hn] at r1
    have L := lkR_hb (t := a 1 + n) (j := hF b g - 1) B rfl (by omega)
    have cf := c_floats r2 L.1
    have hn1 : μ1.1 6 0 0 5 = nI (a 1) := (r3.1 6 0 0 5 (fun p => by have := p.1; omega)).trans hn
    have A := lkR_all (t := a 1 + n) (g := g) (j := hF b g - 1) (k := 0) (b := b)
    have hw1 : hWgt b g + nT (fun k => 9 - hK b g k) 0 (F - 1) = hWgt (lkR (a 1 + n) g (hF b g - 1) 0 b) g := by rw [L.2.2.2.1, hf]
    by_cases q : dDr wide (hWgt b g + nT (fun k => 9 - hK b g k) 0 (F - 1)) = 41
    · refine ⟨μ1, ?_, r3⟩
      rw [hSk, if_pos q, if_neg (by omega)]
      refine fE_neg (by first | omega | (simp (disch := omega) only [fLit, nI_add, pk_mul, pk_rem, nI_clamp, beq01, beq11, cond_false, cond_true, nI_leI, nI_ltI, nI_eq]; done) | (simp (disch := omega) only [fLit, nI_add, pk_mul, pk_rem, nI_clamp, beq01, beq11, cond_false, cond_true, nI_leI, nI_ltI, nI_eq]; omega)) 3 (fun _ => rfl) ?_
      refine fE_call (r1) 8 (fun _ => rfl) ?_
      refine fE_call (cf) 3 (fun _ => rfl) ?_
      refine fE_pos (bI_0.mpr (by rw [fl_dr, L.2.2.1, hwd, ← hw1]; exact fun p => p q)) 1 (fun _ => rfl) ?_
      exact fE_ret 2 (fun _ => rfl)
    · obtain ⟨μ', s1, s2⟩ := k_sink_1 (x := x) (F := F) (wide := wide) (hu := hu) O j (n + 1) μ1 _ (by omega) hn1 r2 L.1 (L.2.1.trans hf) (L.2.2.1.trans hwd) (by have := L.2.2.2.2; omega)
      refine ⟨μ', ?_, sX_trans r3 s2⟩
      rw [hSk, if_neg q, hw1, hSk_eq (d := hK (lkR (a 1 + n) g (hF b g - 1) 0 b) g) (fun i hi => (A.2.2 i (by omega) (by omega)).symm)]
      refine fE_neg (by first | omega | (simp (disch := omega) only [fLit, nI_add, pk_mul, pk_rem, nI_clamp, beq01, beq11, cond_false, cond_true, nI_leI, nI_ltI, nI_eq]; done) | (simp (disch := omega) only [fLit, nI_add, pk_mul, pk_rem, nI_clamp, beq01, beq11, cond_false, cond_true, nI_leI, nI_ltI, nI_eq]; omega)) 3 (fun _ => rfl) ?_
      refine fE_call (r1) 8 (fun _ => rfl) ?_
      refine fE_call (cf) 3 (fun _ => rfl) ?_
      refine fE_neg (fun p => bI_0.mp p (by rw [fl_dr, L.2.2.1, hwd, ← hw1]; exact q)) 1 (fun _ => rfl) ?_
      refine fE_step (y := fun zz => frun _ _ zz 34 [kR 7 0 0, kX x, kR 1 0 hu, kX (nI n + 1)] [] _ 1 6) 2 (fun _ => rfl) ?_
      rw [nI_1]
      exact s1
theorem k_hoursToSinking {μ : fM} {u : Nat} {a : Nat → Nat} (Y : YR μ 0 a) (O : OKA u a) (x : Int32) : ∃ μ', sX7_hoursToSinking [vR 7 0 0, vI x] μ = some (cRes eL μ' (qSink a x)) ∧ sX' (hP 11 0) μ μ' := by
  have h6 := O.hulls
  have h1 := O.hour
  have h2 := O.u6
  by_cases q : okH a x
  · obtain ⟨h, hh, rfl⟩ := nI_ix (by omega) q.1 q.2
    have hx : xN (nI h) = h := nI_clamp (by omega)
    have H := Y.hv (h := h) (by omega)
    have B := O.hb (g := h) (by omega)
    have hs := H.2.1
    have b2 := B.2.1
    have hw := O.wt h (by omega)
    by_cases r : hS a h = 1
    · obtain ⟨μ', s1, s2⟩ := k_sink_1 (x := nI h) (F := hF a h) (wide := hWide a h) (hu := h) O 500 1 (hBec μ 11 0 0 h) a (by omega) ((hBec_out.1 6 0 0 5 (fun p => by have := p.1; omega)).trans Y.now) (hBec_hv H B) B rfl rfl (by omega)
      refine ⟨μ', fsemV_of (Nat.le_of_ble_eq_true rfl) ?_, sX_trans hBec_out s2⟩
      unfold qSink
      rw [if_pos q, hx, if_pos r]
      refine fE_call (c_known Y h6 hh) 3 (fun _ => rfl) ?_
      refine fE_pos (by show μ.1 1 0 h 4 = 1; rw [hs, r]; rfl) 5 (fun _ => rfl) ?_
      refine fE_call (c_become (μ := μ) (y := 11) (h := 0) (y2 := 0) (h2 := h) (by omega)) 4 (fun _ => rfl) ?_
      refine fE_step (y := fun zz => frun _ _ zz 34 [kR 7 0 0, kN h, kR 1 0 h, kN 1] [] _ 1 6) 2 (fun _ => rfl) ?_
      exact s1
    · refine ⟨μ, fsemV_of (Nat.le_of_ble_eq_true rfl) ?_, sX_refl⟩
      unfold qSink
      rw [if_pos q, hx, if_neg r]
      refine fE_call (c_known Y h6 hh) 3 (fun _ => rfl) ?_
      refine fE_neg (fun p => by change μ.1 1 0 h 4 = 1 at p; rw [hs] at p; exact r ((nI_eq (b := 1) (by omega) (by omega)).mp p)) 5 (fun _ => rfl) ?_
      exact fE_ret 1 (fun _ => rfl)
  · refine ⟨μ, fsemV_of (Nat.le_of_ble_eq_true rfl) ?_, sX_refl⟩
    unfold qSink
    rw [if_neg q]
    refine fE_call (c_known0 Y q) 3 (fun _ => rfl) ?_
    exact fE_ret 0 (fun _ => rfl)
