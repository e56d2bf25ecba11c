theorem mxI {x y : Nat} (hx : x < 2 ^ 31) (hy : y < 2 ^ 31) : (if nI x < nI y then nI y else nI x) = nI (max x y) := by
  by_cases h : x < y
  · rw [if_pos (nI_lt h hy), Nat.max_eq_right (by omega)]
  · rw [if_neg (nI_nlt (by omega) hx), Nat.max_eq_left (by omega)]
def nX (f : Nat → Nat) (x k : Nat) : Nat → Nat
  | 0 => x
  | j + 1 => nX f (max x (f k)) (k + 1) j
def nY (g : Nat → Nat → Nat) (G x k : Nat) : Nat → Nat
  | 0 => x
  | j + 1 => nY g G (nX (g k) x 0 G) (k + 1) j
theorem nX_le {f : Nat → Nat} {B : Nat} : ∀ {j x k}, x ≤ B → (∀ i, f i ≤ B) → nX f x k j ≤ B
  | 0, _, _, h, _ => h
  | j + 1, x, k, h, hf => nX_le (j := j) (Nat.max_le.mpr ⟨h, hf k⟩) hf
/-- how long the stretch is that begins at frame f of one hull and at frame k of the reflection of the other -/
abbrev rP (a : Nat → Nat) (h g f k n : Nat) : Prop := ¬ (f + n < hF a h ∧ k + n < hF a g ∧ hM a h (f + n) g (k + n))
def rL (a : Nat → Nat) (h g f k : Nat) : Nat := nF (rP a h g f k) 0 8
theorem rL_le {a : Nat → Nat} {h g f k : Nat} : rL a h g f k ≤ 8 := nF_le
theorem g_stretch_1 (μ : fM) {u : Nat} {a : Nat → Nat} {h g f k x : Nat} {res : fR} (O : OKA u a) (hh : h < 6) (hg : g < 6) (hf : f < 8) (hk : k < 8) : ∀ j n, n + j = 8 → fEnds (fun zz => frun eX8_commonStretch tX8_commonStretch zz 109 [kR 8 0 0, kN h, kN g, kN x, kN f, kN k, kN (nF (rP a h g f k) n j)] [] (gA μ a) 0 0) res → fEnds (fun zz => frun eX8_commonStretch tX8_commonStretch zz 58 [kR 8 0 0, kN h, kN g, kN x, kN f, kN k, kN n] [] (gA μ a) 0 0) res
  | 0, n, e, H => by
    have h8 := O.fr h hh
    refine fE_call (g_frames μ (a := a) hh) 6 (fun _ => rfl) ?_
    refine fE_pos (by first | omega | (simp (disch := omega) only [fLit, nI_add, pk_mul, pk_rem, nI_clamp, beq01, beq11, cond_false, cond_true, nI_leI, nI_ltI, nI_eq]; done) | (simp (disch := omega) only [fLit, nI_add, pk_mul, pk_rem, nI_clamp, beq01, beq11, cond_false, cond_true, nI_leI, nI_ltI, nI_eq]; omega)) 1 (fun _ => rfl) ?_
    exact H
  | j + 1, n, e, H => by
    have h8 := O.fr h hh
    have g8 := O.fr g hg
    refine fE_call (g_frames μ (a := a) hh) 6 (fun _ => rfl) ?_
    refine fE_ite 1 (fun _ => rfl) (fun q => ?_) (fun q => ?_)
    · skip
      simp (disch := omega) only [fLit, nI_add, pk_mul, pk_rem, nI_clamp, beq01, beq11, cond_false, cond_true, nI_leI, nI_ltI, nI_eq] at q
      rw [nF, if_pos (fun p => absurd p.1 (by omega))] at H
      exact H
    · skip
      simp (disch := omega) only [fLit, nI_add, pk_mul, pk_rem, nI_clamp, beq01, beq11, cond_false, cond_true, nI_leI, nI_ltI, nI_eq] at q
      refine fE_call (g_frames μ (a := a) hg) 6 (fun _ => rfl) ?_
      refine fE_ite 1 (fun _ => rfl) (fun r => ?_) (fun r => ?_)
      · skip
        simp (disch := omega) only [fLit, nI_add, pk_mul, pk_rem, nI_clamp, beq01, beq11, cond_false, cond_true, nI_leI, nI_ltI, nI_eq] at r
        rw [nF, if_pos (fun p => absurd p.2.1 (by omega))] at H
        exact H
      · skip
        simp (disch := omega) only [fLit, nI_add, pk_mul, pk_rem, nI_clamp, beq01, beq11, cond_false, cond_true, nI_leI, nI_ltI, nI_eq] at r
        have hi := g_isMirrored μ (h := h) (f := f + n) (g := g) (k := k + n) O hh hg (by omega) (by omega)
        rw [← nI_add f n, ← nI_add k n] at hi
        refine fE_call (hi) 10 (fun _ => rfl) ?_
        refine fE_ite 1 (fun _ => rfl) (fun s => ?_) (fun s => ?_)
        · skip
          have s := bI_0.mp s
          rw [nF, if_pos (fun p => s p.2.2)] at H
          exact H
        · skip
          have s := bI_n.mp s
          rw [nF, if_neg (fun p => p ⟨by omega, by omega, s⟩)] at H
          refine fE_step (y := fun zz => frun _ _ zz 58 [kR 8 0 0, kN h, kN g, kN x, kN f, kN k, kX (nI n + 1)] [] _ 0 0) 2 (fun _ => rfl) ?_
          rw [nI_1]
          exact g_stretch_1 μ O hh hg hf hk j (n + 1) (by omega) H
theorem g_stretch_2 (μ : fM) {u : Nat} {a : Nat → Nat} {h g f : Nat} {res : fR} (O : OKA u a) (hh : h < 6) (hg : g < 6) (hf : f < 8) : ∀ j k x z, k + j = hF a g → x ≤ 8 → (∀ z, fEnds (fun zz => frun eX8_commonStretch tX8_commonStretch zz 122 [kR 8 0 0, kN h, kN g, kN (nX (rL a h g f) x k j), kN f, kN (hF a g), z] [] (gA μ a) 0 0) res) → fEnds (fun zz => frun eX8_commonStretch tX8_commonStretch zz 45 [kR 8 0 0, kN h, kN g, kN x, kN f, kN k, z] [] (gA μ a) 0 0) res
  | 0, k, x, z, e, hx, H => by
    have g8 := O.fr g hg
    refine fE_call (g_frames μ (a := a) hg) 4 (fun _ => rfl) ?_
    refine fE_pos (by first | omega | (simp (disch := omega) only [fLit, nI_add, pk_mul, pk_rem, nI_clamp, beq01, beq11, cond_false, cond_true, nI_leI, nI_ltI, nI_eq]; done) | (simp (disch := omega) only [fLit, nI_add, pk_mul, pk_rem, nI_clamp, beq01, beq11, cond_false, cond_true, nI_leI, nI_ltI, nI_eq]; omega)) 1 (fun _ => rfl) ?_
    have H := H z
    rw [← e] at H
    exact H
  | j + 1, k, x, z, e, hx, H => by
    have g8 := O.fr g hg
    have hr : rL a h g f k ≤ 8 := rL_le
    refine fE_call (g_frames μ (a := a) hg) 4 (fun _ => rfl) ?_
    refine fE_neg (by first | omega | (simp (disch := omega) only [fLit, nI_add, pk_mul, pk_rem, nI_clamp, beq01, beq11, cond_false, cond_true, nI_leI, nI_ltI, nI_eq]; done) | (simp (disch := omega) only [fLit, nI_add, pk_mul, pk_rem, nI_clamp, beq01, beq11, cond_false, cond_true, nI_leI, nI_ltI, nI_eq]; omega)) 1 (fun _ => rfl) ?_
    refine fE_step (y := fun zz => frun _ _ zz 58 [kR 8 0 0, kN h, kN g, kN x, kN f, kN k, kN 0] [] _ 0 0) 2 (fun _ => rfl) ?_
    refine g_stretch_1 μ O hh hg hf (by omega) 8 0 (by omega) ?_
    show fEnds (fun zz => frun eX8_commonStretch tX8_commonStretch zz 109 [kR 8 0 0, kN h, kN g, kN x, kN f, kN k, kN (rL a h g f k)] [] (gA μ a) 0 0) res
    refine fE_call (j_max (nI x) (nI (rL a h g f k)) (gA μ a)) 3 (fun _ => rfl) ?_
    refine fE_step (y := fun zz => frun _ _ zz 45 [kR 8 0 0, kN h, kN g, kX (if nI x < nI (rL a h g f k) then nI (rL a h g f k) else nI x), kN f, kX (nI k + 1), kN (rL a h g f k)] [] _ 0 0) 3 (fun _ => rfl) ?_
    rw [mxI (by omega) (by omega), nI_1]
    exact g_stretch_2 μ O hh hg hf j (k + 1) _ _ (by omega) (Nat.max_le.mpr ⟨hx, hr⟩) H
theorem g_stretch_3 (μ : fM) {u : Nat} {a : Nat → Nat} {h g : Nat} (O : OKA u a) (hh : h < 6) (hg : g < 6) : ∀ j f x y z, f + j = hF a h → x ≤ 8 → fEnds (fun zz => frun eX8_commonStretch tX8_commonStretch zz 32 [kR 8 0 0, kN h, kN g, kN x, kN f, y, z] [] (gA μ a) 0 0) (.inl (some (vI (nI (nY (rL a h g) (hF a g) x f j)))), gA μ a)
  | 0, f, x, y, z, e, hx => by
    have h8 := O.fr h hh
    refine fE_call (g_frames μ (a := a) hh) 4 (fun _ => rfl) ?_
    refine fE_pos (by first | omega | (simp (disch := omega) only [fLit, nI_add, pk_mul, pk_rem, nI_clamp, beq01, beq11, cond_false, cond_true, nI_leI, nI_ltI, nI_eq]; done) | (simp (disch := omega) only [fLit, nI_add, pk_mul, pk_rem, nI_clamp, beq01, beq11, cond_false, cond_true, nI_leI, nI_ltI, nI_eq]; omega)) 1 (fun _ => rfl) ?_
    exact fE_ret 2 (fun _ => rfl)
  | j + 1, f, x, y, z, e, hx => by
    have h8 := O.fr h hh
    refine fE_call (g_frames μ (a := a) hh) 4 (fun _ => rfl) ?_
    refine fE_neg (by first | omega | (simp (disch := omega) only [fLit, nI_add, pk_mul, pk_rem, nI_clamp, beq01, beq11, cond_false, cond_true, nI_leI, nI_ltI, nI_eq]; done) | (simp (disch := omega) only [fLit, nI_add, pk_mul, pk_rem, nI_clamp, beq01, beq11, cond_false, cond_true, nI_leI, nI_ltI, nI_eq]; omega)) 1 (fun _ => rfl) ?_
    refine fE_step (y := fun zz => frun _ _ zz 45 [kR 8 0 0, kN h, kN g, kN x, kN f, kN 0, z] [] _ 0 0) 2 (fun _ => rfl) ?_
    refine g_stretch_2 μ O hh hg (by omega) (hF a g) 0 x z (by omega) hx (fun z => ?_)
    refine fE_step (y := fun zz => frun _ _ zz 32 [kR 8 0 0, kN h, kN g, kN (nX (rL a h g f) x 0 (hF a g)), kX (nI f + 1), kN (hF a g), z] [] _ 0 0) 2 (fun _ => rfl) ?_
    rw [nI_1]
    exact g_stretch_3 μ O hh hg j (f + 1) _ _ _ (by omega) (nX_le hx fun _ => rL_le)
def qStretch (a : Nat → Nat) (x y : Int32) : qR := if okH a x ∧ okH a y then .inr (nI (nY (rL a (xN x) (xN y)) (hF a (xN y)) 0 0 (hF a (xN x)))) else .inl 1
theorem q_commonStretch (μ : fM) {u : Nat} {a : Nat → Nat} (x y : Int32) (O : OKA u a) : sX8_commonStretch [vR 8 0 0, vI x, vI y] (gA μ a) = some (mRes μ a (qStretch a x y)) := by
  have h6 := O.hulls
  refine fsemV_of (Nat.le_of_ble_eq_true rfl) ?_
  refine fE_step (y := fun zz => frun _ _ zz 5 [kR 8 0 0, kX x, kX y, none, none, none, none] [] (fI (gA μ a) 8 0 0 9 0) 0 0) 3 (fun _ => rfl) ?_
  rw [gA_fI (by decide)]
  refine fE_call (g_isHull (gT μ 0) (a := a) (x := x) O) 3 (fun _ => rfl) ?_
  refine fE_ite 1 (fun _ => rfl) (fun q => ?_) (fun q => ?_)
  · skip
    have q := bI_0.mp q
    refine fE_call (g_throwing0 μ a 1 0) 3 (fun _ => rfl) ?_
    refine fE_ret2 1 (fun _ => rfl) ?_
    unfold qStretch
    rw [if_neg (fun p => q p.1)]
    rfl
  · skip
    have q := bI_n.mp q
    refine fE_call (g_isHull (gT μ 0) (a := a) (x := y) O) 3 (fun _ => rfl) ?_
    refine fE_ite 1 (fun _ => rfl) (fun r => ?_) (fun r => ?_)
    · skip
      have r := bI_0.mp r
      refine fE_call (g_throwing0 μ a 1 0) 3 (fun _ => rfl) ?_
      refine fE_ret2 1 (fun _ => rfl) ?_
      unfold qStretch
      rw [if_neg (fun p => r p.2)]
      rfl
    · skip
      have r := bI_n.mp r
      obtain ⟨h, hh, rfl⟩ := nI_ix (by omega) q.1 q.2
      obtain ⟨g, hg, rfl⟩ := nI_ix (by omega) r.1 r.2
      refine fE_step (y := fun zz => frun _ _ zz 32 [kR 8 0 0, kN h, kN g, kN 0, kN 0, none, none] [] _ 0 0) 4 (fun _ => rfl) ?_
      refine fE_cg (g_stretch_3 (gT μ 0) O (by omega) (by omega) (hF a h) 0 0 none none (by omega) (by omega)) ?_
      unfold qStretch
      rw [if_pos ⟨q, r⟩, xN, xN, nI_clamp (by omega), nI_clamp (by omega)]
      rfl
theorem q_commonStretchByTrying (μ : fM) {u : Nat} {a : Nat → Nat} (x y : Int32) (O : OKA u a) : sX8_commonStretchByTrying [vR 8 0 0, vI x, vI y] (gA μ a) = some (mRes μ a (qStretch a x y)) := by
  refine fsemV_of (Nat.le_of_ble_eq_true rfl) ?_
  refine fE_call (q_commonStretch μ x y O) 4 (fun _ => rfl) ?_
  exact fE_ret 1 (fun _ => rfl)
