abbrev hM (a : Nat → Nat) (h f g k : Nat) : Prop := hD a h f 0 = hD a g k 1 ∧ hD a h f 1 = hD a g k 0
theorem g_isMirrored (μ : fM) {u : Nat} {a : Nat → Nat} {h f g k : Nat} (O : OKA u a) (hh : h < 6) (hg : g < 6) (hf : f < 8) (hk : k < 8) : sX8_isMirrored [vR 8 0 0, vI (nI h), vI (nI f), vI (nI g), vI (nI k)] (gA μ a) = some (.inl (some (vI (bI (hM a h f g k)))), gA μ a) := by
  have b1 := O.wd h f 0 hh hf (by decide)
  have b2 := O.wd h f 1 hh hf (by decide)
  have b3 := O.wd g k 0 hg hk (by decide)
  have b4 := O.wd g k 1 hg hk (by decide)
  refine fsemV_of (Nat.le_of_ble_eq_true rfl) ?_
  refine fE_call (g_width μ (a := a) (h := h) (f := f) (s := 0) hh hf (by decide)) 5 (fun _ => rfl) ?_
  refine fE_call (g_width μ (a := a) (h := g) (f := k) (s := 1) hg hk (by decide)) 5 (fun _ => rfl) ?_
  refine fE_ite 1 (fun _ => rfl) (fun q => ?_) (fun q => ?_)
  · skip
    have q := (nI_eq (by omega) (by omega)).mp q
    refine fE_call (g_width μ (a := a) (h := h) (f := f) (s := 1) hh hf (by decide)) 5 (fun _ => rfl) ?_
    refine fE_call (g_width μ (a := a) (h := g) (f := k) (s := 0) hg hk (by decide)) 5 (fun _ => rfl) ?_
    refine fE_ite 1 (fun _ => rfl) (fun r => ?_) (fun r => ?_)
    · skip
      have r := (nI_eq (by omega) (by omega)).mp r
      refine fE_ret2 3 (fun _ => rfl) ?_
      rw [bI_t ⟨q, r⟩]
      rfl
    · skip
      refine fE_ret2 2 (fun _ => rfl) ?_
      rw [bI_f (fun p => r (congrArg nI p.2))]
      rfl
  · skip
    refine fE_ret2 2 (fun _ => rfl) ?_
    rw [bI_f (fun p => q (congrArg nI p.1))]
    rfl
def nA (p : Nat → Bool) (k : Nat) : Nat → Bool
  | 0 => true
  | j + 1 => p k && nA p (k + 1) j
abbrev hR (a : Nat → Nat) (h g : Nat) : Prop := hF a h = hF a g ∧ nA (fun k => decide (hM a h k g k)) 0 (hF a h) = true
theorem g_isReflection_1 (μ : fM) {u : Nat} {a : Nat → Nat} {h g : Nat} (O : OKA u a) (hh : h < 6) (hg : g < 6) : ∀ j k (b : Bool), k + j = hF a h → fEnds (fun zz => frun eX8_isReflection tX8_isReflection zz 22 [kR 8 0 0, kN h, kN g, kX (bI (b = true)), kN k] [] (gA μ a) 0 0) (.inl (some (vI (bI ((b && nA (fun k => decide (hM a h k g k)) k j) = true)))), gA μ a)
  | 0, k, b, e => by
    have h8 := O.fr h hh
    refine fE_call (g_frames μ (a := a) hh) 4 (fun _ => rfl) ?_
    refine fE_pos (by first | omega | (simp (disch := omega) only [fLit, nI_add, pk_mul, pk_rem, nI_clamp, beq01, beq11, cond_false, cond_true, nI_leI, nI_ltI, nI_eq]; done) | (simp (disch := omega) only [fLit, nI_add, pk_mul, pk_rem, nI_clamp, beq01, beq11, cond_false, cond_true, nI_leI, nI_ltI, nI_eq]; omega)) 1 (fun _ => rfl) ?_
    refine fE_ret2 2 (fun _ => rfl) ?_
    show (Sum.inl (some (vI (fnar 1 (bI (b = true))))), gA μ a) = (Sum.inl (some (vI (bI ((b && true) = true)))), gA μ a)
    rw [bI_b, Bool.and_true]
  | j + 1, k, b, e => by
    have h8 := O.fr h hh
    refine fE_call (g_frames μ (a := a) hh) 4 (fun _ => rfl) ?_
    refine fE_neg (by first | omega | (simp (disch := omega) only [fLit, nI_add, pk_mul, pk_rem, nI_clamp, beq01, beq11, cond_false, cond_true, nI_leI, nI_ltI, nI_eq]; done) | (simp (disch := omega) only [fLit, nI_add, pk_mul, pk_rem, nI_clamp, beq01, beq11, cond_false, cond_true, nI_leI, nI_ltI, nI_eq]; omega)) 1 (fun _ => rfl) ?_
    refine fE_ite 2 (fun _ => rfl) (fun q => ?_) (fun q => ?_)
    · skip
      have q := bI_0.mp q
      refine fE_ret2 2 (fun _ => rfl) ?_
      show (Sum.inl (some (vI (fnar 1 (bI (b = true))))), gA μ a) = _
      rw [bI_b, show b = false from Bool.eq_false_iff.mpr q, Bool.false_and]
    · skip
      have q := bI_n.mp q
      refine fE_call (g_isMirrored μ (h := h) (f := k) (g := g) (k := k) O hh hg (by omega) (by omega)) 6 (fun _ => rfl) ?_
      refine fE_step (y := fun zz => frun _ _ zz 22 [kR 8 0 0, kN h, kN g, kX (bI (hM a h k g k)), kX (nI k + 1)] [] _ 0 0) 3 (fun _ => rfl) ?_
      rw [nI_1, bI_c (q := decide (hM a h k g k) = true) (by rw [decide_eq_true_iff])]
      refine fE_cg (g_isReflection_1 μ O hh hg j (k + 1) _ (by omega)) ?_
      rw [nA, q, Bool.true_and]
theorem g_isReflection (μ : fM) {u : Nat} {a : Nat → Nat} {h g : Nat} (O : OKA u a) (hh : h < 6) (hg : g < 6) : sX8_isReflection [vR 8 0 0, vI (nI h), vI (nI g)] (gA μ a) = some (.inl (some (vI (bI (hR a h g)))), gA μ a) := by
  have h8 := O.fr h hh
  have g8 := O.fr g hg
  refine fsemV_of (Nat.le_of_ble_eq_true rfl) ?_
  refine fE_call (g_frames μ (a := a) hh) 3 (fun _ => rfl) ?_
  refine fE_call (g_frames μ (a := a) hg) 3 (fun _ => rfl) ?_
  refine fE_ite 1 (fun _ => rfl) (fun q => ?_) (fun q => ?_)
  · skip
    have q := (nI_eq (by omega) (by omega)).mp q
    refine fE_step (y := fun zz => frun _ _ zz 22 [kR 8 0 0, kN h, kN g, kX (bI (true = true)), kN 0] [] _ 0 0) 5 (fun _ => rfl) ?_
    refine fE_cg (g_isReflection_1 μ O hh hg (hF a h) 0 true (by omega)) ?_
    rw [Bool.true_and, bI_c (q := hR a h g)]
    exact ⟨fun p => ⟨q, p⟩, fun p => p.2⟩
  · skip
    refine fE_step (y := fun zz => frun _ _ zz 22 [kR 8 0 0, kN h, kN g, kX (bI (false = true)), kN 0] [] _ 0 0) 4 (fun _ => rfl) ?_
    refine fE_cg (g_isReflection_1 μ O hh hg (hF a h) 0 false (by omega)) ?_
    rw [Bool.false_and, bI_c (q := hR a h g)]
    exact ⟨fun p => absurd p (by decide), fun p => absurd (congrArg nI p.1) q⟩
/-- two hulls asked for: the number of the fault, or whether -/
abbrev mResB (μ : fM) (a : Nat → Nat) (q : Nat ⊕ Bool) : fR := (.inl (some (vI (match q with | .inl _ => 0 | .inr b => bI (b = true)))), gA (gT μ (nI (match q with | .inl t => t | .inr _ => 0))) a)
def qRefl (a : Nat → Nat) (x y : Int32) : Nat ⊕ Bool := if okH a x ∧ okH a y then .inr (decide (hR a (xN x) (xN y))) else .inl 1
theorem q_isReflectionOf (μ : fM) {u : Nat} {a : Nat → Nat} (x y : Int32) (O : OKA u a) : sX8_isReflectionOf [vR 8 0 0, vI x, vI y] (gA μ a) = some (mResB μ a (qRefl a x y)) := by
  have h6 := O.hulls
  refine fsemV_of (Nat.le_of_ble_eq_true rfl) ?_
  refine fE_step (y := fun zz => frun _ _ zz 5 [kR 8 0 0, kX x, kX y] [] (fI (gA μ a) 8 0 0 9 0) 0 0) 3 (fun _ => rfl) ?_
  rw [gA_fI (by decide)]
  refine fE_call (g_isHull (gT μ 0) (a := a) (x := x) O) 3 (fun _ => rfl) ?_
  refine fE_ite 1 (fun _ => rfl) (fun q => ?_) (fun q => ?_)
  · skip
    have q := bI_0.mp q
    refine fE_call (g_throwing0 μ a 1 0) 3 (fun _ => rfl) ?_
    refine fE_ret2 3 (fun _ => rfl) ?_
    unfold qRefl
    rw [if_neg (fun p => q p.1)]
    rfl
  · skip
    have q := bI_n.mp q
    refine fE_call (g_isHull (gT μ 0) (a := a) (x := y) O) 3 (fun _ => rfl) ?_
    refine fE_ite 1 (fun _ => rfl) (fun r => ?_) (fun r => ?_)
    · skip
      have r := bI_0.mp r
      refine fE_call (g_throwing0 μ a 1 0) 3 (fun _ => rfl) ?_
      refine fE_ret2 3 (fun _ => rfl) ?_
      unfold qRefl
      rw [if_neg (fun p => r p.2)]
      rfl
    · skip
      have r := bI_n.mp r
      obtain ⟨h, hh, rfl⟩ := nI_ix (by omega) q.1 q.2
      obtain ⟨g, hg, rfl⟩ := nI_ix (by omega) r.1 r.2
      refine fE_call (g_isReflection (gT μ 0) (h := h) (g := g) O (by omega) (by omega)) 4 (fun _ => rfl) ?_
      refine fE_ret2 1 (fun _ => rfl) ?_
      unfold qRefl
      rw [if_pos ⟨q, r⟩, xN, xN, nI_clamp (by omega), nI_clamp (by omega)]
      show (Sum.inl (some (vI (fnar 1 (bI _)))), _) = (Sum.inl (some (vI (bI (decide (hR a h g) = true)))), _)
      rw [bI_b, bI_c (q := decide (hR a h g) = true) (by rw [decide_eq_true_iff])]
      rfl
theorem q_isSymmetric (μ : fM) {u : Nat} {a : Nat → Nat} (x : Int32) (O : OKA u a) : sX8_isSymmetric [vR 8 0 0, vI x] (gA μ a) = some (mResB μ a (qRefl a x x)) := by
  refine fsemV_of (Nat.le_of_ble_eq_true rfl) ?_
  refine fE_call (q_isReflectionOf μ x x O) 4 (fun _ => rfl) ?_
  refine fE_ret2 1 (fun _ => rfl) ?_
  generalize qRefl a x x = r
  cases r
  · show (Sum.inl (some (vI (fnar 1 0))), _) = _
    rw [show fnar 1 0 = 0 from rfl]
  · show (Sum.inl (some (vI (fnar 1 (bI _)))), _) = _
    rw [bI_b]
