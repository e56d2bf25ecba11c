theorem g_state (μ : fM) {a : Nat → Nat} {h : Nat} (hh : h < 6) : sX8_state [vR 8 0 0, vI (nI h)] (gA μ a) = some (.inl (some (vI (nI (hS a h)))), gA μ a) := by
  rw [m_state hh, gA_at (by omega)]
theorem g_frames (μ : fM) {a : Nat → Nat} {h : Nat} (hh : h < 6) : sX8_frames [vR 8 0 0, vI (nI h)] (gA μ a) = some (.inl (some (vI (nI (hF a h)))), gA μ a) := by
  rw [m_frames hh, gA_at (by omega)]
theorem g_width (μ : fM) {a : Nat → Nat} {h f s : Nat} (hh : h < 6) (hf : f < 8) (hs : s < 2) : sX8_width [vR 8 0 0, vI (nI h), vI (nI f), vI (nI s)] (gA μ a) = some (.inl (some (vI (nI (hD a h f s)))), gA μ a) := by
  rw [m_width hh hf hs, gA_at (by omega)]
theorem g_seams {u : Nat} (μ : fM) {a : Nat → Nat} {h : Nat} (O : OKA u a) (hh : h < 6) : sX8_seams [vR 8 0 0, vI (nI h)] (gA μ a) = some (.inl (some (vI (nI (hF a h - 1)))), gA μ a) :=
  m_seams hh (gA_at (by omega)) (O.fr h hh)
theorem g_isHull {u : Nat} (μ : fM) {a : Nat → Nat} {x : Int32} (O : OKA u a) : sX8_isHull [vR 8 0 0, vI x] (gA μ a) = some (.inl (some (vI (bI (0 ≤ x ∧ x < nI (a 0))))), gA μ a) :=
  m_isHull x (gA_at (by omega)) O.hulls
theorem fE_cg {x : Nat → Option fR} {r res : fR} (H : fEnds x r) (e : r = res) : fEnds x res := e ▸ H
theorem beq01 : Nat.beq 0 1 = false := rfl
theorem beq11 : Nat.beq 1 1 = true := rfl
abbrev kN (n : Nat) : Option fV := some (vI (nI n))
abbrev kX (x : Int32) : Option fV := some (vI x)
abbrev kR (c y h : Nat) : Option fV := some (vR c y h)
theorem g_dry_1 {u : Nat} (μ : fM) {a : Nat → Nat} {h : Nat} (O : OKA u a) (hh : h < 6) : ∀ j k x, k + j = hF a h → fEnds (fun n => frun eX8_dry tX8_dry n 14 [kR 8 0 0, kN h, kN x, kN k] [] (gA μ a) 0 0) (.inl (some (vI (nI (x + nT (fun k => hD a h k 0 + hD a h k 1) k j)))), gA μ a)
  | 0, k, x, e => by
    have h8 := O.fr h hh
    refine fE_call (g_frames μ (a := a) hh) 4 (fun _ => rfl) ?_
    refine fE_pos (nI_le (by omega) (by omega)) 1 (fun _ => rfl) ?_
    exact fE_ret 2 (fun _ => rfl)
  | j + 1, k, x, e => by
    have h8 := O.fr h hh
    refine fE_call (g_frames μ (a := a) hh) 4 (fun _ => rfl) ?_
    refine fE_neg (fun q => absurd ((nI_leI (by omega) (by omega)).mp q) (by omega)) 1 (fun _ => rfl) ?_
    refine fE_call (g_width μ (a := a) (f := k) (s := 0) hh (by omega) (by decide)) 6 (fun _ => rfl) ?_
    refine fE_call (g_width μ (a := a) (f := k) (s := 1) hh (by omega) (by decide)) 5 (fun _ => rfl) ?_
    refine fE_step (y := fun n => frun _ _ n 14 [kR 8 0 0, kN h, kX (nI x + (nI (hD a h k 0) + nI (hD a h k 1))), kX (nI k + 1)] [] _ 0 0) 5 (fun _ => rfl) ?_
    simp (disch := omega) only [fLit, nI_add, pk_mul, nI_clamp, beq01, beq11, cond_false, cond_true]
    refine fE_cg (g_dry_1 μ O hh j (k + 1) (x + (hD a h k 0 + hD a h k 1)) (by omega)) ?_
    rw [nT, Nat.add_assoc]
theorem g_dry {u : Nat} (μ : fM) {a : Nat → Nat} {h : Nat} (O : OKA u a) (hh : h < 6) : sX8_dry [vR 8 0 0, vI (nI h)] (gA μ a) = some (.inl (some (vI (nI (hDry a h)))), gA μ a) := by
  refine fsemV_of (Nat.le_of_ble_eq_true rfl) ?_
  refine fE_call (m_hullAt (nI h) _) 4 (fun _ => rfl) ?_
  refine fE_pos (by refine g_in (k := 21 + 28 * h + 2) ?_ (show 21 + 28 * h + 2 < 213 from by omega) (show 213 < 2 ^ 31 from by decide); first | rfl | (simp (disch := omega) only [fLit, nI_add, pk_mul, pk_sub, nI_clamp]; done)) 3 (fun _ => rfl) ?_
  simp (disch := omega) only [fLit, nI_add, pk_mul, nI_clamp, beq01, beq11, cond_false, cond_true, gA_at']
  refine fE_step (y := fun n => frun _ _ n 14 [kR 8 0 0, kN h, kN (hC a h), kN 0] [] _ 0 0) 3 (fun _ => rfl) ?_
  exact g_dry_1 μ O hh (hF a h) 0 _ (by omega)
theorem g_weight (μ : fM) {u : Nat} {a : Nat → Nat} {h : Nat} (O : OKA u a) (hh : h < 6) : sX8_weight [vR 8 0 0, vI (nI h)] (gA μ a) = some (.inl (some (vI (nI (hWgt a h)))), gA μ a) := by
  refine fsemV_of (Nat.le_of_ble_eq_true rfl) ?_
  refine fE_call (g_dry μ O hh) 3 (fun _ => rfl) ?_
  refine fE_call (m_hullAt (nI h) _) 4 (fun _ => rfl) ?_
  refine fE_pos (by refine g_in (k := 21 + 28 * h + 3) ?_ (show 21 + 28 * h + 3 < 213 from by omega) (show 213 < 2 ^ 31 from by decide); first | rfl | (simp (disch := omega) only [fLit, nI_add, pk_mul, pk_sub, nI_clamp]; done)) 3 (fun _ => rfl) ?_
  refine fE_ret2 2 (fun _ => rfl) ?_
  simp (disch := omega) only [fLit, nI_add, pk_mul, nI_clamp, beq01, beq11, cond_false, cond_true, gA_at']
  rfl
/-- the first place below n where p holds, from k on -/
def nF (p : Nat → Prop) [DecidablePred p] (k : Nat) : Nat → Nat
  | 0 => k
  | j + 1 => if p k then k else nF p (k + 1) j
theorem nF_le {p : Nat → Prop} [DecidablePred p] : ∀ {j k : Nat}, nF p k j ≤ k + j
  | 0, k => Nat.le_refl k
  | j + 1, k => by
    unfold nF
    split
    · omega
    · have := nF_le (p := p) (j := j) (k := k + 1)
      omega
theorem nF_ge {p : Nat → Prop} [DecidablePred p] : ∀ {j k : Nat}, k ≤ nF p k j
  | 0, k => Nat.le_refl k
  | j + 1, k => by
    unfold nF
    split
    · omega
    · have := nF_ge (p := p) (j := j) (k := k + 1)
      omega
theorem nF_not {p : Nat → Prop} [DecidablePred p] : ∀ {j k i : Nat}, k ≤ i → i < nF p k j → ¬ p i
  | 0, k, i, h1, h2 => by
    unfold nF at h2
    omega
  | j + 1, k, i, h1, h2 => by
    unfold nF at h2
    split at h2
    · omega
    · rename_i hp
      by_cases e : i = k
      · exact e ▸ hp
      · exact nF_not (j := j) (k := k + 1) (by omega) h2
theorem nF_is {p : Nat → Prop} [DecidablePred p] : ∀ {j k : Nat}, nF p k j < k + j → p (nF p k j)
  | 0, k, h => by
    unfold nF at h
    omega
  | j + 1, k, h => by
    unfold nF at h ⊢
    split
    · assumption
    · rename_i hp
      rw [if_neg hp] at h
      exact nF_is (j := j) (k := k + 1) (by omega)
/-- the draught of a hull so wide with a weight, 41 if it cannot float -/
def dDr (wide w : Nat) : Nat := nF (fun d => w ≤ wide * d / 2) 0 41
def dI (d : Nat) : Int32 := if d = 41 then -1 else nI d
theorem g_draught_2 (μ : fM) {wide w h : Nat} (h1 : wide ≤ 840) (h2 : w < 2 ^ 30) : ∀ j k, k + j = 41 → fEnds (fun n => frun eX8_draught tX8_draught n 66 [kR 8 0 0, kN h, kN w, kN wide, kN k] [] μ 0 0) (.inl (some (vI (dI (nF (fun d => w ≤ wide * d / 2) k j)))), μ)
  | 0, k, e => by
    obtain rfl : k = 41 := e
    exact fE_ret 5 (fun _ => rfl)
  | j + 1, k, e => by
    have hm : wide * k ≤ 840 * 40 := Nat.mul_le_mul h1 (by omega)
    refine fE_neg (fun q => absurd ((nI_ltI (a := 40) (b := k) (by omega) (by omega)).mp q) (by omega)) 3 (fun _ => rfl) ?_
    have e1 : nI wide * nI k / 2 = nI (wide * k / 2) := by
      rw [pk_mul, fLit, pk_div (by omega) (by decide) (by decide)]
    refine fE_ite 7 (fun _ => rfl) (fun q => ?_) (fun q => ?_)
    · skip
      rw [e1] at q
      have q := (nI_ltI (by omega) (by omega)).mp q
      refine fE_step (y := fun n => frun _ _ n 66 [kR 8 0 0, kN h, kN w, kN wide, kX (nI k + 1)] [] _ 0 0) 2 (fun _ => rfl) ?_
      rw [nI_1, nF, if_neg (by omega)]
      exact g_draught_2 μ h1 h2 j (k + 1) (by omega)
    · skip
      rw [e1] at q
      have q : w ≤ wide * k / 2 := Nat.not_lt.mp fun p => q (nI_lt p (by omega))
      refine fE_ret2 2 (fun _ => rfl) ?_
      rw [nF, if_pos q]
      show _ = (Sum.inl (some (vI (if k = 41 then -1 else nI k))), μ)
      rw [if_neg (by omega)]
      rfl
