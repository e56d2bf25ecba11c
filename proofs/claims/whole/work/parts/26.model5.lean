def hDr (a : Nat → Nat) (h w : Nat) : Nat := dDr (hWide a h) w
theorem g_draught_1 (μ : fM) {u : Nat} {a : Nat → Nat} {h w : Nat} (O : OKA u a) (hh : h < 6) (hw : w < 2 ^ 30) : ∀ j k x, k + j = hF a h - 1 → x + nT (fun k => hD a h k 0 + hD a h k 1 + hD a h (k + 1) 0 + hD a h (k + 1) 1) k j = hWide a h → fEnds (fun n => frun eX8_draught tX8_draught n 5 [kR 8 0 0, kN h, kN w, kN x, kN k] [] (gA μ a) 0 0) (.inl (some (vI (dI (hDr a h w)))), gA μ a)
  | 0, k, x, e, ex => by
    have h8 := O.fr h hh
    have hx : x = hWide a h := ex
    refine fE_call (g_seams μ O hh) 4 (fun _ => rfl) ?_
    refine fE_pos (by first | omega | (simp (disch := omega) only [fLit, nI_add, pk_mul, pk_rem, nI_clamp, beq01, beq11, cond_false, cond_true, nI_leI, nI_ltI, nI_eq]; done) | (simp (disch := omega) only [fLit, nI_add, pk_mul, pk_rem, nI_clamp, beq01, beq11, cond_false, cond_true, nI_leI, nI_ltI, nI_eq]; omega)) 1 (fun _ => rfl) ?_
    refine fE_step (y := fun n => frun _ _ n 66 [kR 8 0 0, kN h, kN w, kN x, kN 0] [] _ 0 0) 2 (fun _ => rfl) ?_
    rw [hx]
    exact g_draught_2 (gA μ a) (hWide_le O hh) hw 41 0 (by omega)
  | j + 1, k, x, e, ex => by
    have h8 := O.fr h hh
    refine fE_call (g_seams μ O hh) 4 (fun _ => rfl) ?_
    refine fE_neg (by first | omega | (simp (disch := omega) only [fLit, nI_add, pk_mul, pk_rem, nI_clamp, beq01, beq11, cond_false, cond_true, nI_leI, nI_ltI, nI_eq]; done) | (simp (disch := omega) only [fLit, nI_add, pk_mul, pk_rem, nI_clamp, beq01, beq11, cond_false, cond_true, nI_leI, nI_ltI, nI_eq]; omega)) 1 (fun _ => rfl) ?_
    refine fE_call (g_width μ (a := a) (f := k) (s := 0) hh (by omega) (by decide)) 6 (fun _ => rfl) ?_
    refine fE_call (g_width μ (a := a) (f := k) (s := 1) hh (by omega) (by decide)) 5 (fun _ => rfl) ?_
    have w0 := g_width μ (a := a) (f := k + 1) (s := 0) hh (by omega) (by decide)
    have w1 := g_width μ (a := a) (f := k + 1) (s := 1) hh (by omega) (by decide)
    rw [← nI_1 k] at w0 w1
    refine fE_call (w0) 8 (fun _ => rfl) ?_
    refine fE_call (w1) 8 (fun _ => rfl) ?_
    refine fE_step (y := fun n => frun _ _ n 5 [kR 8 0 0, kN h, kN w, kX (nI x + (nI (hD a h k 0) + nI (hD a h k 1) + nI (hD a h (k + 1) 0) + nI (hD a h (k + 1) 1))), kX (nI k + 1)] [] _ 0 0) 5 (fun _ => rfl) ?_
    simp (disch := omega) only [fLit, nI_add, pk_mul, pk_rem, nI_clamp, beq01, beq11, cond_false, cond_true]
    exact g_draught_1 μ O hh hw j (k + 1) (x + (hD a h k 0 + hD a h k 1 + hD a h (k + 1) 0 + hD a h (k + 1) 1)) (by omega) (by rw [← ex, nT, Nat.add_assoc])
theorem g_draught (μ : fM) {u : Nat} {a : Nat → Nat} {h w : Nat} (O : OKA u a) (hh : h < 6) (hw : w < 2 ^ 30) : sX8_draught [vR 8 0 0, vI (nI h), vI (nI w)] (gA μ a) = some (.inl (some (vI (dI (hDr a h w)))), gA μ a) := by
  refine fsemV_of (Nat.le_of_ble_eq_true rfl) ?_
  refine fE_step (y := fun n => frun _ _ n 5 [kR 8 0 0, kN h, kN w, kN 0, kN 0] [] _ 0 0) 4 (fun _ => rfl) ?_
  exact g_draught_1 μ O hh hw _ 0 0 (by rw [Nat.zero_add]) (by rw [Nat.zero_add]; rfl)
theorem dDr_le {wide w : Nat} : dDr wide w ≤ 41 := nF_le
/-! WHAT QUERIES ANSWER: the number of a fault, or a value -/
abbrev qR : Type := Nat ⊕ Int32
def mVal : qR → Int32
  | .inl _ => -1
  | .inr v => v
def mThr : qR → Nat
  | .inl t => t
  | .inr _ => 0
abbrev mRes (μ : fM) (a : Nat → Nat) (q : qR) : fR := (.inl (some (vI (mVal q))), gA (gT μ (nI (mThr q))) a)
abbrev okH (a : Nat → Nat) (x : Int32) : Prop := 0 ≤ x ∧ x < nI (a 0)
abbrev xN (x : Int32) : Nat := x.toNatClampNeg
def qOf (w : Nat) (a : Nat → Nat) (x : Int32) : qR := if okH a x then .inr (nI (a (21 + 28 * xN x + w))) else .inl 1
theorem q_ofHull (μ : fM) {u : Nat} {a : Nat → Nat} {x : Int32} {w : Nat} (O : OKA u a) (hw : w < 4) : sX8_ofHull [vR 8 0 0, vI x, vI (nI w)] (gA μ a) = some (mRes μ a (qOf w a x)) := by
  rw [g_ofHull μ O hw, qOf]
  split <;> rfl
theorem q_stateOf (μ : fM) {u : Nat} {a : Nat → Nat} (x : Int32) (O : OKA u a) : sX8_stateOf [vR 8 0 0, vI x] (gA μ a) = some (mRes μ a (qOf 0 a x)) := by
  refine fsemV_of (Nat.le_of_ble_eq_true rfl) ?_
  refine fE_call (q_ofHull μ (x := x) (w := 0) O (by decide)) 4 (fun _ => rfl) ?_
  exact fE_ret 1 (fun _ => rfl)
theorem q_frameCount (μ : fM) {u : Nat} {a : Nat → Nat} (x : Int32) (O : OKA u a) : sX8_frameCount [vR 8 0 0, vI x] (gA μ a) = some (mRes μ a (qOf 1 a x)) := by
  refine fsemV_of (Nat.le_of_ble_eq_true rfl) ?_
  refine fE_call (q_ofHull μ (x := x) (w := 1) O (by decide)) 4 (fun _ => rfl) ?_
  exact fE_ret 1 (fun _ => rfl)
theorem q_waterIn (μ : fM) {u : Nat} {a : Nat → Nat} (x : Int32) (O : OKA u a) : sX8_waterIn [vR 8 0 0, vI x] (gA μ a) = some (mRes μ a (qOf 3 a x)) := by
  refine fsemV_of (Nat.le_of_ble_eq_true rfl) ?_
  refine fE_call (q_ofHull μ (x := x) (w := 3) O (by decide)) 4 (fun _ => rfl) ?_
  exact fE_ret 1 (fun _ => rfl)
