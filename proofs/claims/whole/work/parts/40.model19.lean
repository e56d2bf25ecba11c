/-! MODIFICATIONS -/
def mT (μ : fM) : qR → fM
  | .inl t => gT μ (nI t)
  | .inr _ => μ
abbrev mMod (μ : fM) (s : qR × (Nat → Nat)) : fR := (.inl (some (vI (mVal s.1))), gA (mT μ s.1) s.2)
abbrev inR (x : Int32) (lo hi : Nat) : Prop := nI lo ≤ x ∧ x ≤ nI hi
theorem inR_of {x : Int32} {lo hi : Nat} (hl : lo < 2 ^ 30) (hh : hi < 2 ^ 30) (h : inR x lo hi) : ∃ k, lo ≤ k ∧ k ≤ hi ∧ x = nI k := by
  have hx : x.toInt ≤ hi := by
    have := Int32.le_iff_toInt_le.mp h.2
    rwa [nI_toInt (by omega)] at this
  have hy : (lo : Int) ≤ x.toInt := by
    have := Int32.le_iff_toInt_le.mp h.1
    rwa [nI_toInt (by omega)] at this
  obtain ⟨k, hk, rfl⟩ := nI_of (x := x) (by rw [Int32.lt_iff_toInt_lt]; show ¬ _ < (0 : Int); omega)
  rw [nI_toInt hk] at hx hy
  exact ⟨k, by omega, by omega, rfl⟩
def sHull (a : Nat → Nat) : qR × (Nat → Nat) := if a 0 = 6 then (.inl 1, a) else (.inr (nI (a 0)), up a 0 (a 0 + 1))
theorem g_hullIt (μ : fM) {u : Nat} {a : Nat → Nat} (O : OKA u a) : sX8_hullIt [vR 8 0 0] (gA μ a) = some (mMod μ (sHull a)) := by
  have h6 := O.hulls
  refine fsemV_of (Nat.le_of_ble_eq_true rfl) ?_
  refine fE_ite 6 (fun _ => rfl) (fun q => ?_) (fun q => ?_)
  · skip
    simp (disch := omega) only [fLit, nI_add, pk_mul, pk_rem, nI_clamp, beq01, beq11, cond_false, cond_true, nI_leI, nI_ltI, nI_eq, gA_at'] at q
    refine fE_call (g_throwing μ a 1) 3 (fun _ => rfl) ?_
    refine fE_ret2 1 (fun _ => rfl) ?_
    unfold sHull
    rw [if_pos q]
    rfl
  · skip
    simp (disch := omega) only [fLit, nI_add, pk_mul, pk_rem, nI_clamp, beq01, beq11, cond_false, cond_true, nI_leI, nI_ltI, nI_eq, gA_at'] at q
    refine fE_step (y := fun zz => frun _ _ zz 27 [kR 8 0 0] [] (fI (gA μ a) 30 0 0 0 ((gA μ a).1 30 0 0 0 + 1)) 0 0) 8 (fun _ => rfl) ?_
    simp (disch := omega) only [fLit, nI_add, pk_mul, pk_rem, nI_clamp, beq01, beq11, cond_false, cond_true, gA_at', gA_set]
    refine fE_ret2 7 (fun _ => rfl) ?_
    unfold sHull
    rw [if_neg q]
    simp (disch := omega) only [fLit, nI_add, pk_mul, pk_rem, nI_clamp, beq01, beq11, cond_false, cond_true, gA_at']
    show (Sum.inl (some (vI (fnar 0 (nI (a 0 + 1) - 1)))), _) = _
    rw [nI_pred]
    rfl
def aFrame (a : Nat → Nat) (h L R : Nat) : Nat → Nat :=
  if hF a h = 0 then up (up (up a (21 + 28 * h + 4 + 2 * hF a h) L) (21 + 28 * h + 4 + 2 * hF a h + 1) R) (21 + 28 * h + 1) (hF a h + 1)
  else up (up (up (up a (21 + 28 * h + 4 + 2 * hF a h) L) (21 + 28 * h + 4 + 2 * hF a h + 1) R) (21 + 28 * h + 1) (hF a h + 1)) (21 + 28 * h + 20 + (hF a h - 1)) 9
def sFrame (a : Nat → Nat) (x l r : Int32) : qR × (Nat → Nat) :=
  if okH a x then
    if inR l 1 30 ∧ inR r 1 30 then
      if hS a (xN x) = 0 ∧ ¬ hF a (xN x) = 8 then (.inr (nI (hF a (xN x) + 1)), aFrame a (xN x) (xN l) (xN r)) else (.inl 3, a)
    else (.inl 2, a)
  else (.inl 1, a)
theorem g_frameIt (μ : fM) {u : Nat} {a : Nat → Nat} (O : OKA u a) (x l r : Int32) : sX8_frameIt [vR 8 0 0, vI x, vI l, vI r] (gA μ a) = some (mMod μ (sFrame a x l r)) := by
  have h6 := O.hulls
  refine fsemV_of (Nat.le_of_ble_eq_true rfl) ?_
  unfold sFrame
  refine fE_call (g_isHull μ (a := a) (x := x) O) 3 (fun _ => rfl) ?_
  refine fE_ite 1 (fun _ => rfl) (fun q => ?_) (fun q => ?_)
  · skip
    have q := bI_0.mp q
    refine fE_call (g_throwing μ a 1) 3 (fun _ => rfl) ?_
    refine fE_ret2 1 (fun _ => rfl) ?_
    rw [if_neg q]
    rfl
  · skip
    have q := bI_n.mp q
    obtain ⟨h, hh, rfl⟩ := nI_ix (by omega) q.1 q.2
    have hx : xN (nI h) = h := nI_clamp (by omega)
    have hs := O.st h (by omega)
    have hf := O.fr h (by omega)
    refine fE_call (m_inL l 1 30 (gA μ a) (by decide) (by decide)) 5 (fun _ => rfl) ?_
    refine fE_ite 1 (fun _ => rfl) (fun c => ?_) (fun c => ?_)
    · skip
      have c := bI_0.mp c
      refine fE_call (g_throwing μ a 2) 3 (fun _ => rfl) ?_
      refine fE_ret2 1 (fun _ => rfl) ?_
      rw [if_pos q, if_neg (fun p => c p.1)]
      rfl
    · skip
      have c := bI_n.mp c
      refine fE_step (y := fun zz => frun _ _ zz 26 [kR 8 0 0, kN h, kX l, kX r, none] [] _ 0 0) 0 (fun _ => rfl) ?_
      refine fE_call (m_inL r 1 30 (gA μ a) (by decide) (by decide)) 5 (fun _ => rfl) ?_
      refine fE_ite 1 (fun _ => rfl) (fun d => ?_) (fun d => ?_)
      · skip
        have d := bI_0.mp d
        refine fE_call (g_throwing μ a 2) 3 (fun _ => rfl) ?_
        refine fE_ret2 1 (fun _ => rfl) ?_
        rw [if_pos q, if_neg (fun p => d p.2)]
        rfl
      · skip
        have d := bI_n.mp d
        obtain ⟨L, hL1, hL2, rfl⟩ := inR_of (lo := 1) (hi := 30) (by omega) (by omega) c
        obtain ⟨R, hR1, hR2, rfl⟩ := inR_of (lo := 1) (hi := 30) (by omega) (by omega) d
        rw [if_pos q, if_pos ⟨c, d⟩, hx, xN, xN, nI_clamp (by omega), nI_clamp (by omega)]
        refine fE_call (g_state μ (a := a) (h := h) (by omega)) 3 (fun _ => rfl) ?_
        refine fE_ite 1 (fun _ => rfl) (fun e => ?_) (fun e => ?_)
        · skip
          simp (disch := omega) only [fLit, nI_add, pk_mul, pk_rem, nI_clamp, beq01, beq11, cond_false, cond_true, nI_leI, nI_ltI, nI_eq] at e
          refine fE_call (g_frames μ (a := a) (h := h) (by omega)) 3 (fun _ => rfl) ?_
          refine fE_ite 2 (fun _ => rfl) (fun f => ?_) (fun f => ?_)
          · skip
            simp (disch := omega) only [fLit, nI_add, pk_mul, pk_rem, nI_clamp, beq01, beq11, cond_false, cond_true, nI_leI, nI_ltI, nI_eq] at f
            refine fE_call (g_throwing μ a 3) 3 (fun _ => rfl) ?_
            refine fE_ret2 1 (fun _ => rfl) ?_
            rw [if_neg (fun p => p.2 f)]
            rfl
          · skip
            simp (disch := omega) only [fLit, nI_add, pk_mul, pk_rem, nI_clamp, beq01, beq11, cond_false, cond_true, nI_leI, nI_ltI, nI_eq] at f
            rw [if_pos ⟨e, f⟩]
            refine fE_call (g_frames μ (a := a) (h := h) (by omega)) 3 (fun _ => rfl) ?_
            refine fE_call (m_hullAt (nI h) _) 5 (fun _ => rfl) ?_
            refine fE_pos (by refine g_in (k := 21 + 28 * h + 4 + 2 * hF a h) ?_ (show 21 + 28 * h + 4 + 2 * hF a h < 213 from by omega) (show 213 < 2 ^ 31 from by decide); first | rfl | (simp (disch := omega) only [fLit, nI_add, pk_mul, pk_rem, pk_sub, nI_clamp]; done)) 8 (fun _ => rfl) ?_
            simp (disch := omega) only [fLit, nI_add, pk_mul, pk_rem, nI_clamp, beq01, beq11, cond_false, cond_true, gA_set]
            refine fE_call (m_hullAt (nI h) _) 4 (fun _ => rfl) ?_
            refine fE_pos (by refine g_in (k := 21 + 28 * h + 4 + 2 * hF a h + 1) ?_ (show 21 + 28 * h + 4 + 2 * hF a h + 1 < 213 from by omega) (show 213 < 2 ^ 31 from by decide); first | rfl | (simp (disch := omega) only [fLit, nI_add, pk_mul, pk_rem, pk_sub, nI_clamp]; done)) 10 (fun _ => rfl) ?_
            simp (disch := omega) only [fLit, nI_add, pk_mul, pk_rem, nI_clamp, beq01, beq11, cond_false, cond_true, gA_set]
            refine fE_call (m_hullAt (nI h) _) 4 (fun _ => rfl) ?_
            refine fE_pos (by refine g_in (k := 21 + 28 * h + 1) ?_ (show 21 + 28 * h + 1 < 213 from by omega) (show 213 < 2 ^ 31 from by decide); first | rfl | (simp (disch := omega) only [fLit, nI_add, pk_mul, pk_rem, pk_sub, nI_clamp]; done)) 4 (fun _ => rfl) ?_
            simp (disch := omega) only [fLit, nI_add, pk_mul, pk_rem, nI_clamp, beq01, beq11, cond_false, cond_true, gA_at', up_ne]
            refine fE_pos (by refine g_in (k := 21 + 28 * h + 1) ?_ (show 21 + 28 * h + 1 < 213 from by omega) (show 213 < 2 ^ 31 from by decide); first | rfl | (simp (disch := omega) only [fLit, nI_add, pk_mul, pk_rem, pk_sub, nI_clamp]; done)) 3 (fun _ => rfl) ?_
            simp (disch := omega) only [fLit, nI_add, pk_mul, pk_rem, nI_clamp, beq01, beq11, cond_false, cond_true, gA_set]
            refine fE_ite 2 (fun _ => rfl) (fun g => ?_) (fun g => ?_)
            · skip
              simp (disch := omega) only [fLit, nI_add, pk_mul, pk_rem, nI_clamp, beq01, beq11, cond_false, cond_true, nI_leI, nI_ltI, nI_eq] at g
              refine fE_ret2 4 (fun _ => rfl) ?_
              unfold aFrame
              rw [if_pos (by omega)]
              simp (disch := omega) only [fLit, nI_add, pk_mul, pk_rem, nI_clamp, beq01, beq11, cond_false, cond_true]
              rfl
            · skip
              simp (disch := omega) only [fLit, nI_add, pk_mul, pk_rem, nI_clamp, beq01, beq11, cond_false, cond_true, nI_leI, nI_ltI, nI_eq] at g
              refine fE_call (m_hullAt (nI h) _) 4 (fun _ => rfl) ?_
              have ek : 21 + 28 * h + 20 + hF a h - 1 = 21 + 28 * h + 20 + (hF a h - 1) := by omega
              refine fE_pos (by refine g_in (k := 21 + 28 * h + 20 + hF a h - 1) ?_ (show 21 + 28 * h + 20 + hF a h - 1 < 213 from by omega) (show 213 < 2 ^ 31 from by decide); first | rfl | (simp (disch := omega) only [fLit, nI_add, pk_mul, pk_rem, pk_sub, nI_clamp]; done)) 8 (fun _ => rfl) ?_
              simp (disch := omega) only [fLit, nI_add, pk_mul, pk_rem, nI_clamp, beq01, beq11, cond_false, cond_true, gA_set, pk_sub]
              refine fE_ret2 4 (fun _ => rfl) ?_
              unfold aFrame
              rw [if_neg (by omega), ek]
              simp (disch := omega) only [fLit, nI_add, pk_mul, pk_rem, nI_clamp, beq01, beq11, cond_false, cond_true]
              rfl
        · skip
          simp (disch := omega) only [fLit, nI_add, pk_mul, pk_rem, nI_clamp, beq01, beq11, cond_false, cond_true, nI_leI, nI_ltI, nI_eq] at e
          refine fE_call (g_throwing μ a 3) 3 (fun _ => rfl) ?_
          refine fE_ret2 1 (fun _ => rfl) ?_
          rw [if_neg (fun p => e p.1)]
          rfl
