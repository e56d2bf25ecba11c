abbrev aPay (a : Nat → Nat) (p h : Nat) : Nat → Nat := up (up a 4 (a 4 + oD a p)) (21 + 28 * h) 2
def aDel (a : Nat → Nat) (p h : Nat) : Nat → Nat := up (aZr (aSh (aPay a p h) (189 + 4 * p) 209) 213) 2 (a 2 - 1)
def sDeliver (a : Nat → Nat) (x y : Int32) : qR × (Nat → Nat) :=
  if oP a x = a 2 then (.inl 1, a)
  else if okH a y then
    if hS a (xN y) = 1 ∧ hF a (xN y) = oF a (oP a x) then (.inr (nI (oD a (oP a x))), aDel a (oP a x) (xN y)) else (.inl 3, a)
  else (.inl 2, a)
theorem g_deliverIt (μ : fM) {u : Nat} {a : Nat → Nat} (O : OKA u a) (x y : Int32) : sX8_deliverIt [vR 8 0 0, vI x, vI y] (gA μ a) = some (mMod μ (sDeliver a x y)) := by
  have h6 := O.hulls
  have o6 := O.ords
  have hp : oP a x ≤ a 2 := oP_le
  refine fsemV_of (Nat.le_of_ble_eq_true rfl) ?_
  unfold sDeliver
  refine fE_call (g_find μ x O) 3 (fun _ => rfl) ?_
  refine fE_ite 4 (fun _ => rfl) (fun c => ?_) (fun c => ?_)
  · skip
    have c := (dF_m1 hp (by omega)).mp c
    refine fE_call (g_throwing μ a 1) 3 (fun _ => rfl) ?_
    refine fE_ret2 1 (fun _ => rfl) ?_
    rw [if_pos c]
    rfl
  · skip
    have c : ¬ oP a x = a 2 := fun b => c ((dF_m1 hp (by omega)).mpr b)
    rw [if_neg c]
    rw [show dF (a 2) (oP a x) = nI (oP a x) from if_neg c]
    generalize hpp : oP a x = p at *
    refine fE_step (y := fun zz => frun _ _ zz 17 [kR 8 0 0, kX x, kX y, kN p, none, none] [] _ 0 0) 0 (fun _ => rfl) ?_
    refine fE_call (g_isHull μ (a := a) (x := y) O) 3 (fun _ => rfl) ?_
    refine fE_ite 1 (fun _ => rfl) (fun q => ?_) (fun q => ?_)
    · skip
      have q := bI_0.mp q
      refine fE_call (g_throwing μ a 2) 3 (fun _ => rfl) ?_
      refine fE_ret2 1 (fun _ => rfl) ?_
      rw [if_neg q]
      rfl
    · skip
      have q := bI_n.mp q
      obtain ⟨h, hh, rfl⟩ := nI_ix (by omega) q.1 q.2
      have hx : xN (nI h) = h := nI_clamp (by omega)
      have hs := O.st h (by omega)
      have hf := O.fr h (by omega)
      have ho := O.fo p (by omega)
      have hd := oD_le O (k := p) (by omega)
      have hpd := O.paid
      have h2 := O.u6
      rw [if_pos q, hx]
      refine fE_step (y := fun zz => frun _ _ zz 31 [kR 8 0 0, kX x, kN h, kN p, none, none] [] _ 0 0) 0 (fun _ => rfl) ?_
      refine fE_call (g_state μ (a := a) (h := h) (by omega)) 3 (fun _ => rfl) ?_
      refine fE_ite 2 (fun _ => rfl) (fun e => ?_) (fun e => ?_)
      · skip
        simp (disch := omega) only [fLit, nI_add, pk_mul, pk_rem, nI_clamp, beq01, beq11, cond_false, cond_true, nI_leI, nI_ltI, nI_eq] at e
        refine fE_call (g_frames μ (a := a) (h := h) (by omega)) 3 (fun _ => rfl) ?_
        refine fE_pos (by refine g_in (k := 189 + 4 * p + 1) ?_ (show 189 + 4 * p + 1 < 213 from by omega) (show 213 < 2 ^ 31 from by decide); first | rfl | (simp (disch := omega) only [fLit, nI_add, pk_mul, pk_rem, pk_sub, nI_clamp]; done)) 10 (fun _ => rfl) ?_
        refine fE_ite 1 (fun _ => rfl) (fun f => ?_) (fun f => ?_)
        · skip
          simp (disch := omega) only [fLit, nI_add, pk_mul, pk_rem, nI_clamp, beq01, beq11, cond_false, cond_true, nI_leI, nI_ltI, nI_eq, gA_at'] at f
          have f := (nI_eq (a := hF a h) (b := oF a p) (by omega) (by omega)).mp f
          rw [if_pos ⟨e, f⟩]
          refine fE_step (y := fun zz => frun _ _ zz 68 [kR 8 0 0, kX x, kN h, kN p, none, none] [] _ 0 0) 0 (fun _ => rfl) ?_
          refine fE_call (g_coins μ (k := p) O (by omega)) 3 (fun _ => rfl) ?_
          refine fE_step (y := fun zz => frun _ _ zz 86 [kR 8 0 0, kX x, kN h, kN p, kN (oD a p), none] [] (fI (gA μ a) 30 0 0 4 ((gA μ a).1 30 0 0 4 + nI (oD a p))) 0 0) 9 (fun _ => rfl) ?_
          simp (disch := omega) only [fLit, nI_add, pk_mul, pk_rem, nI_clamp, beq01, beq11, cond_false, cond_true, gA_at', gA_set]
          refine fE_call (m_hullAt (nI h) _) 4 (fun _ => rfl) ?_
          refine fE_pos (by refine g_in (k := 21 + 28 * h) ?_ (show 21 + 28 * h < 213 from by omega) (show 213 < 2 ^ 31 from by decide); first | rfl | (simp (disch := omega) only [fLit, nI_add, pk_mul, pk_rem, pk_sub, nI_clamp]; done)) 2 (fun _ => rfl) ?_
          simp (disch := omega) only [fLit, nI_add, pk_mul, pk_rem, nI_clamp, beq01, beq11, cond_false, cond_true, gA_set]
          refine fE_step (y := fun zz => frun _ _ zz 105 [kR 8 0 0, kX x, kN h, kN p, kN (oD a p), kX (189 + 4 * nI p)] [] (gA μ (aPay a p h)) 0 0) 6 (fun _ => rfl) ?_
          simp (disch := omega) only [fLit, nI_add, pk_mul, pk_rem, nI_clamp, beq01, beq11, cond_false, cond_true]
          rw [← aSh_0 (b := aPay a p h) (s := 189 + 4 * p)]
          refine g_del_1 μ (209 - (189 + 4 * p)) (189 + 4 * p) (by omega) (by omega) ?_
          rw [← aZr_0 (b := aSh (aPay a p h) (189 + 4 * p) 209)]
          refine fE_step (y := fun zz => frun _ _ zz 140 [kR 8 0 0, kX x, kN h, kN p, kN (oD a p), kN 209] [] _ 0 0) 2 (fun _ => rfl) ?_
          refine g_del_2 μ 4 209 (by omega) (by omega) ?_
          have e2 : aZr (aSh (aPay a p h) (189 + 4 * p) 209) 213 2 = a 2 := by
            show (if _ then 0 else (if _ then _ else up (up a 4 _) _ 2 2)) = _
            rw [if_neg (by omega), if_neg (by omega), up_ne (by omega), up_ne (by omega)]
          refine fE_step (y := fun zz => frun _ _ zz 172 [kR 8 0 0, kX x, kN h, kN p, kN (oD a p), kN 213] [] (fI (gA μ (aZr (aSh (aPay a p h) (189 + 4 * p) 209) 213)) 30 0 0 2 ((gA μ (aZr (aSh (aPay a p h) (189 + 4 * p) 209) 213)).1 30 0 0 2 - 1)) 0 0) 8 (fun _ => rfl) ?_
          simp (disch := omega) only [fLit, nI_add, pk_mul, pk_rem, nI_clamp, beq01, beq11, cond_false, cond_true, gA_at', e2, pk_sub, gA_set]
          exact fE_ret 2 (fun _ => rfl)
        · skip
          simp (disch := omega) only [fLit, nI_add, pk_mul, pk_rem, nI_clamp, beq01, beq11, cond_false, cond_true, nI_leI, nI_ltI, nI_eq, gA_at'] at f
          have f : ¬ hF a h = oF a p := fun b => f (congrArg nI b)
          refine fE_call (g_throwing μ a 3) 3 (fun _ => rfl) ?_
          refine fE_ret2 1 (fun _ => rfl) ?_
          rw [if_neg (fun b => f b.2)]
          rfl
      · skip
        simp (disch := omega) only [fLit, nI_add, pk_mul, pk_rem, nI_clamp, beq01, beq11, cond_false, cond_true, nI_leI, nI_ltI, nI_eq] at e
        refine fE_call (g_throwing μ a 3) 3 (fun _ => rfl) ?_
        refine fE_ret2 1 (fun _ => rfl) ?_
        rw [if_neg (fun b => e b.1)]
        rfl
