/-! USES OF SLIPS -/
theorem bit_get : ∀ s, s < 64 → ∀ h, h < 6 → ((nI s >>> (nI h &&& 31)) &&& 1 : Int32) = nI (if s.testBit h then 1 else 0) := by decide +kernel
theorem bit_set : ∀ s, s < 64 → ∀ h, h < 6 → (nI s ||| ((1 : Int32) <<< (nI h &&& 31))) = nI (s ||| 2 ^ h) ∧ (s ||| 2 ^ h) < 64 := by decide +kernel
abbrev fit (a : Nat → Nat) (h s : Nat) : Prop := h < a 0 ∧ hS a h = 0 ∧ 2 ≤ hF a h ∧ hF a h ≤ aS a s
def uU (a : Nat → Nat) : Nat → Nat → Nat → Nat → Nat → Option Nat
  | 0, _, _, n, _ => some n
  | j + 1, rest, set, n, s =>
    if rest % 7 < 6 then
      if fit a (rest % 7) s ∧ set.testBit (rest % 7) = false then uU a j (rest / 7) (set ||| 2 ^ (rest % 7)) (n + 1) (s + 1) else none
    else uU a j (rest / 7) set n (s + 1)
def uN : Option Nat → Int32
  | none => -1
  | some n => nI n
theorem g_use_1 (μ : fM) {u : Nat} {a : Nat → Nat} (O : OKA u a) (code : Int32) : ∀ j rest set n s y z, s + j = 4 → rest < 2 ^ 30 → set < 64 → n ≤ s → fEnds (fun zz => frun eX8_useOf tX8_useOf zz 10 [kR 8 0 0, kX code, kN rest, kN set, kN n, kN s, y, z] [] (gA μ a) 0 0) (.inl (some (vI (uN (uU a j rest set n s)))), gA μ a)
  | 0, rest, set, n, s, y, z, e, hr, hs, hn => by
    obtain rfl : s = 4 := e
    exact fE_ret 5 (fun _ => rfl)
  | j + 1, rest, set, n, s, y, z, e, hr, hs, hn => by
    have h6 := O.hulls
    have e1 : (nI rest - nI rest / 7 * 7 : Int32) = nI (rest % 7) := by
      rw [fLit, pk_rem (by omega) (by decide) (by decide)]
    have e2 : (nI rest / 7 : Int32) = nI (rest / 7) := by
      rw [fLit, pk_div (by omega) (by decide) (by decide)]
    refine fE_neg (by first | omega | (simp (disch := omega) only [fLit, nI_add, pk_mul, pk_rem, nI_clamp, beq01, beq11, cond_false, cond_true, nI_leI, nI_ltI, nI_eq]; done) | (simp (disch := omega) only [fLit, nI_add, pk_mul, pk_rem, nI_clamp, beq01, beq11, cond_false, cond_true, nI_leI, nI_ltI, nI_eq]; omega)) 3 (fun _ => rfl) ?_
    refine fE_step (y := fun zz => frun _ _ zz 27 [kR 8 0 0, kX code, kX (nI rest / 7), kN set, kN n, kN s, kX (nI rest - nI rest / 7 * 7), z] [] _ 0 0) 8 (fun _ => rfl) ?_
    rw [e1, e2]
    refine fE_ite 3 (fun _ => rfl) (fun q => ?_) (fun q => ?_)
    · skip
      simp (disch := omega) only [fLit, nI_add, pk_mul, pk_rem, nI_clamp, beq01, beq11, cond_false, cond_true, nI_leI, nI_ltI, nI_eq] at q
      refine fE_step (y := fun zz => frun _ _ zz 10 [kR 8 0 0, kX code, kN (rest / 7), kN set, kN n, kX (nI s + 1), kN (rest % 7), z] [] _ 0 0) 2 (fun _ => rfl) ?_
      rw [nI_1, uU, if_neg (by omega)]
      exact g_use_1 μ O code j _ _ _ _ _ _ (by omega) (by omega) hs (by omega)
    · skip
      simp (disch := omega) only [fLit, nI_add, pk_mul, pk_rem, nI_clamp, beq01, beq11, cond_false, cond_true, nI_leI, nI_ltI, nI_eq] at q
      have h7 : rest % 7 < 6 := by omega
      have bg := bit_get set hs (rest % 7) h7
      have bs := bit_set set hs (rest % 7) h7
      have hnf : ∀ r, ¬ (fit a (rest % 7) s ∧ set.testBit (rest % 7) = false) → r = none → uU a (j + 1) rest set n s = r := fun r hn hr => by
        rw [hr, uU, if_pos h7, if_neg hn]
      refine fE_call (g_isHull μ (a := a) (x := nI (rest % 7)) O) 3 (fun _ => rfl) ?_
      refine fE_ite 1 (fun _ => rfl) (fun v => ?_) (fun v => ?_)
      · skip
        have v := bI_0.mp v
        have v : ¬ rest % 7 < a 0 := fun p => v ⟨by rw [fLit]; exact nI_le (by omega) (by omega), nI_lt p (by omega)⟩
        refine fE_ret2 6 (fun _ => rfl) ?_
        rw [hnf _ (fun p => v p.1.1) rfl]
        rfl
      · skip
        have v := bI_n.mp v
        have v := (nI_ltI (by omega) (by omega)).mp v.2
        have s1 := O.st (rest % 7) (by omega)
        have f1 := O.fr (rest % 7) (by omega)
        have l1 := O.slip s (by omega)
        refine fE_call (g_state μ (a := a) (h := rest % 7) (by omega)) 3 (fun _ => rfl) ?_
        refine fE_ite 1 (fun _ => rfl) (fun w => ?_) (fun w => ?_)
        · skip
          simp (disch := omega) only [fLit, nI_add, pk_mul, pk_rem, nI_clamp, beq01, beq11, cond_false, cond_true, nI_leI, nI_ltI, nI_eq] at w
          refine fE_call (g_frames μ (a := a) (h := rest % 7) (by omega)) 3 (fun _ => rfl) ?_
          refine fE_ite 2 (fun _ => rfl) (fun x => ?_) (fun x => ?_)
          · skip
            simp (disch := omega) only [fLit, nI_add, pk_mul, pk_rem, nI_clamp, beq01, beq11, cond_false, cond_true, nI_leI, nI_ltI, nI_eq] at x
            refine fE_ret2 6 (fun _ => rfl) ?_
            rw [hnf _ (fun p => by have := p.1.2.2.1; omega) rfl]
            rfl
          · skip
            simp (disch := omega) only [fLit, nI_add, pk_mul, pk_rem, nI_clamp, beq01, beq11, cond_false, cond_true, nI_leI, nI_ltI, nI_eq] at x
            refine fE_call (g_frames μ (a := a) (h := rest % 7) (by omega)) 3 (fun _ => rfl) ?_
            refine fE_pos (by refine g_in (k := 17 + s) ?_ (show 17 + s < 213 from by omega) (show 213 < 2 ^ 31 from by decide); first | rfl | (simp (disch := omega) only [fLit, nI_add, pk_mul, pk_rem, pk_sub, nI_clamp]; done)) 6 (fun _ => rfl) ?_
            refine fE_ite 1 (fun _ => rfl) (fun t => ?_) (fun t => ?_)
            · skip
              simp (disch := omega) only [fLit, nI_add, pk_mul, pk_rem, nI_clamp, beq01, beq11, cond_false, cond_true, nI_leI, nI_ltI, nI_eq, gA_at'] at t
              have t : ¬ hF a (rest % 7) ≤ aS a s := fun p => absurd t (nI_nlt p (show aS a s < 2 ^ 31 from by omega))
              refine fE_ret2 6 (fun _ => rfl) ?_
              rw [hnf _ (fun p => t p.1.2.2.2) rfl]
              rfl
            · skip
              simp (disch := omega) only [fLit, nI_add, pk_mul, pk_rem, nI_clamp, beq01, beq11, cond_false, cond_true, nI_leI, nI_ltI, nI_eq, gA_at'] at t
              have t : hF a (rest % 7) ≤ aS a s := Nat.not_lt.mp fun p => t (nI_lt (a := aS a s) p (by omega))
              refine fE_ite 12 (fun _ => rfl) (fun b => ?_) (fun b => ?_)
              · skip
                rw [bg] at b
                have b : ¬ set.testBit (rest % 7) = false := fun p => by
                  rw [p] at b
                  exact absurd b (by decide)
                refine fE_ret2 2 (fun _ => rfl) ?_
                rw [hnf _ (fun p => b p.2) rfl]
                rfl
              · skip
                rw [bg] at b
                have b : set.testBit (rest % 7) = false := by
                  cases hb : set.testBit (rest % 7)
                  · rfl
                  · rw [hb] at b
                    exact absurd rfl b
                refine fE_step (y := fun zz => frun _ _ zz 10 [kR 8 0 0, kX code, kN (rest / 7), kX (nI set ||| ((1 : Int32) <<< (nI (rest % 7) &&& 31))), kX (nI n + 1), kX (nI s + 1), kN (rest % 7), kN 1] [] _ 0 0) 9 (fun _ => rfl) ?_
                rw [bs.1, nI_1, nI_1, uU, if_pos h7, if_pos ⟨⟨v, w, by omega, t⟩, b⟩]
                exact g_use_1 μ O code j _ _ _ _ _ _ (by omega) (by omega) bs.2 (by omega)
        · skip
          simp (disch := omega) only [fLit, nI_add, pk_mul, pk_rem, nI_clamp, beq01, beq11, cond_false, cond_true, nI_leI, nI_ltI, nI_eq] at w
          refine fE_ret2 6 (fun _ => rfl) ?_
          rw [hnf _ (fun p => w p.1.2.1) rfl]
          rfl
theorem g_useOf (μ : fM) {u : Nat} {a : Nat → Nat} (O : OKA u a) {c : Nat} (hc : c < 2 ^ 30) : sX8_useOf [vR 8 0 0, vI (nI c)] (gA μ a) = some (.inl (some (vI (uN (uU a 4 c 0 0 0)))), gA μ a) := by
  refine fsemV_of (Nat.le_of_ble_eq_true rfl) ?_
  refine fE_step (y := fun zz => frun _ _ zz 10 [kR 8 0 0, kN c, kN c, kN 0, kN 0, kN 0, none, none] [] _ 0 0) 8 (fun _ => rfl) ?_
  exact g_use_1 μ O _ 4 c 0 0 0 _ _ (by omega) hc (by omega) (by omega)
