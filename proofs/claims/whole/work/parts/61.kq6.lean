/-- 1: no hull; 2: a state that doesn't allow it; 3: none -/
def eL (t : Nat) : Nat := if t = 1 then 0 else if t = 2 then 2 else 4
def qDL (a : Nat → Nat) (x : Int32) : qR :=
  if okH a x then
    if hS a (xN x) = 0 then
      if hF a (xN x) < 2 ∨ hDr a (xN x) (hWgt a (xN x)) = 41 then .inl 3 else .inr (nI (hDr a (xN x) (hWgt a (xN x))))
    else .inl 2
  else .inl 1
theorem c_dl {μ : fM} {u : Nat} {a : Nat → Nat} (Y : YR μ 0 a) (O : OKA u a) (x : Int32) : sX7_draughtForLaunch [vR 7 0 0, vI x] μ = some (cRes eL μ (qDL a x)) := by
  have h6 := O.hulls
  refine fsemV_of (Nat.le_of_ble_eq_true rfl) ?_
  unfold qDL
  by_cases q : okH a x
  · rw [if_pos q]
    obtain ⟨h, hh, rfl⟩ := nI_ix (by omega) q.1 q.2
    rw [xN, nI_clamp (by omega)]
    have H := Y.hv (h := h) (by omega)
    have B := O.hb (g := h) (by omega)
    have hs := H.2.1
    have hf := H.1
    have b1 := B.1
    have b2 := B.2.1
    have hd : hDr a h (hWgt a h) ≤ 41 := dDr_le
    have hk := c_kd (μ := μ) hd
    refine fE_call (c_known Y h6 hh) 3 (fun _ => rfl) ?_
    refine fE_step (y := fun zz => frun _ _ zz 6 [kR 7 0 0, kN h, kR 1 0 h] [] _ 1 6) 1 (fun _ => rfl) ?_
    refine fE_ite 3 (fun _ => rfl) (fun r => ?_) (fun r => ?_)
    · skip
      change μ.1 1 0 h 4 = 0 at r
      rw [hs] at r
      simp (disch := omega) only [fLit, nI_add, pk_mul, pk_rem, nI_clamp, beq01, beq11, cond_false, cond_true, nI_leI, nI_ltI, nI_eq] at r
      rw [if_pos r]
      refine fE_ite 4 (fun _ => rfl) (fun s => ?_) (fun s => ?_)
      · skip
        change 2 ≤ μ.1 1 0 h 3 at s
        rw [hf] at s
        simp (disch := omega) only [fLit, nI_add, pk_mul, pk_rem, nI_clamp, beq01, beq11, cond_false, cond_true, nI_leI, nI_ltI, nI_eq] at s
        refine fE_call (c_tried H B) 2 (fun _ => rfl) ?_
        by_cases t : hDr a h (hWgt a h) = 41
        · skip
          rw [if_pos t] at hk
          rw [if_pos (Or.inr t)]
          refine fE_call (hk) 1 (fun _ => rfl) ?_
          exact fE_ret 0 (fun _ => rfl)
        · skip
          rw [if_neg t] at hk
          rw [if_neg (by omega)]
          refine fE_call (hk) 1 (fun _ => rfl) ?_
          exact fE_ret 1 (fun _ => rfl)
      · skip
        change ¬ 2 ≤ μ.1 1 0 h 3 at s
        rw [hf] at s
        simp (disch := omega) only [fLit, nI_add, pk_mul, pk_rem, nI_clamp, beq01, beq11, cond_false, cond_true, nI_leI, nI_ltI, nI_eq] at s
        rw [if_pos (Or.inl (by omega))]
        exact fE_ret 1 (fun _ => rfl)
    · skip
      change ¬ μ.1 1 0 h 4 = 0 at r
      rw [hs] at r
      simp (disch := omega) only [fLit, nI_add, pk_mul, pk_rem, nI_clamp, beq01, beq11, cond_false, cond_true, nI_leI, nI_ltI, nI_eq] at r
      rw [if_neg r]
      exact fE_ret 1 (fun _ => rfl)
  · rw [if_neg q]
    refine fE_call (c_known0 Y q) 3 (fun _ => rfl) ?_
    exact fE_ret 0 (fun _ => rfl)
theorem nF_no {p : Nat → Prop} [DecidablePred p] {k j : Nat} (h : ¬ p k) : nF p k (j + 1) = nF p (k + 1) j := if_neg h
theorem nF_yes {p : Nat → Prop} [DecidablePred p] {k j : Nat} (h : p k) : nF p k (j + 1) = k := if_pos h
theorem k_hl_1 {μ : fM} {u : Nat} {a : Nat → Nat} {x : Int32} {d : Nat} {res : fR} (Y : YR μ 0 a) (O : OKA u a) (hd : d ≤ 41) (H1 : ∀ n, n < 12 → nF (fun n => d ≤ aT a ((a 1 + n) % 12)) 0 12 = n → (.inl (some (vI (nI n))), μ) = res) (H2 : nF (fun n => d ≤ aT a ((a 1 + n) % 12)) 0 12 = 12 → (.inr 4, μ) = res) : ∀ j n, n + j = 12 → nF (fun n => d ≤ aT a ((a 1 + n) % 12)) 0 12 = nF (fun n => d ≤ aT a ((a 1 + n) % 12)) n j → fEnds (fun zz => frun eX7_hoursToLaunch tX7_hoursToLaunch zz 8 [kR 7 0 0, kX x, kN d, kN n] [] μ 2 12) res
  | 0, n, e, ef => by
    obtain rfl : n = 12 := e
    refine fE_ret2 4 (fun _ => rfl) ?_
    exact H2 ef
  | j + 1, n, e, ef => by
    have h1 := O.hour
    have h2 := O.u6
    have ht := O.tide ((a 1 + n) % 12) (by omega)
    refine fE_neg (by first | omega | (simp (disch := omega) only [fLit, nI_add, pk_mul, pk_rem, nI_clamp, beq01, beq11, cond_false, cond_true, nI_leI, nI_ltI, nI_eq]; done) | (simp (disch := omega) only [fLit, nI_add, pk_mul, pk_rem, nI_clamp, beq01, beq11, cond_false, cond_true, nI_leI, nI_ltI, nI_eq]; omega)) 3 (fun _ => rfl) ?_
    refine fE_call (c_tideIn Y (t := n) (by omega)) 4 (fun _ => rfl) ?_
    refine fE_ite 2 (fun _ => rfl) (fun q => ?_) (fun q => ?_)
    · skip
      simp (disch := omega) only [fLit, nI_add, pk_mul, pk_rem, nI_clamp, beq01, beq11, cond_false, cond_true, nI_leI, nI_ltI, nI_eq] at q
      have ef := ef.trans (nF_no (by omega))
      refine fE_step (y := fun zz => frun _ _ zz 8 [kR 7 0 0, kX x, kN d, kX (nI n + 1)] [] _ 2 12) 2 (fun _ => rfl) ?_
      rw [nI_1]
      exact k_hl_1 Y O hd H1 H2 j (n + 1) (by omega) ef
    · skip
      simp (disch := omega) only [fLit, nI_add, pk_mul, pk_rem, nI_clamp, beq01, beq11, cond_false, cond_true, nI_leI, nI_ltI, nI_eq] at q
      have ef := ef.trans (nF_yes (by omega))
      refine fE_ret2 2 (fun _ => rfl) ?_
      exact H1 n (by omega) ef
theorem k_hoursToLaunch {μ : fM} {u : Nat} {a : Nat → Nat} (Y : YR μ 0 a) (O : OKA u a) (x : Int32) : sX7_hoursToLaunch [vR 7 0 0, vI x] μ = some (cRes eL μ (qLaunchIn a x)) := by
  have hc := c_dl Y O x
  refine fsemV_of (Nat.le_of_ble_eq_true rfl) ?_
  unfold qDL at hc
  unfold qLaunchIn
  by_cases q : okH a x
  · rw [if_pos q] at hc ⊢
    by_cases r : hS a (xN x) = 0
    · rw [if_pos r] at hc ⊢
      by_cases s : hF a (xN x) < 2 ∨ hDr a (xN x) (hWgt a (xN x)) = 41
      · rw [if_pos s] at hc ⊢
        refine fE_call (hc) 3 (fun _ => rfl) ?_
        exact fE_ret 0 (fun _ => rfl)
      · rw [if_neg s] at hc ⊢
        have hl : lH a (hDr a (xN x) (hWgt a (xN x))) ≤ 12 := lH_le
        refine fE_call (hc) 3 (fun _ => rfl) ?_
        refine fE_step (y := fun zz => frun _ _ zz 8 [kR 7 0 0, kX x, kN (hDr a (xN x) (hWgt a (xN x))), kN 0] [] _ 2 12) 3 (fun _ => rfl) ?_
        refine k_hl_1 Y O dDr_le (fun n hn e => ?_) (fun e => ?_) 12 0 (by omega) rfl
        · have e : lH a (hDr a (xN x) (hWgt a (xN x))) = n := e
          rw [e, if_neg (by omega)]
          rfl
        · have e : lH a (hDr a (xN x) (hWgt a (xN x))) = 12 := e
          rw [e, if_pos rfl]
          rfl
    · rw [if_neg r] at hc ⊢
      refine fE_call (hc) 3 (fun _ => rfl) ?_
      exact fE_ret 0 (fun _ => rfl)
  · rw [if_neg q] at hc ⊢
    refine fE_call (hc) 3 (fun _ => rfl) ?_
    exact fE_ret 0 (fun _ => rfl)
