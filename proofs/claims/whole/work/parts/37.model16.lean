theorem fJ_fJ {μ : fM} {c y h k : Nat} {v w : Int64} : fJ (fJ μ c y h k v) c y h k w = fJ μ c y h k w := by
  refine Prod.ext rfl (Prod.ext ?_ rfl)
  funext c' y' h' k'
  show (if c' = c ∧ k' = k ∧ y' = y ∧ h' = h then w else (if c' = c ∧ k' = k ∧ y' = y ∧ h' = h then v else μ.2.1 c' y' h' k')) = (if c' = c ∧ k' = k ∧ y' = y ∧ h' = h then w else μ.2.1 c' y' h' k')
  split <;> rename_i q <;> first | rfl | exact if_neg q
/-- where the model keeps the most and the uses -/
abbrev wM (μ : fM) (q : Nat × Nat) : fM := fJ (fI μ 8 0 0 13 (nI q.1)) 8 0 0 14 (Int64.ofNat q.2)
def wS (r : Option Nat) (q : Nat × Nat) : Nat × Nat := match r with
  | none => q
  | some n => if q.1 < n then (n, 1) else if n = q.1 then (q.1, q.2 + 1) else q
def wW (a : Nat → Nat) : Nat → Nat → Nat × Nat → Nat × Nat
  | 0, _, q => q
  | j + 1, c, q => wW a j (c + 1) (wS (uU a 4 c 0 0 0) q)
theorem wM_up {μ : fM} {a : Nat → Nat} {q : Nat × Nat} {m : Int32} {c : Int64} : fI (fJ (gA (wM μ q) a) 8 0 0 14 c) 8 0 0 13 m = gA (fJ (fI μ 8 0 0 13 m) 8 0 0 14 c) a := by
  show fJ (fI (gA (fJ (fI μ 8 0 0 13 (nI q.1)) 8 0 0 14 (Int64.ofNat q.2)) a) 8 0 0 13 m) 8 0 0 14 c = _
  rw [gA_fI (by decide)]
  show gA (fJ (fJ (fI (fI μ 8 0 0 13 (nI q.1)) 8 0 0 13 m) 8 0 0 14 (Int64.ofNat q.2)) 8 0 0 14 c) a = _
  rw [fJ_fJ, fI_fI]
theorem uU_le {a : Nat → Nat} : ∀ {j r s n k m}, uU a j r s n k = some m → m ≤ n + j
  | 0, _, _, n, _, m, h => by
    have h : some n = some m := h
    cases h
    omega
  | j + 1, r, s, n, k, m, h => by
    unfold uU at h
    split at h
    · split at h
      · have := uU_le h
        omega
      · cases h
    · have := uU_le h
      omega
theorem g_uses_1 (μ : fM) {u : Nat} {a : Nat → Nat} (O : OKA u a) : ∀ j c q z, c + j = 2401 → q.1 ≤ 4 → q.2 ≤ c → fEnds (fun zz => frun eX8_worksUses tX8_worksUses zz 12 [kR 8 0 0, kN c, z] [] (gA (wM μ q) a) 0 0) (.inl none, gA (wM μ (wW a j c q)) a)
  | 0, c, q, z, e, h1, h2 => by
    obtain rfl : c = 2401 := e
    exact fE_ret 4 (fun _ => rfl)
  | j + 1, c, q, z, e, h1, h2 => by
    have rM : ∀ μ', (gA (wM μ' q) a).1 8 0 0 13 = nI q.1 := fun _ => rfl
    refine fE_neg (by first | omega | (simp (disch := omega) only [fLit, nI_add, pk_mul, pk_rem, nI_clamp, beq01, beq11, cond_false, cond_true, nI_leI, nI_ltI, nI_eq]; done) | (simp (disch := omega) only [fLit, nI_add, pk_mul, pk_rem, nI_clamp, beq01, beq11, cond_false, cond_true, nI_leI, nI_ltI, nI_eq]; omega)) 3 (fun _ => rfl) ?_
    refine fE_call (g_useOf (wM μ q) O (c := c) (by omega)) 3 (fun _ => rfl) ?_
    have hS' : ∀ q' : Nat × Nat, wS (uU a 4 c 0 0 0) q = q' → q'.1 ≤ 4 → q'.2 ≤ c + 1 → ∀ z m v, m = nI q'.1 → v = Int64.ofNat q'.2 → fEnds (fun zz => frun eX8_worksUses tX8_worksUses zz 12 [kR 8 0 0, kX (nI c + 1), z] [] (fI (fJ (gA (wM μ q) a) 8 0 0 14 v) 8 0 0 13 m) 0 0) (.inl none, gA (wM μ (wW a (j + 1) c q)) a) := fun q' hq h3 h4 z m v hm hv => by
      rw [wM_up, nI_1, wW, hq, hm, hv]
      exact g_uses_1 μ O j (c + 1) q' z (by omega) h3 h4
    cases hu : uU a 4 c 0 0 0
    · skip
      rw [hu] at hS'
      have e2 : (-1 : Int32).toInt = -1 := rfl
      refine fE_pos (by rw [rM, Int32.le_iff_toInt_le, nI_toInt (by omega)]; show (-1 : Int) ≤ _; omega) 6 (fun _ => rfl) ?_
      refine fE_neg (fun p => by have p := congrArg Int32.toInt p; rw [rM, nI_toInt (by omega)] at p; change (-1 : Int) = _ at p; omega) 4 (fun _ => rfl) ?_
      refine fE_call (j_max (nI q.1) (-1) _) 8 (fun _ => rfl) ?_
      refine fE_step (y := fun zz => frun _ _ zz 12 [kR 8 0 0, kX (nI c + 1), kX (-1)] [] (fI (fJ (gA (wM μ q) a) 8 0 0 14 (Int64.ofNat q.2)) 8 0 0 13 (if nI q.1 < -1 then -1 else nI q.1)) 0 0) 3 (fun _ => rfl) ?_
      refine hS' q rfl h1 (by omega) _ _ _ (if_neg ?_) rfl
      rw [Int32.lt_iff_toInt_lt, nI_toInt (by omega), e2]
      omega
    · skip
      rename_i n
      have hn := uU_le hu
      rw [hu] at hS'
      refine fE_ite 6 (fun _ => rfl) (fun p => ?_) (fun p => ?_)
      · skip
        rw [rM] at p
        have p : n ≤ q.1 := (nI_leI (by omega) (by omega)).mp p
        refine fE_ite 4 (fun _ => rfl) (fun r => ?_) (fun r => ?_)
        · skip
          rw [rM] at r
          have r : n = q.1 := (nI_eq (by omega) (by omega)).mp r
          refine fE_call (j_max (nI q.1) (nI n) _) 11 (fun _ => rfl) ?_
          refine fE_step (y := fun zz => frun _ _ zz 12 [kR 8 0 0, kX (nI c + 1), kN n] [] (fI (fJ (gA (wM μ q) a) 8 0 0 14 (Int64.ofNat q.2 + Int64.ofNat 1)) 8 0 0 13 (if nI q.1 < nI n then nI n else nI q.1)) 0 0) 3 (fun _ => rfl) ?_
          refine hS' (q.1, q.2 + 1) ?_ h1 (by show q.2 + 1 ≤ c + 1; omega) _ _ _ (if_neg (nI_nlt (by omega) (by omega))) (Int64.ofNat_add _ _).symm
          show (if q.1 < n then (n, 1) else if n = q.1 then (q.1, q.2 + 1) else q) = _
          rw [if_neg (by omega), if_pos r]
        · skip
          rw [rM] at r
          have r : ¬ n = q.1 := fun b => r (congrArg nI b)
          refine fE_call (j_max (nI q.1) (nI n) _) 8 (fun _ => rfl) ?_
          refine fE_step (y := fun zz => frun _ _ zz 12 [kR 8 0 0, kX (nI c + 1), kN n] [] (fI (fJ (gA (wM μ q) a) 8 0 0 14 (Int64.ofNat q.2)) 8 0 0 13 (if nI q.1 < nI n then nI n else nI q.1)) 0 0) 3 (fun _ => rfl) ?_
          refine hS' q ?_ h1 (by omega) _ _ _ (if_neg (nI_nlt (by omega) (by omega))) rfl
          show (if q.1 < n then (n, 1) else if n = q.1 then (q.1, q.2 + 1) else q) = _
          rw [if_neg (by omega), if_neg r]
      · skip
        rw [rM] at p
        have p : q.1 < n := Nat.not_le.mp fun b => p (nI_le b (by omega))
        refine fE_call (j_max (nI q.1) (nI n) _) 8 (fun _ => rfl) ?_
        refine fE_step (y := fun zz => frun _ _ zz 12 [kR 8 0 0, kX (nI c + 1), kN n] [] (fI (fJ (gA (wM μ q) a) 8 0 0 14 (Int64.ofNat 1)) 8 0 0 13 (if nI q.1 < nI n then nI n else nI q.1)) 0 0) 3 (fun _ => rfl) ?_
        refine hS' (n, 1) ?_ (by show n ≤ 4; omega) (by show 1 ≤ c + 1; omega) _ _ _ (if_pos (nI_lt p (by omega))) rfl
        show (if q.1 < n then (n, 1) else if n = q.1 then (q.1, q.2 + 1) else q) = _
        rw [if_pos p]
abbrev wU (a : Nat → Nat) : Nat × Nat := wW a 2401 0 (0, 0)
theorem g_worksUses (μ : fM) {u : Nat} {a : Nat → Nat} (O : OKA u a) : sX8_worksUses [vR 8 0 0] (gA μ a) = some (.inl none, gA (wM μ (wU a)) a) := by
  refine fsemV_of (Nat.le_of_ble_eq_true rfl) ?_
  refine fE_step (y := fun zz => frun _ _ zz 12 [kR 8 0 0, kN 0, none] [] (fJ (fI (gA μ a) 8 0 0 13 0) 8 0 0 14 (Int64.ofNat 0)) 0 0) 8 (fun _ => rfl) ?_
  rw [gA_fI (by decide)]
  exact g_uses_1 μ O 2401 0 (0, 0) _ (by omega) (by decide) (by decide)
