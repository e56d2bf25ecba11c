theorem k_type {μ : fM} {n : Nat} (x : Int32) (hn : n ≤ 60) (hl : μ.1 3 0 0 1 = nI n) (hx : fnar 2 x = x) : sX7_type [vR 7 0 0, vI x] μ = some (match qType n x with | .inl t => (.inr t, μ) | .inr v => (.inl (some (vI v)), fI (fI μ 21 0 0 n x) 3 0 0 1 (nI (n + 1)))) := by
  refine fsemV_of (Nat.le_of_ble_eq_true rfl) ?_
  unfold qType
  have ca : n < 60 → sX3_append [vR 3 0 0, vI x] μ = some (.inl (some (vI (nI (n + 1)))), fI (fI μ 21 0 0 n x) 3 0 0 1 (nI (n + 1))) := fun h => by
    refine fsemV_of (Nat.le_of_ble_eq_true rfl) ?_
    refine fE_pos (by exact g_in (k := n) hl h (by decide)) 6 (fun _ => rfl) ?_
    refine fE_ret2 9 (fun _ => rfl) ?_
    show (Sum.inl (some (vI (μ.1 3 0 0 1 + 1))), fI (fI μ 21 0 0 (μ.1 3 0 0 1).toNatClampNeg (fnar 2 x)) 3 0 0 1 (μ.1 3 0 0 1 + 1)) = _
    rw [hl, nI_1, nI_clamp (by omega), hx]
  refine fE_ite 3 (fun _ => rfl) (fun q => ?_) (fun q => ?_)
  · skip
    rw [if_neg (fun p => absurd p.1 (Int32.not_le.mpr q))]
    exact fE_ret 1 (fun _ => rfl)
  · skip
    have q := Int32.not_lt.mp q
    refine fE_ite 3 (fun _ => rfl) (fun r => ?_) (fun r => ?_)
    · skip
      have p : inR x 32 126 := ⟨q, r⟩
      rw [if_pos p]
      refine fE_ite 5 (fun _ => rfl) (fun s => ?_) (fun s => ?_)
      · skip
        have s : μ.1 3 0 0 1 < nI 60 := s
        rw [hl] at s
        have s := (nI_ltI (by omega) (by omega)).mp s
        rw [if_neg (by omega)]
        refine fE_call (ca s) 4 (fun _ => rfl) ?_
        exact fE_ret 1 (fun _ => rfl)
      · skip
        have s : ¬ μ.1 3 0 0 1 < nI 60 := s
        rw [hl] at s
        have s : n = 60 := by
          by_cases l : n < 60
          · exact absurd (nI_lt l (by omega)) s
          · omega
        rw [if_pos s]
        exact fE_ret 1 (fun _ => rfl)
    · skip
      rw [if_neg (fun p => r p.2)]
      exact fE_ret 1 (fun _ => rfl)
