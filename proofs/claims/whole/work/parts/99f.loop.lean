theorem law_case : ∀ k, k < 64 → LCase k
  | 0, _ => l_0
  | 1, _ => l_1
  | 2, _ => l_2
  | 3, _ => l_3
  | 4, _ => l_4
  | 5, _ => l_5
  | 6, _ => l_6
  | 7, _ => l_7
  | 8, _ => l_8
  | 9, _ => l_9
  | 10, _ => l_10
  | 11, _ => l_11
  | 12, _ => l_12
  | 13, _ => l_13
  | 14, _ => l_14
  | 15, _ => l_15
  | 16, _ => l_16
  | 17, _ => l_17
  | 18, _ => l_18
  | 19, _ => l_19
  | 20, _ => l_20
  | 21, _ => l_21
  | 22, _ => l_22
  | 23, _ => l_23
  | 24, _ => l_24
  | 25, _ => l_25
  | 26, _ => l_26
  | 27, _ => l_27
  | 28, _ => l_28
  | 29, _ => l_29
  | 30, _ => l_30
  | 31, _ => l_31
  | 32, _ => l_32
  | 33, _ => l_33
  | 34, _ => l_34
  | 35, _ => l_35
  | 36, _ => l_36
  | 37, _ => l_37
  | 38, _ => l_38
  | 39, _ => l_39
  | 40, _ => l_40
  | 41, _ => l_41
  | 42, _ => l_42
  | 43, _ => l_43
  | 44, _ => l_44
  | 45, _ => l_45
  | 46, _ => l_46
  | 47, _ => l_47
  | 48, _ => l_48
  | 49, _ => l_49
  | 50, _ => l_50
  | 51, _ => l_51
  | 52, _ => l_52
  | 53, _ => l_53
  | 54, _ => l_54
  | 55, _ => l_55
  | 56, _ => l_56
  | 57, _ => l_57
  | 58, _ => l_58
  | 59, _ => l_59
  | 60, _ => l_60
  | 61, _ => l_61
  | 62, _ => l_62
  | 63, _ => l_63
  | k + 64, h => absurd h (by omega)
theorem and63 (x : Int32) : ∃ k, k < 64 ∧ x &&& 63 = nI k := by
  refine ⟨(x.toBitVec &&& 63#32).toNat, ?_, ?_⟩
  · rw [BitVec.toNat_and]
    exact Nat.lt_of_le_of_lt Nat.and_le_right (by decide)
  · apply Int32.toBitVec_inj.mp
    show x.toBitVec &&& 63#32 = BitVec.ofNat 32 (x.toBitVec &&& 63#32).toNat
    rw [BitVec.ofNat_toNat, BitVec.setWidth_eq]
theorem law_gt {n i : Nat} (hn : n ≤ 2048) (hi : i ≤ 2100) : (nI n - 4 < nI i) ↔ n < i + 4 := by
  by_cases h : 4 ≤ n
  · rw [fLit, pk_sub h, nI_ltI (by omega) (by omega)]
    omega
  · have m4 : nI n - 4 < 0 := by
      rcases (show n = 0 ∨ n = 1 ∨ n = 2 ∨ n = 3 by omega) with e | e | e | e <;> subst e <;> decide
    exact ⟨fun _ => by omega, fun _ => Int32.lt_of_lt_of_le m4 (nI_le (a := 0) (Nat.zero_le _) (by omega))⟩
theorem law_loop {X : Nat × (Nat → Int32)} (hX : X.1 ≤ 2048) (D : Nat) (hD : D = 12000) : ∀ j i u cc ss (S : St8) (μ : fM) (z6 z7 z8 : Option fV), X.1 < i + 4 + 4 * j → i ≤ 2052 → SIM u S μ → u + 12 * j ≤ 6200 → cc + 60 * j ≤ 603072 → ss + D * j ≤ 7190634 → ∃ r, fEnds (fun zz => frun (eL_law X) tL_law zz 28 [kR 50 0 0, kR 7 0 0, kR 8 0 0, kR 40 0 0, kR 41 0 0, kN i, z6, z7, z8] [] μ cc ss) r ∧ r.1 = .inl (some (vI 1)) := fun j => by
  induction j with
  | zero =>
    intro i u cc ss S μ z6 z7 z8 h1 hi I hu hc hs
    refine ⟨(.inl (some (vI 1)), μ), ?_, rfl⟩
    refine fE_pos ((law_gt hX (by omega)).mpr (by omega)) 6 (fun _ => rfl) ?_
    exact fE_ret 2 (fun _ => rfl)
  | succ j ih =>
    intro i u cc ss S μ z6 z7 z8 h1 hi I hu hc hs
    by_cases q : X.1 < i + 4
    · refine ⟨(.inl (some (vI 1)), μ), ?_, rfl⟩
      refine fE_pos ((law_gt hX (by omega)).mpr q) 6 (fun _ => rfl) ?_
      exact fE_ret 2 (fun _ => rfl)
    · obtain ⟨k, hk, ek⟩ := and63 (X.2 (nI i).toNatClampNeg)
      obtain ⟨S', μ', y6, y7, y8, c', s', J, hc', hs', G⟩ := law_case k hk X u i cc ss S μ z6 z7 z8 I (by omega) (by omega) hX (by omega) (by rw [← hD]; exact Nat.le_trans (Nat.add_le_add_left (Nat.le_mul_of_pos_right D (Nat.succ_pos j)) ss) hs)
      rw [← hD] at hs'
      obtain ⟨r, hr, hr1⟩ := ih (i + 4) (u + 12) c' s' S' μ' y6 y7 y8 (by omega) (by omega) J (by omega) (by omega) (by rw [Nat.mul_succ] at hs; omega)
      refine ⟨r, ?_, hr1⟩
      have g := G r (by
        refine fE_step (y := fun zz => frun _ _ zz 28 [kR 50 0 0, kR 7 0 0, kR 8 0 0, kR 40 0 0, kR 41 0 0, kX (nI i + 4), y6, y7, y8] [] _ c' s') 2 (fun _ => rfl) ?_
        rw [fLit, nI_add]
        exact hr
        )
      rw [← ek] at g
      refine fE_neg (fun p => q ((law_gt hX (by omega)).mp p)) 6 (fun _ => rfl) ?_
      refine fE_pos (g_in (k := i) rfl (by omega) (by omega)) 3 (fun _ => rfl) ?_
      refine fE_step (y := fun zz => frun _ _ zz 44 [kR 50 0 0, kR 7 0 0, kR 8 0 0, kR 40 0 0, kR 41 0 0, kN i, z6, z7, z8] [vI (X.2 (nI i).toNatClampNeg &&& 63)] _ cc ss) 2 (fun _ => rfl) ?_
      exact g
