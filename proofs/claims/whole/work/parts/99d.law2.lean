theorem l_28 : LCase 28 := fun X u i cc ss S μ z6 z7 z8 I hu hi hX hcc hss => by
  have hb1 : ∀ x, x ≤ 60 → cc + x ≤ 603072 := fun x hx => by omega
  have hb2 : ∀ x, x ≤ 12000 → ss + x ≤ 7190634 := fun x hx => by omega
  have ab1 : ∀ x, x ≤ 60 → cc + x ≤ cc + 60 := fun x hx => Nat.add_le_add_left hx cc
  have ab2 : ∀ x, x ≤ 12000 → ss + x ≤ ss + 12000 := fun x hx => Nat.add_le_add_left hx ss
  have rd1 : ¬ (nI i + 1 < 0 ∨ X.1 ≤ (nI i + 1).toNatClampNeg) := g_in (k := i + 1) (nI_1 i) (by omega) (by omega)
  have rd2 : ¬ (nI i + 2 < 0 ∨ X.1 ≤ (nI i + 2).toNatClampNeg) := g_in (k := i + 2) (by rw [fLit, nI_add]) (by omega) (by omega)
  have rd3 : ¬ (nI i + 3 < 0 ∨ X.1 ≤ (nI i + 3).toNatClampNeg) := g_in (k := i + 3) (by rw [fLit, nI_add]) (by omega) (by omega)
  obtain ⟨k, b, μ1, μ2, w, m, e9, e40, J⟩ := s_hoursToSinking I (X.2 (nI i + 1).toNatClampNeg)
  refine ⟨S, μ2, some (vI k), some (vI b), z8, (cc + 2), (ss + 12), J.up (by omega) hu, ab1 _ (by decide), ab2 _ (by decide), fun res R => ?_⟩
  refine fE_pos (rd1) 7 (fun _ => rfl) ?_
  refine fE_step (y := fun zz => frun _ _ zz 1924 [kR 50 0 0, kR 7 0 0, kR 8 0 0, kR 40 0 0, kR 41 0 0, kN i, z6, z7, z8] [vR 40 0 0, vI (X.2 (nI i + 1).toNatClampNeg), vR 7 0 0] _ cc ss) 1 (fun _ => rfl) ?_
  refine fE_step 1 (fun _ => fr_callS (f := sL_hoursToSinking) 2 12 603072 7190634 (cc + 2) (ss + 12) rfl rfl rfl rfl rfl (hb1 _ (by decide)) (hb2 _ (by decide)) rfl w) ?_
  refine fE_pos (rd1) 7 (fun _ => rfl) ?_
  refine fE_step (y := fun zz => frun _ _ zz 1936 [kR 50 0 0, kR 7 0 0, kR 8 0 0, kR 40 0 0, kR 41 0 0, kN i, some (vI k), z7, z8] [vI (X.2 (nI i + 1).toNatClampNeg), vR 8 0 0] _ (cc + 2) (ss + 12)) 0 (fun _ => rfl) ?_
  refine fE_step 1 (fun _ => fr_callV (f := sX8_hoursToSinking) 0 0 603072 7190634 (cc + 2) (ss + 12) rfl rfl rfl (Nat.add_zero _) (Nat.add_zero _) (hb1 _ (by decide)) (hb2 _ (by decide)) rfl m) ?_
  refine fE_step (y := fun zz => frun _ _ zz 1942 [kR 50 0 0, kR 7 0 0, kR 8 0 0, kR 40 0 0, kR 41 0 0, kN i, some (vI k), some (vI b), z8] [vR 8 0 0] _ (cc + 2) (ss + 12)) 2 (fun _ => rfl) ?_
  refine fE_step 1 (fun _ => fr_callV (f := sX8_thrown) 0 0 603072 7190634 (cc + 2) (ss + 12) rfl rfl rfl (Nat.add_zero _) (Nat.add_zero _) (hb1 _ (by decide)) (hb2 _ (by decide)) rfl (m_thrown μ2)) ?_
  refine fE_pos (e9) 2 (fun _ => rfl) ?_
  refine fE_ite 2 (fun _ => rfl) (fun k0 => ?_) (fun k0 => ?_)
  · skip
    refine fE_pos (lcz (e40 k0)) 7 (fun _ => rfl) ?_
    refine fE_step (y := fun zz => frun _ _ zz 3003 [kR 50 0 0, kR 7 0 0, kR 8 0 0, kR 40 0 0, kR 41 0 0, kN i, some (vI k), some (vI b), z8] [] _ (cc + 2) (ss + 12)) 1 (fun _ => rfl) ?_
    exact R
  · skip
    refine fE_step (y := fun zz => frun _ _ zz 3003 [kR 50 0 0, kR 7 0 0, kR 8 0 0, kR 40 0 0, kR 41 0 0, kN i, some (vI k), some (vI b), z8] [] _ (cc + 2) (ss + 12)) 1 (fun _ => rfl) ?_
    exact R
theorem l_29 : LCase 29 := fun X u i cc ss S μ z6 z7 z8 I hu hi hX hcc hss => by
  have hb1 : ∀ x, x ≤ 60 → cc + x ≤ 603072 := fun x hx => by omega
  have hb2 : ∀ x, x ≤ 12000 → ss + x ≤ 7190634 := fun x hx => by omega
  have ab1 : ∀ x, x ≤ 60 → cc + x ≤ cc + 60 := fun x hx => Nat.add_le_add_left hx cc
  have ab2 : ∀ x, x ≤ 12000 → ss + x ≤ ss + 12000 := fun x hx => Nat.add_le_add_left hx ss
  have rd1 : ¬ (nI i + 1 < 0 ∨ X.1 ≤ (nI i + 1).toNatClampNeg) := g_in (k := i + 1) (nI_1 i) (by omega) (by omega)
  have rd2 : ¬ (nI i + 2 < 0 ∨ X.1 ≤ (nI i + 2).toNatClampNeg) := g_in (k := i + 2) (by rw [fLit, nI_add]) (by omega) (by omega)
  have rd3 : ¬ (nI i + 3 < 0 ∨ X.1 ≤ (nI i + 3).toNatClampNeg) := g_in (k := i + 3) (by rw [fLit, nI_add]) (by omega) (by omega)
  obtain ⟨S', k, b, μ1, μ2, w, m, e9, e40, J⟩ := s_setSlip I hu (X.2 (nI i + 1).toNatClampNeg) (X.2 (nI i + 2).toNatClampNeg)
  refine ⟨S', μ2, some (vI k), some (vI b), z8, (cc + 1), (ss + 6), J, ab1 _ (by decide), ab2 _ (by decide), fun res R => ?_⟩
  refine fE_pos (rd1) 7 (fun _ => rfl) ?_
  refine fE_pos (rd2) 5 (fun _ => rfl) ?_
  refine fE_step (y := fun zz => frun _ _ zz 1986 [kR 50 0 0, kR 7 0 0, kR 8 0 0, kR 40 0 0, kR 41 0 0, kN i, z6, z7, z8] [vR 40 0 0, vI (X.2 (nI i + 2).toNatClampNeg), vI (X.2 (nI i + 1).toNatClampNeg), vR 7 0 0] _ cc ss) 1 (fun _ => rfl) ?_
  refine fE_step 1 (fun _ => fr_callS (f := sL_setSlip) 1 6 603072 7190634 (cc + 1) (ss + 6) rfl rfl rfl rfl rfl (hb1 _ (by decide)) (hb2 _ (by decide)) rfl w) ?_
  refine fE_pos (rd1) 7 (fun _ => rfl) ?_
  refine fE_pos (rd2) 5 (fun _ => rfl) ?_
  refine fE_step (y := fun zz => frun _ _ zz 2004 [kR 50 0 0, kR 7 0 0, kR 8 0 0, kR 40 0 0, kR 41 0 0, kN i, some (vI k), z7, z8] [vI (X.2 (nI i + 2).toNatClampNeg), vI (X.2 (nI i + 1).toNatClampNeg), vR 8 0 0] _ (cc + 1) (ss + 6)) 0 (fun _ => rfl) ?_
  refine fE_step 1 (fun _ => fr_callV (f := sX8_setSlip) 0 0 603072 7190634 (cc + 1) (ss + 6) rfl rfl rfl (Nat.add_zero _) (Nat.add_zero _) (hb1 _ (by decide)) (hb2 _ (by decide)) rfl m) ?_
  refine fE_step (y := fun zz => frun _ _ zz 2010 [kR 50 0 0, kR 7 0 0, kR 8 0 0, kR 40 0 0, kR 41 0 0, kN i, some (vI k), some (vI b), z8] [vR 8 0 0] _ (cc + 1) (ss + 6)) 2 (fun _ => rfl) ?_
  refine fE_step 1 (fun _ => fr_callV (f := sX8_thrown) 0 0 603072 7190634 (cc + 1) (ss + 6) rfl rfl rfl (Nat.add_zero _) (Nat.add_zero _) (hb1 _ (by decide)) (hb2 _ (by decide)) rfl (m_thrown μ2)) ?_
  refine fE_pos (e9) 2 (fun _ => rfl) ?_
  refine fE_ite 2 (fun _ => rfl) (fun k0 => ?_) (fun k0 => ?_)
  · skip
    refine fE_pos (lcz (e40 k0)) 7 (fun _ => rfl) ?_
    refine fE_step (y := fun zz => frun _ _ zz 3003 [kR 50 0 0, kR 7 0 0, kR 8 0 0, kR 40 0 0, kR 41 0 0, kN i, some (vI k), some (vI b), z8] [] _ (cc + 1) (ss + 6)) 1 (fun _ => rfl) ?_
    exact R
  · skip
    refine fE_step (y := fun zz => frun _ _ zz 3003 [kR 50 0 0, kR 7 0 0, kR 8 0 0, kR 40 0 0, kR 41 0 0, kN i, some (vI k), some (vI b), z8] [] _ (cc + 1) (ss + 6)) 1 (fun _ => rfl) ?_
    exact R
theorem l_30 : LCase 30 := fun X u i cc ss S μ z6 z7 z8 I hu hi hX hcc hss => by
  have hb1 : ∀ x, x ≤ 60 → cc + x ≤ 603072 := fun x hx => by omega
  have hb2 : ∀ x, x ≤ 12000 → ss + x ≤ 7190634 := fun x hx => by omega
  have ab1 : ∀ x, x ≤ 60 → cc + x ≤ cc + 60 := fun x hx => Nat.add_le_add_left hx cc
  have ab2 : ∀ x, x ≤ 12000 → ss + x ≤ ss + 12000 := fun x hx => Nat.add_le_add_left hx ss
  have rd1 : ¬ (nI i + 1 < 0 ∨ X.1 ≤ (nI i + 1).toNatClampNeg) := g_in (k := i + 1) (nI_1 i) (by omega) (by omega)
  have rd2 : ¬ (nI i + 2 < 0 ∨ X.1 ≤ (nI i + 2).toNatClampNeg) := g_in (k := i + 2) (by rw [fLit, nI_add]) (by omega) (by omega)
  have rd3 : ¬ (nI i + 3 < 0 ∨ X.1 ≤ (nI i + 3).toNatClampNeg) := g_in (k := i + 3) (by rw [fLit, nI_add]) (by omega) (by omega)
  obtain ⟨k, b, μ1, μ2, w, m, e9, e40, J⟩ := s_slipLength I (X.2 (nI i + 1).toNatClampNeg)
  refine ⟨S, μ2, some (vI k), some (vI b), z8, (cc + 1), (ss + 6), J.up (by omega) hu, ab1 _ (by decide), ab2 _ (by decide), fun res R => ?_⟩
  refine fE_pos (rd1) 7 (fun _ => rfl) ?_
  refine fE_step (y := fun zz => frun _ _ zz 2048 [kR 50 0 0, kR 7 0 0, kR 8 0 0, kR 40 0 0, kR 41 0 0, kN i, z6, z7, z8] [vR 40 0 0, vI (X.2 (nI i + 1).toNatClampNeg), vR 7 0 0] _ cc ss) 1 (fun _ => rfl) ?_
  refine fE_step 1 (fun _ => fr_callS (f := sL_slipLength) 1 6 603072 7190634 (cc + 1) (ss + 6) rfl rfl rfl rfl rfl (hb1 _ (by decide)) (hb2 _ (by decide)) rfl w) ?_
  refine fE_pos (rd1) 7 (fun _ => rfl) ?_
  refine fE_step (y := fun zz => frun _ _ zz 2060 [kR 50 0 0, kR 7 0 0, kR 8 0 0, kR 40 0 0, kR 41 0 0, kN i, some (vI k), z7, z8] [vI (X.2 (nI i + 1).toNatClampNeg), vR 8 0 0] _ (cc + 1) (ss + 6)) 0 (fun _ => rfl) ?_
  refine fE_step 1 (fun _ => fr_callV (f := sX8_slipLength) 0 0 603072 7190634 (cc + 1) (ss + 6) rfl rfl rfl (Nat.add_zero _) (Nat.add_zero _) (hb1 _ (by decide)) (hb2 _ (by decide)) rfl m) ?_
  refine fE_step (y := fun zz => frun _ _ zz 2066 [kR 50 0 0, kR 7 0 0, kR 8 0 0, kR 40 0 0, kR 41 0 0, kN i, some (vI k), some (vI b), z8] [vR 8 0 0] _ (cc + 1) (ss + 6)) 2 (fun _ => rfl) ?_
  refine fE_step 1 (fun _ => fr_callV (f := sX8_thrown) 0 0 603072 7190634 (cc + 1) (ss + 6) rfl rfl rfl (Nat.add_zero _) (Nat.add_zero _) (hb1 _ (by decide)) (hb2 _ (by decide)) rfl (m_thrown μ2)) ?_
  refine fE_pos (e9) 2 (fun _ => rfl) ?_
  refine fE_ite 2 (fun _ => rfl) (fun k0 => ?_) (fun k0 => ?_)
  · skip
    refine fE_pos (lcz (e40 k0)) 7 (fun _ => rfl) ?_
    refine fE_step (y := fun zz => frun _ _ zz 3003 [kR 50 0 0, kR 7 0 0, kR 8 0 0, kR 40 0 0, kR 41 0 0, kN i, some (vI k), some (vI b), z8] [] _ (cc + 1) (ss + 6)) 1 (fun _ => rfl) ?_
    exact R
  · skip
    refine fE_step (y := fun zz => frun _ _ zz 3003 [kR 50 0 0, kR 7 0 0, kR 8 0 0, kR 40 0 0, kR 41 0 0, kN i, some (vI k), some (vI b), z8] [] _ (cc + 1) (ss + 6)) 1 (fun _ => rfl) ?_
    exact R
theorem l_31 : LCase 31 := fun X u i cc ss S μ z6 z7 z8 I hu hi hX hcc hss => by
  have hb1 : ∀ x, x ≤ 60 → cc + x ≤ 603072 := fun x hx => by omega
  have hb2 : ∀ x, x ≤ 12000 → ss + x ≤ 7190634 := fun x hx => by omega
  have ab1 : ∀ x, x ≤ 60 → cc + x ≤ cc + 60 := fun x hx => Nat.add_le_add_left hx cc
  have ab2 : ∀ x, x ≤ 12000 → ss + x ≤ ss + 12000 := fun x hx => Nat.add_le_add_left hx ss
  have rd1 : ¬ (nI i + 1 < 0 ∨ X.1 ≤ (nI i + 1).toNatClampNeg) := g_in (k := i + 1) (nI_1 i) (by omega) (by omega)
  have rd2 : ¬ (nI i + 2 < 0 ∨ X.1 ≤ (nI i + 2).toNatClampNeg) := g_in (k := i + 2) (by rw [fLit, nI_add]) (by omega) (by omega)
  have rd3 : ¬ (nI i + 3 < 0 ∨ X.1 ≤ (nI i + 3).toNatClampNeg) := g_in (k := i + 3) (by rw [fLit, nI_add]) (by omega) (by omega)
  obtain ⟨v, μ1, μ2, w, m, J⟩ := s_mostOnSlips I
  refine ⟨S, μ2, z6, z7, z8, cc, ss, J.up (by omega) hu, Nat.le_add_right _ _, Nat.le_add_right _ _, fun res R => ?_⟩
  refine fE_step (y := fun zz => frun _ _ zz 2097 [kR 50 0 0, kR 7 0 0, kR 8 0 0, kR 40 0 0, kR 41 0 0, kN i, z6, z7, z8] [vR 7 0 0] _ cc ss) 2 (fun _ => rfl) ?_
  refine fE_step 1 (fun _ => fr_callV (f := sX7_mostOnSlips) 0 0 603072 7190634 cc ss rfl rfl rfl (Nat.add_zero _) (Nat.add_zero _) (Nat.le_trans (Nat.le_add_right _ _) hcc) (Nat.le_trans (Nat.le_add_right _ _) hss) rfl w) ?_
  refine fE_step (y := fun zz => frun _ _ zz 2101 [kR 50 0 0, kR 7 0 0, kR 8 0 0, kR 40 0 0, kR 41 0 0, kN i, z6, z7, z8] [vR 8 0 0, vI v] _ cc ss) 1 (fun _ => rfl) ?_
  refine fE_step 1 (fun _ => fr_callV (f := sX8_mostOnSlips) 0 0 603072 7190634 cc ss rfl rfl rfl (Nat.add_zero _) (Nat.add_zero _) (Nat.le_trans (Nat.le_add_right _ _) hcc) (Nat.le_trans (Nat.le_add_right _ _) hss) rfl m) ?_
  refine fE_pos (rfl) 1 (fun _ => rfl) ?_
  refine fE_step (y := fun zz => frun _ _ zz 3003 [kR 50 0 0, kR 7 0 0, kR 8 0 0, kR 40 0 0, kR 41 0 0, kN i, z6, z7, z8] [] _ cc ss) 0 (fun _ => rfl) ?_
  exact R
theorem l_32 : LCase 32 := fun X u i cc ss S μ z6 z7 z8 I hu hi hX hcc hss => by
  have hb1 : ∀ x, x ≤ 60 → cc + x ≤ 603072 := fun x hx => by omega
  have hb2 : ∀ x, x ≤ 12000 → ss + x ≤ 7190634 := fun x hx => by omega
  have ab1 : ∀ x, x ≤ 60 → cc + x ≤ cc + 60 := fun x hx => Nat.add_le_add_left hx cc
  have ab2 : ∀ x, x ≤ 12000 → ss + x ≤ ss + 12000 := fun x hx => Nat.add_le_add_left hx ss
  have rd1 : ¬ (nI i + 1 < 0 ∨ X.1 ≤ (nI i + 1).toNatClampNeg) := g_in (k := i + 1) (nI_1 i) (by omega) (by omega)
  have rd2 : ¬ (nI i + 2 < 0 ∨ X.1 ≤ (nI i + 2).toNatClampNeg) := g_in (k := i + 2) (by rw [fLit, nI_add]) (by omega) (by omega)
  have rd3 : ¬ (nI i + 3 < 0 ∨ X.1 ≤ (nI i + 3).toNatClampNeg) := g_in (k := i + 3) (by rw [fLit, nI_add]) (by omega) (by omega)
  obtain ⟨v, μ1, μ2, w, m, J⟩ := s_mostOnSlipsByLengths I
  refine ⟨S, μ2, z6, z7, z8, cc, ss, J.up (by omega) hu, Nat.le_add_right _ _, Nat.le_add_right _ _, fun res R => ?_⟩
  refine fE_step (y := fun zz => frun _ _ zz 2110 [kR 50 0 0, kR 7 0 0, kR 8 0 0, kR 40 0 0, kR 41 0 0, kN i, z6, z7, z8] [vR 7 0 0] _ cc ss) 2 (fun _ => rfl) ?_
  refine fE_step 1 (fun _ => fr_callV (f := sX7_mostOnSlipsByLengths) 0 0 603072 7190634 cc ss rfl rfl rfl (Nat.add_zero _) (Nat.add_zero _) (Nat.le_trans (Nat.le_add_right _ _) hcc) (Nat.le_trans (Nat.le_add_right _ _) hss) rfl w) ?_
  refine fE_step (y := fun zz => frun _ _ zz 2114 [kR 50 0 0, kR 7 0 0, kR 8 0 0, kR 40 0 0, kR 41 0 0, kN i, z6, z7, z8] [vR 8 0 0, vI v] _ cc ss) 1 (fun _ => rfl) ?_
  refine fE_step 1 (fun _ => fr_callV (f := sX8_mostOnSlipsByLengths) 0 0 603072 7190634 cc ss rfl rfl rfl (Nat.add_zero _) (Nat.add_zero _) (Nat.le_trans (Nat.le_add_right _ _) hcc) (Nat.le_trans (Nat.le_add_right _ _) hss) rfl m) ?_
  refine fE_pos (rfl) 1 (fun _ => rfl) ?_
  refine fE_step (y := fun zz => frun _ _ zz 3003 [kR 50 0 0, kR 7 0 0, kR 8 0 0, kR 40 0 0, kR 41 0 0, kN i, z6, z7, z8] [] _ cc ss) 0 (fun _ => rfl) ?_
  exact R
theorem l_33 : LCase 33 := fun X u i cc ss S μ z6 z7 z8 I hu hi hX hcc hss => by
  have hb1 : ∀ x, x ≤ 60 → cc + x ≤ 603072 := fun x hx => by omega
  have hb2 : ∀ x, x ≤ 12000 → ss + x ≤ 7190634 := fun x hx => by omega
  have ab1 : ∀ x, x ≤ 60 → cc + x ≤ cc + 60 := fun x hx => Nat.add_le_add_left hx cc
  have ab2 : ∀ x, x ≤ 12000 → ss + x ≤ ss + 12000 := fun x hx => Nat.add_le_add_left hx ss
  have rd1 : ¬ (nI i + 1 < 0 ∨ X.1 ≤ (nI i + 1).toNatClampNeg) := g_in (k := i + 1) (nI_1 i) (by omega) (by omega)
  have rd2 : ¬ (nI i + 2 < 0 ∨ X.1 ≤ (nI i + 2).toNatClampNeg) := g_in (k := i + 2) (by rw [fLit, nI_add]) (by omega) (by omega)
  have rd3 : ¬ (nI i + 3 < 0 ∨ X.1 ≤ (nI i + 3).toNatClampNeg) := g_in (k := i + 3) (by rw [fLit, nI_add]) (by omega) (by omega)
  obtain ⟨v, μ1, μ2, w, m, J⟩ := s_bestUses I
  refine ⟨S, μ2, z6, z7, z8, cc, ss, J.up (by omega) hu, Nat.le_add_right _ _, Nat.le_add_right _ _, fun res R => ?_⟩
  refine fE_step (y := fun zz => frun _ _ zz 2123 [kR 50 0 0, kR 7 0 0, kR 8 0 0, kR 40 0 0, kR 41 0 0, kN i, z6, z7, z8] [vR 7 0 0] _ cc ss) 2 (fun _ => rfl) ?_
  refine fE_step 1 (fun _ => fr_callV (f := sX7_bestUses) 0 0 603072 7190634 cc ss rfl rfl rfl (Nat.add_zero _) (Nat.add_zero _) (Nat.le_trans (Nat.le_add_right _ _) hcc) (Nat.le_trans (Nat.le_add_right _ _) hss) rfl w) ?_
  refine fE_step (y := fun zz => frun _ _ zz 2127 [kR 50 0 0, kR 7 0 0, kR 8 0 0, kR 40 0 0, kR 41 0 0, kN i, z6, z7, z8] [vR 8 0 0, vI v] _ cc ss) 1 (fun _ => rfl) ?_
  refine fE_step 1 (fun _ => fr_callV (f := sX8_bestUses) 0 0 603072 7190634 cc ss rfl rfl rfl (Nat.add_zero _) (Nat.add_zero _) (Nat.le_trans (Nat.le_add_right _ _) hcc) (Nat.le_trans (Nat.le_add_right _ _) hss) rfl m) ?_
  refine fE_pos (rfl) 1 (fun _ => rfl) ?_
  refine fE_step (y := fun zz => frun _ _ zz 3003 [kR 50 0 0, kR 7 0 0, kR 8 0 0, kR 40 0 0, kR 41 0 0, kN i, z6, z7, z8] [] _ cc ss) 0 (fun _ => rfl) ?_
  exact R
theorem l_34 : LCase 34 := fun X u i cc ss S μ z6 z7 z8 I hu hi hX hcc hss => by
  have hb1 : ∀ x, x ≤ 60 → cc + x ≤ 603072 := fun x hx => by omega
  have hb2 : ∀ x, x ≤ 12000 → ss + x ≤ 7190634 := fun x hx => by omega
  have ab1 : ∀ x, x ≤ 60 → cc + x ≤ cc + 60 := fun x hx => Nat.add_le_add_left hx cc
  have ab2 : ∀ x, x ≤ 12000 → ss + x ≤ ss + 12000 := fun x hx => Nat.add_le_add_left hx ss
  have rd1 : ¬ (nI i + 1 < 0 ∨ X.1 ≤ (nI i + 1).toNatClampNeg) := g_in (k := i + 1) (nI_1 i) (by omega) (by omega)
  have rd2 : ¬ (nI i + 2 < 0 ∨ X.1 ≤ (nI i + 2).toNatClampNeg) := g_in (k := i + 2) (by rw [fLit, nI_add]) (by omega) (by omega)
  have rd3 : ¬ (nI i + 3 < 0 ∨ X.1 ≤ (nI i + 3).toNatClampNeg) := g_in (k := i + 3) (by rw [fLit, nI_add]) (by omega) (by omega)
  obtain ⟨S', k, b, μ1, μ2, w, m, e9, e40, J⟩ := s_addOrder I hu (X.2 (nI i + 1).toNatClampNeg) (X.2 (nI i + 2).toNatClampNeg) (X.2 (nI i + 3).toNatClampNeg)
  refine ⟨S', μ2, some (vI k), some (vI b), z8, (cc + 1), (ss + 6), J, ab1 _ (by decide), ab2 _ (by decide), fun res R => ?_⟩
  refine fE_pos (rd1) 7 (fun _ => rfl) ?_
  refine fE_pos (rd2) 5 (fun _ => rfl) ?_
  refine fE_pos (rd3) 5 (fun _ => rfl) ?_
  refine fE_step (y := fun zz => frun _ _ zz 2155 [kR 50 0 0, kR 7 0 0, kR 8 0 0, kR 40 0 0, kR 41 0 0, kN i, z6, z7, z8] [vR 40 0 0, vI (X.2 (nI i + 3).toNatClampNeg), vI (X.2 (nI i + 2).toNatClampNeg), vI (X.2 (nI i + 1).toNatClampNeg), vR 7 0 0] _ cc ss) 1 (fun _ => rfl) ?_
  refine fE_step 1 (fun _ => fr_callS (f := sL_addOrder) 1 6 603072 7190634 (cc + 1) (ss + 6) rfl rfl rfl rfl rfl (hb1 _ (by decide)) (hb2 _ (by decide)) rfl w) ?_
  refine fE_pos (rd1) 7 (fun _ => rfl) ?_
  refine fE_pos (rd2) 5 (fun _ => rfl) ?_
  refine fE_pos (rd3) 5 (fun _ => rfl) ?_
  refine fE_step (y := fun zz => frun _ _ zz 2179 [kR 50 0 0, kR 7 0 0, kR 8 0 0, kR 40 0 0, kR 41 0 0, kN i, some (vI k), z7, z8] [vI (X.2 (nI i + 3).toNatClampNeg), vI (X.2 (nI i + 2).toNatClampNeg), vI (X.2 (nI i + 1).toNatClampNeg), vR 8 0 0] _ (cc + 1) (ss + 6)) 0 (fun _ => rfl) ?_
  refine fE_step 1 (fun _ => fr_callV (f := sX8_addOrder) 0 0 603072 7190634 (cc + 1) (ss + 6) rfl rfl rfl (Nat.add_zero _) (Nat.add_zero _) (hb1 _ (by decide)) (hb2 _ (by decide)) rfl m) ?_
  refine fE_step (y := fun zz => frun _ _ zz 2185 [kR 50 0 0, kR 7 0 0, kR 8 0 0, kR 40 0 0, kR 41 0 0, kN i, some (vI k), some (vI b), z8] [vR 8 0 0] _ (cc + 1) (ss + 6)) 2 (fun _ => rfl) ?_
  refine fE_step 1 (fun _ => fr_callV (f := sX8_thrown) 0 0 603072 7190634 (cc + 1) (ss + 6) rfl rfl rfl (Nat.add_zero _) (Nat.add_zero _) (hb1 _ (by decide)) (hb2 _ (by decide)) rfl (m_thrown μ2)) ?_
  refine fE_pos (e9) 2 (fun _ => rfl) ?_
  refine fE_ite 2 (fun _ => rfl) (fun k0 => ?_) (fun k0 => ?_)
  · skip
    refine fE_pos (lcz (e40 k0)) 7 (fun _ => rfl) ?_
    refine fE_step (y := fun zz => frun _ _ zz 3003 [kR 50 0 0, kR 7 0 0, kR 8 0 0, kR 40 0 0, kR 41 0 0, kN i, some (vI k), some (vI b), z8] [] _ (cc + 1) (ss + 6)) 1 (fun _ => rfl) ?_
    exact R
  · skip
    refine fE_step (y := fun zz => frun _ _ zz 3003 [kR 50 0 0, kR 7 0 0, kR 8 0 0, kR 40 0 0, kR 41 0 0, kN i, some (vI k), some (vI b), z8] [] _ (cc + 1) (ss + 6)) 1 (fun _ => rfl) ?_
    exact R
theorem l_35 : LCase 35 := fun X u i cc ss S μ z6 z7 z8 I hu hi hX hcc hss => by
  have hb1 : ∀ x, x ≤ 60 → cc + x ≤ 603072 := fun x hx => by omega
  have hb2 : ∀ x, x ≤ 12000 → ss + x ≤ 7190634 := fun x hx => by omega
  have ab1 : ∀ x, x ≤ 60 → cc + x ≤ cc + 60 := fun x hx => Nat.add_le_add_left hx cc
  have ab2 : ∀ x, x ≤ 12000 → ss + x ≤ ss + 12000 := fun x hx => Nat.add_le_add_left hx ss
  have rd1 : ¬ (nI i + 1 < 0 ∨ X.1 ≤ (nI i + 1).toNatClampNeg) := g_in (k := i + 1) (nI_1 i) (by omega) (by omega)
  have rd2 : ¬ (nI i + 2 < 0 ∨ X.1 ≤ (nI i + 2).toNatClampNeg) := g_in (k := i + 2) (by rw [fLit, nI_add]) (by omega) (by omega)
  have rd3 : ¬ (nI i + 3 < 0 ∨ X.1 ≤ (nI i + 3).toNatClampNeg) := g_in (k := i + 3) (by rw [fLit, nI_add]) (by omega) (by omega)
  obtain ⟨S', k, b, μ1, μ2, w, m, e9, e40, J⟩ := s_deliver I hu (X.2 (nI i + 1).toNatClampNeg) (X.2 (nI i + 2).toNatClampNeg)
  refine ⟨S', μ2, some (vI k), some (vI b), z8, (cc + 1), (ss + 6), J, ab1 _ (by decide), ab2 _ (by decide), fun res R => ?_⟩
  refine fE_pos (rd1) 7 (fun _ => rfl) ?_
  refine fE_pos (rd2) 5 (fun _ => rfl) ?_
  refine fE_step (y := fun zz => frun _ _ zz 2229 [kR 50 0 0, kR 7 0 0, kR 8 0 0, kR 40 0 0, kR 41 0 0, kN i, z6, z7, z8] [vR 40 0 0, vI (X.2 (nI i + 2).toNatClampNeg), vI (X.2 (nI i + 1).toNatClampNeg), vR 7 0 0] _ cc ss) 1 (fun _ => rfl) ?_
  refine fE_step 1 (fun _ => fr_callS (f := sL_deliver) 1 6 603072 7190634 (cc + 1) (ss + 6) rfl rfl rfl rfl rfl (hb1 _ (by decide)) (hb2 _ (by decide)) rfl w) ?_
  refine fE_pos (rd1) 7 (fun _ => rfl) ?_
  refine fE_pos (rd2) 5 (fun _ => rfl) ?_
  refine fE_step (y := fun zz => frun _ _ zz 2247 [kR 50 0 0, kR 7 0 0, kR 8 0 0, kR 40 0 0, kR 41 0 0, kN i, some (vI k), z7, z8] [vI (X.2 (nI i + 2).toNatClampNeg), vI (X.2 (nI i + 1).toNatClampNeg), vR 8 0 0] _ (cc + 1) (ss + 6)) 0 (fun _ => rfl) ?_
  refine fE_step 1 (fun _ => fr_callV (f := sX8_deliver) 0 0 603072 7190634 (cc + 1) (ss + 6) rfl rfl rfl (Nat.add_zero _) (Nat.add_zero _) (hb1 _ (by decide)) (hb2 _ (by decide)) rfl m) ?_
  refine fE_step (y := fun zz => frun _ _ zz 2253 [kR 50 0 0, kR 7 0 0, kR 8 0 0, kR 40 0 0, kR 41 0 0, kN i, some (vI k), some (vI b), z8] [vR 8 0 0] _ (cc + 1) (ss + 6)) 2 (fun _ => rfl) ?_
  refine fE_step 1 (fun _ => fr_callV (f := sX8_thrown) 0 0 603072 7190634 (cc + 1) (ss + 6) rfl rfl rfl (Nat.add_zero _) (Nat.add_zero _) (hb1 _ (by decide)) (hb2 _ (by decide)) rfl (m_thrown μ2)) ?_
  refine fE_pos (e9) 2 (fun _ => rfl) ?_
  refine fE_ite 2 (fun _ => rfl) (fun k0 => ?_) (fun k0 => ?_)
  · skip
    refine fE_pos (lcz (e40 k0)) 7 (fun _ => rfl) ?_
    refine fE_step (y := fun zz => frun _ _ zz 3003 [kR 50 0 0, kR 7 0 0, kR 8 0 0, kR 40 0 0, kR 41 0 0, kN i, some (vI k), some (vI b), z8] [] _ (cc + 1) (ss + 6)) 1 (fun _ => rfl) ?_
    exact R
  · skip
    refine fE_step (y := fun zz => frun _ _ zz 3003 [kR 50 0 0, kR 7 0 0, kR 8 0 0, kR 40 0 0, kR 41 0 0, kN i, some (vI k), some (vI b), z8] [] _ (cc + 1) (ss + 6)) 1 (fun _ => rfl) ?_
    exact R
theorem l_36 : LCase 36 := fun X u i cc ss S μ z6 z7 z8 I hu hi hX hcc hss => by
  have hb1 : ∀ x, x ≤ 60 → cc + x ≤ 603072 := fun x hx => by omega
  have hb2 : ∀ x, x ≤ 12000 → ss + x ≤ 7190634 := fun x hx => by omega
  have ab1 : ∀ x, x ≤ 60 → cc + x ≤ cc + 60 := fun x hx => Nat.add_le_add_left hx cc
  have ab2 : ∀ x, x ≤ 12000 → ss + x ≤ ss + 12000 := fun x hx => Nat.add_le_add_left hx ss
  have rd1 : ¬ (nI i + 1 < 0 ∨ X.1 ≤ (nI i + 1).toNatClampNeg) := g_in (k := i + 1) (nI_1 i) (by omega) (by omega)
  have rd2 : ¬ (nI i + 2 < 0 ∨ X.1 ≤ (nI i + 2).toNatClampNeg) := g_in (k := i + 2) (by rw [fLit, nI_add]) (by omega) (by omega)
  have rd3 : ¬ (nI i + 3 < 0 ∨ X.1 ≤ (nI i + 3).toNatClampNeg) := g_in (k := i + 3) (by rw [fLit, nI_add]) (by omega) (by omega)
  obtain ⟨v, μ1, μ2, w, m, J⟩ := s_orderCount I
  refine ⟨S, μ2, z6, z7, z8, cc, ss, J.up (by omega) hu, Nat.le_add_right _ _, Nat.le_add_right _ _, fun res R => ?_⟩
  refine fE_step (y := fun zz => frun _ _ zz 2284 [kR 50 0 0, kR 7 0 0, kR 8 0 0, kR 40 0 0, kR 41 0 0, kN i, z6, z7, z8] [vR 7 0 0] _ cc ss) 2 (fun _ => rfl) ?_
  refine fE_step 1 (fun _ => fr_callV (f := sX7_orderCount) 0 0 603072 7190634 cc ss rfl rfl rfl (Nat.add_zero _) (Nat.add_zero _) (Nat.le_trans (Nat.le_add_right _ _) hcc) (Nat.le_trans (Nat.le_add_right _ _) hss) rfl w) ?_
  refine fE_step (y := fun zz => frun _ _ zz 2288 [kR 50 0 0, kR 7 0 0, kR 8 0 0, kR 40 0 0, kR 41 0 0, kN i, z6, z7, z8] [vR 8 0 0, vI v] _ cc ss) 1 (fun _ => rfl) ?_
  refine fE_step 1 (fun _ => fr_callV (f := sX8_orderCount) 0 0 603072 7190634 cc ss rfl rfl rfl (Nat.add_zero _) (Nat.add_zero _) (Nat.le_trans (Nat.le_add_right _ _) hcc) (Nat.le_trans (Nat.le_add_right _ _) hss) rfl m) ?_
  refine fE_pos (rfl) 1 (fun _ => rfl) ?_
  refine fE_step (y := fun zz => frun _ _ zz 3003 [kR 50 0 0, kR 7 0 0, kR 8 0 0, kR 40 0 0, kR 41 0 0, kN i, z6, z7, z8] [] _ cc ss) 0 (fun _ => rfl) ?_
  exact R
theorem l_37 : LCase 37 := fun X u i cc ss S μ z6 z7 z8 I hu hi hX hcc hss => by
  have hb1 : ∀ x, x ≤ 60 → cc + x ≤ 603072 := fun x hx => by omega
  have hb2 : ∀ x, x ≤ 12000 → ss + x ≤ 7190634 := fun x hx => by omega
  have ab1 : ∀ x, x ≤ 60 → cc + x ≤ cc + 60 := fun x hx => Nat.add_le_add_left hx cc
  have ab2 : ∀ x, x ≤ 12000 → ss + x ≤ ss + 12000 := fun x hx => Nat.add_le_add_left hx ss
  have rd1 : ¬ (nI i + 1 < 0 ∨ X.1 ≤ (nI i + 1).toNatClampNeg) := g_in (k := i + 1) (nI_1 i) (by omega) (by omega)
  have rd2 : ¬ (nI i + 2 < 0 ∨ X.1 ≤ (nI i + 2).toNatClampNeg) := g_in (k := i + 2) (by rw [fLit, nI_add]) (by omega) (by omega)
  have rd3 : ¬ (nI i + 3 < 0 ∨ X.1 ≤ (nI i + 3).toNatClampNeg) := g_in (k := i + 3) (by rw [fLit, nI_add]) (by omega) (by omega)
  obtain ⟨k, b, μ1, μ2, w, m, e9, e40, J⟩ := s_orderAt I (X.2 (nI i + 1).toNatClampNeg)
  refine ⟨S, μ2, some (vI k), some (vI b), z8, (cc + 1), (ss + 6), J.up (by omega) hu, ab1 _ (by decide), ab2 _ (by decide), fun res R => ?_⟩
  refine fE_pos (rd1) 7 (fun _ => rfl) ?_
  refine fE_step (y := fun zz => frun _ _ zz 2304 [kR 50 0 0, kR 7 0 0, kR 8 0 0, kR 40 0 0, kR 41 0 0, kN i, z6, z7, z8] [vR 40 0 0, vI (X.2 (nI i + 1).toNatClampNeg), vR 7 0 0] _ cc ss) 1 (fun _ => rfl) ?_
  refine fE_step 1 (fun _ => fr_callS (f := sL_orderAt) 1 6 603072 7190634 (cc + 1) (ss + 6) rfl rfl rfl rfl rfl (hb1 _ (by decide)) (hb2 _ (by decide)) rfl w) ?_
  refine fE_pos (rd1) 7 (fun _ => rfl) ?_
  refine fE_step (y := fun zz => frun _ _ zz 2316 [kR 50 0 0, kR 7 0 0, kR 8 0 0, kR 40 0 0, kR 41 0 0, kN i, some (vI k), z7, z8] [vI (X.2 (nI i + 1).toNatClampNeg), vR 8 0 0] _ (cc + 1) (ss + 6)) 0 (fun _ => rfl) ?_
  refine fE_step 1 (fun _ => fr_callV (f := sX8_orderAt) 0 0 603072 7190634 (cc + 1) (ss + 6) rfl rfl rfl (Nat.add_zero _) (Nat.add_zero _) (hb1 _ (by decide)) (hb2 _ (by decide)) rfl m) ?_
  refine fE_step (y := fun zz => frun _ _ zz 2322 [kR 50 0 0, kR 7 0 0, kR 8 0 0, kR 40 0 0, kR 41 0 0, kN i, some (vI k), some (vI b), z8] [vR 8 0 0] _ (cc + 1) (ss + 6)) 2 (fun _ => rfl) ?_
  refine fE_step 1 (fun _ => fr_callV (f := sX8_thrown) 0 0 603072 7190634 (cc + 1) (ss + 6) rfl rfl rfl (Nat.add_zero _) (Nat.add_zero _) (hb1 _ (by decide)) (hb2 _ (by decide)) rfl (m_thrown μ2)) ?_
  refine fE_pos (e9) 2 (fun _ => rfl) ?_
  refine fE_ite 2 (fun _ => rfl) (fun k0 => ?_) (fun k0 => ?_)
  · skip
    refine fE_pos (lcz (e40 k0)) 7 (fun _ => rfl) ?_
    refine fE_step (y := fun zz => frun _ _ zz 3003 [kR 50 0 0, kR 7 0 0, kR 8 0 0, kR 40 0 0, kR 41 0 0, kN i, some (vI k), some (vI b), z8] [] _ (cc + 1) (ss + 6)) 1 (fun _ => rfl) ?_
    exact R
  · skip
    refine fE_step (y := fun zz => frun _ _ zz 3003 [kR 50 0 0, kR 7 0 0, kR 8 0 0, kR 40 0 0, kR 41 0 0, kN i, some (vI k), some (vI b), z8] [] _ (cc + 1) (ss + 6)) 1 (fun _ => rfl) ?_
    exact R
theorem l_38 : LCase 38 := fun X u i cc ss S μ z6 z7 z8 I hu hi hX hcc hss => by
  have hb1 : ∀ x, x ≤ 60 → cc + x ≤ 603072 := fun x hx => by omega
  have hb2 : ∀ x, x ≤ 12000 → ss + x ≤ 7190634 := fun x hx => by omega
  have ab1 : ∀ x, x ≤ 60 → cc + x ≤ cc + 60 := fun x hx => Nat.add_le_add_left hx cc
  have ab2 : ∀ x, x ≤ 12000 → ss + x ≤ ss + 12000 := fun x hx => Nat.add_le_add_left hx ss
  have rd1 : ¬ (nI i + 1 < 0 ∨ X.1 ≤ (nI i + 1).toNatClampNeg) := g_in (k := i + 1) (nI_1 i) (by omega) (by omega)
  have rd2 : ¬ (nI i + 2 < 0 ∨ X.1 ≤ (nI i + 2).toNatClampNeg) := g_in (k := i + 2) (by rw [fLit, nI_add]) (by omega) (by omega)
  have rd3 : ¬ (nI i + 3 < 0 ∨ X.1 ≤ (nI i + 3).toNatClampNeg) := g_in (k := i + 3) (by rw [fLit, nI_add]) (by omega) (by omega)
  obtain ⟨k, b, μ1, μ2, w, m, e9, e40, J⟩ := s_coinsFor I (X.2 (nI i + 1).toNatClampNeg)
  refine ⟨S, μ2, some (vI k), some (vI b), z8, (cc + 1), (ss + 6), J.up (by omega) hu, ab1 _ (by decide), ab2 _ (by decide), fun res R => ?_⟩
  refine fE_pos (rd1) 7 (fun _ => rfl) ?_
  refine fE_step (y := fun zz => frun _ _ zz 2360 [kR 50 0 0, kR 7 0 0, kR 8 0 0, kR 40 0 0, kR 41 0 0, kN i, z6, z7, z8] [vR 40 0 0, vI (X.2 (nI i + 1).toNatClampNeg), vR 7 0 0] _ cc ss) 1 (fun _ => rfl) ?_
  refine fE_step 1 (fun _ => fr_callS (f := sL_coinsFor) 1 6 603072 7190634 (cc + 1) (ss + 6) rfl rfl rfl rfl rfl (hb1 _ (by decide)) (hb2 _ (by decide)) rfl w) ?_
  refine fE_pos (rd1) 7 (fun _ => rfl) ?_
  refine fE_step (y := fun zz => frun _ _ zz 2372 [kR 50 0 0, kR 7 0 0, kR 8 0 0, kR 40 0 0, kR 41 0 0, kN i, some (vI k), z7, z8] [vI (X.2 (nI i + 1).toNatClampNeg), vR 8 0 0] _ (cc + 1) (ss + 6)) 0 (fun _ => rfl) ?_
  refine fE_step 1 (fun _ => fr_callV (f := sX8_coinsFor) 0 0 603072 7190634 (cc + 1) (ss + 6) rfl rfl rfl (Nat.add_zero _) (Nat.add_zero _) (hb1 _ (by decide)) (hb2 _ (by decide)) rfl m) ?_
  refine fE_step (y := fun zz => frun _ _ zz 2378 [kR 50 0 0, kR 7 0 0, kR 8 0 0, kR 40 0 0, kR 41 0 0, kN i, some (vI k), some (vI b), z8] [vR 8 0 0] _ (cc + 1) (ss + 6)) 2 (fun _ => rfl) ?_
  refine fE_step 1 (fun _ => fr_callV (f := sX8_thrown) 0 0 603072 7190634 (cc + 1) (ss + 6) rfl rfl rfl (Nat.add_zero _) (Nat.add_zero _) (hb1 _ (by decide)) (hb2 _ (by decide)) rfl (m_thrown μ2)) ?_
  refine fE_pos (e9) 2 (fun _ => rfl) ?_
  refine fE_ite 2 (fun _ => rfl) (fun k0 => ?_) (fun k0 => ?_)
  · skip
    refine fE_pos (lcz (e40 k0)) 7 (fun _ => rfl) ?_
    refine fE_step (y := fun zz => frun _ _ zz 3003 [kR 50 0 0, kR 7 0 0, kR 8 0 0, kR 40 0 0, kR 41 0 0, kN i, some (vI k), some (vI b), z8] [] _ (cc + 1) (ss + 6)) 1 (fun _ => rfl) ?_
    exact R
  · skip
    refine fE_step (y := fun zz => frun _ _ zz 3003 [kR 50 0 0, kR 7 0 0, kR 8 0 0, kR 40 0 0, kR 41 0 0, kN i, some (vI k), some (vI b), z8] [] _ (cc + 1) (ss + 6)) 1 (fun _ => rfl) ?_
    exact R
theorem l_39 : LCase 39 := fun X u i cc ss S μ z6 z7 z8 I hu hi hX hcc hss => by
  have hb1 : ∀ x, x ≤ 60 → cc + x ≤ 603072 := fun x hx => by omega
  have hb2 : ∀ x, x ≤ 12000 → ss + x ≤ 7190634 := fun x hx => by omega
  have ab1 : ∀ x, x ≤ 60 → cc + x ≤ cc + 60 := fun x hx => Nat.add_le_add_left hx cc
  have ab2 : ∀ x, x ≤ 12000 → ss + x ≤ ss + 12000 := fun x hx => Nat.add_le_add_left hx ss
  have rd1 : ¬ (nI i + 1 < 0 ∨ X.1 ≤ (nI i + 1).toNatClampNeg) := g_in (k := i + 1) (nI_1 i) (by omega) (by omega)
  have rd2 : ¬ (nI i + 2 < 0 ∨ X.1 ≤ (nI i + 2).toNatClampNeg) := g_in (k := i + 2) (by rw [fLit, nI_add]) (by omega) (by omega)
  have rd3 : ¬ (nI i + 3 < 0 ∨ X.1 ≤ (nI i + 3).toNatClampNeg) := g_in (k := i + 3) (by rw [fLit, nI_add]) (by omega) (by omega)
  obtain ⟨v, μ1, μ2, w, m, J⟩ := s_bestDelivery I
  refine ⟨S, μ2, z6, z7, z8, cc, ss, J.up (by omega) hu, Nat.le_add_right _ _, Nat.le_add_right _ _, fun res R => ?_⟩
  refine fE_step (y := fun zz => frun _ _ zz 2409 [kR 50 0 0, kR 7 0 0, kR 8 0 0, kR 40 0 0, kR 41 0 0, kN i, z6, z7, z8] [vR 7 0 0] _ cc ss) 2 (fun _ => rfl) ?_
  refine fE_step 1 (fun _ => fr_callV (f := sX7_bestDelivery) 0 0 603072 7190634 cc ss rfl rfl rfl (Nat.add_zero _) (Nat.add_zero _) (Nat.le_trans (Nat.le_add_right _ _) hcc) (Nat.le_trans (Nat.le_add_right _ _) hss) rfl w) ?_
  refine fE_step (y := fun zz => frun _ _ zz 2413 [kR 50 0 0, kR 7 0 0, kR 8 0 0, kR 40 0 0, kR 41 0 0, kN i, z6, z7, z8] [vR 8 0 0, vI v] _ cc ss) 1 (fun _ => rfl) ?_
  refine fE_step 1 (fun _ => fr_callV (f := sX8_bestDelivery) 0 0 603072 7190634 cc ss rfl rfl rfl (Nat.add_zero _) (Nat.add_zero _) (Nat.le_trans (Nat.le_add_right _ _) hcc) (Nat.le_trans (Nat.le_add_right _ _) hss) rfl m) ?_
  refine fE_pos (rfl) 1 (fun _ => rfl) ?_
  refine fE_step (y := fun zz => frun _ _ zz 3003 [kR 50 0 0, kR 7 0 0, kR 8 0 0, kR 40 0 0, kR 41 0 0, kN i, z6, z7, z8] [] _ cc ss) 0 (fun _ => rfl) ?_
  exact R
theorem l_40 : LCase 40 := fun X u i cc ss S μ z6 z7 z8 I hu hi hX hcc hss => by
  have hb1 : ∀ x, x ≤ 60 → cc + x ≤ 603072 := fun x hx => by omega
  have hb2 : ∀ x, x ≤ 12000 → ss + x ≤ 7190634 := fun x hx => by omega
  have ab1 : ∀ x, x ≤ 60 → cc + x ≤ cc + 60 := fun x hx => Nat.add_le_add_left hx cc
  have ab2 : ∀ x, x ≤ 12000 → ss + x ≤ ss + 12000 := fun x hx => Nat.add_le_add_left hx ss
  have rd1 : ¬ (nI i + 1 < 0 ∨ X.1 ≤ (nI i + 1).toNatClampNeg) := g_in (k := i + 1) (nI_1 i) (by omega) (by omega)
  have rd2 : ¬ (nI i + 2 < 0 ∨ X.1 ≤ (nI i + 2).toNatClampNeg) := g_in (k := i + 2) (by rw [fLit, nI_add]) (by omega) (by omega)
  have rd3 : ¬ (nI i + 3 < 0 ∨ X.1 ≤ (nI i + 3).toNatClampNeg) := g_in (k := i + 3) (by rw [fLit, nI_add]) (by omega) (by omega)
  obtain ⟨v, μ1, μ2, w, m, J⟩ := s_paidCoins I
  refine ⟨S, μ2, z6, z7, z8, cc, ss, J.up (by omega) hu, Nat.le_add_right _ _, Nat.le_add_right _ _, fun res R => ?_⟩
  refine fE_step (y := fun zz => frun _ _ zz 2422 [kR 50 0 0, kR 7 0 0, kR 8 0 0, kR 40 0 0, kR 41 0 0, kN i, z6, z7, z8] [vR 7 0 0] _ cc ss) 2 (fun _ => rfl) ?_
  refine fE_step 1 (fun _ => fr_callV (f := sX7_paidCoins) 0 0 603072 7190634 cc ss rfl rfl rfl (Nat.add_zero _) (Nat.add_zero _) (Nat.le_trans (Nat.le_add_right _ _) hcc) (Nat.le_trans (Nat.le_add_right _ _) hss) rfl w) ?_
  refine fE_step (y := fun zz => frun _ _ zz 2426 [kR 50 0 0, kR 7 0 0, kR 8 0 0, kR 40 0 0, kR 41 0 0, kN i, z6, z7, z8] [vR 8 0 0, vL v] _ cc ss) 1 (fun _ => rfl) ?_
  refine fE_step 1 (fun _ => fr_callV (f := sX8_paidCoins) 0 0 603072 7190634 cc ss rfl rfl rfl (Nat.add_zero _) (Nat.add_zero _) (Nat.le_trans (Nat.le_add_right _ _) hcc) (Nat.le_trans (Nat.le_add_right _ _) hss) rfl m) ?_
  refine fE_pos (lcz rfl) 2 (fun _ => rfl) ?_
  refine fE_step (y := fun zz => frun _ _ zz 3003 [kR 50 0 0, kR 7 0 0, kR 8 0 0, kR 40 0 0, kR 41 0 0, kN i, z6, z7, z8] [] _ cc ss) 0 (fun _ => rfl) ?_
  exact R
theorem l_41 : LCase 41 := fun X u i cc ss S μ z6 z7 z8 I hu hi hX hcc hss => by
  have hb1 : ∀ x, x ≤ 60 → cc + x ≤ 603072 := fun x hx => by omega
  have hb2 : ∀ x, x ≤ 12000 → ss + x ≤ 7190634 := fun x hx => by omega
  have ab1 : ∀ x, x ≤ 60 → cc + x ≤ cc + 60 := fun x hx => Nat.add_le_add_left hx cc
  have ab2 : ∀ x, x ≤ 12000 → ss + x ≤ ss + 12000 := fun x hx => Nat.add_le_add_left hx ss
  have rd1 : ¬ (nI i + 1 < 0 ∨ X.1 ≤ (nI i + 1).toNatClampNeg) := g_in (k := i + 1) (nI_1 i) (by omega) (by omega)
  have rd2 : ¬ (nI i + 2 < 0 ∨ X.1 ≤ (nI i + 2).toNatClampNeg) := g_in (k := i + 2) (by rw [fLit, nI_add]) (by omega) (by omega)
  have rd3 : ¬ (nI i + 3 < 0 ∨ X.1 ≤ (nI i + 3).toNatClampNeg) := g_in (k := i + 3) (by rw [fLit, nI_add]) (by omega) (by omega)
  obtain ⟨k, b, μ1, μ2, w, m, e9, e40, J⟩ := s_hullsIn I (X.2 (nI i + 1).toNatClampNeg)
  refine ⟨S, μ2, some (vI k), some (vI b), z8, (cc + 1), (ss + 6), J.up (by omega) hu, ab1 _ (by decide), ab2 _ (by decide), fun res R => ?_⟩
  refine fE_pos (rd1) 7 (fun _ => rfl) ?_
  refine fE_step (y := fun zz => frun _ _ zz 2443 [kR 50 0 0, kR 7 0 0, kR 8 0 0, kR 40 0 0, kR 41 0 0, kN i, z6, z7, z8] [vR 40 0 0, vI (X.2 (nI i + 1).toNatClampNeg), vR 7 0 0] _ cc ss) 1 (fun _ => rfl) ?_
  refine fE_step 1 (fun _ => fr_callS (f := sL_hullsIn) 1 6 603072 7190634 (cc + 1) (ss + 6) rfl rfl rfl rfl rfl (hb1 _ (by decide)) (hb2 _ (by decide)) rfl w) ?_
  refine fE_pos (rd1) 7 (fun _ => rfl) ?_
  refine fE_step (y := fun zz => frun _ _ zz 2455 [kR 50 0 0, kR 7 0 0, kR 8 0 0, kR 40 0 0, kR 41 0 0, kN i, some (vI k), z7, z8] [vI (X.2 (nI i + 1).toNatClampNeg), vR 8 0 0] _ (cc + 1) (ss + 6)) 0 (fun _ => rfl) ?_
  refine fE_step 1 (fun _ => fr_callV (f := sX8_hullsIn) 0 0 603072 7190634 (cc + 1) (ss + 6) rfl rfl rfl (Nat.add_zero _) (Nat.add_zero _) (hb1 _ (by decide)) (hb2 _ (by decide)) rfl m) ?_
  refine fE_step (y := fun zz => frun _ _ zz 2461 [kR 50 0 0, kR 7 0 0, kR 8 0 0, kR 40 0 0, kR 41 0 0, kN i, some (vI k), some (vI b), z8] [vR 8 0 0] _ (cc + 1) (ss + 6)) 2 (fun _ => rfl) ?_
  refine fE_step 1 (fun _ => fr_callV (f := sX8_thrown) 0 0 603072 7190634 (cc + 1) (ss + 6) rfl rfl rfl (Nat.add_zero _) (Nat.add_zero _) (hb1 _ (by decide)) (hb2 _ (by decide)) rfl (m_thrown μ2)) ?_
  refine fE_pos (e9) 2 (fun _ => rfl) ?_
  refine fE_ite 2 (fun _ => rfl) (fun k0 => ?_) (fun k0 => ?_)
  · skip
    refine fE_pos (lcz (e40 k0)) 7 (fun _ => rfl) ?_
    refine fE_step (y := fun zz => frun _ _ zz 3003 [kR 50 0 0, kR 7 0 0, kR 8 0 0, kR 40 0 0, kR 41 0 0, kN i, some (vI k), some (vI b), z8] [] _ (cc + 1) (ss + 6)) 1 (fun _ => rfl) ?_
    exact R
  · skip
    refine fE_step (y := fun zz => frun _ _ zz 3003 [kR 50 0 0, kR 7 0 0, kR 8 0 0, kR 40 0 0, kR 41 0 0, kN i, some (vI k), some (vI b), z8] [] _ (cc + 1) (ss + 6)) 1 (fun _ => rfl) ?_
    exact R
