theorem l_42 : LCase 42 := fun X u i cc ss S μ z6 z7 z8 I hu hi hX hcc hss => by
  have hb1 : ∀ x, x ≤ 60 → cc + x ≤ 603072 := fun x hx => by omega
  have hb2 : ∀ x, x ≤ 12000 → ss + x ≤ 7190634 := fun x hx => by omega
  have ab1 : ∀ x, x ≤ 60 → cc + x ≤ cc + 60 := fun x hx => Nat.add_le_add_left hx cc
  have ab2 : ∀ x, x ≤ 12000 → ss + x ≤ ss + 12000 := fun x hx => Nat.add_le_add_left hx ss
  have rd1 : ¬ (nI i + 1 < 0 ∨ X.1 ≤ (nI i + 1).toNatClampNeg) := g_in (k := i + 1) (nI_1 i) (by omega) (by omega)
  have rd2 : ¬ (nI i + 2 < 0 ∨ X.1 ≤ (nI i + 2).toNatClampNeg) := g_in (k := i + 2) (by rw [fLit, nI_add]) (by omega) (by omega)
  have rd3 : ¬ (nI i + 3 < 0 ∨ X.1 ≤ (nI i + 3).toNatClampNeg) := g_in (k := i + 3) (by rw [fLit, nI_add]) (by omega) (by omega)
  obtain ⟨k, b, μ1, μ2, w, m, e9, e40, J⟩ := s_refusalReason I
  refine ⟨S, μ2, some (vI k), some (vI b), z8, (cc + 1), (ss + 6), J.up (by omega) hu, ab1 _ (by decide), ab2 _ (by decide), fun res R => ?_⟩
  refine fE_step (y := fun zz => frun _ _ zz 2493 [kR 50 0 0, kR 7 0 0, kR 8 0 0, kR 40 0 0, kR 41 0 0, kN i, z6, z7, z8] [vR 40 0 0, vR 7 0 0] _ cc ss) 3 (fun _ => rfl) ?_
  refine fE_step 1 (fun _ => fr_callS (f := sL_refusalReason) 1 6 603072 7190634 (cc + 1) (ss + 6) rfl rfl rfl rfl rfl (hb1 _ (by decide)) (hb2 _ (by decide)) rfl w) ?_
  refine fE_step (y := fun zz => frun _ _ zz 2499 [kR 50 0 0, kR 7 0 0, kR 8 0 0, kR 40 0 0, kR 41 0 0, kN i, some (vI k), z7, z8] [vR 8 0 0] _ (cc + 1) (ss + 6)) 2 (fun _ => rfl) ?_
  refine fE_step 1 (fun _ => fr_callV (f := sX8_refusalReason) 0 0 603072 7190634 (cc + 1) (ss + 6) rfl rfl rfl (Nat.add_zero _) (Nat.add_zero _) (hb1 _ (by decide)) (hb2 _ (by decide)) rfl m) ?_
  refine fE_step (y := fun zz => frun _ _ zz 2505 [kR 50 0 0, kR 7 0 0, kR 8 0 0, kR 40 0 0, kR 41 0 0, kN i, some (vI k), some (vI b), z8] [vR 8 0 0] _ (cc + 1) (ss + 6)) 2 (fun _ => rfl) ?_
  refine fE_step 1 (fun _ => fr_callV (f := sX8_thrown) 0 0 603072 7190634 (cc + 1) (ss + 6) rfl rfl rfl (Nat.add_zero _) (Nat.add_zero _) (hb1 _ (by decide)) (hb2 _ (by decide)) rfl (m_thrown μ2)) ?_
  refine fE_pos (e9) 2 (fun _ => rfl) ?_
  refine fE_ite 2 (fun _ => rfl) (fun k0 => ?_) (fun k0 => ?_)
  · skip
    refine fE_pos (lcz (e40 k0)) 7 (fun _ => rfl) ?_
    refine fE_step (y := fun zz => frun _ _ zz 3003 [kR 50 0 0, kR 7 0 0, kR 8 0 0, kR 40 0 0, kR 41 0 0, kN i, some (vI k), some (vI b), z8] [] _ (cc + 1) (ss + 6)) 1 (fun _ => rfl) ?_
    exact R
  · skip
    refine fE_step (y := fun zz => frun _ _ zz 3003 [kR 50 0 0, kR 7 0 0, kR 8 0 0, kR 40 0 0, kR 41 0 0, kN i, some (vI k), some (vI b), z8] [] _ (cc + 1) (ss + 6)) 1 (fun _ => rfl) ?_
    exact R
theorem l_43 : LCase 43 := fun X u i cc ss S μ z6 z7 z8 I hu hi hX hcc hss => by
  have hb1 : ∀ x, x ≤ 60 → cc + x ≤ 603072 := fun x hx => by omega
  have hb2 : ∀ x, x ≤ 12000 → ss + x ≤ 7190634 := fun x hx => by omega
  have ab1 : ∀ x, x ≤ 60 → cc + x ≤ cc + 60 := fun x hx => Nat.add_le_add_left hx cc
  have ab2 : ∀ x, x ≤ 12000 → ss + x ≤ ss + 12000 := fun x hx => Nat.add_le_add_left hx ss
  have rd1 : ¬ (nI i + 1 < 0 ∨ X.1 ≤ (nI i + 1).toNatClampNeg) := g_in (k := i + 1) (nI_1 i) (by omega) (by omega)
  have rd2 : ¬ (nI i + 2 < 0 ∨ X.1 ≤ (nI i + 2).toNatClampNeg) := g_in (k := i + 2) (by rw [fLit, nI_add]) (by omega) (by omega)
  have rd3 : ¬ (nI i + 3 < 0 ∨ X.1 ≤ (nI i + 3).toNatClampNeg) := g_in (k := i + 3) (by rw [fLit, nI_add]) (by omega) (by omega)
  obtain ⟨k, b, μ1, μ2, w, m, e9, e40, J⟩ := s_meanWeight I
  refine ⟨S, μ2, some (vI k), some (vD b), none, (cc + 1), (ss + 6), J.up (by omega) hu, ab1 _ (by decide), ab2 _ (by decide), fun res R => ?_⟩
  refine fE_step (y := fun zz => frun _ _ zz 2538 [kR 50 0 0, kR 7 0 0, kR 8 0 0, kR 40 0 0, kR 41 0 0, kN i, z6, z7, z8] [vR 41 0 0, vR 7 0 0] _ cc ss) 3 (fun _ => rfl) ?_
  refine fE_step 1 (fun _ => fr_callS (f := sL_meanWeight) 1 6 603072 7190634 (cc + 1) (ss + 6) rfl rfl rfl rfl rfl (hb1 _ (by decide)) (hb2 _ (by decide)) rfl w) ?_
  refine fE_step (y := fun zz => frun _ _ zz 2544 [kR 50 0 0, kR 7 0 0, kR 8 0 0, kR 40 0 0, kR 41 0 0, kN i, some (vI k), z7, z8] [vR 8 0 0] _ (cc + 1) (ss + 6)) 2 (fun _ => rfl) ?_
  refine fE_step 1 (fun _ => fr_callV (f := sX8_meanWeight) 0 0 603072 7190634 (cc + 1) (ss + 6) rfl rfl rfl (Nat.add_zero _) (Nat.add_zero _) (hb1 _ (by decide)) (hb2 _ (by decide)) rfl m) ?_
  refine fE_step (y := fun zz => frun _ _ zz 2550 [kR 50 0 0, kR 7 0 0, kR 8 0 0, kR 40 0 0, kR 41 0 0, kN i, some (vI k), some (vD b), none] [vR 8 0 0] _ (cc + 1) (ss + 6)) 2 (fun _ => rfl) ?_
  refine fE_step 1 (fun _ => fr_callV (f := sX8_thrown) 0 0 603072 7190634 (cc + 1) (ss + 6) rfl rfl rfl (Nat.add_zero _) (Nat.add_zero _) (hb1 _ (by decide)) (hb2 _ (by decide)) rfl (m_thrown μ2)) ?_
  refine fE_pos (e9) 2 (fun _ => rfl) ?_
  refine fE_ite 2 (fun _ => rfl) (fun k0 => ?_) (fun k0 => ?_)
  · skip
    have e41 := e40 k0
    subst e41
    refine fE_ite 6 (fun _ => rfl) (fun q => ?_) (fun q => ?_)
    · skip
      refine fE_step (y := fun zz => frun _ _ zz 3003 [kR 50 0 0, kR 7 0 0, kR 8 0 0, kR 40 0 0, kR 41 0 0, kN i, some (vI k), some (vD _), none] [] _ (cc + 1) (ss + 6)) 1 (fun _ => rfl) ?_
      exact R
    · skip
      refine fE_neg (q) 8 (fun _ => rfl) ?_
      refine fE_neg (q) 4 (fun _ => rfl) ?_
      refine fE_step (y := fun zz => frun _ _ zz 3003 [kR 50 0 0, kR 7 0 0, kR 8 0 0, kR 40 0 0, kR 41 0 0, kN i, some (vI k), some (vD _), none] [] _ (cc + 1) (ss + 6)) 1 (fun _ => rfl) ?_
      exact R
  · skip
    refine fE_step (y := fun zz => frun _ _ zz 3003 [kR 50 0 0, kR 7 0 0, kR 8 0 0, kR 40 0 0, kR 41 0 0, kN i, some (vI k), some (vD b), none] [] _ (cc + 1) (ss + 6)) 1 (fun _ => rfl) ?_
    exact R
theorem l_44 : LCase 44 := fun X u i cc ss S μ z6 z7 z8 I hu hi hX hcc hss => by
  have hb1 : ∀ x, x ≤ 60 → cc + x ≤ 603072 := fun x hx => by omega
  have hb2 : ∀ x, x ≤ 12000 → ss + x ≤ 7190634 := fun x hx => by omega
  have ab1 : ∀ x, x ≤ 60 → cc + x ≤ cc + 60 := fun x hx => Nat.add_le_add_left hx cc
  have ab2 : ∀ x, x ≤ 12000 → ss + x ≤ ss + 12000 := fun x hx => Nat.add_le_add_left hx ss
  have rd1 : ¬ (nI i + 1 < 0 ∨ X.1 ≤ (nI i + 1).toNatClampNeg) := g_in (k := i + 1) (nI_1 i) (by omega) (by omega)
  have rd2 : ¬ (nI i + 2 < 0 ∨ X.1 ≤ (nI i + 2).toNatClampNeg) := g_in (k := i + 2) (by rw [fLit, nI_add]) (by omega) (by omega)
  have rd3 : ¬ (nI i + 3 < 0 ∨ X.1 ≤ (nI i + 3).toNatClampNeg) := g_in (k := i + 3) (by rw [fLit, nI_add]) (by omega) (by omega)
  obtain ⟨S', k, b, μ1, μ2, w, m, e9, e40, J⟩ := s_writeHull I (X.2 (nI i + 1).toNatClampNeg)
  refine ⟨S', μ2, some (vI k), some (vI b), z8, (cc + 60), (ss + 12000), J.up (by omega) hu, ab1 _ (by decide), ab2 _ (by decide), fun res R => ?_⟩
  refine fE_pos (rd1) 7 (fun _ => rfl) ?_
  refine fE_step (y := fun zz => frun _ _ zz 2608 [kR 50 0 0, kR 7 0 0, kR 8 0 0, kR 40 0 0, kR 41 0 0, kN i, z6, z7, z8] [vR 40 0 0, vI (X.2 (nI i + 1).toNatClampNeg), vR 7 0 0] _ cc ss) 1 (fun _ => rfl) ?_
  refine fE_step 1 (fun _ => fr_callS (f := sL_writeHull) 60 12000 603072 7190634 (cc + 60) (ss + 12000) rfl rfl rfl rfl rfl (hb1 _ (by decide)) (hb2 _ (by decide)) rfl w) ?_
  refine fE_pos (rd1) 7 (fun _ => rfl) ?_
  refine fE_step (y := fun zz => frun _ _ zz 2620 [kR 50 0 0, kR 7 0 0, kR 8 0 0, kR 40 0 0, kR 41 0 0, kN i, some (vI k), z7, z8] [vI (X.2 (nI i + 1).toNatClampNeg), vR 8 0 0] _ (cc + 60) (ss + 12000)) 0 (fun _ => rfl) ?_
  refine fE_step 1 (fun _ => fr_callV (f := sX8_writeHull) 0 0 603072 7190634 (cc + 60) (ss + 12000) rfl rfl rfl (Nat.add_zero _) (Nat.add_zero _) (hb1 _ (by decide)) (hb2 _ (by decide)) rfl m) ?_
  refine fE_step (y := fun zz => frun _ _ zz 2626 [kR 50 0 0, kR 7 0 0, kR 8 0 0, kR 40 0 0, kR 41 0 0, kN i, some (vI k), some (vI b), z8] [vR 8 0 0] _ (cc + 60) (ss + 12000)) 2 (fun _ => rfl) ?_
  refine fE_step 1 (fun _ => fr_callV (f := sX8_thrown) 0 0 603072 7190634 (cc + 60) (ss + 12000) rfl rfl rfl (Nat.add_zero _) (Nat.add_zero _) (hb1 _ (by decide)) (hb2 _ (by decide)) rfl (m_thrown μ2)) ?_
  refine fE_pos (e9) 2 (fun _ => rfl) ?_
  refine fE_ite 2 (fun _ => rfl) (fun k0 => ?_) (fun k0 => ?_)
  · skip
    refine fE_pos (lcz (e40 k0)) 7 (fun _ => rfl) ?_
    refine fE_step (y := fun zz => frun _ _ zz 3003 [kR 50 0 0, kR 7 0 0, kR 8 0 0, kR 40 0 0, kR 41 0 0, kN i, some (vI k), some (vI b), z8] [] _ (cc + 60) (ss + 12000)) 1 (fun _ => rfl) ?_
    exact R
  · skip
    refine fE_step (y := fun zz => frun _ _ zz 3003 [kR 50 0 0, kR 7 0 0, kR 8 0 0, kR 40 0 0, kR 41 0 0, kN i, some (vI k), some (vI b), z8] [] _ (cc + 60) (ss + 12000)) 1 (fun _ => rfl) ?_
    exact R
theorem l_45 : LCase 45 := fun X u i cc ss S μ z6 z7 z8 I hu hi hX hcc hss => by
  have hb1 : ∀ x, x ≤ 60 → cc + x ≤ 603072 := fun x hx => by omega
  have hb2 : ∀ x, x ≤ 12000 → ss + x ≤ 7190634 := fun x hx => by omega
  have ab1 : ∀ x, x ≤ 60 → cc + x ≤ cc + 60 := fun x hx => Nat.add_le_add_left hx cc
  have ab2 : ∀ x, x ≤ 12000 → ss + x ≤ ss + 12000 := fun x hx => Nat.add_le_add_left hx ss
  have rd1 : ¬ (nI i + 1 < 0 ∨ X.1 ≤ (nI i + 1).toNatClampNeg) := g_in (k := i + 1) (nI_1 i) (by omega) (by omega)
  have rd2 : ¬ (nI i + 2 < 0 ∨ X.1 ≤ (nI i + 2).toNatClampNeg) := g_in (k := i + 2) (by rw [fLit, nI_add]) (by omega) (by omega)
  have rd3 : ¬ (nI i + 3 < 0 ∨ X.1 ≤ (nI i + 3).toNatClampNeg) := g_in (k := i + 3) (by rw [fLit, nI_add]) (by omega) (by omega)
  obtain ⟨k, b, μ1, μ2, w, m, e9, e40, J⟩ := s_lineAt I (X.2 (nI i + 1).toNatClampNeg)
  refine ⟨S, μ2, some (vI k), some (vI b), z8, (cc + 1), (ss + 6), J.up (by omega) hu, ab1 _ (by decide), ab2 _ (by decide), fun res R => ?_⟩
  refine fE_pos (rd1) 7 (fun _ => rfl) ?_
  refine fE_step (y := fun zz => frun _ _ zz 2664 [kR 50 0 0, kR 7 0 0, kR 8 0 0, kR 40 0 0, kR 41 0 0, kN i, z6, z7, z8] [vR 40 0 0, vI (X.2 (nI i + 1).toNatClampNeg), vR 7 0 0] _ cc ss) 1 (fun _ => rfl) ?_
  refine fE_step 1 (fun _ => fr_callS (f := sL_lineAt) 1 6 603072 7190634 (cc + 1) (ss + 6) rfl rfl rfl rfl rfl (hb1 _ (by decide)) (hb2 _ (by decide)) rfl w) ?_
  refine fE_pos (rd1) 7 (fun _ => rfl) ?_
  refine fE_step (y := fun zz => frun _ _ zz 2676 [kR 50 0 0, kR 7 0 0, kR 8 0 0, kR 40 0 0, kR 41 0 0, kN i, some (vI k), z7, z8] [vI (X.2 (nI i + 1).toNatClampNeg), vR 8 0 0] _ (cc + 1) (ss + 6)) 0 (fun _ => rfl) ?_
  refine fE_step 1 (fun _ => fr_callV (f := sX8_lineAt) 0 0 603072 7190634 (cc + 1) (ss + 6) rfl rfl rfl (Nat.add_zero _) (Nat.add_zero _) (hb1 _ (by decide)) (hb2 _ (by decide)) rfl m) ?_
  refine fE_step (y := fun zz => frun _ _ zz 2682 [kR 50 0 0, kR 7 0 0, kR 8 0 0, kR 40 0 0, kR 41 0 0, kN i, some (vI k), some (vI b), z8] [vR 8 0 0] _ (cc + 1) (ss + 6)) 2 (fun _ => rfl) ?_
  refine fE_step 1 (fun _ => fr_callV (f := sX8_thrown) 0 0 603072 7190634 (cc + 1) (ss + 6) rfl rfl rfl (Nat.add_zero _) (Nat.add_zero _) (hb1 _ (by decide)) (hb2 _ (by decide)) rfl (m_thrown μ2)) ?_
  refine fE_pos (e9) 2 (fun _ => rfl) ?_
  refine fE_ite 2 (fun _ => rfl) (fun k0 => ?_) (fun k0 => ?_)
  · skip
    refine fE_pos (lcz (e40 k0)) 7 (fun _ => rfl) ?_
    refine fE_step (y := fun zz => frun _ _ zz 3003 [kR 50 0 0, kR 7 0 0, kR 8 0 0, kR 40 0 0, kR 41 0 0, kN i, some (vI k), some (vI b), z8] [] _ (cc + 1) (ss + 6)) 1 (fun _ => rfl) ?_
    exact R
  · skip
    refine fE_step (y := fun zz => frun _ _ zz 3003 [kR 50 0 0, kR 7 0 0, kR 8 0 0, kR 40 0 0, kR 41 0 0, kN i, some (vI k), some (vI b), z8] [] _ (cc + 1) (ss + 6)) 1 (fun _ => rfl) ?_
    exact R
theorem l_46 : LCase 46 := fun X u i cc ss S μ z6 z7 z8 I hu hi hX hcc hss => by
  have hb1 : ∀ x, x ≤ 60 → cc + x ≤ 603072 := fun x hx => by omega
  have hb2 : ∀ x, x ≤ 12000 → ss + x ≤ 7190634 := fun x hx => by omega
  have ab1 : ∀ x, x ≤ 60 → cc + x ≤ cc + 60 := fun x hx => Nat.add_le_add_left hx cc
  have ab2 : ∀ x, x ≤ 12000 → ss + x ≤ ss + 12000 := fun x hx => Nat.add_le_add_left hx ss
  have rd1 : ¬ (nI i + 1 < 0 ∨ X.1 ≤ (nI i + 1).toNatClampNeg) := g_in (k := i + 1) (nI_1 i) (by omega) (by omega)
  have rd2 : ¬ (nI i + 2 < 0 ∨ X.1 ≤ (nI i + 2).toNatClampNeg) := g_in (k := i + 2) (by rw [fLit, nI_add]) (by omega) (by omega)
  have rd3 : ¬ (nI i + 3 < 0 ∨ X.1 ≤ (nI i + 3).toNatClampNeg) := g_in (k := i + 3) (by rw [fLit, nI_add]) (by omega) (by omega)
  obtain ⟨S', k, b, μ1, μ2, w, m, e9, e40, J⟩ := s_type I (((X.2 (nI i + 1).toNatClampNeg).toUInt32 % 65536).toInt32) (nar_i2c _)
  refine ⟨S', μ2, some (vI k), some (vI b), z8, (cc + 1), (ss + 6), J.up (by omega) hu, ab1 _ (by decide), ab2 _ (by decide), fun res R => ?_⟩
  refine fE_pos (rd1) 7 (fun _ => rfl) ?_
  refine fE_step (y := fun zz => frun _ _ zz 2721 [kR 50 0 0, kR 7 0 0, kR 8 0 0, kR 40 0 0, kR 41 0 0, kN i, z6, z7, z8] [vR 40 0 0, vI (((X.2 (nI i + 1).toNatClampNeg).toUInt32 % 65536).toInt32), vR 7 0 0] _ cc ss) 2 (fun _ => rfl) ?_
  refine fE_step 1 (fun _ => fr_callS (f := sL_type) 1 6 603072 7190634 (cc + 1) (ss + 6) rfl rfl rfl rfl rfl (hb1 _ (by decide)) (hb2 _ (by decide)) rfl w) ?_
  refine fE_pos (rd1) 7 (fun _ => rfl) ?_
  refine fE_step (y := fun zz => frun _ _ zz 2734 [kR 50 0 0, kR 7 0 0, kR 8 0 0, kR 40 0 0, kR 41 0 0, kN i, some (vI k), z7, z8] [vI (((X.2 (nI i + 1).toNatClampNeg).toUInt32 % 65536).toInt32), vR 8 0 0] _ (cc + 1) (ss + 6)) 1 (fun _ => rfl) ?_
  refine fE_step 1 (fun _ => fr_callV (f := sX8_type) 0 0 603072 7190634 (cc + 1) (ss + 6) rfl rfl rfl (Nat.add_zero _) (Nat.add_zero _) (hb1 _ (by decide)) (hb2 _ (by decide)) rfl m) ?_
  refine fE_step (y := fun zz => frun _ _ zz 2740 [kR 50 0 0, kR 7 0 0, kR 8 0 0, kR 40 0 0, kR 41 0 0, kN i, some (vI k), some (vI b), z8] [vR 8 0 0] _ (cc + 1) (ss + 6)) 2 (fun _ => rfl) ?_
  refine fE_step 1 (fun _ => fr_callV (f := sX8_thrown) 0 0 603072 7190634 (cc + 1) (ss + 6) rfl rfl rfl (Nat.add_zero _) (Nat.add_zero _) (hb1 _ (by decide)) (hb2 _ (by decide)) rfl (m_thrown μ2)) ?_
  refine fE_pos (e9) 2 (fun _ => rfl) ?_
  refine fE_ite 2 (fun _ => rfl) (fun k0 => ?_) (fun k0 => ?_)
  · skip
    refine fE_pos (lcz (e40 k0)) 7 (fun _ => rfl) ?_
    refine fE_step (y := fun zz => frun _ _ zz 3003 [kR 50 0 0, kR 7 0 0, kR 8 0 0, kR 40 0 0, kR 41 0 0, kN i, some (vI k), some (vI b), z8] [] _ (cc + 1) (ss + 6)) 1 (fun _ => rfl) ?_
    exact R
  · skip
    refine fE_step (y := fun zz => frun _ _ zz 3003 [kR 50 0 0, kR 7 0 0, kR 8 0 0, kR 40 0 0, kR 41 0 0, kN i, some (vI k), some (vI b), z8] [] _ (cc + 1) (ss + 6)) 1 (fun _ => rfl) ?_
    exact R
theorem l_47 : LCase 47 := fun X u i cc ss S μ z6 z7 z8 I hu hi hX hcc hss => by
  have hb1 : ∀ x, x ≤ 60 → cc + x ≤ 603072 := fun x hx => by omega
  have hb2 : ∀ x, x ≤ 12000 → ss + x ≤ 7190634 := fun x hx => by omega
  have ab1 : ∀ x, x ≤ 60 → cc + x ≤ cc + 60 := fun x hx => Nat.add_le_add_left hx cc
  have ab2 : ∀ x, x ≤ 12000 → ss + x ≤ ss + 12000 := fun x hx => Nat.add_le_add_left hx ss
  have rd1 : ¬ (nI i + 1 < 0 ∨ X.1 ≤ (nI i + 1).toNatClampNeg) := g_in (k := i + 1) (nI_1 i) (by omega) (by omega)
  have rd2 : ¬ (nI i + 2 < 0 ∨ X.1 ≤ (nI i + 2).toNatClampNeg) := g_in (k := i + 2) (by rw [fLit, nI_add]) (by omega) (by omega)
  have rd3 : ¬ (nI i + 3 < 0 ∨ X.1 ≤ (nI i + 3).toNatClampNeg) := g_in (k := i + 3) (by rw [fLit, nI_add]) (by omega) (by omega)
  obtain ⟨S', k, b, μ1, μ2, w, m, e9, e40, J⟩ := s_execute I hu
  refine ⟨S', μ2, some (vI k), some (vI b), z8, (cc + 1), (ss + 6), J, ab1 _ (by decide), ab2 _ (by decide), fun res R => ?_⟩
  refine fE_step (y := fun zz => frun _ _ zz 2772 [kR 50 0 0, kR 7 0 0, kR 8 0 0, kR 40 0 0, kR 41 0 0, kN i, z6, z7, z8] [vR 40 0 0, vR 7 0 0] _ cc ss) 3 (fun _ => rfl) ?_
  refine fE_step 1 (fun _ => fr_callS (f := sL_execute) 1 6 603072 7190634 (cc + 1) (ss + 6) rfl rfl rfl rfl rfl (hb1 _ (by decide)) (hb2 _ (by decide)) rfl w) ?_
  refine fE_step (y := fun zz => frun _ _ zz 2778 [kR 50 0 0, kR 7 0 0, kR 8 0 0, kR 40 0 0, kR 41 0 0, kN i, some (vI k), z7, z8] [vR 8 0 0] _ (cc + 1) (ss + 6)) 2 (fun _ => rfl) ?_
  refine fE_step 1 (fun _ => fr_callV (f := sX8_execute) 0 0 603072 7190634 (cc + 1) (ss + 6) rfl rfl rfl (Nat.add_zero _) (Nat.add_zero _) (hb1 _ (by decide)) (hb2 _ (by decide)) rfl m) ?_
  refine fE_step (y := fun zz => frun _ _ zz 2784 [kR 50 0 0, kR 7 0 0, kR 8 0 0, kR 40 0 0, kR 41 0 0, kN i, some (vI k), some (vI b), z8] [vR 8 0 0] _ (cc + 1) (ss + 6)) 2 (fun _ => rfl) ?_
  refine fE_step 1 (fun _ => fr_callV (f := sX8_thrown) 0 0 603072 7190634 (cc + 1) (ss + 6) rfl rfl rfl (Nat.add_zero _) (Nat.add_zero _) (hb1 _ (by decide)) (hb2 _ (by decide)) rfl (m_thrown μ2)) ?_
  refine fE_pos (e9) 2 (fun _ => rfl) ?_
  refine fE_ite 2 (fun _ => rfl) (fun k0 => ?_) (fun k0 => ?_)
  · skip
    refine fE_pos (lcz (e40 k0)) 7 (fun _ => rfl) ?_
    refine fE_step (y := fun zz => frun _ _ zz 3003 [kR 50 0 0, kR 7 0 0, kR 8 0 0, kR 40 0 0, kR 41 0 0, kN i, some (vI k), some (vI b), z8] [] _ (cc + 1) (ss + 6)) 1 (fun _ => rfl) ?_
    exact R
  · skip
    refine fE_step (y := fun zz => frun _ _ zz 3003 [kR 50 0 0, kR 7 0 0, kR 8 0 0, kR 40 0 0, kR 41 0 0, kN i, some (vI k), some (vI b), z8] [] _ (cc + 1) (ss + 6)) 1 (fun _ => rfl) ?_
    exact R
theorem l_48 : LCase 48 := fun X u i cc ss S μ z6 z7 z8 I hu hi hX hcc hss => by
  have hb1 : ∀ x, x ≤ 60 → cc + x ≤ 603072 := fun x hx => by omega
  have hb2 : ∀ x, x ≤ 12000 → ss + x ≤ 7190634 := fun x hx => by omega
  have ab1 : ∀ x, x ≤ 60 → cc + x ≤ cc + 60 := fun x hx => Nat.add_le_add_left hx cc
  have ab2 : ∀ x, x ≤ 12000 → ss + x ≤ ss + 12000 := fun x hx => Nat.add_le_add_left hx ss
  have rd1 : ¬ (nI i + 1 < 0 ∨ X.1 ≤ (nI i + 1).toNatClampNeg) := g_in (k := i + 1) (nI_1 i) (by omega) (by omega)
  have rd2 : ¬ (nI i + 2 < 0 ∨ X.1 ≤ (nI i + 2).toNatClampNeg) := g_in (k := i + 2) (by rw [fLit, nI_add]) (by omega) (by omega)
  have rd3 : ¬ (nI i + 3 < 0 ∨ X.1 ≤ (nI i + 3).toNatClampNeg) := g_in (k := i + 3) (by rw [fLit, nI_add]) (by omega) (by omega)
  obtain ⟨k, b, μ1, μ2, w, m, e9, e40, J⟩ := s_errorPosition I
  refine ⟨S, μ2, some (vI k), some (vI b), z8, (cc + 1), (ss + 6), J.up (by omega) hu, ab1 _ (by decide), ab2 _ (by decide), fun res R => ?_⟩
  refine fE_step (y := fun zz => frun _ _ zz 2816 [kR 50 0 0, kR 7 0 0, kR 8 0 0, kR 40 0 0, kR 41 0 0, kN i, z6, z7, z8] [vR 40 0 0, vR 7 0 0] _ cc ss) 3 (fun _ => rfl) ?_
  refine fE_step 1 (fun _ => fr_callS (f := sL_errorPosition) 1 6 603072 7190634 (cc + 1) (ss + 6) rfl rfl rfl rfl rfl (hb1 _ (by decide)) (hb2 _ (by decide)) rfl w) ?_
  refine fE_step (y := fun zz => frun _ _ zz 2822 [kR 50 0 0, kR 7 0 0, kR 8 0 0, kR 40 0 0, kR 41 0 0, kN i, some (vI k), z7, z8] [vR 8 0 0] _ (cc + 1) (ss + 6)) 2 (fun _ => rfl) ?_
  refine fE_step 1 (fun _ => fr_callV (f := sX8_errorPosition) 0 0 603072 7190634 (cc + 1) (ss + 6) rfl rfl rfl (Nat.add_zero _) (Nat.add_zero _) (hb1 _ (by decide)) (hb2 _ (by decide)) rfl m) ?_
  refine fE_step (y := fun zz => frun _ _ zz 2828 [kR 50 0 0, kR 7 0 0, kR 8 0 0, kR 40 0 0, kR 41 0 0, kN i, some (vI k), some (vI b), z8] [vR 8 0 0] _ (cc + 1) (ss + 6)) 2 (fun _ => rfl) ?_
  refine fE_step 1 (fun _ => fr_callV (f := sX8_thrown) 0 0 603072 7190634 (cc + 1) (ss + 6) rfl rfl rfl (Nat.add_zero _) (Nat.add_zero _) (hb1 _ (by decide)) (hb2 _ (by decide)) rfl (m_thrown μ2)) ?_
  refine fE_pos (e9) 2 (fun _ => rfl) ?_
  refine fE_ite 2 (fun _ => rfl) (fun k0 => ?_) (fun k0 => ?_)
  · skip
    refine fE_pos (lcz (e40 k0)) 7 (fun _ => rfl) ?_
    refine fE_step (y := fun zz => frun _ _ zz 3003 [kR 50 0 0, kR 7 0 0, kR 8 0 0, kR 40 0 0, kR 41 0 0, kN i, some (vI k), some (vI b), z8] [] _ (cc + 1) (ss + 6)) 1 (fun _ => rfl) ?_
    exact R
  · skip
    refine fE_step (y := fun zz => frun _ _ zz 3003 [kR 50 0 0, kR 7 0 0, kR 8 0 0, kR 40 0 0, kR 41 0 0, kN i, some (vI k), some (vI b), z8] [] _ (cc + 1) (ss + 6)) 1 (fun _ => rfl) ?_
    exact R
theorem l_49 : LCase 49 := fun X u i cc ss S μ z6 z7 z8 I hu hi hX hcc hss => by
  have hb1 : ∀ x, x ≤ 60 → cc + x ≤ 603072 := fun x hx => by omega
  have hb2 : ∀ x, x ≤ 12000 → ss + x ≤ 7190634 := fun x hx => by omega
  have ab1 : ∀ x, x ≤ 60 → cc + x ≤ cc + 60 := fun x hx => Nat.add_le_add_left hx cc
  have ab2 : ∀ x, x ≤ 12000 → ss + x ≤ ss + 12000 := fun x hx => Nat.add_le_add_left hx ss
  have rd1 : ¬ (nI i + 1 < 0 ∨ X.1 ≤ (nI i + 1).toNatClampNeg) := g_in (k := i + 1) (nI_1 i) (by omega) (by omega)
  have rd2 : ¬ (nI i + 2 < 0 ∨ X.1 ≤ (nI i + 2).toNatClampNeg) := g_in (k := i + 2) (by rw [fLit, nI_add]) (by omega) (by omega)
  have rd3 : ¬ (nI i + 3 < 0 ∨ X.1 ≤ (nI i + 3).toNatClampNeg) := g_in (k := i + 3) (by rw [fLit, nI_add]) (by omega) (by omega)
  obtain ⟨k, b, μ1, μ2, w, m, e9, e40, J⟩ := s_failedCommand I
  refine ⟨S, μ2, some (vI k), some (vI b), z8, (cc + 1), (ss + 6), J.up (by omega) hu, ab1 _ (by decide), ab2 _ (by decide), fun res R => ?_⟩
  refine fE_step (y := fun zz => frun _ _ zz 2860 [kR 50 0 0, kR 7 0 0, kR 8 0 0, kR 40 0 0, kR 41 0 0, kN i, z6, z7, z8] [vR 40 0 0, vR 7 0 0] _ cc ss) 3 (fun _ => rfl) ?_
  refine fE_step 1 (fun _ => fr_callS (f := sL_failedCommand) 1 6 603072 7190634 (cc + 1) (ss + 6) rfl rfl rfl rfl rfl (hb1 _ (by decide)) (hb2 _ (by decide)) rfl w) ?_
  refine fE_step (y := fun zz => frun _ _ zz 2866 [kR 50 0 0, kR 7 0 0, kR 8 0 0, kR 40 0 0, kR 41 0 0, kN i, some (vI k), z7, z8] [vR 8 0 0] _ (cc + 1) (ss + 6)) 2 (fun _ => rfl) ?_
  refine fE_step 1 (fun _ => fr_callV (f := sX8_failedCommand) 0 0 603072 7190634 (cc + 1) (ss + 6) rfl rfl rfl (Nat.add_zero _) (Nat.add_zero _) (hb1 _ (by decide)) (hb2 _ (by decide)) rfl m) ?_
  refine fE_step (y := fun zz => frun _ _ zz 2872 [kR 50 0 0, kR 7 0 0, kR 8 0 0, kR 40 0 0, kR 41 0 0, kN i, some (vI k), some (vI b), z8] [vR 8 0 0] _ (cc + 1) (ss + 6)) 2 (fun _ => rfl) ?_
  refine fE_step 1 (fun _ => fr_callV (f := sX8_thrown) 0 0 603072 7190634 (cc + 1) (ss + 6) rfl rfl rfl (Nat.add_zero _) (Nat.add_zero _) (hb1 _ (by decide)) (hb2 _ (by decide)) rfl (m_thrown μ2)) ?_
  refine fE_pos (e9) 2 (fun _ => rfl) ?_
  refine fE_ite 2 (fun _ => rfl) (fun k0 => ?_) (fun k0 => ?_)
  · skip
    refine fE_pos (lcz (e40 k0)) 7 (fun _ => rfl) ?_
    refine fE_step (y := fun zz => frun _ _ zz 3003 [kR 50 0 0, kR 7 0 0, kR 8 0 0, kR 40 0 0, kR 41 0 0, kN i, some (vI k), some (vI b), z8] [] _ (cc + 1) (ss + 6)) 1 (fun _ => rfl) ?_
    exact R
  · skip
    refine fE_step (y := fun zz => frun _ _ zz 3003 [kR 50 0 0, kR 7 0 0, kR 8 0 0, kR 40 0 0, kR 41 0 0, kN i, some (vI k), some (vI b), z8] [] _ (cc + 1) (ss + 6)) 1 (fun _ => rfl) ?_
    exact R
theorem l_50 : LCase 50 := fun X u i cc ss S μ z6 z7 z8 I hu hi hX hcc hss => by
  have hb1 : ∀ x, x ≤ 60 → cc + x ≤ 603072 := fun x hx => by omega
  have hb2 : ∀ x, x ≤ 12000 → ss + x ≤ 7190634 := fun x hx => by omega
  have ab1 : ∀ x, x ≤ 60 → cc + x ≤ cc + 60 := fun x hx => Nat.add_le_add_left hx cc
  have ab2 : ∀ x, x ≤ 12000 → ss + x ≤ ss + 12000 := fun x hx => Nat.add_le_add_left hx ss
  have rd1 : ¬ (nI i + 1 < 0 ∨ X.1 ≤ (nI i + 1).toNatClampNeg) := g_in (k := i + 1) (nI_1 i) (by omega) (by omega)
  have rd2 : ¬ (nI i + 2 < 0 ∨ X.1 ≤ (nI i + 2).toNatClampNeg) := g_in (k := i + 2) (by rw [fLit, nI_add]) (by omega) (by omega)
  have rd3 : ¬ (nI i + 3 < 0 ∨ X.1 ≤ (nI i + 3).toNatClampNeg) := g_in (k := i + 3) (by rw [fLit, nI_add]) (by omega) (by omega)
  obtain ⟨S', k, b, μ1, μ2, w, m, e9, e40, J⟩ := s_undo I
  refine ⟨S', μ2, some (vI k), some (vI b), z8, (cc + 1), (ss + 6), J.up (by omega) hu, ab1 _ (by decide), ab2 _ (by decide), fun res R => ?_⟩
  refine fE_step (y := fun zz => frun _ _ zz 2904 [kR 50 0 0, kR 7 0 0, kR 8 0 0, kR 40 0 0, kR 41 0 0, kN i, z6, z7, z8] [vR 40 0 0, vR 7 0 0] _ cc ss) 3 (fun _ => rfl) ?_
  refine fE_step 1 (fun _ => fr_callS (f := sL_undo) 1 6 603072 7190634 (cc + 1) (ss + 6) rfl rfl rfl rfl rfl (hb1 _ (by decide)) (hb2 _ (by decide)) rfl w) ?_
  refine fE_step (y := fun zz => frun _ _ zz 2910 [kR 50 0 0, kR 7 0 0, kR 8 0 0, kR 40 0 0, kR 41 0 0, kN i, some (vI k), z7, z8] [vR 8 0 0] _ (cc + 1) (ss + 6)) 2 (fun _ => rfl) ?_
  refine fE_step 1 (fun _ => fr_callV (f := sX8_undo) 0 0 603072 7190634 (cc + 1) (ss + 6) rfl rfl rfl (Nat.add_zero _) (Nat.add_zero _) (hb1 _ (by decide)) (hb2 _ (by decide)) rfl m) ?_
  refine fE_step (y := fun zz => frun _ _ zz 2916 [kR 50 0 0, kR 7 0 0, kR 8 0 0, kR 40 0 0, kR 41 0 0, kN i, some (vI k), some (vI b), z8] [vR 8 0 0] _ (cc + 1) (ss + 6)) 2 (fun _ => rfl) ?_
  refine fE_step 1 (fun _ => fr_callV (f := sX8_thrown) 0 0 603072 7190634 (cc + 1) (ss + 6) rfl rfl rfl (Nat.add_zero _) (Nat.add_zero _) (hb1 _ (by decide)) (hb2 _ (by decide)) rfl (m_thrown μ2)) ?_
  refine fE_pos (e9) 2 (fun _ => rfl) ?_
  refine fE_ite 2 (fun _ => rfl) (fun k0 => ?_) (fun k0 => ?_)
  · skip
    refine fE_pos (lcz (e40 k0)) 7 (fun _ => rfl) ?_
    refine fE_step (y := fun zz => frun _ _ zz 3003 [kR 50 0 0, kR 7 0 0, kR 8 0 0, kR 40 0 0, kR 41 0 0, kN i, some (vI k), some (vI b), z8] [] _ (cc + 1) (ss + 6)) 1 (fun _ => rfl) ?_
    exact R
  · skip
    refine fE_step (y := fun zz => frun _ _ zz 3003 [kR 50 0 0, kR 7 0 0, kR 8 0 0, kR 40 0 0, kR 41 0 0, kN i, some (vI k), some (vI b), z8] [] _ (cc + 1) (ss + 6)) 1 (fun _ => rfl) ?_
    exact R
theorem l_51 : LCase 51 := fun X u i cc ss S μ z6 z7 z8 I hu hi hX hcc hss => by
  have hb1 : ∀ x, x ≤ 60 → cc + x ≤ 603072 := fun x hx => by omega
  have hb2 : ∀ x, x ≤ 12000 → ss + x ≤ 7190634 := fun x hx => by omega
  have ab1 : ∀ x, x ≤ 60 → cc + x ≤ cc + 60 := fun x hx => Nat.add_le_add_left hx cc
  have ab2 : ∀ x, x ≤ 12000 → ss + x ≤ ss + 12000 := fun x hx => Nat.add_le_add_left hx ss
  have rd1 : ¬ (nI i + 1 < 0 ∨ X.1 ≤ (nI i + 1).toNatClampNeg) := g_in (k := i + 1) (nI_1 i) (by omega) (by omega)
  have rd2 : ¬ (nI i + 2 < 0 ∨ X.1 ≤ (nI i + 2).toNatClampNeg) := g_in (k := i + 2) (by rw [fLit, nI_add]) (by omega) (by omega)
  have rd3 : ¬ (nI i + 3 < 0 ∨ X.1 ≤ (nI i + 3).toNatClampNeg) := g_in (k := i + 3) (by rw [fLit, nI_add]) (by omega) (by omega)
  obtain ⟨S', v, μ1, μ2, w, m, J⟩ := s_save I
  refine ⟨S', μ2, z6, z7, z8, cc, ss, J.up (by omega) hu, Nat.le_add_right _ _, Nat.le_add_right _ _, fun res R => ?_⟩
  refine fE_step (y := fun zz => frun _ _ zz 2947 [kR 50 0 0, kR 7 0 0, kR 8 0 0, kR 40 0 0, kR 41 0 0, kN i, z6, z7, z8] [vR 7 0 0] _ cc ss) 2 (fun _ => rfl) ?_
  refine fE_step 1 (fun _ => fr_callV (f := sX7_save) 0 0 603072 7190634 cc ss rfl rfl rfl (Nat.add_zero _) (Nat.add_zero _) (Nat.le_trans (Nat.le_add_right _ _) hcc) (Nat.le_trans (Nat.le_add_right _ _) hss) rfl w) ?_
  refine fE_step (y := fun zz => frun _ _ zz 2951 [kR 50 0 0, kR 7 0 0, kR 8 0 0, kR 40 0 0, kR 41 0 0, kN i, z6, z7, z8] [vR 8 0 0, vI v] _ cc ss) 1 (fun _ => rfl) ?_
  refine fE_step 1 (fun _ => fr_callV (f := sX8_save) 0 0 603072 7190634 cc ss rfl rfl rfl (Nat.add_zero _) (Nat.add_zero _) (Nat.le_trans (Nat.le_add_right _ _) hcc) (Nat.le_trans (Nat.le_add_right _ _) hss) rfl m) ?_
  refine fE_pos (rfl) 1 (fun _ => rfl) ?_
  refine fE_step (y := fun zz => frun _ _ zz 3003 [kR 50 0 0, kR 7 0 0, kR 8 0 0, kR 40 0 0, kR 41 0 0, kN i, z6, z7, z8] [] _ cc ss) 0 (fun _ => rfl) ?_
  exact R
theorem l_52 : LCase 52 := fun X u i cc ss S μ z6 z7 z8 I hu hi hX hcc hss => by
  have hb1 : ∀ x, x ≤ 60 → cc + x ≤ 603072 := fun x hx => by omega
  have hb2 : ∀ x, x ≤ 12000 → ss + x ≤ 7190634 := fun x hx => by omega
  have ab1 : ∀ x, x ≤ 60 → cc + x ≤ cc + 60 := fun x hx => Nat.add_le_add_left hx cc
  have ab2 : ∀ x, x ≤ 12000 → ss + x ≤ ss + 12000 := fun x hx => Nat.add_le_add_left hx ss
  have rd1 : ¬ (nI i + 1 < 0 ∨ X.1 ≤ (nI i + 1).toNatClampNeg) := g_in (k := i + 1) (nI_1 i) (by omega) (by omega)
  have rd2 : ¬ (nI i + 2 < 0 ∨ X.1 ≤ (nI i + 2).toNatClampNeg) := g_in (k := i + 2) (by rw [fLit, nI_add]) (by omega) (by omega)
  have rd3 : ¬ (nI i + 3 < 0 ∨ X.1 ≤ (nI i + 3).toNatClampNeg) := g_in (k := i + 3) (by rw [fLit, nI_add]) (by omega) (by omega)
  obtain ⟨S', k, b, μ1, μ2, w, m, e9, e40, J⟩ := s_restore I
  refine ⟨S', μ2, some (vI k), some (vI b), z8, (cc + 1), (ss + 6), J.up (by omega) hu, ab1 _ (by decide), ab2 _ (by decide), fun res R => ?_⟩
  refine fE_step (y := fun zz => frun _ _ zz 2961 [kR 50 0 0, kR 7 0 0, kR 8 0 0, kR 40 0 0, kR 41 0 0, kN i, z6, z7, z8] [vR 40 0 0, vR 7 0 0] _ cc ss) 3 (fun _ => rfl) ?_
  refine fE_step 1 (fun _ => fr_callS (f := sL_restore) 1 6 603072 7190634 (cc + 1) (ss + 6) rfl rfl rfl rfl rfl (hb1 _ (by decide)) (hb2 _ (by decide)) rfl w) ?_
  refine fE_step (y := fun zz => frun _ _ zz 2967 [kR 50 0 0, kR 7 0 0, kR 8 0 0, kR 40 0 0, kR 41 0 0, kN i, some (vI k), z7, z8] [vR 8 0 0] _ (cc + 1) (ss + 6)) 2 (fun _ => rfl) ?_
  refine fE_step 1 (fun _ => fr_callV (f := sX8_restore) 0 0 603072 7190634 (cc + 1) (ss + 6) rfl rfl rfl (Nat.add_zero _) (Nat.add_zero _) (hb1 _ (by decide)) (hb2 _ (by decide)) rfl m) ?_
  refine fE_step (y := fun zz => frun _ _ zz 2973 [kR 50 0 0, kR 7 0 0, kR 8 0 0, kR 40 0 0, kR 41 0 0, kN i, some (vI k), some (vI b), z8] [vR 8 0 0] _ (cc + 1) (ss + 6)) 2 (fun _ => rfl) ?_
  refine fE_step 1 (fun _ => fr_callV (f := sX8_thrown) 0 0 603072 7190634 (cc + 1) (ss + 6) rfl rfl rfl (Nat.add_zero _) (Nat.add_zero _) (hb1 _ (by decide)) (hb2 _ (by decide)) rfl (m_thrown μ2)) ?_
  refine fE_pos (e9) 2 (fun _ => rfl) ?_
  refine fE_ite 2 (fun _ => rfl) (fun k0 => ?_) (fun k0 => ?_)
  · skip
    refine fE_pos (lcz (e40 k0)) 7 (fun _ => rfl) ?_
    refine fE_step (y := fun zz => frun _ _ zz 3003 [kR 50 0 0, kR 7 0 0, kR 8 0 0, kR 40 0 0, kR 41 0 0, kN i, some (vI k), some (vI b), z8] [] _ (cc + 1) (ss + 6)) 1 (fun _ => rfl) ?_
    exact R
  · skip
    refine fE_step (y := fun zz => frun _ _ zz 3003 [kR 50 0 0, kR 7 0 0, kR 8 0 0, kR 40 0 0, kR 41 0 0, kN i, some (vI k), some (vI b), z8] [] _ (cc + 1) (ss + 6)) 1 (fun _ => rfl) ?_
    exact R
theorem l_53 : LCase 53 := fun X u i cc ss S μ z6 z7 z8 I hu hi hX hcc hss => by
  refine ⟨S, μ, z6, z7, z8, cc, ss, I.up (by omega) hu, Nat.le_add_right _ _, Nat.le_add_right _ _, fun res R => ?_⟩
  refine fE_step (y := fun zz => frun _ _ zz 3003 [kR 50 0 0, kR 7 0 0, kR 8 0 0, kR 40 0 0, kR 41 0 0, kN i, z6, z7, z8] [] _ cc ss) 1 (fun _ => rfl) ?_
  exact R
theorem l_54 : LCase 54 := fun X u i cc ss S μ z6 z7 z8 I hu hi hX hcc hss => by
  refine ⟨S, μ, z6, z7, z8, cc, ss, I.up (by omega) hu, Nat.le_add_right _ _, Nat.le_add_right _ _, fun res R => ?_⟩
  refine fE_step (y := fun zz => frun _ _ zz 3003 [kR 50 0 0, kR 7 0 0, kR 8 0 0, kR 40 0 0, kR 41 0 0, kN i, z6, z7, z8] [] _ cc ss) 1 (fun _ => rfl) ?_
  exact R
theorem l_55 : LCase 55 := fun X u i cc ss S μ z6 z7 z8 I hu hi hX hcc hss => by
  refine ⟨S, μ, z6, z7, z8, cc, ss, I.up (by omega) hu, Nat.le_add_right _ _, Nat.le_add_right _ _, fun res R => ?_⟩
  refine fE_step (y := fun zz => frun _ _ zz 3003 [kR 50 0 0, kR 7 0 0, kR 8 0 0, kR 40 0 0, kR 41 0 0, kN i, z6, z7, z8] [] _ cc ss) 1 (fun _ => rfl) ?_
  exact R
theorem l_56 : LCase 56 := fun X u i cc ss S μ z6 z7 z8 I hu hi hX hcc hss => by
  refine ⟨S, μ, z6, z7, z8, cc, ss, I.up (by omega) hu, Nat.le_add_right _ _, Nat.le_add_right _ _, fun res R => ?_⟩
  refine fE_step (y := fun zz => frun _ _ zz 3003 [kR 50 0 0, kR 7 0 0, kR 8 0 0, kR 40 0 0, kR 41 0 0, kN i, z6, z7, z8] [] _ cc ss) 1 (fun _ => rfl) ?_
  exact R
theorem l_57 : LCase 57 := fun X u i cc ss S μ z6 z7 z8 I hu hi hX hcc hss => by
  refine ⟨S, μ, z6, z7, z8, cc, ss, I.up (by omega) hu, Nat.le_add_right _ _, Nat.le_add_right _ _, fun res R => ?_⟩
  refine fE_step (y := fun zz => frun _ _ zz 3003 [kR 50 0 0, kR 7 0 0, kR 8 0 0, kR 40 0 0, kR 41 0 0, kN i, z6, z7, z8] [] _ cc ss) 1 (fun _ => rfl) ?_
  exact R
theorem l_58 : LCase 58 := fun X u i cc ss S μ z6 z7 z8 I hu hi hX hcc hss => by
  refine ⟨S, μ, z6, z7, z8, cc, ss, I.up (by omega) hu, Nat.le_add_right _ _, Nat.le_add_right _ _, fun res R => ?_⟩
  refine fE_step (y := fun zz => frun _ _ zz 3003 [kR 50 0 0, kR 7 0 0, kR 8 0 0, kR 40 0 0, kR 41 0 0, kN i, z6, z7, z8] [] _ cc ss) 1 (fun _ => rfl) ?_
  exact R
theorem l_59 : LCase 59 := fun X u i cc ss S μ z6 z7 z8 I hu hi hX hcc hss => by
  refine ⟨S, μ, z6, z7, z8, cc, ss, I.up (by omega) hu, Nat.le_add_right _ _, Nat.le_add_right _ _, fun res R => ?_⟩
  refine fE_step (y := fun zz => frun _ _ zz 3003 [kR 50 0 0, kR 7 0 0, kR 8 0 0, kR 40 0 0, kR 41 0 0, kN i, z6, z7, z8] [] _ cc ss) 1 (fun _ => rfl) ?_
  exact R
theorem l_60 : LCase 60 := fun X u i cc ss S μ z6 z7 z8 I hu hi hX hcc hss => by
  refine ⟨S, μ, z6, z7, z8, cc, ss, I.up (by omega) hu, Nat.le_add_right _ _, Nat.le_add_right _ _, fun res R => ?_⟩
  refine fE_step (y := fun zz => frun _ _ zz 3003 [kR 50 0 0, kR 7 0 0, kR 8 0 0, kR 40 0 0, kR 41 0 0, kN i, z6, z7, z8] [] _ cc ss) 1 (fun _ => rfl) ?_
  exact R
theorem l_61 : LCase 61 := fun X u i cc ss S μ z6 z7 z8 I hu hi hX hcc hss => by
  refine ⟨S, μ, z6, z7, z8, cc, ss, I.up (by omega) hu, Nat.le_add_right _ _, Nat.le_add_right _ _, fun res R => ?_⟩
  refine fE_step (y := fun zz => frun _ _ zz 3003 [kR 50 0 0, kR 7 0 0, kR 8 0 0, kR 40 0 0, kR 41 0 0, kN i, z6, z7, z8] [] _ cc ss) 1 (fun _ => rfl) ?_
  exact R
theorem l_62 : LCase 62 := fun X u i cc ss S μ z6 z7 z8 I hu hi hX hcc hss => by
  refine ⟨S, μ, z6, z7, z8, cc, ss, I.up (by omega) hu, Nat.le_add_right _ _, Nat.le_add_right _ _, fun res R => ?_⟩
  refine fE_step (y := fun zz => frun _ _ zz 3003 [kR 50 0 0, kR 7 0 0, kR 8 0 0, kR 40 0 0, kR 41 0 0, kN i, z6, z7, z8] [] _ cc ss) 1 (fun _ => rfl) ?_
  exact R
theorem l_63 : LCase 63 := fun X u i cc ss S μ z6 z7 z8 I hu hi hX hcc hss => by
  refine ⟨S, μ, z6, z7, z8, cc, ss, I.up (by omega) hu, Nat.le_add_right _ _, Nat.le_add_right _ _, fun res R => ?_⟩
  refine fE_step (y := fun zz => frun _ _ zz 3003 [kR 50 0 0, kR 7 0 0, kR 8 0 0, kR 40 0 0, kR 41 0 0, kN i, z6, z7, z8] [] _ cc ss) 1 (fun _ => rfl) ?_
  exact R
