theorem l_14 : LCase 14 := fun X u i cc ss S μ z6 z7 z8 I hu hi hX hcc hss => by
  have hb1 : ∀ x, x ≤ 60 → cc + x ≤ 603072 := fun x hx => by omega
  have hb2 : ∀ x, x ≤ 12000 → ss + x ≤ 7190634 := fun x hx => by omega
  have ab1 : ∀ x, x ≤ 60 → cc + x ≤ cc + 60 := fun x hx => Nat.add_le_add_left hx cc
  have ab2 : ∀ x, x ≤ 12000 → ss + x ≤ ss + 12000 := fun x hx => Nat.add_le_add_left hx ss
  have rd1 : ¬ (nI i + 1 < 0 ∨ X.1 ≤ (nI i + 1).toNatClampNeg) := g_in (k := i + 1) (nI_1 i) (by omega) (by omega)
  have rd2 : ¬ (nI i + 2 < 0 ∨ X.1 ≤ (nI i + 2).toNatClampNeg) := g_in (k := i + 2) (by rw [fLit, nI_add]) (by omega) (by omega)
  have rd3 : ¬ (nI i + 3 < 0 ∨ X.1 ≤ (nI i + 3).toNatClampNeg) := g_in (k := i + 3) (by rw [fLit, nI_add]) (by omega) (by omega)
  obtain ⟨k, b, μ1, μ2, w, m, e9, e40, J⟩ := s_draughtOf I (X.2 (nI i + 1).toNatClampNeg)
  refine ⟨S, μ2, some (vI k), some (vI b), z8, (cc + 2), (ss + 12), J.up (by omega) hu, ab1 _ (by decide), ab2 _ (by decide), fun res R => ?_⟩
  refine fE_pos (rd1) 7 (fun _ => rfl) ?_
  refine fE_step (y := fun zz => frun _ _ zz 1121 [kR 50 0 0, kR 7 0 0, kR 8 0 0, kR 40 0 0, kR 41 0 0, kN i, z6, z7, z8] [vR 40 0 0, vI (X.2 (nI i + 1).toNatClampNeg), vR 7 0 0] _ cc ss) 1 (fun _ => rfl) ?_
  refine fE_step 1 (fun _ => fr_callS (f := sL_draughtOf) 2 12 603072 7190634 (cc + 2) (ss + 12) rfl rfl rfl rfl rfl (hb1 _ (by decide)) (hb2 _ (by decide)) rfl w) ?_
  refine fE_pos (rd1) 7 (fun _ => rfl) ?_
  refine fE_step (y := fun zz => frun _ _ zz 1133 [kR 50 0 0, kR 7 0 0, kR 8 0 0, kR 40 0 0, kR 41 0 0, kN i, some (vI k), z7, z8] [vI (X.2 (nI i + 1).toNatClampNeg), vR 8 0 0] _ (cc + 2) (ss + 12)) 0 (fun _ => rfl) ?_
  refine fE_step 1 (fun _ => fr_callV (f := sX8_draughtOf) 0 0 603072 7190634 (cc + 2) (ss + 12) rfl rfl rfl (Nat.add_zero _) (Nat.add_zero _) (hb1 _ (by decide)) (hb2 _ (by decide)) rfl m) ?_
  refine fE_step (y := fun zz => frun _ _ zz 1139 [kR 50 0 0, kR 7 0 0, kR 8 0 0, kR 40 0 0, kR 41 0 0, kN i, some (vI k), some (vI b), z8] [vR 8 0 0] _ (cc + 2) (ss + 12)) 2 (fun _ => rfl) ?_
  refine fE_step 1 (fun _ => fr_callV (f := sX8_thrown) 0 0 603072 7190634 (cc + 2) (ss + 12) rfl rfl rfl (Nat.add_zero _) (Nat.add_zero _) (hb1 _ (by decide)) (hb2 _ (by decide)) rfl (m_thrown μ2)) ?_
  refine fE_pos (e9) 2 (fun _ => rfl) ?_
  refine fE_ite 2 (fun _ => rfl) (fun k0 => ?_) (fun k0 => ?_)
  · skip
    refine fE_pos (lcz (e40 k0)) 7 (fun _ => rfl) ?_
    refine fE_step (y := fun zz => frun _ _ zz 3003 [kR 50 0 0, kR 7 0 0, kR 8 0 0, kR 40 0 0, kR 41 0 0, kN i, some (vI k), some (vI b), z8] [] _ (cc + 2) (ss + 12)) 1 (fun _ => rfl) ?_
    exact R
  · skip
    refine fE_step (y := fun zz => frun _ _ zz 3003 [kR 50 0 0, kR 7 0 0, kR 8 0 0, kR 40 0 0, kR 41 0 0, kN i, some (vI k), some (vI b), z8] [] _ (cc + 2) (ss + 12)) 1 (fun _ => rfl) ?_
    exact R
theorem l_15 : LCase 15 := fun X u i cc ss S μ z6 z7 z8 I hu hi hX hcc hss => by
  have hb1 : ∀ x, x ≤ 60 → cc + x ≤ 603072 := fun x hx => by omega
  have hb2 : ∀ x, x ≤ 12000 → ss + x ≤ 7190634 := fun x hx => by omega
  have ab1 : ∀ x, x ≤ 60 → cc + x ≤ cc + 60 := fun x hx => Nat.add_le_add_left hx cc
  have ab2 : ∀ x, x ≤ 12000 → ss + x ≤ ss + 12000 := fun x hx => Nat.add_le_add_left hx ss
  have rd1 : ¬ (nI i + 1 < 0 ∨ X.1 ≤ (nI i + 1).toNatClampNeg) := g_in (k := i + 1) (nI_1 i) (by omega) (by omega)
  have rd2 : ¬ (nI i + 2 < 0 ∨ X.1 ≤ (nI i + 2).toNatClampNeg) := g_in (k := i + 2) (by rw [fLit, nI_add]) (by omega) (by omega)
  have rd3 : ¬ (nI i + 3 < 0 ∨ X.1 ≤ (nI i + 3).toNatClampNeg) := g_in (k := i + 3) (by rw [fLit, nI_add]) (by omega) (by omega)
  obtain ⟨k, b, μ1, μ2, w, m, e9, e40, J⟩ := s_draughtByHalving I (X.2 (nI i + 1).toNatClampNeg)
  refine ⟨S, μ2, some (vI k), some (vI b), z8, (cc + 2), (ss + 12), J.up (by omega) hu, ab1 _ (by decide), ab2 _ (by decide), fun res R => ?_⟩
  refine fE_pos (rd1) 7 (fun _ => rfl) ?_
  refine fE_step (y := fun zz => frun _ _ zz 1177 [kR 50 0 0, kR 7 0 0, kR 8 0 0, kR 40 0 0, kR 41 0 0, kN i, z6, z7, z8] [vR 40 0 0, vI (X.2 (nI i + 1).toNatClampNeg), vR 7 0 0] _ cc ss) 1 (fun _ => rfl) ?_
  refine fE_step 1 (fun _ => fr_callS (f := sL_draughtByHalving) 2 12 603072 7190634 (cc + 2) (ss + 12) rfl rfl rfl rfl rfl (hb1 _ (by decide)) (hb2 _ (by decide)) rfl w) ?_
  refine fE_pos (rd1) 7 (fun _ => rfl) ?_
  refine fE_step (y := fun zz => frun _ _ zz 1189 [kR 50 0 0, kR 7 0 0, kR 8 0 0, kR 40 0 0, kR 41 0 0, kN i, some (vI k), z7, z8] [vI (X.2 (nI i + 1).toNatClampNeg), vR 8 0 0] _ (cc + 2) (ss + 12)) 0 (fun _ => rfl) ?_
  refine fE_step 1 (fun _ => fr_callV (f := sX8_draughtByHalving) 0 0 603072 7190634 (cc + 2) (ss + 12) rfl rfl rfl (Nat.add_zero _) (Nat.add_zero _) (hb1 _ (by decide)) (hb2 _ (by decide)) rfl m) ?_
  refine fE_step (y := fun zz => frun _ _ zz 1195 [kR 50 0 0, kR 7 0 0, kR 8 0 0, kR 40 0 0, kR 41 0 0, kN i, some (vI k), some (vI b), z8] [vR 8 0 0] _ (cc + 2) (ss + 12)) 2 (fun _ => rfl) ?_
  refine fE_step 1 (fun _ => fr_callV (f := sX8_thrown) 0 0 603072 7190634 (cc + 2) (ss + 12) rfl rfl rfl (Nat.add_zero _) (Nat.add_zero _) (hb1 _ (by decide)) (hb2 _ (by decide)) rfl (m_thrown μ2)) ?_
  refine fE_pos (e9) 2 (fun _ => rfl) ?_
  refine fE_ite 2 (fun _ => rfl) (fun k0 => ?_) (fun k0 => ?_)
  · skip
    refine fE_pos (lcz (e40 k0)) 7 (fun _ => rfl) ?_
    refine fE_step (y := fun zz => frun _ _ zz 3003 [kR 50 0 0, kR 7 0 0, kR 8 0 0, kR 40 0 0, kR 41 0 0, kN i, some (vI k), some (vI b), z8] [] _ (cc + 2) (ss + 12)) 1 (fun _ => rfl) ?_
    exact R
  · skip
    refine fE_step (y := fun zz => frun _ _ zz 3003 [kR 50 0 0, kR 7 0 0, kR 8 0 0, kR 40 0 0, kR 41 0 0, kN i, some (vI k), some (vI b), z8] [] _ (cc + 2) (ss + 12)) 1 (fun _ => rfl) ?_
    exact R
theorem l_16 : LCase 16 := fun X u i cc ss S μ z6 z7 z8 I hu hi hX hcc hss => by
  have hb1 : ∀ x, x ≤ 60 → cc + x ≤ 603072 := fun x hx => by omega
  have hb2 : ∀ x, x ≤ 12000 → ss + x ≤ 7190634 := fun x hx => by omega
  have ab1 : ∀ x, x ≤ 60 → cc + x ≤ cc + 60 := fun x hx => Nat.add_le_add_left hx cc
  have ab2 : ∀ x, x ≤ 12000 → ss + x ≤ ss + 12000 := fun x hx => Nat.add_le_add_left hx ss
  have rd1 : ¬ (nI i + 1 < 0 ∨ X.1 ≤ (nI i + 1).toNatClampNeg) := g_in (k := i + 1) (nI_1 i) (by omega) (by omega)
  have rd2 : ¬ (nI i + 2 < 0 ∨ X.1 ≤ (nI i + 2).toNatClampNeg) := g_in (k := i + 2) (by rw [fLit, nI_add]) (by omega) (by omega)
  have rd3 : ¬ (nI i + 3 < 0 ∨ X.1 ≤ (nI i + 3).toNatClampNeg) := g_in (k := i + 3) (by rw [fLit, nI_add]) (by omega) (by omega)
  obtain ⟨k, b, μ1, μ2, w, m, e9, e40, J⟩ := s_heelOf I (X.2 (nI i + 1).toNatClampNeg)
  refine ⟨S, μ2, some (vI k), some (vI b), z8, (cc + 1), (ss + 6), J.up (by omega) hu, ab1 _ (by decide), ab2 _ (by decide), fun res R => ?_⟩
  refine fE_pos (rd1) 7 (fun _ => rfl) ?_
  refine fE_step (y := fun zz => frun _ _ zz 1233 [kR 50 0 0, kR 7 0 0, kR 8 0 0, kR 40 0 0, kR 41 0 0, kN i, z6, z7, z8] [vR 40 0 0, vI (X.2 (nI i + 1).toNatClampNeg), vR 7 0 0] _ cc ss) 1 (fun _ => rfl) ?_
  refine fE_step 1 (fun _ => fr_callS (f := sL_heelOf) 1 6 603072 7190634 (cc + 1) (ss + 6) rfl rfl rfl rfl rfl (hb1 _ (by decide)) (hb2 _ (by decide)) rfl w) ?_
  refine fE_pos (rd1) 7 (fun _ => rfl) ?_
  refine fE_step (y := fun zz => frun _ _ zz 1245 [kR 50 0 0, kR 7 0 0, kR 8 0 0, kR 40 0 0, kR 41 0 0, kN i, some (vI k), z7, z8] [vI (X.2 (nI i + 1).toNatClampNeg), vR 8 0 0] _ (cc + 1) (ss + 6)) 0 (fun _ => rfl) ?_
  refine fE_step 1 (fun _ => fr_callV (f := sX8_heelOf) 0 0 603072 7190634 (cc + 1) (ss + 6) rfl rfl rfl (Nat.add_zero _) (Nat.add_zero _) (hb1 _ (by decide)) (hb2 _ (by decide)) rfl m) ?_
  refine fE_step (y := fun zz => frun _ _ zz 1251 [kR 50 0 0, kR 7 0 0, kR 8 0 0, kR 40 0 0, kR 41 0 0, kN i, some (vI k), some (vI b), z8] [vR 8 0 0] _ (cc + 1) (ss + 6)) 2 (fun _ => rfl) ?_
  refine fE_step 1 (fun _ => fr_callV (f := sX8_thrown) 0 0 603072 7190634 (cc + 1) (ss + 6) rfl rfl rfl (Nat.add_zero _) (Nat.add_zero _) (hb1 _ (by decide)) (hb2 _ (by decide)) rfl (m_thrown μ2)) ?_
  refine fE_pos (e9) 2 (fun _ => rfl) ?_
  refine fE_ite 2 (fun _ => rfl) (fun k0 => ?_) (fun k0 => ?_)
  · skip
    refine fE_pos (lcz (e40 k0)) 7 (fun _ => rfl) ?_
    refine fE_step (y := fun zz => frun _ _ zz 3003 [kR 50 0 0, kR 7 0 0, kR 8 0 0, kR 40 0 0, kR 41 0 0, kN i, some (vI k), some (vI b), z8] [] _ (cc + 1) (ss + 6)) 1 (fun _ => rfl) ?_
    exact R
  · skip
    refine fE_step (y := fun zz => frun _ _ zz 3003 [kR 50 0 0, kR 7 0 0, kR 8 0 0, kR 40 0 0, kR 41 0 0, kN i, some (vI k), some (vI b), z8] [] _ (cc + 1) (ss + 6)) 1 (fun _ => rfl) ?_
    exact R
theorem l_17 : LCase 17 := fun X u i cc ss S μ z6 z7 z8 I hu hi hX hcc hss => by
  have hb1 : ∀ x, x ≤ 60 → cc + x ≤ 603072 := fun x hx => by omega
  have hb2 : ∀ x, x ≤ 12000 → ss + x ≤ 7190634 := fun x hx => by omega
  have ab1 : ∀ x, x ≤ 60 → cc + x ≤ cc + 60 := fun x hx => Nat.add_le_add_left hx cc
  have ab2 : ∀ x, x ≤ 12000 → ss + x ≤ ss + 12000 := fun x hx => Nat.add_le_add_left hx ss
  have rd1 : ¬ (nI i + 1 < 0 ∨ X.1 ≤ (nI i + 1).toNatClampNeg) := g_in (k := i + 1) (nI_1 i) (by omega) (by omega)
  have rd2 : ¬ (nI i + 2 < 0 ∨ X.1 ≤ (nI i + 2).toNatClampNeg) := g_in (k := i + 2) (by rw [fLit, nI_add]) (by omega) (by omega)
  have rd3 : ¬ (nI i + 3 < 0 ∨ X.1 ≤ (nI i + 3).toNatClampNeg) := g_in (k := i + 3) (by rw [fLit, nI_add]) (by omega) (by omega)
  obtain ⟨k, b, μ1, μ2, w, m, e9, e40, J⟩ := s_hullAtRank I (X.2 (nI i + 1).toNatClampNeg)
  refine ⟨S, μ2, some (vI k), some (vI b), z8, (cc + 1), (ss + 6), J.up (by omega) hu, ab1 _ (by decide), ab2 _ (by decide), fun res R => ?_⟩
  refine fE_pos (rd1) 7 (fun _ => rfl) ?_
  refine fE_step (y := fun zz => frun _ _ zz 1289 [kR 50 0 0, kR 7 0 0, kR 8 0 0, kR 40 0 0, kR 41 0 0, kN i, z6, z7, z8] [vR 40 0 0, vI (X.2 (nI i + 1).toNatClampNeg), vR 7 0 0] _ cc ss) 1 (fun _ => rfl) ?_
  refine fE_step 1 (fun _ => fr_callS (f := sL_hullAtRank) 1 6 603072 7190634 (cc + 1) (ss + 6) rfl rfl rfl rfl rfl (hb1 _ (by decide)) (hb2 _ (by decide)) rfl w) ?_
  refine fE_pos (rd1) 7 (fun _ => rfl) ?_
  refine fE_step (y := fun zz => frun _ _ zz 1301 [kR 50 0 0, kR 7 0 0, kR 8 0 0, kR 40 0 0, kR 41 0 0, kN i, some (vI k), z7, z8] [vI (X.2 (nI i + 1).toNatClampNeg), vR 8 0 0] _ (cc + 1) (ss + 6)) 0 (fun _ => rfl) ?_
  refine fE_step 1 (fun _ => fr_callV (f := sX8_hullAtRank) 0 0 603072 7190634 (cc + 1) (ss + 6) rfl rfl rfl (Nat.add_zero _) (Nat.add_zero _) (hb1 _ (by decide)) (hb2 _ (by decide)) rfl m) ?_
  refine fE_step (y := fun zz => frun _ _ zz 1307 [kR 50 0 0, kR 7 0 0, kR 8 0 0, kR 40 0 0, kR 41 0 0, kN i, some (vI k), some (vI b), z8] [vR 8 0 0] _ (cc + 1) (ss + 6)) 2 (fun _ => rfl) ?_
  refine fE_step 1 (fun _ => fr_callV (f := sX8_thrown) 0 0 603072 7190634 (cc + 1) (ss + 6) rfl rfl rfl (Nat.add_zero _) (Nat.add_zero _) (hb1 _ (by decide)) (hb2 _ (by decide)) rfl (m_thrown μ2)) ?_
  refine fE_pos (e9) 2 (fun _ => rfl) ?_
  refine fE_ite 2 (fun _ => rfl) (fun k0 => ?_) (fun k0 => ?_)
  · skip
    refine fE_pos (lcz (e40 k0)) 7 (fun _ => rfl) ?_
    refine fE_step (y := fun zz => frun _ _ zz 3003 [kR 50 0 0, kR 7 0 0, kR 8 0 0, kR 40 0 0, kR 41 0 0, kN i, some (vI k), some (vI b), z8] [] _ (cc + 1) (ss + 6)) 1 (fun _ => rfl) ?_
    exact R
  · skip
    refine fE_step (y := fun zz => frun _ _ zz 3003 [kR 50 0 0, kR 7 0 0, kR 8 0 0, kR 40 0 0, kR 41 0 0, kN i, some (vI k), some (vI b), z8] [] _ (cc + 1) (ss + 6)) 1 (fun _ => rfl) ?_
    exact R
theorem l_18 : LCase 18 := fun X u i cc ss S μ z6 z7 z8 I hu hi hX hcc hss => by
  have hb1 : ∀ x, x ≤ 60 → cc + x ≤ 603072 := fun x hx => by omega
  have hb2 : ∀ x, x ≤ 12000 → ss + x ≤ 7190634 := fun x hx => by omega
  have ab1 : ∀ x, x ≤ 60 → cc + x ≤ cc + 60 := fun x hx => Nat.add_le_add_left hx cc
  have ab2 : ∀ x, x ≤ 12000 → ss + x ≤ ss + 12000 := fun x hx => Nat.add_le_add_left hx ss
  have rd1 : ¬ (nI i + 1 < 0 ∨ X.1 ≤ (nI i + 1).toNatClampNeg) := g_in (k := i + 1) (nI_1 i) (by omega) (by omega)
  have rd2 : ¬ (nI i + 2 < 0 ∨ X.1 ≤ (nI i + 2).toNatClampNeg) := g_in (k := i + 2) (by rw [fLit, nI_add]) (by omega) (by omega)
  have rd3 : ¬ (nI i + 3 < 0 ∨ X.1 ≤ (nI i + 3).toNatClampNeg) := g_in (k := i + 3) (by rw [fLit, nI_add]) (by omega) (by omega)
  obtain ⟨k, b, μ1, μ2, w, m, e9, e40, J⟩ := s_isSymmetric I (X.2 (nI i + 1).toNatClampNeg)
  refine ⟨S, μ2, some (vI k), some (vI b), z8, (cc + 1), (ss + 6), J.up (by omega) hu, ab1 _ (by decide), ab2 _ (by decide), fun res R => ?_⟩
  refine fE_pos (rd1) 7 (fun _ => rfl) ?_
  refine fE_step (y := fun zz => frun _ _ zz 1345 [kR 50 0 0, kR 7 0 0, kR 8 0 0, kR 40 0 0, kR 41 0 0, kN i, z6, z7, z8] [vR 40 0 0, vI (X.2 (nI i + 1).toNatClampNeg), vR 7 0 0] _ cc ss) 1 (fun _ => rfl) ?_
  refine fE_step 1 (fun _ => fr_callS (f := sL_isSymmetric) 1 6 603072 7190634 (cc + 1) (ss + 6) rfl rfl rfl rfl rfl (hb1 _ (by decide)) (hb2 _ (by decide)) rfl w) ?_
  refine fE_pos (rd1) 7 (fun _ => rfl) ?_
  refine fE_step (y := fun zz => frun _ _ zz 1357 [kR 50 0 0, kR 7 0 0, kR 8 0 0, kR 40 0 0, kR 41 0 0, kN i, some (vI k), z7, z8] [vI (X.2 (nI i + 1).toNatClampNeg), vR 8 0 0] _ (cc + 1) (ss + 6)) 0 (fun _ => rfl) ?_
  refine fE_step 1 (fun _ => fr_callV (f := sX8_isSymmetric) 0 0 603072 7190634 (cc + 1) (ss + 6) rfl rfl rfl (Nat.add_zero _) (Nat.add_zero _) (hb1 _ (by decide)) (hb2 _ (by decide)) rfl m) ?_
  refine fE_step (y := fun zz => frun _ _ zz 1363 [kR 50 0 0, kR 7 0 0, kR 8 0 0, kR 40 0 0, kR 41 0 0, kN i, some (vI k), some (vI b), z8] [vR 8 0 0] _ (cc + 1) (ss + 6)) 2 (fun _ => rfl) ?_
  refine fE_step 1 (fun _ => fr_callV (f := sX8_thrown) 0 0 603072 7190634 (cc + 1) (ss + 6) rfl rfl rfl (Nat.add_zero _) (Nat.add_zero _) (hb1 _ (by decide)) (hb2 _ (by decide)) rfl (m_thrown μ2)) ?_
  refine fE_pos (e9) 2 (fun _ => rfl) ?_
  refine fE_ite 2 (fun _ => rfl) (fun k0 => ?_) (fun k0 => ?_)
  · skip
    refine fE_ite 5 (fun _ => rfl) (fun q => ?_) (fun q => ?_)
    · skip
      refine fE_pos (lcz ((e40 k0).trans (if_pos q))) 3 (fun _ => rfl) ?_
      refine fE_step (y := fun zz => frun _ _ zz 3003 [kR 50 0 0, kR 7 0 0, kR 8 0 0, kR 40 0 0, kR 41 0 0, kN i, some (vI k), some (vI b), z8] [] _ (cc + 1) (ss + 6)) 1 (fun _ => rfl) ?_
      exact R
    · skip
      refine fE_pos (lcz ((e40 k0).trans (if_neg q))) 4 (fun _ => rfl) ?_
      refine fE_step (y := fun zz => frun _ _ zz 3003 [kR 50 0 0, kR 7 0 0, kR 8 0 0, kR 40 0 0, kR 41 0 0, kN i, some (vI k), some (vI b), z8] [] _ (cc + 1) (ss + 6)) 1 (fun _ => rfl) ?_
      exact R
  · skip
    refine fE_step (y := fun zz => frun _ _ zz 3003 [kR 50 0 0, kR 7 0 0, kR 8 0 0, kR 40 0 0, kR 41 0 0, kN i, some (vI k), some (vI b), z8] [] _ (cc + 1) (ss + 6)) 1 (fun _ => rfl) ?_
    exact R
theorem l_19 : LCase 19 := fun X u i cc ss S μ z6 z7 z8 I hu hi hX hcc hss => by
  have hb1 : ∀ x, x ≤ 60 → cc + x ≤ 603072 := fun x hx => by omega
  have hb2 : ∀ x, x ≤ 12000 → ss + x ≤ 7190634 := fun x hx => by omega
  have ab1 : ∀ x, x ≤ 60 → cc + x ≤ cc + 60 := fun x hx => Nat.add_le_add_left hx cc
  have ab2 : ∀ x, x ≤ 12000 → ss + x ≤ ss + 12000 := fun x hx => Nat.add_le_add_left hx ss
  have rd1 : ¬ (nI i + 1 < 0 ∨ X.1 ≤ (nI i + 1).toNatClampNeg) := g_in (k := i + 1) (nI_1 i) (by omega) (by omega)
  have rd2 : ¬ (nI i + 2 < 0 ∨ X.1 ≤ (nI i + 2).toNatClampNeg) := g_in (k := i + 2) (by rw [fLit, nI_add]) (by omega) (by omega)
  have rd3 : ¬ (nI i + 3 < 0 ∨ X.1 ≤ (nI i + 3).toNatClampNeg) := g_in (k := i + 3) (by rw [fLit, nI_add]) (by omega) (by omega)
  obtain ⟨k, b, μ1, μ2, w, m, e9, e40, J⟩ := s_isReflectionOf I (X.2 (nI i + 1).toNatClampNeg) (X.2 (nI i + 2).toNatClampNeg)
  refine ⟨S, μ2, some (vI k), some (vI b), z8, (cc + 2), (ss + 12), J.up (by omega) hu, ab1 _ (by decide), ab2 _ (by decide), fun res R => ?_⟩
  refine fE_pos (rd1) 7 (fun _ => rfl) ?_
  refine fE_pos (rd2) 5 (fun _ => rfl) ?_
  refine fE_step (y := fun zz => frun _ _ zz 1414 [kR 50 0 0, kR 7 0 0, kR 8 0 0, kR 40 0 0, kR 41 0 0, kN i, z6, z7, z8] [vR 40 0 0, vI (X.2 (nI i + 2).toNatClampNeg), vI (X.2 (nI i + 1).toNatClampNeg), vR 7 0 0] _ cc ss) 1 (fun _ => rfl) ?_
  refine fE_step 1 (fun _ => fr_callS (f := sL_isReflectionOf) 2 12 603072 7190634 (cc + 2) (ss + 12) rfl rfl rfl rfl rfl (hb1 _ (by decide)) (hb2 _ (by decide)) rfl w) ?_
  refine fE_pos (rd1) 7 (fun _ => rfl) ?_
  refine fE_pos (rd2) 5 (fun _ => rfl) ?_
  refine fE_step (y := fun zz => frun _ _ zz 1432 [kR 50 0 0, kR 7 0 0, kR 8 0 0, kR 40 0 0, kR 41 0 0, kN i, some (vI k), z7, z8] [vI (X.2 (nI i + 2).toNatClampNeg), vI (X.2 (nI i + 1).toNatClampNeg), vR 8 0 0] _ (cc + 2) (ss + 12)) 0 (fun _ => rfl) ?_
  refine fE_step 1 (fun _ => fr_callV (f := sX8_isReflectionOf) 0 0 603072 7190634 (cc + 2) (ss + 12) rfl rfl rfl (Nat.add_zero _) (Nat.add_zero _) (hb1 _ (by decide)) (hb2 _ (by decide)) rfl m) ?_
  refine fE_step (y := fun zz => frun _ _ zz 1438 [kR 50 0 0, kR 7 0 0, kR 8 0 0, kR 40 0 0, kR 41 0 0, kN i, some (vI k), some (vI b), z8] [vR 8 0 0] _ (cc + 2) (ss + 12)) 2 (fun _ => rfl) ?_
  refine fE_step 1 (fun _ => fr_callV (f := sX8_thrown) 0 0 603072 7190634 (cc + 2) (ss + 12) rfl rfl rfl (Nat.add_zero _) (Nat.add_zero _) (hb1 _ (by decide)) (hb2 _ (by decide)) rfl (m_thrown μ2)) ?_
  refine fE_pos (e9) 2 (fun _ => rfl) ?_
  refine fE_ite 2 (fun _ => rfl) (fun k0 => ?_) (fun k0 => ?_)
  · skip
    refine fE_ite 5 (fun _ => rfl) (fun q => ?_) (fun q => ?_)
    · skip
      refine fE_pos (lcz ((e40 k0).trans (if_pos q))) 3 (fun _ => rfl) ?_
      refine fE_step (y := fun zz => frun _ _ zz 3003 [kR 50 0 0, kR 7 0 0, kR 8 0 0, kR 40 0 0, kR 41 0 0, kN i, some (vI k), some (vI b), z8] [] _ (cc + 2) (ss + 12)) 1 (fun _ => rfl) ?_
      exact R
    · skip
      refine fE_pos (lcz ((e40 k0).trans (if_neg q))) 4 (fun _ => rfl) ?_
      refine fE_step (y := fun zz => frun _ _ zz 3003 [kR 50 0 0, kR 7 0 0, kR 8 0 0, kR 40 0 0, kR 41 0 0, kN i, some (vI k), some (vI b), z8] [] _ (cc + 2) (ss + 12)) 1 (fun _ => rfl) ?_
      exact R
  · skip
    refine fE_step (y := fun zz => frun _ _ zz 3003 [kR 50 0 0, kR 7 0 0, kR 8 0 0, kR 40 0 0, kR 41 0 0, kN i, some (vI k), some (vI b), z8] [] _ (cc + 2) (ss + 12)) 1 (fun _ => rfl) ?_
    exact R
theorem l_20 : LCase 20 := fun X u i cc ss S μ z6 z7 z8 I hu hi hX hcc hss => by
  have hb1 : ∀ x, x ≤ 60 → cc + x ≤ 603072 := fun x hx => by omega
  have hb2 : ∀ x, x ≤ 12000 → ss + x ≤ 7190634 := fun x hx => by omega
  have ab1 : ∀ x, x ≤ 60 → cc + x ≤ cc + 60 := fun x hx => Nat.add_le_add_left hx cc
  have ab2 : ∀ x, x ≤ 12000 → ss + x ≤ ss + 12000 := fun x hx => Nat.add_le_add_left hx ss
  have rd1 : ¬ (nI i + 1 < 0 ∨ X.1 ≤ (nI i + 1).toNatClampNeg) := g_in (k := i + 1) (nI_1 i) (by omega) (by omega)
  have rd2 : ¬ (nI i + 2 < 0 ∨ X.1 ≤ (nI i + 2).toNatClampNeg) := g_in (k := i + 2) (by rw [fLit, nI_add]) (by omega) (by omega)
  have rd3 : ¬ (nI i + 3 < 0 ∨ X.1 ≤ (nI i + 3).toNatClampNeg) := g_in (k := i + 3) (by rw [fLit, nI_add]) (by omega) (by omega)
  obtain ⟨k, b, μ1, μ2, w, m, e9, e40, J⟩ := s_commonStretch I (X.2 (nI i + 1).toNatClampNeg) (X.2 (nI i + 2).toNatClampNeg)
  refine ⟨S, μ2, some (vI k), some (vI b), z8, (cc + 2), (ss + 12), J.up (by omega) hu, ab1 _ (by decide), ab2 _ (by decide), fun res R => ?_⟩
  refine fE_pos (rd1) 7 (fun _ => rfl) ?_
  refine fE_pos (rd2) 5 (fun _ => rfl) ?_
  refine fE_step (y := fun zz => frun _ _ zz 1489 [kR 50 0 0, kR 7 0 0, kR 8 0 0, kR 40 0 0, kR 41 0 0, kN i, z6, z7, z8] [vR 40 0 0, vI (X.2 (nI i + 2).toNatClampNeg), vI (X.2 (nI i + 1).toNatClampNeg), vR 7 0 0] _ cc ss) 1 (fun _ => rfl) ?_
  refine fE_step 1 (fun _ => fr_callS (f := sL_commonStretch) 2 12 603072 7190634 (cc + 2) (ss + 12) rfl rfl rfl rfl rfl (hb1 _ (by decide)) (hb2 _ (by decide)) rfl w) ?_
  refine fE_pos (rd1) 7 (fun _ => rfl) ?_
  refine fE_pos (rd2) 5 (fun _ => rfl) ?_
  refine fE_step (y := fun zz => frun _ _ zz 1507 [kR 50 0 0, kR 7 0 0, kR 8 0 0, kR 40 0 0, kR 41 0 0, kN i, some (vI k), z7, z8] [vI (X.2 (nI i + 2).toNatClampNeg), vI (X.2 (nI i + 1).toNatClampNeg), vR 8 0 0] _ (cc + 2) (ss + 12)) 0 (fun _ => rfl) ?_
  refine fE_step 1 (fun _ => fr_callV (f := sX8_commonStretch) 0 0 603072 7190634 (cc + 2) (ss + 12) rfl rfl rfl (Nat.add_zero _) (Nat.add_zero _) (hb1 _ (by decide)) (hb2 _ (by decide)) rfl m) ?_
  refine fE_step (y := fun zz => frun _ _ zz 1513 [kR 50 0 0, kR 7 0 0, kR 8 0 0, kR 40 0 0, kR 41 0 0, kN i, some (vI k), some (vI b), z8] [vR 8 0 0] _ (cc + 2) (ss + 12)) 2 (fun _ => rfl) ?_
  refine fE_step 1 (fun _ => fr_callV (f := sX8_thrown) 0 0 603072 7190634 (cc + 2) (ss + 12) rfl rfl rfl (Nat.add_zero _) (Nat.add_zero _) (hb1 _ (by decide)) (hb2 _ (by decide)) rfl (m_thrown μ2)) ?_
  refine fE_pos (e9) 2 (fun _ => rfl) ?_
  refine fE_ite 2 (fun _ => rfl) (fun k0 => ?_) (fun k0 => ?_)
  · skip
    refine fE_pos (lcz (e40 k0)) 7 (fun _ => rfl) ?_
    refine fE_step (y := fun zz => frun _ _ zz 3003 [kR 50 0 0, kR 7 0 0, kR 8 0 0, kR 40 0 0, kR 41 0 0, kN i, some (vI k), some (vI b), z8] [] _ (cc + 2) (ss + 12)) 1 (fun _ => rfl) ?_
    exact R
  · skip
    refine fE_step (y := fun zz => frun _ _ zz 3003 [kR 50 0 0, kR 7 0 0, kR 8 0 0, kR 40 0 0, kR 41 0 0, kN i, some (vI k), some (vI b), z8] [] _ (cc + 2) (ss + 12)) 1 (fun _ => rfl) ?_
    exact R
theorem l_21 : LCase 21 := fun X u i cc ss S μ z6 z7 z8 I hu hi hX hcc hss => by
  have hb1 : ∀ x, x ≤ 60 → cc + x ≤ 603072 := fun x hx => by omega
  have hb2 : ∀ x, x ≤ 12000 → ss + x ≤ 7190634 := fun x hx => by omega
  have ab1 : ∀ x, x ≤ 60 → cc + x ≤ cc + 60 := fun x hx => Nat.add_le_add_left hx cc
  have ab2 : ∀ x, x ≤ 12000 → ss + x ≤ ss + 12000 := fun x hx => Nat.add_le_add_left hx ss
  have rd1 : ¬ (nI i + 1 < 0 ∨ X.1 ≤ (nI i + 1).toNatClampNeg) := g_in (k := i + 1) (nI_1 i) (by omega) (by omega)
  have rd2 : ¬ (nI i + 2 < 0 ∨ X.1 ≤ (nI i + 2).toNatClampNeg) := g_in (k := i + 2) (by rw [fLit, nI_add]) (by omega) (by omega)
  have rd3 : ¬ (nI i + 3 < 0 ∨ X.1 ≤ (nI i + 3).toNatClampNeg) := g_in (k := i + 3) (by rw [fLit, nI_add]) (by omega) (by omega)
  obtain ⟨k, b, μ1, μ2, w, m, e9, e40, J⟩ := s_commonStretchByTrying I (X.2 (nI i + 1).toNatClampNeg) (X.2 (nI i + 2).toNatClampNeg)
  refine ⟨S, μ2, some (vI k), some (vI b), z8, (cc + 2), (ss + 12), J.up (by omega) hu, ab1 _ (by decide), ab2 _ (by decide), fun res R => ?_⟩
  refine fE_pos (rd1) 7 (fun _ => rfl) ?_
  refine fE_pos (rd2) 5 (fun _ => rfl) ?_
  refine fE_step (y := fun zz => frun _ _ zz 1557 [kR 50 0 0, kR 7 0 0, kR 8 0 0, kR 40 0 0, kR 41 0 0, kN i, z6, z7, z8] [vR 40 0 0, vI (X.2 (nI i + 2).toNatClampNeg), vI (X.2 (nI i + 1).toNatClampNeg), vR 7 0 0] _ cc ss) 1 (fun _ => rfl) ?_
  refine fE_step 1 (fun _ => fr_callS (f := sL_commonStretchByTrying) 2 12 603072 7190634 (cc + 2) (ss + 12) rfl rfl rfl rfl rfl (hb1 _ (by decide)) (hb2 _ (by decide)) rfl w) ?_
  refine fE_pos (rd1) 7 (fun _ => rfl) ?_
  refine fE_pos (rd2) 5 (fun _ => rfl) ?_
  refine fE_step (y := fun zz => frun _ _ zz 1575 [kR 50 0 0, kR 7 0 0, kR 8 0 0, kR 40 0 0, kR 41 0 0, kN i, some (vI k), z7, z8] [vI (X.2 (nI i + 2).toNatClampNeg), vI (X.2 (nI i + 1).toNatClampNeg), vR 8 0 0] _ (cc + 2) (ss + 12)) 0 (fun _ => rfl) ?_
  refine fE_step 1 (fun _ => fr_callV (f := sX8_commonStretchByTrying) 0 0 603072 7190634 (cc + 2) (ss + 12) rfl rfl rfl (Nat.add_zero _) (Nat.add_zero _) (hb1 _ (by decide)) (hb2 _ (by decide)) rfl m) ?_
  refine fE_step (y := fun zz => frun _ _ zz 1581 [kR 50 0 0, kR 7 0 0, kR 8 0 0, kR 40 0 0, kR 41 0 0, kN i, some (vI k), some (vI b), z8] [vR 8 0 0] _ (cc + 2) (ss + 12)) 2 (fun _ => rfl) ?_
  refine fE_step 1 (fun _ => fr_callV (f := sX8_thrown) 0 0 603072 7190634 (cc + 2) (ss + 12) rfl rfl rfl (Nat.add_zero _) (Nat.add_zero _) (hb1 _ (by decide)) (hb2 _ (by decide)) rfl (m_thrown μ2)) ?_
  refine fE_pos (e9) 2 (fun _ => rfl) ?_
  refine fE_ite 2 (fun _ => rfl) (fun k0 => ?_) (fun k0 => ?_)
  · skip
    refine fE_pos (lcz (e40 k0)) 7 (fun _ => rfl) ?_
    refine fE_step (y := fun zz => frun _ _ zz 3003 [kR 50 0 0, kR 7 0 0, kR 8 0 0, kR 40 0 0, kR 41 0 0, kN i, some (vI k), some (vI b), z8] [] _ (cc + 2) (ss + 12)) 1 (fun _ => rfl) ?_
    exact R
  · skip
    refine fE_step (y := fun zz => frun _ _ zz 3003 [kR 50 0 0, kR 7 0 0, kR 8 0 0, kR 40 0 0, kR 41 0 0, kN i, some (vI k), some (vI b), z8] [] _ (cc + 2) (ss + 12)) 1 (fun _ => rfl) ?_
    exact R
theorem l_22 : LCase 22 := fun X u i cc ss S μ z6 z7 z8 I hu hi hX hcc hss => by
  have hb1 : ∀ x, x ≤ 60 → cc + x ≤ 603072 := fun x hx => by omega
  have hb2 : ∀ x, x ≤ 12000 → ss + x ≤ 7190634 := fun x hx => by omega
  have ab1 : ∀ x, x ≤ 60 → cc + x ≤ cc + 60 := fun x hx => Nat.add_le_add_left hx cc
  have ab2 : ∀ x, x ≤ 12000 → ss + x ≤ ss + 12000 := fun x hx => Nat.add_le_add_left hx ss
  have rd1 : ¬ (nI i + 1 < 0 ∨ X.1 ≤ (nI i + 1).toNatClampNeg) := g_in (k := i + 1) (nI_1 i) (by omega) (by omega)
  have rd2 : ¬ (nI i + 2 < 0 ∨ X.1 ≤ (nI i + 2).toNatClampNeg) := g_in (k := i + 2) (by rw [fLit, nI_add]) (by omega) (by omega)
  have rd3 : ¬ (nI i + 3 < 0 ∨ X.1 ≤ (nI i + 3).toNatClampNeg) := g_in (k := i + 3) (by rw [fLit, nI_add]) (by omega) (by omega)
  obtain ⟨S', k, b, μ1, μ2, w, m, e9, e40, J⟩ := s_setTide I hu (X.2 (nI i + 1).toNatClampNeg) (X.2 (nI i + 2).toNatClampNeg)
  refine ⟨S', μ2, some (vI k), some (vI b), z8, (cc + 1), (ss + 6), J, ab1 _ (by decide), ab2 _ (by decide), fun res R => ?_⟩
  refine fE_pos (rd1) 7 (fun _ => rfl) ?_
  refine fE_pos (rd2) 5 (fun _ => rfl) ?_
  refine fE_step (y := fun zz => frun _ _ zz 1625 [kR 50 0 0, kR 7 0 0, kR 8 0 0, kR 40 0 0, kR 41 0 0, kN i, z6, z7, z8] [vR 40 0 0, vI (X.2 (nI i + 2).toNatClampNeg), vI (X.2 (nI i + 1).toNatClampNeg), vR 7 0 0] _ cc ss) 1 (fun _ => rfl) ?_
  refine fE_step 1 (fun _ => fr_callS (f := sL_setTide) 1 6 603072 7190634 (cc + 1) (ss + 6) rfl rfl rfl rfl rfl (hb1 _ (by decide)) (hb2 _ (by decide)) rfl w) ?_
  refine fE_pos (rd1) 7 (fun _ => rfl) ?_
  refine fE_pos (rd2) 5 (fun _ => rfl) ?_
  refine fE_step (y := fun zz => frun _ _ zz 1643 [kR 50 0 0, kR 7 0 0, kR 8 0 0, kR 40 0 0, kR 41 0 0, kN i, some (vI k), z7, z8] [vI (X.2 (nI i + 2).toNatClampNeg), vI (X.2 (nI i + 1).toNatClampNeg), vR 8 0 0] _ (cc + 1) (ss + 6)) 0 (fun _ => rfl) ?_
  refine fE_step 1 (fun _ => fr_callV (f := sX8_setTide) 0 0 603072 7190634 (cc + 1) (ss + 6) rfl rfl rfl (Nat.add_zero _) (Nat.add_zero _) (hb1 _ (by decide)) (hb2 _ (by decide)) rfl m) ?_
  refine fE_step (y := fun zz => frun _ _ zz 1649 [kR 50 0 0, kR 7 0 0, kR 8 0 0, kR 40 0 0, kR 41 0 0, kN i, some (vI k), some (vI b), z8] [vR 8 0 0] _ (cc + 1) (ss + 6)) 2 (fun _ => rfl) ?_
  refine fE_step 1 (fun _ => fr_callV (f := sX8_thrown) 0 0 603072 7190634 (cc + 1) (ss + 6) rfl rfl rfl (Nat.add_zero _) (Nat.add_zero _) (hb1 _ (by decide)) (hb2 _ (by decide)) rfl (m_thrown μ2)) ?_
  refine fE_pos (e9) 2 (fun _ => rfl) ?_
  refine fE_ite 2 (fun _ => rfl) (fun k0 => ?_) (fun k0 => ?_)
  · skip
    refine fE_pos (lcz (e40 k0)) 7 (fun _ => rfl) ?_
    refine fE_step (y := fun zz => frun _ _ zz 3003 [kR 50 0 0, kR 7 0 0, kR 8 0 0, kR 40 0 0, kR 41 0 0, kN i, some (vI k), some (vI b), z8] [] _ (cc + 1) (ss + 6)) 1 (fun _ => rfl) ?_
    exact R
  · skip
    refine fE_step (y := fun zz => frun _ _ zz 3003 [kR 50 0 0, kR 7 0 0, kR 8 0 0, kR 40 0 0, kR 41 0 0, kN i, some (vI k), some (vI b), z8] [] _ (cc + 1) (ss + 6)) 1 (fun _ => rfl) ?_
    exact R
theorem l_23 : LCase 23 := fun X u i cc ss S μ z6 z7 z8 I hu hi hX hcc hss => by
  have hb1 : ∀ x, x ≤ 60 → cc + x ≤ 603072 := fun x hx => by omega
  have hb2 : ∀ x, x ≤ 12000 → ss + x ≤ 7190634 := fun x hx => by omega
  have ab1 : ∀ x, x ≤ 60 → cc + x ≤ cc + 60 := fun x hx => Nat.add_le_add_left hx cc
  have ab2 : ∀ x, x ≤ 12000 → ss + x ≤ ss + 12000 := fun x hx => Nat.add_le_add_left hx ss
  have rd1 : ¬ (nI i + 1 < 0 ∨ X.1 ≤ (nI i + 1).toNatClampNeg) := g_in (k := i + 1) (nI_1 i) (by omega) (by omega)
  have rd2 : ¬ (nI i + 2 < 0 ∨ X.1 ≤ (nI i + 2).toNatClampNeg) := g_in (k := i + 2) (by rw [fLit, nI_add]) (by omega) (by omega)
  have rd3 : ¬ (nI i + 3 < 0 ∨ X.1 ≤ (nI i + 3).toNatClampNeg) := g_in (k := i + 3) (by rw [fLit, nI_add]) (by omega) (by omega)
  obtain ⟨S', k, b, μ1, μ2, w, m, e9, e40, J⟩ := s_pass I hu (X.2 (nI i + 1).toNatClampNeg)
  refine ⟨S', μ2, some (vI k), some (vI b), z8, (cc + 1), (ss + 6), J, ab1 _ (by decide), ab2 _ (by decide), fun res R => ?_⟩
  refine fE_pos (rd1) 7 (fun _ => rfl) ?_
  refine fE_step (y := fun zz => frun _ _ zz 1687 [kR 50 0 0, kR 7 0 0, kR 8 0 0, kR 40 0 0, kR 41 0 0, kN i, z6, z7, z8] [vR 40 0 0, vI (X.2 (nI i + 1).toNatClampNeg), vR 7 0 0] _ cc ss) 1 (fun _ => rfl) ?_
  refine fE_step 1 (fun _ => fr_callS (f := sL_pass) 1 6 603072 7190634 (cc + 1) (ss + 6) rfl rfl rfl rfl rfl (hb1 _ (by decide)) (hb2 _ (by decide)) rfl w) ?_
  refine fE_pos (rd1) 7 (fun _ => rfl) ?_
  refine fE_step (y := fun zz => frun _ _ zz 1699 [kR 50 0 0, kR 7 0 0, kR 8 0 0, kR 40 0 0, kR 41 0 0, kN i, some (vI k), z7, z8] [vI (X.2 (nI i + 1).toNatClampNeg), vR 8 0 0] _ (cc + 1) (ss + 6)) 0 (fun _ => rfl) ?_
  refine fE_step 1 (fun _ => fr_callV (f := sX8_pass) 0 0 603072 7190634 (cc + 1) (ss + 6) rfl rfl rfl (Nat.add_zero _) (Nat.add_zero _) (hb1 _ (by decide)) (hb2 _ (by decide)) rfl m) ?_
  refine fE_step (y := fun zz => frun _ _ zz 1705 [kR 50 0 0, kR 7 0 0, kR 8 0 0, kR 40 0 0, kR 41 0 0, kN i, some (vI k), some (vI b), z8] [vR 8 0 0] _ (cc + 1) (ss + 6)) 2 (fun _ => rfl) ?_
  refine fE_step 1 (fun _ => fr_callV (f := sX8_thrown) 0 0 603072 7190634 (cc + 1) (ss + 6) rfl rfl rfl (Nat.add_zero _) (Nat.add_zero _) (hb1 _ (by decide)) (hb2 _ (by decide)) rfl (m_thrown μ2)) ?_
  refine fE_pos (e9) 2 (fun _ => rfl) ?_
  refine fE_ite 2 (fun _ => rfl) (fun k0 => ?_) (fun k0 => ?_)
  · skip
    refine fE_pos (lcz (e40 k0)) 7 (fun _ => rfl) ?_
    refine fE_step (y := fun zz => frun _ _ zz 3003 [kR 50 0 0, kR 7 0 0, kR 8 0 0, kR 40 0 0, kR 41 0 0, kN i, some (vI k), some (vI b), z8] [] _ (cc + 1) (ss + 6)) 1 (fun _ => rfl) ?_
    exact R
  · skip
    refine fE_step (y := fun zz => frun _ _ zz 3003 [kR 50 0 0, kR 7 0 0, kR 8 0 0, kR 40 0 0, kR 41 0 0, kN i, some (vI k), some (vI b), z8] [] _ (cc + 1) (ss + 6)) 1 (fun _ => rfl) ?_
    exact R
theorem l_24 : LCase 24 := fun X u i cc ss S μ z6 z7 z8 I hu hi hX hcc hss => by
  have hb1 : ∀ x, x ≤ 60 → cc + x ≤ 603072 := fun x hx => by omega
  have hb2 : ∀ x, x ≤ 12000 → ss + x ≤ 7190634 := fun x hx => by omega
  have ab1 : ∀ x, x ≤ 60 → cc + x ≤ cc + 60 := fun x hx => Nat.add_le_add_left hx cc
  have ab2 : ∀ x, x ≤ 12000 → ss + x ≤ ss + 12000 := fun x hx => Nat.add_le_add_left hx ss
  have rd1 : ¬ (nI i + 1 < 0 ∨ X.1 ≤ (nI i + 1).toNatClampNeg) := g_in (k := i + 1) (nI_1 i) (by omega) (by omega)
  have rd2 : ¬ (nI i + 2 < 0 ∨ X.1 ≤ (nI i + 2).toNatClampNeg) := g_in (k := i + 2) (by rw [fLit, nI_add]) (by omega) (by omega)
  have rd3 : ¬ (nI i + 3 < 0 ∨ X.1 ≤ (nI i + 3).toNatClampNeg) := g_in (k := i + 3) (by rw [fLit, nI_add]) (by omega) (by omega)
  obtain ⟨v, μ1, μ2, w, m, J⟩ := s_hour I
  refine ⟨S, μ2, z6, z7, z8, cc, ss, J.up (by omega) hu, Nat.le_add_right _ _, Nat.le_add_right _ _, fun res R => ?_⟩
  refine fE_step (y := fun zz => frun _ _ zz 1736 [kR 50 0 0, kR 7 0 0, kR 8 0 0, kR 40 0 0, kR 41 0 0, kN i, z6, z7, z8] [vR 7 0 0] _ cc ss) 2 (fun _ => rfl) ?_
  refine fE_step 1 (fun _ => fr_callV (f := sX7_hour) 0 0 603072 7190634 cc ss rfl rfl rfl (Nat.add_zero _) (Nat.add_zero _) (Nat.le_trans (Nat.le_add_right _ _) hcc) (Nat.le_trans (Nat.le_add_right _ _) hss) rfl w) ?_
  refine fE_step (y := fun zz => frun _ _ zz 1740 [kR 50 0 0, kR 7 0 0, kR 8 0 0, kR 40 0 0, kR 41 0 0, kN i, z6, z7, z8] [vR 8 0 0, vI v] _ cc ss) 1 (fun _ => rfl) ?_
  refine fE_step 1 (fun _ => fr_callV (f := sX8_hour) 0 0 603072 7190634 cc ss rfl rfl rfl (Nat.add_zero _) (Nat.add_zero _) (Nat.le_trans (Nat.le_add_right _ _) hcc) (Nat.le_trans (Nat.le_add_right _ _) hss) rfl m) ?_
  refine fE_pos (rfl) 1 (fun _ => rfl) ?_
  refine fE_step (y := fun zz => frun _ _ zz 3003 [kR 50 0 0, kR 7 0 0, kR 8 0 0, kR 40 0 0, kR 41 0 0, kN i, z6, z7, z8] [] _ cc ss) 0 (fun _ => rfl) ?_
  exact R
theorem l_25 : LCase 25 := fun X u i cc ss S μ z6 z7 z8 I hu hi hX hcc hss => by
  have hb1 : ∀ x, x ≤ 60 → cc + x ≤ 603072 := fun x hx => by omega
  have hb2 : ∀ x, x ≤ 12000 → ss + x ≤ 7190634 := fun x hx => by omega
  have ab1 : ∀ x, x ≤ 60 → cc + x ≤ cc + 60 := fun x hx => Nat.add_le_add_left hx cc
  have ab2 : ∀ x, x ≤ 12000 → ss + x ≤ ss + 12000 := fun x hx => Nat.add_le_add_left hx ss
  have rd1 : ¬ (nI i + 1 < 0 ∨ X.1 ≤ (nI i + 1).toNatClampNeg) := g_in (k := i + 1) (nI_1 i) (by omega) (by omega)
  have rd2 : ¬ (nI i + 2 < 0 ∨ X.1 ≤ (nI i + 2).toNatClampNeg) := g_in (k := i + 2) (by rw [fLit, nI_add]) (by omega) (by omega)
  have rd3 : ¬ (nI i + 3 < 0 ∨ X.1 ≤ (nI i + 3).toNatClampNeg) := g_in (k := i + 3) (by rw [fLit, nI_add]) (by omega) (by omega)
  obtain ⟨k, b, μ1, μ2, w, m, e9, e40, J⟩ := s_tideAfter I (X.2 (nI i + 1).toNatClampNeg)
  refine ⟨S, μ2, some (vI k), some (vI b), z8, (cc + 1), (ss + 6), J.up (by omega) hu, ab1 _ (by decide), ab2 _ (by decide), fun res R => ?_⟩
  refine fE_pos (rd1) 7 (fun _ => rfl) ?_
  refine fE_step (y := fun zz => frun _ _ zz 1756 [kR 50 0 0, kR 7 0 0, kR 8 0 0, kR 40 0 0, kR 41 0 0, kN i, z6, z7, z8] [vR 40 0 0, vI (X.2 (nI i + 1).toNatClampNeg), vR 7 0 0] _ cc ss) 1 (fun _ => rfl) ?_
  refine fE_step 1 (fun _ => fr_callS (f := sL_tideAfter) 1 6 603072 7190634 (cc + 1) (ss + 6) rfl rfl rfl rfl rfl (hb1 _ (by decide)) (hb2 _ (by decide)) rfl w) ?_
  refine fE_pos (rd1) 7 (fun _ => rfl) ?_
  refine fE_step (y := fun zz => frun _ _ zz 1768 [kR 50 0 0, kR 7 0 0, kR 8 0 0, kR 40 0 0, kR 41 0 0, kN i, some (vI k), z7, z8] [vI (X.2 (nI i + 1).toNatClampNeg), vR 8 0 0] _ (cc + 1) (ss + 6)) 0 (fun _ => rfl) ?_
  refine fE_step 1 (fun _ => fr_callV (f := sX8_tideAfter) 0 0 603072 7190634 (cc + 1) (ss + 6) rfl rfl rfl (Nat.add_zero _) (Nat.add_zero _) (hb1 _ (by decide)) (hb2 _ (by decide)) rfl m) ?_
  refine fE_step (y := fun zz => frun _ _ zz 1774 [kR 50 0 0, kR 7 0 0, kR 8 0 0, kR 40 0 0, kR 41 0 0, kN i, some (vI k), some (vI b), z8] [vR 8 0 0] _ (cc + 1) (ss + 6)) 2 (fun _ => rfl) ?_
  refine fE_step 1 (fun _ => fr_callV (f := sX8_thrown) 0 0 603072 7190634 (cc + 1) (ss + 6) rfl rfl rfl (Nat.add_zero _) (Nat.add_zero _) (hb1 _ (by decide)) (hb2 _ (by decide)) rfl (m_thrown μ2)) ?_
  refine fE_pos (e9) 2 (fun _ => rfl) ?_
  refine fE_ite 2 (fun _ => rfl) (fun k0 => ?_) (fun k0 => ?_)
  · skip
    refine fE_pos (lcz (e40 k0)) 7 (fun _ => rfl) ?_
    refine fE_step (y := fun zz => frun _ _ zz 3003 [kR 50 0 0, kR 7 0 0, kR 8 0 0, kR 40 0 0, kR 41 0 0, kN i, some (vI k), some (vI b), z8] [] _ (cc + 1) (ss + 6)) 1 (fun _ => rfl) ?_
    exact R
  · skip
    refine fE_step (y := fun zz => frun _ _ zz 3003 [kR 50 0 0, kR 7 0 0, kR 8 0 0, kR 40 0 0, kR 41 0 0, kN i, some (vI k), some (vI b), z8] [] _ (cc + 1) (ss + 6)) 1 (fun _ => rfl) ?_
    exact R
theorem l_26 : LCase 26 := fun X u i cc ss S μ z6 z7 z8 I hu hi hX hcc hss => by
  have hb1 : ∀ x, x ≤ 60 → cc + x ≤ 603072 := fun x hx => by omega
  have hb2 : ∀ x, x ≤ 12000 → ss + x ≤ 7190634 := fun x hx => by omega
  have ab1 : ∀ x, x ≤ 60 → cc + x ≤ cc + 60 := fun x hx => Nat.add_le_add_left hx cc
  have ab2 : ∀ x, x ≤ 12000 → ss + x ≤ ss + 12000 := fun x hx => Nat.add_le_add_left hx ss
  have rd1 : ¬ (nI i + 1 < 0 ∨ X.1 ≤ (nI i + 1).toNatClampNeg) := g_in (k := i + 1) (nI_1 i) (by omega) (by omega)
  have rd2 : ¬ (nI i + 2 < 0 ∨ X.1 ≤ (nI i + 2).toNatClampNeg) := g_in (k := i + 2) (by rw [fLit, nI_add]) (by omega) (by omega)
  have rd3 : ¬ (nI i + 3 < 0 ∨ X.1 ≤ (nI i + 3).toNatClampNeg) := g_in (k := i + 3) (by rw [fLit, nI_add]) (by omega) (by omega)
  obtain ⟨k, b, μ1, μ2, w, m, e9, e40, J⟩ := s_hoursToLaunch I (X.2 (nI i + 1).toNatClampNeg)
  refine ⟨S, μ2, some (vI k), some (vI b), z8, (cc + 3), (ss + 18), J.up (by omega) hu, ab1 _ (by decide), ab2 _ (by decide), fun res R => ?_⟩
  refine fE_pos (rd1) 7 (fun _ => rfl) ?_
  refine fE_step (y := fun zz => frun _ _ zz 1812 [kR 50 0 0, kR 7 0 0, kR 8 0 0, kR 40 0 0, kR 41 0 0, kN i, z6, z7, z8] [vR 40 0 0, vI (X.2 (nI i + 1).toNatClampNeg), vR 7 0 0] _ cc ss) 1 (fun _ => rfl) ?_
  refine fE_step 1 (fun _ => fr_callS (f := sL_hoursToLaunch) 3 18 603072 7190634 (cc + 3) (ss + 18) rfl rfl rfl rfl rfl (hb1 _ (by decide)) (hb2 _ (by decide)) rfl w) ?_
  refine fE_pos (rd1) 7 (fun _ => rfl) ?_
  refine fE_step (y := fun zz => frun _ _ zz 1824 [kR 50 0 0, kR 7 0 0, kR 8 0 0, kR 40 0 0, kR 41 0 0, kN i, some (vI k), z7, z8] [vI (X.2 (nI i + 1).toNatClampNeg), vR 8 0 0] _ (cc + 3) (ss + 18)) 0 (fun _ => rfl) ?_
  refine fE_step 1 (fun _ => fr_callV (f := sX8_hoursToLaunch) 0 0 603072 7190634 (cc + 3) (ss + 18) rfl rfl rfl (Nat.add_zero _) (Nat.add_zero _) (hb1 _ (by decide)) (hb2 _ (by decide)) rfl m) ?_
  refine fE_step (y := fun zz => frun _ _ zz 1830 [kR 50 0 0, kR 7 0 0, kR 8 0 0, kR 40 0 0, kR 41 0 0, kN i, some (vI k), some (vI b), z8] [vR 8 0 0] _ (cc + 3) (ss + 18)) 2 (fun _ => rfl) ?_
  refine fE_step 1 (fun _ => fr_callV (f := sX8_thrown) 0 0 603072 7190634 (cc + 3) (ss + 18) rfl rfl rfl (Nat.add_zero _) (Nat.add_zero _) (hb1 _ (by decide)) (hb2 _ (by decide)) rfl (m_thrown μ2)) ?_
  refine fE_pos (e9) 2 (fun _ => rfl) ?_
  refine fE_ite 2 (fun _ => rfl) (fun k0 => ?_) (fun k0 => ?_)
  · skip
    refine fE_pos (lcz (e40 k0)) 7 (fun _ => rfl) ?_
    refine fE_step (y := fun zz => frun _ _ zz 3003 [kR 50 0 0, kR 7 0 0, kR 8 0 0, kR 40 0 0, kR 41 0 0, kN i, some (vI k), some (vI b), z8] [] _ (cc + 3) (ss + 18)) 1 (fun _ => rfl) ?_
    exact R
  · skip
    refine fE_step (y := fun zz => frun _ _ zz 3003 [kR 50 0 0, kR 7 0 0, kR 8 0 0, kR 40 0 0, kR 41 0 0, kN i, some (vI k), some (vI b), z8] [] _ (cc + 3) (ss + 18)) 1 (fun _ => rfl) ?_
    exact R
theorem l_27 : LCase 27 := fun X u i cc ss S μ z6 z7 z8 I hu hi hX hcc hss => by
  have hb1 : ∀ x, x ≤ 60 → cc + x ≤ 603072 := fun x hx => by omega
  have hb2 : ∀ x, x ≤ 12000 → ss + x ≤ 7190634 := fun x hx => by omega
  have ab1 : ∀ x, x ≤ 60 → cc + x ≤ cc + 60 := fun x hx => Nat.add_le_add_left hx cc
  have ab2 : ∀ x, x ≤ 12000 → ss + x ≤ ss + 12000 := fun x hx => Nat.add_le_add_left hx ss
  have rd1 : ¬ (nI i + 1 < 0 ∨ X.1 ≤ (nI i + 1).toNatClampNeg) := g_in (k := i + 1) (nI_1 i) (by omega) (by omega)
  have rd2 : ¬ (nI i + 2 < 0 ∨ X.1 ≤ (nI i + 2).toNatClampNeg) := g_in (k := i + 2) (by rw [fLit, nI_add]) (by omega) (by omega)
  have rd3 : ¬ (nI i + 3 < 0 ∨ X.1 ≤ (nI i + 3).toNatClampNeg) := g_in (k := i + 3) (by rw [fLit, nI_add]) (by omega) (by omega)
  obtain ⟨k, b, μ1, μ2, w, m, e9, e40, J⟩ := s_hoursToLaunchByTides I (X.2 (nI i + 1).toNatClampNeg)
  refine ⟨S, μ2, some (vI k), some (vI b), z8, (cc + 3), (ss + 18), J.up (by omega) hu, ab1 _ (by decide), ab2 _ (by decide), fun res R => ?_⟩
  refine fE_pos (rd1) 7 (fun _ => rfl) ?_
  refine fE_step (y := fun zz => frun _ _ zz 1868 [kR 50 0 0, kR 7 0 0, kR 8 0 0, kR 40 0 0, kR 41 0 0, kN i, z6, z7, z8] [vR 40 0 0, vI (X.2 (nI i + 1).toNatClampNeg), vR 7 0 0] _ cc ss) 1 (fun _ => rfl) ?_
  refine fE_step 1 (fun _ => fr_callS (f := sL_hoursToLaunchByTides) 3 18 603072 7190634 (cc + 3) (ss + 18) rfl rfl rfl rfl rfl (hb1 _ (by decide)) (hb2 _ (by decide)) rfl w) ?_
  refine fE_pos (rd1) 7 (fun _ => rfl) ?_
  refine fE_step (y := fun zz => frun _ _ zz 1880 [kR 50 0 0, kR 7 0 0, kR 8 0 0, kR 40 0 0, kR 41 0 0, kN i, some (vI k), z7, z8] [vI (X.2 (nI i + 1).toNatClampNeg), vR 8 0 0] _ (cc + 3) (ss + 18)) 0 (fun _ => rfl) ?_
  refine fE_step 1 (fun _ => fr_callV (f := sX8_hoursToLaunchByTides) 0 0 603072 7190634 (cc + 3) (ss + 18) rfl rfl rfl (Nat.add_zero _) (Nat.add_zero _) (hb1 _ (by decide)) (hb2 _ (by decide)) rfl m) ?_
  refine fE_step (y := fun zz => frun _ _ zz 1886 [kR 50 0 0, kR 7 0 0, kR 8 0 0, kR 40 0 0, kR 41 0 0, kN i, some (vI k), some (vI b), z8] [vR 8 0 0] _ (cc + 3) (ss + 18)) 2 (fun _ => rfl) ?_
  refine fE_step 1 (fun _ => fr_callV (f := sX8_thrown) 0 0 603072 7190634 (cc + 3) (ss + 18) rfl rfl rfl (Nat.add_zero _) (Nat.add_zero _) (hb1 _ (by decide)) (hb2 _ (by decide)) rfl (m_thrown μ2)) ?_
  refine fE_pos (e9) 2 (fun _ => rfl) ?_
  refine fE_ite 2 (fun _ => rfl) (fun k0 => ?_) (fun k0 => ?_)
  · skip
    refine fE_pos (lcz (e40 k0)) 7 (fun _ => rfl) ?_
    refine fE_step (y := fun zz => frun _ _ zz 3003 [kR 50 0 0, kR 7 0 0, kR 8 0 0, kR 40 0 0, kR 41 0 0, kN i, some (vI k), some (vI b), z8] [] _ (cc + 3) (ss + 18)) 1 (fun _ => rfl) ?_
    exact R
  · skip
    refine fE_step (y := fun zz => frun _ _ zz 3003 [kR 50 0 0, kR 7 0 0, kR 8 0 0, kR 40 0 0, kR 41 0 0, kN i, some (vI k), some (vI b), z8] [] _ (cc + 3) (ss + 18)) 1 (fun _ => rfl) ?_
    exact R
