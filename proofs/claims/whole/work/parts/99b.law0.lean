theorem nar_i2c (x : UInt32) : fnar 2 ((x % 65536).toInt32) = (x % 65536).toInt32 := by
  have h : (x % 65536).toUInt16.toUInt32 = x % 65536 := by
    apply UInt32.toNat_inj.mp
    rw [UInt16.toNat_toUInt32, UInt32.toNat_toUInt16, UInt32.toNat_mod]
    exact Nat.mod_mod _ _
  show ((x % 65536).toUInt16.toUInt32).toInt32 = _
  rw [h]
theorem l_0 : LCase 0 := fun X u i cc ss S μ z6 z7 z8 I hu hi hX hcc hss => by
  have hb1 : ∀ x, x ≤ 60 → cc + x ≤ 603072 := fun x hx => by omega
  have hb2 : ∀ x, x ≤ 12000 → ss + x ≤ 7190634 := fun x hx => by omega
  have ab1 : ∀ x, x ≤ 60 → cc + x ≤ cc + 60 := fun x hx => Nat.add_le_add_left hx cc
  have ab2 : ∀ x, x ≤ 12000 → ss + x ≤ ss + 12000 := fun x hx => Nat.add_le_add_left hx ss
  have rd1 : ¬ (nI i + 1 < 0 ∨ X.1 ≤ (nI i + 1).toNatClampNeg) := g_in (k := i + 1) (nI_1 i) (by omega) (by omega)
  have rd2 : ¬ (nI i + 2 < 0 ∨ X.1 ≤ (nI i + 2).toNatClampNeg) := g_in (k := i + 2) (by rw [fLit, nI_add]) (by omega) (by omega)
  have rd3 : ¬ (nI i + 3 < 0 ∨ X.1 ≤ (nI i + 3).toNatClampNeg) := g_in (k := i + 3) (by rw [fLit, nI_add]) (by omega) (by omega)
  obtain ⟨S', k, b, μ1, μ2, w, m, e9, e40, J⟩ := s_beginHull I hu
  refine ⟨S', μ2, some (vI k), some (vI b), z8, (cc + 1), (ss + 6), J, ab1 _ (by decide), ab2 _ (by decide), fun res R => ?_⟩
  refine fE_step (y := fun zz => frun _ _ zz 274 [kR 50 0 0, kR 7 0 0, kR 8 0 0, kR 40 0 0, kR 41 0 0, kN i, z6, z7, z8] [vR 40 0 0, vR 7 0 0] _ cc ss) 3 (fun _ => rfl) ?_
  refine fE_step 1 (fun _ => fr_callS (f := sL_beginHull) 1 6 603072 7190634 (cc + 1) (ss + 6) rfl rfl rfl rfl rfl (hb1 _ (by decide)) (hb2 _ (by decide)) rfl w) ?_
  refine fE_step (y := fun zz => frun _ _ zz 280 [kR 50 0 0, kR 7 0 0, kR 8 0 0, kR 40 0 0, kR 41 0 0, kN i, some (vI k), z7, z8] [vR 8 0 0] _ (cc + 1) (ss + 6)) 2 (fun _ => rfl) ?_
  refine fE_step 1 (fun _ => fr_callV (f := sX8_beginHull) 0 0 603072 7190634 (cc + 1) (ss + 6) rfl rfl rfl (Nat.add_zero _) (Nat.add_zero _) (hb1 _ (by decide)) (hb2 _ (by decide)) rfl m) ?_
  refine fE_step (y := fun zz => frun _ _ zz 286 [kR 50 0 0, kR 7 0 0, kR 8 0 0, kR 40 0 0, kR 41 0 0, kN i, some (vI k), some (vI b), z8] [vR 8 0 0] _ (cc + 1) (ss + 6)) 2 (fun _ => rfl) ?_
  refine fE_step 1 (fun _ => fr_callV (f := sX8_thrown) 0 0 603072 7190634 (cc + 1) (ss + 6) rfl rfl rfl (Nat.add_zero _) (Nat.add_zero _) (hb1 _ (by decide)) (hb2 _ (by decide)) rfl (m_thrown μ2)) ?_
  refine fE_pos (e9) 2 (fun _ => rfl) ?_
  refine fE_ite 2 (fun _ => rfl) (fun k0 => ?_) (fun k0 => ?_)
  · skip
    refine fE_pos (lcz (e40 k0)) 7 (fun _ => rfl) ?_
    refine fE_step (y := fun zz => frun _ _ zz 3003 [kR 50 0 0, kR 7 0 0, kR 8 0 0, kR 40 0 0, kR 41 0 0, kN i, some (vI k), some (vI b), z8] [] _ (cc + 1) (ss + 6)) 1 (fun _ => rfl) ?_
    exact R
  · skip
    refine fE_step (y := fun zz => frun _ _ zz 3003 [kR 50 0 0, kR 7 0 0, kR 8 0 0, kR 40 0 0, kR 41 0 0, kN i, some (vI k), some (vI b), z8] [] _ (cc + 1) (ss + 6)) 1 (fun _ => rfl) ?_
    exact R
theorem l_1 : LCase 1 := fun X u i cc ss S μ z6 z7 z8 I hu hi hX hcc hss => by
  have hb1 : ∀ x, x ≤ 60 → cc + x ≤ 603072 := fun x hx => by omega
  have hb2 : ∀ x, x ≤ 12000 → ss + x ≤ 7190634 := fun x hx => by omega
  have ab1 : ∀ x, x ≤ 60 → cc + x ≤ cc + 60 := fun x hx => Nat.add_le_add_left hx cc
  have ab2 : ∀ x, x ≤ 12000 → ss + x ≤ ss + 12000 := fun x hx => Nat.add_le_add_left hx ss
  have rd1 : ¬ (nI i + 1 < 0 ∨ X.1 ≤ (nI i + 1).toNatClampNeg) := g_in (k := i + 1) (nI_1 i) (by omega) (by omega)
  have rd2 : ¬ (nI i + 2 < 0 ∨ X.1 ≤ (nI i + 2).toNatClampNeg) := g_in (k := i + 2) (by rw [fLit, nI_add]) (by omega) (by omega)
  have rd3 : ¬ (nI i + 3 < 0 ∨ X.1 ≤ (nI i + 3).toNatClampNeg) := g_in (k := i + 3) (by rw [fLit, nI_add]) (by omega) (by omega)
  obtain ⟨S', k, b, μ1, μ2, w, m, e9, e40, J⟩ := s_addFrame I hu (X.2 (nI i + 1).toNatClampNeg) (X.2 (nI i + 2).toNatClampNeg) (X.2 (nI i + 3).toNatClampNeg)
  refine ⟨S', μ2, some (vI k), some (vI b), z8, (cc + 1), (ss + 6), J, ab1 _ (by decide), ab2 _ (by decide), fun res R => ?_⟩
  refine fE_pos (rd1) 7 (fun _ => rfl) ?_
  refine fE_pos (rd2) 5 (fun _ => rfl) ?_
  refine fE_pos (rd3) 5 (fun _ => rfl) ?_
  refine fE_step (y := fun zz => frun _ _ zz 336 [kR 50 0 0, kR 7 0 0, kR 8 0 0, kR 40 0 0, kR 41 0 0, kN i, z6, z7, z8] [vR 40 0 0, vI (X.2 (nI i + 3).toNatClampNeg), vI (X.2 (nI i + 2).toNatClampNeg), vI (X.2 (nI i + 1).toNatClampNeg), vR 7 0 0] _ cc ss) 1 (fun _ => rfl) ?_
  refine fE_step 1 (fun _ => fr_callS (f := sL_addFrame) 1 6 603072 7190634 (cc + 1) (ss + 6) rfl rfl rfl rfl rfl (hb1 _ (by decide)) (hb2 _ (by decide)) rfl w) ?_
  refine fE_pos (rd1) 7 (fun _ => rfl) ?_
  refine fE_pos (rd2) 5 (fun _ => rfl) ?_
  refine fE_pos (rd3) 5 (fun _ => rfl) ?_
  refine fE_step (y := fun zz => frun _ _ zz 360 [kR 50 0 0, kR 7 0 0, kR 8 0 0, kR 40 0 0, kR 41 0 0, kN i, some (vI k), z7, z8] [vI (X.2 (nI i + 3).toNatClampNeg), vI (X.2 (nI i + 2).toNatClampNeg), vI (X.2 (nI i + 1).toNatClampNeg), vR 8 0 0] _ (cc + 1) (ss + 6)) 0 (fun _ => rfl) ?_
  refine fE_step 1 (fun _ => fr_callV (f := sX8_addFrame) 0 0 603072 7190634 (cc + 1) (ss + 6) rfl rfl rfl (Nat.add_zero _) (Nat.add_zero _) (hb1 _ (by decide)) (hb2 _ (by decide)) rfl m) ?_
  refine fE_step (y := fun zz => frun _ _ zz 366 [kR 50 0 0, kR 7 0 0, kR 8 0 0, kR 40 0 0, kR 41 0 0, kN i, some (vI k), some (vI b), z8] [vR 8 0 0] _ (cc + 1) (ss + 6)) 2 (fun _ => rfl) ?_
  refine fE_step 1 (fun _ => fr_callV (f := sX8_thrown) 0 0 603072 7190634 (cc + 1) (ss + 6) rfl rfl rfl (Nat.add_zero _) (Nat.add_zero _) (hb1 _ (by decide)) (hb2 _ (by decide)) rfl (m_thrown μ2)) ?_
  refine fE_pos (e9) 2 (fun _ => rfl) ?_
  refine fE_ite 2 (fun _ => rfl) (fun k0 => ?_) (fun k0 => ?_)
  · skip
    refine fE_pos (lcz (e40 k0)) 7 (fun _ => rfl) ?_
    refine fE_step (y := fun zz => frun _ _ zz 3003 [kR 50 0 0, kR 7 0 0, kR 8 0 0, kR 40 0 0, kR 41 0 0, kN i, some (vI k), some (vI b), z8] [] _ (cc + 1) (ss + 6)) 1 (fun _ => rfl) ?_
    exact R
  · skip
    refine fE_step (y := fun zz => frun _ _ zz 3003 [kR 50 0 0, kR 7 0 0, kR 8 0 0, kR 40 0 0, kR 41 0 0, kN i, some (vI k), some (vI b), z8] [] _ (cc + 1) (ss + 6)) 1 (fun _ => rfl) ?_
    exact R
theorem l_2 : LCase 2 := fun X u i cc ss S μ z6 z7 z8 I hu hi hX hcc hss => by
  have hb1 : ∀ x, x ≤ 60 → cc + x ≤ 603072 := fun x hx => by omega
  have hb2 : ∀ x, x ≤ 12000 → ss + x ≤ 7190634 := fun x hx => by omega
  have ab1 : ∀ x, x ≤ 60 → cc + x ≤ cc + 60 := fun x hx => Nat.add_le_add_left hx cc
  have ab2 : ∀ x, x ≤ 12000 → ss + x ≤ ss + 12000 := fun x hx => Nat.add_le_add_left hx ss
  have rd1 : ¬ (nI i + 1 < 0 ∨ X.1 ≤ (nI i + 1).toNatClampNeg) := g_in (k := i + 1) (nI_1 i) (by omega) (by omega)
  have rd2 : ¬ (nI i + 2 < 0 ∨ X.1 ≤ (nI i + 2).toNatClampNeg) := g_in (k := i + 2) (by rw [fLit, nI_add]) (by omega) (by omega)
  have rd3 : ¬ (nI i + 3 < 0 ∨ X.1 ≤ (nI i + 3).toNatClampNeg) := g_in (k := i + 3) (by rw [fLit, nI_add]) (by omega) (by omega)
  obtain ⟨S', k, b, μ1, μ2, w, m, e9, e40, J⟩ := s_mirror I hu (X.2 (nI i + 1).toNatClampNeg)
  refine ⟨S', μ2, some (vI k), some (vI b), z8, (cc + 1), (ss + 6), J, ab1 _ (by decide), ab2 _ (by decide), fun res R => ?_⟩
  refine fE_pos (rd1) 7 (fun _ => rfl) ?_
  refine fE_step (y := fun zz => frun _ _ zz 404 [kR 50 0 0, kR 7 0 0, kR 8 0 0, kR 40 0 0, kR 41 0 0, kN i, z6, z7, z8] [vR 40 0 0, vI (X.2 (nI i + 1).toNatClampNeg), vR 7 0 0] _ cc ss) 1 (fun _ => rfl) ?_
  refine fE_step 1 (fun _ => fr_callS (f := sL_mirror) 1 6 603072 7190634 (cc + 1) (ss + 6) rfl rfl rfl rfl rfl (hb1 _ (by decide)) (hb2 _ (by decide)) rfl w) ?_
  refine fE_pos (rd1) 7 (fun _ => rfl) ?_
  refine fE_step (y := fun zz => frun _ _ zz 416 [kR 50 0 0, kR 7 0 0, kR 8 0 0, kR 40 0 0, kR 41 0 0, kN i, some (vI k), z7, z8] [vI (X.2 (nI i + 1).toNatClampNeg), vR 8 0 0] _ (cc + 1) (ss + 6)) 0 (fun _ => rfl) ?_
  refine fE_step 1 (fun _ => fr_callV (f := sX8_mirror) 0 0 603072 7190634 (cc + 1) (ss + 6) rfl rfl rfl (Nat.add_zero _) (Nat.add_zero _) (hb1 _ (by decide)) (hb2 _ (by decide)) rfl m) ?_
  refine fE_step (y := fun zz => frun _ _ zz 422 [kR 50 0 0, kR 7 0 0, kR 8 0 0, kR 40 0 0, kR 41 0 0, kN i, some (vI k), some (vI b), z8] [vR 8 0 0] _ (cc + 1) (ss + 6)) 2 (fun _ => rfl) ?_
  refine fE_step 1 (fun _ => fr_callV (f := sX8_thrown) 0 0 603072 7190634 (cc + 1) (ss + 6) rfl rfl rfl (Nat.add_zero _) (Nat.add_zero _) (hb1 _ (by decide)) (hb2 _ (by decide)) rfl (m_thrown μ2)) ?_
  refine fE_pos (e9) 2 (fun _ => rfl) ?_
  refine fE_ite 2 (fun _ => rfl) (fun k0 => ?_) (fun k0 => ?_)
  · skip
    refine fE_pos (lcz (e40 k0)) 7 (fun _ => rfl) ?_
    refine fE_step (y := fun zz => frun _ _ zz 3003 [kR 50 0 0, kR 7 0 0, kR 8 0 0, kR 40 0 0, kR 41 0 0, kN i, some (vI k), some (vI b), z8] [] _ (cc + 1) (ss + 6)) 1 (fun _ => rfl) ?_
    exact R
  · skip
    refine fE_step (y := fun zz => frun _ _ zz 3003 [kR 50 0 0, kR 7 0 0, kR 8 0 0, kR 40 0 0, kR 41 0 0, kN i, some (vI k), some (vI b), z8] [] _ (cc + 1) (ss + 6)) 1 (fun _ => rfl) ?_
    exact R
theorem l_3 : LCase 3 := fun X u i cc ss S μ z6 z7 z8 I hu hi hX hcc hss => by
  have hb1 : ∀ x, x ≤ 60 → cc + x ≤ 603072 := fun x hx => by omega
  have hb2 : ∀ x, x ≤ 12000 → ss + x ≤ 7190634 := fun x hx => by omega
  have ab1 : ∀ x, x ≤ 60 → cc + x ≤ cc + 60 := fun x hx => Nat.add_le_add_left hx cc
  have ab2 : ∀ x, x ≤ 12000 → ss + x ≤ ss + 12000 := fun x hx => Nat.add_le_add_left hx ss
  have rd1 : ¬ (nI i + 1 < 0 ∨ X.1 ≤ (nI i + 1).toNatClampNeg) := g_in (k := i + 1) (nI_1 i) (by omega) (by omega)
  have rd2 : ¬ (nI i + 2 < 0 ∨ X.1 ≤ (nI i + 2).toNatClampNeg) := g_in (k := i + 2) (by rw [fLit, nI_add]) (by omega) (by omega)
  have rd3 : ¬ (nI i + 3 < 0 ∨ X.1 ≤ (nI i + 3).toNatClampNeg) := g_in (k := i + 3) (by rw [fLit, nI_add]) (by omega) (by omega)
  obtain ⟨S', k, b, μ1, μ2, w, m, e9, e40, J⟩ := s_setCargo I hu (X.2 (nI i + 1).toNatClampNeg) (X.2 (nI i + 2).toNatClampNeg)
  refine ⟨S', μ2, some (vI k), some (vI b), z8, (cc + 1), (ss + 6), J, ab1 _ (by decide), ab2 _ (by decide), fun res R => ?_⟩
  refine fE_pos (rd1) 7 (fun _ => rfl) ?_
  refine fE_pos (rd2) 5 (fun _ => rfl) ?_
  refine fE_step (y := fun zz => frun _ _ zz 466 [kR 50 0 0, kR 7 0 0, kR 8 0 0, kR 40 0 0, kR 41 0 0, kN i, z6, z7, z8] [vR 40 0 0, vI (X.2 (nI i + 2).toNatClampNeg), vI (X.2 (nI i + 1).toNatClampNeg), vR 7 0 0] _ cc ss) 1 (fun _ => rfl) ?_
  refine fE_step 1 (fun _ => fr_callS (f := sL_setCargo) 1 6 603072 7190634 (cc + 1) (ss + 6) rfl rfl rfl rfl rfl (hb1 _ (by decide)) (hb2 _ (by decide)) rfl w) ?_
  refine fE_pos (rd1) 7 (fun _ => rfl) ?_
  refine fE_pos (rd2) 5 (fun _ => rfl) ?_
  refine fE_step (y := fun zz => frun _ _ zz 484 [kR 50 0 0, kR 7 0 0, kR 8 0 0, kR 40 0 0, kR 41 0 0, kN i, some (vI k), z7, z8] [vI (X.2 (nI i + 2).toNatClampNeg), vI (X.2 (nI i + 1).toNatClampNeg), vR 8 0 0] _ (cc + 1) (ss + 6)) 0 (fun _ => rfl) ?_
  refine fE_step 1 (fun _ => fr_callV (f := sX8_setCargo) 0 0 603072 7190634 (cc + 1) (ss + 6) rfl rfl rfl (Nat.add_zero _) (Nat.add_zero _) (hb1 _ (by decide)) (hb2 _ (by decide)) rfl m) ?_
  refine fE_step (y := fun zz => frun _ _ zz 490 [kR 50 0 0, kR 7 0 0, kR 8 0 0, kR 40 0 0, kR 41 0 0, kN i, some (vI k), some (vI b), z8] [vR 8 0 0] _ (cc + 1) (ss + 6)) 2 (fun _ => rfl) ?_
  refine fE_step 1 (fun _ => fr_callV (f := sX8_thrown) 0 0 603072 7190634 (cc + 1) (ss + 6) rfl rfl rfl (Nat.add_zero _) (Nat.add_zero _) (hb1 _ (by decide)) (hb2 _ (by decide)) rfl (m_thrown μ2)) ?_
  refine fE_pos (e9) 2 (fun _ => rfl) ?_
  refine fE_ite 2 (fun _ => rfl) (fun k0 => ?_) (fun k0 => ?_)
  · skip
    refine fE_pos (lcz (e40 k0)) 7 (fun _ => rfl) ?_
    refine fE_step (y := fun zz => frun _ _ zz 3003 [kR 50 0 0, kR 7 0 0, kR 8 0 0, kR 40 0 0, kR 41 0 0, kN i, some (vI k), some (vI b), z8] [] _ (cc + 1) (ss + 6)) 1 (fun _ => rfl) ?_
    exact R
  · skip
    refine fE_step (y := fun zz => frun _ _ zz 3003 [kR 50 0 0, kR 7 0 0, kR 8 0 0, kR 40 0 0, kR 41 0 0, kN i, some (vI k), some (vI b), z8] [] _ (cc + 1) (ss + 6)) 1 (fun _ => rfl) ?_
    exact R
theorem l_4 : LCase 4 := fun X u i cc ss S μ z6 z7 z8 I hu hi hX hcc hss => by
  have hb1 : ∀ x, x ≤ 60 → cc + x ≤ 603072 := fun x hx => by omega
  have hb2 : ∀ x, x ≤ 12000 → ss + x ≤ 7190634 := fun x hx => by omega
  have ab1 : ∀ x, x ≤ 60 → cc + x ≤ cc + 60 := fun x hx => Nat.add_le_add_left hx cc
  have ab2 : ∀ x, x ≤ 12000 → ss + x ≤ ss + 12000 := fun x hx => Nat.add_le_add_left hx ss
  have rd1 : ¬ (nI i + 1 < 0 ∨ X.1 ≤ (nI i + 1).toNatClampNeg) := g_in (k := i + 1) (nI_1 i) (by omega) (by omega)
  have rd2 : ¬ (nI i + 2 < 0 ∨ X.1 ≤ (nI i + 2).toNatClampNeg) := g_in (k := i + 2) (by rw [fLit, nI_add]) (by omega) (by omega)
  have rd3 : ¬ (nI i + 3 < 0 ∨ X.1 ≤ (nI i + 3).toNatClampNeg) := g_in (k := i + 3) (by rw [fLit, nI_add]) (by omega) (by omega)
  obtain ⟨S', k, b, μ1, μ2, w, m, e9, e40, J⟩ := s_launch I hu (X.2 (nI i + 1).toNatClampNeg)
  refine ⟨S', μ2, some (vI k), some (vI b), z8, (cc + 1), (ss + 6), J, ab1 _ (by decide), ab2 _ (by decide), fun res R => ?_⟩
  refine fE_pos (rd1) 7 (fun _ => rfl) ?_
  refine fE_step (y := fun zz => frun _ _ zz 528 [kR 50 0 0, kR 7 0 0, kR 8 0 0, kR 40 0 0, kR 41 0 0, kN i, z6, z7, z8] [vR 40 0 0, vI (X.2 (nI i + 1).toNatClampNeg), vR 7 0 0] _ cc ss) 1 (fun _ => rfl) ?_
  refine fE_step 1 (fun _ => fr_callS (f := sL_launch) 1 6 603072 7190634 (cc + 1) (ss + 6) rfl rfl rfl rfl rfl (hb1 _ (by decide)) (hb2 _ (by decide)) rfl w) ?_
  refine fE_pos (rd1) 7 (fun _ => rfl) ?_
  refine fE_step (y := fun zz => frun _ _ zz 540 [kR 50 0 0, kR 7 0 0, kR 8 0 0, kR 40 0 0, kR 41 0 0, kN i, some (vI k), z7, z8] [vI (X.2 (nI i + 1).toNatClampNeg), vR 8 0 0] _ (cc + 1) (ss + 6)) 0 (fun _ => rfl) ?_
  refine fE_step 1 (fun _ => fr_callV (f := sX8_launch) 0 0 603072 7190634 (cc + 1) (ss + 6) rfl rfl rfl (Nat.add_zero _) (Nat.add_zero _) (hb1 _ (by decide)) (hb2 _ (by decide)) rfl m) ?_
  refine fE_step (y := fun zz => frun _ _ zz 546 [kR 50 0 0, kR 7 0 0, kR 8 0 0, kR 40 0 0, kR 41 0 0, kN i, some (vI k), some (vI b), z8] [vR 8 0 0] _ (cc + 1) (ss + 6)) 2 (fun _ => rfl) ?_
  refine fE_step 1 (fun _ => fr_callV (f := sX8_thrown) 0 0 603072 7190634 (cc + 1) (ss + 6) rfl rfl rfl (Nat.add_zero _) (Nat.add_zero _) (hb1 _ (by decide)) (hb2 _ (by decide)) rfl (m_thrown μ2)) ?_
  refine fE_pos (e9) 2 (fun _ => rfl) ?_
  refine fE_ite 2 (fun _ => rfl) (fun k0 => ?_) (fun k0 => ?_)
  · skip
    refine fE_pos (lcz (e40 k0)) 7 (fun _ => rfl) ?_
    refine fE_step (y := fun zz => frun _ _ zz 3003 [kR 50 0 0, kR 7 0 0, kR 8 0 0, kR 40 0 0, kR 41 0 0, kN i, some (vI k), some (vI b), z8] [] _ (cc + 1) (ss + 6)) 1 (fun _ => rfl) ?_
    exact R
  · skip
    refine fE_step (y := fun zz => frun _ _ zz 3003 [kR 50 0 0, kR 7 0 0, kR 8 0 0, kR 40 0 0, kR 41 0 0, kN i, some (vI k), some (vI b), z8] [] _ (cc + 1) (ss + 6)) 1 (fun _ => rfl) ?_
    exact R
theorem l_5 : LCase 5 := fun X u i cc ss S μ z6 z7 z8 I hu hi hX hcc hss => by
  have hb1 : ∀ x, x ≤ 60 → cc + x ≤ 603072 := fun x hx => by omega
  have hb2 : ∀ x, x ≤ 12000 → ss + x ≤ 7190634 := fun x hx => by omega
  have ab1 : ∀ x, x ≤ 60 → cc + x ≤ cc + 60 := fun x hx => Nat.add_le_add_left hx cc
  have ab2 : ∀ x, x ≤ 12000 → ss + x ≤ ss + 12000 := fun x hx => Nat.add_le_add_left hx ss
  have rd1 : ¬ (nI i + 1 < 0 ∨ X.1 ≤ (nI i + 1).toNatClampNeg) := g_in (k := i + 1) (nI_1 i) (by omega) (by omega)
  have rd2 : ¬ (nI i + 2 < 0 ∨ X.1 ≤ (nI i + 2).toNatClampNeg) := g_in (k := i + 2) (by rw [fLit, nI_add]) (by omega) (by omega)
  have rd3 : ¬ (nI i + 3 < 0 ∨ X.1 ≤ (nI i + 3).toNatClampNeg) := g_in (k := i + 3) (by rw [fLit, nI_add]) (by omega) (by omega)
  obtain ⟨S', k, b, μ1, μ2, w, m, e9, e40, J⟩ := s_caulk I hu (X.2 (nI i + 1).toNatClampNeg) (X.2 (nI i + 2).toNatClampNeg)
  refine ⟨S', μ2, some (vI k), some (vI b), z8, (cc + 1), (ss + 6), J, ab1 _ (by decide), ab2 _ (by decide), fun res R => ?_⟩
  refine fE_pos (rd1) 7 (fun _ => rfl) ?_
  refine fE_pos (rd2) 5 (fun _ => rfl) ?_
  refine fE_step (y := fun zz => frun _ _ zz 590 [kR 50 0 0, kR 7 0 0, kR 8 0 0, kR 40 0 0, kR 41 0 0, kN i, z6, z7, z8] [vR 40 0 0, vI (X.2 (nI i + 2).toNatClampNeg), vI (X.2 (nI i + 1).toNatClampNeg), vR 7 0 0] _ cc ss) 1 (fun _ => rfl) ?_
  refine fE_step 1 (fun _ => fr_callS (f := sL_caulk) 1 6 603072 7190634 (cc + 1) (ss + 6) rfl rfl rfl rfl rfl (hb1 _ (by decide)) (hb2 _ (by decide)) rfl w) ?_
  refine fE_pos (rd1) 7 (fun _ => rfl) ?_
  refine fE_pos (rd2) 5 (fun _ => rfl) ?_
  refine fE_step (y := fun zz => frun _ _ zz 608 [kR 50 0 0, kR 7 0 0, kR 8 0 0, kR 40 0 0, kR 41 0 0, kN i, some (vI k), z7, z8] [vI (X.2 (nI i + 2).toNatClampNeg), vI (X.2 (nI i + 1).toNatClampNeg), vR 8 0 0] _ (cc + 1) (ss + 6)) 0 (fun _ => rfl) ?_
  refine fE_step 1 (fun _ => fr_callV (f := sX8_caulk) 0 0 603072 7190634 (cc + 1) (ss + 6) rfl rfl rfl (Nat.add_zero _) (Nat.add_zero _) (hb1 _ (by decide)) (hb2 _ (by decide)) rfl m) ?_
  refine fE_step (y := fun zz => frun _ _ zz 614 [kR 50 0 0, kR 7 0 0, kR 8 0 0, kR 40 0 0, kR 41 0 0, kN i, some (vI k), some (vI b), z8] [vR 8 0 0] _ (cc + 1) (ss + 6)) 2 (fun _ => rfl) ?_
  refine fE_step 1 (fun _ => fr_callV (f := sX8_thrown) 0 0 603072 7190634 (cc + 1) (ss + 6) rfl rfl rfl (Nat.add_zero _) (Nat.add_zero _) (hb1 _ (by decide)) (hb2 _ (by decide)) rfl (m_thrown μ2)) ?_
  refine fE_pos (e9) 2 (fun _ => rfl) ?_
  refine fE_ite 2 (fun _ => rfl) (fun k0 => ?_) (fun k0 => ?_)
  · skip
    refine fE_pos (lcz (e40 k0)) 7 (fun _ => rfl) ?_
    refine fE_step (y := fun zz => frun _ _ zz 3003 [kR 50 0 0, kR 7 0 0, kR 8 0 0, kR 40 0 0, kR 41 0 0, kN i, some (vI k), some (vI b), z8] [] _ (cc + 1) (ss + 6)) 1 (fun _ => rfl) ?_
    exact R
  · skip
    refine fE_step (y := fun zz => frun _ _ zz 3003 [kR 50 0 0, kR 7 0 0, kR 8 0 0, kR 40 0 0, kR 41 0 0, kN i, some (vI k), some (vI b), z8] [] _ (cc + 1) (ss + 6)) 1 (fun _ => rfl) ?_
    exact R
theorem l_6 : LCase 6 := fun X u i cc ss S μ z6 z7 z8 I hu hi hX hcc hss => by
  have hb1 : ∀ x, x ≤ 60 → cc + x ≤ 603072 := fun x hx => by omega
  have hb2 : ∀ x, x ≤ 12000 → ss + x ≤ 7190634 := fun x hx => by omega
  have ab1 : ∀ x, x ≤ 60 → cc + x ≤ cc + 60 := fun x hx => Nat.add_le_add_left hx cc
  have ab2 : ∀ x, x ≤ 12000 → ss + x ≤ ss + 12000 := fun x hx => Nat.add_le_add_left hx ss
  have rd1 : ¬ (nI i + 1 < 0 ∨ X.1 ≤ (nI i + 1).toNatClampNeg) := g_in (k := i + 1) (nI_1 i) (by omega) (by omega)
  have rd2 : ¬ (nI i + 2 < 0 ∨ X.1 ≤ (nI i + 2).toNatClampNeg) := g_in (k := i + 2) (by rw [fLit, nI_add]) (by omega) (by omega)
  have rd3 : ¬ (nI i + 3 < 0 ∨ X.1 ≤ (nI i + 3).toNatClampNeg) := g_in (k := i + 3) (by rw [fLit, nI_add]) (by omega) (by omega)
  obtain ⟨S', k, b, μ1, μ2, w, m, e9, e40, J⟩ := s_pump I hu (X.2 (nI i + 1).toNatClampNeg) (X.2 (nI i + 2).toNatClampNeg)
  refine ⟨S', μ2, some (vI k), some (vI b), z8, (cc + 1), (ss + 6), J, ab1 _ (by decide), ab2 _ (by decide), fun res R => ?_⟩
  refine fE_pos (rd1) 7 (fun _ => rfl) ?_
  refine fE_pos (rd2) 5 (fun _ => rfl) ?_
  refine fE_step (y := fun zz => frun _ _ zz 658 [kR 50 0 0, kR 7 0 0, kR 8 0 0, kR 40 0 0, kR 41 0 0, kN i, z6, z7, z8] [vR 40 0 0, vI (X.2 (nI i + 2).toNatClampNeg), vI (X.2 (nI i + 1).toNatClampNeg), vR 7 0 0] _ cc ss) 1 (fun _ => rfl) ?_
  refine fE_step 1 (fun _ => fr_callS (f := sL_pump) 1 6 603072 7190634 (cc + 1) (ss + 6) rfl rfl rfl rfl rfl (hb1 _ (by decide)) (hb2 _ (by decide)) rfl w) ?_
  refine fE_pos (rd1) 7 (fun _ => rfl) ?_
  refine fE_pos (rd2) 5 (fun _ => rfl) ?_
  refine fE_step (y := fun zz => frun _ _ zz 676 [kR 50 0 0, kR 7 0 0, kR 8 0 0, kR 40 0 0, kR 41 0 0, kN i, some (vI k), z7, z8] [vI (X.2 (nI i + 2).toNatClampNeg), vI (X.2 (nI i + 1).toNatClampNeg), vR 8 0 0] _ (cc + 1) (ss + 6)) 0 (fun _ => rfl) ?_
  refine fE_step 1 (fun _ => fr_callV (f := sX8_pump) 0 0 603072 7190634 (cc + 1) (ss + 6) rfl rfl rfl (Nat.add_zero _) (Nat.add_zero _) (hb1 _ (by decide)) (hb2 _ (by decide)) rfl m) ?_
  refine fE_step (y := fun zz => frun _ _ zz 682 [kR 50 0 0, kR 7 0 0, kR 8 0 0, kR 40 0 0, kR 41 0 0, kN i, some (vI k), some (vI b), z8] [vR 8 0 0] _ (cc + 1) (ss + 6)) 2 (fun _ => rfl) ?_
  refine fE_step 1 (fun _ => fr_callV (f := sX8_thrown) 0 0 603072 7190634 (cc + 1) (ss + 6) rfl rfl rfl (Nat.add_zero _) (Nat.add_zero _) (hb1 _ (by decide)) (hb2 _ (by decide)) rfl (m_thrown μ2)) ?_
  refine fE_pos (e9) 2 (fun _ => rfl) ?_
  refine fE_ite 2 (fun _ => rfl) (fun k0 => ?_) (fun k0 => ?_)
  · skip
    refine fE_pos (lcz (e40 k0)) 7 (fun _ => rfl) ?_
    refine fE_step (y := fun zz => frun _ _ zz 3003 [kR 50 0 0, kR 7 0 0, kR 8 0 0, kR 40 0 0, kR 41 0 0, kN i, some (vI k), some (vI b), z8] [] _ (cc + 1) (ss + 6)) 1 (fun _ => rfl) ?_
    exact R
  · skip
    refine fE_step (y := fun zz => frun _ _ zz 3003 [kR 50 0 0, kR 7 0 0, kR 8 0 0, kR 40 0 0, kR 41 0 0, kN i, some (vI k), some (vI b), z8] [] _ (cc + 1) (ss + 6)) 1 (fun _ => rfl) ?_
    exact R
theorem l_7 : LCase 7 := fun X u i cc ss S μ z6 z7 z8 I hu hi hX hcc hss => by
  have hb1 : ∀ x, x ≤ 60 → cc + x ≤ 603072 := fun x hx => by omega
  have hb2 : ∀ x, x ≤ 12000 → ss + x ≤ 7190634 := fun x hx => by omega
  have ab1 : ∀ x, x ≤ 60 → cc + x ≤ cc + 60 := fun x hx => Nat.add_le_add_left hx cc
  have ab2 : ∀ x, x ≤ 12000 → ss + x ≤ ss + 12000 := fun x hx => Nat.add_le_add_left hx ss
  have rd1 : ¬ (nI i + 1 < 0 ∨ X.1 ≤ (nI i + 1).toNatClampNeg) := g_in (k := i + 1) (nI_1 i) (by omega) (by omega)
  have rd2 : ¬ (nI i + 2 < 0 ∨ X.1 ≤ (nI i + 2).toNatClampNeg) := g_in (k := i + 2) (by rw [fLit, nI_add]) (by omega) (by omega)
  have rd3 : ¬ (nI i + 3 < 0 ∨ X.1 ≤ (nI i + 3).toNatClampNeg) := g_in (k := i + 3) (by rw [fLit, nI_add]) (by omega) (by omega)
  obtain ⟨v, μ1, μ2, w, m, J⟩ := s_hullCount I
  refine ⟨S, μ2, z6, z7, z8, cc, ss, J.up (by omega) hu, Nat.le_add_right _ _, Nat.le_add_right _ _, fun res R => ?_⟩
  refine fE_step (y := fun zz => frun _ _ zz 713 [kR 50 0 0, kR 7 0 0, kR 8 0 0, kR 40 0 0, kR 41 0 0, kN i, z6, z7, z8] [vR 7 0 0] _ cc ss) 2 (fun _ => rfl) ?_
  refine fE_step 1 (fun _ => fr_callV (f := sX7_hullCount) 0 0 603072 7190634 cc ss rfl rfl rfl (Nat.add_zero _) (Nat.add_zero _) (Nat.le_trans (Nat.le_add_right _ _) hcc) (Nat.le_trans (Nat.le_add_right _ _) hss) rfl w) ?_
  refine fE_step (y := fun zz => frun _ _ zz 717 [kR 50 0 0, kR 7 0 0, kR 8 0 0, kR 40 0 0, kR 41 0 0, kN i, z6, z7, z8] [vR 8 0 0, vI v] _ cc ss) 1 (fun _ => rfl) ?_
  refine fE_step 1 (fun _ => fr_callV (f := sX8_hullCount) 0 0 603072 7190634 cc ss rfl rfl rfl (Nat.add_zero _) (Nat.add_zero _) (Nat.le_trans (Nat.le_add_right _ _) hcc) (Nat.le_trans (Nat.le_add_right _ _) hss) rfl m) ?_
  refine fE_pos (rfl) 1 (fun _ => rfl) ?_
  refine fE_step (y := fun zz => frun _ _ zz 3003 [kR 50 0 0, kR 7 0 0, kR 8 0 0, kR 40 0 0, kR 41 0 0, kN i, z6, z7, z8] [] _ cc ss) 0 (fun _ => rfl) ?_
  exact R
theorem l_8 : LCase 8 := fun X u i cc ss S μ z6 z7 z8 I hu hi hX hcc hss => by
  have hb1 : ∀ x, x ≤ 60 → cc + x ≤ 603072 := fun x hx => by omega
  have hb2 : ∀ x, x ≤ 12000 → ss + x ≤ 7190634 := fun x hx => by omega
  have ab1 : ∀ x, x ≤ 60 → cc + x ≤ cc + 60 := fun x hx => Nat.add_le_add_left hx cc
  have ab2 : ∀ x, x ≤ 12000 → ss + x ≤ ss + 12000 := fun x hx => Nat.add_le_add_left hx ss
  have rd1 : ¬ (nI i + 1 < 0 ∨ X.1 ≤ (nI i + 1).toNatClampNeg) := g_in (k := i + 1) (nI_1 i) (by omega) (by omega)
  have rd2 : ¬ (nI i + 2 < 0 ∨ X.1 ≤ (nI i + 2).toNatClampNeg) := g_in (k := i + 2) (by rw [fLit, nI_add]) (by omega) (by omega)
  have rd3 : ¬ (nI i + 3 < 0 ∨ X.1 ≤ (nI i + 3).toNatClampNeg) := g_in (k := i + 3) (by rw [fLit, nI_add]) (by omega) (by omega)
  obtain ⟨k, b, μ1, μ2, w, m, e9, e40, J⟩ := s_stateOf I (X.2 (nI i + 1).toNatClampNeg)
  refine ⟨S, μ2, some (vI k), some (vI b), z8, (cc + 1), (ss + 6), J.up (by omega) hu, ab1 _ (by decide), ab2 _ (by decide), fun res R => ?_⟩
  refine fE_pos (rd1) 7 (fun _ => rfl) ?_
  refine fE_step (y := fun zz => frun _ _ zz 733 [kR 50 0 0, kR 7 0 0, kR 8 0 0, kR 40 0 0, kR 41 0 0, kN i, z6, z7, z8] [vR 40 0 0, vI (X.2 (nI i + 1).toNatClampNeg), vR 7 0 0] _ cc ss) 1 (fun _ => rfl) ?_
  refine fE_step 1 (fun _ => fr_callS (f := sL_stateOf) 1 6 603072 7190634 (cc + 1) (ss + 6) rfl rfl rfl rfl rfl (hb1 _ (by decide)) (hb2 _ (by decide)) rfl w) ?_
  refine fE_pos (rd1) 7 (fun _ => rfl) ?_
  refine fE_step (y := fun zz => frun _ _ zz 745 [kR 50 0 0, kR 7 0 0, kR 8 0 0, kR 40 0 0, kR 41 0 0, kN i, some (vI k), z7, z8] [vI (X.2 (nI i + 1).toNatClampNeg), vR 8 0 0] _ (cc + 1) (ss + 6)) 0 (fun _ => rfl) ?_
  refine fE_step 1 (fun _ => fr_callV (f := sX8_stateOf) 0 0 603072 7190634 (cc + 1) (ss + 6) rfl rfl rfl (Nat.add_zero _) (Nat.add_zero _) (hb1 _ (by decide)) (hb2 _ (by decide)) rfl m) ?_
  refine fE_step (y := fun zz => frun _ _ zz 751 [kR 50 0 0, kR 7 0 0, kR 8 0 0, kR 40 0 0, kR 41 0 0, kN i, some (vI k), some (vI b), z8] [vR 8 0 0] _ (cc + 1) (ss + 6)) 2 (fun _ => rfl) ?_
  refine fE_step 1 (fun _ => fr_callV (f := sX8_thrown) 0 0 603072 7190634 (cc + 1) (ss + 6) rfl rfl rfl (Nat.add_zero _) (Nat.add_zero _) (hb1 _ (by decide)) (hb2 _ (by decide)) rfl (m_thrown μ2)) ?_
  refine fE_pos (e9) 2 (fun _ => rfl) ?_
  refine fE_ite 2 (fun _ => rfl) (fun k0 => ?_) (fun k0 => ?_)
  · skip
    refine fE_pos (lcz (e40 k0)) 7 (fun _ => rfl) ?_
    refine fE_step (y := fun zz => frun _ _ zz 3003 [kR 50 0 0, kR 7 0 0, kR 8 0 0, kR 40 0 0, kR 41 0 0, kN i, some (vI k), some (vI b), z8] [] _ (cc + 1) (ss + 6)) 1 (fun _ => rfl) ?_
    exact R
  · skip
    refine fE_step (y := fun zz => frun _ _ zz 3003 [kR 50 0 0, kR 7 0 0, kR 8 0 0, kR 40 0 0, kR 41 0 0, kN i, some (vI k), some (vI b), z8] [] _ (cc + 1) (ss + 6)) 1 (fun _ => rfl) ?_
    exact R
theorem l_9 : LCase 9 := fun X u i cc ss S μ z6 z7 z8 I hu hi hX hcc hss => by
  have hb1 : ∀ x, x ≤ 60 → cc + x ≤ 603072 := fun x hx => by omega
  have hb2 : ∀ x, x ≤ 12000 → ss + x ≤ 7190634 := fun x hx => by omega
  have ab1 : ∀ x, x ≤ 60 → cc + x ≤ cc + 60 := fun x hx => Nat.add_le_add_left hx cc
  have ab2 : ∀ x, x ≤ 12000 → ss + x ≤ ss + 12000 := fun x hx => Nat.add_le_add_left hx ss
  have rd1 : ¬ (nI i + 1 < 0 ∨ X.1 ≤ (nI i + 1).toNatClampNeg) := g_in (k := i + 1) (nI_1 i) (by omega) (by omega)
  have rd2 : ¬ (nI i + 2 < 0 ∨ X.1 ≤ (nI i + 2).toNatClampNeg) := g_in (k := i + 2) (by rw [fLit, nI_add]) (by omega) (by omega)
  have rd3 : ¬ (nI i + 3 < 0 ∨ X.1 ≤ (nI i + 3).toNatClampNeg) := g_in (k := i + 3) (by rw [fLit, nI_add]) (by omega) (by omega)
  obtain ⟨k, b, μ1, μ2, w, m, e9, e40, J⟩ := s_frameCount I (X.2 (nI i + 1).toNatClampNeg)
  refine ⟨S, μ2, some (vI k), some (vI b), z8, (cc + 1), (ss + 6), J.up (by omega) hu, ab1 _ (by decide), ab2 _ (by decide), fun res R => ?_⟩
  refine fE_pos (rd1) 7 (fun _ => rfl) ?_
  refine fE_step (y := fun zz => frun _ _ zz 789 [kR 50 0 0, kR 7 0 0, kR 8 0 0, kR 40 0 0, kR 41 0 0, kN i, z6, z7, z8] [vR 40 0 0, vI (X.2 (nI i + 1).toNatClampNeg), vR 7 0 0] _ cc ss) 1 (fun _ => rfl) ?_
  refine fE_step 1 (fun _ => fr_callS (f := sL_frameCount) 1 6 603072 7190634 (cc + 1) (ss + 6) rfl rfl rfl rfl rfl (hb1 _ (by decide)) (hb2 _ (by decide)) rfl w) ?_
  refine fE_pos (rd1) 7 (fun _ => rfl) ?_
  refine fE_step (y := fun zz => frun _ _ zz 801 [kR 50 0 0, kR 7 0 0, kR 8 0 0, kR 40 0 0, kR 41 0 0, kN i, some (vI k), z7, z8] [vI (X.2 (nI i + 1).toNatClampNeg), vR 8 0 0] _ (cc + 1) (ss + 6)) 0 (fun _ => rfl) ?_
  refine fE_step 1 (fun _ => fr_callV (f := sX8_frameCount) 0 0 603072 7190634 (cc + 1) (ss + 6) rfl rfl rfl (Nat.add_zero _) (Nat.add_zero _) (hb1 _ (by decide)) (hb2 _ (by decide)) rfl m) ?_
  refine fE_step (y := fun zz => frun _ _ zz 807 [kR 50 0 0, kR 7 0 0, kR 8 0 0, kR 40 0 0, kR 41 0 0, kN i, some (vI k), some (vI b), z8] [vR 8 0 0] _ (cc + 1) (ss + 6)) 2 (fun _ => rfl) ?_
  refine fE_step 1 (fun _ => fr_callV (f := sX8_thrown) 0 0 603072 7190634 (cc + 1) (ss + 6) rfl rfl rfl (Nat.add_zero _) (Nat.add_zero _) (hb1 _ (by decide)) (hb2 _ (by decide)) rfl (m_thrown μ2)) ?_
  refine fE_pos (e9) 2 (fun _ => rfl) ?_
  refine fE_ite 2 (fun _ => rfl) (fun k0 => ?_) (fun k0 => ?_)
  · skip
    refine fE_pos (lcz (e40 k0)) 7 (fun _ => rfl) ?_
    refine fE_step (y := fun zz => frun _ _ zz 3003 [kR 50 0 0, kR 7 0 0, kR 8 0 0, kR 40 0 0, kR 41 0 0, kN i, some (vI k), some (vI b), z8] [] _ (cc + 1) (ss + 6)) 1 (fun _ => rfl) ?_
    exact R
  · skip
    refine fE_step (y := fun zz => frun _ _ zz 3003 [kR 50 0 0, kR 7 0 0, kR 8 0 0, kR 40 0 0, kR 41 0 0, kN i, some (vI k), some (vI b), z8] [] _ (cc + 1) (ss + 6)) 1 (fun _ => rfl) ?_
    exact R
theorem l_10 : LCase 10 := fun X u i cc ss S μ z6 z7 z8 I hu hi hX hcc hss => by
  have hb1 : ∀ x, x ≤ 60 → cc + x ≤ 603072 := fun x hx => by omega
  have hb2 : ∀ x, x ≤ 12000 → ss + x ≤ 7190634 := fun x hx => by omega
  have ab1 : ∀ x, x ≤ 60 → cc + x ≤ cc + 60 := fun x hx => Nat.add_le_add_left hx cc
  have ab2 : ∀ x, x ≤ 12000 → ss + x ≤ ss + 12000 := fun x hx => Nat.add_le_add_left hx ss
  have rd1 : ¬ (nI i + 1 < 0 ∨ X.1 ≤ (nI i + 1).toNatClampNeg) := g_in (k := i + 1) (nI_1 i) (by omega) (by omega)
  have rd2 : ¬ (nI i + 2 < 0 ∨ X.1 ≤ (nI i + 2).toNatClampNeg) := g_in (k := i + 2) (by rw [fLit, nI_add]) (by omega) (by omega)
  have rd3 : ¬ (nI i + 3 < 0 ∨ X.1 ≤ (nI i + 3).toNatClampNeg) := g_in (k := i + 3) (by rw [fLit, nI_add]) (by omega) (by omega)
  obtain ⟨k, b, μ1, μ2, w, m, e9, e40, J⟩ := s_widthOf I (X.2 (nI i + 1).toNatClampNeg) (X.2 (nI i + 2).toNatClampNeg) ((if X.2 (nI i + 3).toNatClampNeg = 0 then 0 else 1))
  refine ⟨S, μ2, some (vI k), some (vI b), z8, (cc + 2), (ss + 12), J.up (by omega) hu, ab1 _ (by decide), ab2 _ (by decide), fun res R => ?_⟩
  by_cases h0 : X.2 (nI i + 3).toNatClampNeg = 0
  · rw [if_pos h0] at w m
    refine fE_pos (rd1) 7 (fun _ => rfl) ?_
    refine fE_pos (rd2) 5 (fun _ => rfl) ?_
    refine fE_pos (rd3) 5 (fun _ => rfl) ?_
    refine fE_pos (h0) 1 (fun _ => rfl) ?_
    refine fE_step (y := fun zz => frun _ _ zz 865 [kR 50 0 0, kR 7 0 0, kR 8 0 0, kR 40 0 0, kR 41 0 0, kN i, z6, z7, z8] [vR 40 0 0, vI (0), vI (X.2 (nI i + 2).toNatClampNeg), vI (X.2 (nI i + 1).toNatClampNeg), vR 7 0 0] _ cc ss) 2 (fun _ => rfl) ?_
    refine fE_step 1 (fun _ => fr_callS (f := sL_widthOf) 2 12 603072 7190634 (cc + 2) (ss + 12) rfl rfl rfl rfl rfl (hb1 _ (by decide)) (hb2 _ (by decide)) rfl w) ?_
    refine fE_pos (rd1) 7 (fun _ => rfl) ?_
    refine fE_pos (rd2) 5 (fun _ => rfl) ?_
    refine fE_pos (rd3) 5 (fun _ => rfl) ?_
    refine fE_pos (h0) 1 (fun _ => rfl) ?_
    refine fE_step (y := fun zz => frun _ _ zz 897 [kR 50 0 0, kR 7 0 0, kR 8 0 0, kR 40 0 0, kR 41 0 0, kN i, some (vI k), z7, z8] [vI (0), vI (X.2 (nI i + 2).toNatClampNeg), vI (X.2 (nI i + 1).toNatClampNeg), vR 8 0 0] _ (cc + 2) (ss + 12)) 1 (fun _ => rfl) ?_
    refine fE_step 1 (fun _ => fr_callV (f := sX8_widthOf) 0 0 603072 7190634 (cc + 2) (ss + 12) rfl rfl rfl (Nat.add_zero _) (Nat.add_zero _) (hb1 _ (by decide)) (hb2 _ (by decide)) rfl m) ?_
    refine fE_step (y := fun zz => frun _ _ zz 903 [kR 50 0 0, kR 7 0 0, kR 8 0 0, kR 40 0 0, kR 41 0 0, kN i, some (vI k), some (vI b), z8] [vR 8 0 0] _ (cc + 2) (ss + 12)) 2 (fun _ => rfl) ?_
    refine fE_step 1 (fun _ => fr_callV (f := sX8_thrown) 0 0 603072 7190634 (cc + 2) (ss + 12) rfl rfl rfl (Nat.add_zero _) (Nat.add_zero _) (hb1 _ (by decide)) (hb2 _ (by decide)) rfl (m_thrown μ2)) ?_
    refine fE_pos (e9) 2 (fun _ => rfl) ?_
    refine fE_ite 2 (fun _ => rfl) (fun k0 => ?_) (fun k0 => ?_)
    · skip
      refine fE_pos (lcz (e40 k0)) 7 (fun _ => rfl) ?_
      refine fE_step (y := fun zz => frun _ _ zz 3003 [kR 50 0 0, kR 7 0 0, kR 8 0 0, kR 40 0 0, kR 41 0 0, kN i, some (vI k), some (vI b), z8] [] _ (cc + 2) (ss + 12)) 1 (fun _ => rfl) ?_
      exact R
    · skip
      refine fE_step (y := fun zz => frun _ _ zz 3003 [kR 50 0 0, kR 7 0 0, kR 8 0 0, kR 40 0 0, kR 41 0 0, kN i, some (vI k), some (vI b), z8] [] _ (cc + 2) (ss + 12)) 1 (fun _ => rfl) ?_
      exact R
  · rw [if_neg h0] at w m
    refine fE_pos (rd1) 7 (fun _ => rfl) ?_
    refine fE_pos (rd2) 5 (fun _ => rfl) ?_
    refine fE_pos (rd3) 5 (fun _ => rfl) ?_
    refine fE_neg (h0) 1 (fun _ => rfl) ?_
    refine fE_step (y := fun zz => frun _ _ zz 865 [kR 50 0 0, kR 7 0 0, kR 8 0 0, kR 40 0 0, kR 41 0 0, kN i, z6, z7, z8] [vR 40 0 0, vI (1), vI (X.2 (nI i + 2).toNatClampNeg), vI (X.2 (nI i + 1).toNatClampNeg), vR 7 0 0] _ cc ss) 3 (fun _ => rfl) ?_
    refine fE_step 1 (fun _ => fr_callS (f := sL_widthOf) 2 12 603072 7190634 (cc + 2) (ss + 12) rfl rfl rfl rfl rfl (hb1 _ (by decide)) (hb2 _ (by decide)) rfl w) ?_
    refine fE_pos (rd1) 7 (fun _ => rfl) ?_
    refine fE_pos (rd2) 5 (fun _ => rfl) ?_
    refine fE_pos (rd3) 5 (fun _ => rfl) ?_
    refine fE_neg (h0) 1 (fun _ => rfl) ?_
    refine fE_step (y := fun zz => frun _ _ zz 897 [kR 50 0 0, kR 7 0 0, kR 8 0 0, kR 40 0 0, kR 41 0 0, kN i, some (vI k), z7, z8] [vI (1), vI (X.2 (nI i + 2).toNatClampNeg), vI (X.2 (nI i + 1).toNatClampNeg), vR 8 0 0] _ (cc + 2) (ss + 12)) 2 (fun _ => rfl) ?_
    refine fE_step 1 (fun _ => fr_callV (f := sX8_widthOf) 0 0 603072 7190634 (cc + 2) (ss + 12) rfl rfl rfl (Nat.add_zero _) (Nat.add_zero _) (hb1 _ (by decide)) (hb2 _ (by decide)) rfl m) ?_
    refine fE_step (y := fun zz => frun _ _ zz 903 [kR 50 0 0, kR 7 0 0, kR 8 0 0, kR 40 0 0, kR 41 0 0, kN i, some (vI k), some (vI b), z8] [vR 8 0 0] _ (cc + 2) (ss + 12)) 2 (fun _ => rfl) ?_
    refine fE_step 1 (fun _ => fr_callV (f := sX8_thrown) 0 0 603072 7190634 (cc + 2) (ss + 12) rfl rfl rfl (Nat.add_zero _) (Nat.add_zero _) (hb1 _ (by decide)) (hb2 _ (by decide)) rfl (m_thrown μ2)) ?_
    refine fE_pos (e9) 2 (fun _ => rfl) ?_
    refine fE_ite 2 (fun _ => rfl) (fun k0 => ?_) (fun k0 => ?_)
    · skip
      refine fE_pos (lcz (e40 k0)) 7 (fun _ => rfl) ?_
      refine fE_step (y := fun zz => frun _ _ zz 3003 [kR 50 0 0, kR 7 0 0, kR 8 0 0, kR 40 0 0, kR 41 0 0, kN i, some (vI k), some (vI b), z8] [] _ (cc + 2) (ss + 12)) 1 (fun _ => rfl) ?_
      exact R
    · skip
      refine fE_step (y := fun zz => frun _ _ zz 3003 [kR 50 0 0, kR 7 0 0, kR 8 0 0, kR 40 0 0, kR 41 0 0, kN i, some (vI k), some (vI b), z8] [] _ (cc + 2) (ss + 12)) 1 (fun _ => rfl) ?_
      exact R
theorem l_11 : LCase 11 := fun X u i cc ss S μ z6 z7 z8 I hu hi hX hcc hss => by
  have hb1 : ∀ x, x ≤ 60 → cc + x ≤ 603072 := fun x hx => by omega
  have hb2 : ∀ x, x ≤ 12000 → ss + x ≤ 7190634 := fun x hx => by omega
  have ab1 : ∀ x, x ≤ 60 → cc + x ≤ cc + 60 := fun x hx => Nat.add_le_add_left hx cc
  have ab2 : ∀ x, x ≤ 12000 → ss + x ≤ ss + 12000 := fun x hx => Nat.add_le_add_left hx ss
  have rd1 : ¬ (nI i + 1 < 0 ∨ X.1 ≤ (nI i + 1).toNatClampNeg) := g_in (k := i + 1) (nI_1 i) (by omega) (by omega)
  have rd2 : ¬ (nI i + 2 < 0 ∨ X.1 ≤ (nI i + 2).toNatClampNeg) := g_in (k := i + 2) (by rw [fLit, nI_add]) (by omega) (by omega)
  have rd3 : ¬ (nI i + 3 < 0 ∨ X.1 ≤ (nI i + 3).toNatClampNeg) := g_in (k := i + 3) (by rw [fLit, nI_add]) (by omega) (by omega)
  obtain ⟨k, b, μ1, μ2, w, m, e9, e40, J⟩ := s_caulkingOf I (X.2 (nI i + 1).toNatClampNeg) (X.2 (nI i + 2).toNatClampNeg)
  refine ⟨S, μ2, some (vI k), some (vI b), z8, (cc + 2), (ss + 12), J.up (by omega) hu, ab1 _ (by decide), ab2 _ (by decide), fun res R => ?_⟩
  refine fE_pos (rd1) 7 (fun _ => rfl) ?_
  refine fE_pos (rd2) 5 (fun _ => rfl) ?_
  refine fE_step (y := fun zz => frun _ _ zz 947 [kR 50 0 0, kR 7 0 0, kR 8 0 0, kR 40 0 0, kR 41 0 0, kN i, z6, z7, z8] [vR 40 0 0, vI (X.2 (nI i + 2).toNatClampNeg), vI (X.2 (nI i + 1).toNatClampNeg), vR 7 0 0] _ cc ss) 1 (fun _ => rfl) ?_
  refine fE_step 1 (fun _ => fr_callS (f := sL_caulkingOf) 2 12 603072 7190634 (cc + 2) (ss + 12) rfl rfl rfl rfl rfl (hb1 _ (by decide)) (hb2 _ (by decide)) rfl w) ?_
  refine fE_pos (rd1) 7 (fun _ => rfl) ?_
  refine fE_pos (rd2) 5 (fun _ => rfl) ?_
  refine fE_step (y := fun zz => frun _ _ zz 965 [kR 50 0 0, kR 7 0 0, kR 8 0 0, kR 40 0 0, kR 41 0 0, kN i, some (vI k), z7, z8] [vI (X.2 (nI i + 2).toNatClampNeg), vI (X.2 (nI i + 1).toNatClampNeg), vR 8 0 0] _ (cc + 2) (ss + 12)) 0 (fun _ => rfl) ?_
  refine fE_step 1 (fun _ => fr_callV (f := sX8_caulkingOf) 0 0 603072 7190634 (cc + 2) (ss + 12) rfl rfl rfl (Nat.add_zero _) (Nat.add_zero _) (hb1 _ (by decide)) (hb2 _ (by decide)) rfl m) ?_
  refine fE_step (y := fun zz => frun _ _ zz 971 [kR 50 0 0, kR 7 0 0, kR 8 0 0, kR 40 0 0, kR 41 0 0, kN i, some (vI k), some (vI b), z8] [vR 8 0 0] _ (cc + 2) (ss + 12)) 2 (fun _ => rfl) ?_
  refine fE_step 1 (fun _ => fr_callV (f := sX8_thrown) 0 0 603072 7190634 (cc + 2) (ss + 12) rfl rfl rfl (Nat.add_zero _) (Nat.add_zero _) (hb1 _ (by decide)) (hb2 _ (by decide)) rfl (m_thrown μ2)) ?_
  refine fE_pos (e9) 2 (fun _ => rfl) ?_
  refine fE_ite 2 (fun _ => rfl) (fun k0 => ?_) (fun k0 => ?_)
  · skip
    refine fE_pos (lcz (e40 k0)) 7 (fun _ => rfl) ?_
    refine fE_step (y := fun zz => frun _ _ zz 3003 [kR 50 0 0, kR 7 0 0, kR 8 0 0, kR 40 0 0, kR 41 0 0, kN i, some (vI k), some (vI b), z8] [] _ (cc + 2) (ss + 12)) 1 (fun _ => rfl) ?_
    exact R
  · skip
    refine fE_step (y := fun zz => frun _ _ zz 3003 [kR 50 0 0, kR 7 0 0, kR 8 0 0, kR 40 0 0, kR 41 0 0, kN i, some (vI k), some (vI b), z8] [] _ (cc + 2) (ss + 12)) 1 (fun _ => rfl) ?_
    exact R
theorem l_12 : LCase 12 := fun X u i cc ss S μ z6 z7 z8 I hu hi hX hcc hss => by
  have hb1 : ∀ x, x ≤ 60 → cc + x ≤ 603072 := fun x hx => by omega
  have hb2 : ∀ x, x ≤ 12000 → ss + x ≤ 7190634 := fun x hx => by omega
  have ab1 : ∀ x, x ≤ 60 → cc + x ≤ cc + 60 := fun x hx => Nat.add_le_add_left hx cc
  have ab2 : ∀ x, x ≤ 12000 → ss + x ≤ ss + 12000 := fun x hx => Nat.add_le_add_left hx ss
  have rd1 : ¬ (nI i + 1 < 0 ∨ X.1 ≤ (nI i + 1).toNatClampNeg) := g_in (k := i + 1) (nI_1 i) (by omega) (by omega)
  have rd2 : ¬ (nI i + 2 < 0 ∨ X.1 ≤ (nI i + 2).toNatClampNeg) := g_in (k := i + 2) (by rw [fLit, nI_add]) (by omega) (by omega)
  have rd3 : ¬ (nI i + 3 < 0 ∨ X.1 ≤ (nI i + 3).toNatClampNeg) := g_in (k := i + 3) (by rw [fLit, nI_add]) (by omega) (by omega)
  obtain ⟨k, b, μ1, μ2, w, m, e9, e40, J⟩ := s_waterIn I (X.2 (nI i + 1).toNatClampNeg)
  refine ⟨S, μ2, some (vI k), some (vI b), z8, (cc + 1), (ss + 6), J.up (by omega) hu, ab1 _ (by decide), ab2 _ (by decide), fun res R => ?_⟩
  refine fE_pos (rd1) 7 (fun _ => rfl) ?_
  refine fE_step (y := fun zz => frun _ _ zz 1009 [kR 50 0 0, kR 7 0 0, kR 8 0 0, kR 40 0 0, kR 41 0 0, kN i, z6, z7, z8] [vR 40 0 0, vI (X.2 (nI i + 1).toNatClampNeg), vR 7 0 0] _ cc ss) 1 (fun _ => rfl) ?_
  refine fE_step 1 (fun _ => fr_callS (f := sL_waterIn) 1 6 603072 7190634 (cc + 1) (ss + 6) rfl rfl rfl rfl rfl (hb1 _ (by decide)) (hb2 _ (by decide)) rfl w) ?_
  refine fE_pos (rd1) 7 (fun _ => rfl) ?_
  refine fE_step (y := fun zz => frun _ _ zz 1021 [kR 50 0 0, kR 7 0 0, kR 8 0 0, kR 40 0 0, kR 41 0 0, kN i, some (vI k), z7, z8] [vI (X.2 (nI i + 1).toNatClampNeg), vR 8 0 0] _ (cc + 1) (ss + 6)) 0 (fun _ => rfl) ?_
  refine fE_step 1 (fun _ => fr_callV (f := sX8_waterIn) 0 0 603072 7190634 (cc + 1) (ss + 6) rfl rfl rfl (Nat.add_zero _) (Nat.add_zero _) (hb1 _ (by decide)) (hb2 _ (by decide)) rfl m) ?_
  refine fE_step (y := fun zz => frun _ _ zz 1027 [kR 50 0 0, kR 7 0 0, kR 8 0 0, kR 40 0 0, kR 41 0 0, kN i, some (vI k), some (vI b), z8] [vR 8 0 0] _ (cc + 1) (ss + 6)) 2 (fun _ => rfl) ?_
  refine fE_step 1 (fun _ => fr_callV (f := sX8_thrown) 0 0 603072 7190634 (cc + 1) (ss + 6) rfl rfl rfl (Nat.add_zero _) (Nat.add_zero _) (hb1 _ (by decide)) (hb2 _ (by decide)) rfl (m_thrown μ2)) ?_
  refine fE_pos (e9) 2 (fun _ => rfl) ?_
  refine fE_ite 2 (fun _ => rfl) (fun k0 => ?_) (fun k0 => ?_)
  · skip
    refine fE_pos (lcz (e40 k0)) 7 (fun _ => rfl) ?_
    refine fE_step (y := fun zz => frun _ _ zz 3003 [kR 50 0 0, kR 7 0 0, kR 8 0 0, kR 40 0 0, kR 41 0 0, kN i, some (vI k), some (vI b), z8] [] _ (cc + 1) (ss + 6)) 1 (fun _ => rfl) ?_
    exact R
  · skip
    refine fE_step (y := fun zz => frun _ _ zz 3003 [kR 50 0 0, kR 7 0 0, kR 8 0 0, kR 40 0 0, kR 41 0 0, kN i, some (vI k), some (vI b), z8] [] _ (cc + 1) (ss + 6)) 1 (fun _ => rfl) ?_
    exact R
theorem l_13 : LCase 13 := fun X u i cc ss S μ z6 z7 z8 I hu hi hX hcc hss => by
  have hb1 : ∀ x, x ≤ 60 → cc + x ≤ 603072 := fun x hx => by omega
  have hb2 : ∀ x, x ≤ 12000 → ss + x ≤ 7190634 := fun x hx => by omega
  have ab1 : ∀ x, x ≤ 60 → cc + x ≤ cc + 60 := fun x hx => Nat.add_le_add_left hx cc
  have ab2 : ∀ x, x ≤ 12000 → ss + x ≤ ss + 12000 := fun x hx => Nat.add_le_add_left hx ss
  have rd1 : ¬ (nI i + 1 < 0 ∨ X.1 ≤ (nI i + 1).toNatClampNeg) := g_in (k := i + 1) (nI_1 i) (by omega) (by omega)
  have rd2 : ¬ (nI i + 2 < 0 ∨ X.1 ≤ (nI i + 2).toNatClampNeg) := g_in (k := i + 2) (by rw [fLit, nI_add]) (by omega) (by omega)
  have rd3 : ¬ (nI i + 3 < 0 ∨ X.1 ≤ (nI i + 3).toNatClampNeg) := g_in (k := i + 3) (by rw [fLit, nI_add]) (by omega) (by omega)
  obtain ⟨k, b, μ1, μ2, w, m, e9, e40, J⟩ := s_weightOf I (X.2 (nI i + 1).toNatClampNeg)
  refine ⟨S, μ2, some (vI k), some (vI b), z8, (cc + 1), (ss + 6), J.up (by omega) hu, ab1 _ (by decide), ab2 _ (by decide), fun res R => ?_⟩
  refine fE_pos (rd1) 7 (fun _ => rfl) ?_
  refine fE_step (y := fun zz => frun _ _ zz 1065 [kR 50 0 0, kR 7 0 0, kR 8 0 0, kR 40 0 0, kR 41 0 0, kN i, z6, z7, z8] [vR 40 0 0, vI (X.2 (nI i + 1).toNatClampNeg), vR 7 0 0] _ cc ss) 1 (fun _ => rfl) ?_
  refine fE_step 1 (fun _ => fr_callS (f := sL_weightOf) 1 6 603072 7190634 (cc + 1) (ss + 6) rfl rfl rfl rfl rfl (hb1 _ (by decide)) (hb2 _ (by decide)) rfl w) ?_
  refine fE_pos (rd1) 7 (fun _ => rfl) ?_
  refine fE_step (y := fun zz => frun _ _ zz 1077 [kR 50 0 0, kR 7 0 0, kR 8 0 0, kR 40 0 0, kR 41 0 0, kN i, some (vI k), z7, z8] [vI (X.2 (nI i + 1).toNatClampNeg), vR 8 0 0] _ (cc + 1) (ss + 6)) 0 (fun _ => rfl) ?_
  refine fE_step 1 (fun _ => fr_callV (f := sX8_weightOf) 0 0 603072 7190634 (cc + 1) (ss + 6) rfl rfl rfl (Nat.add_zero _) (Nat.add_zero _) (hb1 _ (by decide)) (hb2 _ (by decide)) rfl m) ?_
  refine fE_step (y := fun zz => frun _ _ zz 1083 [kR 50 0 0, kR 7 0 0, kR 8 0 0, kR 40 0 0, kR 41 0 0, kN i, some (vI k), some (vI b), z8] [vR 8 0 0] _ (cc + 1) (ss + 6)) 2 (fun _ => rfl) ?_
  refine fE_step 1 (fun _ => fr_callV (f := sX8_thrown) 0 0 603072 7190634 (cc + 1) (ss + 6) rfl rfl rfl (Nat.add_zero _) (Nat.add_zero _) (hb1 _ (by decide)) (hb2 _ (by decide)) rfl (m_thrown μ2)) ?_
  refine fE_pos (e9) 2 (fun _ => rfl) ?_
  refine fE_ite 2 (fun _ => rfl) (fun k0 => ?_) (fun k0 => ?_)
  · skip
    refine fE_pos (lcz (e40 k0)) 7 (fun _ => rfl) ?_
    refine fE_step (y := fun zz => frun _ _ zz 3003 [kR 50 0 0, kR 7 0 0, kR 8 0 0, kR 40 0 0, kR 41 0 0, kN i, some (vI k), some (vI b), z8] [] _ (cc + 1) (ss + 6)) 1 (fun _ => rfl) ?_
    exact R
  · skip
    refine fE_step (y := fun zz => frun _ _ zz 3003 [kR 50 0 0, kR 7 0 0, kR 8 0 0, kR 40 0 0, kR 41 0 0, kN i, some (vI k), some (vI b), z8] [] _ (cc + 1) (ss + 6)) 1 (fun _ => rfl) ?_
    exact R
