theorem YR_begun {μ : fM} {y v : Nat} {a : Nat → Nat} (Y : YR μ y a) (h8 : ∀ g, g < 6 → hF a g ≤ 8) : YR (fI μ 6 y 0 4 (nI v)) y (up a (0) v) := by
  refine ⟨fun h hh => HV_eq (HV_out (Y.hv hh) (fun c k hc => fI_ne (by omega))) (h8 h hh) (fun i hi => (up_ne (by omega)).symm), fun k hk => ?_, fun k hk => ?_, ?_, ?_, ?_, ?_, ?_, fun k hk => ?_, fun k hk => ?_, fun k hk => ?_, fun k hk => ?_⟩
  · rw [fI_ne (by omega), Y.tide hk, show aT (up a (0) v) k = aT a k from up_ne (by omega)]
  · rw [fI_ne (by omega), Y.slip hk, show aS (up a (0) v) k = aS a k from up_ne (by omega)]
  · rw [fI_at, up_at]
  · rw [fI_ne (by omega), Y.now, show up a (0) v 1 = a 1 from up_ne (by omega)]
  · rw [up_ne (by omega)]; exact Y.paid
  · rw [fI_ne (by omega), Y.count, show up a (0) v 2 = a 2 from up_ne (by omega)]
  · rw [fI_ne (by omega), Y.next, show up a (0) v 3 = a 3 from up_ne (by omega)]
  · rw [up_ne (by omega)] at hk
    rw [fI_ne (by omega), Y.id hk, show oI (up a (0) v) k = oI a k from up_ne (by omega)]
  · rw [up_ne (by omega)] at hk
    rw [fI_ne (by omega), Y.fr hk, show oF (up a (0) v) k = oF a k from up_ne (by omega)]
  · rw [up_ne (by omega)] at hk
    rw [fI_ne (by omega), Y.hr hk, show oH (up a (0) v) k = oH a k from up_ne (by omega)]
  · rw [up_ne (by omega)] at hk
    rw [fI_ne (by omega), Y.co hk, show oC (up a (0) v) k = oC a k from up_ne (by omega)]
theorem YR_tide {μ : fM} {y v i : Nat} {a : Nat → Nat} (Y : YR μ y a) (h8 : ∀ g, g < 6 → hF a g ≤ 8) (hi : i < 12) : YR (fI μ 14 y 0 i (nI v)) y (up a (5 + i) v) := by
  refine ⟨fun h hh => HV_eq (HV_out (Y.hv hh) (fun c k hc => fI_ne (by omega))) (h8 h hh) (fun i hi => (up_ne (by omega)).symm), fun k hk => ?_, fun k hk => ?_, ?_, ?_, ?_, ?_, ?_, fun k hk => ?_, fun k hk => ?_, fun k hk => ?_, fun k hk => ?_⟩
  · by_cases e : k = i
    · subst e; rw [fI_at]; exact congrArg nI up_at.symm
    · rw [fI_ne (by omega), Y.tide hk, show aT (up a (5 + i) v) k = aT a k from up_ne (by omega)]
  · rw [fI_ne (by omega), Y.slip hk, show aS (up a (5 + i) v) k = aS a k from up_ne (by omega)]
  · rw [fI_ne (by omega), Y.begun, show up a (5 + i) v 0 = a 0 from up_ne (by omega)]
  · rw [fI_ne (by omega), Y.now, show up a (5 + i) v 1 = a 1 from up_ne (by omega)]
  · rw [up_ne (by omega)]; exact Y.paid
  · rw [fI_ne (by omega), Y.count, show up a (5 + i) v 2 = a 2 from up_ne (by omega)]
  · rw [fI_ne (by omega), Y.next, show up a (5 + i) v 3 = a 3 from up_ne (by omega)]
  · rw [up_ne (by omega)] at hk
    rw [fI_ne (by omega), Y.id hk, show oI (up a (5 + i) v) k = oI a k from up_ne (by omega)]
  · rw [up_ne (by omega)] at hk
    rw [fI_ne (by omega), Y.fr hk, show oF (up a (5 + i) v) k = oF a k from up_ne (by omega)]
  · rw [up_ne (by omega)] at hk
    rw [fI_ne (by omega), Y.hr hk, show oH (up a (5 + i) v) k = oH a k from up_ne (by omega)]
  · rw [up_ne (by omega)] at hk
    rw [fI_ne (by omega), Y.co hk, show oC (up a (5 + i) v) k = oC a k from up_ne (by omega)]
theorem YR_slip {μ : fM} {y v i : Nat} {a : Nat → Nat} (Y : YR μ y a) (h8 : ∀ g, g < 6 → hF a g ≤ 8) (hi : i < 4) : YR (fI μ 15 y 0 i (nI v)) y (up a (17 + i) v) := by
  refine ⟨fun h hh => HV_eq (HV_out (Y.hv hh) (fun c k hc => fI_ne (by omega))) (h8 h hh) (fun i hi => (up_ne (by omega)).symm), fun k hk => ?_, fun k hk => ?_, ?_, ?_, ?_, ?_, ?_, fun k hk => ?_, fun k hk => ?_, fun k hk => ?_, fun k hk => ?_⟩
  · rw [fI_ne (by omega), Y.tide hk, show aT (up a (17 + i) v) k = aT a k from up_ne (by omega)]
  · by_cases e : k = i
    · subst e; rw [fI_at]; exact congrArg nI up_at.symm
    · rw [fI_ne (by omega), Y.slip hk, show aS (up a (17 + i) v) k = aS a k from up_ne (by omega)]
  · rw [fI_ne (by omega), Y.begun, show up a (17 + i) v 0 = a 0 from up_ne (by omega)]
  · rw [fI_ne (by omega), Y.now, show up a (17 + i) v 1 = a 1 from up_ne (by omega)]
  · rw [up_ne (by omega)]; exact Y.paid
  · rw [fI_ne (by omega), Y.count, show up a (17 + i) v 2 = a 2 from up_ne (by omega)]
  · rw [fI_ne (by omega), Y.next, show up a (17 + i) v 3 = a 3 from up_ne (by omega)]
  · rw [up_ne (by omega)] at hk
    rw [fI_ne (by omega), Y.id hk, show oI (up a (17 + i) v) k = oI a k from up_ne (by omega)]
  · rw [up_ne (by omega)] at hk
    rw [fI_ne (by omega), Y.fr hk, show oF (up a (17 + i) v) k = oF a k from up_ne (by omega)]
  · rw [up_ne (by omega)] at hk
    rw [fI_ne (by omega), Y.hr hk, show oH (up a (17 + i) v) k = oH a k from up_ne (by omega)]
  · rw [up_ne (by omega)] at hk
    rw [fI_ne (by omega), Y.co hk, show oC (up a (17 + i) v) k = oC a k from up_ne (by omega)]
theorem c_perform {μ : fM} {u k : Nat} {a : Nat → Nat} (Y : YR μ 0 a) (O : OKA u a) (hu : u + 1 ≤ 6200) (hk : k < 12) (x y z : Int32) (v : Int32) (hv : (sp k a x y z).1 = .inr v) : ∃ μ', sX6_perform [vR 6 0 0, vI (nI k), vI x, vI y, vI z] μ = some (.inl (some (vI v)), μ') ∧ YR μ' 0 (sp k a x y z).2 ∧ sY (yP 0) μ μ' := by
  have h6 := O.hulls
  have b8 : ∀ g, g < 6 → hF a g ≤ 8 := fun g hg => O.fr g hg
  have xh : ∀ {h' : Nat} {μ1 μ2 : fM}, sX' (hP 0 h') μ1 μ2 → sY (yP 0) μ1 μ2 := fun s => sY_ofX s (fun c y h k p => ⟨by have := p.1; omega, p.2.1⟩)
  match k, hk with
  | 0, _ =>
    have hb := Y.begun
    change (sHull a).1 = _ at hv
    show ∃ μ', _ ∧ YR μ' 0 (sHull a).2 ∧ _
    unfold sHull at hv ⊢
    by_cases q : a 0 = 6
    · rw [if_pos q] at hv; cases hv
    rw [if_neg q] at hv ⊢
    cases hv
    refine ⟨fI μ 6 0 0 4 (nI (a 0 + 1)), fsemV_of (Nat.le_of_ble_eq_true rfl) ?_, YR_begun Y b8, sY_fI ⟨by omega, rfl⟩⟩
    refine fE_step (y := fun zz => frun _ _ zz 74 [kR 6 0 0, kN 0, kX x, kX y, kX z] [] (fI μ 6 0 0 4 (μ.1 6 0 0 4 + 1)) 0 0) 8 (fun _ => rfl) ?_
    rw [hb, nI_1]
    refine fE_ret2 5 (fun _ => rfl) ?_
    show (Sum.inl (some (vI ((fI μ 6 0 0 4 (nI (a 0 + 1))).1 6 0 0 4 - 1))), fI μ 6 0 0 4 (nI (a 0 + 1))) = _
    rw [fI_at, nI_pred]
  | 1, _ =>
    change (sFrame a x y z).1 = _ at hv
    show ∃ μ', _ ∧ YR μ' 0 (sFrame a x y z).2 ∧ _
    unfold sFrame at hv ⊢
    by_cases q : okH a x
    · rw [if_pos q] at hv ⊢
      by_cases r : inR y 1 30 ∧ inR z 1 30
      · rw [if_pos r] at hv ⊢
        by_cases s : hS a (xN x) = 0 ∧ ¬ hF a (xN x) = 8
        · rw [if_pos s] at hv ⊢
          obtain ⟨h, hh, rfl⟩ := nI_ix (by omega) q.1 q.2
          obtain ⟨L, hL1, hL2, rfl⟩ := inR_of (lo := 1) (hi := 30) (by omega) (by omega) r.1
          obtain ⟨R, hR1, hR2, rfl⟩ := inR_of (lo := 1) (hi := 30) (by omega) (by omega) r.2
          have hx : xN (nI h) = h := nI_clamp (by omega)
          have ec : (nI h).toNatClampNeg = h := nI_clamp (by omega)
          rw [hx] at hv s ⊢
          rw [show xN (nI L) = L from nI_clamp (by omega), show xN (nI R) = R from nI_clamp (by omega)]
          cases hv
          have H := Y.hv (h := h) (by omega)
          have f8 : hF a h < 8 := by have := O.fr h (by omega); have := s.2; omega
          refine ⟨fAdd μ 0 h (hF a h) L R, fsemV_of (Nat.le_of_ble_eq_true rfl) ?_, YR_hull Y (by omega) b8 (HV_addF H f8) (aL_addF f8) fAdd_out, xh fAdd_out⟩
          skip
          refine fE_pos (by refine g_in (k := h) ?_ (show h < 6 from by omega) (show 6 < 2 ^ 31 from by decide); first | rfl | (simp (disch := omega) only [fLit, nI_add, pk_mul, pk_rem, pk_sub, nI_clamp]; done)) 6 (fun _ => rfl) ?_
          rw [ec]
          refine fE_call (c_addF H f8) 3 (fun _ => rfl) ?_
          exact fE_ret 1 (fun _ => rfl)
        · rw [if_neg s] at hv; cases hv
      · rw [if_neg r] at hv; cases hv
    · rw [if_neg q] at hv; cases hv
  | 2, _ =>
    change (sMirror a x).1 = _ at hv
    show ∃ μ', _ ∧ YR μ' 0 (sMirror a x).2 ∧ _
    unfold sMirror at hv ⊢
    by_cases q : okH a x
    · rw [if_pos q] at hv ⊢
      by_cases s : hS a (xN x) = 0
      · rw [if_pos s] at hv ⊢
        obtain ⟨h, hh, rfl⟩ := nI_ix (by omega) q.1 q.2
        have hx : xN (nI h) = h := nI_clamp (by omega)
        have ec : (nI h).toNatClampNeg = h := nI_clamp (by omega)
        rw [hx] at hv ⊢
        obtain ⟨μ', r1, r2, r3, r4⟩ := c_exch (Y.hv (h := h) (by omega)) (O.hb (by omega))
        rw [hv] at r1
        refine ⟨μ', fsemV_of (Nat.le_of_ble_eq_true rfl) ?_, YR_hull Y (by omega) b8 r2 r3 r4, xh r4⟩
        skip
        refine fE_pos (by refine g_in (k := h) ?_ (show h < 6 from by omega) (show 6 < 2 ^ 31 from by decide); first | rfl | (simp (disch := omega) only [fLit, nI_add, pk_mul, pk_rem, pk_sub, nI_clamp]; done)) 6 (fun _ => rfl) ?_
        rw [ec]
        refine fE_call (r1) 1 (fun _ => rfl) ?_
        exact fE_ret 1 (fun _ => rfl)
      · rw [if_neg s] at hv; cases hv
    · rw [if_neg q] at hv; cases hv
  | 3, _ =>
    change (sCargo a x y).1 = _ at hv
    show ∃ μ', _ ∧ YR μ' 0 (sCargo a x y).2 ∧ _
    unfold sCargo at hv ⊢
    by_cases q : okH a x
    · rw [if_pos q] at hv ⊢
      by_cases r : inR y 0 999
      · rw [if_pos r] at hv ⊢
        by_cases s : hS a (xN x) ≤ 1
        · rw [if_pos s] at hv ⊢
          obtain ⟨h, hh, rfl⟩ := nI_ix (by omega) q.1 q.2
          obtain ⟨n, hn1, hn2, rfl⟩ := inR_of (lo := 0) (hi := 999) (by omega) (by omega) r
          have hx : xN (nI h) = h := nI_clamp (by omega)
          have ec : (nI h).toNatClampNeg = h := nI_clamp (by omega)
          rw [hx] at hv ⊢
          rw [show xN (nI n) = n from nI_clamp (by omega)]
          cases hv
          have H := Y.hv (h := h) (by omega)
          have hc := H.2.2.1
          refine ⟨fI μ 1 0 h 5 (nI n), fsemV_of (Nat.le_of_ble_eq_true rfl) ?_, YR_hull Y (by omega) b8 (HV_cargo H (O.hb (by omega))) (aL_up (by omega)) (sX_fI ⟨Or.inl rfl, rfl, rfl⟩), sY_fI ⟨by omega, rfl⟩⟩
          skip
          refine fE_pos (by refine g_in (k := h) ?_ (show h < 6 from by omega) (show 6 < 2 ^ 31 from by decide); first | rfl | (simp (disch := omega) only [fLit, nI_add, pk_mul, pk_rem, pk_sub, nI_clamp]; done)) 6 (fun _ => rfl) ?_
          rw [ec]
          refine fE_call (c_cargo (μ := μ) (y := 0) (h := h) (v := nI n)) 2 (fun _ => rfl) ?_
          refine fE_ret2 1 (fun _ => rfl) ?_
          show (Sum.inl (some (vI (μ.1 1 0 h 5))), _) = _
          rw [hc]
        · rw [if_neg s] at hv; cases hv
      · rw [if_neg r] at hv; cases hv
    · rw [if_neg q] at hv; cases hv
  | 4, _ =>
    change (sLaunch a x).1 = _ at hv
    show ∃ μ', _ ∧ YR μ' 0 (sLaunch a x).2 ∧ _
    unfold sLaunch at hv ⊢
    by_cases q : okH a x
    · rw [if_pos q] at hv ⊢
      by_cases r : hS a (xN x) = 0
      · rw [if_pos r] at hv ⊢
        by_cases s : hWhy a (xN x) = 0
        · rw [if_pos s] at hv ⊢
          obtain ⟨h, hh, rfl⟩ := nI_ix (by omega) q.1 q.2
          have hx : xN (nI h) = h := nI_clamp (by omega)
          have ec : (nI h).toNatClampNeg = h := nI_clamp (by omega)
          rw [hx] at hv s ⊢
          cases hv
          have H := Y.hv (h := h) (by omega)
          have B := O.hb (g := h) (by omega)
          have H1 := HV_state (v := 1) H B
          have W := st_wgt (v := 1) B.1
          have ct := c_tried H1 (HB_state B (by omega))
          have hd : ¬ hDr a h (hWgt a h) = 41 := fun p => by
            unfold hWhy at s
            split at s
            · cases s
            · omega
          unfold hDr at ct hd ⊢
          rw [W.1, W.2, show dI (dDr (hWide a h) (hWgt a h)) = nI (dDr (hWide a h) (hWgt a h)) from if_neg hd] at ct
          refine ⟨fI μ 1 0 h 4 (nI 1), fsemV_of (Nat.le_of_ble_eq_true rfl) ?_, YR_hull Y (by omega) b8 H1 (aL_up (by omega)) (sX_fI ⟨Or.inl rfl, rfl, rfl⟩), sY_fI ⟨by omega, rfl⟩⟩
          skip
          refine fE_pos (by refine g_in (k := h) ?_ (show h < 6 from by omega) (show 6 < 2 ^ 31 from by decide); first | rfl | (simp (disch := omega) only [fLit, nI_add, pk_mul, pk_rem, pk_sub, nI_clamp]; done)) 6 (fun _ => rfl) ?_
          refine fE_step (y := fun zz => frun _ _ zz 125 [kR 6 0 0, kN 4, kN h, kX y, kX z] [] (fI μ 1 0 (nI h).toNatClampNeg 4 (nI 1)) 0 0) 2 (fun _ => rfl) ?_
          rw [ec]
          refine fE_pos (by refine g_in (k := h) ?_ (show h < 6 from by omega) (show 6 < 2 ^ 31 from by decide); first | rfl | (simp (disch := omega) only [fLit, nI_add, pk_mul, pk_rem, pk_sub, nI_clamp]; done)) 4 (fun _ => rfl) ?_
          rw [ec]
          refine fE_call (ct) 1 (fun _ => rfl) ?_
          exact fE_ret 1 (fun _ => rfl)
        · rw [if_neg s] at hv; cases hv
      · rw [if_neg r] at hv; cases hv
    · rw [if_neg q] at hv; cases hv
  | 5, _ =>
    change (sCaulk a x y).1 = _ at hv
    show ∃ μ', _ ∧ YR μ' 0 (sCaulk a x y).2 ∧ _
    unfold sCaulk at hv ⊢
    by_cases q : okH a x ∧ 0 ≤ y ∧ y < nI (hF a (xN x) - 1)
    · rw [if_pos q] at hv ⊢
      by_cases s : hS a (xN x) ≤ 1
      · rw [if_pos s] at hv ⊢
        obtain ⟨h, hh, rfl⟩ := nI_ix (by omega) q.1.1 q.1.2
        have hx : xN (nI h) = h := nI_clamp (by omega)
        have ec : (nI h).toNatClampNeg = h := nI_clamp (by omega)
        rw [hx] at hv q ⊢
        have f8 := O.fr h (by omega)
        obtain ⟨i, hi, rfl⟩ := nI_ix (by omega) q.2.1 q.2.2
        rw [show xN (nI i) = i from nI_clamp (by omega)] at hv ⊢
        cases hv
        have H := Y.hv (h := h) (by omega)
        have hc := H.2.2.2.2.2.2 i (by omega)
        rw [if_pos (by omega)] at hc
        refine ⟨fI μ 12 0 h i (nI 9), fsemV_of (Nat.le_of_ble_eq_true rfl) ?_, YR_hull Y (by omega) b8 (HV_caulk H (O.hb (by omega)) (by omega)) (aL_up (by omega)) (sX_fI ⟨Or.inr (Or.inr (Or.inr rfl)), rfl, rfl⟩), sY_fI ⟨by omega, rfl⟩⟩
        skip
        refine fE_pos (by refine g_in (k := h) ?_ (show h < 6 from by omega) (show 6 < 2 ^ 31 from by decide); first | rfl | (simp (disch := omega) only [fLit, nI_add, pk_mul, pk_rem, pk_sub, nI_clamp]; done)) 6 (fun _ => rfl) ?_
        rw [ec]
        refine fE_call (c_repl12 (μ := μ) (y := 0) (h := h) (i := i) (v := nI 9) (by omega)) 4 (fun _ => rfl) ?_
        refine fE_ret2 1 (fun _ => rfl) ?_
        show (Sum.inl (some (vI (μ.1 12 0 h i))), _) = _
        rw [hc]
      · rw [if_neg s] at hv; cases hv
    · rw [if_neg q] at hv; cases hv
  | 6, _ =>
    change (sPump a x y).1 = _ at hv
    show ∃ μ', _ ∧ YR μ' 0 (sPump a x y).2 ∧ _
    unfold sPump at hv ⊢
    by_cases q : okH a x
    · rw [if_pos q] at hv ⊢
      by_cases r : inR y 1 999
      · rw [if_pos r] at hv ⊢
        by_cases s : hS a (xN x) = 1
        · rw [if_pos s] at hv ⊢
          obtain ⟨h, hh, rfl⟩ := nI_ix (by omega) q.1 q.2
          obtain ⟨n, hn1, hn2, rfl⟩ := inR_of (lo := 1) (hi := 999) (by omega) (by omega) r
          have hx : xN (nI h) = h := nI_clamp (by omega)
          have ec : (nI h).toNatClampNeg = h := nI_clamp (by omega)
          rw [hx, show xN (nI n) = n from nI_clamp (by omega)] at hv
          rw [hx, show xN (nI n) = n from nI_clamp (by omega)]
          cases hv
          have H := Y.hv (h := h) (by omega)
          have B := O.hb (g := h) (by omega)
          have hw := H.2.2.2.1
          have bw := B.2.2.2.1
          have hj : sJ9_max_7cf53 [vI 0, vI (μ.1 1 0 h 6 - nI n)] μ = some (.inl (some (vI (nI (hW a h - n)))), μ) := by
            rw [hw, j_max, mx0 (by omega) (by omega)]
          refine ⟨fI μ 1 0 h 6 (nI (hW a h - n)), fsemV_of (Nat.le_of_ble_eq_true rfl) ?_, YR_hull Y (by omega) b8 (HV_water H B) (aL_up (by omega)) (sX_fI ⟨Or.inl rfl, rfl, rfl⟩), sY_fI ⟨by omega, rfl⟩⟩
          skip
          refine fE_pos (by refine g_in (k := h) ?_ (show h < 6 from by omega) (show 6 < 2 ^ 31 from by decide); first | rfl | (simp (disch := omega) only [fLit, nI_add, pk_mul, pk_rem, pk_sub, nI_clamp]; done)) 6 (fun _ => rfl) ?_
          refine fE_pos (by refine g_in (k := h) ?_ (show h < 6 from by omega) (show 6 < 2 ^ 31 from by decide); first | rfl | (simp (disch := omega) only [fLit, nI_add, pk_mul, pk_rem, pk_sub, nI_clamp]; done)) 5 (fun _ => rfl) ?_
          rw [ec]
          refine fE_call (hj) 4 (fun _ => rfl) ?_
          refine fE_pos (by refine g_in (k := h) ?_ (show h < 6 from by omega) (show 6 < 2 ^ 31 from by decide); first | rfl | (simp (disch := omega) only [fLit, nI_add, pk_mul, pk_rem, pk_sub, nI_clamp]; done)) 5 (fun _ => rfl) ?_
          refine fE_ret2 2 (fun _ => rfl) ?_
          show (Sum.inl (some (vI ((fI μ 1 0 h 6 (nI (hW a h - n))).1 1 0 (nI h).toNatClampNeg 6))), fI μ 1 0 h 6 (nI (hW a h - n))) = _
          rw [ec, fI_at]
        · rw [if_neg s] at hv; cases hv
      · rw [if_neg r] at hv; cases hv
    · rw [if_neg q] at hv; cases hv
  | 7, _ =>
    change (sHours a x).1 = _ at hv
    have hx : inR x 1 99 := Decidable.byContradiction fun q => by
      unfold sHours at hv
      rw [if_neg q] at hv
      cases hv
    obtain ⟨μ', r1, r2, r3⟩ := c_hours Y O hu hx
    rw [hv] at r1
    refine ⟨μ', fsemV_of (Nat.le_of_ble_eq_true rfl) ?_, r2, r3⟩
    skip
    refine fE_call (r1) 5 (fun _ => rfl) ?_
    exact fE_ret 1 (fun _ => rfl)
  | 8, _ =>
    change (sTide a x y).1 = _ at hv
    show ∃ μ', _ ∧ YR μ' 0 (sTide a x y).2 ∧ _
    unfold sTide at hv ⊢
    by_cases q : inR x 0 11 ∧ inR y 0 50
    · rw [if_pos q] at hv ⊢
      obtain ⟨i, hi1, hi2, rfl⟩ := inR_of (lo := 0) (hi := 11) (by omega) (by omega) q.1
      obtain ⟨n, hn1, hn2, rfl⟩ := inR_of (lo := 0) (hi := 50) (by omega) (by omega) q.2
      rw [show xN (nI i) = i from nI_clamp (by omega)] at hv ⊢
      rw [show xN (nI n) = n from nI_clamp (by omega)]
      cases hv
      have ht := Y.tide (k := i) (by omega)
      refine ⟨fI μ 14 0 0 i (nI n), fsemV_of (Nat.le_of_ble_eq_true rfl) ?_, YR_tide Y b8 (by omega), sY_fI ⟨by omega, rfl⟩⟩
      skip
      refine fE_call (c_repl14 (μ := μ) (y := 0) (i := i) (v := nI n) (by omega)) 7 (fun _ => rfl) ?_
      refine fE_ret2 1 (fun _ => rfl) ?_
      show (Sum.inl (some (vI (μ.1 14 0 0 i))), _) = _
      rw [ht]
    · rw [if_neg q] at hv; cases hv
  | 9, _ =>
    change (sOrder a x y z).1 = _ at hv
    show ∃ μ', _ ∧ YR μ' 0 (sOrder a x y z).2 ∧ _
    unfold sOrder at hv ⊢
    by_cases q : inR x 2 8 ∧ inR y 0 999 ∧ inR z 1 999
    · rw [if_pos q] at hv ⊢
      by_cases r : a 2 = 6
      · rw [if_pos r] at hv; cases hv
      · rw [if_neg r] at hv ⊢
        obtain ⟨F, hF1, hF2, rfl⟩ := inR_of (lo := 2) (hi := 8) (by omega) (by omega) q.1
        obtain ⟨T, hT1, hT2, rfl⟩ := inR_of (lo := 0) (hi := 999) (by omega) (by omega) q.2.1
        obtain ⟨C, hC1, hC2, rfl⟩ := inR_of (lo := 1) (hi := 999) (by omega) (by omega) q.2.2
        rw [show xN (nI F) = F from nI_clamp (by omega), show xN (nI T) = T from nI_clamp (by omega), show xN (nI C) = C from nI_clamp (by omega)]
        cases hv
        obtain ⟨μ', r1, r2, r3⟩ := c_append (F := F) (T := T) (C := C) Y O (by have := O.ords; omega)
        refine ⟨μ', fsemV_of (Nat.le_of_ble_eq_true rfl) ?_, r2, sY_ofX r3 (fun c y h k p => ⟨by have := p.1; omega, p.2.1⟩)⟩
        skip
        refine fE_call (r1) 8 (fun _ => rfl) ?_
        exact fE_ret 1 (fun _ => rfl)
    · rw [if_neg q] at hv; cases hv
  | 10, _ =>
    change (sDeliver a x y).1 = _ at hv
    show ∃ μ', _ ∧ YR μ' 0 (sDeliver a x y).2 ∧ _
    unfold sDeliver at hv ⊢
    by_cases q : oP a x = a 2
    · rw [if_pos q] at hv; cases hv
    · rw [if_neg q] at hv ⊢
      by_cases r : okH a y
      · rw [if_pos r] at hv ⊢
        by_cases s : hS a (xN y) = 1 ∧ hF a (xN y) = oF a (oP a x)
        · rw [if_pos s] at hv ⊢
          cases hv
          obtain ⟨μ', r1, r2, r3⟩ := c_handOver Y O q r
          refine ⟨μ', fsemV_of (Nat.le_of_ble_eq_true rfl) ?_, r2, r3⟩
          skip
          refine fE_call (r1) 6 (fun _ => rfl) ?_
          exact fE_ret 1 (fun _ => rfl)
        · rw [if_neg s] at hv; cases hv
      · rw [if_neg r] at hv; cases hv
  | 11, _ =>
    change (sSlip a x y).1 = _ at hv
    show ∃ μ', _ ∧ YR μ' 0 (sSlip a x y).2 ∧ _
    unfold sSlip at hv ⊢
    by_cases q : inR x 0 3 ∧ inR y 0 8
    · rw [if_pos q] at hv ⊢
      obtain ⟨i, hi1, hi2, rfl⟩ := inR_of (lo := 0) (hi := 3) (by omega) (by omega) q.1
      obtain ⟨n, hn1, hn2, rfl⟩ := inR_of (lo := 0) (hi := 8) (by omega) (by omega) q.2
      rw [show xN (nI i) = i from nI_clamp (by omega)] at hv ⊢
      rw [show xN (nI n) = n from nI_clamp (by omega)]
      cases hv
      have ht := Y.slip (k := i) (by omega)
      refine ⟨fI μ 15 0 0 i (nI n), fsemV_of (Nat.le_of_ble_eq_true rfl) ?_, YR_slip Y b8 (by omega), sY_fI ⟨by omega, rfl⟩⟩
      skip
      refine fE_call (c_repl15 (μ := μ) (y := 0) (i := i) (v := nI n) (by omega)) 7 (fun _ => rfl) ?_
      refine fE_ret2 1 (fun _ => rfl) ?_
      show (Sum.inl (some (vI (μ.1 15 0 0 i))), _) = _
      rw [ht]
    · rw [if_neg q] at hv; cases hv
