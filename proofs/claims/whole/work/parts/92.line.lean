/-! THE CLASS'S LINE -/
def lnP (C _y _h _k : Nat) : Prop := C = 51
theorem YR_ln {μ μ' : fM} {a : Nat → Nat} (Y : YR μ 0 a) (S : sX' lnP μ μ') : YR μ' 0 a := YR_sY Y (sY_ofX (P := fun c _ => c = 51) S (fun c y h k p => p)) (fun c hc p => by have := hc.1; omega)
theorem HV_ln {μ μ' : fM} {y h g : Nat} {a : Nat → Nat} (H : HV μ y h a g) (S : sX' lnP μ μ') : HV μ' y h a g := HV_out H (fun c k hc => S.1 c y h k (fun p => by have p : c = 51 := p; omega))
/-- the line holds the letters l -/
def TL (μ : fM) (l : List Nat) : Prop := μ.1 51 1 0 0 = nI l.length ∧ ∀ k, k < l.length → μ.1 51 0 0 k = nI (l.getD k 0)
theorem fPush_TL {μ : fM} {l : List Nat} {c : Nat} {x : Int32} (T : TL μ l) (hl : l.length < 90) (hx : x = nI c) : TL (fPush μ x) (l ++ [c]) ∧ sX' lnP μ (fPush μ x) := by
  subst hx
  have e : (μ.1 51 1 0 0).toNatClampNeg = l.length := by rw [T.1]; exact nI_clamp (by omega)
  have P : fPush μ (nI c) = fI (fI μ 51 0 0 l.length (nI c)) 51 1 0 0 (nI (l.length + 1)) := by
    unfold fPush
    rw [e, T.1, nI_1]
  rw [P]
  refine ⟨⟨?_, fun k hk => ?_⟩, sX_trans (sX_fI rfl) (sX_fI rfl)⟩
  · rw [fI_at, List.length_append]
    rfl
  · rw [List.length_append] at hk
    have hk : k < l.length + 1 := hk
    rw [fI_ne (by omega)]
    by_cases c' : k = l.length
    · subst c'; rw [fI_at, getD_last]
    · rw [fI_ne (by omega), T.2 k (by omega), getD_front (by omega)]
theorem sb_C {μ : fM} {l : List Nat} {c : Nat} {x : Int32} (T : TL μ l) (hl : l.length < 90) (hc : c < 128) (hx : x = nI c) : ∃ μ', sSbC [vR 51 0 0, vI x] μ = some (.inl (some (vR 51 0 0)), μ') ∧ TL μ' (l ++ [c]) ∧ sX' lnP μ μ' := by
  have F := fPush_TL T hl hx
  refine ⟨_, ?_, F.1, F.2⟩
  show (if 0 ≤ x ∧ x < 128 ∧ 0 ≤ μ.1 51 1 0 0 ∧ μ.1 51 1 0 0 < 90 then some (Sum.inl (some (vR 51 0 0)), fPush μ x) else none) = _
  rw [if_pos]
  subst hx
  rw [T.1]
  exact ⟨nI_le (a := 0) (by omega) (by omega), nI_lt (b := 128) (by omega) (by omega), nI_le (a := 0) (by omega) (by omega), nI_lt (b := 90) (by omega) (by omega)⟩
theorem sb_I {μ : fM} {l : List Nat} {v : Nat} (T : TL μ l) (hl : l.length < 89) (hv : v < 100) : ∃ μ', sSbI [vR 51 0 0, vI (nI v)] μ = some (.inl (some (vR 51 0 0)), μ') ∧ TL μ' (l ++ numT v) ∧ sX' lnP μ μ' := by
  have g : (0 ≤ nI v ∧ nI v < 100 ∧ 0 ≤ μ.1 51 1 0 0 ∧ μ.1 51 1 0 0 < 90) := by
    rw [T.1]
    exact ⟨nI_le (a := 0) (by omega) (by omega), nI_lt (b := 100) (by omega) (by omega), nI_le (a := 0) (by omega) (by omega), nI_lt (b := 90) (by omega) (by omega)⟩
  have U : sSbI [vR 51 0 0, vI (nI v)] μ = (if 0 ≤ nI v ∧ nI v < 100 ∧ 0 ≤ μ.1 51 1 0 0 ∧ μ.1 51 1 0 0 < 90 then some (Sum.inl (some (vR 51 0 0)), if nI v < 10 then fPush μ (48 + nI v) else fPush (fPush μ (48 + nI v / 10)) (48 + (nI v - nI v / 10 * 10))) else none) := rfl
  rw [U, if_pos g]
  unfold numT
  by_cases c : 9 < v
  · rw [if_pos c, if_neg (show ¬ nI v < (10 : Int32) from fun p => by have := (nI_ltI (b := 10) (by omega) (by omega)).mp p; omega)]
    have e1 : (48 + nI v / 10 : Int32) = nI (48 + v / 10) := by
      rw [fLit, fLit, pk_div (by omega) (by decide) (by decide), nI_add]
    have e2 : (48 + (nI v - nI v / 10 * 10) : Int32) = nI (48 + v % 10) := by
      rw [fLit, fLit, pk_rem (by omega) (by decide) (by decide), nI_add]
    have F := fPush_TL T (by omega) e1
    have F2 := fPush_TL F.1 (by rw [List.length_append]; show l.length + 1 < 90; omega) e2
    rw [List.append_assoc] at F2
    exact ⟨_, rfl, F2.1, sX_trans F.2 F2.2⟩
  · rw [if_neg c, if_pos (show nI v < (10 : Int32) from nI_lt (b := 10) (by omega) (by omega))]
    have F := fPush_TL T (by omega) (show (48 + nI v : Int32) = nI (48 + v) by rw [fLit, nI_add])
    exact ⟨_, rfl, F.1, F.2⟩
theorem c_letter {μ : fM} {s : Nat} (hs : s ≤ 3) : sX7_stateLetter [vI (nI s)] μ = some (.inl (some (vI (nI (letT s)))), μ) := by
  refine fsem_of (Nat.le_of_ble_eq_true rfl) ?_
  rcases (show s = 0 ∨ s = 1 ∨ s = 2 ∨ s = 3 by omega) with e | e | e | e
  all_goals subst e
  · skip
    exact fE_ret 4 (fun _ => rfl)
  · skip
    exact fE_ret 4 (fun _ => rfl)
  · skip
    exact fE_ret 4 (fun _ => rfl)
  · skip
    exact fE_ret 4 (fun _ => rfl)
theorem fr_callV {E : fE} {t : fTb} {n pc : Nat} {L : List (Option fV)} {S : List fV} {μ μ' : fM} {cc ss nx a b : Nat} {v : Int32} {i : Nat} {ts : List Nat} {f : fS} (fc fs C C' c2 s2 : Nat) {vv : Option fV} (h : flk t pc = some (.invokevirtual i, nx, a, b, v, ts)) (hf : E.1[a]? = some (f, fc, fs)) (hE : E.2.1 = (C, C')) (ec : cc + fc = c2) (es : ss + fs = s2) (hc : c2 ≤ C) (hs : s2 ≤ C') (hb : (Nat.ble b S.length && Nat.ble (fcats (S.drop b)) 8) = true) (q : f (S.take b).reverse μ = some (.inl vv, μ')) : frun E t (n + 1) pc L S μ cc ss = frun E t n nx L (vv.toList ++ S.drop b) μ' c2 s2 := by
  subst ec es
  show (match flk t pc with | none => none | some o => fstep E o pc L S μ cc ss (frun E t n)) = _
  rw [h]
  show fcall E a b nx pc L S μ cc ss (frun E t n) = _
  unfold fcall
  rw [hf]
  show (bif Nat.ble (cc + fc) E.2.1.1 && (Nat.ble (ss + fs) E.2.1.2 && (Nat.ble b S.length && Nat.ble (fcats (S.drop b)) 8)) then _ else _) = _
  rw [hE]
  show (bif Nat.ble (cc + fc) C && (Nat.ble (ss + fs) C' && (Nat.ble b S.length && Nat.ble (fcats (S.drop b)) 8)) then fbind (f (S.take b).reverse μ) _ else _) = _
  rw [Nat.ble_eq_true_of_le hc, Nat.ble_eq_true_of_le hs, hb, q]
  rfl
theorem c_wh_1 {a : Nat → Nat} {h : Nat} (B : HB a h) : ∀ j k (μ : fM) (l : List Nat) cc ss, k + j = hF a h → l.length + 9 * j < 80 → cc + 6 * j ≤ 60 → ss + 1200 * j ≤ 12000 → HV μ 0 h a h → TL μ l → ∃ μ', fEnds (fun zz => frun eX7_writeHull tX7_writeHull zz 40 [kR 7 0 0, kN h, kR 1 0 h, kN k] [] μ cc ss) (.inl (some (vI (nI (l ++ frsT a h j k).length))), μ') ∧ TL μ' (l ++ frsT a h j k) ∧ sX' lnP μ μ'
  | 0, k, μ, l, cc, ss, e, hl, hcc, hss, H, T => by
    have hf := H.1
    have h8 := B.1
    have q : sSbLen [vR 51 0 0] μ = some (.inl (some (vI (μ.1 51 1 0 0))), μ) := rfl
    rw [T.1] at q
    obtain rfl : k = hF a h := e
    have e0 : frsT a h 0 (hF a h) = [] := rfl
    rw [e0, List.append_nil]
    refine ⟨μ, ?_, T, sX_refl⟩
    refine fE_pos (by show μ.1 1 0 h 3 ≤ nI (hF a h); rw [hf]; exact nI_le (Nat.le_refl _) (by omega)) 4 (fun _ => rfl) ?_
    refine fE_step (y := fun zz => frun _ _ zz 138 [kR 7 0 0, kN h, kR 1 0 h, kN (hF a h)] [vR 51 0 0] _ cc ss) 2 (fun _ => rfl) ?_
    refine fE_step 1 (fun _ => fr_callV (f := sSbLen) 0 0 60 12000 cc ss rfl rfl rfl rfl rfl (by omega) (by omega) rfl q) ?_
    exact fE_ret 1 (fun _ => rfl)
  | j + 1, k, μ, l, cc, ss, e, hl, hcc, hss, H, T => by
    have h8 := B.1
    have w0 := B.2.2.2.2.1 k 0 (by omega) (by decide)
    have w1 := B.2.2.2.2.1 k 1 (by omega) (by decide)
    have n0 := numT_le (v := hD a h k 0)
    have n1 := numT_le (v := hD a h k 1)
    have fl := frT_le (a := a) (h := h) (k := k)
    have nf : ¬ μ.1 1 0 h 3 ≤ nI k := fun p => by rw [H.1] at p; have := (nI_leI (by omega) (by omega)).mp p; omega
    obtain ⟨μ1, r1, T1, S1⟩ := sb_C (c := 32) (x := 32) T (by omega) (by decide) rfl
    have H1 := HV_ln H S1
    obtain ⟨μ2, r2, T2, S2⟩ := sb_I (v := hD a h k 0) T1 (by rw [List.length_append]; show l.length + 1 < 89; omega) (by omega)
    have H2 := HV_ln H1 S2
    have l2 : (l ++ [32] ++ numT (hD a h k 0)).length < 85 := by simp only [List.length_append, List.length_cons, List.length_nil]; omega
    obtain ⟨μ3, r3, T3, S3⟩ := sb_C (c := 124) (x := 124) T2 (by omega) (by decide) rfl
    have H3 := HV_ln H2 S3
    have l3 : (l ++ [32] ++ numT (hD a h k 0) ++ [124]).length < 86 := by rw [List.length_append]; show (l ++ [32] ++ numT (hD a h k 0)).length + 1 < 86; omega
    obtain ⟨μ4, r4, T4, S4⟩ := sb_I (v := hD a h k 1) T3 (by omega) (by omega)
    have H4 := HV_ln H3 S4
    have S14 := sX_trans S1 (sX_trans S2 (sX_trans S3 S4))
    have v1 := H1.2.2.2.2.1 k (by omega)
    have v3 := H3.2.2.2.2.2.1 k (by omega)
    have kc : (nI k).toNatClampNeg = k := nI_clamp (by omega)
    have hb1 : ∀ x, x ≤ 6 → cc + x ≤ 60 := fun x hx => by omega
    have hb2 : ∀ x, x ≤ 1200 → ss + x ≤ 12000 := fun x hx => by omega
    have hs := c_hasSeam H4 B (nI k)
    have start : ∀ res, fEnds (fun zz => frun eX7_writeHull tX7_writeHull zz 101 [kR 7 0 0, kN h, kR 1 0 h, kN k] [vI (bI (0 ≤ nI k ∧ nI k < nI (hF a h - 1)))] μ4 (cc + 4) (ss + 800)) res → fEnds (fun zz => frun eX7_writeHull tX7_writeHull zz 40 [kR 7 0 0, kN h, kR 1 0 h, kN k] [] μ cc ss) res := fun res R => by
      refine fE_neg (nf) 4 (fun _ => rfl) ?_
      refine fE_step (y := fun zz => frun _ _ zz 54 [kR 7 0 0, kN h, kR 1 0 h, kN k] [vI 32, vR 51 0 0] _ cc ss) 3 (fun _ => rfl) ?_
      refine fE_step 1 (fun _ => fr_callV (f := sSbC) 1 200 60 12000 (cc + 1) (ss + 200) rfl rfl rfl rfl rfl (hb1 _ (by decide)) (hb2 _ (by decide)) rfl r1) ?_
      refine fE_pos (by refine g_in (k := k) ?_ (show k < 8 from by omega) (show 8 < 2 ^ 31 from by decide); first | rfl | (simp (disch := omega) only [fLit, nI_add, pk_mul, pk_rem, pk_sub, nI_clamp]; done)) 7 (fun _ => rfl) ?_
      refine fE_step (y := fun zz => frun _ _ zz 68 [kR 7 0 0, kN h, kR 1 0 h, kN k] [vI (μ1.1 10 0 h (nI k).toNatClampNeg), vR 51 0 0] _ (cc + 1) (ss + 200)) 0 (fun _ => rfl) ?_
      rw [kc, v1]
      refine fE_step 1 (fun _ => fr_callV (f := sSbI) 1 200 60 12000 (cc + 2) (ss + 400) rfl rfl rfl (Nat.add_assoc cc 1 1) (Nat.add_assoc ss 200 200) (hb1 _ (by decide)) (hb2 _ (by decide)) rfl r2) ?_
      refine fE_step (y := fun zz => frun _ _ zz 78 [kR 7 0 0, kN h, kR 1 0 h, kN k] [vI 124, vR 51 0 0] _ (cc + 2) (ss + 400)) 4 (fun _ => rfl) ?_
      refine fE_step 1 (fun _ => fr_callV (f := sSbC) 1 200 60 12000 (cc + 3) (ss + 600) rfl rfl rfl (Nat.add_assoc cc 2 1) (Nat.add_assoc ss 400 200) (hb1 _ (by decide)) (hb2 _ (by decide)) rfl r3) ?_
      refine fE_pos (by refine g_in (k := k) ?_ (show k < 8 from by omega) (show 8 < 2 ^ 31 from by decide); first | rfl | (simp (disch := omega) only [fLit, nI_add, pk_mul, pk_rem, pk_sub, nI_clamp]; done)) 7 (fun _ => rfl) ?_
      refine fE_step (y := fun zz => frun _ _ zz 92 [kR 7 0 0, kN h, kR 1 0 h, kN k] [vI (μ3.1 11 0 h (nI k).toNatClampNeg), vR 51 0 0] _ (cc + 3) (ss + 600)) 0 (fun _ => rfl) ?_
      rw [kc, v3]
      refine fE_step 1 (fun _ => fr_callV (f := sSbI) 1 200 60 12000 (cc + 4) (ss + 800) rfl rfl rfl (Nat.add_assoc cc 3 1) (Nat.add_assoc ss 600 200) (hb1 _ (by decide)) (hb2 _ (by decide)) rfl r4) ?_
      refine fE_step (y := fun zz => frun _ _ zz 98 [kR 7 0 0, kN h, kR 1 0 h, kN k] [vI (nI k), vR 1 0 h] _ (cc + 4) (ss + 800)) 3 (fun _ => rfl) ?_
      refine fE_step 1 (fun _ => fr_callV (f := sX1_hasSeam) 0 0 60 12000 (cc + 4) (ss + 800) rfl rfl rfl rfl rfl (hb1 _ (by decide)) (hb2 _ (by decide)) rfl hs) ?_
      exact R
    by_cases q : k < hF a h - 1
    · have k9 := B.2.2.2.2.2 k (by omega)
      have n2 := numT_le (v := hK a h k)
      have l4 : (l ++ [32] ++ numT (hD a h k 0) ++ [124] ++ numT (hD a h k 1)).length < 88 := by rw [List.length_append]; omega
      obtain ⟨μ5, r5, T5, S5⟩ := sb_C (c := 126) (x := 126) T4 (by omega) (by decide) rfl
      have H5 := HV_ln H4 S5
      have v5 := H5.2.2.2.2.2.2 k (by omega)
      rw [if_pos (by omega)] at v5
      have l5 : (l ++ [32] ++ numT (hD a h k 0) ++ [124] ++ numT (hD a h k 1) ++ [126]).length < 89 := by
        have : (l ++ [32] ++ numT (hD a h k 0) ++ [124] ++ numT (hD a h k 1) ++ [126]).length ≤ l.length + 7 := by simp only [List.length_append, List.length_cons, List.length_nil]; omega
        omega
      obtain ⟨μ6, r6, T6, S6⟩ := sb_I (v := hK a h k) T5 l5 (by omega)
      have H6 := HV_ln H5 S6
      have e6 : l ++ [32] ++ numT (hD a h k 0) ++ [124] ++ numT (hD a h k 1) ++ [126] ++ numT (hK a h k) = l ++ frT a h k := by
        unfold frT
        rw [if_pos q]
        simp only [List.append_assoc]
      rw [e6] at T6
      obtain ⟨μ', s1, s2, s3⟩ := c_wh_1 B j (k + 1) μ6 (l ++ frT a h k) (cc + 6) (ss + 1200) (by omega) (by rw [List.length_append]; omega) (by omega) (by omega) H6 T6
      rw [List.append_assoc] at s1 s2
      refine ⟨μ', start _ ?_, s2, sX_trans S14 (sX_trans S5 (sX_trans S6 s3))⟩
      refine fE_neg (fun p => bI_0.mp p ⟨nI_le (a := 0) (by omega) (by omega), nI_lt q (by omega)⟩) 1 (fun _ => rfl) ?_
      refine fE_step (y := fun zz => frun _ _ zz 110 [kR 7 0 0, kN h, kR 1 0 h, kN k] [vI 126, vR 51 0 0] _ (cc + 4) (ss + 800)) 3 (fun _ => rfl) ?_
      refine fE_step 1 (fun _ => fr_callV (f := sSbC) 1 200 60 12000 (cc + 5) (ss + 1000) rfl rfl rfl (Nat.add_assoc cc 4 1) (Nat.add_assoc ss 800 200) (hb1 _ (by decide)) (hb2 _ (by decide)) rfl r5) ?_
      refine fE_pos (by refine g_in (k := k) ?_ (show k < 8 from by omega) (show 8 < 2 ^ 31 from by decide); first | rfl | (simp (disch := omega) only [fLit, nI_add, pk_mul, pk_rem, pk_sub, nI_clamp]; done)) 7 (fun _ => rfl) ?_
      refine fE_step (y := fun zz => frun _ _ zz 124 [kR 7 0 0, kN h, kR 1 0 h, kN k] [vI (μ5.1 12 0 h (nI k).toNatClampNeg), vR 51 0 0] _ (cc + 5) (ss + 1000)) 0 (fun _ => rfl) ?_
      rw [kc, v5]
      refine fE_step 1 (fun _ => fr_callV (f := sSbI) 1 200 60 12000 (cc + 6) (ss + 1200) rfl rfl rfl (Nat.add_assoc cc 5 1) (Nat.add_assoc ss 1000 200) (hb1 _ (by decide)) (hb2 _ (by decide)) rfl r6) ?_
      refine fE_step (y := fun zz => frun _ _ zz 40 [kR 7 0 0, kN h, kR 1 0 h, kX (nI k + 1)] [] _ (cc + 6) (ss + 1200)) 3 (fun _ => rfl) ?_
      rw [nI_1]
      exact s1
    · have e4 : l ++ [32] ++ numT (hD a h k 0) ++ [124] ++ numT (hD a h k 1) = l ++ frT a h k := by
        unfold frT
        rw [if_neg q]
        simp only [List.append_assoc, List.append_nil]
      rw [e4] at T4
      obtain ⟨μ', s1, s2, s3⟩ := c_wh_1 B j (k + 1) μ4 (l ++ frT a h k) (cc + 4) (ss + 800) (by omega) (by rw [List.length_append]; omega) (by omega) (by omega) H4 T4
      rw [List.append_assoc] at s1 s2
      refine ⟨μ', start _ ?_, s2, sX_trans S14 s3⟩
      refine fE_pos (bI_0.mpr (fun p => q ((nI_ltI (by omega) (by omega)).mp p.2))) 1 (fun _ => rfl) ?_
      refine fE_step (y := fun zz => frun _ _ zz 40 [kR 7 0 0, kN h, kR 1 0 h, kX (nI k + 1)] [] _ (cc + 4) (ss + 800)) 2 (fun _ => rfl) ?_
      rw [nI_1]
      exact s1
theorem k_writeHull {μ : fM} {u : Nat} {a : Nat → Nat} {h : Nat} (Y : YR μ 0 a) (O : OKA u a) (hh : h < a 0) : ∃ μ', sX7_writeHull [vR 7 0 0, vI (nI h)] μ = some (.inl (some (vI (nI (hullT a h).length))), μ') ∧ TL μ' (hullT a h) ∧ sX' lnP μ μ' := by
  have h6 := O.hulls
  have B := O.hb (g := h) (by omega)
  have n0 := numT_le (v := h)
  have T0 : TL (fI μ 51 1 0 0 0) [] := ⟨fI_at, fun k hk => absurd hk (Nat.not_lt_zero _)⟩
  have S0 : sX' lnP μ (fI μ 51 1 0 0 0) := sX_fI rfl
  have q0 : sSbSet [vR 51 0 0, vI 0] μ = some (.inl none, fI μ 51 1 0 0 0) := rfl
  obtain ⟨μ1, r1, T1, S1⟩ := sb_I (v := h) T0 (by decide) (by omega)
  have H1 := HV_ln (HV_ln (Y.hv (h := h) (by omega)) S0) S1
  have hs := H1.2.1
  have cl := c_letter (μ := μ1) (s := hS a h) B.2.1
  rw [← hs] at cl
  rw [List.nil_append] at T1
  obtain ⟨μ2, r2, T2, S2⟩ := sb_C (c := letT (hS a h)) T1 (by omega) (by unfold letT; split; decide; split; decide; split <;> decide) rfl
  obtain ⟨μ', s1, s2, s3⟩ := c_wh_1 B (hF a h) 0 μ2 (numT h ++ [letT (hS a h)]) 3 406 (Nat.zero_add _) (by have := B.1; simp only [List.length_append, List.length_cons, List.length_nil]; omega) (by have := B.1; omega) (by have := B.1; omega) (HV_ln H1 S2) T2
  refine ⟨μ', fsemV_of (Nat.le_of_ble_eq_true rfl) ?_, s2, sX_trans S0 (sX_trans S1 (sX_trans S2 s3))⟩
  refine fE_call (c_known Y h6 hh) 3 (fun _ => rfl) ?_
  refine fE_step (y := fun zz => frun _ _ zz 11 [kR 7 0 0, kN h, kR 1 0 h, none] [vI 0, vR 51 0 0] _ 1 6) 4 (fun _ => rfl) ?_
  refine fE_step 1 (fun _ => fr_callV (f := sSbSet) 0 0 60 12000 1 6 rfl rfl rfl rfl rfl (by decide) (by decide) rfl q0) ?_
  refine fE_step (y := fun zz => frun _ _ zz 19 [kR 7 0 0, kN h, kR 1 0 h, none] [vI (nI h), vR 51 0 0] _ 1 6) 3 (fun _ => rfl) ?_
  refine fE_step 1 (fun _ => fr_callV (f := sSbI) 1 200 60 12000 2 206 rfl rfl rfl rfl rfl (by decide) (by decide) rfl r1) ?_
  refine fE_step (y := fun zz => frun _ _ zz 31 [kR 7 0 0, kN h, kR 1 0 h, none] [vI (μ1.1 1 0 h 4), vR 51 0 0] _ 2 206) 5 (fun _ => rfl) ?_
  refine fE_call (cl) 1 (fun _ => rfl) ?_
  refine fE_step (y := fun zz => frun _ _ zz 34 [kR 7 0 0, kN h, kR 1 0 h, none] [vI (nI (letT (hS a h))), vR 51 0 0] _ 2 206) 0 (fun _ => rfl) ?_
  refine fE_step 1 (fun _ => fr_callV (f := sSbC) 1 200 60 12000 3 406 rfl rfl rfl rfl rfl (by decide) (by decide) rfl r2) ?_
  refine fE_step (y := fun zz => frun _ _ zz 40 [kR 7 0 0, kN h, kR 1 0 h, kN 0] [] _ 3 406) 3 (fun _ => rfl) ?_
  exact s1
theorem k_writeHull0 {μ : fM} {a : Nat → Nat} {x : Int32} (Y : YR μ 0 a) (hx : ¬ okH a x) : sX7_writeHull [vR 7 0 0, vI x] μ = some (.inr 0, μ) := by
  refine fsemV_of (Nat.le_of_ble_eq_true rfl) ?_
  refine fE_call (c_known0 Y hx) 3 (fun _ => rfl) ?_
  exact fE_ret 0 (fun _ => rfl)
theorem nar_c2 : ∀ c, c < 128 → fnar 2 (nI c) = nI c := by decide +kernel
theorem k_lineAt {μ : fM} {l : List Nat} {k : Nat} (T : TL μ l) (hk : k < l.length) (hl : l.length ≤ 100) (hc : l.getD k 0 < 128) : sX7_lineAt [vR 7 0 0, vI (nI k)] μ = some (.inl (some (vI (nI (l.getD k 0)))), μ) := by
  have q : sSbLen [vR 51 0 0] μ = some (.inl (some (vI (μ.1 51 1 0 0))), μ) := rfl
  rw [T.1] at q
  have q2 : sSbAt [vR 51 0 0, vI (nI k)] μ = some (.inl (some (vI (nI (l.getD k 0)))), μ) := by
    show (if fin (nI k) (μ.1 51 1 0 0).toNatClampNeg then some (Sum.inl (some (vI (μ.1 51 0 0 (nI k).toNatClampNeg))), μ) else none) = _
    rw [T.1, nI_clamp (show l.length < 2 ^ 31 by omega), if_pos (g_in rfl hk (by omega)), nI_clamp (show k < 2 ^ 31 by omega), T.2 k hk]
  refine fsemV_of (Nat.le_of_ble_eq_true rfl) ?_
  refine fE_neg (Int32.not_lt.mpr (nI_le (a := 0) (by omega) (by omega))) 2 (fun _ => rfl) ?_
  refine fE_step (y := fun zz => frun _ _ zz 9 [kR 7 0 0, kN k] [vR 51 0 0, vI (nI k)] _ 0 0) 3 (fun _ => rfl) ?_
  refine fE_step 1 (fun _ => fr_callV (f := sSbLen) 0 0 1 6 0 0 rfl rfl rfl rfl rfl (by decide) (by decide) rfl q) ?_
  refine fE_pos (nI_lt hk (by omega)) 1 (fun _ => rfl) ?_
  refine fE_step (y := fun zz => frun _ _ zz 31 [kR 7 0 0, kN k] [vI (nI k), vR 51 0 0] _ 0 0) 3 (fun _ => rfl) ?_
  refine fE_step 1 (fun _ => fr_callV (f := sSbAt) 0 0 1 6 0 0 rfl rfl rfl rfl rfl (by decide) (by decide) rfl q2) ?_
  refine fE_ret2 1 (fun _ => rfl) ?_
  show (Sum.inl (some (vI (fnar 2 (nI (l.getD k 0))))), μ) = _
  rw [nar_c2 _ hc]
theorem k_lineAt0 {μ : fM} {l : List Nat} {x : Int32} (T : TL μ l) (hx : ¬ (0 ≤ x ∧ x < nI l.length)) : sX7_lineAt [vR 7 0 0, vI x] μ = some (.inr 0, μ) := by
  have q : sSbLen [vR 51 0 0] μ = some (.inl (some (vI (μ.1 51 1 0 0))), μ) := rfl
  rw [T.1] at q
  refine fsemV_of (Nat.le_of_ble_eq_true rfl) ?_
  refine fE_ite 2 (fun _ => rfl) (fun c => ?_) (fun c => ?_)
  · skip
    exact fE_ret 1 (fun _ => rfl)
  · skip
    refine fE_step (y := fun zz => frun _ _ zz 9 [kR 7 0 0, kX x] [vR 51 0 0, vI x] _ 0 0) 3 (fun _ => rfl) ?_
    refine fE_step 1 (fun _ => fr_callV (f := sSbLen) 0 0 1 6 0 0 rfl rfl rfl rfl rfl (by decide) (by decide) rfl q) ?_
    refine fE_neg (fun p => hx ⟨Int32.not_lt.mp c, p⟩) 1 (fun _ => rfl) ?_
    exact fE_ret 1 (fun _ => rfl)
