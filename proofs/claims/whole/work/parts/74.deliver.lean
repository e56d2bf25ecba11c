/-! A DELIVERY -/
theorem fJ_at {μ : fM} {c y h k : Nat} {v : Int64} : (fJ μ c y h k v).2.1 c y h k = v := if_pos ⟨rfl, rfl, rfl, rfl⟩
def sh (p m k : Nat) : Nat := if p ≤ k ∧ k + 1 < m then k + 1 else k
theorem shStep {f : Nat → Nat} {μ : fM} {c y m p n : Nat} (hm : p + 1 ≤ m) (hn : m < n) (H : ∀ k, k < n → μ.1 c y 0 k = nI (f (sh p m k))) : ∀ k, k < n → (fI μ c y 0 (m - 1) (μ.1 c y 0 m)).1 c y 0 k = nI (f (sh p (m + 1) k)) := fun k hk => by
  by_cases e : k = m - 1
  · subst e
    rw [fI_at, H m hn, show sh p m m = m from if_neg (by omega), show sh p (m + 1) (m - 1) = m - 1 + 1 from if_pos (by omega), show m - 1 + 1 = m from by omega]
  · rw [fI_ne (by omega), H k hk, show sh p m k = sh p (m + 1) k from by
      unfold sh
      by_cases q : p ≤ k ∧ k + 1 < m
      · rw [if_pos q, if_pos (by omega)]
      · rw [if_neg q, if_neg (by omega)]]
def shR (a : Nat → Nat) (y p m : Nat) (ν : fM) : Prop := (∀ k, k < a 2 → ν.1 16 y 0 k = nI (oI a (sh p m k))) ∧ (∀ k, k < a 2 → ν.1 17 y 0 k = nI (oF a (sh p m k))) ∧ (∀ k, k < a 2 → ν.1 18 y 0 k = nI (oH a (sh p m k))) ∧ (∀ k, k < a 2 → ν.1 19 y 0 k = nI (oC a (sh p m k)))
theorem c_rem_1 {y p : Nat} {a : Nat → Nat} (h6 : a 2 ≤ 6) (hp : p < a 2) : ∀ j m (μ : fM), m + j = a 2 → p + 1 ≤ m → μ.1 2 y 0 5 = nI (a 2) → shR a y p m μ → ∃ μ', fEnds (fun zz => frun eX2_removeAt tX2_removeAt zz 4 [kR 2 y 0, kN p, kN m] [] μ 0 0) (.inl none, μ') ∧ μ'.1 2 y 0 5 = nI (a 2 - 1) ∧ μ'.1 2 y 0 6 = μ.1 2 y 0 6 ∧ shR a y p (a 2) μ' ∧ sX' (oP' y) μ μ'
  | 0, m, μ, e, hm, hc, H => by
    refine ⟨fI μ 2 y 0 5 (nI (a 2 - 1)), ?_, fI_at, fI_ne (by omega), ?_, sX_fI ⟨by omega, rfl, rfl⟩⟩
    · skip
      refine fE_pos (by show μ.1 2 y 0 5 ≤ nI m; rw [hc]; exact nI_le (by omega) (by omega)) 4 (fun _ => rfl) ?_
      refine fE_ret2 7 (fun _ => rfl) ?_
      show (Sum.inl none, fI μ 2 y 0 5 (μ.1 2 y 0 5 - 1)) = _
      rw [hc, fLit 1, pk_sub (a := a 2) (b := 1) (by omega)]
    · obtain rfl : m = a 2 := e
      exact ⟨fun k hk => by rw [fI_ne (by omega)]; exact H.1 k hk, fun k hk => by rw [fI_ne (by omega)]; exact H.2.1 k hk, fun k hk => by rw [fI_ne (by omega)]; exact H.2.2.1 k hk, fun k hk => by rw [fI_ne (by omega)]; exact H.2.2.2 k hk⟩
  | j + 1, m, μ, e, hm, hc, H => by
    have em : (nI m).toNatClampNeg = m := nI_clamp (by omega)
    have e1 : (nI m - 1).toNatClampNeg = m - 1 := by rw [fLit 1, pk_sub (a := m) (b := 1) (by omega), nI_clamp (by omega)]
    have n0 : fI μ 16 y 0 (m - 1) (μ.1 16 y 0 m) = fI μ 16 y 0 (m - 1) (μ.1 16 y 0 m) := rfl
    have H1 : shR a y p (m + 1) (fI (fI (fI (fI μ 16 y 0 (m - 1) (μ.1 16 y 0 m)) 17 y 0 (m - 1) (μ.1 17 y 0 m)) 18 y 0 (m - 1) (μ.1 18 y 0 m)) 19 y 0 (m - 1) (μ.1 19 y 0 m)) := by
      refine ⟨fun k hk => ?_, fun k hk => ?_, fun k hk => ?_, fun k hk => ?_⟩
      · rw [fI_ne (by omega), fI_ne (by omega), fI_ne (by omega)]; exact shStep (f := oI a) hm (by omega) H.1 k hk
      · rw [fI_ne (by omega), fI_ne (by omega)]
        have := shStep (f := oF a) hm (by omega) H.2.1 k hk
        by_cases c : k = m - 1
        · subst c; rw [fI_at] at this ⊢; exact this
        · rw [fI_ne (by omega)] at this; rw [fI_ne (by omega), fI_ne (by omega)]; exact this
      · rw [fI_ne (by omega)]
        have := shStep (f := oH a) hm (by omega) H.2.2.1 k hk
        by_cases c : k = m - 1
        · subst c; rw [fI_at] at this ⊢; exact this
        · rw [fI_ne (by omega)] at this; rw [fI_ne (by omega), fI_ne (by omega), fI_ne (by omega)]; exact this
      · have := shStep (f := oC a) hm (by omega) H.2.2.2 k hk
        by_cases c : k = m - 1
        · subst c; rw [fI_at] at this ⊢; exact this
        · rw [fI_ne (by omega)] at this; rw [fI_ne (by omega), fI_ne (by omega), fI_ne (by omega), fI_ne (by omega)]; exact this
    obtain ⟨μ', r1, r2, r3, r4, r5⟩ := c_rem_1 (y := y) h6 hp j (m + 1) _ (by omega) (by omega) (by rw [fI_ne (by omega), fI_ne (by omega), fI_ne (by omega), fI_ne (by omega)]; exact hc) H1
    refine ⟨μ', ?_, r2, r3.trans (by rw [fI_ne (by omega), fI_ne (by omega), fI_ne (by omega), fI_ne (by omega)]), r4, sX_trans (sX_trans (sX_trans (sX_trans (sX_fI ⟨by omega, rfl, rfl⟩) (sX_fI ⟨by omega, rfl, rfl⟩)) (sX_fI ⟨by omega, rfl, rfl⟩)) (sX_fI ⟨by omega, rfl, rfl⟩)) r5⟩
    refine fE_neg (fun q => by change μ.1 2 y 0 5 ≤ nI m at q; rw [hc] at q; have := (nI_leI (by omega) (by omega)).mp q; omega) 4 (fun _ => rfl) ?_
    refine fE_pos (by refine g_in (k := m) ?_ (show m < 6 from by omega) (show 6 < 2 ^ 31 from by decide); first | rfl | (simp (disch := omega) only [fLit, nI_add, pk_mul, pk_rem, pk_sub, nI_clamp]; done)) 9 (fun _ => rfl) ?_
    refine fE_pos (by refine g_in (k := m - 1) ?_ (show m - 1 < 6 from by omega) (show 6 < 2 ^ 31 from by decide); first | rfl | (simp (disch := omega) only [fLit, nI_add, pk_mul, pk_rem, pk_sub, nI_clamp]; done)) 1 (fun _ => rfl) ?_
    refine fE_step (y := fun zz => frun _ _ zz 26 [kR 2 y 0, kN p, kN m] [] (fI μ 16 y 0 (nI m - 1).toNatClampNeg (μ.1 16 y 0 (nI m).toNatClampNeg)) 0 0) 0 (fun _ => rfl) ?_
    rw [e1, em]
    refine fE_pos (by refine g_in (k := m) ?_ (show m < 6 from by omega) (show 6 < 2 ^ 31 from by decide); first | rfl | (simp (disch := omega) only [fLit, nI_add, pk_mul, pk_rem, pk_sub, nI_clamp]; done)) 9 (fun _ => rfl) ?_
    refine fE_pos (by refine g_in (k := m - 1) ?_ (show m - 1 < 6 from by omega) (show 6 < 2 ^ 31 from by decide); first | rfl | (simp (disch := omega) only [fLit, nI_add, pk_mul, pk_rem, pk_sub, nI_clamp]; done)) 1 (fun _ => rfl) ?_
    refine fE_step (y := fun zz => frun _ _ zz 40 [kR 2 y 0, kN p, kN m] [] (fI (fI μ 16 y 0 (m - 1) (μ.1 16 y 0 m)) 17 y 0 (nI m - 1).toNatClampNeg ((fI μ 16 y 0 (m - 1) (μ.1 16 y 0 m)).1 17 y 0 (nI m).toNatClampNeg)) 0 0) 0 (fun _ => rfl) ?_
    rw [e1, em, show (fI μ 16 y 0 (m - 1) (μ.1 16 y 0 m)).1 17 y 0 m = μ.1 17 y 0 m from fI_ne (by omega)]
    refine fE_pos (by refine g_in (k := m) ?_ (show m < 6 from by omega) (show 6 < 2 ^ 31 from by decide); first | rfl | (simp (disch := omega) only [fLit, nI_add, pk_mul, pk_rem, pk_sub, nI_clamp]; done)) 9 (fun _ => rfl) ?_
    refine fE_pos (by refine g_in (k := m - 1) ?_ (show m - 1 < 6 from by omega) (show 6 < 2 ^ 31 from by decide); first | rfl | (simp (disch := omega) only [fLit, nI_add, pk_mul, pk_rem, pk_sub, nI_clamp]; done)) 1 (fun _ => rfl) ?_
    refine fE_step (y := fun zz => frun _ _ zz 54 [kR 2 y 0, kN p, kN m] [] (fI (fI (fI μ 16 y 0 (m - 1) (μ.1 16 y 0 m)) 17 y 0 (m - 1) (μ.1 17 y 0 m)) 18 y 0 (nI m - 1).toNatClampNeg ((fI (fI μ 16 y 0 (m - 1) (μ.1 16 y 0 m)) 17 y 0 (m - 1) (μ.1 17 y 0 m)).1 18 y 0 (nI m).toNatClampNeg)) 0 0) 0 (fun _ => rfl) ?_
    rw [e1, em, show (fI (fI μ 16 y 0 (m - 1) (μ.1 16 y 0 m)) 17 y 0 (m - 1) (μ.1 17 y 0 m)).1 18 y 0 m = μ.1 18 y 0 m from (fI_ne (by omega)).trans (fI_ne (by omega))]
    refine fE_pos (by refine g_in (k := m) ?_ (show m < 6 from by omega) (show 6 < 2 ^ 31 from by decide); first | rfl | (simp (disch := omega) only [fLit, nI_add, pk_mul, pk_rem, pk_sub, nI_clamp]; done)) 9 (fun _ => rfl) ?_
    refine fE_pos (by refine g_in (k := m - 1) ?_ (show m - 1 < 6 from by omega) (show 6 < 2 ^ 31 from by decide); first | rfl | (simp (disch := omega) only [fLit, nI_add, pk_mul, pk_rem, pk_sub, nI_clamp]; done)) 1 (fun _ => rfl) ?_
    refine fE_step (y := fun zz => frun _ _ zz 4 [kR 2 y 0, kN p, kX (nI m + 1)] [] (fI (fI (fI (fI μ 16 y 0 (m - 1) (μ.1 16 y 0 m)) 17 y 0 (m - 1) (μ.1 17 y 0 m)) 18 y 0 (m - 1) (μ.1 18 y 0 m)) 19 y 0 (nI m - 1).toNatClampNeg ((fI (fI (fI μ 16 y 0 (m - 1) (μ.1 16 y 0 m)) 17 y 0 (m - 1) (μ.1 17 y 0 m)) 18 y 0 (m - 1) (μ.1 18 y 0 m)).1 19 y 0 (nI m).toNatClampNeg)) 0 0) 2 (fun _ => rfl) ?_
    rw [e1, em, show (fI (fI (fI μ 16 y 0 (m - 1) (μ.1 16 y 0 m)) 17 y 0 (m - 1) (μ.1 17 y 0 m)) 18 y 0 (m - 1) (μ.1 18 y 0 m)).1 19 y 0 m = μ.1 19 y 0 m from (fI_ne (by omega)).trans ((fI_ne (by omega)).trans (fI_ne (by omega))), nI_1]
    exact r1
theorem c_rem {μ : fM} {y u p : Nat} {a : Nat → Nat} (Y : YR μ y a) (O : OKA u a) (hp : p < a 2) : ∃ μ', sX2_removeAt [vR 2 y 0, vI (nI p)] μ = some (.inl none, μ') ∧ μ'.1 2 y 0 5 = nI (a 2 - 1) ∧ μ'.1 2 y 0 6 = μ.1 2 y 0 6 ∧ shR a y p (a 2) μ' ∧ sX' (oP' y) μ μ' := by
  have o6 := O.ords
  have s0 : ∀ k, sh p (p + 1) k = k := fun k => if_neg (by omega)
  obtain ⟨μ', r1, r2, r3, r4, r5⟩ := c_rem_1 (y := y) o6 hp (a 2 - (p + 1)) (p + 1) μ (by omega) (Nat.le_refl _) Y.count ⟨fun k hk => by rw [s0]; exact Y.id hk, fun k hk => by rw [s0]; exact Y.fr hk, fun k hk => by rw [s0]; exact Y.hr hk, fun k hk => by rw [s0]; exact Y.co hk⟩
  refine ⟨μ', fsemV_of (Nat.le_of_ble_eq_true rfl) ?_, r2, r3, r4, r5⟩
  refine fE_step (y := fun zz => frun _ _ zz 4 [kR 2 y 0, kN p, kX (nI p + 1)] [] _ 0 0) 4 (fun _ => rfl) ?_
  rw [nI_1]
  exact r1
theorem aDel_at {a : Nat → Nat} {p h k : Nat} : aDel a p h k = (if k = 2 then a 2 - 1 else if 209 ≤ k ∧ k < 213 then 0 else if 189 + 4 * p ≤ k ∧ k < 209 then aPay a p h (k + 4) else aPay a p h k) := by
  unfold aDel
  simp only [up, aZr, aSh]
theorem aPay_at {a : Nat → Nat} {p h k : Nat} (h1 : k ≠ 4) (h2 : k ≠ 21 + 28 * h) : aPay a p h k = a k := (up_ne h2).trans (up_ne h1)
theorem l_add {x y : Nat} (h : x + y < 2 ^ 31) : (nI x).toInt64 + (nI y).toInt64 = (nI (x + y)).toInt64 := by
  rw [← lit_l (by omega), ← lit_l (by omega), ← lit_l h, Int64.ofNat_add]
theorem c_handOver {μ : fM} {u : Nat} {a : Nat → Nat} {x y : Int32} (Y : YR μ 0 a) (O : OKA u a) (hx : ¬ oP a x = a 2) (hy : okH a y) : ∃ μ', sX6_handOver [vR 6 0 0, vI x, vI y] μ = some (.inl (some (vI (nI (oD a (oP a x))))), μ') ∧ YR μ' 0 (aDel a (oP a x) (xN y)) ∧ sY (yP 0) μ μ' := by
  have h6 := O.hulls
  have o6 := O.ords
  have hle : oP a x ≤ a 2 := oP_le
  have hp : oP a x < a 2 := by omega
  obtain ⟨h, hh, rfl⟩ := nI_ix (by omega) hy.1 hy.2
  have hxh : xN (nI h) = h := nI_clamp (by omega)
  have ec : (nI h).toNatClampNeg = h := nI_clamp (by omega)
  rw [hxh]
  have hd := oD_le O (k := oP a x) (by omega)
  have hpd := O.paid
  have hu := O.u6
  have hn := Y.now
  obtain ⟨μ1, r1, r2, r3, r4, r5⟩ := c_rem Y O hp
  have hpos := c_pos Y O x
  rw [dF_ne hx] at hpos
  have hdue := c_due Y O hp
  rw [← hn] at hdue
  generalize oP a x = p at hp hle hd hpos hdue r1 r2 r3 r4 r5 hx ⊢
  have q : ∀ c h' k, ¬ (c = 2 ∨ c = 16 ∨ c = 17 ∨ c = 18 ∨ c = 19) → μ1.1 c 0 h' k = μ.1 c 0 h' k := fun c h' k q => r5.1 c 0 h' k (fun p => q p.1)
  have out : ∀ k, ¬ (k = 2 ∨ k = 4 ∨ k = 21 + 28 * h ∨ 189 ≤ k) → aDel a p h k = a k := fun k q => by
    rw [aDel_at, if_neg (by omega), if_neg (by omega), if_neg (by omega), aPay_at (by omega) (by omega)]
  have ord : ∀ k i, k < a 2 - 1 → i < 4 → aDel a p h (189 + 4 * k + i) = a (189 + 4 * sh p (a 2) k + i) := fun k i hk hi => by
    rw [aDel_at, if_neg (by omega), if_neg (by omega)]
    unfold sh
    by_cases c : p ≤ k
    · rw [if_pos (by omega), if_pos (by omega), aPay_at (by omega) (by omega)]
      congr 1
      omega
    · rw [if_neg (by omega), if_neg (by omega), aPay_at (by omega) (by omega)]
  have n2 : aDel a p h 2 = a 2 - 1 := by rw [aDel_at, if_pos rfl]
  have b8 : ∀ g, g < 6 → hF a g ≤ 8 := fun g hg => O.fr g hg
  have HH : HV (fI μ1 1 0 h 4 (nI 2)) 0 h (up a (21 + 28 * h) 2) h := HV_state (HV_out (Y.hv (h := h) (by omega)) (fun c k hc => q c h k (by omega))) (O.hb (by omega))
  refine ⟨fJ (fI μ1 1 0 h 4 (nI 2)) 6 0 0 6 ((nI (a 4 + oD a p)).toInt64), fsemV_of (Nat.le_of_ble_eq_true rfl) ?_, ?_, ?_⟩
  · skip
    refine fE_call (hpos) 4 (fun _ => rfl) ?_
    refine fE_call (hdue) 7 (fun _ => rfl) ?_
    refine fE_call (r1) 5 (fun _ => rfl) ?_
    refine fE_pos (by refine g_in (k := h) ?_ (show h < 6 from by omega) (show 6 < 2 ^ 31 from by decide); first | rfl | (simp (disch := omega) only [fLit, nI_add, pk_mul, pk_rem, pk_sub, nI_clamp]; done)) 4 (fun _ => rfl) ?_
    refine fE_step (y := fun zz => frun _ _ zz 53 [kR 6 0 0, kX x, kN h, kN p, kN (oD a p)] [] (fJ (fI μ1 1 0 (nI h).toNatClampNeg 4 (nI 2)) 6 0 0 6 (μ1.2.1 6 0 0 6 + (nI (oD a p)).toInt64)) 0 0) 9 (fun _ => rfl) ?_
    rw [ec, show μ1.2.1 6 0 0 6 = (nI (a 4)).toInt64 from by rw [r5.2]; exact Y.paid, l_add (by omega)]
    exact fE_ret 2 (fun _ => rfl)
  · refine ⟨fun g hg => ?_, fun k hk => ?_, fun k hk => ?_, ?_, ?_, ?_, ?_, ?_, fun k hk => ?_, fun k hk => ?_, fun k hk => ?_, fun k hk => ?_⟩
    · by_cases e : g = h
      · subst e
        refine HV_eq (a := up a (21 + 28 * g) 2) HH (by rw [show hF (up a (21 + 28 * g) 2) g = hF a g from up_ne (by omega)]; exact b8 g hg) (fun i hi => ?_)
        by_cases e2 : i = 0
        · subst e2
          rw [aDel_at, if_neg (by omega), if_neg (by omega), if_neg (by omega)]
          exact up_at.trans up_at.symm
        · rw [out _ (by omega), up_ne (by omega)]
      · exact HV_eq (HV_out (Y.hv hg) (fun c k hc => (fI_ne (fun p => e p.2.2.2)).trans (q c g k (by omega)))) (b8 g hg) (fun i hi => (out _ (by omega)).symm)
    · show (fI μ1 1 0 h 4 (nI 2)).1 14 0 0 k = _
      rw [fI_ne (by omega), q 14 0 k (by omega), Y.tide hk, aT, aT, out _ (by omega)]
    · show (fI μ1 1 0 h 4 (nI 2)).1 15 0 0 k = _
      rw [fI_ne (by omega), q 15 0 k (by omega), Y.slip hk, aS, aS, out _ (by omega)]
    · show (fI μ1 1 0 h 4 (nI 2)).1 6 0 0 4 = _
      rw [fI_ne (by omega), q 6 0 4 (by omega), Y.begun, out 0 (by omega)]
    · show (fI μ1 1 0 h 4 (nI 2)).1 6 0 0 5 = _
      rw [fI_ne (by omega), q 6 0 5 (by omega), Y.now, out 1 (by omega)]
    · rw [aDel_at, if_neg (by omega), if_neg (by omega), if_neg (by omega)]
      rw [show aPay a p h 4 = a 4 + oD a p from (up_ne (by omega)).trans up_at]
      exact fJ_at
    · show (fI μ1 1 0 h 4 (nI 2)).1 2 0 0 5 = _
      rw [fI_ne (by omega), r2, n2]
    · show (fI μ1 1 0 h 4 (nI 2)).1 2 0 0 6 = _
      rw [fI_ne (by omega), r3, Y.next, out 3 (by omega)]
    · show (fI μ1 1 0 h 4 (nI 2)).1 16 0 0 k = _
      rw [n2] at hk
      rw [fI_ne (by omega), r4.1 k (by omega)]
      exact congrArg nI (ord k 0 hk (by omega)).symm
    · show (fI μ1 1 0 h 4 (nI 2)).1 17 0 0 k = _
      rw [n2] at hk
      rw [fI_ne (by omega), r4.2.1 k (by omega)]
      exact congrArg nI (ord k 1 hk (by omega)).symm
    · show (fI μ1 1 0 h 4 (nI 2)).1 18 0 0 k = _
      rw [n2] at hk
      rw [fI_ne (by omega), r4.2.2.1 k (by omega)]
      exact congrArg nI (ord k 2 hk (by omega)).symm
    · show (fI μ1 1 0 h 4 (nI 2)).1 19 0 0 k = _
      rw [n2] at hk
      rw [fI_ne (by omega), r4.2.2.2 k (by omega)]
      exact congrArg nI (ord k 3 hk (by omega)).symm
  · refine sY_trans (sY_ofX r5 (fun c y' h' k p => ⟨by have := p.1; omega, p.2.1⟩)) (sY_trans (sY_fI ⟨by omega, rfl⟩) ⟨fun _ _ _ _ _ => rfl, fun c y' h' k q => if_neg (fun p => q ⟨by omega, p.2.2.1⟩), rfl⟩)
