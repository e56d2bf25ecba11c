/-! THE LINE -/
def gL (μ : fM) (l : List Nat) : fM := hO 36 0 l.length (fI μ 8 0 0 16 (nI l.length)) (fun k => nI (l.getD k 0))
theorem hO_eq {K s n : Nat} {μ : fM} {f g : Nat → Int32} (h : ∀ k, s ≤ k → k < s + n → f k = g k) : hO K s n μ f = hO K s n μ g := by
  refine Prod.ext ?_ rfl
  funext c y h' k
  show (if c = K ∧ y = 0 ∧ h' = 0 ∧ s ≤ k ∧ k < s + n then f k else _) = (if c = K ∧ y = 0 ∧ h' = 0 ∧ s ≤ k ∧ k < s + n then g k else _)
  split
  · rename_i q; rw [h k q.2.2.2.1 q.2.2.2.2]
  · rfl
theorem getD_last (l : List Nat) (c : Nat) : (l ++ [c]).getD l.length 0 = c := by
  rw [List.getD_eq_getElem?_getD, List.getElem?_append_right (Nat.le_refl _), Nat.sub_self]
  rfl
theorem getD_front {l : List Nat} {c k : Nat} (h : k < l.length) : (l ++ [c]).getD k 0 = l.getD k 0 := by
  rw [List.getD_eq_getElem?_getD, List.getElem?_append_left h, ← List.getD_eq_getElem?_getD]
theorem gL_more {μ : fM} {l : List Nat} {c : Nat} : fI (fI (gL μ l) 36 0 0 l.length (nI c)) 8 0 0 16 (nI (l.length + 1)) = gL μ (l ++ [c]) := by
  have hm := hO_more (K := 36) (s := 0) (n := l.length) (μ := fI μ 8 0 0 16 (nI l.length)) (f := fun k => nI ((l ++ [c]).getD k 0)) (v := nI c) (by rw [Nat.zero_add, getD_last])
  rw [Nat.zero_add] at hm
  have e : gL μ l = hO 36 0 l.length (fI μ 8 0 0 16 (nI l.length)) (fun k => nI ((l ++ [c]).getD k 0)) := hO_eq fun k _ hk => by rw [getD_front (by omega)]
  rw [e, hm, hO_fI (by decide), fI_fI, gL, List.length_append, List.length_singleton]
theorem gL_n {μ : fM} {l : List Nat} {a : Nat → Nat} : (gA (gL μ l) a).1 8 0 0 16 = nI l.length := rfl
theorem g_sign (μ : fM) {a : Nat → Nat} {l : List Nat} {c : Nat} {v : Int32} (hv : v = nI c) (hl : l.length < 100) : sX8_sign [vR 8 0 0, vI v] (gA (gL μ l) a) = some (.inl none, gA (gL μ (l ++ [c])) a) := by
  subst hv
  refine fsemV_of (Nat.le_of_ble_eq_true rfl) ?_
  refine fE_pos (by exact g_in (k := l.length) gL_n hl (by decide)) 6 (fun _ => rfl) ?_
  refine fE_ret2 7 (fun _ => rfl) ?_
  show (Sum.inl none, fI (fI (gA (gL μ l) a) 36 0 0 ((gA (gL μ l) a).1 8 0 0 16).toNatClampNeg (nI c)) 8 0 0 16 ((fI (gA (gL μ l) a) 36 0 0 ((gA (gL μ l) a).1 8 0 0 16).toNatClampNeg (nI c)).1 8 0 0 16 + 1)) = _
  rw [show (fI (gA (gL μ l) a) 36 0 0 ((gA (gL μ l) a).1 8 0 0 16).toNatClampNeg (nI c)).1 8 0 0 16 = nI l.length from rfl, gL_n, nI_clamp (by omega), nI_1, gA_fI (by decide), gA_fI (by decide), gL_more]
def numT (v : Nat) : List Nat := if 9 < v then [48 + v / 10, 48 + v % 10] else [48 + v]
theorem numT_le {v : Nat} : (numT v).length ≤ 2 := by
  unfold numT
  split <;> simp
theorem g_writesNumber (μ : fM) {a : Nat → Nat} {l : List Nat} {v : Nat} (hv : v < 100) (hl : l.length < 90) : sX8_writesNumber [vR 8 0 0, vI (nI v)] (gA (gL μ l) a) = some (.inl none, gA (gL μ (l ++ numT v)) a) := by
  refine fsemV_of (Nat.le_of_ble_eq_true rfl) ?_
  unfold numT
  have e1 : (48 + nI v / 10 : Int32) = nI (48 + v / 10) := by
    rw [fLit, fLit, pk_div (by omega) (by decide) (by decide), nI_add]
  have e2 : (48 + (nI v - nI v / 10 * 10) : Int32) = nI (48 + v % 10) := by
    rw [fLit, fLit, pk_rem (by omega) (by decide) (by decide), nI_add]
  refine fE_ite 3 (fun _ => rfl) (fun q => ?_) (fun q => ?_)
  · skip
    simp (disch := omega) only [fLit, nI_add, pk_mul, pk_rem, nI_clamp, beq01, beq11, cond_false, cond_true, nI_leI, nI_ltI, nI_eq] at q
    rw [if_neg (by omega)]
    refine fE_call (g_sign μ (l := l) (c := 48 + v) (v := 48 + (nI v - nI v / 10 * 10)) (e2.trans (congrArg nI (by omega))) (by omega)) 7 (fun _ => rfl) ?_
    exact fE_ret 1 (fun _ => rfl)
  · skip
    simp (disch := omega) only [fLit, nI_add, pk_mul, pk_rem, nI_clamp, beq01, beq11, cond_false, cond_true, nI_leI, nI_ltI, nI_eq] at q
    rw [if_pos (by omega)]
    refine fE_call (g_sign μ (l := l) (c := 48 + v / 10) e1 (by omega)) 7 (fun _ => rfl) ?_
    refine fE_call (g_sign μ (l := l ++ [48 + v / 10]) (c := 48 + v % 10) e2 (by rw [List.length_append]; show _ + 1 < 100; omega)) 7 (fun _ => rfl) ?_
    refine fE_ret2 1 (fun _ => rfl) ?_
    rw [List.append_assoc]
    rfl
def letT (s : Nat) : Nat := if s = 0 then 98 else if s = 1 then 97 else if s = 2 then 100 else 115
def frT (a : Nat → Nat) (h k : Nat) : List Nat := [32] ++ numT (hD a h k 0) ++ [124] ++ numT (hD a h k 1) ++ (if k < hF a h - 1 then [126] ++ numT (hK a h k) else [])
def frsT (a : Nat → Nat) (h : Nat) : Nat → Nat → List Nat
  | 0, _ => []
  | j + 1, k => frT a h k ++ frsT a h j (k + 1)
def hullT (a : Nat → Nat) (h : Nat) : List Nat := numT h ++ [letT (hS a h)] ++ frsT a h (hF a h) 0
theorem frT_le {a : Nat → Nat} {h k : Nat} : (frT a h k).length ≤ 9 := by
  have h1 := numT_le (v := hD a h k 0)
  have h2 := numT_le (v := hD a h k 1)
  have h3 := numT_le (v := hK a h k)
  unfold frT
  simp only [List.length_append, List.length_cons, List.length_nil]
  split
  · simp only [List.length_append, List.length_cons, List.length_nil]
    omega
  · simp only [List.length_nil]
    omega
theorem g_write_1 (μ : fM) {u : Nat} {a : Nat → Nat} {h : Nat} {s : Int32} (O : OKA u a) (hh : h < 6) : ∀ j k (l : List Nat), k + j = hF a h → l.length + 9 * j < 80 → fEnds (fun zz => frun eX8_writeHull tX8_writeHull zz 72 [kR 8 0 0, kN h, kX s, kN k] [] (gA (gL μ l) a) 0 0) (.inl (some (vI (nI (l ++ frsT a h j k).length))), gA (gL μ (l ++ frsT a h j k)) a)
  | 0, k, l, e, hl => by
    have h8 := O.fr h hh
    refine fE_call (g_frames (gL μ l) (a := a) hh) 4 (fun _ => rfl) ?_
    refine fE_pos (by first | omega | (simp (disch := omega) only [fLit, nI_add, pk_mul, pk_rem, nI_clamp, beq01, beq11, cond_false, cond_true, nI_leI, nI_ltI, nI_eq]; done) | (simp (disch := omega) only [fLit, nI_add, pk_mul, pk_rem, nI_clamp, beq01, beq11, cond_false, cond_true, nI_leI, nI_ltI, nI_eq]; omega)) 1 (fun _ => rfl) ?_
    refine fE_ret2 3 (fun _ => rfl) ?_
    rw [frsT, List.append_nil]
    rfl
  | j + 1, k, l, e, hl => by
    have h8 := O.fr h hh
    have w0 := O.wd h k 0 hh (by omega) (by decide)
    have w1 := O.wd h k 1 hh (by omega) (by decide)
    have n0 := numT_le (v := hD a h k 0)
    have n1 := numT_le (v := hD a h k 1)
    have fl := frT_le (a := a) (h := h) (k := k)
    have ih := g_write_1 μ (s := s) O hh j (k + 1) (l ++ frT a h k) (by omega) (by rw [List.length_append]; omega)
    rw [List.append_assoc] at ih
    have ih' : ∀ x, l ++ frT a h k = x → fEnds (fun zz => frun eX8_writeHull tX8_writeHull zz 148 [kR 8 0 0, kN h, kX s, kN k] [] (gA (gL μ x) a) 0 0) (.inl (some (vI (nI (l ++ frsT a h (j + 1) k).length))), gA (gL μ (l ++ frsT a h (j + 1) k)) a) := fun x hx => by
      subst hx
      skip
      refine fE_step (y := fun zz => frun _ _ zz 72 [kR 8 0 0, kN h, kX s, kX (nI k + 1)] [] _ 0 0) 2 (fun _ => rfl) ?_
      rw [nI_1]
      exact ih
    refine fE_call (g_frames (gL μ l) (a := a) hh) 4 (fun _ => rfl) ?_
    refine fE_neg (by first | omega | (simp (disch := omega) only [fLit, nI_add, pk_mul, pk_rem, nI_clamp, beq01, beq11, cond_false, cond_true, nI_leI, nI_ltI, nI_eq]; done) | (simp (disch := omega) only [fLit, nI_add, pk_mul, pk_rem, nI_clamp, beq01, beq11, cond_false, cond_true, nI_leI, nI_ltI, nI_eq]; omega)) 1 (fun _ => rfl) ?_
    refine fE_call (g_sign μ (l := l) (c := 32) rfl (by omega)) 3 (fun _ => rfl) ?_
    refine fE_call (g_width (gL μ (l ++ [32])) (a := a) (f := k) (s := 0) hh (by omega) (by decide)) 6 (fun _ => rfl) ?_
    refine fE_call (g_writesNumber μ (l := l ++ [32]) (v := hD a h k 0) (by omega) (by simp only [List.length_append, List.length_cons, List.length_nil]; omega)) 1 (fun _ => rfl) ?_
    refine fE_call (g_sign μ (l := l ++ [32] ++ numT (hD a h k 0)) (c := 124) rfl (by simp only [List.length_append, List.length_cons, List.length_nil]; omega)) 3 (fun _ => rfl) ?_
    refine fE_call (g_width (gL μ (l ++ [32] ++ numT (hD a h k 0) ++ [124])) (a := a) (f := k) (s := 1) hh (by omega) (by decide)) 6 (fun _ => rfl) ?_
    refine fE_call (g_writesNumber μ (l := l ++ [32] ++ numT (hD a h k 0) ++ [124]) (v := hD a h k 1) (by omega) (by simp only [List.length_append, List.length_cons, List.length_nil]; omega)) 1 (fun _ => rfl) ?_
    refine fE_step (y := fun zz => frun _ _ zz 115 [kR 8 0 0, kN h, kX s, kN k] [] _ 0 0) 0 (fun _ => rfl) ?_
    refine fE_call (g_seams (gL μ (l ++ [32] ++ numT (hD a h k 0) ++ [124] ++ numT (hD a h k 1))) O hh) 4 (fun _ => rfl) ?_
    refine fE_ite 1 (fun _ => rfl) (fun q => ?_) (fun q => ?_)
    · skip
      simp (disch := omega) only [fLit, nI_add, pk_mul, pk_rem, nI_clamp, beq01, beq11, cond_false, cond_true, nI_leI, nI_ltI, nI_eq] at q
      refine ih' _ ?_
      unfold frT
      rw [if_neg (by omega)]
      simp only [List.append_assoc, List.append_nil]
    · skip
      simp (disch := omega) only [fLit, nI_add, pk_mul, pk_rem, nI_clamp, beq01, beq11, cond_false, cond_true, nI_leI, nI_ltI, nI_eq] at q
      have k9 := O.ck h k hh (by omega)
      have n2 := numT_le (v := hK a h k)
      refine fE_call (g_sign μ (l := l ++ [32] ++ numT (hD a h k 0) ++ [124] ++ numT (hD a h k 1)) (c := 126) rfl (by simp only [List.length_append, List.length_cons, List.length_nil]; omega)) 3 (fun _ => rfl) ?_
      refine fE_call (m_hullAt (nI h) _) 5 (fun _ => rfl) ?_
      refine fE_pos (by refine g_in (k := 21 + 28 * h + 20 + k) ?_ (show 21 + 28 * h + 20 + k < 213 from by omega) (show 213 < 2 ^ 31 from by decide); first | rfl | (simp (disch := omega) only [fLit, nI_add, pk_mul, pk_rem, pk_sub, nI_clamp]; done)) 5 (fun _ => rfl) ?_
      simp (disch := omega) only [fLit, nI_add, pk_mul, pk_rem, nI_clamp, beq01, beq11, cond_false, cond_true, gA_at']
      refine fE_call (g_writesNumber μ (l := l ++ [32] ++ numT (hD a h k 0) ++ [124] ++ numT (hD a h k 1) ++ [126]) (v := hK a h k) (by omega) (by simp only [List.length_append, List.length_cons, List.length_nil]; omega)) 1 (fun _ => rfl) ?_
      refine fE_step (y := fun zz => frun _ _ zz 148 [kR 8 0 0, kN h, kX s, kN k] [] _ 0 0) 0 (fun _ => rfl) ?_
      refine ih' _ ?_
      unfold frT
      rw [if_pos (by omega)]
      simp only [List.append_assoc, List.append_nil]
theorem gL_nil {μ : fM} : gL μ [] = fI μ 8 0 0 16 0 := hO_0
theorem g_writeHull (μ : fM) {u : Nat} {a : Nat → Nat} {h : Nat} (O : OKA u a) (hh : h < a 0) : sX8_writeHull [vR 8 0 0, vI (nI h)] (gA μ a) = some (.inl (some (vI (nI (hullT a h).length))), gA (gL (gT μ 0) (hullT a h)) a) := by
  have h6 := O.hulls
  have h8 := O.fr h (by omega)
  have hs := O.st h (by omega)
  have n0 := numT_le (v := h)
  have fin := fun s => g_write_1 (gT μ 0) (s := s) O (h := h) (by omega) (hF a h) 0 (numT h ++ [letT (hS a h)]) (by omega) (by simp only [List.length_append, List.length_cons, List.length_nil]; omega)
  have fin2 : fEnds (fun zz => frun eX8_writeHull tX8_writeHull zz 67 [kR 8 0 0, kN h, kN (hS a h), none] [vI (nI (letT (hS a h))), vR 8 0 0] (gA (gL (gT μ 0) (numT h)) a) 0 0) (.inl (some (vI (nI (hullT a h).length))), gA (gL (gT μ 0) (hullT a h)) a) := by
    skip
    refine fE_call (g_sign (gT μ 0) (l := numT h) (c := letT (hS a h)) rfl (by omega)) 1 (fun _ => rfl) ?_
    refine fE_step (y := fun zz => frun _ _ zz 72 [kR 8 0 0, kN h, kN (hS a h), kN 0] [] _ 0 0) 2 (fun _ => rfl) ?_
    exact fin _
  refine fsemV_of (Nat.le_of_ble_eq_true rfl) ?_
  refine fE_step (y := fun zz => frun _ _ zz 5 [kR 8 0 0, kN h, none, none] [] (fI (gA μ a) 8 0 0 9 0) 0 0) 3 (fun _ => rfl) ?_
  rw [gA_fI (by decide)]
  refine fE_call (g_isHull (gT μ 0) (a := a) (x := nI h) O) 3 (fun _ => rfl) ?_
  refine fE_neg (fun q => bI_0.mp q ⟨by rw [fLit]; exact nI_le (by omega) (by omega), nI_lt hh (by omega)⟩) 1 (fun _ => rfl) ?_
  refine fE_call (g_state (gT μ 0) (a := a) (h := h) (by omega)) 3 (fun _ => rfl) ?_
  refine fE_step (y := fun zz => frun _ _ zz 30 [kR 8 0 0, kN h, kN (hS a h), none] [] (fI (gA (gT μ 0) a) 8 0 0 16 0) 0 0) 4 (fun _ => rfl) ?_
  rw [gA_fI (by decide), ← gL_nil]
  refine fE_call (g_writesNumber (gT μ 0) (l := []) (v := h) (by omega) (by decide)) 3 (fun _ => rfl) ?_
  refine fE_ite 3 (fun _ => rfl) (fun q => ?_) (fun q => ?_)
  · skip
    simp (disch := omega) only [fLit, nI_add, pk_mul, pk_rem, nI_clamp, beq01, beq11, cond_false, cond_true, nI_leI, nI_ltI, nI_eq] at q
    refine fE_step (y := fun zz => frun _ _ zz 67 [kR 8 0 0, kN h, kN (hS a h), none] [vI (nI 98), vR 8 0 0] _ 0 0) 2 (fun _ => rfl) ?_
    have e : letT (hS a h) = 98 := if_pos q
    rw [e] at fin2
    exact fin2
  · skip
    simp (disch := omega) only [fLit, nI_add, pk_mul, pk_rem, nI_clamp, beq01, beq11, cond_false, cond_true, nI_leI, nI_ltI, nI_eq] at q
    refine fE_ite 3 (fun _ => rfl) (fun r => ?_) (fun r => ?_)
    · skip
      simp (disch := omega) only [fLit, nI_add, pk_mul, pk_rem, nI_clamp, beq01, beq11, cond_false, cond_true, nI_leI, nI_ltI, nI_eq] at r
      refine fE_step (y := fun zz => frun _ _ zz 67 [kR 8 0 0, kN h, kN (hS a h), none] [vI (nI 97), vR 8 0 0] _ 0 0) 2 (fun _ => rfl) ?_
      have e : letT (hS a h) = 97 := by
        rw [r]
        rfl
      rw [e] at fin2
      exact fin2
    · skip
      simp (disch := omega) only [fLit, nI_add, pk_mul, pk_rem, nI_clamp, beq01, beq11, cond_false, cond_true, nI_leI, nI_ltI, nI_eq] at r
      refine fE_ite 3 (fun _ => rfl) (fun t => ?_) (fun t => ?_)
      · skip
        simp (disch := omega) only [fLit, nI_add, pk_mul, pk_rem, nI_clamp, beq01, beq11, cond_false, cond_true, nI_leI, nI_ltI, nI_eq] at t
        refine fE_step (y := fun zz => frun _ _ zz 67 [kR 8 0 0, kN h, kN (hS a h), none] [vI (nI 100), vR 8 0 0] _ 0 0) 2 (fun _ => rfl) ?_
        have e : letT (hS a h) = 100 := by
          rw [t]
          rfl
        rw [e] at fin2
        exact fin2
      · skip
        simp (disch := omega) only [fLit, nI_add, pk_mul, pk_rem, nI_clamp, beq01, beq11, cond_false, cond_true, nI_leI, nI_ltI, nI_eq] at t
        refine fE_step (y := fun zz => frun _ _ zz 67 [kR 8 0 0, kN h, kN (hS a h), none] [vI (nI 115), vR 8 0 0] _ 0 0) 1 (fun _ => rfl) ?_
        have e : letT (hS a h) = 115 := by
          unfold letT
          rw [if_neg q, if_neg r, if_neg t]
        rw [e] at fin2
        exact fin2
theorem g_writeHull0 (μ : fM) {u : Nat} {a : Nat → Nat} {x : Int32} (O : OKA u a) (hx : ¬ okH a x) : sX8_writeHull [vR 8 0 0, vI x] (gA μ a) = some (.inl (some (vI (-1))), gA (gT μ 1) a) := by
  refine fsemV_of (Nat.le_of_ble_eq_true rfl) ?_
  refine fE_step (y := fun zz => frun _ _ zz 5 [kR 8 0 0, kX x, none, none] [] (fI (gA μ a) 8 0 0 9 0) 0 0) 3 (fun _ => rfl) ?_
  rw [gA_fI (by decide)]
  refine fE_call (g_isHull (gT μ 0) (a := a) (x := x) O) 3 (fun _ => rfl) ?_
  refine fE_pos (bI_0.mpr hx) 1 (fun _ => rfl) ?_
  refine fE_call (g_throwing0 μ a 1 0) 3 (fun _ => rfl) ?_
  exact fE_ret 1 (fun _ => rfl)
theorem nar_c : ∀ c, c < 128 → fnar 2 (((nI c).toUInt32 % 65536).toInt32) = nI c := by decide +kernel
theorem g_lineAt (μ : fM) {a : Nat → Nat} {l : List Nat} {k : Nat} (hk : k < l.length) (hl : l.length ≤ 100) (h16 : μ.1 8 0 0 16 = nI l.length) (hv : μ.1 36 0 0 k = nI (l.getD k 0)) (hc : l.getD k 0 < 128) : sX8_lineAt [vR 8 0 0, vI (nI k)] (gA μ a) = some (.inl (some (vI (nI (l.getD k 0)))), gA (gT μ 0) a) := by
  have h16' : (gA (gT μ 0) a).1 8 0 0 16 = nI l.length := h16
  have hv' : (gA (gT μ 0) a).1 36 0 0 k = nI (l.getD k 0) := hv
  have hi := m_inI (nI k) 0 ((gA (gT μ 0) a).1 8 0 0 16 - 1) (gA (gT μ 0) a)
  refine fsemV_of (Nat.le_of_ble_eq_true rfl) ?_
  refine fE_step (y := fun zz => frun _ _ zz 5 [kR 8 0 0, kN k] [] (fI (gA μ a) 8 0 0 9 0) 0 0) 3 (fun _ => rfl) ?_
  rw [gA_fI (by decide)]
  refine fE_call (hi) 9 (fun _ => rfl) ?_
  refine fE_neg (fun q => bI_0.mp q (by rw [h16', i_le_pred (by omega)]; exact ⟨by rw [fLit]; exact nI_le (by omega) (by omega), nI_lt hk (by omega)⟩)) 1 (fun _ => rfl) ?_
  refine fE_pos (by refine g_in (k := k) ?_ (show k < 100 from by omega) (show 100 < 2 ^ 31 from by decide); first | rfl | (simp (disch := omega) only [fLit, nI_add, pk_mul, pk_rem, pk_sub, nI_clamp]; done)) 4 (fun _ => rfl) ?_
  refine fE_ret2 3 (fun _ => rfl) ?_
  show (Sum.inl (some (vI (fnar 2 (((gA (gT μ 0) a).1 36 0 0 (nI k).toNatClampNeg).toUInt32 % 65536).toInt32))), _) = _
  rw [nI_clamp (by omega), hv', nar_c _ hc]
theorem g_lineAt0 (μ : fM) {a : Nat → Nat} {n : Nat} {x : Int32} (hn : n ≤ 100) (hx : ¬ (0 ≤ x ∧ x < nI n)) (h16 : μ.1 8 0 0 16 = nI n) : sX8_lineAt [vR 8 0 0, vI x] (gA μ a) = some (.inl (some (vI 65535)), gA (gT μ 1) a) := by
  have h16' : (gA (gT μ 0) a).1 8 0 0 16 = nI n := h16
  have hi := m_inI x 0 ((gA (gT μ 0) a).1 8 0 0 16 - 1) (gA (gT μ 0) a)
  refine fsemV_of (Nat.le_of_ble_eq_true rfl) ?_
  refine fE_step (y := fun zz => frun _ _ zz 5 [kR 8 0 0, kX x] [] (fI (gA μ a) 8 0 0 9 0) 0 0) 3 (fun _ => rfl) ?_
  rw [gA_fI (by decide)]
  refine fE_call (hi) 9 (fun _ => rfl) ?_
  refine fE_pos (bI_0.mpr (by rw [h16', i_le_pred (by omega)]; exact hx)) 1 (fun _ => rfl) ?_
  refine fE_call (g_throwing0 μ a 1 0) 3 (fun _ => rfl) ?_
  refine fE_ret2 2 (fun _ => rfl) ?_
  rfl
def qType (n : Nat) (x : Int32) : qR := if inR x 32 126 then (if n = 60 then .inl 2 else .inr (nI (n + 1))) else .inl 1
theorem g_type (μ : fM) {a : Nat → Nat} {n : Nat} (x : Int32) (hn : n ≤ 60) (h11 : μ.1 8 0 0 11 = nI n) : sX8_type [vR 8 0 0, vI x] (gA μ a) = some (.inl (some (vI (mVal (qType n x)))), gA (match qType n x with | .inl t => gT μ (nI t) | .inr _ => fI (fI (gT μ 0) 34 0 0 n x) 8 0 0 11 (nI (n + 1))) a) := by
  have h11' : (gA (gT μ 0) a).1 8 0 0 11 = nI n := h11
  refine fsemV_of (Nat.le_of_ble_eq_true rfl) ?_
  unfold qType
  refine fE_step (y := fun zz => frun _ _ zz 5 [kR 8 0 0, kX x] [] (fI (gA μ a) 8 0 0 9 0) 0 0) 3 (fun _ => rfl) ?_
  rw [gA_fI (by decide)]
  refine fE_call (m_inL x 32 126 (gA (gT μ 0) a) (by decide) (by decide)) 5 (fun _ => rfl) ?_
  refine fE_ite 1 (fun _ => rfl) (fun q => ?_) (fun q => ?_)
  · skip
    have q := bI_0.mp q
    refine fE_call (g_throwing0 μ a 1 0) 3 (fun _ => rfl) ?_
    refine fE_ret2 1 (fun _ => rfl) ?_
    rw [if_neg q]
    rfl
  · skip
    have q := bI_n.mp q
    refine fE_step (y := fun zz => frun _ _ zz 25 [kR 8 0 0, kX x] [] _ 0 0) 0 (fun _ => rfl) ?_
    rw [if_pos q]
    refine fE_ite 4 (fun _ => rfl) (fun r => ?_) (fun r => ?_)
    · skip
      have r : (gA (gT μ 0) a).1 8 0 0 11 = nI 60 := r
      rw [h11'] at r
      have r := (nI_eq (by omega) (by omega)).mp r
      refine fE_call (g_throwing0 μ a 2 0) 3 (fun _ => rfl) ?_
      refine fE_ret2 1 (fun _ => rfl) ?_
      rw [if_pos r]
      rfl
    · skip
      have r : ¬ (gA (gT μ 0) a).1 8 0 0 11 = nI 60 := r
      rw [h11'] at r
      have r : ¬ n = 60 := fun p => r (congrArg nI p)
      rw [if_neg r]
      refine fE_pos (by exact g_in (k := n) h11' (by omega : n < 60) (by decide)) 6 (fun _ => rfl) ?_
      refine fE_ret2 9 (fun _ => rfl) ?_
      show (Sum.inl (some (vI ((gA (gT μ 0) a).1 8 0 0 11 + 1))), fI (fI (gA (gT μ 0) a) 34 0 0 ((gA (gT μ 0) a).1 8 0 0 11).toNatClampNeg x) 8 0 0 11 ((gA (gT μ 0) a).1 8 0 0 11 + 1)) = (Sum.inl (some (vI (nI (n + 1)))), _)
      rw [h11', nI_1, nI_clamp (by omega), gA_fI (by decide), gA_fI (by decide)]
