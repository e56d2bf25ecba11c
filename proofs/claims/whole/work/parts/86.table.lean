/-! COMMON STRETCHES BY TABLE -/
def tE (a : Nat → Nat) (h g : Nat) : Nat → Nat → Nat
  | 0, _ => 0
  | _ + 1, 0 => 0
  | f + 1, k + 1 => if hM a h f g k then tE a h g f k + 1 else 0
theorem tE_0 {a : Nat → Nat} {h g : Nat} : ∀ f, tE a h g f 0 = 0
  | 0 => rfl
  | _ + 1 => rfl
theorem tE_le {a : Nat → Nat} {h g : Nat} : ∀ {f k : Nat}, tE a h g f k ≤ f ∧ tE a h g f k ≤ k
  | 0, _ => ⟨Nat.le_refl _, Nat.zero_le _⟩
  | _ + 1, 0 => ⟨Nat.zero_le _, Nat.le_refl _⟩
  | f + 1, k + 1 => by
    have ih := tE_le (a := a) (h := h) (g := g) (f := f) (k := k)
    rw [tE]
    split <;> omega
/-- what a length in the table says -/
theorem tE_is {a : Nat → Nat} {h g : Nat} : ∀ {f k i : Nat}, i < tE a h g f k → hM a h (f - tE a h g f k + i) g (k - tE a h g f k + i)
  | 0, _, i, hi => absurd hi (Nat.not_lt_zero _)
  | _ + 1, 0, i, hi => absurd hi (Nat.not_lt_zero _)
  | f + 1, k + 1, i, hi => by
    rw [tE] at hi ⊢
    by_cases c : hM a h f g k
    · rw [if_pos c] at hi ⊢
      have le := tE_le (a := a) (h := h) (g := g) (f := f) (k := k)
      rw [show f + 1 - (tE a h g f k + 1) = f - tE a h g f k from by omega, show k + 1 - (tE a h g f k + 1) = k - tE a h g f k from by omega]
      by_cases e : i = tE a h g f k
      · rw [e, show f - tE a h g f k + tE a h g f k = f from by omega, show k - tE a h g f k + tE a h g f k = k from by omega]
        exact c
      · exact tE_is (by omega)
    · rw [if_neg c] at hi
      exact absurd hi (Nat.not_lt_zero _)
theorem tE_ge {a : Nat → Nat} {h g : Nat} : ∀ {L f k : Nat}, (∀ i, i < L → hM a h (f + i) g (k + i)) → L ≤ tE a h g (f + L) (k + L)
  | 0, _, _, _ => Nat.zero_le _
  | L + 1, f, k, H => by
    have ih := tE_ge (L := L) (f := f) (k := k) (fun i hi => H i (by omega))
    show L + 1 ≤ tE a h g (f + L + 1) (k + L + 1)
    rw [tE, if_pos (H L (by omega))]
    omega
theorem nX_ok {f : Nat → Nat} : ∀ {j x k : Nat}, x ≤ nX f x k j ∧ (∀ i, k ≤ i → i < k + j → f i ≤ nX f x k j) ∧ (nX f x k j = x ∨ ∃ i, k ≤ i ∧ i < k + j ∧ nX f x k j = f i)
  | 0, x, k => ⟨Nat.le_refl _, fun i h1 h2 => absurd h2 (by omega), Or.inl rfl⟩
  | j + 1, x, k => by
    have ih := nX_ok (f := f) (j := j) (x := max x (f k)) (k := k + 1)
    show x ≤ nX f (max x (f k)) (k + 1) j ∧ (∀ i, k ≤ i → i < k + (j + 1) → f i ≤ nX f (max x (f k)) (k + 1) j) ∧ (nX f (max x (f k)) (k + 1) j = x ∨ ∃ i, k ≤ i ∧ i < k + (j + 1) ∧ nX f (max x (f k)) (k + 1) j = f i)
    refine ⟨by omega, fun i h1 h2 => ?_, ?_⟩
    · by_cases e : i = k
      · subst e; omega
      · exact ih.2.1 i (by omega) (by omega)
    · rcases ih.2.2 with q | ⟨i, h1, h2, h3⟩
      · by_cases l : f k ≤ x
        · left; omega
        · right; exact ⟨k, by omega, by omega, by omega⟩
      · right; exact ⟨i, by omega, by omega, h3⟩
theorem nY_ok {g : Nat → Nat → Nat} {G : Nat} : ∀ {j x k : Nat}, x ≤ nY g G x k j ∧ (∀ f i, k ≤ f → f < k + j → i < G → g f i ≤ nY g G x k j) ∧ (nY g G x k j = x ∨ ∃ f i, k ≤ f ∧ f < k + j ∧ i < G ∧ nY g G x k j = g f i)
  | 0, x, k => ⟨Nat.le_refl _, fun f i h1 h2 => absurd h2 (by omega), Or.inl rfl⟩
  | j + 1, x, k => by
    have I := nX_ok (f := g k) (j := G) (x := x) (k := 0)
    have ih := nY_ok (g := g) (G := G) (j := j) (x := nX (g k) x 0 G) (k := k + 1)
    show x ≤ nY g G (nX (g k) x 0 G) (k + 1) j ∧ (∀ f i, k ≤ f → f < k + (j + 1) → i < G → g f i ≤ nY g G (nX (g k) x 0 G) (k + 1) j) ∧ (nY g G (nX (g k) x 0 G) (k + 1) j = x ∨ ∃ f i, k ≤ f ∧ f < k + (j + 1) ∧ i < G ∧ nY g G (nX (g k) x 0 G) (k + 1) j = g f i)
    refine ⟨by omega, fun f i h1 h2 h3 => ?_, ?_⟩
    · by_cases e : f = k
      · subst e
        have := I.2.1 i (Nat.zero_le _) (by omega)
        omega
      · exact ih.2.1 f i (by omega) (by omega) h3
    · rcases ih.2.2 with q | ⟨f, i, h1, h2, h3, h4⟩
      · rcases I.2.2 with r | ⟨i, _, h2, h3⟩
        · left; omega
        · right; exact ⟨k, i, by omega, by omega, by omega, by omega⟩
      · right; exact ⟨f, i, by omega, by omega, h3, h4⟩
/-- the longest stretch by its ends is the longest by its beginnings -/
theorem tab_eq {a : Nat → Nat} {h g : Nat} (h8 : hF a h ≤ 8) : nY (fun f k => tE a h g (f + 1) (k + 1)) (hF a g) 0 0 (hF a h) = nY (rL a h g) (hF a g) 0 0 (hF a h) := by
  have A := nY_ok (g := fun f k => tE a h g (f + 1) (k + 1)) (G := hF a g) (j := hF a h) (x := 0) (k := 0)
  have B := nY_ok (g := rL a h g) (G := hF a g) (j := hF a h) (x := 0) (k := 0)
  refine Nat.le_antisymm ?_ ?_
  · rcases A.2.2 with q | ⟨f, k, _, h2, h3, h4⟩
    · omega
    · rw [h4]
      show tE a h g (f + 1) (k + 1) ≤ _
      have le := tE_le (a := a) (h := h) (g := g) (f := f + 1) (k := k + 1)
      by_cases z : tE a h g (f + 1) (k + 1) = 0
      · omega
      · have r := B.2.1 (f + 1 - tE a h g (f + 1) (k + 1)) (k + 1 - tE a h g (f + 1) (k + 1)) (Nat.zero_le _) (by omega) (by omega)
        refine Nat.le_trans (Nat.not_lt.mp fun q => ?_) r
        have q' : rL a h g (f + 1 - tE a h g (f + 1) (k + 1)) (k + 1 - tE a h g (f + 1) (k + 1)) < tE a h g (f + 1) (k + 1) := q
        have is := nF_is (p := rP a h g (f + 1 - tE a h g (f + 1) (k + 1)) (k + 1 - tE a h g (f + 1) (k + 1))) (j := 8) (k := 0) (by show rL a h g _ _ < 0 + 8; omega)
        exact is ⟨by show _ + rL a h g _ _ < _; omega, by show _ + rL a h g _ _ < _; omega, tE_is q'⟩
  · rcases B.2.2 with q | ⟨f, k, _, h2, h3, h4⟩
    · omega
    · rw [h4]
      by_cases z : rL a h g f k = 0
      · omega
      · have nt : ∀ i, i < rL a h g f k → f + i < hF a h ∧ k + i < hF a g ∧ hM a h (f + i) g (k + i) := fun i hi => Decidable.not_not.mp (nF_not (p := rP a h g f k) (j := 8) (k := 0) (Nat.zero_le _) hi)
        have ge := tE_ge (a := a) (h := h) (g := g) (L := rL a h g f k) (f := f) (k := k) (fun i hi => (nt i hi).2.2)
        have last := nt (rL a h g f k - 1) (by omega)
        have r := A.2.1 (f + rL a h g f k - 1) (k + rL a h g f k - 1) (Nat.zero_le _) (by omega) (by omega)
        have r : tE a h g (f + rL a h g f k - 1 + 1) (k + rL a h g f k - 1 + 1) ≤ _ := r
        rw [show f + rL a h g f k - 1 + 1 = f + rL a h g f k from by omega, show k + rL a h g f k - 1 + 1 = k + rL a h g f k from by omega] at r
        omega
def tbP (C _y h k : Nat) : Prop := C = 28 ∧ 1 ≤ h ∧ 1 ≤ k
/-- the table's first row and column are 0 -/
def TZ (μ : fM) : Prop := (∀ i, i < 9 → μ.1 28 0 i 0 = 0) ∧ ∀ j, j < 9 → μ.1 28 0 0 j = 0
theorem TZ_out {μ μ' : fM} (T : TZ μ) (S : sX' tbP μ μ') : TZ μ' := ⟨fun i hi => (S.1 28 0 i 0 (fun p => by have := p.2.2; omega)).trans (T.1 i hi), fun j hj => (S.1 28 0 0 j (fun p => by have := p.2.1; omega)).trans (T.2 j hj)⟩
theorem HV_tb {μ μ' : fM} {y h g : Nat} {a : Nat → Nat} (H : HV μ y h a g) (S : sX' tbP μ μ') : HV μ' y h a g := HV_out H (fun c k hc => S.1 c y h k (fun p => by have := p.1; omega))
theorem c_tb_1 {h g f : Nat} {a : Nat → Nat} (B : HB a h) (B2 : HB a g) (hf : f < hF a h) : ∀ j k x (μ : fM) z6 z7, k + j = hF a g → x ≤ 8 → HV μ 0 h a h → HV μ 0 g a g → TZ μ → (∀ i, i ≤ hF a g → μ.1 28 0 f i = nI (tE a h g f i)) → (∀ i, i ≤ k → μ.1 28 0 (f + 1) i = nI (tE a h g (f + 1) i)) → ∃ μ' y6 y7, (∀ res, fEnds (fun zz => frun eX5_longestByTable tX5_longestByTable zz 89 [kR 5 0 0, kR 1 0 h, kR 1 0 g, kN (nX (fun k => tE a h g (f + 1) (k + 1)) x k j), kN f, kN (hF a g), y6, y7] [] μ' 0 0) res → fEnds (fun zz => frun eX5_longestByTable tX5_longestByTable zz 17 [kR 5 0 0, kR 1 0 h, kR 1 0 g, kN x, kN f, kN k, z6, z7] [] μ 0 0) res) ∧ (∀ i, i ≤ hF a g → μ'.1 28 0 (f + 1) i = nI (tE a h g (f + 1) i)) ∧ sX' tbP μ μ'
  | 0, k, x, μ, z6, z7, e, hx, H, G, T, R1, R2 => by
    have g8 := B2.1
    have e2 := G.1
    refine ⟨μ, z6, z7, fun res R => ?_, fun i hi => R2 i (by omega), sX_refl⟩
    refine fE_pos (by show μ.1 1 0 g 3 ≤ nI k; rw [e2]; exact nI_le (by omega) (by omega)) 4 (fun _ => rfl) ?_
    rw [← e] at R
    exact R
  | j + 1, k, x, μ, z6, z7, e, hx, H, G, T, R1, R2 => by
    have h8 := B.1
    have g8 := B2.1
    have e2 := G.1
    have ek : (nI k).toNatClampNeg = k := nI_clamp (by omega)
    have ef : (nI f).toNatClampNeg = f := nI_clamp (by omega)
    have ek1 : (nI k + 1).toNatClampNeg = k + 1 := by rw [nI_1, nI_clamp (by omega)]
    have ef1 : (nI f + 1).toNatClampNeg = f + 1 := by rw [nI_1, nI_clamp (by omega)]
    have cf := c_frameEq H B G B2 (f := f) (k := k) (by omega) (by omega)
    have le := tE_le (a := a) (h := h) (g := g) (f := f + 1) (k := k + 1)
    have S : sX' tbP μ (fI μ 28 0 (f + 1) (k + 1) (nI (tE a h g (f + 1) (k + 1)))) := sX_fI ⟨rfl, by omega, by omega⟩
    obtain ⟨μ', y6, y7, r1, r2, r3⟩ := c_tb_1 B B2 hf j (k + 1) (max x (tE a h g (f + 1) (k + 1))) (fI μ 28 0 (f + 1) (k + 1) (nI (tE a h g (f + 1) (k + 1)))) (some (vI (bI (hM a h f g k)))) (some (vI (nI (tE a h g (f + 1) (k + 1))))) (by omega) (by omega) (HV_tb H S) (HV_tb G S) (TZ_out T S) (fun i hi => (fI_ne (by omega)).trans (R1 i hi)) (fun i hi => by
      by_cases c : i = k + 1
      · subst c; exact fI_at
      · exact (fI_ne (by omega)).trans (R2 i (by omega)))
    refine ⟨μ', y6, y7, fun res R => ?_, r2, sX_trans S r3⟩
    have go : fEnds (fun zz => frun eX5_longestByTable tX5_longestByTable zz 58 [kR 5 0 0, kR 1 0 h, kR 1 0 g, kN x, kN f, kN k, some (vI (bI (hM a h f g k))), z7] [vI (nI (tE a h g (f + 1) (k + 1)))] μ 0 0) res := by
      have R' := r1 res R
      refine fE_pos (by refine g_in (k := f + 1) ?_ (show f + 1 < 9 from by omega) (show 9 < 2 ^ 31 from by decide); first | rfl | (simp (disch := omega) only [fLit, nI_add, pk_mul, pk_rem, pk_sub, nI_clamp]; done)) 7 (fun _ => rfl) ?_
      refine fE_pos (by refine g_in (k := k + 1) ?_ (show k + 1 < 9 from by omega) (show 9 < 2 ^ 31 from by decide); first | rfl | (simp (disch := omega) only [fLit, nI_add, pk_mul, pk_rem, pk_sub, nI_clamp]; done)) 5 (fun _ => rfl) ?_
      refine fE_step (y := fun zz => frun _ _ zz 76 [kR 5 0 0, kR 1 0 h, kR 1 0 g, kN x, kN f, kN k, some (vI (bI (hM a h f g k))), kN (tE a h g (f + 1) (k + 1))] [] (fI μ 28 0 (nI f + 1).toNatClampNeg (nI k + 1).toNatClampNeg (nI (tE a h g (f + 1) (k + 1)))) 0 0) 0 (fun _ => rfl) ?_
      rw [ef1, ek1]
      refine fE_call (j_max (nI x) (nI (tE a h g (f + 1) (k + 1))) _) 3 (fun _ => rfl) ?_
      refine fE_step (y := fun zz => frun _ _ zz 17 [kR 5 0 0, kR 1 0 h, kR 1 0 g, kX (if nI x < nI (tE a h g (f + 1) (k + 1)) then nI (tE a h g (f + 1) (k + 1)) else nI x), kN f, kX (nI k + 1), some (vI (bI (hM a h f g k))), kN (tE a h g (f + 1) (k + 1))] [] _ 0 0) 3 (fun _ => rfl) ?_
      rw [mxI (by omega) (by omega), nI_1]
      exact R'
    refine fE_neg (fun p => by change μ.1 1 0 g 3 ≤ nI k at p; rw [e2] at p; exact absurd ((nI_leI (by omega) (by omega)).mp p) (by omega)) 4 (fun _ => rfl) ?_
    refine fE_call (cf) 5 (fun _ => rfl) ?_
    refine fE_ite 3 (fun _ => rfl) (fun q => ?_) (fun q => ?_)
    · skip
      have q : ¬ hM a h f g k := bI_0.mp q
      refine fE_step (y := fun zz => frun _ _ zz 58 [kR 5 0 0, kR 1 0 h, kR 1 0 g, kN x, kN f, kN k, some (vI (bI (hM a h f g k))), z7] [vI (nI 0)] _ 0 0) 1 (fun _ => rfl) ?_
      rw [show tE a h g (f + 1) (k + 1) = 0 from by rw [tE, if_neg q]] at go
      exact go
    · skip
      have q : hM a h f g k := bI_n.mp q
      refine fE_pos (by refine g_in (k := f) ?_ (show f < 9 from by omega) (show 9 < 2 ^ 31 from by decide); first | rfl | (simp (disch := omega) only [fLit, nI_add, pk_mul, pk_rem, pk_sub, nI_clamp]; done)) 4 (fun _ => rfl) ?_
      refine fE_pos (by refine g_in (k := k) ?_ (show k < 9 from by omega) (show 9 < 2 ^ 31 from by decide); first | rfl | (simp (disch := omega) only [fLit, nI_add, pk_mul, pk_rem, pk_sub, nI_clamp]; done)) 2 (fun _ => rfl) ?_
      refine fE_step (y := fun zz => frun _ _ zz 58 [kR 5 0 0, kR 1 0 h, kR 1 0 g, kN x, kN f, kN k, some (vI (bI (hM a h f g k))), z7] [vI (μ.1 28 0 (nI f).toNatClampNeg (nI k).toNatClampNeg + 1)] _ 0 0) 3 (fun _ => rfl) ?_
      rw [ef, ek, R1 k (by omega), nI_1]
      rw [show tE a h g (f + 1) (k + 1) = tE a h g f k + 1 from by rw [tE, if_pos q]] at go
      exact go
theorem c_tb_2 {h g : Nat} {a : Nat → Nat} (B : HB a h) (B2 : HB a g) : ∀ j f x (μ : fM) z5 z6 z7, f + j = hF a h → x ≤ 8 → HV μ 0 h a h → HV μ 0 g a g → TZ μ → (∀ i, i ≤ hF a g → μ.1 28 0 f i = nI (tE a h g f i)) → ∃ μ', fEnds (fun zz => frun eX5_longestByTable tX5_longestByTable zz 5 [kR 5 0 0, kR 1 0 h, kR 1 0 g, kN x, kN f, z5, z6, z7] [] μ 0 0) (.inl (some (vI (nI (nY (fun f k => tE a h g (f + 1) (k + 1)) (hF a g) x f j)))), μ') ∧ sX' tbP μ μ'
  | 0, f, x, μ, z5, z6, z7, e, hx, H, G, T, R1 => by
    have h8 := B.1
    have e1 := H.1
    refine ⟨μ, ?_, sX_refl⟩
    refine fE_pos (by show μ.1 1 0 h 3 ≤ nI f; rw [e1]; exact nI_le (by omega) (by omega)) 4 (fun _ => rfl) ?_
    exact fE_ret 2 (fun _ => rfl)
  | j + 1, f, x, μ, z5, z6, z7, e, hx, H, G, T, R1 => by
    have h8 := B.1
    have g8 := B2.1
    have e1 := H.1
    obtain ⟨μ1, y6, y7, r1, r2, r3⟩ := c_tb_1 B B2 (f := f) (by omega) (hF a g) 0 x μ z6 z7 (by omega) hx H G T R1 (fun i hi => by
      obtain rfl : i = 0 := by omega
      rw [tE_0]
      exact T.1 (f + 1) (by omega))
    have xle : nX (fun k => tE a h g (f + 1) (k + 1)) x 0 (hF a g) ≤ 8 := by
      rcases (nX_ok (f := fun k => tE a h g (f + 1) (k + 1)) (j := hF a g) (x := x) (k := 0)).2.2 with q | ⟨i, _, h2, h3⟩
      · omega
      · have := (tE_le (a := a) (h := h) (g := g) (f := f + 1) (k := i + 1)).1
        omega
    obtain ⟨μ', s1, s2⟩ := c_tb_2 B B2 j (f + 1) (nX (fun k => tE a h g (f + 1) (k + 1)) x 0 (hF a g)) μ1 (some (vI (nI (hF a g)))) y6 y7 (by omega) xle (HV_tb H r3) (HV_tb G r3) (TZ_out T r3) r2
    refine ⟨μ', ?_, sX_trans r3 s2⟩
    have R := r1 (.inl (some (vI (nI (nY (fun f k => tE a h g (f + 1) (k + 1)) (hF a g) x f (j + 1))))), μ') (by
      skip
      refine fE_step (y := fun zz => frun _ _ zz 5 [kR 5 0 0, kR 1 0 h, kR 1 0 g, kN (nX (fun k => tE a h g (f + 1) (k + 1)) x 0 (hF a g)), kX (nI f + 1), kN (hF a g), y6, y7] [] _ 0 0) 2 (fun _ => rfl) ?_
      rw [nI_1]
      exact s1
      )
    refine fE_neg (fun p => by change μ.1 1 0 h 3 ≤ nI f at p; rw [e1] at p; exact absurd ((nI_leI (by omega) (by omega)).mp p) (by omega)) 4 (fun _ => rfl) ?_
    refine fE_step (y := fun zz => frun _ _ zz 17 [kR 5 0 0, kR 1 0 h, kR 1 0 g, kN x, kN f, kN 0, z6, z7] [] _ 0 0) 2 (fun _ => rfl) ?_
    exact R
theorem c_tb {μ : fM} {h g : Nat} {a : Nat → Nat} (H : HV μ 0 h a h) (G : HV μ 0 g a g) (B : HB a h) (B2 : HB a g) (T : TZ μ) : ∃ μ', sX5_longestByTable [vR 5 0 0, vR 1 0 h, vR 1 0 g] μ = some (.inl (some (vI (nI (nY (rL a h g) (hF a g) 0 0 (hF a h))))), μ') ∧ sX' tbP μ μ' := by
  have g8 := B2.1
  obtain ⟨μ', r1, r2⟩ := c_tb_2 B B2 (hF a h) 0 0 μ none none none (by omega) (by omega) H G T (fun i hi => by
    show _ = nI 0
    exact T.2 i (by omega))
  rw [tab_eq B.1] at r1
  refine ⟨μ', fsemV_of (Nat.le_of_ble_eq_true rfl) ?_, r2⟩
  refine fE_step (y := fun zz => frun _ _ zz 5 [kR 5 0 0, kR 1 0 h, kR 1 0 g, kN 0, kN 0, none, none, none] [] _ 0 0) 4 (fun _ => rfl) ?_
  exact r1
theorem k_commonStretch {μ : fM} {u : Nat} {a : Nat → Nat} (Y : YR μ 0 a) (O : OKA u a) (T : TZ μ) (x y : Int32) : ∃ μ', sX7_commonStretch [vR 7 0 0, vI x, vI y] μ = some (cRes e0 μ' (qStretch a x y)) ∧ sX' tbP μ μ' := by
  have h6 := O.hulls
  unfold qStretch
  by_cases q : okH a x
  · obtain ⟨h, hh, rfl⟩ := nI_ix (by omega) q.1 q.2
    by_cases r : okH a y
    · obtain ⟨g, hg, rfl⟩ := nI_ix (by omega) r.1 r.2
      rw [if_pos ⟨q, r⟩, xN, xN, nI_clamp (by omega), nI_clamp (by omega)]
      obtain ⟨μ', s1, s2⟩ := c_tb (Y.hv (h := h) (by omega)) (Y.hv (h := g) (by omega)) (O.hb (by omega)) (O.hb (by omega)) T
      refine ⟨μ', fsemV_of (Nat.le_of_ble_eq_true rfl) ?_, s2⟩
      refine fE_call (c_known Y h6 hh) 5 (fun _ => rfl) ?_
      refine fE_call (c_known Y h6 hg) 3 (fun _ => rfl) ?_
      refine fE_call (s1) 1 (fun _ => rfl) ?_
      exact fE_ret 1 (fun _ => rfl)
    · rw [if_neg (fun p => r p.2)]
      refine ⟨μ, fsemV_of (Nat.le_of_ble_eq_true rfl) ?_, sX_refl⟩
      refine fE_call (c_known Y h6 hh) 5 (fun _ => rfl) ?_
      refine fE_call (c_known0 Y r) 3 (fun _ => rfl) ?_
      exact fE_ret 0 (fun _ => rfl)
  · rw [if_neg (fun p => q p.1)]
    refine ⟨μ, fsemV_of (Nat.le_of_ble_eq_true rfl) ?_, sX_refl⟩
    refine fE_call (c_known0 Y q) 5 (fun _ => rfl) ?_
    exact fE_ret 0 (fun _ => rfl)
