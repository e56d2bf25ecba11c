/-! THE BEST DELIVERY: each hull takes the dearest order that is left -/
theorem nC_split {p q : Nat → Prop} [DecidablePred p] [DecidablePred q] : ∀ {j k : Nat}, nC p k j = nC (fun i => p i ∧ q i) k j + nC (fun i => p i ∧ ¬ q i) k j
  | 0, _ => rfl
  | j + 1, k => by
    have ih := nC_split (p := p) (q := q) (j := j) (k := k + 1)
    show (if p k then 1 else 0) + nC p (k + 1) j = ((if p k ∧ q k then 1 else 0) + nC _ (k + 1) j) + ((if p k ∧ ¬ q k then 1 else 0) + nC _ (k + 1) j)
    rw [ih]
    by_cases h1 : p k
    · by_cases h2 : q k
      · rw [if_pos h1, if_pos ⟨h1, h2⟩, if_neg (fun x => x.2 h2)]; omega
      · rw [if_pos h1, if_neg (fun x => h2 x.2), if_pos ⟨h1, h2⟩]; omega
    · rw [if_neg h1, if_neg (fun x => h1 x.1), if_neg (fun x => h1 x.1)]; omega
theorem nC_0 {p : Nat → Prop} [DecidablePred p] : ∀ {j k : Nat}, (∀ i, k ≤ i → i < k + j → ¬ p i) → nC p k j = 0
  | 0, _, _ => rfl
  | j + 1, k, h => by
    show (if p k then 1 else 0) + nC p (k + 1) j = 0
    rw [if_neg (h k (Nat.le_refl _) (by omega)), nC_0 (fun i h1 h2 => h i (by omega) (by omega))]
theorem nC_1 {p : Nat → Prop} [DecidablePred p] : ∀ {j k : Nat}, (∀ i i', k ≤ i → i < k + j → k ≤ i' → i' < k + j → p i → p i' → i = i') → nC p k j ≤ 1
  | 0, _, _ => Nat.zero_le _
  | j + 1, k, h => by
    show (if p k then 1 else 0) + nC p (k + 1) j ≤ 1
    by_cases c : p k
    · rw [if_pos c, nC_0 (fun i h1 h2 h3 => by have := h k i (Nat.le_refl _) (by omega) (by omega) (by omega) c h3; omega)]
      omega
    · rw [if_neg c]
      have := nC_1 (p := p) (j := j) (k := k + 1) (fun i i' a b c d e f => h i i' (by omega) (by omega) (by omega) (by omega) e f)
      omega
theorem nC_eq {p q : Nat → Prop} [DecidablePred p] [DecidablePred q] : ∀ {j k : Nat}, (∀ i, k ≤ i → i < k + j → (p i ↔ q i)) → nC p k j = nC q k j
  | 0, _, _ => rfl
  | j + 1, k, h => by
    show (if p k then 1 else 0) + nC p (k + 1) j = (if q k then 1 else 0) + nC q (k + 1) j
    rw [nC_eq (fun i h1 h2 => h i (by omega) (by omega))]
    have := h k (Nat.le_refl _) (by omega)
    by_cases c : p k
    · rw [if_pos c, if_pos (this.mp c)]
    · rw [if_neg c, if_neg (fun d => c (this.mpr d))]
theorem nC_mono {p q : Nat → Prop} [DecidablePred p] [DecidablePred q] : ∀ {j k : Nat}, (∀ i, k ≤ i → i < k + j → p i → q i) → nC p k j ≤ nC q k j
  | 0, _, _ => Nat.le_refl _
  | j + 1, k, h => by
    have ih := nC_mono (p := p) (q := q) (j := j) (k := k + 1) (fun i h1 h2 => h i (by omega) (by omega))
    have hk := h k (Nat.le_refl _) (by omega)
    show (if p k then 1 else 0) + nC p (k + 1) j ≤ (if q k then 1 else 0) + nC q (k + 1) j
    by_cases c : p k
    · rw [if_pos c, if_pos (hk c)]; omega
    · rw [if_neg c]; omega
/-- as many as there are different numbers below c -/
theorem nC_pig {f : Nat → Nat} : ∀ (c : Nat) {p : Nat → Prop} [DecidablePred p] {j k : Nat}, (∀ i, k ≤ i → i < k + j → p i → f i < c) → (∀ i i', k ≤ i → i < k + j → k ≤ i' → i' < k + j → p i → p i' → f i = f i' → i = i') → nC p k j ≤ c
  | 0, p, _, j, k, h, _ => Nat.le_of_eq (nC_0 (fun i h1 h2 h3 => absurd (h i h1 h2 h3) (Nat.not_lt_zero _)))
  | c + 1, p, _, j, k, h, hi => by
    have s := nC_split (p := p) (q := fun i => f i < c) (j := j) (k := k)
    have h1 := nC_pig (f := f) c (p := fun i => p i ∧ f i < c) (j := j) (k := k) (fun i _ _ h3 => h3.2) (fun i i' a b c' d e g z => hi i i' a b c' d e.1 g.1 z)
    have h2 := nC_1 (p := fun i => p i ∧ ¬ f i < c) (j := j) (k := k) (fun i i' a b c' d e g => hi i i' a b c' d e.1 g.1 (by
      have := h i a b e.1
      have := h i' c' d g.1
      have := e.2
      have := g.2
      omega))
    omega
theorem nT_one {f f' : Nat → Nat} {p : Nat} (h : ∀ i, i ≠ p → f' i = f i) (h0 : f p = 0) : ∀ {j k : Nat}, k ≤ p → p < k + j → nT f' k j = nT f k j + f' p
  | 0, k, h1, h2 => absurd h2 (by omega)
  | j + 1, k, h1, h2 => by
    show f' k + nT f' (k + 1) j = f k + nT f (k + 1) j + f' p
    by_cases e : k = p
    · subst e
      rw [nT_eq (f := f') (g := f) (fun i h3 h4 => h i (by omega)), h0]
      omega
    · rw [nT_one h h0 (j := j) (k := k + 1) (by omega) (by omega), h k e]
      omega
/-! ranks -/
theorem oB_lt {a : Nat → Nat} {p q : Nat} (hq : q < a 2) (h : bP a p q) : oB a q < oB a p := by
  have s := nC_split (p := bP a p) (q := bP a q) (j := a 2) (k := 0)
  have e1 : nC (fun i => bP a p i ∧ bP a q i) 0 (a 2) = oB a q := nC_eq fun i _ _ => by
    constructor
    · exact fun x => x.2
    · intro x
      refine ⟨⟨x.1.trans h.1, ?_⟩, x⟩
      have h2 := h.2
      have x2 := x.2
      omega
  have e2 : 0 < nC (fun i => bP a p i ∧ ¬ bP a q i) 0 (a 2) := by
    have := nC_mono (p := fun i => i = q) (q := fun i => bP a p i ∧ ¬ bP a q i) (j := a 2) (k := 0) (fun i _ _ e => by
      subst e
      exact ⟨h, fun x => by have := x.2; omega⟩)
    have one : ∀ {j k : Nat}, k ≤ q → q < k + j → 0 < nC (fun i => i = q) k j := fun {j} => by
      induction j with
      | zero => intro k h1 h2; omega
      | succ j ih =>
        intro k h1 h2
        show 0 < (if k = q then 1 else 0) + nC (fun i => i = q) (k + 1) j
        by_cases e : k = q
        · rw [if_pos e]; omega
        · have := ih (k := k + 1) (by omega) (by omega)
          omega
    have := one (j := a 2) (k := 0) (Nat.zero_le _) (by omega)
    omega
  show oB a q < nC (bP a p) 0 (a 2)
  omega
theorem bP_tot {a : Nat → Nat} {p q : Nat} (h : oF a p = oF a q) (hne : p ≠ q) : bP a p q ∨ bP a q p := by
  rcases Nat.lt_trichotomy (oD a p) (oD a q) with c | c | c
  · exact Or.inl ⟨h.symm, Or.inl c⟩
  · rcases Nat.lt_or_gt_of_ne hne with d | d
    · exact Or.inr ⟨h, Or.inr ⟨c, d⟩⟩
    · exact Or.inl ⟨h.symm, Or.inr ⟨c.symm, d⟩⟩
  · exact Or.inr ⟨h, Or.inl c⟩
theorem oB_inj {a : Nat → Nat} {p q : Nat} (hp : p < a 2) (hq : q < a 2) (h : oF a p = oF a q) (e : oB a p = oB a q) : p = q := by
  refine Decidable.byContradiction fun hne => ?_
  rcases bP_tot h hne with c | c
  · have := oB_lt hq c; omega
  · have := oB_lt hp c; omega
/-- the dearest of those that P allows, N if none -/
def dlF (P : Nat → Prop) [DecidablePred P] (D : Nat → Nat) (N : Nat) : Nat → Nat → Nat → Nat
  | 0, _, d => d
  | j + 1, k, d => dlF P D N j (k + 1) (if P k ∧ (d = N ∨ D d < D k) then k else d)
theorem dlF_ok {P : Nat → Prop} [DecidablePred P] {D : Nat → Nat} {N : Nat} : ∀ {j k d : Nat}, k + j = N → (d = N ∧ (∀ i, i < k → ¬ P i) ∨ d < k ∧ P d ∧ ∀ i, i < k → P i → i = d ∨ D i < D d ∨ (D i = D d ∧ d < i)) → (dlF P D N j k d = N ∧ (∀ i, i < N → ¬ P i) ∨ dlF P D N j k d < N ∧ P (dlF P D N j k d) ∧ ∀ i, i < N → P i → i = dlF P D N j k d ∨ D i < D (dlF P D N j k d) ∨ (D i = D (dlF P D N j k d) ∧ dlF P D N j k d < i))
  | 0, k, d, e, h => by
    obtain rfl : k = N := e
    exact h
  | j + 1, k, d, e, h => by
    rw [dlF]
    refine dlF_ok (by omega) ?_
    by_cases c : P k ∧ (d = N ∨ D d < D k)
    · rw [if_pos c]
      right
      refine ⟨by omega, c.1, fun i hi hP => ?_⟩
      by_cases ei : i = k
      · exact Or.inl ei
      · right
        rcases h with h | h
        · exact absurd hP (h.2 i (by omega))
        · have c2 : D d < D k := by
            rcases c.2 with c2 | c2
            · omega
            · exact c2
          rcases h.2.2 i (by omega) hP with x | x | x
          · subst x; exact Or.inl c2
          · left; omega
          · left; omega
    · rw [if_neg c]
      rcases h with h | h
      · left
        refine ⟨h.1, fun i hi hP => ?_⟩
        by_cases ei : i = k
        · subst ei; exact c ⟨hP, Or.inl h.1⟩
        · exact h.2 i (by omega) hP
      · right
        refine ⟨by omega, h.2.1, fun i hi hP => ?_⟩
        by_cases ei : i = k
        · subst ei
          right
          by_cases l : D i = D d
          · right; exact ⟨l, h.1⟩
          · left
            have : ¬ D d < D i := fun q => c ⟨hP, Or.inr q⟩
            omega
        · exact h.2.2 i (by omega) hP
/-- what has been taken when hulls have come that count cn per number of frames -/
abbrev tkn (a : Nat → Nat) (cn : Nat → Nat) (p : Nat) : Prop := oB a p < cn (oF a p)
abbrev dPr (a : Nat → Nat) (cn : Nat → Nat) (F : Nat) (k : Nat) : Prop := ¬ tkn a cn k ∧ oF a k = F
def dst (a : Nat → Nat) (cn : Nat → Nat) (F : Nat) : Nat := dlF (dPr a cn F) (oD a) (a 2) (a 2) 0 (a 2)
theorem dst_ok {a : Nat → Nat} {cn : Nat → Nat} {F : Nat} : (dst a cn F = a 2 ∧ (∀ i, i < a 2 → oF a i = F → tkn a cn i)) ∨ (dst a cn F < a 2 ∧ oF a (dst a cn F) = F ∧ oB a (dst a cn F) = cn F) := by
  rcases dlF_ok (P := dPr a cn F) (D := oD a) (N := a 2) (j := a 2) (k := 0) (d := a 2) (Nat.zero_add _) (Or.inl ⟨rfl, fun i hi => absurd hi (Nat.not_lt_zero _)⟩) with h | h
  · left
    exact ⟨h.1, fun i hi hF => Decidable.byContradiction fun q => h.2 i hi ⟨q, hF⟩⟩
  · right
    refine ⟨h.1, h.2.1.2, ?_⟩
    have hF : oF a (dst a cn F) = F := h.2.1.2
    have hge : ¬ oB a (dst a cn F) < cn (oF a (dst a cn F)) := h.2.1.1
    rw [hF] at hge
    have hle : oB a (dst a cn F) ≤ cn F := nC_pig (f := oB a) (cn F) (p := bP a (dst a cn F)) (j := a 2) (k := 0) (fun i _ hi hb => by
      have eF : oF a i = F := hb.1.trans hF
      refine Decidable.byContradiction fun q => ?_
      have q' : dPr a cn F i := ⟨by unfold tkn; rw [eF]; exact q, eF⟩
      have b2 := hb.2
      rcases h.2.2 i (by omega) q' with x | x | x
      · have x : i = dst a cn F := x
        subst x
        omega
      · have x : oD a i < oD a (dst a cn F) := x
        omega
      · have x : oD a i = oD a (dst a cn F) ∧ dst a cn F < i := x
        omega) (fun i i' _ hi _ hi' hb hb' e => oB_inj (by omega) (by omega) (hb.1.trans hb'.1.symm) e)
    omega
/-- one more hull with so many frames -/
def cn1 (cn : Nat → Nat) (F : Nat) : Nat → Nat := fun f => if f = F then cn f + 1 else cn f
abbrev sumB (a : Nat → Nat) (cn : Nat → Nat) : Nat := nT (fun p => if oB a p < cn (oF a p) then oD a p else 0) 0 (a 2)
theorem tkn_1 {a : Nat → Nat} {cn : Nat → Nat} {F p : Nat} (hp : p < a 2) : tkn a (cn1 cn F) p ↔ (tkn a cn p ∨ (dst a cn F < a 2 ∧ p = dst a cn F)) := by
  unfold tkn cn1
  by_cases e : oF a p = F
  · rw [if_pos e]
    rcases dst_ok (a := a) (cn := cn) (F := F) with h | h
    · have := h.2 p hp e
      constructor
      · intro _; exact Or.inl this
      · intro _; have this : oB a p < cn (oF a p) := this; omega
    · constructor
      · intro q
        by_cases l : oB a p < cn (oF a p)
        · exact Or.inl l
        · right
          refine ⟨h.1, oB_inj hp h.1 (e.trans h.2.1.symm) ?_⟩
          rw [h.2.2, ← e]
          omega
      · intro q
        rcases q with q | q
        · omega
        · rw [q.2, h.2.2, h.2.1]
          omega
  · rw [if_neg e]
    constructor
    · exact Or.inl
    · intro q
      rcases q with q | q
      · exact q
      · rcases dst_ok (a := a) (cn := cn) (F := F) with h | h
        · omega
        · exact absurd (q.2 ▸ h.2.1) e
theorem sumB_1 {a : Nat → Nat} {cn : Nat → Nat} {F : Nat} : sumB a (cn1 cn F) = sumB a cn + (if dst a cn F < a 2 then oD a (dst a cn F) else 0) := by
  by_cases c : dst a cn F < a 2
  · rw [if_pos c]
    rcases dst_ok (a := a) (cn := cn) (F := F) with h | h
    · omega
    · have hn : ¬ tkn a cn (dst a cn F) := by unfold tkn; rw [h.2.1, h.2.2]; omega
      have := nT_one (f := fun p => if p < a 2 then (if oB a p < cn (oF a p) then oD a p else 0) else 0) (f' := fun p => if p < a 2 then (if oB a p < cn1 cn F (oF a p) then oD a p else 0) else 0) (p := dst a cn F) (fun i hi => by
        by_cases l : i < a 2
        · have T := tkn_1 (cn := cn) (F := F) l
          show (if i < a 2 then (if tkn a (cn1 cn F) i then oD a i else 0) else 0) = (if i < a 2 then (if tkn a cn i then oD a i else 0) else 0)
          rw [if_pos l, if_pos l]
          by_cases t : tkn a cn i
          · rw [if_pos t, if_pos (T.mpr (Or.inl t))]
          · rw [if_neg t, if_neg (fun q => by rcases T.mp q with x | x; exact t x; exact hi x.2)]
        · show (if i < a 2 then _ else 0) = (if i < a 2 then _ else 0)
          rw [if_neg l, if_neg l]) (by show (if dst a cn F < a 2 then (if tkn a cn (dst a cn F) then _ else 0) else 0) = 0; rw [if_pos c, if_neg hn]) (j := a 2) (k := 0) (Nat.zero_le _) (by omega)
      have e1 : sumB a (cn1 cn F) = nT (fun p => if p < a 2 then (if oB a p < cn1 cn F (oF a p) then oD a p else 0) else 0) 0 (a 2) := nT_eq fun i _ hi => by
        exact (if_pos (show i < a 2 by omega)).symm
      have e2 : sumB a cn = nT (fun p => if p < a 2 then (if oB a p < cn (oF a p) then oD a p else 0) else 0) 0 (a 2) := nT_eq fun i _ hi => by
        exact (if_pos (show i < a 2 by omega)).symm
      rw [e1, e2, this]
      show _ + (if dst a cn F < a 2 then (if tkn a (cn1 cn F) (dst a cn F) then oD a (dst a cn F) else 0) else 0) = _
      rw [if_pos c, if_pos ((tkn_1 c).mpr (Or.inr ⟨c, rfl⟩))]
  · rw [if_neg c, Nat.add_zero]
    exact nT_eq fun i _ hi => by
      have T := tkn_1 (a := a) (cn := cn) (F := F) (p := i) (by omega)
      show (if tkn a (cn1 cn F) i then oD a i else 0) = (if tkn a cn i then oD a i else 0)
      by_cases t : tkn a cn i
      · rw [if_pos t, if_pos (T.mpr (Or.inl t))]
      · rw [if_neg t, if_neg (fun q => by rcases T.mp q with x | x; exact t x; exact c x.1)]
theorem sumB_le {u : Nat} {a : Nat → Nat} {cn : Nat → Nat} (O : OKA u a) : sumB a cn ≤ 6000 := by
  have o6 := O.ords
  have : sumB a cn ≤ a 2 * 999 := nT_le fun i _ hi => by
    have := oD_le O (k := i) (by omega)
    show (if oB a i < cn (oF a i) then oD a i else 0) ≤ 999
    split <;> omega
  omega
def tkM (μ : fM) (a : Nat → Nat) (cn : Nat → Nat) : Prop := ∀ k, k < a 2 → μ.1 20 0 0 k = bI (tkn a cn k)
theorem c_dst_1 {μ : fM} {u F : Nat} {a : Nat → Nat} {cn : Nat → Nat} (Y : YR μ 0 a) (O : OKA u a) (hF : F ≤ 8) (T : tkM μ a cn) : ∀ j k d, k + j = a 2 → d ≤ a 2 → fEnds (fun zz => frun eX2_dearestLeft tX2_dearestLeft zz 5 [kR 2 0 0, kN F, kN (a 1), kX (dF (a 2) d), kN k] [] μ 0 0) (.inl (some (vI (dF (a 2) (dlF (dPr a cn F) (oD a) (a 2) j k d)))), μ)
  | 0, k, d, e, hd => by
    have o6 := O.ords
    have hc := Y.count
    refine fE_pos (by show μ.1 2 0 0 5 ≤ nI k; rw [hc]; exact nI_le (by omega) (by omega)) 4 (fun _ => rfl) ?_
    exact fE_ret 2 (fun _ => rfl)
  | j + 1, k, d, e, hd => by
    have o6 := O.ords
    have hc := Y.count
    have ek : (nI k).toNatClampNeg = k := nI_clamp (by omega)
    have tk := T k (by omega)
    have fr := Y.fr (k := k) (by omega)
    have f8 := O.fo k (by omega)
    have due := c_due Y O (k := k) (by omega)
    have dk := oD_le O (k := k) (by omega)
    rw [dlF]
    have skip' : ¬ (dPr a cn F k ∧ (d = a 2 ∨ oD a d < oD a k)) → fEnds (fun zz => frun eX2_dearestLeft tX2_dearestLeft zz 58 [kR 2 0 0, kN F, kN (a 1), kX (dF (a 2) d), kN k] [] μ 0 0) (.inl (some (vI (dF (a 2) (dlF (dPr a cn F) (oD a) (a 2) j (k + 1) (if dPr a cn F k ∧ (d = a 2 ∨ oD a d < oD a k) then k else d))))), μ) := fun q => by
      rw [if_neg q]
      refine fE_step (y := fun zz => frun _ _ zz 5 [kR 2 0 0, kN F, kN (a 1), kX (dF (a 2) d), kX (nI k + 1)] [] _ 0 0) 2 (fun _ => rfl) ?_
      rw [nI_1]
      exact c_dst_1 Y O hF T j (k + 1) d (by omega) hd
    have take : dPr a cn F k ∧ (d = a 2 ∨ oD a d < oD a k) → fEnds (fun zz => frun eX2_dearestLeft tX2_dearestLeft zz 55 [kR 2 0 0, kN F, kN (a 1), kX (dF (a 2) d), kN k] [] μ 0 0) (.inl (some (vI (dF (a 2) (dlF (dPr a cn F) (oD a) (a 2) j (k + 1) (if dPr a cn F k ∧ (d = a 2 ∨ oD a d < oD a k) then k else d))))), μ) := fun q => by
      rw [if_pos q]
      refine fE_step (y := fun zz => frun _ _ zz 5 [kR 2 0 0, kN F, kN (a 1), kN k, kX (nI k + 1)] [] _ 0 0) 4 (fun _ => rfl) ?_
      rw [nI_1]
      have := c_dst_1 Y O hF T j (k + 1) k (by omega) (by omega)
      rw [dF_ne (show ¬ k = a 2 by omega)] at this
      exact this
    refine fE_neg (fun p => by change μ.1 2 0 0 5 ≤ nI k at p; rw [hc] at p; have := (nI_leI (by omega) (by omega)).mp p; omega) 4 (fun _ => rfl) ?_
    refine fE_pos (by refine g_in (k := k) ?_ (show k < 6 from by omega) (show 6 < 2 ^ 31 from by decide); first | rfl | (simp (disch := omega) only [fLit, nI_add, pk_mul, pk_rem, pk_sub, nI_clamp]; done)) 4 (fun _ => rfl) ?_
    refine fE_ite 1 (fun _ => rfl) (fun q => ?_) (fun q => ?_)
    · skip
      change μ.1 20 0 0 (nI k).toNatClampNeg = 0 at q
      rw [ek, tk] at q
      have q := bI_0.mp q
      refine fE_pos (by refine g_in (k := k) ?_ (show k < 6 from by omega) (show 6 < 2 ^ 31 from by decide); first | rfl | (simp (disch := omega) only [fLit, nI_add, pk_mul, pk_rem, pk_sub, nI_clamp]; done)) 4 (fun _ => rfl) ?_
      refine fE_ite 2 (fun _ => rfl) (fun r => ?_) (fun r => ?_)
      · skip
        change μ.1 17 0 0 (nI k).toNatClampNeg = nI F at r
        rw [ek, fr] at r
        have r := (nI_eq (by omega) (by omega)).mp r
        refine fE_ite 2 (fun _ => rfl) (fun s => ?_) (fun s => ?_)
        · skip
          have s : d = a 2 := Decidable.byContradiction fun z => absurd s (Int32.not_lt.mpr ((dF_lt hd (by omega)).mpr z))
          exact take ⟨⟨q, r⟩, Or.inl s⟩
        · skip
          have s : ¬ d = a 2 := (dF_lt hd (by omega)).mp (Int32.not_lt.mp s)
          have dued := c_due Y O (k := d) (by omega)
          have dd := oD_le O (k := d) (by omega)
          rw [dF_ne s]
          rw [dF_ne s] at skip' take
          refine fE_call (due) 4 (fun _ => rfl) ?_
          refine fE_call (dued) 4 (fun _ => rfl) ?_
          refine fE_ite 1 (fun _ => rfl) (fun t => ?_) (fun t => ?_)
          · skip
            have t := (nI_leI (by omega) (by omega)).mp t
            exact skip' (fun z => by have := z.2; omega)
          · skip
            have t : ¬ oD a k ≤ oD a d := fun z => t (nI_le z (by omega))
            exact take ⟨⟨q, r⟩, Or.inr (by omega)⟩
      · skip
        change ¬ μ.1 17 0 0 (nI k).toNatClampNeg = nI F at r
        rw [ek, fr] at r
        exact skip' (fun z => r (congrArg nI z.1.2))
    · skip
      change ¬ μ.1 20 0 0 (nI k).toNatClampNeg = 0 at q
      rw [ek, tk] at q
      have q := bI_n.mp q
      exact skip' (fun z => z.1.1 q)
theorem c_dst {μ : fM} {u F : Nat} {a : Nat → Nat} {cn : Nat → Nat} (Y : YR μ 0 a) (O : OKA u a) (hF : F ≤ 8) (T : tkM μ a cn) : sX2_dearestLeft [vR 2 0 0, vI (nI F), vI (nI (a 1))] μ = some (.inl (some (vI (dF (a 2) (dst a cn F)))), μ) := by
  have R := c_dst_1 Y O hF T (a 2) 0 (a 2) (by omega) (Nat.le_refl _)
  rw [show dF (a 2) (a 2) = -1 from if_pos rfl] at R
  refine fsemV_of (Nat.le_of_ble_eq_true rfl) ?_
  refine fE_step (y := fun zz => frun _ _ zz 5 [kR 2 0 0, kN F, kN (a 1), kX (-1), kN 0] [] _ 0 0) 4 (fun _ => rfl) ?_
  exact R
def tkP (C _y _h _k : Nat) : Prop := C = 20
theorem YR_tk {μ μ' : fM} {a : Nat → Nat} (Y : YR μ 0 a) (S : sX' tkP μ μ') : YR μ' 0 a := YR_sY Y (sY_ofX (P := fun c _ => c = 20) S (fun c y h k p => p)) (fun c hc p => by have := hc.1; omega)
/-- the hulls afloat among the first h, per number of frames -/
def cnt (a : Nat → Nat) (h : Nat) : Nat → Nat := fun F => nC (dP a F) 0 h
theorem nC_snoc {p : Nat → Prop} [DecidablePred p] : ∀ {j k : Nat}, nC p k (j + 1) = nC p k j + (if p (k + j) then 1 else 0)
  | 0, k => by
    show (if p k then 1 else 0) + 0 = 0 + (if p (k + 0) then 1 else 0)
    rw [Nat.add_zero, Nat.add_zero, Nat.zero_add]
  | j + 1, k => by
    have ih := nC_snoc (p := p) (j := j) (k := k + 1)
    show (if p k then 1 else 0) + nC p (k + 1) (j + 1) = (if p k then 1 else 0) + nC p (k + 1) j + _
    rw [ih, show k + 1 + j = k + (j + 1) from by omega]
    omega
theorem cnt_1 {a : Nat → Nat} {h : Nat} : cnt a (h + 1) = if hS a h = 1 then cn1 (cnt a h) (hF a h) else cnt a h := by
  funext F
  show nC (dP a F) 0 (h + 1) = _
  rw [nC_snoc, Nat.zero_add]
  by_cases s : hS a h = 1
  · rw [if_pos s]
    show _ = (if F = hF a h then cnt a h F + 1 else cnt a h F)
    by_cases e : F = hF a h
    · rw [if_pos e, if_pos ⟨s, e.symm⟩]; rfl
    · rw [if_neg e, if_neg (fun q => e q.2.symm)]; rfl
  · rw [if_neg s, if_neg (fun q => s q.1)]; rfl
theorem c_bs_1 {u : Nat} {a : Nat → Nat} (O : OKA u a) : ∀ j h (μ : fM) z6, h + j = a 0 → YR μ 0 a → tkM μ a (cnt a h) → ∃ μ', fEnds (fun zz => frun eX2_bestSum tX2_bestSum zz 30 [kR 2 0 0, kR 13 0 0, kN (a 0), kN (a 1), kN (sumB a (cnt a h)), kN h, z6] [] μ 0 0) (.inl (some (vI (nI (sumB a (cnt a (a 0)))))), μ') ∧ sX' tkP μ μ'
  | 0, h, μ, z6, e, Y, T => by
    have h6 := O.hulls
    obtain rfl : h = a 0 := e
    refine ⟨μ, ?_, sX_refl⟩
    refine fE_pos (by exact nI_le (Nat.le_refl _) (by omega)) 3 (fun _ => rfl) ?_
    exact fE_ret 2 (fun _ => rfl)
  | j + 1, h, μ, z6, e, Y, T => by
    have h6 := O.hulls
    have o6 := O.ords
    have eh : (nI h).toNatClampNeg = h := nI_clamp (by omega)
    have H := Y.hv (h := h) (by omega)
    have hs := H.2.1
    have hf := H.1
    have st := O.st h (by omega)
    have f8 := O.fr h (by omega)
    have C := cnt_1 (a := a) (h := h)
    have sl := sumB_le (cn := cnt a h) O
    by_cases s : hS a h = 1
    · rw [if_pos s] at C
      have cd : sX2_dearestLeft [vR 2 0 0, vI (μ.1 1 0 (nI h).toNatClampNeg 3), vI (nI (a 1))] μ = some (.inl (some (vI (dF (a 2) (dst a (cnt a h) (hF a h))))), μ) := by
        rw [eh, hf]
        exact c_dst Y O f8 T
      have S1 := sumB_1 (a := a) (cn := cnt a h) (F := hF a h)
      rw [← C] at S1
      have D := dst_ok (a := a) (cn := cnt a h) (F := hF a h)
      by_cases q : dst a (cnt a h) (hF a h) < a 2
      · rw [if_pos q] at S1
        have due := c_due (μ := fI μ 20 0 0 (dst a (cnt a h) (hF a h)) 1) (YR_tk Y (sX_fI rfl)) O q
        have dd := oD_le O (k := dst a (cnt a h) (hF a h)) (by omega)
        obtain ⟨μ', r1, r2⟩ := c_bs_1 O j (h + 1) (fI μ 20 0 0 (dst a (cnt a h) (hF a h)) 1) (some (vI (nI (dst a (cnt a h) (hF a h))))) (by omega) (YR_tk Y (sX_fI rfl)) (fun k hk => by
          rw [C]
          have t1 := tkn_1 (a := a) (cn := cnt a h) (F := hF a h) hk
          by_cases ek : k = dst a (cnt a h) (hF a h)
          · rw [ek, fI_at, bI_t ((tkn_1 q).mpr (Or.inr ⟨q, rfl⟩))]
          · rw [fI_ne (by omega), T k hk]
            exact bI_c ⟨fun x => t1.mpr (Or.inl x), fun x => by rcases t1.mp x with y | y; exact y; exact absurd y.2 ek⟩)
        refine ⟨μ', ?_, sX_trans (sX_fI rfl) r2⟩
        rw [S1] at r1
        refine fE_neg (fun p => by have := (nI_leI (by omega) (by omega)).mp p; omega) 3 (fun _ => rfl) ?_
        refine fE_pos (by refine g_in (k := h) ?_ (show h < 6 from by omega) (show 6 < 2 ^ 31 from by decide); first | rfl | (simp (disch := omega) only [fLit, nI_add, pk_mul, pk_rem, pk_sub, nI_clamp]; done)) 3 (fun _ => rfl) ?_
        refine fE_pos (by show μ.1 1 0 (nI h).toNatClampNeg 4 = nI 1; rw [eh, hs, s]) 3 (fun _ => rfl) ?_
        refine fE_pos (by refine g_in (k := h) ?_ (show h < 6 from by omega) (show 6 < 2 ^ 31 from by decide); first | rfl | (simp (disch := omega) only [fLit, nI_add, pk_mul, pk_rem, pk_sub, nI_clamp]; done)) 4 (fun _ => rfl) ?_
        refine fE_call (cd) 3 (fun _ => rfl) ?_
        refine fE_step (y := fun zz => frun _ _ zz 63 [kR 2 0 0, kR 13 0 0, kN (a 0), kN (a 1), kN (sumB a (cnt a h)), kN h, z6] [vI (dF (a 2) (dst a (cnt a h) (hF a h)))] _ 0 0) 1 (fun _ => rfl) ?_
        rw [dF_ne (show ¬ dst a (cnt a h) (hF a h) = a 2 by omega)]
        refine fE_neg (fun p => absurd p (Int32.not_lt.mpr (by rw [fLit]; exact nI_le (by omega) (by omega)))) 3 (fun _ => rfl) ?_
        refine fE_pos (by refine g_in (k := dst a (cnt a h) (hF a h)) ?_ (show dst a (cnt a h) (hF a h) < 6 from by omega) (show 6 < 2 ^ 31 from by decide); first | rfl | (simp (disch := omega) only [fLit, nI_add, pk_mul, pk_rem, pk_sub, nI_clamp]; done)) 5 (fun _ => rfl) ?_
        refine fE_step (y := fun zz => frun _ _ zz 78 [kR 2 0 0, kR 13 0 0, kN (a 0), kN (a 1), kN (sumB a (cnt a h)), kN h, kN (dst a (cnt a h) (hF a h))] [] (fI μ 20 0 0 (nI (dst a (cnt a h) (hF a h))).toNatClampNeg 1) 0 0) 0 (fun _ => rfl) ?_
        rw [nI_clamp (show dst a (cnt a h) (hF a h) < 2 ^ 31 by omega)]
        refine fE_call (due) 5 (fun _ => rfl) ?_
        refine fE_step (y := fun zz => frun _ _ zz 30 [kR 2 0 0, kR 13 0 0, kN (a 0), kN (a 1), kX (nI (sumB a (cnt a h)) + nI (oD a (dst a (cnt a h) (hF a h)))), kX (nI h + 1), kN (dst a (cnt a h) (hF a h))] [] _ 0 0) 4 (fun _ => rfl) ?_
        rw [nI_add, nI_1]
        exact r1
      · rw [if_neg q, Nat.add_zero] at S1
        have dN : dst a (cnt a h) (hF a h) = a 2 := by
          rcases D with x | x
          · exact x.1
          · exact absurd x.1 q
        obtain ⟨μ', r1, r2⟩ := c_bs_1 O j (h + 1) μ (some (vI (-1))) (by omega) Y (fun k hk => by
          rw [C, T k hk]
          have t1 := tkn_1 (a := a) (cn := cnt a h) (F := hF a h) hk
          exact bI_c ⟨fun x => t1.mpr (Or.inl x), fun x => by rcases t1.mp x with y | y; exact y; exact absurd y.1 q⟩)
        refine ⟨μ', ?_, r2⟩
        rw [S1] at r1
        rw [dN, show dF (a 2) (a 2) = -1 from if_pos rfl] at cd
        refine fE_neg (fun p => by have := (nI_leI (by omega) (by omega)).mp p; omega) 3 (fun _ => rfl) ?_
        refine fE_pos (by refine g_in (k := h) ?_ (show h < 6 from by omega) (show 6 < 2 ^ 31 from by decide); first | rfl | (simp (disch := omega) only [fLit, nI_add, pk_mul, pk_rem, pk_sub, nI_clamp]; done)) 3 (fun _ => rfl) ?_
        refine fE_pos (by show μ.1 1 0 (nI h).toNatClampNeg 4 = nI 1; rw [eh, hs, s]) 3 (fun _ => rfl) ?_
        refine fE_pos (by refine g_in (k := h) ?_ (show h < 6 from by omega) (show 6 < 2 ^ 31 from by decide); first | rfl | (simp (disch := omega) only [fLit, nI_add, pk_mul, pk_rem, pk_sub, nI_clamp]; done)) 4 (fun _ => rfl) ?_
        refine fE_call (cd) 3 (fun _ => rfl) ?_
        refine fE_step (y := fun zz => frun _ _ zz 30 [kR 2 0 0, kR 13 0 0, kN (a 0), kN (a 1), kN (sumB a (cnt a h)), kX (nI h + 1), kX (-1)] [] _ 0 0) 6 (fun _ => rfl) ?_
        rw [nI_1]
        exact r1
    · rw [if_neg s] at C
      obtain ⟨μ', r1, r2⟩ := c_bs_1 O j (h + 1) μ (some (vI (-1))) (by omega) Y (by rw [C]; exact T)
      rw [C] at r1
      refine ⟨μ', ?_, r2⟩
      refine fE_neg (fun p => by have := (nI_leI (by omega) (by omega)).mp p; omega) 3 (fun _ => rfl) ?_
      refine fE_pos (by refine g_in (k := h) ?_ (show h < 6 from by omega) (show 6 < 2 ^ 31 from by decide); first | rfl | (simp (disch := omega) only [fLit, nI_add, pk_mul, pk_rem, pk_sub, nI_clamp]; done)) 3 (fun _ => rfl) ?_
      refine fE_neg (fun p => by change μ.1 1 0 (nI h).toNatClampNeg 4 = nI 1 at p; rw [eh, hs] at p; exact s ((nI_eq (by omega) (by omega)).mp p)) 3 (fun _ => rfl) ?_
      refine fE_step (y := fun zz => frun _ _ zz 30 [kR 2 0 0, kR 13 0 0, kN (a 0), kN (a 1), kN (sumB a (cnt a h)), kX (nI h + 1), kX (-1)] [] _ 0 0) 6 (fun _ => rfl) ?_
      rw [nI_1]
      exact r1
theorem c_bs_0 {u : Nat} {a : Nat → Nat} {res : fR} (O : OKA u a) : ∀ j k (μ : fM), k + j = 6 → (∀ i, i < k → μ.1 20 0 0 i = 0) → (∀ μ' : fM, (∀ i, i < 6 → μ'.1 20 0 0 i = 0) → sX' tkP μ μ' → ∃ r, fEnds (fun zz => frun eX2_bestSum tX2_bestSum zz 24 [kR 2 0 0, kR 13 0 0, kN (a 0), kN (a 1), kN 6, none, none] [] μ' 0 0) r ∧ r.1 = res.1 ∧ sX' tkP μ' r.2) → ∃ r, fEnds (fun zz => frun eX2_bestSum tX2_bestSum zz 3 [kR 2 0 0, kR 13 0 0, kN (a 0), kN (a 1), kN k, none, none] [] μ 0 0) r ∧ r.1 = res.1 ∧ sX' tkP μ r.2
  | 0, k, μ, e, h0, K => by
    obtain rfl : k = 6 := e
    obtain ⟨r, r1, r2, r3⟩ := K μ h0 sX_refl
    refine ⟨r, ?_, r2, r3⟩
    refine fE_step (y := fun zz => frun _ _ zz 24 [kR 2 0 0, kR 13 0 0, kN (a 0), kN (a 1), kN 6, none, none] [] _ 0 0) 3 (fun _ => rfl) ?_
    exact r1
  | j + 1, k, μ, e, h0, K => by
    have S : sX' tkP μ (fI μ 20 0 0 k 0) := sX_fI rfl
    obtain ⟨r, r1, r2, r3⟩ := c_bs_0 (res := res) O j (k + 1) (fI μ 20 0 0 k 0) (by omega) (fun i hi => by
      by_cases c : i = k
      · subst c; exact fI_at
      · rw [fI_ne (by omega)]; exact h0 i (by omega)) (fun μ' h1 h2 => K μ' h1 (sX_trans S h2))
    refine ⟨r, ?_, r2, sX_trans S r3⟩
    refine fE_neg (by first | omega | (simp (disch := omega) only [fLit, nI_add, pk_mul, pk_rem, nI_clamp, beq01, beq11, cond_false, cond_true, nI_leI, nI_ltI, nI_eq]; done) | (simp (disch := omega) only [fLit, nI_add, pk_mul, pk_rem, nI_clamp, beq01, beq11, cond_false, cond_true, nI_leI, nI_ltI, nI_eq]; omega)) 3 (fun _ => rfl) ?_
    refine fE_pos (by refine g_in (k := k) ?_ (show k < 6 from by omega) (show 6 < 2 ^ 31 from by decide); first | rfl | (simp (disch := omega) only [fLit, nI_add, pk_mul, pk_rem, pk_sub, nI_clamp]; done)) 5 (fun _ => rfl) ?_
    refine fE_step (y := fun zz => frun _ _ zz 3 [kR 2 0 0, kR 13 0 0, kN (a 0), kN (a 1), kX (nI k + 1), none, none] [] (fI μ 20 0 0 (nI k).toNatClampNeg 0) 0 0) 2 (fun _ => rfl) ?_
    rw [nI_clamp (show k < 2 ^ 31 by omega), nI_1]
    exact r1
theorem c_bs {μ : fM} {u : Nat} {a : Nat → Nat} (Y : YR μ 0 a) (O : OKA u a) : ∃ μ', sX2_bestSum [vR 2 0 0, vR 13 0 0, vI (nI (a 0)), vI (nI (a 1))] μ = some (.inl (some (vI (nI (qDel a)))), μ') ∧ sX' tkP μ μ' := by
  have o6 := O.ords
  have z0 : sumB a (cnt a 0) = 0 := by
    have : ∀ {j k : Nat}, nT (fun p => if oB a p < cnt a 0 (oF a p) then oD a p else 0) k j = 0 := fun {j} => by
      induction j with
      | zero => intro k; rfl
      | succ j ih =>
        intro k
        show (if oB a k < 0 then oD a k else 0) + nT _ (k + 1) j = 0
        rw [if_neg (Nat.not_lt_zero _), ih]
    exact this
  obtain ⟨r, r1, r2, r3⟩ := c_bs_0 (res := (.inl (some (vI (nI (sumB a (cnt a (a 0)))))), μ)) O 6 0 μ rfl (fun i hi => absurd hi (Nat.not_lt_zero _)) (fun μ' h1 h2 => by
    obtain ⟨μ2, s1, s2⟩ := c_bs_1 O (a 0) 0 μ' none (by omega) (YR_tk Y h2) (fun k hk => by
      rw [h1 k (by omega), bI_f (by show ¬ oB a k < 0; omega)])
    refine ⟨(.inl (some (vI (nI (sumB a (cnt a (a 0)))))), μ2), ?_, rfl, s2⟩
    rw [z0] at s1
    refine fE_step (y := fun zz => frun _ _ zz 30 [kR 2 0 0, kR 13 0 0, kN (a 0), kN (a 1), kN 0, kN 0, none] [] _ 0 0) 4 (fun _ => rfl) ?_
    exact s1
    )
  obtain ⟨r0, μ2⟩ := r
  have r2 : r0 = .inl (some (vI (nI (sumB a (cnt a (a 0)))))) := r2
  subst r2
  refine ⟨μ2, fsemV_of (Nat.le_of_ble_eq_true rfl) ?_, r3⟩
  refine fE_step (y := fun zz => frun _ _ zz 3 [kR 2 0 0, kR 13 0 0, kN (a 0), kN (a 1), kN 0, none, none] [] _ 0 0) 2 (fun _ => rfl) ?_
  exact r1
theorem k_bestDelivery {μ : fM} {u : Nat} {a : Nat → Nat} (Y : YR μ 0 a) (O : OKA u a) : ∃ μ', sX7_bestDelivery [vR 7 0 0] μ = some (.inl (some (vI (nI (qDel a)))), μ') ∧ sX' tkP μ μ' := by
  obtain ⟨μ', r1, r2⟩ := c_bs Y O
  rw [← Y.begun, ← Y.now] at r1
  refine ⟨μ', fsemV_of (Nat.le_of_ble_eq_true rfl) ?_, r2⟩
  refine fE_call (r1) 13 (fun _ => rfl) ?_
  exact fE_ret 1 (fun _ => rfl)
