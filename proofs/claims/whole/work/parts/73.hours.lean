/-! HOURS: the model takes all hulls three times, the class each hull once -/
def foldH (f : Nat → (Nat → Nat) → (Nat → Nat)) : Nat → Nat → (Nat → Nat) → (Nat → Nat)
  | 0, _, b => b
  | j + 1, h, b => foldH f j (h + 1) (f h b)
def aE (h : Nat) (b b' : Nat → Nat) : Prop := (∀ k, 21 + 28 * h ≤ k → k < 49 + 28 * h → b' k = b k) ∧ b' 1 = b 1
theorem aE_trans {h : Nat} {a b c : Nat → Nat} (h1 : aE h a b) (h2 : aE h b c) : aE h a c := ⟨fun k p q => (h2.1 k p q).trans (h1.1 k p q), h2.2.trans h1.2⟩
def LocH (f : Nat → (Nat → Nat) → (Nat → Nat)) : Prop := ∀ h b, hF b h ≤ 8 → aL h b (f h b) ∧ hF (f h b) h = hF b h ∧ ∀ b', aE h b b' → aE h (f h b) (f h b')
theorem aL_aE {h g : Nat} {b b' : Nat → Nat} (L : aL h b b') (hg : g ≠ h) : aE g b b' := ⟨fun k p q => L k (by omega), L 1 (by omega)⟩
theorem foldH_at {f : Nat → (Nat → Nat) → (Nat → Nat)} (Lf : LocH f) : ∀ {j h b}, (∀ g, h ≤ g → g < h + j → hF b g ≤ 8) → (∀ g, h ≤ g → g < h + j → aE g (f g b) (foldH f j h b)) ∧ (∀ k, (∀ g, h ≤ g → g < h + j → ¬ (21 + 28 * g ≤ k ∧ k < 49 + 28 * g)) → foldH f j h b k = b k)
  | 0, h, b, _ => ⟨fun g h1 h2 => absurd h2 (by omega), fun _ _ => rfl⟩
  | j + 1, h, b, h8 => by
    have L := Lf h b (h8 h (by omega) (by omega))
    have ih := foldH_at Lf (j := j) (h := h + 1) (b := f h b) (fun g h1 h2 => by
      rw [show hF (f h b) g = hF b g from L.1 _ (by omega)]
      exact h8 g (by omega) (by omega))
    refine ⟨fun g h1 h2 => ?_, fun k hk => ?_⟩
    · by_cases e : g = h
      · subst e
        exact ⟨fun k p q => ih.2 k (fun g' h3 h4 => by omega), ih.2 1 (fun g' h3 h4 => by omega)⟩
      · have h9 := h8 g h1 h2
        exact aE_trans ((Lf g b h9).2.2 _ (aL_aE L.1 e)) (ih.1 g (by omega) (by omega))
    · exact (ih.2 k (fun g h3 h4 => hk g (by omega) (by omega))).trans (L.1 k (hk h (by omega) (by omega)))
theorem LocH_comp {f f' : Nat → (Nat → Nat) → (Nat → Nat)} (L : LocH f) (L' : LocH f') : LocH (fun h b => f' h (f h b)) := fun h b h8 => by
  have l1 := L h b h8
  have l2 := L' h (f h b) (by rw [l1.2.1]; exact h8)
  exact ⟨aL_trans l1.1 l2.1, l2.2.1.trans l1.2.1, fun b' e => l2.2.2 _ (l1.2.2 b' e)⟩
theorem foldH_eq {f f' : Nat → (Nat → Nat) → (Nat → Nat)} (L : LocH f) (L' : LocH f') {j h : Nat} {b b' : Nat → Nat} (h8 : ∀ g, h ≤ g → g < h + j → hF b g ≤ 8) (h8' : ∀ g, h ≤ g → g < h + j → hF b' g ≤ 8) (e : ∀ k, (∀ g, h ≤ g → g < h + j → ¬ (21 + 28 * g ≤ k ∧ k < 49 + 28 * g)) → b k = b' k) (ef : ∀ g, h ≤ g → g < h + j → aE g (f g b) (f' g b')) : foldH f j h b = foldH f' j h b' := by
  funext k
  by_cases q : ∃ g, h ≤ g ∧ g < h + j ∧ (21 + 28 * g ≤ k ∧ k < 49 + 28 * g)
  · obtain ⟨g, h1, h2, h3, h4⟩ := q
    have a1 := ((foldH_at L h8).1 g h1 h2).1 k h3 h4
    have a2 := ((foldH_at L' h8').1 g h1 h2).1 k h3 h4
    rw [a1, a2]
    exact ((ef g h1 h2).1 k h3 h4).symm
  · have q' : ∀ g, h ≤ g → g < h + j → ¬ (21 + 28 * g ≤ k ∧ k < 49 + 28 * g) := fun g h1 h2 h3 => q ⟨g, h1, h2, h3⟩
    rw [(foldH_at L h8).2 k q', (foldH_at L' h8').2 k q', e k q']
theorem aE_hull {h : Nat} {b b' : Nat → Nat} (e : aE h b b') (h8 : hF b h ≤ 8) : hS b' h = hS b h ∧ hF b' h = hF b h ∧ hW b' h = hW b h ∧ hWgt b' h = hWgt b h ∧ hWide b' h = hWide b h ∧ lk b' h = lk b h := by
  have s := e.1 (21 + 28 * h) (by omega) (by omega)
  have f : hF b' h = hF b h := e.1 _ (by omega) (by omega)
  have c : hC b' h = hC b h := e.1 _ (by omega) (by omega)
  have w : hW b' h = hW b h := e.1 _ (by omega) (by omega)
  have d : ∀ k s, k < 8 → s < 2 → hD b' h k s = hD b h k s := fun k s hk hs => e.1 _ (by omega) (by omega)
  have kk : ∀ k, k < 8 → hK b' h k = hK b h k := fun k hk => e.1 _ (by omega) (by omega)
  refine ⟨s, f, w, ?_, ?_, ?_⟩
  · unfold hWgt hDry
    rw [f, c, w, nT_eq (f := fun k => hD b' h k 0 + hD b' h k 1) (g := fun k => hD b h k 0 + hD b h k 1) (fun i _ hi => by
      show hD b' h i 0 + hD b' h i 1 = _
      rw [d i 0 (by omega) (by decide), d i 1 (by omega) (by decide)])]
  · unfold hWide
    rw [f]
    exact nT_eq fun i _ hi => by
      show hD b' h i 0 + hD b' h i 1 + hD b' h (i + 1) 0 + hD b' h (i + 1) 1 = _
      rw [d i 0 (by omega) (by decide), d i 1 (by omega) (by decide), d (i + 1) 0 (by omega) (by decide), d (i + 1) 1 (by omega) (by decide)]
  · unfold lk
    rw [f]
    exact nT_eq fun i _ hi => by
      show 9 - hK b' h i = _
      rw [kk i (by omega)]
theorem aE_up {h k v : Nat} {b b' : Nat → Nat} (e : aE h b b') (hk : 21 + 28 * h ≤ k ∧ k < 49 + 28 * h) : aE h (up b k v) (up b' k v) := by
  refine ⟨fun i p q => ?_, ?_⟩
  · unfold up
    split
    · rfl
    · exact e.1 i p q
  · rw [up_ne (by omega), up_ne (by omega)]
    exact e.2
theorem loc_1 : LocH (fun h b => s1 b h) := fun h b h8 => by
  refine ⟨?_, ?_, fun b' e => ?_⟩
  · show aL h b (s1 b h)
    unfold s1
    split
    · exact aL_up (by omega)
    · exact aL_refl
  · exact s1_ne (by omega)
  · have E := aE_hull e h8
    show aE h (s1 b h) (s1 b' h)
    unfold s1
    rw [E.1, E.2.2.1, E.2.2.2.2.2]
    split
    · exact aE_up e (by omega)
    · exact e
theorem loc_2 : LocH (fun h b => s2 b h) := fun h b h8 => by
  have A : ∀ k, ¬ (21 + 28 * h ≤ k ∧ k < 49 + 28 * h) → A2 b h (hF b h - 1) k = b k := fun k q => A2_ne (by omega)
  refine ⟨?_, ?_, fun b' e => ?_⟩
  · show aL h b (s2 b h)
    unfold s2
    split
    · exact A
    · exact aL_refl
  · show s2 b h (21 + 28 * h + 1) = _
    unfold s2
    split
    · exact A2_ne (by omega)
    · rfl
  · have E := aE_hull e h8
    show aE h (s2 b h) (s2 b' h)
    unfold s2
    rw [E.1, E.2.1, e.2]
    split
    · refine ⟨fun k p q => ?_, ?_⟩
      · unfold A2
        split
        · rw [e.1 k p q]
        · exact e.1 k p q
      · rw [A2_ne (by omega), A2_ne (by omega)]
        exact e.2
    · exact e
/-- a hull that cannot float sinks -/
def s3' (b : Nat → Nat) (h : Nat) : Nat → Nat := if hS b h = 1 ∧ hDr b h (hWgt b h) = 41 then up b (21 + 28 * h) 3 else b
theorem loc_3 : LocH (fun h b => s3' b h) := fun h b h8 => by
  refine ⟨?_, ?_, fun b' e => ?_⟩
  · show aL h b (s3' b h)
    unfold s3'
    split
    · exact aL_up (by omega)
    · exact aL_refl
  · show s3' b h (21 + 28 * h + 1) = _
    unfold s3'
    split
    · exact up_ne (by omega)
    · rfl
  · have E := aE_hull e h8
    show aE h (s3' b h) (s3' b' h)
    unfold s3' hDr
    rw [E.1, E.2.2.2.1, E.2.2.2.2.1]
    split
    · exact aE_up e (by omega)
    · exact e
theorem r1_fold : ∀ {j h : Nat} {b : Nat → Nat}, r1 j h b = foldH (fun h b => s1 b h) j h b
  | 0, _, _ => rfl
  | j + 1, h, b => by rw [r1, foldH, r1_fold]
theorem r2_fold : ∀ {j h : Nat} {b : Nat → Nat}, r2 j h b = foldH (fun h b => s2 b h) j h b
  | 0, _, _ => rfl
  | j + 1, h, b => by rw [r2, foldH, r2_fold]
theorem s3_2 {q : Nat × (Nat → Nat)} {h : Nat} : (s3 q h).2 = s3' q.2 h := by
  unfold s3 s3'
  split <;> rfl
theorem r3_fold : ∀ {j h : Nat} {q : Nat × (Nat → Nat)}, (r3 j h q).2 = foldH (fun h b => s3' b h) j h q.2
  | 0, _, _ => rfl
  | j + 1, h, q => by rw [r3, foldH, r3_fold, s3_2]
/-- whether hull g sinks -/
def sI (b : Nat → Nat) (g : Nat) : Nat := if hS b g = 1 ∧ hDr b g (hWgt b g) = 41 then 1 else 0
theorem sI_e {g : Nat} {b b' : Nat → Nat} (e : aE g b b') (h8 : hF b g ≤ 8) : sI b' g = sI b g := by
  have E := aE_hull e h8
  unfold sI hDr
  rw [E.1, E.2.2.2.1, E.2.2.2.2.1]
theorem r3_count : ∀ {j h : Nat} {q : Nat × (Nat → Nat)}, (∀ g, h ≤ g → g < h + j → hF q.2 g ≤ 8) → (r3 j h q).1 = q.1 + nT (sI q.2) h j
  | 0, _, _, _ => rfl
  | j + 1, h, q, h8 => by
    have L := loc_3 h q.2 (h8 h (by omega) (by omega))
    rw [r3, r3_count (fun g h1 h2 => by rw [s3_2, show hF (s3' q.2 h) g = hF q.2 g from L.1 _ (by omega)]; exact h8 g (by omega) (by omega)), nT, s3_2, nT_eq (f := sI (s3' q.2 h)) (g := sI q.2) (fun g h1 h2 => sI_e (aL_aE L.1 (by omega)) (h8 g (by omega) (by omega)))]
    have : (s3 q h).1 = q.1 + sI q.2 h := by
      unfold s3 sI
      split <;> rfl
    rw [this, Nat.add_assoc]
/-- what an hour does to hull h -/
def oneH (h : Nat) (b : Nat → Nat) : Nat → Nat := s3' (s2 (s1 b h) h) h
theorem loc_12 : LocH (fun h b => s2 (s1 b h) h) := LocH_comp (f := fun h b => s1 b h) (f' := fun h b => s2 b h) loc_1 loc_2
theorem loc_one : LocH oneH := LocH_comp (f := fun h b => s2 (s1 b h) h) (f' := fun h b => s3' b h) loc_12 loc_3
def oneI (b : Nat → Nat) (g : Nat) : Nat := sI (s2 (s1 b g) g) g
theorem oneI_e {g : Nat} {b b' : Nat → Nat} (e : aE g b b') (h8 : hF b g ≤ 8) : oneI b' g = oneI b g := by
  have L := loc_12 g b h8
  exact sI_e (L.2.2 b' e) (by rw [L.2.1]; exact h8)
theorem sHr_one {a : Nat → Nat} (h8 : ∀ g, g < a 0 → hF a g ≤ 8) : (sHr a).2 = foldH oneH (a 0) 0 (up a 1 (a 1 + 1)) ∧ (sHr a).1 = nT (oneI (up a 1 (a 1 + 1))) 0 (a 0) := by
  have h8a : ∀ g, 0 ≤ g → g < 0 + a 0 → hF (up a 1 (a 1 + 1)) g ≤ 8 := fun g _ h2 => by
    rw [show hF (up a 1 (a 1 + 1)) g = hF a g from up_ne (by omega)]
    exact h8 g (by omega)
  have f1 := foldH_at loc_1 (j := a 0) (h := 0) (b := up a 1 (a 1 + 1)) h8a
  have g1 : ∀ g, 0 ≤ g → g < 0 + a 0 → hF (foldH (fun h b => s1 b h) (a 0) 0 (up a 1 (a 1 + 1))) g ≤ 8 := fun g h1 h2 => by
    have e := (f1.1 g h1 h2).1 (21 + 28 * g + 1) (by omega) (by omega)
    have := (loc_1 g _ (h8a g h1 h2)).2.1
    rw [hF, e]
    exact Nat.le_trans (Nat.le_of_eq this) (h8a g h1 h2)
  have f2 := foldH_at loc_2 (j := a 0) (h := 0) (b := foldH (fun h b => s1 b h) (a 0) 0 (up a 1 (a 1 + 1))) g1
  have g2 : ∀ g, 0 ≤ g → g < 0 + a 0 → hF (foldH (fun h b => s2 b h) (a 0) 0 (foldH (fun h b => s1 b h) (a 0) 0 (up a 1 (a 1 + 1)))) g ≤ 8 := fun g h1 h2 => by
    have e := (f2.1 g h1 h2).1 (21 + 28 * g + 1) (by omega) (by omega)
    have := (loc_2 g _ (g1 g h1 h2)).2.1
    rw [hF, e]
    exact Nat.le_trans (Nat.le_of_eq this) (g1 g h1 h2)
  have e12 : ∀ g, 0 ≤ g → g < 0 + a 0 → aE g (s2 (s1 (up a 1 (a 1 + 1)) g) g) (foldH (fun h b => s2 b h) (a 0) 0 (foldH (fun h b => s1 b h) (a 0) 0 (up a 1 (a 1 + 1)))) := fun g h1 h2 => by
    have l1 := loc_1 g _ (h8a g h1 h2)
    have l2 := loc_2 g (s1 (up a 1 (a 1 + 1)) g) (Nat.le_trans (Nat.le_of_eq l1.2.1) (h8a g h1 h2))
    exact aE_trans (l2.2.2 _ (f1.1 g h1 h2)) (f2.1 g h1 h2)
  have h12 : ∀ g, 0 ≤ g → g < 0 + a 0 → hF (s2 (s1 (up a 1 (a 1 + 1)) g) g) g ≤ 8 := fun g h1 h2 => by
    have l := loc_12 g _ (h8a g h1 h2)
    exact Nat.le_trans (Nat.le_of_eq l.2.1) (h8a g h1 h2)
  constructor
  · unfold sHr
    rw [r3_fold]
    show foldH _ _ _ (r2 (a 0) 0 (r1 (a 0) 0 (up a 1 (a 1 + 1)))) = _
    rw [r2_fold, r1_fold]
    refine (foldH_eq loc_one loc_3 h8a g2 (fun k hk => ?_) (fun g h1 h2 => ?_)).symm
    · rw [f2.2 k hk, f1.2 k hk]
    · exact (loc_3 g _ (h12 g h1 h2)).2.2 _ (e12 g h1 h2)
  · unfold sHr
    rw [r3_count (by
      show ∀ g, 0 ≤ g → g < 0 + a 0 → hF (r2 (a 0) 0 (r1 (a 0) 0 (up a 1 (a 1 + 1)))) g ≤ 8
      rw [r2_fold, r1_fold]
      exact g2)]
    show 0 + nT (sI (r2 (a 0) 0 (r1 (a 0) 0 (up a 1 (a 1 + 1))))) 0 (a 0) = _
    rw [Nat.zero_add, r2_fold, r1_fold]
    exact nT_eq fun g h1 h2 => sI_e (e12 g h1 h2) (h12 g h1 h2)
/-- the class's leak is the model's two steps -/
theorem lkR_two {t g : Nat} {b : Nat → Nat} (h8 : hF b g ≤ 8) (h1 : b 1 = t) (hs : hS b g = 1) : lkR t g (hF b g - 1) 0 b = s2 (s1 b g) g := by
  have A := lkR_all (t := t) (g := g) (j := hF b g - 1) (k := 0) (b := b)
  have e1 : s1 b g = up b (21 + 28 * g + 3) (hW b g + lk b g) := if_pos hs
  have es : hS (s1 b g) g = 1 := by rw [e1]; exact (up_ne (by omega)).trans hs
  have ef : hF (s1 b g) g = hF b g := by rw [e1]; exact up_ne (by omega)
  have et : (s1 b g) 1 = t := by rw [e1]; exact (up_ne (by omega)).trans h1
  funext k
  by_cases kw : k = 21 + 28 * g + 3
  · subst kw
    have := A.2.1
    rw [hW] at this
    rw [this]
    unfold s2
    split
    · rw [A2_ne (by omega), e1, up_at]; rfl
    · rw [e1, up_at]; rfl
  · by_cases kk : 21 + 28 * g + 20 ≤ k ∧ k < 21 + 28 * g + 20 + (hF b g - 1)
    · have := A.2.2 (k - (21 + 28 * g + 20)) (by omega) (by omega)
      rw [hK, hK, show 21 + 28 * g + 20 + (k - (21 + 28 * g + 20)) = k from by omega] at this
      rw [this]
      unfold s2 kN'
      rw [es, et, ef]
      by_cases m : t % 6 = 0
      · rw [if_pos m, if_pos ⟨rfl, m⟩]
        unfold A2
        rw [if_pos kk, e1, up_ne kw]
      · rw [if_neg m, if_neg (fun p => m p.2), e1, up_ne kw]
    · rw [A.1 k kw (fun m h2 h3 h4 => kk (by omega))]
      unfold s2
      split
      · rw [A2_ne (by rw [ef]; exact kk), e1, up_ne kw]
      · rw [e1, up_ne kw]
theorem lkR_hs {t g j : Nat} {b : Nat → Nat} (hj : j ≤ 7) : hS (lkR t g j 0 b) g = hS b g := (lkR_all (t := t) (g := g) (j := j) (k := 0) (b := b)).1 _ (by omega) (fun m _ _ => by omega)
theorem lkR_aL {t g j : Nat} {b : Nat → Nat} (hj : j ≤ 7) : aL g b (lkR t g j 0 b) := fun k q => (lkR_all (t := t) (g := g) (j := j) (k := 0) (b := b)).1 _ (by omega) (fun m _ _ => by omega)
theorem HB_of {g : Nat} {b b' : Nat → Nat} (B : HB b g) (e : ∀ k, 21 + 28 * g ≤ k → k < 49 + 28 * g → b' k = b k) : HB b' g := by
  refine ⟨?_, ?_, ?_, ?_, fun k s hk hs => ?_, fun k hk => ?_⟩
  · rw [hF, e _ (by omega) (by omega)]; exact B.1
  · rw [hS, e _ (by omega) (by omega)]; exact B.2.1
  · rw [hC, e _ (by omega) (by omega)]; exact B.2.2.1
  · rw [hW, e _ (by omega) (by omega)]; exact B.2.2.2.1
  · rw [hD, e _ (by omega) (by omega)]; exact B.2.2.2.2.1 k s hk hs
  · rw [hK, e _ (by omega) (by omega)]; exact B.2.2.2.2.2 k hk
theorem c_sinks {μ : fM} {h : Nat} {b : Nat → Nat} (Y : YR μ 0 b) (hh : h < 6) (B : ∀ g, g < 6 → HB b g) (hw : hW b h + 63 ≤ 40000000) (h1 : b 1 < 2 ^ 30) : ∃ μ', sX6_sinksInThisHour [vR 6 0 0, vR 1 0 h] μ = some (.inl (some (vI (nI (oneI b h)))), μ') ∧ YR μ' 0 (oneH h b) ∧ sX' (hP 0 h) μ μ' ∧ HB (oneH h b) h := by
  have H := Y.hv hh
  have hs := H.2.1
  have Bh := B h hh
  have b2 := Bh.2.1
  have h8 := Bh.1
  have hn := Y.now
  by_cases q : hS b h = 1
  · obtain ⟨μ1, r1, r2, r3⟩ := c_leak (t := b 1) h1 H Bh hw
    rw [← hn] at r1
    have L := lkR_hb (t := b 1) (j := hF b h - 1) Bh rfl hw
    have S := lkR_hs (t := b 1) (g := h) (j := hF b h - 1) (b := b) (by omega)
    have E := lkR_two (t := b 1) (g := h) h8 rfl q
    have cf := c_floats r2 L.1
    have Y1 : YR μ1 0 (lkR (b 1) h (hF b h - 1) 0 b) := YR_hull Y hh (fun g hg => (B g hg).1) r2 (lkR_aL (by omega)) r3
    unfold oneI oneH
    rw [← E]
    unfold sI s3' hDr
    rw [S, q]
    by_cases d : dDr (hWide (lkR (b 1) h (hF b h - 1) 0 b) h) (hWgt (lkR (b 1) h (hF b h - 1) 0 b) h) = 41
    · rw [if_pos ⟨rfl, d⟩, if_pos ⟨rfl, d⟩]
      refine ⟨fI μ1 1 0 h 4 (nI 3), fsemV_of (Nat.le_of_ble_eq_true rfl) ?_, YR_hull Y1 hh (fun g hg => ?_) (HV_state r2 L.1) (aL_up (by omega)) (sX_fI ⟨Or.inl rfl, rfl, rfl⟩), sX_trans r3 (sX_fI ⟨Or.inl rfl, rfl, rfl⟩), HB_state L.1 (by omega)⟩
      · skip
        refine fE_pos (by show μ.1 1 0 h 4 = nI 1; rw [hs, q]) 4 (fun _ => rfl) ?_
        refine fE_call (r1) 4 (fun _ => rfl) ?_
        refine fE_call (cf) 2 (fun _ => rfl) ?_
        refine fE_pos (bI_0.mpr (by rw [fl_dr]; exact fun p => p d)) 1 (fun _ => rfl) ?_
        exact fE_ret 5 (fun _ => rfl)
      · by_cases e : g = h
        · rw [e]; exact L.1.1
        · rw [show hF (lkR (b 1) h (hF b h - 1) 0 b) g = hF b g from lkR_aL (by omega) _ (by omega)]
          exact (B g hg).1
    · rw [if_neg (fun p => d p.2), if_neg (fun p => d p.2)]
      refine ⟨μ1, fsemV_of (Nat.le_of_ble_eq_true rfl) ?_, Y1, r3, L.1⟩
      skip
      refine fE_pos (by show μ.1 1 0 h 4 = nI 1; rw [hs, q]) 4 (fun _ => rfl) ?_
      refine fE_call (r1) 4 (fun _ => rfl) ?_
      refine fE_call (cf) 2 (fun _ => rfl) ?_
      refine fE_neg (fun p => bI_0.mp p (by rw [fl_dr]; exact d)) 1 (fun _ => rfl) ?_
      exact fE_ret 2 (fun _ => rfl)
  · have e1 : s1 b h = b := if_neg q
    have e2 : s2 b h = b := if_neg (fun p => q p.1)
    have e3 : s3' b h = b := if_neg (fun p => q p.1)
    have e4 : sI b h = 0 := if_neg (fun p => q p.1)
    unfold oneI oneH
    rw [e1, e2, e3, e4]
    refine ⟨μ, fsemV_of (Nat.le_of_ble_eq_true rfl) ?_, Y, sX_refl, Bh⟩
    skip
    refine fE_neg (fun p => by change μ.1 1 0 h 4 = nI 1 at p; rw [hs] at p; exact q ((nI_eq (by omega) (by omega)).mp p)) 4 (fun _ => rfl) ?_
    exact fE_ret 2 (fun _ => rfl)
theorem oneI_le {b : Nat → Nat} {g : Nat} : oneI b g ≤ 1 := by
  unfold oneI sI
  split <;> omega
theorem c_hour_1 {N : Nat} {p : Nat} : ∀ j h n (μ : fM) (b : Nat → Nat), YR μ 0 b → h + j = b 0 → b 0 ≤ 6 → (∀ g, g < 6 → HB b g) → (∀ g, h ≤ g → g < 6 → hW b g + 63 ≤ 40000000) → b 1 < 2 ^ 30 → ∃ μ', (∀ res, fEnds (fun zz => frun eX6_letHoursPass tX6_letHoursPass zz 54 [kR 6 0 0, kN N, kN (n + nT (oneI b) h j), kN p, kN (b 0)] [] μ' 0 0) res → fEnds (fun zz => frun eX6_letHoursPass tX6_letHoursPass zz 22 [kR 6 0 0, kN N, kN n, kN p, kN h] [] μ 0 0) res) ∧ YR μ' 0 (foldH oneH j h b) ∧ sX' (hsP 0) μ μ'
  | 0, h, n, μ, b, Y, e, h6, B, hw, h1 => by
    have hb := Y.begun
    refine ⟨μ, fun res R => ?_, Y, sX_refl⟩
    obtain rfl : h = b 0 := e
    refine fE_pos (by show μ.1 6 0 0 4 ≤ nI (b 0); rw [hb]; exact nI_le (Nat.le_refl _) (by omega)) 4 (fun _ => rfl) ?_
    exact R
  | j + 1, h, n, μ, b, Y, e, h6, B, hw, h1 => by
    have hb := Y.begun
    obtain ⟨μ1, r1, r2, r3, r4⟩ := c_sinks Y (h := h) (by omega) B (hw h (by omega) (by omega)) h1
    have L := loc_one h b (B h (by omega)).1
    have e0 : oneH h b 0 = b 0 := L.1 0 (by omega)
    have e1 : oneH h b 1 = b 1 := L.1 1 (by omega)
    obtain ⟨μ', s1, s2, s3⟩ := c_hour_1 (N := N) (p := p) j (h + 1) (n + oneI b h) μ1 (oneH h b) r2 (by omega) (by omega) (fun g hg => by
      by_cases c : g = h
      · rw [c]; exact r4
      · exact HB_of (B g hg) (fun k h2 h3 => L.1 k (by omega))) (fun g h2 h3 => by rw [show hW (oneH h b) g = hW b g from L.1 _ (by omega)]; exact hw g (by omega) h3) (by rw [e1]; exact h1)
    have en : nT (oneI (oneH h b)) (h + 1) j = nT (oneI b) (h + 1) j := nT_eq fun g h2 h3 => oneI_e (aL_aE L.1 (by omega)) (B g (by omega)).1
    refine ⟨μ', fun res R => ?_, s2, sX_trans (sX_mono r3 (fun c y' h' i q => ⟨q.1, q.2.1⟩)) s3⟩
    have hc : (nI h).toNatClampNeg = h := nI_clamp (by omega)
    have le := oneI_le (b := b) (g := h)
    have R' := s1 res (by rw [en, e0, Nat.add_assoc]; exact R)
    refine fE_neg (fun p => by change μ.1 6 0 0 4 ≤ nI h at p; rw [hb] at p; have := (nI_leI (by omega) (by omega)).mp p; omega) 4 (fun _ => rfl) ?_
    refine fE_pos (by refine g_in (k := h) ?_ (show h < 6 from by omega) (show 6 < 2 ^ 31 from by decide); first | rfl | (simp (disch := omega) only [fLit, nI_add, pk_mul, pk_rem, pk_sub, nI_clamp]; done)) 5 (fun _ => rfl) ?_
    rw [hc]
    refine fE_call (r1) 1 (fun _ => rfl) ?_
    refine fE_ite 1 (fun _ => rfl) (fun q => ?_) (fun q => ?_)
    · skip
      have q := (nI_eq (b := 0) (by omega) (by omega)).mp q
      refine fE_step (y := fun zz => frun _ _ zz 22 [kR 6 0 0, kN N, kN n, kN p, kX (nI h + 1)] [] _ 0 0) 2 (fun _ => rfl) ?_
      rw [nI_1]
      rw [q] at R'
      exact R'
    · skip
      have q : oneI b h = 1 := by
        have : ¬ oneI b h = 0 := fun p => q (congrArg nI p)
        omega
      refine fE_step (y := fun zz => frun _ _ zz 22 [kR 6 0 0, kN N, kX (nI n + 1), kN p, kX (nI h + 1)] [] _ 0 0) 3 (fun _ => rfl) ?_
      rw [nI_1, nI_1]
      rw [q] at R'
      exact R'
theorem YR_now {μ : fM} {y v : Nat} {a : Nat → Nat} (Y : YR μ y a) (h8 : ∀ g, g < 6 → hF a g ≤ 8) : YR (fI μ 6 y 0 5 (nI v)) y (up a 1 v) := by
  refine ⟨fun h hh => HV_eq (HV_out (Y.hv hh) (fun c k hc => fI_ne (by omega))) (h8 h hh) (fun i hi => (up_ne (by omega)).symm), fun k hk => ?_, fun k hk => ?_, ?_, ?_, ?_, ?_, ?_, fun k hk => ?_, fun k hk => ?_, fun k hk => ?_, fun k hk => ?_⟩
  · rw [fI_ne (by omega), Y.tide hk, show aT (up a (1) v) k = aT a k from up_ne (by omega)]
  · rw [fI_ne (by omega), Y.slip hk, show aS (up a (1) v) k = aS a k from up_ne (by omega)]
  · rw [fI_ne (by omega), Y.begun, show up a (1) v 0 = a 0 from up_ne (by omega)]
  · rw [fI_at, up_at]
  · rw [up_ne (by omega)]; exact Y.paid
  · rw [fI_ne (by omega), Y.count, show up a (1) v 2 = a 2 from up_ne (by omega)]
  · rw [fI_ne (by omega), Y.next, show up a (1) v 3 = a 3 from up_ne (by omega)]
  · rw [up_ne (by omega)] at hk
    rw [fI_ne (by omega), Y.id hk, show oI (up a (1) v) k = oI a k from up_ne (by omega)]
  · rw [up_ne (by omega)] at hk
    rw [fI_ne (by omega), Y.fr hk, show oF (up a (1) v) k = oF a k from up_ne (by omega)]
  · rw [up_ne (by omega)] at hk
    rw [fI_ne (by omega), Y.hr hk, show oH (up a (1) v) k = oH a k from up_ne (by omega)]
  · rw [up_ne (by omega)] at hk
    rw [fI_ne (by omega), Y.co hk, show oC (up a (1) v) k = oC a k from up_ne (by omega)]
theorem c_hours_1 {u N : Nat} : ∀ j k n (μ : fM) (a : Nat → Nat) z, OKA u a → YR μ 0 a → k + j = N → N ≤ 99 → a 1 + j ≤ 99 * u → ∃ μ', fEnds (fun zz => frun eX6_letHoursPass tX6_letHoursPass zz 4 [kR 6 0 0, kN N, kN n, kN k, z] [] μ 0 0) (.inl (some (vI (mVal (rHr j n a).1))), μ') ∧ YR μ' 0 (rHr j n a).2 ∧ sY (yP 0) μ μ'
  | 0, k, n, μ, a, z, O, Y, e, hN, h1 => by
    refine ⟨μ, ?_, Y, sY_refl⟩
    refine fE_pos (by first | omega | (simp (disch := omega) only [fLit, nI_add, pk_mul, pk_rem, nI_clamp, beq01, beq11, cond_false, cond_true, nI_leI, nI_ltI, nI_eq]; done) | (simp (disch := omega) only [fLit, nI_add, pk_mul, pk_rem, nI_clamp, beq01, beq11, cond_false, cond_true, nI_leI, nI_ltI, nI_eq]; omega)) 3 (fun _ => rfl) ?_
    exact fE_ret 2 (fun _ => rfl)
  | j + 1, k, n, μ, a, z, O, Y, e, hN, h1 => by
    have hu := O.u6
    have h6 := O.hulls
    have hn := Y.now
    have K := sHr_ok O (by omega)
    have O1 := sHr_ok0 O (by omega)
    have S := sHr_one (a := a) (fun g hg => O.fr g (by omega))
    have e0 : (up a 1 (a 1 + 1)) 0 = a 0 := up_ne (by omega)
    have e1 : (up a 1 (a 1 + 1)) 1 = a 1 + 1 := up_at
    have hy := O1.1.hour
    have Y1 : YR (fI μ 6 0 0 5 (nI (a 1 + 1))) 0 (up a 1 (a 1 + 1)) := YR_now Y (fun g hg => O.fr g hg)
    obtain ⟨μ1, r1, r2, r3⟩ := c_hour_1 (N := N) (p := k) (a 0) 0 n _ _ Y1 (by rw [e0]; omega) (by rw [e0]; omega) (fun g hg => O1.1.hb hg) (fun g _ hg => by have := O1.2 g (by omega) hg; rw [e1] at this; omega) (by rw [e1]; omega)
    rw [← S.1] at r2
    obtain ⟨μ', s1, s2, s3⟩ := c_hours_1 (u := u) (N := N) j (k + 1) (n + (sHr a).1) μ1 (sHr a).2 (some (vI (nI (a 0)))) K.1 r2 (by omega) hN (by rw [K.2.1]; omega)
    refine ⟨μ', ?_, s2, sY_trans (sY_trans (sY_fI ⟨by omega, rfl⟩) (sY_ofX r3 (fun c y' h i p => ⟨by have := p.1; omega, p.2⟩))) s3⟩
    have R := r1 (.inl (some (vI (mVal (rHr j (n + (sHr a).1) (sHr a).2).1))), μ') (show fEnds (fun zz => frun eX6_letHoursPass tX6_letHoursPass zz 54 [kR 6 0 0, kN N, kN (n + nT (oneI (up a 1 (a 1 + 1))) 0 (a 0)), kN k, kN ((up a 1 (a 1 + 1)) 0)] [] μ1 0 0) _ from by
      rw [e0, ← S.2]
      refine fE_step (y := fun zz => frun _ _ zz 4 [kR 6 0 0, kN N, kN (n + (sHr a).1), kX (nI k + 1), kN (a 0)] [] _ 0 0) 2 (fun _ => rfl) ?_
      rw [nI_1]
      exact s1
      )
    refine fE_neg (by first | omega | (simp (disch := omega) only [fLit, nI_add, pk_mul, pk_rem, nI_clamp, beq01, beq11, cond_false, cond_true, nI_leI, nI_ltI, nI_eq]; done) | (simp (disch := omega) only [fLit, nI_add, pk_mul, pk_rem, nI_clamp, beq01, beq11, cond_false, cond_true, nI_leI, nI_ltI, nI_eq]; omega)) 3 (fun _ => rfl) ?_
    refine fE_step (y := fun zz => frun _ _ zz 22 [kR 6 0 0, kN N, kN n, kN k, kN 0] [] (fI μ 6 0 0 5 (μ.1 6 0 0 5 + 1)) 0 0) 8 (fun _ => rfl) ?_
    rw [hn, nI_1]
    exact R
theorem c_hours {u : Nat} {μ : fM} {a : Nat → Nat} {x : Int32} (Y : YR μ 0 a) (O : OKA u a) (hu : u + 1 ≤ 6200) (hx : inR x 1 99) : ∃ μ', sX6_letHoursPass [vR 6 0 0, vI x] μ = some (.inl (some (vI (mVal (sHours a x).1))), μ') ∧ YR μ' 0 (sHours a x).2 ∧ sY (yP 0) μ μ' := by
  unfold sHours
  rw [if_pos hx]
  obtain ⟨N, hN1, hN2, rfl⟩ := inR_of (lo := 1) (hi := 99) (by omega) (by omega) hx
  have h1 := O.hour
  rw [xN, nI_clamp (by omega)]
  obtain ⟨μ', r1, r2, r3⟩ := c_hours_1 (u := u + 1) (N := N) N 0 0 μ a none (O.mono (by omega) hu) Y (by omega) hN2 (by omega)
  refine ⟨μ', fsemV_of (Nat.le_of_ble_eq_true rfl) ?_, r2, r3⟩
  refine fE_step (y := fun zz => frun _ _ zz 4 [kR 6 0 0, kN N, kN 0, kN 0, none] [] _ 0 0) 4 (fun _ => rfl) ?_
  exact r1
