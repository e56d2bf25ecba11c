theorem c_refl_1 {μ : fM} {h g : Nat} {a : Nat → Nat} (H : HV μ 0 h a h) (G : HV μ 0 g a g) (B : HB a h) (B2 : HB a g) (e : hF a h = hF a g) : ∀ j k, k + j = hF a h → fEnds (fun zz => frun eX1_equalsReflectionOf tX1_equalsReflectionOf zz 15 [kR 1 0 h, kR 1 0 g, kN k] [] μ 0 0) (.inl (some (vI (bI (nA (fun k => decide (hM a h k g k)) k j = true)))), μ)
  | 0, k, ek => by
    have h8 := B.1
    have hf := H.1
    refine fE_pos (by show μ.1 1 0 h 3 ≤ nI k; rw [hf]; exact nI_le (by omega) (by omega)) 4 (fun _ => rfl) ?_
    exact fE_ret 2 (fun _ => rfl)
  | j + 1, k, ek => by
    have h8 := B.1
    have hf := H.1
    refine fE_neg (fun p => by change μ.1 1 0 h 3 ≤ nI k at p; rw [hf] at p; exact absurd ((nI_leI (by omega) (by omega)).mp p) (by omega)) 4 (fun _ => rfl) ?_
    refine fE_call (c_frameEq H B G B2 (f := k) (k := k) (by omega) (by omega)) 5 (fun _ => rfl) ?_
    refine fE_ite 1 (fun _ => rfl) (fun q => ?_) (fun q => ?_)
    · skip
      have q := bI_0.mp q
      refine fE_ret2 2 (fun _ => rfl) ?_
      rw [nA, show decide (hM a h k g k) = false from decide_eq_false q, Bool.false_and]
      rfl
    · skip
      have q := bI_n.mp q
      refine fE_step (y := fun zz => frun _ _ zz 15 [kR 1 0 h, kR 1 0 g, kX (nI k + 1)] [] _ 0 0) 2 (fun _ => rfl) ?_
      rw [nI_1]
      refine fE_cg (c_refl_1 H G B B2 e j (k + 1) (by omega)) ?_
      rw [nA, show decide (hM a h k g k) = true from decide_eq_true q, Bool.true_and]
theorem c_refl {μ : fM} {h g : Nat} {a : Nat → Nat} (H : HV μ 0 h a h) (G : HV μ 0 g a g) (B : HB a h) (B2 : HB a g) : sX1_equalsReflectionOf [vR 1 0 h, vR 1 0 g] μ = some (.inl (some (vI (bI (hR a h g)))), μ) := by
  have h8 := B.1
  have g8 := B2.1
  have hf := H.1
  have gf := G.1
  refine fsemV_of (Nat.le_of_ble_eq_true rfl) ?_
  refine fE_ite 5 (fun _ => rfl) (fun q => ?_) (fun q => ?_)
  · skip
    change μ.1 1 0 h 3 = μ.1 1 0 g 3 at q
    rw [hf, gf] at q
    have q := (nI_eq (by omega) (by omega)).mp q
    refine fE_step (y := fun zz => frun _ _ zz 15 [kR 1 0 h, kR 1 0 g, kN 0] [] _ 0 0) 2 (fun _ => rfl) ?_
    refine fE_cg (c_refl_1 H G B B2 q (hF a h) 0 (by omega)) ?_
    rw [bI_c (q := hR a h g)]
    exact ⟨fun p => ⟨q, p⟩, fun p => p.2⟩
  · skip
    change ¬ μ.1 1 0 h 3 = μ.1 1 0 g 3 at q
    rw [hf, gf] at q
    refine fE_ret2 2 (fun _ => rfl) ?_
    rw [bI_f (fun p => q (congrArg nI p.1))]
    rfl
def cResB (μ : fM) : Nat ⊕ Bool → fR
  | .inl _ => (.inr 0, μ)
  | .inr b => (.inl (some (vI (bI (b = true)))), μ)
theorem k_isReflectionOf {μ : fM} {u : Nat} {a : Nat → Nat} (Y : YR μ 0 a) (O : OKA u a) (x y : Int32) : sX7_isReflectionOf [vR 7 0 0, vI x, vI y] μ = some (cResB μ (qRefl a x y)) := by
  have h6 := O.hulls
  refine fsemV_of (Nat.le_of_ble_eq_true rfl) ?_
  unfold qRefl
  by_cases q : okH a x
  · obtain ⟨h, hh, rfl⟩ := nI_ix (by omega) q.1 q.2
    by_cases r : okH a y
    · obtain ⟨g, hg, rfl⟩ := nI_ix (by omega) r.1 r.2
      rw [if_pos ⟨q, r⟩, xN, xN, nI_clamp (by omega), nI_clamp (by omega)]
      refine fE_call (c_known Y h6 hh) 3 (fun _ => rfl) ?_
      refine fE_call (c_known Y h6 hg) 3 (fun _ => rfl) ?_
      refine fE_call (c_refl (Y.hv (h := h) (by omega)) (Y.hv (h := g) (by omega)) (O.hb (by omega)) (O.hb (by omega))) 1 (fun _ => rfl) ?_
      refine fE_ret2 1 (fun _ => rfl) ?_
      show (Sum.inl (some (vI (fnar 1 (bI _)))), μ) = (Sum.inl (some (vI (bI (decide (hR a h g) = true)))), μ)
      rw [bI_b, bI_c (q := decide (hR a h g) = true) (by rw [decide_eq_true_iff])]
    · rw [if_neg (fun p => r p.2)]
      refine fE_call (c_known Y h6 hh) 3 (fun _ => rfl) ?_
      refine fE_call (c_known0 Y r) 3 (fun _ => rfl) ?_
      exact fE_ret 0 (fun _ => rfl)
  · rw [if_neg (fun p => q p.1)]
    refine fE_call (c_known0 Y q) 3 (fun _ => rfl) ?_
    exact fE_ret 0 (fun _ => rfl)
theorem k_isSymmetric {μ : fM} {u : Nat} {a : Nat → Nat} (Y : YR μ 0 a) (O : OKA u a) (x : Int32) : sX7_isSymmetric [vR 7 0 0, vI x] μ = some (cResB μ (qRefl a x x)) := by
  have h6 := O.hulls
  refine fsemV_of (Nat.le_of_ble_eq_true rfl) ?_
  unfold qRefl
  by_cases q : okH a x
  · obtain ⟨h, hh, rfl⟩ := nI_ix (by omega) q.1 q.2
    rw [if_pos ⟨q, q⟩, xN, nI_clamp (by omega)]
    refine fE_call (c_known Y h6 hh) 3 (fun _ => rfl) ?_
    refine fE_call (c_refl (Y.hv (h := h) (by omega)) (Y.hv (h := h) (by omega)) (O.hb (by omega)) (O.hb (by omega))) 4 (fun _ => rfl) ?_
    refine fE_ret2 1 (fun _ => rfl) ?_
    show (Sum.inl (some (vI (fnar 1 (bI _)))), μ) = (Sum.inl (some (vI (bI (decide (hR a h h) = true)))), μ)
    rw [bI_b, bI_c (q := decide (hR a h h) = true) (by rw [decide_eq_true_iff])]
  · rw [if_neg (fun p => q p.1)]
    refine fE_call (c_known0 Y q) 3 (fun _ => rfl) ?_
    exact fE_ret 0 (fun _ => rfl)
theorem k_refusalReason {μ : fM} : sX7_refusalReason [vR 7 0 0] μ = some (cRes eO μ (qStored (μ.1 7 0 0 7) 0)) := by
  refine fsemV_of (Nat.le_of_ble_eq_true rfl) ?_
  unfold qStored
  refine fE_ite 3 (fun _ => rfl) (fun q => ?_) (fun q => ?_)
  · skip
    have q : μ.1 7 0 0 7 = 0 := q
    rw [if_pos q]
    exact fE_ret 1 (fun _ => rfl)
  · skip
    have q : ¬ μ.1 7 0 0 7 = 0 := q
    rw [if_neg q]
    exact fE_ret 3 (fun _ => rfl)
theorem ge0_m1 {x : Int32} (h : -1 ≤ x) : (0 ≤ x) ↔ ¬ x = -1 := by
  rw [← Int32.toInt_inj, Int32.le_iff_toInt_le]
  rw [Int32.le_iff_toInt_le] at h
  have e : (-1 : Int32).toInt = -1 := rfl
  have e0 : (0 : Int32).toInt = 0 := rfl
  rw [e] at h ⊢
  rw [e0]
  omega
theorem k_errorPosition {μ : fM} (hm : -1 ≤ μ.1 7 0 0 8) : sX7_errorPosition [vR 7 0 0] μ = some (cRes eO μ (qStored (μ.1 7 0 0 8) (-1))) := by
  refine fsemV_of (Nat.le_of_ble_eq_true rfl) ?_
  unfold qStored
  refine fE_ite 3 (fun _ => rfl) (fun q => ?_) (fun q => ?_)
  · skip
    have q : 0 ≤ μ.1 7 0 0 8 := q
    rw [if_neg ((ge0_m1 hm).mp q)]
    exact fE_ret 3 (fun _ => rfl)
  · skip
    have q : ¬ 0 ≤ μ.1 7 0 0 8 := q
    rw [if_pos (by rw [ge0_m1 hm, Decidable.not_not] at q; exact q)]
    exact fE_ret 1 (fun _ => rfl)
theorem k_failedCommand {μ : fM} (hm : -1 ≤ μ.1 7 0 0 9) : sX7_failedCommand [vR 7 0 0] μ = some (cRes eO μ (qStored (μ.1 7 0 0 9) (-1))) := by
  refine fsemV_of (Nat.le_of_ble_eq_true rfl) ?_
  unfold qStored
  refine fE_ite 3 (fun _ => rfl) (fun q => ?_) (fun q => ?_)
  · skip
    have q : 0 ≤ μ.1 7 0 0 9 := q
    rw [if_neg ((ge0_m1 hm).mp q)]
    exact fE_ret 3 (fun _ => rfl)
  · skip
    have q : ¬ 0 ≤ μ.1 7 0 0 9 := q
    rw [if_pos (by rw [ge0_m1 hm, Decidable.not_not] at q; exact q)]
    exact fE_ret 1 (fun _ => rfl)
