/-! A MODIFICATION BY ITSELF -/
theorem HR_sY {μ μ' : fM} {l : List (Nat → Nat)} {P : Nat → Nat → Prop} (H : HR μ l) (S : sY P μ μ') (h0 : ¬ P 0 0) (h : ∀ c y, 3 ≤ y → yP y c y → ¬ P c y) : HR μ' l := by
  obtain ⟨o, ho, hl, h1, h2, hP⟩ := H
  exact ⟨o, ho, hl, (S.1 0 0 0 1 h0).trans h1, (S.1 0 0 0 2 h0).trans h2, fun i b hi => YR_sY (hP i b hi) S (fun c hc => h c _ (by omega) hc)⟩
theorem sHull_a {a : Nat → Nat} {t : Nat} : (sHull a).1 = .inl t → (sHull a).2 = a := by
  unfold sHull
  (repeat' split) <;> intro h <;> first | rfl | cases h
theorem sFrame_a {a : Nat → Nat} {x y z : Int32} {t : Nat} : (sFrame a x y z).1 = .inl t → (sFrame a x y z).2 = a := by
  unfold sFrame
  (repeat' split) <;> intro h <;> first | rfl | cases h
theorem sCargo_a {a : Nat → Nat} {x y : Int32} {t : Nat} : (sCargo a x y).1 = .inl t → (sCargo a x y).2 = a := by
  unfold sCargo
  (repeat' split) <;> intro h <;> first | rfl | cases h
theorem sCaulk_a {a : Nat → Nat} {x y : Int32} {t : Nat} : (sCaulk a x y).1 = .inl t → (sCaulk a x y).2 = a := by
  unfold sCaulk
  (repeat' split) <;> intro h <;> first | rfl | cases h
theorem sPump_a {a : Nat → Nat} {x y : Int32} {t : Nat} : (sPump a x y).1 = .inl t → (sPump a x y).2 = a := by
  unfold sPump
  (repeat' split) <;> intro h <;> first | rfl | cases h
theorem sTide_a {a : Nat → Nat} {x y : Int32} {t : Nat} : (sTide a x y).1 = .inl t → (sTide a x y).2 = a := by
  unfold sTide
  (repeat' split) <;> intro h <;> first | rfl | cases h
theorem sOrder_a {a : Nat → Nat} {x y z : Int32} {t : Nat} : (sOrder a x y z).1 = .inl t → (sOrder a x y z).2 = a := by
  unfold sOrder
  (repeat' split) <;> intro h <;> first | rfl | cases h
theorem sDeliver_a {a : Nat → Nat} {x y : Int32} {t : Nat} : (sDeliver a x y).1 = .inl t → (sDeliver a x y).2 = a := by
  unfold sDeliver
  (repeat' split) <;> intro h <;> first | rfl | cases h
theorem sSlip_a {a : Nat → Nat} {x y : Int32} {t : Nat} : (sSlip a x y).1 = .inl t → (sSlip a x y).2 = a := by
  unfold sSlip
  (repeat' split) <;> intro h <;> first | rfl | cases h
theorem sp_fc {k t : Nat} {a : Nat → Nat} {x y z : Int32} (hk : k < 12) (h : (sp k a x y z).1 = .inl t) : 1 ≤ fc k t ∧ fc k t ≤ 5 ∧ (fc k t = 4 → okH a x ∧ sWhy a x = hWhy a (xN x)) ∧ (¬ fc k t = 4 → k = 4 → sWhy a x = 0) ∧ (sp k a x y z).2 = a ∧ 0 < t ∧ t < 10 := by
  match k, hk with
  | 0, _ =>
    have h2 : (sHull a).2 = a := sHull_a h
    change (sHull a).1 = _ at h
    unfold sHull at h
    (repeat' split at h) <;> cases h <;> exact ⟨by decide, by decide, fun q => absurd q (by decide), fun _ q => absurd q (by decide), h2, by decide, by decide⟩
  | 1, _ =>
    have h2 : (sFrame a x y z).2 = a := sFrame_a h
    change (sFrame a x y z).1 = _ at h
    unfold sFrame at h
    (repeat' split at h) <;> cases h <;> exact ⟨by decide, by decide, fun q => absurd q (by decide), fun _ q => absurd q (by decide), h2, by decide, by decide⟩
  | 2, _ =>
    change (sMirror a x).1 = _ at h
    show _ ∧ _ ∧ _ ∧ _ ∧ (sMirror a x).2 = a ∧ _
    unfold sMirror at h ⊢
    by_cases q : okH a x
    · rw [if_pos q] at h ⊢
      by_cases r : hS a (xN x) = 0
      · rw [if_pos r] at h
        obtain ⟨v, hv⟩ := sMir_in (h := xN x) (j := hF a (xN x)) (k := 0) (n := 0) (a := a)
        rw [hv] at h
        cases h
      · rw [if_neg r] at h ⊢
        cases h
        exact ⟨by decide, by decide, fun q => absurd q (by decide), fun _ q => absurd q (by decide), rfl, by decide, by decide⟩
    · rw [if_neg q] at h ⊢
      cases h
      exact ⟨by decide, by decide, fun q => absurd q (by decide), fun _ q => absurd q (by decide), rfl, by decide, by decide⟩
  | 3, _ =>
    have h2 : (sCargo a x y).2 = a := sCargo_a h
    change (sCargo a x y).1 = _ at h
    unfold sCargo at h
    (repeat' split at h) <;> cases h <;> exact ⟨by decide, by decide, fun q => absurd q (by decide), fun _ q => absurd q (by decide), h2, by decide, by decide⟩
  | 4, _ =>
    change (sLaunch a x).1 = _ at h
    show _ ∧ _ ∧ _ ∧ _ ∧ (sLaunch a x).2 = a ∧ _
    unfold sLaunch at h ⊢
    unfold sWhy
    by_cases q : okH a x
    · rw [if_pos q] at h ⊢
      by_cases r : hS a (xN x) = 0
      · rw [if_pos r] at h ⊢
        by_cases s : hWhy a (xN x) = 0
        · rw [if_pos s] at h; cases h
        · rw [if_neg s] at h ⊢
          cases h
          exact ⟨by decide, by decide, fun _ => ⟨q, if_pos ⟨q, r⟩⟩, fun q => absurd rfl q, rfl, by decide, by decide⟩
      · rw [if_neg r] at h ⊢
        cases h
        exact ⟨by decide, by decide, fun q => absurd q (by decide), fun _ _ => if_neg (fun p => r p.2), rfl, by decide, by decide⟩
    · rw [if_neg q] at h ⊢
      cases h
      exact ⟨by decide, by decide, fun q => absurd q (by decide), fun _ _ => if_neg (fun p => q p.1), rfl, by decide, by decide⟩
  | 5, _ =>
    have h2 : (sCaulk a x y).2 = a := sCaulk_a h
    change (sCaulk a x y).1 = _ at h
    unfold sCaulk at h
    (repeat' split at h) <;> cases h <;> exact ⟨by decide, by decide, fun q => absurd q (by decide), fun _ q => absurd q (by decide), h2, by decide, by decide⟩
  | 6, _ =>
    have h2 : (sPump a x y).2 = a := sPump_a h
    change (sPump a x y).1 = _ at h
    unfold sPump at h
    (repeat' split at h) <;> cases h <;> exact ⟨by decide, by decide, fun q => absurd q (by decide), fun _ q => absurd q (by decide), h2, by decide, by decide⟩
  | 7, _ =>
    change (sHours a x).1 = _ at h
    show _ ∧ _ ∧ _ ∧ _ ∧ (sHours a x).2 = a ∧ _
    unfold sHours at h ⊢
    by_cases q : inR x 1 99
    · rw [if_pos q] at h
      obtain ⟨v, hv⟩ := rHr_in (j := xN x) (n := 0) (a := a)
      rw [hv] at h
      cases h
    · rw [if_neg q] at h ⊢
      cases h
      exact ⟨by decide, by decide, fun q => absurd q (by decide), fun _ q => absurd q (by decide), rfl, by decide, by decide⟩
  | 8, _ =>
    have h2 : (sTide a x y).2 = a := sTide_a h
    change (sTide a x y).1 = _ at h
    unfold sTide at h
    (repeat' split at h) <;> cases h <;> exact ⟨by decide, by decide, fun q => absurd q (by decide), fun _ q => absurd q (by decide), h2, by decide, by decide⟩
  | 9, _ =>
    have h2 : (sOrder a x y z).2 = a := sOrder_a h
    change (sOrder a x y z).1 = _ at h
    unfold sOrder at h
    (repeat' split at h) <;> cases h <;> exact ⟨by decide, by decide, fun q => absurd q (by decide), fun _ q => absurd q (by decide), h2, by decide, by decide⟩
  | 10, _ =>
    have h2 : (sDeliver a x y).2 = a := sDeliver_a h
    change (sDeliver a x y).1 = _ at h
    unfold sDeliver at h
    (repeat' split at h) <;> cases h <;> exact ⟨by decide, by decide, fun q => absurd q (by decide), fun _ q => absurd q (by decide), h2, by decide, by decide⟩
  | 11, _ =>
    have h2 : (sSlip a x y).2 = a := sSlip_a h
    change (sSlip a x y).1 = _ at h
    unfold sSlip at h
    (repeat' split at h) <;> cases h <;> exact ⟨by decide, by decide, fun q => absurd q (by decide), fun _ q => absurd q (by decide), h2, by decide, by decide⟩
theorem c_store0 {μ : fM} {F : Nat} {x : Int32} (hF : F < 10) (h : ¬ F = 4) : sX7_storeIfRefusal [vR 7 0 0, vI (nI F), vI x] μ = some (.inl none, μ) := by
  refine fsemV_of (Nat.le_of_ble_eq_true rfl) ?_
  refine fE_neg (fun p => h ((nI_eq (b := 4) (by omega) (by omega)).mp p)) 3 (fun _ => rfl) ?_
  exact fE_ret 1 (fun _ => rfl)
theorem c_store4 {μ : fM} {u : Nat} {a : Nat → Nat} {x : Int32} (Y : YR μ 0 a) (O : OKA u a) (hx : okH a x) : sX7_storeIfRefusal [vR 7 0 0, vI (nI 4), vI x] μ = some (.inl none, fI μ 7 0 0 7 (nI (hWhy a (xN x)))) := by
  have h6 := O.hulls
  obtain ⟨h, hh, rfl⟩ := nI_ix (by omega) hx.1 hx.2
  rw [show xN (nI h) = h from nI_clamp (by omega)]
  refine fsemV_of (Nat.le_of_ble_eq_true rfl) ?_
  refine fE_call (c_refusal Y O (h := h) (by omega)) 8 (fun _ => rfl) ?_
  exact fE_ret 2 (fun _ => rfl)
theorem c_throwFor0 {μ : fM} : sX7_throwFor [vI (nI 0)] μ = some (.inl none, μ) := by
  refine fsem_of (Nat.le_of_ble_eq_true rfl) ?_
  exact fE_ret 3 (fun _ => rfl)
theorem c_throwFor1 {μ : fM} : sX7_throwFor [vI (nI 1)] μ = some (.inr 0, μ) := by
  refine fsem_of (Nat.le_of_ble_eq_true rfl) ?_
  exact fE_ret 3 (fun _ => rfl)
theorem c_throwFor2 {μ : fM} : sX7_throwFor [vI (nI 2)] μ = some (.inr 1, μ) := by
  refine fsem_of (Nat.le_of_ble_eq_true rfl) ?_
  exact fE_ret 3 (fun _ => rfl)
theorem c_throwFor3 {μ : fM} : sX7_throwFor [vI (nI 3)] μ = some (.inr 2, μ) := by
  refine fsem_of (Nat.le_of_ble_eq_true rfl) ?_
  exact fE_ret 3 (fun _ => rfl)
theorem c_throwFor4 {μ : fM} : sX7_throwFor [vI (nI 4)] μ = some (.inr 3, μ) := by
  refine fsem_of (Nat.le_of_ble_eq_true rfl) ?_
  exact fE_ret 3 (fun _ => rfl)
theorem c_throwFor5 {μ : fM} : sX7_throwFor [vI (nI 5)] μ = some (.inr 4, μ) := by
  refine fsem_of (Nat.le_of_ble_eq_true rfl) ?_
  exact fE_ret 3 (fun _ => rfl)
theorem c_throwFor {μ : fM} {F : Nat} (h1 : 1 ≤ F) (h2 : F ≤ 5) : sX7_throwFor [vI (nI F)] μ = some (.inr (F - 1), μ) := by
  match F, h1, h2 with
  | 1, _, _ => exact c_throwFor1
  | 2, _, _ => exact c_throwFor2
  | 3, _, _ => exact c_throwFor3
  | 4, _, _ => exact c_throwFor4
  | 5, _, _ => exact c_throwFor5
/-- a modification that is refused -/
theorem c_modify0 {μ : fM} {u k t : Nat} {a : Nat → Nat} (Y : YR μ 0 a) (O : OKA u a) (hk : k < 12) (x y z : Int32) (h : (sp k a x y z).1 = .inl t) : sX7_modify [vR 7 0 0, vI (nI k), vI x, vI y, vI z] μ = some (.inr (fc k t - 1), if fc k t = 4 then fI μ 7 0 0 7 (nI (sWhy a x)) else μ) := by
  have F := sp_fc hk h
  have hf := c_faultOf Y O hk x y z
  rw [h] at hf
  have hf : sX6_faultOf [vR 6 0 0, vI (nI k), vI x, vI y, vI z] μ = some (.inl (some (vI (nI (fc k t)))), μ) := hf
  refine fsemV_of (Nat.le_of_ble_eq_true rfl) ?_
  by_cases q : fc k t = 4
  · have F4 := F.2.2.1 q
    rw [if_pos q, F4.2]
    rw [q] at hf ⊢
    refine fE_call (hf) 7 (fun _ => rfl) ?_
    refine fE_call (c_store4 Y O F4.1) 5 (fun _ => rfl) ?_
    refine fE_call (c_throwFor4) 2 (fun _ => rfl) ?_
    exact fE_ret 0 (fun _ => rfl)
  · rw [if_neg q]
    refine fE_call (hf) 7 (fun _ => rfl) ?_
    refine fE_call (c_store0 (by omega) q) 5 (fun _ => rfl) ?_
    refine fE_call (c_throwFor F.1 F.2.1) 2 (fun _ => rfl) ?_
    exact fE_ret 0 (fun _ => rfl)
/-- what a modification may change -/
def moP (c y : Nat) : Prop := kpP c y ∨ yP 0 c y
theorem c_modify {μ : fM} {u k : Nat} {a : Nat → Nat} {l : List (Nat → Nat)} (Y : YR μ 0 a) (O : OKA u a) (H : HR μ l) (hu : u + 1 ≤ 6200) (hk : k < 12) (x y z : Int32) {v : Int32} (h : (sp k a x y z).1 = .inr v) : ∃ μ', sX7_modify [vR 7 0 0, vI (nI k), vI x, vI y, vI z] μ = some (.inl (some (vI v)), μ') ∧ YR μ' 0 (sp k a x y z).2 ∧ HR μ' (kp l a) ∧ sY moP μ μ' := by
  have hf := c_faultOf Y O hk x y z
  rw [h] at hf
  have hf : sX6_faultOf [vR 6 0 0, vI (nI k), vI x, vI y, vI z] μ = some (.inl (some (vI (nI 0))), μ) := hf
  obtain ⟨μ1, r1, r2, r3⟩ := c_keep (y := 0) (by omega) O Y H
  have Y1 : YR μ1 0 a := YR_sY Y r3 (fun c p => by
    have p1 := p.1
    intro p2
    rcases p2 with p2 | p2
    · omega
    · omega)
  obtain ⟨μ2, s1, s2, s3⟩ := c_perform Y1 O hu hk x y z v h
  refine ⟨μ2, fsemV_of (Nat.le_of_ble_eq_true rfl) ?_, s2, HR_sY r2 s3 (fun p => by have := p.1; omega) (fun c y' h3 _ p => by have := p.2; omega), sY_trans (sY_mono r3 (fun c y' p => Or.inl p)) (sY_mono s3 (fun c y' p => Or.inr p))⟩
  refine fE_call (hf) 7 (fun _ => rfl) ?_
  refine fE_call (c_store0 (by omega) (by omega)) 5 (fun _ => rfl) ?_
  refine fE_call (c_throwFor0) 2 (fun _ => rfl) ?_
  refine fE_step (y := fun zz => frun _ _ zz 26 [kR 7 0 0, kN k, kX x, kX y, kX z, kN 0] [] _ 1 6) 0 (fun _ => rfl) ?_
  refine fE_call (r1) 5 (fun _ => rfl) ?_
  refine fE_call (s1) 7 (fun _ => rfl) ?_
  exact fE_ret 1 (fun _ => rfl)
theorem k_beginHull0 {μ : fM} {u t : Nat} {a : Nat → Nat} (Y : YR μ 0 a) (O : OKA u a) (h : (sp 0 a 0 0 0).1 = .inl t) : sX7_beginHull [vR 7 0 0] μ = some (.inr (fc 0 t - 1), if fc 0 t = 4 then fI μ 7 0 0 7 (nI (sWhy a 0)) else μ) := by
  refine fsemV_of (Nat.le_of_ble_eq_true rfl) ?_
  refine fE_call (c_modify0 (k := 0) Y O (by omega) 0 0 0 h) 6 (fun _ => rfl) ?_
  exact fE_ret 0 (fun _ => rfl)
theorem k_beginHull {μ : fM} {u : Nat} {a : Nat → Nat} {l : List (Nat → Nat)} (Y : YR μ 0 a) (O : OKA u a) (H : HR μ l) (hu : u + 1 ≤ 6200) {v : Int32} (h : (sp 0 a 0 0 0).1 = .inr v) : ∃ μ', sX7_beginHull [vR 7 0 0] μ = some (.inl (some (vI v)), μ') ∧ YR μ' 0 (sp 0 a 0 0 0).2 ∧ HR μ' (kp l a) ∧ sY moP μ μ' := by
  obtain ⟨μ', r1, r2, r3, r4⟩ := c_modify (k := 0) Y O H hu (by omega) 0 0 0 h
  refine ⟨μ', fsemV_of (Nat.le_of_ble_eq_true rfl) ?_, r2, r3, r4⟩
  refine fE_call (r1) 6 (fun _ => rfl) ?_
  exact fE_ret 1 (fun _ => rfl)
theorem k_addFrame0 {μ : fM} {u t : Nat} {a : Nat → Nat} (Y : YR μ 0 a) (O : OKA u a) (x y z : Int32) (h : (sp 1 a x y z).1 = .inl t) : sX7_addFrame [vR 7 0 0, vI x, vI y, vI z] μ = some (.inr (fc 1 t - 1), if fc 1 t = 4 then fI μ 7 0 0 7 (nI (sWhy a x)) else μ) := by
  refine fsemV_of (Nat.le_of_ble_eq_true rfl) ?_
  refine fE_call (c_modify0 (k := 1) Y O (by omega) x y z h) 6 (fun _ => rfl) ?_
  exact fE_ret 0 (fun _ => rfl)
theorem k_addFrame {μ : fM} {u : Nat} {a : Nat → Nat} {l : List (Nat → Nat)} (Y : YR μ 0 a) (O : OKA u a) (H : HR μ l) (hu : u + 1 ≤ 6200) (x y z : Int32) {v : Int32} (h : (sp 1 a x y z).1 = .inr v) : ∃ μ', sX7_addFrame [vR 7 0 0, vI x, vI y, vI z] μ = some (.inl (some (vI v)), μ') ∧ YR μ' 0 (sp 1 a x y z).2 ∧ HR μ' (kp l a) ∧ sY moP μ μ' := by
  obtain ⟨μ', r1, r2, r3, r4⟩ := c_modify (k := 1) Y O H hu (by omega) x y z h
  refine ⟨μ', fsemV_of (Nat.le_of_ble_eq_true rfl) ?_, r2, r3, r4⟩
  refine fE_call (r1) 6 (fun _ => rfl) ?_
  exact fE_ret 1 (fun _ => rfl)
theorem k_mirror0 {μ : fM} {u t : Nat} {a : Nat → Nat} (Y : YR μ 0 a) (O : OKA u a) (x : Int32) (h : (sp 2 a x 0 0).1 = .inl t) : sX7_mirror [vR 7 0 0, vI x] μ = some (.inr (fc 2 t - 1), if fc 2 t = 4 then fI μ 7 0 0 7 (nI (sWhy a x)) else μ) := by
  refine fsemV_of (Nat.le_of_ble_eq_true rfl) ?_
  refine fE_call (c_modify0 (k := 2) Y O (by omega) x 0 0 h) 6 (fun _ => rfl) ?_
  exact fE_ret 0 (fun _ => rfl)
theorem k_mirror {μ : fM} {u : Nat} {a : Nat → Nat} {l : List (Nat → Nat)} (Y : YR μ 0 a) (O : OKA u a) (H : HR μ l) (hu : u + 1 ≤ 6200) (x : Int32) {v : Int32} (h : (sp 2 a x 0 0).1 = .inr v) : ∃ μ', sX7_mirror [vR 7 0 0, vI x] μ = some (.inl (some (vI v)), μ') ∧ YR μ' 0 (sp 2 a x 0 0).2 ∧ HR μ' (kp l a) ∧ sY moP μ μ' := by
  obtain ⟨μ', r1, r2, r3, r4⟩ := c_modify (k := 2) Y O H hu (by omega) x 0 0 h
  refine ⟨μ', fsemV_of (Nat.le_of_ble_eq_true rfl) ?_, r2, r3, r4⟩
  refine fE_call (r1) 6 (fun _ => rfl) ?_
  exact fE_ret 1 (fun _ => rfl)
theorem k_setCargo0 {μ : fM} {u t : Nat} {a : Nat → Nat} (Y : YR μ 0 a) (O : OKA u a) (x y : Int32) (h : (sp 3 a x y 0).1 = .inl t) : sX7_setCargo [vR 7 0 0, vI x, vI y] μ = some (.inr (fc 3 t - 1), if fc 3 t = 4 then fI μ 7 0 0 7 (nI (sWhy a x)) else μ) := by
  refine fsemV_of (Nat.le_of_ble_eq_true rfl) ?_
  refine fE_call (c_modify0 (k := 3) Y O (by omega) x y 0 h) 6 (fun _ => rfl) ?_
  exact fE_ret 0 (fun _ => rfl)
theorem k_setCargo {μ : fM} {u : Nat} {a : Nat → Nat} {l : List (Nat → Nat)} (Y : YR μ 0 a) (O : OKA u a) (H : HR μ l) (hu : u + 1 ≤ 6200) (x y : Int32) {v : Int32} (h : (sp 3 a x y 0).1 = .inr v) : ∃ μ', sX7_setCargo [vR 7 0 0, vI x, vI y] μ = some (.inl (some (vI v)), μ') ∧ YR μ' 0 (sp 3 a x y 0).2 ∧ HR μ' (kp l a) ∧ sY moP μ μ' := by
  obtain ⟨μ', r1, r2, r3, r4⟩ := c_modify (k := 3) Y O H hu (by omega) x y 0 h
  refine ⟨μ', fsemV_of (Nat.le_of_ble_eq_true rfl) ?_, r2, r3, r4⟩
  refine fE_call (r1) 6 (fun _ => rfl) ?_
  exact fE_ret 1 (fun _ => rfl)
theorem k_launch0 {μ : fM} {u t : Nat} {a : Nat → Nat} (Y : YR μ 0 a) (O : OKA u a) (x : Int32) (h : (sp 4 a x 0 0).1 = .inl t) : sX7_launch [vR 7 0 0, vI x] μ = some (.inr (fc 4 t - 1), if fc 4 t = 4 then fI μ 7 0 0 7 (nI (sWhy a x)) else μ) := by
  refine fsemV_of (Nat.le_of_ble_eq_true rfl) ?_
  refine fE_call (c_modify0 (k := 4) Y O (by omega) x 0 0 h) 6 (fun _ => rfl) ?_
  exact fE_ret 0 (fun _ => rfl)
theorem k_launch {μ : fM} {u : Nat} {a : Nat → Nat} {l : List (Nat → Nat)} (Y : YR μ 0 a) (O : OKA u a) (H : HR μ l) (hu : u + 1 ≤ 6200) (x : Int32) {v : Int32} (h : (sp 4 a x 0 0).1 = .inr v) : ∃ μ', sX7_launch [vR 7 0 0, vI x] μ = some (.inl (some (vI v)), μ') ∧ YR μ' 0 (sp 4 a x 0 0).2 ∧ HR μ' (kp l a) ∧ sY moP μ μ' := by
  obtain ⟨μ', r1, r2, r3, r4⟩ := c_modify (k := 4) Y O H hu (by omega) x 0 0 h
  refine ⟨μ', fsemV_of (Nat.le_of_ble_eq_true rfl) ?_, r2, r3, r4⟩
  refine fE_call (r1) 6 (fun _ => rfl) ?_
  exact fE_ret 1 (fun _ => rfl)
theorem k_caulk0 {μ : fM} {u t : Nat} {a : Nat → Nat} (Y : YR μ 0 a) (O : OKA u a) (x y : Int32) (h : (sp 5 a x y 0).1 = .inl t) : sX7_caulk [vR 7 0 0, vI x, vI y] μ = some (.inr (fc 5 t - 1), if fc 5 t = 4 then fI μ 7 0 0 7 (nI (sWhy a x)) else μ) := by
  refine fsemV_of (Nat.le_of_ble_eq_true rfl) ?_
  refine fE_call (c_modify0 (k := 5) Y O (by omega) x y 0 h) 6 (fun _ => rfl) ?_
  exact fE_ret 0 (fun _ => rfl)
theorem k_caulk {μ : fM} {u : Nat} {a : Nat → Nat} {l : List (Nat → Nat)} (Y : YR μ 0 a) (O : OKA u a) (H : HR μ l) (hu : u + 1 ≤ 6200) (x y : Int32) {v : Int32} (h : (sp 5 a x y 0).1 = .inr v) : ∃ μ', sX7_caulk [vR 7 0 0, vI x, vI y] μ = some (.inl (some (vI v)), μ') ∧ YR μ' 0 (sp 5 a x y 0).2 ∧ HR μ' (kp l a) ∧ sY moP μ μ' := by
  obtain ⟨μ', r1, r2, r3, r4⟩ := c_modify (k := 5) Y O H hu (by omega) x y 0 h
  refine ⟨μ', fsemV_of (Nat.le_of_ble_eq_true rfl) ?_, r2, r3, r4⟩
  refine fE_call (r1) 6 (fun _ => rfl) ?_
  exact fE_ret 1 (fun _ => rfl)
theorem k_pump0 {μ : fM} {u t : Nat} {a : Nat → Nat} (Y : YR μ 0 a) (O : OKA u a) (x y : Int32) (h : (sp 6 a x y 0).1 = .inl t) : sX7_pump [vR 7 0 0, vI x, vI y] μ = some (.inr (fc 6 t - 1), if fc 6 t = 4 then fI μ 7 0 0 7 (nI (sWhy a x)) else μ) := by
  refine fsemV_of (Nat.le_of_ble_eq_true rfl) ?_
  refine fE_call (c_modify0 (k := 6) Y O (by omega) x y 0 h) 6 (fun _ => rfl) ?_
  exact fE_ret 0 (fun _ => rfl)
theorem k_pump {μ : fM} {u : Nat} {a : Nat → Nat} {l : List (Nat → Nat)} (Y : YR μ 0 a) (O : OKA u a) (H : HR μ l) (hu : u + 1 ≤ 6200) (x y : Int32) {v : Int32} (h : (sp 6 a x y 0).1 = .inr v) : ∃ μ', sX7_pump [vR 7 0 0, vI x, vI y] μ = some (.inl (some (vI v)), μ') ∧ YR μ' 0 (sp 6 a x y 0).2 ∧ HR μ' (kp l a) ∧ sY moP μ μ' := by
  obtain ⟨μ', r1, r2, r3, r4⟩ := c_modify (k := 6) Y O H hu (by omega) x y 0 h
  refine ⟨μ', fsemV_of (Nat.le_of_ble_eq_true rfl) ?_, r2, r3, r4⟩
  refine fE_call (r1) 6 (fun _ => rfl) ?_
  exact fE_ret 1 (fun _ => rfl)
theorem k_pass0 {μ : fM} {u t : Nat} {a : Nat → Nat} (Y : YR μ 0 a) (O : OKA u a) (x : Int32) (h : (sp 7 a x 0 0).1 = .inl t) : sX7_pass [vR 7 0 0, vI x] μ = some (.inr (fc 7 t - 1), if fc 7 t = 4 then fI μ 7 0 0 7 (nI (sWhy a x)) else μ) := by
  refine fsemV_of (Nat.le_of_ble_eq_true rfl) ?_
  refine fE_call (c_modify0 (k := 7) Y O (by omega) x 0 0 h) 6 (fun _ => rfl) ?_
  exact fE_ret 0 (fun _ => rfl)
theorem k_pass {μ : fM} {u : Nat} {a : Nat → Nat} {l : List (Nat → Nat)} (Y : YR μ 0 a) (O : OKA u a) (H : HR μ l) (hu : u + 1 ≤ 6200) (x : Int32) {v : Int32} (h : (sp 7 a x 0 0).1 = .inr v) : ∃ μ', sX7_pass [vR 7 0 0, vI x] μ = some (.inl (some (vI v)), μ') ∧ YR μ' 0 (sp 7 a x 0 0).2 ∧ HR μ' (kp l a) ∧ sY moP μ μ' := by
  obtain ⟨μ', r1, r2, r3, r4⟩ := c_modify (k := 7) Y O H hu (by omega) x 0 0 h
  refine ⟨μ', fsemV_of (Nat.le_of_ble_eq_true rfl) ?_, r2, r3, r4⟩
  refine fE_call (r1) 6 (fun _ => rfl) ?_
  exact fE_ret 1 (fun _ => rfl)
theorem k_setTide0 {μ : fM} {u t : Nat} {a : Nat → Nat} (Y : YR μ 0 a) (O : OKA u a) (x y : Int32) (h : (sp 8 a x y 0).1 = .inl t) : sX7_setTide [vR 7 0 0, vI x, vI y] μ = some (.inr (fc 8 t - 1), if fc 8 t = 4 then fI μ 7 0 0 7 (nI (sWhy a x)) else μ) := by
  refine fsemV_of (Nat.le_of_ble_eq_true rfl) ?_
  refine fE_call (c_modify0 (k := 8) Y O (by omega) x y 0 h) 6 (fun _ => rfl) ?_
  exact fE_ret 0 (fun _ => rfl)
theorem k_setTide {μ : fM} {u : Nat} {a : Nat → Nat} {l : List (Nat → Nat)} (Y : YR μ 0 a) (O : OKA u a) (H : HR μ l) (hu : u + 1 ≤ 6200) (x y : Int32) {v : Int32} (h : (sp 8 a x y 0).1 = .inr v) : ∃ μ', sX7_setTide [vR 7 0 0, vI x, vI y] μ = some (.inl (some (vI v)), μ') ∧ YR μ' 0 (sp 8 a x y 0).2 ∧ HR μ' (kp l a) ∧ sY moP μ μ' := by
  obtain ⟨μ', r1, r2, r3, r4⟩ := c_modify (k := 8) Y O H hu (by omega) x y 0 h
  refine ⟨μ', fsemV_of (Nat.le_of_ble_eq_true rfl) ?_, r2, r3, r4⟩
  refine fE_call (r1) 6 (fun _ => rfl) ?_
  exact fE_ret 1 (fun _ => rfl)
theorem k_addOrder0 {μ : fM} {u t : Nat} {a : Nat → Nat} (Y : YR μ 0 a) (O : OKA u a) (x y z : Int32) (h : (sp 9 a x y z).1 = .inl t) : sX7_addOrder [vR 7 0 0, vI x, vI y, vI z] μ = some (.inr (fc 9 t - 1), if fc 9 t = 4 then fI μ 7 0 0 7 (nI (sWhy a x)) else μ) := by
  refine fsemV_of (Nat.le_of_ble_eq_true rfl) ?_
  refine fE_call (c_modify0 (k := 9) Y O (by omega) x y z h) 6 (fun _ => rfl) ?_
  exact fE_ret 0 (fun _ => rfl)
theorem k_addOrder {μ : fM} {u : Nat} {a : Nat → Nat} {l : List (Nat → Nat)} (Y : YR μ 0 a) (O : OKA u a) (H : HR μ l) (hu : u + 1 ≤ 6200) (x y z : Int32) {v : Int32} (h : (sp 9 a x y z).1 = .inr v) : ∃ μ', sX7_addOrder [vR 7 0 0, vI x, vI y, vI z] μ = some (.inl (some (vI v)), μ') ∧ YR μ' 0 (sp 9 a x y z).2 ∧ HR μ' (kp l a) ∧ sY moP μ μ' := by
  obtain ⟨μ', r1, r2, r3, r4⟩ := c_modify (k := 9) Y O H hu (by omega) x y z h
  refine ⟨μ', fsemV_of (Nat.le_of_ble_eq_true rfl) ?_, r2, r3, r4⟩
  refine fE_call (r1) 6 (fun _ => rfl) ?_
  exact fE_ret 1 (fun _ => rfl)
theorem k_deliver0 {μ : fM} {u t : Nat} {a : Nat → Nat} (Y : YR μ 0 a) (O : OKA u a) (x y : Int32) (h : (sp 10 a x y 0).1 = .inl t) : sX7_deliver [vR 7 0 0, vI x, vI y] μ = some (.inr (fc 10 t - 1), if fc 10 t = 4 then fI μ 7 0 0 7 (nI (sWhy a x)) else μ) := by
  refine fsemV_of (Nat.le_of_ble_eq_true rfl) ?_
  refine fE_call (c_modify0 (k := 10) Y O (by omega) x y 0 h) 6 (fun _ => rfl) ?_
  exact fE_ret 0 (fun _ => rfl)
theorem k_deliver {μ : fM} {u : Nat} {a : Nat → Nat} {l : List (Nat → Nat)} (Y : YR μ 0 a) (O : OKA u a) (H : HR μ l) (hu : u + 1 ≤ 6200) (x y : Int32) {v : Int32} (h : (sp 10 a x y 0).1 = .inr v) : ∃ μ', sX7_deliver [vR 7 0 0, vI x, vI y] μ = some (.inl (some (vI v)), μ') ∧ YR μ' 0 (sp 10 a x y 0).2 ∧ HR μ' (kp l a) ∧ sY moP μ μ' := by
  obtain ⟨μ', r1, r2, r3, r4⟩ := c_modify (k := 10) Y O H hu (by omega) x y 0 h
  refine ⟨μ', fsemV_of (Nat.le_of_ble_eq_true rfl) ?_, r2, r3, r4⟩
  refine fE_call (r1) 6 (fun _ => rfl) ?_
  exact fE_ret 1 (fun _ => rfl)
theorem k_setSlip0 {μ : fM} {u t : Nat} {a : Nat → Nat} (Y : YR μ 0 a) (O : OKA u a) (x y : Int32) (h : (sp 11 a x y 0).1 = .inl t) : sX7_setSlip [vR 7 0 0, vI x, vI y] μ = some (.inr (fc 11 t - 1), if fc 11 t = 4 then fI μ 7 0 0 7 (nI (sWhy a x)) else μ) := by
  refine fsemV_of (Nat.le_of_ble_eq_true rfl) ?_
  refine fE_call (c_modify0 (k := 11) Y O (by omega) x y 0 h) 6 (fun _ => rfl) ?_
  exact fE_ret 0 (fun _ => rfl)
theorem k_setSlip {μ : fM} {u : Nat} {a : Nat → Nat} {l : List (Nat → Nat)} (Y : YR μ 0 a) (O : OKA u a) (H : HR μ l) (hu : u + 1 ≤ 6200) (x y : Int32) {v : Int32} (h : (sp 11 a x y 0).1 = .inr v) : ∃ μ', sX7_setSlip [vR 7 0 0, vI x, vI y] μ = some (.inl (some (vI v)), μ') ∧ YR μ' 0 (sp 11 a x y 0).2 ∧ HR μ' (kp l a) ∧ sY moP μ μ' := by
  obtain ⟨μ', r1, r2, r3, r4⟩ := c_modify (k := 11) Y O H hu (by omega) x y 0 h
  refine ⟨μ', fsemV_of (Nat.le_of_ble_eq_true rfl) ?_, r2, r3, r4⟩
  refine fE_call (r1) 6 (fun _ => rfl) ?_
  exact fE_ret 1 (fun _ => rfl)
