/-! HOURS TO LAUNCH, TIDE BY TIDE -/
theorem sub_neg' {t m : Nat} (ht : t < 2 ^ 29) (hm : t + m < 2 ^ 30) : nI t - nI (t + m) = -nI m := by
  apply Int32.toInt_inj.mp
  rw [sb_negT (by omega), pk_sub_toInt (by omega) (by omega)]
  omega
theorem ndiv12 {m : Nat} (hm : m < 2 ^ 30) : (-nI m) / 12 = -nI (m / 12) := by
  apply Int32.toInt_inj.mp
  have h12 : (12 : Int32).toInt = 12 := by decide
  rw [Int32.toInt_div, sb_negT (by omega), h12, sb_negT (by omega), Int.neg_tdiv, Int.tdiv_eq_ediv_of_nonneg (by omega), Int.bmod_eq_of_le (by omega) (by omega)]
  omega
theorem nrem12 {m : Nat} (hm : m < 2 ^ 30) : (-nI m) - (-nI m) / 12 * 12 = -nI (m % 12) := by
  have h := pk_rem (a := m) (d := 12) (by omega) (by decide) (by decide)
  rw [pk_div (by omega) (by decide) (by decide)] at h
  rw [ndiv12 hm, ← h]
  show (-nI m) - (-nI (m / 12)) * nI 12 = -(nI m - nI (m / 12) * nI 12)
  rw [Int32.neg_mul, Int32.sub_neg, Int32.neg_sub, Int32.add_comm, ← Int32.sub_eq_add_neg]
/-- how many hours it is till a tide -/
def dT (now t : Nat) : Nat := (t + 12 - now % 12) % 12
theorem j_fm2 {now t : Nat} {μ : fM} (hn : now < 2 ^ 29) (ht : t < 12) : sJ9_floorMod_7cf53 [vI (nI t - nI now), vI 12] μ = some (.inl (some (vI (nI (dT now t)))), μ) := by
  unfold dT
  by_cases h : now ≤ t
  · rw [pk_sub h, j_fm (by omega)]
    rw [show (t - now) % 12 = (t + 12 - now % 12) % 12 from by omega]
  · obtain ⟨m, rfl⟩ : ∃ m, now = t + m := ⟨now - t, by omega⟩
    rw [sub_neg' (by omega) (by omega)]
    refine fsem_of (Nat.le_of_ble_eq_true rfl) ?_
    have e := nrem12 (m := m) (by omega)
    have em : (m % 12 = 0) ↔ (-nI (m % 12) = (0 : Int32)) := by
      constructor
      · intro q; rw [q]; decide
      · intro q
        have := congrArg Int32.toInt q
        rw [sb_negT (by omega), show (0 : Int32).toInt = 0 from by decide] at this
        omega
    refine fE_neg (fun p => by change 0 ≤ (-nI m) ^^^ 12 at p; rw [xor12, Int32.le_iff_toInt_le, sb_negT (by omega)] at p; change (0 : Int) ≤ _ at p; omega) 8 (fun _ => rfl) ?_
    refine fE_ite 2 (fun _ => rfl) (fun q => ?_) (fun q => ?_)
    · skip
      change (-nI m) - (-nI m) / 12 * 12 = 0 at q
      rw [e] at q
      have q := em.mpr q
      refine fE_ret2 2 (fun _ => rfl) ?_
      show (Sum.inl (some (vI ((-nI m) - (-nI m) / 12 * 12))), μ) = _
      rw [e, q, show (t + 12 - (t + m) % 12) % 12 = 0 from by omega]
      rfl
    · skip
      change ¬ (-nI m) - (-nI m) / 12 * 12 = 0 at q
      rw [e] at q
      have q : ¬ m % 12 = 0 := fun p => q (em.mp p)
      refine fE_ret2 4 (fun _ => rfl) ?_
      show (Sum.inl (some (vI ((-nI m) - (-nI m) / 12 * 12 + 12))), μ) = _
      rw [e, Int32.add_comm, ← Int32.sub_eq_add_neg]
      show (Sum.inl (some (vI (nI 12 - nI (m % 12)))), μ) = _
      rw [pk_sub (by omega), show (t + 12 - (t + m) % 12) % 12 = 12 - m % 12 from by omega]
def fewT (a : Nat → Nat) (d : Nat) : Nat → Nat → Nat → Nat
  | 0, _, f => f
  | j + 1, t, f => fewT a d j (t + 1) (if d ≤ aT a t then min f (dT (a 1) t) else f)
theorem fewT_ok {a : Nat → Nat} {d : Nat} : ∀ {j t f : Nat}, fewT a d j t f ≤ f ∧ (∀ i, t ≤ i → i < t + j → d ≤ aT a i → fewT a d j t f ≤ dT (a 1) i) ∧ (fewT a d j t f = f ∨ ∃ i, t ≤ i ∧ i < t + j ∧ d ≤ aT a i ∧ fewT a d j t f = dT (a 1) i)
  | 0, t, f => ⟨Nat.le_refl _, fun i h1 h2 => absurd h2 (by omega), Or.inl rfl⟩
  | j + 1, t, f => by
    rw [fewT]
    have ih := fewT_ok (a := a) (d := d) (j := j) (t := t + 1) (f := if d ≤ aT a t then min f (dT (a 1) t) else f)
    by_cases c : d ≤ aT a t
    · rw [if_pos c] at ih ⊢
      refine ⟨by omega, fun i h1 h2 h3 => ?_, ?_⟩
      · by_cases e : i = t
        · subst e; omega
        · exact ih.2.1 i (by omega) (by omega) h3
      · rcases ih.2.2 with h | ⟨i, h1, h2, h3, h4⟩
        · by_cases l : f ≤ dT (a 1) t
          · left; omega
          · right; exact ⟨t, by omega, by omega, c, by omega⟩
        · right; exact ⟨i, by omega, by omega, h3, h4⟩
    · rw [if_neg c] at ih ⊢
      refine ⟨ih.1, fun i h1 h2 h3 => ?_, ?_⟩
      · by_cases e : i = t
        · subst e; exact absurd h3 c
        · exact ih.2.1 i (by omega) (by omega) h3
      · rcases ih.2.2 with h | ⟨i, h1, h2, h3, h4⟩
        · left; exact h
        · right; exact ⟨i, by omega, by omega, h3, h4⟩
theorem fewT_eq {a : Nat → Nat} {d : Nat} : fewT a d 12 0 12 = lH a d := by
  have F := fewT_ok (a := a) (d := d) (j := 12) (t := 0) (f := 12)
  have hN : lH a d ≤ 12 := lH_le
  have dt : ∀ i, i < 12 → (a 1 + dT (a 1) i) % 12 = i ∧ dT (a 1) i < 12 := fun i hi => by unfold dT; omega
  have not : ∀ i, i < lH a d → ¬ d ≤ aT a ((a 1 + i) % 12) := fun i hi => nF_not (p := fun n => d ≤ aT a ((a 1 + n) % 12)) (j := 12) (k := 0) (Nat.zero_le _) hi
  have lo : ∀ i, i < 12 → d ≤ aT a i → lH a d ≤ dT (a 1) i := fun i hi h => Nat.not_lt.mp fun q => not _ q (by rw [(dt i hi).1]; exact h)
  have ge : lH a d ≤ fewT a d 12 0 12 := by
    rcases F.2.2 with h | ⟨i, _, h2, h3, h4⟩
    · omega
    · rw [h4]; exact lo i (by omega) h3
  by_cases c : lH a d < 12
  · have is := nF_is (p := fun n => d ≤ aT a ((a 1 + n) % 12)) (j := 12) (k := 0) (by show lH a d < 0 + 12; omega)
    have := F.2.1 ((a 1 + lH a d) % 12) (Nat.zero_le _) (by omega) is
    have e : dT (a 1) ((a 1 + lH a d) % 12) = lH a d := by unfold dT; omega
    omega
  · have := F.1
    omega
theorem k_bt_1 {μ : fM} {u : Nat} {a : Nat → Nat} {x : Int32} {d : Nat} {res : fR} (Y : YR μ 0 a) (O : OKA u a) (hd : d ≤ 41) : ∀ j t f, t + j = 12 → f ≤ 12 → fEnds (fun zz => frun eX7_hoursToLaunchByTides tX7_hoursToLaunchByTides zz 59 [kR 7 0 0, kX x, kN d, kN (fewT a d j t f), kN 12] [] μ 2 12) res → fEnds (fun zz => frun eX7_hoursToLaunchByTides tX7_hoursToLaunchByTides zz 12 [kR 7 0 0, kX x, kN d, kN f, kN t] [] μ 2 12) res
  | 0, t, f, e, hf, R => by
    obtain rfl : t = 12 := e
    refine fE_step (y := fun zz => frun _ _ zz 59 [kR 7 0 0, kX x, kN d, kN f, kN 12] [] _ 2 12) 3 (fun _ => rfl) ?_
    exact R
  | j + 1, t, f, e, hf, R => by
    have h1 := O.hour
    have h2 := O.u6
    have ht := O.tide t (by omega)
    have yt := Y.tide (k := t) (by omega)
    have fm := j_fm2 (now := a 1) (t := t) (μ := μ) (by omega) (by omega)
    rw [← Y.now] at fm
    have dl : dT (a 1) t < 12 := Nat.mod_lt _ (by decide)
    rw [fewT] at R
    refine fE_neg (by first | omega | (simp (disch := omega) only [fLit, nI_add, pk_mul, pk_rem, nI_clamp, beq01, beq11, cond_false, cond_true, nI_leI, nI_ltI, nI_eq]; done) | (simp (disch := omega) only [fLit, nI_add, pk_mul, pk_rem, nI_clamp, beq01, beq11, cond_false, cond_true, nI_leI, nI_ltI, nI_eq]; omega)) 3 (fun _ => rfl) ?_
    refine fE_pos (by refine g_in (k := t) ?_ (show t < 12 from by omega) (show 12 < 2 ^ 31 from by decide); first | rfl | (simp (disch := omega) only [fLit, nI_add, pk_mul, pk_rem, pk_sub, nI_clamp]; done)) 5 (fun _ => rfl) ?_
    refine fE_ite 2 (fun _ => rfl) (fun q => ?_) (fun q => ?_)
    · skip
      change μ.1 14 0 0 (nI t).toNatClampNeg < nI d at q
      rw [nI_clamp (by omega), yt] at q
      have q := (nI_ltI (by omega) (by omega)).mp q
      rw [if_neg (by omega)] at R
      refine fE_step (y := fun zz => frun _ _ zz 12 [kR 7 0 0, kX x, kN d, kN f, kX (nI t + 1)] [] _ 2 12) 2 (fun _ => rfl) ?_
      rw [nI_1]
      exact k_bt_1 Y O hd j (t + 1) f (by omega) hf R
    · skip
      change ¬ μ.1 14 0 0 (nI t).toNatClampNeg < nI d at q
      rw [nI_clamp (by omega), yt] at q
      have q : d ≤ aT a t := Nat.not_lt.mp fun p => q (nI_lt p (by omega))
      rw [if_pos q] at R
      refine fE_call (fm) 8 (fun _ => rfl) ?_
      refine fE_call (j_min (nI f) (nI (dT (a 1) t)) μ) 1 (fun _ => rfl) ?_
      refine fE_step (y := fun zz => frun _ _ zz 12 [kR 7 0 0, kX x, kN d, kX (if nI f ≤ nI (dT (a 1) t) then nI f else nI (dT (a 1) t)), kX (nI t + 1)] [] _ 2 12) 3 (fun _ => rfl) ?_
      rw [mnI (by omega) (by omega), nI_1]
      exact k_bt_1 Y O hd j (t + 1) _ (by omega) (by omega) R
theorem k_hoursToLaunchByTides {μ : fM} {u : Nat} {a : Nat → Nat} (Y : YR μ 0 a) (O : OKA u a) (x : Int32) : sX7_hoursToLaunchByTides [vR 7 0 0, vI x] μ = some (cRes eL μ (qLaunchIn a x)) := by
  have hc := c_dl Y O x
  refine fsemV_of (Nat.le_of_ble_eq_true rfl) ?_
  unfold qDL at hc
  unfold qLaunchIn
  by_cases q : okH a x
  · rw [if_pos q] at hc ⊢
    by_cases r : hS a (xN x) = 0
    · rw [if_pos r] at hc ⊢
      by_cases s : hF a (xN x) < 2 ∨ hDr a (xN x) (hWgt a (xN x)) = 41
      · rw [if_pos s] at hc ⊢
        refine fE_call (hc) 3 (fun _ => rfl) ?_
        exact fE_ret 0 (fun _ => rfl)
      · rw [if_neg s] at hc ⊢
        have hl : lH a (hDr a (xN x) (hWgt a (xN x))) ≤ 12 := lH_le
        refine fE_call (hc) 3 (fun _ => rfl) ?_
        refine fE_step (y := fun zz => frun _ _ zz 12 [kR 7 0 0, kX x, kN (hDr a (xN x) (hWgt a (xN x))), kN 12, kN 0] [] _ 2 12) 5 (fun _ => rfl) ?_
        refine k_bt_1 (d := hDr a (xN x) (hWgt a (xN x))) Y O dDr_le 12 0 12 (by omega) (by omega) ?_
        rw [fewT_eq]
        refine fE_ite 3 (fun _ => rfl) (fun z => ?_) (fun z => ?_)
        · skip
          have z := (nI_eq (b := 12) (by omega) (by omega)).mp z
          rw [if_pos z]
          exact fE_ret 1 (fun _ => rfl)
        · skip
          have z : ¬ lH a (hDr a (xN x) (hWgt a (xN x))) = 12 := fun p => z (congrArg nI p)
          rw [if_neg z]
          exact fE_ret 2 (fun _ => rfl)
    · rw [if_neg r] at hc ⊢
      refine fE_call (hc) 3 (fun _ => rfl) ?_
      exact fE_ret 0 (fun _ => rfl)
  · rw [if_neg q] at hc ⊢
    refine fE_call (hc) 3 (fun _ => rfl) ?_
    exact fE_ret 0 (fun _ => rfl)
