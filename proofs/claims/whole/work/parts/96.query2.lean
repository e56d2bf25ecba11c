theorem AG_valS {sw sm : fS} {aw am : List fV} {μ μ' : fM} {u : Nat} {S : St8} {v : Int32} (hw : sw aw μ = some (.inl (some (vI 0)), fJ μ' 40 0 0 0 v.toInt64)) (I : SIM u S μ') (hm : ∀ ν, SIM u S ν → ∃ ν', sm am ν = some (.inl (some (vI v)), ν') ∧ ν'.1 8 0 0 9 = 0 ∧ ν'.2.1 40 0 0 0 = ν.2.1 40 0 0 0 ∧ SIM u S ν') : AG sw sm aw am μ (SIM u S) := by
  obtain ⟨ν', m1, m2, m3, m4⟩ := hm _ (SIM_fJ (v := v.toInt64) I)
  exact ⟨0, v, _, _, hw, m1, m2, fun _ => m3.trans fJ_at, m4⟩
theorem AG_thrS {sw sm : fS} {aw am : List fV} {μ μ' : fM} {u : Nat} {S : St8} {k b : Int32} (hw : sw aw μ = some (.inl (some (vI k)), μ')) (I : SIM u S μ') (hk : k ≠ 0) (hm : ∀ ν, SIM u S ν → ∃ ν', sm am ν = some (.inl (some (vI b)), ν') ∧ ν'.1 8 0 0 9 = k ∧ SIM u S ν') : AG sw sm aw am μ (SIM u S) := by
  obtain ⟨ν', m1, m2, m3⟩ := hm _ I
  exact ⟨k, b, _, _, hw, m1, m2, fun e => absurd e hk, m3⟩
theorem s_commonStretch {u : Nat} {S : St8} {μ : fM} (I : SIM u S μ) (x y : Int32) : AG sL_commonStretch sX8_commonStretch [vR 7 0 0, vI x, vI y, vR 40 0 0] [vR 8 0 0, vI x, vI y] μ (SIM u S) := by
  obtain ⟨μ', c, hs⟩ := k_commonStretch I.yr I.ok I.tz x y
  have m := fun ν => q_commonStretch ν (a := S.a) x y I.ok
  have J := SIM_sX I hs (fun c y h k p => by have := p.1; have := p.2; omega)
  cases hq : qStretch S.a x y with
  | inl t =>
    rw [hq] at c m
    rcases t_qStretch hq with e
    subst e
    exact AG_thr (w_commonStretch0 x y c) J (by decide) m
  | inr v =>
    rw [hq] at c m
    exact AG_val (w_commonStretch x y c) J m
theorem t_qSink {a : Nat → Nat} {x : Int32} {t : Nat} (h : qSink a x = .inl t) : t = 1 ∨ t = 2 ∨ t = 3 := by
  unfold qSink at h
  (repeat' (first | (dsimp only at h; split at h) | split at h)) <;> first | (cases h; omega) | cases h | (simp at h; omega) | (simp at h)
theorem SIM_gB {μ : fM} {u n : Nat} {S : St8} {f : Nat → Nat} (I : SIM u S μ) : SIM u S (gB 35 n μ f) := SIM_m I (fun c y h k _ _ q _ _ => gB_ne q) (fun y h k => rfl)
theorem s_hoursToSinking {u : Nat} {S : St8} {μ : fM} (I : SIM u S μ) (x : Int32) : AG sL_hoursToSinking sX8_hoursToSinking [vR 7 0 0, vI x, vR 40 0 0] [vR 8 0 0, vI x] μ (SIM u S) := by
  obtain ⟨μ', c, hs⟩ := k_hoursToSinking I.yr I.ok x
  have J := SIM_sX I hs (fun c y h k p => by have := p.1; have := p.2; omega)
  have m : ∀ ν, SIM u S ν → ∃ ν', sX8_hoursToSinking [vR 8 0 0, vI x] ν = some (.inl (some (vI (mVal (qSink S.a x)))), ν') ∧ ν'.1 8 0 0 9 = nI (mThr (qSink S.a x)) ∧ ν'.2.1 40 0 0 0 = ν.2.1 40 0 0 0 ∧ SIM u S ν' := fun ν K => by
    obtain ⟨n, ck, h⟩ := q_hoursToSinking ν (a := S.a) x I.ok
    rw [K.self] at h
    exact ⟨_, h, rfl, rfl, (SIM_gB K).gT⟩
  cases hq : qSink S.a x with
  | inl t =>
    rw [hq] at c m
    rcases t_qSink hq with e | e | e
    · subst e
      exact AG_thrS (w_hoursToSinking0 x c) J (by decide) (fun ν K => (m ν K).elim fun ν' p => ⟨ν', p.1, p.2.1, p.2.2.2⟩)
    · subst e
      exact AG_thrS (w_hoursToSinking2 x c) J (by decide) (fun ν K => (m ν K).elim fun ν' p => ⟨ν', p.1, p.2.1, p.2.2.2⟩)
    · subst e
      exact AG_thrS (w_hoursToSinking4 x c) J (by decide) (fun ν K => (m ν K).elim fun ν' p => ⟨ν', p.1, p.2.1, p.2.2.2⟩)
  | inr v =>
    rw [hq] at c m
    exact AG_valS (w_hoursToSinking x c) J m
theorem t_qRefl {a : Nat → Nat} {x y : Int32} {t : Nat} (h : qRefl a x y = .inl t) : t = 1 := by
  unfold qRefl at h
  split at h
  · cases h
  · cases h; rfl
theorem s_isReflectionOf {u : Nat} {S : St8} {μ : fM} (I : SIM u S μ) (x y : Int32) : AGb sL_isReflectionOf sX8_isReflectionOf [vR 7 0 0, vI x, vI y, vR 40 0 0] [vR 8 0 0, vI x, vI y] μ (SIM u S) := by
  have c := k_isReflectionOf I.yr I.ok x y
  have m := fun ν => q_isReflectionOf ν (a := S.a) x y I.ok
  cases hq : qRefl S.a x y with
  | inl t =>
    obtain rfl := t_qRefl hq
    rw [hq] at c m
    have m := m μ
    rw [I.self] at m
    exact ⟨1, 0, _, _, w_isReflectionOf0 x y c, m, rfl, fun e => absurd e (by decide), I.gT⟩
  | inr b =>
    rw [hq] at c m
    have J := SIM_fJ (v := if b = true then 1 else 0) I
    have m := m (fJ μ 40 0 0 0 (if b = true then 1 else 0))
    rw [J.self] at m
    refine ⟨0, bI (b = true), _, _, w_isReflectionOf x y c, m, rfl, fun _ => ?_, J.gT⟩
    refine Eq.trans fJ_at ?_
    cases b <;> rfl
theorem s_isSymmetric {u : Nat} {S : St8} {μ : fM} (I : SIM u S μ) (x : Int32) : AGb sL_isSymmetric sX8_isSymmetric [vR 7 0 0, vI x, vR 40 0 0] [vR 8 0 0, vI x] μ (SIM u S) := by
  have c := k_isSymmetric I.yr I.ok x
  have m := fun ν => q_isSymmetric ν (a := S.a) x I.ok
  cases hq : qRefl S.a x x with
  | inl t =>
    obtain rfl := t_qRefl hq
    rw [hq] at c m
    have m := m μ
    rw [I.self] at m
    exact ⟨1, 0, _, _, w_isSymmetric0 x c, m, rfl, fun e => absurd e (by decide), I.gT⟩
  | inr b =>
    rw [hq] at c m
    have J := SIM_fJ (v := if b = true then 1 else 0) I
    have m := m (fJ μ 40 0 0 0 (if b = true then 1 else 0))
    rw [J.self] at m
    refine ⟨0, bI (b = true), _, _, w_isSymmetric x c, m, rfl, fun _ => ?_, J.gT⟩
    refine Eq.trans fJ_at ?_
    cases b <;> rfl
theorem t_qStored {r n : Int32} {t : Nat} (h : qStored r n = .inl t) : t = 1 := by
  unfold qStored at h
  split at h
  · cases h; rfl
  · cases h
theorem s_refusalReason {u : Nat} {S : St8} {μ : fM} (I : SIM u S μ) : AG sL_refusalReason sX8_refusalReason [vR 7 0 0, vR 40 0 0] [vR 8 0 0] μ (SIM u S) := by
  have c := k_refusalReason (μ := μ)
  rw [I.1.2.2.2.2.1] at c
  have m : ∀ ν, SIM u S ν → ∃ ν', sX8_refusalReason [vR 8 0 0] ν = some (.inl (some (vI (mVal (qStored S.rf 0)))), ν') ∧ ν'.1 8 0 0 9 = nI (mThr (qStored S.rf 0)) ∧ ν'.2.1 40 0 0 0 = ν.2.1 40 0 0 0 ∧ SIM u S ν' := fun ν K => by
    have h := q_refusalReason ν (a := S.a)
    rw [K.self, K.2.1.2.2.2.2.2.2.2.1] at h
    exact ⟨_, h, rfl, rfl, K.gT⟩
  cases hq : qStored S.rf 0 with
  | inl t =>
    rw [hq] at c m
    obtain rfl := t_qStored hq
    exact AG_thrS (w_refusalReason4 c) I (by decide) (fun ν K => (m ν K).elim fun ν' p => ⟨ν', p.1, p.2.1, p.2.2.2⟩)
  | inr v =>
    rw [hq] at c m
    exact AG_valS (w_refusalReason c) I m
theorem s_errorPosition {u : Nat} {S : St8} {μ : fM} (I : SIM u S μ) : AG sL_errorPosition sX8_errorPosition [vR 7 0 0, vR 40 0 0] [vR 8 0 0] μ (SIM u S) := by
  have e := I.1.2.2.2.2.2.1
  have c := k_errorPosition (μ := μ) (by rw [e]; exact I.2.2.2.2.2.2.1)
  rw [e] at c
  have m : ∀ ν, SIM u S ν → ∃ ν', sX8_errorPosition [vR 8 0 0] ν = some (.inl (some (vI (mVal (qStored S.er (-1))))), ν') ∧ ν'.1 8 0 0 9 = nI (mThr (qStored S.er (-1))) ∧ ν'.2.1 40 0 0 0 = ν.2.1 40 0 0 0 ∧ SIM u S ν' := fun ν K => by
    have h := q_errorPosition ν (a := S.a)
    rw [K.self, K.2.1.2.2.2.2.2.1] at h
    exact ⟨_, h, rfl, rfl, K.gT⟩
  cases hq : qStored S.er (-1) with
  | inl t =>
    rw [hq] at c m
    obtain rfl := t_qStored hq
    exact AG_thrS (w_errorPosition4 c) I (by decide) (fun ν K => (m ν K).elim fun ν' p => ⟨ν', p.1, p.2.1, p.2.2.2⟩)
  | inr v =>
    rw [hq] at c m
    exact AG_valS (w_errorPosition c) I m
theorem s_failedCommand {u : Nat} {S : St8} {μ : fM} (I : SIM u S μ) : AG sL_failedCommand sX8_failedCommand [vR 7 0 0, vR 40 0 0] [vR 8 0 0] μ (SIM u S) := by
  have e := I.1.2.2.2.2.2.2.1
  have c := k_failedCommand (μ := μ) (by rw [e]; exact I.2.2.2.2.2.2.2.1)
  rw [e] at c
  have m : ∀ ν, SIM u S ν → ∃ ν', sX8_failedCommand [vR 8 0 0] ν = some (.inl (some (vI (mVal (qStored S.fl (-1))))), ν') ∧ ν'.1 8 0 0 9 = nI (mThr (qStored S.fl (-1))) ∧ ν'.2.1 40 0 0 0 = ν.2.1 40 0 0 0 ∧ SIM u S ν' := fun ν K => by
    have h := q_failedCommand ν (a := S.a)
    rw [K.self, K.2.1.2.2.2.2.2.2.1] at h
    exact ⟨_, h, rfl, rfl, K.gT⟩
  cases hq : qStored S.fl (-1) with
  | inl t =>
    rw [hq] at c m
    obtain rfl := t_qStored hq
    exact AG_thrS (w_failedCommand4 c) I (by decide) (fun ν K => (m ν K).elim fun ν' p => ⟨ν', p.1, p.2.1, p.2.2.2⟩)
  | inr v =>
    rw [hq] at c m
    exact AG_valS (w_failedCommand c) I m
theorem fD_at {μ : fM} {c y h k : Nat} {v : UInt64} : (fD μ c y h k v).2.2 c y h k = v := if_pos ⟨rfl, rfl, rfl, rfl⟩
theorem s_meanWeight {u : Nat} {S : St8} {μ : fM} (I : SIM u S μ) : AGd sL_meanWeight sX8_meanWeight [vR 7 0 0, vR 41 0 0] [vR 8 0 0] μ (SIM u S) := by
  have c := k_meanWeight I.yr I.ok
  have m := fun ν => q_meanWeight ν (a := S.a) I.ok
  cases hq : qMean S.a with
  | none =>
    rw [hq] at c m
    have m := m μ
    rw [I.self] at m
    exact ⟨1, _, _, _, w_meanWeight5 c, m, rfl, fun e => absurd e (by decide), I.gT⟩
  | some v =>
    rw [hq] at c m
    have J := SIM_fD (v := v) I
    have m := m (fD μ 41 0 0 0 v)
    rw [J.self] at m
    exact ⟨0, v, _, _, w_meanWeight c, m, rfl, fun _ => (fD_at : (fD μ 41 0 0 0 v).2.2 41 0 0 0 = v), J.gT⟩
theorem AG0_q {sc sm : fS} {ac am : List fV} {μ μ' : fM} {u : Nat} {S : St8} {v : Int32} (hc : sc ac μ = some (.inl (some (vI v)), μ')) (I : SIM u S μ') (hm : ∀ ν, sm am (gA ν S.a) = some (.inl (some (vI v)), gA (gT ν 0) S.a)) : AG0 sc sm ac am μ (SIM u S) := by
  have m := hm μ'
  rw [I.self] at m
  exact ⟨v, _, _, hc, m, I.gT⟩
theorem s_hullCount {u : Nat} {S : St8} {μ : fM} (I : SIM u S μ) : AG0 sX7_hullCount sX8_hullCount [vR 7 0 0] [vR 8 0 0] μ (SIM u S) := AG0_q (k_hullCount I.yr) I (fun ν => q_hullCount ν)
theorem s_hour {u : Nat} {S : St8} {μ : fM} (I : SIM u S μ) : AG0 sX7_hour sX8_hour [vR 7 0 0] [vR 8 0 0] μ (SIM u S) := AG0_q (k_hour I.yr) I (fun ν => q_hour ν)
theorem s_orderCount {u : Nat} {S : St8} {μ : fM} (I : SIM u S μ) : AG0 sX7_orderCount sX8_orderCount [vR 7 0 0] [vR 8 0 0] μ (SIM u S) := AG0_q (k_orderCount I.yr) I (fun ν => q_orderCount ν)
theorem s_paidCoins {u : Nat} {S : St8} {μ : fM} (I : SIM u S μ) : AGl sX7_paidCoins sX8_paidCoins [vR 7 0 0] [vR 8 0 0] μ (SIM u S) := by
  have m := q_paidCoins μ (a := S.a)
  rw [I.self] at m
  exact ⟨_, _, _, k_paidCoins I.yr, m, I.gT⟩
theorem s_bestDelivery {u : Nat} {S : St8} {μ : fM} (I : SIM u S μ) : AG0 sX7_bestDelivery sX8_bestDelivery [vR 7 0 0] [vR 8 0 0] μ (SIM u S) := by
  obtain ⟨μ', c, hs⟩ := k_bestDelivery I.yr I.ok
  have J := SIM_sX I hs (fun c y h k p => by have p : c = 20 := p; omega)
  exact AG0_q c J (fun ν => q_bestDelivery ν I.ok)
theorem SIM_wM {μ : fM} {u : Nat} {S : St8} {q : Nat × Nat} (I : SIM u S μ) : SIM u S (wM μ q) := SIM_m I (fun c y h k q1 _ _ _ _ => fI_ne (μ := μ) (v := nI q.1) (fun p => q1 (by omega))) (fun y h k => by show (if 6 = 8 ∧ k = 14 ∧ y = 0 ∧ h = 0 then Int64.ofNat q.2 else μ.2.1 6 y h k) = μ.2.1 6 y h k; rw [if_neg (by omega)])
theorem s_mostOnSlips {u : Nat} {S : St8} {μ : fM} (I : SIM u S μ) : AG0 sX7_mostOnSlips sX8_mostOnSlips [vR 7 0 0] [vR 8 0 0] μ (SIM u S) := by
  obtain ⟨μ', c, hs⟩ := k_mostOnSlips I.yr I.ok
  have J := SIM_sX I hs (fun c y h k p => by have p : c = 24 ∨ c = 25 ∨ c = 26 := p; omega)
  have m := q_mostOnSlips μ' (a := S.a) I.ok
  have K := SIM_wM (q := wU S.a) (SIM_gT (v := 0) J)
  rw [J.self, K.self] at m
  exact ⟨_, _, _, c, m, K⟩
theorem s_mostOnSlipsByLengths {u : Nat} {S : St8} {μ : fM} (I : SIM u S μ) : AG0 sX7_mostOnSlipsByLengths sX8_mostOnSlipsByLengths [vR 7 0 0] [vR 8 0 0] μ (SIM u S) := by
  obtain ⟨μ', c, hs⟩ := k_mostByLengths I.yr I.ok
  have J := SIM_sX I hs (fun c y h k p => by have p : c = 24 ∨ c = 25 ∨ c = 26 := p; omega)
  have m := q_mostByLengths μ' (a := S.a) I.ok
  have K := SIM_wM (q := wU S.a) (SIM_gT (v := 0) J)
  rw [J.self, K.self] at m
  exact ⟨_, _, _, c, m, K⟩
theorem s_bestUses {u : Nat} {S : St8} {μ : fM} (I : SIM u S μ) : AG0 sX7_bestUses sX8_bestUses [vR 7 0 0] [vR 8 0 0] μ (SIM u S) := by
  obtain ⟨μ', c, hs⟩ := k_bestUses I.yr I.ok
  have J := SIM_sX I hs (fun c y h k p => by have p : c = 24 ∨ c = 25 ∨ c = 26 := p; omega)
  have m := q_bestUses μ' (a := S.a) I.ok
  have K := SIM_wM (q := wU S.a) (SIM_gT (v := 0) J)
  rw [J.self, K.self] at m
  exact ⟨_, _, _, c, m, K⟩
