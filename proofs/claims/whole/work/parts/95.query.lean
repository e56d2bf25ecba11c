/-! QUERIES: the wrapper and the model agree -/
theorem t_qOf {w : Nat} {a : Nat → Nat} {x : Int32} {t : Nat} (h : qOf w a x = .inl t) : t = 1 := by
  unfold qOf at h
  (repeat' (first | (dsimp only at h; split at h) | split at h)) <;> first | (cases h; omega) | cases h | (simp at h; omega) | (simp at h)
theorem s_stateOf {u : Nat} {S : St8} {μ : fM} (I : SIM u S μ) (x : Int32) : AG sL_stateOf sX8_stateOf [vR 7 0 0, vI x, vR 40 0 0] [vR 8 0 0, vI x] μ (SIM u S) := by
  have c := k_stateOf I.yr I.ok x
  have m := fun ν => q_stateOf ν (a := S.a) x I.ok
  cases hq : qOf 0 S.a x with
  | inl t =>
    rw [hq] at c m
    rcases t_qOf hq with e
    · subst e
      exact AG_thr (w_stateOf0 x c) I (by decide) m
  | inr v =>
    rw [hq] at c m
    exact AG_val (w_stateOf x c) I m
theorem s_frameCount {u : Nat} {S : St8} {μ : fM} (I : SIM u S μ) (x : Int32) : AG sL_frameCount sX8_frameCount [vR 7 0 0, vI x, vR 40 0 0] [vR 8 0 0, vI x] μ (SIM u S) := by
  have c := k_frameCount I.yr I.ok x
  have m := fun ν => q_frameCount ν (a := S.a) x I.ok
  cases hq : qOf 1 S.a x with
  | inl t =>
    rw [hq] at c m
    rcases t_qOf hq with e
    · subst e
      exact AG_thr (w_frameCount0 x c) I (by decide) m
  | inr v =>
    rw [hq] at c m
    exact AG_val (w_frameCount x c) I m
theorem s_waterIn {u : Nat} {S : St8} {μ : fM} (I : SIM u S μ) (x : Int32) : AG sL_waterIn sX8_waterIn [vR 7 0 0, vI x, vR 40 0 0] [vR 8 0 0, vI x] μ (SIM u S) := by
  have c := k_waterIn I.yr I.ok x
  have m := fun ν => q_waterIn ν (a := S.a) x I.ok
  cases hq : qOf 3 S.a x with
  | inl t =>
    rw [hq] at c m
    rcases t_qOf hq with e
    · subst e
      exact AG_thr (w_waterIn0 x c) I (by decide) m
  | inr v =>
    rw [hq] at c m
    exact AG_val (w_waterIn x c) I m
theorem t_qWidth {a : Nat → Nat} {x y s : Int32} {t : Nat} (h : qWidth a x y s = .inl t) : t = 1 := by
  unfold qWidth at h
  (repeat' (first | (dsimp only at h; split at h) | split at h)) <;> first | (cases h; omega) | cases h | (simp at h; omega) | (simp at h)
theorem s_widthOf {u : Nat} {S : St8} {μ : fM} (I : SIM u S μ) (x y s : Int32) : AG sL_widthOf sX8_widthOf [vR 7 0 0, vI x, vI y, vI s, vR 40 0 0] [vR 8 0 0, vI x, vI y, vI s] μ (SIM u S) := by
  have c := k_widthOf I.yr I.ok x y s
  have m := fun ν => q_widthOf ν (a := S.a) x y s I.ok
  cases hq : qWidth S.a x y s with
  | inl t =>
    rw [hq] at c m
    rcases t_qWidth hq with e
    · subst e
      exact AG_thr (w_widthOf0 x y s c) I (by decide) m
  | inr v =>
    rw [hq] at c m
    exact AG_val (w_widthOf x y s c) I m
theorem t_qCaulk {a : Nat → Nat} {x y : Int32} {t : Nat} (h : qCaulk a x y = .inl t) : t = 1 := by
  unfold qCaulk at h
  (repeat' (first | (dsimp only at h; split at h) | split at h)) <;> first | (cases h; omega) | cases h | (simp at h; omega) | (simp at h)
theorem s_caulkingOf {u : Nat} {S : St8} {μ : fM} (I : SIM u S μ) (x y : Int32) : AG sL_caulkingOf sX8_caulkingOf [vR 7 0 0, vI x, vI y, vR 40 0 0] [vR 8 0 0, vI x, vI y] μ (SIM u S) := by
  have c := k_caulkingOf I.yr I.ok x y
  have m := fun ν => q_caulkingOf ν (a := S.a) x y I.ok
  cases hq : qCaulk S.a x y with
  | inl t =>
    rw [hq] at c m
    rcases t_qCaulk hq with e
    · subst e
      exact AG_thr (w_caulkingOf0 x y c) I (by decide) m
  | inr v =>
    rw [hq] at c m
    exact AG_val (w_caulkingOf x y c) I m
theorem t_qWgt {a : Nat → Nat} {x : Int32} {t : Nat} (h : qWgt a x = .inl t) : t = 1 := by
  unfold qWgt at h
  (repeat' (first | (dsimp only at h; split at h) | split at h)) <;> first | (cases h; omega) | cases h | (simp at h; omega) | (simp at h)
theorem s_weightOf {u : Nat} {S : St8} {μ : fM} (I : SIM u S μ) (x : Int32) : AG sL_weightOf sX8_weightOf [vR 7 0 0, vI x, vR 40 0 0] [vR 8 0 0, vI x] μ (SIM u S) := by
  have c := k_weightOf I.yr I.ok x
  have m := fun ν => q_weightOf ν (a := S.a) x I.ok
  cases hq : qWgt S.a x with
  | inl t =>
    rw [hq] at c m
    rcases t_qWgt hq with e
    · subst e
      exact AG_thr (w_weightOf0 x c) I (by decide) m
  | inr v =>
    rw [hq] at c m
    exact AG_val (w_weightOf x c) I m
theorem t_qDr {a : Nat → Nat} {x : Int32} {t : Nat} (h : qDr a x = .inl t) : t = 1 ∨ t = 2 := by
  unfold qDr at h
  (repeat' (first | (dsimp only at h; split at h) | split at h)) <;> first | (cases h; omega) | cases h | (simp at h; omega) | (simp at h)
theorem s_draughtOf {u : Nat} {S : St8} {μ : fM} (I : SIM u S μ) (x : Int32) : AG sL_draughtOf sX8_draughtOf [vR 7 0 0, vI x, vR 40 0 0] [vR 8 0 0, vI x] μ (SIM u S) := by
  have c := k_draughtOf I.yr I.ok x
  have m := fun ν => q_draughtOf ν (a := S.a) x I.ok
  cases hq : qDr S.a x with
  | inl t =>
    rw [hq] at c m
    rcases t_qDr hq with e | e
    · subst e
      exact AG_thr (w_draughtOf0 x c) I (by decide) m
    · subst e
      exact AG_thr (w_draughtOf4 x c) I (by decide) m
  | inr v =>
    rw [hq] at c m
    exact AG_val (w_draughtOf x c) I m
theorem s_draughtByHalving {u : Nat} {S : St8} {μ : fM} (I : SIM u S μ) (x : Int32) : AG sL_draughtByHalving sX8_draughtByHalving [vR 7 0 0, vI x, vR 40 0 0] [vR 8 0 0, vI x] μ (SIM u S) := by
  have c := k_draughtByHalving I.yr I.ok x
  have m := fun ν => q_draughtByHalving ν (a := S.a) x I.ok
  cases hq : qDr S.a x with
  | inl t =>
    rw [hq] at c m
    rcases t_qDr hq with e | e
    · subst e
      exact AG_thr (w_draughtByHalving0 x c) I (by decide) m
    · subst e
      exact AG_thr (w_draughtByHalving4 x c) I (by decide) m
  | inr v =>
    rw [hq] at c m
    exact AG_val (w_draughtByHalving x c) I m
theorem t_qHeel {a : Nat → Nat} {x : Int32} {t : Nat} (h : qHeel a x = .inl t) : t = 1 := by
  unfold qHeel at h
  (repeat' (first | (dsimp only at h; split at h) | split at h)) <;> first | (cases h; omega) | cases h | (simp at h; omega) | (simp at h)
theorem s_heelOf {u : Nat} {S : St8} {μ : fM} (I : SIM u S μ) (x : Int32) : AG sL_heelOf sX8_heelOf [vR 7 0 0, vI x, vR 40 0 0] [vR 8 0 0, vI x] μ (SIM u S) := by
  have c := k_heelOf I.yr I.ok x
  have m := fun ν => q_heelOf ν (a := S.a) x I.ok
  cases hq : qHeel S.a x with
  | inl t =>
    rw [hq] at c m
    rcases t_qHeel hq with e
    · subst e
      exact AG_thr (w_heelOf0 x c) I (by decide) m
  | inr v =>
    rw [hq] at c m
    exact AG_val (w_heelOf x c) I m
theorem t_qRank {a : Nat → Nat} {x : Int32} {t : Nat} (h : qRank a x = .inl t) : t = 1 := by
  unfold qRank at h
  (repeat' (first | (dsimp only at h; split at h) | split at h)) <;> first | (cases h; omega) | cases h | (simp at h; omega) | (simp at h)
theorem s_hullAtRank {u : Nat} {S : St8} {μ : fM} (I : SIM u S μ) (x : Int32) : AG sL_hullAtRank sX8_hullAtRank [vR 7 0 0, vI x, vR 40 0 0] [vR 8 0 0, vI x] μ (SIM u S) := by
  have c := k_hullAtRank I.yr I.ok x
  have m := fun ν => q_hullAtRank ν (a := S.a) x I.ok
  cases hq : qRank S.a x with
  | inl t =>
    rw [hq] at c m
    rcases t_qRank hq with e
    · subst e
      exact AG_thr (w_hullAtRank4 x c) I (by decide) m
  | inr v =>
    rw [hq] at c m
    exact AG_val (w_hullAtRank x c) I m
theorem t_qStretch {a : Nat → Nat} {x y : Int32} {t : Nat} (h : qStretch a x y = .inl t) : t = 1 := by
  unfold qStretch at h
  (repeat' (first | (dsimp only at h; split at h) | split at h)) <;> first | (cases h; omega) | cases h | (simp at h; omega) | (simp at h)
theorem s_commonStretchByTrying {u : Nat} {S : St8} {μ : fM} (I : SIM u S μ) (x y : Int32) : AG sL_commonStretchByTrying sX8_commonStretchByTrying [vR 7 0 0, vI x, vI y, vR 40 0 0] [vR 8 0 0, vI x, vI y] μ (SIM u S) := by
  have c := k_commonStretchByTrying I.yr I.ok x y
  have m := fun ν => q_commonStretchByTrying ν (a := S.a) x y I.ok
  cases hq : qStretch S.a x y with
  | inl t =>
    rw [hq] at c m
    rcases t_qStretch hq with e
    · subst e
      exact AG_thr (w_commonStretchByTrying0 x y c) I (by decide) m
  | inr v =>
    rw [hq] at c m
    exact AG_val (w_commonStretchByTrying x y c) I m
theorem t_qTideAfter {a : Nat → Nat} {x : Int32} {t : Nat} (h : qTideAfter a x = .inl t) : t = 1 := by
  unfold qTideAfter at h
  (repeat' (first | (dsimp only at h; split at h) | split at h)) <;> first | (cases h; omega) | cases h | (simp at h; omega) | (simp at h)
theorem s_tideAfter {u : Nat} {S : St8} {μ : fM} (I : SIM u S μ) (x : Int32) : AG sL_tideAfter sX8_tideAfter [vR 7 0 0, vI x, vR 40 0 0] [vR 8 0 0, vI x] μ (SIM u S) := by
  have c := k_tideAfter I.yr I.ok x
  have m := fun ν => q_tideAfter ν (a := S.a) x I.ok
  cases hq : qTideAfter S.a x with
  | inl t =>
    rw [hq] at c m
    rcases t_qTideAfter hq with e
    · subst e
      exact AG_thr (w_tideAfter1 x c) I (by decide) m
  | inr v =>
    rw [hq] at c m
    exact AG_val (w_tideAfter x c) I m
theorem t_qLaunchIn {a : Nat → Nat} {x : Int32} {t : Nat} (h : qLaunchIn a x = .inl t) : t = 1 ∨ t = 2 ∨ t = 3 := by
  unfold qLaunchIn at h
  try unfold qDL at h
  (repeat' (first | (dsimp only at h; split at h) | split at h)) <;> first | (cases h; omega) | cases h | (simp at h; omega) | (simp at h)
theorem s_hoursToLaunch {u : Nat} {S : St8} {μ : fM} (I : SIM u S μ) (x : Int32) : AG sL_hoursToLaunch sX8_hoursToLaunch [vR 7 0 0, vI x, vR 40 0 0] [vR 8 0 0, vI x] μ (SIM u S) := by
  have c := k_hoursToLaunch I.yr I.ok x
  have m := fun ν => q_hoursToLaunch ν (a := S.a) x I.ok
  cases hq : qLaunchIn S.a x with
  | inl t =>
    rw [hq] at c m
    rcases t_qLaunchIn hq with e | e | e
    · subst e
      exact AG_thr (w_hoursToLaunch0 x c) I (by decide) m
    · subst e
      exact AG_thr (w_hoursToLaunch2 x c) I (by decide) m
    · subst e
      exact AG_thr (w_hoursToLaunch4 x c) I (by decide) m
  | inr v =>
    rw [hq] at c m
    exact AG_val (w_hoursToLaunch x c) I m
theorem s_hoursToLaunchByTides {u : Nat} {S : St8} {μ : fM} (I : SIM u S μ) (x : Int32) : AG sL_hoursToLaunchByTides sX8_hoursToLaunchByTides [vR 7 0 0, vI x, vR 40 0 0] [vR 8 0 0, vI x] μ (SIM u S) := by
  have c := k_hoursToLaunchByTides I.yr I.ok x
  have m := fun ν => q_hoursToLaunchByTides ν (a := S.a) x I.ok
  cases hq : qLaunchIn S.a x with
  | inl t =>
    rw [hq] at c m
    rcases t_qLaunchIn hq with e | e | e
    · subst e
      exact AG_thr (w_hoursToLaunchByTides0 x c) I (by decide) m
    · subst e
      exact AG_thr (w_hoursToLaunchByTides2 x c) I (by decide) m
    · subst e
      exact AG_thr (w_hoursToLaunchByTides4 x c) I (by decide) m
  | inr v =>
    rw [hq] at c m
    exact AG_val (w_hoursToLaunchByTides x c) I m
theorem t_qSlip {a : Nat → Nat} {x : Int32} {t : Nat} (h : qSlip a x = .inl t) : t = 1 := by
  unfold qSlip at h
  (repeat' (first | (dsimp only at h; split at h) | split at h)) <;> first | (cases h; omega) | cases h | (simp at h; omega) | (simp at h)
theorem s_slipLength {u : Nat} {S : St8} {μ : fM} (I : SIM u S μ) (x : Int32) : AG sL_slipLength sX8_slipLength [vR 7 0 0, vI x, vR 40 0 0] [vR 8 0 0, vI x] μ (SIM u S) := by
  have c := k_slipLength I.yr x
  have m := fun ν => q_slipLength ν (a := S.a) x
  cases hq : qSlip S.a x with
  | inl t =>
    rw [hq] at c m
    rcases t_qSlip hq with e
    · subst e
      exact AG_thr (w_slipLength1 x c) I (by decide) m
  | inr v =>
    rw [hq] at c m
    exact AG_val (w_slipLength x c) I m
theorem t_qOrderAt {a : Nat → Nat} {x : Int32} {t : Nat} (h : qOrderAt a x = .inl t) : t = 1 := by
  unfold qOrderAt at h
  (repeat' (first | (dsimp only at h; split at h) | split at h)) <;> first | (cases h; omega) | cases h | (simp at h; omega) | (simp at h)
theorem s_orderAt {u : Nat} {S : St8} {μ : fM} (I : SIM u S μ) (x : Int32) : AG sL_orderAt sX8_orderAt [vR 7 0 0, vI x, vR 40 0 0] [vR 8 0 0, vI x] μ (SIM u S) := by
  have c := k_orderAt I.yr I.ok x
  have m := fun ν => q_orderAt ν (a := S.a) x I.ok
  cases hq : qOrderAt S.a x with
  | inl t =>
    rw [hq] at c m
    rcases t_qOrderAt hq with e
    · subst e
      exact AG_thr (w_orderAt0 x c) I (by decide) m
  | inr v =>
    rw [hq] at c m
    exact AG_val (w_orderAt x c) I m
theorem t_qCoins {a : Nat → Nat} {x : Int32} {t : Nat} (h : qCoins a x = .inl t) : t = 1 := by
  unfold qCoins at h
  (repeat' (first | (dsimp only at h; split at h) | split at h)) <;> first | (cases h; omega) | cases h | (simp at h; omega) | (simp at h)
theorem s_coinsFor {u : Nat} {S : St8} {μ : fM} (I : SIM u S μ) (x : Int32) : AG sL_coinsFor sX8_coinsFor [vR 7 0 0, vI x, vR 40 0 0] [vR 8 0 0, vI x] μ (SIM u S) := by
  have c := k_coinsFor I.yr I.ok x
  have m := fun ν => q_coinsFor ν (a := S.a) x I.ok
  cases hq : qCoins S.a x with
  | inl t =>
    rw [hq] at c m
    rcases t_qCoins hq with e
    · subst e
      exact AG_thr (w_coinsFor4 x c) I (by decide) m
  | inr v =>
    rw [hq] at c m
    exact AG_val (w_coinsFor x c) I m
theorem t_qHullsIn {a : Nat → Nat} {x : Int32} {t : Nat} (h : qHullsIn a x = .inl t) : t = 1 := by
  unfold qHullsIn at h
  (repeat' (first | (dsimp only at h; split at h) | split at h)) <;> first | (cases h; omega) | cases h | (simp at h; omega) | (simp at h)
theorem s_hullsIn {u : Nat} {S : St8} {μ : fM} (I : SIM u S μ) (x : Int32) : AG sL_hullsIn sX8_hullsIn [vR 7 0 0, vI x, vR 40 0 0] [vR 8 0 0, vI x] μ (SIM u S) := by
  have c := k_hullsIn I.yr I.ok x
  have m := fun ν => q_hullsIn ν (a := S.a) x I.ok
  cases hq : qHullsIn S.a x with
  | inl t =>
    rw [hq] at c m
    rcases t_qHullsIn hq with e
    · subst e
      exact AG_thr (w_hullsIn1 x c) I (by decide) m
  | inr v =>
    rw [hq] at c m
    exact AG_val (w_hullsIn x c) I m
