/-! THE OTHER CALLS -/
def St8.st (S : St8) (tx : Nat → Nat) (n : Nat) : St8 := mkS S.a S.l S.sv tx n S.ln S.rf S.er S.fl
def St8.nums (S : St8) (rf er fl : Int32) : St8 := mkS S.a S.l S.sv S.tx S.n S.ln rf er fl
def St8.line (S : St8) (ln : List Nat) : St8 := mkS S.a S.l S.sv S.tx S.n ln S.rf S.er S.fl
def St8.keep (S : St8) (b : Nat → Nat) : St8 := mkS S.a S.l (some b) S.tx S.n S.ln S.rf S.er S.fl
theorem t_sLaunch {a : Nat → Nat} {x : Int32} {t : Nat} (h : (sLaunch a x).1 = .inl t) : t = 1 ∨ t = 2 ∨ t = 3 := by
  unfold sLaunch at h
  (repeat' split at h) <;> first | (cases h; omega) | cases h
theorem t_why {a : Nat → Nat} {x : Int32} (h : (sLaunch a x).1 = .inl 3) : sWhy a x ≠ 0 := by
  unfold sLaunch at h
  unfold sWhy
  by_cases q : okH a x
  · rw [if_pos q] at h
    by_cases r : hS a (xN x) = 0
    · rw [if_pos r] at h
      rw [if_pos ⟨q, r⟩]
      by_cases s : hWhy a (xN x) = 0
      · rw [if_pos s] at h; cases h
      · exact s
    · rw [if_neg r] at h; cases h
  · rw [if_neg q] at h; cases h
theorem CI_nums {S : St8} {μ μ' : fM} {rf er fl : Int32} (C : CI S μ) (h : ∀ c y h k, kC c → ¬ (c = 7 ∧ (k = 7 ∨ k = 8 ∨ k = 9)) → μ'.1 c y h k = μ.1 c y h k) (h2 : ∀ y h k, μ'.2.1 6 y h k = μ.2.1 6 y h k) (h7 : μ'.1 7 0 0 7 = rf) (h8 : μ'.1 7 0 0 8 = er) (h9 : μ'.1 7 0 0 9 = fl) : CI (S.nums rf er fl) μ' := by
  obtain ⟨c1, c2, c3, c4, c5, c6, c7, c8, c9, c10⟩ := C
  have hh : ∀ c y h' k, kC c → ¬ (c = 7 ∧ (k = 7 ∨ k = 8 ∨ k = 9)) → (μ'.1 c y h' k = μ.1 c y h' k) := h
  have yr : ∀ y b, YR μ y b → YR μ' y b := fun y b Y => ⟨fun h' hh' => HV_out (Y.hv hh') (fun c k hc => h c y h' k (by unfold kC; omega) (by omega)), fun k hk => (h 14 y 0 k (by unfold kC; omega) (by omega)).trans (Y.tide hk), fun k hk => (h 15 y 0 k (by unfold kC; omega) (by omega)).trans (Y.slip hk), (h 6 y 0 4 (by unfold kC; omega) (by omega)).trans Y.begun, (h 6 y 0 5 (by unfold kC; omega) (by omega)).trans Y.now, (h2 y 0 6).trans Y.paid, (h 2 y 0 5 (by unfold kC; omega) (by omega)).trans Y.count, (h 2 y 0 6 (by unfold kC; omega) (by omega)).trans Y.next, fun k hk => (h 16 y 0 k (by unfold kC; omega) (by omega)).trans (Y.id hk), fun k hk => (h 17 y 0 k (by unfold kC; omega) (by omega)).trans (Y.fr hk), fun k hk => (h 18 y 0 k (by unfold kC; omega) (by omega)).trans (Y.hr hk), fun k hk => (h 19 y 0 k (by unfold kC; omega) (by omega)).trans (Y.co hk)⟩
  obtain ⟨o, ho, hl, e1, e2, hP⟩ := c2
  exact ⟨yr 0 _ c1, ⟨o, ho, hl, (h 0 0 0 1 (by unfold kC; omega) (by omega)).trans e1, (h 0 0 0 2 (by unfold kC; omega) (by omega)).trans e2, fun i b hi => yr _ b (hP i b hi)⟩, (h 7 0 0 3 (by unfold kC; omega) (by omega)).trans c3, fun b hb => yr 1 b (c4 b hb), h7, h8, h9, CT_out c8 (h 3 0 0 1 (by unfold kC; omega) (by omega)) (fun k => h 21 0 0 k (by unfold kC; omega) (by omega)), TL_eq c9 (fun y k => h 51 y 0 k (by unfold kC; omega) (by omega)), TZ_eq c10 (fun i j => h 28 0 i j (by unfold kC; omega) (by omega))⟩
theorem MI_nums {S : St8} {μ μ' : fM} {rf er fl : Int32} (M : MI S μ) (h : ∀ c k, (c = 8 ∧ (k = 3 ∨ k = 5 ∨ k = 11 ∨ k = 16) ∨ c = 30 ∨ c = 32 ∨ c = 33 ∨ c = 34 ∨ c = 36 ∨ c = 37 ∨ c = 38) → μ'.1 c 0 0 k = μ.1 c 0 0 k) (h6 : μ'.1 8 0 0 6 = er) (h7 : μ'.1 8 0 0 7 = fl) (h8 : μ'.1 8 0 0 8 = rf) : MI (S.nums rf er fl) μ' := by
  obtain ⟨m1, m2, m3, m4, m5, m6, m7, m8, m9, m10, m11, m12, m13⟩ := M
  exact ⟨fun k hk => (h 30 k (by omega)).trans (m1 k hk), (h 8 5 (by omega)).trans m2, fun j b hj k hk => (h 33 _ (by omega)).trans (m3 j b hj k hk), (h 8 3 (by omega)).trans m4, fun b hb k hk => (h 32 k (by omega)).trans (m5 b hb k hk), h6, h7, h8, (h 8 11 (by omega)).trans m9, fun i hi => (h 34 i (by omega)).trans (m10 i hi), (h 8 16 (by omega)).trans m11, fun k hk => (h 36 k (by omega)).trans (m12 k hk), LT_eq m13 (fun c k hc => h c k (by omega))⟩
theorem s_launch {u : Nat} {S : St8} {μ : fM} (I : SIM u S μ) (hu : u + 12 ≤ 6200) (x : Int32) : ∃ S', AG sL_launch sX8_launch [vR 7 0 0, vI x, vR 40 0 0] [vR 8 0 0, vI x] μ (SIM (u + 12) S') := by
  have m : ∀ ν : fM, ν.1 8 0 0 5 = nI S.l.length → sX8_launch [vR 8 0 0, vI x] (gA ν S.a) = some (.inl (some (vI (mVal (sp 4 S.a x 0 0).1))), gA (mE (mW (gS ν S.a) (sWhy S.a x)) S.l.length (sp 4 S.a x 0 0).1) (sp 4 S.a x 0 0).2) := fun ν h5 => g_launch ν I.ok I.2.2.2.2.2.1 h5 x
  have w0 : sWhy S.a x = 0 → ∀ ν : fM, mW ν (sWhy S.a x) = ν := fun e ν => by unfold mW; rw [if_pos e]
  cases hq : (sp 4 S.a x 0 0).1 with
  | inl t =>
    have c := k_launch0 I.yr I.ok x hq
    have f := sp_fc (by decide) hq
    rw [hq, f.2.2.2.2.1] at m
    rcases t_sLaunch hq with e | e | e
    · subst e
      have z := f.2.2.2.1 (by decide) rfl
      exact ⟨S, AG_mo0 (w_launch0 x c) I hu (by decide) (fun ν h5 => by have := m ν h5; rw [w0 z] at this; exact this)⟩
    · subst e
      have z := f.2.2.2.1 (by decide) rfl
      exact ⟨S, AG_mo0 (w_launch2 x c) I hu (by decide) (fun ν h5 => by have := m ν h5; rw [w0 z] at this; exact this)⟩
    · subst e
      have z := t_why hq
      have w := w_launch3 x c
      have M1 : MI S (fI μ 7 0 0 7 (nI (sWhy S.a x))) := MI_out I.2.1 (fun c y h k hc _ _ _ _ => fI_ne (fun p => by unfold kM at hc; omega))
      have C1 : CI (S.nums (nI (sWhy S.a x)) S.er S.fl) (fI μ 7 0 0 7 (nI (sWhy S.a x))) := CI_nums I.1 (fun c y h k _ hk => fI_ne (fun p => hk (by omega))) (fun _ _ _ => rfl) fI_at ((fI_ne (by omega)).trans I.1.2.2.2.2.2.1) ((fI_ne (by omega)).trans I.1.2.2.2.2.2.2.1)
      have m := m _ M1.2.1
      rw [gA_self M1.1] at m
      refine ⟨S.nums (nI (sWhy S.a x)) S.er S.fl, 3, -1, _, _, w, m, ?_, fun e => absurd e (by decide), ?_⟩
      · exact (gA_ne (by decide)).trans fI_at
      · have e1 : mE (mW (gS (fI μ 7 0 0 7 (nI (sWhy S.a x))) S.a) (sWhy S.a x)) S.l.length (.inl 3) = gT (fI (gS (fI μ 7 0 0 7 (nI (sWhy S.a x))) S.a) 8 0 0 8 (nI (sWhy S.a x))) (nI 3) := by
          show gT (mW _ _) _ = _
          unfold mW
          rw [if_neg z]
        rw [e1]
        have M2 : MI (S.nums (nI (sWhy S.a x)) S.er S.fl) (gT (fI (gS (fI μ 7 0 0 7 (nI (sWhy S.a x))) S.a) 8 0 0 8 (nI (sWhy S.a x))) (nI 3)) := MI_nums (MI_gS M1) (fun c k hc => (fI_ne (by omega)).trans (fI_ne (by omega))) ((fI_ne (by omega)).trans ((fI_ne (by omega)).trans (MI_gS M1).2.2.2.2.2.1)) ((fI_ne (by omega)).trans ((fI_ne (by omega)).trans (MI_gS M1).2.2.2.2.2.2.1)) ((fI_ne (by omega)).trans fI_at)
        rw [gA_self (a := S.a) M2.1]
        have C2 : CI (S.nums (nI (sWhy S.a x)) S.er S.fl) (gT (fI (gS (fI μ 7 0 0 7 (nI (sWhy S.a x))) S.a) 8 0 0 8 (nI (sWhy S.a x))) (nI 3)) := CI_out (CI_gS (S := S) C1) (fun c y h k hc => (fI_ne (fun p => by unfold kC at hc; omega)).trans (fI_ne (fun p => by unfold kC at hc; omega))) (fun _ _ _ => rfl)
        have J : SIM u (S.nums (nI (sWhy S.a x)) S.er S.fl) (gT (fI (gS (fI μ 7 0 0 7 (nI (sWhy S.a x))) S.a) 8 0 0 8 (nI (sWhy S.a x))) (nI 3)) := ⟨C2, M2, I.2.2⟩
        exact J.up (by omega) hu
  | inr v =>
    obtain ⟨μ', c, Y, H, hs⟩ := k_launch I.yr I.ok I.hr (by omega) x hq
    have z := sp_why rfl hq
    rw [hq] at m
    exact ⟨_, AG_mo (w_launch x c) I hu Y H hs (sp_ok I.ok (by omega) (by decide)) (fun ν h5 => by have := m ν h5; rw [w0 z] at this; exact this)⟩
theorem s_type {u : Nat} {S : St8} {μ : fM} (I : SIM u S μ) (x : Int32) (hx : fnar 2 x = x) : ∃ S', AG sL_type sX8_type [vR 7 0 0, vI x, vR 40 0 0] [vR 8 0 0, vI x] μ (SIM u S') := by
  have T := I.ct
  have c := k_type (μ := μ) (n := S.n) x T.1 T.2.1 hx
  have m : ∀ ν : fM, ν.1 8 0 0 11 = nI S.n → _ := fun ν h => g_type ν (a := S.a) (n := S.n) x T.1 h
  cases hq : qType S.n x with
  | inl t =>
    rw [hq] at c m
    have M := I.2.1.2.2.2.2.2.2.2.2.1
    have mm := m μ M
    rw [I.self] at mm
    have tt : t = 1 ∨ t = 2 := by
      unfold qType at hq
      (repeat' split at hq) <;> first | (cases hq; omega) | cases hq
    rcases tt with e | e
    · subst e
      exact ⟨S, 1, -1, _, _, w_type1 x c, mm, (gA_ne (by decide)).trans fI_at, fun e => absurd e (by decide), I.gT⟩
    · subst e
      exact ⟨S, 2, -1, _, _, w_type2 x c, mm, (gA_ne (by decide)).trans fI_at, fun e => absurd e (by decide), I.gT⟩
  | inr v =>
    rw [hq] at c m
    have hv : inR x 32 126 ∧ ¬ S.n = 60 := by
      unfold qType at hq
      by_cases p : inR x 32 126
      · rw [if_pos p] at hq
        by_cases r : S.n = 60
        · rw [if_pos r] at hq; cases hq
        · exact ⟨p, r⟩
      · rw [if_neg p] at hq; cases hq
    have n60 : S.n < 60 := by have := T.1; have := hv.2; omega
    obtain ⟨d, hd1, hd2, rfl⟩ := inR_of (by decide) (by decide) hv.1
    have vv : v = nI (S.n + 1) := by
      unfold qType at hq
      rw [if_pos hv.1, if_neg hv.2] at hq
      cases hq
      rfl
    subst vv
    have w := w_type (nI d) c
    have C1 : CI (S.st (fun i => if i = S.n then d else S.tx i) (S.n + 1)) (fI (fI μ 21 0 0 S.n (nI d)) 3 0 0 1 (nI (S.n + 1))) := by
      obtain ⟨c1, c2, c3, c4, c5, c6, c7, c8, c9, c10⟩ := I.1
      have ne : ∀ c y h k, ¬ c = 21 → ¬ c = 3 → (fI (fI μ 21 0 0 S.n (nI d)) 3 0 0 1 (nI (S.n + 1))).1 c y h k = μ.1 c y h k := fun c y h k q1 q2 => (fI_ne (fun p => q2 p.1)).trans (fI_ne (fun p => q1 p.1))
      have sx : sX' (fun c _ _ _ => c = 21 ∨ c = 3) μ (fI (fI μ 21 0 0 S.n (nI d)) 3 0 0 1 (nI (S.n + 1))) := sX_trans (sX_fI (Or.inl rfl)) (sX_fI (Or.inr rfl))
      have sy : sY (fun c _ => c = 21 ∨ c = 3) μ (fI (fI μ 21 0 0 S.n (nI d)) 3 0 0 1 (nI (S.n + 1))) := sY_ofX sx (fun c y h k p => p)
      refine ⟨YR_sY c1 sy (fun c hc p => by have := hc.1; omega), HR_sY c2 sy (by omega) (fun c y _ hc p => by have := hc.1; omega), (ne 7 0 0 3 (by omega) (by omega)).trans c3, fun b hb => YR_sY (c4 b hb) sy (fun c hc p => by have := hc.1; omega), (ne 7 0 0 7 (by omega) (by omega)).trans c5, (ne 7 0 0 8 (by omega) (by omega)).trans c6, (ne 7 0 0 9 (by omega) (by omega)).trans c7, ⟨by show S.n + 1 ≤ 60; omega, fI_at, fun i hi => ?_⟩, TL_eq c9 (fun y k => ne 51 y 0 k (by omega) (by omega)), TZ_eq c10 (fun i j => ne 28 0 i j (by omega) (by omega))⟩
      have hi : i < S.n + 1 := hi
      show (fI (fI μ 21 0 0 S.n (nI d)) 3 0 0 1 (nI (S.n + 1))).1 21 0 0 i = nI (if i = S.n then d else S.tx i) ∧ (if i = S.n then d else S.tx i) < 128
      rw [fI_ne (by omega)]
      by_cases e : i = S.n
      · rw [if_pos e, e, fI_at]
        exact ⟨rfl, by omega⟩
      · rw [if_neg e, fI_ne (by omega)]
        exact c8.2.2 i (by omega)
    have M1 : MI S (fJ (fI (fI μ 21 0 0 S.n (nI d)) 3 0 0 1 (nI (S.n + 1))) 40 0 0 0 (nI (S.n + 1)).toInt64) := MI_fJ (MI_out I.2.1 (fun c y h k hc _ _ _ _ => (fI_ne (fun p => by unfold kM at hc; omega)).trans (fI_ne (fun p => by unfold kM at hc; omega))))
    have m := m _ M1.2.2.2.2.2.2.2.2.1
    rw [gA_self M1.1] at m
    refine ⟨S.st (fun i => if i = S.n then d else S.tx i) (S.n + 1), 0, nI (S.n + 1), _, _, w, m, ?_, fun _ => fJ_at, ?_⟩
    · rw [gA_ne (by decide)]
      exact (fI_ne (by omega)).trans ((fI_ne (by omega)).trans fI_at)
    · show SIM u _ (gA (fI (fI (gT (fJ (fI (fI μ 21 0 0 S.n (nI d)) 3 0 0 1 (nI (S.n + 1))) 40 0 0 0 (nI (S.n + 1)).toInt64) 0) 34 0 0 S.n (nI d)) 8 0 0 11 (nI (S.n + 1))) S.a)
      generalize hν : fJ (fI (fI μ 21 0 0 S.n (nI d)) 3 0 0 1 (nI (S.n + 1))) 40 0 0 0 (nI (S.n + 1)).toInt64 = ν
      rw [hν] at M1
      have C2 : CI (S.st (fun i => if i = S.n then d else S.tx i) (S.n + 1)) ν := by rw [← hν]; exact CI_fJ C1
      have ne : ∀ c y h k, ¬ (c = 8 ∧ (k = 9 ∨ k = 11)) → ¬ (c = 34 ∧ k = S.n) → (fI (fI (gT ν 0) 34 0 0 S.n (nI d)) 8 0 0 11 (nI (S.n + 1))).1 c y h k = ν.1 c y h k := fun c y h k q1 q2 => (fI_ne (fun p => q1 (by omega))).trans ((fI_ne (fun p => q2 (by omega))).trans (fI_ne (fun p => q1 (by omega))))
      have M2 : MI (S.st (fun i => if i = S.n then d else S.tx i) (S.n + 1)) (fI (fI (gT ν 0) 34 0 0 S.n (nI d)) 8 0 0 11 (nI (S.n + 1))) := by
        obtain ⟨m1, m2, m3, m4, m5, m6, m7, m8, m9, m10, m11, m12, m13⟩ := M1
        refine ⟨fun k hk => (ne 30 _ _ _ (by omega) (by omega)).trans (m1 k hk), (ne 8 _ _ _ (by omega) (by omega)).trans m2, fun j b hj k hk => (ne 33 _ _ _ (by omega) (by omega)).trans (m3 j b hj k hk), (ne 8 _ _ _ (by omega) (by omega)).trans m4, fun b hb k hk => (ne 32 _ _ _ (by omega) (by omega)).trans (m5 b hb k hk), (ne 8 _ _ _ (by omega) (by omega)).trans m6, (ne 8 _ _ _ (by omega) (by omega)).trans m7, (ne 8 _ _ _ (by omega) (by omega)).trans m8, fI_at, fun i hi => ?_, (ne 8 _ _ _ (by omega) (by omega)).trans m11, fun k hk => (ne 36 _ _ _ (by omega) (by omega)).trans (m12 k hk), LT_eq m13 (fun c k hc => ne c 0 0 k (by omega) (by omega))⟩
        have hi : i < S.n + 1 := hi
        show _ = nI (if i = S.n then d else S.tx i)
        rw [fI_ne (by omega)]
        by_cases e : i = S.n
        · rw [if_pos e, e, fI_at]
        · rw [if_neg e, fI_ne (by omega), fI_ne (by omega)]
          exact m10 i (by omega)
      rw [gA_self (a := S.a) M2.1]
      exact ⟨CI_out C2 (fun c y h k hc => ne c y h k (by unfold kC at hc; omega) (by unfold kC at hc; omega)) (fun _ _ _ => rfl), M2, I.2.2⟩
theorem s_undo {u : Nat} {S : St8} {μ : fM} (I : SIM u S μ) : ∃ S', AG sL_undo sX8_undo [vR 7 0 0, vR 40 0 0] [vR 8 0 0] μ (SIM u S') := by
  have H := I.hr
  have h8 := I.2.2.2.2.2.1
  have h5 := I.2.1.2.1
  rcases List.eq_nil_or_concat S.l with e | ⟨l, b, e⟩
  · rw [e] at H h5
    have c := k_undo0 H
    have m := g_undo0 μ (a := S.a) h5
    rw [I.self] at m
    exact ⟨S, 1, -1, _, _, w_undo2 c, m, (gA_ne (by decide)).trans fI_at, fun e => absurd e (by decide), I.gT⟩
  · have e : S.l = l ++ [b] := by rw [e, List.concat_eq_append]
    rw [e] at H h5 h8
    have ll : (l ++ [b]).length = l.length + 1 := by rw [List.length_append]; rfl
    rw [ll] at h5 h8
    have hb : b ∈ S.l := by rw [e]; exact List.mem_append_right _ List.mem_cons_self
    obtain ⟨μ', c, Y', H', hs⟩ := k_undo (I.2.2.2.1 b hb) H
    have w := w_undo c
    have M0 : MI S μ' := MI_out I.2.1 (fun c y h' k hc _ _ _ _ => hs.1 c y h' k (fun p => by
      unfold kM at hc
      rcases p with p | p
      · omega
      · have := p.1; omega))
    have C0 : CI (S.md b l) μ' := by
      obtain ⟨c1, c2, c3, c4, c5, c6, c7, c8, c9, c10⟩ := I.1
      have ne : ∀ c y h' k, (c = 3 ∨ c = 7 ∨ c = 21 ∨ c = 28 ∨ c = 51) → μ'.1 c y h' k = μ.1 c y h' k := fun c y h' k hc => hs.1 c y h' k (fun p => by
        rcases p with p | p
        · omega
        · have := p.1; omega)
      exact ⟨Y', H', (ne 7 _ _ _ (by omega)).trans c3, fun b hb => YR_sY (c4 b hb) hs (fun c hc p => by
        rcases p with p | p
        · have := hc.1; omega
        · have := p.2; omega), (ne 7 _ _ _ (by omega)).trans c5, (ne 7 _ _ _ (by omega)).trans c6, (ne 7 _ _ _ (by omega)).trans c7, CT_out c8 (ne 3 _ _ _ (by omega)) (fun k => ne 21 _ _ _ (by omega)), TL_eq c9 (fun y k => ne 51 _ _ _ (by omega)), TZ_eq c10 (fun i j => ne 28 _ _ _ (by omega))⟩
    have M1 := MI_fJ (v := (nI l.length).toInt64) M0
    have C1 := CI_fJ (v := (nI l.length).toInt64) C0
    have at40 : (fJ μ' 40 0 0 0 (nI l.length).toInt64).2.1 40 0 0 0 = (nI l.length).toInt64 := fJ_at
    revert w M1 C1 at40
    generalize fJ μ' 40 0 0 0 (nI l.length).toInt64 = ν
    intro w M1 C1 at40
    have m := g_undo ν (a := S.a) (b := b) (c := l.length) (by omega) (by rw [M1.2.1, e, ll]) (fun k hk => M1.2.2.1 l.length b (by rw [e, List.getElem?_append_right (Nat.le_refl _), Nat.sub_self]; rfl) k hk)
    rw [gA_self M1.1] at m
    have ne : ∀ c y h k, ¬ (c = 8 ∧ (k = 9 ∨ k = 5)) → ¬ c = 30 → (gA (fI (gT ν 0) 8 0 0 5 (nI l.length)) b).1 c y h k = ν.1 c y h k := fun c y h k q1 q2 => (gA_ne q2).trans ((fI_ne (fun p => q1 (by omega))).trans (fI_ne (fun p => q1 (by omega))))
    refine ⟨S.md b l, 0, nI l.length, _, _, w, m, ?_, fun _ => at40, CI_out C1 (fun c y h k hc => ne c y h k (by unfold kC at hc; omega) (by unfold kC at hc; omega)) (fun _ _ _ => rfl), ?_, I.2.2.2.1 b hb, fun b' hb' => I.2.2.2.1 b' (by rw [e]; exact List.mem_append_left _ hb'), I.2.2.2.2.1, by show l.length ≤ 8; omega, I.2.2.2.2.2.2⟩
    · rw [gA_ne (by decide)]
      exact (fI_ne (by omega)).trans fI_at
    · obtain ⟨m1, m2, m3, m4, m5, m6, m7, m8, m9, m10, m11, m12, m13⟩ := M1
      exact ⟨fun k hk => gA_at' hk, (gA_ne (by decide)).trans fI_at, fun j b' hj k hk => (ne 33 _ _ _ (by omega) (by omega)).trans (m3 j b' (by
        have hj : l[j]? = some b' := hj
        rw [e, List.getElem?_append_left (List.getElem?_eq_some_iff.mp hj).1, hj]) k hk), (ne 8 _ _ _ (by omega) (by omega)).trans m4, fun b hb k hk => (ne 32 _ _ _ (by omega) (by omega)).trans (m5 b hb k hk), (ne 8 _ _ _ (by omega) (by omega)).trans m6, (ne 8 _ _ _ (by omega) (by omega)).trans m7, (ne 8 _ _ _ (by omega) (by omega)).trans m8, (ne 8 _ _ _ (by omega) (by omega)).trans m9, fun i hi => (ne 34 _ _ _ (by omega) (by omega)).trans (m10 i hi), (ne 8 _ _ _ (by omega) (by omega)).trans m11, fun k hk => (ne 36 _ _ _ (by omega) (by omega)).trans (m12 k hk), LT_eq m13 (fun c k hc => ne c 0 0 k (by omega) (by omega))⟩
theorem s_restore {u : Nat} {S : St8} {μ : fM} (I : SIM u S μ) : ∃ S', AG sL_restore sX8_restore [vR 7 0 0, vR 40 0 0] [vR 8 0 0] μ (SIM u S') := by
  have h3 := I.1.2.2.1
  have g3 := I.2.1.2.2.2.1
  cases e : S.sv with
  | none =>
    rw [e] at h3 g3
    have c := k_restore0 (μ := μ) h3
    have m := g_restore0 μ (a := S.a) g3
    rw [I.self] at m
    exact ⟨S, 1, -1, _, _, w_restore2 c, m, (gA_ne (by decide)).trans fI_at, fun e => absurd e (by decide), I.gT⟩
  | some b =>
    rw [e] at h3
    obtain ⟨μ', c, Y', hs⟩ := k_restore h3 (I.1.2.2.2.1 b e) (I.2.2.2.2.1 b e)
    have w := w_restore c
    have M0 : MI S (fI μ' 0 0 0 2 0) := MI_out I.2.1 (fun c y h' k hc _ _ _ _ => (fI_ne (fun p => by unfold kM at hc; omega)).trans (hs.1 c y h' k (fun p => by
      unfold kM at hc
      have := p.1; omega)))
    have C0 : CI (S.md b []) (fI μ' 0 0 0 2 0) := by
      obtain ⟨c1, c2, c3, c4, c5, c6, c7, c8, c9, c10⟩ := I.1
      have sx : sX' (fun c _ _ _ => c = 0) μ' (fI μ' 0 0 0 2 0) := sX_fI rfl
      have sy : sY (fun c _ => c = 0) μ' (fI μ' 0 0 0 2 0) := sY_ofX sx (fun c y h k p => p)
      have ne : ∀ c y h' k, (c = 3 ∨ c = 7 ∨ c = 21 ∨ c = 28 ∨ c = 51) → (fI μ' 0 0 0 2 0).1 c y h' k = μ.1 c y h' k := fun c y h' k hc => (fI_ne (by omega)).trans (hs.1 c y h' k (fun p => by
        have := p.1; omega))
      obtain ⟨o, ho, hl, e1, e2, hP⟩ := c2
      exact ⟨YR_sY Y' sy (fun c hc p => by have := hc.1; omega), ⟨o, ho, Nat.zero_le _, (fI_ne (by omega)).trans ((hs.1 0 0 0 1 (fun p => by have := p.1; omega)).trans e1), fI_at, fun i b hi => by cases hi⟩, (ne 7 _ _ _ (by omega)).trans c3, fun b hb => YR_sY (YR_sY (c4 b hb) hs (fun c hc p => by have := p.2; omega)) sy (fun c hc p => by have := hc.1; omega), (ne 7 _ _ _ (by omega)).trans c5, (ne 7 _ _ _ (by omega)).trans c6, (ne 7 _ _ _ (by omega)).trans c7, CT_out c8 (ne 3 _ _ _ (by omega)) (fun k => ne 21 _ _ _ (by omega)), TL_eq c9 (fun y k => ne 51 _ _ _ (by omega)), TZ_eq c10 (fun i j => ne 28 _ _ _ (by omega))⟩
    have M1 := MI_fJ (v := (nI (b 1)).toInt64) M0
    have C1 := CI_fJ (v := (nI (b 1)).toInt64) C0
    have at40 : (fJ (fI μ' 0 0 0 2 0) 40 0 0 0 (nI (b 1)).toInt64).2.1 40 0 0 0 = (nI (b 1)).toInt64 := fJ_at
    revert w M1 C1 at40
    generalize fJ (fI μ' 0 0 0 2 0) 40 0 0 0 (nI (b 1)).toInt64 = ν
    intro w M1 C1 at40
    have f3 := M1.2.2.2.1
    rw [e] at f3
    have m := g_restore ν (a := S.a) (b := b) f3 (fun k hk => M1.2.2.2.2.1 b e k hk)
    rw [gA_self M1.1] at m
    have ne : ∀ c y h k, ¬ (c = 8 ∧ (k = 9 ∨ k = 5)) → ¬ c = 30 → (gA (fI (gT ν 0) 8 0 0 5 0) b).1 c y h k = ν.1 c y h k := fun c y h k q1 q2 => (gA_ne q2).trans ((fI_ne (fun p => q1 (by omega))).trans (fI_ne (fun p => q1 (by omega))))
    refine ⟨S.md b [], 0, nI (b 1), _, _, w, m, ?_, fun _ => at40, CI_out C1 (fun c y h k hc => ne c y h k (by unfold kC at hc; omega) (by unfold kC at hc; omega)) (fun _ _ _ => rfl), ?_, I.2.2.2.2.1 b e, fun b' hb' => (List.not_mem_nil hb').elim, I.2.2.2.2.1, Nat.zero_le _, I.2.2.2.2.2.2⟩
    · rw [gA_ne (by decide)]
      exact (fI_ne (by omega)).trans fI_at
    · obtain ⟨m1, m2, m3, m4, m5, m6, m7, m8, m9, m10, m11, m12, m13⟩ := M1
      exact ⟨fun k hk => gA_at' hk, (gA_ne (by decide)).trans fI_at, fun j b' hj k hk => (by cases hj), (ne 8 _ _ _ (by omega) (by omega)).trans m4, fun b hb k hk => (ne 32 _ _ _ (by omega) (by omega)).trans (m5 b hb k hk), (ne 8 _ _ _ (by omega) (by omega)).trans m6, (ne 8 _ _ _ (by omega) (by omega)).trans m7, (ne 8 _ _ _ (by omega) (by omega)).trans m8, (ne 8 _ _ _ (by omega) (by omega)).trans m9, fun i hi => (ne 34 _ _ _ (by omega) (by omega)).trans (m10 i hi), (ne 8 _ _ _ (by omega) (by omega)).trans m11, fun k hk => (ne 36 _ _ _ (by omega) (by omega)).trans (m12 k hk), LT_eq m13 (fun c k hc => ne c 0 0 k (by omega) (by omega))⟩
theorem s_save {u : Nat} {S : St8} {μ : fM} (I : SIM u S μ) : ∃ S', AG0 sX7_save sX8_save [vR 7 0 0] [vR 8 0 0] μ (SIM u S') := by
  obtain ⟨μ', c, Y', hs⟩ := k_save I.yr I.ok
  have M0 : MI S (fI μ' 7 0 0 3 1) := MI_out I.2.1 (fun c y h' k hc _ _ _ _ => (fI_ne (fun p => by unfold kM at hc; omega)).trans (hs.1 c y h' k (fun p => by
    unfold kM at hc
    have := p.1; omega)))
  have C0 : CI (S.keep S.a) (fI μ' 7 0 0 3 1) := by
    obtain ⟨c1, c2, c3, c4, c5, c6, c7, c8, c9, c10⟩ := I.1
    have sx : sX' (fun c _ _ _ => c = 7) μ' (fI μ' 7 0 0 3 1) := sX_fI rfl
    have sy : sY (fun c _ => c = 7) μ' (fI μ' 7 0 0 3 1) := sY_ofX sx (fun c y h k p => p)
    have ne : ∀ c y h' k, (c = 3 ∨ (c = 7 ∧ k ≠ 3) ∨ c = 21 ∨ c = 28 ∨ c = 51) → (fI μ' 7 0 0 3 1).1 c y h' k = μ.1 c y h' k := fun c y h' k hc => (fI_ne (by omega)).trans (hs.1 c y h' k (fun p => by
      have := p.1; omega))
    exact ⟨YR_sY (YR_sY c1 hs (fun c hc p => by have := p.2; omega)) sy (fun c hc p => by have := hc.1; omega), HR_sY (HR_sY c2 hs (fun p => by have := p.1; omega) (fun c y hy hc p => by have := p.2; omega)) sy (by omega) (fun c y hy hc p => by have := hc.1; omega), fI_at, fun b hb => by
      cases hb
      exact YR_sY Y' sy (fun c hc p => by have := hc.1; omega), (ne 7 _ _ _ (by omega)).trans c5, (ne 7 _ _ _ (by omega)).trans c6, (ne 7 _ _ _ (by omega)).trans c7, CT_out c8 (ne 3 _ _ _ (by omega)) (fun k => ne 21 _ _ _ (by omega)), TL_eq c9 (fun y k => ne 51 _ _ _ (by omega)), TZ_eq c10 (fun i j => ne 28 _ _ _ (by omega))⟩
  revert c M0 C0
  generalize fI μ' 7 0 0 3 1 = ν
  intro c M1 C1
  have m := g_save ν (a := S.a)
  rw [gA_self M1.1] at m
  have ne : ∀ c y h k, ¬ (c = 8 ∧ (k = 9 ∨ k = 3)) → ¬ c = 30 → ¬ c = 32 → (gA (fI (hO 32 0 213 (gT ν 0) (fun i => nI (S.a i))) 8 0 0 3 1) S.a).1 c y h k = ν.1 c y h k := fun c y h k q1 q2 q3 => (gA_ne q2).trans ((fI_ne (fun p => q1 (by omega))).trans ((hO_ne q3).trans (fI_ne (fun p => q1 (by omega)))))
  refine ⟨S.keep S.a, _, _, _, c, m, CI_out C1 (fun c y h k hc => ne c y h k (by unfold kC at hc; omega) (by unfold kC at hc; omega) (by unfold kC at hc; omega)) (fun _ _ _ => rfl), ?_, I.2.2.1, I.2.2.2.1, fun b hb => by cases hb; exact I.2.2.1, I.2.2.2.2.2⟩
  obtain ⟨m1, m2, m3, m4, m5, m6, m7, m8, m9, m10, m11, m12, m13⟩ := M1
  exact ⟨fun k hk => gA_at' hk, (ne 8 _ _ _ (by omega) (by omega) (by omega)).trans m2, fun j b' hj k hk => (ne 33 _ _ _ (by omega) (by omega) (by omega)).trans (m3 j b' hj k hk), (gA_ne (by decide)).trans fI_at, fun b hb k hk => by
    cases hb
    exact (gA_ne (by decide)).trans ((fI_ne (by omega)).trans (hO_in (Nat.zero_le _) (by omega))), (ne 8 _ _ _ (by omega) (by omega) (by omega)).trans m6, (ne 8 _ _ _ (by omega) (by omega) (by omega)).trans m7, (ne 8 _ _ _ (by omega) (by omega) (by omega)).trans m8, (ne 8 _ _ _ (by omega) (by omega) (by omega)).trans m9, fun i hi => (ne 34 _ _ _ (by omega) (by omega) (by omega)).trans (m10 i hi), (ne 8 _ _ _ (by omega) (by omega) (by omega)).trans m11, fun k hk => (ne 36 _ _ _ (by omega) (by omega) (by omega)).trans (m12 k hk), LT_eq m13 (fun c k hc => ne c 0 0 k (by omega) (by omega) (by omega))⟩
