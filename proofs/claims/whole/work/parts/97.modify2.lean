/-! CALLS THAT CHANGE THE YARD -/
theorem OKA.up {u v : Nat} {a : Nat → Nat} (O : OKA u a) (h : u ≤ v) (hv : v ≤ 6200) : OKA v a := by
  obtain ⟨o1, o2, o3, o4, o5, o6, o7, o8, o9, o10, o11, o12, o13, o14, o15, o16, o17, o18⟩ := O
  exact ⟨hv, o2, by omega, o4, by omega, by omega, o7, o8, o9, o10, o11, o12, o13, o14, fun k hk => Nat.le_trans (o15 k hk) h, o16, o17, o18⟩
theorem SIM.up {u v : Nat} {S : St8} {μ : fM} (I : SIM u S μ) (h : u ≤ v) (hv : v ≤ 6200) : SIM v S μ :=
  ⟨I.1, I.2.1, I.2.2.1.up h hv, fun b hb => (I.2.2.2.1 b hb).up h hv, fun b hb => (I.2.2.2.2.1 b hb).up h hv, I.2.2.2.2.2⟩
def St8.md (S : St8) (a : Nat → Nat) (l : List (Nat → Nat)) : St8 := (a, l, S.2.2)
theorem SIM_gS {μ : fM} {u : Nat} {S : St8} (I : SIM u S μ) : SIM u S (gS μ S.a) := SIM_m (SIM_gT (v := 0) I) (fun c y h k _ q _ _ _ => hO_ne q) (fun _ _ _ => rfl)
theorem gShf_ne {μ : fM} {C y h k : Nat} (q : ¬ C = 33) (q2 : ¬ (C = 8 ∧ k = 5)) : (gShf μ).1 C y h k = μ.1 C y h k := by
  unfold gShf
  rw [fI_ne (fun p => q2 ⟨p.1, p.2.1⟩), hO_ne q]
theorem gChg_ne {μ : fM} {c C y h k : Nat} (q : ¬ C = 33) (q2 : ¬ (C = 8 ∧ k = 5)) : (gChg μ c).1 C y h k = μ.1 C y h k := by
  unfold gChg
  rw [fI_ne (fun p => q2 ⟨p.1, p.2.1⟩), hO_ne q]
theorem gKeep_ne {μ : fM} {c C y h k : Nat} (q : ¬ C = 33) (q2 : ¬ (C = 8 ∧ k = 5)) : (gKeep μ c).1 C y h k = μ.1 C y h k := by
  unfold gKeep
  by_cases e : c = 8
  · rw [if_pos e, gChg_ne q q2, gShf_ne q q2]
  · rw [if_neg e, gChg_ne q q2]
theorem gKeep_2 {μ : fM} {c : Nat} : (gKeep μ c).2 = μ.2 := by
  unfold gKeep
  split <;> rfl
/-- what the model keeps of the past -/
theorem gKeep_kp {μ : fM} {a : Nat → Nat} {l : List (Nat → Nat)} (hl : l.length ≤ 8) (h31 : ∀ k, k < 213 → μ.1 31 0 0 k = nI (a k)) (h33 : ∀ j b, l[j]? = some b → ∀ k, k < 213 → μ.1 33 0 0 (213 * j + k) = nI (b k)) : (gKeep μ l.length).1 8 0 0 5 = nI (kp l a).length ∧ ∀ j b, (kp l a)[j]? = some b → ∀ k, k < 213 → (gKeep μ l.length).1 33 0 0 (213 * j + k) = nI (b k) := by
  have chg : ∀ (ν : fM) c j k, k < 213 → (gChg ν c).1 33 0 0 (213 * j + k) = if j = c then ν.1 31 0 0 k else ν.1 33 0 0 (213 * j + k) := fun ν c j k hk => by
    unfold gChg
    rw [fI_ne (by omega)]
    by_cases e : j = c
    · subst e
      rw [if_pos rfl, hO_in (by omega) (by omega), show 213 * j + k - 213 * j = k from by omega]
    · rw [if_neg e, hO_out (by omega)]
  have shf : ∀ (ν : fM) j k, j < 7 → k < 213 → (gShf ν).1 33 0 0 (213 * j + k) = ν.1 33 0 0 (213 * (j + 1) + k) := fun ν j k hj hk => by
    unfold gShf
    rw [fI_ne (by omega), hO_in (by omega) (by omega), show 213 * j + k + 213 = 213 * (j + 1) + k from by omega]
  have kl := kp_len (l := l) (a := a) hl
  unfold gKeep
  by_cases e : l.length = 8
  · rw [if_pos e, kl, if_pos e]
    refine ⟨fI_at, fun j b hj k hk => ?_⟩
    rw [chg _ 7 j k hk]
    unfold kp at hj
    rw [if_pos e] at hj
    have tl : l.tail.length = 7 := by rw [List.length_tail, e]
    by_cases j7 : j = 7
    · subst j7
      rw [if_pos rfl, gShf_ne (by omega) (by omega), h31 k hk]
      rw [List.getElem?_append_right (by omega), tl] at hj
      cases hj
      rfl
    · rw [if_neg j7]
      have jl : j < 7 := by
        have := (List.getElem?_eq_some_iff.mp hj).1
        rw [List.length_append, tl] at this
        have this : j < 7 + 1 := this
        omega
      rw [shf _ j k jl hk]
      rw [List.getElem?_append_left (by omega), List.getElem?_tail] at hj
      exact h33 (j + 1) b hj k hk
  · rw [if_neg e, kl, if_neg e]
    refine ⟨fI_at, fun j b hj k hk => ?_⟩
    rw [chg _ _ j k hk]
    unfold kp at hj
    rw [if_neg e] at hj
    by_cases jl : j = l.length
    · subst jl
      rw [if_pos rfl, h31 k hk]
      rw [List.getElem?_append_right (Nat.le_refl _), Nat.sub_self] at hj
      cases hj
      rfl
    · rw [if_neg jl]
      have j2 : j < l.length := by
        have := (List.getElem?_eq_some_iff.mp hj).1
        rw [List.length_append] at this
        have this : j < l.length + 1 := this
        omega
      rw [List.getElem?_append_left j2] at hj
      exact h33 j b hj k hk
theorem SO_md {u : Nat} {S : St8} {a : Nat → Nat} (O : SO u S) (hu : u + 12 ≤ 6200) (O' : OKA (u + 12) a) : SO (u + 12) (S.md a (kp S.l S.a)) := by
  obtain ⟨o1, o2, o3, o4, o5⟩ := O
  refine ⟨O', fun b hb => ?_, fun b hb => (o3 b hb).up (by omega) hu, ?_, o5⟩
  · have hb : b ∈ kp S.l S.a := hb
    unfold kp at hb
    split at hb
    · rcases List.mem_append.mp hb with h | h
      · exact (o2 b (List.mem_of_mem_tail h)).up (by omega) hu
      · rw [List.mem_singleton.mp h]; exact o1.up (by omega) hu
    · rcases List.mem_append.mp hb with h | h
      · exact (o2 b h).up (by omega) hu
      · rw [List.mem_singleton.mp h]; exact o1.up (by omega) hu
  · show (kp S.l S.a).length ≤ 8
    rw [kp_len o4]
    split <;> omega
/-- the model's side of a change that is kept: ν is what the model had before it kept it -/
theorem SIM_kp {u : Nat} {S S' : St8} {ν : fM} {a : Nat → Nat} (C : CI S' ν) (M : MIt S ν) (h31 : ∀ k, k < 213 → ν.1 31 0 0 k = nI (S.a k)) (h8 : S.l.length ≤ 8) (e : S' = S.md a (kp S.l S.a)) (O : SO u S') : SIM u S' (gA (gKeep ν S.l.length) a) := by
  have K := gKeep_kp (a := S.a) h8 h31 M.2.1
  have ne : ∀ C y h k, ¬ C = 30 → ¬ C = 33 → ¬ (C = 8 ∧ k = 5) → (gA (gKeep ν S.l.length) a).1 C y h k = ν.1 C y h k := fun C y h k q1 q2 q3 => by rw [gA_ne q1, gKeep_ne q2 q3]
  subst e
  refine ⟨CI_out C (fun c y h k hc => ne c y h k (by unfold kC at hc; omega) (by unfold kC at hc; omega) (by unfold kC at hc; omega)) (fun y h k => by show (gKeep ν S.l.length).2.1 6 y h k = _; rw [gKeep_2]), ?_, O⟩
  obtain ⟨m2, m3, m4, m5, m6, m7, m8, m9, m10, m11, m12, m13⟩ := M
  exact ⟨fun k hk => gA_at' hk, (gA_ne (by decide)).trans K.1, fun j b hj k hk => (gA_ne (by decide)).trans (K.2 j b hj k hk), (ne 8 _ _ _ (by omega) (by omega) (by omega)).trans m4, fun b hb k hk => (ne 32 _ _ _ (by omega) (by omega) (by omega)).trans (m5 b hb k hk), (ne 8 _ _ _ (by omega) (by omega) (by omega)).trans m6, (ne 8 _ _ _ (by omega) (by omega) (by omega)).trans m7, (ne 8 _ _ _ (by omega) (by omega) (by omega)).trans m8, (ne 8 _ _ _ (by omega) (by omega) (by omega)).trans m9, fun i hi => (ne 34 _ _ _ (by omega) (by omega) (by omega)).trans (m10 i hi), (ne 8 _ _ _ (by omega) (by omega) (by omega)).trans m11, fun k hk => (ne 36 _ _ _ (by omega) (by omega) (by omega)).trans (m12 k hk), LT_eq m13 (fun c k hc => ne c 0 0 k (by omega) (by omega) (by omega))⟩
/-- the class's side -/
theorem CI_mo {S : St8} {μ μ' : fM} {a : Nat → Nat} (C : CI S μ) (Y : YR μ' 0 a) (H : HR μ' (kp S.l S.a)) (h : sY moP μ μ') : CI (S.md a (kp S.l S.a)) μ' := by
  obtain ⟨c1, c2, c3, c4, c5, c6, c7, c8, c9, c10⟩ := C
  have ne : ∀ c y h' k, (c = 3 ∨ c = 7 ∨ c = 21 ∨ c = 28 ∨ c = 51) → μ'.1 c y h' k = μ.1 c y h' k := fun c y h' k hc => h.1 c y h' k (fun p => by
    rcases p with (p | ⟨_, p⟩) | p
    · omega
    · have := p.1; omega
    · have := p.1; omega)
  exact ⟨Y, H, (ne 7 _ _ _ (by omega)).trans c3, fun b hb => YR_sY (c4 b hb) h (fun c hc p => by
    rcases p with (p | ⟨p, _⟩) | p
    · have := hc.1; omega
    · omega
    · have := p.2; omega), (ne 7 _ _ _ (by omega)).trans c5, (ne 7 _ _ _ (by omega)).trans c6, (ne 7 _ _ _ (by omega)).trans c7, CT_out c8 (ne 3 _ _ _ (by omega)) (fun k => ne 21 _ _ _ (by omega)), TL_eq c9 (fun y k => ne 51 _ _ _ (by omega)), TZ_eq c10 (fun i j => ne 28 _ _ _ (by omega))⟩
theorem MI_mo {S : St8} {μ μ' : fM} (M : MI S μ) (h : sY moP μ μ') : MI S μ' := MI_out M (fun c y h' k hc _ _ _ _ => h.1 c y h' k (fun p => by
  unfold kM at hc
  rcases p with (p | ⟨_, p⟩) | p
  · omega
  · have := p.1; omega
  · have := p.1; omega))
theorem MI_fJ {S : St8} {μ : fM} {v : Int64} (M : MI S μ) : MI S (fJ μ 40 0 0 0 v) := MI_out M (fun _ _ _ _ _ _ _ _ _ => rfl)
theorem CI_fJ {S : St8} {μ : fM} {v : Int64} (C : CI S μ) : CI S (fJ μ 40 0 0 0 v) := CI_out C (fun _ _ _ _ _ => rfl) (fun y h k => by show (if 6 = 40 ∧ k = 0 ∧ y = 0 ∧ h = 0 then v else μ.2.1 6 y h k) = _; rw [if_neg (by omega)])
theorem gS_31 {μ : fM} {a : Nat → Nat} {k : Nat} (hk : k < 213) : (gS μ a).1 31 0 0 k = nI (a k) := hO_in (Nat.zero_le _) (by omega)
theorem MI_gS {S : St8} {μ : fM} (M : MI S μ) : MI S (gS μ S.a) := MI_out M (fun c y h k _ q1 q2 _ _ => (hO_ne q2).trans (fI_ne (fun p => q1 (by omega))))
theorem CI_gS {S S2 : St8} {μ : fM} (C : CI S2 μ) : CI S2 (gS μ S.a) := CI_out C (fun c y h k hc => (hO_ne (by unfold kC at hc; omega)).trans (fI_ne (fun p => by unfold kC at hc; omega))) (fun _ _ _ => rfl)
theorem AG_mo {sw sm : fS} {aw am : List fV} {μ μ' : fM} {u : Nat} {S : St8} {v : Int32} {a' : Nat → Nat} (hw : sw aw μ = some (.inl (some (vI 0)), fJ μ' 40 0 0 0 v.toInt64)) (I : SIM u S μ) (hu : u + 12 ≤ 6200) (Y : YR μ' 0 a') (H : HR μ' (kp S.l S.a)) (hs : sY moP μ μ') (O' : OKA (u + 1) a')
    (hm : ∀ ν, ν.1 8 0 0 5 = nI S.l.length → sm am (gA ν S.a) = some (.inl (some (vI v)), gA (gKeep (gS ν S.a) S.l.length) a')) : AG sw sm aw am μ (SIM (u + 12) (S.md a' (kp S.l S.a))) := by
  have C := CI_fJ (v := v.toInt64) (CI_mo I.1 Y H hs)
  have M := MI_fJ (v := v.toInt64) (MI_mo I.2.1 hs)
  have m := hm (fJ μ' 40 0 0 0 v.toInt64) M.2.1
  rw [gA_self M.1] at m
  refine ⟨0, v, _, _, hw, m, ?_, fun _ => ?_, SIM_kp (CI_gS C) (MI_gS M).2 (fun k hk => gS_31 hk) I.2.2.2.2.2.1 rfl (SO_md I.2.2 hu (O'.up (by omega) hu))⟩
  · rw [gA_ne (by decide), gKeep_ne (by decide) (by decide), hO_ne (by decide), fI_at]
  · show (gKeep (gS (fJ μ' 40 0 0 0 v.toInt64) S.a) S.l.length).2.1 40 0 0 0 = _
    rw [gKeep_2]
    exact fJ_at
theorem AG_mo0 {sw sm : fS} {aw am : List fV} {μ : fM} {u : Nat} {S : St8} {k b : Int32} (hw : sw aw μ = some (.inl (some (vI k)), μ)) (I : SIM u S μ) (hu : u + 12 ≤ 6200) (hk : k ≠ 0)
    (hm : ∀ ν, ν.1 8 0 0 5 = nI S.l.length → sm am (gA ν S.a) = some (.inl (some (vI b)), gA (gT (gS ν S.a) k) S.a)) : AG sw sm aw am μ (SIM (u + 12) S) := by
  have m := hm μ I.2.1.2.1
  rw [I.self] at m
  exact ⟨k, b, _, _, hw, m, rfl, fun e => absurd e hk, ((SIM_gS I).gT).up (by omega) hu⟩
theorem mk_sp {a : Nat → Nat} {r : qR × (Nat → Nat)} {t : Nat} (h1 : r.1 = .inl t) (h2 : r.2 = a) : r = (.inl t, a) := by rw [← h1, ← h2]

theorem t_sHull {a : Nat → Nat} {t : Nat} (h : (sHull a).1 = .inl t) : t = 1 := by
  unfold sHull at h
  (repeat' split at h) <;> first | (cases h; omega) | cases h
theorem s_beginHull {u : Nat} {S : St8} {μ : fM} (I : SIM u S μ) (hu : u + 12 ≤ 6200) : ∃ S', AG sL_beginHull sX8_beginHull [vR 7 0 0, vR 40 0 0] [vR 8 0 0] μ (SIM (u + 12) S') := by
  have m : ∀ ν : fM, ν.1 8 0 0 5 = nI S.l.length → sX8_beginHull [vR 8 0 0] (gA ν S.a) = some (.inl (some (vI (mVal (sp 0 S.a 0 0 0).1))), gA (mE (gS ν S.a) S.l.length (sp 0 S.a 0 0 0).1) (sp 0 S.a 0 0 0).2) := fun ν h5 => g_beginHull ν I.ok I.2.2.2.2.2.1 h5 
  cases hq : (sp 0 S.a 0 0 0).1 with
  | inl t =>
    have c := k_beginHull0 I.yr I.ok  hq
    have f := (sp_fc (by decide) hq).2.2.2.2.1
    rw [hq, f] at m
    rcases t_sHull hq with e
    · subst e
      exact ⟨S, AG_mo0 (w_beginHull2  c) I hu (by decide) m⟩
  | inr v =>
    obtain ⟨μ', c, Y, H, hs⟩ := k_beginHull I.yr I.ok I.hr (by omega)  hq
    rw [hq] at m
    exact ⟨_, AG_mo (w_beginHull  c) I hu Y H hs (sp_ok I.ok (by omega) (by decide)) m⟩
theorem t_sFrame {a : Nat → Nat} {x y z : Int32} {t : Nat} (h : (sFrame a x y z).1 = .inl t) : t = 1 ∨ t = 2 ∨ t = 3 := by
  unfold sFrame at h
  (repeat' split at h) <;> first | (cases h; omega) | cases h
theorem s_addFrame {u : Nat} {S : St8} {μ : fM} (I : SIM u S μ) (hu : u + 12 ≤ 6200) (x y z : Int32) : ∃ S', AG sL_addFrame sX8_addFrame [vR 7 0 0, vI x, vI y, vI z, vR 40 0 0] [vR 8 0 0, vI x, vI y, vI z] μ (SIM (u + 12) S') := by
  have m : ∀ ν : fM, ν.1 8 0 0 5 = nI S.l.length → sX8_addFrame [vR 8 0 0, vI x, vI y, vI z] (gA ν S.a) = some (.inl (some (vI (mVal (sp 1 S.a x y z).1))), gA (mE (gS ν S.a) S.l.length (sp 1 S.a x y z).1) (sp 1 S.a x y z).2) := fun ν h5 => g_addFrame ν I.ok I.2.2.2.2.2.1 h5 x y z
  cases hq : (sp 1 S.a x y z).1 with
  | inl t =>
    have c := k_addFrame0 I.yr I.ok x y z hq
    have f := (sp_fc (by decide) hq).2.2.2.2.1
    rw [hq, f] at m
    rcases t_sFrame hq with e | e | e
    · subst e
      exact ⟨S, AG_mo0 (w_addFrame0 x y z c) I hu (by decide) m⟩
    · subst e
      exact ⟨S, AG_mo0 (w_addFrame1 x y z c) I hu (by decide) m⟩
    · subst e
      exact ⟨S, AG_mo0 (w_addFrame2 x y z c) I hu (by decide) m⟩
  | inr v =>
    obtain ⟨μ', c, Y, H, hs⟩ := k_addFrame I.yr I.ok I.hr (by omega) x y z hq
    rw [hq] at m
    exact ⟨_, AG_mo (w_addFrame x y z c) I hu Y H hs (sp_ok I.ok (by omega) (by decide)) m⟩
theorem t_sMirror {a : Nat → Nat} {x : Int32} {t : Nat} (h : (sMirror a x).1 = .inl t) : t = 1 ∨ t = 2 := by
  unfold sMirror at h
  split at h
  · split at h
    · obtain ⟨v, hv⟩ := sMir_in (h := xN x) (j := hF a (xN x)) (k := 0) (n := 0) (a := a)
      rw [hv] at h
      cases h
    · cases h; omega
  · cases h; omega
theorem s_mirror {u : Nat} {S : St8} {μ : fM} (I : SIM u S μ) (hu : u + 12 ≤ 6200) (x : Int32) : ∃ S', AG sL_mirror sX8_mirror [vR 7 0 0, vI x, vR 40 0 0] [vR 8 0 0, vI x] μ (SIM (u + 12) S') := by
  have m : ∀ ν : fM, ν.1 8 0 0 5 = nI S.l.length → sX8_mirror [vR 8 0 0, vI x] (gA ν S.a) = some (.inl (some (vI (mVal (sp 2 S.a x 0 0).1))), gA (mE (gS ν S.a) S.l.length (sp 2 S.a x 0 0).1) (sp 2 S.a x 0 0).2) := fun ν h5 => g_mirror ν I.ok I.2.2.2.2.2.1 h5 x
  cases hq : (sp 2 S.a x 0 0).1 with
  | inl t =>
    have c := k_mirror0 I.yr I.ok x hq
    have f := (sp_fc (by decide) hq).2.2.2.2.1
    rw [hq, f] at m
    rcases t_sMirror hq with e | e
    · subst e
      exact ⟨S, AG_mo0 (w_mirror0 x c) I hu (by decide) m⟩
    · subst e
      exact ⟨S, AG_mo0 (w_mirror2 x c) I hu (by decide) m⟩
  | inr v =>
    obtain ⟨μ', c, Y, H, hs⟩ := k_mirror I.yr I.ok I.hr (by omega) x hq
    rw [hq] at m
    exact ⟨_, AG_mo (w_mirror x c) I hu Y H hs (sp_ok I.ok (by omega) (by decide)) m⟩
theorem t_sCargo {a : Nat → Nat} {x y : Int32} {t : Nat} (h : (sCargo a x y).1 = .inl t) : t = 1 ∨ t = 2 ∨ t = 3 := by
  unfold sCargo at h
  (repeat' split at h) <;> first | (cases h; omega) | cases h
theorem s_setCargo {u : Nat} {S : St8} {μ : fM} (I : SIM u S μ) (hu : u + 12 ≤ 6200) (x y : Int32) : ∃ S', AG sL_setCargo sX8_setCargo [vR 7 0 0, vI x, vI y, vR 40 0 0] [vR 8 0 0, vI x, vI y] μ (SIM (u + 12) S') := by
  have m : ∀ ν : fM, ν.1 8 0 0 5 = nI S.l.length → sX8_setCargo [vR 8 0 0, vI x, vI y] (gA ν S.a) = some (.inl (some (vI (mVal (sp 3 S.a x y 0).1))), gA (mE (gS ν S.a) S.l.length (sp 3 S.a x y 0).1) (sp 3 S.a x y 0).2) := fun ν h5 => g_setCargo ν I.ok I.2.2.2.2.2.1 h5 x y
  cases hq : (sp 3 S.a x y 0).1 with
  | inl t =>
    have c := k_setCargo0 I.yr I.ok x y hq
    have f := (sp_fc (by decide) hq).2.2.2.2.1
    rw [hq, f] at m
    rcases t_sCargo hq with e | e | e
    · subst e
      exact ⟨S, AG_mo0 (w_setCargo0 x y c) I hu (by decide) m⟩
    · subst e
      exact ⟨S, AG_mo0 (w_setCargo1 x y c) I hu (by decide) m⟩
    · subst e
      exact ⟨S, AG_mo0 (w_setCargo2 x y c) I hu (by decide) m⟩
  | inr v =>
    obtain ⟨μ', c, Y, H, hs⟩ := k_setCargo I.yr I.ok I.hr (by omega) x y hq
    rw [hq] at m
    exact ⟨_, AG_mo (w_setCargo x y c) I hu Y H hs (sp_ok I.ok (by omega) (by decide)) m⟩
theorem t_sCaulk {a : Nat → Nat} {x y : Int32} {t : Nat} (h : (sCaulk a x y).1 = .inl t) : t = 1 ∨ t = 2 := by
  unfold sCaulk at h
  (repeat' split at h) <;> first | (cases h; omega) | cases h
theorem s_caulk {u : Nat} {S : St8} {μ : fM} (I : SIM u S μ) (hu : u + 12 ≤ 6200) (x y : Int32) : ∃ S', AG sL_caulk sX8_caulk [vR 7 0 0, vI x, vI y, vR 40 0 0] [vR 8 0 0, vI x, vI y] μ (SIM (u + 12) S') := by
  have m : ∀ ν : fM, ν.1 8 0 0 5 = nI S.l.length → sX8_caulk [vR 8 0 0, vI x, vI y] (gA ν S.a) = some (.inl (some (vI (mVal (sp 5 S.a x y 0).1))), gA (mE (gS ν S.a) S.l.length (sp 5 S.a x y 0).1) (sp 5 S.a x y 0).2) := fun ν h5 => g_caulk ν I.ok I.2.2.2.2.2.1 h5 x y
  cases hq : (sp 5 S.a x y 0).1 with
  | inl t =>
    have c := k_caulk0 I.yr I.ok x y hq
    have f := (sp_fc (by decide) hq).2.2.2.2.1
    rw [hq, f] at m
    rcases t_sCaulk hq with e | e
    · subst e
      exact ⟨S, AG_mo0 (w_caulk0 x y c) I hu (by decide) m⟩
    · subst e
      exact ⟨S, AG_mo0 (w_caulk2 x y c) I hu (by decide) m⟩
  | inr v =>
    obtain ⟨μ', c, Y, H, hs⟩ := k_caulk I.yr I.ok I.hr (by omega) x y hq
    rw [hq] at m
    exact ⟨_, AG_mo (w_caulk x y c) I hu Y H hs (sp_ok I.ok (by omega) (by decide)) m⟩
theorem t_sPump {a : Nat → Nat} {x y : Int32} {t : Nat} (h : (sPump a x y).1 = .inl t) : t = 1 ∨ t = 2 ∨ t = 3 := by
  unfold sPump at h
  (repeat' split at h) <;> first | (cases h; omega) | cases h
theorem s_pump {u : Nat} {S : St8} {μ : fM} (I : SIM u S μ) (hu : u + 12 ≤ 6200) (x y : Int32) : ∃ S', AG sL_pump sX8_pump [vR 7 0 0, vI x, vI y, vR 40 0 0] [vR 8 0 0, vI x, vI y] μ (SIM (u + 12) S') := by
  have m : ∀ ν : fM, ν.1 8 0 0 5 = nI S.l.length → sX8_pump [vR 8 0 0, vI x, vI y] (gA ν S.a) = some (.inl (some (vI (mVal (sp 6 S.a x y 0).1))), gA (mE (gS ν S.a) S.l.length (sp 6 S.a x y 0).1) (sp 6 S.a x y 0).2) := fun ν h5 => g_pump ν I.ok I.2.2.2.2.2.1 h5 x y
  cases hq : (sp 6 S.a x y 0).1 with
  | inl t =>
    have c := k_pump0 I.yr I.ok x y hq
    have f := (sp_fc (by decide) hq).2.2.2.2.1
    rw [hq, f] at m
    rcases t_sPump hq with e | e | e
    · subst e
      exact ⟨S, AG_mo0 (w_pump0 x y c) I hu (by decide) m⟩
    · subst e
      exact ⟨S, AG_mo0 (w_pump1 x y c) I hu (by decide) m⟩
    · subst e
      exact ⟨S, AG_mo0 (w_pump2 x y c) I hu (by decide) m⟩
  | inr v =>
    obtain ⟨μ', c, Y, H, hs⟩ := k_pump I.yr I.ok I.hr (by omega) x y hq
    rw [hq] at m
    exact ⟨_, AG_mo (w_pump x y c) I hu Y H hs (sp_ok I.ok (by omega) (by decide)) m⟩
theorem t_sHours {a : Nat → Nat} {x : Int32} {t : Nat} (h : (sHours a x).1 = .inl t) : t = 1 := by
  unfold sHours at h
  split at h
  · obtain ⟨v, hv⟩ := rHr_in (j := xN x) (n := 0) (a := a)
    rw [hv] at h
    cases h
  · cases h; omega
theorem s_pass {u : Nat} {S : St8} {μ : fM} (I : SIM u S μ) (hu : u + 12 ≤ 6200) (x : Int32) : ∃ S', AG sL_pass sX8_pass [vR 7 0 0, vI x, vR 40 0 0] [vR 8 0 0, vI x] μ (SIM (u + 12) S') := by
  have m : ∀ ν : fM, ν.1 8 0 0 5 = nI S.l.length → sX8_pass [vR 8 0 0, vI x] (gA ν S.a) = some (.inl (some (vI (mVal (sp 7 S.a x 0 0).1))), gA (mE (gS ν S.a) S.l.length (sp 7 S.a x 0 0).1) (sp 7 S.a x 0 0).2) := fun ν h5 => g_pass ν I.ok (by omega) I.2.2.2.2.2.1 h5 x
  cases hq : (sp 7 S.a x 0 0).1 with
  | inl t =>
    have c := k_pass0 I.yr I.ok x hq
    have f := (sp_fc (by decide) hq).2.2.2.2.1
    rw [hq, f] at m
    rcases t_sHours hq with e
    · subst e
      exact ⟨S, AG_mo0 (w_pass1 x c) I hu (by decide) m⟩
  | inr v =>
    obtain ⟨μ', c, Y, H, hs⟩ := k_pass I.yr I.ok I.hr (by omega) x hq
    rw [hq] at m
    exact ⟨_, AG_mo (w_pass x c) I hu Y H hs (sp_ok I.ok (by omega) (by decide)) m⟩
theorem t_sTide {a : Nat → Nat} {x y : Int32} {t : Nat} (h : (sTide a x y).1 = .inl t) : t = 1 := by
  unfold sTide at h
  (repeat' split at h) <;> first | (cases h; omega) | cases h
theorem s_setTide {u : Nat} {S : St8} {μ : fM} (I : SIM u S μ) (hu : u + 12 ≤ 6200) (x y : Int32) : ∃ S', AG sL_setTide sX8_setTide [vR 7 0 0, vI x, vI y, vR 40 0 0] [vR 8 0 0, vI x, vI y] μ (SIM (u + 12) S') := by
  have m : ∀ ν : fM, ν.1 8 0 0 5 = nI S.l.length → sX8_setTide [vR 8 0 0, vI x, vI y] (gA ν S.a) = some (.inl (some (vI (mVal (sp 8 S.a x y 0).1))), gA (mE (gS ν S.a) S.l.length (sp 8 S.a x y 0).1) (sp 8 S.a x y 0).2) := fun ν h5 => g_setTide ν I.ok I.2.2.2.2.2.1 h5 x y
  cases hq : (sp 8 S.a x y 0).1 with
  | inl t =>
    have c := k_setTide0 I.yr I.ok x y hq
    have f := (sp_fc (by decide) hq).2.2.2.2.1
    rw [hq, f] at m
    rcases t_sTide hq with e
    · subst e
      exact ⟨S, AG_mo0 (w_setTide1 x y c) I hu (by decide) m⟩
  | inr v =>
    obtain ⟨μ', c, Y, H, hs⟩ := k_setTide I.yr I.ok I.hr (by omega) x y hq
    rw [hq] at m
    exact ⟨_, AG_mo (w_setTide x y c) I hu Y H hs (sp_ok I.ok (by omega) (by decide)) m⟩
theorem t_sOrder {a : Nat → Nat} {x y z : Int32} {t : Nat} (h : (sOrder a x y z).1 = .inl t) : t = 1 ∨ t = 2 := by
  unfold sOrder at h
  (repeat' split at h) <;> first | (cases h; omega) | cases h
theorem s_addOrder {u : Nat} {S : St8} {μ : fM} (I : SIM u S μ) (hu : u + 12 ≤ 6200) (x y z : Int32) : ∃ S', AG sL_addOrder sX8_addOrder [vR 7 0 0, vI x, vI y, vI z, vR 40 0 0] [vR 8 0 0, vI x, vI y, vI z] μ (SIM (u + 12) S') := by
  have m : ∀ ν : fM, ν.1 8 0 0 5 = nI S.l.length → sX8_addOrder [vR 8 0 0, vI x, vI y, vI z] (gA ν S.a) = some (.inl (some (vI (mVal (sp 9 S.a x y z).1))), gA (mE (gS ν S.a) S.l.length (sp 9 S.a x y z).1) (sp 9 S.a x y z).2) := fun ν h5 => g_addOrder ν I.ok I.2.2.2.2.2.1 h5 x y z
  cases hq : (sp 9 S.a x y z).1 with
  | inl t =>
    have c := k_addOrder0 I.yr I.ok x y z hq
    have f := (sp_fc (by decide) hq).2.2.2.2.1
    rw [hq, f] at m
    rcases t_sOrder hq with e | e
    · subst e
      exact ⟨S, AG_mo0 (w_addOrder1 x y z c) I hu (by decide) m⟩
    · subst e
      exact ⟨S, AG_mo0 (w_addOrder2 x y z c) I hu (by decide) m⟩
  | inr v =>
    obtain ⟨μ', c, Y, H, hs⟩ := k_addOrder I.yr I.ok I.hr (by omega) x y z hq
    rw [hq] at m
    exact ⟨_, AG_mo (w_addOrder x y z c) I hu Y H hs (sp_ok I.ok (by omega) (by decide)) m⟩
theorem t_sDeliver {a : Nat → Nat} {x y : Int32} {t : Nat} (h : (sDeliver a x y).1 = .inl t) : t = 1 ∨ t = 2 ∨ t = 3 := by
  unfold sDeliver at h
  (repeat' split at h) <;> first | (cases h; omega) | cases h
theorem s_deliver {u : Nat} {S : St8} {μ : fM} (I : SIM u S μ) (hu : u + 12 ≤ 6200) (x y : Int32) : ∃ S', AG sL_deliver sX8_deliver [vR 7 0 0, vI x, vI y, vR 40 0 0] [vR 8 0 0, vI x, vI y] μ (SIM (u + 12) S') := by
  have m : ∀ ν : fM, ν.1 8 0 0 5 = nI S.l.length → sX8_deliver [vR 8 0 0, vI x, vI y] (gA ν S.a) = some (.inl (some (vI (mVal (sp 10 S.a x y 0).1))), gA (mE (gS ν S.a) S.l.length (sp 10 S.a x y 0).1) (sp 10 S.a x y 0).2) := fun ν h5 => g_deliver ν I.ok I.2.2.2.2.2.1 h5 x y
  cases hq : (sp 10 S.a x y 0).1 with
  | inl t =>
    have c := k_deliver0 I.yr I.ok x y hq
    have f := (sp_fc (by decide) hq).2.2.2.2.1
    rw [hq, f] at m
    rcases t_sDeliver hq with e | e | e
    · subst e
      exact ⟨S, AG_mo0 (w_deliver4 x y c) I hu (by decide) m⟩
    · subst e
      exact ⟨S, AG_mo0 (w_deliver0 x y c) I hu (by decide) m⟩
    · subst e
      exact ⟨S, AG_mo0 (w_deliver2 x y c) I hu (by decide) m⟩
  | inr v =>
    obtain ⟨μ', c, Y, H, hs⟩ := k_deliver I.yr I.ok I.hr (by omega) x y hq
    rw [hq] at m
    exact ⟨_, AG_mo (w_deliver x y c) I hu Y H hs (sp_ok I.ok (by omega) (by decide)) m⟩
theorem t_sSlip {a : Nat → Nat} {x y : Int32} {t : Nat} (h : (sSlip a x y).1 = .inl t) : t = 1 := by
  unfold sSlip at h
  (repeat' split at h) <;> first | (cases h; omega) | cases h
theorem s_setSlip {u : Nat} {S : St8} {μ : fM} (I : SIM u S μ) (hu : u + 12 ≤ 6200) (x y : Int32) : ∃ S', AG sL_setSlip sX8_setSlip [vR 7 0 0, vI x, vI y, vR 40 0 0] [vR 8 0 0, vI x, vI y] μ (SIM (u + 12) S') := by
  have m : ∀ ν : fM, ν.1 8 0 0 5 = nI S.l.length → sX8_setSlip [vR 8 0 0, vI x, vI y] (gA ν S.a) = some (.inl (some (vI (mVal (sp 11 S.a x y 0).1))), gA (mE (gS ν S.a) S.l.length (sp 11 S.a x y 0).1) (sp 11 S.a x y 0).2) := fun ν h5 => g_setSlip ν I.2.2.2.2.2.1 h5 x y
  cases hq : (sp 11 S.a x y 0).1 with
  | inl t =>
    have c := k_setSlip0 I.yr I.ok x y hq
    have f := (sp_fc (by decide) hq).2.2.2.2.1
    rw [hq, f] at m
    rcases t_sSlip hq with e
    · subst e
      exact ⟨S, AG_mo0 (w_setSlip1 x y c) I hu (by decide) m⟩
  | inr v =>
    obtain ⟨μ', c, Y, H, hs⟩ := k_setSlip I.yr I.ok I.hr (by omega) x y hq
    rw [hq] at m
    exact ⟨_, AG_mo (w_setSlip x y c) I hu Y H hs (sp_ok I.ok (by omega) (by decide)) m⟩
