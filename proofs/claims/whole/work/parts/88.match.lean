/-! SLIPS: uses as maps from slips to hulls, 6 for none; the greatest ones -/
def VB (F : Nat → Nat → Prop) (R : Nat → Prop) (B : Nat → Nat) : Prop := (∀ s, s < 4 → B s ≠ 6 → R (B s) ∧ F (B s) s) ∧ (∀ s s', s < 4 → s' < 4 → B s ≠ 6 → B s = B s' → s = s')
def sz (B : Nat → Nat) : Nat := nC (fun s => B s ≠ 6) 0 4
def MX (F : Nat → Nat → Prop) (R : Nat → Prop) (m : Nat → Nat) : Prop := VB F R m ∧ ∀ B, VB F R B → sz B ≤ sz m
theorem sz_mono {B C : Nat → Nat} (h : ∀ s, s < 4 → B s ≠ 6 → C s ≠ 6) : sz B ≤ sz C := nC_mono fun i _ hi q => h i (by omega) q
theorem sz_eq {B C : Nat → Nat} (h : ∀ s, s < 4 → (B s ≠ 6 ↔ C s ≠ 6)) : sz B = sz C := nC_eq fun i _ hi => h i (by omega)
theorem nC_add1 {p q : Nat → Prop} [DecidablePred p] [DecidablePred q] {s : Nat} (h : ∀ i, i ≠ s → (p i ↔ q i)) (hp : ¬ p s) (hq : q s) : ∀ {j k : Nat}, k ≤ s → s < k + j → nC q k j = nC p k j + 1
  | 0, k, h1, h2 => absurd h2 (by omega)
  | j + 1, k, h1, h2 => by
    show (if q k then 1 else 0) + nC q (k + 1) j = (if p k then 1 else 0) + nC p (k + 1) j + 1
    by_cases e : k = s
    · subst e
      rw [if_pos hq, if_neg hp, nC_eq (p := q) (q := p) (fun i h3 h4 => (h i (by omega)).symm)]
      omega
    · rw [nC_add1 h hp hq (j := j) (k := k + 1) (by omega) (by omega)]
      have := h k e
      by_cases c : p k
      · rw [if_pos c, if_pos (this.mp c)]; omega
      · rw [if_neg c, if_neg (fun d => c (this.mpr d))]; omega
theorem sz_put {m : Nat → Nat} {s h : Nat} (hs : s < 4) (h0 : m s = 6) (h6 : h ≠ 6) : sz (up m s h) = sz m + 1 :=
  nC_add1 (s := s) (fun i hi => by rw [up_ne hi]) (fun q => q h0) (by show up m s h s ≠ 6; rw [up_at]; exact h6) (Nat.zero_le _) (by omega)
theorem sz_clr {B : Nat → Nat} {s : Nat} (hs : s < 4) (h0 : B s ≠ 6) : sz B = sz (up B s 6) + 1 :=
  nC_add1 (s := s) (fun i hi => by rw [up_ne hi]) (fun q => q up_at) h0 (Nat.zero_le _) (by omega)
/-- a hull that finds no place -/
theorem MX_fail {F : Nat → Nat → Prop} {R Z : Nat → Prop} [DecidablePred Z] {m : Nat → Nat} {h : Nat} (M : MX F R m) (hZ : ∀ z, z < 4 → Z z → m z ≠ 6 ∧ ∀ s, s < 4 → F (m z) s → Z s) (hh : ∀ s, s < 4 → F h s → Z s) : MX F (fun g => R g ∨ g = h) m := by
  refine ⟨⟨fun s hs q => ⟨Or.inl (M.1.1 s hs q).1, (M.1.1 s hs q).2⟩, M.1.2⟩, fun B hB => ?_⟩
  have V : VB F R (fun s => if Z s then m s else B s) := by
    refine ⟨fun s hs q => ?_, fun s s' hs hs' q e => ?_⟩
    · by_cases z : Z s
      · simp only [if_pos z] at q ⊢
        exact M.1.1 s hs q
      · simp only [if_neg z] at q ⊢
        have b := hB.1 s hs q
        rcases b.1 with r | r
        · exact ⟨r, b.2⟩
        · exact absurd (hh s hs (r ▸ b.2)) z
    · by_cases z : Z s
      · by_cases z' : Z s'
        · simp only [if_pos z, if_pos z'] at q e
          exact M.1.2 s s' hs hs' q e
        · simp only [if_pos z, if_neg z'] at q e
          have b := (hB.1 s' hs' (fun x => q (e.trans x))).2
          exact absurd ((hZ s hs z).2 s' hs' (e ▸ b)) z'
      · by_cases z' : Z s'
        · simp only [if_neg z, if_pos z'] at q e
          have b := (hB.1 s hs q).2
          exact absurd ((hZ s' hs' z').2 s hs (e ▸ b)) z
        · simp only [if_neg z, if_neg z'] at q e
          exact hB.2 s s' hs hs' q e
  refine Nat.le_trans (sz_mono fun s hs q => ?_) (M.2 _ V)
  by_cases z : Z s
  · simp only [if_pos z]
    exact (hZ s hs z).1
  · simp only [if_neg z]
    exact q
/-- a hull that finds one -/
theorem MX_succ {F : Nat → Nat → Prop} {R : Nat → Prop} {m m' : Nat → Nat} {h : Nat} (M : MX F R m) (V : VB F (fun g => R g ∨ g = h) m') (e : sz m' = sz m + 1) : MX F (fun g => R g ∨ g = h) m' := by
  refine ⟨V, fun B hB => ?_⟩
  by_cases q : ∃ s, s < 4 ∧ B s ≠ 6 ∧ B s = h
  · obtain ⟨s, hs, h6, hB0⟩ := q
    have V1 : VB F R (up B s 6) := by
      refine ⟨fun t ht q => ?_, fun t t' ht ht' q e => ?_⟩
      · by_cases c : t = s
        · subst c; exact absurd up_at q
        · rw [up_ne c] at q ⊢
          have b := hB.1 t ht q
          rcases b.1 with r | r
          · exact ⟨r, b.2⟩
          · exact absurd (hB.2 t s ht hs q (r.trans hB0.symm)) c
      · by_cases c : t = s
        · subst c; exact absurd up_at q
        · by_cases c' : t' = s
          · subst c'
            rw [up_at] at e
            exact absurd e q
          · rw [up_ne c] at q
            rw [up_ne c, up_ne c'] at e
            exact hB.2 t t' ht ht' q e
    have := M.2 _ V1
    rw [sz_clr hs h6]
    omega
  · have V1 : VB F R B := ⟨fun s hs h6 => by
      have b := hB.1 s hs h6
      rcases b.1 with r | r
      · exact ⟨r, b.2⟩
      · exact absurd ⟨s, hs, h6, r⟩ q, hB.2⟩
    have := M.2 _ V1
    omega
theorem MX_R {F : Nat → Nat → Prop} {R R' : Nat → Prop} {m : Nat → Nat} (M : MX F R m) (h : ∀ g, (∃ s, s < 4 ∧ F g s) → (R g ↔ R' g)) : MX F R' m := by
  have W : ∀ B, VB F R' B → VB F R B := fun B hB => ⟨fun s hs q => by have b := hB.1 s hs q; exact ⟨(h _ ⟨s, hs, b.2⟩).mpr b.1, b.2⟩, hB.2⟩
  exact ⟨⟨fun s hs q => by have b := M.1.1 s hs q; exact ⟨(h _ ⟨s, hs, b.2⟩).mp b.1, b.2⟩, M.1.2⟩, fun B hB => M.2 B (W B hB)⟩
theorem MX_0 {F : Nat → Nat → Prop} : MX F (fun _ => False) (fun _ => 6) := by
  refine ⟨⟨fun s _ q => absurd rfl q, fun s s' _ _ q => absurd rfl q⟩, fun B hB => ?_⟩
  exact Nat.le_trans (Nat.le_of_eq (nC_0 fun s _ hs q => (hB.1 s (by omega) q).1)) (Nat.zero_le _)
/-! hulls are moved to make room -/
abbrev kSt : Type := Bool × (Nat → Nat) × (Nat → Bool)
def uq (q : Nat → Bool) (s : Nat) : Nat → Bool := fun i => if i = s then true else q i
theorem uq_at {q : Nat → Bool} {s : Nat} : uq q s s = true := if_pos rfl
theorem uq_ne {q : Nat → Bool} {s i : Nat} (h : i ≠ s) : uq q s i = q i := if_neg h
def fpL (S : Nat → (Nat → Nat) → (Nat → Bool) → kSt) (F : Nat → Nat → Prop) [∀ h s, Decidable (F h s)] (h : Nat) : Nat → Nat → (Nat → Nat) → (Nat → Bool) → kSt
  | 0, _, m, q => (false, m, q)
  | j + 1, s, m, q =>
    if q s = false ∧ F h s then
      if m s = 6 then (true, up m s h, uq q s)
      else if (S (m s) m (uq q s)).1 = true then (true, up (S (m s) m (uq q s)).2.1 s h, (S (m s) m (uq q s)).2.2)
      else fpL S F h j (s + 1) (S (m s) m (uq q s)).2.1 (S (m s) m (uq q s)).2.2
    else fpL S F h j (s + 1) m q
def fpR (F : Nat → Nat → Prop) [∀ h s, Decidable (F h s)] : Nat → Nat → (Nat → Nat) → (Nat → Bool) → kSt
  | 0, _, m, q => (false, m, q)
  | f + 1, h, m, q => fpL (fpR F f) F h 4 0 m q
/-- what holds of the slips that haven't been asked -/
def kPre (F : Nat → Nat → Prop) (h : Nat) (m : Nat → Nat) (q : Nat → Bool) : Prop :=
  (∀ s, s < 4 → q s = false → m s ≠ 6 → F (m s) s) ∧ (∀ s s', s < 4 → s' < 4 → q s = false → q s' = false → m s ≠ 6 → m s = m s' → s = s') ∧ h ≠ 6 ∧ ∀ s, s < 4 → q s = false → m s ≠ h
def kPost (F : Nat → Nat → Prop) (h : Nat) (m : Nat → Nat) (q : Nat → Bool) (r : kSt) : Prop :=
  (∀ s, q s = true → r.2.2 s = true) ∧
  (r.1 = false → r.2.1 = m ∧ (∀ s, s < 4 → F h s → r.2.2 s = true) ∧ ∀ z, z < 4 → r.2.2 z = true → q z = false → m z ≠ 6 ∧ ∀ s, s < 4 → F (m z) s → r.2.2 s = true) ∧
  (r.1 = true → (∀ s, ¬ (s < 4 ∧ q s = false) → r.2.1 s = m s) ∧ (∀ s, s < 4 → q s = false → r.2.1 s ≠ 6 → F (r.2.1 s) s) ∧ (∀ s s', s < 4 → s' < 4 → q s = false → q s' = false → r.2.1 s ≠ 6 → r.2.1 s = r.2.1 s' → s = s') ∧
    (∀ s, s < 4 → q s = false → r.2.1 s = 6 ∨ r.2.1 s = h ∨ ∃ s', s' < 4 ∧ q s' = false ∧ r.2.1 s = m s') ∧ sz r.2.1 = sz m + 1)
def nQ (q : Nat → Bool) : Nat := nC (fun s => q s = false) 0 4
theorem fpL_ok {S : Nat → (Nat → Nat) → (Nat → Bool) → kSt} {F : Nat → Nat → Prop} [∀ h s, Decidable (F h s)] {f h : Nat} {m : Nat → Nat} {q0 : Nat → Bool} (hS : ∀ h m q, kPre F h m q → nQ q ≤ f → kPost F h m q (S h m q)) (P : kPre F h m q0) (hf : nQ q0 ≤ f + 1) : ∀ j s q, s + j = 4 → (∀ i, q0 i = true → q i = true) → (∀ i, i < s → F h i → q i = true) → (∀ z, z < 4 → q z = true → q0 z = false → m z ≠ 6 ∧ ∀ s, s < 4 → F (m z) s → q s = true) → kPost F h m q0 (fpL S F h j s m q)
  | 0, s, q, e, h1, h2, h3 => ⟨h1, fun _ => ⟨rfl, fun i hi hF => h2 i (by omega) hF, h3⟩, fun h => by cases h⟩
  | j + 1, s, q, e, h1, h2, h3 => by
    have q0f : ∀ i, q i = false → q0 i = false := fun i hi => by
      cases c : q0 i with
      | false => rfl
      | true => rw [h1 i c] at hi; cases hi
    rw [fpL]
    by_cases c : q s = false ∧ F h s
    · rw [if_pos c]
      have hs0 := q0f s c.1
      have hs4 : s < 4 := by omega
      by_cases d : m s = 6
      · rw [if_pos d]
        refine ⟨fun i hi => ?_, (fun h => by cases h), fun _ => ⟨fun i hi => ?_, fun i hi hq h6 => ?_, fun i i' hi hi' hq hq' h6 ee => ?_, fun i hi hq => ?_, sz_put hs4 d P.2.2.1⟩⟩
        · show uq q s i = true
          by_cases x : i = s
          · subst x; exact uq_at
          · rw [uq_ne x]; exact h1 i hi
        · show up m s h i = m i
          exact up_ne (fun x => hi (by subst x; exact ⟨hs4, hs0⟩))
        · change up m s h i ≠ 6 at h6
          show F (up m s h i) i
          by_cases x : i = s
          · subst x; rw [up_at]; exact c.2
          · rw [up_ne x] at h6 ⊢; exact P.1 i hi hq h6
        · change up m s h i ≠ 6 at h6
          change up m s h i = up m s h i' at ee
          by_cases x : i = s
          · by_cases x' : i' = s
            · omega
            · subst x
              rw [up_at, up_ne x'] at ee
              exact absurd ee.symm (P.2.2.2 i' hi' hq')
          · by_cases x' : i' = s
            · subst x'
              rw [up_at, up_ne x] at ee
              exact absurd ee (P.2.2.2 i hi hq)
            · rw [up_ne x] at h6 ee
              rw [up_ne x'] at ee
              exact P.2.1 i i' hi hi' hq hq' h6 ee
        · show up m s h i = 6 ∨ up m s h i = h ∨ _
          by_cases x : i = s
          · subst x; exact Or.inr (Or.inl up_at)
          · exact Or.inr (Or.inr ⟨i, hi, hq, up_ne x⟩)
      · rw [if_neg d]
        have P1 : kPre F (m s) m (uq q s) := by
          have uf : ∀ i, uq q s i = false → i ≠ s ∧ q i = false := fun i hi => by
            by_cases x : i = s
            · subst x; rw [uq_at] at hi; cases hi
            · rw [uq_ne x] at hi; exact ⟨x, hi⟩
          refine ⟨fun i hi hq h6 => P.1 i hi (q0f i (uf i hq).2) h6, fun i i' hi hi' hq hq' h6 ee => P.2.1 i i' hi hi' (q0f i (uf i hq).2) (q0f i' (uf i' hq').2) h6 ee, d, fun i hi hq ee => ?_⟩
          have u := uf i hq
          by_cases h6 : m i = 6
          · exact d (ee.symm.trans h6)
          · exact u.1 (P.2.1 i s hi hs4 (q0f i u.2) hs0 h6 ee)
        have n1 : nQ (uq q s) ≤ f := by
          have a1 : nQ q = nQ (uq q s) + 1 := nC_add1 (s := s) (fun i hi => by rw [uq_ne hi]) (fun x => by rw [uq_at] at x; cases x) c.1 (Nat.zero_le _) (by omega)
          have a2 : nQ q ≤ nQ q0 := nC_mono fun i _ _ x => q0f i x
          omega
        have R := hS (m s) m (uq q s) P1 n1
        revert R
        generalize S (m s) m (uq q s) = r
        intro R
        by_cases ok : r.1 = true
        · rw [if_pos ok]
          have T := R.2.2 ok
          have hr : ∀ i, i ≠ s → i < 4 → q i = false → r.2.1 i = 6 ∨ r.2.1 i = m s ∨ ∃ s', s' < 4 ∧ s' ≠ s ∧ q s' = false ∧ r.2.1 i = m s' := fun i x hi hq => by
            rcases T.2.2.2.1 i hi (by rw [uq_ne x]; exact hq) with y | y | ⟨s', y1, y2, y3⟩
            · exact Or.inl y
            · exact Or.inr (Or.inl y)
            · by_cases z : s' = s
              · subst z; rw [uq_at] at y2; cases y2
              · rw [uq_ne z] at y2; exact Or.inr (Or.inr ⟨s', y1, z, y2, y3⟩)
          have old : ∀ i, ¬ (i ≠ s ∧ i < 4 ∧ q i = false) → r.2.1 i = m i := fun i x => T.1 i (fun y => by
            by_cases z : i = s
            · subst z; rw [uq_at] at y; cases y.2
            · rw [uq_ne z] at y; exact x ⟨z, y.1, y.2⟩)
          refine ⟨fun i hi => ?_, (fun h => by cases h), fun _ => ⟨fun i hi => ?_, fun i hi hq h6 => ?_, fun i i' hi hi' hq hq' h6 ee => ?_, fun i hi hq => ?_, ?_⟩⟩
          · refine R.1 i ?_
            by_cases x : i = s
            · subst x; exact uq_at
            · rw [uq_ne x]; exact h1 i hi
          · show up r.2.1 s h i = m i
            have x : i ≠ s := fun x => hi (by subst x; exact ⟨hs4, hs0⟩)
            rw [up_ne x]
            exact old i (fun y => hi ⟨y.2.1, q0f i y.2.2⟩)
          · change up r.2.1 s h i ≠ 6 at h6
            show F (up r.2.1 s h i) i
            by_cases x : i = s
            · subst x; rw [up_at]; exact c.2
            · rw [up_ne x] at h6 ⊢
              by_cases y : q i = false
              · exact T.2.1 i hi (by rw [uq_ne x]; exact y) h6
              · have o := old i (fun z => y z.2.2)
                rw [o] at h6 ⊢
                exact P.1 i hi hq h6
          · change up r.2.1 s h i ≠ 6 at h6
            change up r.2.1 s h i = up r.2.1 s h i' at ee
            have nh : ∀ t, t < 4 → q0 t = false → t ≠ s → r.2.1 t ≠ h := fun t ht hqt x z => by
              by_cases y : q t = false
              · rcases hr t x ht y with w | w | ⟨s', w1, w2, w3, w4⟩
                · exact P.2.2.1 (z.symm.trans w)
                · exact P.2.2.2 s hs4 hs0 (w.symm.trans z)
                · exact P.2.2.2 s' w1 (q0f s' w3) (w4.symm.trans z)
              · rw [old t (fun w => y w.2.2)] at z
                exact P.2.2.2 t ht hqt z
            by_cases x : i = s
            · by_cases x' : i' = s
              · omega
              · subst x
                rw [up_at, up_ne x'] at ee
                exact absurd ee.symm (nh i' hi' hq' x')
            · by_cases x' : i' = s
              · subst x'
                rw [up_at, up_ne x] at ee
                exact absurd ee (nh i hi hq x)
              · rw [up_ne x] at h6 ee
                rw [up_ne x'] at ee
                have mix : ∀ t t', t < 4 → t' < 4 → t ≠ s → t' ≠ s → q0 t' = false → q t = false → ¬ q t' = false → r.2.1 t ≠ 6 → r.2.1 t = r.2.1 t' → False := fun t t' ht ht' xt xt' hq0' yt yt' h6t et => by
                  rw [old t' (fun w => yt' w.2.2)] at et
                  rcases hr t xt ht yt with w | w | ⟨s', w1, w2, w3, w4⟩
                  · exact h6t w
                  · exact xt' (P.2.1 s t' hs4 ht' hs0 hq0' d (w.symm.trans et)).symm
                  · have e9 := P.2.1 s' t' w1 ht' (q0f s' w3) hq0' (fun z => h6t (w4.trans z)) (w4.symm.trans et)
                    exact yt' (e9 ▸ w3)
                by_cases y : q i = false
                · by_cases y' : q i' = false
                  · exact T.2.2.1 i i' hi hi' (by rw [uq_ne x]; exact y) (by rw [uq_ne x']; exact y') h6 ee
                  · exact (mix i i' hi hi' x x' hq' y y' h6 ee).elim
                · by_cases y' : q i' = false
                  · exact (mix i' i hi' hi x' x hq y' y (fun z => h6 (ee.trans z)) ee.symm).elim
                  · rw [old i (fun w => y w.2.2)] at h6 ee
                    rw [old i' (fun w => y' w.2.2)] at ee
                    exact P.2.1 i i' hi hi' hq hq' h6 ee
          · show up r.2.1 s h i = 6 ∨ up r.2.1 s h i = h ∨ _
            by_cases x : i = s
            · subst x; exact Or.inr (Or.inl up_at)
            · rw [up_ne x]
              by_cases y : q i = false
              · rcases hr i x hi y with w | w | ⟨s', w1, w2, w3, w4⟩
                · exact Or.inl w
                · exact Or.inr (Or.inr ⟨s, hs4, hs0, (up_ne x).trans w⟩)
                · exact Or.inr (Or.inr ⟨s', w1, q0f s' w3, (up_ne x).trans w4⟩)
              · exact Or.inr (Or.inr ⟨i, hi, hq, (up_ne x).trans (old i (fun w => y w.2.2))⟩)
          · rw [← T.2.2.2.2]
            refine sz_eq fun i hi => ?_
            show up r.2.1 s h i ≠ 6 ↔ r.2.1 i ≠ 6
            by_cases x : i = s
            · subst x
              rw [up_at, old i (fun w => w.1 rfl)]
              exact ⟨fun _ => d, fun _ => P.2.2.1⟩
            · rw [up_ne x]
        · rw [if_neg ok]
          have ok' : r.1 = false := by cases z : r.1 with
            | false => rfl
            | true => exact absurd z ok
          have T := R.2.1 ok'
          rw [T.1]
          have up1 : ∀ i, q i = true → r.2.2 i = true := fun i hi => R.1 i (by
            by_cases x : i = s
            · subst x; exact uq_at
            · rw [uq_ne x]; exact hi)
          refine fpL_ok hS P hf j (s + 1) r.2.2 (by omega) (fun i hi => up1 i (h1 i hi)) (fun i hi hF => ?_) (fun z hz hq hq0 => ?_)
          · by_cases x : i = s
            · subst x; exact R.1 i uq_at
            · exact up1 i (h2 i (by omega) hF)
          · by_cases y : q z = true
            · have := h3 z hz y hq0
              exact ⟨this.1, fun t ht hF => up1 t (this.2 t ht hF)⟩
            · by_cases x : z = s
              · subst x; exact ⟨d, T.2.1⟩
              · exact T.2.2 z hz hq (by rw [uq_ne x]; simpa using y)
    · rw [if_neg c]
      refine fpL_ok hS P hf j (s + 1) q (by omega) h1 (fun i hi hF => ?_) h3
      by_cases x : i = s
      · subst x
        cases y : q i with
        | true => rfl
        | false => exact absurd ⟨y, hF⟩ c
      · exact h2 i (by omega) hF
theorem fpR_ok {F : Nat → Nat → Prop} [∀ h s, Decidable (F h s)] : ∀ f h m q, kPre F h m q → nQ q ≤ f → kPost F h m q (fpR F f h m q)
  | 0, h, m, q, P, hf => by
    have all : ∀ i, i < 4 → q i = true := fun i hi => by
      cases c : q i with
      | true => rfl
      | false =>
        have : nC (fun s => s = i) 0 4 ≤ nQ q := nC_mono fun s _ _ e => by subst e; exact c
        have : nC (fun s => s = i) 0 4 = 1 := nC_add1 (p := fun _ => False) (s := i) (fun s hs => ⟨False.elim, fun e => hs e⟩) (fun x => x) rfl (Nat.zero_le _) (by omega)
        omega
    exact ⟨fun i hi => hi, fun _ => ⟨rfl, fun s hs _ => all s hs, fun z hz _ hq => by rw [all z hz] at hq; cases hq⟩, fun h => by cases h⟩
  | f + 1, h, m, q, P, hf => fpL_ok (fpR_ok f) P hf 4 0 q rfl (fun i hi => hi) (fun i hi => absurd hi (Nat.not_lt_zero _)) (fun z _ hq hq0 => by rw [hq0] at hq; cases hq)
/-- the hulls up to n, moved -/
def kuhn (F : Nat → Nat → Prop) [∀ h s, Decidable (F h s)] (n : Nat) (m : Nat → Nat) : kSt := fpR F 4 n m (fun _ => false)
theorem kuhn_ok {F : Nat → Nat → Prop} [∀ h s, Decidable (F h s)] {n : Nat} {m : Nat → Nat} (hn : n < 6) (M : MX F (fun g => g < n) m) : MX F (fun g => g < n + 1) (kuhn F n m).2.1 ∧ sz (kuhn F n m).2.1 = sz m + (if (kuhn F n m).1 = true then 1 else 0) := by
  have P : kPre F n m (fun _ => false) := ⟨fun s hs _ h6 => (M.1.1 s hs h6).2, fun s s' hs hs' _ _ h6 e => M.1.2 s s' hs hs' h6 e, by omega, fun s hs _ e => by
    have := (M.1.1 s hs (by omega)).1
    omega⟩
  have R := fpR_ok 4 n m (fun _ => false) P (nC_le)
  have R : kPost F n m (fun _ => false) (kuhn F n m) := R
  have toR : ∀ {m' : Nat → Nat}, MX F (fun g => g < n ∨ g = n) m' → MX F (fun g => g < n + 1) m' := fun M' => MX_R M' (fun g _ => ⟨fun x => by omega, fun x => by omega⟩)
  by_cases ok : (kuhn F n m).1 = true
  · rw [if_pos ok]
    have T := R.2.2 ok
    refine ⟨toR (MX_succ M ⟨fun s hs h6 => ⟨?_, T.2.1 s hs rfl h6⟩, fun s s' hs hs' h6 e => T.2.2.1 s s' hs hs' rfl rfl h6 e⟩ T.2.2.2.2), T.2.2.2.2⟩
    rcases T.2.2.2.1 s hs rfl with x | x | ⟨s', x1, _, x3⟩
    · exact absurd x h6
    · exact Or.inr x
    · left
      rw [x3] at h6 ⊢
      exact (M.1.1 s' x1 h6).1
  · rw [if_neg ok, Nat.add_zero]
    have ok' : (kuhn F n m).1 = false := by cases z : (kuhn F n m).1 with
      | false => rfl
      | true => exact absurd z ok
    have T := R.2.1 ok'
    rw [T.1]
    exact ⟨toR (MX_fail (Z := fun s => (kuhn F n m).2.2 s = true) M (fun z hz h => T.2.2 z hz h rfl) (fun s hs hF => T.2.1 s hs hF)), rfl⟩
