/-! THE MODEL'S CODES ARE THE USES -/
theorem nC_shift {p : Nat → Prop} [DecidablePred p] {i : Nat} : ∀ {j k : Nat}, nC p (k + i) j = nC (fun x => p (x + i)) k j
  | 0, _ => rfl
  | j + 1, k => by
    show (if p (k + i) then 1 else 0) + nC p (k + i + 1) j = (if p (k + i) then 1 else 0) + nC (fun x => p (x + i)) (k + 1) j
    rw [show k + i + 1 = k + 1 + i from by omega, nC_shift]
abbrev dg (c i : Nat) : Nat := c / 7 ^ i % 7
theorem dg_s {c i : Nat} : dg (c / 7) i = dg c (i + 1) := by
  show c / 7 / 7 ^ i % 7 = c / 7 ^ (i + 1) % 7
  rw [Nat.div_div_eq_div_mul, Nat.pow_succ, Nat.mul_comm]
theorem tb_or {s x y : Nat} : (s ||| 2 ^ x).testBit y = (s.testBit y || decide (x = y)) := by
  rw [Nat.testBit_or, Nat.testBit_two_pow]
theorem uU_iff {a : Nat → Nat} : ∀ {j rest set n s m : Nat}, uU a j rest set n s = some m ↔ (∀ i, i < j → dg rest i ≠ 6 → fit a (dg rest i) (s + i) ∧ set.testBit (dg rest i) = false) ∧ (∀ i i', i < j → i' < j → dg rest i ≠ 6 → dg rest i = dg rest i' → i = i') ∧ m = n + nC (fun i => dg rest i ≠ 6) 0 j
  | 0, rest, set, n, s, m => by
    show some n = some m ↔ _
    constructor
    · intro h
      cases h
      exact ⟨fun i hi => absurd hi (Nat.not_lt_zero _), fun i _ hi => absurd hi (Nat.not_lt_zero _), rfl⟩
    · intro h
      rw [h.2.2]
      rfl
  | j + 1, rest, set, n, s, m => by
    have d0 : dg rest 0 = rest % 7 := by show rest / 7 ^ 0 % 7 = rest % 7; rw [Nat.pow_zero, Nat.div_one]
    have l7 : rest % 7 < 7 := Nat.mod_lt _ (by decide)
    have cn : nC (fun i => dg rest i ≠ 6) 0 (j + 1) = (if rest % 7 ≠ 6 then 1 else 0) + nC (fun i => dg (rest / 7) i ≠ 6) 0 j := by
      show (if dg rest 0 ≠ 6 then 1 else 0) + nC (fun i => dg rest i ≠ 6) (0 + 1) j = _
      rw [nC_shift, d0]
      congr 1
      exact nC_eq fun i _ _ => by rw [dg_s]
    rw [uU, cn]
    by_cases c : rest % 7 < 6
    · rw [if_pos c, if_pos (show rest % 7 ≠ 6 by omega)]
      by_cases g : fit a (rest % 7) s ∧ set.testBit (rest % 7) = false
      · rw [if_pos g, uU_iff (j := j)]
        constructor
        · rintro ⟨h1, h2, h3⟩
          refine ⟨fun i hi hd => ?_, fun i i' hi hi' hd e => ?_, by omega⟩
          · cases i with
            | zero => rw [d0]; exact g
            | succ i =>
              rw [← dg_s] at hd ⊢
              have := h1 i (by omega) hd
              rw [tb_or, Bool.or_eq_false_iff] at this
              rw [show s + (i + 1) = s + 1 + i from by omega]
              exact ⟨this.1, this.2.1⟩
          · cases i with
            | zero =>
              cases i' with
              | zero => rfl
              | succ i' =>
                rw [← dg_s, d0] at e
                have := h1 i' (by omega) (by omega)
                rw [tb_or, Bool.or_eq_false_iff, decide_eq_false_iff_not] at this
                exact absurd e this.2.2
            | succ i =>
              cases i' with
              | zero =>
                rw [← dg_s] at hd e
                rw [d0] at e
                have := h1 i (by omega) hd
                rw [tb_or, Bool.or_eq_false_iff, decide_eq_false_iff_not] at this
                exact absurd e.symm this.2.2
              | succ i' =>
                rw [← dg_s] at hd e
                rw [← dg_s] at e
                have := h2 i i' (by omega) (by omega) hd e
                omega
        · rintro ⟨h1, h2, h3⟩
          refine ⟨fun i hi hd => ?_, fun i i' hi hi' hd e => ?_, by omega⟩
          · rw [dg_s] at hd ⊢
            have := h1 (i + 1) (by omega) hd
            rw [show s + (i + 1) = s + 1 + i from by omega] at this
            refine ⟨this.1, ?_⟩
            rw [tb_or, Bool.or_eq_false_iff, decide_eq_false_iff_not]
            refine ⟨this.2, fun e => ?_⟩
            have := h2 0 (i + 1) (by omega) (by omega) (by rw [d0]; omega) (by rw [d0]; exact e)
            omega
          · rw [dg_s] at hd e
            rw [dg_s] at e
            have := h2 (i + 1) (i' + 1) (by omega) (by omega) hd e
            omega
      · rw [if_neg g]
        constructor
        · intro h; cases h
        · rintro ⟨h1, _, _⟩
          have := h1 0 (by omega) (by rw [d0]; omega)
          rw [d0] at this
          exact absurd this g
    · have e6 : rest % 7 = 6 := by omega
      rw [if_neg c, if_neg (show ¬ rest % 7 ≠ 6 by omega), uU_iff (j := j)]
      constructor
      · rintro ⟨h1, h2, h3⟩
        refine ⟨fun i hi hd => ?_, fun i i' hi hi' hd e => ?_, by omega⟩
        · cases i with
          | zero => rw [d0] at hd; exact absurd e6 hd
          | succ i =>
            rw [← dg_s] at hd ⊢
            have := h1 i (by omega) hd
            rwa [show s + (i + 1) = s + 1 + i from by omega]
        · cases i with
          | zero => rw [d0] at hd; exact absurd e6 hd
          | succ i =>
            cases i' with
            | zero => rw [d0, e6] at e; exact absurd e hd
            | succ i' =>
              rw [← dg_s] at hd e
              rw [← dg_s] at e
              have := h2 i i' (by omega) (by omega) hd e
              omega
      · rintro ⟨h1, h2, h3⟩
        refine ⟨fun i hi hd => ?_, fun i i' hi hi' hd e => ?_, by omega⟩
        · rw [dg_s] at hd ⊢
          have := h1 (i + 1) (by omega) hd
          rwa [show s + (i + 1) = s + 1 + i from by omega] at this
        · rw [dg_s] at hd e
          rw [dg_s] at e
          have := h2 (i + 1) (i' + 1) (by omega) (by omega) hd e
          omega
theorem dg_le {c i : Nat} : dg c i ≤ 6 := by
  have : dg c i < 7 := Nat.mod_lt _ (by decide)
  omega
/-- a code that is a use -/
theorem uU_use {a : Nat → Nat} {c m : Nat} : uU a 4 c 0 0 0 = some m ↔ VB (fit a) (fun g => g < a 0) (dg c) ∧ m = sz (dg c) := by
  rw [uU_iff]
  constructor
  · rintro ⟨h1, h2, h3⟩
    refine ⟨⟨fun s hs h6 => ?_, fun s s' hs hs' h6 e => h2 s s' hs hs' h6 e⟩, by rw [h3, Nat.zero_add]; rfl⟩
    have := h1 s hs h6
    rw [Nat.zero_add] at this
    exact ⟨this.1.1, this.1⟩
  · rintro ⟨h1, h3⟩
    refine ⟨fun i hi h6 => ⟨?_, Nat.zero_testBit _⟩, fun i i' hi hi' h6 e => h1.2 i i' hi hi' h6 e, by rw [h3, Nat.zero_add]; rfl⟩
    rw [Nat.zero_add]
    exact (h1.1 i hi h6).2
def cdB (B : Nat → Nat) : Nat := B 0 + 7 * B 1 + 49 * B 2 + 343 * B 3
theorem cdB_dg {B : Nat → Nat} (h : ∀ s, s < 4 → B s ≤ 6) : ∀ s, s < 4 → dg (cdB B) s = B s := by
  have h0 := h 0 (by decide)
  have h1 := h 1 (by decide)
  have h2 := h 2 (by decide)
  have h3 := h 3 (by decide)
  intro s hs
  unfold cdB
  match s, hs with
  | 0, _ => show (B 0 + 7 * B 1 + 49 * B 2 + 343 * B 3) / 1 % 7 = B 0; omega
  | 1, _ => show (B 0 + 7 * B 1 + 49 * B 2 + 343 * B 3) / 7 % 7 = B 1; omega
  | 2, _ => show (B 0 + 7 * B 1 + 49 * B 2 + 343 * B 3) / 49 % 7 = B 2; omega
  | 3, _ => show (B 0 + 7 * B 1 + 49 * B 2 + 343 * B 3) / 343 % 7 = B 3; omega
theorem cdB_lt {B : Nat → Nat} (h : ∀ s, s < 4 → B s ≤ 6) : cdB B < 2401 := by
  have h0 := h 0 (by decide)
  have h1 := h 1 (by decide)
  have h2 := h 2 (by decide)
  have h3 := h 3 (by decide)
  unfold cdB
  omega
theorem VB_eq {F : Nat → Nat → Prop} {R : Nat → Prop} {B C : Nat → Nat} (V : VB F R B) (e : ∀ s, s < 4 → C s = B s) : VB F R C := by
  refine ⟨fun s hs h6 => ?_, fun s s' hs hs' h6 x => ?_⟩
  · rw [e s hs] at h6 ⊢
    exact V.1 s hs h6
  · rw [e s hs] at h6 x
    rw [e s' hs'] at x
    exact V.2 s s' hs hs' h6 x
/-- the model's fold over the codes -/
theorem wW_ok {a : Nat → Nat} : ∀ {j c : Nat} {q : Nat × Nat}, q.1 ≤ (wW a j c q).1 ∧ (∀ i n, c ≤ i → i < c + j → uU a 4 i 0 0 0 = some n → n ≤ (wW a j c q).1) ∧ ((wW a j c q).1 = q.1 ∨ ∃ i, c ≤ i ∧ i < c + j ∧ uU a 4 i 0 0 0 = some (wW a j c q).1) ∧ (wW a j c q).2 = (if (wW a j c q).1 = q.1 then q.2 else 0) + nC (fun i => uU a 4 i 0 0 0 = some (wW a j c q).1) c j
  | 0, c, q => ⟨Nat.le_refl _, fun i n h1 h2 => absurd h2 (by omega), Or.inl rfl, by
    show q.2 = (if q.1 = q.1 then q.2 else 0) + 0
    rw [if_pos rfl, Nat.add_zero]⟩
  | j + 1, c, q => by
    have ih := wW_ok (a := a) (j := j) (c := c + 1) (q := wS (uU a 4 c 0 0 0) q)
    have un : wW a (j + 1) c q = wW a j (c + 1) (wS (uU a 4 c 0 0 0) q) := rfl
    rw [un]
    revert ih
    generalize hr : wW a j (c + 1) (wS (uU a 4 c 0 0 0) q) = r
    intro ih
    have cn : nC (fun i => uU a 4 i 0 0 0 = some r.1) c (j + 1) = (if uU a 4 c 0 0 0 = some r.1 then 1 else 0) + nC (fun i => uU a 4 i 0 0 0 = some r.1) (c + 1) j := rfl
    rw [cn]
    cases hu : uU a 4 c 0 0 0 with
    | none =>
      rw [hu] at ih
      have ih : q.1 ≤ r.1 ∧ (∀ i n, c + 1 ≤ i → i < c + 1 + j → uU a 4 i 0 0 0 = some n → n ≤ r.1) ∧ (r.1 = q.1 ∨ ∃ i, c + 1 ≤ i ∧ i < c + 1 + j ∧ uU a 4 i 0 0 0 = some r.1) ∧ r.2 = (if r.1 = q.1 then q.2 else 0) + nC (fun i => uU a 4 i 0 0 0 = some r.1) (c + 1) j := ih
      rw [if_neg (show ¬ (none : Option Nat) = some r.1 from fun x => by cases x), Nat.zero_add]
      refine ⟨ih.1, fun i n h1 h2 h3 => ?_, ?_, ih.2.2.2⟩
      · by_cases e : i = c
        · subst e; rw [hu] at h3; cases h3
        · exact ih.2.1 i n (by omega) (by omega) h3
      · rcases ih.2.2.1 with x | ⟨i, x1, x2, x3⟩
        · exact Or.inl x
        · exact Or.inr ⟨i, by omega, by omega, x3⟩
    | some n0 =>
      rw [hu] at ih
      by_cases l : q.1 < n0
      · have ws : wS (some n0) q = (n0, 1) := if_pos l
        rw [ws] at ih
        have ih : n0 ≤ r.1 ∧ (∀ i n, c + 1 ≤ i → i < c + 1 + j → uU a 4 i 0 0 0 = some n → n ≤ r.1) ∧ (r.1 = n0 ∨ ∃ i, c + 1 ≤ i ∧ i < c + 1 + j ∧ uU a 4 i 0 0 0 = some r.1) ∧ r.2 = (if r.1 = n0 then 1 else 0) + nC (fun i => uU a 4 i 0 0 0 = some r.1) (c + 1) j := ih
        refine ⟨by omega, fun i n h1 h2 h3 => ?_, ?_, ?_⟩
        · by_cases e : i = c
          · subst e; rw [hu] at h3; cases h3; exact ih.1
          · exact ih.2.1 i n (by omega) (by omega) h3
        · rcases ih.2.2.1 with x | ⟨i, x1, x2, x3⟩
          · exact Or.inr ⟨c, by omega, by omega, by rw [hu, x]⟩
          · exact Or.inr ⟨i, by omega, by omega, x3⟩
        · rw [ih.2.2.2, if_neg (show ¬ r.1 = q.1 by omega), Nat.zero_add]
          congr 1
          by_cases x : r.1 = n0
          · rw [if_pos x, if_pos (by rw [x])]
          · rw [if_neg x, if_neg (fun y => x (Option.some.inj y).symm)]
      · by_cases e0 : n0 = q.1
        · have ws : wS (some n0) q = (q.1, q.2 + 1) := by
            show (if q.1 < n0 then (n0, 1) else if n0 = q.1 then (q.1, q.2 + 1) else q) = _
            rw [if_neg l, if_pos e0]
          rw [ws] at ih
          have ih : q.1 ≤ r.1 ∧ (∀ i n, c + 1 ≤ i → i < c + 1 + j → uU a 4 i 0 0 0 = some n → n ≤ r.1) ∧ (r.1 = q.1 ∨ ∃ i, c + 1 ≤ i ∧ i < c + 1 + j ∧ uU a 4 i 0 0 0 = some r.1) ∧ r.2 = (if r.1 = q.1 then q.2 + 1 else 0) + nC (fun i => uU a 4 i 0 0 0 = some r.1) (c + 1) j := ih
          refine ⟨ih.1, fun i n h1 h2 h3 => ?_, ?_, ?_⟩
          · by_cases e : i = c
            · subst e; rw [hu] at h3; cases h3; have := ih.1; omega
            · exact ih.2.1 i n (by omega) (by omega) h3
          · rcases ih.2.2.1 with x | ⟨i, x1, x2, x3⟩
            · exact Or.inl x
            · exact Or.inr ⟨i, by omega, by omega, x3⟩
          · rw [ih.2.2.2]
            by_cases x : r.1 = q.1
            · rw [if_pos x, if_pos x, if_pos (by rw [x, e0])]; omega
            · rw [if_neg x, if_neg x, if_neg (fun y => x (by rw [← Option.some.inj y, e0]))]; omega
        · have ws : wS (some n0) q = q := by
            show (if q.1 < n0 then (n0, 1) else if n0 = q.1 then (q.1, q.2 + 1) else q) = _
            rw [if_neg l, if_neg e0]
          rw [ws] at ih
          refine ⟨ih.1, fun i n h1 h2 h3 => ?_, ?_, ?_⟩
          · by_cases e : i = c
            · subst e; rw [hu] at h3; cases h3; have := ih.1; omega
            · exact ih.2.1 i n (by omega) (by omega) h3
          · rcases ih.2.2.1 with x | ⟨i, x1, x2, x3⟩
            · exact Or.inl x
            · exact Or.inr ⟨i, by omega, by omega, x3⟩
          · rw [if_neg (show ¬ some n0 = some r.1 from fun y => by have := Option.some.inj y; have := ih.1; omega), Nat.zero_add]
            exact ih.2.2.2
theorem fit_lt {a : Nat → Nat} {h s : Nat} (f : fit a h s) : h < a 0 := f.1
theorem most_eq {a : Nat → Nat} {m : Nat → Nat} (h6 : a 0 ≤ 6) (M : MX (fit a) (fun g => g < a 0) m) (hm : ∀ s, s < 4 → m s ≤ 6) : (wU a).1 = sz m := by
  have W := wW_ok (a := a) (j := 2401) (c := 0) (q := (0, 0))
  refine Nat.le_antisymm ?_ ?_
  · rcases W.2.2.1 with x | ⟨i, _, _, x3⟩
    · have x : (wU a).1 = 0 := x
      omega
    · have u := uU_use.mp x3
      have : (wU a).1 = sz (dg i) := u.2
      rw [this]
      exact M.2 _ u.1
  · have e := cdB_dg hm
    have V := VB_eq M.1 e
    have s1 : sz (dg (cdB m)) = sz m := sz_eq fun s hs => by rw [e s hs]
    have := W.2.1 (cdB m) (sz m) (Nat.zero_le _) (by have := cdB_lt hm; omega) (uU_use.mpr ⟨V, s1.symm⟩)
    exact this
/-! each hull on the shortest slip that is free -/
def shS (a : Nat → Nat) (m : Nat → Nat) (h : Nat) : Nat := dlF (fun s => m s = 6 ∧ fit a h s) (fun s => 8 - aS a s) 4 4 0 4
theorem shS_ok {u : Nat} {a : Nat → Nat} {m : Nat → Nat} {h : Nat} (O : OKA u a) : (shS a m h = 4 ∧ ∀ s, s < 4 → m s = 6 → ¬ fit a h s) ∨ (shS a m h < 4 ∧ m (shS a m h) = 6 ∧ fit a h (shS a m h) ∧ ∀ f, f < 4 → m f = 6 → fit a h f → aS a (shS a m h) ≤ aS a f) := by
  rcases dlF_ok (P := fun s => m s = 6 ∧ fit a h s) (D := fun s => 8 - aS a s) (N := 4) (j := 4) (k := 0) (d := 4) (Nat.zero_add _) (Or.inl ⟨rfl, fun i hi => absurd hi (Nat.not_lt_zero _)⟩) with x | x
  · exact Or.inl ⟨x.1, fun s hs h6 hf => x.2 s hs ⟨h6, hf⟩⟩
  · refine Or.inr ⟨x.1, x.2.1.1, x.2.1.2, fun f hf h6 hfit => ?_⟩
    have b1 := O.slip (shS a m h) x.1
    have b2 := O.slip f hf
    rcases x.2.2 f hf ⟨h6, hfit⟩ with y | y | y
    · rw [y]
      exact Nat.le_refl _
    · have y : 8 - aS a f < 8 - aS a (shS a m h) := y
      omega
    · have y : 8 - aS a f = 8 - aS a (shS a m h) ∧ shS a m h < f := y
      omega
def grd (a : Nat → Nat) (m : Nat → Nat) (h : Nat) : Nat → Nat := if shS a m h = 4 then m else up m (shS a m h) h
def gI (a : Nat → Nat) (m : Nat → Nat) : Prop := ∀ z f, z < 4 → f < 4 → m z ≠ 6 → m f = 6 → fit a (m z) f → aS a z ≤ aS a f
theorem grd_ok {u : Nat} {a : Nat → Nat} {R : Nat → Prop} {m : Nat → Nat} {h : Nat} (O : OKA u a) (M : MX (fit a) R m) (G : gI a m) (hR : ¬ R h) (hh : h < 6) : MX (fit a) (fun g => R g ∨ g = h) (grd a m h) ∧ gI a (grd a m h) ∧ sz (grd a m h) = sz m + (if shS a m h = 4 then 0 else 1) := by
  unfold grd
  rcases shS_ok (m := m) (h := h) O with x | x
  · rw [if_pos x.1, if_pos x.1, Nat.add_zero]
    refine ⟨@MX_fail (fit a) R (fun z => ∀ f, f < 4 → m f = 6 → aS a f < aS a z) (fun _ => Classical.propDecidable _) m h M (fun z hz hZ => ⟨fun e => ?_, fun s hs hf f hf4 h6 => ?_⟩) (fun s hs hf f hf4 h6 => ?_), G, rfl⟩
    · have := hZ z hz e
      omega
    · refine Nat.not_le.mp fun le => ?_
      have e6 : m z ≠ 6 := fun e => by
        have := hZ z hz e
        omega
      have g := G z f hz hf4 e6 h6 ⟨hf.1, hf.2.1, hf.2.2.1, by have := hf.2.2.2; omega⟩
      have := hZ f hf4 h6
      have := hZ
      have q := hZ f hf4 h6
      omega
    · refine Nat.not_le.mp fun le => ?_
      exact x.2 f hf4 h6 ⟨hf.1, hf.2.1, hf.2.2.1, by have := hf.2.2.2; omega⟩
  · rw [if_neg (show ¬ shS a m h = 4 by omega), if_neg (show ¬ shS a m h = 4 by omega)]
    have e := sz_put x.1 x.2.1 (show h ≠ 6 by omega)
    refine ⟨MX_succ M ⟨fun s hs h6 => ?_, fun s s' hs hs' h6 ee => ?_⟩ e, fun z f hz hf h6 hf6 hfit => ?_, e⟩
    · by_cases c : s = shS a m h
      · subst c; rw [up_at]; exact ⟨Or.inr rfl, x.2.2.1⟩
      · rw [up_ne c] at h6 ⊢
        exact ⟨Or.inl (M.1.1 s hs h6).1, (M.1.1 s hs h6).2⟩
    · have nr : ∀ t, t < 4 → m t ≠ h := fun t ht z => hR (z ▸ (M.1.1 t ht (by omega)).1)
      by_cases c : s = shS a m h
      · by_cases c' : s' = shS a m h
        · omega
        · rw [c, up_at, up_ne c'] at ee
          exact absurd ee.symm (nr s' hs')
      · by_cases c' : s' = shS a m h
        · rw [c', up_at, up_ne c] at ee
          exact absurd ee (nr s hs)
        · rw [up_ne c] at h6 ee
          rw [up_ne c'] at ee
          exact M.1.2 s s' hs hs' h6 ee
    · have cf : f ≠ shS a m h := fun c => by
        rw [c, up_at] at hf6
        omega
      rw [up_ne cf] at hf6
      by_cases c : z = shS a m h
      · rw [c, up_at] at hfit
        rw [c]
        exact x.2.2.2 f hf hf6 hfit
      · rw [up_ne c] at h6 hfit
        exact G z f hz hf h6 hf6 hfit
