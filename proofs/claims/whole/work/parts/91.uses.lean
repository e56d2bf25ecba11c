/-! THE BEST USES, SET BY SET -/
def pop (s : Nat) : Nat := nC (fun i => s.testBit i = true) 0 6
theorem pop_or : ∀ s, s < 64 → ∀ d, d < 6 → s.testBit d = false → pop (s ||| 2 ^ d) = pop s + 1 ∧ (s ||| 2 ^ d) < 64 := by decide +kernel
theorem set_x : ∀ T, T < 64 → ∀ T', T' < 64 → ∀ d, d < 6 → ((T'.testBit d = false ∧ (T' ||| 2 ^ d) = T) ↔ (T.testBit d = true ∧ T' = T ^^^ 2 ^ d)) := by decide +kernel
theorem set_lt : ∀ T, T < 64 → ∀ d, d < 6 → (T ^^^ 2 ^ d) < 64 ∧ (T.testBit d = true → (T ^^^ 2 ^ d) < T) ∧ (T.testBit d = true → (T ^^^ 2 ^ d).testBit d = false) := by decide +kernel
def uT (a : Nat → Nat) : Nat → Nat → Nat → Nat → Option Nat
  | 0, _, set, _ => some set
  | j + 1, rest, set, s =>
    if rest % 7 < 6 then
      if fit a (rest % 7) s ∧ set.testBit (rest % 7) = false then uT a j (rest / 7) (set ||| 2 ^ (rest % 7)) (s + 1) else none
    else uT a j (rest / 7) set (s + 1)
theorem uU_uT {a : Nat → Nat} : ∀ {j rest set n s : Nat}, set < 64 → n = pop set → uU a j rest set n s = (uT a j rest set s).map pop ∧ ∀ T, uT a j rest set s = some T → T < 64
  | 0, rest, set, n, s, h, hn => ⟨by show some n = some (pop set); rw [hn], fun T e => by cases e; exact h⟩
  | j + 1, rest, set, n, s, h, hn => by
    rw [uU, uT]
    by_cases c : rest % 7 < 6
    · rw [if_pos c, if_pos c]
      by_cases g : fit a (rest % 7) s ∧ set.testBit (rest % 7) = false
      · rw [if_pos g, if_pos g]
        have p := pop_or set h (rest % 7) c g.2
        exact uU_uT p.2 (by rw [p.1, hn])
      · rw [if_neg g, if_neg g]
        exact ⟨rfl, fun T e => by cases e⟩
    · rw [if_neg c, if_neg c]
      exact uU_uT h hn
def stp (a : Nat → Nat) (d s T : Nat) : Option Nat := if d < 6 then (if fit a d s ∧ T.testBit d = false then some (T ||| 2 ^ d) else none) else some T
theorem uT_un {a : Nat → Nat} {j rest set s : Nat} : uT a (j + 1) rest set s = (if rest % 7 < 6 then
      if fit a (rest % 7) s ∧ set.testBit (rest % 7) = false then uT a j (rest / 7) (set ||| 2 ^ (rest % 7)) (s + 1) else none
    else uT a j (rest / 7) set (s + 1)) := rfl
theorem uT_snoc {a : Nat → Nat} : ∀ {j rest set s : Nat}, uT a (j + 1) rest set s = (uT a j rest set s).bind (stp a (dg rest j) (s + j))
  | 0, rest, set, s => by
    have e : dg rest 0 = rest % 7 := by show rest / 7 ^ 0 % 7 = rest % 7; rw [Nat.pow_zero, Nat.div_one]
    show uT a 1 rest set s = stp a (dg rest 0) s set
    rw [e, uT_un, stp]
    rfl
  | j + 1, rest, set, s => by
    have u1 := uT_un (a := a) (j := j + 1) (rest := rest) (set := set) (s := s)
    have u2 := uT_un (a := a) (j := j) (rest := rest) (set := set) (s := s)
    rw [u1, u2]
    by_cases c : rest % 7 < 6
    · rw [if_pos c, if_pos c]
      by_cases g : fit a (rest % 7) s ∧ set.testBit (rest % 7) = false
      · rw [if_pos g, if_pos g, uT_snoc (j := j), dg_s, show s + 1 + j = s + (j + 1) from by omega]
      · rw [if_neg g, if_neg g]; rfl
    · rw [if_neg c, if_neg c, uT_snoc (j := j), dg_s, show s + 1 + j = s + (j + 1) from by omega]
theorem uT_low {a : Nat → Nat} {d : Nat} : ∀ {j r set s : Nat}, uT a j (r + 7 ^ j * d) set s = uT a j r set s
  | 0, _, _, _ => rfl
  | j + 1, r, set, s => by
    have e : 7 ^ (j + 1) * d = 7 * (7 ^ j * d) := by rw [Nat.pow_succ, Nat.mul_comm (7 ^ j) 7, Nat.mul_assoc]
    rw [uT, uT, e, Nat.add_mul_mod_self_left, Nat.add_mul_div_left _ _ (by decide)]
    by_cases c : r % 7 < 6
    · rw [if_pos c, if_pos c]
      by_cases g : fit a (r % 7) s ∧ set.testBit (r % 7) = false
      · rw [if_pos g, if_pos g, uT_low (j := j)]
      · rw [if_neg g, if_neg g]
    · rw [if_neg c, if_neg c, uT_low (j := j)]
theorem nC_app {p : Nat → Prop} [DecidablePred p] {j : Nat} : ∀ {i k : Nat}, nC p k (i + j) = nC p k i + nC p (k + i) j
  | 0, k => by rw [Nat.zero_add, Nat.add_zero]; show _ = 0 + _; rw [Nat.zero_add]
  | i + 1, k => by
    rw [show i + 1 + j = (i + j) + 1 from by omega]
    show (if p k then 1 else 0) + nC p (k + 1) (i + j) = (if p k then 1 else 0) + nC p (k + 1) i + nC p (k + (i + 1)) j
    rw [nC_app (i := i), show k + 1 + i = k + (i + 1) from by omega, Nat.add_assoc]
theorem nT_snoc {f : Nat → Nat} : ∀ {j k : Nat}, nT f k (j + 1) = nT f k j + f (k + j)
  | 0, k => by
    show f k + 0 = 0 + f (k + 0)
    rw [Nat.add_zero, Nat.add_zero, Nat.zero_add]
  | j + 1, k => by
    have ih := nT_snoc (f := f) (j := j) (k := k + 1)
    show f k + nT f (k + 1) (j + 1) = f k + nT f (k + 1) j + f (k + (j + 1))
    rw [ih, show k + 1 + j = k + (j + 1) from by omega, Nat.add_assoc]
theorem nC_blocks {p : Nat → Prop} [DecidablePred p] {N : Nat} : ∀ {m : Nat}, nC p 0 (N * m) = nT (fun d => nC (fun r => p (r + N * d)) 0 N) 0 m
  | 0 => rfl
  | m + 1 => by
    have sh := nC_shift (p := p) (i := N * m) (j := N) (k := 0)
    rw [Nat.mul_succ, nC_app, nT_snoc, nC_blocks (m := m), sh, Nat.zero_add]
def KT (a : Nat → Nat) (s T : Nat) : Nat := nC (fun c => uT a s c 0 0 = some T) 0 (7 ^ s)
theorem KT_0 {a : Nat → Nat} {T : Nat} : KT a 0 T = if T = 0 then 1 else 0 := by
  show (if (some 0 : Option Nat) = some T then 1 else 0) + 0 = _
  by_cases c : T = 0
  · rw [if_pos c, if_pos (by rw [c])]
  · rw [if_neg c, if_neg (fun e => c (Option.some.inj e).symm)]
theorem KT_le {a : Nat → Nat} {s T : Nat} : KT a s T ≤ 7 ^ s := nC_le
theorem KT_s {a : Nat → Nat} {s T : Nat} (hT : T < 64) : KT a (s + 1) T = KT a s T + nT (fun d => if fit a d s ∧ T.testBit d = true then KT a s (T ^^^ 2 ^ d) else 0) 0 6 := by
  have pos : 0 < 7 ^ s := Nat.pow_pos (by decide)
  have B : KT a (s + 1) T = nT (fun d => nC (fun r => uT a (s + 1) (r + 7 ^ s * d) 0 0 = some T) 0 (7 ^ s)) 0 7 := by
    show nC _ 0 (7 ^ (s + 1)) = _
    rw [Nat.pow_succ]
    exact nC_blocks
  have E : ∀ d r, r < 7 ^ s → d < 7 → uT a (s + 1) (r + 7 ^ s * d) 0 0 = (uT a s r 0 0).bind (stp a d s) := fun d r hr hd => by
    rw [uT_snoc, uT_low, Nat.zero_add]
    congr 1
    have : dg (r + 7 ^ s * d) s = d := by
      show (r + 7 ^ s * d) / 7 ^ s % 7 = d
      rw [Nat.add_mul_div_left _ _ pos, Nat.div_eq_of_lt hr, Nat.zero_add, Nat.mod_eq_of_lt hd]
    rw [this]
  rw [B, nT_snoc, Nat.zero_add, Nat.add_comm]
  congr 1
  · exact nC_eq fun r _ hr => by
      rw [E 6 r (by omega) (by omega)]
      cases uT a s r 0 0 with
      | none => exact Iff.rfl
      | some T' => show stp a 6 s T' = some T ↔ _; rw [stp, if_neg (by omega)]
  · refine nT_eq fun d _ hd => ?_
    by_cases g : fit a d s ∧ T.testBit d = true
    · rw [if_pos g]
      exact nC_eq fun r _ hr => by
        rw [E d r (by omega) (by omega)]
        have lt := (uU_uT (a := a) (j := s) (rest := r) (set := 0) (n := 0) (s := 0) (by decide) (by decide)).2
        cases hu : uT a s r 0 0 with
        | none => constructor <;> intro x <;> cases x
        | some T' =>
          have x := set_x T hT T' (lt T' hu) d (by omega)
          show stp a d s T' = some T ↔ _
          rw [stp, if_pos (by omega)]
          constructor
          · intro y
            by_cases z : fit a d s ∧ T'.testBit d = false
            · rw [if_pos z] at y
              rw [(x.mp ⟨z.2, Option.some.inj y⟩).2]
            · rw [if_neg z] at y; cases y
          · intro y
            have y := Option.some.inj y
            have w := x.mpr ⟨g.2, y⟩
            rw [if_pos ⟨g.1, w.1⟩, w.2]
    · rw [if_neg g]
      exact nC_0 fun r _ hr => by
        rw [E d r (by omega) (by omega)]
        have lt := (uU_uT (a := a) (j := s) (rest := r) (set := 0) (n := 0) (s := 0) (by decide) (by decide)).2
        cases hu : uT a s r 0 0 with
        | none => intro x; cases x
        | some T' =>
          have x := set_x T hT T' (lt T' hu) d (by omega)
          show ¬ stp a d s T' = some T
          rw [stp, if_pos (by omega)]
          intro y
          by_cases z : fit a d s ∧ T'.testBit d = false
          · rw [if_pos z] at y
            exact g ⟨z.1, (x.mp ⟨z.2, Option.some.inj y⟩).1⟩
          · rw [if_neg z] at y; cases y
/-! one slip more, in place: sets above t are done, and of set t the hulls below k -/
abbrev aCd (a : Nat → Nat) (s t k T h : Nat) : Prop := (fit a h s ∧ T.testBit h = true) ∧ (t < (T ^^^ 2 ^ h) ∨ ((T ^^^ 2 ^ h) = t ∧ h < k))
def aU (a : Nat → Nat) (U : Nat → Nat) (s t k T : Nat) : Nat := U T + nT (fun h => if aCd a s t k T h then U (T ^^^ 2 ^ h) else 0) 0 6
theorem nT_0 {f : Nat → Nat} : ∀ {j k : Nat}, (∀ i, k ≤ i → i < k + j → f i = 0) → nT f k j = 0
  | 0, _, _ => rfl
  | j + 1, k, h => by
    show f k + nT f (k + 1) j = 0
    rw [h k (Nat.le_refl _) (by omega), nT_0 (fun i h1 h2 => h i (by omega) (by omega))]
theorem aU_self {a U : Nat → Nat} {s t k : Nat} (ht : t < 64) : aU a U s t k t = U t := by
  unfold aU
  rw [nT_0 (fun h _ hh => if_neg (fun c => by
    have := (set_lt t ht h (by omega)).2.1 c.1.2
    have := c.2
    omega))]
  rfl
theorem aU_63 {a U : Nat → Nat} {s T : Nat} (hT : T < 64) : aU a U s 63 0 T = U T := by
  unfold aU
  rw [nT_0 (fun h _ hh => if_neg (fun c => by
    have := (set_lt T hT h (by omega)).1
    have := c.2
    omega))]
  rfl
theorem aU_next {a U : Nat → Nat} {s t T : Nat} : aU a U s (t + 1) (a 0) T = aU a U s t 0 T := by
  unfold aU
  congr 1
  exact nT_eq fun h _ _ => by
    show (if aCd a s (t + 1) (a 0) T h then _ else 0) = (if aCd a s t 0 T h then _ else 0)
    by_cases c : aCd a s t 0 T h
    · rw [if_pos c, if_pos ⟨c.1, by have := c.2; have := c.1.1.1; omega⟩]
    · rw [if_neg c, if_neg (fun x => c ⟨x.1, by have := x.2; omega⟩)]
theorem aU_end {a U : Nat → Nat} {s T : Nat} : aU a U s 0 (a 0) T = U T + nT (fun d => if fit a d s ∧ T.testBit d = true then U (T ^^^ 2 ^ d) else 0) 0 6 := by
  unfold aU
  congr 1
  exact nT_eq fun h _ _ => by
    show (if aCd a s 0 (a 0) T h then _ else 0) = _
    by_cases c : fit a h s ∧ T.testBit h = true
    · rw [if_pos c, if_pos ⟨c, by have := c.1.1; omega⟩]
    · rw [if_neg c, if_neg (fun x => c x.1)]
theorem aU_no {a U : Nat → Nat} {s t k T : Nat} (hT : T < 64) (hk : k < 6) (h : ¬ (t.testBit k = false ∧ fit a k s)) : aU a U s t (k + 1) T = aU a U s t k T := by
  unfold aU
  congr 1
  exact nT_eq fun i _ _ => by
    show (if aCd a s t (k + 1) T i then _ else 0) = (if aCd a s t k T i then _ else 0)
    by_cases c : aCd a s t k T i
    · rw [if_pos c, if_pos ⟨c.1, by have := c.2; omega⟩]
    · rw [if_neg c, if_neg (fun x => by
        have x2 := x.2
        by_cases e : i = k
        · subst e
          rcases x2 with y | y
          · exact c ⟨x.1, Or.inl y⟩
          · exact h ⟨by rw [← y.1]; exact (set_lt T hT i hk).2.2 x.1.2, x.1.1⟩
        · exact c ⟨x.1, by omega⟩)]
theorem aU_yes {a U : Nat → Nat} {s t k T : Nat} (ht : t < 64) (hT : T < 64) (hk : k < 6) (h : t.testBit k = false ∧ fit a k s) : aU a U s t (k + 1) T = if T = t ||| 2 ^ k then aU a U s t k T + U t else aU a U s t k T := by
  have x := set_x T hT t ht k hk
  by_cases e : T = t ||| 2 ^ k
  · rw [if_pos e]
    have w := x.mp ⟨h.1, e.symm⟩
    unfold aU
    have one := nT_one (f := fun i => if aCd a s t k T i then U (T ^^^ 2 ^ i) else 0) (f' := fun i => if aCd a s t (k + 1) T i then U (T ^^^ 2 ^ i) else 0) (p := k) (fun i hi => by
      show (if aCd a s t (k + 1) T i then _ else 0) = (if aCd a s t k T i then _ else 0)
      by_cases c : aCd a s t k T i
      · rw [if_pos c, if_pos ⟨c.1, by have := c.2; omega⟩]
      · rw [if_neg c, if_neg (fun y => c ⟨y.1, by have := y.2; omega⟩)]) (if_neg (fun y => by have := y.2; have := w.2; omega)) (j := 6) (k := 0) (Nat.zero_le _) (by omega)
    rw [one]
    show _ + (_ + (if aCd a s t (k + 1) T k then U (T ^^^ 2 ^ k) else 0)) = _
    rw [if_pos ⟨⟨h.2, w.1⟩, Or.inr ⟨w.2.symm, by omega⟩⟩, ← w.2, Nat.add_assoc]
  · rw [if_neg e]
    unfold aU
    congr 1
    exact nT_eq fun i _ _ => by
      show (if aCd a s t (k + 1) T i then _ else 0) = (if aCd a s t k T i then _ else 0)
      by_cases c : aCd a s t k T i
      · rw [if_pos c, if_pos ⟨c.1, by have := c.2; omega⟩]
      · rw [if_neg c, if_neg (fun y => by
          have y2 := y.2
          by_cases ei : i = k
          · subst ei
            rcases y2 with z | z
            · exact c ⟨y.1, Or.inl z⟩
            · exact e (x.mpr ⟨y.1.2, z.1.symm⟩).2.symm
          · exact c ⟨y.1, by omega⟩)]
/-- the class's rows of uses -/
def UM (μ : fM) (U : Nat → Nat) : Prop := ∀ T, T < 64 → μ.1 26 0 0 T = nI (U T)
theorem bit_and : ∀ s, s < 64 → ∀ h, h < 6 → ((nI s &&& ((1 : Int32) <<< (nI h &&& 31))) = 0 ↔ s.testBit h = false) := by decide +kernel
theorem c_add_1 {u s t : Nat} {a U : Nat → Nat} (O : OKA u a) (hs : s < 4) (ht : t < 64) : ∀ j k (μ : fM) z, k + j = a 0 → YR μ 0 a → UM μ (aU a U s t k) → ∃ μ' z', (∀ res, fEnds (fun zz => frun eX4_addUsesWith tX4_addUsesWith zz 66 [kR 4 0 0, kR 6 0 0, kN s, kN t, kN (a 0), z'] [] μ' 0 0) res → fEnds (fun zz => frun eX4_addUsesWith tX4_addUsesWith zz 10 [kR 4 0 0, kR 6 0 0, kN s, kN t, kN k, z] [] μ 0 0) res) ∧ UM μ' (aU a U s t (a 0)) ∧ sX' slP μ μ'
  | 0, k, μ, z, e, Y, M => by
    have h6 := O.hulls
    have hb := Y.begun
    obtain rfl : k = a 0 := e
    refine ⟨μ, z, fun res R => ?_, M, sX_refl⟩
    refine fE_pos (by show μ.1 6 0 0 4 ≤ nI (a 0); rw [hb]; exact nI_le (Nat.le_refl _) (by omega)) 4 (fun _ => rfl) ?_
    exact R
  | j + 1, k, μ, z, e, Y, M => by
    have h6 := O.hulls
    have hb := Y.begun
    have cf := c_fits Y O (show k < a 0 by omega) hs
    have ba := bit_and t ht k (by omega)
    have bs := bit_set t ht k (by omega)
    have nb : ¬ μ.1 6 0 0 4 ≤ nI k := fun p => by rw [hb] at p; have := (nI_leI (by omega) (by omega)).mp p; omega
    by_cases c : t.testBit k = false ∧ fit a k s
    · have m0 := M (t ||| 2 ^ k) bs.2
      have m1 := M t ht
      rw [aU_self ht] at m1
      obtain ⟨μ', z', r1, r2, r3⟩ := c_add_1 O hs ht j (k + 1) (fI μ 26 0 0 (t ||| 2 ^ k) (nI (aU a U s t k (t ||| 2 ^ k) + U t))) (some (vI ((1 : Int32) <<< (nI k &&& 31)))) (by omega) (YR_sl Y (sX_fI (Or.inr (Or.inr rfl)))) (fun T hT => by
        rw [aU_yes ht hT (by omega) c]
        by_cases eT : T = t ||| 2 ^ k
        · rw [eT, fI_at, if_pos rfl]
        · rw [fI_ne (by omega), if_neg eT, M T hT])
      refine ⟨μ', z', fun res R => ?_, r2, sX_trans (sX_fI (Or.inr (Or.inr rfl))) r3⟩
      have R' := r1 res R
      refine fE_neg (nb) 4 (fun _ => rfl) ?_
      refine fE_pos (ba.mpr c.1) 8 (fun _ => rfl) ?_
      refine fE_call (cf) 4 (fun _ => rfl) ?_
      refine fE_neg (fun p => bI_0.mp p c.2) 1 (fun _ => rfl) ?_
      refine fE_step (y := fun zz => frun _ _ zz 50 [kR 4 0 0, kR 6 0 0, kN s, kN t, kN k, kX ((1 : Int32) <<< (nI k &&& 31))] [vI (nI t ||| ((1 : Int32) <<< (nI k &&& 31))), vR 26 0 0] _ 0 0) 5 (fun _ => rfl) ?_
      rw [bs.1]
      refine fE_pos (by refine g_in (k := t ||| 2 ^ k) ?_ (show t ||| 2 ^ k < 64 from by omega) (show 64 < 2 ^ 31 from by decide); first | rfl | (simp (disch := omega) only [fLit, nI_add, pk_mul, pk_rem, pk_sub, nI_clamp]; done)) 2 (fun _ => rfl) ?_
      refine fE_pos (by refine g_in (k := t) ?_ (show t < 64 from by omega) (show 64 < 2 ^ 31 from by decide); first | rfl | (simp (disch := omega) only [fLit, nI_add, pk_mul, pk_rem, pk_sub, nI_clamp]; done)) 4 (fun _ => rfl) ?_
      refine fE_pos (by refine g_in (k := t ||| 2 ^ k) ?_ (show t ||| 2 ^ k < 64 from by omega) (show 64 < 2 ^ 31 from by decide); first | rfl | (simp (disch := omega) only [fLit, nI_add, pk_mul, pk_rem, pk_sub, nI_clamp]; done)) 2 (fun _ => rfl) ?_
      refine fE_step (y := fun zz => frun _ _ zz 10 [kR 4 0 0, kR 6 0 0, kN s, kN t, kX (nI k + 1), kX ((1 : Int32) <<< (nI k &&& 31))] [] (fI μ 26 0 0 (nI (t ||| 2 ^ k)).toNatClampNeg (μ.1 26 0 0 (nI (t ||| 2 ^ k)).toNatClampNeg + μ.1 26 0 0 (nI t).toNatClampNeg)) 0 0) 2 (fun _ => rfl) ?_
      rw [nI_clamp (show (t ||| 2 ^ k) < 2 ^ 31 by omega), nI_clamp (show t < 2 ^ 31 by omega), m0, m1, nI_add, nI_1]
      exact R'
    · obtain ⟨μ', z', r1, r2, r3⟩ := c_add_1 O hs ht j (k + 1) μ (some (vI ((1 : Int32) <<< (nI k &&& 31)))) (by omega) Y (fun T hT => by rw [aU_no hT (by omega) c]; exact M T hT)
      refine ⟨μ', z', fun res R => ?_, r2, r3⟩
      have R' := r1 res R
      have go : fEnds (fun zz => frun eX4_addUsesWith tX4_addUsesWith zz 60 [kR 4 0 0, kR 6 0 0, kN s, kN t, kN k, kX ((1 : Int32) <<< (nI k &&& 31))] [] μ 0 0) res := by
        skip
        refine fE_step (y := fun zz => frun _ _ zz 10 [kR 4 0 0, kR 6 0 0, kN s, kN t, kX (nI k + 1), kX ((1 : Int32) <<< (nI k &&& 31))] [] _ 0 0) 2 (fun _ => rfl) ?_
        rw [nI_1]
        exact R'
      refine fE_neg (nb) 4 (fun _ => rfl) ?_
      refine fE_ite 8 (fun _ => rfl) (fun q => ?_) (fun q => ?_)
      · skip
        have q := ba.mp q
        refine fE_call (cf) 4 (fun _ => rfl) ?_
        refine fE_pos (bI_0.mpr (fun g => c ⟨q, g⟩)) 1 (fun _ => rfl) ?_
        exact go
      · skip
        exact go
theorem c_add_z {s n : Nat} {μ : fM} {z' : Option fV} : fEnds (fun zz => frun eX4_addUsesWith tX4_addUsesWith zz 3 [kR 4 0 0, kR 6 0 0, kN s, kX (-1), kN n, z'] [] μ 0 0) (.inl none, μ) := by
  skip
  exact fE_ret 3 (fun _ => rfl)
theorem fr_iinc {E : fE} {t : fTb} {n pc : Nat} {L : List (Option fV)} {S : List fV} {μ : fM} {cc ss nx a b : Nat} {v x : Int32} {i : Nat} {j : Int} {ts : List Nat} (h : flk t pc = some (.iinc i j, nx, a, b, v, ts)) (hx : L[a]? = some (some (vI x))) : frun E t (n + 1) pc L S μ cc ss = frun E t n nx (fput1 L a (some (vI (x + v)))) S μ cc ss := by
  show (match flk t pc with | none => none | some o => fstep E o pc L S μ cc ss (frun E t n)) = _
  rw [h]
  show (match L[a]? with | some (some (.inr (.inl x))) => frun E t n nx (fput1 L a (some (vI (x + v)))) S μ cc ss | _ => none) = _
  rw [hx]
theorem c_add_3b {s t n : Nat} {μ : fM} {z' : Option fV} {res : fR} (R : fEnds (fun zz => frun eX4_addUsesWith tX4_addUsesWith zz 3 [kR 4 0 0, kR 6 0 0, kN s, kX (nI t + (-1)), kN n, z'] [] μ 0 0) res) : fEnds (fun zz => frun eX4_addUsesWith tX4_addUsesWith zz 66 [kR 4 0 0, kR 6 0 0, kN s, kN t, kN n, z'] [] μ 0 0) res := by
  have G : ∀ w : Int32, fEnds (fun zz => frun eX4_addUsesWith tX4_addUsesWith zz 3 [kR 4 0 0, kR 6 0 0, kN s, kX w, kN n, z'] [] μ 0 0) res → fEnds (fun zz => frun eX4_addUsesWith tX4_addUsesWith zz 69 [kR 4 0 0, kR 6 0 0, kN s, kX w, kN n, z'] [] μ 0 0) res := fun w R => by
    refine fE_step (y := fun zz => frun _ _ zz 3 [kR 4 0 0, kR 6 0 0, kN s, kX w, kN n, z'] [] _ 0 0) 1 (fun _ => rfl) ?_
    exact R
  refine fE_step 1 (fun _ => fr_iinc (x := nI t) (v := -1) (a := 3) rfl rfl) ?_
  exact G _ R
theorem c_add_3a {s t : Nat} (ht : t < 64) {μ : fM} {z z5 : Option fV} {res : fR} (R : fEnds (fun zz => frun eX4_addUsesWith tX4_addUsesWith zz 10 [kR 4 0 0, kR 6 0 0, kN s, kN t, kN 0, z5] [] μ 0 0) res) : fEnds (fun zz => frun eX4_addUsesWith tX4_addUsesWith zz 3 [kR 4 0 0, kR 6 0 0, kN s, kN t, z, z5] [] μ 0 0) res := by
  skip
  refine fE_neg (fun p => absurd p (Int32.not_lt.mpr (by rw [fLit]; exact nI_le (by omega) (by omega)))) 2 (fun _ => rfl) ?_
  refine fE_step (y := fun zz => frun _ _ zz 10 [kR 4 0 0, kR 6 0 0, kN s, kN t, kN 0, z5] [] _ 0 0) 2 (fun _ => rfl) ?_
  exact R
theorem c_add_3 {u s t : Nat} {a U : Nat → Nat} (O : OKA u a) (hs : s < 4) {μ : fM} {z z5 : Option fV} (ht : t < 64) (Y : YR μ 0 a) (M : UM μ (aU a U s t 0)) : ∃ μ1 z', (∀ res, fEnds (fun zz => frun eX4_addUsesWith tX4_addUsesWith zz 3 [kR 4 0 0, kR 6 0 0, kN s, kX (nI t + (-1)), kN (a 0), z'] [] μ1 0 0) res → fEnds (fun zz => frun eX4_addUsesWith tX4_addUsesWith zz 3 [kR 4 0 0, kR 6 0 0, kN s, kN t, z, z5] [] μ 0 0) res) ∧ UM μ1 (aU a U s t (a 0)) ∧ sX' slP μ μ1 := by
  obtain ⟨μ1, z', r1, r2, r3⟩ := c_add_1 O hs ht (a 0) 0 μ z5 (Nat.zero_add _) Y M
  exact ⟨μ1, z', fun res R => c_add_3a ht (r1 res (c_add_3b R)), r2, r3⟩
theorem c_add_2 {u s : Nat} {a U : Nat → Nat} (O : OKA u a) (hs : s < 4) : ∀ t (μ : fM) z z5, t < 64 → YR μ 0 a → UM μ (aU a U s t 0) → ∃ μ', fEnds (fun zz => frun eX4_addUsesWith tX4_addUsesWith zz 3 [kR 4 0 0, kR 6 0 0, kN s, kN t, z, z5] [] μ 0 0) (.inl none, μ') ∧ UM μ' (aU a U s 0 (a 0)) ∧ sX' slP μ μ' := fun t => by
  induction t with
  | zero =>
    intro μ z z5 ht Y M
    obtain ⟨μ1, z', r1, r2, r3⟩ := c_add_3 (z := z) (z5 := z5) O hs ht Y M
    refine ⟨μ1, r1 _ ?_, r2, r3⟩
    rw [show nI 0 + (-1) = (-1 : Int32) from by decide]
    exact c_add_z
  | succ t ih =>
    intro μ z z5 ht Y M
    obtain ⟨μ1, z', r1, r2, r3⟩ := c_add_3 (z := z) (z5 := z5) O hs ht Y M
    obtain ⟨μ', s1, s2, s3⟩ := ih μ1 (some (vI (nI (a 0)))) z' (by omega) (YR_sl Y r3) (fun T hT => by rw [← aU_next]; exact r2 T hT)
    refine ⟨μ', r1 _ ?_, s2, sX_trans r3 s3⟩
    rw [pk_m1]
    exact s1
theorem c_add {μ : fM} {u s : Nat} {a : Nat → Nat} (Y : YR μ 0 a) (O : OKA u a) (hs : s < 4) (M : UM μ (KT a s)) : ∃ μ', sX4_addUsesWith [vR 4 0 0, vR 6 0 0, vI (nI s)] μ = some (.inl none, μ') ∧ UM μ' (KT a (s + 1)) ∧ sX' slP μ μ' := by
  obtain ⟨μ', r1, r2, r3⟩ := c_add_2 (U := KT a s) O hs 63 μ none none (by decide) Y (fun T hT => by rw [aU_63 hT]; exact M T hT)
  refine ⟨μ', fsemV_of (Nat.le_of_ble_eq_true rfl) ?_, fun T hT => by rw [r2 T hT, aU_end, KT_s hT], r3⟩
  refine fE_step (y := fun zz => frun _ _ zz 3 [kR 4 0 0, kR 6 0 0, kN s, kN 63, none, none] [] _ 0 0) 2 (fun _ => rfl) ?_
  exact r1
/-! the sets with most hulls -/
def ush (x n : Int32) : Int32 := (x.toUInt32 >>> (n.toUInt32 &&& Int32.toUInt32 31)).toInt32
def bc1 (x : Int32) : Int32 := x - (ush x 1 &&& 1431655765)
def bc2 (x : Int32) : Int32 := (x &&& 858993459) + (ush x 2 &&& 858993459)
def bc3 (x : Int32) : Int32 := (x + ush x 4) &&& 252645135
def bc4 (x : Int32) : Int32 := x + ush x 8
def bc5 (x : Int32) : Int32 := x + ush x 16
theorem bc_ok : ∀ s, s < 64 → bc5 (bc4 (bc3 (bc2 (bc1 (nI s))))) &&& 63 = nI (pop s) := by decide +kernel
theorem j_bit {μ : fM} {s : Nat} (hs : s < 64) : sJ6_bitCount_0f7a4 [vI (nI s)] μ = some (.inl (some (vI (nI (pop s)))), μ) := by
  refine fsem_of (Nat.le_of_ble_eq_true rfl) ?_
  refine fE_ret2 42 (fun _ => rfl) ?_
  show (Sum.inl (some (vI (bc5 (bc4 (bc3 (bc2 (bc1 (nI s))))) &&& 63))), μ) = _
  rw [bc_ok s hs]
theorem pop_le : ∀ s, s < 64 → pop s ≤ 6 := by decide
def cB (U : Nat → Nat) : Nat → Nat → Nat × Nat → Nat × Nat
  | 0, _, q => q
  | j + 1, c, q => cB U j (c + 1) (if 0 < U c ∧ q.1 ≤ pop c then (pop c, if q.1 < pop c then U c else q.2 + U c) else q)
theorem cB_ok {U : Nat → Nat} : ∀ {j c : Nat} {q : Nat × Nat}, q.1 ≤ (cB U j c q).1 ∧ (∀ i, c ≤ i → i < c + j → 0 < U i → pop i ≤ (cB U j c q).1) ∧ ((cB U j c q).1 = q.1 ∨ ∃ i, c ≤ i ∧ i < c + j ∧ 0 < U i ∧ pop i = (cB U j c q).1) ∧ (cB U j c q).2 = (if (cB U j c q).1 = q.1 then q.2 else 0) + nT (fun i => if pop i = (cB U j c q).1 then U i else 0) c j
  | 0, c, q => ⟨Nat.le_refl _, fun i h1 h2 => absurd h2 (by omega), Or.inl rfl, by
    show q.2 = (if q.1 = q.1 then q.2 else 0) + 0
    rw [if_pos rfl, Nat.add_zero]⟩
  | j + 1, c, q => by
    have ih := cB_ok (U := U) (j := j) (c := c + 1) (q := if 0 < U c ∧ q.1 ≤ pop c then (pop c, if q.1 < pop c then U c else q.2 + U c) else q)
    have un : cB U (j + 1) c q = cB U j (c + 1) (if 0 < U c ∧ q.1 ≤ pop c then (pop c, if q.1 < pop c then U c else q.2 + U c) else q) := rfl
    rw [un]
    revert ih
    generalize cB U j (c + 1) (if 0 < U c ∧ q.1 ≤ pop c then (pop c, if q.1 < pop c then U c else q.2 + U c) else q) = r
    intro ih
    have cn : nT (fun i => if pop i = r.1 then U i else 0) c (j + 1) = (if pop c = r.1 then U c else 0) + nT (fun i => if pop i = r.1 then U i else 0) (c + 1) j := rfl
    rw [cn]
    by_cases g : 0 < U c ∧ q.1 ≤ pop c
    · rw [if_pos g] at ih
      have ih : pop c ≤ r.1 ∧ (∀ i, c + 1 ≤ i → i < c + 1 + j → 0 < U i → pop i ≤ r.1) ∧ (r.1 = pop c ∨ ∃ i, c + 1 ≤ i ∧ i < c + 1 + j ∧ 0 < U i ∧ pop i = r.1) ∧ r.2 = (if r.1 = pop c then (if q.1 < pop c then U c else q.2 + U c) else 0) + nT (fun i => if pop i = r.1 then U i else 0) (c + 1) j := ih
      refine ⟨by omega, fun i h1 h2 h3 => ?_, ?_, ?_⟩
      · by_cases e : i = c
        · subst e; exact ih.1
        · exact ih.2.1 i (by omega) (by omega) h3
      · rcases ih.2.2.1 with x | ⟨i, x1, x2, x3⟩
        · exact Or.inr ⟨c, by omega, by omega, g.1, x.symm⟩
        · exact Or.inr ⟨i, by omega, by omega, x3⟩
      · rw [ih.2.2.2]
        by_cases x : r.1 = pop c
        · rw [if_pos x, if_pos x.symm]
          by_cases l : q.1 < pop c
          · rw [if_pos l, if_neg (show ¬ r.1 = q.1 by omega)]; omega
          · rw [if_neg l, if_pos (show r.1 = q.1 by omega)]; omega
        · rw [if_neg x, if_neg (show ¬ r.1 = q.1 by omega), if_neg (show ¬ pop c = r.1 from fun y => x y.symm)]; omega
    · rw [if_neg g] at ih
      refine ⟨ih.1, fun i h1 h2 h3 => ?_, ?_, ?_⟩
      · by_cases e : i = c
        · subst e
          have := ih.1
          have : ¬ q.1 ≤ pop i := fun y => g ⟨h3, y⟩
          omega
        · exact ih.2.1 i (by omega) (by omega) h3
      · rcases ih.2.2.1 with x | ⟨i, x1, x2, x3⟩
        · exact Or.inl x
        · exact Or.inr ⟨i, by omega, by omega, x3⟩
      · have z : (if pop c = r.1 then U c else 0) = 0 := by
          by_cases x : pop c = r.1
          · rw [if_pos x]
            have := ih.1
            by_cases y : 0 < U c
            · exact absurd ⟨y, by omega⟩ g
            · omega
          · rw [if_neg x]
        rw [z, Nat.zero_add]
        exact ih.2.2.2
theorem nT_add {f g : Nat → Nat} : ∀ {j k : Nat}, nT (fun i => f i + g i) k j = nT f k j + nT g k j
  | 0, _ => rfl
  | j + 1, k => by
    show f k + g k + nT (fun i => f i + g i) (k + 1) j = f k + nT f (k + 1) j + (g k + nT g (k + 1) j)
    rw [nT_add]
    omega
/-- the codes by the sets of their hulls -/
theorem part_eq {a : Nat → Nat} {M : Nat} : ∀ {j k : Nat}, nC (fun c => uU a 4 c 0 0 0 = some M) k j = nT (fun T => if pop T = M then nC (fun c => uT a 4 c 0 0 = some T) k j else 0) 0 64
  | 0, k => (nT_0 fun i _ _ => by split <;> rfl).symm
  | j + 1, k => by
    have U := uU_uT (a := a) (j := 4) (rest := k) (set := 0) (n := 0) (s := 0) (by decide) (by decide)
    have e : (fun T => if pop T = M then nC (fun c => uT a 4 c 0 0 = some T) k (j + 1) else 0) = (fun T => (if pop T = M then (if uT a 4 k 0 0 = some T then 1 else 0) else 0) + (if pop T = M then nC (fun c => uT a 4 c 0 0 = some T) (k + 1) j else 0)) := by
      funext T
      by_cases x : pop T = M
      · rw [if_pos x, if_pos x, if_pos x]; rfl
      · rw [if_neg x, if_neg x, if_neg x]
    rw [e, nT_add, ← part_eq (j := j) (k := k + 1)]
    show (if uU a 4 k 0 0 0 = some M then 1 else 0) + _ = _
    refine congrArg (· + _) ?_
    rw [U.1]
    cases hu : uT a 4 k 0 0 with
    | none =>
      rw [nT_0 (fun i _ _ => by split; exact if_neg (fun x => by cases x); rfl)]
      exact if_neg (fun x => by cases x)
    | some T0 =>
      have lt := U.2 T0 hu
      have one := nT_one (f := fun _ => 0) (f' := fun T => if pop T = M then (if (some T0 : Option Nat) = some T then 1 else 0) else 0) (p := T0) (fun i hi => by
        show (if pop i = M then (if (some T0 : Option Nat) = some i then 1 else 0) else 0) = 0
        rw [if_neg (fun x : some T0 = some i => hi (Option.some.inj x).symm)]
        split <;> rfl) rfl (j := 64) (k := 0) (Nat.zero_le _) (by omega)
      rw [one, nT_0 (fun _ _ _ => rfl), Nat.zero_add]
      show (if some (pop T0) = some M then 1 else 0) = (if pop T0 = M then (if (some T0 : Option Nat) = some T0 then 1 else 0) else 0)
      rw [if_pos rfl]
      by_cases x : pop T0 = M
      · rw [if_pos x, if_pos (by rw [x])]
      · rw [if_neg x, if_neg (fun y => x (Option.some.inj y))]
theorem nC_ex {p : Nat → Prop} [DecidablePred p] : ∀ {j k : Nat}, 0 < nC p k j → ∃ i, k ≤ i ∧ i < k + j ∧ p i
  | 0, _, h => absurd h (Nat.lt_irrefl _)
  | j + 1, k, h => by
    by_cases c : p k
    · exact ⟨k, Nat.le_refl _, by omega, c⟩
    · have h : 0 < (if p k then 1 else 0) + nC p (k + 1) j := h
      rw [if_neg c, Nat.zero_add] at h
      obtain ⟨i, h1, h2, h3⟩ := nC_ex h
      exact ⟨i, by omega, by omega, h3⟩
theorem nC_pos {p : Nat → Prop} [DecidablePred p] {i : Nat} : ∀ {j k : Nat}, k ≤ i → i < k + j → p i → 0 < nC p k j
  | 0, _, h1, h2, _ => absurd h2 (by omega)
  | j + 1, k, h1, h2, hp => by
    show 0 < (if p k then 1 else 0) + nC p (k + 1) j
    by_cases e : k = i
    · subst e; rw [if_pos hp]; omega
    · have := nC_pos (j := j) (k := k + 1) (by omega) (by omega) hp
      omega
theorem best_eq {a : Nat → Nat} : cB (KT a 4) 64 0 (0, 0) = wU a := by
  have A := cB_ok (U := KT a 4) (j := 64) (c := 0) (q := (0, 0))
  have W := wW_ok (a := a) (j := 2401) (c := 0) (q := (0, 0))
  have U := fun c => uU_uT (a := a) (j := 4) (rest := c) (set := 0) (n := 0) (s := 0) (by decide) (by decide)
  have e1 : (cB (KT a 4) 64 0 (0, 0)).1 = (wU a).1 := by
    refine Nat.le_antisymm ?_ ?_
    · rcases A.2.2.1 with x | ⟨T, _, x2, x3, x4⟩
      · have x : (cB (KT a 4) 64 0 (0, 0)).1 = 0 := x
        omega
      · obtain ⟨c, c1, c2, c3⟩ := nC_ex x3
        have : uU a 4 c 0 0 0 = some (cB (KT a 4) 64 0 (0, 0)).1 := by rw [(U c).1, c3, ← x4]; rfl
        exact W.2.1 c _ (Nat.zero_le _) c2 this
    · rcases W.2.2.1 with x | ⟨c, _, x2, x3⟩
      · have x : (wU a).1 = 0 := x
        omega
      · have x3 : uU a 4 c 0 0 0 = some (wU a).1 := x3
        rw [(U c).1] at x3
        obtain ⟨T, t1, t2⟩ := Option.map_eq_some_iff.mp x3
        have := A.2.1 T (Nat.zero_le _) (by have := (U c).2 T t1; omega) (nC_pos (i := c) (Nat.zero_le _) x2 t1)
        omega
  refine Prod.ext e1 ?_
  have k4 : ∀ T, KT a 4 T = nC (fun c => uT a 4 c 0 0 = some T) 0 2401 := fun T => by unfold KT; rw [show (7:Nat)^4 = 2401 from by decide]
  have a2 := A.2.2.2
  have w2 : (wU a).2 = (if (wU a).1 = 0 then 0 else 0) + nC (fun i => uU a 4 i 0 0 0 = some (wU a).1) 0 2401 := W.2.2.2
  rw [a2, w2, e1, part_eq]
  show (if (wU a).1 = 0 then 0 else 0) + _ = (if (wU a).1 = 0 then 0 else 0) + _
  rw [nT_eq (f := fun T => if pop T = (wU a).1 then KT a 4 T else 0) (g := fun T => if pop T = (wU a).1 then nC (fun c => uT a 4 c 0 0 = some T) 0 2401 else 0) (fun T _ _ => by rw [k4])]
theorem c_cb_1 {μ : fM} {U : Nat → Nat} (M : UM μ U) (hU : ∀ T, T < 64 → U T ≤ 2401) : ∀ j c (q : Nat × Nat) z, c + j = 64 → q.1 ≤ 6 → q.2 ≤ 2401 * c → fEnds (fun zz => frun eX4_countBestUses tX4_countBestUses zz 54 [kR 4 0 0, kR 6 0 0, kN q.1, kN q.2, kN c, z] [] μ 0 0) (.inl (some (vI (nI (cB U j c q).2))), μ)
  | 0, c, q, z, e, h1, h2 => by
    obtain rfl : c = 64 := e
    exact fE_ret 5 (fun _ => rfl)
  | j + 1, c, q, z, e, h1, h2 => by
    have m := M c (by omega)
    have ul := hU c (by omega)
    have pl := pop_le c (by omega)
    have ec : (nI c).toNatClampNeg = c := nI_clamp (by omega)
    have un : cB U (j + 1) c q = cB U j (c + 1) (if 0 < U c ∧ q.1 ≤ pop c then (pop c, if q.1 < pop c then U c else q.2 + U c) else q) := rfl
    rw [un]
    have no : ¬ (0 < U c ∧ q.1 ≤ pop c) → fEnds (fun zz => frun eX4_countBestUses tX4_countBestUses zz 113 [kR 4 0 0, kR 6 0 0, kN q.1, kN q.2, kN c, kN (pop c)] [] μ 0 0) (.inl (some (vI (nI (cB U j (c + 1) (if 0 < U c ∧ q.1 ≤ pop c then (pop c, if q.1 < pop c then U c else q.2 + U c) else q)).2))), μ) := fun g => by
      rw [if_neg g]
      refine fE_step (y := fun zz => frun _ _ zz 54 [kR 4 0 0, kR 6 0 0, kN q.1, kN q.2, kX (nI c + 1), kN (pop c)] [] _ 0 0) 2 (fun _ => rfl) ?_
      rw [nI_1]
      exact c_cb_1 M hU j (c + 1) q _ (by omega) h1 (by omega)
    refine fE_neg (by first | omega | (simp (disch := omega) only [fLit, nI_add, pk_mul, pk_rem, nI_clamp, beq01, beq11, cond_false, cond_true, nI_leI, nI_ltI, nI_eq]; done) | (simp (disch := omega) only [fLit, nI_add, pk_mul, pk_rem, nI_clamp, beq01, beq11, cond_false, cond_true, nI_leI, nI_ltI, nI_eq]; omega)) 3 (fun _ => rfl) ?_
    refine fE_call (j_bit (s := c) (by omega)) 2 (fun _ => rfl) ?_
    refine fE_pos (by refine g_in (k := c) ?_ (show c < 64 from by omega) (show 64 < 2 ^ 31 from by decide); first | rfl | (simp (disch := omega) only [fLit, nI_add, pk_mul, pk_rem, pk_sub, nI_clamp]; done)) 5 (fun _ => rfl) ?_
    refine fE_ite 1 (fun _ => rfl) (fun g => ?_) (fun g => ?_)
    · skip
      change μ.1 26 0 0 (nI c).toNatClampNeg ≤ 0 at g
      rw [ec, m] at g
      have g := (nI_leI (b := 0) (by omega) (by omega)).mp g
      exact no (fun x => by omega)
    · skip
      change ¬ μ.1 26 0 0 (nI c).toNatClampNeg ≤ 0 at g
      rw [ec, m] at g
      have g : 0 < U c := Nat.not_le.mp fun x => g (nI_le (b := 0) x (by omega))
      refine fE_ite 3 (fun _ => rfl) (fun l => ?_) (fun l => ?_)
      · skip
        have l := (nI_ltI (by omega) (by omega)).mp l
        exact no (fun x => by omega)
      · skip
        have l : q.1 ≤ pop c := Nat.not_lt.mp fun x => l (nI_lt x (by omega))
        rw [if_pos ⟨g, l⟩]
        refine fE_ite 3 (fun _ => rfl) (fun w => ?_) (fun w => ?_)
        · skip
          have w := (nI_leI (by omega) (by omega)).mp w
          rw [if_neg (by omega)]
          refine fE_pos (by refine g_in (k := c) ?_ (show c < 64 from by omega) (show 64 < 2 ^ 31 from by decide); first | rfl | (simp (disch := omega) only [fLit, nI_add, pk_mul, pk_rem, pk_sub, nI_clamp]; done)) 5 (fun _ => rfl) ?_
          refine fE_step (y := fun zz => frun _ _ zz 54 [kR 4 0 0, kR 6 0 0, kN (pop c), kX (nI q.2 + μ.1 26 0 0 (nI c).toNatClampNeg), kX (nI c + 1), kN (pop c)] [] _ 0 0) 6 (fun _ => rfl) ?_
          rw [ec, m, nI_add, nI_1]
          exact c_cb_1 M hU j (c + 1) (pop c, q.2 + U c) _ (by omega) pl (by show q.2 + U c ≤ 2401 * (c + 1); omega)
        · skip
          have w : q.1 < pop c := Nat.not_le.mp fun x => w (nI_le x (by omega))
          rw [if_pos w]
          refine fE_pos (by refine g_in (k := c) ?_ (show c < 64 from by omega) (show 64 < 2 ^ 31 from by decide); first | rfl | (simp (disch := omega) only [fLit, nI_add, pk_mul, pk_rem, pk_sub, nI_clamp]; done)) 4 (fun _ => rfl) ?_
          refine fE_step (y := fun zz => frun _ _ zz 54 [kR 4 0 0, kR 6 0 0, kN (pop c), kX (μ.1 26 0 0 (nI c).toNatClampNeg), kX (nI c + 1), kN (pop c)] [] _ 0 0) 6 (fun _ => rfl) ?_
          rw [ec, m, nI_1]
          exact c_cb_1 M hU j (c + 1) (pop c, U c) _ (by omega) pl (by show U c ≤ 2401 * (c + 1); omega)
theorem c_sl_1 {u : Nat} {a : Nat → Nat} {res : fR} (O : OKA u a) : ∀ j s (μ : fM), s + j = 4 → YR μ 0 a → UM μ (KT a s) → (∀ μ' : fM, UM μ' (KT a 4) → sX' slP μ μ' → ∃ r, fEnds (fun zz => frun eX4_countBestUses tX4_countBestUses zz 47 [kR 4 0 0, kR 6 0 0, kN 4, none, none, none] [] μ' 0 0) r ∧ r.1 = res.1 ∧ sX' slP μ' r.2) → ∃ r, fEnds (fun zz => frun eX4_countBestUses tX4_countBestUses zz 30 [kR 4 0 0, kR 6 0 0, kN s, none, none, none] [] μ 0 0) r ∧ r.1 = res.1 ∧ sX' slP μ r.2
  | 0, s, μ, e, Y, M, K => by
    obtain rfl : s = 4 := e
    obtain ⟨r, r1, r2, r3⟩ := K μ M sX_refl
    refine ⟨r, ?_, r2, r3⟩
    refine fE_step (y := fun zz => frun _ _ zz 47 [kR 4 0 0, kR 6 0 0, kN 4, none, none, none] [] _ 0 0) 3 (fun _ => rfl) ?_
    exact r1
  | j + 1, s, μ, e, Y, M, K => by
    obtain ⟨μ1, q1, q2, q3⟩ := c_add Y O (show s < 4 by omega) M
    obtain ⟨r, r1, r2, r3⟩ := c_sl_1 (res := res) O j (s + 1) μ1 (by omega) (YR_sl Y q3) q2 (fun μ' h1 h2 => K μ' h1 (sX_trans q3 h2))
    refine ⟨r, ?_, r2, sX_trans q3 r3⟩
    refine fE_neg (by first | omega | (simp (disch := omega) only [fLit, nI_add, pk_mul, pk_rem, nI_clamp, beq01, beq11, cond_false, cond_true, nI_leI, nI_ltI, nI_eq]; done) | (simp (disch := omega) only [fLit, nI_add, pk_mul, pk_rem, nI_clamp, beq01, beq11, cond_false, cond_true, nI_leI, nI_ltI, nI_eq]; omega)) 3 (fun _ => rfl) ?_
    refine fE_call (q1) 4 (fun _ => rfl) ?_
    refine fE_step (y := fun zz => frun _ _ zz 30 [kR 4 0 0, kR 6 0 0, kX (nI s + 1), none, none, none] [] _ 0 0) 2 (fun _ => rfl) ?_
    rw [nI_1]
    exact r1
theorem c_z_1 {res : fR} : ∀ j c (μ : fM), c + j = 64 → (∀ i, i < c → μ.1 26 0 0 i = 0) → (∀ μ' : fM, (∀ i, i < 64 → μ'.1 26 0 0 i = 0) → sX' slP μ μ' → ∃ r, fEnds (fun zz => frun eX4_countBestUses tX4_countBestUses zz 21 [kR 4 0 0, kR 6 0 0, kN 64, none, none, none] [] μ' 0 0) r ∧ r.1 = res.1 ∧ sX' slP μ' r.2) → ∃ r, fEnds (fun zz => frun eX4_countBestUses tX4_countBestUses zz 2 [kR 4 0 0, kR 6 0 0, kN c, none, none, none] [] μ 0 0) r ∧ r.1 = res.1 ∧ sX' slP μ r.2
  | 0, c, μ, e, h0, K => by
    obtain rfl : c = 64 := e
    obtain ⟨r, r1, r2, r3⟩ := K μ h0 sX_refl
    refine ⟨r, ?_, r2, r3⟩
    refine fE_step (y := fun zz => frun _ _ zz 21 [kR 4 0 0, kR 6 0 0, kN 64, none, none, none] [] _ 0 0) 3 (fun _ => rfl) ?_
    exact r1
  | j + 1, c, μ, e, h0, K => by
    have S : sX' slP μ (fI μ 26 0 0 c 0) := sX_fI (Or.inr (Or.inr rfl))
    obtain ⟨r, r1, r2, r3⟩ := c_z_1 (res := res) j (c + 1) (fI μ 26 0 0 c 0) (by omega) (fun i hi => by
      by_cases x : i = c
      · subst x; exact fI_at
      · rw [fI_ne (by omega)]; exact h0 i (by omega)) (fun μ' h1 h2 => K μ' h1 (sX_trans S h2))
    refine ⟨r, ?_, r2, sX_trans S r3⟩
    refine fE_neg (by first | omega | (simp (disch := omega) only [fLit, nI_add, pk_mul, pk_rem, nI_clamp, beq01, beq11, cond_false, cond_true, nI_leI, nI_ltI, nI_eq]; done) | (simp (disch := omega) only [fLit, nI_add, pk_mul, pk_rem, nI_clamp, beq01, beq11, cond_false, cond_true, nI_leI, nI_ltI, nI_eq]; omega)) 3 (fun _ => rfl) ?_
    refine fE_pos (by refine g_in (k := c) ?_ (show c < 64 from by omega) (show 64 < 2 ^ 31 from by decide); first | rfl | (simp (disch := omega) only [fLit, nI_add, pk_mul, pk_rem, pk_sub, nI_clamp]; done)) 5 (fun _ => rfl) ?_
    refine fE_step (y := fun zz => frun _ _ zz 2 [kR 4 0 0, kR 6 0 0, kX (nI c + 1), none, none, none] [] (fI μ 26 0 0 (nI c).toNatClampNeg 0) 0 0) 2 (fun _ => rfl) ?_
    rw [nI_clamp (show c < 2 ^ 31 by omega), nI_1]
    exact r1
theorem c_cb {μ : fM} {u : Nat} {a : Nat → Nat} (Y : YR μ 0 a) (O : OKA u a) : ∃ μ', sX4_countBestUses [vR 4 0 0, vR 6 0 0] μ = some (.inl (some (vI (nI (wU a).2))), μ') ∧ sX' slP μ μ' := by
  obtain ⟨r, r1, r2, r3⟩ := c_z_1 (res := (.inl (some (vI (nI (wU a).2))), μ)) 64 0 μ rfl (fun i hi => absurd hi (Nat.not_lt_zero _)) (fun μ1 h1 h2 => by
    have S : sX' slP μ1 (fI μ1 26 0 0 0 1) := sX_fI (Or.inr (Or.inr rfl))
    obtain ⟨r, r1, r2, r3⟩ := c_sl_1 (res := (.inl (some (vI (nI (wU a).2))), μ)) O 4 0 (fI μ1 26 0 0 0 1) rfl (YR_sl (YR_sl Y h2) S) (fun T hT => by
      rw [KT_0]
      by_cases x : T = 0
      · subst x; rw [fI_at, if_pos rfl]; rfl
      · rw [fI_ne (by omega), if_neg x, h1 T hT]; rfl) (fun μ2 g1 g2 => by
      refine ⟨(.inl (some (vI (nI (wU a).2))), μ2), ?_, rfl, sX_refl⟩
      have R := c_cb_1 g1 (fun T _ => KT_le) 64 0 (0, 0) none rfl (Nat.zero_le _) (Nat.zero_le _)
      rw [best_eq] at R
      refine fE_step (y := fun zz => frun _ _ zz 54 [kR 4 0 0, kR 6 0 0, kN 0, kN 0, kN 0, none] [] _ 0 0) 6 (fun _ => rfl) ?_
      exact R
      )
    refine ⟨r, ?_, r2, sX_trans S r3⟩
    refine fE_step (y := fun zz => frun _ _ zz 30 [kR 4 0 0, kR 6 0 0, kN 0, none, none, none] [] (fI μ1 26 0 0 0 1) 0 0) 7 (fun _ => rfl) ?_
    exact r1
    )
  obtain ⟨r0, μ2⟩ := r
  have r2 : r0 = .inl (some (vI (nI (wU a).2))) := r2
  subst r2
  refine ⟨μ2, fsemV_of (Nat.le_of_ble_eq_true rfl) ?_, r3⟩
  refine fE_step (y := fun zz => frun _ _ zz 2 [kR 4 0 0, kR 6 0 0, kN 0, none, none, none] [] _ 0 0) 2 (fun _ => rfl) ?_
  exact r1
theorem k_bestUses {μ : fM} {u : Nat} {a : Nat → Nat} (Y : YR μ 0 a) (O : OKA u a) : ∃ μ', sX7_bestUses [vR 7 0 0] μ = some (.inl (some (vI (nI (wU a).2))), μ') ∧ sX' slP μ μ' := by
  obtain ⟨μ', r1, r2⟩ := c_cb Y O
  refine ⟨μ', fsemV_of (Nat.le_of_ble_eq_true rfl) ?_, r2⟩
  refine fE_call (r1) 5 (fun _ => rfl) ?_
  exact fE_ret 1 (fun _ => rfl)
