/-! THE CLASS MOVES HULLS, AND PUTS THEM BY LENGTHS -/
theorem c_fits {μ : fM} {u h s : Nat} {a : Nat → Nat} (Y : YR μ 0 a) (O : OKA u a) (hh : h < a 0) (hs : s < 4) : sX4_fits [vR 6 0 0, vI (nI h), vI (nI s)] μ = some (.inl (some (vI (bI (fit a h s)))), μ) := by
  have h6 := O.hulls
  have H := Y.hv (h := h) (by omega)
  have hf := H.1
  have b1 := O.fr h (by omega)
  have b2 := O.slip s hs
  have eh : (nI h).toNatClampNeg = h := nI_clamp (by omega)
  have es : (nI s).toNatClampNeg = s := nI_clamp (by omega)
  have ci : sX1_isForSlips [vR 1 0 (nI h).toNatClampNeg] μ = some (.inl (some (vI (bI (hS a h = 0 ∧ 2 ≤ hF a h)))), μ) := by
    rw [eh]
    exact c_isForSlips H (O.hb (by omega))
  refine fsem_of (Nat.le_of_ble_eq_true rfl) ?_
  refine fE_pos (by refine g_in (k := h) ?_ (show h < 6 from by omega) (show 6 < 2 ^ 31 from by decide); first | rfl | (simp (disch := omega) only [fLit, nI_add, pk_mul, pk_rem, pk_sub, nI_clamp]; done)) 4 (fun _ => rfl) ?_
  refine fE_call (ci) 1 (fun _ => rfl) ?_
  refine fE_ite 1 (fun _ => rfl) (fun q => ?_) (fun q => ?_)
  · skip
    have q := bI_0.mp q
    refine fE_ret2 2 (fun _ => rfl) ?_
    rw [bI_f (fun p => q ⟨p.2.1, p.2.2.1⟩)]
    rfl
  · skip
    have q := bI_n.mp q
    refine fE_pos (by refine g_in (k := s) ?_ (show s < 4 from by omega) (show 4 < 2 ^ 31 from by decide); first | rfl | (simp (disch := omega) only [fLit, nI_add, pk_mul, pk_rem, pk_sub, nI_clamp]; done)) 4 (fun _ => rfl) ?_
    refine fE_pos (by refine g_in (k := h) ?_ (show h < 6 from by omega) (show 6 < 2 ^ 31 from by decide); first | rfl | (simp (disch := omega) only [fLit, nI_add, pk_mul, pk_rem, pk_sub, nI_clamp]; done)) 4 (fun _ => rfl) ?_
    refine fE_ite 2 (fun _ => rfl) (fun r => ?_) (fun r => ?_)
    · skip
      change μ.1 15 0 0 (nI s).toNatClampNeg < μ.1 1 0 (nI h).toNatClampNeg 3 at r
      rw [eh, es, hf, Y.slip hs] at r
      have r := (nI_ltI (by omega) (by omega)).mp r
      refine fE_ret2 2 (fun _ => rfl) ?_
      rw [bI_f (fun p => by have := p.2.2.2; omega)]
      rfl
    · skip
      change ¬ μ.1 15 0 0 (nI s).toNatClampNeg < μ.1 1 0 (nI h).toNatClampNeg 3 at r
      rw [eh, es, hf, Y.slip hs] at r
      have r : ¬ aS a s < hF a h := fun p => r (nI_lt p (by omega))
      refine fE_ret2 3 (fun _ => rfl) ?_
      rw [bI_t ⟨hh, q.1, q.2, by omega⟩]
      rfl
def slP (C _y _h _k : Nat) : Prop := C = 24 ∨ C = 25 ∨ C = 26
theorem YR_sl {μ μ' : fM} {a : Nat → Nat} (Y : YR μ 0 a) (S : sX' slP μ μ') : YR μ' 0 a := YR_sY Y (sY_ofX (P := fun c _ => c = 24 ∨ c = 25 ∨ c = 26) S (fun c y h k p => p)) (fun c hc p => by have := hc.1; omega)
/-- the slips as the class holds them -/
def KH (μ : fM) (m : Nat → Nat) : Prop := ∀ s, s < 4 → μ.1 24 0 0 s = dF 6 (m s)
def KQ (μ : fM) (q : Nat → Bool) : Prop := ∀ s, s < 4 → μ.1 25 0 0 s = bI (q s = true)
def mOK (n : Nat) (m : Nat → Nat) : Prop := ∀ s, m s = 6 ∨ m s < n
theorem fpL_val {S : Nat → (Nat → Nat) → (Nat → Bool) → kSt} {F : Nat → Nat → Prop} [∀ h s, Decidable (F h s)] {n h : Nat} (hh : h < n) (hS : ∀ h m q, h < n → mOK n m → mOK n (S h m q).2.1) : ∀ {j s : Nat} {m : Nat → Nat} {q : Nat → Bool}, mOK n m → mOK n (fpL S F h j s m q).2.1
  | 0, _, _, _, M => M
  | j + 1, s, m, q, M => by
    have put : ∀ {m' : Nat → Nat}, mOK n m' → mOK n (up m' s h) := fun M' i => by
      by_cases e : i = s
      · subst e; rw [up_at]; exact Or.inr hh
      · rw [up_ne e]; exact M' i
    rw [fpL]
    by_cases c : q s = false ∧ F h s
    · rw [if_pos c]
      by_cases d : m s = 6
      · rw [if_pos d]; exact put M
      · rw [if_neg d]
        have r := hS (m s) m (uq q s) (by rcases M s with x | x; exact absurd x d; exact x) M
        split
        · exact put r
        · exact fpL_val hh hS r
    · rw [if_neg c]
      exact fpL_val hh hS M
theorem fpR_val {F : Nat → Nat → Prop} [∀ h s, Decidable (F h s)] {n : Nat} : ∀ f h m q, h < n → mOK n m → mOK n (fpR F f h m q).2.1
  | 0, _, _, _, _, M => M
  | f + 1, h, m, q, hh, M => fpL_val hh (fpR_val f) M
/-- what a level of the search answers -/
def fpS (a : Nat → Nat) (S : fS) (f d : Nat) : Prop := ∀ (μ : fM) (h : Nat) (m : Nat → Nat) (q : Nat → Bool), YR μ 0 a → h < a 0 → mOK (a 0) m → KH μ m → KQ μ q → ∃ μ', S [vR 4 0 0, vR 6 0 0, vI (nI h), vI (nI d)] μ = some (.inl (some (vI (bI ((fpR (fit a) f h m q).1 = true)))), μ') ∧ KH μ' (fpR (fit a) f h m q).2.1 ∧ KQ μ' (fpR (fit a) f h m q).2.2 ∧ sX' slP μ μ'
theorem KH_out {μ μ' : fM} {m : Nat → Nat} (K : KH μ m) (h : ∀ k, μ'.1 24 0 0 k = μ.1 24 0 0 k) : KH μ' m := fun s hs => (h s).trans (K s hs)
theorem KQ_out {μ μ' : fM} {q : Nat → Bool} (K : KQ μ q) (h : ∀ k, μ'.1 25 0 0 k = μ.1 25 0 0 k) : KQ μ' q := fun s hs => (h s).trans (K s hs)
theorem KH_put {μ : fM} {m : Nat → Nat} {s h : Nat} (K : KH μ m) (hh : h < 6) : KH (fI μ 24 0 0 s (nI h)) (up m s h) := fun i hi => by
  by_cases e : i = s
  · subst e; rw [fI_at, up_at, dF_ne (show ¬ h = 6 by omega)]
  · rw [fI_ne (by omega), up_ne e]; exact K i hi
theorem KQ_put {μ : fM} {q : Nat → Bool} {s : Nat} (K : KQ μ q) : KQ (fI μ 25 0 0 s 1) (uq q s) := fun i hi => by
  by_cases e : i = s
  · subst e; rw [fI_at, uq_at]; rfl
  · rw [fI_ne (by omega), uq_ne e]; exact K i hi
theorem dF_m6 {d : Nat} (h : d = 6 ∨ d < 6) : (dF 6 d = -1) ↔ d = 6 := dF_m1 (by omega) (by decide)
theorem c_fp_z {a : Nat → Nat} : fpS a sX4_findsPlace_1 0 4 := fun μ h m q Y hh M K Q => by
  refine ⟨μ, fsem_of (Nat.le_of_ble_eq_true rfl) ?_, K, Q, sX_refl⟩
  exact fE_ret 5 (fun _ => rfl)
theorem c_fp_1 {u : Nat} {a : Nat → Nat} (O : OKA u a) (HS : fpS a sX4_findsPlace_1 0 4) {h : Nat} (hh : h < a 0) : ∀ j s (m : Nat → Nat) (q : Nat → Bool) (μ : fM), s + j = 4 → YR μ 0 a → mOK (a 0) m → KH μ m → KQ μ q → ∃ μ', fEnds (fun zz => frun eX4_findsPlace_2 tX4_findsPlace zz 10 [kR 4 0 0, kR 6 0 0, kN h, kN 3, kN s] [] μ 0 0) (.inl (some (vI (bI ((fpL (fpR (fit a) 0) (fit a) h j s m q).1 = true)))), μ') ∧ KH μ' (fpL (fpR (fit a) 0) (fit a) h j s m q).2.1 ∧ KQ μ' (fpL (fpR (fit a) 0) (fit a) h j s m q).2.2 ∧ sX' slP μ μ'
  | 0, s, m, q, μ, e, Y, M, K, Q => by
    obtain rfl : s = 4 := e
    refine ⟨μ, ?_, K, Q, sX_refl⟩
    exact fE_ret 5 (fun _ => rfl)
  | j + 1, s, m, q, μ, e, Y, M, K, Q => by
    have h6 := O.hulls
    have es : (nI s).toNatClampNeg = s := nI_clamp (by omega)
    have ks := K s (by omega)
    have qs := Q s (by omega)
    have ms : m s = 6 ∨ m s < 6 := by rcases M s with x | x <;> omega
    have cf := c_fits Y O hh (s := s) (by omega)
    have next : ∀ (m1 : Nat → Nat) (q1 : Nat → Bool) (μ1 : fM), YR μ1 0 a → mOK (a 0) m1 → KH μ1 m1 → KQ μ1 q1 → sX' slP μ μ1 → ∃ μ', fEnds (fun zz => frun eX4_findsPlace_2 tX4_findsPlace zz 83 [kR 4 0 0, kR 6 0 0, kN h, kN 3, kN s] [] μ1 0 0) (.inl (some (vI (bI ((fpL (fpR (fit a) 0) (fit a) h j (s + 1) m1 q1).1 = true)))), μ') ∧ KH μ' (fpL (fpR (fit a) 0) (fit a) h j (s + 1) m1 q1).2.1 ∧ KQ μ' (fpL (fpR (fit a) 0) (fit a) h j (s + 1) m1 q1).2.2 ∧ sX' slP μ μ' := fun m1 q1 μ1 Y1 M1 K1 Q1 S1 => by
      obtain ⟨μ', r1, r2, r3, r4⟩ := c_fp_1 O HS hh j (s + 1) m1 q1 μ1 (by omega) Y1 M1 K1 Q1
      refine ⟨μ', ?_, r2, r3, sX_trans S1 r4⟩
      refine fE_step (y := fun zz => frun _ _ zz 10 [kR 4 0 0, kR 6 0 0, kN h, kN 3, kX (nI s + 1)] [] _ 0 0) 2 (fun _ => rfl) ?_
      rw [nI_1]
      exact r1
    rw [fpL]
    by_cases c : q s = false ∧ fit a h s
    · rw [if_pos c]
      have q0 : μ.1 25 0 0 s = 0 := by rw [qs, c.1]; rfl
      have S1 : sX' slP μ (fI μ 25 0 0 s 1) := sX_fI (Or.inr (Or.inl rfl))
      have Y1 := YR_sl Y S1
      have K1 : KH (fI μ 25 0 0 s 1) m := KH_out K (fun k => fI_ne (by omega))
      have Q1 : KQ (fI μ 25 0 0 s 1) (uq q s) := KQ_put Q
      have k1 := K1 s (by omega)
      have w1 : ∀ res, fEnds (fun zz => frun eX4_findsPlace_2 tX4_findsPlace zz 44 [kR 4 0 0, kR 6 0 0, kN h, kN 3, kN s] [] (fI μ 25 0 0 s 1) 0 0) res → fEnds (fun zz => frun eX4_findsPlace_2 tX4_findsPlace zz 10 [kR 4 0 0, kR 6 0 0, kN h, kN 3, kN s] [] μ 0 0) res := fun res R => by
        skip
        refine fE_neg (by first | omega | (simp (disch := omega) only [fLit, nI_add, pk_mul, pk_rem, nI_clamp, beq01, beq11, cond_false, cond_true, nI_leI, nI_ltI, nI_eq]; done) | (simp (disch := omega) only [fLit, nI_add, pk_mul, pk_rem, nI_clamp, beq01, beq11, cond_false, cond_true, nI_leI, nI_ltI, nI_eq]; omega)) 3 (fun _ => rfl) ?_
        refine fE_pos (by refine g_in (k := s) ?_ (show s < 4 from by omega) (show 4 < 2 ^ 31 from by decide); first | rfl | (simp (disch := omega) only [fLit, nI_add, pk_mul, pk_rem, pk_sub, nI_clamp]; done)) 4 (fun _ => rfl) ?_
        refine fE_pos (by show μ.1 25 0 0 (nI s).toNatClampNeg = 0; rw [es, q0]) 1 (fun _ => rfl) ?_
        refine fE_call (cf) 4 (fun _ => rfl) ?_
        refine fE_neg (fun p => bI_0.mp p c.2) 1 (fun _ => rfl) ?_
        refine fE_pos (by refine g_in (k := s) ?_ (show s < 4 from by omega) (show 4 < 2 ^ 31 from by decide); first | rfl | (simp (disch := omega) only [fLit, nI_add, pk_mul, pk_rem, pk_sub, nI_clamp]; done)) 5 (fun _ => rfl) ?_
        refine fE_step (y := fun zz => frun _ _ zz 44 [kR 4 0 0, kR 6 0 0, kN h, kN 3, kN s] [] (fI μ 25 0 0 (nI s).toNatClampNeg 1) 0 0) 0 (fun _ => rfl) ?_
        rw [es]
        exact R
      have fin : ∀ (ν : fM) res, fEnds (fun n => some ((Sum.inl (some (vI 1)), fI ν 24 0 0 s (nI h)) : fR)) res → fEnds (fun zz => frun eX4_findsPlace_2 tX4_findsPlace zz 73 [kR 4 0 0, kR 6 0 0, kN h, kN 3, kN s] [] ν 0 0) res := fun ν res R => by
        obtain ⟨n0, R⟩ := R
        skip
        refine fE_pos (by refine g_in (k := s) ?_ (show s < 4 from by omega) (show 4 < 2 ^ 31 from by decide); first | rfl | (simp (disch := omega) only [fLit, nI_add, pk_mul, pk_rem, pk_sub, nI_clamp]; done)) 5 (fun _ => rfl) ?_
        refine fE_ret2 2 (fun _ => rfl) ?_
        show (Sum.inl (some (vI 1)), fI ν 24 0 0 (nI s).toNatClampNeg (nI h)) = res
        rw [es]
        exact Option.some.inj R
      by_cases d : m s = 6
      · rw [if_pos d]
        refine ⟨fI (fI μ 25 0 0 s 1) 24 0 0 s (nI h), w1 _ ?_, KH_put K1 (by omega), KQ_out Q1 (fun k => fI_ne (by omega)), sX_trans S1 (sX_fI (Or.inl rfl))⟩
        have fin' := fin (fI μ 25 0 0 s 1) (.inl (some (vI 1)), fI (fI μ 25 0 0 s 1) 24 0 0 s (nI h)) ⟨0, rfl⟩
        revert k1 fin'
        generalize fI μ 25 0 0 s 1 = ν
        intro k1 fin'
        refine fE_pos (by refine g_in (k := s) ?_ (show s < 4 from by omega) (show 4 < 2 ^ 31 from by decide); first | rfl | (simp (disch := omega) only [fLit, nI_add, pk_mul, pk_rem, pk_sub, nI_clamp]; done)) 4 (fun _ => rfl) ?_
        refine fE_pos (by show ν.1 24 0 0 (nI s).toNatClampNeg = -1; rw [es, k1]; exact (dF_m6 ms).mpr d) 2 (fun _ => rfl) ?_
        exact fin'
      · rw [if_neg d]
        have hm : m s < a 0 := by rcases M s with x | x; exact absurd x d; exact x
        obtain ⟨μ1, s1, s2, s3, s4⟩ := HS (fI μ 25 0 0 s 1) (m s) m (uq q s) Y1 hm M K1 Q1
        have V := fpR_val (F := fit a) 0 (m s) m (uq q s) hm M
        revert s1 s2 s3 V
        generalize fpR (fit a) 0 (m s) m (uq q s) = r
        intro s1 s2 s3 V
        have S2 : sX' slP μ μ1 := sX_trans S1 s4
        have s1' : sX4_findsPlace_1 [vR 4 0 0, vR 6 0 0, vI ((fI μ 25 0 0 s 1).1 24 0 0 (nI s).toNatClampNeg), vI (nI 3 + 1)] (fI μ 25 0 0 s 1) = some (.inl (some (vI (bI (r.1 = true)))), μ1) := by
          rw [es, k1, dF_ne d, nI_1]
          exact s1
        have w2 : ∀ res, (r.1 = true → fEnds (fun zz => frun eX4_findsPlace_2 tX4_findsPlace zz 73 [kR 4 0 0, kR 6 0 0, kN h, kN 3, kN s] [] μ1 0 0) res) → (¬ r.1 = true → fEnds (fun zz => frun eX4_findsPlace_2 tX4_findsPlace zz 83 [kR 4 0 0, kR 6 0 0, kN h, kN 3, kN s] [] μ1 0 0) res) → fEnds (fun zz => frun eX4_findsPlace_2 tX4_findsPlace zz 44 [kR 4 0 0, kR 6 0 0, kN h, kN 3, kN s] [] (fI μ 25 0 0 s 1) 0 0) res := fun res R1 R2 => by
          revert k1 s1'
          generalize fI μ 25 0 0 s 1 = ν
          intro k1 s1'
          refine fE_pos (by refine g_in (k := s) ?_ (show s < 4 from by omega) (show 4 < 2 ^ 31 from by decide); first | rfl | (simp (disch := omega) only [fLit, nI_add, pk_mul, pk_rem, pk_sub, nI_clamp]; done)) 4 (fun _ => rfl) ?_
          refine fE_neg (fun p => by change ν.1 24 0 0 (nI s).toNatClampNeg = -1 at p; rw [es, k1] at p; exact d ((dF_m6 ms).mp p)) 2 (fun _ => rfl) ?_
          refine fE_pos (by refine g_in (k := s) ?_ (show s < 4 from by omega) (show 4 < 2 ^ 31 from by decide); first | rfl | (simp (disch := omega) only [fLit, nI_add, pk_mul, pk_rem, pk_sub, nI_clamp]; done)) 6 (fun _ => rfl) ?_
          refine fE_call (s1') 4 (fun _ => rfl) ?_
          refine fE_ite 1 (fun _ => rfl) (fun z => ?_) (fun z => ?_)
          · skip
            exact R2 (bI_0.mp z)
          · skip
            exact R1 (bI_n.mp z)
        by_cases ok : r.1 = true
        · rw [if_pos ok]
          refine ⟨fI μ1 24 0 0 s (nI h), w1 _ (w2 _ (fun _ => fin μ1 _ ⟨0, rfl⟩) (fun z => absurd ok z)), KH_put s2 (by omega), KQ_out s3 (fun k => fI_ne (by omega)), sX_trans S2 (sX_fI (Or.inl rfl))⟩
        · rw [if_neg ok]
          obtain ⟨μ', t1, t2, t3, t4⟩ := next r.2.1 r.2.2 μ1 (YR_sl Y S2) V s2 s3 S2
          exact ⟨μ', w1 _ (w2 _ (fun z => absurd z ok) (fun _ => t1)), t2, t3, t4⟩
    · rw [if_neg c]
      obtain ⟨μ', t1, t2, t3, t4⟩ := next m q μ Y M K Q sX_refl
      refine ⟨μ', ?_, t2, t3, t4⟩
      refine fE_neg (by first | omega | (simp (disch := omega) only [fLit, nI_add, pk_mul, pk_rem, nI_clamp, beq01, beq11, cond_false, cond_true, nI_leI, nI_ltI, nI_eq]; done) | (simp (disch := omega) only [fLit, nI_add, pk_mul, pk_rem, nI_clamp, beq01, beq11, cond_false, cond_true, nI_leI, nI_ltI, nI_eq]; omega)) 3 (fun _ => rfl) ?_
      refine fE_pos (by refine g_in (k := s) ?_ (show s < 4 from by omega) (show 4 < 2 ^ 31 from by decide); first | rfl | (simp (disch := omega) only [fLit, nI_add, pk_mul, pk_rem, pk_sub, nI_clamp]; done)) 4 (fun _ => rfl) ?_
      refine fE_ite 1 (fun _ => rfl) (fun z => ?_) (fun z => ?_)
      · skip
        change μ.1 25 0 0 (nI s).toNatClampNeg = 0 at z
        rw [es, qs] at z
        refine fE_call (cf) 4 (fun _ => rfl) ?_
        refine fE_pos (bI_0.mpr (fun g => c ⟨b_wr.mp z, g⟩)) 1 (fun _ => rfl) ?_
        exact t1
      · skip
        exact t1
theorem c_fpS_1 {u : Nat} {a : Nat → Nat} (O : OKA u a) (HS : fpS a sX4_findsPlace_1 0 4) : fpS a sX4_findsPlace_2 1 3 := fun μ h m q Y hh M K Q => by
  obtain ⟨μ', r1, r2, r3, r4⟩ := c_fp_1 O HS hh 4 0 m q μ rfl Y M K Q
  refine ⟨μ', fsem_of (Nat.le_of_ble_eq_true rfl) ?_, r2, r3, r4⟩
  refine fE_step (y := fun zz => frun _ _ zz 10 [kR 4 0 0, kR 6 0 0, kN h, kN 3, kN 0] [] _ 0 0) 5 (fun _ => rfl) ?_
  exact r1
theorem c_fp_2 {u : Nat} {a : Nat → Nat} (O : OKA u a) (HS : fpS a sX4_findsPlace_2 1 3) {h : Nat} (hh : h < a 0) : ∀ j s (m : Nat → Nat) (q : Nat → Bool) (μ : fM), s + j = 4 → YR μ 0 a → mOK (a 0) m → KH μ m → KQ μ q → ∃ μ', fEnds (fun zz => frun eX4_findsPlace_3 tX4_findsPlace zz 10 [kR 4 0 0, kR 6 0 0, kN h, kN 2, kN s] [] μ 0 0) (.inl (some (vI (bI ((fpL (fpR (fit a) 1) (fit a) h j s m q).1 = true)))), μ') ∧ KH μ' (fpL (fpR (fit a) 1) (fit a) h j s m q).2.1 ∧ KQ μ' (fpL (fpR (fit a) 1) (fit a) h j s m q).2.2 ∧ sX' slP μ μ'
  | 0, s, m, q, μ, e, Y, M, K, Q => by
    obtain rfl : s = 4 := e
    refine ⟨μ, ?_, K, Q, sX_refl⟩
    exact fE_ret 5 (fun _ => rfl)
  | j + 1, s, m, q, μ, e, Y, M, K, Q => by
    have h6 := O.hulls
    have es : (nI s).toNatClampNeg = s := nI_clamp (by omega)
    have ks := K s (by omega)
    have qs := Q s (by omega)
    have ms : m s = 6 ∨ m s < 6 := by rcases M s with x | x <;> omega
    have cf := c_fits Y O hh (s := s) (by omega)
    have next : ∀ (m1 : Nat → Nat) (q1 : Nat → Bool) (μ1 : fM), YR μ1 0 a → mOK (a 0) m1 → KH μ1 m1 → KQ μ1 q1 → sX' slP μ μ1 → ∃ μ', fEnds (fun zz => frun eX4_findsPlace_3 tX4_findsPlace zz 83 [kR 4 0 0, kR 6 0 0, kN h, kN 2, kN s] [] μ1 0 0) (.inl (some (vI (bI ((fpL (fpR (fit a) 1) (fit a) h j (s + 1) m1 q1).1 = true)))), μ') ∧ KH μ' (fpL (fpR (fit a) 1) (fit a) h j (s + 1) m1 q1).2.1 ∧ KQ μ' (fpL (fpR (fit a) 1) (fit a) h j (s + 1) m1 q1).2.2 ∧ sX' slP μ μ' := fun m1 q1 μ1 Y1 M1 K1 Q1 S1 => by
      obtain ⟨μ', r1, r2, r3, r4⟩ := c_fp_2 O HS hh j (s + 1) m1 q1 μ1 (by omega) Y1 M1 K1 Q1
      refine ⟨μ', ?_, r2, r3, sX_trans S1 r4⟩
      refine fE_step (y := fun zz => frun _ _ zz 10 [kR 4 0 0, kR 6 0 0, kN h, kN 2, kX (nI s + 1)] [] _ 0 0) 2 (fun _ => rfl) ?_
      rw [nI_1]
      exact r1
    rw [fpL]
    by_cases c : q s = false ∧ fit a h s
    · rw [if_pos c]
      have q0 : μ.1 25 0 0 s = 0 := by rw [qs, c.1]; rfl
      have S1 : sX' slP μ (fI μ 25 0 0 s 1) := sX_fI (Or.inr (Or.inl rfl))
      have Y1 := YR_sl Y S1
      have K1 : KH (fI μ 25 0 0 s 1) m := KH_out K (fun k => fI_ne (by omega))
      have Q1 : KQ (fI μ 25 0 0 s 1) (uq q s) := KQ_put Q
      have k1 := K1 s (by omega)
      have w1 : ∀ res, fEnds (fun zz => frun eX4_findsPlace_3 tX4_findsPlace zz 44 [kR 4 0 0, kR 6 0 0, kN h, kN 2, kN s] [] (fI μ 25 0 0 s 1) 0 0) res → fEnds (fun zz => frun eX4_findsPlace_3 tX4_findsPlace zz 10 [kR 4 0 0, kR 6 0 0, kN h, kN 2, kN s] [] μ 0 0) res := fun res R => by
        skip
        refine fE_neg (by first | omega | (simp (disch := omega) only [fLit, nI_add, pk_mul, pk_rem, nI_clamp, beq01, beq11, cond_false, cond_true, nI_leI, nI_ltI, nI_eq]; done) | (simp (disch := omega) only [fLit, nI_add, pk_mul, pk_rem, nI_clamp, beq01, beq11, cond_false, cond_true, nI_leI, nI_ltI, nI_eq]; omega)) 3 (fun _ => rfl) ?_
        refine fE_pos (by refine g_in (k := s) ?_ (show s < 4 from by omega) (show 4 < 2 ^ 31 from by decide); first | rfl | (simp (disch := omega) only [fLit, nI_add, pk_mul, pk_rem, pk_sub, nI_clamp]; done)) 4 (fun _ => rfl) ?_
        refine fE_pos (by show μ.1 25 0 0 (nI s).toNatClampNeg = 0; rw [es, q0]) 1 (fun _ => rfl) ?_
        refine fE_call (cf) 4 (fun _ => rfl) ?_
        refine fE_neg (fun p => bI_0.mp p c.2) 1 (fun _ => rfl) ?_
        refine fE_pos (by refine g_in (k := s) ?_ (show s < 4 from by omega) (show 4 < 2 ^ 31 from by decide); first | rfl | (simp (disch := omega) only [fLit, nI_add, pk_mul, pk_rem, pk_sub, nI_clamp]; done)) 5 (fun _ => rfl) ?_
        refine fE_step (y := fun zz => frun _ _ zz 44 [kR 4 0 0, kR 6 0 0, kN h, kN 2, kN s] [] (fI μ 25 0 0 (nI s).toNatClampNeg 1) 0 0) 0 (fun _ => rfl) ?_
        rw [es]
        exact R
      have fin : ∀ (ν : fM) res, fEnds (fun n => some ((Sum.inl (some (vI 1)), fI ν 24 0 0 s (nI h)) : fR)) res → fEnds (fun zz => frun eX4_findsPlace_3 tX4_findsPlace zz 73 [kR 4 0 0, kR 6 0 0, kN h, kN 2, kN s] [] ν 0 0) res := fun ν res R => by
        obtain ⟨n0, R⟩ := R
        skip
        refine fE_pos (by refine g_in (k := s) ?_ (show s < 4 from by omega) (show 4 < 2 ^ 31 from by decide); first | rfl | (simp (disch := omega) only [fLit, nI_add, pk_mul, pk_rem, pk_sub, nI_clamp]; done)) 5 (fun _ => rfl) ?_
        refine fE_ret2 2 (fun _ => rfl) ?_
        show (Sum.inl (some (vI 1)), fI ν 24 0 0 (nI s).toNatClampNeg (nI h)) = res
        rw [es]
        exact Option.some.inj R
      by_cases d : m s = 6
      · rw [if_pos d]
        refine ⟨fI (fI μ 25 0 0 s 1) 24 0 0 s (nI h), w1 _ ?_, KH_put K1 (by omega), KQ_out Q1 (fun k => fI_ne (by omega)), sX_trans S1 (sX_fI (Or.inl rfl))⟩
        have fin' := fin (fI μ 25 0 0 s 1) (.inl (some (vI 1)), fI (fI μ 25 0 0 s 1) 24 0 0 s (nI h)) ⟨0, rfl⟩
        revert k1 fin'
        generalize fI μ 25 0 0 s 1 = ν
        intro k1 fin'
        refine fE_pos (by refine g_in (k := s) ?_ (show s < 4 from by omega) (show 4 < 2 ^ 31 from by decide); first | rfl | (simp (disch := omega) only [fLit, nI_add, pk_mul, pk_rem, pk_sub, nI_clamp]; done)) 4 (fun _ => rfl) ?_
        refine fE_pos (by show ν.1 24 0 0 (nI s).toNatClampNeg = -1; rw [es, k1]; exact (dF_m6 ms).mpr d) 2 (fun _ => rfl) ?_
        exact fin'
      · rw [if_neg d]
        have hm : m s < a 0 := by rcases M s with x | x; exact absurd x d; exact x
        obtain ⟨μ1, s1, s2, s3, s4⟩ := HS (fI μ 25 0 0 s 1) (m s) m (uq q s) Y1 hm M K1 Q1
        have V := fpR_val (F := fit a) 1 (m s) m (uq q s) hm M
        revert s1 s2 s3 V
        generalize fpR (fit a) 1 (m s) m (uq q s) = r
        intro s1 s2 s3 V
        have S2 : sX' slP μ μ1 := sX_trans S1 s4
        have s1' : sX4_findsPlace_2 [vR 4 0 0, vR 6 0 0, vI ((fI μ 25 0 0 s 1).1 24 0 0 (nI s).toNatClampNeg), vI (nI 2 + 1)] (fI μ 25 0 0 s 1) = some (.inl (some (vI (bI (r.1 = true)))), μ1) := by
          rw [es, k1, dF_ne d, nI_1]
          exact s1
        have w2 : ∀ res, (r.1 = true → fEnds (fun zz => frun eX4_findsPlace_3 tX4_findsPlace zz 73 [kR 4 0 0, kR 6 0 0, kN h, kN 2, kN s] [] μ1 0 0) res) → (¬ r.1 = true → fEnds (fun zz => frun eX4_findsPlace_3 tX4_findsPlace zz 83 [kR 4 0 0, kR 6 0 0, kN h, kN 2, kN s] [] μ1 0 0) res) → fEnds (fun zz => frun eX4_findsPlace_3 tX4_findsPlace zz 44 [kR 4 0 0, kR 6 0 0, kN h, kN 2, kN s] [] (fI μ 25 0 0 s 1) 0 0) res := fun res R1 R2 => by
          revert k1 s1'
          generalize fI μ 25 0 0 s 1 = ν
          intro k1 s1'
          refine fE_pos (by refine g_in (k := s) ?_ (show s < 4 from by omega) (show 4 < 2 ^ 31 from by decide); first | rfl | (simp (disch := omega) only [fLit, nI_add, pk_mul, pk_rem, pk_sub, nI_clamp]; done)) 4 (fun _ => rfl) ?_
          refine fE_neg (fun p => by change ν.1 24 0 0 (nI s).toNatClampNeg = -1 at p; rw [es, k1] at p; exact d ((dF_m6 ms).mp p)) 2 (fun _ => rfl) ?_
          refine fE_pos (by refine g_in (k := s) ?_ (show s < 4 from by omega) (show 4 < 2 ^ 31 from by decide); first | rfl | (simp (disch := omega) only [fLit, nI_add, pk_mul, pk_rem, pk_sub, nI_clamp]; done)) 6 (fun _ => rfl) ?_
          refine fE_call (s1') 4 (fun _ => rfl) ?_
          refine fE_ite 1 (fun _ => rfl) (fun z => ?_) (fun z => ?_)
          · skip
            exact R2 (bI_0.mp z)
          · skip
            exact R1 (bI_n.mp z)
        by_cases ok : r.1 = true
        · rw [if_pos ok]
          refine ⟨fI μ1 24 0 0 s (nI h), w1 _ (w2 _ (fun _ => fin μ1 _ ⟨0, rfl⟩) (fun z => absurd ok z)), KH_put s2 (by omega), KQ_out s3 (fun k => fI_ne (by omega)), sX_trans S2 (sX_fI (Or.inl rfl))⟩
        · rw [if_neg ok]
          obtain ⟨μ', t1, t2, t3, t4⟩ := next r.2.1 r.2.2 μ1 (YR_sl Y S2) V s2 s3 S2
          exact ⟨μ', w1 _ (w2 _ (fun z => absurd z ok) (fun _ => t1)), t2, t3, t4⟩
    · rw [if_neg c]
      obtain ⟨μ', t1, t2, t3, t4⟩ := next m q μ Y M K Q sX_refl
      refine ⟨μ', ?_, t2, t3, t4⟩
      refine fE_neg (by first | omega | (simp (disch := omega) only [fLit, nI_add, pk_mul, pk_rem, nI_clamp, beq01, beq11, cond_false, cond_true, nI_leI, nI_ltI, nI_eq]; done) | (simp (disch := omega) only [fLit, nI_add, pk_mul, pk_rem, nI_clamp, beq01, beq11, cond_false, cond_true, nI_leI, nI_ltI, nI_eq]; omega)) 3 (fun _ => rfl) ?_
      refine fE_pos (by refine g_in (k := s) ?_ (show s < 4 from by omega) (show 4 < 2 ^ 31 from by decide); first | rfl | (simp (disch := omega) only [fLit, nI_add, pk_mul, pk_rem, pk_sub, nI_clamp]; done)) 4 (fun _ => rfl) ?_
      refine fE_ite 1 (fun _ => rfl) (fun z => ?_) (fun z => ?_)
      · skip
        change μ.1 25 0 0 (nI s).toNatClampNeg = 0 at z
        rw [es, qs] at z
        refine fE_call (cf) 4 (fun _ => rfl) ?_
        refine fE_pos (bI_0.mpr (fun g => c ⟨b_wr.mp z, g⟩)) 1 (fun _ => rfl) ?_
        exact t1
      · skip
        exact t1
theorem c_fpS_2 {u : Nat} {a : Nat → Nat} (O : OKA u a) (HS : fpS a sX4_findsPlace_2 1 3) : fpS a sX4_findsPlace_3 2 2 := fun μ h m q Y hh M K Q => by
  obtain ⟨μ', r1, r2, r3, r4⟩ := c_fp_2 O HS hh 4 0 m q μ rfl Y M K Q
  refine ⟨μ', fsem_of (Nat.le_of_ble_eq_true rfl) ?_, r2, r3, r4⟩
  refine fE_step (y := fun zz => frun _ _ zz 10 [kR 4 0 0, kR 6 0 0, kN h, kN 2, kN 0] [] _ 0 0) 5 (fun _ => rfl) ?_
  exact r1
theorem c_fp_3 {u : Nat} {a : Nat → Nat} (O : OKA u a) (HS : fpS a sX4_findsPlace_3 2 2) {h : Nat} (hh : h < a 0) : ∀ j s (m : Nat → Nat) (q : Nat → Bool) (μ : fM), s + j = 4 → YR μ 0 a → mOK (a 0) m → KH μ m → KQ μ q → ∃ μ', fEnds (fun zz => frun eX4_findsPlace_4 tX4_findsPlace zz 10 [kR 4 0 0, kR 6 0 0, kN h, kN 1, kN s] [] μ 0 0) (.inl (some (vI (bI ((fpL (fpR (fit a) 2) (fit a) h j s m q).1 = true)))), μ') ∧ KH μ' (fpL (fpR (fit a) 2) (fit a) h j s m q).2.1 ∧ KQ μ' (fpL (fpR (fit a) 2) (fit a) h j s m q).2.2 ∧ sX' slP μ μ'
  | 0, s, m, q, μ, e, Y, M, K, Q => by
    obtain rfl : s = 4 := e
    refine ⟨μ, ?_, K, Q, sX_refl⟩
    exact fE_ret 5 (fun _ => rfl)
  | j + 1, s, m, q, μ, e, Y, M, K, Q => by
    have h6 := O.hulls
    have es : (nI s).toNatClampNeg = s := nI_clamp (by omega)
    have ks := K s (by omega)
    have qs := Q s (by omega)
    have ms : m s = 6 ∨ m s < 6 := by rcases M s with x | x <;> omega
    have cf := c_fits Y O hh (s := s) (by omega)
    have next : ∀ (m1 : Nat → Nat) (q1 : Nat → Bool) (μ1 : fM), YR μ1 0 a → mOK (a 0) m1 → KH μ1 m1 → KQ μ1 q1 → sX' slP μ μ1 → ∃ μ', fEnds (fun zz => frun eX4_findsPlace_4 tX4_findsPlace zz 83 [kR 4 0 0, kR 6 0 0, kN h, kN 1, kN s] [] μ1 0 0) (.inl (some (vI (bI ((fpL (fpR (fit a) 2) (fit a) h j (s + 1) m1 q1).1 = true)))), μ') ∧ KH μ' (fpL (fpR (fit a) 2) (fit a) h j (s + 1) m1 q1).2.1 ∧ KQ μ' (fpL (fpR (fit a) 2) (fit a) h j (s + 1) m1 q1).2.2 ∧ sX' slP μ μ' := fun m1 q1 μ1 Y1 M1 K1 Q1 S1 => by
      obtain ⟨μ', r1, r2, r3, r4⟩ := c_fp_3 O HS hh j (s + 1) m1 q1 μ1 (by omega) Y1 M1 K1 Q1
      refine ⟨μ', ?_, r2, r3, sX_trans S1 r4⟩
      refine fE_step (y := fun zz => frun _ _ zz 10 [kR 4 0 0, kR 6 0 0, kN h, kN 1, kX (nI s + 1)] [] _ 0 0) 2 (fun _ => rfl) ?_
      rw [nI_1]
      exact r1
    rw [fpL]
    by_cases c : q s = false ∧ fit a h s
    · rw [if_pos c]
      have q0 : μ.1 25 0 0 s = 0 := by rw [qs, c.1]; rfl
      have S1 : sX' slP μ (fI μ 25 0 0 s 1) := sX_fI (Or.inr (Or.inl rfl))
      have Y1 := YR_sl Y S1
      have K1 : KH (fI μ 25 0 0 s 1) m := KH_out K (fun k => fI_ne (by omega))
      have Q1 : KQ (fI μ 25 0 0 s 1) (uq q s) := KQ_put Q
      have k1 := K1 s (by omega)
      have w1 : ∀ res, fEnds (fun zz => frun eX4_findsPlace_4 tX4_findsPlace zz 44 [kR 4 0 0, kR 6 0 0, kN h, kN 1, kN s] [] (fI μ 25 0 0 s 1) 0 0) res → fEnds (fun zz => frun eX4_findsPlace_4 tX4_findsPlace zz 10 [kR 4 0 0, kR 6 0 0, kN h, kN 1, kN s] [] μ 0 0) res := fun res R => by
        skip
        refine fE_neg (by first | omega | (simp (disch := omega) only [fLit, nI_add, pk_mul, pk_rem, nI_clamp, beq01, beq11, cond_false, cond_true, nI_leI, nI_ltI, nI_eq]; done) | (simp (disch := omega) only [fLit, nI_add, pk_mul, pk_rem, nI_clamp, beq01, beq11, cond_false, cond_true, nI_leI, nI_ltI, nI_eq]; omega)) 3 (fun _ => rfl) ?_
        refine fE_pos (by refine g_in (k := s) ?_ (show s < 4 from by omega) (show 4 < 2 ^ 31 from by decide); first | rfl | (simp (disch := omega) only [fLit, nI_add, pk_mul, pk_rem, pk_sub, nI_clamp]; done)) 4 (fun _ => rfl) ?_
        refine fE_pos (by show μ.1 25 0 0 (nI s).toNatClampNeg = 0; rw [es, q0]) 1 (fun _ => rfl) ?_
        refine fE_call (cf) 4 (fun _ => rfl) ?_
        refine fE_neg (fun p => bI_0.mp p c.2) 1 (fun _ => rfl) ?_
        refine fE_pos (by refine g_in (k := s) ?_ (show s < 4 from by omega) (show 4 < 2 ^ 31 from by decide); first | rfl | (simp (disch := omega) only [fLit, nI_add, pk_mul, pk_rem, pk_sub, nI_clamp]; done)) 5 (fun _ => rfl) ?_
        refine fE_step (y := fun zz => frun _ _ zz 44 [kR 4 0 0, kR 6 0 0, kN h, kN 1, kN s] [] (fI μ 25 0 0 (nI s).toNatClampNeg 1) 0 0) 0 (fun _ => rfl) ?_
        rw [es]
        exact R
      have fin : ∀ (ν : fM) res, fEnds (fun n => some ((Sum.inl (some (vI 1)), fI ν 24 0 0 s (nI h)) : fR)) res → fEnds (fun zz => frun eX4_findsPlace_4 tX4_findsPlace zz 73 [kR 4 0 0, kR 6 0 0, kN h, kN 1, kN s] [] ν 0 0) res := fun ν res R => by
        obtain ⟨n0, R⟩ := R
        skip
        refine fE_pos (by refine g_in (k := s) ?_ (show s < 4 from by omega) (show 4 < 2 ^ 31 from by decide); first | rfl | (simp (disch := omega) only [fLit, nI_add, pk_mul, pk_rem, pk_sub, nI_clamp]; done)) 5 (fun _ => rfl) ?_
        refine fE_ret2 2 (fun _ => rfl) ?_
        show (Sum.inl (some (vI 1)), fI ν 24 0 0 (nI s).toNatClampNeg (nI h)) = res
        rw [es]
        exact Option.some.inj R
      by_cases d : m s = 6
      · rw [if_pos d]
        refine ⟨fI (fI μ 25 0 0 s 1) 24 0 0 s (nI h), w1 _ ?_, KH_put K1 (by omega), KQ_out Q1 (fun k => fI_ne (by omega)), sX_trans S1 (sX_fI (Or.inl rfl))⟩
        have fin' := fin (fI μ 25 0 0 s 1) (.inl (some (vI 1)), fI (fI μ 25 0 0 s 1) 24 0 0 s (nI h)) ⟨0, rfl⟩
        revert k1 fin'
        generalize fI μ 25 0 0 s 1 = ν
        intro k1 fin'
        refine fE_pos (by refine g_in (k := s) ?_ (show s < 4 from by omega) (show 4 < 2 ^ 31 from by decide); first | rfl | (simp (disch := omega) only [fLit, nI_add, pk_mul, pk_rem, pk_sub, nI_clamp]; done)) 4 (fun _ => rfl) ?_
        refine fE_pos (by show ν.1 24 0 0 (nI s).toNatClampNeg = -1; rw [es, k1]; exact (dF_m6 ms).mpr d) 2 (fun _ => rfl) ?_
        exact fin'
      · rw [if_neg d]
        have hm : m s < a 0 := by rcases M s with x | x; exact absurd x d; exact x
        obtain ⟨μ1, s1, s2, s3, s4⟩ := HS (fI μ 25 0 0 s 1) (m s) m (uq q s) Y1 hm M K1 Q1
        have V := fpR_val (F := fit a) 2 (m s) m (uq q s) hm M
        revert s1 s2 s3 V
        generalize fpR (fit a) 2 (m s) m (uq q s) = r
        intro s1 s2 s3 V
        have S2 : sX' slP μ μ1 := sX_trans S1 s4
        have s1' : sX4_findsPlace_3 [vR 4 0 0, vR 6 0 0, vI ((fI μ 25 0 0 s 1).1 24 0 0 (nI s).toNatClampNeg), vI (nI 1 + 1)] (fI μ 25 0 0 s 1) = some (.inl (some (vI (bI (r.1 = true)))), μ1) := by
          rw [es, k1, dF_ne d, nI_1]
          exact s1
        have w2 : ∀ res, (r.1 = true → fEnds (fun zz => frun eX4_findsPlace_4 tX4_findsPlace zz 73 [kR 4 0 0, kR 6 0 0, kN h, kN 1, kN s] [] μ1 0 0) res) → (¬ r.1 = true → fEnds (fun zz => frun eX4_findsPlace_4 tX4_findsPlace zz 83 [kR 4 0 0, kR 6 0 0, kN h, kN 1, kN s] [] μ1 0 0) res) → fEnds (fun zz => frun eX4_findsPlace_4 tX4_findsPlace zz 44 [kR 4 0 0, kR 6 0 0, kN h, kN 1, kN s] [] (fI μ 25 0 0 s 1) 0 0) res := fun res R1 R2 => by
          revert k1 s1'
          generalize fI μ 25 0 0 s 1 = ν
          intro k1 s1'
          refine fE_pos (by refine g_in (k := s) ?_ (show s < 4 from by omega) (show 4 < 2 ^ 31 from by decide); first | rfl | (simp (disch := omega) only [fLit, nI_add, pk_mul, pk_rem, pk_sub, nI_clamp]; done)) 4 (fun _ => rfl) ?_
          refine fE_neg (fun p => by change ν.1 24 0 0 (nI s).toNatClampNeg = -1 at p; rw [es, k1] at p; exact d ((dF_m6 ms).mp p)) 2 (fun _ => rfl) ?_
          refine fE_pos (by refine g_in (k := s) ?_ (show s < 4 from by omega) (show 4 < 2 ^ 31 from by decide); first | rfl | (simp (disch := omega) only [fLit, nI_add, pk_mul, pk_rem, pk_sub, nI_clamp]; done)) 6 (fun _ => rfl) ?_
          refine fE_call (s1') 4 (fun _ => rfl) ?_
          refine fE_ite 1 (fun _ => rfl) (fun z => ?_) (fun z => ?_)
          · skip
            exact R2 (bI_0.mp z)
          · skip
            exact R1 (bI_n.mp z)
        by_cases ok : r.1 = true
        · rw [if_pos ok]
          refine ⟨fI μ1 24 0 0 s (nI h), w1 _ (w2 _ (fun _ => fin μ1 _ ⟨0, rfl⟩) (fun z => absurd ok z)), KH_put s2 (by omega), KQ_out s3 (fun k => fI_ne (by omega)), sX_trans S2 (sX_fI (Or.inl rfl))⟩
        · rw [if_neg ok]
          obtain ⟨μ', t1, t2, t3, t4⟩ := next r.2.1 r.2.2 μ1 (YR_sl Y S2) V s2 s3 S2
          exact ⟨μ', w1 _ (w2 _ (fun z => absurd z ok) (fun _ => t1)), t2, t3, t4⟩
    · rw [if_neg c]
      obtain ⟨μ', t1, t2, t3, t4⟩ := next m q μ Y M K Q sX_refl
      refine ⟨μ', ?_, t2, t3, t4⟩
      refine fE_neg (by first | omega | (simp (disch := omega) only [fLit, nI_add, pk_mul, pk_rem, nI_clamp, beq01, beq11, cond_false, cond_true, nI_leI, nI_ltI, nI_eq]; done) | (simp (disch := omega) only [fLit, nI_add, pk_mul, pk_rem, nI_clamp, beq01, beq11, cond_false, cond_true, nI_leI, nI_ltI, nI_eq]; omega)) 3 (fun _ => rfl) ?_
      refine fE_pos (by refine g_in (k := s) ?_ (show s < 4 from by omega) (show 4 < 2 ^ 31 from by decide); first | rfl | (simp (disch := omega) only [fLit, nI_add, pk_mul, pk_rem, pk_sub, nI_clamp]; done)) 4 (fun _ => rfl) ?_
      refine fE_ite 1 (fun _ => rfl) (fun z => ?_) (fun z => ?_)
      · skip
        change μ.1 25 0 0 (nI s).toNatClampNeg = 0 at z
        rw [es, qs] at z
        refine fE_call (cf) 4 (fun _ => rfl) ?_
        refine fE_pos (bI_0.mpr (fun g => c ⟨b_wr.mp z, g⟩)) 1 (fun _ => rfl) ?_
        exact t1
      · skip
        exact t1
theorem c_fpS_3 {u : Nat} {a : Nat → Nat} (O : OKA u a) (HS : fpS a sX4_findsPlace_3 2 2) : fpS a sX4_findsPlace_4 3 1 := fun μ h m q Y hh M K Q => by
  obtain ⟨μ', r1, r2, r3, r4⟩ := c_fp_3 O HS hh 4 0 m q μ rfl Y M K Q
  refine ⟨μ', fsem_of (Nat.le_of_ble_eq_true rfl) ?_, r2, r3, r4⟩
  refine fE_step (y := fun zz => frun _ _ zz 10 [kR 4 0 0, kR 6 0 0, kN h, kN 1, kN 0] [] _ 0 0) 5 (fun _ => rfl) ?_
  exact r1
theorem c_fp_4 {u : Nat} {a : Nat → Nat} (O : OKA u a) (HS : fpS a sX4_findsPlace_4 3 1) {h : Nat} (hh : h < a 0) : ∀ j s (m : Nat → Nat) (q : Nat → Bool) (μ : fM), s + j = 4 → YR μ 0 a → mOK (a 0) m → KH μ m → KQ μ q → ∃ μ', fEnds (fun zz => frun eX4_findsPlace_5 tX4_findsPlace zz 10 [kR 4 0 0, kR 6 0 0, kN h, kN 0, kN s] [] μ 0 0) (.inl (some (vI (bI ((fpL (fpR (fit a) 3) (fit a) h j s m q).1 = true)))), μ') ∧ KH μ' (fpL (fpR (fit a) 3) (fit a) h j s m q).2.1 ∧ KQ μ' (fpL (fpR (fit a) 3) (fit a) h j s m q).2.2 ∧ sX' slP μ μ'
  | 0, s, m, q, μ, e, Y, M, K, Q => by
    obtain rfl : s = 4 := e
    refine ⟨μ, ?_, K, Q, sX_refl⟩
    exact fE_ret 5 (fun _ => rfl)
  | j + 1, s, m, q, μ, e, Y, M, K, Q => by
    have h6 := O.hulls
    have es : (nI s).toNatClampNeg = s := nI_clamp (by omega)
    have ks := K s (by omega)
    have qs := Q s (by omega)
    have ms : m s = 6 ∨ m s < 6 := by rcases M s with x | x <;> omega
    have cf := c_fits Y O hh (s := s) (by omega)
    have next : ∀ (m1 : Nat → Nat) (q1 : Nat → Bool) (μ1 : fM), YR μ1 0 a → mOK (a 0) m1 → KH μ1 m1 → KQ μ1 q1 → sX' slP μ μ1 → ∃ μ', fEnds (fun zz => frun eX4_findsPlace_5 tX4_findsPlace zz 83 [kR 4 0 0, kR 6 0 0, kN h, kN 0, kN s] [] μ1 0 0) (.inl (some (vI (bI ((fpL (fpR (fit a) 3) (fit a) h j (s + 1) m1 q1).1 = true)))), μ') ∧ KH μ' (fpL (fpR (fit a) 3) (fit a) h j (s + 1) m1 q1).2.1 ∧ KQ μ' (fpL (fpR (fit a) 3) (fit a) h j (s + 1) m1 q1).2.2 ∧ sX' slP μ μ' := fun m1 q1 μ1 Y1 M1 K1 Q1 S1 => by
      obtain ⟨μ', r1, r2, r3, r4⟩ := c_fp_4 O HS hh j (s + 1) m1 q1 μ1 (by omega) Y1 M1 K1 Q1
      refine ⟨μ', ?_, r2, r3, sX_trans S1 r4⟩
      refine fE_step (y := fun zz => frun _ _ zz 10 [kR 4 0 0, kR 6 0 0, kN h, kN 0, kX (nI s + 1)] [] _ 0 0) 2 (fun _ => rfl) ?_
      rw [nI_1]
      exact r1
    rw [fpL]
    by_cases c : q s = false ∧ fit a h s
    · rw [if_pos c]
      have q0 : μ.1 25 0 0 s = 0 := by rw [qs, c.1]; rfl
      have S1 : sX' slP μ (fI μ 25 0 0 s 1) := sX_fI (Or.inr (Or.inl rfl))
      have Y1 := YR_sl Y S1
      have K1 : KH (fI μ 25 0 0 s 1) m := KH_out K (fun k => fI_ne (by omega))
      have Q1 : KQ (fI μ 25 0 0 s 1) (uq q s) := KQ_put Q
      have k1 := K1 s (by omega)
      have w1 : ∀ res, fEnds (fun zz => frun eX4_findsPlace_5 tX4_findsPlace zz 44 [kR 4 0 0, kR 6 0 0, kN h, kN 0, kN s] [] (fI μ 25 0 0 s 1) 0 0) res → fEnds (fun zz => frun eX4_findsPlace_5 tX4_findsPlace zz 10 [kR 4 0 0, kR 6 0 0, kN h, kN 0, kN s] [] μ 0 0) res := fun res R => by
        skip
        refine fE_neg (by first | omega | (simp (disch := omega) only [fLit, nI_add, pk_mul, pk_rem, nI_clamp, beq01, beq11, cond_false, cond_true, nI_leI, nI_ltI, nI_eq]; done) | (simp (disch := omega) only [fLit, nI_add, pk_mul, pk_rem, nI_clamp, beq01, beq11, cond_false, cond_true, nI_leI, nI_ltI, nI_eq]; omega)) 3 (fun _ => rfl) ?_
        refine fE_pos (by refine g_in (k := s) ?_ (show s < 4 from by omega) (show 4 < 2 ^ 31 from by decide); first | rfl | (simp (disch := omega) only [fLit, nI_add, pk_mul, pk_rem, pk_sub, nI_clamp]; done)) 4 (fun _ => rfl) ?_
        refine fE_pos (by show μ.1 25 0 0 (nI s).toNatClampNeg = 0; rw [es, q0]) 1 (fun _ => rfl) ?_
        refine fE_call (cf) 4 (fun _ => rfl) ?_
        refine fE_neg (fun p => bI_0.mp p c.2) 1 (fun _ => rfl) ?_
        refine fE_pos (by refine g_in (k := s) ?_ (show s < 4 from by omega) (show 4 < 2 ^ 31 from by decide); first | rfl | (simp (disch := omega) only [fLit, nI_add, pk_mul, pk_rem, pk_sub, nI_clamp]; done)) 5 (fun _ => rfl) ?_
        refine fE_step (y := fun zz => frun _ _ zz 44 [kR 4 0 0, kR 6 0 0, kN h, kN 0, kN s] [] (fI μ 25 0 0 (nI s).toNatClampNeg 1) 0 0) 0 (fun _ => rfl) ?_
        rw [es]
        exact R
      have fin : ∀ (ν : fM) res, fEnds (fun n => some ((Sum.inl (some (vI 1)), fI ν 24 0 0 s (nI h)) : fR)) res → fEnds (fun zz => frun eX4_findsPlace_5 tX4_findsPlace zz 73 [kR 4 0 0, kR 6 0 0, kN h, kN 0, kN s] [] ν 0 0) res := fun ν res R => by
        obtain ⟨n0, R⟩ := R
        skip
        refine fE_pos (by refine g_in (k := s) ?_ (show s < 4 from by omega) (show 4 < 2 ^ 31 from by decide); first | rfl | (simp (disch := omega) only [fLit, nI_add, pk_mul, pk_rem, pk_sub, nI_clamp]; done)) 5 (fun _ => rfl) ?_
        refine fE_ret2 2 (fun _ => rfl) ?_
        show (Sum.inl (some (vI 1)), fI ν 24 0 0 (nI s).toNatClampNeg (nI h)) = res
        rw [es]
        exact Option.some.inj R
      by_cases d : m s = 6
      · rw [if_pos d]
        refine ⟨fI (fI μ 25 0 0 s 1) 24 0 0 s (nI h), w1 _ ?_, KH_put K1 (by omega), KQ_out Q1 (fun k => fI_ne (by omega)), sX_trans S1 (sX_fI (Or.inl rfl))⟩
        have fin' := fin (fI μ 25 0 0 s 1) (.inl (some (vI 1)), fI (fI μ 25 0 0 s 1) 24 0 0 s (nI h)) ⟨0, rfl⟩
        revert k1 fin'
        generalize fI μ 25 0 0 s 1 = ν
        intro k1 fin'
        refine fE_pos (by refine g_in (k := s) ?_ (show s < 4 from by omega) (show 4 < 2 ^ 31 from by decide); first | rfl | (simp (disch := omega) only [fLit, nI_add, pk_mul, pk_rem, pk_sub, nI_clamp]; done)) 4 (fun _ => rfl) ?_
        refine fE_pos (by show ν.1 24 0 0 (nI s).toNatClampNeg = -1; rw [es, k1]; exact (dF_m6 ms).mpr d) 2 (fun _ => rfl) ?_
        exact fin'
      · rw [if_neg d]
        have hm : m s < a 0 := by rcases M s with x | x; exact absurd x d; exact x
        obtain ⟨μ1, s1, s2, s3, s4⟩ := HS (fI μ 25 0 0 s 1) (m s) m (uq q s) Y1 hm M K1 Q1
        have V := fpR_val (F := fit a) 3 (m s) m (uq q s) hm M
        revert s1 s2 s3 V
        generalize fpR (fit a) 3 (m s) m (uq q s) = r
        intro s1 s2 s3 V
        have S2 : sX' slP μ μ1 := sX_trans S1 s4
        have s1' : sX4_findsPlace_4 [vR 4 0 0, vR 6 0 0, vI ((fI μ 25 0 0 s 1).1 24 0 0 (nI s).toNatClampNeg), vI (nI 0 + 1)] (fI μ 25 0 0 s 1) = some (.inl (some (vI (bI (r.1 = true)))), μ1) := by
          rw [es, k1, dF_ne d, nI_1]
          exact s1
        have w2 : ∀ res, (r.1 = true → fEnds (fun zz => frun eX4_findsPlace_5 tX4_findsPlace zz 73 [kR 4 0 0, kR 6 0 0, kN h, kN 0, kN s] [] μ1 0 0) res) → (¬ r.1 = true → fEnds (fun zz => frun eX4_findsPlace_5 tX4_findsPlace zz 83 [kR 4 0 0, kR 6 0 0, kN h, kN 0, kN s] [] μ1 0 0) res) → fEnds (fun zz => frun eX4_findsPlace_5 tX4_findsPlace zz 44 [kR 4 0 0, kR 6 0 0, kN h, kN 0, kN s] [] (fI μ 25 0 0 s 1) 0 0) res := fun res R1 R2 => by
          revert k1 s1'
          generalize fI μ 25 0 0 s 1 = ν
          intro k1 s1'
          refine fE_pos (by refine g_in (k := s) ?_ (show s < 4 from by omega) (show 4 < 2 ^ 31 from by decide); first | rfl | (simp (disch := omega) only [fLit, nI_add, pk_mul, pk_rem, pk_sub, nI_clamp]; done)) 4 (fun _ => rfl) ?_
          refine fE_neg (fun p => by change ν.1 24 0 0 (nI s).toNatClampNeg = -1 at p; rw [es, k1] at p; exact d ((dF_m6 ms).mp p)) 2 (fun _ => rfl) ?_
          refine fE_pos (by refine g_in (k := s) ?_ (show s < 4 from by omega) (show 4 < 2 ^ 31 from by decide); first | rfl | (simp (disch := omega) only [fLit, nI_add, pk_mul, pk_rem, pk_sub, nI_clamp]; done)) 6 (fun _ => rfl) ?_
          refine fE_call (s1') 4 (fun _ => rfl) ?_
          refine fE_ite 1 (fun _ => rfl) (fun z => ?_) (fun z => ?_)
          · skip
            exact R2 (bI_0.mp z)
          · skip
            exact R1 (bI_n.mp z)
        by_cases ok : r.1 = true
        · rw [if_pos ok]
          refine ⟨fI μ1 24 0 0 s (nI h), w1 _ (w2 _ (fun _ => fin μ1 _ ⟨0, rfl⟩) (fun z => absurd ok z)), KH_put s2 (by omega), KQ_out s3 (fun k => fI_ne (by omega)), sX_trans S2 (sX_fI (Or.inl rfl))⟩
        · rw [if_neg ok]
          obtain ⟨μ', t1, t2, t3, t4⟩ := next r.2.1 r.2.2 μ1 (YR_sl Y S2) V s2 s3 S2
          exact ⟨μ', w1 _ (w2 _ (fun z => absurd z ok) (fun _ => t1)), t2, t3, t4⟩
    · rw [if_neg c]
      obtain ⟨μ', t1, t2, t3, t4⟩ := next m q μ Y M K Q sX_refl
      refine ⟨μ', ?_, t2, t3, t4⟩
      refine fE_neg (by first | omega | (simp (disch := omega) only [fLit, nI_add, pk_mul, pk_rem, nI_clamp, beq01, beq11, cond_false, cond_true, nI_leI, nI_ltI, nI_eq]; done) | (simp (disch := omega) only [fLit, nI_add, pk_mul, pk_rem, nI_clamp, beq01, beq11, cond_false, cond_true, nI_leI, nI_ltI, nI_eq]; omega)) 3 (fun _ => rfl) ?_
      refine fE_pos (by refine g_in (k := s) ?_ (show s < 4 from by omega) (show 4 < 2 ^ 31 from by decide); first | rfl | (simp (disch := omega) only [fLit, nI_add, pk_mul, pk_rem, pk_sub, nI_clamp]; done)) 4 (fun _ => rfl) ?_
      refine fE_ite 1 (fun _ => rfl) (fun z => ?_) (fun z => ?_)
      · skip
        change μ.1 25 0 0 (nI s).toNatClampNeg = 0 at z
        rw [es, qs] at z
        refine fE_call (cf) 4 (fun _ => rfl) ?_
        refine fE_pos (bI_0.mpr (fun g => c ⟨b_wr.mp z, g⟩)) 1 (fun _ => rfl) ?_
        exact t1
      · skip
        exact t1
theorem c_fpS_4 {u : Nat} {a : Nat → Nat} (O : OKA u a) (HS : fpS a sX4_findsPlace_4 3 1) : fpS a sX4_findsPlace_5 4 0 := fun μ h m q Y hh M K Q => by
  obtain ⟨μ', r1, r2, r3, r4⟩ := c_fp_4 O HS hh 4 0 m q μ rfl Y M K Q
  refine ⟨μ', fsem_of (Nat.le_of_ble_eq_true rfl) ?_, r2, r3, r4⟩
  refine fE_step (y := fun zz => frun _ _ zz 10 [kR 4 0 0, kR 6 0 0, kN h, kN 0, kN 0] [] _ 0 0) 5 (fun _ => rfl) ?_
  exact r1
theorem c_find {u : Nat} {a : Nat → Nat} (O : OKA u a) : fpS a sX4_findsPlace_5 4 0 := c_fpS_4 O (c_fpS_3 O (c_fpS_2 O (c_fpS_1 O c_fp_z)))
theorem c_clear_1 : ∀ j s (μ : fM), s + j = 4 → (∀ i, i < s → μ.1 24 0 0 i = -1) → ∃ μ', fEnds (fun zz => frun eX4_clearSlips tX4_clearSlips zz 2 [kR 4 0 0, kN s] [] μ 0 0) (.inl none, μ') ∧ KH μ' (fun _ => 6) ∧ sX' slP μ μ'
  | 0, s, μ, e, H => by
    obtain rfl : s = 4 := e
    refine ⟨μ, ?_, fun s hs => (H s hs).trans rfl, sX_refl⟩
    exact fE_ret 4 (fun _ => rfl)
  | j + 1, s, μ, e, H => by
    obtain ⟨μ', r1, r2, r3⟩ := c_clear_1 j (s + 1) (fI μ 24 0 0 s (-1)) (by omega) (fun i hi => by
      by_cases c : i = s
      · subst c; exact fI_at
      · rw [fI_ne (by omega)]; exact H i (by omega))
    refine ⟨μ', ?_, r2, sX_trans (sX_fI (Or.inl rfl)) r3⟩
    refine fE_neg (by first | omega | (simp (disch := omega) only [fLit, nI_add, pk_mul, pk_rem, nI_clamp, beq01, beq11, cond_false, cond_true, nI_leI, nI_ltI, nI_eq]; done) | (simp (disch := omega) only [fLit, nI_add, pk_mul, pk_rem, nI_clamp, beq01, beq11, cond_false, cond_true, nI_leI, nI_ltI, nI_eq]; omega)) 3 (fun _ => rfl) ?_
    refine fE_pos (by refine g_in (k := s) ?_ (show s < 4 from by omega) (show 4 < 2 ^ 31 from by decide); first | rfl | (simp (disch := omega) only [fLit, nI_add, pk_mul, pk_rem, pk_sub, nI_clamp]; done)) 5 (fun _ => rfl) ?_
    refine fE_step (y := fun zz => frun _ _ zz 2 [kR 4 0 0, kX (nI s + 1)] [] (fI μ 24 0 0 (nI s).toNatClampNeg (-1)) 0 0) 2 (fun _ => rfl) ?_
    rw [nI_clamp (show s < 2 ^ 31 by omega), nI_1]
    exact r1
theorem c_clear {μ : fM} : ∃ μ', sX4_clearSlips [vR 4 0 0] μ = some (.inl none, μ') ∧ KH μ' (fun _ => 6) ∧ sX' slP μ μ' := by
  obtain ⟨μ', r1, r2, r3⟩ := c_clear_1 4 0 μ rfl (fun i hi => absurd hi (Nat.not_lt_zero _))
  refine ⟨μ', fsemV_of (Nat.le_of_ble_eq_true rfl) ?_, r2, r3⟩
  refine fE_step (y := fun zz => frun _ _ zz 2 [kR 4 0 0, kN 0] [] _ 0 0) 2 (fun _ => rfl) ?_
  exact r1
theorem c_unask {h n : Nat} : ∀ j s (μ : fM), s + j = 4 → (∀ i, i < s → μ.1 25 0 0 i = 0) → ∃ μ', (∀ res, fEnds (fun zz => frun eX4_mostByMoving tX4_mostByMoving zz 39 [kR 4 0 0, kR 6 0 0, kN n, kN h, kN 4] [] μ' 0 0) res → fEnds (fun zz => frun eX4_mostByMoving tX4_mostByMoving zz 19 [kR 4 0 0, kR 6 0 0, kN n, kN h, kN s] [] μ 0 0) res) ∧ KQ μ' (fun _ => false) ∧ sX' (fun C _ _ _ => C = 25) μ μ'
  | 0, s, μ, e, H => by
    obtain rfl : s = 4 := e
    refine ⟨μ, fun res R => ?_, fun s hs => (H s hs).trans rfl, sX_refl⟩
    refine fE_step (y := fun zz => frun _ _ zz 39 [kR 4 0 0, kR 6 0 0, kN n, kN h, kN 4] [] _ 0 0) 3 (fun _ => rfl) ?_
    exact R
  | j + 1, s, μ, e, H => by
    obtain ⟨μ', r1, r2, r3⟩ := c_unask (h := h) (n := n) j (s + 1) (fI μ 25 0 0 s 0) (by omega) (fun i hi => by
      by_cases c : i = s
      · subst c; exact fI_at
      · rw [fI_ne (by omega)]; exact H i (by omega))
    refine ⟨μ', fun res R => ?_, r2, sX_trans (sX_fI rfl) r3⟩
    have R' := r1 res R
    refine fE_neg (by first | omega | (simp (disch := omega) only [fLit, nI_add, pk_mul, pk_rem, nI_clamp, beq01, beq11, cond_false, cond_true, nI_leI, nI_ltI, nI_eq]; done) | (simp (disch := omega) only [fLit, nI_add, pk_mul, pk_rem, nI_clamp, beq01, beq11, cond_false, cond_true, nI_leI, nI_ltI, nI_eq]; omega)) 3 (fun _ => rfl) ?_
    refine fE_pos (by refine g_in (k := s) ?_ (show s < 4 from by omega) (show 4 < 2 ^ 31 from by decide); first | rfl | (simp (disch := omega) only [fLit, nI_add, pk_mul, pk_rem, pk_sub, nI_clamp]; done)) 5 (fun _ => rfl) ?_
    refine fE_step (y := fun zz => frun _ _ zz 19 [kR 4 0 0, kR 6 0 0, kN n, kN h, kX (nI s + 1)] [] (fI μ 25 0 0 (nI s).toNatClampNeg 0) 0 0) 2 (fun _ => rfl) ?_
    rw [nI_clamp (show s < 2 ^ 31 by omega), nI_1]
    exact R'
theorem c_mbm_1 {u : Nat} {a : Nat → Nat} (O : OKA u a) : ∀ j h (m : Nat → Nat) (μ : fM) z, h + j = a 0 → YR μ 0 a → MX (fit a) (fun g => g < h) m → mOK (a 0) m → KH μ m → ∃ μ', fEnds (fun zz => frun eX4_mostByMoving tX4_mostByMoving zz 8 [kR 4 0 0, kR 6 0 0, kN (sz m), kN h, z] [] μ 0 0) (.inl (some (vI (nI (wU a).1))), μ') ∧ sX' slP μ μ'
  | 0, h, m, μ, z, e, Y, X, M, K => by
    have h6 := O.hulls
    have hb := Y.begun
    obtain rfl : h = a 0 := e
    refine ⟨μ, ?_, sX_refl⟩
    rw [most_eq h6 X (fun s _ => by rcases M s with x | x <;> omega)]
    refine fE_pos (by show μ.1 6 0 0 4 ≤ nI (a 0); rw [hb]; exact nI_le (Nat.le_refl _) (by omega)) 4 (fun _ => rfl) ?_
    exact fE_ret 2 (fun _ => rfl)
  | j + 1, h, m, μ, z, e, Y, X, M, K => by
    have h6 := O.hulls
    have hb := Y.begun
    obtain ⟨μ1, q1, q2, q3⟩ := c_unask (h := h) (n := sz m) 4 0 μ rfl (fun i hi => absurd hi (Nat.not_lt_zero _))
    have S1 : sX' slP μ μ1 := sX_mono q3 (fun C y h k p => Or.inr (Or.inl p))
    have Y1 := YR_sl Y S1
    have K1 : KH μ1 m := KH_out K (fun k => q3.1 24 0 0 k (by show ¬ 24 = 25; decide))
    obtain ⟨μ2, f1, f2, f3, f4⟩ := c_find O μ1 h m (fun _ => false) Y1 (by omega) M K1 q2
    have V := fpR_val (F := fit a) 4 h m (fun _ => false) (show h < a 0 by omega) M
    have X2 := kuhn_ok (F := fit a) (n := h) (m := m) (by omega) X
    unfold kuhn at X2
    revert f1 f2 f3 V X2
    generalize fpR (fit a) 4 h m (fun _ => false) = r
    intro f1 f2 f3 V X2
    have S2 : sX' slP μ μ2 := sX_trans S1 f4
    have sm : sz m ≤ 4 := nC_le
    obtain ⟨μ', t1, t2⟩ := c_mbm_1 O j (h + 1) r.2.1 μ2 (some (vI (nI 4))) (by omega) (YR_sl Y S2) X2.1 V f2
    refine ⟨μ', ?_, sX_trans S2 t2⟩
    have R := q1 (.inl (some (vI (nI (wU a).1))), μ') (by
      skip
      refine fE_call (f1) 5 (fun _ => rfl) ?_
      refine fE_ite 1 (fun _ => rfl) (fun w => ?_) (fun w => ?_)
      · skip
        have w := bI_0.mp w
        rw [X2.2, if_neg w, Nat.add_zero] at t1
        refine fE_step (y := fun zz => frun _ _ zz 8 [kR 4 0 0, kR 6 0 0, kN (sz m), kX (nI h + 1), kN 4] [] _ 0 0) 2 (fun _ => rfl) ?_
        rw [nI_1]
        exact t1
      · skip
        have w := bI_n.mp w
        rw [X2.2, if_pos w] at t1
        refine fE_step (y := fun zz => frun _ _ zz 8 [kR 4 0 0, kR 6 0 0, kX (nI (sz m) + 1), kX (nI h + 1), kN 4] [] _ 0 0) 3 (fun _ => rfl) ?_
        rw [nI_1, nI_1]
        exact t1
      )
    refine fE_neg (fun p => by change μ.1 6 0 0 4 ≤ nI h at p; rw [hb] at p; have := (nI_leI (by omega) (by omega)).mp p; omega) 4 (fun _ => rfl) ?_
    refine fE_step (y := fun zz => frun _ _ zz 19 [kR 4 0 0, kR 6 0 0, kN (sz m), kN h, kN 0] [] _ 0 0) 2 (fun _ => rfl) ?_
    exact R
theorem sz_6 : sz (fun _ => 6) = 0 := by decide
theorem c_mbm {μ : fM} {u : Nat} {a : Nat → Nat} (Y : YR μ 0 a) (O : OKA u a) : ∃ μ', sX4_mostByMoving [vR 4 0 0, vR 6 0 0] μ = some (.inl (some (vI (nI (wU a).1))), μ') ∧ sX' slP μ μ' := by
  obtain ⟨μ1, r1, r2, r3⟩ := c_clear (μ := μ)
  obtain ⟨μ', s1, s2⟩ := c_mbm_1 O (a 0) 0 (fun _ => 6) μ1 none (Nat.zero_add _) (YR_sl Y r3) (MX_R MX_0 (fun g _ => ⟨False.elim, fun x => absurd x (Nat.not_lt_zero _)⟩)) (fun _ => Or.inl rfl) r2
  rw [sz_6] at s1
  refine ⟨μ', fsemV_of (Nat.le_of_ble_eq_true rfl) ?_, sX_trans r3 s2⟩
  refine fE_call (r1) 2 (fun _ => rfl) ?_
  refine fE_step (y := fun zz => frun _ _ zz 8 [kR 4 0 0, kR 6 0 0, kN 0, kN 0, none] [] _ 0 0) 4 (fun _ => rfl) ?_
  exact s1
theorem k_mostOnSlips {μ : fM} {u : Nat} {a : Nat → Nat} (Y : YR μ 0 a) (O : OKA u a) : ∃ μ', sX7_mostOnSlips [vR 7 0 0] μ = some (.inl (some (vI (nI (wU a).1))), μ') ∧ sX' slP μ μ' := by
  obtain ⟨μ', r1, r2⟩ := c_mbm Y O
  refine ⟨μ', fsemV_of (Nat.le_of_ble_eq_true rfl) ?_, r2⟩
  refine fE_call (r1) 5 (fun _ => rfl) ?_
  exact fE_ret 1 (fun _ => rfl)
/-! by lengths -/
theorem c_sh_1 {μ : fM} {u h : Nat} {a m : Nat → Nat} (Y : YR μ 0 a) (O : OKA u a) (hh : h < a 0) (M : mOK (a 0) m) (K : KH μ m) : ∀ j s d, s + j = 4 → d ≤ 4 → fEnds (fun zz => frun eX4_shortestFreeSlip tX4_shortestFreeSlip zz 5 [kR 4 0 0, kR 6 0 0, kN h, kX (dF 4 d), kN s] [] μ 0 0) (.inl (some (vI (dF 4 (dlF (fun s => m s = 6 ∧ fit a h s) (fun s => 8 - aS a s) 4 j s d)))), μ)
  | 0, s, d, e, hd => by
    obtain rfl : s = 4 := e
    exact fE_ret 5 (fun _ => rfl)
  | j + 1, s, d, e, hd => by
    have h6 := O.hulls
    have es : (nI s).toNatClampNeg = s := nI_clamp (by omega)
    have ks := K s (by omega)
    have ms : m s = 6 ∨ m s < 6 := by rcases M s with x | x <;> omega
    have cf := c_fits Y O hh (s := s) (by omega)
    have ys := Y.slip (k := s) (by omega)
    have b1 := O.slip s (by omega)
    rw [dlF]
    have no : ¬ ((m s = 6 ∧ fit a h s) ∧ (d = 4 ∨ 8 - aS a d < 8 - aS a s)) → fEnds (fun zz => frun eX4_shortestFreeSlip tX4_shortestFreeSlip zz 56 [kR 4 0 0, kR 6 0 0, kN h, kX (dF 4 d), kN s] [] μ 0 0) (.inl (some (vI (dF 4 (dlF (fun s => m s = 6 ∧ fit a h s) (fun s => 8 - aS a s) 4 j (s + 1) (if (m s = 6 ∧ fit a h s) ∧ (d = 4 ∨ 8 - aS a d < 8 - aS a s) then s else d))))), μ) := fun q => by
      rw [if_neg q]
      refine fE_step (y := fun zz => frun _ _ zz 5 [kR 4 0 0, kR 6 0 0, kN h, kX (dF 4 d), kX (nI s + 1)] [] _ 0 0) 2 (fun _ => rfl) ?_
      rw [nI_1]
      exact c_sh_1 Y O hh M K j (s + 1) d (by omega) hd
    have yes : ((m s = 6 ∧ fit a h s) ∧ (d = 4 ∨ 8 - aS a d < 8 - aS a s)) → fEnds (fun zz => frun eX4_shortestFreeSlip tX4_shortestFreeSlip zz 53 [kR 4 0 0, kR 6 0 0, kN h, kX (dF 4 d), kN s] [] μ 0 0) (.inl (some (vI (dF 4 (dlF (fun s => m s = 6 ∧ fit a h s) (fun s => 8 - aS a s) 4 j (s + 1) (if (m s = 6 ∧ fit a h s) ∧ (d = 4 ∨ 8 - aS a d < 8 - aS a s) then s else d))))), μ) := fun q => by
      rw [if_pos q]
      refine fE_step (y := fun zz => frun _ _ zz 5 [kR 4 0 0, kR 6 0 0, kN h, kN s, kX (nI s + 1)] [] _ 0 0) 4 (fun _ => rfl) ?_
      rw [nI_1]
      have := c_sh_1 Y O hh M K j (s + 1) s (by omega) (by omega)
      rw [dF_ne (show ¬ s = 4 by omega)] at this
      exact this
    refine fE_neg (by first | omega | (simp (disch := omega) only [fLit, nI_add, pk_mul, pk_rem, nI_clamp, beq01, beq11, cond_false, cond_true, nI_leI, nI_ltI, nI_eq]; done) | (simp (disch := omega) only [fLit, nI_add, pk_mul, pk_rem, nI_clamp, beq01, beq11, cond_false, cond_true, nI_leI, nI_ltI, nI_eq]; omega)) 3 (fun _ => rfl) ?_
    refine fE_pos (by refine g_in (k := s) ?_ (show s < 4 from by omega) (show 4 < 2 ^ 31 from by decide); first | rfl | (simp (disch := omega) only [fLit, nI_add, pk_mul, pk_rem, pk_sub, nI_clamp]; done)) 4 (fun _ => rfl) ?_
    refine fE_ite 2 (fun _ => rfl) (fun q => ?_) (fun q => ?_)
    · skip
      change μ.1 24 0 0 (nI s).toNatClampNeg = -1 at q
      rw [es, ks] at q
      have q := (dF_m6 ms).mp q
      refine fE_call (cf) 4 (fun _ => rfl) ?_
      refine fE_ite 1 (fun _ => rfl) (fun r => ?_) (fun r => ?_)
      · skip
        have r := bI_0.mp r
        exact no (fun z => r z.1.2)
      · skip
        have r := bI_n.mp r
        refine fE_ite 3 (fun _ => rfl) (fun t => ?_) (fun t => ?_)
        · skip
          have t : d = 4 := (dF_m1 hd (by decide)).mp t
          exact yes ⟨⟨q, r⟩, Or.inl t⟩
        · skip
          have t : ¬ d = 4 := fun z => t ((dF_m1 hd (by decide)).mpr z)
          have yd := Y.slip (k := d) (by omega)
          have b2 := O.slip d (by omega)
          rw [dF_ne t]
          rw [dF_ne t] at no yes
          refine fE_pos (by refine g_in (k := s) ?_ (show s < 4 from by omega) (show 4 < 2 ^ 31 from by decide); first | rfl | (simp (disch := omega) only [fLit, nI_add, pk_mul, pk_rem, pk_sub, nI_clamp]; done)) 4 (fun _ => rfl) ?_
          refine fE_pos (by refine g_in (k := d) ?_ (show d < 4 from by omega) (show 4 < 2 ^ 31 from by decide); first | rfl | (simp (disch := omega) only [fLit, nI_add, pk_mul, pk_rem, pk_sub, nI_clamp]; done)) 4 (fun _ => rfl) ?_
          refine fE_ite 1 (fun _ => rfl) (fun w => ?_) (fun w => ?_)
          · skip
            change μ.1 15 0 0 (nI d).toNatClampNeg ≤ μ.1 15 0 0 (nI s).toNatClampNeg at w
            rw [es, nI_clamp (show d < 2 ^ 31 by omega), ys, yd] at w
            have w := (nI_leI (by omega) (by omega)).mp w
            exact no (fun z => by have := z.2; omega)
          · skip
            change ¬ μ.1 15 0 0 (nI d).toNatClampNeg ≤ μ.1 15 0 0 (nI s).toNatClampNeg at w
            rw [es, nI_clamp (show d < 2 ^ 31 by omega), ys, yd] at w
            have w : ¬ aS a d ≤ aS a s := fun z => w (nI_le z (by omega))
            exact yes ⟨⟨q, r⟩, Or.inr (by omega)⟩
    · skip
      change ¬ μ.1 24 0 0 (nI s).toNatClampNeg = -1 at q
      rw [es, ks] at q
      exact no (fun z => q ((dF_m6 ms).mpr z.1.1))
theorem c_sh {μ : fM} {u h : Nat} {a m : Nat → Nat} (Y : YR μ 0 a) (O : OKA u a) (hh : h < a 0) (M : mOK (a 0) m) (K : KH μ m) : sX4_shortestFreeSlip [vR 4 0 0, vR 6 0 0, vI (nI h)] μ = some (.inl (some (vI (dF 4 (shS a m h)))), μ) := by
  have R := c_sh_1 Y O hh M K 4 0 4 rfl (Nat.le_refl _)
  rw [show dF 4 4 = -1 from rfl] at R
  refine fsemV_of (Nat.le_of_ble_eq_true rfl) ?_
  refine fE_step (y := fun zz => frun _ _ zz 5 [kR 4 0 0, kR 6 0 0, kN h, kX (-1), kN 0] [] _ 0 0) 4 (fun _ => rfl) ?_
  exact R
/-- the hulls that have come when it is hull h's turn among those with F frames -/
def came (a : Nat → Nat) (F h g : Nat) : Prop := g < a 0 ∧ (hF a g < F ∨ hF a g = F ∧ g < h)
theorem c_mfs_1 {u F : Nat} {a : Nat → Nat} (O : OKA u a) (hF8 : F ≤ 8) : ∀ j h (m : Nat → Nat) (μ : fM) z, h + j = a 0 → YR μ 0 a → MX (fit a) (came a F h) m → gI a m → mOK (a 0) m → KH μ m → ∃ m' μ' z', (∀ res, fEnds (fun zz => frun eX4_mostFromShortest tX4_mostFromShortest zz 77 [kR 4 0 0, kR 6 0 0, kN (sz m'), kN F, kN (a 0), z'] [] μ' 0 0) res → fEnds (fun zz => frun eX4_mostFromShortest tX4_mostFromShortest zz 17 [kR 4 0 0, kR 6 0 0, kN (sz m), kN F, kN h, z] [] μ 0 0) res) ∧ MX (fit a) (came a F (a 0)) m' ∧ gI a m' ∧ mOK (a 0) m' ∧ KH μ' m' ∧ sX' slP μ μ'
  | 0, h, m, μ, z, e, Y, X, G, M, K => by
    have h6 := O.hulls
    have hb := Y.begun
    obtain rfl : h = a 0 := e
    refine ⟨m, μ, z, fun res R => ?_, X, G, M, K, sX_refl⟩
    refine fE_pos (by show μ.1 6 0 0 4 ≤ nI (a 0); rw [hb]; exact nI_le (Nat.le_refl _) (by omega)) 4 (fun _ => rfl) ?_
    exact R
  | j + 1, h, m, μ, z, e, Y, X, G, M, K => by
    have h6 := O.hulls
    have hb := Y.begun
    have eh : (nI h).toNatClampNeg = h := nI_clamp (by omega)
    have hf := (Y.hv (h := h) (by omega)).1
    have f8 := O.fr h (by omega)
    have sm : sz m ≤ 4 := nC_le
    have skip' : ∀ z1, (∃ m' μ' z', (∀ res, fEnds (fun zz => frun eX4_mostFromShortest tX4_mostFromShortest zz 77 [kR 4 0 0, kR 6 0 0, kN (sz m'), kN F, kN (a 0), z'] [] μ' 0 0) res → fEnds (fun zz => frun eX4_mostFromShortest tX4_mostFromShortest zz 17 [kR 4 0 0, kR 6 0 0, kN (sz m), kN F, kN (h + 1), z1] [] μ 0 0) res) ∧ MX (fit a) (came a F (a 0)) m' ∧ gI a m' ∧ mOK (a 0) m' ∧ KH μ' m' ∧ sX' slP μ μ') → ∃ m' μ' z', (∀ res, fEnds (fun zz => frun eX4_mostFromShortest tX4_mostFromShortest zz 77 [kR 4 0 0, kR 6 0 0, kN (sz m'), kN F, kN (a 0), z'] [] μ' 0 0) res → fEnds (fun zz => frun eX4_mostFromShortest tX4_mostFromShortest zz 71 [kR 4 0 0, kR 6 0 0, kN (sz m), kN F, kN h, z1] [] μ 0 0) res) ∧ MX (fit a) (came a F (a 0)) m' ∧ gI a m' ∧ mOK (a 0) m' ∧ KH μ' m' ∧ sX' slP μ μ' := fun z1 ⟨m', μ', z', r1, r2⟩ => ⟨m', μ', z', fun res R => by
      have R' := r1 res R
      refine fE_step (y := fun zz => frun _ _ zz 17 [kR 4 0 0, kR 6 0 0, kN (sz m), kN F, kX (nI h + 1), z1] [] _ 0 0) 2 (fun _ => rfl) ?_
      rw [nI_1]
      exact R'
      , r2⟩
    by_cases c : hF a h = F
    · have cs := c_sh Y O (show h < a 0 by omega) M K
      have ok := grd_ok O X G (h := h) (fun q => by have := q.2; omega) (by omega)
      have ce : ∀ g, (came a F h g ∨ g = h) ↔ came a F (h + 1) g := fun g => by
        unfold came
        constructor
        · rintro (q | q)
          · exact ⟨q.1, by have := q.2; omega⟩
          · subst q; exact ⟨by omega, Or.inr ⟨c, by omega⟩⟩
        · rintro ⟨q1, q2⟩
          by_cases g0 : g = h
          · exact Or.inr g0
          · exact Or.inl ⟨q1, by omega⟩
      have X1 : MX (fit a) (came a F (h + 1)) (grd a m h) := MX_R ok.1 (fun g _ => ce g)
      rcases shS_ok (m := m) (h := h) O with x | x
      · have gm : grd a m h = m := if_pos x.1
        rw [gm] at X1
        obtain ⟨m', μ', z', r1, r2⟩ := skip' (some (vI (-1))) (c_mfs_1 O hF8 j (h + 1) m μ (some (vI (-1))) (by omega) Y X1 G M K)
        refine ⟨m', μ', z', fun res R => ?_, r2⟩
        have R' := r1 res R
        rw [x.1, show dF 4 4 = -1 from rfl] at cs
        refine fE_neg (fun p => by change μ.1 6 0 0 4 ≤ nI h at p; rw [hb] at p; have := (nI_leI (by omega) (by omega)).mp p; omega) 4 (fun _ => rfl) ?_
        refine fE_pos (by refine g_in (k := h) ?_ (show h < 6 from by omega) (show 6 < 2 ^ 31 from by decide); first | rfl | (simp (disch := omega) only [fLit, nI_add, pk_mul, pk_rem, pk_sub, nI_clamp]; done)) 4 (fun _ => rfl) ?_
        refine fE_pos (by show μ.1 1 0 (nI h).toNatClampNeg 3 = nI F; rw [eh, hf, c]) 3 (fun _ => rfl) ?_
        refine fE_call (cs) 4 (fun _ => rfl) ?_
        refine fE_step (y := fun zz => frun _ _ zz 51 [kR 4 0 0, kR 6 0 0, kN (sz m), kN F, kN h, z] [vI (-1)] _ 0 0) 1 (fun _ => rfl) ?_
        refine fE_step (y := fun zz => frun _ _ zz 71 [kR 4 0 0, kR 6 0 0, kN (sz m), kN F, kN h, kX (-1)] [] _ 0 0) 4 (fun _ => rfl) ?_
        exact R'
      · have s4 : ¬ shS a m h = 4 := by omega
        have gm : grd a m h = up m (shS a m h) h := if_neg s4
        have G1 := ok.2.1
        have e1 := ok.2.2
        rw [if_neg s4, gm] at e1
        rw [gm] at X1 G1
        have M1 : mOK (a 0) (up m (shS a m h) h) := fun i => by
          by_cases q : i = shS a m h
          · rw [q, up_at]; right; omega
          · rw [up_ne q]; exact M i
        obtain ⟨m', μ', z', r1, r2, r3, r4, r5, r6⟩ := c_mfs_1 O hF8 j (h + 1) (up m (shS a m h) h) (fI μ 24 0 0 (shS a m h) (nI h)) (some (vI (nI (shS a m h)))) (by omega) (YR_sl Y (sX_fI (Or.inl rfl))) X1 G1 M1 (KH_put K (by omega))
        refine ⟨m', μ', z', fun res R => ?_, r2, r3, r4, r5, sX_trans (sX_fI (Or.inl rfl)) r6⟩
        have R' := r1 res R
        rw [e1] at R'
        rw [dF_ne s4] at cs
        refine fE_neg (fun p => by change μ.1 6 0 0 4 ≤ nI h at p; rw [hb] at p; have := (nI_leI (by omega) (by omega)).mp p; omega) 4 (fun _ => rfl) ?_
        refine fE_pos (by refine g_in (k := h) ?_ (show h < 6 from by omega) (show 6 < 2 ^ 31 from by decide); first | rfl | (simp (disch := omega) only [fLit, nI_add, pk_mul, pk_rem, pk_sub, nI_clamp]; done)) 4 (fun _ => rfl) ?_
        refine fE_pos (by show μ.1 1 0 (nI h).toNatClampNeg 3 = nI F; rw [eh, hf, c]) 3 (fun _ => rfl) ?_
        refine fE_call (cs) 4 (fun _ => rfl) ?_
        refine fE_step (y := fun zz => frun _ _ zz 51 [kR 4 0 0, kR 6 0 0, kN (sz m), kN F, kN h, z] [vI (nI (shS a m h))] _ 0 0) 1 (fun _ => rfl) ?_
        refine fE_neg (fun p => absurd ((congrArg Int32.toInt p).symm.trans (nI_toInt (by omega))) (by rw [show (-1 : Int32).toInt = -1 from by decide]; omega)) 4 (fun _ => rfl) ?_
        refine fE_pos (by refine g_in (k := shS a m h) ?_ (show shS a m h < 4 from by omega) (show 4 < 2 ^ 31 from by decide); first | rfl | (simp (disch := omega) only [fLit, nI_add, pk_mul, pk_rem, pk_sub, nI_clamp]; done)) 5 (fun _ => rfl) ?_
        refine fE_step (y := fun zz => frun _ _ zz 17 [kR 4 0 0, kR 6 0 0, kX (nI (sz m) + 1), kN F, kX (nI h + 1), kN (shS a m h)] [] (fI μ 24 0 0 (nI (shS a m h)).toNatClampNeg (nI h)) 0 0) 3 (fun _ => rfl) ?_
        rw [nI_clamp (show shS a m h < 2 ^ 31 by omega), nI_1, nI_1]
        exact R'
    · have X1 : MX (fit a) (came a F (h + 1)) m := MX_R X (fun g _ => by
        unfold came
        constructor
        · rintro ⟨q1, q2⟩
          exact ⟨q1, by omega⟩
        · rintro ⟨q1, q2⟩
          refine ⟨q1, ?_⟩
          rcases q2 with q2 | q2
          · exact Or.inl q2
          · by_cases g0 : g = h
            · subst g0; exact absurd q2.1 c
            · exact Or.inr ⟨q2.1, by omega⟩)
      obtain ⟨m', μ', z', r1, r2⟩ := skip' (some (vI (-1))) (c_mfs_1 O hF8 j (h + 1) m μ (some (vI (-1))) (by omega) Y X1 G M K)
      refine ⟨m', μ', z', fun res R => ?_, r2⟩
      have R' := r1 res R
      refine fE_neg (fun p => by change μ.1 6 0 0 4 ≤ nI h at p; rw [hb] at p; have := (nI_leI (by omega) (by omega)).mp p; omega) 4 (fun _ => rfl) ?_
      refine fE_pos (by refine g_in (k := h) ?_ (show h < 6 from by omega) (show 6 < 2 ^ 31 from by decide); first | rfl | (simp (disch := omega) only [fLit, nI_add, pk_mul, pk_rem, pk_sub, nI_clamp]; done)) 4 (fun _ => rfl) ?_
      refine fE_neg (fun p => by change μ.1 1 0 (nI h).toNatClampNeg 3 = nI F at p; rw [eh, hf] at p; exact c ((nI_eq (by omega) (by omega)).mp p)) 3 (fun _ => rfl) ?_
      refine fE_step (y := fun zz => frun _ _ zz 71 [kR 4 0 0, kR 6 0 0, kN (sz m), kN F, kN h, kX (-1)] [] _ 0 0) 5 (fun _ => rfl) ?_
      exact R'
theorem c_mfs_2 {u : Nat} {a : Nat → Nat} (O : OKA u a) : ∀ j F (m : Nat → Nat) (μ : fM) z z5, F + j = 9 → YR μ 0 a → MX (fit a) (came a F 0) m → gI a m → mOK (a 0) m → KH μ m → ∃ μ', fEnds (fun zz => frun eX4_mostFromShortest tX4_mostFromShortest zz 8 [kR 4 0 0, kR 6 0 0, kN (sz m), kN F, z, z5] [] μ 0 0) (.inl (some (vI (nI (wU a).1))), μ') ∧ sX' slP μ μ'
  | 0, F, m, μ, z, z5, e, Y, X, G, M, K => by
    have h6 := O.hulls
    obtain rfl : F = 9 := e
    refine ⟨μ, ?_, sX_refl⟩
    have X1 : MX (fit a) (fun g => g < a 0) m := MX_R X (fun g _ => ⟨fun q => q.1, fun q => ⟨q, by have := O.fr g (by omega); omega⟩⟩)
    rw [most_eq h6 X1 (fun s _ => by rcases M s with x | x <;> omega)]
    exact fE_ret 5 (fun _ => rfl)
  | j + 1, F, m, μ, z, z5, e, Y, X, G, M, K => by
    obtain ⟨m1, μ1, z1, r1, r2, r3, r4, r5, r6⟩ := c_mfs_1 O (F := F) (by omega) (a 0) 0 m μ z5 (Nat.zero_add _) Y X G M K
    have X1 : MX (fit a) (came a (F + 1) 0) m1 := MX_R r2 (fun g _ => by
      unfold came
      constructor
      · rintro ⟨q1, q2⟩
        exact ⟨q1, by omega⟩
      · rintro ⟨q1, q2⟩
        exact ⟨q1, by omega⟩)
    obtain ⟨μ', s1, s2⟩ := c_mfs_2 O j (F + 1) m1 μ1 (some (vI (nI (a 0)))) z1 (by omega) (YR_sl Y r6) X1 r3 r4 r5
    refine ⟨μ', ?_, sX_trans r6 s2⟩
    have R := r1 (.inl (some (vI (nI (wU a).1))), μ') (by
      skip
      refine fE_step (y := fun zz => frun _ _ zz 8 [kR 4 0 0, kR 6 0 0, kN (sz m1), kX (nI F + 1), kN (a 0), z1] [] _ 0 0) 2 (fun _ => rfl) ?_
      rw [nI_1]
      exact s1
      )
    refine fE_neg (by first | omega | (simp (disch := omega) only [fLit, nI_add, pk_mul, pk_rem, nI_clamp, beq01, beq11, cond_false, cond_true, nI_leI, nI_ltI, nI_eq]; done) | (simp (disch := omega) only [fLit, nI_add, pk_mul, pk_rem, nI_clamp, beq01, beq11, cond_false, cond_true, nI_leI, nI_ltI, nI_eq]; omega)) 3 (fun _ => rfl) ?_
    refine fE_step (y := fun zz => frun _ _ zz 17 [kR 4 0 0, kR 6 0 0, kN (sz m), kN F, kN 0, z5] [] _ 0 0) 2 (fun _ => rfl) ?_
    exact R
theorem c_mfs {μ : fM} {u : Nat} {a : Nat → Nat} (Y : YR μ 0 a) (O : OKA u a) : ∃ μ', sX4_mostFromShortest [vR 4 0 0, vR 6 0 0] μ = some (.inl (some (vI (nI (wU a).1))), μ') ∧ sX' slP μ μ' := by
  obtain ⟨μ1, r1, r2, r3⟩ := c_clear (μ := μ)
  obtain ⟨μ', s1, s2⟩ := c_mfs_2 O 7 2 (fun _ => 6) μ1 none none rfl (YR_sl Y r3) (MX_R MX_0 (fun g hg => ⟨False.elim, fun x => by
    obtain ⟨s, _, f⟩ := hg
    have := f.2.2.1
    have := x.2
    omega⟩)) (fun z f _ _ h6 => absurd rfl h6) (fun _ => Or.inl rfl) r2
  rw [sz_6] at s1
  refine ⟨μ', fsemV_of (Nat.le_of_ble_eq_true rfl) ?_, sX_trans r3 s2⟩
  refine fE_call (r1) 2 (fun _ => rfl) ?_
  refine fE_step (y := fun zz => frun _ _ zz 8 [kR 4 0 0, kR 6 0 0, kN 0, kN 2, none, none] [] _ 0 0) 4 (fun _ => rfl) ?_
  exact s1
theorem k_mostByLengths {μ : fM} {u : Nat} {a : Nat → Nat} (Y : YR μ 0 a) (O : OKA u a) : ∃ μ', sX7_mostOnSlipsByLengths [vR 7 0 0] μ = some (.inl (some (vI (nI (wU a).1))), μ') ∧ sX' slP μ μ' := by
  obtain ⟨μ', r1, r2⟩ := c_mfs Y O
  refine ⟨μ', fsemV_of (Nat.le_of_ble_eq_true rfl) ?_, r2⟩
  refine fE_call (r1) 5 (fun _ => rfl) ?_
  exact fE_ret 1 (fun _ => rfl)
