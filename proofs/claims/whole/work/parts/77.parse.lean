/-! PROGRAMS: what a text says. tx: its characters; n: how many -/
abbrev isD (tx : Nat → Nat) (n p : Nat) : Prop := p < n ∧ 48 ≤ tx p ∧ tx p ≤ 57
def cD (tx : Nat → Nat) (n p m : Nat) : Nat := nF (fun d => ¬ isD tx n (p + d)) 0 m
def vlT (tx : Nat → Nat) (p : Nat) : Nat → Nat
  | 0 => 0
  | d + 1 => 10 * vlT tx p d + (tx (p + d) - 48)
def mS (s : Nat) : Nat := if s = 35 then 1 else if s = 42 then 3 else 0
/-- a form, from p on: where it ended or did not fit, and its numbers if it fits -/
def fmR (tx : Nat → Nat) (n : Nat) : List Nat → Nat → Nat × Option (List Nat)
  | [], p => (p, some [])
  | s :: r, p => if 0 < cD tx n p (mS s) then ((fmR tx n r (p + cD tx n p (mS s))).1, (fmR tx n r (p + cD tx n p (mS s))).2.map (vlT tx p (cD tx n p (mS s)) :: ·))
    else if mS s = 0 ∧ p < n ∧ tx p = s then fmR tx n r (p + 1) else (p, none)
def nv (L : List Nat) : Nat := L.countP (fun s => decide (0 < mS s))
/-- the words ahead of the arguments, and the arguments -/
def wdL : List (List Nat) := [[104, 117, 108, 108], [102, 114, 97, 109, 101, 32], [109, 105, 114, 114, 111, 114, 32], [99, 97, 114, 103, 111, 32], [108, 97, 117, 110, 99, 104, 32], [99, 97, 117, 108, 107, 32], [112, 117, 109, 112, 32], [104, 111, 117, 114, 115, 32], [116, 105, 100, 101, 32], [111, 114, 100, 101, 114, 32], [100, 101, 108, 105, 118, 101, 114, 32]]
def agL : List (List Nat) := [[], [35, 32, 42, 47, 42], [35], [35, 32, 42], [35], [35, 32, 35], [35, 32, 42], [42], [42, 32, 42], [35, 32, 42, 32, 42], [42, 32, 35]]
def wd (k : Nat) : List Nat := wdL.getD k []
def ag (k : Nat) : List Nat := agL.getD k []
def sgn (k : Nat) : List Nat := wd k ++ ag k
theorem cD_le {tx : Nat → Nat} {n p m : Nat} : cD tx n p m ≤ m := by
  have := nF_le (p := fun d => ¬ isD tx n (p + d)) (j := m) (k := 0)
  unfold cD
  omega
theorem cD_is {tx : Nat → Nat} {n p m d : Nat} (h : d < cD tx n p m) : isD tx n (p + d) := by
  have := nF_not (p := fun d => ¬ isD tx n (p + d)) (j := m) (k := 0) (i := d) (Nat.zero_le _) h
  exact Decidable.not_not.mp this
theorem cD_n {tx : Nat → Nat} {n p m : Nat} (hp : p ≤ n) : p + cD tx n p m ≤ n := by
  by_cases h : cD tx n p m = 0
  · omega
  · have := (cD_is (tx := tx) (n := n) (p := p) (m := m) (d := cD tx n p m - 1) (by omega)).1
    omega
theorem vlT_lt {tx : Nat → Nat} {n p : Nat} : ∀ {d : Nat}, (∀ i, i < d → isD tx n (p + i)) → vlT tx p d < 10 ^ d
  | 0, _ => by show 0 < 10 ^ 0; decide
  | d + 1, h => by
    have h1 := vlT_lt (d := d) (fun i hi => h i (by omega))
    have h2 := h d (by omega)
    show 10 * vlT tx p d + (tx (p + d) - 48) < 10 ^ (d + 1)
    rw [Nat.pow_succ]
    omega
theorem mS_le {s : Nat} : mS s ≤ 3 := by
  unfold mS
  split
  · omega
  · split <;> omega
theorem vlT_1000 {tx : Nat → Nat} {n p s : Nat} : vlT tx p (cD tx n p (mS s)) < 1000 := by
  have h1 := vlT_lt (tx := tx) (n := n) (p := p) (d := cD tx n p (mS s)) (fun i hi => cD_is hi)
  have h2 : cD tx n p (mS s) ≤ 3 := Nat.le_trans cD_le mS_le
  exact Nat.lt_of_lt_of_le h1 (Nat.pow_le_pow_right (by decide) h2)
theorem fmR_ok {tx : Nat → Nat} {n : Nat} : ∀ {L : List Nat} {p : Nat}, p ≤ n → p ≤ (fmR tx n L p).1 ∧ (fmR tx n L p).1 ≤ n ∧ ∀ vs, (fmR tx n L p).2 = some vs → p + L.length ≤ (fmR tx n L p).1 ∧ vs.length ≤ nv L ∧ ∀ v ∈ vs, v < 1000
  | [], p, h => by
    refine ⟨Nat.le_refl _, h, fun vs e => ?_⟩
    cases e
    exact ⟨Nat.le_refl _, Nat.zero_le _, fun v hv => (List.not_mem_nil hv).elim⟩
  | s :: r, p, h => by
    have c1 : nv (s :: r) = nv r + (if 0 < mS s then 1 else 0) := by
      unfold nv
      rw [List.countP_cons]
      simp
    rw [fmR]
    by_cases q : 0 < cD tx n p (mS s)
    · rw [if_pos q]
      have ih := fmR_ok (tx := tx) (L := r) (p := p + cD tx n p (mS s)) (cD_n h)
      refine ⟨by have := ih.1; show p ≤ (fmR tx n r (p + cD tx n p (mS s))).1; omega, ih.2.1, fun vs e => ?_⟩
      obtain ⟨ws, hw, rfl⟩ := Option.map_eq_some_iff.mp e
      have k := ih.2.2 ws hw
      have hm : 0 < mS s := Nat.lt_of_lt_of_le q cD_le
      refine ⟨by have := k.1; show p + (r.length + 1) ≤ (fmR tx n r (p + cD tx n p (mS s))).1; omega, ?_, fun v hv => ?_⟩
      · rw [c1, if_pos hm]
        have := k.2.1
        simpa using this
      · rcases List.mem_cons.mp hv with rfl | hv
        · exact vlT_1000
        · exact k.2.2 v hv
    · rw [if_neg q]
      by_cases g : mS s = 0 ∧ p < n ∧ tx p = s
      · rw [if_pos g]
        have ih := fmR_ok (tx := tx) (n := n) (L := r) (p := p + 1) (by omega)
        refine ⟨by have := ih.1; omega, ih.2.1, fun vs e => ?_⟩
        have k := ih.2.2 vs e
        exact ⟨by have := k.1; show p + (r.length + 1) ≤ _; omega, by rw [c1]; have := k.2.1; omega, k.2.2⟩
      · rw [if_neg g]
        exact ⟨Nat.le_refl _, h, fun vs e => by cases e⟩
/-- a command: where it ended and what it is, or where the furthest form did not fit -/
def cR (tx : Nat → Nat) (n p : Nat) : Nat → Nat → Nat → Nat × Option (Nat × List Nat)
  | 0, _, e => (e, none)
  | j + 1, k, e => match (fmR tx n (sgn k) p).2 with
    | some vs => ((fmR tx n (sgn k) p).1, some (k, vs))
    | none => cR tx n p j (k + 1) (max e (fmR tx n (sgn k) p).1)
theorem sgn_len : ∀ k, k < 11 → 4 ≤ (sgn k).length ∧ nv (sgn k) ≤ 3 := by decide
theorem cR_ok {tx : Nat → Nat} {n p : Nat} (hp : p ≤ n) : ∀ {j k e : Nat}, k + j ≤ 11 → p ≤ e → e ≤ n → p ≤ (cR tx n p j k e).1 ∧ (cR tx n p j k e).1 ≤ n ∧ ∀ q, (cR tx n p j k e).2 = some q → p + 4 ≤ (cR tx n p j k e).1 ∧ q.1 < 11 ∧ k ≤ q.1 ∧ q.2.length ≤ nv (sgn q.1) ∧ ∀ v ∈ q.2, v < 1000
  | 0, k, e, _, h1, h2 => ⟨h1, h2, fun q h => by cases h⟩
  | j + 1, k, e, hk, h1, h2 => by
    have F := fmR_ok (tx := tx) (L := sgn k) hp
    rw [cR]
    cases h : (fmR tx n (sgn k) p).2 with
    | some vs =>
      refine ⟨F.1, F.2.1, fun q hq => ?_⟩
      cases hq
      have f := F.2.2 vs h
      have s := sgn_len k (by omega)
      exact ⟨by have := f.1; show p + 4 ≤ (fmR tx n (sgn k) p).1; omega, by show k < 11; omega, Nat.le_refl _, f.2.1, f.2.2⟩
    | none =>
      have ih := cR_ok (tx := tx) hp (j := j) (k := k + 1) (e := max e (fmR tx n (sgn k) p).1) (by omega) (by omega) (by have := F.2.1; omega)
      exact ⟨ih.1, ih.2.1, fun q hq => by have := ih.2.2 q hq; exact ⟨this.1, this.2.1, by omega, this.2.2.2⟩⟩
/-- a program: where it is malformed, or its commands -/
def pP (tx : Nat → Nat) (n : Nat) : Nat → Nat → Nat ⊕ List (Nat × List Nat)
  | 0, p => .inl p
  | f + 1, p => match (cR tx n p 11 0 p).2 with
    | none => .inl (cR tx n p 11 0 p).1
    | some c => if n ≤ (cR tx n p 11 0 p).1 then .inr [c] else if tx (cR tx n p 11 0 p).1 = 59 then (match pP tx n f ((cR tx n p 11 0 p).1 + 1) with
        | .inl e => .inl e
        | .inr l => .inr (c :: l)) else .inl (cR tx n p 11 0 p).1
/-! THE CLASS READS -/
def CT (μ : fM) (tx : Nat → Nat) (n : Nat) : Prop := n ≤ 60 ∧ μ.1 3 0 0 1 = nI n ∧ ∀ i, i < n → μ.1 21 0 0 i = nI (tx i) ∧ tx i < 128
theorem CT_out {μ μ' : fM} {tx : Nat → Nat} {n : Nat} (H : CT μ tx n) (h1 : μ'.1 3 0 0 1 = μ.1 3 0 0 1) (h2 : ∀ k, μ'.1 21 0 0 k = μ.1 21 0 0 k) : CT μ' tx n := ⟨H.1, h1.trans H.2.1, fun i hi => ⟨(h2 i).trans (H.2.2 i hi).1, (H.2.2 i hi).2⟩⟩
theorem c_cd_1 {μ : fM} {tx : Nat → Nat} {n p m : Nat} (H : CT μ tx n) (hp : p ≤ 60) (h6 : μ.1 3 0 0 6 = nI p) (hm : m ≤ 3) : ∀ j d, d + j = m → fEnds (fun zz => frun eX3_countDigits tX3_countDigits zz 2 [kR 3 0 0, kN m, kN d] [] μ 0 0) (.inl (some (vI (nI (nF (fun d => ¬ isD tx n (p + d)) d j)))), μ)
  | 0, d, e => by
    refine fE_pos (by first | omega | (simp (disch := omega) only [fLit, nI_add, pk_mul, pk_rem, nI_clamp, beq01, beq11, cond_false, cond_true, nI_leI, nI_ltI, nI_eq]; done) | (simp (disch := omega) only [fLit, nI_add, pk_mul, pk_rem, nI_clamp, beq01, beq11, cond_false, cond_true, nI_leI, nI_ltI, nI_eq]; omega)) 3 (fun _ => rfl) ?_
    exact fE_ret 2 (fun _ => rfl)
  | j + 1, d, e => by
    have hn := H.1
    have h1 := H.2.1
    refine fE_neg (by first | omega | (simp (disch := omega) only [fLit, nI_add, pk_mul, pk_rem, nI_clamp, beq01, beq11, cond_false, cond_true, nI_leI, nI_ltI, nI_eq]; done) | (simp (disch := omega) only [fLit, nI_add, pk_mul, pk_rem, nI_clamp, beq01, beq11, cond_false, cond_true, nI_leI, nI_ltI, nI_eq]; omega)) 3 (fun _ => rfl) ?_
    refine fE_ite 7 (fun _ => rfl) (fun q => ?_) (fun q => ?_)
    · skip
      have q : μ.1 3 0 0 1 ≤ μ.1 3 0 0 6 + nI d := q
      rw [h1, h6, nI_add] at q
      have q := (nI_leI (by omega) (by omega)).mp q
      refine fE_ret2 2 (fun _ => rfl) ?_
      rw [nF, if_pos (fun p => absurd p.1 (by omega))]
      rfl
    · skip
      have q : ¬ μ.1 3 0 0 1 ≤ μ.1 3 0 0 6 + nI d := q
      rw [h1, h6, nI_add] at q
      have q : p + d < n := Nat.not_le.mp fun r => q (nI_le r (by omega))
      have ht := H.2.2 (p + d) q
      have hc : sX7_isFromTo [vI (μ.1 21 0 0 (μ.1 3 0 0 6 + nI d).toNatClampNeg), vI 48, vI 57] μ = some (.inl (some (vI (bI (nI 48 ≤ nI (tx (p + d)) ∧ nI (tx (p + d)) ≤ nI 57)))), μ) := by
        rw [h6, nI_add, nI_clamp (by omega), ht.1]
        exact c_isFromTo (nI (tx (p + d))) 48 57 μ
      refine fE_pos (by refine g_in (k := p + d) ?_ (show p + d < 60 from by omega) (by decide); show μ.1 3 0 0 6 + nI d = _; rw [h6, nI_add]) 7 (fun _ => rfl) ?_
      refine fE_call (hc) 3 (fun _ => rfl) ?_
      refine fE_ite 1 (fun _ => rfl) (fun r => ?_) (fun r => ?_)
      · skip
        have r : ¬ (nI 48 ≤ nI (tx (p + d)) ∧ nI (tx (p + d)) ≤ nI 57) := bI_0.mp r
        rw [nI_leI (by omega) (by omega), nI_leI (by omega) (by omega)] at r
        refine fE_ret2 2 (fun _ => rfl) ?_
        rw [nF, if_pos (fun p => r p.2)]
        rfl
      · skip
        have r : (nI 48 ≤ nI (tx (p + d)) ∧ nI (tx (p + d)) ≤ nI 57) := bI_n.mp r
        rw [nI_leI (by omega) (by omega), nI_leI (by omega) (by omega)] at r
        refine fE_step (y := fun zz => frun _ _ zz 2 [kR 3 0 0, kN m, kX (nI d + 1)] [] _ 0 0) 2 (fun _ => rfl) ?_
        rw [nI_1, nF, if_neg (fun p => p ⟨q, r⟩)]
        exact c_cd_1 H hp h6 hm j (d + 1) (by omega)
theorem c_cd {μ : fM} {tx : Nat → Nat} {n p m : Nat} (H : CT μ tx n) (hp : p ≤ 60) (h6 : μ.1 3 0 0 6 = nI p) (hm : m ≤ 3) : sX3_countDigits [vR 3 0 0, vI (nI m)] μ = some (.inl (some (vI (nI (cD tx n p m)))), μ) := by
  refine fsemV_of (Nat.le_of_ble_eq_true rfl) ?_
  refine fE_step (y := fun zz => frun _ _ zz 2 [kR 3 0 0, kN m, kN 0] [] _ 0 0) 2 (fun _ => rfl) ?_
  exact c_cd_1 H hp h6 hm m 0 (by omega)
theorem c_vo_1 {μ : fM} {tx : Nat → Nat} {n p d : Nat} (H : CT μ tx n) (hp : p ≤ 60) (h6 : μ.1 3 0 0 6 = nI p) (hd : d ≤ 3) (hD : ∀ i, i < d → isD tx n (p + i)) : ∀ j k, k + j = d → fEnds (fun zz => frun eX3_valueOf tX3_valueOf zz 4 [kR 3 0 0, kN d, kN (vlT tx p k), kN k] [] μ 0 0) (.inl (some (vI (nI (vlT tx p d)))), μ)
  | 0, k, e => by
    obtain rfl : k = d := e
    refine fE_pos (by first | omega | (simp (disch := omega) only [fLit, nI_add, pk_mul, pk_rem, nI_clamp, beq01, beq11, cond_false, cond_true, nI_leI, nI_ltI, nI_eq]; done) | (simp (disch := omega) only [fLit, nI_add, pk_mul, pk_rem, nI_clamp, beq01, beq11, cond_false, cond_true, nI_leI, nI_ltI, nI_eq]; omega)) 3 (fun _ => rfl) ?_
    exact fE_ret 2 (fun _ => rfl)
  | j + 1, k, e => by
    have hn := H.1
    have hk := hD k (by omega)
    have ht := H.2.2 (p + k) hk.1
    have hv : vlT tx p k < 10 ^ 3 := Nat.lt_of_lt_of_le (vlT_lt (n := n) (fun i hi => hD i (by omega))) (Nat.pow_le_pow_right (by decide) (by omega))
    refine fE_neg (by first | omega | (simp (disch := omega) only [fLit, nI_add, pk_mul, pk_rem, nI_clamp, beq01, beq11, cond_false, cond_true, nI_leI, nI_ltI, nI_eq]; done) | (simp (disch := omega) only [fLit, nI_add, pk_mul, pk_rem, nI_clamp, beq01, beq11, cond_false, cond_true, nI_leI, nI_ltI, nI_eq]; omega)) 3 (fun _ => rfl) ?_
    refine fE_pos (by refine g_in (k := p + k) ?_ (show p + k < 60 from by omega) (by decide); show μ.1 3 0 0 6 + nI k = _; rw [h6, nI_add]) 10 (fun _ => rfl) ?_
    refine fE_step (y := fun zz => frun _ _ zz 4 [kR 3 0 0, kN d, kX (nI 10 * nI (vlT tx p k) + μ.1 21 0 0 (μ.1 3 0 0 6 + nI k).toNatClampNeg - nI 48), kX (nI k + 1)] [] _ 0 0) 6 (fun _ => rfl) ?_
    rw [h6, nI_add, nI_clamp (by omega), ht.1, pk_mul, nI_add, pk_sub (by omega), nI_1, show 10 * vlT tx p k + tx (p + k) - 48 = vlT tx p (k + 1) from by show _ = 10 * vlT tx p k + (tx (p + k) - 48); omega]
    exact c_vo_1 H hp h6 hd hD j (k + 1) (by omega)
theorem c_vo {μ : fM} {tx : Nat → Nat} {n p d : Nat} (H : CT μ tx n) (hp : p ≤ 60) (h6 : μ.1 3 0 0 6 = nI p) (hd : d ≤ 3) (hD : ∀ i, i < d → isD tx n (p + i)) : sX3_valueOf [vR 3 0 0, vI (nI d)] μ = some (.inl (some (vI (nI (vlT tx p d)))), μ) := by
  refine fsemV_of (Nat.le_of_ble_eq_true rfl) ?_
  refine fE_step (y := fun zz => frun _ _ zz 4 [kR 3 0 0, kN d, kN 0, kN 0] [] _ 0 0) 4 (fun _ => rfl) ?_
  exact c_vo_1 H hp h6 hd hD d 0 (by omega)
theorem s_len {μ : fM} {f : Nat} (hf : f < 11) : sStrLen [vR 52 f 0] μ = some (.inl (some (vI (nI (fLen.getD f 0)))), μ) := by
  show (bif Nat.beq 52 52 && Nat.blt f 11 then _ else _) = _
  rw [show Nat.blt f 11 = true from by simpa [Nat.blt_eq] using hf]
  rfl
theorem s_at {μ : fM} {f k s : Nat} (hf : f < 11) (hk : k < fLen.getD f 0) (hl : fLen.getD f 0 ≤ 20) (hs : (fByt.getD f []).getD k 0 = nI s) : sStrAt [vR 52 f 0, vI (nI k)] μ = some (.inl (some (vI (nI s))), μ) := by
  show (bif Nat.beq 52 52 && Nat.blt f 11 then _ else _) = _
  rw [show Nat.blt f 11 = true from by simpa [Nat.blt_eq] using hf]
  show (if fin (nI k) (fLen.getD f 0) then some ((Sum.inl (some (vI ((fByt.getD f []).getD (nI k).toNatClampNeg 0))), μ) : fR) else none) = _
  rw [if_pos (nI_in hk (by omega)), nI_clamp (by omega), hs]
/-- what reading a form may change -/
def pF (c m : Nat) (C _y _h k : Nat) : Prop := (C = 3 ∧ k = 6) ∨ (C = 23 ∧ c ≤ k ∧ k < m)
theorem c_ff_1 {tx : Nat → Nat} {n f cmd from' : Nat} (hf : f < 11) (hl : fLen.getD f 0 ≤ 20) : ∀ (L : List Nat) (idx p c : Nat) (μ : fM) z1 z2 z3, idx + L.length = fLen.getD f 0 → (∀ i s, L[i]? = some s → (fByt.getD f []).getD (idx + i) 0 = nI s ∧ s < 128) → CT μ tx n → μ.1 3 0 0 6 = nI p → p ≤ n → c + nv L ≤ 36 → ∃ μ', fEnds (fun zz => frun eX3_fitsForm tX3_fitsForm zz 13 [kR 3 0 0, kR 52 f 0, kN cmd, kN from', kN c, kN idx, z1, z2, z3] [] μ 0 0) (.inl (some (vI (bI ((fmR tx n L p).2.isSome = true)))), μ') ∧ μ'.1 3 0 0 6 = nI (fmR tx n L p).1 ∧ (∀ vs, (fmR tx n L p).2 = some vs → ∀ i v, vs[i]? = some v → μ'.1 23 0 0 (c + i) = nI v) ∧ sX' (pF c (c + nv L)) μ μ'
  | [], idx, p, c, μ, z1, z2, z3, hlen, hb, H, h6, hp, hc => by
    have hlen : idx = fLen.getD f 0 := by simpa using hlen
    refine ⟨μ, ?_, h6, fun vs e i v hv => ?_, sX_refl⟩
    · skip
      refine fE_call (s_len hf) 3 (fun _ => rfl) ?_
      refine fE_pos (by first | omega | (simp (disch := omega) only [fLit, nI_add, pk_mul, pk_rem, nI_clamp, beq01, beq11, cond_false, cond_true, nI_leI, nI_ltI, nI_eq]; done) | (simp (disch := omega) only [fLit, nI_add, pk_mul, pk_rem, nI_clamp, beq01, beq11, cond_false, cond_true, nI_leI, nI_ltI, nI_eq]; omega)) 1 (fun _ => rfl) ?_
      exact fE_ret 2 (fun _ => rfl)
    · cases e
      cases hv
  | s :: r, idx, p, c, μ, z1, z2, z3, hlen, hb, H, h6, hp, hc => by
    have hn := H.1
    have h1 := H.2.1
    have hlen : idx + (r.length + 1) = fLen.getD f 0 := hlen
    have hs := hb 0 s rfl
    have hb' : ∀ i s, r[i]? = some s → (fByt.getD f []).getD (idx + 1 + i) 0 = nI s ∧ s < 128 := fun i s' h => by
      have := hb (i + 1) s' (by simpa using h)
      rwa [show idx + (i + 1) = idx + 1 + i from by omega] at this
    have c1 : nv (s :: r) = nv r + (if 0 < mS s then 1 else 0) := by
      unfold nv
      rw [List.countP_cons]
      simp
    have hcd := c_cd (m := mS s) H (by omega) h6 mS_le
    have hcle : cD tx n p (mS s) ≤ 3 := Nat.le_trans cD_le mS_le
    have go : ∃ μ', fEnds (fun zz => frun eX3_fitsForm tX3_fitsForm zz 53 [kR 3 0 0, kR 52 f 0, kN cmd, kN from', kN c, kN idx, kN s, z2, z3] [vI (nI (mS s))] μ 0 0) (.inl (some (vI (bI ((fmR tx n (s :: r) p).2.isSome = true)))), μ') ∧ μ'.1 3 0 0 6 = nI (fmR tx n (s :: r) p).1 ∧ (∀ vs, (fmR tx n (s :: r) p).2 = some vs → ∀ i v, vs[i]? = some v → μ'.1 23 0 0 (c + i) = nI v) ∧ sX' (pF c (c + nv (s :: r))) μ μ' := by
      rw [fmR]
      by_cases q : 0 < cD tx n p (mS s)
      · rw [if_pos q]
        have hm : 0 < mS s := Nat.lt_of_lt_of_le q cD_le
        rw [c1, if_pos hm] at hc ⊢
        have hv := c_vo (d := cD tx n p (mS s)) H (by omega) h6 hcle (fun i hi => cD_is hi)
        have hpn := cD_n (tx := tx) (m := mS s) hp
        obtain ⟨μ', r1, r2, r3, r4⟩ := c_ff_1 (tx := tx) (n := n) (f := f) (cmd := cmd) (from' := from') hf hl r (idx + 1) (p + cD tx n p (mS s)) (c + 1) (fI (fI μ 23 0 0 c (nI (vlT tx p (cD tx n p (mS s))))) 3 0 0 6 (nI (p + cD tx n p (mS s)))) (some (vI (nI s))) (some (vI (nI (mS s)))) (some (vI (nI (cD tx n p (mS s))))) (by omega) hb' (CT_out H ((fI_ne (by omega)).trans (fI_ne (by omega))) (fun k => (fI_ne (by omega)).trans (fI_ne (by omega)))) fI_at hpn (by omega)
        refine ⟨μ', ?_, r2, fun vs e i v hv' => ?_, sX_trans (sX_trans (sX_fI (Or.inr ⟨rfl, Nat.le_refl _, by omega⟩)) (sX_fI (Or.inl ⟨rfl, rfl⟩))) (sX_mono r4 (fun C y h k P => by rcases P with P | P; exact Or.inl P; exact Or.inr ⟨P.1, by omega, by omega⟩))⟩
        · show fEnds _ (.inl (some (vI (bI (((fmR tx n r (p + cD tx n p (mS s))).2.map (vlT tx p (cD tx n p (mS s)) :: ·)).isSome = true)))), μ')
          rw [Option.isSome_map]
          refine fE_call (hcd) 4 (fun _ => rfl) ?_
          refine fE_neg (by first | omega | (simp (disch := omega) only [fLit, nI_add, pk_mul, pk_rem, nI_clamp, beq01, beq11, cond_false, cond_true, nI_leI, nI_ltI, nI_eq]; done) | (simp (disch := omega) only [fLit, nI_add, pk_mul, pk_rem, nI_clamp, beq01, beq11, cond_false, cond_true, nI_leI, nI_ltI, nI_eq]; omega)) 3 (fun _ => rfl) ?_
          refine fE_call (hv) 6 (fun _ => rfl) ?_
          refine fE_pos (by refine g_in (k := c) ?_ (show c < 36 from by omega) (show 36 < 2 ^ 31 from by decide); first | rfl | (simp (disch := omega) only [fLit, nI_add, pk_mul, pk_rem, pk_sub, nI_clamp]; done)) 1 (fun _ => rfl) ?_
          refine fE_step (y := fun zz => frun _ _ zz 13 [kR 3 0 0, kR 52 f 0, kN cmd, kN from', kX (nI c + 1), kX (nI idx + 1), kN s, kN (mS s), kN (cD tx n p (mS s))] [] (fI (fI μ 23 0 0 (nI c).toNatClampNeg (nI (vlT tx p (cD tx n p (mS s))))) 3 0 0 6 ((fI μ 23 0 0 (nI c).toNatClampNeg (nI (vlT tx p (cD tx n p (mS s))))).1 3 0 0 6 + nI (cD tx n p (mS s)))) 0 0) 10 (fun _ => rfl) ?_
          rw [nI_clamp (by omega), fI_ne (by omega), h6, nI_add, nI_1, nI_1]
          exact r1
        · obtain ⟨ws, hw, rfl⟩ := Option.map_eq_some_iff.mp e
          cases i with
          | zero =>
            cases hv'
            rw [r4.1 23 0 0 (c + 0) (fun P => by rcases P with P | P <;> omega), fI_ne (by omega)]
            exact fI_at
          | succ i =>
            have := r3 ws hw i v (by simpa using hv')
            rwa [show c + 1 + i = c + (i + 1) from by omega] at this
      · rw [if_neg q]
        have q0 : cD tx n p (mS s) = 0 := by omega
        rw [q0] at hcd
        by_cases g : mS s = 0 ∧ p < n ∧ tx p = s
        · rw [if_pos g]
          have ht := H.2.2 p g.2.1
          have hc2 : nv (s :: r) = nv r := by rw [c1, if_neg (by omega)]; rfl
          rw [hc2] at hc ⊢
          obtain ⟨μ', r1, r2, r3, r4⟩ := c_ff_1 (tx := tx) (n := n) (f := f) (cmd := cmd) (from' := from') hf hl r (idx + 1) (p + 1) c (fI μ 3 0 0 6 (nI (p + 1))) (some (vI (nI s))) (some (vI (nI (mS s)))) (some (vI (nI 0))) (by omega) hb' (CT_out H (fI_ne (by omega)) (fun k => fI_ne (by omega))) fI_at (by omega) (by omega)
          refine ⟨μ', ?_, r2, r3, sX_trans (sX_fI (Or.inl ⟨rfl, rfl⟩)) r4⟩
          rw [g.1] at hcd ⊢
          refine fE_call (hcd) 4 (fun _ => rfl) ?_
          refine fE_neg (fun P => by change μ.1 3 0 0 1 ≤ μ.1 3 0 0 6 at P; rw [h1, h6] at P; have := (nI_leI (by omega) (by omega)).mp P; omega) 10 (fun _ => rfl) ?_
          refine fE_pos (by exact g_in (k := p) h6 (show p < 60 from by omega) (by decide)) 5 (fun _ => rfl) ?_
          refine fE_pos (by show μ.1 21 0 0 (μ.1 3 0 0 6).toNatClampNeg = nI s; rw [h6, nI_clamp (by omega), ht.1, g.2.2]) 2 (fun _ => rfl) ?_
          refine fE_step (y := fun zz => frun _ _ zz 13 [kR 3 0 0, kR 52 f 0, kN cmd, kN from', kN c, kX (nI idx + 1), kN s, kN 0, kN 0] [] (fI μ 3 0 0 6 (μ.1 3 0 0 6 + 1)) 0 0) 9 (fun _ => rfl) ?_
          rw [h6, nI_1, nI_1]
          rw [g.1] at r1
          exact r1
        · rw [if_neg g]
          refine ⟨μ, ?_, h6, (fun vs e => by cases e), sX_refl⟩
          have ml := mS_le (s := s)
          refine fE_call (hcd) 4 (fun _ => rfl) ?_
          refine fE_ite 5 (fun _ => rfl) (fun a => ?_) (fun a => ?_)
          · skip
            have a := (nI_eq (b := 0) (by omega) (by omega)).mp a
            refine fE_ite 5 (fun _ => rfl) (fun b => ?_) (fun b => ?_)
            · skip
              exact fE_ret 2 (fun _ => rfl)
            · skip
              have b : ¬ μ.1 3 0 0 1 ≤ μ.1 3 0 0 6 := b
              rw [h1, h6] at b
              have b : p < n := Nat.not_le.mp fun P => b (nI_le P (by omega))
              have ht := H.2.2 p b
              refine fE_pos (by exact g_in (k := p) h6 (show p < 60 from by omega) (by decide)) 5 (fun _ => rfl) ?_
              refine fE_neg (fun P => by change μ.1 21 0 0 (μ.1 3 0 0 6).toNatClampNeg = nI s at P; rw [h6, nI_clamp (by omega), ht.1] at P; exact g ⟨a, b, (nI_eq (by omega) (by omega)).mp P⟩) 2 (fun _ => rfl) ?_
              exact fE_ret 2 (fun _ => rfl)
          · skip
            exact fE_ret 2 (fun _ => rfl)
    obtain ⟨μ', r1, r2, r3, r4⟩ := go
    refine ⟨μ', ?_, r2, r3, r4⟩
    refine fE_call (s_len hf) 3 (fun _ => rfl) ?_
    refine fE_neg (by first | omega | (simp (disch := omega) only [fLit, nI_add, pk_mul, pk_rem, nI_clamp, beq01, beq11, cond_false, cond_true, nI_leI, nI_ltI, nI_eq]; done) | (simp (disch := omega) only [fLit, nI_add, pk_mul, pk_rem, nI_clamp, beq01, beq11, cond_false, cond_true, nI_leI, nI_ltI, nI_eq]; omega)) 1 (fun _ => rfl) ?_
    refine fE_call (s_at (k := idx) hf (by omega) hl hs.1) 3 (fun _ => rfl) ?_
    refine fE_ite 4 (fun _ => rfl) (fun a => ?_) (fun a => ?_)
    · skip
      have a := (nI_eq (b := 35) (by omega) (by omega)).mp a
      refine fE_step (y := fun zz => frun _ _ zz 53 [kR 3 0 0, kR 52 f 0, kN cmd, kN from', kN c, kN idx, kN s, z2, z3] [vI (nI 1)] _ 0 0) 2 (fun _ => rfl) ?_
      rw [show mS s = 1 from if_pos a] at r1
      exact r1
    · skip
      have a : ¬ s = 35 := fun P => a (congrArg nI P)
      refine fE_ite 3 (fun _ => rfl) (fun b => ?_) (fun b => ?_)
      · skip
        have b := (nI_eq (b := 42) (by omega) (by omega)).mp b
        refine fE_step (y := fun zz => frun _ _ zz 53 [kR 3 0 0, kR 52 f 0, kN cmd, kN from', kN c, kN idx, kN s, z2, z3] [vI (nI 3)] _ 0 0) 2 (fun _ => rfl) ?_
        rw [show mS s = 3 from by unfold mS; rw [if_neg a, if_pos b]] at r1
        exact r1
      · skip
        have b : ¬ s = 42 := fun P => b (congrArg nI P)
        refine fE_step (y := fun zz => frun _ _ zz 53 [kR 3 0 0, kR 52 f 0, kN cmd, kN from', kN c, kN idx, kN s, z2, z3] [vI (nI 0)] _ 0 0) 1 (fun _ => rfl) ?_
        rw [show mS s = 0 from by unfold mS; rw [if_neg a, if_neg b]] at r1
        exact r1
theorem fbyt_ok : ∀ f, f < 11 → (sgn f).length = fLen.getD f 0 ∧ fLen.getD f 0 ≤ 20 ∧ ∀ i, i < (sgn f).length → (fByt.getD f []).getD i 0 = nI ((sgn f).getD i 0) ∧ (sgn f).getD i 0 < 128 := by decide +kernel
theorem c_ff {tx : Nat → Nat} {n f cmd p : Nat} {μ : fM} (hf : f < 11) (hc : cmd < 12) (H : CT μ tx n) (hp : p ≤ n) : ∃ μ', sX3_fitsForm [vR 3 0 0, vR 52 f 0, vI (nI cmd), vI (nI p)] μ = some (.inl (some (vI (bI ((fmR tx n (sgn f) p).2.isSome = true)))), μ') ∧ μ'.1 3 0 0 6 = nI (fmR tx n (sgn f) p).1 ∧ (∀ vs, (fmR tx n (sgn f) p).2 = some vs → ∀ i v, vs[i]? = some v → μ'.1 23 0 0 (3 * cmd + i) = nI v) ∧ sX' (pF (3 * cmd) (3 * cmd + 3)) μ μ' := by
  have F := fbyt_ok f hf
  have V := sgn_len f hf
  obtain ⟨μ', r1, r2, r3, r4⟩ := c_ff_1 (tx := tx) (n := n) (f := f) (cmd := cmd) (from' := p) hf F.2.1 (sgn f) 0 p (3 * cmd) (fI μ 3 0 0 6 (nI p)) none none none (by rw [Nat.zero_add]; exact F.1) (fun i s h => by
    have hi : i < (sgn f).length := (List.getElem?_eq_some_iff.mp h).1
    have := F.2.2 i hi
    have e2 : (sgn f).getD i 0 = s := by rw [List.getD_eq_getElem?_getD, h]; rfl
    rw [e2] at this
    rw [Nat.zero_add]
    exact this) (CT_out H (fI_ne (by omega)) (fun k => fI_ne (by omega))) fI_at hp (by omega)
  refine ⟨μ', fsemV_of (Nat.le_of_ble_eq_true rfl) ?_, r2, r3, sX_trans (sX_fI (Or.inl ⟨rfl, rfl⟩)) (sX_mono r4 (fun C y h k P => by rcases P with P | P; exact Or.inl P; exact Or.inr ⟨P.1, P.2.1, by omega⟩))⟩
  refine fE_step (y := fun zz => frun _ _ zz 13 [kR 3 0 0, kR 52 f 0, kN cmd, kN p, kX (nI cmd * 3), kN 0, none, none, none] [] (fI μ 3 0 0 6 (nI p)) 0 0) 9 (fun _ => rfl) ?_
  rw [fLit 3, pk_mul, Nat.mul_comm cmd 3]
  exact r1
theorem c_form0 {μ : fM} : sX3_formOf [vI (nI 0)] μ = some (.inl (some (vR 52 0 0)), μ) := by
  refine fsem_of (Nat.le_of_ble_eq_true rfl) ?_
  exact fE_ret 4 (fun _ => rfl)
theorem c_form1 {μ : fM} : sX3_formOf [vI (nI 1)] μ = some (.inl (some (vR 52 1 0)), μ) := by
  refine fsem_of (Nat.le_of_ble_eq_true rfl) ?_
  exact fE_ret 4 (fun _ => rfl)
theorem c_form2 {μ : fM} : sX3_formOf [vI (nI 2)] μ = some (.inl (some (vR 52 2 0)), μ) := by
  refine fsem_of (Nat.le_of_ble_eq_true rfl) ?_
  exact fE_ret 4 (fun _ => rfl)
theorem c_form3 {μ : fM} : sX3_formOf [vI (nI 3)] μ = some (.inl (some (vR 52 3 0)), μ) := by
  refine fsem_of (Nat.le_of_ble_eq_true rfl) ?_
  exact fE_ret 4 (fun _ => rfl)
theorem c_form4 {μ : fM} : sX3_formOf [vI (nI 4)] μ = some (.inl (some (vR 52 4 0)), μ) := by
  refine fsem_of (Nat.le_of_ble_eq_true rfl) ?_
  exact fE_ret 4 (fun _ => rfl)
theorem c_form5 {μ : fM} : sX3_formOf [vI (nI 5)] μ = some (.inl (some (vR 52 5 0)), μ) := by
  refine fsem_of (Nat.le_of_ble_eq_true rfl) ?_
  exact fE_ret 4 (fun _ => rfl)
theorem c_form6 {μ : fM} : sX3_formOf [vI (nI 6)] μ = some (.inl (some (vR 52 6 0)), μ) := by
  refine fsem_of (Nat.le_of_ble_eq_true rfl) ?_
  exact fE_ret 4 (fun _ => rfl)
theorem c_form7 {μ : fM} : sX3_formOf [vI (nI 7)] μ = some (.inl (some (vR 52 7 0)), μ) := by
  refine fsem_of (Nat.le_of_ble_eq_true rfl) ?_
  exact fE_ret 4 (fun _ => rfl)
theorem c_form8 {μ : fM} : sX3_formOf [vI (nI 8)] μ = some (.inl (some (vR 52 8 0)), μ) := by
  refine fsem_of (Nat.le_of_ble_eq_true rfl) ?_
  exact fE_ret 4 (fun _ => rfl)
theorem c_form9 {μ : fM} : sX3_formOf [vI (nI 9)] μ = some (.inl (some (vR 52 9 0)), μ) := by
  refine fsem_of (Nat.le_of_ble_eq_true rfl) ?_
  exact fE_ret 4 (fun _ => rfl)
theorem c_form10 {μ : fM} : sX3_formOf [vI (nI 10)] μ = some (.inl (some (vR 52 10 0)), μ) := by
  refine fsem_of (Nat.le_of_ble_eq_true rfl) ?_
  exact fE_ret 4 (fun _ => rfl)
theorem c_form {μ : fM} {k : Nat} (hk : k < 11) : sX3_formOf [vI (nI k)] μ = some (.inl (some (vR 52 k 0)), μ) := by
  match k, hk with
  | 0, _ => exact c_form0
  | 1, _ => exact c_form1
  | 2, _ => exact c_form2
  | 3, _ => exact c_form3
  | 4, _ => exact c_form4
  | 5, _ => exact c_form5
  | 6, _ => exact c_form6
  | 7, _ => exact c_form7
  | 8, _ => exact c_form8
  | 9, _ => exact c_form9
  | 10, _ => exact c_form10
/-- what reading a command may change -/
def pC (cmd : Nat) (C _y _h k : Nat) : Prop := (C = 3 ∧ (k = 5 ∨ k = 6)) ∨ (C = 22 ∧ k = cmd) ∨ (C = 23 ∧ 3 * cmd ≤ k ∧ k < 3 * cmd + 3)
theorem c_rc_1 {tx : Nat → Nat} {n cmd p : Nat} (hc : cmd < 12) (hp : p ≤ n) : ∀ j k e (μ : fM), k + j = 11 → CT μ tx n → μ.1 3 0 0 5 = nI e → e ≤ n → ∃ μ', fEnds (fun zz => frun eX3_readCommand tX3_readCommand zz 7 [kR 3 0 0, kN cmd, kN p, kN k] [] μ 0 0) (.inl (some (vI (bI ((cR tx n p j k e).2.isSome = true)))), μ') ∧ ((cR tx n p j k e).2 = none → μ'.1 3 0 0 5 = nI (cR tx n p j k e).1) ∧ (∀ q, (cR tx n p j k e).2 = some q → μ'.1 3 0 0 6 = nI (cR tx n p j k e).1 ∧ μ'.1 22 0 0 cmd = nI q.1 ∧ ∀ i v, q.2[i]? = some v → μ'.1 23 0 0 (3 * cmd + i) = nI v) ∧ sX' (pC cmd) μ μ'
  | 0, k, e, μ, hk, H, h5, he => by
    refine ⟨μ, ?_, fun _ => h5, (fun q h => by cases h), sX_refl⟩
    obtain rfl : k = 11 := hk
    exact fE_ret 5 (fun _ => rfl)
  | j + 1, k, e, μ, hk, H, h5, he => by
    have hn := H.1
    obtain ⟨μ1, r1, r2, r3, r4⟩ := c_ff (f := k) (cmd := cmd) (by omega) hc H hp
    have F := fmR_ok (tx := tx) (L := sgn k) hp
    have r4' : sX' (pC cmd) μ μ1 := sX_mono r4 (fun C y h k P => by rcases P with P | P; exact Or.inl ⟨P.1, Or.inr P.2⟩; exact Or.inr (Or.inr P))
    have k5 : μ1.1 3 0 0 5 = nI e := (r4.1 3 0 0 5 (fun P => by rcases P with P | P <;> omega)).trans h5
    have H1 : CT μ1 tx n := CT_out H (r4.1 3 0 0 1 (fun P => by rcases P with P | P <;> omega)) (fun i => r4.1 21 0 0 i (fun P => by rcases P with P | P <;> omega))
    rw [cR]
    cases hq : (fmR tx n (sgn k) p).2 with
    | some vs =>
      rw [hq] at r1
      refine ⟨fI μ1 22 0 0 cmd (nI k), ?_, (fun h => by cases h), fun q h => ?_, sX_trans r4' (sX_fI (Or.inr (Or.inl ⟨rfl, rfl⟩)))⟩
      · skip
        refine fE_neg (by first | omega | (simp (disch := omega) only [fLit, nI_add, pk_mul, pk_rem, nI_clamp, beq01, beq11, cond_false, cond_true, nI_leI, nI_ltI, nI_eq]; done) | (simp (disch := omega) only [fLit, nI_add, pk_mul, pk_rem, nI_clamp, beq01, beq11, cond_false, cond_true, nI_leI, nI_ltI, nI_eq]; omega)) 3 (fun _ => rfl) ?_
        refine fE_call (c_form (k := k) (by omega)) 3 (fun _ => rfl) ?_
        refine fE_call (r1) 3 (fun _ => rfl) ?_
        refine fE_pos (by refine g_in (k := cmd) ?_ (show cmd < 12 from by omega) (show 12 < 2 ^ 31 from by decide); first | rfl | (simp (disch := omega) only [fLit, nI_add, pk_mul, pk_rem, pk_sub, nI_clamp]; done)) 6 (fun _ => rfl) ?_
        refine fE_ret2 2 (fun _ => rfl) ?_
        show (Sum.inl (some (vI 1)), fI μ1 22 0 0 (nI cmd).toNatClampNeg (nI k)) = _
        rw [nI_clamp (by omega)]
        rfl
      · cases h
        exact ⟨(fI_ne (by omega)).trans r2, fI_at, fun i v hv => (fI_ne (by omega)).trans (r3 vs hq i v hv)⟩
    | none =>
      rw [hq] at r1
      obtain ⟨μ', s1, s2, s3, s4⟩ := c_rc_1 (tx := tx) (cmd := cmd) hc hp j (k + 1) (max e (fmR tx n (sgn k) p).1) (fI μ1 3 0 0 5 (nI (max e (fmR tx n (sgn k) p).1))) (by omega) (CT_out H1 (fI_ne (by omega)) (fun i => fI_ne (by omega))) fI_at (by have := F.2.1; omega)
      refine ⟨μ', ?_, s2, s3, sX_trans (sX_trans r4' (sX_fI (Or.inl ⟨rfl, Or.inl rfl⟩))) s4⟩
      have hm : sJ9_max_7cf53 [vI (μ1.1 3 0 0 5), vI (μ1.1 3 0 0 6)] μ1 = some (.inl (some (vI (nI (max e (fmR tx n (sgn k) p).1)))), μ1) := by
        rw [k5, r2, j_max, mxI (by omega) (by have := F.2.1; omega)]
      refine fE_neg (by first | omega | (simp (disch := omega) only [fLit, nI_add, pk_mul, pk_rem, nI_clamp, beq01, beq11, cond_false, cond_true, nI_leI, nI_ltI, nI_eq]; done) | (simp (disch := omega) only [fLit, nI_add, pk_mul, pk_rem, nI_clamp, beq01, beq11, cond_false, cond_true, nI_leI, nI_ltI, nI_eq]; omega)) 3 (fun _ => rfl) ?_
      refine fE_call (c_form (k := k) (by omega)) 3 (fun _ => rfl) ?_
      refine fE_call (r1) 3 (fun _ => rfl) ?_
      refine fE_call (hm) 7 (fun _ => rfl) ?_
      refine fE_step (y := fun zz => frun _ _ zz 7 [kR 3 0 0, kN cmd, kN p, kX (nI k + 1)] [] _ 0 0) 3 (fun _ => rfl) ?_
      rw [nI_1]
      exact s1
theorem c_rc {tx : Nat → Nat} {n cmd p : Nat} {μ : fM} (hc : cmd < 12) (hp : p ≤ n) (H : CT μ tx n) : ∃ μ', sX3_readCommand [vR 3 0 0, vI (nI cmd), vI (nI p)] μ = some (.inl (some (vI (bI ((cR tx n p 11 0 p).2.isSome = true)))), μ') ∧ ((cR tx n p 11 0 p).2 = none → μ'.1 3 0 0 5 = nI (cR tx n p 11 0 p).1) ∧ (∀ q, (cR tx n p 11 0 p).2 = some q → μ'.1 3 0 0 6 = nI (cR tx n p 11 0 p).1 ∧ μ'.1 22 0 0 cmd = nI q.1 ∧ ∀ i v, q.2[i]? = some v → μ'.1 23 0 0 (3 * cmd + i) = nI v) ∧ sX' (pC cmd) μ μ' := by
  obtain ⟨μ', r1, r2, r3, r4⟩ := c_rc_1 (tx := tx) (cmd := cmd) hc hp 11 0 p (fI μ 3 0 0 5 (nI p)) rfl (CT_out H (fI_ne (by omega)) (fun i => fI_ne (by omega))) fI_at hp
  refine ⟨μ', fsemV_of (Nat.le_of_ble_eq_true rfl) ?_, r2, r3, sX_trans (sX_fI (Or.inl ⟨rfl, Or.inl rfl⟩)) r4⟩
  refine fE_step (y := fun zz => frun _ _ zz 7 [kR 3 0 0, kN cmd, kN p, kN 0] [] (fI μ 3 0 0 5 (nI p)) 0 0) 5 (fun _ => rfl) ?_
  exact r1
/-- the commands that the class holds from the place s on -/
def CC (μ : fM) (s : Nat) (l : List (Nat × List Nat)) : Prop := ∀ i q, l[i]? = some q → μ.1 22 0 0 (s + i) = nI q.1 ∧ ∀ j v, q.2[j]? = some v → μ.1 23 0 0 (3 * (s + i) + j) = nI v
/-- what reading may change -/
def pR (cmd : Nat) (C _y _h k : Nat) : Prop := (C = 3 ∧ (k = 4 ∨ k = 5 ∨ k = 6)) ∨ (C = 22 ∧ cmd ≤ k) ∨ (C = 23 ∧ 3 * cmd ≤ k)
theorem c_read_1 {tx : Nat → Nat} {n : Nat} : ∀ f cmd p (μ : fM), cmd + f = 12 → p ≤ n → CT μ tx n → ∃ μ', fEnds (fun zz => frun eX3_read tX3_read zz 4 [kR 3 0 0, kN p, kN cmd] [] μ 0 0) (.inl (some (vI (match pP tx n f p with | .inl _ => 0 | .inr _ => 1))), μ') ∧ (∀ e, pP tx n f p = .inl e → μ'.1 3 0 0 5 = nI e) ∧ (∀ l, pP tx n f p = .inr l → μ'.1 3 0 0 4 = nI (cmd + l.length) ∧ l.length ≤ f ∧ CC μ' cmd l) ∧ sX' (pR cmd) μ μ'
  | 0, cmd, p, μ, hc, hp, H => by
    refine ⟨fI μ 3 0 0 5 (nI p), ?_, fun e he => ?_, (fun l h => by cases h), sX_fI (Or.inl ⟨rfl, by omega⟩)⟩
    · obtain rfl : cmd = 12 := hc
      exact fE_ret 8 (fun _ => rfl)
    · cases he
      exact fI_at
  | f + 1, cmd, p, μ, hc, hp, H => by
    have hn := H.1
    have h1 := H.2.1
    obtain ⟨μ1, r1, r2, r3, r4⟩ := c_rc (cmd := cmd) (by omega) hp H
    have K := cR_ok (tx := tx) hp (j := 11) (k := 0) (e := p) (by omega) (Nat.le_refl _) hp
    have r4' : sX' (pR cmd) μ μ1 := sX_mono r4 (fun C y h k P => by rcases P with P | P | P; exact Or.inl ⟨P.1, by omega⟩; exact Or.inr (Or.inl ⟨P.1, by omega⟩); exact Or.inr (Or.inr ⟨P.1, by omega⟩))
    have H1 : CT μ1 tx n := CT_out H (r4.1 3 0 0 1 (fun P => by rcases P with P | P | P <;> omega)) (fun i => r4.1 21 0 0 i (fun P => by rcases P with P | P | P <;> omega))
    cases hq : (cR tx n p 11 0 p).2 with
    | none =>
      rw [hq] at r1
      have e1 : pP tx n (f + 1) p = .inl (cR tx n p 11 0 p).1 := by rw [pP, hq]
      rw [e1]
      refine ⟨μ1, ?_, fun e he => ?_, (fun l h => by cases h), r4'⟩
      · skip
        refine fE_neg (by first | omega | (simp (disch := omega) only [fLit, nI_add, pk_mul, pk_rem, nI_clamp, beq01, beq11, cond_false, cond_true, nI_leI, nI_ltI, nI_eq]; done) | (simp (disch := omega) only [fLit, nI_add, pk_mul, pk_rem, nI_clamp, beq01, beq11, cond_false, cond_true, nI_leI, nI_ltI, nI_eq]; omega)) 3 (fun _ => rfl) ?_
        refine fE_call (r1) 4 (fun _ => rfl) ?_
        exact fE_ret 3 (fun _ => rfl)
      · cases he
        exact r2 hq
    | some q =>
      rw [hq] at r1
      have S := r3 q hq
      have Kq := K.2.2 q hq
      have h6 : (fI μ1 3 0 0 4 (nI (cmd + 1))).1 3 0 0 6 = nI (cR tx n p 11 0 p).1 := (fI_ne (by omega)).trans S.1
      have hl : (fI μ1 3 0 0 4 (nI (cmd + 1))).1 3 0 0 1 = nI n := (fI_ne (by omega)).trans H1.2.1
      have one : CC (fI μ1 3 0 0 4 (nI (cmd + 1))) cmd [q] := fun i q' hi => by
        cases i with
        | zero =>
          cases hi
          exact ⟨(fI_ne (by omega)).trans S.2.1, fun j v hv => (fI_ne (by omega)).trans (S.2.2 j v hv)⟩
        | succ i => cases hi
      have e0 : pP tx n (f + 1) p = (if n ≤ (cR tx n p 11 0 p).1 then .inr [q] else if tx (cR tx n p 11 0 p).1 = 59 then (match pP tx n f ((cR tx n p 11 0 p).1 + 1) with
        | .inl e => .inl e
        | .inr l => .inr (q :: l)) else .inl (cR tx n p 11 0 p).1) := by rw [pP, hq]
      by_cases a : n ≤ (cR tx n p 11 0 p).1
      · rw [if_pos a] at e0
        rw [e0]
        refine ⟨fI μ1 3 0 0 4 (nI (cmd + 1)), ?_, (fun e he => by cases he), fun l h => ?_, sX_trans r4' (sX_fI (Or.inl ⟨rfl, by omega⟩))⟩
        · skip
          refine fE_neg (by first | omega | (simp (disch := omega) only [fLit, nI_add, pk_mul, pk_rem, nI_clamp, beq01, beq11, cond_false, cond_true, nI_leI, nI_ltI, nI_eq]; done) | (simp (disch := omega) only [fLit, nI_add, pk_mul, pk_rem, nI_clamp, beq01, beq11, cond_false, cond_true, nI_leI, nI_ltI, nI_eq]; omega)) 3 (fun _ => rfl) ?_
          refine fE_call (r1) 4 (fun _ => rfl) ?_
          refine fE_step (y := fun zz => frun _ _ zz 33 [kR 3 0 0, kX ((fI μ1 3 0 0 4 (nI cmd + 1)).1 3 0 0 6), kN cmd] [] (fI μ1 3 0 0 4 (nI cmd + 1)) 0 0) 9 (fun _ => rfl) ?_
          rw [nI_1, h6]
          refine fE_neg (fun P => by change nI (cR tx n p 11 0 p).1 < (fI μ1 3 0 0 4 (nI (cmd + 1))).1 3 0 0 1 at P; rw [hl] at P; have := (nI_ltI (by omega) (by omega)).mp P; omega) 4 (fun _ => rfl) ?_
          exact fE_ret 2 (fun _ => rfl)
        · cases h
          exact ⟨fI_at, by show 1 ≤ f + 1; omega, one⟩
      · rw [if_neg a] at e0
        have ht := H1.2.2 (cR tx n p 11 0 p).1 (by omega)
        by_cases b : tx (cR tx n p 11 0 p).1 = 59
        · rw [if_pos b] at e0
          obtain ⟨μ', s1, s2, s3, s4⟩ := c_read_1 (tx := tx) (n := n) f (cmd + 1) ((cR tx n p 11 0 p).1 + 1) (fI μ1 3 0 0 4 (nI (cmd + 1))) (by omega) (by omega) (CT_out H1 (fI_ne (by omega)) (fun i => fI_ne (by omega)))
          have s4' : sX' (pR cmd) (fI μ1 3 0 0 4 (nI (cmd + 1))) μ' := sX_mono s4 (fun C y h k P => by rcases P with P | P | P; exact Or.inl P; exact Or.inr (Or.inl ⟨P.1, by omega⟩); exact Or.inr (Or.inr ⟨P.1, by omega⟩))
          have walk : ∀ res, fEnds (fun zz => frun eX3_read tX3_read zz 4 [kR 3 0 0, kN ((cR tx n p 11 0 p).1 + 1), kN (cmd + 1)] [] (fI μ1 3 0 0 4 (nI (cmd + 1))) 0 0) res → fEnds (fun zz => frun eX3_read tX3_read zz 4 [kR 3 0 0, kN p, kN cmd] [] μ 0 0) res := fun res R => by
            skip
            refine fE_neg (by first | omega | (simp (disch := omega) only [fLit, nI_add, pk_mul, pk_rem, nI_clamp, beq01, beq11, cond_false, cond_true, nI_leI, nI_ltI, nI_eq]; done) | (simp (disch := omega) only [fLit, nI_add, pk_mul, pk_rem, nI_clamp, beq01, beq11, cond_false, cond_true, nI_leI, nI_ltI, nI_eq]; omega)) 3 (fun _ => rfl) ?_
            refine fE_call (r1) 4 (fun _ => rfl) ?_
            refine fE_step (y := fun zz => frun _ _ zz 33 [kR 3 0 0, kX ((fI μ1 3 0 0 4 (nI cmd + 1)).1 3 0 0 6), kN cmd] [] (fI μ1 3 0 0 4 (nI cmd + 1)) 0 0) 9 (fun _ => rfl) ?_
            rw [nI_1, h6]
            refine fE_pos (by show nI (cR tx n p 11 0 p).1 < (fI μ1 3 0 0 4 (nI (cmd + 1))).1 3 0 0 1; rw [hl]; exact nI_lt (by omega) (by omega)) 4 (fun _ => rfl) ?_
            refine fE_pos (by refine g_in (k := (cR tx n p 11 0 p).1) ?_ (show (cR tx n p 11 0 p).1 < 60 from by omega) (show 60 < 2 ^ 31 from by decide); first | rfl | (simp (disch := omega) only [fLit, nI_add, pk_mul, pk_rem, pk_sub, nI_clamp]; done)) 4 (fun _ => rfl) ?_
            refine fE_pos (by show (fI μ1 3 0 0 4 (nI (cmd + 1))).1 21 0 0 (nI (cR tx n p 11 0 p).1).toNatClampNeg = nI 59; rw [nI_clamp (by omega), fI_ne (by omega), ht.1, b]) 2 (fun _ => rfl) ?_
            refine fE_step (y := fun zz => frun _ _ zz 4 [kR 3 0 0, kX (nI (cR tx n p 11 0 p).1 + 1), kX (nI cmd + 1)] [] _ 0 0) 3 (fun _ => rfl) ?_
            rw [nI_1, nI_1]
            exact R
          cases hr : pP tx n f ((cR tx n p 11 0 p).1 + 1) with
          | inl e =>
            rw [hr] at s1 e0
            rw [e0]
            refine ⟨μ', walk _ s1, fun e' he => ?_, (fun l h => by cases h), sX_trans (sX_trans r4' (sX_fI (Or.inl ⟨rfl, by omega⟩))) s4'⟩
            cases he
            exact s2 e hr
          | inr l =>
            rw [hr] at s1 e0
            rw [e0]
            refine ⟨μ', walk _ s1, (fun e' he => by cases he), fun l' h => ?_, sX_trans (sX_trans r4' (sX_fI (Or.inl ⟨rfl, by omega⟩))) s4'⟩
            cases h
            have s := s3 l hr
            refine ⟨by rw [s.1]; congr 1; show cmd + 1 + l.length = cmd + (l.length + 1); omega, by show l.length + 1 ≤ f + 1; omega, fun i q' hi => ?_⟩
            cases i with
            | zero =>
              cases hi
              exact ⟨(s4.1 22 0 0 (cmd + 0) (fun P => by rcases P with P | P | P <;> omega)).trans ((fI_ne (by omega)).trans S.2.1), fun j v hv => (s4.1 23 0 0 _ (fun P => by
                have hj : j < q.2.length := (List.getElem?_eq_some_iff.mp hv).1
                have hl3 := (sgn_len q.1 Kq.2.1).2
                have := Kq.2.2.2.1
                rcases P with P | P | P <;> omega)).trans ((fI_ne (by omega)).trans (S.2.2 j v hv))⟩
            | succ i =>
              have := s.2.2 i q' (by simpa using hi)
              rw [show cmd + 1 + i = cmd + (i + 1) from by omega] at this
              exact this
        · rw [if_neg b] at e0
          rw [e0]
          refine ⟨fI (fI μ1 3 0 0 4 (nI (cmd + 1))) 3 0 0 5 (nI (cR tx n p 11 0 p).1), ?_, fun e he => ?_, (fun l h => by cases h), sX_trans (sX_trans r4' (sX_fI (Or.inl ⟨rfl, by omega⟩))) (sX_fI (Or.inl ⟨rfl, by omega⟩))⟩
          · skip
            refine fE_neg (by first | omega | (simp (disch := omega) only [fLit, nI_add, pk_mul, pk_rem, nI_clamp, beq01, beq11, cond_false, cond_true, nI_leI, nI_ltI, nI_eq]; done) | (simp (disch := omega) only [fLit, nI_add, pk_mul, pk_rem, nI_clamp, beq01, beq11, cond_false, cond_true, nI_leI, nI_ltI, nI_eq]; omega)) 3 (fun _ => rfl) ?_
            refine fE_call (r1) 4 (fun _ => rfl) ?_
            refine fE_step (y := fun zz => frun _ _ zz 33 [kR 3 0 0, kX ((fI μ1 3 0 0 4 (nI cmd + 1)).1 3 0 0 6), kN cmd] [] (fI μ1 3 0 0 4 (nI cmd + 1)) 0 0) 9 (fun _ => rfl) ?_
            rw [nI_1, h6]
            refine fE_pos (by show nI (cR tx n p 11 0 p).1 < (fI μ1 3 0 0 4 (nI (cmd + 1))).1 3 0 0 1; rw [hl]; exact nI_lt (by omega) (by omega)) 4 (fun _ => rfl) ?_
            refine fE_pos (by refine g_in (k := (cR tx n p 11 0 p).1) ?_ (show (cR tx n p 11 0 p).1 < 60 from by omega) (show 60 < 2 ^ 31 from by decide); first | rfl | (simp (disch := omega) only [fLit, nI_add, pk_mul, pk_rem, pk_sub, nI_clamp]; done)) 4 (fun _ => rfl) ?_
            refine fE_neg (fun P => by change (fI μ1 3 0 0 4 (nI (cmd + 1))).1 21 0 0 (nI (cR tx n p 11 0 p).1).toNatClampNeg = nI 59 at P; rw [nI_clamp (by omega), fI_ne (by omega), ht.1] at P; exact b ((nI_eq (by omega) (by omega)).mp P)) 2 (fun _ => rfl) ?_
            exact fE_ret 5 (fun _ => rfl)
          · cases he
            exact fI_at
theorem c_read {tx : Nat → Nat} {n : Nat} {μ : fM} (H : CT μ tx n) : ∃ μ', sX3_read [vR 3 0 0] μ = some (.inl (some (vI (match pP tx n 12 0 with | .inl _ => 0 | .inr _ => 1))), μ') ∧ (∀ e, pP tx n 12 0 = .inl e → μ'.1 3 0 0 5 = nI e) ∧ (∀ l, pP tx n 12 0 = .inr l → μ'.1 3 0 0 4 = nI l.length ∧ l.length ≤ 12 ∧ CC μ' 0 l) ∧ sX' (pR 0) μ μ' := by
  obtain ⟨μ', r1, r2, r3, r4⟩ := c_read_1 (tx := tx) (n := n) 12 0 0 μ rfl (Nat.zero_le _) H
  refine ⟨μ', fsemV_of (Nat.le_of_ble_eq_true rfl) ?_, r2, fun l h => by have := r3 l h; rwa [Nat.zero_add] at this, r4⟩
  refine fE_step (y := fun zz => frun _ _ zz 4 [kR 3 0 0, kN 0, kN 0] [] _ 0 0) 4 (fun _ => rfl) ?_
  exact r1
