/-! PROGRAMS ARE RUN -/
theorem fmR_len {tx : Nat → Nat} {n : Nat} : ∀ {L : List Nat} {p : Nat} {vs : List Nat}, (fmR tx n L p).2 = some vs → vs.length = nv L
  | [], p, vs, h => by
    cases h
    rfl
  | s :: r, p, vs, h => by
    have c1 : nv (s :: r) = nv r + (if 0 < mS s then 1 else 0) := by
      unfold nv
      rw [List.countP_cons]
      simp
    rw [fmR] at h
    by_cases q : 0 < cD tx n p (mS s)
    · rw [if_pos q] at h
      obtain ⟨ws, hw, rfl⟩ := Option.map_eq_some_iff.mp h
      rw [c1, if_pos (Nat.lt_of_lt_of_le q cD_le), ← fmR_len hw]
      rfl
    · rw [if_neg q] at h
      by_cases g : mS s = 0 ∧ p < n ∧ tx p = s
      · rw [if_pos g] at h
        rw [c1, if_neg (by omega), fmR_len h]
        rfl
      · rw [if_neg g] at h
        cases h
theorem cR_len {tx : Nat → Nat} {n p : Nat} : ∀ {j k e : Nat} {q : Nat × List Nat}, (cR tx n p j k e).2 = some q → q.2.length = nv (sgn q.1)
  | 0, k, e, q, h => by cases h
  | j + 1, k, e, q, h => by
    rw [cR] at h
    cases hv : (fmR tx n (sgn k) p).2 with
    | some vs =>
      rw [hv] at h
      cases h
      exact fmR_len hv
    | none =>
      rw [hv] at h
      exact cR_len h
/-- a command that was read: its kind and as many numbers as it has -/
def cmdOK (q : Nat × List Nat) : Prop := q.1 < 11 ∧ q.2.length = nv (sgn q.1)
theorem pP_all {tx : Nat → Nat} {n : Nat} : ∀ {f p : Nat} {l : List (Nat × List Nat)}, p ≤ n → pP tx n f p = .inr l → (∀ q ∈ l, cmdOK q) ∧ l.length ≤ f
  | 0, p, l, _, h => by cases h
  | f + 1, p, l, hp, h => by
    have K := cR_ok (tx := tx) hp (j := 11) (k := 0) (e := p) (by omega) (Nat.le_refl _) hp
    rw [pP] at h
    cases hq : (cR tx n p 11 0 p).2 with
    | none => rw [hq] at h; cases h
    | some q =>
      rw [hq] at h
      have h : (if n ≤ (cR tx n p 11 0 p).1 then .inr [q] else if tx (cR tx n p 11 0 p).1 = 59 then (match pP tx n f ((cR tx n p 11 0 p).1 + 1) with
        | .inl e => .inl e
        | .inr l => .inr (q :: l)) else .inl (cR tx n p 11 0 p).1) = (Sum.inr l : Nat ⊕ List (Nat × List Nat)) := h
      have Kq : cmdOK q := ⟨(K.2.2 q hq).2.1, cR_len hq⟩
      by_cases a : n ≤ (cR tx n p 11 0 p).1
      · rw [if_pos a] at h
        cases h
        refine ⟨fun q' hq' => ?_, by show 1 ≤ f + 1; omega⟩
        rw [List.mem_singleton] at hq'
        exact hq' ▸ Kq
      · rw [if_neg a] at h
        by_cases b : tx (cR tx n p 11 0 p).1 = 59
        · rw [if_pos b] at h
          cases hr : pP tx n f ((cR tx n p 11 0 p).1 + 1) with
          | inl e => rw [hr] at h; cases h
          | inr l' =>
            rw [hr] at h
            cases h
            have ih := pP_all (by omega) hr
            refine ⟨fun q' hq' => ?_, by have := ih.2; show l'.length + 1 ≤ f + 1; omega⟩
            rcases List.mem_cons.mp hq' with rfl | hq'
            · exact Kq
            · exact ih.1 q' hq'
        · rw [if_neg b] at h
          cases h
/-- the numbers of a command -/
def qA (q : Nat × List Nat) (i : Nat) : Int32 := nI (q.2.getD i 0)
def spq (q : Nat × List Nat) (a : Nat → Nat) : qR × (Nat → Nat) := sp q.1 a (qA q 0) (qA q 1) (qA q 2)
theorem sgn_nv : nv (sgn 0) = 0 ∧ nv (sgn 1) = 3 ∧ nv (sgn 2) = 1 ∧ nv (sgn 3) = 2 ∧ nv (sgn 4) = 1 ∧ nv (sgn 5) = 2 ∧ nv (sgn 6) = 2 ∧ nv (sgn 7) = 1 ∧ nv (sgn 8) = 2 ∧ nv (sgn 9) = 3 ∧ nv (sgn 10) = 2 := by decide
/-- what a command does depends on the numbers that it has -/
theorem sp_args {q : Nat × List Nat} {a : Nat → Nat} {X : Nat → Int32} (h : cmdOK q) (hX : ∀ j v, q.2[j]? = some v → X j = nI v) : sp q.1 a (X 0) (X 1) (X 2) = spq q a ∧ (q.1 = 4 → X 0 = qA q 0) := by
  obtain ⟨k, vs⟩ := q
  obtain ⟨hk, hl⟩ := h
  have e : ∀ j, j < vs.length → X j = qA (k, vs) j := fun j hj => by
    rw [hX j vs[j] (List.getElem?_eq_getElem hj), qA]
    show _ = nI (vs.getD j 0)
    rw [List.getD_eq_getElem?_getD, List.getElem?_eq_getElem hj]
    rfl
  have N := sgn_nv
  unfold spq
  match k, hk with
  | 0, _ =>
    have hl : vs.length = 0 := hl.trans (show nv (sgn 0) = 0 from by decide)
    refine ⟨?_, fun c => absurd (show 0 = 4 from c) (by decide)⟩
    show sHull a = sHull a
    rfl
  | 1, _ =>
    have hl : vs.length = 3 := hl.trans (show nv (sgn 1) = 3 from by decide)
    refine ⟨?_, fun c => absurd (show 1 = 4 from c) (by decide)⟩
    show sFrame a (X 0) (X 1) (X 2) = sFrame a (qA (1, vs) 0) (qA (1, vs) 1) (qA (1, vs) 2)
    rw [e 0 (by omega), e 1 (by omega), e 2 (by omega)]
  | 2, _ =>
    have hl : vs.length = 1 := hl.trans (show nv (sgn 2) = 1 from by decide)
    refine ⟨?_, fun c => absurd (show 2 = 4 from c) (by decide)⟩
    show sMirror a (X 0) = sMirror a (qA (2, vs) 0)
    rw [e 0 (by omega)]
  | 3, _ =>
    have hl : vs.length = 2 := hl.trans (show nv (sgn 3) = 2 from by decide)
    refine ⟨?_, fun c => absurd (show 3 = 4 from c) (by decide)⟩
    show sCargo a (X 0) (X 1) = sCargo a (qA (3, vs) 0) (qA (3, vs) 1)
    rw [e 0 (by omega), e 1 (by omega)]
  | 4, _ =>
    have hl : vs.length = 1 := hl.trans (show nv (sgn 4) = 1 from by decide)
    refine ⟨?_, fun _ => e 0 (by omega)⟩
    show sLaunch a (X 0) = sLaunch a (qA (4, vs) 0)
    rw [e 0 (by omega)]
  | 5, _ =>
    have hl : vs.length = 2 := hl.trans (show nv (sgn 5) = 2 from by decide)
    refine ⟨?_, fun c => absurd (show 5 = 4 from c) (by decide)⟩
    show sCaulk a (X 0) (X 1) = sCaulk a (qA (5, vs) 0) (qA (5, vs) 1)
    rw [e 0 (by omega), e 1 (by omega)]
  | 6, _ =>
    have hl : vs.length = 2 := hl.trans (show nv (sgn 6) = 2 from by decide)
    refine ⟨?_, fun c => absurd (show 6 = 4 from c) (by decide)⟩
    show sPump a (X 0) (X 1) = sPump a (qA (6, vs) 0) (qA (6, vs) 1)
    rw [e 0 (by omega), e 1 (by omega)]
  | 7, _ =>
    have hl : vs.length = 1 := hl.trans (show nv (sgn 7) = 1 from by decide)
    refine ⟨?_, fun c => absurd (show 7 = 4 from c) (by decide)⟩
    show sHours a (X 0) = sHours a (qA (7, vs) 0)
    rw [e 0 (by omega)]
  | 8, _ =>
    have hl : vs.length = 2 := hl.trans (show nv (sgn 8) = 2 from by decide)
    refine ⟨?_, fun c => absurd (show 8 = 4 from c) (by decide)⟩
    show sTide a (X 0) (X 1) = sTide a (qA (8, vs) 0) (qA (8, vs) 1)
    rw [e 0 (by omega), e 1 (by omega)]
  | 9, _ =>
    have hl : vs.length = 3 := hl.trans (show nv (sgn 9) = 3 from by decide)
    refine ⟨?_, fun c => absurd (show 9 = 4 from c) (by decide)⟩
    show sOrder a (X 0) (X 1) (X 2) = sOrder a (qA (9, vs) 0) (qA (9, vs) 1) (qA (9, vs) 2)
    rw [e 0 (by omega), e 1 (by omega), e 2 (by omega)]
  | 10, _ =>
    have hl : vs.length = 2 := hl.trans (show nv (sgn 10) = 2 from by decide)
    refine ⟨?_, fun c => absurd (show 10 = 4 from c) (by decide)⟩
    show sDeliver a (X 0) (X 1) = sDeliver a (qA (10, vs) 0) (qA (10, vs) 1)
    rw [e 0 (by omega), e 1 (by omega)]
/-- a program from its place i on: the place and the refusal of the command that fails, or the state behind it -/
def rn : List (Nat × List Nat) → Nat → (Nat → Nat) → (Nat × Nat) ⊕ (Nat → Nat)
  | [], _, a => .inr a
  | q :: r, i, a => match (spq q a).1 with
    | .inl _ => .inl (i, if q.1 = 4 then sWhy a (qA q 0) else 0)
    | .inr _ => rn r (i + 1) (spq q a).2
theorem sWhy_le {a : Nat → Nat} {x : Int32} : sWhy a x ≤ 3 := by
  unfold sWhy
  split
  · exact hWhy_le
  · omega
theorem rn_ok {u : Nat} : ∀ {l : List (Nat × List Nat)} {i : Nat} {a : Nat → Nat}, OKA u a → (∀ q ∈ l, cmdOK q) → u + l.length ≤ 6200 → (∀ b, rn l i a = .inr b → OKA (u + l.length) b) ∧ (∀ f, rn l i a = .inl f → i ≤ f.1 ∧ f.1 < i + l.length ∧ f.2 ≤ 3)
  | [], i, a, O, _, hu => ⟨fun b h => by cases h; exact O, fun f h => by cases h⟩
  | q :: r, i, a, O, hq, hu => by
    have hu : u + (r.length + 1) ≤ 6200 := hu
    have Q := hq q List.mem_cons_self
    rw [rn]
    cases hs : (spq q a).1 with
    | inl t =>
      refine ⟨(fun b h => by cases h), fun f h => ?_⟩
      cases h
      refine ⟨Nat.le_refl _, by show i < i + (r.length + 1); omega, ?_⟩
      show (if q.1 = 4 then sWhy a (qA q 0) else 0) ≤ 3
      split
      · exact sWhy_le
      · omega
    | inr v =>
      have O1 : OKA (u + 1) (spq q a).2 := sp_ok O (by omega) (by have := Q.1; omega)
      have ih := rn_ok (l := r) (i := i + 1) O1 (fun q' h => hq q' (List.mem_cons_of_mem _ h)) (by omega)
      refine ⟨fun b h => ?_, fun f h => ?_⟩
      · have := ih.1 b h
        rwa [show u + 1 + r.length = u + (q :: r).length from by show _ = u + (r.length + 1); omega] at this
      · have := ih.2 f h
        exact ⟨by omega, by show f.1 < i + (r.length + 1); omega, this.2.2⟩
/-! the model runs them -/
/-- the model's memory behind a command -/
def gD (μ : fM) (k : Nat) (a : Nat → Nat) (x : Int32) (r : qR) : fM := mT (if k = 4 then mW μ (sWhy a x) else μ) r

theorem g_does0 {μ : fM} {u i : Nat} {a : Nat → Nat} {x y z : Int32} (O : OKA u a) (hu : u + 1 ≤ 6200) (hi : i < 60) (hk : μ.1 39 0 0 (4 * i) = nI 0) (hx : μ.1 39 0 0 (4 * i + 1) = x) (hy : μ.1 39 0 0 (4 * i + 2) = y) (hz : μ.1 39 0 0 (4 * i + 3) = z) : sX8_does [vR 8 0 0, vI (nI (4 * i))] (gA μ a) = some (.inl none, gA (gD μ 0 a x (sp 0 a x y z).1) (sp 0 a x y z).2) := by
  have rd : ∀ j, (gA μ a).1 39 0 0 j = μ.1 39 0 0 j := fun j => gA_ne (by omega)
  have n0 : (nI (4 * i)).toNatClampNeg = 4 * i := nI_clamp (by omega)
  have n1 : (nI (4 * i) + 1).toNatClampNeg = 4 * i + 1 := by rw [nI_1, nI_clamp (by omega)]
  have n2 : (nI (4 * i) + 2).toNatClampNeg = 4 * i + 2 := by rw [fLit, nI_add, nI_clamp (show 4 * i + 2 < 2 ^ 31 by omega)]
  have n3 : (nI (4 * i) + 3).toNatClampNeg = 4 * i + 3 := by rw [fLit, nI_add, nI_clamp (show 4 * i + 3 < 2 ^ 31 by omega)]
  refine fsemV_of (Nat.le_of_ble_eq_true rfl) ?_
  refine fE_pos (by refine g_in (k := 4 * i + 1) ?_ (show 4 * i + 1 < 244 from by omega) (show 244 < 2 ^ 31 from by decide); first | rfl | (simp (disch := omega) only [fLit, nI_add, pk_mul, pk_rem, pk_sub, nI_clamp]; done)) 6 (fun _ => rfl) ?_
  refine fE_pos (by refine g_in (k := 4 * i + 2) ?_ (show 4 * i + 2 < 244 from by omega) (show 244 < 2 ^ 31 from by decide); first | rfl | (simp (disch := omega) only [fLit, nI_add, pk_mul, pk_rem, pk_sub, nI_clamp]; done)) 7 (fun _ => rfl) ?_
  refine fE_pos (by refine g_in (k := 4 * i + 3) ?_ (show 4 * i + 3 < 244 from by omega) (show 244 < 2 ^ 31 from by decide); first | rfl | (simp (disch := omega) only [fLit, nI_add, pk_mul, pk_rem, pk_sub, nI_clamp]; done)) 7 (fun _ => rfl) ?_
  refine fE_pos (by refine g_in (k := 4 * i) ?_ (show 4 * i < 244 from by omega) (show 244 < 2 ^ 31 from by decide); first | rfl | (simp (disch := omega) only [fLit, nI_add, pk_mul, pk_rem, pk_sub, nI_clamp]; done)) 5 (fun _ => rfl) ?_
  refine fE_step (y := fun zz => frun _ _ zz 34 [kR 8 0 0, kN (4 * i), kX ((gA μ a).1 39 0 0 (nI (4 * i) + 1).toNatClampNeg), kX ((gA μ a).1 39 0 0 (nI (4 * i) + 2).toNatClampNeg), kX ((gA μ a).1 39 0 0 (nI (4 * i) + 3).toNatClampNeg)] [vI ((gA μ a).1 39 0 0 (nI (4 * i)).toNatClampNeg)] _ 0 0) 0 (fun _ => rfl) ?_
  rw [n0, n1, n2, n3, rd, rd, rd, rd, hk, hx, hy, hz]
  refine fE_call (g_hullIt μ O) 3 (fun _ => rfl) ?_
  exact fE_ret 3 (fun _ => rfl)
theorem g_does1 {μ : fM} {u i : Nat} {a : Nat → Nat} {x y z : Int32} (O : OKA u a) (hu : u + 1 ≤ 6200) (hi : i < 60) (hk : μ.1 39 0 0 (4 * i) = nI 1) (hx : μ.1 39 0 0 (4 * i + 1) = x) (hy : μ.1 39 0 0 (4 * i + 2) = y) (hz : μ.1 39 0 0 (4 * i + 3) = z) : sX8_does [vR 8 0 0, vI (nI (4 * i))] (gA μ a) = some (.inl none, gA (gD μ 1 a x (sp 1 a x y z).1) (sp 1 a x y z).2) := by
  have rd : ∀ j, (gA μ a).1 39 0 0 j = μ.1 39 0 0 j := fun j => gA_ne (by omega)
  have n0 : (nI (4 * i)).toNatClampNeg = 4 * i := nI_clamp (by omega)
  have n1 : (nI (4 * i) + 1).toNatClampNeg = 4 * i + 1 := by rw [nI_1, nI_clamp (by omega)]
  have n2 : (nI (4 * i) + 2).toNatClampNeg = 4 * i + 2 := by rw [fLit, nI_add, nI_clamp (show 4 * i + 2 < 2 ^ 31 by omega)]
  have n3 : (nI (4 * i) + 3).toNatClampNeg = 4 * i + 3 := by rw [fLit, nI_add, nI_clamp (show 4 * i + 3 < 2 ^ 31 by omega)]
  refine fsemV_of (Nat.le_of_ble_eq_true rfl) ?_
  refine fE_pos (by refine g_in (k := 4 * i + 1) ?_ (show 4 * i + 1 < 244 from by omega) (show 244 < 2 ^ 31 from by decide); first | rfl | (simp (disch := omega) only [fLit, nI_add, pk_mul, pk_rem, pk_sub, nI_clamp]; done)) 6 (fun _ => rfl) ?_
  refine fE_pos (by refine g_in (k := 4 * i + 2) ?_ (show 4 * i + 2 < 244 from by omega) (show 244 < 2 ^ 31 from by decide); first | rfl | (simp (disch := omega) only [fLit, nI_add, pk_mul, pk_rem, pk_sub, nI_clamp]; done)) 7 (fun _ => rfl) ?_
  refine fE_pos (by refine g_in (k := 4 * i + 3) ?_ (show 4 * i + 3 < 244 from by omega) (show 244 < 2 ^ 31 from by decide); first | rfl | (simp (disch := omega) only [fLit, nI_add, pk_mul, pk_rem, pk_sub, nI_clamp]; done)) 7 (fun _ => rfl) ?_
  refine fE_pos (by refine g_in (k := 4 * i) ?_ (show 4 * i < 244 from by omega) (show 244 < 2 ^ 31 from by decide); first | rfl | (simp (disch := omega) only [fLit, nI_add, pk_mul, pk_rem, pk_sub, nI_clamp]; done)) 5 (fun _ => rfl) ?_
  refine fE_step (y := fun zz => frun _ _ zz 34 [kR 8 0 0, kN (4 * i), kX ((gA μ a).1 39 0 0 (nI (4 * i) + 1).toNatClampNeg), kX ((gA μ a).1 39 0 0 (nI (4 * i) + 2).toNatClampNeg), kX ((gA μ a).1 39 0 0 (nI (4 * i) + 3).toNatClampNeg)] [vI ((gA μ a).1 39 0 0 (nI (4 * i)).toNatClampNeg)] _ 0 0) 0 (fun _ => rfl) ?_
  rw [n0, n1, n2, n3, rd, rd, rd, rd, hk, hx, hy, hz]
  refine fE_call (g_frameIt μ O x y z) 6 (fun _ => rfl) ?_
  exact fE_ret 3 (fun _ => rfl)
theorem g_does2 {μ : fM} {u i : Nat} {a : Nat → Nat} {x y z : Int32} (O : OKA u a) (hu : u + 1 ≤ 6200) (hi : i < 60) (hk : μ.1 39 0 0 (4 * i) = nI 2) (hx : μ.1 39 0 0 (4 * i + 1) = x) (hy : μ.1 39 0 0 (4 * i + 2) = y) (hz : μ.1 39 0 0 (4 * i + 3) = z) : sX8_does [vR 8 0 0, vI (nI (4 * i))] (gA μ a) = some (.inl none, gA (gD μ 2 a x (sp 2 a x y z).1) (sp 2 a x y z).2) := by
  have rd : ∀ j, (gA μ a).1 39 0 0 j = μ.1 39 0 0 j := fun j => gA_ne (by omega)
  have n0 : (nI (4 * i)).toNatClampNeg = 4 * i := nI_clamp (by omega)
  have n1 : (nI (4 * i) + 1).toNatClampNeg = 4 * i + 1 := by rw [nI_1, nI_clamp (by omega)]
  have n2 : (nI (4 * i) + 2).toNatClampNeg = 4 * i + 2 := by rw [fLit, nI_add, nI_clamp (show 4 * i + 2 < 2 ^ 31 by omega)]
  have n3 : (nI (4 * i) + 3).toNatClampNeg = 4 * i + 3 := by rw [fLit, nI_add, nI_clamp (show 4 * i + 3 < 2 ^ 31 by omega)]
  refine fsemV_of (Nat.le_of_ble_eq_true rfl) ?_
  refine fE_pos (by refine g_in (k := 4 * i + 1) ?_ (show 4 * i + 1 < 244 from by omega) (show 244 < 2 ^ 31 from by decide); first | rfl | (simp (disch := omega) only [fLit, nI_add, pk_mul, pk_rem, pk_sub, nI_clamp]; done)) 6 (fun _ => rfl) ?_
  refine fE_pos (by refine g_in (k := 4 * i + 2) ?_ (show 4 * i + 2 < 244 from by omega) (show 244 < 2 ^ 31 from by decide); first | rfl | (simp (disch := omega) only [fLit, nI_add, pk_mul, pk_rem, pk_sub, nI_clamp]; done)) 7 (fun _ => rfl) ?_
  refine fE_pos (by refine g_in (k := 4 * i + 3) ?_ (show 4 * i + 3 < 244 from by omega) (show 244 < 2 ^ 31 from by decide); first | rfl | (simp (disch := omega) only [fLit, nI_add, pk_mul, pk_rem, pk_sub, nI_clamp]; done)) 7 (fun _ => rfl) ?_
  refine fE_pos (by refine g_in (k := 4 * i) ?_ (show 4 * i < 244 from by omega) (show 244 < 2 ^ 31 from by decide); first | rfl | (simp (disch := omega) only [fLit, nI_add, pk_mul, pk_rem, pk_sub, nI_clamp]; done)) 5 (fun _ => rfl) ?_
  refine fE_step (y := fun zz => frun _ _ zz 34 [kR 8 0 0, kN (4 * i), kX ((gA μ a).1 39 0 0 (nI (4 * i) + 1).toNatClampNeg), kX ((gA μ a).1 39 0 0 (nI (4 * i) + 2).toNatClampNeg), kX ((gA μ a).1 39 0 0 (nI (4 * i) + 3).toNatClampNeg)] [vI ((gA μ a).1 39 0 0 (nI (4 * i)).toNatClampNeg)] _ 0 0) 0 (fun _ => rfl) ?_
  rw [n0, n1, n2, n3, rd, rd, rd, rd, hk, hx, hy, hz]
  refine fE_call (g_mirrorIt μ O x) 4 (fun _ => rfl) ?_
  exact fE_ret 3 (fun _ => rfl)
theorem g_does3 {μ : fM} {u i : Nat} {a : Nat → Nat} {x y z : Int32} (O : OKA u a) (hu : u + 1 ≤ 6200) (hi : i < 60) (hk : μ.1 39 0 0 (4 * i) = nI 3) (hx : μ.1 39 0 0 (4 * i + 1) = x) (hy : μ.1 39 0 0 (4 * i + 2) = y) (hz : μ.1 39 0 0 (4 * i + 3) = z) : sX8_does [vR 8 0 0, vI (nI (4 * i))] (gA μ a) = some (.inl none, gA (gD μ 3 a x (sp 3 a x y z).1) (sp 3 a x y z).2) := by
  have rd : ∀ j, (gA μ a).1 39 0 0 j = μ.1 39 0 0 j := fun j => gA_ne (by omega)
  have n0 : (nI (4 * i)).toNatClampNeg = 4 * i := nI_clamp (by omega)
  have n1 : (nI (4 * i) + 1).toNatClampNeg = 4 * i + 1 := by rw [nI_1, nI_clamp (by omega)]
  have n2 : (nI (4 * i) + 2).toNatClampNeg = 4 * i + 2 := by rw [fLit, nI_add, nI_clamp (show 4 * i + 2 < 2 ^ 31 by omega)]
  have n3 : (nI (4 * i) + 3).toNatClampNeg = 4 * i + 3 := by rw [fLit, nI_add, nI_clamp (show 4 * i + 3 < 2 ^ 31 by omega)]
  refine fsemV_of (Nat.le_of_ble_eq_true rfl) ?_
  refine fE_pos (by refine g_in (k := 4 * i + 1) ?_ (show 4 * i + 1 < 244 from by omega) (show 244 < 2 ^ 31 from by decide); first | rfl | (simp (disch := omega) only [fLit, nI_add, pk_mul, pk_rem, pk_sub, nI_clamp]; done)) 6 (fun _ => rfl) ?_
  refine fE_pos (by refine g_in (k := 4 * i + 2) ?_ (show 4 * i + 2 < 244 from by omega) (show 244 < 2 ^ 31 from by decide); first | rfl | (simp (disch := omega) only [fLit, nI_add, pk_mul, pk_rem, pk_sub, nI_clamp]; done)) 7 (fun _ => rfl) ?_
  refine fE_pos (by refine g_in (k := 4 * i + 3) ?_ (show 4 * i + 3 < 244 from by omega) (show 244 < 2 ^ 31 from by decide); first | rfl | (simp (disch := omega) only [fLit, nI_add, pk_mul, pk_rem, pk_sub, nI_clamp]; done)) 7 (fun _ => rfl) ?_
  refine fE_pos (by refine g_in (k := 4 * i) ?_ (show 4 * i < 244 from by omega) (show 244 < 2 ^ 31 from by decide); first | rfl | (simp (disch := omega) only [fLit, nI_add, pk_mul, pk_rem, pk_sub, nI_clamp]; done)) 5 (fun _ => rfl) ?_
  refine fE_step (y := fun zz => frun _ _ zz 34 [kR 8 0 0, kN (4 * i), kX ((gA μ a).1 39 0 0 (nI (4 * i) + 1).toNatClampNeg), kX ((gA μ a).1 39 0 0 (nI (4 * i) + 2).toNatClampNeg), kX ((gA μ a).1 39 0 0 (nI (4 * i) + 3).toNatClampNeg)] [vI ((gA μ a).1 39 0 0 (nI (4 * i)).toNatClampNeg)] _ 0 0) 0 (fun _ => rfl) ?_
  rw [n0, n1, n2, n3, rd, rd, rd, rd, hk, hx, hy, hz]
  refine fE_call (g_cargoIt μ O x y) 5 (fun _ => rfl) ?_
  exact fE_ret 3 (fun _ => rfl)
theorem g_does4 {μ : fM} {u i : Nat} {a : Nat → Nat} {x y z : Int32} (O : OKA u a) (hu : u + 1 ≤ 6200) (hi : i < 60) (hk : μ.1 39 0 0 (4 * i) = nI 4) (hx : μ.1 39 0 0 (4 * i + 1) = x) (hy : μ.1 39 0 0 (4 * i + 2) = y) (hz : μ.1 39 0 0 (4 * i + 3) = z) : sX8_does [vR 8 0 0, vI (nI (4 * i))] (gA μ a) = some (.inl none, gA (gD μ 4 a x (sp 4 a x y z).1) (sp 4 a x y z).2) := by
  have rd : ∀ j, (gA μ a).1 39 0 0 j = μ.1 39 0 0 j := fun j => gA_ne (by omega)
  have n0 : (nI (4 * i)).toNatClampNeg = 4 * i := nI_clamp (by omega)
  have n1 : (nI (4 * i) + 1).toNatClampNeg = 4 * i + 1 := by rw [nI_1, nI_clamp (by omega)]
  have n2 : (nI (4 * i) + 2).toNatClampNeg = 4 * i + 2 := by rw [fLit, nI_add, nI_clamp (show 4 * i + 2 < 2 ^ 31 by omega)]
  have n3 : (nI (4 * i) + 3).toNatClampNeg = 4 * i + 3 := by rw [fLit, nI_add, nI_clamp (show 4 * i + 3 < 2 ^ 31 by omega)]
  refine fsemV_of (Nat.le_of_ble_eq_true rfl) ?_
  refine fE_pos (by refine g_in (k := 4 * i + 1) ?_ (show 4 * i + 1 < 244 from by omega) (show 244 < 2 ^ 31 from by decide); first | rfl | (simp (disch := omega) only [fLit, nI_add, pk_mul, pk_rem, pk_sub, nI_clamp]; done)) 6 (fun _ => rfl) ?_
  refine fE_pos (by refine g_in (k := 4 * i + 2) ?_ (show 4 * i + 2 < 244 from by omega) (show 244 < 2 ^ 31 from by decide); first | rfl | (simp (disch := omega) only [fLit, nI_add, pk_mul, pk_rem, pk_sub, nI_clamp]; done)) 7 (fun _ => rfl) ?_
  refine fE_pos (by refine g_in (k := 4 * i + 3) ?_ (show 4 * i + 3 < 244 from by omega) (show 244 < 2 ^ 31 from by decide); first | rfl | (simp (disch := omega) only [fLit, nI_add, pk_mul, pk_rem, pk_sub, nI_clamp]; done)) 7 (fun _ => rfl) ?_
  refine fE_pos (by refine g_in (k := 4 * i) ?_ (show 4 * i < 244 from by omega) (show 244 < 2 ^ 31 from by decide); first | rfl | (simp (disch := omega) only [fLit, nI_add, pk_mul, pk_rem, pk_sub, nI_clamp]; done)) 5 (fun _ => rfl) ?_
  refine fE_step (y := fun zz => frun _ _ zz 34 [kR 8 0 0, kN (4 * i), kX ((gA μ a).1 39 0 0 (nI (4 * i) + 1).toNatClampNeg), kX ((gA μ a).1 39 0 0 (nI (4 * i) + 2).toNatClampNeg), kX ((gA μ a).1 39 0 0 (nI (4 * i) + 3).toNatClampNeg)] [vI ((gA μ a).1 39 0 0 (nI (4 * i)).toNatClampNeg)] _ 0 0) 0 (fun _ => rfl) ?_
  rw [n0, n1, n2, n3, rd, rd, rd, rd, hk, hx, hy, hz]
  refine fE_call (g_launchIt μ O x) 4 (fun _ => rfl) ?_
  exact fE_ret 3 (fun _ => rfl)
theorem g_does5 {μ : fM} {u i : Nat} {a : Nat → Nat} {x y z : Int32} (O : OKA u a) (hu : u + 1 ≤ 6200) (hi : i < 60) (hk : μ.1 39 0 0 (4 * i) = nI 5) (hx : μ.1 39 0 0 (4 * i + 1) = x) (hy : μ.1 39 0 0 (4 * i + 2) = y) (hz : μ.1 39 0 0 (4 * i + 3) = z) : sX8_does [vR 8 0 0, vI (nI (4 * i))] (gA μ a) = some (.inl none, gA (gD μ 5 a x (sp 5 a x y z).1) (sp 5 a x y z).2) := by
  have rd : ∀ j, (gA μ a).1 39 0 0 j = μ.1 39 0 0 j := fun j => gA_ne (by omega)
  have n0 : (nI (4 * i)).toNatClampNeg = 4 * i := nI_clamp (by omega)
  have n1 : (nI (4 * i) + 1).toNatClampNeg = 4 * i + 1 := by rw [nI_1, nI_clamp (by omega)]
  have n2 : (nI (4 * i) + 2).toNatClampNeg = 4 * i + 2 := by rw [fLit, nI_add, nI_clamp (show 4 * i + 2 < 2 ^ 31 by omega)]
  have n3 : (nI (4 * i) + 3).toNatClampNeg = 4 * i + 3 := by rw [fLit, nI_add, nI_clamp (show 4 * i + 3 < 2 ^ 31 by omega)]
  refine fsemV_of (Nat.le_of_ble_eq_true rfl) ?_
  refine fE_pos (by refine g_in (k := 4 * i + 1) ?_ (show 4 * i + 1 < 244 from by omega) (show 244 < 2 ^ 31 from by decide); first | rfl | (simp (disch := omega) only [fLit, nI_add, pk_mul, pk_rem, pk_sub, nI_clamp]; done)) 6 (fun _ => rfl) ?_
  refine fE_pos (by refine g_in (k := 4 * i + 2) ?_ (show 4 * i + 2 < 244 from by omega) (show 244 < 2 ^ 31 from by decide); first | rfl | (simp (disch := omega) only [fLit, nI_add, pk_mul, pk_rem, pk_sub, nI_clamp]; done)) 7 (fun _ => rfl) ?_
  refine fE_pos (by refine g_in (k := 4 * i + 3) ?_ (show 4 * i + 3 < 244 from by omega) (show 244 < 2 ^ 31 from by decide); first | rfl | (simp (disch := omega) only [fLit, nI_add, pk_mul, pk_rem, pk_sub, nI_clamp]; done)) 7 (fun _ => rfl) ?_
  refine fE_pos (by refine g_in (k := 4 * i) ?_ (show 4 * i < 244 from by omega) (show 244 < 2 ^ 31 from by decide); first | rfl | (simp (disch := omega) only [fLit, nI_add, pk_mul, pk_rem, pk_sub, nI_clamp]; done)) 5 (fun _ => rfl) ?_
  refine fE_step (y := fun zz => frun _ _ zz 34 [kR 8 0 0, kN (4 * i), kX ((gA μ a).1 39 0 0 (nI (4 * i) + 1).toNatClampNeg), kX ((gA μ a).1 39 0 0 (nI (4 * i) + 2).toNatClampNeg), kX ((gA μ a).1 39 0 0 (nI (4 * i) + 3).toNatClampNeg)] [vI ((gA μ a).1 39 0 0 (nI (4 * i)).toNatClampNeg)] _ 0 0) 0 (fun _ => rfl) ?_
  rw [n0, n1, n2, n3, rd, rd, rd, rd, hk, hx, hy, hz]
  refine fE_call (g_caulkIt μ O x y) 5 (fun _ => rfl) ?_
  exact fE_ret 3 (fun _ => rfl)
theorem g_does6 {μ : fM} {u i : Nat} {a : Nat → Nat} {x y z : Int32} (O : OKA u a) (hu : u + 1 ≤ 6200) (hi : i < 60) (hk : μ.1 39 0 0 (4 * i) = nI 6) (hx : μ.1 39 0 0 (4 * i + 1) = x) (hy : μ.1 39 0 0 (4 * i + 2) = y) (hz : μ.1 39 0 0 (4 * i + 3) = z) : sX8_does [vR 8 0 0, vI (nI (4 * i))] (gA μ a) = some (.inl none, gA (gD μ 6 a x (sp 6 a x y z).1) (sp 6 a x y z).2) := by
  have rd : ∀ j, (gA μ a).1 39 0 0 j = μ.1 39 0 0 j := fun j => gA_ne (by omega)
  have n0 : (nI (4 * i)).toNatClampNeg = 4 * i := nI_clamp (by omega)
  have n1 : (nI (4 * i) + 1).toNatClampNeg = 4 * i + 1 := by rw [nI_1, nI_clamp (by omega)]
  have n2 : (nI (4 * i) + 2).toNatClampNeg = 4 * i + 2 := by rw [fLit, nI_add, nI_clamp (show 4 * i + 2 < 2 ^ 31 by omega)]
  have n3 : (nI (4 * i) + 3).toNatClampNeg = 4 * i + 3 := by rw [fLit, nI_add, nI_clamp (show 4 * i + 3 < 2 ^ 31 by omega)]
  refine fsemV_of (Nat.le_of_ble_eq_true rfl) ?_
  refine fE_pos (by refine g_in (k := 4 * i + 1) ?_ (show 4 * i + 1 < 244 from by omega) (show 244 < 2 ^ 31 from by decide); first | rfl | (simp (disch := omega) only [fLit, nI_add, pk_mul, pk_rem, pk_sub, nI_clamp]; done)) 6 (fun _ => rfl) ?_
  refine fE_pos (by refine g_in (k := 4 * i + 2) ?_ (show 4 * i + 2 < 244 from by omega) (show 244 < 2 ^ 31 from by decide); first | rfl | (simp (disch := omega) only [fLit, nI_add, pk_mul, pk_rem, pk_sub, nI_clamp]; done)) 7 (fun _ => rfl) ?_
  refine fE_pos (by refine g_in (k := 4 * i + 3) ?_ (show 4 * i + 3 < 244 from by omega) (show 244 < 2 ^ 31 from by decide); first | rfl | (simp (disch := omega) only [fLit, nI_add, pk_mul, pk_rem, pk_sub, nI_clamp]; done)) 7 (fun _ => rfl) ?_
  refine fE_pos (by refine g_in (k := 4 * i) ?_ (show 4 * i < 244 from by omega) (show 244 < 2 ^ 31 from by decide); first | rfl | (simp (disch := omega) only [fLit, nI_add, pk_mul, pk_rem, pk_sub, nI_clamp]; done)) 5 (fun _ => rfl) ?_
  refine fE_step (y := fun zz => frun _ _ zz 34 [kR 8 0 0, kN (4 * i), kX ((gA μ a).1 39 0 0 (nI (4 * i) + 1).toNatClampNeg), kX ((gA μ a).1 39 0 0 (nI (4 * i) + 2).toNatClampNeg), kX ((gA μ a).1 39 0 0 (nI (4 * i) + 3).toNatClampNeg)] [vI ((gA μ a).1 39 0 0 (nI (4 * i)).toNatClampNeg)] _ 0 0) 0 (fun _ => rfl) ?_
  rw [n0, n1, n2, n3, rd, rd, rd, rd, hk, hx, hy, hz]
  refine fE_call (g_pumpIt μ O x y) 5 (fun _ => rfl) ?_
  exact fE_ret 3 (fun _ => rfl)
theorem g_does7 {μ : fM} {u i : Nat} {a : Nat → Nat} {x y z : Int32} (O : OKA u a) (hu : u + 1 ≤ 6200) (hi : i < 60) (hk : μ.1 39 0 0 (4 * i) = nI 7) (hx : μ.1 39 0 0 (4 * i + 1) = x) (hy : μ.1 39 0 0 (4 * i + 2) = y) (hz : μ.1 39 0 0 (4 * i + 3) = z) : sX8_does [vR 8 0 0, vI (nI (4 * i))] (gA μ a) = some (.inl none, gA (gD μ 7 a x (sp 7 a x y z).1) (sp 7 a x y z).2) := by
  have rd : ∀ j, (gA μ a).1 39 0 0 j = μ.1 39 0 0 j := fun j => gA_ne (by omega)
  have n0 : (nI (4 * i)).toNatClampNeg = 4 * i := nI_clamp (by omega)
  have n1 : (nI (4 * i) + 1).toNatClampNeg = 4 * i + 1 := by rw [nI_1, nI_clamp (by omega)]
  have n2 : (nI (4 * i) + 2).toNatClampNeg = 4 * i + 2 := by rw [fLit, nI_add, nI_clamp (show 4 * i + 2 < 2 ^ 31 by omega)]
  have n3 : (nI (4 * i) + 3).toNatClampNeg = 4 * i + 3 := by rw [fLit, nI_add, nI_clamp (show 4 * i + 3 < 2 ^ 31 by omega)]
  refine fsemV_of (Nat.le_of_ble_eq_true rfl) ?_
  refine fE_pos (by refine g_in (k := 4 * i + 1) ?_ (show 4 * i + 1 < 244 from by omega) (show 244 < 2 ^ 31 from by decide); first | rfl | (simp (disch := omega) only [fLit, nI_add, pk_mul, pk_rem, pk_sub, nI_clamp]; done)) 6 (fun _ => rfl) ?_
  refine fE_pos (by refine g_in (k := 4 * i + 2) ?_ (show 4 * i + 2 < 244 from by omega) (show 244 < 2 ^ 31 from by decide); first | rfl | (simp (disch := omega) only [fLit, nI_add, pk_mul, pk_rem, pk_sub, nI_clamp]; done)) 7 (fun _ => rfl) ?_
  refine fE_pos (by refine g_in (k := 4 * i + 3) ?_ (show 4 * i + 3 < 244 from by omega) (show 244 < 2 ^ 31 from by decide); first | rfl | (simp (disch := omega) only [fLit, nI_add, pk_mul, pk_rem, pk_sub, nI_clamp]; done)) 7 (fun _ => rfl) ?_
  refine fE_pos (by refine g_in (k := 4 * i) ?_ (show 4 * i < 244 from by omega) (show 244 < 2 ^ 31 from by decide); first | rfl | (simp (disch := omega) only [fLit, nI_add, pk_mul, pk_rem, pk_sub, nI_clamp]; done)) 5 (fun _ => rfl) ?_
  refine fE_step (y := fun zz => frun _ _ zz 34 [kR 8 0 0, kN (4 * i), kX ((gA μ a).1 39 0 0 (nI (4 * i) + 1).toNatClampNeg), kX ((gA μ a).1 39 0 0 (nI (4 * i) + 2).toNatClampNeg), kX ((gA μ a).1 39 0 0 (nI (4 * i) + 3).toNatClampNeg)] [vI ((gA μ a).1 39 0 0 (nI (4 * i)).toNatClampNeg)] _ 0 0) 0 (fun _ => rfl) ?_
  rw [n0, n1, n2, n3, rd, rd, rd, rd, hk, hx, hy, hz]
  refine fE_call (g_hoursIt μ O hu x) 4 (fun _ => rfl) ?_
  exact fE_ret 3 (fun _ => rfl)
theorem g_does8 {μ : fM} {u i : Nat} {a : Nat → Nat} {x y z : Int32} (O : OKA u a) (hu : u + 1 ≤ 6200) (hi : i < 60) (hk : μ.1 39 0 0 (4 * i) = nI 8) (hx : μ.1 39 0 0 (4 * i + 1) = x) (hy : μ.1 39 0 0 (4 * i + 2) = y) (hz : μ.1 39 0 0 (4 * i + 3) = z) : sX8_does [vR 8 0 0, vI (nI (4 * i))] (gA μ a) = some (.inl none, gA (gD μ 8 a x (sp 8 a x y z).1) (sp 8 a x y z).2) := by
  have rd : ∀ j, (gA μ a).1 39 0 0 j = μ.1 39 0 0 j := fun j => gA_ne (by omega)
  have n0 : (nI (4 * i)).toNatClampNeg = 4 * i := nI_clamp (by omega)
  have n1 : (nI (4 * i) + 1).toNatClampNeg = 4 * i + 1 := by rw [nI_1, nI_clamp (by omega)]
  have n2 : (nI (4 * i) + 2).toNatClampNeg = 4 * i + 2 := by rw [fLit, nI_add, nI_clamp (show 4 * i + 2 < 2 ^ 31 by omega)]
  have n3 : (nI (4 * i) + 3).toNatClampNeg = 4 * i + 3 := by rw [fLit, nI_add, nI_clamp (show 4 * i + 3 < 2 ^ 31 by omega)]
  refine fsemV_of (Nat.le_of_ble_eq_true rfl) ?_
  refine fE_pos (by refine g_in (k := 4 * i + 1) ?_ (show 4 * i + 1 < 244 from by omega) (show 244 < 2 ^ 31 from by decide); first | rfl | (simp (disch := omega) only [fLit, nI_add, pk_mul, pk_rem, pk_sub, nI_clamp]; done)) 6 (fun _ => rfl) ?_
  refine fE_pos (by refine g_in (k := 4 * i + 2) ?_ (show 4 * i + 2 < 244 from by omega) (show 244 < 2 ^ 31 from by decide); first | rfl | (simp (disch := omega) only [fLit, nI_add, pk_mul, pk_rem, pk_sub, nI_clamp]; done)) 7 (fun _ => rfl) ?_
  refine fE_pos (by refine g_in (k := 4 * i + 3) ?_ (show 4 * i + 3 < 244 from by omega) (show 244 < 2 ^ 31 from by decide); first | rfl | (simp (disch := omega) only [fLit, nI_add, pk_mul, pk_rem, pk_sub, nI_clamp]; done)) 7 (fun _ => rfl) ?_
  refine fE_pos (by refine g_in (k := 4 * i) ?_ (show 4 * i < 244 from by omega) (show 244 < 2 ^ 31 from by decide); first | rfl | (simp (disch := omega) only [fLit, nI_add, pk_mul, pk_rem, pk_sub, nI_clamp]; done)) 5 (fun _ => rfl) ?_
  refine fE_step (y := fun zz => frun _ _ zz 34 [kR 8 0 0, kN (4 * i), kX ((gA μ a).1 39 0 0 (nI (4 * i) + 1).toNatClampNeg), kX ((gA μ a).1 39 0 0 (nI (4 * i) + 2).toNatClampNeg), kX ((gA μ a).1 39 0 0 (nI (4 * i) + 3).toNatClampNeg)] [vI ((gA μ a).1 39 0 0 (nI (4 * i)).toNatClampNeg)] _ 0 0) 0 (fun _ => rfl) ?_
  rw [n0, n1, n2, n3, rd, rd, rd, rd, hk, hx, hy, hz]
  refine fE_call (g_tideIt μ x y) 5 (fun _ => rfl) ?_
  exact fE_ret 3 (fun _ => rfl)
theorem g_does9 {μ : fM} {u i : Nat} {a : Nat → Nat} {x y z : Int32} (O : OKA u a) (hu : u + 1 ≤ 6200) (hi : i < 60) (hk : μ.1 39 0 0 (4 * i) = nI 9) (hx : μ.1 39 0 0 (4 * i + 1) = x) (hy : μ.1 39 0 0 (4 * i + 2) = y) (hz : μ.1 39 0 0 (4 * i + 3) = z) : sX8_does [vR 8 0 0, vI (nI (4 * i))] (gA μ a) = some (.inl none, gA (gD μ 9 a x (sp 9 a x y z).1) (sp 9 a x y z).2) := by
  have rd : ∀ j, (gA μ a).1 39 0 0 j = μ.1 39 0 0 j := fun j => gA_ne (by omega)
  have n0 : (nI (4 * i)).toNatClampNeg = 4 * i := nI_clamp (by omega)
  have n1 : (nI (4 * i) + 1).toNatClampNeg = 4 * i + 1 := by rw [nI_1, nI_clamp (by omega)]
  have n2 : (nI (4 * i) + 2).toNatClampNeg = 4 * i + 2 := by rw [fLit, nI_add, nI_clamp (show 4 * i + 2 < 2 ^ 31 by omega)]
  have n3 : (nI (4 * i) + 3).toNatClampNeg = 4 * i + 3 := by rw [fLit, nI_add, nI_clamp (show 4 * i + 3 < 2 ^ 31 by omega)]
  refine fsemV_of (Nat.le_of_ble_eq_true rfl) ?_
  refine fE_pos (by refine g_in (k := 4 * i + 1) ?_ (show 4 * i + 1 < 244 from by omega) (show 244 < 2 ^ 31 from by decide); first | rfl | (simp (disch := omega) only [fLit, nI_add, pk_mul, pk_rem, pk_sub, nI_clamp]; done)) 6 (fun _ => rfl) ?_
  refine fE_pos (by refine g_in (k := 4 * i + 2) ?_ (show 4 * i + 2 < 244 from by omega) (show 244 < 2 ^ 31 from by decide); first | rfl | (simp (disch := omega) only [fLit, nI_add, pk_mul, pk_rem, pk_sub, nI_clamp]; done)) 7 (fun _ => rfl) ?_
  refine fE_pos (by refine g_in (k := 4 * i + 3) ?_ (show 4 * i + 3 < 244 from by omega) (show 244 < 2 ^ 31 from by decide); first | rfl | (simp (disch := omega) only [fLit, nI_add, pk_mul, pk_rem, pk_sub, nI_clamp]; done)) 7 (fun _ => rfl) ?_
  refine fE_pos (by refine g_in (k := 4 * i) ?_ (show 4 * i < 244 from by omega) (show 244 < 2 ^ 31 from by decide); first | rfl | (simp (disch := omega) only [fLit, nI_add, pk_mul, pk_rem, pk_sub, nI_clamp]; done)) 5 (fun _ => rfl) ?_
  refine fE_step (y := fun zz => frun _ _ zz 34 [kR 8 0 0, kN (4 * i), kX ((gA μ a).1 39 0 0 (nI (4 * i) + 1).toNatClampNeg), kX ((gA μ a).1 39 0 0 (nI (4 * i) + 2).toNatClampNeg), kX ((gA μ a).1 39 0 0 (nI (4 * i) + 3).toNatClampNeg)] [vI ((gA μ a).1 39 0 0 (nI (4 * i)).toNatClampNeg)] _ 0 0) 0 (fun _ => rfl) ?_
  rw [n0, n1, n2, n3, rd, rd, rd, rd, hk, hx, hy, hz]
  refine fE_call (g_orderIt μ O x y z) 6 (fun _ => rfl) ?_
  exact fE_ret 3 (fun _ => rfl)
theorem g_does10 {μ : fM} {u i : Nat} {a : Nat → Nat} {x y z : Int32} (O : OKA u a) (hu : u + 1 ≤ 6200) (hi : i < 60) (hk : μ.1 39 0 0 (4 * i) = nI 10) (hx : μ.1 39 0 0 (4 * i + 1) = x) (hy : μ.1 39 0 0 (4 * i + 2) = y) (hz : μ.1 39 0 0 (4 * i + 3) = z) : sX8_does [vR 8 0 0, vI (nI (4 * i))] (gA μ a) = some (.inl none, gA (gD μ 10 a x (sp 10 a x y z).1) (sp 10 a x y z).2) := by
  have rd : ∀ j, (gA μ a).1 39 0 0 j = μ.1 39 0 0 j := fun j => gA_ne (by omega)
  have n0 : (nI (4 * i)).toNatClampNeg = 4 * i := nI_clamp (by omega)
  have n1 : (nI (4 * i) + 1).toNatClampNeg = 4 * i + 1 := by rw [nI_1, nI_clamp (by omega)]
  have n2 : (nI (4 * i) + 2).toNatClampNeg = 4 * i + 2 := by rw [fLit, nI_add, nI_clamp (show 4 * i + 2 < 2 ^ 31 by omega)]
  have n3 : (nI (4 * i) + 3).toNatClampNeg = 4 * i + 3 := by rw [fLit, nI_add, nI_clamp (show 4 * i + 3 < 2 ^ 31 by omega)]
  refine fsemV_of (Nat.le_of_ble_eq_true rfl) ?_
  refine fE_pos (by refine g_in (k := 4 * i + 1) ?_ (show 4 * i + 1 < 244 from by omega) (show 244 < 2 ^ 31 from by decide); first | rfl | (simp (disch := omega) only [fLit, nI_add, pk_mul, pk_rem, pk_sub, nI_clamp]; done)) 6 (fun _ => rfl) ?_
  refine fE_pos (by refine g_in (k := 4 * i + 2) ?_ (show 4 * i + 2 < 244 from by omega) (show 244 < 2 ^ 31 from by decide); first | rfl | (simp (disch := omega) only [fLit, nI_add, pk_mul, pk_rem, pk_sub, nI_clamp]; done)) 7 (fun _ => rfl) ?_
  refine fE_pos (by refine g_in (k := 4 * i + 3) ?_ (show 4 * i + 3 < 244 from by omega) (show 244 < 2 ^ 31 from by decide); first | rfl | (simp (disch := omega) only [fLit, nI_add, pk_mul, pk_rem, pk_sub, nI_clamp]; done)) 7 (fun _ => rfl) ?_
  refine fE_pos (by refine g_in (k := 4 * i) ?_ (show 4 * i < 244 from by omega) (show 244 < 2 ^ 31 from by decide); first | rfl | (simp (disch := omega) only [fLit, nI_add, pk_mul, pk_rem, pk_sub, nI_clamp]; done)) 5 (fun _ => rfl) ?_
  refine fE_step (y := fun zz => frun _ _ zz 34 [kR 8 0 0, kN (4 * i), kX ((gA μ a).1 39 0 0 (nI (4 * i) + 1).toNatClampNeg), kX ((gA μ a).1 39 0 0 (nI (4 * i) + 2).toNatClampNeg), kX ((gA μ a).1 39 0 0 (nI (4 * i) + 3).toNatClampNeg)] [vI ((gA μ a).1 39 0 0 (nI (4 * i)).toNatClampNeg)] _ 0 0) 0 (fun _ => rfl) ?_
  rw [n0, n1, n2, n3, rd, rd, rd, rd, hk, hx, hy, hz]
  refine fE_call (g_deliverIt μ O x y) 5 (fun _ => rfl) ?_
  exact fE_ret 2 (fun _ => rfl)
theorem g_does {μ : fM} {u i : Nat} {q : Nat × List Nat} {a : Nat → Nat} (O : OKA u a) (hu : u + 1 ≤ 6200) (hi : i < 60) (Q : cmdOK q) (hk : μ.1 39 0 0 (4 * i) = nI q.1) (hv : ∀ j v, q.2[j]? = some v → μ.1 39 0 0 (4 * i + 1 + j) = nI v) : sX8_does [vR 8 0 0, vI (nI (4 * i))] (gA μ a) = some (.inl none, gA (gD μ q.1 a (qA q 0) (spq q a).1) (spq q a).2) := by
  have S := sp_args (a := a) (X := fun j => μ.1 39 0 0 (4 * i + 1 + j)) Q hv
  have key : ∀ x y z : Int32, μ.1 39 0 0 (4 * i + 1) = x → μ.1 39 0 0 (4 * i + 2) = y → μ.1 39 0 0 (4 * i + 3) = z → sX8_does [vR 8 0 0, vI (nI (4 * i))] (gA μ a) = some (.inl none, gA (gD μ q.1 a x (sp q.1 a x y z).1) (sp q.1 a x y z).2) := fun x y z hx hy hz => by
    obtain ⟨k, vs⟩ := q
    have hkk : k < 11 := Q.1
    have hk : μ.1 39 0 0 (4 * i) = nI k := hk
    show sX8_does [vR 8 0 0, vI (nI (4 * i))] (gA μ a) = some (.inl none, gA (gD μ k a x (sp k a x y z).1) (sp k a x y z).2)
    match k, hkk with
    | 0, _ => exact g_does0 O hu hi hk hx hy hz
    | 1, _ => exact g_does1 O hu hi hk hx hy hz
    | 2, _ => exact g_does2 O hu hi hk hx hy hz
    | 3, _ => exact g_does3 O hu hi hk hx hy hz
    | 4, _ => exact g_does4 O hu hi hk hx hy hz
    | 5, _ => exact g_does5 O hu hi hk hx hy hz
    | 6, _ => exact g_does6 O hu hi hk hx hy hz
    | 7, _ => exact g_does7 O hu hi hk hx hy hz
    | 8, _ => exact g_does8 O hu hi hk hx hy hz
    | 9, _ => exact g_does9 O hu hi hk hx hy hz
    | 10, _ => exact g_does10 O hu hi hk hx hy hz
  have R := key _ _ _ rfl rfl rfl
  have S1 : sp q.1 a (μ.1 39 0 0 (4 * i + 1)) (μ.1 39 0 0 (4 * i + 2)) (μ.1 39 0 0 (4 * i + 3)) = spq q a := S.1
  rw [S1] at R
  rw [R]
  have e : gD μ q.1 a (μ.1 39 0 0 (4 * i + 1)) (spq q a).1 = gD μ q.1 a (qA q 0) (spq q a).1 := by
    unfold gD
    by_cases c : q.1 = 4
    · rw [if_pos c, if_pos c, show μ.1 39 0 0 (4 * i + 1) = qA q 0 from S.2 c]
    · rw [if_neg c, if_neg c]
  rw [e]
theorem g_ex_3 {μ : fM} {a b : Nat → Nat} {i : Nat} {res : fR} (hb : ∀ k, k < 213 → μ.1 31 0 0 k = nI (b k)) : ∀ j k, k + j = 213 → fEnds (fun zz => frun eX8_execute tX8_execute zz 164 [kR 8 0 0, kN 0, kN i, kN 213] [] (gA μ b) 0 0) res → fEnds (fun zz => frun eX8_execute tX8_execute zz 139 [kR 8 0 0, kN 0, kN i, kN k] [] (gA μ (aCp a b k)) 0 0) res
  | 0, k, e, R => by
    obtain rfl : k = 213 := e
    rw [aCp_all]
    refine fE_step (y := fun zz => frun _ _ zz 164 [kR 8 0 0, kN 0, kN i, kN 213] [] _ 0 0) 3 (fun _ => rfl) ?_
    exact R
  | j + 1, k, e, R => by
    have ek : (nI k).toNatClampNeg = k := nI_clamp (by omega)
    have rd : (gA μ (aCp a b k)).1 31 0 0 k = nI (b k) := (gA_ne (by omega)).trans (hb k (by omega))
    refine fE_neg (by first | omega | (simp (disch := omega) only [fLit, nI_add, pk_mul, pk_rem, nI_clamp, beq01, beq11, cond_false, cond_true, nI_leI, nI_ltI, nI_eq]; done) | (simp (disch := omega) only [fLit, nI_add, pk_mul, pk_rem, nI_clamp, beq01, beq11, cond_false, cond_true, nI_leI, nI_ltI, nI_eq]; omega)) 3 (fun _ => rfl) ?_
    refine fE_pos (by refine g_in (k := k) ?_ (show k < 213 from by omega) (show 213 < 2 ^ 31 from by decide); first | rfl | (simp (disch := omega) only [fLit, nI_add, pk_mul, pk_rem, pk_sub, nI_clamp]; done)) 7 (fun _ => rfl) ?_
    refine fE_pos (by refine g_in (k := k) ?_ (show k < 213 from by omega) (show 213 < 2 ^ 31 from by decide); first | rfl | (simp (disch := omega) only [fLit, nI_add, pk_mul, pk_rem, pk_sub, nI_clamp]; done)) 1 (fun _ => rfl) ?_
    refine fE_step (y := fun zz => frun _ _ zz 139 [kR 8 0 0, kN 0, kN i, kX (nI k + 1)] [] (fI (gA μ (aCp a b k)) 30 0 0 (nI k).toNatClampNeg ((gA μ (aCp a b k)).1 31 0 0 (nI k).toNatClampNeg)) 0 0) 2 (fun _ => rfl) ?_
    rw [ek, rd, gA_set (by omega), aCp_up, nI_1]
    exact g_ex_3 hb j (k + 1) (by omega) R
def gDP (C _y _h k : Nat) : Prop := C = 8 ∧ (k = 8 ∨ k = 9)
theorem mW_out {μ : fM} {w : Nat} : sX' gDP μ (mW μ w) := by
  unfold mW
  split
  · exact sX_refl
  · exact sX_fI ⟨rfl, Or.inl rfl⟩
theorem mT_out {μ : fM} {r : qR} : sX' gDP μ (mT μ r) := by
  cases r with
  | inl t => exact sX_fI ⟨rfl, Or.inr rfl⟩
  | inr v => exact sX_refl
theorem gD_out {μ : fM} {k : Nat} {a : Nat → Nat} {x : Int32} {r : qR} : sX' gDP μ (gD μ k a x r) := by
  unfold gD
  split
  · exact sX_trans mW_out mT_out
  · exact mT_out
theorem sp_why {k : Nat} {a : Nat → Nat} {x y z v : Int32} (hk : k = 4) (h : (sp k a x y z).1 = .inr v) : sWhy a x = 0 := by
  subst hk
  change (sLaunch a x).1 = _ at h
  unfold sLaunch at h
  unfold sWhy
  by_cases q : okH a x
  · rw [if_pos q] at h
    by_cases r : hS a (xN x) = 0
    · rw [if_pos r] at h
      by_cases s : hWhy a (xN x) = 0
      · rw [if_pos ⟨q, r⟩, s]
      · rw [if_neg s] at h; cases h
    · rw [if_neg (fun p => r p.2)]
  · rw [if_neg (fun p => q p.1)]
/-- running: the memory behind it -/
theorem g_run {b : Nat → Nat} {N : Nat} {l0 : List (Nat × List Nat)} (hN : l0.length = N) (hN12 : N ≤ 12) (hl0 : ∀ q ∈ l0, cmdOK q) : ∀ (l : List (Nat × List Nat)) (i u : Nat) (a : Nat → Nat) (μ : fM), (∀ j q, l[j]? = some q → l0[i + j]? = some q) → i + l.length = N → OKA u a → u + l.length ≤ 6200 → MCC μ 0 l0 → μ.1 8 0 0 20 = nI N → μ.1 8 0 0 9 = 0 → (∀ k, k < 213 → μ.1 31 0 0 k = nI (b k)) →
    (∀ f, rn l i a = .inl f → fEnds (fun zz => frun eX8_execute tX8_execute zz 115 [kR 8 0 0, kN 0, kN i, none] [] (gA μ a) 0 0) (.inl (some (vI (-1))), gA (gT (fI (mW μ f.2) 8 0 0 7 (nI f.1)) 2) b)) ∧
    (∀ a', rn l i a = .inr a' → ∀ res, fEnds (fun zz => frun eX8_execute tX8_execute zz 181 [kR 8 0 0, kN 0, kN N, none] [] (gA μ a') 0 0) res → fEnds (fun zz => frun eX8_execute tX8_execute zz 115 [kR 8 0 0, kN 0, kN i, none] [] (gA μ a) 0 0) res)
  | [], i, u, a, μ, hsub, hi, O, hu, hM, h20, h9, hb => by
    refine ⟨(fun f h => by cases h), fun a' h res R => ?_⟩
    cases h
    have hi : i = N := by simpa using hi
    subst hi
    have rd : (gA μ a).1 8 0 0 20 = nI i := (gA_ne (by omega)).trans h20
    refine fE_pos (by show (gA μ a).1 8 0 0 20 ≤ nI i; rw [rd]; exact nI_le (Nat.le_refl _) (by omega)) 4 (fun _ => rfl) ?_
    exact R
  | q :: r, i, u, a, μ, hsub, hi, O, hu, hM, h20, h9, hb => by
    have hi : i + (r.length + 1) = N := hi
    have hu : u + (r.length + 1) ≤ 6200 := hu
    have hq0 : l0[i]? = some q := hsub 0 q rfl
    have Q : cmdOK q := hl0 q (List.mem_of_getElem? hq0)
    have m := hM i q hq0
    rw [Nat.zero_add] at m
    have gd := g_does (i := i) O (by omega) (by omega) Q m.1 m.2
    rw [show nI (4 * i) = nI 4 * nI i from (pk_mul 4 i).symm] at gd
    have rd : (gA μ a).1 8 0 0 20 = nI N := (gA_ne (by omega)).trans h20
    have go := gD_out (μ := μ) (k := q.1) (a := a) (x := qA q 0) (r := (spq q a).1)
    rw [rn]
    cases hs : (spq q a).1 with
    | inl t =>
      rw [hs] at gd go
      have ht := sp_fc (by have := Q.1; omega) hs
      have ea : (spq q a).2 = a := ht.2.2.2.2.1
      rw [ea] at gd
      have h9' : (gA (gD μ q.1 a (qA q 0) (.inl t)) a).1 8 0 0 9 = nI t := (gA_ne (by omega)).trans fI_at
      refine ⟨fun f hf => ?_, (fun a' h => by cases h)⟩
      cases hf
      have fin : fI (gA (gD μ q.1 a (qA q 0) (.inl t)) b) 8 0 0 7 (nI i) = gA (fI (gD μ q.1 a (qA q 0) (.inl t)) 8 0 0 7 (nI i)) b := gA_fI (by omega)
      have fin2 : gT (fI (gD μ q.1 a (qA q 0) (.inl t)) 8 0 0 7 (nI i)) 2 = gT (fI (mW μ (if q.1 = 4 then sWhy a (qA q 0) else 0)) 8 0 0 7 (nI i)) 2 := by
        have e : gD μ q.1 a (qA q 0) (.inl t) = gT (mW μ (if q.1 = 4 then sWhy a (qA q 0) else 0)) (nI t) := by
          unfold gD
          split
          · rfl
          · rfl
        rw [e]
        refine Prod.ext ?_ rfl
        funext c y h k
        simp only [gT, fI]
        split
        · rfl
        · split
          · rfl
          · simp_all
      have tail : fEnds (fun zz => frun eX8_execute tX8_execute zz 137 [kR 8 0 0, kN 0, kN i, none] [] (gA (gD μ q.1 a (qA q 0) (.inl t)) a) 0 0) (.inl (some (vI (-1))), gA (gT (fI (mW μ (if q.1 = 4 then sWhy a (qA q 0) else 0)) 8 0 0 7 (nI i)) 2) b) := by
        have R := g_ex_3 (a := a) (b := b) (μ := gD μ q.1 a (qA q 0) (.inl t)) (i := i) (res := (.inl (some (vI (-1))), gA (gT (fI (mW μ (if q.1 = 4 then sWhy a (qA q 0) else 0)) 8 0 0 7 (nI i)) 2) b)) (fun k hk => (go.1 31 0 0 k (fun P => by have := P.1; omega)).trans (hb k hk)) 213 0 rfl (by
          skip
          refine fE_step (y := fun zz => frun _ _ zz 169 [kR 8 0 0, kN 0, kN i, kN 213] [] (fI (gA (gD μ q.1 a (qA q 0) (.inl t)) b) 8 0 0 7 (nI i)) 0 0) 3 (fun _ => rfl) ?_
          rw [fin]
          refine fE_call (g_throwing _ b 2) 3 (fun _ => rfl) ?_
          refine fE_ret2 1 (fun _ => rfl) ?_
          rw [fin2]
          rfl
          )
        rw [aCp_0] at R
        refine fE_step (y := fun zz => frun _ _ zz 139 [kR 8 0 0, kN 0, kN i, kN 0] [] _ 0 0) 2 (fun _ => rfl) ?_
        exact R
      refine fE_neg (fun P => by change (gA μ a).1 8 0 0 20 ≤ nI i at P; rw [rd] at P; have := (nI_leI (by omega) (by omega)).mp P; omega) 4 (fun _ => rfl) ?_
      refine fE_call (gd) 5 (fun _ => rfl) ?_
      refine fE_neg (fun P => by change (gA (gD μ q.1 a (qA q 0) (.inl t)) a).1 8 0 0 9 ≤ 0 at P; rw [h9'] at P; have := (nI_leI (b := 0) (by omega) (by omega)).mp P; omega) 3 (fun _ => rfl) ?_
      exact tail
    | inr v =>
      rw [hs] at gd go
      have ew : gD μ q.1 a (qA q 0) (.inr v) = μ := by
        unfold gD
        split
        · rename_i c
          rw [sp_why c hs]
          rfl
        · rfl
      rw [ew] at gd
      have O1 : OKA (u + 1) (spq q a).2 := sp_ok O (by omega) (by have := Q.1; omega)
      have h9' : (gA μ (spq q a).2).1 8 0 0 9 = 0 := (gA_ne (by omega)).trans h9
      have ih := g_run (b := b) hN hN12 hl0 r (i + 1) (u + 1) (spq q a).2 μ (fun j q' h => by
        have := hsub (j + 1) q' (by simpa using h)
        rwa [show i + (j + 1) = i + 1 + j from by omega] at this) (by omega) O1 (by omega) hM h20 h9 hb
      have walk : ∀ res, fEnds (fun zz => frun eX8_execute tX8_execute zz 115 [kR 8 0 0, kN 0, kN (i + 1), none] [] (gA μ (spq q a).2) 0 0) res → fEnds (fun zz => frun eX8_execute tX8_execute zz 115 [kR 8 0 0, kN 0, kN i, none] [] (gA μ a) 0 0) res := fun res R => by
        revert h9' gd R
        generalize gA μ (spq q a).2 = ν
        intro gd h9' R
        refine fE_neg (fun P => by change (gA μ a).1 8 0 0 20 ≤ nI i at P; rw [rd] at P; have := (nI_leI (by omega) (by omega)).mp P; omega) 4 (fun _ => rfl) ?_
        refine fE_call (gd) 5 (fun _ => rfl) ?_
        refine fE_pos (by show ν.1 8 0 0 9 ≤ 0; rw [h9']; decide) 3 (fun _ => rfl) ?_
        refine fE_step (y := fun zz => frun _ _ zz 115 [kR 8 0 0, kN 0, kX (nI i + 1), none] [] _ 0 0) 2 (fun _ => rfl) ?_
        rw [nI_1]
        exact R
      exact ⟨fun f hf => walk _ (ih.1 f hf), fun a' h res R => walk _ (ih.2 a' h res R)⟩
