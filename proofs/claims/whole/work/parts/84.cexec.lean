/-! THE CLASS RUNS AND EXECUTES PROGRAMS -/
theorem c_numOf {μ : fM} {i p : Nat} (hi : i < 12) (hp : p < 3) : sX3_numberOf [vR 3 0 0, vI (nI i), vI (nI p)] μ = some (.inl (some (vI (μ.1 23 0 0 (3 * i + p)))), μ) := by
  refine fsemV_of (Nat.le_of_ble_eq_true rfl) ?_
  refine fE_pos (by refine g_in (k := 3 * i + p) ?_ (show 3 * i + p < 36 from by omega) (by decide); show nI i * nI 3 + nI p = _; rw [pk_mul, nI_add, Nat.mul_comm]) 8 (fun _ => rfl) ?_
  refine fE_ret2 1 (fun _ => rfl) ?_
  show (Sum.inl (some (vI (μ.1 23 0 0 (nI i * nI 3 + nI p).toNatClampNeg))), μ) = _
  rw [pk_mul, nI_add, nI_clamp (by omega), Nat.mul_comm]
/-- what running may change -/
def ruP (C y _h k : Nat) : Prop := yP 0 C y ∨ (C = 7 ∧ k = 7)
theorem CC_out {μ μ' : fM} {s : Nat} {l : List (Nat × List Nat)} (H : CC μ s l) (e : ∀ C k, C = 22 ∨ C = 23 → μ'.1 C 0 0 k = μ.1 C 0 0 k) : CC μ' s l := fun i q h => ⟨(e 22 _ (by omega)).trans (H i q h).1, fun j v hv => (e 23 _ (by omega)).trans ((H i q h).2 j v hv)⟩
theorem c_run {b : Nat → Nat} {ub N : Nat} {l0 : List (Nat × List Nat)} (Ob : OKA ub b) (hN : l0.length = N) (hN12 : N ≤ 12) (hl0 : ∀ q ∈ l0, cmdOK q) : ∀ (l : List (Nat × List Nat)) (i u : Nat) (a : Nat → Nat) (μ : fM) z2 z3 z4 z5 z6, (∀ j q, l[j]? = some q → l0[i + j]? = some q) → i + l.length = N → OKA u a → u + l.length ≤ 6200 → CC μ 0 l0 → μ.1 3 0 0 4 = nI N → YR μ 0 a → YR μ 2 b →
    (∀ f, rn l i a = .inl f → ∃ μ', fEnds (fun zz => frun eX7_runProgram tX7_runProgram zz 13 [kR 7 0 0, kN i, z2, z3, z4, z5, z6] [] μ 0 0) (.inl (some (vI (nI f.1))), μ') ∧ YR μ' 0 b ∧ μ'.1 7 0 0 7 = (if f.2 = 0 then μ.1 7 0 0 7 else nI f.2) ∧ sZ ruP μ μ') ∧
    (∀ a', rn l i a = .inr a' → ∃ μ' y2 y3 y4 y5 y6, (∀ res, fEnds (fun zz => frun eX7_runProgram tX7_runProgram zz 126 [kR 7 0 0, kN N, y2, y3, y4, y5, y6] [] μ' 0 0) res → fEnds (fun zz => frun eX7_runProgram tX7_runProgram zz 13 [kR 7 0 0, kN i, z2, z3, z4, z5, z6] [] μ 0 0) res) ∧ YR μ' 0 a' ∧ sY (yP 0) μ μ')
  | [], i, u, a, μ, z2, z3, z4, z5, z6, hsub, hi, O, hu, hM, h4, Y, Yb => by
    refine ⟨(fun f h => by cases h), fun a' h => ?_⟩
    cases h
    have hi : i = N := by simpa using hi
    subst hi
    refine ⟨μ, z2, z3, z4, z5, z6, fun res R => ?_, Y, sY_refl⟩
    refine fE_pos (by show μ.1 3 0 0 4 ≤ nI i; rw [h4]; exact nI_le (Nat.le_refl _) (by omega)) 5 (fun _ => rfl) ?_
    exact R
  | q :: r, i, u, a, μ, z2, z3, z4, z5, z6, hsub, hi, O, hu, hM, h4, Y, Yb => by
    have hi : i + (r.length + 1) = N := hi
    have hu : u + (r.length + 1) ≤ 6200 := hu
    have hq0 : l0[i]? = some q := hsub 0 q rfl
    have Q : cmdOK q := hl0 q (List.mem_of_getElem? hq0)
    have m := hM i q hq0
    rw [Nat.zero_add] at m
    have S := sp_args (a := a) (X := fun j => μ.1 23 0 0 (3 * i + j)) Q m.2
    have S1 : sp q.1 a (μ.1 23 0 0 (3 * i + 0)) (μ.1 23 0 0 (3 * i + 1)) (μ.1 23 0 0 (3 * i + 2)) = spq q a := S.1
    have k12 : q.1 < 12 := by have := Q.1; omega
    have cf := c_faultOf Y O k12 (μ.1 23 0 0 (3 * i + 0)) (μ.1 23 0 0 (3 * i + 1)) (μ.1 23 0 0 (3 * i + 2))
    rw [S1] at cf
    have n0 := c_numOf (μ := μ) (i := i) (p := 0) (by omega) (by omega)
    have n1 := c_numOf (μ := μ) (i := i) (p := 1) (by omega) (by omega)
    have n2 := c_numOf (μ := μ) (i := i) (p := 2) (by omega) (by omega)
    have ei : (nI i).toNatClampNeg = i := nI_clamp (by omega)
    have w1 : ∀ res, fEnds (fun zz => frun eX7_runProgram tX7_runProgram zz 81 [kR 7 0 0, kN i, kN q.1, kX (μ.1 23 0 0 (3 * i + 0)), kX (μ.1 23 0 0 (3 * i + 1)), kX (μ.1 23 0 0 (3 * i + 2)), kN (fN q.1 (spq q a).1)] [] μ 0 0) res → fEnds (fun zz => frun eX7_runProgram tX7_runProgram zz 13 [kR 7 0 0, kN i, z2, z3, z4, z5, z6] [] μ 0 0) res := fun res R => by
      skip
      refine fE_neg (fun P => by change μ.1 3 0 0 4 ≤ nI i at P; rw [h4] at P; have := (nI_leI (by omega) (by omega)).mp P; omega) 5 (fun _ => rfl) ?_
      refine fE_pos (by refine g_in (k := i) ?_ (show i < 12 from by omega) (show 12 < 2 ^ 31 from by decide); first | rfl | (simp (disch := omega) only [fLit, nI_add, pk_mul, pk_rem, pk_sub, nI_clamp]; done)) 5 (fun _ => rfl) ?_
      refine fE_step (y := fun zz => frun _ _ zz 34 [kR 7 0 0, kN i, kX (μ.1 22 0 0 (nI i).toNatClampNeg), z3, z4, z5, z6] [] _ 0 0) 1 (fun _ => rfl) ?_
      rw [ei, m.1]
      refine fE_call (n0) 5 (fun _ => rfl) ?_
      refine fE_call (n1) 6 (fun _ => rfl) ?_
      refine fE_call (n2) 6 (fun _ => rfl) ?_
      refine fE_call (cf) 8 (fun _ => rfl) ?_
      refine fE_step (y := fun zz => frun _ _ zz 81 [kR 7 0 0, kN i, kN q.1, kX (μ.1 23 0 0 (3 * i + 0)), kX (μ.1 23 0 0 (3 * i + 1)), kX (μ.1 23 0 0 (3 * i + 2)), kN (fN q.1 (spq q a).1)] [] _ 0 0) 1 (fun _ => rfl) ?_
      exact R
    rw [rn]
    cases hs : (spq q a).1 with
    | inl t =>
      rw [hs] at w1
      have ht := sp_fc k12 hs
      refine ⟨fun f hf => ?_, (fun a' h => by cases h)⟩
      cases hf
      by_cases c4 : fc q.1 t = 4
      · have F4 := ht.2.2.1 c4
        have k4 : q.1 = 4 := by
          obtain ⟨k, vs⟩ := q
          have hk : k < 11 := Q.1
          show k = 4
          have ct : fc k t = 4 := c4
          have hsx : (sp k a (qA (k, vs) 0) (qA (k, vs) 1) (qA (k, vs) 2)).1 = .inl t := hs
          match k, hk with
          | 0, _ => exact absurd ct (by show ¬ 3 = 4; decide)
          | 1, _ => have := sFrame_t t hsx; have ct : t = 4 := ct; subst ct; change (sFrame a _ _ _).1 = _ at hsx; unfold sFrame at hsx; (repeat' split at hsx) <;> cases hsx
          | 2, _ => have ct : (if t = 1 then 1 else 3) = 4 := ct; split at ct <;> cases ct
          | 3, _ => have ct : t = 4 := ct; subst ct; change (sCargo a _ _).1 = _ at hsx; unfold sCargo at hsx; (repeat' split at hsx) <;> cases hsx
          | 4, _ => rfl
          | 5, _ => have ct : (if t = 1 then 1 else 3) = 4 := ct; split at ct <;> cases ct
          | 6, _ => have ct : t = 4 := ct; subst ct; change (sPump a _ _).1 = _ at hsx; unfold sPump at hsx; (repeat' split at hsx) <;> cases hsx
          | 7, _ => exact absurd ct (by show ¬ 2 = 4; decide)
          | 8, _ => exact absurd ct (by show ¬ 2 = 4; decide)
          | 9, _ => have ct : (if t = 1 then 2 else 3) = 4 := ct; split at ct <;> cases ct
          | 10, _ => have ct : (if t = 1 then 5 else if t = 2 then 1 else 3) = 4 := ct; (repeat' split at ct) <;> cases ct
        have X0 : μ.1 23 0 0 (3 * i + 0) = qA q 0 := S.2 k4
        have hwf : (if q.1 = 4 then sWhy a (qA q 0) else 0) = hWhy a (xN (qA q 0)) := by rw [if_pos k4, F4.2]
        have cs := c_store4 Y O F4.1
        have Y1 : YR (fI μ 7 0 0 7 (nI (hWhy a (xN (qA q 0))))) 2 b := YR_out Yb (fun C h k hc => fI_ne (by have := hc.1; omega)) rfl
        obtain ⟨μ', s1, s2, s3⟩ := c_ybecome (y := 0) (y2 := 2) (by omega) Ob Y1
        have w0 : ¬ hWhy a (xN (qA q 0)) = 0 := fun P => by
          obtain ⟨k, vs⟩ := q
          obtain rfl : k = 4 := k4
          have hsx : (sLaunch a (qA (4, vs) 0)).1 = .inl t := hs
          unfold sLaunch at hsx
          rw [if_pos F4.1] at hsx
          split at hsx
          · cases hsx
          · cases hsx; cases c4
        refine ⟨μ', w1 _ ?_, s2, ?_, sZ_trans (sZ_fI (Or.inr ⟨rfl, rfl⟩)) (sZ_ofY s3 (fun C y h k P => Or.inl P))⟩
        · show fEnds (fun zz => frun eX7_runProgram tX7_runProgram zz 81 [kR 7 0 0, kN i, kN q.1, kX (μ.1 23 0 0 (3 * i + 0)), kX (μ.1 23 0 0 (3 * i + 1)), kX (μ.1 23 0 0 (3 * i + 2)), kN (fc q.1 t)] [] μ 0 0) _
          rw [c4, X0]
          refine fE_call (cs) 6 (fun _ => rfl) ?_
          refine fE_call (s1) 5 (fun _ => rfl) ?_
          exact fE_ret 2 (fun _ => rfl)
        · rw [s3.1 7 0 0 7 (fun P => by have := P.1; omega), fI_at, hwf, if_neg w0]
      · have w0 : (if q.1 = 4 then sWhy a (qA q 0) else 0) = 0 := by
          split
          · rename_i k4
            exact ht.2.2.2.1 c4 k4
          · rfl
        obtain ⟨μ', s1, s2, s3⟩ := c_ybecome (y := 0) (y2 := 2) (by omega) Ob Yb
        refine ⟨μ', w1 _ ?_, s2, ?_, sZ_ofY s3 (fun C y h k P => Or.inl P)⟩
        · show fEnds (fun zz => frun eX7_runProgram tX7_runProgram zz 81 [kR 7 0 0, kN i, kN q.1, kX (μ.1 23 0 0 (3 * i + 0)), kX (μ.1 23 0 0 (3 * i + 1)), kX (μ.1 23 0 0 (3 * i + 2)), kN (fc q.1 t)] [] μ 0 0) _
          refine fE_neg (fun P => by have := (nI_eq (b := 0) (by omega) (by omega)).mp P; omega) 2 (fun _ => rfl) ?_
          refine fE_call (c_store0 (by omega) c4) 4 (fun _ => rfl) ?_
          refine fE_call (s1) 5 (fun _ => rfl) ?_
          exact fE_ret 2 (fun _ => rfl)
        · rw [s3.1 7 0 0 7 (fun P => by have := P.1; omega)]
          show _ = (if (if q.1 = 4 then sWhy a (qA q 0) else 0) = 0 then μ.1 7 0 0 7 else _)
          rw [if_pos w0]
    | inr v =>
      rw [hs] at w1
      have cp := c_perform Y O (by omega) k12 (μ.1 23 0 0 (3 * i + 0)) (μ.1 23 0 0 (3 * i + 1)) (μ.1 23 0 0 (3 * i + 2)) v (by rw [S1]; exact hs)
      rw [S1] at cp
      obtain ⟨μ1, p1, p2, p3⟩ := cp
      have O1 : OKA (u + 1) (spq q a).2 := sp_ok O (by omega) k12
      have ih := c_run Ob hN hN12 hl0 r (i + 1) (u + 1) (spq q a).2 μ1 (some (vI (nI q.1))) (some (vI (μ.1 23 0 0 (3 * i + 0)))) (some (vI (μ.1 23 0 0 (3 * i + 1)))) (some (vI (μ.1 23 0 0 (3 * i + 2)))) (some (vI (nI 0))) (fun j q' h => by
        have := hsub (j + 1) q' (by simpa using h)
        rwa [show i + (j + 1) = i + 1 + j from by omega] at this) (by omega) O1 (by omega) (CC_out hM (fun C k hc => p3.1 C 0 0 k (fun P => by have := P.1; omega))) ((p3.1 3 0 0 4 (fun P => by have := P.1; omega)).trans h4) p2 (YR_sY Yb p3 (fun c hc P => by have := P.2; omega))
      have walk : ∀ res, fEnds (fun zz => frun eX7_runProgram tX7_runProgram zz 13 [kR 7 0 0, kN (i + 1), some (vI (nI q.1)), some (vI (μ.1 23 0 0 (3 * i + 0))), some (vI (μ.1 23 0 0 (3 * i + 1))), some (vI (μ.1 23 0 0 (3 * i + 2))), some (vI (nI 0))] [] μ1 0 0) res → fEnds (fun zz => frun eX7_runProgram tX7_runProgram zz 13 [kR 7 0 0, kN i, z2, z3, z4, z5, z6] [] μ 0 0) res := fun res R => w1 res (by
        show fEnds (fun zz => frun eX7_runProgram tX7_runProgram zz 81 [kR 7 0 0, kN i, kN q.1, kX (μ.1 23 0 0 (3 * i + 0)), kX (μ.1 23 0 0 (3 * i + 1)), kX (μ.1 23 0 0 (3 * i + 2)), kN 0] [] μ 0 0) _
        refine fE_call (p1) 9 (fun _ => rfl) ?_
        refine fE_step (y := fun zz => frun _ _ zz 13 [kR 7 0 0, kX (nI i + 1), kN q.1, kX (μ.1 23 0 0 (3 * i + 0)), kX (μ.1 23 0 0 (3 * i + 1)), kX (μ.1 23 0 0 (3 * i + 2)), kN 0] [] _ 0 0) 3 (fun _ => rfl) ?_
        rw [nI_1]
        exact R
        )
      refine ⟨fun f hf => ?_, fun a' h => ?_⟩
      · obtain ⟨μ', t1, t2, t3, t4⟩ := ih.1 f hf
        refine ⟨μ', walk _ t1, t2, ?_, sZ_trans (sZ_ofY p3 (fun C y h k P => Or.inl P)) t4⟩
        rw [t3, p3.1 7 0 0 7 (fun P => by have := P.1; omega)]
      · obtain ⟨μ', y2, y3, y4, y5, y6, t1, t2, t3⟩ := ih.2 a' h
        exact ⟨μ', y2, y3, y4, y5, y6, fun res R => walk res (t1 res R), t2, sY_trans p3 t3⟩
/-- what the class's execute may change -/
def kxP (C y _h k : Nat) : Prop := C = 3 ∨ C = 22 ∨ C = 23 ∨ C = 0 ∨ (yP y C y ∧ ¬ y = 1) ∨ (C = 7 ∧ (k = 7 ∨ k = 8 ∨ k = 9))
theorem pR_kx {C y h k : Nat} (p : pR 0 C y h k) : kxP C y h k := by
  rcases p with p | p | p
  · exact Or.inl p.1
  · exact Or.inr (Or.inl p.1)
  · exact Or.inr (Or.inr (Or.inl p.1))
theorem ru_kx {C y h k : Nat} (p : ruP C y h k) : kxP C y h k := by
  rcases p with p | p
  · have e := p.2
    subst e
    exact Or.inr (Or.inr (Or.inr (Or.inr (Or.inl ⟨p, by omega⟩))))
  · exact Or.inr (Or.inr (Or.inr (Or.inr (Or.inr ⟨p.1, by omega⟩))))
theorem y0_kx {C y h k : Nat} (p : yP 0 C y) : kxP C y h k := ru_kx (Or.inl p)
theorem y2_kx {C y h k : Nat} (p : yP 2 C y) : kxP C y h k := by
  have e := p.2
  subst e
  exact Or.inr (Or.inr (Or.inr (Or.inr (Or.inl ⟨p, by omega⟩))))
theorem kp_kx {C y h k : Nat} (p : kpP C y) : kxP C y h k := by
  rcases p with p | p
  · exact Or.inr (Or.inr (Or.inr (Or.inl p)))
  · exact Or.inr (Or.inr (Or.inr (Or.inr (Or.inl ⟨p.2, by have := p.1; omega⟩))))
theorem k_execute {μ : fM} {u n : Nat} {a tx : Nat → Nat} {hl : List (Nat → Nat)} (Y : YR μ 0 a) (O : OKA u a) (H : HR μ hl) (hu : u + 12 ≤ 6200) (T : CT μ tx n) :
    (∀ e, pP tx n 12 0 = .inl e → ∃ μ', sX7_execute [vR 7 0 0] μ = some (.inr 1, μ') ∧ YR μ' 0 a ∧ HR μ' hl ∧ μ'.1 7 0 0 7 = μ.1 7 0 0 7 ∧ μ'.1 7 0 0 8 = nI e ∧ μ'.1 7 0 0 9 = μ.1 7 0 0 9 ∧ μ'.1 3 0 0 1 = nI 0 ∧ sZ kxP μ μ') ∧
    (∀ l, pP tx n 12 0 = .inr l → (∀ f, rn l 0 a = .inl f → ∃ μ', sX7_execute [vR 7 0 0] μ = some (.inr 2, μ') ∧ YR μ' 0 a ∧ HR μ' hl ∧ μ'.1 7 0 0 7 = (if f.2 = 0 then μ.1 7 0 0 7 else nI f.2) ∧ μ'.1 7 0 0 8 = μ.1 7 0 0 8 ∧ μ'.1 7 0 0 9 = nI f.1 ∧ μ'.1 3 0 0 1 = nI 0 ∧ sZ kxP μ μ') ∧
      (∀ a', rn l 0 a = .inr a' → ∃ μ', sX7_execute [vR 7 0 0] μ = some (.inl (some (vI (nI l.length))), μ') ∧ YR μ' 0 a' ∧ HR μ' (kp hl a) ∧ μ'.1 7 0 0 7 = μ.1 7 0 0 7 ∧ μ'.1 7 0 0 8 = μ.1 7 0 0 8 ∧ μ'.1 7 0 0 9 = μ.1 7 0 0 9 ∧ μ'.1 3 0 0 1 = nI 0 ∧ sZ kxP μ μ')) := by
  obtain ⟨ν, r1, r2, r3, r4⟩ := c_read T
  have f0 : sX' (fun C _ _ _ => C = 3 ∨ C = 22 ∨ C = 23) μ (fI ν 3 0 0 1 0) := sX_trans (sX_mono r4 (fun C y h k p => by rcases p with p | p | p; exact Or.inl p.1; exact Or.inr (Or.inl p.1); exact Or.inr (Or.inr p.1))) (sX_fI (Or.inl rfl))
  have g0 : sY (fun C _ => C = 3 ∨ C = 22 ∨ C = 23) μ (fI ν 3 0 0 1 0) := sY_ofX f0 (fun C y h k p => p)
  have z0 : sZ kxP μ (fI ν 3 0 0 1 0) := sZ_ofX f0 (fun C y h k p => by rcases p with p | p | p; exact Or.inl p; exact Or.inr (Or.inl p); exact Or.inr (Or.inr (Or.inl p)))
  have Y0 : YR (fI ν 3 0 0 1 0) 0 a := YR_sY Y g0 (fun c hc p => by have := hc.1; omega)
  have H0 : HR (fI ν 3 0 0 1 0) hl := HR_sY H g0 (fun p => by omega) (fun c y _ hc p => by have := hc.1; omega)
  have out : ∀ k, (fI ν 3 0 0 1 0).1 7 0 0 k = μ.1 7 0 0 k := fun k => f0.1 7 0 0 k (fun p => by omega)
  have len0 : (fI ν 3 0 0 1 0).1 3 0 0 1 = nI 0 := fI_at
  refine ⟨fun e he => ?_, fun l hl' => ?_⟩
  · rw [he] at r1
    have E := r2 e he
    have e5 : (fI ν 3 0 0 1 0).1 3 0 0 5 = nI e := (fI_ne (by omega)).trans E
    refine ⟨fI (fI ν 3 0 0 1 0) 7 0 0 8 (nI e), fsemV_of (Nat.le_of_ble_eq_true rfl) ?_, YR_out Y0 (fun C h k hc => fI_ne (by have := hc.1; omega)) rfl, HR_sY H0 (sY_fI (P := fun C _ => C = 7) rfl) (fun p => by omega) (fun c y _ hc p => by have := hc.1; omega), (fI_ne (by omega)).trans (out 7), fI_at, (fI_ne (by omega)).trans (out 9), (fI_ne (by omega)).trans len0, sZ_trans z0 (sZ_fI (Or.inr (Or.inr (Or.inr (Or.inr (Or.inr ⟨rfl, by omega⟩))))))⟩
    have r1 : sX3_read [vR 3 0 0] μ = some (.inl (some (vI 0)), ν) := r1
    revert e5
    intro e5
    refine fE_call (r1) 3 (fun _ => rfl) ?_
    refine fE_step (y := fun zz => frun _ _ zz 16 [kR 7 0 0, kX 0, none] [] (fI ν 3 0 0 1 0) 0 0) 5 (fun _ => rfl) ?_
    refine fE_step (y := fun zz => frun _ _ zz 31 [kR 7 0 0, kX 0, none] [] (fI (fI ν 3 0 0 1 0) 7 0 0 8 ((fI ν 3 0 0 1 0).1 3 0 0 5)) 0 0) 7 (fun _ => rfl) ?_
    rw [e5]
    exact fE_ret 1 (fun _ => rfl)
  · rw [hl'] at r1
    have r1 : sX3_read [vR 3 0 0] μ = some (.inl (some (vI 1)), ν) := r1
    have E := r3 l hl'
    have A := pP_all (Nat.zero_le n) hl'
    have M0 : CC (fI ν 3 0 0 1 0) 0 l := CC_out E.2.2 (fun C k hc => fI_ne (by omega))
    have e4 : (fI ν 3 0 0 1 0).1 3 0 0 4 = nI l.length := (fI_ne (by omega)).trans E.1
    have wA : ∀ res, fEnds (fun zz => frun eX7_execute tX7_execute zz 42 [kR 7 0 0, kX 1, none] [] (fI ν 3 0 0 1 0) 0 0) res → fEnds (fun zz => frun eX7_execute tX7_execute zz 0 [kR 7 0 0, none, none] [] μ 0 0) res := fun res R => by
      skip
      refine fE_call (r1) 3 (fun _ => rfl) ?_
      refine fE_step (y := fun zz => frun _ _ zz 16 [kR 7 0 0, kX 1, none] [] (fI ν 3 0 0 1 0) 0 0) 5 (fun _ => rfl) ?_
      refine fE_step (y := fun zz => frun _ _ zz 42 [kR 7 0 0, kX 1, none] [] _ 0 0) 2 (fun _ => rfl) ?_
      exact R
    clear f0
    revert z0 Y0 H0 out len0 M0 e4 wA g0
    generalize fI ν 3 0 0 1 0 = ν0
    intro g0 z0 Y0 H0 out len0 M0 e4 wA
    obtain ⟨ν1, b1, b2, b3⟩ := c_ybecome (y := 2) (y2 := 0) (by omega) O Y0
    have Y1 : YR ν1 0 a := YR_sY Y0 b3 (fun c hc p => by have := p.2; omega)
    have H1 : HR ν1 hl := HR_sY H0 b3 (fun p => by have := p.2; omega) (fun c y h3 hc p => by have := p.2; omega)
    have M1 : CC ν1 0 l := CC_out M0 (fun C k hc => b3.1 C 0 0 k (fun p => by have := p.2; omega))
    have e41 : ν1.1 3 0 0 4 = nI l.length := (b3.1 3 0 0 4 (fun p => by have := p.2; omega)).trans e4
    have z1 : sZ kxP ν0 ν1 := sZ_ofY b3 (fun C y h k p => y2_kx p)
    have o1 : ∀ C k, C = 3 ∨ C = 7 → ν1.1 C 0 0 k = ν0.1 C 0 0 k := fun C k hc => b3.1 C 0 0 k (fun p => by have := p.2; omega)
    have G := c_run (b := a) (N := l.length) (l0 := l) O rfl A.2 A.1 l 0 u a ν1 none none none none none (fun j q h => by rwa [Nat.zero_add]) (Nat.zero_add _) O (by have := A.2; omega) M1 e41 Y1 b2
    refine ⟨fun f hf => ?_, fun a' ha => ?_⟩
    · obtain ⟨μ', x1, x2, x3, x4⟩ := G.1 f hf
      have F := (rn_ok (i := 0) O A.1 (by have := A.2; omega)).2 f hf
      have rp : sX7_runProgram [vR 7 0 0] ν0 = some (.inl (some (vI (nI f.1))), μ') := by
        refine fsemV_of (Nat.le_of_ble_eq_true rfl) ?_
        refine fE_call (b1) 5 (fun _ => rfl) ?_
        refine fE_step (y := fun zz => frun _ _ zz 13 [kR 7 0 0, kN 0, none, none, none, none, none] [] _ 0 0) 2 (fun _ => rfl) ?_
        exact x1
      have ruY : ∀ y b', y ≠ 0 → YR ν1 y b' → YR μ' y b' := fun y b' hy Y' => YR_out Y' (fun C h k hc => x4.1 C y h k (fun p => by rcases p with p | p; exact hy p.2; have := hc.1; omega)) (x4.2.1 6 y 0 6 (fun p => by rcases p with p | p; exact hy p.2; omega))
      have H2 : HR μ' hl := by
        obtain ⟨o, ho, hl8, k1, k2, hP⟩ := H1
        exact ⟨o, ho, hl8, (x4.1 0 0 0 1 (fun p => by rcases p with p | p; have := p.1; omega; omega)).trans k1, (x4.1 0 0 0 2 (fun p => by rcases p with p | p; have := p.1; omega; omega)).trans k2, fun i b hi => ruY _ _ (by omega) (hP i b hi)⟩
      refine ⟨fI μ' 7 0 0 9 (nI f.1), fsemV_of (Nat.le_of_ble_eq_true rfl) (wA _ ?_), YR_out x2 (fun C h k hc => fI_ne (by have := hc.1; omega)) rfl, HR_sY H2 (sY_fI (P := fun C _ => C = 7) rfl) (fun p => by omega) (fun c y _ hc p => by have := hc.1; omega), ?_, ?_, fI_at, ?_, sZ_trans z0 (sZ_trans z1 (sZ_trans (sZ_mono x4 (fun C y h k p => ru_kx p)) (sZ_fI (Or.inr (Or.inr (Or.inr (Or.inr (Or.inr ⟨rfl, by omega⟩))))))))⟩
      · skip
        refine fE_call (rp) 2 (fun _ => rfl) ?_
        refine fE_neg (fun P => absurd P (Int32.not_lt.mpr (nI_le (a := 0) (by omega) (by omega)))) 3 (fun _ => rfl) ?_
        exact fE_ret 4 (fun _ => rfl)
      · rw [fI_ne (by omega), x3, o1 7 7 (by omega), out 7]
      · rw [fI_ne (by omega), x4.1 7 0 0 8 (fun p => by rcases p with p | p; have := p.1; omega; omega), o1 7 8 (by omega), out 8]
      · rw [fI_ne (by omega), x4.1 3 0 0 1 (fun p => by rcases p with p | p; have := p.1; omega; omega), o1 3 1 (by omega), len0]
    · obtain ⟨μ', y2, y3, y4, y5, y6, x1, x2, x3⟩ := G.2 a' ha
      have b22 : YR μ' 2 a := YR_sY b2 x3 (fun c hc p => by have := p.2; omega)
      have H2 : HR μ' hl := HR_sY H1 x3 (fun p => by have := p.1; omega) (fun c y h3 hc p => by have := p.2; omega)
      obtain ⟨μ2, k1, k2, k3⟩ := c_keep (y := 2) (by omega) O b22 H2
      have rp : sX7_runProgram [vR 7 0 0] ν0 = some (.inl (some (vI (-1))), μ2) := by
        refine fsemV_of (Nat.le_of_ble_eq_true rfl) ?_
        have R := x1 (.inl (some (vI (-1))), μ2) (by
          skip
          refine fE_call (k1) 5 (fun _ => rfl) ?_
          exact fE_ret 2 (fun _ => rfl)
          )
        refine fE_call (b1) 5 (fun _ => rfl) ?_
        refine fE_step (y := fun zz => frun _ _ zz 13 [kR 7 0 0, kN 0, none, none, none, none, none] [] _ 0 0) 2 (fun _ => rfl) ?_
        exact R
      have kk : ∀ C k, C = 3 ∨ C = 7 → μ2.1 C 0 0 k = ν0.1 C 0 0 k := fun C k hc => ((k3.1 C 0 0 k (fun p => by rcases p with p | p <;> omega)).trans (x3.1 C 0 0 k (fun p => by have := p.1; omega))).trans (o1 C k hc)
      refine ⟨μ2, fsemV_of (Nat.le_of_ble_eq_true rfl) (wA _ ?_), YR_sY x2 k3 (fun c hc p => by have p1 := hc.1; rcases p with p | p <;> omega), k2, (kk 7 7 (by omega)).trans (out 7), (kk 7 8 (by omega)).trans (out 8), (kk 7 9 (by omega)).trans (out 9), (kk 3 1 (by omega)).trans len0, sZ_trans z0 (sZ_trans z1 (sZ_trans (sZ_ofY x3 (fun C y h k p => y0_kx p)) (sZ_ofY k3 (fun C y h k p => kp_kx p))))⟩
      have e42 : μ2.1 3 0 0 4 = nI l.length := (kk 3 4 (by omega)).trans e4
      refine fE_call (rp) 2 (fun _ => rfl) ?_
      refine fE_ret2 7 (fun _ => rfl) ?_
      show (Sum.inl (some (vI (μ2.1 3 0 0 4))), μ2) = _
      rw [e42]
