theorem g_bw_1 {ν : fM} {tx : Nat → Nat} {n : Nat} {q : Nat × Bool} {to : Int32} {res : fR} (H : MQt ν tx n q) : ∀ j k w, k + j = 11 → w < 11 → fEnds (fun zz => frun eX8_readCommand tX8_readCommand zz 42 [kR 8 0 0, kX to, kN (bW (fun k => lkL tx n (wd k) q.1) w k j), kN 11] [] ν 0 0) res → fEnds (fun zz => frun eX8_readCommand tX8_readCommand zz 11 [kR 8 0 0, kX to, kN w, kN k] [] ν 0 0) res
  | 0, k, w, e, hw, R => by
    obtain rfl : k = 11 := e
    refine fE_step (y := fun zz => frun _ _ zz 42 [kR 8 0 0, kX to, kN w, kN 11] [] _ 0 0) 3 (fun _ => rfl) ?_
    exact R
  | j + 1, k, w, e, hw, R => by
    have hn := H.1.1
    have b1 := (lkL_le (tx := tx) (n := n) (L := wd k) (p := q.1)).2 H.2.2.2
    have b2 := (lkL_le (tx := tx) (n := n) (L := wd w) (p := q.1)).2 H.2.2.2
    rw [bW] at R
    refine fE_neg (by first | omega | (simp (disch := omega) only [fLit, nI_add, pk_mul, pk_rem, nI_clamp, beq01, beq11, cond_false, cond_true, nI_leI, nI_ltI, nI_eq]; done) | (simp (disch := omega) only [fLit, nI_add, pk_mul, pk_rem, nI_clamp, beq01, beq11, cond_false, cond_true, nI_leI, nI_ltI, nI_eq]; omega)) 3 (fun _ => rfl) ?_
    refine fE_call (g_likeness (k := k) (by omega) H) 3 (fun _ => rfl) ?_
    refine fE_call (g_likeness (k := w) hw H) 3 (fun _ => rfl) ?_
    refine fE_ite 1 (fun _ => rfl) (fun a => ?_) (fun a => ?_)
    · skip
      have a := (nI_leI (by omega) (by omega)).mp a
      refine fE_step (y := fun zz => frun _ _ zz 11 [kR 8 0 0, kX to, kN w, kX (nI k + 1)] [] _ 0 0) 4 (fun _ => rfl) ?_
      rw [nI_1]
      refine g_bw_1 H j (k + 1) w (by omega) hw ?_
      rw [if_neg (by omega)] at R
      exact R
    · skip
      have a : lkL tx n (wd w) q.1 < lkL tx n (wd k) q.1 := Nat.not_le.mp fun P => a (nI_le P (by omega))
      refine fE_step (y := fun zz => frun _ _ zz 11 [kR 8 0 0, kX to, kN k, kX (nI k + 1)] [] _ 0 0) 5 (fun _ => rfl) ?_
      rw [nI_1]
      refine g_bw_1 H j (k + 1) k (by omega) (by omega) ?_
      rw [if_pos a] at R
      exact R
theorem pM_ba {μ : fM} {p : Nat} {w : Bool} : fI (fI μ 8 0 0 21 (nI p)) 8 0 0 23 (bI (w = true)) = pM μ (p, w) := by
  refine Prod.ext ?_ rfl
  funext c y h k
  show (if c = 8 ∧ k = 23 ∧ y = 0 ∧ h = 0 then bI (w = true) else (if c = 8 ∧ k = 21 ∧ y = 0 ∧ h = 0 then nI p else μ.1 c y h k)) = (if c = 8 ∧ k = 21 ∧ y = 0 ∧ h = 0 then nI p else (if c = 8 ∧ k = 23 ∧ y = 0 ∧ h = 0 then bI (w = true) else μ.1 c y h k))
  by_cases e : c = 8 ∧ k = 23 ∧ y = 0 ∧ h = 0
  · rw [if_pos e, if_neg (by omega), if_pos e]
  · rw [if_neg e]
    split <;> rfl
theorem MQt_20 {μ : fM} {tx : Nat → Nat} {n : Nat} {v : Int32} {q : Nat × Bool} (H : MQt μ tx n q) : MQt (fI μ 8 0 0 20 v) tx n q := ⟨MT_out H.1 (fI_ne (by omega)) (fun c k hc => fI_ne (by omega)), (fI_ne (by omega)).trans H.2.1, (fI_ne (by omega)).trans H.2.2.1, H.2.2.2⟩
/-- what reading a command may change -/
def rcP (c : Nat) (C _y _h k : Nat) : Prop := (C = 8 ∧ (k = 20 ∨ k = 21 ∨ k = 23)) ∨ (C = 39 ∧ 4 * c ≤ k)
theorem g_readCommand {ν : fM} {tx : Nat → Nat} {n p c : Nat} (H : MQt ν tx n (p, false)) (h20 : ν.1 8 0 0 20 = nI c) (hc : c ≤ 12) : ∃ ν', sX8_readCommand [vR 8 0 0] ν = some (.inl none, ν') ∧ MQt ν' tx n ((cR tx n p 11 0 p).1, (cR tx n p 11 0 p).2.isNone) ∧ (∀ qq, (cR tx n p 11 0 p).2 = some qq → ν'.1 8 0 0 20 = nI (c + 1) ∧ ν'.1 39 0 0 (4 * c) = nI qq.1 ∧ ∀ i v, qq.2[i]? = some v → ν'.1 39 0 0 (4 * c + 1 + i) = nI v) ∧ sX' (rcP c) ν ν' := by
  have hn := H.1.1
  have hp : p ≤ n := H.2.2.2
  have h21 : ν.1 8 0 0 21 = nI p := H.2.1
  have W := bW_ok (f := fun k => lkL tx n (wd k) p) (B := 11) (j := 10) (k := 1) (w := 0) (by omega) (by omega)
  have R0 : ∀ res, fEnds (fun zz => frun eX8_readCommand tX8_readCommand zz 42 [kR 8 0 0, kN (4 * c), kN (bW (fun k => lkL tx n (wd k) p) 0 1 10), kN 11] [] ν 0 0) res → fEnds (fun zz => frun eX8_readCommand tX8_readCommand zz 0 [kR 8 0 0, none, none, none] [] ν 0 0) res := fun res R => by
    have R := g_bw_1 (to := nI (4 * c)) H 10 1 0 rfl (by omega) R
    skip
    refine fE_step (y := fun zz => frun _ _ zz 11 [kR 8 0 0, kX (nI 4 * ν.1 8 0 0 20), kN 0, kN 1] [] _ 0 0) 9 (fun _ => rfl) ?_
    rw [h20, pk_mul]
    exact R
  generalize bW (fun k => lkL tx n (wd k) p) 0 1 10 = w at W R0
  obtain ⟨W0, W1, hw⟩ := W
  have hb : ∀ k, k < 11 → lkL tx n (wd k) p ≤ lkL tx n (wd w) p := fun k hk => by
    by_cases e : k = 0
    · subst e; exact W0
    · exact W1 k (by omega) (by omega)
  have C := cR_eq hw hb hp
  have B := bg_ok w hw
  have ll := (lkL_le (tx := tx) (n := n) (L := wd w) (p := p))
  have ll2 := ll.2 hp
  have m1 : (fI ν 8 0 0 21 (nI (p + lkL tx n (wd w) p))).1 38 0 0 w = nI (bgL.getD w 0) := (fI_ne (by omega)).trans (H.1.2.2.2.1 w (by omega))
  have m2 : (fI ν 8 0 0 21 (nI (p + lkL tx n (wd w) p))).1 38 0 0 (w + 1) = nI (bgL.getD (w + 1) 0) := (fI_ne (by omega)).trans (H.1.2.2.2.1 (w + 1) (by omega))
  have R1 : ∀ b : Bool, (b = decide (¬ lkL tx n (wd w) p = (wd w).length)) → ∀ res, fEnds (fun zz => frun eX8_readCommand tX8_readCommand zz 86 [kR 8 0 0, kN (4 * c), kN w, kN (lkL tx n (wd w) p)] [] (pM ν (p + lkL tx n (wd w) p, b)) 0 0) res → fEnds (fun zz => frun eX8_readCommand tX8_readCommand zz 0 [kR 8 0 0, none, none, none] [] ν 0 0) res := fun b hb res R => R0 res (by
    skip
    refine fE_call (g_likeness (k := w) hw H) 3 (fun _ => rfl) ?_
    refine fE_step (y := fun zz => frun _ _ zz 58 [kR 8 0 0, kN (4 * c), kN w, kN (lkL tx n (wd w) p)] [] (fI ν 8 0 0 21 (ν.1 8 0 0 21 + nI (lkL tx n (wd w) p))) 0 0) 7 (fun _ => rfl) ?_
    rw [h21, nI_add]
    refine fE_pos (by refine g_in (k := w + 1) ?_ (show w + 1 < 12 from by omega) (show 12 < 2 ^ 31 from by decide); first | rfl | (simp (disch := omega) only [fLit, nI_add, pk_mul, pk_rem, pk_sub, nI_clamp]; done)) 8 (fun _ => rfl) ?_
    refine fE_pos (by refine g_in (k := w) ?_ (show w < 12 from by omega) (show 12 < 2 ^ 31 from by decide); first | rfl | (simp (disch := omega) only [fLit, nI_add, pk_mul, pk_rem, pk_sub, nI_clamp]; done)) 4 (fun _ => rfl) ?_
    refine fE_ite 2 (fun _ => rfl) (fun z => ?_) (fun z => ?_)
    · skip
      change (fI ν 8 0 0 21 (nI (p + lkL tx n (wd w) p))).1 38 0 0 (nI w + 1).toNatClampNeg - (fI ν 8 0 0 21 (nI (p + lkL tx n (wd w) p))).1 38 0 0 (nI w).toNatClampNeg ≤ nI (lkL tx n (wd w) p) at z
      rw [nI_1, nI_clamp (show w + 1 < 2 ^ 31 by omega), nI_clamp (show w < 2 ^ 31 by omega), m1, m2, pk_sub (by omega)] at z
      have z := (nI_leI (by omega) (by omega)).mp z
      have hb : b = false := by rw [hb, decide_eq_false (by omega)]
      subst hb
      refine fE_step (y := fun zz => frun _ _ zz 86 [kR 8 0 0, kN (4 * c), kN w, kN (lkL tx n (wd w) p)] [] (fI (fI ν 8 0 0 21 (nI (p + lkL tx n (wd w) p))) 8 0 0 23 (bI (false = true))) 0 0) 2 (fun _ => rfl) ?_
      rw [pM_ba]
      exact R
    · skip
      change ¬ (fI ν 8 0 0 21 (nI (p + lkL tx n (wd w) p))).1 38 0 0 (nI w + 1).toNatClampNeg - (fI ν 8 0 0 21 (nI (p + lkL tx n (wd w) p))).1 38 0 0 (nI w).toNatClampNeg ≤ nI (lkL tx n (wd w) p) at z
      rw [nI_1, nI_clamp (show w + 1 < 2 ^ 31 by omega), nI_clamp (show w < 2 ^ 31 by omega), m1, m2, pk_sub (by omega)] at z
      have z : ¬ lkL tx n (wd w) p = (wd w).length := fun P => z (nI_le (by omega) (by omega))
      have hb : b = true := by rw [hb, decide_eq_true z]
      subst hb
      refine fE_step (y := fun zz => frun _ _ zz 86 [kR 8 0 0, kN (4 * c), kN w, kN (lkL tx n (wd w) p)] [] (fI (fI ν 8 0 0 21 (nI (p + lkL tx n (wd w) p))) 8 0 0 23 (bI (true = true))) 0 0) 3 (fun _ => rfl) ?_
      rw [pM_ba]
      exact R
    )
  have Q : ∀ b : Bool, MQt (pM ν (p + lkL tx n (wd w) p, b)) tx n (p + lkL tx n (wd w) p, b) := fun b => MQt_pM H.1 ll2
  by_cases full : lkL tx n (wd w) p = (wd w).length
  · rw [if_pos full] at C
    have Qf := Q false
    have R2 := R1 false (by rw [decide_eq_false (fun P => P full)])
    rw [full] at Qf R2 ll2
    have Q3 : MQt (fI (fI (pM ν (p + (wd w).length, false)) 39 0 0 (4 * c) (nI w)) 8 0 0 20 (nI (c + 1))) tx n (p + (wd w).length, false) := MQt_20 (MQt_39 Qf)
    obtain ⟨ν', r1, r2, r3, r4⟩ := g_ra (to := 4 * c + 1) Q3 hw (by omega)
    rw [show nI (4 * c + 1) = nI (4 * c) + 1 from (nI_1 _).symm] at r1
    have e0 : (nI (4 * c)).toNatClampNeg = 4 * c := nI_clamp (by omega)
    have rd : (fI (pM ν (p + (wd w).length, false)) 39 0 0 (4 * c) (nI w)).1 8 0 0 20 = nI c := by
      rw [fI_ne (by omega), pM, fI_ne (by omega), fI_ne (by omega), h20]
    have e1 : (cR tx n p 11 0 p).1 = (fmR tx n (ag w) (p + (wd w).length)).1 := congrArg Prod.fst C
    have e2 : (cR tx n p 11 0 p).2 = (fmR tx n (ag w) (p + (wd w).length)).2.map (fun vs => (w, vs)) := congrArg Prod.snd C
    refine ⟨ν', fsemV_of (Nat.le_of_ble_eq_true rfl) (R2 _ ?_), ?_, fun qq hq => ?_, sX_trans (sX_trans (sX_trans (sX_mono pM_out (fun C' y h k P => Or.inl ⟨P.1, by have := P.2; omega⟩)) (sX_fI (Or.inr ⟨rfl, Nat.le_refl _⟩))) (sX_fI (Or.inl ⟨rfl, Or.inl rfl⟩))) (sX_mono r4 (fun C' y h k P => by rcases P with P | P; exact Or.inl ⟨P.1, by omega⟩; exact Or.inr ⟨P.1, by omega⟩))⟩
    · skip
      refine fE_pos (by refine g_in (k := 4 * c) ?_ (show 4 * c < 244 from by omega) (show 244 < 2 ^ 31 from by decide); first | rfl | (simp (disch := omega) only [fLit, nI_add, pk_mul, pk_rem, pk_sub, nI_clamp]; done)) 8 (fun _ => rfl) ?_
      refine fE_step (y := fun zz => frun _ _ zz 110 [kR 8 0 0, kN (4 * c), kN w, kN (wd w).length] [] (fI (fI (pM ν (p + (wd w).length, false)) 39 0 0 (nI (4 * c)).toNatClampNeg (nI w)) 8 0 0 20 ((fI (pM ν (p + (wd w).length, false)) 39 0 0 (nI (4 * c)).toNatClampNeg (nI w)).1 8 0 0 20 + 1)) 0 0) 6 (fun _ => rfl) ?_
      rw [e0, rd, nI_1]
      refine fE_call (r1) 6 (fun _ => rfl) ?_
      exact fE_ret 1 (fun _ => rfl)
    · rw [e1, e2, Option.isNone_map]
      exact r2
    · rw [e2] at hq
      obtain ⟨vs, hv, rfl⟩ := Option.map_eq_some_iff.mp hq
      refine ⟨(r4.1 8 0 0 20 (fun P => by rcases P with P | P <;> omega)).trans fI_at, (r4.1 39 0 0 (4 * c) (fun P => by rcases P with P | P <;> omega)).trans ((fI_ne (by omega)).trans fI_at), fun i v hi => r3 vs hv i v hi⟩
  · rw [if_neg full] at C
    have Qf := Q true
    have R2 := R1 true (by rw [decide_eq_true full])
    have e1 : (cR tx n p 11 0 p).1 = p + lkL tx n (wd w) p := congrArg Prod.fst C
    have e2 : (cR tx n p 11 0 p).2 = none := congrArg Prod.snd C
    refine ⟨pM ν (p + lkL tx n (wd w) p, true), fsemV_of (Nat.le_of_ble_eq_true rfl) (R2 _ ?_), ?_, (fun qq hq => by rw [e2] at hq; cases hq), sX_mono pM_out (fun C' y h k P => Or.inl ⟨P.1, by have := P.2; omega⟩)⟩
    · have h3 : (pM ν (p + lkL tx n (wd w) p, true)).1 8 0 0 23 = 1 := Qf.2.2.1
      revert h3
      generalize pM ν (p + lkL tx n (wd w) p, true) = ν2
      intro h3
      refine fE_neg (fun P => by change ν2.1 8 0 0 23 = 0 at P; rw [h3] at P; exact absurd P (by decide)) 3 (fun _ => rfl) ?_
      exact fE_ret 1 (fun _ => rfl)
    · rw [e1, e2]
      exact Qf
/-- the commands that the model holds from the place s on -/
def MCC (μ : fM) (s : Nat) (l : List (Nat × List Nat)) : Prop := ∀ i q, l[i]? = some q → μ.1 39 0 0 (4 * (s + i)) = nI q.1 ∧ ∀ j v, q.2[j]? = some v → μ.1 39 0 0 (4 * (s + i) + 1 + j) = nI v
theorem cR_end {tx : Nat → Nat} {n : Nat} : cR tx n n 11 0 n = (n, none) := by
  have K := cR_ok (tx := tx) (n := n) (p := n) (Nat.le_refl _) (j := 11) (k := 0) (e := n) (by omega) (Nat.le_refl _) (Nat.le_refl _)
  cases h : (cR tx n n 11 0 n).2 with
  | none => exact Prod.ext (by show (cR tx n n 11 0 n).1 = n; omega) h
  | some q => have := (K.2.2 q h).1; omega
theorem g_exl {tx : Nat → Nat} {n : Nat} : ∀ f c p (ν : fM), c + f = 12 → 5 * c ≤ p → MQt ν tx n (p, false) → ν.1 8 0 0 20 = nI c → ∃ ν', (∀ res, fEnds (fun zz => frun eX8_execute tX8_execute zz 92 [kR 8 0 0, kN 0, none, none] [] ν' 0 0) res → fEnds (fun zz => frun eX8_execute tX8_execute zz 34 [kR 8 0 0, kN 1, none, none] [] ν 0 0) res) ∧ (∀ e, pP tx n f p = .inl e → ν'.1 8 0 0 23 = 1 ∧ ν'.1 8 0 0 21 = nI e) ∧ (∀ l, pP tx n f p = .inr l → ν'.1 8 0 0 23 = 0 ∧ ν'.1 8 0 0 20 = nI (c + l.length) ∧ MCC ν' c l) ∧ sX' (rcP c) ν ν'
  | f, c, p, ν, e, h5, H, h20 => by
    have hn := H.1.1
    have hp : p ≤ n := H.2.2.2
    obtain ⟨ν1, r1, r2, r3, r4⟩ := g_readCommand H h20 (by omega)
    have K := cR_ok (tx := tx) hp (j := 11) (k := 0) (e := p) (by omega) (Nat.le_refl _) hp
    have stop : ∀ ν2 : fM, (∀ res, fEnds (fun zz => frun eX8_execute tX8_execute zz 64 [kR 8 0 0, kN 1, none, none] [] ν2 0 0) res → fEnds (fun zz => frun eX8_execute tX8_execute zz 34 [kR 8 0 0, kN 1, none, none] [] ν 0 0) res) → ∀ res, fEnds (fun zz => frun eX8_execute tX8_execute zz 92 [kR 8 0 0, kN 0, none, none] [] ν2 0 0) res → fEnds (fun zz => frun eX8_execute tX8_execute zz 34 [kR 8 0 0, kN 1, none, none] [] ν 0 0) res := fun ν2 S res R => S res (by
      skip
      refine fE_step (y := fun zz => frun _ _ zz 92 [kR 8 0 0, kN 0, none, none] [] _ 0 0) 6 (fun _ => rfl) ?_
      exact R
      )
    cases hq : (cR tx n p 11 0 p).2 with
    | none =>
      rw [hq] at r2
      have h3 : ν1.1 8 0 0 23 = 1 := r2.2.2.1
      have pe : pP tx n f p = .inl (cR tx n p 11 0 p).1 := by
        cases f with
        | zero =>
          obtain rfl : p = n := by omega
          rw [pP, cR_end]
        | succ f => rw [pP, hq]
      refine ⟨ν1, stop ν1 (fun res R => ?_), fun e he => ?_, (fun l hl => by rw [pe] at hl; cases hl), r4⟩
      · skip
        refine fE_call (r1) 4 (fun _ => rfl) ?_
        refine fE_neg (fun P => by change ν1.1 8 0 0 23 = 0 at P; rw [h3] at P; exact absurd P (by decide)) 3 (fun _ => rfl) ?_
        exact R
      · rw [pe] at he
        cases he
        exact ⟨h3, r2.2.1⟩
    | some q =>
      have Kq := K.2.2 q hq
      rw [hq] at r2
      have h3 : ν1.1 8 0 0 23 = 0 := r2.2.2.1
      have h1 : ν1.1 8 0 0 21 = nI (cR tx n p 11 0 p).1 := r2.2.1
      have h2 : ν1.1 8 0 0 22 = nI n := r2.1.2.1
      have S := r3 q hq
      cases f with
      | zero => omega
      | succ f =>
        have one : MCC ν1 c [q] := fun i q' hi => by
          cases i with
          | zero => cases hi; exact ⟨S.2.1, fun j v hv => S.2.2 j v hv⟩
          | succ i => cases hi
        have e0 : pP tx n (f + 1) p = (if n ≤ (cR tx n p 11 0 p).1 then .inr [q] else if tx (cR tx n p 11 0 p).1 = 59 then (match pP tx n f ((cR tx n p 11 0 p).1 + 1) with
          | .inl e => .inl e
          | .inr l => .inr (q :: l)) else .inl (cR tx n p 11 0 p).1) := by rw [pP, hq]; rfl
        by_cases a : n ≤ (cR tx n p 11 0 p).1
        · rw [if_pos a] at e0
          refine ⟨ν1, stop ν1 (fun res R => ?_), (fun e he => by rw [e0] at he; cases he), fun l hl => ?_, r4⟩
          · skip
            refine fE_call (r1) 4 (fun _ => rfl) ?_
            refine fE_pos (by exact h3) 3 (fun _ => rfl) ?_
            refine fE_pos (by show ν1.1 8 0 0 22 ≤ ν1.1 8 0 0 21; rw [h1, h2]; exact nI_le a (by omega)) 5 (fun _ => rfl) ?_
            exact R
          · rw [e0] at hl
            cases hl
            exact ⟨h3, S.1, one⟩
        · rw [if_neg a] at e0
          have ex := g_expects (c := 59) r2 (by omega)
          by_cases b : tx (cR tx n p 11 0 p).1 = 59
          · rw [if_pos b] at e0
            have es : stE tx n 59 ((cR tx n p 11 0 p).1, (some q).isNone) = ((cR tx n p 11 0 p).1 + 1, false) := if_pos ⟨rfl, by show (cR tx n p 11 0 p).1 < n; omega, b⟩
            rw [es] at ex
            have Q2 : MQt (pM ν1 ((cR tx n p 11 0 p).1 + 1, false)) tx n ((cR tx n p 11 0 p).1 + 1, false) := MQt_pM r2.1 (by show (cR tx n p 11 0 p).1 + 1 ≤ n; omega)
            have h32 : (pM ν1 ((cR tx n p 11 0 p).1 + 1, false)).1 8 0 0 23 = 0 := Q2.2.2.1
            obtain ⟨ν', s1, s2, s3, s4⟩ := g_exl (tx := tx) (n := n) f (c + 1) ((cR tx n p 11 0 p).1 + 1) _ (by omega) (by omega) Q2 (by rw [pM, fI_ne (by omega), fI_ne (by omega)]; exact S.1)
            have s4' : sX' (rcP c) (pM ν1 ((cR tx n p 11 0 p).1 + 1, false)) ν' := sX_mono s4 (fun C y h k P => by rcases P with P | P; exact Or.inl P; exact Or.inr ⟨P.1, by omega⟩)
            have fr : sX' (rcP c) ν ν' := sX_trans (sX_trans r4 (sX_mono pM_out (fun C' y h k P => Or.inl ⟨P.1, by have := P.2; omega⟩))) s4'
            have walk : ∀ res, fEnds (fun zz => frun eX8_execute tX8_execute zz 34 [kR 8 0 0, kN 1, none, none] [] (pM ν1 ((cR tx n p 11 0 p).1 + 1, false)) 0 0) res → fEnds (fun zz => frun eX8_execute tX8_execute zz 34 [kR 8 0 0, kN 1, none, none] [] ν 0 0) res := fun res R => by
              revert h32 ex R
              generalize pM ν1 ((cR tx n p 11 0 p).1 + 1, false) = ν2
              intro ex h32 R
              refine fE_call (r1) 4 (fun _ => rfl) ?_
              refine fE_pos (by exact h3) 3 (fun _ => rfl) ?_
              refine fE_neg (fun P => by change ν1.1 8 0 0 22 ≤ ν1.1 8 0 0 21 at P; rw [h1, h2] at P; have := (nI_leI (by omega) (by omega)).mp P; omega) 5 (fun _ => rfl) ?_
              refine fE_call (ex) 8 (fun _ => rfl) ?_
              refine fE_pos (by exact h32) 3 (fun _ => rfl) ?_
              refine fE_step (y := fun zz => frun _ _ zz 34 [kR 8 0 0, kN 1, none, none] [] _ 0 0) 4 (fun _ => rfl) ?_
              exact R
            cases hr : pP tx n f ((cR tx n p 11 0 p).1 + 1) with
            | inl e' =>
              rw [hr] at e0
              refine ⟨ν', fun res R => walk res (s1 res R), fun e he => ?_, (fun l hl => by rw [e0] at hl; cases hl), fr⟩
              rw [e0] at he
              cases he
              exact s2 e' hr
            | inr l' =>
              rw [hr] at e0
              refine ⟨ν', fun res R => walk res (s1 res R), (fun e he => by rw [e0] at he; cases he), fun l hl => ?_, fr⟩
              rw [e0] at hl
              cases hl
              have s := s3 l' hr
              refine ⟨s.1, by rw [s.2.1]; congr 1; show c + 1 + l'.length = c + (l'.length + 1); omega, fun i q' hi => ?_⟩
              cases i with
              | zero =>
                cases hi
                have hl3 := (sgn_len q.1 Kq.2.1).2
                exact ⟨(s4.1 39 0 0 _ (fun P => by rcases P with P | P <;> omega)).trans (pM_39.trans S.2.1), fun j v hv => (s4.1 39 0 0 _ (fun P => by
                  have hj : j < q.2.length := (List.getElem?_eq_some_iff.mp hv).1
                  have := Kq.2.2.2.1
                  rcases P with P | P <;> omega)).trans (pM_39.trans (S.2.2 j v hv))⟩
              | succ i =>
                have := s.2.2 i q' (by simpa using hi)
                rw [show c + 1 + i = c + (i + 1) from by omega] at this
                exact this
          · rw [if_neg b] at e0
            have es : stE tx n 59 ((cR tx n p 11 0 p).1, (some q).isNone) = ((cR tx n p 11 0 p).1, true) := if_neg (fun P => b P.2.2)
            rw [es] at ex
            have Q2 : MQt (pM ν1 ((cR tx n p 11 0 p).1, true)) tx n ((cR tx n p 11 0 p).1, true) := MQt_pM r2.1 r2.2.2.2
            have h32 : (pM ν1 ((cR tx n p 11 0 p).1, true)).1 8 0 0 23 = 1 := Q2.2.2.1
            refine ⟨pM ν1 ((cR tx n p 11 0 p).1, true), fun res R => ?_, fun e he => ?_, (fun l hl => by rw [e0] at hl; cases hl), sX_trans r4 (sX_mono pM_out (fun C' y h k P => Or.inl ⟨P.1, by have := P.2; omega⟩))⟩
            · revert h32 ex R
              generalize pM ν1 ((cR tx n p 11 0 p).1, true) = ν2
              intro ex h32 R
              refine fE_call (r1) 4 (fun _ => rfl) ?_
              refine fE_pos (by exact h3) 3 (fun _ => rfl) ?_
              refine fE_neg (fun P => by change ν1.1 8 0 0 22 ≤ ν1.1 8 0 0 21 at P; rw [h1, h2] at P; have := (nI_leI (by omega) (by omega)).mp P; omega) 5 (fun _ => rfl) ?_
              refine fE_call (ex) 8 (fun _ => rfl) ?_
              refine fE_neg (fun P => by change ν2.1 8 0 0 23 = 0 at P; rw [h32] at P; exact absurd P (by decide)) 3 (fun _ => rfl) ?_
              refine fE_step (y := fun zz => frun _ _ zz 92 [kR 8 0 0, kN 0, none, none] [] _ 0 0) 5 (fun _ => rfl) ?_
              exact R
            · rw [e0] at he
              cases he
              exact ⟨h32, Q2.2.1⟩
